section Kc1
def K_X2_hasPlace (fu : Nat) (r : Nat) (x1 : Int32) (x2 : Int32) (mem : Mem) : Option Int32 := (if x1 < 0 then some 0 else (if x1 < ((rd mem (pBoard r) 0) - 1) then (if x2 < 0 then some 0 else (if x2 < ((rd mem (pBoard r) 1) - 1) then some 1 else some 0)) else some 0))
def rm_X2_hasPlace : Room := { frames := 0, cells := 0, slots := 0, locals := 0 }
set_option maxHeartbeats 4000000 in
set_option maxRecDepth 100000 in
theorem ct_X2_hasPlace (l : Launch) {D : va_G} {ca ad : Nat → Nat} {Z : (Nat → Prop) → State → Heap → Prop} (hZ : ZOK Z) {tO : Nat} {sK sV : Nat → Nat} (hO : ZO Z tO sK sV) (fu : Nat) {r : Nat} (hr : r < 10) (x1 : Int32) (x2 : Int32) (mem : Mem) (res : Int32) (hF : K_X2_hasPlace fu r x1 x2 mem = some res) : CI l D (tyL ca) 255 ad (cC ca ad) Z yX2_hasPlace cX2_hasPlace 3 .boolean rm_X2_hasPlace [.ref (ad (pBoard r)), .int x1, .int x2] mem res mem := by
  refine start_i (own := RX2) rfl (by decide) (Nat.le_of_ble_eq_true rfl) ?_
  intro p e s m args below meth c Q hQ X
  rw [K_X2_hasPlace] at hF
  revert hF
  intro hF
  refine w_iload_n X 1 dX2_hasPlace_0 rfl rfl 1 rfl ?_
  refine w_if_lt X hF 32 4 dX2_hasPlace_1 (by decide) rfl (fun hF => ?_) (fun hF => ?_)
  · refine w_iconst X 0 dX2_hasPlace_32 rfl 33 rfl ?_
    exact w_iret X hQ (o_inj hF) rfl rfl dX2_hasPlace_33
  · refine w_iload_n X 1 dX2_hasPlace_4 rfl rfl 5 rfl ?_
    refine w_aload_n X 0 dX2_hasPlace_5 rfl rfl 6 rfl ?_
    refine w_getV (v := .int (rd mem (pBoard r) 0)) X (pBoard r) (lt_Board hr) ko_Board (T := TX2) (N := 5) rfl in_X2 0 (by decide) kF_X2_22 rfl rfl dX2_hasPlace_6 9 rfl ?_
    refine w_iconst X 1 dX2_hasPlace_9 rfl 10 rfl ?_
    refine w_isub X dX2_hasPlace_10 11 rfl ?_
    refine w_icmp_ge X hF 32 14 dX2_hasPlace_11 (by decide) rfl (fun hF => ?_) (fun hF => ?_)
    · refine w_iload_n X 2 dX2_hasPlace_14 rfl rfl 15 rfl ?_
      refine w_if_lt X hF 32 18 dX2_hasPlace_15 (by decide) rfl (fun hF => ?_) (fun hF => ?_)
      · refine w_iconst X 0 dX2_hasPlace_32 rfl 33 rfl ?_
        exact w_iret X hQ (o_inj hF) rfl rfl dX2_hasPlace_33
      · refine w_iload_n X 2 dX2_hasPlace_18 rfl rfl 19 rfl ?_
        refine w_aload_n X 0 dX2_hasPlace_19 rfl rfl 20 rfl ?_
        refine w_getV (v := .int (rd mem (pBoard r) 1)) X (pBoard r) (lt_Board hr) ko_Board (T := TX2) (N := 5) rfl in_X2 1 (by decide) kF_X2_26 rfl rfl dX2_hasPlace_20 23 rfl ?_
        refine w_iconst X 1 dX2_hasPlace_23 rfl 24 rfl ?_
        refine w_isub X dX2_hasPlace_24 25 rfl ?_
        refine w_icmp_ge X hF 32 28 dX2_hasPlace_25 (by decide) rfl (fun hF => ?_) (fun hF => ?_)
        · refine w_iconst X 1 dX2_hasPlace_28 rfl 29 rfl ?_
          refine w_goto X 33 dX2_hasPlace_29 (by decide) ?_
          exact w_iret X hQ (o_inj hF) rfl rfl dX2_hasPlace_33
        · refine w_iconst X 0 dX2_hasPlace_32 rfl 33 rfl ?_
          exact w_iret X hQ (o_inj hF) rfl rfl dX2_hasPlace_33
    · refine w_iconst X 0 dX2_hasPlace_32 rfl 33 rfl ?_
      exact w_iret X hQ (o_inj hF) rfl rfl dX2_hasPlace_33

def K_X2_wallOn_33 (fu : Nat) (r : Nat) (mem : Mem) (x1 : Int32) (x2 : Int32) (xs0 : Int32) : Option Int32 := (if xs0 = 0 then some (-1) else gi ((x2 * 8) + x1) 64 (some (rd mem (pBuilt r) (Int32.toNatClampNeg ((x2 * 8) + x1)))))
def K_X2_wallOn_32 (fu : Nat) (r : Nat) (mem : Mem) (x1 : Int32) (x2 : Int32) : Option Int32 := (K_X2_wallOn_33 fu r mem x1 x2 0 )
def K_X2_wallOn (fu : Nat) (r : Nat) (x1 : Int32) (x2 : Int32) (mem : Mem) : Option Int32 := (if x1 < 0 then (K_X2_wallOn_32 fu r mem x1 x2 ) else (if x1 < ((rd mem (pBoard r) 0) - 1) then (if x2 < 0 then (K_X2_wallOn_32 fu r mem x1 x2 ) else (if x2 < ((rd mem (pBoard r) 1) - 1) then (K_X2_wallOn_33 fu r mem x1 x2 1 ) else (K_X2_wallOn_32 fu r mem x1 x2 ))) else (K_X2_wallOn_32 fu r mem x1 x2 )))
def rm_X2_wallOn : Room := { frames := 0, cells := 0, slots := 0, locals := 0 }
set_option maxHeartbeats 4000000 in
set_option maxRecDepth 100000 in
theorem ct_X2_wallOn (l : Launch) {D : va_G} {ca ad : Nat → Nat} {Z : (Nat → Prop) → State → Heap → Prop} (hZ : ZOK Z) {tO : Nat} {sK sV : Nat → Nat} (hO : ZO Z tO sK sV) (fu : Nat) {r : Nat} (hr : r < 10) (x1 : Int32) (x2 : Int32) (mem : Mem) (res : Int32) (hF : K_X2_wallOn fu r x1 x2 mem = some res) : CI l D (tyL ca) 255 ad (cC ca ad) Z yX2_wallOn cX2_wallOn 4 .int rm_X2_wallOn [.ref (ad (pBoard r)), .int x1, .int x2] mem res mem := by
  refine start_i (own := RX2) rfl (by decide) (Nat.le_of_ble_eq_true rfl) ?_
  intro p e s m args below meth c Q hQ X
  rw [K_X2_wallOn] at hF
  revert hF
  have w_33 : ∀ (x1 : Int32) (x2 : Int32) (xs0 : Int32), K_X2_wallOn_33 fu r mem x1 x2 xs0 = some res → WW D 255 ad (cC ca ad) p l e rm_X2_wallOn s m args below meth c 4 0 0 Q mem 33 [(0, .ref (ad (pBoard r))), (1, .int x1), (2, .int x2)] [.int xs0] := by
    intro x1 x2 xs0 hF
    rw [K_X2_wallOn_33] at hF
    refine w_istore_n X [(3, .int xs0), (0, .ref (ad (pBoard r))), (1, .int x1), (2, .int x2)] dX2_wallOn_33 rfl (by decide) rfl 34 rfl ?_
    refine w_iload_n X 0 dX2_wallOn_34 rfl rfl 35 rfl ?_
    refine w_if_eq X hF 52 38 dX2_wallOn_35 (by decide) rfl (fun hF => ?_) (fun hF => ?_)
    · refine w_iconst X (-1) dX2_wallOn_52 rfl 53 rfl ?_
      exact w_iret X hQ (o_inj hF) rfl rfl dX2_wallOn_53
    · refine w_aload_n X 1 dX2_wallOn_38 rfl rfl 39 rfl ?_
      refine w_getV (v := .ref (ad (pBuilt r))) X (pBoard r) (lt_Board hr) ko_Board (T := TX2) (N := 5) rfl in_X2 3 (by decide) kF_X2_9 rfl rfl dX2_wallOn_39 42 rfl ?_
      refine w_iload_n X 3 dX2_wallOn_42 rfl rfl 43 rfl ?_
      refine w_bipush X 8 dX2_wallOn_43 rfl 45 rfl ?_
      refine w_imul X dX2_wallOn_45 46 rfl ?_
      refine w_iload_n X 2 dX2_wallOn_46 rfl rfl 47 rfl ?_
      refine w_iadd X dX2_wallOn_47 48 rfl ?_
      refine w_gi hF (fun h_1 hF => ?_)
      refine w_ial X (pBuilt r) (lt_Built hr) ko_Built (t0 := 0) rfl h_1 dX2_wallOn_48 49 rfl ?_
      refine w_goto X 53 dX2_wallOn_49 (by decide) ?_
      exact w_iret X hQ (o_inj hF) rfl rfl dX2_wallOn_53
  have w_32 : ∀ (x1 : Int32) (x2 : Int32), K_X2_wallOn_32 fu r mem x1 x2 = some res → WW D 255 ad (cC ca ad) p l e rm_X2_wallOn s m args below meth c 4 0 0 Q mem 32 [(0, .ref (ad (pBoard r))), (1, .int x1), (2, .int x2)] [] := by
    intro x1 x2 hF
    rw [K_X2_wallOn_32] at hF
    refine w_iconst X 0 dX2_wallOn_32 rfl 33 rfl ?_
    refine w_keep [0, 1, 2] rfl ?_
    exact w_33 x1 x2 0  hF
  intro hF
  refine w_iload_n X 1 dX2_wallOn_0 rfl rfl 1 rfl ?_
  refine w_if_lt X hF 32 4 dX2_wallOn_1 (by decide) rfl (fun hF => ?_) (fun hF => ?_)
  · refine w_keep [0, 1, 2] rfl ?_
    exact w_32 x1 x2  hF
  · refine w_iload_n X 1 dX2_wallOn_4 rfl rfl 5 rfl ?_
    refine w_aload_n X 0 dX2_wallOn_5 rfl rfl 6 rfl ?_
    refine w_getV (v := .int (rd mem (pBoard r) 0)) X (pBoard r) (lt_Board hr) ko_Board (T := TX2) (N := 5) rfl in_X2 0 (by decide) kF_X2_22 rfl rfl dX2_wallOn_6 9 rfl ?_
    refine w_iconst X 1 dX2_wallOn_9 rfl 10 rfl ?_
    refine w_isub X dX2_wallOn_10 11 rfl ?_
    refine w_icmp_ge X hF 32 14 dX2_wallOn_11 (by decide) rfl (fun hF => ?_) (fun hF => ?_)
    · refine w_iload_n X 2 dX2_wallOn_14 rfl rfl 15 rfl ?_
      refine w_if_lt X hF 32 18 dX2_wallOn_15 (by decide) rfl (fun hF => ?_) (fun hF => ?_)
      · refine w_keep [0, 1, 2] rfl ?_
        exact w_32 x1 x2  hF
      · refine w_iload_n X 2 dX2_wallOn_18 rfl rfl 19 rfl ?_
        refine w_aload_n X 0 dX2_wallOn_19 rfl rfl 20 rfl ?_
        refine w_getV (v := .int (rd mem (pBoard r) 1)) X (pBoard r) (lt_Board hr) ko_Board (T := TX2) (N := 5) rfl in_X2 1 (by decide) kF_X2_26 rfl rfl dX2_wallOn_20 23 rfl ?_
        refine w_iconst X 1 dX2_wallOn_23 rfl 24 rfl ?_
        refine w_isub X dX2_wallOn_24 25 rfl ?_
        refine w_icmp_ge X hF 32 28 dX2_wallOn_25 (by decide) rfl (fun hF => ?_) (fun hF => ?_)
        · refine w_iconst X 1 dX2_wallOn_28 rfl 29 rfl ?_
          refine w_goto X 33 dX2_wallOn_29 (by decide) ?_
          refine w_keep [0, 1, 2] rfl ?_
          exact w_33 x1 x2 1  hF
        · refine w_keep [0, 1, 2] rfl ?_
          exact w_32 x1 x2  hF
    · refine w_keep [0, 1, 2] rfl ?_
      exact w_32 x1 x2  hF

def K_X2_hasRoom (fu : Nat) (r : Nat) (x1 : Int32) (x2 : Int32) (x3 : Int32) (mem : Mem) : Option Int32 := bd (K_X2_hasPlace fu r x1 x2 mem) (fun x_1 => (if x_1 = 0 then some 0 else bd (K_X2_wallOn fu r x1 x2 mem) (fun x_2 => (if x_2 = (-1) then (if x3 = 0 then bd (K_X2_wallOn fu r (x1 - 1) x2 mem) (fun x_3 => (if x_3 = 0 then some 0 else bd (K_X2_wallOn fu r (x1 + 1) x2 mem) (fun x_4 => (if x_4 = 0 then some 0 else some 1)))) else bd (K_X2_wallOn fu r x1 (x2 - 1) mem) (fun x_5 => (if x_5 = 1 then some 0 else bd (K_X2_wallOn fu r x1 (x2 + 1) mem) (fun x_6 => (if x_6 = 1 then some 0 else some 1))))) else some 0))))
def rm_X2_hasRoom : Room := { frames := 1, cells := 0, slots := 0, locals := 23 }
set_option maxHeartbeats 4000000 in
set_option maxRecDepth 100000 in
theorem ct_X2_hasRoom (l : Launch) {D : va_G} {ca ad : Nat → Nat} {Z : (Nat → Prop) → State → Heap → Prop} (hZ : ZOK Z) {tO : Nat} {sK sV : Nat → Nat} (hO : ZO Z tO sK sV) (fu : Nat) {r : Nat} (hr : r < 10) (x1 : Int32) (x2 : Int32) (x3 : Int32) (mem : Mem) (res : Int32) (hF : K_X2_hasRoom fu r x1 x2 x3 mem = some res) : CI l D (tyL ca) 255 ad (cC ca ad) Z yX2_hasRoom cX2_hasRoom 4 .boolean rm_X2_hasRoom [.ref (ad (pBoard r)), .int x1, .int x2, .int x3] mem res mem := by
  refine start_i (own := RX2) rfl (by decide) (Nat.le_of_ble_eq_true rfl) ?_
  intro p e s m args below meth c Q hQ X
  rw [K_X2_hasRoom] at hF
  revert hF
  intro hF
  refine w_aload_n X 0 dX2_hasRoom_0 rfl rfl 1 rfl ?_
  refine w_iload_n X 1 dX2_hasRoom_1 rfl rfl 2 rfl ?_
  refine w_iload_n X 2 dX2_hasRoom_2 rfl rfl 3 rfl ?_
  refine w_callVi (fun x => x) (fun _ => mem) X hZ hF [.int x1, .int x2] (pBoard r) (lt_Board hr) ko_Board rfl rfl rfl kB_X2_hasPlace kL_X2_55 (fun res h => ct_X2_hasPlace l hZ hO fu hr x1 x2 mem res h) rfl rfl rfl ⟨Nat.le_of_ble_eq_true rfl, Nat.le_of_ble_eq_true rfl⟩ (Nat.le_of_ble_eq_true rfl) ⟨Nat.zero_le _, Nat.zero_le _⟩ dX2_hasRoom_3 6 rfl (fun x_1 hF => ?_)
  refine w_if_eq X hF 19 9 dX2_hasRoom_6 (by decide) rfl (fun hF => ?_) (fun hF => ?_)
  · refine w_iconst X 0 dX2_hasRoom_19 rfl 20 rfl ?_
    exact w_iret X hQ (o_inj hF) rfl rfl dX2_hasRoom_20
  · refine w_aload_n X 0 dX2_hasRoom_9 rfl rfl 10 rfl ?_
    refine w_iload_n X 1 dX2_hasRoom_10 rfl rfl 11 rfl ?_
    refine w_iload_n X 2 dX2_hasRoom_11 rfl rfl 12 rfl ?_
    refine w_callVi (fun x => x) (fun _ => mem) X hZ hF [.int x1, .int x2] (pBoard r) (lt_Board hr) ko_Board rfl rfl rfl kB_X2_wallOn kL_X2_58 (fun res h => ct_X2_wallOn l hZ hO fu hr x1 x2 mem res h) rfl rfl rfl ⟨Nat.le_of_ble_eq_true rfl, Nat.le_of_ble_eq_true rfl⟩ (Nat.le_of_ble_eq_true rfl) ⟨Nat.zero_le _, Nat.zero_le _⟩ dX2_hasRoom_12 15 rfl (fun x_2 hF => ?_)
    refine w_iconst X (-1) dX2_hasRoom_15 rfl 16 rfl ?_
    refine w_icmp_eq X hF 21 19 dX2_hasRoom_16 (by decide) rfl (fun hF => ?_) (fun hF => ?_)
    · refine w_iload_n X 3 dX2_hasRoom_21 rfl rfl 22 rfl ?_
      refine w_if_ne X hF 53 25 dX2_hasRoom_22 (by decide) rfl (fun hF => ?_) (fun hF => ?_)
      · refine w_aload_n X 0 dX2_hasRoom_25 rfl rfl 26 rfl ?_
        refine w_iload_n X 1 dX2_hasRoom_26 rfl rfl 27 rfl ?_
        refine w_iconst X 1 dX2_hasRoom_27 rfl 28 rfl ?_
        refine w_isub X dX2_hasRoom_28 29 rfl ?_
        refine w_iload_n X 2 dX2_hasRoom_29 rfl rfl 30 rfl ?_
        refine w_callVi (fun x => x) (fun _ => mem) X hZ hF [.int (x1 - 1), .int x2] (pBoard r) (lt_Board hr) ko_Board rfl rfl rfl kB_X2_wallOn kL_X2_58 (fun res h => ct_X2_wallOn l hZ hO fu hr (x1 - 1) x2 mem res h) rfl rfl rfl ⟨Nat.le_of_ble_eq_true rfl, Nat.le_of_ble_eq_true rfl⟩ (Nat.le_of_ble_eq_true rfl) ⟨Nat.zero_le _, Nat.zero_le _⟩ dX2_hasRoom_30 33 rfl (fun x_3 hF => ?_)
        refine w_if_eq X hF 51 36 dX2_hasRoom_33 (by decide) rfl (fun hF => ?_) (fun hF => ?_)
        · refine w_iconst X 0 dX2_hasRoom_51 rfl 52 rfl ?_
          exact w_iret X hQ (o_inj hF) rfl rfl dX2_hasRoom_52
        · refine w_aload_n X 0 dX2_hasRoom_36 rfl rfl 37 rfl ?_
          refine w_iload_n X 1 dX2_hasRoom_37 rfl rfl 38 rfl ?_
          refine w_iconst X 1 dX2_hasRoom_38 rfl 39 rfl ?_
          refine w_iadd X dX2_hasRoom_39 40 rfl ?_
          refine w_iload_n X 2 dX2_hasRoom_40 rfl rfl 41 rfl ?_
          refine w_callVi (fun x => x) (fun _ => mem) X hZ hF [.int (x1 + 1), .int x2] (pBoard r) (lt_Board hr) ko_Board rfl rfl rfl kB_X2_wallOn kL_X2_58 (fun res h => ct_X2_wallOn l hZ hO fu hr (x1 + 1) x2 mem res h) rfl rfl rfl ⟨Nat.le_of_ble_eq_true rfl, Nat.le_of_ble_eq_true rfl⟩ (Nat.le_of_ble_eq_true rfl) ⟨Nat.zero_le _, Nat.zero_le _⟩ dX2_hasRoom_41 44 rfl (fun x_4 hF => ?_)
          refine w_if_eq X hF 51 47 dX2_hasRoom_44 (by decide) rfl (fun hF => ?_) (fun hF => ?_)
          · refine w_iconst X 0 dX2_hasRoom_51 rfl 52 rfl ?_
            exact w_iret X hQ (o_inj hF) rfl rfl dX2_hasRoom_52
          · refine w_iconst X 1 dX2_hasRoom_47 rfl 48 rfl ?_
            refine w_goto X 52 dX2_hasRoom_48 (by decide) ?_
            exact w_iret X hQ (o_inj hF) rfl rfl dX2_hasRoom_52
      · refine w_aload_n X 0 dX2_hasRoom_53 rfl rfl 54 rfl ?_
        refine w_iload_n X 1 dX2_hasRoom_54 rfl rfl 55 rfl ?_
        refine w_iload_n X 2 dX2_hasRoom_55 rfl rfl 56 rfl ?_
        refine w_iconst X 1 dX2_hasRoom_56 rfl 57 rfl ?_
        refine w_isub X dX2_hasRoom_57 58 rfl ?_
        refine w_callVi (fun x => x) (fun _ => mem) X hZ hF [.int x1, .int (x2 - 1)] (pBoard r) (lt_Board hr) ko_Board rfl rfl rfl kB_X2_wallOn kL_X2_58 (fun res h => ct_X2_wallOn l hZ hO fu hr x1 (x2 - 1) mem res h) rfl rfl rfl ⟨Nat.le_of_ble_eq_true rfl, Nat.le_of_ble_eq_true rfl⟩ (Nat.le_of_ble_eq_true rfl) ⟨Nat.zero_le _, Nat.zero_le _⟩ dX2_hasRoom_58 61 rfl (fun x_5 hF => ?_)
        refine w_iconst X 1 dX2_hasRoom_61 rfl 62 rfl ?_
        refine w_icmp_eq X hF 81 65 dX2_hasRoom_62 (by decide) rfl (fun hF => ?_) (fun hF => ?_)
        · refine w_iconst X 0 dX2_hasRoom_81 rfl 82 rfl ?_
          exact w_iret X hQ (o_inj hF) rfl rfl dX2_hasRoom_82
        · refine w_aload_n X 0 dX2_hasRoom_65 rfl rfl 66 rfl ?_
          refine w_iload_n X 1 dX2_hasRoom_66 rfl rfl 67 rfl ?_
          refine w_iload_n X 2 dX2_hasRoom_67 rfl rfl 68 rfl ?_
          refine w_iconst X 1 dX2_hasRoom_68 rfl 69 rfl ?_
          refine w_iadd X dX2_hasRoom_69 70 rfl ?_
          refine w_callVi (fun x => x) (fun _ => mem) X hZ hF [.int x1, .int (x2 + 1)] (pBoard r) (lt_Board hr) ko_Board rfl rfl rfl kB_X2_wallOn kL_X2_58 (fun res h => ct_X2_wallOn l hZ hO fu hr x1 (x2 + 1) mem res h) rfl rfl rfl ⟨Nat.le_of_ble_eq_true rfl, Nat.le_of_ble_eq_true rfl⟩ (Nat.le_of_ble_eq_true rfl) ⟨Nat.zero_le _, Nat.zero_le _⟩ dX2_hasRoom_70 73 rfl (fun x_6 hF => ?_)
          refine w_iconst X 1 dX2_hasRoom_73 rfl 74 rfl ?_
          refine w_icmp_eq X hF 81 77 dX2_hasRoom_74 (by decide) rfl (fun hF => ?_) (fun hF => ?_)
          · refine w_iconst X 0 dX2_hasRoom_81 rfl 82 rfl ?_
            exact w_iret X hQ (o_inj hF) rfl rfl dX2_hasRoom_82
          · refine w_iconst X 1 dX2_hasRoom_77 rfl 78 rfl ?_
            refine w_goto X 82 dX2_hasRoom_78 (by decide) ?_
            exact w_iret X hQ (o_inj hF) rfl rfl dX2_hasRoom_82
    · refine w_iconst X 0 dX2_hasRoom_19 rfl 20 rfl ?_
      exact w_iret X hQ (o_inj hF) rfl rfl dX2_hasRoom_20

def K_X2_toggleSteps_25 (fu : Nat) (r : Nat) : Nat → Int32 → Int32 → Int32 → Int32 → Mem → Option Mem
  | 0, _, _, _, _, _ => none
  | n + 1, x1, x3, x4, x5, mem => (if x5 < 2 then lt_ (x1 + (x5 * x4)) (fun x_1 => gi x3 4 (lt_ (x_1 + (offV (Int32.toNatClampNeg x3))) (fun x_3 => (if x_1 < 0 then (K_X2_toggleSteps_25 fu r n x1 x3 x4 (x5 + 1) mem) else (if x_3 < 81 then gi x_1 81 (gi x_1 81 (lt_ (mw mem (pOpen r) (Int32.toNatClampNeg x_1) ((rd mem (pOpen r) (Int32.toNatClampNeg x_1)) ^^^ (1 <<< (x3 &&& 31)))) (fun m_6 => gi x_3 81 (gi x_3 81 (lt_ (mw m_6 (pOpen r) (Int32.toNatClampNeg x_3) ((rd m_6 (pOpen r) (Int32.toNatClampNeg x_3)) ^^^ (1 <<< ((x3 ^^^ 2) &&& 31)))) (fun m_9 => (K_X2_toggleSteps_25 fu r n x1 x3 x4 (x5 + 1) m_9))))))) else (K_X2_toggleSteps_25 fu r n x1 x3 x4 (x5 + 1) mem)))))) else some mem)
def K_X2_toggleSteps_20 (fu : Nat) (r : Nat) (x1 : Int32) (x3 : Int32) (xs0 : Int32) (mem : Mem) : Option Mem := (K_X2_toggleSteps_25 fu r fu x1 x3 xs0 0 mem)
def K_X2_toggleSteps_9 (fu : Nat) (r : Nat) (x1 : Int32) (x2 : Int32) (xs0 : Int32) (mem : Mem) : Option Mem := (if x2 = 0 then (K_X2_toggleSteps_20 fu r x1 xs0 1 mem) else (K_X2_toggleSteps_20 fu r x1 xs0 9 mem))
def K_X2_toggleSteps (fu : Nat) (r : Nat) (x1 : Int32) (x2 : Int32) (mem : Mem) : Option Mem := (if x2 = 0 then (K_X2_toggleSteps_9 fu r x1 x2 0 mem) else (K_X2_toggleSteps_9 fu r x1 x2 1 mem))
def rm_X2_toggleSteps : Room := { frames := 0, cells := 0, slots := 0, locals := 0 }
set_option maxHeartbeats 4000000 in
set_option maxRecDepth 100000 in
theorem ct_X2_toggleSteps (l : Launch) {D : va_G} {ca ad : Nat → Nat} {Z : (Nat → Prop) → State → Heap → Prop} (hZ : ZOK Z) {tO : Nat} {sK sV : Nat → Nat} (hO : ZO Z tO sK sV) (fu : Nat) {r : Nat} (hr : r < 10) (x1 : Int32) (x2 : Int32) (mem : Mem) (res : Mem) (hF : K_X2_toggleSteps fu r x1 x2 mem = some res) : CV l D (tyL ca) 255 ad (cC ca ad) Z yX2_toggleSteps cX2_toggleSteps 8 rm_X2_toggleSteps [.ref (ad (pBoard r)), .int x1, .int x2] mem res := by
  refine start_v (own := RX2) rfl (by decide) (Nat.le_of_ble_eq_true rfl) ?_
  intro p e s m args below meth c Q hQ X
  rw [K_X2_toggleSteps] at hF
  revert hF
  have w_25 : ∀ (n : Nat) (x1 : Int32) (x3 : Int32) (x4 : Int32) (x5 : Int32) (mem : Mem), K_X2_toggleSteps_25 fu r n x1 x3 x4 x5 mem = some res → WW D 255 ad (cC ca ad) p l e rm_X2_toggleSteps s m args below meth c 8 0 0 Q mem 25 [(0, .ref (ad (pBoard r))), (1, .int x1), (3, .int x3), (4, .int x4), (5, .int x5)] [] := by
    intro n
    induction n with
    | zero => intro x1 x3 x4 x5 mem hF; exact no_none (show (none : Option Mem) = some res from hF)
    | succ n ih =>
      intro x1 x3 x4 x5 mem hF
      rw [K_X2_toggleSteps_25] at hF
      refine w_iload X 4 dX2_toggleSteps_25 rfl 27 rfl ?_
      refine w_iconst X 2 dX2_toggleSteps_27 rfl 28 rfl ?_
      refine w_icmp_ge X hF 96 31 dX2_toggleSteps_28 (by decide) rfl (fun hF => ?_) (fun hF => ?_)
      · refine w_iload_n X 1 dX2_toggleSteps_31 rfl rfl 32 rfl ?_
        refine w_iload X 4 dX2_toggleSteps_32 rfl 34 rfl ?_
        refine w_iload X 3 dX2_toggleSteps_34 rfl 36 rfl ?_
        refine w_imul X dX2_toggleSteps_36 37 rfl ?_
        refine w_iadd X dX2_toggleSteps_37 38 rfl ?_
        refine w_let hF (fun x_1 hF => ?_)
        refine w_istore X [(6, .int x_1), (0, .ref (ad (pBoard r))), (1, .int x1), (3, .int x3), (4, .int x4), (5, .int x5)] dX2_toggleSteps_38 (by decide) rfl 40 rfl ?_
        refine w_iload X 0 dX2_toggleSteps_40 rfl 42 rfl ?_
        refine w_offs X hO (hO _ _ _ X.2.2.2.2.2).1.2.2.2.1 dX2_toggleSteps_42 45 rfl ?_
        refine w_iload_n X 3 dX2_toggleSteps_45 rfl rfl 46 rfl ?_
        refine w_gi hF (fun h_2 hF => ?_)
        refine w_offl X hO h_2 dX2_toggleSteps_46 47 rfl ?_
        refine w_iadd X dX2_toggleSteps_47 48 rfl ?_
        refine w_let hF (fun x_3 hF => ?_)
        refine w_istore X [(7, .int x_3), (6, .int x_1), (0, .ref (ad (pBoard r))), (1, .int x1), (3, .int x3), (4, .int x4), (5, .int x5)] dX2_toggleSteps_48 (by decide) rfl 50 rfl ?_
        refine w_iload X 1 dX2_toggleSteps_50 rfl 52 rfl ?_
        refine w_if_lt X hF 90 55 dX2_toggleSteps_52 (by decide) rfl (fun hF => ?_) (fun hF => ?_)
        · refine w_iinc X 6 (x5 + 1) [(5, .int (x5 + 1)), (7, .int x_3), (6, .int x_1), (0, .ref (ad (pBoard r))), (1, .int x1), (3, .int x3), (4, .int x4)] dX2_toggleSteps_90 rfl rfl (by decide) rfl 93 rfl ?_
          refine w_goto X 25 dX2_toggleSteps_93 (by decide) ?_
          refine w_keep [3, 4, 5, 6, 0] rfl ?_
          exact ih x1 x3 x4 (x5 + 1) mem hF
        · refine w_iload X 0 dX2_toggleSteps_55 rfl 57 rfl ?_
          refine w_bipush X 81 dX2_toggleSteps_57 rfl 59 rfl ?_
          refine w_icmp_ge X hF 90 62 dX2_toggleSteps_59 (by decide) rfl (fun hF => ?_) (fun hF => ?_)
          · refine w_aload_n X 2 dX2_toggleSteps_62 rfl rfl 63 rfl ?_
            refine w_getV (v := .ref (ad (pOpen r))) X (pBoard r) (lt_Board hr) ko_Board (T := TX2) (N := 5) rfl in_X2 4 (by decide) kF_X2_15 rfl rfl dX2_toggleSteps_63 66 rfl ?_
            refine w_iload X 1 dX2_toggleSteps_66 rfl 68 rfl ?_
            refine w_dup2 X dX2_toggleSteps_68 rfl rfl 69 rfl ?_
            refine w_gi hF (fun h_4 hF => ?_)
            refine w_ial X (pOpen r) (lt_Open hr) ko_Open (t0 := 0) rfl h_4 dX2_toggleSteps_69 70 rfl ?_
            refine w_iconst X 1 dX2_toggleSteps_70 rfl 71 rfl ?_
            refine w_iload_n X 4 dX2_toggleSteps_71 rfl rfl 72 rfl ?_
            refine w_ishl X dX2_toggleSteps_72 73 rfl ?_
            refine w_ixor X dX2_toggleSteps_73 74 rfl ?_
            refine w_gi hF (fun h_5 hF => ?_)
            refine w_ias X (pOpen r) (lt_Open hr) ko_Open (t0 := 0) rfl h_5 dX2_toggleSteps_74 75 rfl ?_
            refine w_letm hF (fun m_6 hF => ?_)
            refine w_aload_n X 2 dX2_toggleSteps_75 rfl rfl 76 rfl ?_
            refine w_getV (v := .ref (ad (pOpen r))) X (pBoard r) (lt_Board hr) ko_Board (T := TX2) (N := 5) rfl in_X2 4 (by decide) kF_X2_15 rfl rfl dX2_toggleSteps_76 79 rfl ?_
            refine w_iload X 0 dX2_toggleSteps_79 rfl 81 rfl ?_
            refine w_dup2 X dX2_toggleSteps_81 rfl rfl 82 rfl ?_
            refine w_gi hF (fun h_7 hF => ?_)
            refine w_ial X (pOpen r) (lt_Open hr) ko_Open (t0 := 0) rfl h_7 dX2_toggleSteps_82 83 rfl ?_
            refine w_iconst X 1 dX2_toggleSteps_83 rfl 84 rfl ?_
            refine w_iload_n X 4 dX2_toggleSteps_84 rfl rfl 85 rfl ?_
            refine w_iconst X 2 dX2_toggleSteps_85 rfl 86 rfl ?_
            refine w_ixor X dX2_toggleSteps_86 87 rfl ?_
            refine w_ishl X dX2_toggleSteps_87 88 rfl ?_
            refine w_ixor X dX2_toggleSteps_88 89 rfl ?_
            refine w_gi hF (fun h_8 hF => ?_)
            refine w_ias X (pOpen r) (lt_Open hr) ko_Open (t0 := 0) rfl h_8 dX2_toggleSteps_89 90 rfl ?_
            refine w_letm hF (fun m_9 hF => ?_)
            refine w_iinc X 6 (x5 + 1) [(5, .int (x5 + 1)), (7, .int x_3), (6, .int x_1), (0, .ref (ad (pBoard r))), (1, .int x1), (3, .int x3), (4, .int x4)] dX2_toggleSteps_90 rfl rfl (by decide) rfl 93 rfl ?_
            refine w_goto X 25 dX2_toggleSteps_93 (by decide) ?_
            refine w_keep [3, 4, 5, 6, 0] rfl ?_
            exact ih x1 x3 x4 (x5 + 1) m_9 hF
          · refine w_iinc X 6 (x5 + 1) [(5, .int (x5 + 1)), (7, .int x_3), (6, .int x_1), (0, .ref (ad (pBoard r))), (1, .int x1), (3, .int x3), (4, .int x4)] dX2_toggleSteps_90 rfl rfl (by decide) rfl 93 rfl ?_
            refine w_goto X 25 dX2_toggleSteps_93 (by decide) ?_
            refine w_keep [3, 4, 5, 6, 0] rfl ?_
            exact ih x1 x3 x4 (x5 + 1) mem hF
      · exact w_vret X hQ (o_inj hF) dX2_toggleSteps_96
  have w_20 : ∀ (x1 : Int32) (x3 : Int32) (xs0 : Int32) (mem : Mem), K_X2_toggleSteps_20 fu r x1 x3 xs0 mem = some res → WW D 255 ad (cC ca ad) p l e rm_X2_toggleSteps s m args below meth c 8 0 0 Q mem 20 [(0, .ref (ad (pBoard r))), (1, .int x1), (3, .int x3)] [.int xs0] := by
    intro x1 x3 xs0 mem hF
    rw [K_X2_toggleSteps_20] at hF
    refine w_istore X [(4, .int xs0), (0, .ref (ad (pBoard r))), (1, .int x1), (3, .int x3)] dX2_toggleSteps_20 (by decide) rfl 22 rfl ?_
    refine w_iconst X 0 dX2_toggleSteps_22 rfl 23 rfl ?_
    refine w_istore X [(5, .int 0), (4, .int xs0), (0, .ref (ad (pBoard r))), (1, .int x1), (3, .int x3)] dX2_toggleSteps_23 (by decide) rfl 25 rfl ?_
    refine w_keep [2, 3, 4, 1, 0] rfl ?_
    exact w_25 fu x1 x3 xs0 0 mem hF
  have w_9 : ∀ (x1 : Int32) (x2 : Int32) (xs0 : Int32) (mem : Mem), K_X2_toggleSteps_9 fu r x1 x2 xs0 mem = some res → WW D 255 ad (cC ca ad) p l e rm_X2_toggleSteps s m args below meth c 8 0 0 Q mem 9 [(0, .ref (ad (pBoard r))), (1, .int x1), (2, .int x2)] [.int xs0] := by
    intro x1 x2 xs0 mem hF
    rw [K_X2_toggleSteps_9] at hF
    refine w_istore_n X [(3, .int xs0), (0, .ref (ad (pBoard r))), (1, .int x1), (2, .int x2)] dX2_toggleSteps_9 rfl (by decide) rfl 10 rfl ?_
    refine w_iload_n X 3 dX2_toggleSteps_10 rfl rfl 11 rfl ?_
    refine w_if_ne X hF 18 14 dX2_toggleSteps_11 (by decide) rfl (fun hF => ?_) (fun hF => ?_)
    · refine w_iconst X 1 dX2_toggleSteps_14 rfl 15 rfl ?_
      refine w_goto X 20 dX2_toggleSteps_15 (by decide) ?_
      refine w_keep [1, 2, 0] rfl ?_
      exact w_20 x1 xs0 1 mem hF
    · refine w_bipush X 9 dX2_toggleSteps_18 rfl 20 rfl ?_
      refine w_keep [1, 2, 0] rfl ?_
      exact w_20 x1 xs0 9 mem hF
  intro hF
  refine w_iload_n X 2 dX2_toggleSteps_0 rfl rfl 1 rfl ?_
  refine w_if_ne X hF 8 4 dX2_toggleSteps_1 (by decide) rfl (fun hF => ?_) (fun hF => ?_)
  · refine w_iconst X 0 dX2_toggleSteps_4 rfl 5 rfl ?_
    refine w_goto X 9 dX2_toggleSteps_5 (by decide) ?_
    refine w_keep [0, 1, 2] rfl ?_
    exact w_9 x1 x2 0 mem hF
  · refine w_iconst X 1 dX2_toggleSteps_8 rfl 9 rfl ?_
    refine w_keep [0, 1, 2] rfl ?_
    exact w_9 x1 x2 1 mem hF

def K_X2_raise (fu : Nat) (r : Nat) (x1 : Int32) (x2 : Int32) (x3 : Int32) (mem : Mem) : Option Mem := bd (K_X2_hasPlace fu r x1 x2 mem) (fun x_1 => (if x_1 = 0 then some mem else gi ((x2 * 8) + x1) 64 (lt_ (mw mem (pBuilt r) (Int32.toNatClampNeg ((x2 * 8) + x1)) x3) (fun m_3 => lt_ (mw m_3 (pBoard r) 2 ((rd m_3 (pBoard r) 2) + 1)) (fun m_4 => bd (K_X2_toggleSteps fu r ((x2 * 9) + x1) x3 m_4) (fun m_5 => some m_5))))))
def rm_X2_raise : Room := { frames := 1, cells := 0, slots := 0, locals := 27 }
set_option maxHeartbeats 4000000 in
set_option maxRecDepth 100000 in
theorem ct_X2_raise (l : Launch) {D : va_G} {ca ad : Nat → Nat} {Z : (Nat → Prop) → State → Heap → Prop} (hZ : ZOK Z) {tO : Nat} {sK sV : Nat → Nat} (hO : ZO Z tO sK sV) (fu : Nat) {r : Nat} (hr : r < 10) (x1 : Int32) (x2 : Int32) (x3 : Int32) (mem : Mem) (res : Mem) (hF : K_X2_raise fu r x1 x2 x3 mem = some res) : CV l D (tyL ca) 255 ad (cC ca ad) Z yX2_raise cX2_raise 4 rm_X2_raise [.ref (ad (pBoard r)), .int x1, .int x2, .int x3] mem res := by
  refine start_v (own := RX2) rfl (by decide) (Nat.le_of_ble_eq_true rfl) ?_
  intro p e s m args below meth c Q hQ X
  rw [K_X2_raise] at hF
  revert hF
  intro hF
  refine w_aload_n X 0 dX2_raise_0 rfl rfl 1 rfl ?_
  refine w_iload_n X 1 dX2_raise_1 rfl rfl 2 rfl ?_
  refine w_iload_n X 2 dX2_raise_2 rfl rfl 3 rfl ?_
  refine w_callVi (fun x => x) (fun _ => mem) X hZ hF [.int x1, .int x2] (pBoard r) (lt_Board hr) ko_Board rfl rfl rfl kB_X2_hasPlace kL_X2_55 (fun res h => ct_X2_hasPlace l hZ hO fu hr x1 x2 mem res h) rfl rfl rfl ⟨Nat.le_of_ble_eq_true rfl, Nat.le_of_ble_eq_true rfl⟩ (Nat.le_of_ble_eq_true rfl) ⟨Nat.zero_le _, Nat.zero_le _⟩ dX2_raise_3 6 rfl (fun x_1 hF => ?_)
  refine w_if_eq X hF 42 9 dX2_raise_6 (by decide) rfl (fun hF => ?_) (fun hF => ?_)
  · exact w_vret X hQ (o_inj hF) dX2_raise_42
  · refine w_aload_n X 0 dX2_raise_9 rfl rfl 10 rfl ?_
    refine w_getV (v := .ref (ad (pBuilt r))) X (pBoard r) (lt_Board hr) ko_Board (T := TX2) (N := 5) rfl in_X2 3 (by decide) kF_X2_9 rfl rfl dX2_raise_10 13 rfl ?_
    refine w_iload_n X 2 dX2_raise_13 rfl rfl 14 rfl ?_
    refine w_bipush X 8 dX2_raise_14 rfl 16 rfl ?_
    refine w_imul X dX2_raise_16 17 rfl ?_
    refine w_iload_n X 1 dX2_raise_17 rfl rfl 18 rfl ?_
    refine w_iadd X dX2_raise_18 19 rfl ?_
    refine w_iload_n X 3 dX2_raise_19 rfl rfl 20 rfl ?_
    refine w_gi hF (fun h_2 hF => ?_)
    refine w_ias X (pBuilt r) (lt_Built hr) ko_Built (t0 := 0) rfl h_2 dX2_raise_20 21 rfl ?_
    refine w_letm hF (fun m_3 hF => ?_)
    refine w_aload_n X 0 dX2_raise_21 rfl rfl 22 rfl ?_
    refine w_dup X dX2_raise_22 rfl 23 rfl ?_
    refine w_getV (v := .int (rd m_3 (pBoard r) 2)) X (pBoard r) (lt_Board hr) ko_Board (T := TX2) (N := 5) rfl in_X2 2 (by decide) kF_X2_29 rfl rfl dX2_raise_23 26 rfl ?_
    refine w_iconst X 1 dX2_raise_26 rfl 27 rfl ?_
    refine w_iadd X dX2_raise_27 28 rfl ?_
    refine w_putI X (pBoard r) (lt_Board hr) ko_Board (T := TX2) (N := 5) rfl in_X2 tyX2 tyX2_ok nmX2 2 (by decide) kF_X2_29 rfl rfl rfl rfl (Nat.le_of_ble_eq_true rfl) rfl dX2_raise_28 31 rfl ?_
    refine w_letm hF (fun m_4 hF => ?_)
    refine w_aload_n X 0 dX2_raise_31 rfl rfl 32 rfl ?_
    refine w_iload_n X 2 dX2_raise_32 rfl rfl 33 rfl ?_
    refine w_bipush X 9 dX2_raise_33 rfl 35 rfl ?_
    refine w_imul X dX2_raise_35 36 rfl ?_
    refine w_iload_n X 1 dX2_raise_36 rfl rfl 37 rfl ?_
    refine w_iadd X dX2_raise_37 38 rfl ?_
    refine w_iload_n X 3 dX2_raise_38 rfl rfl 39 rfl ?_
    refine w_callVv (fun m => m) X hZ hF [.int ((x2 * 9) + x1), .int x3] (pBoard r) (lt_Board hr) ko_Board rfl rfl rfl kB_X2_toggleSteps kL_X2_61 (fun res h => ct_X2_toggleSteps l hZ hO fu hr ((x2 * 9) + x1) x3 m_4 res h) rfl rfl rfl ⟨Nat.le_of_ble_eq_true rfl, Nat.le_of_ble_eq_true rfl⟩ (Nat.le_of_ble_eq_true rfl) ⟨Nat.zero_le _, Nat.zero_le _⟩ dX2_raise_39 42 rfl (fun m_5 hF => ?_)
    exact w_vret X hQ (o_inj hF) dX2_raise_42

def K_X5_cutsTrail_72 (fu : Nat) (mem : Mem) (x6 : Int32) (xs0 : Int32) : Option Int32 := (if ((x6 ||| xs0) &&& 1) = 0 then some 0 else some 1)
def K_X5_cutsTrail_39 (fu : Nat) (mem : Mem) (x4 : Int32) (x5 : Int32) (xs0 : Int32) : Option Int32 := (if x4 = 0 then gi (x5 + 1) 324 ((K_X5_cutsTrail_72 fu mem xs0 ((rd mem 18 (Int32.toNatClampNeg (x5 + 1))) >>> (0 &&& 31)) )) else gi (x5 + 9) 324 ((K_X5_cutsTrail_72 fu mem xs0 ((rd mem 18 (Int32.toNatClampNeg (x5 + 9))) >>> (1 &&& 31)) )))
def K_X5_cutsTrail (fu : Nat) (x1 : Int32) (x2 : Int32) (x3 : Int32) (x4 : Int32) (mem : Mem) : Option Int32 := lt_ (((x1 * 81) + (x3 * 9)) + x2) (fun x_1 => (if x4 = 0 then gi x_1 324 ((K_X5_cutsTrail_39 fu mem x4 x_1 ((rd mem 18 (Int32.toNatClampNeg x_1)) >>> (0 &&& 31)) )) else gi x_1 324 ((K_X5_cutsTrail_39 fu mem x4 x_1 ((rd mem 18 (Int32.toNatClampNeg x_1)) >>> (1 &&& 31)) ))))
def rm_X5_cutsTrail : Room := { frames := 0, cells := 0, slots := 0, locals := 0 }
set_option maxHeartbeats 4000000 in
set_option maxRecDepth 100000 in
theorem ct_X5_cutsTrail (l : Launch) {D : va_G} {ca ad : Nat → Nat} {Z : (Nat → Prop) → State → Heap → Prop} (hZ : ZOK Z) {tO : Nat} {sK sV : Nat → Nat} (hO : ZO Z tO sK sV) (fu : Nat) (x1 : Int32) (x2 : Int32) (x3 : Int32) (x4 : Int32) (mem : Mem) (res : Int32) (hF : K_X5_cutsTrail fu x1 x2 x3 x4 mem = some res) : CI l D (tyL ca) 255 ad (cC ca ad) Z yX5_cutsTrail cX5_cutsTrail 8 .boolean rm_X5_cutsTrail [.ref (ad 17), .int x1, .int x2, .int x3, .int x4] mem res mem := by
  refine start_i (own := RX5) rfl (by decide) (Nat.le_of_ble_eq_true rfl) ?_
  intro p e s m args below meth c Q hQ X
  rw [K_X5_cutsTrail] at hF
  revert hF
  have w_72 : ∀ (x6 : Int32) (xs0 : Int32), K_X5_cutsTrail_72 fu mem x6 xs0 = some res → WW D 255 ad (cC ca ad) p l e rm_X5_cutsTrail s m args below meth c 8 0 0 Q mem 72 [(6, .int x6)] [.int xs0] := by
    intro x6 xs0 hF
    rw [K_X5_cutsTrail_72] at hF
    refine w_istore X [(7, .int xs0), (6, .int x6)] dX5_cutsTrail_72 (by decide) rfl 74 rfl ?_
    refine w_iload X 1 dX5_cutsTrail_74 rfl 76 rfl ?_
    refine w_iload X 0 dX5_cutsTrail_76 rfl 78 rfl ?_
    refine w_ior X dX5_cutsTrail_78 79 rfl ?_
    refine w_iconst X 1 dX5_cutsTrail_79 rfl 80 rfl ?_
    refine w_iand X dX5_cutsTrail_80 81 rfl ?_
    refine w_if_eq X hF 88 84 dX5_cutsTrail_81 (by decide) rfl (fun hF => ?_) (fun hF => ?_)
    · refine w_iconst X 0 dX5_cutsTrail_88 rfl 89 rfl ?_
      exact w_iret X hQ (o_inj hF) rfl rfl dX5_cutsTrail_89
    · refine w_iconst X 1 dX5_cutsTrail_84 rfl 85 rfl ?_
      refine w_goto X 89 dX5_cutsTrail_85 (by decide) ?_
      exact w_iret X hQ (o_inj hF) rfl rfl dX5_cutsTrail_89
  have w_39 : ∀ (x4 : Int32) (x5 : Int32) (xs0 : Int32), K_X5_cutsTrail_39 fu mem x4 x5 xs0 = some res → WW D 255 ad (cC ca ad) p l e rm_X5_cutsTrail s m args below meth c 8 0 0 Q mem 39 [(0, .ref (ad 17)), (4, .int x4), (5, .int x5)] [.int xs0] := by
    intro x4 x5 xs0 hF
    rw [K_X5_cutsTrail_39] at hF
    refine w_istore X [(6, .int xs0), (0, .ref (ad 17)), (4, .int x4), (5, .int x5)] dX5_cutsTrail_39 (by decide) rfl 41 rfl ?_
    refine w_iload X 2 dX5_cutsTrail_41 rfl 43 rfl ?_
    refine w_if_ne X hF 60 46 dX5_cutsTrail_43 (by decide) rfl (fun hF => ?_) (fun hF => ?_)
    · refine w_aload_n X 1 dX5_cutsTrail_46 rfl rfl 47 rfl ?_
      refine w_getV (v := .ref (ad 18)) X 17 plt_17 ko_17 (T := TX5) (N := 7) rfl in_X5 1 (by decide) kF_X5_18 rfl rfl dX5_cutsTrail_47 50 rfl ?_
      refine w_iload X 3 dX5_cutsTrail_50 rfl 52 rfl ?_
      refine w_iconst X 1 dX5_cutsTrail_52 rfl 53 rfl ?_
      refine w_iadd X dX5_cutsTrail_53 54 rfl ?_
      refine w_gi hF (fun h_4 hF => ?_)
      refine w_ial X 18 plt_18 ko_18 (t0 := 0) rfl h_4 dX5_cutsTrail_54 55 rfl ?_
      refine w_iconst X 0 dX5_cutsTrail_55 rfl 56 rfl ?_
      refine w_ishr X dX5_cutsTrail_56 57 rfl ?_
      refine w_goto X 72 dX5_cutsTrail_57 (by decide) ?_
      refine w_keep [0] rfl ?_
      exact w_72 xs0 ((rd mem 18 (Int32.toNatClampNeg (x5 + 1))) >>> (0 &&& 31))  hF
    · refine w_aload_n X 1 dX5_cutsTrail_60 rfl rfl 61 rfl ?_
      refine w_getV (v := .ref (ad 18)) X 17 plt_17 ko_17 (T := TX5) (N := 7) rfl in_X5 1 (by decide) kF_X5_18 rfl rfl dX5_cutsTrail_61 64 rfl ?_
      refine w_iload X 3 dX5_cutsTrail_64 rfl 66 rfl ?_
      refine w_bipush X 9 dX5_cutsTrail_66 rfl 68 rfl ?_
      refine w_iadd X dX5_cutsTrail_68 69 rfl ?_
      refine w_gi hF (fun h_5 hF => ?_)
      refine w_ial X 18 plt_18 ko_18 (t0 := 0) rfl h_5 dX5_cutsTrail_69 70 rfl ?_
      refine w_iconst X 1 dX5_cutsTrail_70 rfl 71 rfl ?_
      refine w_ishr X dX5_cutsTrail_71 72 rfl ?_
      refine w_keep [0] rfl ?_
      exact w_72 xs0 ((rd mem 18 (Int32.toNatClampNeg (x5 + 9))) >>> (1 &&& 31))  hF
  intro hF
  refine w_iload_n X 1 dX5_cutsTrail_0 rfl rfl 1 rfl ?_
  refine w_bipush X 81 dX5_cutsTrail_1 rfl 3 rfl ?_
  refine w_imul X dX5_cutsTrail_3 4 rfl ?_
  refine w_iload_n X 3 dX5_cutsTrail_4 rfl rfl 5 rfl ?_
  refine w_bipush X 9 dX5_cutsTrail_5 rfl 7 rfl ?_
  refine w_imul X dX5_cutsTrail_7 8 rfl ?_
  refine w_iadd X dX5_cutsTrail_8 9 rfl ?_
  refine w_iload_n X 2 dX5_cutsTrail_9 rfl rfl 10 rfl ?_
  refine w_iadd X dX5_cutsTrail_10 11 rfl ?_
  refine w_let hF (fun x_1 hF => ?_)
  refine w_istore X [(5, .int x_1), (0, .ref (ad 17)), (1, .int x1), (2, .int x2), (3, .int x3), (4, .int x4)] dX5_cutsTrail_11 (by decide) rfl 13 rfl ?_
  refine w_iload X 5 dX5_cutsTrail_13 rfl 15 rfl ?_
  refine w_if_ne X hF 30 18 dX5_cutsTrail_15 (by decide) rfl (fun hF => ?_) (fun hF => ?_)
  · refine w_aload_n X 1 dX5_cutsTrail_18 rfl rfl 19 rfl ?_
    refine w_getV (v := .ref (ad 18)) X 17 plt_17 ko_17 (T := TX5) (N := 7) rfl in_X5 1 (by decide) kF_X5_18 rfl rfl dX5_cutsTrail_19 22 rfl ?_
    refine w_iload X 0 dX5_cutsTrail_22 rfl 24 rfl ?_
    refine w_gi hF (fun h_2 hF => ?_)
    refine w_ial X 18 plt_18 ko_18 (t0 := 0) rfl h_2 dX5_cutsTrail_24 25 rfl ?_
    refine w_iconst X 0 dX5_cutsTrail_25 rfl 26 rfl ?_
    refine w_ishr X dX5_cutsTrail_26 27 rfl ?_
    refine w_goto X 39 dX5_cutsTrail_27 (by decide) ?_
    refine w_keep [1, 5, 0] rfl ?_
    exact w_39 x4 x_1 ((rd mem 18 (Int32.toNatClampNeg x_1)) >>> (0 &&& 31))  hF
  · refine w_aload_n X 1 dX5_cutsTrail_30 rfl rfl 31 rfl ?_
    refine w_getV (v := .ref (ad 18)) X 17 plt_17 ko_17 (T := TX5) (N := 7) rfl in_X5 1 (by decide) kF_X5_18 rfl rfl dX5_cutsTrail_31 34 rfl ?_
    refine w_iload X 0 dX5_cutsTrail_34 rfl 36 rfl ?_
    refine w_gi hF (fun h_3 hF => ?_)
    refine w_ial X 18 plt_18 ko_18 (t0 := 0) rfl h_3 dX5_cutsTrail_36 37 rfl ?_
    refine w_iconst X 1 dX5_cutsTrail_37 rfl 38 rfl ?_
    refine w_ishr X dX5_cutsTrail_38 39 rfl ?_
    refine w_keep [1, 5, 0] rfl ?_
    exact w_39 x4 x_1 ((rd mem 18 (Int32.toNatClampNeg x_1)) >>> (1 &&& 31))  hF

def K_X2_raze (fu : Nat) (r : Nat) (x1 : Int32) (x2 : Int32) (mem : Mem) : Option Mem := bd (K_X2_wallOn fu r x1 x2 mem) (fun x_1 => (if x_1 = (-1) then some mem else gi ((x2 * 8) + x1) 64 (lt_ (mw mem (pBuilt r) (Int32.toNatClampNeg ((x2 * 8) + x1)) (-1)) (fun m_3 => lt_ (mw m_3 (pBoard r) 2 ((rd m_3 (pBoard r) 2) - 1)) (fun m_4 => bd (K_X2_toggleSteps fu r ((x2 * 9) + x1) x_1 m_4) (fun m_5 => some m_5))))))
def rm_X2_raze : Room := { frames := 1, cells := 0, slots := 0, locals := 27 }
set_option maxHeartbeats 4000000 in
set_option maxRecDepth 100000 in
theorem ct_X2_raze (l : Launch) {D : va_G} {ca ad : Nat → Nat} {Z : (Nat → Prop) → State → Heap → Prop} (hZ : ZOK Z) {tO : Nat} {sK sV : Nat → Nat} (hO : ZO Z tO sK sV) (fu : Nat) {r : Nat} (hr : r < 10) (x1 : Int32) (x2 : Int32) (mem : Mem) (res : Mem) (hF : K_X2_raze fu r x1 x2 mem = some res) : CV l D (tyL ca) 255 ad (cC ca ad) Z yX2_raze cX2_raze 4 rm_X2_raze [.ref (ad (pBoard r)), .int x1, .int x2] mem res := by
  refine start_v (own := RX2) rfl (by decide) (Nat.le_of_ble_eq_true rfl) ?_
  intro p e s m args below meth c Q hQ X
  rw [K_X2_raze] at hF
  revert hF
  intro hF
  refine w_aload_n X 0 dX2_raze_0 rfl rfl 1 rfl ?_
  refine w_iload_n X 1 dX2_raze_1 rfl rfl 2 rfl ?_
  refine w_iload_n X 2 dX2_raze_2 rfl rfl 3 rfl ?_
  refine w_callVi (fun x => x) (fun _ => mem) X hZ hF [.int x1, .int x2] (pBoard r) (lt_Board hr) ko_Board rfl rfl rfl kB_X2_wallOn kL_X2_58 (fun res h => ct_X2_wallOn l hZ hO fu hr x1 x2 mem res h) rfl rfl rfl ⟨Nat.le_of_ble_eq_true rfl, Nat.le_of_ble_eq_true rfl⟩ (Nat.le_of_ble_eq_true rfl) ⟨Nat.zero_le _, Nat.zero_le _⟩ dX2_raze_3 6 rfl (fun x_1 hF => ?_)
  refine w_istore_n X [(3, .int x_1), (0, .ref (ad (pBoard r))), (1, .int x1), (2, .int x2)] dX2_raze_6 rfl (by decide) rfl 7 rfl ?_
  refine w_iload_n X 0 dX2_raze_7 rfl rfl 8 rfl ?_
  refine w_iconst X (-1) dX2_raze_8 rfl 9 rfl ?_
  refine w_icmp_eq X hF 45 12 dX2_raze_9 (by decide) rfl (fun hF => ?_) (fun hF => ?_)
  · exact w_vret X hQ (o_inj hF) dX2_raze_45
  · refine w_aload_n X 1 dX2_raze_12 rfl rfl 13 rfl ?_
    refine w_getV (v := .ref (ad (pBuilt r))) X (pBoard r) (lt_Board hr) ko_Board (T := TX2) (N := 5) rfl in_X2 3 (by decide) kF_X2_9 rfl rfl dX2_raze_13 16 rfl ?_
    refine w_iload_n X 3 dX2_raze_16 rfl rfl 17 rfl ?_
    refine w_bipush X 8 dX2_raze_17 rfl 19 rfl ?_
    refine w_imul X dX2_raze_19 20 rfl ?_
    refine w_iload_n X 2 dX2_raze_20 rfl rfl 21 rfl ?_
    refine w_iadd X dX2_raze_21 22 rfl ?_
    refine w_iconst X (-1) dX2_raze_22 rfl 23 rfl ?_
    refine w_gi hF (fun h_2 hF => ?_)
    refine w_ias X (pBuilt r) (lt_Built hr) ko_Built (t0 := 0) rfl h_2 dX2_raze_23 24 rfl ?_
    refine w_letm hF (fun m_3 hF => ?_)
    refine w_aload_n X 1 dX2_raze_24 rfl rfl 25 rfl ?_
    refine w_dup X dX2_raze_25 rfl 26 rfl ?_
    refine w_getV (v := .int (rd m_3 (pBoard r) 2)) X (pBoard r) (lt_Board hr) ko_Board (T := TX2) (N := 5) rfl in_X2 2 (by decide) kF_X2_29 rfl rfl dX2_raze_26 29 rfl ?_
    refine w_iconst X 1 dX2_raze_29 rfl 30 rfl ?_
    refine w_isub X dX2_raze_30 31 rfl ?_
    refine w_putI X (pBoard r) (lt_Board hr) ko_Board (T := TX2) (N := 5) rfl in_X2 tyX2 tyX2_ok nmX2 2 (by decide) kF_X2_29 rfl rfl rfl rfl (Nat.le_of_ble_eq_true rfl) rfl dX2_raze_31 34 rfl ?_
    refine w_letm hF (fun m_4 hF => ?_)
    refine w_aload_n X 1 dX2_raze_34 rfl rfl 35 rfl ?_
    refine w_iload_n X 3 dX2_raze_35 rfl rfl 36 rfl ?_
    refine w_bipush X 9 dX2_raze_36 rfl 38 rfl ?_
    refine w_imul X dX2_raze_38 39 rfl ?_
    refine w_iload_n X 2 dX2_raze_39 rfl rfl 40 rfl ?_
    refine w_iadd X dX2_raze_40 41 rfl ?_
    refine w_iload_n X 0 dX2_raze_41 rfl rfl 42 rfl ?_
    refine w_callVv (fun m => m) X hZ hF [.int ((x2 * 9) + x1), .int x_1] (pBoard r) (lt_Board hr) ko_Board rfl rfl rfl kB_X2_toggleSteps kL_X2_61 (fun res h => ct_X2_toggleSteps l hZ hO fu hr ((x2 * 9) + x1) x_1 m_4 res h) rfl rfl rfl ⟨Nat.le_of_ble_eq_true rfl, Nat.le_of_ble_eq_true rfl⟩ (Nat.le_of_ble_eq_true rfl) ⟨Nat.zero_le _, Nat.zero_le _⟩ dX2_raze_42 45 rfl (fun m_5 hF => ?_)
    exact w_vret X hQ (o_inj hF) dX2_raze_45

def K_X5_admits_116 (fu : Nat) (r1 : Nat) (x2 : Int32) (x3 : Int32) (x5 : Int32) (mem : Mem) : Option (Int32 × Mem) := bd (K_X2_raze fu r1 x2 x3 mem) (fun m_6 => gb x5 (some (x5, m_6)))
def K_X5_admits_33 (fu : Nat) (r1 : Nat) : Nat → Int32 → Int32 → Int32 → Int32 → Int32 → Mem → Option (Int32 × Mem)
  | 0, _, _, _, _, _, _ => none
  | n + 1, x2, x3, x4, x5, x6, mem => (if x6 < (rd mem (pRace r1) 2) then (if x5 = 0 then (K_X5_admits_116 fu r1 x2 x3 x5 mem) else gi x6 4 ((if (rd mem (pPawn r1 (Int32.toNatClampNeg x6)) 5) = 0 then bd (K_X5_cutsTrail fu x6 x2 x3 x4 mem) (fun x_4 => (if x_4 = 0 then (K_X5_admits_33 fu r1 n x2 x3 x4 x5 (x6 + 1) mem) else bd (K_X10_spread fu 0 r1 (rd mem (pPawn r1 (Int32.toNatClampNeg x6)) 1) (-1) (rd mem (pPawn r1 (Int32.toNatClampNeg x6)) 0) mem) (fun p_5 => (if p_5.1 = (-1) then (K_X5_admits_33 fu r1 n x2 x3 x4 0 (x6 + 1) p_5.2) else (K_X5_admits_33 fu r1 n x2 x3 x4 1 (x6 + 1) p_5.2))))) else (K_X5_admits_33 fu r1 n x2 x3 x4 x5 (x6 + 1) mem)))) else (K_X5_admits_116 fu r1 x2 x3 x5 mem))
def K_X5_admits (fu : Nat) (r1 : Nat) (x2 : Int32) (x3 : Int32) (x4 : Int32) (mem : Mem) : Option (Int32 × Mem) := bd (K_X2_hasRoom fu r1 x2 x3 x4 mem) (fun x_1 => (if x_1 = 0 then some (0, mem) else bd (K_X2_raise fu r1 x2 x3 x4 mem) (fun m_2 => (K_X5_admits_33 fu r1 fu x2 x3 x4 1 0 m_2))))
def rm_X5_admits : Room := { frames := 2, cells := 0, slots := 0, locals := 55 }
set_option maxHeartbeats 4000000 in
set_option maxRecDepth 100000 in
theorem ct_X5_admits (l : Launch) {D : va_G} {ca ad : Nat → Nat} {Z : (Nat → Prop) → State → Heap → Prop} (hZ : ZOK Z) {tO : Nat} {sK sV : Nat → Nat} (hO : ZO Z tO sK sV) (fu : Nat) {r1 : Nat} (hr1 : r1 < 10) (x2 : Int32) (x3 : Int32) (x4 : Int32) (mem : Mem) (res : (Int32 × Mem)) (hF : K_X5_admits fu r1 x2 x3 x4 mem = some res) : CI l D (tyL ca) 255 ad (cC ca ad) Z yX5_admits cX5_admits 8 .boolean rm_X5_admits [.ref (ad 17), .ref (ad (pRace r1)), .int x2, .int x3, .int x4] mem res.1 res.2 := by
  refine start_i (own := RX5) rfl (by decide) (Nat.le_of_ble_eq_true rfl) ?_
  intro p e s m args below meth c Q hQ X
  rw [K_X5_admits] at hF
  revert hF
  have w_116 : ∀ (x2 : Int32) (x3 : Int32) (x5 : Int32) (mem : Mem), K_X5_admits_116 fu r1 x2 x3 x5 mem = some res → WW D 255 ad (cC ca ad) p l e rm_X5_admits s m args below meth c 8 0 0 Q mem 116 [(1, .ref (ad (pRace r1))), (2, .int x2), (3, .int x3), (5, .int x5)] [] := by
    intro x2 x3 x5 mem hF
    rw [K_X5_admits_116] at hF
    refine w_aload_n X 0 dX5_admits_116 rfl rfl 117 rfl ?_
    refine w_getV (v := .ref (ad (pBoard r1))) X (pRace r1) (lt_Race hr1) ko_Race (T := TX6) (N := 8) rfl in_X6 0 (by decide) kF_X5_31 rfl rfl dX5_admits_117 120 rfl ?_
    refine w_iload_n X 1 dX5_admits_120 rfl rfl 121 rfl ?_
    refine w_iload_n X 2 dX5_admits_121 rfl rfl 122 rfl ?_
    refine w_callVv (fun m => m) X hZ hF [.int x2, .int x3] (pBoard r1) (lt_Board hr1) ko_Board rfl rfl rfl kB_X2_raze kL_X5_116 (fun res h => ct_X2_raze l hZ hO fu hr1 x2 x3 mem res h) rfl rfl rfl ⟨Nat.le_of_ble_eq_true rfl, Nat.le_of_ble_eq_true rfl⟩ (Nat.le_of_ble_eq_true rfl) ⟨Nat.zero_le _, Nat.zero_le _⟩ dX5_admits_122 125 rfl (fun m_6 hF => ?_)
    refine w_iload X 3 dX5_admits_125 rfl 127 rfl ?_
    refine w_gb hF (fun h_7 hF => ?_)
    exact w_iret X hQ (o_inj1 hF) (o_inj2 hF) (bool_nar h_7) dX5_admits_127
  have w_33 : ∀ (n : Nat) (x2 : Int32) (x3 : Int32) (x4 : Int32) (x5 : Int32) (x6 : Int32) (mem : Mem), K_X5_admits_33 fu r1 n x2 x3 x4 x5 x6 mem = some res → WW D 255 ad (cC ca ad) p l e rm_X5_admits s m args below meth c 8 0 0 Q mem 33 [(0, .ref (ad 17)), (1, .ref (ad (pRace r1))), (2, .int x2), (3, .int x3), (4, .int x4), (5, .int x5), (6, .int x6)] [] := by
    intro n
    induction n with
    | zero => intro x2 x3 x4 x5 x6 mem hF; exact no_none (show (none : Option (Int32 × Mem)) = some res from hF)
    | succ n ih =>
      intro x2 x3 x4 x5 x6 mem hF
      rw [K_X5_admits_33] at hF
      refine w_iload X 6 dX5_admits_33 rfl 35 rfl ?_
      refine w_aload_n X 1 dX5_admits_35 rfl rfl 36 rfl ?_
      refine w_getV (v := .int (rd mem (pRace r1) 2)) X (pRace r1) (lt_Race hr1) ko_Race (T := TX6) (N := 8) rfl in_X6 2 (by decide) kF_X5_25 rfl rfl dX5_admits_36 39 rfl ?_
      refine w_icmp_ge X hF 116 42 dX5_admits_39 (by decide) rfl (fun hF => ?_) (fun hF => ?_)
      · refine w_iload X 5 dX5_admits_42 rfl 44 rfl ?_
        refine w_if_eq X hF 116 47 dX5_admits_44 (by decide) rfl (fun hF => ?_) (fun hF => ?_)
        · refine w_keep [1, 2, 3, 5] rfl ?_
          exact w_116 x2 x3 x5 mem hF
        · refine w_aload_n X 1 dX5_admits_47 rfl rfl 48 rfl ?_
          refine w_getV (v := .ref (ad (pPawns r1))) X (pRace r1) (lt_Race hr1) ko_Race (T := TX6) (N := 8) rfl in_X6 1 (by decide) kF_X5_35 rfl rfl dX5_admits_48 51 rfl ?_
          refine w_iload X 6 dX5_admits_51 rfl 53 rfl ?_
          refine w_gi hF (fun h_3 hF => ?_)
          refine w_aal X (pPawns r1) (lt_Pawns hr1) (pPawn r1 (Int32.toNatClampNeg x6)) ko_Pawns (t0 := 2) rfl h_3 (el_Pawns (vp_lt h_3)) dX5_admits_53 54 rfl ?_
          refine w_astore X [(7, .ref (ad (pPawn r1 (Int32.toNatClampNeg x6)))), (0, .ref (ad 17)), (1, .ref (ad (pRace r1))), (2, .int x2), (3, .int x3), (4, .int x4), (5, .int x5), (6, .int x6)] dX5_admits_54 (by decide) rfl 56 rfl ?_
          refine w_aload X 0 dX5_admits_56 rfl 58 rfl ?_
          refine w_getV (v := .int (rd mem (pPawn r1 (Int32.toNatClampNeg x6)) 5)) X (pPawn r1 (Int32.toNatClampNeg x6)) (lt_Pawn hr1 (vp_lt h_3)) (ko_Pawn (vp_lt h_3)) (T := TX4) (N := 6) rfl in_X4 5 (by decide) kF_X5_109 rfl rfl dX5_admits_58 61 rfl ?_
          refine w_if_ne X hF 110 64 dX5_admits_61 (by decide) rfl (fun hF => ?_) (fun hF => ?_)
          · refine w_aload_n X 1 dX5_admits_64 rfl rfl 65 rfl ?_
            refine w_iload X 7 dX5_admits_65 rfl 67 rfl ?_
            refine w_iload_n X 3 dX5_admits_67 rfl rfl 68 rfl ?_
            refine w_iload_n X 4 dX5_admits_68 rfl rfl 69 rfl ?_
            refine w_iload X 5 dX5_admits_69 rfl 71 rfl ?_
            refine w_callVi (fun x => x) (fun _ => mem) X hZ hF [.int x6, .int x2, .int x3, .int x4] 17 plt_17 ko_17 rfl rfl rfl kB_X5_cutsTrail kL_X5_112 (fun res h => ct_X5_cutsTrail l hZ hO fu x6 x2 x3 x4 mem res h) rfl rfl rfl ⟨Nat.le_of_ble_eq_true rfl, Nat.le_of_ble_eq_true rfl⟩ (Nat.le_of_ble_eq_true rfl) ⟨Nat.zero_le _, Nat.zero_le _⟩ dX5_admits_71 74 rfl (fun x_4 hF => ?_)
            refine w_if_eq X hF 110 77 dX5_admits_74 (by decide) rfl (fun hF => ?_) (fun hF => ?_)
            · refine w_iinc X 7 (x6 + 1) [(6, .int (x6 + 1)), (7, .ref (ad (pPawn r1 (Int32.toNatClampNeg x6)))), (0, .ref (ad 17)), (1, .ref (ad (pRace r1))), (2, .int x2), (3, .int x3), (4, .int x4), (5, .int x5)] dX5_admits_110 rfl rfl (by decide) rfl 113 rfl ?_
              refine w_goto X 33 dX5_admits_113 (by decide) ?_
              refine w_keep [2, 3, 4, 5, 6, 7, 0] rfl ?_
              exact ih x2 x3 x4 x5 (x6 + 1) mem hF
            · refine w_aload_n X 1 dX5_admits_77 rfl rfl 78 rfl ?_
              refine w_getV (v := .ref (ad (pWays 0))) X 17 plt_17 ko_17 (T := TX5) (N := 7) rfl in_X5 0 (by decide) kF_X5_12 rfl rfl dX5_admits_78 81 rfl ?_
              refine w_aload_n X 2 dX5_admits_81 rfl rfl 82 rfl ?_
              refine w_getV (v := .ref (ad (pBoard r1))) X (pRace r1) (lt_Race hr1) ko_Race (T := TX6) (N := 8) rfl in_X6 0 (by decide) kF_X5_31 rfl rfl dX5_admits_82 85 rfl ?_
              refine w_aload X 0 dX5_admits_85 rfl 87 rfl ?_
              refine w_getV (v := .int (rd mem (pPawn r1 (Int32.toNatClampNeg x6)) 1)) X (pPawn r1 (Int32.toNatClampNeg x6)) (lt_Pawn hr1 (vp_lt h_3)) (ko_Pawn (vp_lt h_3)) (T := TX4) (N := 6) rfl in_X4 1 (by decide) kF_X5_80 rfl rfl dX5_admits_87 90 rfl ?_
              refine w_iconst X (-1) dX5_admits_90 rfl 91 rfl ?_
              refine w_aload X 0 dX5_admits_91 rfl 93 rfl ?_
              refine w_getV (v := .int (rd mem (pPawn r1 (Int32.toNatClampNeg x6)) 0)) X (pPawn r1 (Int32.toNatClampNeg x6)) (lt_Pawn hr1 (vp_lt h_3)) (ko_Pawn (vp_lt h_3)) (T := TX4) (N := 6) rfl in_X4 0 (by decide) kF_X5_83 rfl rfl dX5_admits_93 96 rfl ?_
              refine w_callVi (fun x => x.1) (fun x => x.2) X hZ hF [.ref (ad (pBoard r1)), .int (rd mem (pPawn r1 (Int32.toNatClampNeg x6)) 1), .int (-1), .int (rd mem (pPawn r1 (Int32.toNatClampNeg x6)) 0)] (pWays 0) (lt_Ways (by decide)) (ko_Ways (by decide)) rfl rfl rfl kB_X10_spread kL_X5_86 (fun res h => ct_X10_spread l hZ hO fu (by decide) hr1 (rd mem (pPawn r1 (Int32.toNatClampNeg x6)) 1) (-1) (rd mem (pPawn r1 (Int32.toNatClampNeg x6)) 0) mem res h) rfl rfl rfl ⟨Nat.le_of_ble_eq_true rfl, Nat.le_of_ble_eq_true rfl⟩ (Nat.le_of_ble_eq_true rfl) ⟨Nat.zero_le _, Nat.zero_le _⟩ dX5_admits_96 99 rfl (fun p_5 hF => ?_)
              refine w_iconst X (-1) dX5_admits_99 rfl 100 rfl ?_
              refine w_icmp_eq X hF 107 103 dX5_admits_100 (by decide) rfl (fun hF => ?_) (fun hF => ?_)
              · refine w_iconst X 0 dX5_admits_107 rfl 108 rfl ?_
                refine w_istore X [(5, .int 0), (7, .ref (ad (pPawn r1 (Int32.toNatClampNeg x6)))), (0, .ref (ad 17)), (1, .ref (ad (pRace r1))), (2, .int x2), (3, .int x3), (4, .int x4), (6, .int x6)] dX5_admits_108 (by decide) rfl 110 rfl ?_
                refine w_iinc X 7 (x6 + 1) [(6, .int (x6 + 1)), (5, .int 0), (7, .ref (ad (pPawn r1 (Int32.toNatClampNeg x6)))), (0, .ref (ad 17)), (1, .ref (ad (pRace r1))), (2, .int x2), (3, .int x3), (4, .int x4)] dX5_admits_110 rfl rfl (by decide) rfl 113 rfl ?_
                refine w_goto X 33 dX5_admits_113 (by decide) ?_
                refine w_keep [3, 4, 5, 6, 7, 1, 0] rfl ?_
                exact ih x2 x3 x4 0 (x6 + 1) p_5.2 hF
              · refine w_iconst X 1 dX5_admits_103 rfl 104 rfl ?_
                refine w_goto X 108 dX5_admits_104 (by decide) ?_
                refine w_istore X [(5, .int 1), (7, .ref (ad (pPawn r1 (Int32.toNatClampNeg x6)))), (0, .ref (ad 17)), (1, .ref (ad (pRace r1))), (2, .int x2), (3, .int x3), (4, .int x4), (6, .int x6)] dX5_admits_108 (by decide) rfl 110 rfl ?_
                refine w_iinc X 7 (x6 + 1) [(6, .int (x6 + 1)), (5, .int 1), (7, .ref (ad (pPawn r1 (Int32.toNatClampNeg x6)))), (0, .ref (ad 17)), (1, .ref (ad (pRace r1))), (2, .int x2), (3, .int x3), (4, .int x4)] dX5_admits_110 rfl rfl (by decide) rfl 113 rfl ?_
                refine w_goto X 33 dX5_admits_113 (by decide) ?_
                refine w_keep [3, 4, 5, 6, 7, 1, 0] rfl ?_
                exact ih x2 x3 x4 1 (x6 + 1) p_5.2 hF
          · refine w_iinc X 7 (x6 + 1) [(6, .int (x6 + 1)), (7, .ref (ad (pPawn r1 (Int32.toNatClampNeg x6)))), (0, .ref (ad 17)), (1, .ref (ad (pRace r1))), (2, .int x2), (3, .int x3), (4, .int x4), (5, .int x5)] dX5_admits_110 rfl rfl (by decide) rfl 113 rfl ?_
            refine w_goto X 33 dX5_admits_113 (by decide) ?_
            refine w_keep [2, 3, 4, 5, 6, 7, 0] rfl ?_
            exact ih x2 x3 x4 x5 (x6 + 1) mem hF
      · refine w_keep [1, 2, 3, 5] rfl ?_
        exact w_116 x2 x3 x5 mem hF
  intro hF
  refine w_aload_n X 1 dX5_admits_0 rfl rfl 1 rfl ?_
  refine w_getV (v := .ref (ad (pBoard r1))) X (pRace r1) (lt_Race hr1) ko_Race (T := TX6) (N := 8) rfl in_X6 0 (by decide) kF_X5_31 rfl rfl dX5_admits_1 4 rfl ?_
  refine w_iload_n X 2 dX5_admits_4 rfl rfl 5 rfl ?_
  refine w_iload_n X 3 dX5_admits_5 rfl rfl 6 rfl ?_
  refine w_iload X 4 dX5_admits_6 rfl 8 rfl ?_
  refine w_callVi (fun x => x) (fun _ => mem) X hZ hF [.int x2, .int x3, .int x4] (pBoard r1) (lt_Board hr1) ko_Board rfl rfl rfl kB_X2_hasRoom kL_X5_101 (fun res h => ct_X2_hasRoom l hZ hO fu hr1 x2 x3 x4 mem res h) rfl rfl rfl ⟨Nat.le_of_ble_eq_true rfl, Nat.le_of_ble_eq_true rfl⟩ (Nat.le_of_ble_eq_true rfl) ⟨Nat.zero_le _, Nat.zero_le _⟩ dX5_admits_8 11 rfl (fun x_1 hF => ?_)
  refine w_if_ne X hF 16 14 dX5_admits_11 (by decide) rfl (fun hF => ?_) (fun hF => ?_)
  · refine w_iconst X 0 dX5_admits_14 rfl 15 rfl ?_
    exact w_iret X hQ (o_inj1 hF) (o_inj2 hF) rfl dX5_admits_15
  · refine w_aload_n X 1 dX5_admits_16 rfl rfl 17 rfl ?_
    refine w_getV (v := .ref (ad (pBoard r1))) X (pRace r1) (lt_Race hr1) ko_Race (T := TX6) (N := 8) rfl in_X6 0 (by decide) kF_X5_31 rfl rfl dX5_admits_17 20 rfl ?_
    refine w_iload_n X 2 dX5_admits_20 rfl rfl 21 rfl ?_
    refine w_iload_n X 3 dX5_admits_21 rfl rfl 22 rfl ?_
    refine w_iload X 4 dX5_admits_22 rfl 24 rfl ?_
    refine w_callVv (fun m => m) X hZ hF [.int x2, .int x3, .int x4] (pBoard r1) (lt_Board hr1) ko_Board rfl rfl rfl kB_X2_raise kL_X5_105 (fun res h => ct_X2_raise l hZ hO fu hr1 x2 x3 x4 mem res h) rfl rfl rfl ⟨Nat.le_of_ble_eq_true rfl, Nat.le_of_ble_eq_true rfl⟩ (Nat.le_of_ble_eq_true rfl) ⟨Nat.zero_le _, Nat.zero_le _⟩ dX5_admits_24 27 rfl (fun m_2 hF => ?_)
    refine w_iconst X 1 dX5_admits_27 rfl 28 rfl ?_
    refine w_istore X [(5, .int 1), (0, .ref (ad 17)), (1, .ref (ad (pRace r1))), (2, .int x2), (3, .int x3), (4, .int x4)] dX5_admits_28 (by decide) rfl 30 rfl ?_
    refine w_iconst X 0 dX5_admits_30 rfl 31 rfl ?_
    refine w_istore X [(6, .int 0), (5, .int 1), (0, .ref (ad 17)), (1, .ref (ad (pRace r1))), (2, .int x2), (3, .int x3), (4, .int x4)] dX5_admits_31 (by decide) rfl 33 rfl ?_
    refine w_keep [2, 3, 4, 5, 6, 1, 0] rfl ?_
    exact w_33 fu x2 x3 x4 1 0 m_2 hF

def K_X5_countAdmitted_57 (fu : Nat) (r1 : Nat) (k_9 : Int32 → Int32 → Mem → Option (Int32 × Mem)) (k_25 : Int32 → Int32 → Int32 → Mem → Option (Int32 × Mem)) (x3 : Int32) (x4 : Int32) (xs0 : Int32) (xs1 : Int32) (mem : Mem) : Option (Int32 × Mem) := lt_ (xs1 + xs0) (fun x_3 => bd (K_X5_admits fu r1 x4 x3 1 mem) (fun p_4 => (if p_4.1 = 0 then lt_ (x_3 + 0) (fun x_5 => (k_25 x_5 x3 (x4 + 1) p_4.2)) else lt_ (x_3 + 1) (fun x_6 => (k_25 x_6 x3 (x4 + 1) p_4.2)))))
def K_X5_countAdmitted_25 (fu : Nat) (r1 : Nat) (k_9 : Int32 → Int32 → Mem → Option (Int32 × Mem)) : Nat → Int32 → Int32 → Int32 → Mem → Option (Int32 × Mem)
  | 0, _, _, _, _ => none
  | n + 1, x2, x3, x4, mem => (if x4 < ((rd mem (pBoard r1) 0) - 1) then bd (K_X5_admits fu r1 x4 x3 0 mem) (fun p_2 => (if p_2.1 = 0 then (K_X5_countAdmitted_57 fu r1 k_9 (K_X5_countAdmitted_25 fu r1 k_9 n) x3 x4 0 x2 p_2.2) else (K_X5_countAdmitted_57 fu r1 k_9 (K_X5_countAdmitted_25 fu r1 k_9 n) x3 x4 1 x2 p_2.2))) else (k_9 x2 (x3 + 1) mem))
def K_X5_countAdmitted_9 (fu : Nat) (r1 : Nat) : Nat → Int32 → Int32 → Mem → Option (Int32 × Mem)
  | 0, _, _, _ => none
  | n + 1, x2, x3, mem => (if x3 < ((rd mem (pBoard r1) 1) - 1) then (K_X5_countAdmitted_25 fu r1 (K_X5_countAdmitted_9 fu r1 n) fu x2 x3 0 mem) else some (x2, mem))
def K_X5_countAdmitted (fu : Nat) (r1 : Nat) (mem : Mem) : Option (Int32 × Mem) := bd (K_X5_markTrails fu r1 mem) (fun m_1 => (K_X5_countAdmitted_9 fu r1 fu 0 0 m_1))
def K_X11_admissible (fu : Nat) (mem : Mem) : Option (Int32 × Mem) := bd (K_X5_countAdmitted fu 0 mem) (fun p_1 => some (p_1.1, p_1.2))
def K_X6_hasEnded_23 (fu : Nat) (r : Nat) (mem : Mem) : Option Int32 := some 1
def K_X6_hasEnded (fu : Nat) (r : Nat) (mem : Mem) : Option Int32 := (if ((rd mem (pRace r) 2) - (rd mem (pRace r) 7)) < 2 then (K_X6_hasEnded_23 fu r mem ) else (if (rd mem (pRace r) 5) < 200 then some 0 else (K_X6_hasEnded_23 fu r mem )))
def rm_X6_hasEnded : Room := { frames := 0, cells := 0, slots := 0, locals := 0 }
set_option maxHeartbeats 4000000 in
set_option maxRecDepth 100000 in
theorem ct_X6_hasEnded (l : Launch) {D : va_G} {ca ad : Nat → Nat} {Z : (Nat → Prop) → State → Heap → Prop} (hZ : ZOK Z) {tO : Nat} {sK sV : Nat → Nat} (hO : ZO Z tO sK sV) (fu : Nat) {r : Nat} (hr : r < 10) (mem : Mem) (res : Int32) (hF : K_X6_hasEnded fu r mem = some res) : CI l D (tyL ca) 255 ad (cC ca ad) Z yX6_hasEnded cX6_hasEnded 1 .boolean rm_X6_hasEnded [.ref (ad (pRace r))] mem res mem := by
  refine start_i (own := RX6) rfl (by decide) (Nat.le_of_ble_eq_true rfl) ?_
  intro p e s m args below meth c Q hQ X
  rw [K_X6_hasEnded] at hF
  revert hF
  have w_23 : K_X6_hasEnded_23 fu r mem = some res → WW D 255 ad (cC ca ad) p l e rm_X6_hasEnded s m args below meth c 1 0 0 Q mem 23 [] [] := by
    intro hF
    rw [K_X6_hasEnded_23] at hF
    refine w_iconst X 1 dX6_hasEnded_23 rfl 24 rfl ?_
    refine w_goto X 28 dX6_hasEnded_24 (by decide) ?_
    exact w_iret X hQ (o_inj hF) rfl rfl dX6_hasEnded_28
  intro hF
  refine w_aload_n X 0 dX6_hasEnded_0 rfl rfl 1 rfl ?_
  refine w_getV (v := .int (rd mem (pRace r) 2)) X (pRace r) (lt_Race hr) ko_Race (T := TX6) (N := 8) rfl in_X6 2 (by decide) kF_X6_36 rfl rfl dX6_hasEnded_1 4 rfl ?_
  refine w_aload_n X 0 dX6_hasEnded_4 rfl rfl 5 rfl ?_
  refine w_getV (v := .int (rd mem (pRace r) 7)) X (pRace r) (lt_Race hr) ko_Race (T := TX6) (N := 8) rfl in_X6 7 (by decide) kF_X6_49 rfl rfl dX6_hasEnded_5 8 rfl ?_
  refine w_isub X dX6_hasEnded_8 9 rfl ?_
  refine w_iconst X 2 dX6_hasEnded_9 rfl 10 rfl ?_
  refine w_icmp_lt X hF 23 13 dX6_hasEnded_10 (by decide) rfl (fun hF => ?_) (fun hF => ?_)
  · refine w_keep [] rfl ?_
    exact w_23  hF
  · refine w_aload_n X 0 dX6_hasEnded_13 rfl rfl 14 rfl ?_
    refine w_getV (v := .int (rd mem (pRace r) 5)) X (pRace r) (lt_Race hr) ko_Race (T := TX6) (N := 8) rfl in_X6 5 (by decide) kF_X6_43 rfl rfl dX6_hasEnded_14 17 rfl ?_
    refine w_sipush X 200 dX6_hasEnded_17 rfl 20 rfl ?_
    refine w_icmp_lt X hF 27 23 dX6_hasEnded_20 (by decide) rfl (fun hF => ?_) (fun hF => ?_)
    · refine w_iconst X 0 dX6_hasEnded_27 rfl 28 rfl ?_
      exact w_iret X hQ (o_inj hF) rfl rfl dX6_hasEnded_28
    · refine w_keep [] rfl ?_
      exact w_23  hF

def K_X6_bannedNow_12 (fu : Nat) (r : Nat) (mem : Mem) : Nat → Int32 → Nat → Int32 → Int32 → Option Int32
  | 0, _, _, _, _ => none
  | n + 1, x1, iq2, x3, x4 => (if x4 < (rd mem (pRace r) 4) then gi x4 12 ((if (rd mem (pBan r (Int32.toNatClampNeg x4)) 0) = x1 then bd (K_X0_byLatest fu r (Int32.toNatClampNeg x4) (rd mem (pPawn r iq2) 4) mem) (fun x_3 => bd (K_X0_byNumber fu r (Int32.toNatClampNeg x4) (rd mem (pPawn r iq2) 3) mem) (fun x_4 => bd (K_X0_byCell fu r (Int32.toNatClampNeg x4) (rd mem (pPawn r iq2) 0) mem) (fun x_5 => lt_ (x3 ||| ((x_3 ||| x_4) ||| x_5)) (fun x_6 => (K_X6_bannedNow_12 fu r mem n x1 iq2 x_6 (x4 + 1) ))))) else (K_X6_bannedNow_12 fu r mem n x1 iq2 x3 (x4 + 1) ))) else some x3)
def K_X6_bannedNow (fu : Nat) (r : Nat) (x1 : Int32) (mem : Mem) : Option Int32 := gi x1 4 ((K_X6_bannedNow_12 fu r mem fu x1 (Int32.toNatClampNeg x1) 0 0 ))
def rm_X6_bannedNow : Room := { frames := 1, cells := 0, slots := 0, locals := 24 }
set_option maxHeartbeats 4000000 in
set_option maxRecDepth 100000 in
theorem ct_X6_bannedNow (l : Launch) {D : va_G} {ca ad : Nat → Nat} {Z : (Nat → Prop) → State → Heap → Prop} (hZ : ZOK Z) {tO : Nat} {sK sV : Nat → Nat} (hO : ZO Z tO sK sV) (fu : Nat) {r : Nat} (hr : r < 10) (x1 : Int32) (mem : Mem) (res : Int32) (hF : K_X6_bannedNow fu r x1 mem = some res) : CI l D (tyL ca) 255 ad (cC ca ad) Z yX6_bannedNow cX6_bannedNow 6 .int rm_X6_bannedNow [.ref (ad (pRace r)), .int x1] mem res mem := by
  refine start_i (own := RX6) rfl (by decide) (Nat.le_of_ble_eq_true rfl) ?_
  intro p e s m args below meth c Q hQ X
  rw [K_X6_bannedNow] at hF
  revert hF
  have w_12 : ∀ (n : Nat) (x1 : Int32) (iq2 : Nat) (hiq2 : iq2 < 4) (x3 : Int32) (x4 : Int32), K_X6_bannedNow_12 fu r mem n x1 iq2 x3 x4 = some res → WW D 255 ad (cC ca ad) p l e rm_X6_bannedNow s m args below meth c 6 0 0 Q mem 12 [(0, .ref (ad (pRace r))), (1, .int x1), (2, .ref (ad (pPawn r iq2))), (3, .int x3), (4, .int x4)] [] := by
    intro n
    induction n with
    | zero => intro x1 iq2 hiq2 x3 x4 hF; exact no_none (show (none : Option Int32) = some res from hF)
    | succ n ih =>
      intro x1 iq2 hiq2 x3 x4 hF
      rw [K_X6_bannedNow_12] at hF
      refine w_iload X 4 dX6_bannedNow_12 rfl 14 rfl ?_
      refine w_aload_n X 0 dX6_bannedNow_14 rfl rfl 15 rfl ?_
      refine w_getV (v := .int (rd mem (pRace r) 4)) X (pRace r) (lt_Race hr) ko_Race (T := TX6) (N := 8) rfl in_X6 4 (by decide) kF_X6_40 rfl rfl dX6_bannedNow_15 18 rfl ?_
      refine w_icmp_ge X hF 77 21 dX6_bannedNow_18 (by decide) rfl (fun hF => ?_) (fun hF => ?_)
      · refine w_aload_n X 0 dX6_bannedNow_21 rfl rfl 22 rfl ?_
        refine w_getV (v := .ref (ad (pBans r))) X (pRace r) (lt_Race hr) ko_Race (T := TX6) (N := 8) rfl in_X6 3 (by decide) kF_X6_27 rfl rfl dX6_bannedNow_22 25 rfl ?_
        refine w_iload X 4 dX6_bannedNow_25 rfl 27 rfl ?_
        refine w_gi hF (fun h_2 hF => ?_)
        refine w_aal X (pBans r) (lt_Bans hr) (pBan r (Int32.toNatClampNeg x4)) ko_Bans (t0 := 3) rfl h_2 (el_Bans (vp_lt h_2)) dX6_bannedNow_27 28 rfl ?_
        refine w_astore X [(5, .ref (ad (pBan r (Int32.toNatClampNeg x4)))), (0, .ref (ad (pRace r))), (1, .int x1), (2, .ref (ad (pPawn r iq2))), (3, .int x3), (4, .int x4)] dX6_bannedNow_28 (by decide) rfl 30 rfl ?_
        refine w_aload X 0 dX6_bannedNow_30 rfl 32 rfl ?_
        refine w_getV (v := .int (rd mem (pBan r (Int32.toNatClampNeg x4)) 0)) X (pBan r (Int32.toNatClampNeg x4)) (lt_Ban hr (vp_lt h_2)) (ko_Ban (vp_lt h_2)) (T := TX0) (N := 9) rfl in_X0 0 (by decide) kF_X6_84 rfl rfl dX6_bannedNow_32 35 rfl ?_
        refine w_iload_n X 2 dX6_bannedNow_35 rfl rfl 36 rfl ?_
        refine w_icmp_ne X hF 71 39 dX6_bannedNow_36 (by decide) rfl (fun hF => ?_) (fun hF => ?_)
        · refine w_iload_n X 4 dX6_bannedNow_39 rfl rfl 40 rfl ?_
          refine w_aload X 0 dX6_bannedNow_40 rfl 42 rfl ?_
          refine w_aload_n X 3 dX6_bannedNow_42 rfl rfl 43 rfl ?_
          refine w_getV (v := .int (rd mem (pPawn r iq2) 4)) X (pPawn r iq2) (lt_Pawn hr hiq2) (ko_Pawn hiq2) (T := TX4) (N := 6) rfl in_X4 4 (by decide) kF_X6_74 rfl rfl dX6_bannedNow_43 46 rfl ?_
          refine w_callVi (fun x => x) (fun _ => mem) X hZ hF [.int (rd mem (pPawn r iq2) 4)] (pBan r (Int32.toNatClampNeg x4)) (lt_Ban hr (vp_lt h_2)) (ko_Ban (vp_lt h_2)) rfl rfl rfl kB_X0_byLatest kL_X6_91 (fun res h => ct_X0_byLatest l hZ hO fu hr (vp_lt h_2) (rd mem (pPawn r iq2) 4) mem res h) rfl rfl rfl ⟨Nat.le_of_ble_eq_true rfl, Nat.le_of_ble_eq_true rfl⟩ (Nat.le_of_ble_eq_true rfl) ⟨Nat.zero_le _, Nat.zero_le _⟩ dX6_bannedNow_46 49 rfl (fun x_3 hF => ?_)
          refine w_aload X 0 dX6_bannedNow_49 rfl 51 rfl ?_
          refine w_aload_n X 3 dX6_bannedNow_51 rfl rfl 52 rfl ?_
          refine w_getV (v := .int (rd mem (pPawn r iq2) 3)) X (pPawn r iq2) (lt_Pawn hr hiq2) (ko_Pawn hiq2) (T := TX4) (N := 6) rfl in_X4 3 (by decide) kF_X6_71 rfl rfl dX6_bannedNow_52 55 rfl ?_
          refine w_callVi (fun x => x) (fun _ => mem) X hZ hF [.int (rd mem (pPawn r iq2) 3)] (pBan r (Int32.toNatClampNeg x4)) (lt_Ban hr (vp_lt h_2)) (ko_Ban (vp_lt h_2)) rfl rfl rfl kB_X0_byNumber kL_X6_87 (fun res h => ct_X0_byNumber l hZ hO fu hr (vp_lt h_2) (rd mem (pPawn r iq2) 3) mem res h) rfl rfl rfl ⟨Nat.le_of_ble_eq_true rfl, Nat.le_of_ble_eq_true rfl⟩ (Nat.le_of_ble_eq_true rfl) ⟨Nat.zero_le _, Nat.zero_le _⟩ dX6_bannedNow_55 58 rfl (fun x_4 hF => ?_)
          refine w_ior X dX6_bannedNow_58 59 rfl ?_
          refine w_aload X 0 dX6_bannedNow_59 rfl 61 rfl ?_
          refine w_aload_n X 3 dX6_bannedNow_61 rfl rfl 62 rfl ?_
          refine w_getV (v := .int (rd mem (pPawn r iq2) 0)) X (pPawn r iq2) (lt_Pawn hr hiq2) (ko_Pawn hiq2) (T := TX4) (N := 6) rfl in_X4 0 (by decide) kF_X6_62 rfl rfl dX6_bannedNow_62 65 rfl ?_
          refine w_callVi (fun x => x) (fun _ => mem) X hZ hF [.int (rd mem (pPawn r iq2) 0)] (pBan r (Int32.toNatClampNeg x4)) (lt_Ban hr (vp_lt h_2)) (ko_Ban (vp_lt h_2)) rfl rfl rfl kB_X0_byCell kL_X6_94 (fun res h => ct_X0_byCell l hZ hO fu hr (vp_lt h_2) (rd mem (pPawn r iq2) 0) mem res h) rfl rfl rfl ⟨Nat.le_of_ble_eq_true rfl, Nat.le_of_ble_eq_true rfl⟩ (Nat.le_of_ble_eq_true rfl) ⟨Nat.zero_le _, Nat.zero_le _⟩ dX6_bannedNow_65 68 rfl (fun x_5 hF => ?_)
          refine w_ior X dX6_bannedNow_68 69 rfl ?_
          refine w_ior X dX6_bannedNow_69 70 rfl ?_
          refine w_let hF (fun x_6 hF => ?_)
          refine w_istore_n X [(3, .int x_6), (5, .ref (ad (pBan r (Int32.toNatClampNeg x4)))), (0, .ref (ad (pRace r))), (1, .int x1), (2, .ref (ad (pPawn r iq2))), (4, .int x4)] dX6_bannedNow_70 rfl (by decide) rfl 71 rfl ?_
          refine w_iinc X 5 (x4 + 1) [(4, .int (x4 + 1)), (3, .int x_6), (5, .ref (ad (pBan r (Int32.toNatClampNeg x4)))), (0, .ref (ad (pRace r))), (1, .int x1), (2, .ref (ad (pPawn r iq2)))] dX6_bannedNow_71 rfl rfl (by decide) rfl 74 rfl ?_
          refine w_goto X 12 dX6_bannedNow_74 (by decide) ?_
          refine w_keep [3, 4, 5, 1, 0] rfl ?_
          exact ih x1 iq2 hiq2 x_6 (x4 + 1)  hF
        · refine w_iinc X 5 (x4 + 1) [(4, .int (x4 + 1)), (5, .ref (ad (pBan r (Int32.toNatClampNeg x4)))), (0, .ref (ad (pRace r))), (1, .int x1), (2, .ref (ad (pPawn r iq2))), (3, .int x3)] dX6_bannedNow_71 rfl rfl (by decide) rfl 74 rfl ?_
          refine w_goto X 12 dX6_bannedNow_74 (by decide) ?_
          refine w_keep [2, 3, 4, 5, 0] rfl ?_
          exact ih x1 iq2 hiq2 x3 (x4 + 1)  hF
      · refine w_iload_n X 3 dX6_bannedNow_77 rfl rfl 78 rfl ?_
        exact w_iret X hQ (o_inj hF) rfl rfl dX6_bannedNow_78
  intro hF
  refine w_aload_n X 0 dX6_bannedNow_0 rfl rfl 1 rfl ?_
  refine w_getV (v := .ref (ad (pPawns r))) X (pRace r) (lt_Race hr) ko_Race (T := TX6) (N := 8) rfl in_X6 1 (by decide) kF_X6_20 rfl rfl dX6_bannedNow_1 4 rfl ?_
  refine w_iload_n X 1 dX6_bannedNow_4 rfl rfl 5 rfl ?_
  refine w_gi hF (fun h_1 hF => ?_)
  refine w_aal X (pPawns r) (lt_Pawns hr) (pPawn r (Int32.toNatClampNeg x1)) ko_Pawns (t0 := 2) rfl h_1 (el_Pawns (vp_lt h_1)) dX6_bannedNow_5 6 rfl ?_
  refine w_astore_n X [(2, .ref (ad (pPawn r (Int32.toNatClampNeg x1)))), (0, .ref (ad (pRace r))), (1, .int x1)] dX6_bannedNow_6 rfl (by decide) rfl 7 rfl ?_
  refine w_iconst X 0 dX6_bannedNow_7 rfl 8 rfl ?_
  refine w_istore_n X [(3, .int 0), (2, .ref (ad (pPawn r (Int32.toNatClampNeg x1)))), (0, .ref (ad (pRace r))), (1, .int x1)] dX6_bannedNow_8 rfl (by decide) rfl 9 rfl ?_
  refine w_iconst X 0 dX6_bannedNow_9 rfl 10 rfl ?_
  refine w_istore X [(4, .int 0), (3, .int 0), (2, .ref (ad (pPawn r (Int32.toNatClampNeg x1)))), (0, .ref (ad (pRace r))), (1, .int x1)] dX6_bannedNow_10 (by decide) rfl 12 rfl ?_
  refine w_keep [3, 4, 2, 1, 0] rfl ?_
  exact w_12 fu x1 (Int32.toNatClampNeg x1) (vp_lt h_1) 0 0  hF

def K_X2_behind (fu : Nat) (r : Nat) (x1 : Int32) (x2 : Int32) (mem : Mem) : Option Int32 := (if x1 < 0 then some (-1) else (if x1 < 81 then gi x1 81 ((if (((rd mem (pOpen r) (Int32.toNatClampNeg x1)) >>> (x2 &&& 31)) &&& 1) = 0 then some (-1) else gi x2 4 (some (x1 + (offV (Int32.toNatClampNeg x2)))))) else some (-1)))
def rm_X2_behind : Room := { frames := 0, cells := 0, slots := 0, locals := 0 }
set_option maxHeartbeats 4000000 in
set_option maxRecDepth 100000 in
theorem ct_X2_behind (l : Launch) {D : va_G} {ca ad : Nat → Nat} {Z : (Nat → Prop) → State → Heap → Prop} (hZ : ZOK Z) {tO : Nat} {sK sV : Nat → Nat} (hO : ZO Z tO sK sV) (fu : Nat) {r : Nat} (hr : r < 10) (x1 : Int32) (x2 : Int32) (mem : Mem) (res : Int32) (hF : K_X2_behind fu r x1 x2 mem = some res) : CI l D (tyL ca) 255 ad (cC ca ad) Z yX2_behind cX2_behind 3 .int rm_X2_behind [.ref (ad (pBoard r)), .int x1, .int x2] mem res mem := by
  refine start_i (own := RX2) rfl (by decide) (Nat.le_of_ble_eq_true rfl) ?_
  intro p e s m args below meth c Q hQ X
  rw [K_X2_behind] at hF
  revert hF
  intro hF
  refine w_iload_n X 1 dX2_behind_0 rfl rfl 1 rfl ?_
  refine w_if_lt X hF 23 4 dX2_behind_1 (by decide) rfl (fun hF => ?_) (fun hF => ?_)
  · refine w_iconst X (-1) dX2_behind_23 rfl 24 rfl ?_
    exact w_iret X hQ (o_inj hF) rfl rfl dX2_behind_24
  · refine w_iload_n X 1 dX2_behind_4 rfl rfl 5 rfl ?_
    refine w_bipush X 81 dX2_behind_5 rfl 7 rfl ?_
    refine w_icmp_ge X hF 23 10 dX2_behind_7 (by decide) rfl (fun hF => ?_) (fun hF => ?_)
    · refine w_aload_n X 0 dX2_behind_10 rfl rfl 11 rfl ?_
      refine w_getV (v := .ref (ad (pOpen r))) X (pBoard r) (lt_Board hr) ko_Board (T := TX2) (N := 5) rfl in_X2 4 (by decide) kF_X2_15 rfl rfl dX2_behind_11 14 rfl ?_
      refine w_iload_n X 1 dX2_behind_14 rfl rfl 15 rfl ?_
      refine w_gi hF (fun h_1 hF => ?_)
      refine w_ial X (pOpen r) (lt_Open hr) ko_Open (t0 := 0) rfl h_1 dX2_behind_15 16 rfl ?_
      refine w_iload_n X 2 dX2_behind_16 rfl rfl 17 rfl ?_
      refine w_ishr X dX2_behind_17 18 rfl ?_
      refine w_iconst X 1 dX2_behind_18 rfl 19 rfl ?_
      refine w_iand X dX2_behind_19 20 rfl ?_
      refine w_if_ne X hF 25 23 dX2_behind_20 (by decide) rfl (fun hF => ?_) (fun hF => ?_)
      · refine w_iconst X (-1) dX2_behind_23 rfl 24 rfl ?_
        exact w_iret X hQ (o_inj hF) rfl rfl dX2_behind_24
      · refine w_iload_n X 1 dX2_behind_25 rfl rfl 26 rfl ?_
        refine w_offs X hO (hO _ _ _ X.2.2.2.2.2).1.2.2.2.1 dX2_behind_26 29 rfl ?_
        refine w_iload_n X 2 dX2_behind_29 rfl rfl 30 rfl ?_
        refine w_gi hF (fun h_2 hF => ?_)
        refine w_offl X hO h_2 dX2_behind_30 31 rfl ?_
        refine w_iadd X dX2_behind_31 32 rfl ?_
        exact w_iret X hQ (o_inj hF) rfl rfl dX2_behind_32
    · refine w_iconst X (-1) dX2_behind_23 rfl 24 rfl ?_
      exact w_iret X hQ (o_inj hF) rfl rfl dX2_behind_24

def K_X6_pawnOn_2 (fu : Nat) (r : Nat) (mem : Mem) : Nat → Int32 → Int32 → Option Int32
  | 0, _, _ => none
  | n + 1, x1, x2 => (if x2 < (rd mem (pRace r) 2) then gi x2 4 ((if (rd mem (pPawn r (Int32.toNatClampNeg x2)) 0) = x1 then gi x2 4 ((if (rd mem (pPawn r (Int32.toNatClampNeg x2)) 5) = 0 then some x2 else (K_X6_pawnOn_2 fu r mem n x1 (x2 + 1) ))) else (K_X6_pawnOn_2 fu r mem n x1 (x2 + 1) ))) else some (-1))
def K_X6_pawnOn (fu : Nat) (r : Nat) (x1 : Int32) (mem : Mem) : Option Int32 := (K_X6_pawnOn_2 fu r mem fu x1 0 )
def rm_X6_pawnOn : Room := { frames := 0, cells := 0, slots := 0, locals := 0 }
set_option maxHeartbeats 4000000 in
set_option maxRecDepth 100000 in
theorem ct_X6_pawnOn (l : Launch) {D : va_G} {ca ad : Nat → Nat} {Z : (Nat → Prop) → State → Heap → Prop} (hZ : ZOK Z) {tO : Nat} {sK sV : Nat → Nat} (hO : ZO Z tO sK sV) (fu : Nat) {r : Nat} (hr : r < 10) (x1 : Int32) (mem : Mem) (res : Int32) (hF : K_X6_pawnOn fu r x1 mem = some res) : CI l D (tyL ca) 255 ad (cC ca ad) Z yX6_pawnOn cX6_pawnOn 3 .int rm_X6_pawnOn [.ref (ad (pRace r)), .int x1] mem res mem := by
  refine start_i (own := RX6) rfl (by decide) (Nat.le_of_ble_eq_true rfl) ?_
  intro p e s m args below meth c Q hQ X
  rw [K_X6_pawnOn] at hF
  revert hF
  have w_2 : ∀ (n : Nat) (x1 : Int32) (x2 : Int32), K_X6_pawnOn_2 fu r mem n x1 x2 = some res → WW D 255 ad (cC ca ad) p l e rm_X6_pawnOn s m args below meth c 3 0 0 Q mem 2 [(0, .ref (ad (pRace r))), (1, .int x1), (2, .int x2)] [] := by
    intro n
    induction n with
    | zero => intro x1 x2 hF; exact no_none (show (none : Option Int32) = some res from hF)
    | succ n ih =>
      intro x1 x2 hF
      rw [K_X6_pawnOn_2] at hF
      refine w_iload_n X 2 dX6_pawnOn_2 rfl rfl 3 rfl ?_
      refine w_aload_n X 0 dX6_pawnOn_3 rfl rfl 4 rfl ?_
      refine w_getV (v := .int (rd mem (pRace r) 2)) X (pRace r) (lt_Race hr) ko_Race (T := TX6) (N := 8) rfl in_X6 2 (by decide) kF_X6_36 rfl rfl dX6_pawnOn_4 7 rfl ?_
      refine w_icmp_ge X hF 43 10 dX6_pawnOn_7 (by decide) rfl (fun hF => ?_) (fun hF => ?_)
      · refine w_aload_n X 0 dX6_pawnOn_10 rfl rfl 11 rfl ?_
        refine w_getV (v := .ref (ad (pPawns r))) X (pRace r) (lt_Race hr) ko_Race (T := TX6) (N := 8) rfl in_X6 1 (by decide) kF_X6_20 rfl rfl dX6_pawnOn_11 14 rfl ?_
        refine w_iload_n X 2 dX6_pawnOn_14 rfl rfl 15 rfl ?_
        refine w_gi hF (fun h_1 hF => ?_)
        refine w_aal X (pPawns r) (lt_Pawns hr) (pPawn r (Int32.toNatClampNeg x2)) ko_Pawns (t0 := 2) rfl h_1 (el_Pawns (vp_lt h_1)) dX6_pawnOn_15 16 rfl ?_
        refine w_getV (v := .int (rd mem (pPawn r (Int32.toNatClampNeg x2)) 0)) X (pPawn r (Int32.toNatClampNeg x2)) (lt_Pawn hr (vp_lt h_1)) (ko_Pawn (vp_lt h_1)) (T := TX4) (N := 6) rfl in_X4 0 (by decide) kF_X6_62 rfl rfl dX6_pawnOn_16 19 rfl ?_
        refine w_iload_n X 1 dX6_pawnOn_19 rfl rfl 20 rfl ?_
        refine w_icmp_ne X hF 37 23 dX6_pawnOn_20 (by decide) rfl (fun hF => ?_) (fun hF => ?_)
        · refine w_aload_n X 0 dX6_pawnOn_23 rfl rfl 24 rfl ?_
          refine w_getV (v := .ref (ad (pPawns r))) X (pRace r) (lt_Race hr) ko_Race (T := TX6) (N := 8) rfl in_X6 1 (by decide) kF_X6_20 rfl rfl dX6_pawnOn_24 27 rfl ?_
          refine w_iload_n X 2 dX6_pawnOn_27 rfl rfl 28 rfl ?_
          refine w_gi hF (fun h_2 hF => ?_)
          refine w_aal X (pPawns r) (lt_Pawns hr) (pPawn r (Int32.toNatClampNeg x2)) ko_Pawns (t0 := 2) rfl h_2 (el_Pawns (vp_lt h_2)) dX6_pawnOn_28 29 rfl ?_
          refine w_getV (v := .int (rd mem (pPawn r (Int32.toNatClampNeg x2)) 5)) X (pPawn r (Int32.toNatClampNeg x2)) (lt_Pawn hr (vp_lt h_2)) (ko_Pawn (vp_lt h_2)) (T := TX4) (N := 6) rfl in_X4 5 (by decide) kF_X6_77 rfl rfl dX6_pawnOn_29 32 rfl ?_
          refine w_if_ne X hF 37 35 dX6_pawnOn_32 (by decide) rfl (fun hF => ?_) (fun hF => ?_)
          · refine w_iload_n X 2 dX6_pawnOn_35 rfl rfl 36 rfl ?_
            exact w_iret X hQ (o_inj hF) rfl rfl dX6_pawnOn_36
          · refine w_iinc X 2 (x2 + 1) [(2, .int (x2 + 1)), (0, .ref (ad (pRace r))), (1, .int x1)] dX6_pawnOn_37 rfl rfl (by decide) rfl 40 rfl ?_
            refine w_goto X 2 dX6_pawnOn_40 (by decide) ?_
            refine w_keep [1, 2, 0] rfl ?_
            exact ih x1 (x2 + 1)  hF
        · refine w_iinc X 2 (x2 + 1) [(2, .int (x2 + 1)), (0, .ref (ad (pRace r))), (1, .int x1)] dX6_pawnOn_37 rfl rfl (by decide) rfl 40 rfl ?_
          refine w_goto X 2 dX6_pawnOn_40 (by decide) ?_
          refine w_keep [1, 2, 0] rfl ?_
          exact ih x1 (x2 + 1)  hF
      · refine w_iconst X (-1) dX6_pawnOn_43 rfl 44 rfl ?_
        exact w_iret X hQ (o_inj hF) rfl rfl dX6_pawnOn_44
  intro hF
  refine w_iconst X 0 dX6_pawnOn_0 rfl 1 rfl ?_
  refine w_istore_n X [(2, .int 0), (0, .ref (ad (pRace r))), (1, .int x1)] dX6_pawnOn_1 rfl (by decide) rfl 2 rfl ?_
  refine w_keep [1, 2, 0] rfl ?_
  exact w_2 fu x1 0  hF

def K_X6_landing_91 (fu : Nat) (r : Nat) (mem : Mem) : Option Int32 := some (-1)
def K_X6_landing (fu : Nat) (r : Nat) (x1 : Int32) (x2 : Int32) (mem : Mem) : Option Int32 := bd (K_X6_hasEnded fu r mem) (fun x_1 => (if x_1 = 0 then gi x1 4 ((if (rd mem (pPawn r (Int32.toNatClampNeg x1)) 5) = 0 then bd (K_X6_bannedNow fu r x1 mem) (fun x_3 => (if ((x_3 >>> (x2 &&& 31)) &&& 1) = 0 then gi x1 4 (bd (K_X2_behind fu r (rd mem (pPawn r (Int32.toNatClampNeg x1)) 0) x2 mem) (fun x_5 => (if x_5 = (-1) then some x_5 else bd (K_X6_pawnOn fu r x_5 mem) (fun x_6 => (if x_6 = (-1) then some x_5 else bd (K_X2_behind fu r x_5 x2 mem) (fun x_7 => (if x_7 = (-1) then (K_X6_landing_91 fu r mem ) else bd (K_X6_pawnOn fu r x_7 mem) (fun x_8 => (if x_8 = (-1) then some x_7 else (K_X6_landing_91 fu r mem )))))))))) else some (-1))) else some (-1))) else some (-1)))
def rm_X6_landing : Room := { frames := 2, cells := 0, slots := 0, locals := 49 }
set_option maxHeartbeats 4000000 in
set_option maxRecDepth 100000 in
theorem ct_X6_landing (l : Launch) {D : va_G} {ca ad : Nat → Nat} {Z : (Nat → Prop) → State → Heap → Prop} (hZ : ZOK Z) {tO : Nat} {sK sV : Nat → Nat} (hO : ZO Z tO sK sV) (fu : Nat) {r : Nat} (hr : r < 10) (x1 : Int32) (x2 : Int32) (mem : Mem) (res : Int32) (hF : K_X6_landing fu r x1 x2 mem = some res) : CI l D (tyL ca) 255 ad (cC ca ad) Z yX6_landing cX6_landing 4 .int rm_X6_landing [.ref (ad (pRace r)), .int x1, .int x2] mem res mem := by
  refine start_i (own := RX6) rfl (by decide) (Nat.le_of_ble_eq_true rfl) ?_
  intro p e s m args below meth c Q hQ X
  rw [K_X6_landing] at hF
  revert hF
  have w_91 : K_X6_landing_91 fu r mem = some res → WW D 255 ad (cC ca ad) p l e rm_X6_landing s m args below meth c 4 0 0 Q mem 91 [] [] := by
    intro hF
    rw [K_X6_landing_91] at hF
    refine w_iconst X (-1) dX6_landing_91 rfl 92 rfl ?_
    refine w_goto X 96 dX6_landing_92 (by decide) ?_
    exact w_iret X hQ (o_inj hF) rfl rfl dX6_landing_96
  intro hF
  refine w_aload_n X 0 dX6_landing_0 rfl rfl 1 rfl ?_
  refine w_callVi (fun x => x) (fun _ => mem) X hZ hF [] (pRace r) (lt_Race hr) ko_Race rfl rfl rfl kB_X6_hasEnded kL_X6_80 (fun res h => ct_X6_hasEnded l hZ hO fu hr mem res h) rfl rfl rfl ⟨Nat.le_of_ble_eq_true rfl, Nat.le_of_ble_eq_true rfl⟩ (Nat.le_of_ble_eq_true rfl) ⟨Nat.zero_le _, Nat.zero_le _⟩ dX6_landing_1 4 rfl (fun x_1 hF => ?_)
  refine w_if_ne X hF 31 7 dX6_landing_4 (by decide) rfl (fun hF => ?_) (fun hF => ?_)
  · refine w_aload_n X 0 dX6_landing_7 rfl rfl 8 rfl ?_
    refine w_getV (v := .ref (ad (pPawns r))) X (pRace r) (lt_Race hr) ko_Race (T := TX6) (N := 8) rfl in_X6 1 (by decide) kF_X6_20 rfl rfl dX6_landing_8 11 rfl ?_
    refine w_iload_n X 1 dX6_landing_11 rfl rfl 12 rfl ?_
    refine w_gi hF (fun h_2 hF => ?_)
    refine w_aal X (pPawns r) (lt_Pawns hr) (pPawn r (Int32.toNatClampNeg x1)) ko_Pawns (t0 := 2) rfl h_2 (el_Pawns (vp_lt h_2)) dX6_landing_12 13 rfl ?_
    refine w_getV (v := .int (rd mem (pPawn r (Int32.toNatClampNeg x1)) 5)) X (pPawn r (Int32.toNatClampNeg x1)) (lt_Pawn hr (vp_lt h_2)) (ko_Pawn (vp_lt h_2)) (T := TX4) (N := 6) rfl in_X4 5 (by decide) kF_X6_77 rfl rfl dX6_landing_13 16 rfl ?_
    refine w_if_ne X hF 31 19 dX6_landing_16 (by decide) rfl (fun hF => ?_) (fun hF => ?_)
    · refine w_aload_n X 0 dX6_landing_19 rfl rfl 20 rfl ?_
      refine w_iload_n X 1 dX6_landing_20 rfl rfl 21 rfl ?_
      refine w_callVi (fun x => x) (fun _ => mem) X hZ hF [.int x1] (pRace r) (lt_Race hr) ko_Race rfl rfl rfl kB_X6_bannedNow kL_X6_97 (fun res h => ct_X6_bannedNow l hZ hO fu hr x1 mem res h) rfl rfl rfl ⟨Nat.le_of_ble_eq_true rfl, Nat.le_of_ble_eq_true rfl⟩ (Nat.le_of_ble_eq_true rfl) ⟨Nat.zero_le _, Nat.zero_le _⟩ dX6_landing_21 24 rfl (fun x_3 hF => ?_)
      refine w_iload_n X 2 dX6_landing_24 rfl rfl 25 rfl ?_
      refine w_ishr X dX6_landing_25 26 rfl ?_
      refine w_iconst X 1 dX6_landing_26 rfl 27 rfl ?_
      refine w_iand X dX6_landing_27 28 rfl ?_
      refine w_if_eq X hF 33 31 dX6_landing_28 (by decide) rfl (fun hF => ?_) (fun hF => ?_)
      · refine w_aload_n X 0 dX6_landing_33 rfl rfl 34 rfl ?_
        refine w_getV (v := .ref (ad (pBoard r))) X (pRace r) (lt_Race hr) ko_Race (T := TX6) (N := 8) rfl in_X6 0 (by decide) kF_X6_12 rfl rfl dX6_landing_34 37 rfl ?_
        refine w_aload_n X 0 dX6_landing_37 rfl rfl 38 rfl ?_
        refine w_getV (v := .ref (ad (pPawns r))) X (pRace r) (lt_Race hr) ko_Race (T := TX6) (N := 8) rfl in_X6 1 (by decide) kF_X6_20 rfl rfl dX6_landing_38 41 rfl ?_
        refine w_iload_n X 1 dX6_landing_41 rfl rfl 42 rfl ?_
        refine w_gi hF (fun h_4 hF => ?_)
        refine w_aal X (pPawns r) (lt_Pawns hr) (pPawn r (Int32.toNatClampNeg x1)) ko_Pawns (t0 := 2) rfl h_4 (el_Pawns (vp_lt h_4)) dX6_landing_42 43 rfl ?_
        refine w_getV (v := .int (rd mem (pPawn r (Int32.toNatClampNeg x1)) 0)) X (pPawn r (Int32.toNatClampNeg x1)) (lt_Pawn hr (vp_lt h_4)) (ko_Pawn (vp_lt h_4)) (T := TX4) (N := 6) rfl in_X4 0 (by decide) kF_X6_62 rfl rfl dX6_landing_43 46 rfl ?_
        refine w_iload_n X 2 dX6_landing_46 rfl rfl 47 rfl ?_
        refine w_callVi (fun x => x) (fun _ => mem) X hZ hF [.int (rd mem (pPawn r (Int32.toNatClampNeg x1)) 0), .int x2] (pBoard r) (lt_Board hr) ko_Board rfl rfl rfl kB_X2_behind kL_X6_100 (fun res h => ct_X2_behind l hZ hO fu hr (rd mem (pPawn r (Int32.toNatClampNeg x1)) 0) x2 mem res h) rfl rfl rfl ⟨Nat.le_of_ble_eq_true rfl, Nat.le_of_ble_eq_true rfl⟩ (Nat.le_of_ble_eq_true rfl) ⟨Nat.zero_le _, Nat.zero_le _⟩ dX6_landing_47 50 rfl (fun x_5 hF => ?_)
        refine w_istore_n X [(3, .int x_5), (0, .ref (ad (pRace r))), (1, .int x1), (2, .int x2)] dX6_landing_50 rfl (by decide) rfl 51 rfl ?_
        refine w_iload_n X 0 dX6_landing_51 rfl rfl 52 rfl ?_
        refine w_iconst X (-1) dX6_landing_52 rfl 53 rfl ?_
        refine w_icmp_eq X hF 65 56 dX6_landing_53 (by decide) rfl (fun hF => ?_) (fun hF => ?_)
        · refine w_iload_n X 0 dX6_landing_65 rfl rfl 66 rfl ?_
          exact w_iret X hQ (o_inj hF) rfl rfl dX6_landing_66
        · refine w_aload_n X 1 dX6_landing_56 rfl rfl 57 rfl ?_
          refine w_iload_n X 0 dX6_landing_57 rfl rfl 58 rfl ?_
          refine w_callVi (fun x => x) (fun _ => mem) X hZ hF [.int x_5] (pRace r) (lt_Race hr) ko_Race rfl rfl rfl kB_X6_pawnOn kL_X6_104 (fun res h => ct_X6_pawnOn l hZ hO fu hr x_5 mem res h) rfl rfl rfl ⟨Nat.le_of_ble_eq_true rfl, Nat.le_of_ble_eq_true rfl⟩ (Nat.le_of_ble_eq_true rfl) ⟨Nat.zero_le _, Nat.zero_le _⟩ dX6_landing_58 61 rfl (fun x_6 hF => ?_)
          refine w_iconst X (-1) dX6_landing_61 rfl 62 rfl ?_
          refine w_icmp_ne X hF 67 65 dX6_landing_62 (by decide) rfl (fun hF => ?_) (fun hF => ?_)
          · refine w_iload_n X 0 dX6_landing_65 rfl rfl 66 rfl ?_
            exact w_iret X hQ (o_inj hF) rfl rfl dX6_landing_66
          · refine w_aload_n X 1 dX6_landing_67 rfl rfl 68 rfl ?_
            refine w_getV (v := .ref (ad (pBoard r))) X (pRace r) (lt_Race hr) ko_Race (T := TX6) (N := 8) rfl in_X6 0 (by decide) kF_X6_12 rfl rfl dX6_landing_68 71 rfl ?_
            refine w_iload_n X 0 dX6_landing_71 rfl rfl 72 rfl ?_
            refine w_iload_n X 3 dX6_landing_72 rfl rfl 73 rfl ?_
            refine w_callVi (fun x => x) (fun _ => mem) X hZ hF [.int x_5, .int x2] (pBoard r) (lt_Board hr) ko_Board rfl rfl rfl kB_X2_behind kL_X6_100 (fun res h => ct_X2_behind l hZ hO fu hr x_5 x2 mem res h) rfl rfl rfl ⟨Nat.le_of_ble_eq_true rfl, Nat.le_of_ble_eq_true rfl⟩ (Nat.le_of_ble_eq_true rfl) ⟨Nat.zero_le _, Nat.zero_le _⟩ dX6_landing_73 76 rfl (fun x_7 hF => ?_)
            refine w_istore_n X [(3, .int x_7), (0, .ref (ad (pRace r))), (1, .int x1), (2, .int x2)] dX6_landing_76 rfl (by decide) rfl 77 rfl ?_
            refine w_iload_n X 0 dX6_landing_77 rfl rfl 78 rfl ?_
            refine w_iconst X (-1) dX6_landing_78 rfl 79 rfl ?_
            refine w_icmp_eq X hF 91 82 dX6_landing_79 (by decide) rfl (fun hF => ?_) (fun hF => ?_)
            · refine w_keep [] rfl ?_
              exact w_91  hF
            · refine w_aload_n X 1 dX6_landing_82 rfl rfl 83 rfl ?_
              refine w_iload_n X 0 dX6_landing_83 rfl rfl 84 rfl ?_
              refine w_callVi (fun x => x) (fun _ => mem) X hZ hF [.int x_7] (pRace r) (lt_Race hr) ko_Race rfl rfl rfl kB_X6_pawnOn kL_X6_104 (fun res h => ct_X6_pawnOn l hZ hO fu hr x_7 mem res h) rfl rfl rfl ⟨Nat.le_of_ble_eq_true rfl, Nat.le_of_ble_eq_true rfl⟩ (Nat.le_of_ble_eq_true rfl) ⟨Nat.zero_le _, Nat.zero_le _⟩ dX6_landing_84 87 rfl (fun x_8 hF => ?_)
              refine w_iconst X (-1) dX6_landing_87 rfl 88 rfl ?_
              refine w_icmp_eq X hF 95 91 dX6_landing_88 (by decide) rfl (fun hF => ?_) (fun hF => ?_)
              · refine w_iload_n X 0 dX6_landing_95 rfl rfl 96 rfl ?_
                exact w_iret X hQ (o_inj hF) rfl rfl dX6_landing_96
              · refine w_keep [] rfl ?_
                exact w_91  hF
      · refine w_iconst X (-1) dX6_landing_31 rfl 32 rfl ?_
        exact w_iret X hQ (o_inj hF) rfl rfl dX6_landing_32
    · refine w_iconst X (-1) dX6_landing_31 rfl 32 rfl ?_
      exact w_iret X hQ (o_inj hF) rfl rfl dX6_landing_32
  · refine w_iconst X (-1) dX6_landing_31 rfl 32 rfl ?_
    exact w_iret X hQ (o_inj hF) rfl rfl dX6_landing_32

def K_X5_advise_72 (fu : Nat) (r1 : Nat) (k_31 : Int32 → Int32 → Int32 → Int32 → Mem → Option (Int32 × Mem)) (x2 : Int32) (x5 : Int32) (x6 : Int32) (mem : Mem) : Option (Int32 × Mem) := gi x6 81 (lt_ (rd mem (pDist 0) (Int32.toNatClampNeg x6)) (fun x_6 => (k_31 x2 x5 x_6 (x5 + 1) mem)))
def K_X5_advise_31 (fu : Nat) (r1 : Nat) : Nat → Int32 → Int32 → Int32 → Int32 → Mem → Option (Int32 × Mem)
  | 0, _, _, _, _, _ => none
  | n + 1, x2, x3, x4, x5, mem => (if x5 < 4 then bd (K_X6_landing fu r1 x2 x5 mem) (fun x_3 => (if x_3 = (-1) then (K_X5_advise_31 fu r1 n x2 x3 x4 (x5 + 1) mem) else (if x3 = (-1) then (K_X5_advise_72 fu r1 (K_X5_advise_31 fu r1 n) x2 x5 x_3 mem) else gi x_3 81 ((if (rd mem (pDist 0) (Int32.toNatClampNeg x_3)) < x4 then (K_X5_advise_72 fu r1 (K_X5_advise_31 fu r1 n) x2 x5 x_3 mem) else (K_X5_advise_31 fu r1 n x2 x3 x4 (x5 + 1) mem)))))) else some (x3, mem))
def K_X5_advise (fu : Nat) (r1 : Nat) (x2 : Int32) (mem : Mem) : Option (Int32 × Mem) := gi x2 4 (bd (K_X10_spread fu 0 r1 (rd mem (pPawn r1 (Int32.toNatClampNeg x2)) 1) (-1) (-1) mem) (fun p_2 => (K_X5_advise_31 fu r1 fu x2 (-1) 0 0 p_2.2)))
def rm_X5_advise : Room := { frames := 3, cells := 0, slots := 0, locals := 72 }
set_option maxHeartbeats 4000000 in
set_option maxRecDepth 100000 in
theorem ct_X5_advise (l : Launch) {D : va_G} {ca ad : Nat → Nat} {Z : (Nat → Prop) → State → Heap → Prop} (hZ : ZOK Z) {tO : Nat} {sK sV : Nat → Nat} (hO : ZO Z tO sK sV) (fu : Nat) {r1 : Nat} (hr1 : r1 < 10) (x2 : Int32) (mem : Mem) (res : (Int32 × Mem)) (hF : K_X5_advise fu r1 x2 mem = some res) : CI l D (tyL ca) 255 ad (cC ca ad) Z yX5_advise cX5_advise 7 .int rm_X5_advise [.ref (ad 17), .ref (ad (pRace r1)), .int x2] mem res.1 res.2 := by
  refine start_i (own := RX5) rfl (by decide) (Nat.le_of_ble_eq_true rfl) ?_
  intro p e s m args below meth c Q hQ X
  rw [K_X5_advise] at hF
  revert hF
  have w_72 : ∀ (k_31 : Int32 → Int32 → Int32 → Int32 → Mem → Option (Int32 × Mem)) (hk_31 : ∀ (x2 : Int32) (x3 : Int32) (x4 : Int32) (x5 : Int32) (mem : Mem), k_31 x2 x3 x4 x5 mem = some res → WW D 255 ad (cC ca ad) p l e rm_X5_advise s m args below meth c 7 0 0 Q mem 31 [(0, .ref (ad 17)), (1, .ref (ad (pRace r1))), (2, .int x2), (3, .int x3), (4, .int x4), (5, .int x5)] []) (x2 : Int32) (x5 : Int32) (x6 : Int32) (mem : Mem), K_X5_advise_72 fu r1 k_31 x2 x5 x6 mem = some res → WW D 255 ad (cC ca ad) p l e rm_X5_advise s m args below meth c 7 0 0 Q mem 72 [(0, .ref (ad 17)), (1, .ref (ad (pRace r1))), (2, .int x2), (5, .int x5), (6, .int x6)] [] := by
    intro k_31 hk_31 x2 x5 x6 mem hF
    rw [K_X5_advise_72] at hF
    refine w_iload X 3 dX5_advise_72 rfl 74 rfl ?_
    refine w_istore_n X [(3, .int x5), (0, .ref (ad 17)), (1, .ref (ad (pRace r1))), (2, .int x2), (5, .int x5), (6, .int x6)] dX5_advise_74 rfl (by decide) rfl 75 rfl ?_
    refine w_aload_n X 1 dX5_advise_75 rfl rfl 76 rfl ?_
    refine w_getV (v := .ref (ad (pWays 0))) X 17 plt_17 ko_17 (T := TX5) (N := 7) rfl in_X5 0 (by decide) kF_X5_12 rfl rfl dX5_advise_76 79 rfl ?_
    refine w_getV (v := .ref (ad (pDist 0))) X (pWays 0) (lt_Ways (by decide)) (ko_Ways (by decide)) (T := TX10) (N := 4) rfl in_X10 0 (by decide) kF_X5_144 rfl rfl dX5_advise_79 82 rfl ?_
    refine w_iload X 5 dX5_advise_82 rfl 84 rfl ?_
    refine w_gi hF (fun h_5 hF => ?_)
    refine w_ial X (pDist 0) (lt_Dist (by decide)) (ko_Dist (by decide)) (t0 := 0) rfl h_5 dX5_advise_84 85 rfl ?_
    refine w_let hF (fun x_6 hF => ?_)
    refine w_istore X [(4, .int x_6), (3, .int x5), (0, .ref (ad 17)), (1, .ref (ad (pRace r1))), (2, .int x2), (5, .int x5), (6, .int x6)] dX5_advise_85 (by decide) rfl 87 rfl ?_
    refine w_iinc X 5 (x5 + 1) [(5, .int (x5 + 1)), (4, .int x_6), (3, .int x5), (0, .ref (ad 17)), (1, .ref (ad (pRace r1))), (2, .int x2), (6, .int x6)] dX5_advise_87 rfl rfl (by decide) rfl 90 rfl ?_
    refine w_goto X 31 dX5_advise_90 (by decide) ?_
    refine w_keep [3, 4, 5, 2, 1, 0] rfl ?_
    exact hk_31 x2 x5 x_6 (x5 + 1) mem hF
  have w_31 : ∀ (n : Nat) (x2 : Int32) (x3 : Int32) (x4 : Int32) (x5 : Int32) (mem : Mem), K_X5_advise_31 fu r1 n x2 x3 x4 x5 mem = some res → WW D 255 ad (cC ca ad) p l e rm_X5_advise s m args below meth c 7 0 0 Q mem 31 [(0, .ref (ad 17)), (1, .ref (ad (pRace r1))), (2, .int x2), (3, .int x3), (4, .int x4), (5, .int x5)] [] := by
    intro n
    induction n with
    | zero => intro x2 x3 x4 x5 mem hF; exact no_none (show (none : Option (Int32 × Mem)) = some res from hF)
    | succ n ih =>
      intro x2 x3 x4 x5 mem hF
      rw [K_X5_advise_31] at hF
      refine w_iload X 5 dX5_advise_31 rfl 33 rfl ?_
      refine w_iconst X 4 dX5_advise_33 rfl 34 rfl ?_
      refine w_icmp_ge X hF 93 37 dX5_advise_34 (by decide) rfl (fun hF => ?_) (fun hF => ?_)
      · refine w_aload_n X 1 dX5_advise_37 rfl rfl 38 rfl ?_
        refine w_iload_n X 2 dX5_advise_38 rfl rfl 39 rfl ?_
        refine w_iload X 5 dX5_advise_39 rfl 41 rfl ?_
        refine w_callVi (fun x => x) (fun _ => mem) X hZ hF [.int x2, .int x5] (pRace r1) (lt_Race hr1) ko_Race rfl rfl rfl kB_X6_landing kL_X5_140 (fun res h => ct_X6_landing l hZ hO fu hr1 x2 x5 mem res h) rfl rfl rfl ⟨Nat.le_of_ble_eq_true rfl, Nat.le_of_ble_eq_true rfl⟩ (Nat.le_of_ble_eq_true rfl) ⟨Nat.zero_le _, Nat.zero_le _⟩ dX5_advise_41 44 rfl (fun x_3 hF => ?_)
        refine w_istore X [(6, .int x_3), (0, .ref (ad 17)), (1, .ref (ad (pRace r1))), (2, .int x2), (3, .int x3), (4, .int x4), (5, .int x5)] dX5_advise_44 (by decide) rfl 46 rfl ?_
        refine w_iload X 0 dX5_advise_46 rfl 48 rfl ?_
        refine w_iconst X (-1) dX5_advise_48 rfl 49 rfl ?_
        refine w_icmp_eq X hF 87 52 dX5_advise_49 (by decide) rfl (fun hF => ?_) (fun hF => ?_)
        · refine w_iinc X 6 (x5 + 1) [(5, .int (x5 + 1)), (6, .int x_3), (0, .ref (ad 17)), (1, .ref (ad (pRace r1))), (2, .int x2), (3, .int x3), (4, .int x4)] dX5_advise_87 rfl rfl (by decide) rfl 90 rfl ?_
          refine w_goto X 31 dX5_advise_90 (by decide) ?_
          refine w_keep [2, 3, 4, 5, 6, 0] rfl ?_
          exact ih x2 x3 x4 (x5 + 1) mem hF
        · refine w_iload_n X 4 dX5_advise_52 rfl rfl 53 rfl ?_
          refine w_iconst X (-1) dX5_advise_53 rfl 54 rfl ?_
          refine w_icmp_eq X hF 72 57 dX5_advise_54 (by decide) rfl (fun hF => ?_) (fun hF => ?_)
          · refine w_keep [1, 2, 3, 6, 0] rfl ?_
            exact w_72 (K_X5_advise_31 fu r1 n) ih x2 x5 x_3 mem hF
          · refine w_aload_n X 1 dX5_advise_57 rfl rfl 58 rfl ?_
            refine w_getV (v := .ref (ad (pWays 0))) X 17 plt_17 ko_17 (T := TX5) (N := 7) rfl in_X5 0 (by decide) kF_X5_12 rfl rfl dX5_advise_58 61 rfl ?_
            refine w_getV (v := .ref (ad (pDist 0))) X (pWays 0) (lt_Ways (by decide)) (ko_Ways (by decide)) (T := TX10) (N := 4) rfl in_X10 0 (by decide) kF_X5_144 rfl rfl dX5_advise_61 64 rfl ?_
            refine w_iload X 0 dX5_advise_64 rfl 66 rfl ?_
            refine w_gi hF (fun h_4 hF => ?_)
            refine w_ial X (pDist 0) (lt_Dist (by decide)) (ko_Dist (by decide)) (t0 := 0) rfl h_4 dX5_advise_66 67 rfl ?_
            refine w_iload X 5 dX5_advise_67 rfl 69 rfl ?_
            refine w_icmp_ge X hF 87 72 dX5_advise_69 (by decide) rfl (fun hF => ?_) (fun hF => ?_)
            · refine w_keep [1, 2, 3, 6, 0] rfl ?_
              exact w_72 (K_X5_advise_31 fu r1 n) ih x2 x5 x_3 mem hF
            · refine w_iinc X 6 (x5 + 1) [(5, .int (x5 + 1)), (6, .int x_3), (0, .ref (ad 17)), (1, .ref (ad (pRace r1))), (2, .int x2), (3, .int x3), (4, .int x4)] dX5_advise_87 rfl rfl (by decide) rfl 90 rfl ?_
              refine w_goto X 31 dX5_advise_90 (by decide) ?_
              refine w_keep [2, 3, 4, 5, 6, 0] rfl ?_
              exact ih x2 x3 x4 (x5 + 1) mem hF
      · refine w_iload_n X 3 dX5_advise_93 rfl rfl 94 rfl ?_
        exact w_iret X hQ (o_inj1 hF) (o_inj2 hF) rfl dX5_advise_94
  intro hF
  refine w_aload_n X 0 dX5_advise_0 rfl rfl 1 rfl ?_
  refine w_getV (v := .ref (ad (pWays 0))) X 17 plt_17 ko_17 (T := TX5) (N := 7) rfl in_X5 0 (by decide) kF_X5_12 rfl rfl dX5_advise_1 4 rfl ?_
  refine w_aload_n X 1 dX5_advise_4 rfl rfl 5 rfl ?_
  refine w_getV (v := .ref (ad (pBoard r1))) X (pRace r1) (lt_Race hr1) ko_Race (T := TX6) (N := 8) rfl in_X6 0 (by decide) kF_X5_31 rfl rfl dX5_advise_5 8 rfl ?_
  refine w_aload_n X 1 dX5_advise_8 rfl rfl 9 rfl ?_
  refine w_getV (v := .ref (ad (pPawns r1))) X (pRace r1) (lt_Race hr1) ko_Race (T := TX6) (N := 8) rfl in_X6 1 (by decide) kF_X5_35 rfl rfl dX5_advise_9 12 rfl ?_
  refine w_iload_n X 2 dX5_advise_12 rfl rfl 13 rfl ?_
  refine w_gi hF (fun h_1 hF => ?_)
  refine w_aal X (pPawns r1) (lt_Pawns hr1) (pPawn r1 (Int32.toNatClampNeg x2)) ko_Pawns (t0 := 2) rfl h_1 (el_Pawns (vp_lt h_1)) dX5_advise_13 14 rfl ?_
  refine w_getV (v := .int (rd mem (pPawn r1 (Int32.toNatClampNeg x2)) 1)) X (pPawn r1 (Int32.toNatClampNeg x2)) (lt_Pawn hr1 (vp_lt h_1)) (ko_Pawn (vp_lt h_1)) (T := TX4) (N := 6) rfl in_X4 1 (by decide) kF_X5_80 rfl rfl dX5_advise_14 17 rfl ?_
  refine w_iconst X (-1) dX5_advise_17 rfl 18 rfl ?_
  refine w_iconst X (-1) dX5_advise_18 rfl 19 rfl ?_
  refine w_callVi (fun x => x.1) (fun x => x.2) X hZ hF [.ref (ad (pBoard r1)), .int (rd mem (pPawn r1 (Int32.toNatClampNeg x2)) 1), .int (-1), .int (-1)] (pWays 0) (lt_Ways (by decide)) (ko_Ways (by decide)) rfl rfl rfl kB_X10_spread kL_X5_86 (fun res h => ct_X10_spread l hZ hO fu (by decide) hr1 (rd mem (pPawn r1 (Int32.toNatClampNeg x2)) 1) (-1) (-1) mem res h) rfl rfl rfl ⟨Nat.le_of_ble_eq_true rfl, Nat.le_of_ble_eq_true rfl⟩ (Nat.le_of_ble_eq_true rfl) ⟨Nat.zero_le _, Nat.zero_le _⟩ dX5_advise_19 22 rfl (fun p_2 hF => ?_)
  refine w_pop X dX5_advise_22 rfl 23 rfl ?_
  refine w_iconst X (-1) dX5_advise_23 rfl 24 rfl ?_
  refine w_istore_n X [(3, .int (-1)), (0, .ref (ad 17)), (1, .ref (ad (pRace r1))), (2, .int x2)] dX5_advise_24 rfl (by decide) rfl 25 rfl ?_
  refine w_iconst X 0 dX5_advise_25 rfl 26 rfl ?_
  refine w_istore X [(4, .int 0), (3, .int (-1)), (0, .ref (ad 17)), (1, .ref (ad (pRace r1))), (2, .int x2)] dX5_advise_26 (by decide) rfl 28 rfl ?_
  refine w_iconst X 0 dX5_advise_28 rfl 29 rfl ?_
  refine w_istore X [(5, .int 0), (4, .int 0), (3, .int (-1)), (0, .ref (ad 17)), (1, .ref (ad (pRace r1))), (2, .int x2)] dX5_advise_29 (by decide) rfl 31 rfl ?_
  refine w_keep [3, 4, 5, 2, 1, 0] rfl ?_
  exact w_31 fu x2 (-1) 0 0 p_2.2 hF

def K_X5_loss (fu : Nat) (r1 : Nat) (x2 : Int32) (x3 : Int32) (x4 : Int32) (x5 : Int32) (mem : Mem) : Option (Int32 × Mem) := bd (K_X5_cutsTrail fu x2 x3 x4 x5 mem) (fun x_1 => (if x_1 = 0 then some (0, mem) else bd (K_X2_raise fu r1 x3 x4 x5 mem) (fun m_2 => gi x2 4 (gi x2 4 (bd (K_X10_spread fu 0 r1 (rd m_2 (pPawn r1 (Int32.toNatClampNeg x2)) 1) (-1) (rd m_2 (pPawn r1 (Int32.toNatClampNeg x2)) 0) m_2) (fun p_5 => lt_ p_5.1 (fun x_6 => bd (K_X2_raze fu r1 x3 x4 p_5.2) (fun m_7 => gi x2 4 (some ((x_6 - (rd m_7 19 (Int32.toNatClampNeg x2))), m_7))))))))))
def rm_X5_loss : Room := { frames := 2, cells := 0, slots := 0, locals := 55 }
set_option maxHeartbeats 4000000 in
set_option maxRecDepth 100000 in
theorem ct_X5_loss (l : Launch) {D : va_G} {ca ad : Nat → Nat} {Z : (Nat → Prop) → State → Heap → Prop} (hZ : ZOK Z) {tO : Nat} {sK sV : Nat → Nat} (hO : ZO Z tO sK sV) (fu : Nat) {r1 : Nat} (hr1 : r1 < 10) (x2 : Int32) (x3 : Int32) (x4 : Int32) (x5 : Int32) (mem : Mem) (res : (Int32 × Mem)) (hF : K_X5_loss fu r1 x2 x3 x4 x5 mem = some res) : CI l D (tyL ca) 255 ad (cC ca ad) Z yX5_loss cX5_loss 7 .int rm_X5_loss [.ref (ad 17), .ref (ad (pRace r1)), .int x2, .int x3, .int x4, .int x5] mem res.1 res.2 := by
  refine start_i (own := RX5) rfl (by decide) (Nat.le_of_ble_eq_true rfl) ?_
  intro p e s m args below meth c Q hQ X
  rw [K_X5_loss] at hF
  revert hF
  intro hF
  refine w_aload_n X 0 dX5_loss_0 rfl rfl 1 rfl ?_
  refine w_iload_n X 2 dX5_loss_1 rfl rfl 2 rfl ?_
  refine w_iload_n X 3 dX5_loss_2 rfl rfl 3 rfl ?_
  refine w_iload X 4 dX5_loss_3 rfl 5 rfl ?_
  refine w_iload X 5 dX5_loss_5 rfl 7 rfl ?_
  refine w_callVi (fun x => x) (fun _ => mem) X hZ hF [.int x2, .int x3, .int x4, .int x5] 17 plt_17 ko_17 rfl rfl rfl kB_X5_cutsTrail kL_X5_112 (fun res h => ct_X5_cutsTrail l hZ hO fu x2 x3 x4 x5 mem res h) rfl rfl rfl ⟨Nat.le_of_ble_eq_true rfl, Nat.le_of_ble_eq_true rfl⟩ (Nat.le_of_ble_eq_true rfl) ⟨Nat.zero_le _, Nat.zero_le _⟩ dX5_loss_7 10 rfl (fun x_1 hF => ?_)
  refine w_if_ne X hF 15 13 dX5_loss_10 (by decide) rfl (fun hF => ?_) (fun hF => ?_)
  · refine w_iconst X 0 dX5_loss_13 rfl 14 rfl ?_
    exact w_iret X hQ (o_inj1 hF) (o_inj2 hF) rfl dX5_loss_14
  · refine w_aload_n X 1 dX5_loss_15 rfl rfl 16 rfl ?_
    refine w_getV (v := .ref (ad (pBoard r1))) X (pRace r1) (lt_Race hr1) ko_Race (T := TX6) (N := 8) rfl in_X6 0 (by decide) kF_X5_31 rfl rfl dX5_loss_16 19 rfl ?_
    refine w_iload_n X 3 dX5_loss_19 rfl rfl 20 rfl ?_
    refine w_iload X 4 dX5_loss_20 rfl 22 rfl ?_
    refine w_iload X 5 dX5_loss_22 rfl 24 rfl ?_
    refine w_callVv (fun m => m) X hZ hF [.int x3, .int x4, .int x5] (pBoard r1) (lt_Board hr1) ko_Board rfl rfl rfl kB_X2_raise kL_X5_105 (fun res h => ct_X2_raise l hZ hO fu hr1 x3 x4 x5 mem res h) rfl rfl rfl ⟨Nat.le_of_ble_eq_true rfl, Nat.le_of_ble_eq_true rfl⟩ (Nat.le_of_ble_eq_true rfl) ⟨Nat.zero_le _, Nat.zero_le _⟩ dX5_loss_24 27 rfl (fun m_2 hF => ?_)
    refine w_aload_n X 0 dX5_loss_27 rfl rfl 28 rfl ?_
    refine w_getV (v := .ref (ad (pWays 0))) X 17 plt_17 ko_17 (T := TX5) (N := 7) rfl in_X5 0 (by decide) kF_X5_12 rfl rfl dX5_loss_28 31 rfl ?_
    refine w_aload_n X 1 dX5_loss_31 rfl rfl 32 rfl ?_
    refine w_getV (v := .ref (ad (pBoard r1))) X (pRace r1) (lt_Race hr1) ko_Race (T := TX6) (N := 8) rfl in_X6 0 (by decide) kF_X5_31 rfl rfl dX5_loss_32 35 rfl ?_
    refine w_aload_n X 1 dX5_loss_35 rfl rfl 36 rfl ?_
    refine w_getV (v := .ref (ad (pPawns r1))) X (pRace r1) (lt_Race hr1) ko_Race (T := TX6) (N := 8) rfl in_X6 1 (by decide) kF_X5_35 rfl rfl dX5_loss_36 39 rfl ?_
    refine w_iload_n X 2 dX5_loss_39 rfl rfl 40 rfl ?_
    refine w_gi hF (fun h_3 hF => ?_)
    refine w_aal X (pPawns r1) (lt_Pawns hr1) (pPawn r1 (Int32.toNatClampNeg x2)) ko_Pawns (t0 := 2) rfl h_3 (el_Pawns (vp_lt h_3)) dX5_loss_40 41 rfl ?_
    refine w_getV (v := .int (rd m_2 (pPawn r1 (Int32.toNatClampNeg x2)) 1)) X (pPawn r1 (Int32.toNatClampNeg x2)) (lt_Pawn hr1 (vp_lt h_3)) (ko_Pawn (vp_lt h_3)) (T := TX4) (N := 6) rfl in_X4 1 (by decide) kF_X5_80 rfl rfl dX5_loss_41 44 rfl ?_
    refine w_iconst X (-1) dX5_loss_44 rfl 45 rfl ?_
    refine w_aload_n X 1 dX5_loss_45 rfl rfl 46 rfl ?_
    refine w_getV (v := .ref (ad (pPawns r1))) X (pRace r1) (lt_Race hr1) ko_Race (T := TX6) (N := 8) rfl in_X6 1 (by decide) kF_X5_35 rfl rfl dX5_loss_46 49 rfl ?_
    refine w_iload_n X 2 dX5_loss_49 rfl rfl 50 rfl ?_
    refine w_gi hF (fun h_4 hF => ?_)
    refine w_aal X (pPawns r1) (lt_Pawns hr1) (pPawn r1 (Int32.toNatClampNeg x2)) ko_Pawns (t0 := 2) rfl h_4 (el_Pawns (vp_lt h_4)) dX5_loss_50 51 rfl ?_
    refine w_getV (v := .int (rd m_2 (pPawn r1 (Int32.toNatClampNeg x2)) 0)) X (pPawn r1 (Int32.toNatClampNeg x2)) (lt_Pawn hr1 (vp_lt h_4)) (ko_Pawn (vp_lt h_4)) (T := TX4) (N := 6) rfl in_X4 0 (by decide) kF_X5_83 rfl rfl dX5_loss_51 54 rfl ?_
    refine w_callVi (fun x => x.1) (fun x => x.2) X hZ hF [.ref (ad (pBoard r1)), .int (rd m_2 (pPawn r1 (Int32.toNatClampNeg x2)) 1), .int (-1), .int (rd m_2 (pPawn r1 (Int32.toNatClampNeg x2)) 0)] (pWays 0) (lt_Ways (by decide)) (ko_Ways (by decide)) rfl rfl rfl kB_X10_spread kL_X5_86 (fun res h => ct_X10_spread l hZ hO fu (by decide) hr1 (rd m_2 (pPawn r1 (Int32.toNatClampNeg x2)) 1) (-1) (rd m_2 (pPawn r1 (Int32.toNatClampNeg x2)) 0) m_2 res h) rfl rfl rfl ⟨Nat.le_of_ble_eq_true rfl, Nat.le_of_ble_eq_true rfl⟩ (Nat.le_of_ble_eq_true rfl) ⟨Nat.zero_le _, Nat.zero_le _⟩ dX5_loss_54 57 rfl (fun p_5 hF => ?_)
    refine w_let hF (fun x_6 hF => ?_)
    refine w_istore X [(6, .int x_6), (0, .ref (ad 17)), (1, .ref (ad (pRace r1))), (2, .int x2), (3, .int x3), (4, .int x4), (5, .int x5)] dX5_loss_57 (by decide) rfl 59 rfl ?_
    refine w_aload_n X 2 dX5_loss_59 rfl rfl 60 rfl ?_
    refine w_getV (v := .ref (ad (pBoard r1))) X (pRace r1) (lt_Race hr1) ko_Race (T := TX6) (N := 8) rfl in_X6 0 (by decide) kF_X5_31 rfl rfl dX5_loss_60 63 rfl ?_
    refine w_iload_n X 4 dX5_loss_63 rfl rfl 64 rfl ?_
    refine w_iload X 5 dX5_loss_64 rfl 66 rfl ?_
    refine w_callVv (fun m => m) X hZ hF [.int x3, .int x4] (pBoard r1) (lt_Board hr1) ko_Board rfl rfl rfl kB_X2_raze kL_X5_116 (fun res h => ct_X2_raze l hZ hO fu hr1 x3 x4 p_5.2 res h) rfl rfl rfl ⟨Nat.le_of_ble_eq_true rfl, Nat.le_of_ble_eq_true rfl⟩ (Nat.le_of_ble_eq_true rfl) ⟨Nat.zero_le _, Nat.zero_le _⟩ dX5_loss_66 69 rfl (fun m_7 hF => ?_)
    refine w_iload X 0 dX5_loss_69 rfl 71 rfl ?_
    refine w_aload_n X 1 dX5_loss_71 rfl rfl 72 rfl ?_
    refine w_getV (v := .ref (ad 19)) X 17 plt_17 ko_17 (T := TX5) (N := 7) rfl in_X5 2 (by decide) kF_X5_22 rfl rfl dX5_loss_72 75 rfl ?_
    refine w_iload_n X 3 dX5_loss_75 rfl rfl 76 rfl ?_
    refine w_gi hF (fun h_8 hF => ?_)
    refine w_ial X 19 plt_19 ko_19 (t0 := 0) rfl h_8 dX5_loss_76 77 rfl ?_
    refine w_isub X dX5_loss_77 78 rfl ?_
    exact w_iret X hQ (o_inj1 hF) (o_inj2 hF) rfl dX5_loss_78

def K_X5_keepBetter (fu : Nat) (x1 : Int32) (x2 : Int32) (x3 : Int32) (x4 : Int32) (mem : Mem) : Option Mem := (if (rd mem 17 6) < x1 then lt_ (mw mem 17 6 x1) (fun m_1 => lt_ (mw m_1 17 3 x2) (fun m_2 => lt_ (mw m_2 17 4 x3) (fun m_3 => lt_ (mw m_3 17 5 x4) (fun m_4 => some m_4)))) else some mem)
def rm_X5_keepBetter : Room := { frames := 0, cells := 0, slots := 0, locals := 0 }
set_option maxHeartbeats 4000000 in
set_option maxRecDepth 100000 in
theorem ct_X5_keepBetter (l : Launch) {D : va_G} {ca ad : Nat → Nat} {Z : (Nat → Prop) → State → Heap → Prop} (hZ : ZOK Z) {tO : Nat} {sK sV : Nat → Nat} (hO : ZO Z tO sK sV) (fu : Nat) (x1 : Int32) (x2 : Int32) (x3 : Int32) (x4 : Int32) (mem : Mem) (res : Mem) (hF : K_X5_keepBetter fu x1 x2 x3 x4 mem = some res) : CV l D (tyL ca) 255 ad (cC ca ad) Z yX5_keepBetter cX5_keepBetter 5 rm_X5_keepBetter [.ref (ad 17), .int x1, .int x2, .int x3, .int x4] mem res := by
  refine start_v (own := RX5) rfl (by decide) (Nat.le_of_ble_eq_true rfl) ?_
  intro p e s m args below meth c Q hQ X
  rw [K_X5_keepBetter] at hF
  revert hF
  intro hF
  refine w_iload_n X 1 dX5_keepBetter_0 rfl rfl 1 rfl ?_
  refine w_aload_n X 0 dX5_keepBetter_1 rfl rfl 2 rfl ?_
  refine w_getV (v := .int (rd mem 17 6)) X 17 plt_17 ko_17 (T := TX5) (N := 7) rfl in_X5 6 (by decide) kF_X5_120 rfl rfl dX5_keepBetter_2 5 rfl ?_
  refine w_icmp_le X hF 29 8 dX5_keepBetter_5 (by decide) rfl (fun hF => ?_) (fun hF => ?_)
  · refine w_aload_n X 0 dX5_keepBetter_8 rfl rfl 9 rfl ?_
    refine w_iload_n X 1 dX5_keepBetter_9 rfl rfl 10 rfl ?_
    refine w_putI X 17 plt_17 ko_17 (T := TX5) (N := 7) rfl in_X5 tyX5 tyX5_ok nmX5 6 (by decide) kF_X5_120 rfl rfl rfl rfl (Nat.le_of_ble_eq_true rfl) rfl dX5_keepBetter_10 13 rfl ?_
    refine w_letm hF (fun m_1 hF => ?_)
    refine w_aload_n X 0 dX5_keepBetter_13 rfl rfl 14 rfl ?_
    refine w_iload_n X 2 dX5_keepBetter_14 rfl rfl 15 rfl ?_
    refine w_putI X 17 plt_17 ko_17 (T := TX5) (N := 7) rfl in_X5 tyX5 tyX5_ok nmX5 3 (by decide) kF_X5_131 rfl rfl rfl rfl (Nat.le_of_ble_eq_true rfl) rfl dX5_keepBetter_15 18 rfl ?_
    refine w_letm hF (fun m_2 hF => ?_)
    refine w_aload_n X 0 dX5_keepBetter_18 rfl rfl 19 rfl ?_
    refine w_iload_n X 3 dX5_keepBetter_19 rfl rfl 20 rfl ?_
    refine w_putI X 17 plt_17 ko_17 (T := TX5) (N := 7) rfl in_X5 tyX5 tyX5_ok nmX5 4 (by decide) kF_X5_134 rfl rfl rfl rfl (Nat.le_of_ble_eq_true rfl) rfl dX5_keepBetter_20 23 rfl ?_
    refine w_letm hF (fun m_3 hF => ?_)
    refine w_aload_n X 0 dX5_keepBetter_23 rfl rfl 24 rfl ?_
    refine w_iload X 4 dX5_keepBetter_24 rfl 26 rfl ?_
    refine w_putI X 17 plt_17 ko_17 (T := TX5) (N := 7) rfl in_X5 tyX5 tyX5_ok nmX5 5 (by decide) kF_X5_137 rfl rfl rfl rfl (Nat.le_of_ble_eq_true rfl) rfl dX5_keepBetter_26 29 rfl ?_
    refine w_letm hF (fun m_4 hF => ?_)
    exact w_vret X hQ (o_inj hF) dX5_keepBetter_29
  · exact w_vret X hQ (o_inj hF) dX5_keepBetter_29

def K_X5_findBest_59 (fu : Nat) (r1 : Nat) (k_26 : Int32 → Int32 → Mem → Option (Int32 × Mem)) (k_42 : Int32 → Int32 → Int32 → Mem → Option (Int32 × Mem)) : Nat → Int32 → Int32 → Int32 → Int32 → Mem → Option (Int32 × Mem)
  | 0, _, _, _, _, _ => none
  | n + 1, x2, x3, x4, x5, mem => (if 1 < x5 then (k_42 x2 x3 (x4 + 1) mem) else bd (K_X5_admits fu r1 x4 x3 x5 mem) (fun p_4 => (if p_4.1 = 0 then (K_X5_findBest_59 fu r1 k_26 k_42 n x2 x3 x4 (x5 + 1) p_4.2) else bd (K_X5_loss fu r1 x2 x4 x3 x5 p_4.2) (fun p_5 => bd (K_X5_keepBetter fu p_5.1 x4 x3 x5 p_5.2) (fun m_6 => (K_X5_findBest_59 fu r1 k_26 k_42 n x2 x3 x4 (x5 + 1) m_6))))))
def K_X5_findBest_42 (fu : Nat) (r1 : Nat) (k_26 : Int32 → Int32 → Mem → Option (Int32 × Mem)) : Nat → Int32 → Int32 → Int32 → Mem → Option (Int32 × Mem)
  | 0, _, _, _, _ => none
  | n + 1, x2, x3, x4, mem => (if x4 < ((rd mem (pBoard r1) 0) - 1) then (K_X5_findBest_59 fu r1 k_26 (K_X5_findBest_42 fu r1 k_26 n) fu x2 x3 x4 0 mem) else (k_26 x2 (x3 + 1) mem))
def K_X5_findBest_26 (fu : Nat) (r1 : Nat) : Nat → Int32 → Int32 → Mem → Option (Int32 × Mem)
  | 0, _, _, _ => none
  | n + 1, x2, x3, mem => (if x3 < ((rd mem (pBoard r1) 1) - 1) then (K_X5_findBest_42 fu r1 (K_X5_findBest_26 fu r1 n) fu x2 x3 0 mem) else (if (rd mem 17 6) = (-1) then some (0, mem) else some (1, mem)))
def K_X5_findBest (fu : Nat) (r1 : Nat) (x2 : Int32) (mem : Mem) : Option (Int32 × Mem) := lt_ (mw mem 17 6 (-1)) (fun m_1 => gi x2 4 ((if (rd m_1 (pPawn r1 (Int32.toNatClampNeg x2)) 5) = 0 then bd (K_X5_markTrails fu r1 m_1) (fun m_3 => (K_X5_findBest_26 fu r1 fu x2 0 m_3)) else some (0, m_1))))
def rm_X5_findBest : Room := { frames := 3, cells := 0, slots := 0, locals := 82 }
set_option maxHeartbeats 4000000 in
set_option maxRecDepth 100000 in
theorem ct_X5_findBest (l : Launch) {D : va_G} {ca ad : Nat → Nat} {Z : (Nat → Prop) → State → Heap → Prop} (hZ : ZOK Z) {tO : Nat} {sK sV : Nat → Nat} (hO : ZO Z tO sK sV) (fu : Nat) {r1 : Nat} (hr1 : r1 < 10) (x2 : Int32) (mem : Mem) (res : (Int32 × Mem)) (hF : K_X5_findBest fu r1 x2 mem = some res) : CI l D (tyL ca) 255 ad (cC ca ad) Z yX5_findBest cX5_findBest 6 .boolean rm_X5_findBest [.ref (ad 17), .ref (ad (pRace r1)), .int x2] mem res.1 res.2 := by
  refine start_i (own := RX5) rfl (by decide) (Nat.le_of_ble_eq_true rfl) ?_
  intro p e s m args below meth c Q hQ X
  rw [K_X5_findBest] at hF
  revert hF
  have w_59 : ∀ (k_26 : Int32 → Int32 → Mem → Option (Int32 × Mem)) (hk_26 : ∀ (x2 : Int32) (x3 : Int32) (mem : Mem), k_26 x2 x3 mem = some res → WW D 255 ad (cC ca ad) p l e rm_X5_findBest s m args below meth c 6 0 0 Q mem 26 [(0, .ref (ad 17)), (1, .ref (ad (pRace r1))), (2, .int x2), (3, .int x3)] []) (k_42 : Int32 → Int32 → Int32 → Mem → Option (Int32 × Mem)) (hk_42 : ∀ (x2 : Int32) (x3 : Int32) (x4 : Int32) (mem : Mem), k_42 x2 x3 x4 mem = some res → WW D 255 ad (cC ca ad) p l e rm_X5_findBest s m args below meth c 6 0 0 Q mem 42 [(0, .ref (ad 17)), (1, .ref (ad (pRace r1))), (2, .int x2), (3, .int x3), (4, .int x4)] []) (n : Nat) (x2 : Int32) (x3 : Int32) (x4 : Int32) (x5 : Int32) (mem : Mem), K_X5_findBest_59 fu r1 k_26 k_42 n x2 x3 x4 x5 mem = some res → WW D 255 ad (cC ca ad) p l e rm_X5_findBest s m args below meth c 6 0 0 Q mem 59 [(0, .ref (ad 17)), (1, .ref (ad (pRace r1))), (2, .int x2), (3, .int x3), (4, .int x4), (5, .int x5)] [] := by
    intro k_26 hk_26 k_42 hk_42 n
    induction n with
    | zero => intro x2 x3 x4 x5 mem hF; exact no_none (show (none : Option (Int32 × Mem)) = some res from hF)
    | succ n ih =>
      intro x2 x3 x4 x5 mem hF
      rw [K_X5_findBest_59] at hF
      refine w_iload X 5 dX5_findBest_59 rfl 61 rfl ?_
      refine w_iconst X 1 dX5_findBest_61 rfl 62 rfl ?_
      refine w_icmp_gt X hF 104 65 dX5_findBest_62 (by decide) rfl (fun hF => ?_) (fun hF => ?_)
      · refine w_iinc X 4 (x4 + 1) [(4, .int (x4 + 1)), (0, .ref (ad 17)), (1, .ref (ad (pRace r1))), (2, .int x2), (3, .int x3), (5, .int x5)] dX5_findBest_104 rfl rfl (by decide) rfl 107 rfl ?_
        refine w_goto X 42 dX5_findBest_107 (by decide) ?_
        refine w_keep [1, 2, 3, 4, 0] rfl ?_
        exact hk_42 x2 x3 (x4 + 1) mem hF
      · refine w_aload_n X 0 dX5_findBest_65 rfl rfl 66 rfl ?_
        refine w_aload_n X 1 dX5_findBest_66 rfl rfl 67 rfl ?_
        refine w_iload X 4 dX5_findBest_67 rfl 69 rfl ?_
        refine w_iload_n X 3 dX5_findBest_69 rfl rfl 70 rfl ?_
        refine w_iload X 5 dX5_findBest_70 rfl 72 rfl ?_
        refine w_callVi (fun x => x.1) (fun x => x.2) X hZ hF [.ref (ad (pRace r1)), .int x4, .int x3, .int x5] 17 plt_17 ko_17 rfl rfl rfl kB_X5_admits kL_X5_47 (fun res h => ct_X5_admits l hZ hO fu hr1 x4 x3 x5 mem res h) rfl rfl rfl ⟨Nat.le_of_ble_eq_true rfl, Nat.le_of_ble_eq_true rfl⟩ (Nat.le_of_ble_eq_true rfl) ⟨Nat.zero_le _, Nat.zero_le _⟩ dX5_findBest_72 75 rfl (fun p_4 hF => ?_)
        refine w_if_eq X hF 98 78 dX5_findBest_75 (by decide) rfl (fun hF => ?_) (fun hF => ?_)
        · refine w_iinc X 5 (x5 + 1) [(5, .int (x5 + 1)), (0, .ref (ad 17)), (1, .ref (ad (pRace r1))), (2, .int x2), (3, .int x3), (4, .int x4)] dX5_findBest_98 rfl rfl (by decide) rfl 101 rfl ?_
          refine w_goto X 59 dX5_findBest_101 (by decide) ?_
          refine w_keep [1, 2, 3, 4, 5, 0] rfl ?_
          exact ih x2 x3 x4 (x5 + 1) p_4.2 hF
        · refine w_aload_n X 0 dX5_findBest_78 rfl rfl 79 rfl ?_
          refine w_aload_n X 0 dX5_findBest_79 rfl rfl 80 rfl ?_
          refine w_aload_n X 1 dX5_findBest_80 rfl rfl 81 rfl ?_
          refine w_iload_n X 2 dX5_findBest_81 rfl rfl 82 rfl ?_
          refine w_iload X 4 dX5_findBest_82 rfl 84 rfl ?_
          refine w_iload_n X 3 dX5_findBest_84 rfl rfl 85 rfl ?_
          refine w_iload X 5 dX5_findBest_85 rfl 87 rfl ?_
          refine w_callVi (fun x => x.1) (fun x => x.2) X hZ hF [.ref (ad (pRace r1)), .int x2, .int x4, .int x3, .int x5] 17 plt_17 ko_17 rfl rfl rfl kB_X5_loss kL_X5_123 (fun res h => ct_X5_loss l hZ hO fu hr1 x2 x4 x3 x5 p_4.2 res h) rfl rfl rfl ⟨Nat.le_of_ble_eq_true rfl, Nat.le_of_ble_eq_true rfl⟩ (Nat.le_of_ble_eq_true rfl) ⟨Nat.zero_le _, Nat.zero_le _⟩ dX5_findBest_87 90 rfl (fun p_5 hF => ?_)
          refine w_iload X 4 dX5_findBest_90 rfl 92 rfl ?_
          refine w_iload_n X 3 dX5_findBest_92 rfl rfl 93 rfl ?_
          refine w_iload X 5 dX5_findBest_93 rfl 95 rfl ?_
          refine w_callVv (fun m => m) X hZ hF [.int p_5.1, .int x4, .int x3, .int x5] 17 plt_17 ko_17 rfl rfl rfl kB_X5_keepBetter kL_X5_127 (fun res h => ct_X5_keepBetter l hZ hO fu p_5.1 x4 x3 x5 p_5.2 res h) rfl rfl rfl ⟨Nat.le_of_ble_eq_true rfl, Nat.le_of_ble_eq_true rfl⟩ (Nat.le_of_ble_eq_true rfl) ⟨Nat.zero_le _, Nat.zero_le _⟩ dX5_findBest_95 98 rfl (fun m_6 hF => ?_)
          refine w_iinc X 5 (x5 + 1) [(5, .int (x5 + 1)), (0, .ref (ad 17)), (1, .ref (ad (pRace r1))), (2, .int x2), (3, .int x3), (4, .int x4)] dX5_findBest_98 rfl rfl (by decide) rfl 101 rfl ?_
          refine w_goto X 59 dX5_findBest_101 (by decide) ?_
          refine w_keep [1, 2, 3, 4, 5, 0] rfl ?_
          exact ih x2 x3 x4 (x5 + 1) m_6 hF
  have w_42 : ∀ (k_26 : Int32 → Int32 → Mem → Option (Int32 × Mem)) (hk_26 : ∀ (x2 : Int32) (x3 : Int32) (mem : Mem), k_26 x2 x3 mem = some res → WW D 255 ad (cC ca ad) p l e rm_X5_findBest s m args below meth c 6 0 0 Q mem 26 [(0, .ref (ad 17)), (1, .ref (ad (pRace r1))), (2, .int x2), (3, .int x3)] []) (n : Nat) (x2 : Int32) (x3 : Int32) (x4 : Int32) (mem : Mem), K_X5_findBest_42 fu r1 k_26 n x2 x3 x4 mem = some res → WW D 255 ad (cC ca ad) p l e rm_X5_findBest s m args below meth c 6 0 0 Q mem 42 [(0, .ref (ad 17)), (1, .ref (ad (pRace r1))), (2, .int x2), (3, .int x3), (4, .int x4)] [] := by
    intro k_26 hk_26 n
    induction n with
    | zero => intro x2 x3 x4 mem hF; exact no_none (show (none : Option (Int32 × Mem)) = some res from hF)
    | succ n ih =>
      intro x2 x3 x4 mem hF
      rw [K_X5_findBest_42] at hF
      refine w_iload X 4 dX5_findBest_42 rfl 44 rfl ?_
      refine w_aload_n X 1 dX5_findBest_44 rfl rfl 45 rfl ?_
      refine w_getV (v := .ref (ad (pBoard r1))) X (pRace r1) (lt_Race hr1) ko_Race (T := TX6) (N := 8) rfl in_X6 0 (by decide) kF_X5_31 rfl rfl dX5_findBest_45 48 rfl ?_
      refine w_getV (v := .int (rd mem (pBoard r1) 0)) X (pBoard r1) (lt_Board hr1) ko_Board (T := TX2) (N := 5) rfl in_X2 0 (by decide) kF_X5_71 rfl rfl dX5_findBest_48 51 rfl ?_
      refine w_iconst X 1 dX5_findBest_51 rfl 52 rfl ?_
      refine w_isub X dX5_findBest_52 53 rfl ?_
      refine w_icmp_ge X hF 110 56 dX5_findBest_53 (by decide) rfl (fun hF => ?_) (fun hF => ?_)
      · refine w_iconst X 0 dX5_findBest_56 rfl 57 rfl ?_
        refine w_istore X [(5, .int 0), (0, .ref (ad 17)), (1, .ref (ad (pRace r1))), (2, .int x2), (3, .int x3), (4, .int x4)] dX5_findBest_57 (by decide) rfl 59 rfl ?_
        refine w_keep [1, 2, 3, 4, 5, 0] rfl ?_
        exact w_59 k_26 hk_26 (K_X5_findBest_42 fu r1 k_26 n) ih fu x2 x3 x4 0 mem hF
      · refine w_iinc X 3 (x3 + 1) [(3, .int (x3 + 1)), (0, .ref (ad 17)), (1, .ref (ad (pRace r1))), (2, .int x2), (4, .int x4)] dX5_findBest_110 rfl rfl (by decide) rfl 113 rfl ?_
        refine w_goto X 26 dX5_findBest_113 (by decide) ?_
        refine w_keep [1, 2, 3, 0] rfl ?_
        exact hk_26 x2 (x3 + 1) mem hF
  have w_26 : ∀ (n : Nat) (x2 : Int32) (x3 : Int32) (mem : Mem), K_X5_findBest_26 fu r1 n x2 x3 mem = some res → WW D 255 ad (cC ca ad) p l e rm_X5_findBest s m args below meth c 6 0 0 Q mem 26 [(0, .ref (ad 17)), (1, .ref (ad (pRace r1))), (2, .int x2), (3, .int x3)] [] := by
    intro n
    induction n with
    | zero => intro x2 x3 mem hF; exact no_none (show (none : Option (Int32 × Mem)) = some res from hF)
    | succ n ih =>
      intro x2 x3 mem hF
      rw [K_X5_findBest_26] at hF
      refine w_iload_n X 3 dX5_findBest_26 rfl rfl 27 rfl ?_
      refine w_aload_n X 1 dX5_findBest_27 rfl rfl 28 rfl ?_
      refine w_getV (v := .ref (ad (pBoard r1))) X (pRace r1) (lt_Race hr1) ko_Race (T := TX6) (N := 8) rfl in_X6 0 (by decide) kF_X5_31 rfl rfl dX5_findBest_28 31 rfl ?_
      refine w_getV (v := .int (rd mem (pBoard r1) 1)) X (pBoard r1) (lt_Board hr1) ko_Board (T := TX2) (N := 5) rfl in_X2 1 (by decide) kF_X5_66 rfl rfl dX5_findBest_31 34 rfl ?_
      refine w_iconst X 1 dX5_findBest_34 rfl 35 rfl ?_
      refine w_isub X dX5_findBest_35 36 rfl ?_
      refine w_icmp_ge X hF 116 39 dX5_findBest_36 (by decide) rfl (fun hF => ?_) (fun hF => ?_)
      · refine w_iconst X 0 dX5_findBest_39 rfl 40 rfl ?_
        refine w_istore X [(4, .int 0), (0, .ref (ad 17)), (1, .ref (ad (pRace r1))), (2, .int x2), (3, .int x3)] dX5_findBest_40 (by decide) rfl 42 rfl ?_
        refine w_keep [1, 2, 3, 4, 0] rfl ?_
        exact w_42 (K_X5_findBest_26 fu r1 n) ih fu x2 x3 0 mem hF
      · refine w_aload_n X 0 dX5_findBest_116 rfl rfl 117 rfl ?_
        refine w_getV (v := .int (rd mem 17 6)) X 17 plt_17 ko_17 (T := TX5) (N := 7) rfl in_X5 6 (by decide) kF_X5_120 rfl rfl dX5_findBest_117 120 rfl ?_
        refine w_iconst X (-1) dX5_findBest_120 rfl 121 rfl ?_
        refine w_icmp_eq X hF 128 124 dX5_findBest_121 (by decide) rfl (fun hF => ?_) (fun hF => ?_)
        · refine w_iconst X 0 dX5_findBest_128 rfl 129 rfl ?_
          exact w_iret X hQ (o_inj1 hF) (o_inj2 hF) rfl dX5_findBest_129
        · refine w_iconst X 1 dX5_findBest_124 rfl 125 rfl ?_
          refine w_goto X 129 dX5_findBest_125 (by decide) ?_
          exact w_iret X hQ (o_inj1 hF) (o_inj2 hF) rfl dX5_findBest_129
  intro hF
  refine w_aload_n X 0 dX5_findBest_0 rfl rfl 1 rfl ?_
  refine w_iconst X (-1) dX5_findBest_1 rfl 2 rfl ?_
  refine w_putI X 17 plt_17 ko_17 (T := TX5) (N := 7) rfl in_X5 tyX5 tyX5_ok nmX5 6 (by decide) kF_X5_120 rfl rfl rfl rfl (Nat.le_of_ble_eq_true rfl) rfl dX5_findBest_2 5 rfl ?_
  refine w_letm hF (fun m_1 hF => ?_)
  refine w_aload_n X 1 dX5_findBest_5 rfl rfl 6 rfl ?_
  refine w_getV (v := .ref (ad (pPawns r1))) X (pRace r1) (lt_Race hr1) ko_Race (T := TX6) (N := 8) rfl in_X6 1 (by decide) kF_X5_35 rfl rfl dX5_findBest_6 9 rfl ?_
  refine w_iload_n X 2 dX5_findBest_9 rfl rfl 10 rfl ?_
  refine w_gi hF (fun h_2 hF => ?_)
  refine w_aal X (pPawns r1) (lt_Pawns hr1) (pPawn r1 (Int32.toNatClampNeg x2)) ko_Pawns (t0 := 2) rfl h_2 (el_Pawns (vp_lt h_2)) dX5_findBest_10 11 rfl ?_
  refine w_getV (v := .int (rd m_1 (pPawn r1 (Int32.toNatClampNeg x2)) 5)) X (pPawn r1 (Int32.toNatClampNeg x2)) (lt_Pawn hr1 (vp_lt h_2)) (ko_Pawn (vp_lt h_2)) (T := TX4) (N := 6) rfl in_X4 5 (by decide) kF_X5_109 rfl rfl dX5_findBest_11 14 rfl ?_
  refine w_if_eq X hF 19 17 dX5_findBest_14 (by decide) rfl (fun hF => ?_) (fun hF => ?_)
  · refine w_aload_n X 0 dX5_findBest_19 rfl rfl 20 rfl ?_
    refine w_aload_n X 1 dX5_findBest_20 rfl rfl 21 rfl ?_
    refine w_callVv (fun m => m) X hZ hF [.ref (ad (pRace r1))] 17 plt_17 ko_17 rfl rfl rfl kB_X5_markTrails kL_X5_43 (fun res h => ct_X5_markTrails l hZ hO fu hr1 m_1 res h) rfl rfl rfl ⟨Nat.le_of_ble_eq_true rfl, Nat.le_of_ble_eq_true rfl⟩ (Nat.le_of_ble_eq_true rfl) ⟨Nat.zero_le _, Nat.zero_le _⟩ dX5_findBest_21 24 rfl (fun m_3 hF => ?_)
    refine w_iconst X 0 dX5_findBest_24 rfl 25 rfl ?_
    refine w_istore_n X [(3, .int 0), (0, .ref (ad 17)), (1, .ref (ad (pRace r1))), (2, .int x2)] dX5_findBest_25 rfl (by decide) rfl 26 rfl ?_
    refine w_keep [1, 2, 3, 0] rfl ?_
    exact w_26 fu x2 0 m_3 hF
  · refine w_iconst X 0 dX5_findBest_17 rfl 18 rfl ?_
    exact w_iret X hQ (o_inj1 hF) (o_inj2 hF) rfl dX5_findBest_18

def K_X5_admitsNow (fu : Nat) (r1 : Nat) (x2 : Int32) (x3 : Int32) (x4 : Int32) (mem : Mem) : Option (Int32 × Mem) := bd (K_X5_markTrails fu r1 mem) (fun m_1 => bd (K_X5_admits fu r1 x2 x3 x4 m_1) (fun p_2 => gb p_2.1 (some (p_2.1, p_2.2))))
def rm_X5_admitsNow : Room := { frames := 3, cells := 0, slots := 0, locals := 82 }
set_option maxHeartbeats 4000000 in
set_option maxRecDepth 100000 in
theorem ct_X5_admitsNow (l : Launch) {D : va_G} {ca ad : Nat → Nat} {Z : (Nat → Prop) → State → Heap → Prop} (hZ : ZOK Z) {tO : Nat} {sK sV : Nat → Nat} (hO : ZO Z tO sK sV) (fu : Nat) {r1 : Nat} (hr1 : r1 < 10) (x2 : Int32) (x3 : Int32) (x4 : Int32) (mem : Mem) (res : (Int32 × Mem)) (hF : K_X5_admitsNow fu r1 x2 x3 x4 mem = some res) : CI l D (tyL ca) 255 ad (cC ca ad) Z yX5_admitsNow cX5_admitsNow 5 .boolean rm_X5_admitsNow [.ref (ad 17), .ref (ad (pRace r1)), .int x2, .int x3, .int x4] mem res.1 res.2 := by
  refine start_i (own := RX5) rfl (by decide) (Nat.le_of_ble_eq_true rfl) ?_
  intro p e s m args below meth c Q hQ X
  rw [K_X5_admitsNow] at hF
  revert hF
  intro hF
  refine w_aload_n X 0 dX5_admitsNow_0 rfl rfl 1 rfl ?_
  refine w_aload_n X 1 dX5_admitsNow_1 rfl rfl 2 rfl ?_
  refine w_callVv (fun m => m) X hZ hF [.ref (ad (pRace r1))] 17 plt_17 ko_17 rfl rfl rfl kB_X5_markTrails kL_X5_43 (fun res h => ct_X5_markTrails l hZ hO fu hr1 mem res h) rfl rfl rfl ⟨Nat.le_of_ble_eq_true rfl, Nat.le_of_ble_eq_true rfl⟩ (Nat.le_of_ble_eq_true rfl) ⟨Nat.zero_le _, Nat.zero_le _⟩ dX5_admitsNow_2 5 rfl (fun m_1 hF => ?_)
  refine w_aload_n X 0 dX5_admitsNow_5 rfl rfl 6 rfl ?_
  refine w_aload_n X 1 dX5_admitsNow_6 rfl rfl 7 rfl ?_
  refine w_iload_n X 2 dX5_admitsNow_7 rfl rfl 8 rfl ?_
  refine w_iload_n X 3 dX5_admitsNow_8 rfl rfl 9 rfl ?_
  refine w_iload X 4 dX5_admitsNow_9 rfl 11 rfl ?_
  refine w_callVi (fun x => x.1) (fun x => x.2) X hZ hF [.ref (ad (pRace r1)), .int x2, .int x3, .int x4] 17 plt_17 ko_17 rfl rfl rfl kB_X5_admits kL_X5_47 (fun res h => ct_X5_admits l hZ hO fu hr1 x2 x3 x4 m_1 res h) rfl rfl rfl ⟨Nat.le_of_ble_eq_true rfl, Nat.le_of_ble_eq_true rfl⟩ (Nat.le_of_ble_eq_true rfl) ⟨Nat.zero_le _, Nat.zero_le _⟩ dX5_admitsNow_11 14 rfl (fun p_2 hF => ?_)
  refine w_gb hF (fun h_3 hF => ?_)
  exact w_iret X hQ (o_inj1 hF) (o_inj2 hF) (bool_nar h_3) dX5_admitsNow_14

def K_X5_mayBuild (fu : Nat) (r1 : Nat) (x2 : Int32) (x3 : Int32) (x4 : Int32) (mem : Mem) : Option (Int32 × Mem) := bd (K_X6_hasEnded fu r1 mem) (fun x_1 => (if x_1 = 0 then gi (rd mem (pRace r1) 6) 4 ((if 0 < (rd mem (pPawn r1 (Int32.toNatClampNeg (rd mem (pRace r1) 6))) 2) then bd (K_X5_admitsNow fu r1 x2 x3 x4 mem) (fun p_3 => (if p_3.1 = 0 then some (0, p_3.2) else some (1, p_3.2))) else some (0, mem))) else some (0, mem)))
def rm_X5_mayBuild : Room := { frames := 4, cells := 0, slots := 0, locals := 106 }
set_option maxHeartbeats 4000000 in
set_option maxRecDepth 100000 in
theorem ct_X5_mayBuild (l : Launch) {D : va_G} {ca ad : Nat → Nat} {Z : (Nat → Prop) → State → Heap → Prop} (hZ : ZOK Z) {tO : Nat} {sK sV : Nat → Nat} (hO : ZO Z tO sK sV) (fu : Nat) {r1 : Nat} (hr1 : r1 < 10) (x2 : Int32) (x3 : Int32) (x4 : Int32) (mem : Mem) (res : (Int32 × Mem)) (hF : K_X5_mayBuild fu r1 x2 x3 x4 mem = some res) : CI l D (tyL ca) 255 ad (cC ca ad) Z yX5_mayBuild cX5_mayBuild 5 .boolean rm_X5_mayBuild [.ref (ad 17), .ref (ad (pRace r1)), .int x2, .int x3, .int x4] mem res.1 res.2 := by
  refine start_i (own := RX5) rfl (by decide) (Nat.le_of_ble_eq_true rfl) ?_
  intro p e s m args below meth c Q hQ X
  rw [K_X5_mayBuild] at hF
  revert hF
  intro hF
  refine w_aload_n X 1 dX5_mayBuild_0 rfl rfl 1 rfl ?_
  refine w_callVi (fun x => x) (fun _ => mem) X hZ hF [] (pRace r1) (lt_Race hr1) ko_Race rfl rfl rfl kB_X6_hasEnded kL_X5_51 (fun res h => ct_X6_hasEnded l hZ hO fu hr1 mem res h) rfl rfl rfl ⟨Nat.le_of_ble_eq_true rfl, Nat.le_of_ble_eq_true rfl⟩ (Nat.le_of_ble_eq_true rfl) ⟨Nat.zero_le _, Nat.zero_le _⟩ dX5_mayBuild_1 4 rfl (fun x_1 hF => ?_)
  refine w_if_ne X hF 38 7 dX5_mayBuild_4 (by decide) rfl (fun hF => ?_) (fun hF => ?_)
  · refine w_aload_n X 1 dX5_mayBuild_7 rfl rfl 8 rfl ?_
    refine w_getV (v := .ref (ad (pPawns r1))) X (pRace r1) (lt_Race hr1) ko_Race (T := TX6) (N := 8) rfl in_X6 1 (by decide) kF_X5_35 rfl rfl dX5_mayBuild_8 11 rfl ?_
    refine w_aload_n X 1 dX5_mayBuild_11 rfl rfl 12 rfl ?_
    refine w_getV (v := .int (rd mem (pRace r1) 6)) X (pRace r1) (lt_Race hr1) ko_Race (T := TX6) (N := 8) rfl in_X6 6 (by decide) kF_X5_55 rfl rfl dX5_mayBuild_12 15 rfl ?_
    refine w_gi hF (fun h_2 hF => ?_)
    refine w_aal X (pPawns r1) (lt_Pawns hr1) (pPawn r1 (Int32.toNatClampNeg (rd mem (pRace r1) 6))) ko_Pawns (t0 := 2) rfl h_2 (el_Pawns (vp_lt h_2)) dX5_mayBuild_15 16 rfl ?_
    refine w_getV (v := .int (rd mem (pPawn r1 (Int32.toNatClampNeg (rd mem (pRace r1) 6))) 2)) X (pPawn r1 (Int32.toNatClampNeg (rd mem (pRace r1) 6))) (lt_Pawn hr1 (vp_lt h_2)) (ko_Pawn (vp_lt h_2)) (T := TX4) (N := 6) rfl in_X4 2 (by decide) kF_X5_58 rfl rfl dX5_mayBuild_16 19 rfl ?_
    refine w_if_le X hF 38 22 dX5_mayBuild_19 (by decide) rfl (fun hF => ?_) (fun hF => ?_)
    · refine w_aload_n X 0 dX5_mayBuild_22 rfl rfl 23 rfl ?_
      refine w_aload_n X 1 dX5_mayBuild_23 rfl rfl 24 rfl ?_
      refine w_iload_n X 2 dX5_mayBuild_24 rfl rfl 25 rfl ?_
      refine w_iload_n X 3 dX5_mayBuild_25 rfl rfl 26 rfl ?_
      refine w_iload X 4 dX5_mayBuild_26 rfl 28 rfl ?_
      refine w_callVi (fun x => x.1) (fun x => x.2) X hZ hF [.ref (ad (pRace r1)), .int x2, .int x3, .int x4] 17 plt_17 ko_17 rfl rfl rfl kB_X5_admitsNow kL_X5_63 (fun res h => ct_X5_admitsNow l hZ hO fu hr1 x2 x3 x4 mem res h) rfl rfl rfl ⟨Nat.le_of_ble_eq_true rfl, Nat.le_of_ble_eq_true rfl⟩ (Nat.le_of_ble_eq_true rfl) ⟨Nat.zero_le _, Nat.zero_le _⟩ dX5_mayBuild_28 31 rfl (fun p_3 hF => ?_)
      refine w_if_eq X hF 38 34 dX5_mayBuild_31 (by decide) rfl (fun hF => ?_) (fun hF => ?_)
      · refine w_iconst X 0 dX5_mayBuild_38 rfl 39 rfl ?_
        exact w_iret X hQ (o_inj1 hF) (o_inj2 hF) rfl dX5_mayBuild_39
      · refine w_iconst X 1 dX5_mayBuild_34 rfl 35 rfl ?_
        refine w_goto X 39 dX5_mayBuild_35 (by decide) ?_
        exact w_iret X hQ (o_inj1 hF) (o_inj2 hF) rfl dX5_mayBuild_39
    · refine w_iconst X 0 dX5_mayBuild_38 rfl 39 rfl ?_
      exact w_iret X hQ (o_inj1 hF) (o_inj2 hF) rfl dX5_mayBuild_39
  · refine w_iconst X 0 dX5_mayBuild_38 rfl 39 rfl ?_
    exact w_iret X hQ (o_inj1 hF) (o_inj2 hF) rfl dX5_mayBuild_39

def K_X2_copyFrom (fu : Nat) (r : Nat) (r1 : Nat) (mem : Mem) : Option Mem := lt_ (mw mem (pBoard r) 0 (rd mem (pBoard r1) 0)) (fun m_1 => lt_ (mw m_1 (pBoard r) 1 (rd m_1 (pBoard r1) 1)) (fun m_2 => lt_ (mw m_2 (pBoard r) 2 (rd m_2 (pBoard r1) 2)) (fun m_3 => lt_ (mr m_3 (pBuilt r) (va_cpy (m_3 (pBuilt r1)).1 (m_3 (pBuilt r)).1 0 0 64, (m_3 (pBuilt r)).2)) (fun m_4 => lt_ (mr m_4 (pOpen r) (va_cpy (m_4 (pOpen r1)).1 (m_4 (pOpen r)).1 0 0 81, (m_4 (pOpen r)).2)) (fun m_5 => some m_5)))))
def rm_X2_copyFrom : Room := { frames := 1, cells := 0, slots := 0, locals := 40 }
set_option maxHeartbeats 4000000 in
set_option maxRecDepth 100000 in
theorem ct_X2_copyFrom (l : Launch) {D : va_G} {ca ad : Nat → Nat} {Z : (Nat → Prop) → State → Heap → Prop} (hZ : ZOK Z) {tO : Nat} {sK sV : Nat → Nat} (hO : ZO Z tO sK sV) (fu : Nat) {r : Nat} (hr : r < 10) {r1 : Nat} (hr1 : r1 < 10) (mem : Mem) (res : Mem) (hF : K_X2_copyFrom fu r r1 mem = some res) : CV l D (tyL ca) 255 ad (cC ca ad) Z yX2_copyFrom cX2_copyFrom 2 rm_X2_copyFrom [.ref (ad (pBoard r)), .ref (ad (pBoard r1))] mem res := by
  refine start_v (own := RX2) rfl (by decide) (Nat.le_of_ble_eq_true rfl) ?_
  intro p e s m args below meth c Q hQ X
  rw [K_X2_copyFrom] at hF
  revert hF
  intro hF
  refine w_aload_n X 0 dX2_copyFrom_0 rfl rfl 1 rfl ?_
  refine w_aload_n X 1 dX2_copyFrom_1 rfl rfl 2 rfl ?_
  refine w_getV (v := .int (rd mem (pBoard r1) 0)) X (pBoard r1) (lt_Board hr1) ko_Board (T := TX2) (N := 5) rfl in_X2 0 (by decide) kF_X2_22 rfl rfl dX2_copyFrom_2 5 rfl ?_
  refine w_putI X (pBoard r) (lt_Board hr) ko_Board (T := TX2) (N := 5) rfl in_X2 tyX2 tyX2_ok nmX2 0 (by decide) kF_X2_22 rfl rfl rfl rfl (Nat.le_of_ble_eq_true rfl) rfl dX2_copyFrom_5 8 rfl ?_
  refine w_letm hF (fun m_1 hF => ?_)
  refine w_aload_n X 0 dX2_copyFrom_8 rfl rfl 9 rfl ?_
  refine w_aload_n X 1 dX2_copyFrom_9 rfl rfl 10 rfl ?_
  refine w_getV (v := .int (rd m_1 (pBoard r1) 1)) X (pBoard r1) (lt_Board hr1) ko_Board (T := TX2) (N := 5) rfl in_X2 1 (by decide) kF_X2_26 rfl rfl dX2_copyFrom_10 13 rfl ?_
  refine w_putI X (pBoard r) (lt_Board hr) ko_Board (T := TX2) (N := 5) rfl in_X2 tyX2 tyX2_ok nmX2 1 (by decide) kF_X2_26 rfl rfl rfl rfl (Nat.le_of_ble_eq_true rfl) rfl dX2_copyFrom_13 16 rfl ?_
  refine w_letm hF (fun m_2 hF => ?_)
  refine w_aload_n X 0 dX2_copyFrom_16 rfl rfl 17 rfl ?_
  refine w_aload_n X 1 dX2_copyFrom_17 rfl rfl 18 rfl ?_
  refine w_getV (v := .int (rd m_2 (pBoard r1) 2)) X (pBoard r1) (lt_Board hr1) ko_Board (T := TX2) (N := 5) rfl in_X2 2 (by decide) kF_X2_29 rfl rfl dX2_copyFrom_18 21 rfl ?_
  refine w_putI X (pBoard r) (lt_Board hr) ko_Board (T := TX2) (N := 5) rfl in_X2 tyX2 tyX2_ok nmX2 2 (by decide) kF_X2_29 rfl rfl rfl rfl (Nat.le_of_ble_eq_true rfl) rfl dX2_copyFrom_21 24 rfl ?_
  refine w_letm hF (fun m_3 hF => ?_)
  refine w_aload_n X 1 dX2_copyFrom_24 rfl rfl 25 rfl ?_
  refine w_getV (v := .ref (ad (pBuilt r1))) X (pBoard r1) (lt_Board hr1) ko_Board (T := TX2) (N := 5) rfl in_X2 3 (by decide) kF_X2_9 rfl rfl dX2_copyFrom_25 28 rfl ?_
  refine w_iconst X 0 dX2_copyFrom_28 rfl 29 rfl ?_
  refine w_aload_n X 0 dX2_copyFrom_29 rfl rfl 30 rfl ?_
  refine w_getV (v := .ref (ad (pBuilt r))) X (pBoard r) (lt_Board hr) ko_Board (T := TX2) (N := 5) rfl in_X2 3 (by decide) kF_X2_9 rfl rfl dX2_copyFrom_30 33 rfl ?_
  refine w_iconst X 0 dX2_copyFrom_33 rfl 34 rfl ?_
  refine w_bipush X 64 dX2_copyFrom_34 rfl 36 rfl ?_
  refine w_copy (t0 := 0) X 64 rfl (by decide) (lt_Built hr1) (lt_Built hr) ko_Built ko_Built rfl (by decide) (by decide) kL_X2_46 kNat kStat kSys (Nat.le_of_ble_eq_true rfl) (Nat.le_of_ble_eq_true rfl) dX2_copyFrom_36 39 rfl ?_
  refine w_letm hF (fun m_4 hF => ?_)
  refine w_aload_n X 1 dX2_copyFrom_39 rfl rfl 40 rfl ?_
  refine w_getV (v := .ref (ad (pOpen r1))) X (pBoard r1) (lt_Board hr1) ko_Board (T := TX2) (N := 5) rfl in_X2 4 (by decide) kF_X2_15 rfl rfl dX2_copyFrom_40 43 rfl ?_
  refine w_iconst X 0 dX2_copyFrom_43 rfl 44 rfl ?_
  refine w_aload_n X 0 dX2_copyFrom_44 rfl rfl 45 rfl ?_
  refine w_getV (v := .ref (ad (pOpen r))) X (pBoard r) (lt_Board hr) ko_Board (T := TX2) (N := 5) rfl in_X2 4 (by decide) kF_X2_15 rfl rfl dX2_copyFrom_45 48 rfl ?_
  refine w_iconst X 0 dX2_copyFrom_48 rfl 49 rfl ?_
  refine w_bipush X 81 dX2_copyFrom_49 rfl 51 rfl ?_
  refine w_copy (t0 := 0) X 81 rfl (by decide) (lt_Open hr1) (lt_Open hr) ko_Open ko_Open rfl (by decide) (by decide) kL_X2_46 kNat kStat kSys (Nat.le_of_ble_eq_true rfl) (Nat.le_of_ble_eq_true rfl) dX2_copyFrom_51 54 rfl ?_
  refine w_letm hF (fun m_5 hF => ?_)
  exact w_vret X hQ (o_inj hF) dX2_copyFrom_54

def K_X4_copyFrom (fu : Nat) (r : Nat) (i : Nat) (r1 : Nat) (i1 : Nat) (mem : Mem) : Option Mem := lt_ (mw mem (pPawn r i) 0 (rd mem (pPawn r1 i1) 0)) (fun m_1 => lt_ (mw m_1 (pPawn r i) 1 (rd m_1 (pPawn r1 i1) 1)) (fun m_2 => lt_ (mw m_2 (pPawn r i) 2 (rd m_2 (pPawn r1 i1) 2)) (fun m_3 => lt_ (mw m_3 (pPawn r i) 3 (rd m_3 (pPawn r1 i1) 3)) (fun m_4 => lt_ (mw m_4 (pPawn r i) 4 (rd m_4 (pPawn r1 i1) 4)) (fun m_5 => lt_ (mw m_5 (pPawn r i) 5 (rd m_5 (pPawn r1 i1) 5)) (fun m_6 => some m_6))))))
def rm_X4_copyFrom : Room := { frames := 0, cells := 0, slots := 0, locals := 0 }
set_option maxHeartbeats 4000000 in
set_option maxRecDepth 100000 in
theorem ct_X4_copyFrom (l : Launch) {D : va_G} {ca ad : Nat → Nat} {Z : (Nat → Prop) → State → Heap → Prop} (hZ : ZOK Z) {tO : Nat} {sK sV : Nat → Nat} (hO : ZO Z tO sK sV) (fu : Nat) {r : Nat} (hr : r < 10) {i : Nat} (hi : i < 4) {r1 : Nat} (hr1 : r1 < 10) {i1 : Nat} (hi1 : i1 < 4) (mem : Mem) (res : Mem) (hF : K_X4_copyFrom fu r i r1 i1 mem = some res) : CV l D (tyL ca) 255 ad (cC ca ad) Z yX4_copyFrom cX4_copyFrom 2 rm_X4_copyFrom [.ref (ad (pPawn r i)), .ref (ad (pPawn r1 i1))] mem res := by
  refine start_v (own := RX4) rfl (by decide) (Nat.le_of_ble_eq_true rfl) ?_
  intro p e s m args below meth c Q hQ X
  rw [K_X4_copyFrom] at hF
  revert hF
  intro hF
  refine w_aload_n X 0 dX4_copyFrom_0 rfl rfl 1 rfl ?_
  refine w_aload_n X 1 dX4_copyFrom_1 rfl rfl 2 rfl ?_
  refine w_getV (v := .int (rd mem (pPawn r1 i1) 0)) X (pPawn r1 i1) (lt_Pawn hr1 hi1) (ko_Pawn hi1) (T := TX4) (N := 6) rfl in_X4 0 (by decide) kF_X4_15 rfl rfl dX4_copyFrom_2 5 rfl ?_
  refine w_putI X (pPawn r i) (lt_Pawn hr hi) (ko_Pawn hi) (T := TX4) (N := 6) rfl in_X4 tyX4 tyX4_ok nmX4 0 (by decide) kF_X4_15 rfl rfl rfl rfl (Nat.le_of_ble_eq_true rfl) rfl dX4_copyFrom_5 8 rfl ?_
  refine w_letm hF (fun m_1 hF => ?_)
  refine w_aload_n X 0 dX4_copyFrom_8 rfl rfl 9 rfl ?_
  refine w_aload_n X 1 dX4_copyFrom_9 rfl rfl 10 rfl ?_
  refine w_getV (v := .int (rd m_1 (pPawn r1 i1) 1)) X (pPawn r1 i1) (lt_Pawn hr1 hi1) (ko_Pawn hi1) (T := TX4) (N := 6) rfl in_X4 1 (by decide) kF_X4_18 rfl rfl dX4_copyFrom_10 13 rfl ?_
  refine w_putI X (pPawn r i) (lt_Pawn hr hi) (ko_Pawn hi) (T := TX4) (N := 6) rfl in_X4 tyX4 tyX4_ok nmX4 1 (by decide) kF_X4_18 rfl rfl rfl rfl (Nat.le_of_ble_eq_true rfl) rfl dX4_copyFrom_13 16 rfl ?_
  refine w_letm hF (fun m_2 hF => ?_)
  refine w_aload_n X 0 dX4_copyFrom_16 rfl rfl 17 rfl ?_
  refine w_aload_n X 1 dX4_copyFrom_17 rfl rfl 18 rfl ?_
  refine w_getV (v := .int (rd m_2 (pPawn r1 i1) 2)) X (pPawn r1 i1) (lt_Pawn hr1 hi1) (ko_Pawn hi1) (T := TX4) (N := 6) rfl in_X4 2 (by decide) kF_X4_21 rfl rfl dX4_copyFrom_18 21 rfl ?_
  refine w_putI X (pPawn r i) (lt_Pawn hr hi) (ko_Pawn hi) (T := TX4) (N := 6) rfl in_X4 tyX4 tyX4_ok nmX4 2 (by decide) kF_X4_21 rfl rfl rfl rfl (Nat.le_of_ble_eq_true rfl) rfl dX4_copyFrom_21 24 rfl ?_
  refine w_letm hF (fun m_3 hF => ?_)
  refine w_aload_n X 0 dX4_copyFrom_24 rfl rfl 25 rfl ?_
  refine w_aload_n X 1 dX4_copyFrom_25 rfl rfl 26 rfl ?_
  refine w_getV (v := .int (rd m_3 (pPawn r1 i1) 3)) X (pPawn r1 i1) (lt_Pawn hr1 hi1) (ko_Pawn hi1) (T := TX4) (N := 6) rfl in_X4 3 (by decide) kF_X4_24 rfl rfl dX4_copyFrom_26 29 rfl ?_
  refine w_putI X (pPawn r i) (lt_Pawn hr hi) (ko_Pawn hi) (T := TX4) (N := 6) rfl in_X4 tyX4 tyX4_ok nmX4 3 (by decide) kF_X4_24 rfl rfl rfl rfl (Nat.le_of_ble_eq_true rfl) rfl dX4_copyFrom_29 32 rfl ?_
  refine w_letm hF (fun m_4 hF => ?_)
  refine w_aload_n X 0 dX4_copyFrom_32 rfl rfl 33 rfl ?_
  refine w_aload_n X 1 dX4_copyFrom_33 rfl rfl 34 rfl ?_
  refine w_getV (v := .int (rd m_4 (pPawn r1 i1) 4)) X (pPawn r1 i1) (lt_Pawn hr1 hi1) (ko_Pawn hi1) (T := TX4) (N := 6) rfl in_X4 4 (by decide) kF_X4_9 rfl rfl dX4_copyFrom_34 37 rfl ?_
  refine w_putI X (pPawn r i) (lt_Pawn hr hi) (ko_Pawn hi) (T := TX4) (N := 6) rfl in_X4 tyX4 tyX4_ok nmX4 4 (by decide) kF_X4_9 rfl rfl rfl rfl (Nat.le_of_ble_eq_true rfl) rfl dX4_copyFrom_37 40 rfl ?_
  refine w_letm hF (fun m_5 hF => ?_)
  refine w_aload_n X 0 dX4_copyFrom_40 rfl rfl 41 rfl ?_
  refine w_aload_n X 1 dX4_copyFrom_41 rfl rfl 42 rfl ?_
  refine w_getV (v := .int (rd m_5 (pPawn r1 i1) 5)) X (pPawn r1 i1) (lt_Pawn hr1 hi1) (ko_Pawn hi1) (T := TX4) (N := 6) rfl in_X4 5 (by decide) kF_X4_27 rfl rfl dX4_copyFrom_42 45 rfl ?_
  refine w_putI X (pPawn r i) (lt_Pawn hr hi) (ko_Pawn hi) (T := TX4) (N := 6) rfl in_X4 tyX4 tyX4_ok nmX4 5 (by decide) kF_X4_27 rfl rfl rfl rfl (Nat.le_of_ble_eq_true rfl) rfl dX4_copyFrom_45 48 rfl ?_
  refine w_letm hF (fun m_6 hF => ?_)
  exact w_vret X hQ (o_inj hF) dX4_copyFrom_48

def K_X6_copyFrom_41 (fu : Nat) (r : Nat) (r1 : Nat) : Nat → Int32 → Mem → Option Mem
  | 0, _, _ => none
  | n + 1, x2, mem => (if x2 < 12 then gi x2 12 (gi x2 12 (bd (K_X0_copyFrom fu r (Int32.toNatClampNeg x2) r1 (Int32.toNatClampNeg x2) mem) (fun m_7 => (K_X6_copyFrom_41 fu r r1 n (x2 + 1) m_7)))) else lt_ (mw mem (pRace r) 2 (rd mem (pRace r1) 2)) (fun m_8 => lt_ (mw m_8 (pRace r) 4 (rd m_8 (pRace r1) 4)) (fun m_9 => lt_ (mw m_9 (pRace r) 5 (rd m_9 (pRace r1) 5)) (fun m_10 => lt_ (mw m_10 (pRace r) 6 (rd m_10 (pRace r1) 6)) (fun m_11 => lt_ (mw m_11 (pRace r) 7 (rd m_11 (pRace r1) 7)) (fun m_12 => some m_12))))))
def K_X6_copyFrom_13 (fu : Nat) (r : Nat) (r1 : Nat) : Nat → Int32 → Mem → Option Mem
  | 0, _, _ => none
  | n + 1, x2, mem => (if x2 < 4 then gi x2 4 (gi x2 4 (bd (K_X4_copyFrom fu r (Int32.toNatClampNeg x2) r1 (Int32.toNatClampNeg x2) mem) (fun m_4 => (K_X6_copyFrom_13 fu r r1 n (x2 + 1) m_4)))) else (K_X6_copyFrom_41 fu r r1 fu 0 mem))
def K_X6_copyFrom (fu : Nat) (r : Nat) (r1 : Nat) (mem : Mem) : Option Mem := bd (K_X2_copyFrom fu r r1 mem) (fun m_1 => (K_X6_copyFrom_13 fu r r1 fu 0 m_1))
def rm_X6_copyFrom : Room := { frames := 2, cells := 0, slots := 0, locals := 61 }
set_option maxHeartbeats 4000000 in
set_option maxRecDepth 100000 in
theorem ct_X6_copyFrom (l : Launch) {D : va_G} {ca ad : Nat → Nat} {Z : (Nat → Prop) → State → Heap → Prop} (hZ : ZOK Z) {tO : Nat} {sK sV : Nat → Nat} (hO : ZO Z tO sK sV) (fu : Nat) {r : Nat} (hr : r < 10) {r1 : Nat} (hr1 : r1 < 10) (mem : Mem) (res : Mem) (hF : K_X6_copyFrom fu r r1 mem = some res) : CV l D (tyL ca) 255 ad (cC ca ad) Z yX6_copyFrom cX6_copyFrom 3 rm_X6_copyFrom [.ref (ad (pRace r)), .ref (ad (pRace r1))] mem res := by
  refine start_v (own := RX6) rfl (by decide) (Nat.le_of_ble_eq_true rfl) ?_
  intro p e s m args below meth c Q hQ X
  rw [K_X6_copyFrom] at hF
  revert hF
  have w_41 : ∀ (n : Nat) (x2 : Int32) (mem : Mem), K_X6_copyFrom_41 fu r r1 n x2 mem = some res → WW D 255 ad (cC ca ad) p l e rm_X6_copyFrom s m args below meth c 3 0 0 Q mem 41 [(0, .ref (ad (pRace r))), (1, .ref (ad (pRace r1))), (2, .int x2)] [] := by
    intro n
    induction n with
    | zero => intro x2 mem hF; exact no_none (show (none : Option Mem) = some res from hF)
    | succ n ih =>
      intro x2 mem hF
      rw [K_X6_copyFrom_41] at hF
      refine w_iload_n X 2 dX6_copyFrom_41 rfl rfl 42 rfl ?_
      refine w_bipush X 12 dX6_copyFrom_42 rfl 44 rfl ?_
      refine w_icmp_ge X hF 68 47 dX6_copyFrom_44 (by decide) rfl (fun hF => ?_) (fun hF => ?_)
      · refine w_aload_n X 0 dX6_copyFrom_47 rfl rfl 48 rfl ?_
        refine w_getV (v := .ref (ad (pBans r))) X (pRace r) (lt_Race hr) ko_Race (T := TX6) (N := 8) rfl in_X6 3 (by decide) kF_X6_27 rfl rfl dX6_copyFrom_48 51 rfl ?_
        refine w_iload_n X 2 dX6_copyFrom_51 rfl rfl 52 rfl ?_
        refine w_gi hF (fun h_5 hF => ?_)
        refine w_aal X (pBans r) (lt_Bans hr) (pBan r (Int32.toNatClampNeg x2)) ko_Bans (t0 := 3) rfl h_5 (el_Bans (vp_lt h_5)) dX6_copyFrom_52 53 rfl ?_
        refine w_aload_n X 1 dX6_copyFrom_53 rfl rfl 54 rfl ?_
        refine w_getV (v := .ref (ad (pBans r1))) X (pRace r1) (lt_Race hr1) ko_Race (T := TX6) (N := 8) rfl in_X6 3 (by decide) kF_X6_27 rfl rfl dX6_copyFrom_54 57 rfl ?_
        refine w_iload_n X 2 dX6_copyFrom_57 rfl rfl 58 rfl ?_
        refine w_gi hF (fun h_6 hF => ?_)
        refine w_aal X (pBans r1) (lt_Bans hr1) (pBan r1 (Int32.toNatClampNeg x2)) ko_Bans (t0 := 3) rfl h_6 (el_Bans (vp_lt h_6)) dX6_copyFrom_58 59 rfl ?_
        refine w_callVv (fun m => m) X hZ hF [.ref (ad (pBan r1 (Int32.toNatClampNeg x2)))] (pBan r (Int32.toNatClampNeg x2)) (lt_Ban hr (vp_lt h_5)) (ko_Ban (vp_lt h_5)) rfl rfl rfl kB_X0_copyFrom kL_X6_59 (fun res h => ct_X0_copyFrom l hZ hO fu hr (vp_lt h_5) hr1 (vp_lt h_6) mem res h) rfl rfl rfl ⟨Nat.le_of_ble_eq_true rfl, Nat.le_of_ble_eq_true rfl⟩ (Nat.le_of_ble_eq_true rfl) ⟨Nat.zero_le _, Nat.zero_le _⟩ dX6_copyFrom_59 62 rfl (fun m_7 hF => ?_)
        refine w_iinc X 2 (x2 + 1) [(2, .int (x2 + 1)), (0, .ref (ad (pRace r))), (1, .ref (ad (pRace r1)))] dX6_copyFrom_62 rfl rfl (by decide) rfl 65 rfl ?_
        refine w_goto X 41 dX6_copyFrom_65 (by decide) ?_
        refine w_keep [1, 2, 0] rfl ?_
        exact ih (x2 + 1) m_7 hF
      · refine w_aload_n X 0 dX6_copyFrom_68 rfl rfl 69 rfl ?_
        refine w_aload_n X 1 dX6_copyFrom_69 rfl rfl 70 rfl ?_
        refine w_getV (v := .int (rd mem (pRace r1) 2)) X (pRace r1) (lt_Race hr1) ko_Race (T := TX6) (N := 8) rfl in_X6 2 (by decide) kF_X6_36 rfl rfl dX6_copyFrom_70 73 rfl ?_
        refine w_putI X (pRace r) (lt_Race hr) ko_Race (T := TX6) (N := 8) rfl in_X6 tyX6 tyX6_ok nmX6 2 (by decide) kF_X6_36 rfl rfl rfl rfl (Nat.le_of_ble_eq_true rfl) rfl dX6_copyFrom_73 76 rfl ?_
        refine w_letm hF (fun m_8 hF => ?_)
        refine w_aload_n X 0 dX6_copyFrom_76 rfl rfl 77 rfl ?_
        refine w_aload_n X 1 dX6_copyFrom_77 rfl rfl 78 rfl ?_
        refine w_getV (v := .int (rd m_8 (pRace r1) 4)) X (pRace r1) (lt_Race hr1) ko_Race (T := TX6) (N := 8) rfl in_X6 4 (by decide) kF_X6_40 rfl rfl dX6_copyFrom_78 81 rfl ?_
        refine w_putI X (pRace r) (lt_Race hr) ko_Race (T := TX6) (N := 8) rfl in_X6 tyX6 tyX6_ok nmX6 4 (by decide) kF_X6_40 rfl rfl rfl rfl (Nat.le_of_ble_eq_true rfl) rfl dX6_copyFrom_81 84 rfl ?_
        refine w_letm hF (fun m_9 hF => ?_)
        refine w_aload_n X 0 dX6_copyFrom_84 rfl rfl 85 rfl ?_
        refine w_aload_n X 1 dX6_copyFrom_85 rfl rfl 86 rfl ?_
        refine w_getV (v := .int (rd m_9 (pRace r1) 5)) X (pRace r1) (lt_Race hr1) ko_Race (T := TX6) (N := 8) rfl in_X6 5 (by decide) kF_X6_43 rfl rfl dX6_copyFrom_86 89 rfl ?_
        refine w_putI X (pRace r) (lt_Race hr) ko_Race (T := TX6) (N := 8) rfl in_X6 tyX6 tyX6_ok nmX6 5 (by decide) kF_X6_43 rfl rfl rfl rfl (Nat.le_of_ble_eq_true rfl) rfl dX6_copyFrom_89 92 rfl ?_
        refine w_letm hF (fun m_10 hF => ?_)
        refine w_aload_n X 0 dX6_copyFrom_92 rfl rfl 93 rfl ?_
        refine w_aload_n X 1 dX6_copyFrom_93 rfl rfl 94 rfl ?_
        refine w_getV (v := .int (rd m_10 (pRace r1) 6)) X (pRace r1) (lt_Race hr1) ko_Race (T := TX6) (N := 8) rfl in_X6 6 (by decide) kF_X6_46 rfl rfl dX6_copyFrom_94 97 rfl ?_
        refine w_putI X (pRace r) (lt_Race hr) ko_Race (T := TX6) (N := 8) rfl in_X6 tyX6 tyX6_ok nmX6 6 (by decide) kF_X6_46 rfl rfl rfl rfl (Nat.le_of_ble_eq_true rfl) rfl dX6_copyFrom_97 100 rfl ?_
        refine w_letm hF (fun m_11 hF => ?_)
        refine w_aload_n X 0 dX6_copyFrom_100 rfl rfl 101 rfl ?_
        refine w_aload_n X 1 dX6_copyFrom_101 rfl rfl 102 rfl ?_
        refine w_getV (v := .int (rd m_11 (pRace r1) 7)) X (pRace r1) (lt_Race hr1) ko_Race (T := TX6) (N := 8) rfl in_X6 7 (by decide) kF_X6_49 rfl rfl dX6_copyFrom_102 105 rfl ?_
        refine w_putI X (pRace r) (lt_Race hr) ko_Race (T := TX6) (N := 8) rfl in_X6 tyX6 tyX6_ok nmX6 7 (by decide) kF_X6_49 rfl rfl rfl rfl (Nat.le_of_ble_eq_true rfl) rfl dX6_copyFrom_105 108 rfl ?_
        refine w_letm hF (fun m_12 hF => ?_)
        exact w_vret X hQ (o_inj hF) dX6_copyFrom_108
  have w_13 : ∀ (n : Nat) (x2 : Int32) (mem : Mem), K_X6_copyFrom_13 fu r r1 n x2 mem = some res → WW D 255 ad (cC ca ad) p l e rm_X6_copyFrom s m args below meth c 3 0 0 Q mem 13 [(0, .ref (ad (pRace r))), (1, .ref (ad (pRace r1))), (2, .int x2)] [] := by
    intro n
    induction n with
    | zero => intro x2 mem hF; exact no_none (show (none : Option Mem) = some res from hF)
    | succ n ih =>
      intro x2 mem hF
      rw [K_X6_copyFrom_13] at hF
      refine w_iload_n X 2 dX6_copyFrom_13 rfl rfl 14 rfl ?_
      refine w_iconst X 4 dX6_copyFrom_14 rfl 15 rfl ?_
      refine w_icmp_ge X hF 39 18 dX6_copyFrom_15 (by decide) rfl (fun hF => ?_) (fun hF => ?_)
      · refine w_aload_n X 0 dX6_copyFrom_18 rfl rfl 19 rfl ?_
        refine w_getV (v := .ref (ad (pPawns r))) X (pRace r) (lt_Race hr) ko_Race (T := TX6) (N := 8) rfl in_X6 1 (by decide) kF_X6_20 rfl rfl dX6_copyFrom_19 22 rfl ?_
        refine w_iload_n X 2 dX6_copyFrom_22 rfl rfl 23 rfl ?_
        refine w_gi hF (fun h_2 hF => ?_)
        refine w_aal X (pPawns r) (lt_Pawns hr) (pPawn r (Int32.toNatClampNeg x2)) ko_Pawns (t0 := 2) rfl h_2 (el_Pawns (vp_lt h_2)) dX6_copyFrom_23 24 rfl ?_
        refine w_aload_n X 1 dX6_copyFrom_24 rfl rfl 25 rfl ?_
        refine w_getV (v := .ref (ad (pPawns r1))) X (pRace r1) (lt_Race hr1) ko_Race (T := TX6) (N := 8) rfl in_X6 1 (by decide) kF_X6_20 rfl rfl dX6_copyFrom_25 28 rfl ?_
        refine w_iload_n X 2 dX6_copyFrom_28 rfl rfl 29 rfl ?_
        refine w_gi hF (fun h_3 hF => ?_)
        refine w_aal X (pPawns r1) (lt_Pawns hr1) (pPawn r1 (Int32.toNatClampNeg x2)) ko_Pawns (t0 := 2) rfl h_3 (el_Pawns (vp_lt h_3)) dX6_copyFrom_29 30 rfl ?_
        refine w_callVv (fun m => m) X hZ hF [.ref (ad (pPawn r1 (Int32.toNatClampNeg x2)))] (pPawn r (Int32.toNatClampNeg x2)) (lt_Pawn hr (vp_lt h_2)) (ko_Pawn (vp_lt h_2)) rfl rfl rfl kB_X4_copyFrom kL_X6_56 (fun res h => ct_X4_copyFrom l hZ hO fu hr (vp_lt h_2) hr1 (vp_lt h_3) mem res h) rfl rfl rfl ⟨Nat.le_of_ble_eq_true rfl, Nat.le_of_ble_eq_true rfl⟩ (Nat.le_of_ble_eq_true rfl) ⟨Nat.zero_le _, Nat.zero_le _⟩ dX6_copyFrom_30 33 rfl (fun m_4 hF => ?_)
        refine w_iinc X 2 (x2 + 1) [(2, .int (x2 + 1)), (0, .ref (ad (pRace r))), (1, .ref (ad (pRace r1)))] dX6_copyFrom_33 rfl rfl (by decide) rfl 36 rfl ?_
        refine w_goto X 13 dX6_copyFrom_36 (by decide) ?_
        refine w_keep [1, 2, 0] rfl ?_
        exact ih (x2 + 1) m_4 hF
      · refine w_iconst X 0 dX6_copyFrom_39 rfl 40 rfl ?_
        refine w_istore_n X [(2, .int 0), (0, .ref (ad (pRace r))), (1, .ref (ad (pRace r1)))] dX6_copyFrom_40 rfl (by decide) rfl 41 rfl ?_
        refine w_keep [1, 2, 0] rfl ?_
        exact w_41 fu 0 mem hF
  intro hF
  refine w_aload_n X 0 dX6_copyFrom_0 rfl rfl 1 rfl ?_
  refine w_getV (v := .ref (ad (pBoard r))) X (pRace r) (lt_Race hr) ko_Race (T := TX6) (N := 8) rfl in_X6 0 (by decide) kF_X6_12 rfl rfl dX6_copyFrom_1 4 rfl ?_
  refine w_aload_n X 1 dX6_copyFrom_4 rfl rfl 5 rfl ?_
  refine w_getV (v := .ref (ad (pBoard r1))) X (pRace r1) (lt_Race hr1) ko_Race (T := TX6) (N := 8) rfl in_X6 0 (by decide) kF_X6_12 rfl rfl dX6_copyFrom_5 8 rfl ?_
  refine w_callVv (fun m => m) X hZ hF [.ref (ad (pBoard r1))] (pBoard r) (lt_Board hr) ko_Board rfl rfl rfl kB_X2_copyFrom kL_X6_52 (fun res h => ct_X2_copyFrom l hZ hO fu hr hr1 mem res h) rfl rfl rfl ⟨Nat.le_of_ble_eq_true rfl, Nat.le_of_ble_eq_true rfl⟩ (Nat.le_of_ble_eq_true rfl) ⟨Nat.zero_le _, Nat.zero_le _⟩ dX6_copyFrom_8 11 rfl (fun m_1 hF => ?_)
  refine w_iconst X 0 dX6_copyFrom_11 rfl 12 rfl ?_
  refine w_istore_n X [(2, .int 0), (0, .ref (ad (pRace r))), (1, .ref (ad (pRace r1)))] dX6_copyFrom_12 rfl (by decide) rfl 13 rfl ?_
  refine w_keep [1, 2, 0] rfl ?_
  exact w_13 fu 0 m_1 hF

def K_X3_keep_35 (fu : Nat) (r1 : Nat) (xs0 : Int32) (mem : Mem) : Option Mem := lt_ (mw mem 33 1 xs0) (fun m_3 => bd (K_J9_min_7cf53 fu ((rd m_3 33 2) + 1) 6 m_3) (fun x_4 => lt_ (mw m_3 33 2 x_4) (fun m_5 => some m_5)))
def K_X3_keep (fu : Nat) (r1 : Nat) (mem : Mem) : Option Mem := gi (rd mem 33 1) 6 (bd (K_X6_copyFrom fu (4 + (Int32.toNatClampNeg (rd mem 33 1))) r1 mem) (fun m_2 => (if ((rd m_2 33 1) + 1) < 6 then (K_X3_keep_35 fu r1 ((rd m_2 33 1) + 1) m_2) else (K_X3_keep_35 fu r1 0 m_2))))
def rm_X3_keep : Room := { frames := 3, cells := 0, slots := 0, locals := 83 }
set_option maxHeartbeats 4000000 in
set_option maxRecDepth 100000 in
theorem ct_X3_keep (l : Launch) {D : va_G} {ca ad : Nat → Nat} {Z : (Nat → Prop) → State → Heap → Prop} (hZ : ZOK Z) {tO : Nat} {sK sV : Nat → Nat} (hO : ZO Z tO sK sV) (fu : Nat) {r1 : Nat} (hr1 : r1 < 10) (mem : Mem) (res : Mem) (hF : K_X3_keep fu r1 mem = some res) : CV l D (tyL ca) 255 ad (cC ca ad) Z yX3_keep cX3_keep 2 rm_X3_keep [.ref (ad 33), .ref (ad (pRace r1))] mem res := by
  refine start_v (own := RX3) rfl (by decide) (Nat.le_of_ble_eq_true rfl) ?_
  intro p e s m args below meth c Q hQ X
  rw [K_X3_keep] at hF
  revert hF
  have w_35 : ∀ (xs0 : Int32) (mem : Mem), K_X3_keep_35 fu r1 xs0 mem = some res → WW D 255 ad (cC ca ad) p l e rm_X3_keep s m args below meth c 2 0 0 Q mem 35 [(0, .ref (ad 33))] [.int xs0, .ref (ad 33)] := by
    intro xs0 mem hF
    rw [K_X3_keep_35] at hF
    refine w_putI X 33 plt_33 ko_33 (T := TX3) (N := 3) rfl in_X3 tyX3 tyX3_ok nmX3 1 (by decide) kF_X3_18 rfl rfl rfl rfl (Nat.le_of_ble_eq_true rfl) rfl dX3_keep_35 38 rfl ?_
    refine w_letm hF (fun m_3 hF => ?_)
    refine w_aload_n X 0 dX3_keep_38 rfl rfl 39 rfl ?_
    refine w_aload_n X 0 dX3_keep_39 rfl rfl 40 rfl ?_
    refine w_getV (v := .int (rd m_3 33 2)) X 33 plt_33 ko_33 (T := TX3) (N := 3) rfl in_X3 2 (by decide) kF_X3_26 rfl rfl dX3_keep_40 43 rfl ?_
    refine w_iconst X 1 dX3_keep_43 rfl 44 rfl ?_
    refine w_iadd X dX3_keep_44 45 rfl ?_
    refine w_bipush X 6 dX3_keep_45 rfl 47 rfl ?_
    refine w_mmin X hF kL_X3_29 ⟨Nat.le_of_ble_eq_true rfl, Nat.le_of_ble_eq_true rfl⟩ (Nat.le_of_ble_eq_true rfl) ⟨Nat.zero_le _, Nat.zero_le _⟩ dX3_keep_47 50 rfl (fun x_4 hF => ?_)
    refine w_putI X 33 plt_33 ko_33 (T := TX3) (N := 3) rfl in_X3 tyX3 tyX3_ok nmX3 2 (by decide) kF_X3_26 rfl rfl rfl rfl (Nat.le_of_ble_eq_true rfl) rfl dX3_keep_50 53 rfl ?_
    refine w_letm hF (fun m_5 hF => ?_)
    exact w_vret X hQ (o_inj hF) dX3_keep_53
  intro hF
  refine w_aload_n X 0 dX3_keep_0 rfl rfl 1 rfl ?_
  refine w_getV (v := .ref (ad 34)) X 33 plt_33 ko_33 (T := TX3) (N := 3) rfl in_X3 0 (by decide) kF_X3_11 rfl rfl dX3_keep_1 4 rfl ?_
  refine w_aload_n X 0 dX3_keep_4 rfl rfl 5 rfl ?_
  refine w_getV (v := .int (rd mem 33 1)) X 33 plt_33 ko_33 (T := TX3) (N := 3) rfl in_X3 1 (by decide) kF_X3_18 rfl rfl dX3_keep_5 8 rfl ?_
  refine w_gi hF (fun h_1 hF => ?_)
  refine w_aal X 34 plt_34 (pRace (4 + (Int32.toNatClampNeg (rd mem 33 1)))) ko_34 (t0 := 4) rfl h_1 (el_Kept (vp_lt h_1)) dX3_keep_8 9 rfl ?_
  refine w_aload_n X 1 dX3_keep_9 rfl rfl 10 rfl ?_
  refine w_callVv (fun m => m) X hZ hF [.ref (ad (pRace r1))] (pRace (4 + (Int32.toNatClampNeg (rd mem 33 1)))) (lt_Race (by have := vp_lt h_1; omega)) ko_Race rfl rfl rfl kB_X6_copyFrom kL_X3_22 (fun res h => ct_X6_copyFrom l hZ hO fu (by have := vp_lt h_1; omega) hr1 mem res h) rfl rfl rfl ⟨Nat.le_of_ble_eq_true rfl, Nat.le_of_ble_eq_true rfl⟩ (Nat.le_of_ble_eq_true rfl) ⟨Nat.zero_le _, Nat.zero_le _⟩ dX3_keep_10 13 rfl (fun m_2 hF => ?_)
  refine w_aload_n X 0 dX3_keep_13 rfl rfl 14 rfl ?_
  refine w_aload_n X 0 dX3_keep_14 rfl rfl 15 rfl ?_
  refine w_getV (v := .int (rd m_2 33 1)) X 33 plt_33 ko_33 (T := TX3) (N := 3) rfl in_X3 1 (by decide) kF_X3_18 rfl rfl dX3_keep_15 18 rfl ?_
  refine w_iconst X 1 dX3_keep_18 rfl 19 rfl ?_
  refine w_iadd X dX3_keep_19 20 rfl ?_
  refine w_bipush X 6 dX3_keep_20 rfl 22 rfl ?_
  refine w_icmp_ge X hF 34 25 dX3_keep_22 (by decide) rfl (fun hF => ?_) (fun hF => ?_)
  · refine w_aload_n X 0 dX3_keep_25 rfl rfl 26 rfl ?_
    refine w_getV (v := .int (rd m_2 33 1)) X 33 plt_33 ko_33 (T := TX3) (N := 3) rfl in_X3 1 (by decide) kF_X3_18 rfl rfl dX3_keep_26 29 rfl ?_
    refine w_iconst X 1 dX3_keep_29 rfl 30 rfl ?_
    refine w_iadd X dX3_keep_30 31 rfl ?_
    refine w_goto X 35 dX3_keep_31 (by decide) ?_
    refine w_keep [0] rfl ?_
    exact w_35 ((rd m_2 33 1) + 1) m_2 hF
  · refine w_iconst X 0 dX3_keep_34 rfl 35 rfl ?_
    refine w_keep [0] rfl ?_
    exact w_35 0 m_2 hF

def K_X6_endTurn_53 (fu : Nat) (r : Nat) (k_12 : Int32 → Mem → Option Mem) (x1 : Int32) (xs0 : Int32) (mem : Mem) : Option Mem := gi xs0 4 ((if (rd mem (pPawn r (Int32.toNatClampNeg xs0)) 5) = 0 then lt_ (mw mem (pRace r) 6 xs0) (fun m_3 => some m_3) else (k_12 (x1 + 1) mem)))
def K_X6_endTurn_12 (fu : Nat) (r : Nat) : Nat → Int32 → Mem → Option Mem
  | 0, _, _ => none
  | n + 1, x1, mem => (if (rd mem (pRace r) 2) < x1 then some mem else (if ((rd mem (pRace r) 6) + x1) < (rd mem (pRace r) 2) then (K_X6_endTurn_53 fu r (K_X6_endTurn_12 fu r n) x1 ((rd mem (pRace r) 6) + x1) mem) else (K_X6_endTurn_53 fu r (K_X6_endTurn_12 fu r n) x1 (((rd mem (pRace r) 6) + x1) - (rd mem (pRace r) 2)) mem)))
def K_X6_endTurn (fu : Nat) (r : Nat) (mem : Mem) : Option Mem := lt_ (mw mem (pRace r) 5 ((rd mem (pRace r) 5) + 1)) (fun m_1 => (K_X6_endTurn_12 fu r fu 1 m_1))
def rm_X6_endTurn : Room := { frames := 0, cells := 0, slots := 0, locals := 0 }
set_option maxHeartbeats 4000000 in
set_option maxRecDepth 100000 in
theorem ct_X6_endTurn (l : Launch) {D : va_G} {ca ad : Nat → Nat} {Z : (Nat → Prop) → State → Heap → Prop} (hZ : ZOK Z) {tO : Nat} {sK sV : Nat → Nat} (hO : ZO Z tO sK sV) (fu : Nat) {r : Nat} (hr : r < 10) (mem : Mem) (res : Mem) (hF : K_X6_endTurn fu r mem = some res) : CV l D (tyL ca) 255 ad (cC ca ad) Z yX6_endTurn cX6_endTurn 3 rm_X6_endTurn [.ref (ad (pRace r))] mem res := by
  refine start_v (own := RX6) rfl (by decide) (Nat.le_of_ble_eq_true rfl) ?_
  intro p e s m args below meth c Q hQ X
  rw [K_X6_endTurn] at hF
  revert hF
  have w_53 : ∀ (k_12 : Int32 → Mem → Option Mem) (hk_12 : ∀ (x1 : Int32) (mem : Mem), k_12 x1 mem = some res → WW D 255 ad (cC ca ad) p l e rm_X6_endTurn s m args below meth c 3 0 0 Q mem 12 [(0, .ref (ad (pRace r))), (1, .int x1)] []) (x1 : Int32) (xs0 : Int32) (mem : Mem), K_X6_endTurn_53 fu r k_12 x1 xs0 mem = some res → WW D 255 ad (cC ca ad) p l e rm_X6_endTurn s m args below meth c 3 0 0 Q mem 53 [(0, .ref (ad (pRace r))), (1, .int x1)] [.int xs0] := by
    intro k_12 hk_12 x1 xs0 mem hF
    rw [K_X6_endTurn_53] at hF
    refine w_istore_n X [(2, .int xs0), (0, .ref (ad (pRace r))), (1, .int x1)] dX6_endTurn_53 rfl (by decide) rfl 54 rfl ?_
    refine w_aload_n X 1 dX6_endTurn_54 rfl rfl 55 rfl ?_
    refine w_getV (v := .ref (ad (pPawns r))) X (pRace r) (lt_Race hr) ko_Race (T := TX6) (N := 8) rfl in_X6 1 (by decide) kF_X6_20 rfl rfl dX6_endTurn_55 58 rfl ?_
    refine w_iload_n X 0 dX6_endTurn_58 rfl rfl 59 rfl ?_
    refine w_gi hF (fun h_2 hF => ?_)
    refine w_aal X (pPawns r) (lt_Pawns hr) (pPawn r (Int32.toNatClampNeg xs0)) ko_Pawns (t0 := 2) rfl h_2 (el_Pawns (vp_lt h_2)) dX6_endTurn_59 60 rfl ?_
    refine w_getV (v := .int (rd mem (pPawn r (Int32.toNatClampNeg xs0)) 5)) X (pPawn r (Int32.toNatClampNeg xs0)) (lt_Pawn hr (vp_lt h_2)) (ko_Pawn (vp_lt h_2)) (T := TX4) (N := 6) rfl in_X4 5 (by decide) kF_X6_77 rfl rfl dX6_endTurn_60 63 rfl ?_
    refine w_if_ne X hF 72 66 dX6_endTurn_63 (by decide) rfl (fun hF => ?_) (fun hF => ?_)
    · refine w_aload_n X 1 dX6_endTurn_66 rfl rfl 67 rfl ?_
      refine w_iload_n X 0 dX6_endTurn_67 rfl rfl 68 rfl ?_
      refine w_putI X (pRace r) (lt_Race hr) ko_Race (T := TX6) (N := 8) rfl in_X6 tyX6 tyX6_ok nmX6 6 (by decide) kF_X6_46 rfl rfl rfl rfl (Nat.le_of_ble_eq_true rfl) rfl dX6_endTurn_68 71 rfl ?_
      refine w_letm hF (fun m_3 hF => ?_)
      exact w_vret X hQ (o_inj hF) dX6_endTurn_71
    · refine w_iinc X 2 (x1 + 1) [(1, .int (x1 + 1)), (2, .int xs0), (0, .ref (ad (pRace r)))] dX6_endTurn_72 rfl rfl (by decide) rfl 75 rfl ?_
      refine w_goto X 12 dX6_endTurn_75 (by decide) ?_
      refine w_keep [2, 0] rfl ?_
      exact hk_12 (x1 + 1) mem hF
  have w_12 : ∀ (n : Nat) (x1 : Int32) (mem : Mem), K_X6_endTurn_12 fu r n x1 mem = some res → WW D 255 ad (cC ca ad) p l e rm_X6_endTurn s m args below meth c 3 0 0 Q mem 12 [(0, .ref (ad (pRace r))), (1, .int x1)] [] := by
    intro n
    induction n with
    | zero => intro x1 mem hF; exact no_none (show (none : Option Mem) = some res from hF)
    | succ n ih =>
      intro x1 mem hF
      rw [K_X6_endTurn_12] at hF
      refine w_iload_n X 1 dX6_endTurn_12 rfl rfl 13 rfl ?_
      refine w_aload_n X 0 dX6_endTurn_13 rfl rfl 14 rfl ?_
      refine w_getV (v := .int (rd mem (pRace r) 2)) X (pRace r) (lt_Race hr) ko_Race (T := TX6) (N := 8) rfl in_X6 2 (by decide) kF_X6_36 rfl rfl dX6_endTurn_14 17 rfl ?_
      refine w_icmp_gt X hF 78 20 dX6_endTurn_17 (by decide) rfl (fun hF => ?_) (fun hF => ?_)
      · exact w_vret X hQ (o_inj hF) dX6_endTurn_78
      · refine w_aload_n X 0 dX6_endTurn_20 rfl rfl 21 rfl ?_
        refine w_getV (v := .int (rd mem (pRace r) 6)) X (pRace r) (lt_Race hr) ko_Race (T := TX6) (N := 8) rfl in_X6 6 (by decide) kF_X6_46 rfl rfl dX6_endTurn_21 24 rfl ?_
        refine w_iload_n X 1 dX6_endTurn_24 rfl rfl 25 rfl ?_
        refine w_iadd X dX6_endTurn_25 26 rfl ?_
        refine w_aload_n X 0 dX6_endTurn_26 rfl rfl 27 rfl ?_
        refine w_getV (v := .int (rd mem (pRace r) 2)) X (pRace r) (lt_Race hr) ko_Race (T := TX6) (N := 8) rfl in_X6 2 (by decide) kF_X6_36 rfl rfl dX6_endTurn_27 30 rfl ?_
        refine w_icmp_ge X hF 42 33 dX6_endTurn_30 (by decide) rfl (fun hF => ?_) (fun hF => ?_)
        · refine w_aload_n X 0 dX6_endTurn_33 rfl rfl 34 rfl ?_
          refine w_getV (v := .int (rd mem (pRace r) 6)) X (pRace r) (lt_Race hr) ko_Race (T := TX6) (N := 8) rfl in_X6 6 (by decide) kF_X6_46 rfl rfl dX6_endTurn_34 37 rfl ?_
          refine w_iload_n X 1 dX6_endTurn_37 rfl rfl 38 rfl ?_
          refine w_iadd X dX6_endTurn_38 39 rfl ?_
          refine w_goto X 53 dX6_endTurn_39 (by decide) ?_
          refine w_keep [0, 1] rfl ?_
          exact w_53 (K_X6_endTurn_12 fu r n) ih x1 ((rd mem (pRace r) 6) + x1) mem hF
        · refine w_aload_n X 0 dX6_endTurn_42 rfl rfl 43 rfl ?_
          refine w_getV (v := .int (rd mem (pRace r) 6)) X (pRace r) (lt_Race hr) ko_Race (T := TX6) (N := 8) rfl in_X6 6 (by decide) kF_X6_46 rfl rfl dX6_endTurn_43 46 rfl ?_
          refine w_iload_n X 1 dX6_endTurn_46 rfl rfl 47 rfl ?_
          refine w_iadd X dX6_endTurn_47 48 rfl ?_
          refine w_aload_n X 0 dX6_endTurn_48 rfl rfl 49 rfl ?_
          refine w_getV (v := .int (rd mem (pRace r) 2)) X (pRace r) (lt_Race hr) ko_Race (T := TX6) (N := 8) rfl in_X6 2 (by decide) kF_X6_36 rfl rfl dX6_endTurn_49 52 rfl ?_
          refine w_isub X dX6_endTurn_52 53 rfl ?_
          refine w_keep [0, 1] rfl ?_
          exact w_53 (K_X6_endTurn_12 fu r n) ih x1 (((rd mem (pRace r) 6) + x1) - (rd mem (pRace r) 2)) mem hF
  intro hF
  refine w_aload_n X 0 dX6_endTurn_0 rfl rfl 1 rfl ?_
  refine w_dup X dX6_endTurn_1 rfl 2 rfl ?_
  refine w_getV (v := .int (rd mem (pRace r) 5)) X (pRace r) (lt_Race hr) ko_Race (T := TX6) (N := 8) rfl in_X6 5 (by decide) kF_X6_43 rfl rfl dX6_endTurn_2 5 rfl ?_
  refine w_iconst X 1 dX6_endTurn_5 rfl 6 rfl ?_
  refine w_iadd X dX6_endTurn_6 7 rfl ?_
  refine w_putI X (pRace r) (lt_Race hr) ko_Race (T := TX6) (N := 8) rfl in_X6 tyX6 tyX6_ok nmX6 5 (by decide) kF_X6_43 rfl rfl rfl rfl (Nat.le_of_ble_eq_true rfl) rfl dX6_endTurn_7 10 rfl ?_
  refine w_letm hF (fun m_1 hF => ?_)
  refine w_iconst X 1 dX6_endTurn_10 rfl 11 rfl ?_
  refine w_istore_n X [(1, .int 1), (0, .ref (ad (pRace r)))] dX6_endTurn_11 rfl (by decide) rfl 12 rfl ?_
  refine w_keep [1, 0] rfl ?_
  exact w_12 fu 1 m_1 hF
end Kc1
