section WA
def KW_isAtSide_38 (np nb : Nat) (fu : Nat) (mem : Mem)  (x1 : Int32) (x3 : Int32) : Option Int32 := (if x3 = 3 then (if x1 = 0 then some 1 else some 0) else some 0)
def KW_isAtSide_14 (np nb : Nat) (fu : Nat) (mem : Mem)  (x1 : Int32) (x2 : Int32) (x3 : Int32) : Option Int32 := (if x3 = 1 then (if x1 = ((rd mem 0 0) - 1) then some 1 else (if x3 = 2 then (if x2 = 0 then some 1 else (KW_isAtSide_38 np nb fu mem   x1 x3)) else (KW_isAtSide_38 np nb fu mem   x1 x3))) else (if x3 = 2 then (if x2 = 0 then some 1 else (KW_isAtSide_38 np nb fu mem   x1 x3)) else (KW_isAtSide_38 np nb fu mem   x1 x3)))
def KW_isAtSide (np nb : Nat) (fu : Nat) (x1 : Int32) (x2 : Int32) (x3 : Int32) (mem : Mem) : Option Int32 := (if x3 = 0 then (if x2 = ((rd mem 0 1) - 1) then some 1 else (KW_isAtSide_14 np nb fu mem   x1 x2 x3)) else (KW_isAtSide_14 np nb fu mem   x1 x2 x3))
def rw_isAtSide : Room := { frames := 0, cells := 0, slots := 0, locals := 0 }
theorem rwc_isAtSide : rw_isAtSide.cells = 0 ∧ rw_isAtSide.slots = 0 := ⟨rfl, rfl⟩
set_option maxHeartbeats 4000000 in
set_option maxRecDepth 100000 in
theorem cw_isAtSide (l : Launch) {D : va_G} {ca ad : Nat → Nat} {np nb eD tS sB : Nat} {Z : (Nat → Prop) → State → Heap → Prop} (hZ : ZOK Z) {tA tU L : Nat} {xs : Nat → Int32} (hW : ZWO Z tA tU sB L xs) (hg : np ≤ 4 ∧ nb ≤ 4 ∧ (np = 0 → nb = 0)) (fu : Nat) (x1 : Int32) (x2 : Int32) (x3 : Int32) (mem : Mem) (res : Int32) (hF : KW_isAtSide np nb fu x1 x2 x3 mem = some res) : CJ l D (tyL ca) (nW np nb) ad (cWd ca ad np nb eD tS sB) Z yX12_isAtSide cX12_isAtSide 4 .boolean rw_isAtSide [.ref (ad 0), .int x1, .int x2, .int x3] mem res mem := by
  refine xstart_i (own := RX12) rfl (by decide) (Nat.le_of_ble_eq_true rfl) ?_
  intro p e s m args below meth c Q hQ X
  rw [KW_isAtSide] at hF
  revert hF
  have w_38 : ∀  (x1 : Int32) (x3 : Int32), KW_isAtSide_38 np nb fu mem  x1 x3 = some res → XX D (nW np nb) ad (cWd ca ad np nb eD tS sB) p l e rw_isAtSide s m args below meth c 4 0 0 Q mem [] 38 [(1, .int x1), (3, .int x3)] [] := by
    intro  x1 x3 hF
    rw [KW_isAtSide_38] at hF
    refine x_iload_n X 1 dX12_isAtSide_38 rfl rfl 39 rfl ?_
    refine x_iconst X 3 dX12_isAtSide_39 rfl 40 rfl ?_
    refine x_icmp_ne X hF 51 43 dX12_isAtSide_40 (by decide) rfl (fun hF => ?_) (fun hF => ?_)
    · refine x_iload_n X 0 dX12_isAtSide_43 rfl rfl 44 rfl ?_
      refine x_if_ne X hF 51 47 dX12_isAtSide_44 (by decide) rfl (fun hF => ?_) (fun hF => ?_)
      · refine x_iconst X 1 dX12_isAtSide_47 rfl 48 rfl ?_
        refine x_goto X 52 dX12_isAtSide_48 (by decide) ?_
        exact x_iret X hQ (o_inj hF) rfl rfl (Nat.le_of_ble_eq_true rfl) (Nat.le_of_ble_eq_true rfl) dX12_isAtSide_52
      · refine x_iconst X 0 dX12_isAtSide_51 rfl 52 rfl ?_
        exact x_iret X hQ (o_inj hF) rfl rfl (Nat.le_of_ble_eq_true rfl) (Nat.le_of_ble_eq_true rfl) dX12_isAtSide_52
    · refine x_iconst X 0 dX12_isAtSide_51 rfl 52 rfl ?_
      exact x_iret X hQ (o_inj hF) rfl rfl (Nat.le_of_ble_eq_true rfl) (Nat.le_of_ble_eq_true rfl) dX12_isAtSide_52
  have w_14 : ∀  (x1 : Int32) (x2 : Int32) (x3 : Int32), KW_isAtSide_14 np nb fu mem  x1 x2 x3 = some res → XX D (nW np nb) ad (cWd ca ad np nb eD tS sB) p l e rw_isAtSide s m args below meth c 4 0 0 Q mem [] 14 [(0, .ref (ad 0)), (1, .int x1), (2, .int x2), (3, .int x3)] [] := by
    intro  x1 x2 x3 hF
    rw [KW_isAtSide_14] at hF
    refine x_iload_n X 3 dX12_isAtSide_14 rfl rfl 15 rfl ?_
    refine x_iconst X 1 dX12_isAtSide_15 rfl 16 rfl ?_
    refine x_icmp_ne X hF 29 19 dX12_isAtSide_16 (by decide) rfl (fun hF => ?_) (fun hF => ?_)
    · refine x_iload_n X 1 dX12_isAtSide_19 rfl rfl 20 rfl ?_
      refine x_aload_n X 0 dX12_isAtSide_20 rfl rfl 21 rfl ?_
      refine x_getV (v := .int (rd mem 0 0)) X 0 nw_0 kw_0 (T := TX12) (N := 11) rfl in_X12 0 (by decide) kF_X12_7 rfl rfl dX12_isAtSide_21 24 rfl ?_
      refine x_iconst X 1 dX12_isAtSide_24 rfl 25 rfl ?_
      refine x_isub X dX12_isAtSide_25 26 rfl ?_
      refine x_icmp_eq X hF 47 29 dX12_isAtSide_26 (by decide) rfl (fun hF => ?_) (fun hF => ?_)
      · refine x_iconst X 1 dX12_isAtSide_47 rfl 48 rfl ?_
        refine x_goto X 52 dX12_isAtSide_48 (by decide) ?_
        exact x_iret X hQ (o_inj hF) rfl rfl (Nat.le_of_ble_eq_true rfl) (Nat.le_of_ble_eq_true rfl) dX12_isAtSide_52
      · refine x_iload_n X 3 dX12_isAtSide_29 rfl rfl 30 rfl ?_
        refine x_iconst X 2 dX12_isAtSide_30 rfl 31 rfl ?_
        refine x_icmp_ne X hF 38 34 dX12_isAtSide_31 (by decide) rfl (fun hF => ?_) (fun hF => ?_)
        · refine x_iload_n X 2 dX12_isAtSide_34 rfl rfl 35 rfl ?_
          refine x_if_eq X hF 47 38 dX12_isAtSide_35 (by decide) rfl (fun hF => ?_) (fun hF => ?_)
          · refine x_iconst X 1 dX12_isAtSide_47 rfl 48 rfl ?_
            refine x_goto X 52 dX12_isAtSide_48 (by decide) ?_
            exact x_iret X hQ (o_inj hF) rfl rfl (Nat.le_of_ble_eq_true rfl) (Nat.le_of_ble_eq_true rfl) dX12_isAtSide_52
          · refine x_keep [1, 3] rfl ?_
            exact w_38   x1 x3 hF
        · refine x_keep [1, 3] rfl ?_
          exact w_38   x1 x3 hF
    · refine x_iload_n X 3 dX12_isAtSide_29 rfl rfl 30 rfl ?_
      refine x_iconst X 2 dX12_isAtSide_30 rfl 31 rfl ?_
      refine x_icmp_ne X hF 38 34 dX12_isAtSide_31 (by decide) rfl (fun hF => ?_) (fun hF => ?_)
      · refine x_iload_n X 2 dX12_isAtSide_34 rfl rfl 35 rfl ?_
        refine x_if_eq X hF 47 38 dX12_isAtSide_35 (by decide) rfl (fun hF => ?_) (fun hF => ?_)
        · refine x_iconst X 1 dX12_isAtSide_47 rfl 48 rfl ?_
          refine x_goto X 52 dX12_isAtSide_48 (by decide) ?_
          exact x_iret X hQ (o_inj hF) rfl rfl (Nat.le_of_ble_eq_true rfl) (Nat.le_of_ble_eq_true rfl) dX12_isAtSide_52
        · refine x_keep [1, 3] rfl ?_
          exact w_38   x1 x3 hF
      · refine x_keep [1, 3] rfl ?_
        exact w_38   x1 x3 hF
  intro hF
  refine x_iload_n X 3 dX12_isAtSide_0 rfl rfl 1 rfl ?_
  refine x_if_ne X hF 14 4 dX12_isAtSide_1 (by decide) rfl (fun hF => ?_) (fun hF => ?_)
  · refine x_iload_n X 2 dX12_isAtSide_4 rfl rfl 5 rfl ?_
    refine x_aload_n X 0 dX12_isAtSide_5 rfl rfl 6 rfl ?_
    refine x_getV (v := .int (rd mem 0 1)) X 0 nw_0 kw_0 (T := TX12) (N := 11) rfl in_X12 1 (by decide) kF_X12_13 rfl rfl dX12_isAtSide_6 9 rfl ?_
    refine x_iconst X 1 dX12_isAtSide_9 rfl 10 rfl ?_
    refine x_isub X dX12_isAtSide_10 11 rfl ?_
    refine x_icmp_eq X hF 47 14 dX12_isAtSide_11 (by decide) rfl (fun hF => ?_) (fun hF => ?_)
    · refine x_iconst X 1 dX12_isAtSide_47 rfl 48 rfl ?_
      refine x_goto X 52 dX12_isAtSide_48 (by decide) ?_
      exact x_iret X hQ (o_inj hF) rfl rfl (Nat.le_of_ble_eq_true rfl) (Nat.le_of_ble_eq_true rfl) dX12_isAtSide_52
    · refine x_keep [0, 1, 2, 3] rfl ?_
      exact w_14   x1 x2 x3 hF
  · refine x_keep [0, 1, 2, 3] rfl ?_
    exact w_14   x1 x2 x3 hF

def KW_isCell (np nb : Nat) (fu : Nat) (x1 : Int32) (x2 : Int32) (mem : Mem) : Option Int32 := (if x1 < 0 then some 0 else (if x2 < 0 then some 0 else (if x1 < (rd mem 0 0) then (if x2 < (rd mem 0 1) then some 1 else some 0) else some 0)))
def rw_isCell : Room := { frames := 0, cells := 0, slots := 0, locals := 0 }
theorem rwc_isCell : rw_isCell.cells = 0 ∧ rw_isCell.slots = 0 := ⟨rfl, rfl⟩
set_option maxHeartbeats 4000000 in
set_option maxRecDepth 100000 in
theorem cw_isCell (l : Launch) {D : va_G} {ca ad : Nat → Nat} {np nb eD tS sB : Nat} {Z : (Nat → Prop) → State → Heap → Prop} (hZ : ZOK Z) {tA tU L : Nat} {xs : Nat → Int32} (hW : ZWO Z tA tU sB L xs) (hg : np ≤ 4 ∧ nb ≤ 4 ∧ (np = 0 → nb = 0)) (fu : Nat) (x1 : Int32) (x2 : Int32) (mem : Mem) (res : Int32) (hF : KW_isCell np nb fu x1 x2 mem = some res) : CJ l D (tyL ca) (nW np nb) ad (cWd ca ad np nb eD tS sB) Z yX12_isCell cX12_isCell 3 .boolean rw_isCell [.ref (ad 0), .int x1, .int x2] mem res mem := by
  refine xstart_i (own := RX12) rfl (by decide) (Nat.le_of_ble_eq_true rfl) ?_
  intro p e s m args below meth c Q hQ X
  rw [KW_isCell] at hF
  refine x_iload_n X 1 dX12_isCell_0 rfl rfl 1 rfl ?_
  refine x_if_lt X hF 28 4 dX12_isCell_1 (by decide) rfl (fun hF => ?_) (fun hF => ?_)
  · refine x_iconst X 0 dX12_isCell_28 rfl 29 rfl ?_
    exact x_iret X hQ (o_inj hF) rfl rfl (Nat.le_of_ble_eq_true rfl) (Nat.le_of_ble_eq_true rfl) dX12_isCell_29
  · refine x_iload_n X 2 dX12_isCell_4 rfl rfl 5 rfl ?_
    refine x_if_lt X hF 28 8 dX12_isCell_5 (by decide) rfl (fun hF => ?_) (fun hF => ?_)
    · refine x_iconst X 0 dX12_isCell_28 rfl 29 rfl ?_
      exact x_iret X hQ (o_inj hF) rfl rfl (Nat.le_of_ble_eq_true rfl) (Nat.le_of_ble_eq_true rfl) dX12_isCell_29
    · refine x_iload_n X 1 dX12_isCell_8 rfl rfl 9 rfl ?_
      refine x_aload_n X 0 dX12_isCell_9 rfl rfl 10 rfl ?_
      refine x_getV (v := .int (rd mem 0 0)) X 0 nw_0 kw_0 (T := TX12) (N := 11) rfl in_X12 0 (by decide) kF_X12_7 rfl rfl dX12_isCell_10 13 rfl ?_
      refine x_icmp_ge X hF 28 16 dX12_isCell_13 (by decide) rfl (fun hF => ?_) (fun hF => ?_)
      · refine x_iload_n X 2 dX12_isCell_16 rfl rfl 17 rfl ?_
        refine x_aload_n X 0 dX12_isCell_17 rfl rfl 18 rfl ?_
        refine x_getV (v := .int (rd mem 0 1)) X 0 nw_0 kw_0 (T := TX12) (N := 11) rfl in_X12 1 (by decide) kF_X12_13 rfl rfl dX12_isCell_18 21 rfl ?_
        refine x_icmp_ge X hF 28 24 dX12_isCell_21 (by decide) rfl (fun hF => ?_) (fun hF => ?_)
        · refine x_iconst X 1 dX12_isCell_24 rfl 25 rfl ?_
          refine x_goto X 29 dX12_isCell_25 (by decide) ?_
          exact x_iret X hQ (o_inj hF) rfl rfl (Nat.le_of_ble_eq_true rfl) (Nat.le_of_ble_eq_true rfl) dX12_isCell_29
        · refine x_iconst X 0 dX12_isCell_28 rfl 29 rfl ?_
          exact x_iret X hQ (o_inj hF) rfl rfl (Nat.le_of_ble_eq_true rfl) (Nat.le_of_ble_eq_true rfl) dX12_isCell_29
      · refine x_iconst X 0 dX12_isCell_28 rfl 29 rfl ?_
        exact x_iret X hQ (o_inj hF) rfl rfl (Nat.le_of_ble_eq_true rfl) (Nat.le_of_ble_eq_true rfl) dX12_isCell_29

def KW_wall (np nb : Nat) (fu : Nat) (x1 : Int32) (x2 : Int32) (mem : Mem) : Option Int32 := (if x1 < 0 then some 0 else (if x2 < 0 then some 0 else (if x1 < ((rd mem 0 0) - 1) then (if x2 < ((rd mem 0 1) - 1) then gi x2 8 (gi x1 8 (some (rd mem (4 + (Int32.toNatClampNeg x2)) (Int32.toNatClampNeg x1)))) else some 0) else some 0)))
def rw_wall : Room := { frames := 0, cells := 0, slots := 0, locals := 0 }
theorem rwc_wall : rw_wall.cells = 0 ∧ rw_wall.slots = 0 := ⟨rfl, rfl⟩
set_option maxHeartbeats 4000000 in
set_option maxRecDepth 100000 in
theorem cw_wall (l : Launch) {D : va_G} {ca ad : Nat → Nat} {np nb eD tS sB : Nat} {Z : (Nat → Prop) → State → Heap → Prop} (hZ : ZOK Z) {tA tU L : Nat} {xs : Nat → Int32} (hW : ZWO Z tA tU sB L xs) (hg : np ≤ 4 ∧ nb ≤ 4 ∧ (np = 0 → nb = 0)) (fu : Nat) (x1 : Int32) (x2 : Int32) (mem : Mem) (res : Int32) (hF : KW_wall np nb fu x1 x2 mem = some res) : CJ l D (tyL ca) (nW np nb) ad (cWd ca ad np nb eD tS sB) Z yX12_wall cX12_wall 3 .int rw_wall [.ref (ad 0), .int x1, .int x2] mem res mem := by
  refine xstart_i (own := RX12) rfl (by decide) (Nat.le_of_ble_eq_true rfl) ?_
  intro p e s m args below meth c Q hQ X
  rw [KW_wall] at hF
  refine x_iload_n X 1 dX12_wall_0 rfl rfl 1 rfl ?_
  refine x_if_lt X hF 39 4 dX12_wall_1 (by decide) rfl (fun hF => ?_) (fun hF => ?_)
  · refine x_iconst X 0 dX12_wall_39 rfl 40 rfl ?_
    exact x_iret X hQ (o_inj hF) rfl rfl (Nat.le_of_ble_eq_true rfl) (Nat.le_of_ble_eq_true rfl) dX12_wall_40
  · refine x_iload_n X 2 dX12_wall_4 rfl rfl 5 rfl ?_
    refine x_if_lt X hF 39 8 dX12_wall_5 (by decide) rfl (fun hF => ?_) (fun hF => ?_)
    · refine x_iconst X 0 dX12_wall_39 rfl 40 rfl ?_
      exact x_iret X hQ (o_inj hF) rfl rfl (Nat.le_of_ble_eq_true rfl) (Nat.le_of_ble_eq_true rfl) dX12_wall_40
    · refine x_iload_n X 1 dX12_wall_8 rfl rfl 9 rfl ?_
      refine x_aload_n X 0 dX12_wall_9 rfl rfl 10 rfl ?_
      refine x_getV (v := .int (rd mem 0 0)) X 0 nw_0 kw_0 (T := TX12) (N := 11) rfl in_X12 0 (by decide) kF_X12_7 rfl rfl dX12_wall_10 13 rfl ?_
      refine x_iconst X 1 dX12_wall_13 rfl 14 rfl ?_
      refine x_isub X dX12_wall_14 15 rfl ?_
      refine x_icmp_ge X hF 39 18 dX12_wall_15 (by decide) rfl (fun hF => ?_) (fun hF => ?_)
      · refine x_iload_n X 2 dX12_wall_18 rfl rfl 19 rfl ?_
        refine x_aload_n X 0 dX12_wall_19 rfl rfl 20 rfl ?_
        refine x_getV (v := .int (rd mem 0 1)) X 0 nw_0 kw_0 (T := TX12) (N := 11) rfl in_X12 1 (by decide) kF_X12_13 rfl rfl dX12_wall_20 23 rfl ?_
        refine x_iconst X 1 dX12_wall_23 rfl 24 rfl ?_
        refine x_isub X dX12_wall_24 25 rfl ?_
        refine x_icmp_ge X hF 39 28 dX12_wall_25 (by decide) rfl (fun hF => ?_) (fun hF => ?_)
        · refine x_aload_n X 0 dX12_wall_28 rfl rfl 29 rfl ?_
          refine x_getV (v := .ref (ad 3)) X 0 nw_0 kw_0 (T := TX12) (N := 11) rfl in_X12 7 (by decide) kF_X12_28 rfl rfl dX12_wall_29 32 rfl ?_
          refine x_iload_n X 2 dX12_wall_32 rfl rfl 33 rfl ?_
          refine x_gi hF (fun h_1 hF => ?_)
          refine x_aar X 3 nw_3 (4 + (Int32.toNatClampNeg x2)) kw_3 (t0 := 6) rfl h_1 (el_rows (vp_lt h_1)) dX12_wall_33 34 rfl ?_
          refine x_iload_n X 1 dX12_wall_34 rfl rfl 35 rfl ?_
          refine x_gi hF (fun h_2 hF => ?_)
          refine x_ial X (4 + (Int32.toNatClampNeg x2)) (nw_r (vp_lt h_1)) (kw_r (vp_lt h_1)) (t0 := 0) rfl h_2 dX12_wall_35 36 rfl ?_
          refine x_goto X 40 dX12_wall_36 (by decide) ?_
          exact x_iret X hQ (o_inj hF) rfl rfl (Nat.le_of_ble_eq_true rfl) (Nat.le_of_ble_eq_true rfl) dX12_wall_40
        · refine x_iconst X 0 dX12_wall_39 rfl 40 rfl ?_
          exact x_iret X hQ (o_inj hF) rfl rfl (Nat.le_of_ble_eq_true rfl) (Nat.le_of_ble_eq_true rfl) dX12_wall_40
      · refine x_iconst X 0 dX12_wall_39 rfl 40 rfl ?_
        exact x_iret X hQ (o_inj hF) rfl rfl (Nat.le_of_ble_eq_true rfl) (Nat.le_of_ble_eq_true rfl) dX12_wall_40

def KW_isOpen0 (np nb : Nat) (fu : Nat) (x1 : Int32) (x2 : Int32) (x3 : Int32) (mem : Mem) : Option Int32 := gi x3 4 (gi x3 4 (bd (KW_isCell np nb fu (x1 + (dxV (Int32.toNatClampNeg x3))) (x2 + (dyV (Int32.toNatClampNeg x3))) mem) (fun x_3 => (if x_3 = 0 then some 0 else (if x3 = 0 then bd (KW_wall np nb fu x1 x2 mem) (fun x_4 => (if x_4 = 1 then some 0 else bd (KW_wall np nb fu (x1 - 1) x2 mem) (fun x_5 => (if x_5 = 1 then some 0 else some 1)))) else (if x3 = 1 then bd (KW_wall np nb fu x1 x2 mem) (fun x_6 => (if x_6 = 2 then some 0 else bd (KW_wall np nb fu x1 (x2 - 1) mem) (fun x_7 => (if x_7 = 2 then some 0 else some 1)))) else gi x3 4 (gi x3 4 (none))))))))
def rw_isOpen0 : Room := { frames := 1, cells := 0, slots := 0, locals := 22 }
theorem rwc_isOpen0 : rw_isOpen0.cells = 0 ∧ rw_isOpen0.slots = 0 := ⟨rfl, rfl⟩
set_option maxHeartbeats 4000000 in
set_option maxRecDepth 100000 in
theorem cw_isOpen0 (l : Launch) {D : va_G} {ca ad : Nat → Nat} {np nb eD tS sB : Nat} {Z : (Nat → Prop) → State → Heap → Prop} (hZ : ZOK Z) {tA tU L : Nat} {xs : Nat → Int32} (hW : ZWO Z tA tU sB L xs) (hg : np ≤ 4 ∧ nb ≤ 4 ∧ (np = 0 → nb = 0)) (fu : Nat) (x1 : Int32) (x2 : Int32) (x3 : Int32) (mem : Mem) (res : Int32) (hF : KW_isOpen0 np nb fu x1 x2 x3 mem = some res) : CJ l D (tyL ca) (nW np nb) ad (cWd ca ad np nb eD tS sB) Z yX12_isOpen cX12_isOpen 4 .boolean rw_isOpen0 [.ref (ad 0), .int x1, .int x2, .int x3] mem res mem := by
  refine xstart_i (own := RX12) rfl (by decide) (Nat.le_of_ble_eq_true rfl) ?_
  intro p e s m args below meth c Q hQ X
  have ec_isCell := rwc_isCell
  have ec_wall := rwc_wall
  rw [KW_isOpen0] at hF
  refine x_aload_n X 0 dX12_isOpen_0 rfl rfl 1 rfl ?_
  refine x_iload_n X 1 dX12_isOpen_1 rfl rfl 2 rfl ?_
  refine x_acr X hW (List.mem_of_getElem? (i := 0) rfl) dX12_isOpen_2 5 rfl ?_
  refine x_iload_n X 3 dX12_isOpen_5 rfl rfl 6 rfl ?_
  refine x_gi hF (fun h_1 hF => ?_)
  refine x_acl X hW h_1 dX12_isOpen_6 7 rfl ?_
  refine x_iadd X dX12_isOpen_7 8 rfl ?_
  refine x_iload_n X 2 dX12_isOpen_8 rfl rfl 9 rfl ?_
  refine x_ups X hW (List.mem_of_getElem? (i := 1) rfl) dX12_isOpen_9 12 rfl ?_
  refine x_iload_n X 3 dX12_isOpen_12 rfl rfl 13 rfl ?_
  refine x_gi hF (fun h_2 hF => ?_)
  refine x_upl X hW h_2 dX12_isOpen_13 14 rfl ?_
  refine x_iadd X dX12_isOpen_14 15 rfl ?_
  refine x_callVi (fun x => x) (fun _ => mem) X hZ hF [.int (x1 + (dxV (Int32.toNatClampNeg x3))), .int (x2 + (dyV (Int32.toNatClampNeg x3)))] 0 nw_0 kw_0 rfl rfl rfl kB_X12_isCell kL_X12_183 (fun res h => cw_isCell l hZ hW hg fu (x1 + (dxV (Int32.toNatClampNeg x3))) (x2 + (dyV (Int32.toNatClampNeg x3))) mem res h) rfl ⟨Nat.le_of_ble_eq_true rfl, Nat.le_of_ble_eq_true rfl⟩ (Nat.le_of_ble_eq_true rfl) ⟨Nat.le_of_ble_eq_true rfl, Nat.le_of_ble_eq_true rfl⟩ dX12_isOpen_15 18 rfl (fun x_3 hF => ?_)
  refine x_if_ne X hF 23 21 dX12_isOpen_18 (by decide) rfl (fun hF => ?_) (fun hF => ?_)
  · refine x_iconst X 0 dX12_isOpen_21 rfl 22 rfl ?_
    exact x_iret X hQ (o_inj hF) rfl rfl (Nat.le_of_ble_eq_true rfl) (Nat.le_of_ble_eq_true rfl) dX12_isOpen_22
  · refine x_iload_n X 3 dX12_isOpen_23 rfl rfl 24 rfl ?_
    refine x_if_ne X hF 55 27 dX12_isOpen_24 (by decide) rfl (fun hF => ?_) (fun hF => ?_)
    · refine x_aload_n X 0 dX12_isOpen_27 rfl rfl 28 rfl ?_
      refine x_iload_n X 1 dX12_isOpen_28 rfl rfl 29 rfl ?_
      refine x_iload_n X 2 dX12_isOpen_29 rfl rfl 30 rfl ?_
      refine x_callVi (fun x => x) (fun _ => mem) X hZ hF [.int x1, .int x2] 0 nw_0 kw_0 rfl rfl rfl kB_X12_wall kL_X12_187 (fun res h => cw_wall l hZ hW hg fu x1 x2 mem res h) rfl ⟨Nat.le_of_ble_eq_true rfl, Nat.le_of_ble_eq_true rfl⟩ (Nat.le_of_ble_eq_true rfl) ⟨Nat.le_of_ble_eq_true rfl, Nat.le_of_ble_eq_true rfl⟩ dX12_isOpen_30 33 rfl (fun x_4 hF => ?_)
      refine x_iconst X 1 dX12_isOpen_33 rfl 34 rfl ?_
      refine x_icmp_eq X hF 53 37 dX12_isOpen_34 (by decide) rfl (fun hF => ?_) (fun hF => ?_)
      · refine x_iconst X 0 dX12_isOpen_53 rfl 54 rfl ?_
        exact x_iret X hQ (o_inj hF) rfl rfl (Nat.le_of_ble_eq_true rfl) (Nat.le_of_ble_eq_true rfl) dX12_isOpen_54
      · refine x_aload_n X 0 dX12_isOpen_37 rfl rfl 38 rfl ?_
        refine x_iload_n X 1 dX12_isOpen_38 rfl rfl 39 rfl ?_
        refine x_iconst X 1 dX12_isOpen_39 rfl 40 rfl ?_
        refine x_isub X dX12_isOpen_40 41 rfl ?_
        refine x_iload_n X 2 dX12_isOpen_41 rfl rfl 42 rfl ?_
        refine x_callVi (fun x => x) (fun _ => mem) X hZ hF [.int (x1 - 1), .int x2] 0 nw_0 kw_0 rfl rfl rfl kB_X12_wall kL_X12_187 (fun res h => cw_wall l hZ hW hg fu (x1 - 1) x2 mem res h) rfl ⟨Nat.le_of_ble_eq_true rfl, Nat.le_of_ble_eq_true rfl⟩ (Nat.le_of_ble_eq_true rfl) ⟨Nat.le_of_ble_eq_true rfl, Nat.le_of_ble_eq_true rfl⟩ dX12_isOpen_42 45 rfl (fun x_5 hF => ?_)
        refine x_iconst X 1 dX12_isOpen_45 rfl 46 rfl ?_
        refine x_icmp_eq X hF 53 49 dX12_isOpen_46 (by decide) rfl (fun hF => ?_) (fun hF => ?_)
        · refine x_iconst X 0 dX12_isOpen_53 rfl 54 rfl ?_
          exact x_iret X hQ (o_inj hF) rfl rfl (Nat.le_of_ble_eq_true rfl) (Nat.le_of_ble_eq_true rfl) dX12_isOpen_54
        · refine x_iconst X 1 dX12_isOpen_49 rfl 50 rfl ?_
          refine x_goto X 54 dX12_isOpen_50 (by decide) ?_
          exact x_iret X hQ (o_inj hF) rfl rfl (Nat.le_of_ble_eq_true rfl) (Nat.le_of_ble_eq_true rfl) dX12_isOpen_54
    · refine x_iload_n X 3 dX12_isOpen_55 rfl rfl 56 rfl ?_
      refine x_iconst X 1 dX12_isOpen_56 rfl 57 rfl ?_
      refine x_icmp_ne X hF 88 60 dX12_isOpen_57 (by decide) rfl (fun hF => ?_) (fun hF => ?_)
      · refine x_aload_n X 0 dX12_isOpen_60 rfl rfl 61 rfl ?_
        refine x_iload_n X 1 dX12_isOpen_61 rfl rfl 62 rfl ?_
        refine x_iload_n X 2 dX12_isOpen_62 rfl rfl 63 rfl ?_
        refine x_callVi (fun x => x) (fun _ => mem) X hZ hF [.int x1, .int x2] 0 nw_0 kw_0 rfl rfl rfl kB_X12_wall kL_X12_187 (fun res h => cw_wall l hZ hW hg fu x1 x2 mem res h) rfl ⟨Nat.le_of_ble_eq_true rfl, Nat.le_of_ble_eq_true rfl⟩ (Nat.le_of_ble_eq_true rfl) ⟨Nat.le_of_ble_eq_true rfl, Nat.le_of_ble_eq_true rfl⟩ dX12_isOpen_63 66 rfl (fun x_6 hF => ?_)
        refine x_iconst X 2 dX12_isOpen_66 rfl 67 rfl ?_
        refine x_icmp_eq X hF 86 70 dX12_isOpen_67 (by decide) rfl (fun hF => ?_) (fun hF => ?_)
        · refine x_iconst X 0 dX12_isOpen_86 rfl 87 rfl ?_
          exact x_iret X hQ (o_inj hF) rfl rfl (Nat.le_of_ble_eq_true rfl) (Nat.le_of_ble_eq_true rfl) dX12_isOpen_87
        · refine x_aload_n X 0 dX12_isOpen_70 rfl rfl 71 rfl ?_
          refine x_iload_n X 1 dX12_isOpen_71 rfl rfl 72 rfl ?_
          refine x_iload_n X 2 dX12_isOpen_72 rfl rfl 73 rfl ?_
          refine x_iconst X 1 dX12_isOpen_73 rfl 74 rfl ?_
          refine x_isub X dX12_isOpen_74 75 rfl ?_
          refine x_callVi (fun x => x) (fun _ => mem) X hZ hF [.int x1, .int (x2 - 1)] 0 nw_0 kw_0 rfl rfl rfl kB_X12_wall kL_X12_187 (fun res h => cw_wall l hZ hW hg fu x1 (x2 - 1) mem res h) rfl ⟨Nat.le_of_ble_eq_true rfl, Nat.le_of_ble_eq_true rfl⟩ (Nat.le_of_ble_eq_true rfl) ⟨Nat.le_of_ble_eq_true rfl, Nat.le_of_ble_eq_true rfl⟩ dX12_isOpen_75 78 rfl (fun x_7 hF => ?_)
          refine x_iconst X 2 dX12_isOpen_78 rfl 79 rfl ?_
          refine x_icmp_eq X hF 86 82 dX12_isOpen_79 (by decide) rfl (fun hF => ?_) (fun hF => ?_)
          · refine x_iconst X 0 dX12_isOpen_86 rfl 87 rfl ?_
            exact x_iret X hQ (o_inj hF) rfl rfl (Nat.le_of_ble_eq_true rfl) (Nat.le_of_ble_eq_true rfl) dX12_isOpen_87
          · refine x_iconst X 1 dX12_isOpen_82 rfl 83 rfl ?_
            refine x_goto X 87 dX12_isOpen_83 (by decide) ?_
            exact x_iret X hQ (o_inj hF) rfl rfl (Nat.le_of_ble_eq_true rfl) (Nat.le_of_ble_eq_true rfl) dX12_isOpen_87
      · refine x_aload_n X 0 dX12_isOpen_88 rfl rfl 89 rfl ?_
        refine x_iload_n X 1 dX12_isOpen_89 rfl rfl 90 rfl ?_
        refine x_acr X hW (List.mem_of_getElem? (i := 0) rfl) dX12_isOpen_90 93 rfl ?_
        refine x_iload_n X 3 dX12_isOpen_93 rfl rfl 94 rfl ?_
        refine x_gi hF (fun h_8 hF => ?_)
        refine x_acl X hW h_8 dX12_isOpen_94 95 rfl ?_
        refine x_iadd X dX12_isOpen_95 96 rfl ?_
        refine x_iload_n X 2 dX12_isOpen_96 rfl rfl 97 rfl ?_
        refine x_ups X hW (List.mem_of_getElem? (i := 1) rfl) dX12_isOpen_97 100 rfl ?_
        refine x_iload_n X 3 dX12_isOpen_100 rfl rfl 101 rfl ?_
        refine x_gi hF (fun h_9 hF => ?_)
        refine x_upl X hW h_9 dX12_isOpen_101 102 rfl ?_
        refine x_iadd X dX12_isOpen_102 103 rfl ?_
        refine x_iload_n X 3 dX12_isOpen_103 rfl rfl 104 rfl ?_
        refine x_iconst X 2 dX12_isOpen_104 rfl 105 rfl ?_
        refine x_isub X dX12_isOpen_105 106 rfl ?_
        exact no_none hF

def KW_isOpen (np nb : Nat) (fu : Nat) (x1 : Int32) (x2 : Int32) (x3 : Int32) (mem : Mem) : Option Int32 := gi x3 4 (gi x3 4 (bd (KW_isCell np nb fu (x1 + (dxV (Int32.toNatClampNeg x3))) (x2 + (dyV (Int32.toNatClampNeg x3))) mem) (fun x_3 => (if x_3 = 0 then some 0 else (if x3 = 0 then bd (KW_wall np nb fu x1 x2 mem) (fun x_4 => (if x_4 = 1 then some 0 else bd (KW_wall np nb fu (x1 - 1) x2 mem) (fun x_5 => (if x_5 = 1 then some 0 else some 1)))) else (if x3 = 1 then bd (KW_wall np nb fu x1 x2 mem) (fun x_6 => (if x_6 = 2 then some 0 else bd (KW_wall np nb fu x1 (x2 - 1) mem) (fun x_7 => (if x_7 = 2 then some 0 else some 1)))) else gi x3 4 (gi x3 4 (bd (KW_isOpen0 np nb fu (x1 + (dxV (Int32.toNatClampNeg x3))) (x2 + (dyV (Int32.toNatClampNeg x3))) (x3 - 2) mem) (fun x_10 => gb x_10 (some x_10))))))))))
def rw_isOpen : Room := { frames := 2, cells := 0, slots := 0, locals := 45 }
theorem rwc_isOpen : rw_isOpen.cells = 0 ∧ rw_isOpen.slots = 0 := ⟨rfl, rfl⟩
set_option maxHeartbeats 4000000 in
set_option maxRecDepth 100000 in
theorem cw_isOpen (l : Launch) {D : va_G} {ca ad : Nat → Nat} {np nb eD tS sB : Nat} {Z : (Nat → Prop) → State → Heap → Prop} (hZ : ZOK Z) {tA tU L : Nat} {xs : Nat → Int32} (hW : ZWO Z tA tU sB L xs) (hg : np ≤ 4 ∧ nb ≤ 4 ∧ (np = 0 → nb = 0)) (fu : Nat) (x1 : Int32) (x2 : Int32) (x3 : Int32) (mem : Mem) (res : Int32) (hF : KW_isOpen np nb fu x1 x2 x3 mem = some res) : CJ l D (tyL ca) (nW np nb) ad (cWd ca ad np nb eD tS sB) Z yX12_isOpen cX12_isOpen 4 .boolean rw_isOpen [.ref (ad 0), .int x1, .int x2, .int x3] mem res mem := by
  refine xstart_i (own := RX12) rfl (by decide) (Nat.le_of_ble_eq_true rfl) ?_
  intro p e s m args below meth c Q hQ X
  have ec_isCell := rwc_isCell
  have ec_isOpen0 := rwc_isOpen0
  have ec_wall := rwc_wall
  rw [KW_isOpen] at hF
  refine x_aload_n X 0 dX12_isOpen_0 rfl rfl 1 rfl ?_
  refine x_iload_n X 1 dX12_isOpen_1 rfl rfl 2 rfl ?_
  refine x_acr X hW (List.mem_of_getElem? (i := 0) rfl) dX12_isOpen_2 5 rfl ?_
  refine x_iload_n X 3 dX12_isOpen_5 rfl rfl 6 rfl ?_
  refine x_gi hF (fun h_1 hF => ?_)
  refine x_acl X hW h_1 dX12_isOpen_6 7 rfl ?_
  refine x_iadd X dX12_isOpen_7 8 rfl ?_
  refine x_iload_n X 2 dX12_isOpen_8 rfl rfl 9 rfl ?_
  refine x_ups X hW (List.mem_of_getElem? (i := 1) rfl) dX12_isOpen_9 12 rfl ?_
  refine x_iload_n X 3 dX12_isOpen_12 rfl rfl 13 rfl ?_
  refine x_gi hF (fun h_2 hF => ?_)
  refine x_upl X hW h_2 dX12_isOpen_13 14 rfl ?_
  refine x_iadd X dX12_isOpen_14 15 rfl ?_
  refine x_callVi (fun x => x) (fun _ => mem) X hZ hF [.int (x1 + (dxV (Int32.toNatClampNeg x3))), .int (x2 + (dyV (Int32.toNatClampNeg x3)))] 0 nw_0 kw_0 rfl rfl rfl kB_X12_isCell kL_X12_183 (fun res h => cw_isCell l hZ hW hg fu (x1 + (dxV (Int32.toNatClampNeg x3))) (x2 + (dyV (Int32.toNatClampNeg x3))) mem res h) rfl ⟨Nat.le_of_ble_eq_true rfl, Nat.le_of_ble_eq_true rfl⟩ (Nat.le_of_ble_eq_true rfl) ⟨Nat.le_of_ble_eq_true rfl, Nat.le_of_ble_eq_true rfl⟩ dX12_isOpen_15 18 rfl (fun x_3 hF => ?_)
  refine x_if_ne X hF 23 21 dX12_isOpen_18 (by decide) rfl (fun hF => ?_) (fun hF => ?_)
  · refine x_iconst X 0 dX12_isOpen_21 rfl 22 rfl ?_
    exact x_iret X hQ (o_inj hF) rfl rfl (Nat.le_of_ble_eq_true rfl) (Nat.le_of_ble_eq_true rfl) dX12_isOpen_22
  · refine x_iload_n X 3 dX12_isOpen_23 rfl rfl 24 rfl ?_
    refine x_if_ne X hF 55 27 dX12_isOpen_24 (by decide) rfl (fun hF => ?_) (fun hF => ?_)
    · refine x_aload_n X 0 dX12_isOpen_27 rfl rfl 28 rfl ?_
      refine x_iload_n X 1 dX12_isOpen_28 rfl rfl 29 rfl ?_
      refine x_iload_n X 2 dX12_isOpen_29 rfl rfl 30 rfl ?_
      refine x_callVi (fun x => x) (fun _ => mem) X hZ hF [.int x1, .int x2] 0 nw_0 kw_0 rfl rfl rfl kB_X12_wall kL_X12_187 (fun res h => cw_wall l hZ hW hg fu x1 x2 mem res h) rfl ⟨Nat.le_of_ble_eq_true rfl, Nat.le_of_ble_eq_true rfl⟩ (Nat.le_of_ble_eq_true rfl) ⟨Nat.le_of_ble_eq_true rfl, Nat.le_of_ble_eq_true rfl⟩ dX12_isOpen_30 33 rfl (fun x_4 hF => ?_)
      refine x_iconst X 1 dX12_isOpen_33 rfl 34 rfl ?_
      refine x_icmp_eq X hF 53 37 dX12_isOpen_34 (by decide) rfl (fun hF => ?_) (fun hF => ?_)
      · refine x_iconst X 0 dX12_isOpen_53 rfl 54 rfl ?_
        exact x_iret X hQ (o_inj hF) rfl rfl (Nat.le_of_ble_eq_true rfl) (Nat.le_of_ble_eq_true rfl) dX12_isOpen_54
      · refine x_aload_n X 0 dX12_isOpen_37 rfl rfl 38 rfl ?_
        refine x_iload_n X 1 dX12_isOpen_38 rfl rfl 39 rfl ?_
        refine x_iconst X 1 dX12_isOpen_39 rfl 40 rfl ?_
        refine x_isub X dX12_isOpen_40 41 rfl ?_
        refine x_iload_n X 2 dX12_isOpen_41 rfl rfl 42 rfl ?_
        refine x_callVi (fun x => x) (fun _ => mem) X hZ hF [.int (x1 - 1), .int x2] 0 nw_0 kw_0 rfl rfl rfl kB_X12_wall kL_X12_187 (fun res h => cw_wall l hZ hW hg fu (x1 - 1) x2 mem res h) rfl ⟨Nat.le_of_ble_eq_true rfl, Nat.le_of_ble_eq_true rfl⟩ (Nat.le_of_ble_eq_true rfl) ⟨Nat.le_of_ble_eq_true rfl, Nat.le_of_ble_eq_true rfl⟩ dX12_isOpen_42 45 rfl (fun x_5 hF => ?_)
        refine x_iconst X 1 dX12_isOpen_45 rfl 46 rfl ?_
        refine x_icmp_eq X hF 53 49 dX12_isOpen_46 (by decide) rfl (fun hF => ?_) (fun hF => ?_)
        · refine x_iconst X 0 dX12_isOpen_53 rfl 54 rfl ?_
          exact x_iret X hQ (o_inj hF) rfl rfl (Nat.le_of_ble_eq_true rfl) (Nat.le_of_ble_eq_true rfl) dX12_isOpen_54
        · refine x_iconst X 1 dX12_isOpen_49 rfl 50 rfl ?_
          refine x_goto X 54 dX12_isOpen_50 (by decide) ?_
          exact x_iret X hQ (o_inj hF) rfl rfl (Nat.le_of_ble_eq_true rfl) (Nat.le_of_ble_eq_true rfl) dX12_isOpen_54
    · refine x_iload_n X 3 dX12_isOpen_55 rfl rfl 56 rfl ?_
      refine x_iconst X 1 dX12_isOpen_56 rfl 57 rfl ?_
      refine x_icmp_ne X hF 88 60 dX12_isOpen_57 (by decide) rfl (fun hF => ?_) (fun hF => ?_)
      · refine x_aload_n X 0 dX12_isOpen_60 rfl rfl 61 rfl ?_
        refine x_iload_n X 1 dX12_isOpen_61 rfl rfl 62 rfl ?_
        refine x_iload_n X 2 dX12_isOpen_62 rfl rfl 63 rfl ?_
        refine x_callVi (fun x => x) (fun _ => mem) X hZ hF [.int x1, .int x2] 0 nw_0 kw_0 rfl rfl rfl kB_X12_wall kL_X12_187 (fun res h => cw_wall l hZ hW hg fu x1 x2 mem res h) rfl ⟨Nat.le_of_ble_eq_true rfl, Nat.le_of_ble_eq_true rfl⟩ (Nat.le_of_ble_eq_true rfl) ⟨Nat.le_of_ble_eq_true rfl, Nat.le_of_ble_eq_true rfl⟩ dX12_isOpen_63 66 rfl (fun x_6 hF => ?_)
        refine x_iconst X 2 dX12_isOpen_66 rfl 67 rfl ?_
        refine x_icmp_eq X hF 86 70 dX12_isOpen_67 (by decide) rfl (fun hF => ?_) (fun hF => ?_)
        · refine x_iconst X 0 dX12_isOpen_86 rfl 87 rfl ?_
          exact x_iret X hQ (o_inj hF) rfl rfl (Nat.le_of_ble_eq_true rfl) (Nat.le_of_ble_eq_true rfl) dX12_isOpen_87
        · refine x_aload_n X 0 dX12_isOpen_70 rfl rfl 71 rfl ?_
          refine x_iload_n X 1 dX12_isOpen_71 rfl rfl 72 rfl ?_
          refine x_iload_n X 2 dX12_isOpen_72 rfl rfl 73 rfl ?_
          refine x_iconst X 1 dX12_isOpen_73 rfl 74 rfl ?_
          refine x_isub X dX12_isOpen_74 75 rfl ?_
          refine x_callVi (fun x => x) (fun _ => mem) X hZ hF [.int x1, .int (x2 - 1)] 0 nw_0 kw_0 rfl rfl rfl kB_X12_wall kL_X12_187 (fun res h => cw_wall l hZ hW hg fu x1 (x2 - 1) mem res h) rfl ⟨Nat.le_of_ble_eq_true rfl, Nat.le_of_ble_eq_true rfl⟩ (Nat.le_of_ble_eq_true rfl) ⟨Nat.le_of_ble_eq_true rfl, Nat.le_of_ble_eq_true rfl⟩ dX12_isOpen_75 78 rfl (fun x_7 hF => ?_)
          refine x_iconst X 2 dX12_isOpen_78 rfl 79 rfl ?_
          refine x_icmp_eq X hF 86 82 dX12_isOpen_79 (by decide) rfl (fun hF => ?_) (fun hF => ?_)
          · refine x_iconst X 0 dX12_isOpen_86 rfl 87 rfl ?_
            exact x_iret X hQ (o_inj hF) rfl rfl (Nat.le_of_ble_eq_true rfl) (Nat.le_of_ble_eq_true rfl) dX12_isOpen_87
          · refine x_iconst X 1 dX12_isOpen_82 rfl 83 rfl ?_
            refine x_goto X 87 dX12_isOpen_83 (by decide) ?_
            exact x_iret X hQ (o_inj hF) rfl rfl (Nat.le_of_ble_eq_true rfl) (Nat.le_of_ble_eq_true rfl) dX12_isOpen_87
      · refine x_aload_n X 0 dX12_isOpen_88 rfl rfl 89 rfl ?_
        refine x_iload_n X 1 dX12_isOpen_89 rfl rfl 90 rfl ?_
        refine x_acr X hW (List.mem_of_getElem? (i := 0) rfl) dX12_isOpen_90 93 rfl ?_
        refine x_iload_n X 3 dX12_isOpen_93 rfl rfl 94 rfl ?_
        refine x_gi hF (fun h_8 hF => ?_)
        refine x_acl X hW h_8 dX12_isOpen_94 95 rfl ?_
        refine x_iadd X dX12_isOpen_95 96 rfl ?_
        refine x_iload_n X 2 dX12_isOpen_96 rfl rfl 97 rfl ?_
        refine x_ups X hW (List.mem_of_getElem? (i := 1) rfl) dX12_isOpen_97 100 rfl ?_
        refine x_iload_n X 3 dX12_isOpen_100 rfl rfl 101 rfl ?_
        refine x_gi hF (fun h_9 hF => ?_)
        refine x_upl X hW h_9 dX12_isOpen_101 102 rfl ?_
        refine x_iadd X dX12_isOpen_102 103 rfl ?_
        refine x_iload_n X 3 dX12_isOpen_103 rfl rfl 104 rfl ?_
        refine x_iconst X 2 dX12_isOpen_104 rfl 105 rfl ?_
        refine x_isub X dX12_isOpen_105 106 rfl ?_
        refine x_callVi (fun x => x) (fun _ => mem) X hZ hF [.int (x1 + (dxV (Int32.toNatClampNeg x3))), .int (x2 + (dyV (Int32.toNatClampNeg x3))), .int (x3 - 2)] 0 nw_0 kw_0 rfl rfl rfl kB_X12_isOpen kL_X12_190 (fun res h => cw_isOpen0 l hZ hW hg fu (x1 + (dxV (Int32.toNatClampNeg x3))) (x2 + (dyV (Int32.toNatClampNeg x3))) (x3 - 2) mem res h) rfl ⟨Nat.le_of_ble_eq_true rfl, Nat.le_of_ble_eq_true rfl⟩ (Nat.le_of_ble_eq_true rfl) ⟨Nat.le_of_ble_eq_true rfl, Nat.le_of_ble_eq_true rfl⟩ dX12_isOpen_106 109 rfl (fun x_10 hF => ?_)
        refine x_gb hF (fun h_11 hF => ?_)
        exact x_iret X hQ (o_inj hF) rfl (bool_nar h_11) (Nat.le_of_ble_eq_true rfl) (Nat.le_of_ble_eq_true rfl) dX12_isOpen_109

def KW_pawnAt_2 (np nb : Nat) (fu : Nat) (mem : Mem)  : Nat → Int32 → Int32 → Int32 → Option Int32
  | 0, _, _, _ => none
  | n + 1, x1, x2, x3 => (if x3 < (Int32.ofNat np) then gi x3 np ((if (rd mem (13 + (Int32.toNatClampNeg x3)) 6) = 0 then gi x3 np ((if (rd mem (13 + (Int32.toNatClampNeg x3)) 0) = x1 then gi x3 np ((if (rd mem (13 + (Int32.toNatClampNeg x3)) 1) = x2 then some x3 else (KW_pawnAt_2 np nb fu mem  n x1 x2 (x3 + 1)))) else (KW_pawnAt_2 np nb fu mem  n x1 x2 (x3 + 1)))) else (KW_pawnAt_2 np nb fu mem  n x1 x2 (x3 + 1)))) else some (-1))
def KW_pawnAt (np nb : Nat) (fu : Nat) (x1 : Int32) (x2 : Int32) (mem : Mem) : Option Int32 := (KW_pawnAt_2 np nb fu mem  fu x1 x2 0)
def rw_pawnAt : Room := { frames := 3, cells := 0, slots := 0, locals := 64 }
theorem rwc_pawnAt : rw_pawnAt.cells = 0 ∧ rw_pawnAt.slots = 0 := ⟨rfl, rfl⟩
set_option maxHeartbeats 4000000 in
set_option maxRecDepth 100000 in
theorem cw_pawnAt (l : Launch) {D : va_G} {ca ad : Nat → Nat} {np nb eD tS sB : Nat} {Z : (Nat → Prop) → State → Heap → Prop} (hZ : ZOK Z) {tA tU L : Nat} {xs : Nat → Int32} (hW : ZWO Z tA tU sB L xs) (hg : np ≤ 4 ∧ nb ≤ 4 ∧ (np = 0 → nb = 0)) (fu : Nat) (x1 : Int32) (x2 : Int32) (mem : Mem) (res : Int32) (hF : KW_pawnAt np nb fu x1 x2 mem = some res) : CJ l D (tyL ca) (nW np nb) ad (cWd ca ad np nb eD tS sB) Z yX12_pawnAt cX12_pawnAt 4 .int rw_pawnAt [.ref (ad 0), .int x1, .int x2] mem res mem := by
  refine xstart_i (own := RX12) rfl (by decide) (Nat.le_of_ble_eq_true rfl) ?_
  intro p e s m args below meth c Q hQ X
  rw [KW_pawnAt] at hF
  revert hF
  have w_2 : ∀  (n : Nat) (x1 : Int32) (x2 : Int32) (x3 : Int32), KW_pawnAt_2 np nb fu mem  n x1 x2 x3 = some res → XX D (nW np nb) ad (cWd ca ad np nb eD tS sB) p l e rw_pawnAt s m args below meth c 4 0 0 Q mem [] 2 [(0, .ref (ad 0)), (1, .int x1), (2, .int x2), (3, .int x3)] [] := by
    intro  n
    induction n with
    | zero => intro x1 x2 x3 hF; exact no_none (show (none : Option Int32) = some res from hF)
    | succ n ih =>
      intro x1 x2 x3 hF
      rw [KW_pawnAt_2] at hF
      refine x_iload_n X 3 dX12_pawnAt_2 rfl rfl 3 rfl ?_
      refine x_aload_n X 0 dX12_pawnAt_3 rfl rfl 4 rfl ?_
      refine x_getV (v := .ref (ad 1)) X 0 nw_0 kw_0 (T := TX12) (N := 11) rfl in_X12 5 (by decide) kF_X12_19 rfl rfl dX12_pawnAt_4 7 rfl ?_
      refine xw_size X hZ hW kL_X12_106 ⟨Nat.le_of_ble_eq_true rfl, Nat.le_of_ble_eq_true rfl⟩ (Nat.le_of_ble_eq_true rfl) ⟨Nat.le_of_ble_eq_true rfl, Nat.le_of_ble_eq_true rfl⟩ dX12_pawnAt_7 12 rfl ?_
      refine x_icmp_ge X hF 80 15 dX12_pawnAt_12 (by decide) rfl (fun hF => ?_) (fun hF => ?_)
      · refine x_aload_n X 0 dX12_pawnAt_15 rfl rfl 16 rfl ?_
        refine x_getV (v := .ref (ad 1)) X 0 nw_0 kw_0 (T := TX12) (N := 11) rfl in_X12 5 (by decide) kF_X12_19 rfl rfl dX12_pawnAt_16 19 rfl ?_
        refine x_iload_n X 3 dX12_pawnAt_19 rfl rfl 20 rfl ?_
        refine x_gi hF (fun h_1 hF => ?_)
        refine xw_get X hZ hW hg.1 h_1 kL_X12_193 kCl_X12_169 ⟨Nat.le_of_ble_eq_true rfl, Nat.le_of_ble_eq_true rfl⟩ (Nat.le_of_ble_eq_true rfl) ⟨Nat.le_of_ble_eq_true rfl, Nat.le_of_ble_eq_true rfl⟩ dX12_pawnAt_20 25 rfl dX12_pawnAt_25 28 rfl ?_
        refine x_bipush X 6 dX12_pawnAt_28 rfl 30 rfl ?_
        refine x_ial X (13 + (Int32.toNatClampNeg x3)) (nw_p (vp_lt h_1)) (kw_p (vp_lt h_1)) (t0 := 0) rfl (by unfold vp_in; decide +kernel) dX12_pawnAt_30 31 rfl ?_
        refine x_if_ne X hF 74 34 dX12_pawnAt_31 (by decide) rfl (fun hF => ?_) (fun hF => ?_)
        · refine x_aload_n X 0 dX12_pawnAt_34 rfl rfl 35 rfl ?_
          refine x_getV (v := .ref (ad 1)) X 0 nw_0 kw_0 (T := TX12) (N := 11) rfl in_X12 5 (by decide) kF_X12_19 rfl rfl dX12_pawnAt_35 38 rfl ?_
          refine x_iload_n X 3 dX12_pawnAt_38 rfl rfl 39 rfl ?_
          refine x_gi hF (fun h_2 hF => ?_)
          refine xw_get X hZ hW hg.1 h_2 kL_X12_193 kCl_X12_169 ⟨Nat.le_of_ble_eq_true rfl, Nat.le_of_ble_eq_true rfl⟩ (Nat.le_of_ble_eq_true rfl) ⟨Nat.le_of_ble_eq_true rfl, Nat.le_of_ble_eq_true rfl⟩ dX12_pawnAt_39 44 rfl dX12_pawnAt_44 47 rfl ?_
          refine x_iconst X 0 dX12_pawnAt_47 rfl 48 rfl ?_
          refine x_ial X (13 + (Int32.toNatClampNeg x3)) (nw_p (vp_lt h_2)) (kw_p (vp_lt h_2)) (t0 := 0) rfl (by unfold vp_in; decide +kernel) dX12_pawnAt_48 49 rfl ?_
          refine x_iload_n X 1 dX12_pawnAt_49 rfl rfl 50 rfl ?_
          refine x_icmp_ne X hF 74 53 dX12_pawnAt_50 (by decide) rfl (fun hF => ?_) (fun hF => ?_)
          · refine x_aload_n X 0 dX12_pawnAt_53 rfl rfl 54 rfl ?_
            refine x_getV (v := .ref (ad 1)) X 0 nw_0 kw_0 (T := TX12) (N := 11) rfl in_X12 5 (by decide) kF_X12_19 rfl rfl dX12_pawnAt_54 57 rfl ?_
            refine x_iload_n X 3 dX12_pawnAt_57 rfl rfl 58 rfl ?_
            refine x_gi hF (fun h_3 hF => ?_)
            refine xw_get X hZ hW hg.1 h_3 kL_X12_193 kCl_X12_169 ⟨Nat.le_of_ble_eq_true rfl, Nat.le_of_ble_eq_true rfl⟩ (Nat.le_of_ble_eq_true rfl) ⟨Nat.le_of_ble_eq_true rfl, Nat.le_of_ble_eq_true rfl⟩ dX12_pawnAt_58 63 rfl dX12_pawnAt_63 66 rfl ?_
            refine x_iconst X 1 dX12_pawnAt_66 rfl 67 rfl ?_
            refine x_ial X (13 + (Int32.toNatClampNeg x3)) (nw_p (vp_lt h_3)) (kw_p (vp_lt h_3)) (t0 := 0) rfl (by unfold vp_in; decide +kernel) dX12_pawnAt_67 68 rfl ?_
            refine x_iload_n X 2 dX12_pawnAt_68 rfl rfl 69 rfl ?_
            refine x_icmp_ne X hF 74 72 dX12_pawnAt_69 (by decide) rfl (fun hF => ?_) (fun hF => ?_)
            · refine x_iload_n X 3 dX12_pawnAt_72 rfl rfl 73 rfl ?_
              exact x_iret X hQ (o_inj hF) rfl rfl (Nat.le_of_ble_eq_true rfl) (Nat.le_of_ble_eq_true rfl) dX12_pawnAt_73
            · refine x_iinc X 3 (x3 + 1) [(3, .int (x3 + 1)), (0, .ref (ad 0)), (1, .int x1), (2, .int x2)] dX12_pawnAt_74 rfl rfl (by decide) rfl 77 rfl ?_
              refine x_goto X 2 dX12_pawnAt_77 (by decide) ?_
              refine x_keep [1, 2, 3, 0] rfl ?_
              exact ih x1 x2 (x3 + 1) hF
          · refine x_iinc X 3 (x3 + 1) [(3, .int (x3 + 1)), (0, .ref (ad 0)), (1, .int x1), (2, .int x2)] dX12_pawnAt_74 rfl rfl (by decide) rfl 77 rfl ?_
            refine x_goto X 2 dX12_pawnAt_77 (by decide) ?_
            refine x_keep [1, 2, 3, 0] rfl ?_
            exact ih x1 x2 (x3 + 1) hF
        · refine x_iinc X 3 (x3 + 1) [(3, .int (x3 + 1)), (0, .ref (ad 0)), (1, .int x1), (2, .int x2)] dX12_pawnAt_74 rfl rfl (by decide) rfl 77 rfl ?_
          refine x_goto X 2 dX12_pawnAt_77 (by decide) ?_
          refine x_keep [1, 2, 3, 0] rfl ?_
          exact ih x1 x2 (x3 + 1) hF
      · refine x_iconst X (-1) dX12_pawnAt_80 rfl 81 rfl ?_
        exact x_iret X hQ (o_inj hF) rfl rfl (Nat.le_of_ble_eq_true rfl) (Nat.le_of_ble_eq_true rfl) dX12_pawnAt_81
  intro hF
  refine x_iconst X 0 dX12_pawnAt_0 rfl 1 rfl ?_
  refine x_istore_n X [(3, .int 0), (0, .ref (ad 0)), (1, .int x1), (2, .int x2)] dX12_pawnAt_1 rfl (by decide) rfl 2 rfl ?_
  refine x_keep [1, 2, 3, 0] rfl ?_
  exact w_2  fu x1 x2 0 hF

def KW_isOver (np nb : Nat) (fu : Nat)  (mem : Mem) : Option Int32 := (if ((Int32.ofNat np) - (rd mem 0 3)) < 2 then some 1 else (if (rd mem 0 2) < 200 then some 0 else some 1))
def rw_isOver : Room := { frames := 1, cells := 0, slots := 0, locals := 20 }
theorem rwc_isOver : rw_isOver.cells = 0 ∧ rw_isOver.slots = 0 := ⟨rfl, rfl⟩
set_option maxHeartbeats 4000000 in
set_option maxRecDepth 100000 in
theorem cw_isOver (l : Launch) {D : va_G} {ca ad : Nat → Nat} {np nb eD tS sB : Nat} {Z : (Nat → Prop) → State → Heap → Prop} (hZ : ZOK Z) {tA tU L : Nat} {xs : Nat → Int32} (hW : ZWO Z tA tU sB L xs) (hg : np ≤ 4 ∧ nb ≤ 4 ∧ (np = 0 → nb = 0)) (fu : Nat)  (mem : Mem) (res : Int32) (hF : KW_isOver np nb fu  mem = some res) : CJ l D (tyL ca) (nW np nb) ad (cWd ca ad np nb eD tS sB) Z yX12_isOver cX12_isOver 1 .boolean rw_isOver [.ref (ad 0)] mem res mem := by
  refine xstart_i (own := RX12) rfl (by decide) (Nat.le_of_ble_eq_true rfl) ?_
  intro p e s m args below meth c Q hQ X
  rw [KW_isOver] at hF
  refine x_aload_n X 0 dX12_isOver_0 rfl rfl 1 rfl ?_
  refine x_getV (v := .ref (ad 1)) X 0 nw_0 kw_0 (T := TX12) (N := 11) rfl in_X12 5 (by decide) kF_X12_19 rfl rfl dX12_isOver_1 4 rfl ?_
  refine xw_size X hZ hW kL_X12_106 ⟨Nat.le_of_ble_eq_true rfl, Nat.le_of_ble_eq_true rfl⟩ (Nat.le_of_ble_eq_true rfl) ⟨Nat.le_of_ble_eq_true rfl, Nat.le_of_ble_eq_true rfl⟩ dX12_isOver_4 9 rfl ?_
  refine x_aload_n X 0 dX12_isOver_9 rfl rfl 10 rfl ?_
  refine x_getV (v := .int (rd mem 0 3)) X 0 nw_0 kw_0 (T := TX12) (N := 11) rfl in_X12 3 (by decide) kF_X12_151 rfl rfl dX12_isOver_10 13 rfl ?_
  refine x_isub X dX12_isOver_13 14 rfl ?_
  refine x_iconst X 2 dX12_isOver_14 rfl 15 rfl ?_
  refine x_icmp_lt X hF 28 18 dX12_isOver_15 (by decide) rfl (fun hF => ?_) (fun hF => ?_)
  · refine x_iconst X 1 dX12_isOver_28 rfl 29 rfl ?_
    refine x_goto X 33 dX12_isOver_29 (by decide) ?_
    exact x_iret X hQ (o_inj hF) rfl rfl (Nat.le_of_ble_eq_true rfl) (Nat.le_of_ble_eq_true rfl) dX12_isOver_33
  · refine x_aload_n X 0 dX12_isOver_18 rfl rfl 19 rfl ?_
    refine x_getV (v := .int (rd mem 0 2)) X 0 nw_0 kw_0 (T := TX12) (N := 11) rfl in_X12 2 (by decide) kF_X12_148 rfl rfl dX12_isOver_19 22 rfl ?_
    refine x_sipush X 200 dX12_isOver_22 rfl 25 rfl ?_
    refine x_icmp_lt X hF 32 28 dX12_isOver_25 (by decide) rfl (fun hF => ?_) (fun hF => ?_)
    · refine x_iconst X 0 dX12_isOver_32 rfl 33 rfl ?_
      exact x_iret X hQ (o_inj hF) rfl rfl (Nat.le_of_ble_eq_true rfl) (Nat.le_of_ble_eq_true rfl) dX12_isOver_33
    · refine x_iconst X 1 dX12_isOver_28 rfl 29 rfl ?_
      refine x_goto X 33 dX12_isOver_29 (by decide) ?_
      exact x_iret X hQ (o_inj hF) rfl rfl (Nat.le_of_ble_eq_true rfl) (Nat.le_of_ble_eq_true rfl) dX12_isOver_33

def KW_endTurn_12 (np nb : Nat) (fu : Nat)  : Nat → Int32 → Mem → Option Mem
  | 0, _, _ => none
  | n + 1, x1, mem => (if (Int32.ofNat np) < x1 then some mem else gz (Int32.ofNat np) (lt_ (((rd mem 0 4) + x1) - ((rd mem 0 4) + x1) / (Int32.ofNat np) * (Int32.ofNat np)) (fun x_2 => gi x_2 np ((if 0 < (rd mem (13 + (Int32.toNatClampNeg x_2)) 6) then (KW_endTurn_12 np nb fu  n (x1 + 1) mem) else lt_ (mw mem 0 4 x_2) (fun m_4 => some m_4))))))
def KW_endTurn (np nb : Nat) (fu : Nat)  (mem : Mem) : Option Mem := lt_ (mw mem 0 2 ((rd mem 0 2) + 1)) (fun m_5 => (KW_endTurn_12 np nb fu  fu 1 m_5))
def rw_endTurn : Room := { frames := 3, cells := 0, slots := 0, locals := 64 }
theorem rwc_endTurn : rw_endTurn.cells = 0 ∧ rw_endTurn.slots = 0 := ⟨rfl, rfl⟩
set_option maxHeartbeats 4000000 in
set_option maxRecDepth 100000 in
theorem cw_endTurn (l : Launch) {D : va_G} {ca ad : Nat → Nat} {np nb eD tS sB : Nat} {Z : (Nat → Prop) → State → Heap → Prop} (hZ : ZOK Z) {tA tU L : Nat} {xs : Nat → Int32} (hW : ZWO Z tA tU sB L xs) (hg : np ≤ 4 ∧ nb ≤ 4 ∧ (np = 0 → nb = 0)) (fu : Nat)  (mem : Mem) (res : Mem) (hF : KW_endTurn np nb fu  mem = some res) : CJv l D (tyL ca) (nW np nb) ad (cWd ca ad np nb eD tS sB) Z yX12_endTurn cX12_endTurn 3 rw_endTurn [.ref (ad 0)] mem res := by
  refine xstart_v (own := RX12) rfl (by decide) (Nat.le_of_ble_eq_true rfl) ?_
  intro p e s m args below meth c Q hQ X
  rw [KW_endTurn] at hF
  revert hF
  have w_12 : ∀  (n : Nat) (x1 : Int32) (mem : Mem), KW_endTurn_12 np nb fu  n x1 mem = some res → XX D (nW np nb) ad (cWd ca ad np nb eD tS sB) p l e rw_endTurn s m args below meth c 3 0 0 Q mem [] 12 [(0, .ref (ad 0)), (1, .int x1)] [] := by
    intro  n
    induction n with
    | zero => intro x1 mem hF; exact no_none (show (none : Option Mem) = some res from hF)
    | succ n ih =>
      intro x1 mem hF
      rw [KW_endTurn_12] at hF
      refine x_iload_n X 1 dX12_endTurn_12 rfl rfl 13 rfl ?_
      refine x_aload_n X 0 dX12_endTurn_13 rfl rfl 14 rfl ?_
      refine x_getV (v := .ref (ad 1)) X 0 nw_0 kw_0 (T := TX12) (N := 11) rfl in_X12 5 (by decide) kF_X12_19 rfl rfl dX12_endTurn_14 17 rfl ?_
      refine xw_size X hZ hW kL_X12_106 ⟨Nat.le_of_ble_eq_true rfl, Nat.le_of_ble_eq_true rfl⟩ (Nat.le_of_ble_eq_true rfl) ⟨Nat.le_of_ble_eq_true rfl, Nat.le_of_ble_eq_true rfl⟩ dX12_endTurn_17 22 rfl ?_
      refine x_icmp_gt X hF 76 25 dX12_endTurn_22 (by decide) rfl (fun hF => ?_) (fun hF => ?_)
      · exact x_vret X hQ (o_inj hF) (Nat.le_of_ble_eq_true rfl) (Nat.le_of_ble_eq_true rfl) dX12_endTurn_76
      · refine x_aload_n X 0 dX12_endTurn_25 rfl rfl 26 rfl ?_
        refine x_getV (v := .int (rd mem 0 4)) X 0 nw_0 kw_0 (T := TX12) (N := 11) rfl in_X12 4 (by decide) kF_X12_154 rfl rfl dX12_endTurn_26 29 rfl ?_
        refine x_iload_n X 1 dX12_endTurn_29 rfl rfl 30 rfl ?_
        refine x_iadd X dX12_endTurn_30 31 rfl ?_
        refine x_aload_n X 0 dX12_endTurn_31 rfl rfl 32 rfl ?_
        refine x_getV (v := .ref (ad 1)) X 0 nw_0 kw_0 (T := TX12) (N := 11) rfl in_X12 5 (by decide) kF_X12_19 rfl rfl dX12_endTurn_32 35 rfl ?_
        refine xw_size X hZ hW kL_X12_106 ⟨Nat.le_of_ble_eq_true rfl, Nat.le_of_ble_eq_true rfl⟩ (Nat.le_of_ble_eq_true rfl) ⟨Nat.le_of_ble_eq_true rfl, Nat.le_of_ble_eq_true rfl⟩ dX12_endTurn_35 40 rfl ?_
        refine x_gz hF (fun h_1 hF => ?_)
        refine x_irem X h_1 dX12_endTurn_40 41 rfl ?_
        refine x_let hF (fun x_2 hF => ?_)
        refine x_istore_n X [(2, .int x_2), (0, .ref (ad 0)), (1, .int x1)] dX12_endTurn_41 rfl (by decide) rfl 42 rfl ?_
        refine x_aload_n X 1 dX12_endTurn_42 rfl rfl 43 rfl ?_
        refine x_getV (v := .ref (ad 1)) X 0 nw_0 kw_0 (T := TX12) (N := 11) rfl in_X12 5 (by decide) kF_X12_19 rfl rfl dX12_endTurn_43 46 rfl ?_
        refine x_iload_n X 0 dX12_endTurn_46 rfl rfl 47 rfl ?_
        refine x_gi hF (fun h_3 hF => ?_)
        refine xw_get X hZ hW hg.1 h_3 kL_X12_193 kCl_X12_169 ⟨Nat.le_of_ble_eq_true rfl, Nat.le_of_ble_eq_true rfl⟩ (Nat.le_of_ble_eq_true rfl) ⟨Nat.le_of_ble_eq_true rfl, Nat.le_of_ble_eq_true rfl⟩ dX12_endTurn_47 52 rfl dX12_endTurn_52 55 rfl ?_
        refine x_bipush X 6 dX12_endTurn_55 rfl 57 rfl ?_
        refine x_ial X (13 + (Int32.toNatClampNeg x_2)) (nw_p (vp_lt h_3)) (kw_p (vp_lt h_3)) (t0 := 0) rfl (by unfold vp_in; decide +kernel) dX12_endTurn_57 58 rfl ?_
        refine x_if_le X hF 64 61 dX12_endTurn_58 (by decide) rfl (fun hF => ?_) (fun hF => ?_)
        · refine x_goto X 70 dX12_endTurn_61 (by decide) ?_
          refine x_iinc X 2 (x1 + 1) [(1, .int (x1 + 1)), (2, .int x_2), (0, .ref (ad 0))] dX12_endTurn_70 rfl rfl (by decide) rfl 73 rfl ?_
          refine x_goto X 12 dX12_endTurn_73 (by decide) ?_
          refine x_keep [2, 0] rfl ?_
          exact ih (x1 + 1) mem hF
        · refine x_aload_n X 1 dX12_endTurn_64 rfl rfl 65 rfl ?_
          refine x_iload_n X 0 dX12_endTurn_65 rfl rfl 66 rfl ?_
          refine x_putI X 0 nw_0 kw_0 (T := TX12) (N := 11) rfl in_X12 tyX12 tyX12_ok nmX12 4 (by decide) kF_X12_154 rfl rfl rfl rfl (Nat.le_of_ble_eq_true rfl) rfl dX12_endTurn_66 69 rfl ?_
          refine x_letm hF (fun m_4 hF => ?_)
          exact x_vret X hQ (o_inj hF) (Nat.le_of_ble_eq_true rfl) (Nat.le_of_ble_eq_true rfl) dX12_endTurn_69
  intro hF
  refine x_aload_n X 0 dX12_endTurn_0 rfl rfl 1 rfl ?_
  refine x_dup X dX12_endTurn_1 rfl 2 rfl ?_
  refine x_getV (v := .int (rd mem 0 2)) X 0 nw_0 kw_0 (T := TX12) (N := 11) rfl in_X12 2 (by decide) kF_X12_148 rfl rfl dX12_endTurn_2 5 rfl ?_
  refine x_iconst X 1 dX12_endTurn_5 rfl 6 rfl ?_
  refine x_iadd X dX12_endTurn_6 7 rfl ?_
  refine x_putI X 0 nw_0 kw_0 (T := TX12) (N := 11) rfl in_X12 tyX12 tyX12_ok nmX12 2 (by decide) kF_X12_148 rfl rfl rfl rfl (Nat.le_of_ble_eq_true rfl) rfl dX12_endTurn_7 10 rfl ?_
  refine x_letm hF (fun m_5 hF => ?_)
  refine x_iconst X 1 dX12_endTurn_10 rfl 11 rfl ?_
  refine x_istore_n X [(1, .int 1), (0, .ref (ad 0))] dX12_endTurn_11 rfl (by decide) rfl 12 rfl ?_
  refine x_keep [1, 0] rfl ?_
  exact w_12  fu 1 m_5 hF

def KW_distances_26 (np nb : Nat) (fu : Nat) (mem : Mem) (k_15 : Nat → Nat → (Nat → Nat → Int32) → Int32 → Int32 → Option (Nat × Nat × (Nat → Nat → Int32))) : Nat → Nat → Nat → (Nat → Nat → Int32) → Int32 → Int32 → Int32 → Option (Nat × Nat × (Nat → Nat → Int32))
  | 0, _, _, _, _, _, _ => none
  | n + 1, w, h, d, x1, x3, x4 => (if x4 < (rd mem 0 1) then gi x3 w (bd (KW_isAtSide np nb fu x3 x4 x1 mem) (fun x_2 => (if x_2 = 0 then gi x4 h (lt_ (upD d (Int32.toNatClampNeg x3) (Int32.toNatClampNeg x4) 1000) (fun d_4 => (KW_distances_26 np nb fu mem k_15 n w h d_4 x1 x3 (x4 + 1)))) else gi x4 h (lt_ (upD d (Int32.toNatClampNeg x3) (Int32.toNatClampNeg x4) 0) (fun d_6 => (KW_distances_26 np nb fu mem k_15 n w h d_6 x1 x3 (x4 + 1))))))) else (k_15 w h d x1 (x3 + 1)))
def KW_distances_106 (np nb : Nat) (fu : Nat) (mem : Mem) (k_73 : Nat → Nat → (Nat → Nat → Int32) → Int32 → Option (Nat × Nat × (Nat → Nat → Int32))) (k_82 : Nat → Nat → (Nat → Nat → Int32) → Int32 → Int32 → Option (Nat × Nat × (Nat → Nat → Int32))) (k_94 : Nat → Nat → (Nat → Nat → Int32) → Int32 → Int32 → Int32 → Option (Nat × Nat × (Nat → Nat → Int32))) : Nat → Nat → Nat → (Nat → Nat → Int32) → Int32 → Int32 → Int32 → Int32 → Option (Nat × Nat × (Nat → Nat → Int32))
  | 0, _, _, _, _, _, _, _ => none
  | n + 1, w, h, d, x3, x4, x5, x6 => (if x6 < 4 then bd (KW_isOpen np nb fu x4 x5 x6 mem) (fun x_7 => (if x_7 = 0 then (KW_distances_106 np nb fu mem k_73 k_82 k_94 n w h d x3 x4 x5 (x6 + 1)) else gi x6 4 (gi (x4 + (dxV (Int32.toNatClampNeg x6))) w (gi x6 4 (gi (x5 + (dyV (Int32.toNatClampNeg x6))) h (gi x4 w (gi x5 h ((if ((d (Int32.toNatClampNeg (x4 + (dxV (Int32.toNatClampNeg x6)))) (Int32.toNatClampNeg (x5 + (dyV (Int32.toNatClampNeg x6))))) + 1) < (d (Int32.toNatClampNeg x4) (Int32.toNatClampNeg x5)) then gi x4 w (gi x6 4 (gi (x4 + (dxV (Int32.toNatClampNeg x6))) w (gi x6 4 (gi (x5 + (dyV (Int32.toNatClampNeg x6))) h (gi x5 h (lt_ (upD d (Int32.toNatClampNeg x4) (Int32.toNatClampNeg x5) ((d (Int32.toNatClampNeg (x4 + (dxV (Int32.toNatClampNeg x6)))) (Int32.toNatClampNeg (x5 + (dyV (Int32.toNatClampNeg x6))))) + 1)) (fun d_20 => (KW_distances_106 np nb fu mem k_73 k_82 k_94 n w h d_20 1 x4 x5 (x6 + 1))))))))) else (KW_distances_106 np nb fu mem k_73 k_82 k_94 n w h d x3 x4 x5 (x6 + 1))))))))))) else (k_94 w h d x3 x4 (x5 + 1)))
def KW_distances_94 (np nb : Nat) (fu : Nat) (mem : Mem) (k_73 : Nat → Nat → (Nat → Nat → Int32) → Int32 → Option (Nat × Nat × (Nat → Nat → Int32))) (k_82 : Nat → Nat → (Nat → Nat → Int32) → Int32 → Int32 → Option (Nat × Nat × (Nat → Nat → Int32))) : Nat → Nat → Nat → (Nat → Nat → Int32) → Int32 → Int32 → Int32 → Option (Nat × Nat × (Nat → Nat → Int32))
  | 0, _, _, _, _, _, _ => none
  | n + 1, w, h, d, x3, x4, x5 => (if x5 < (rd mem 0 1) then (KW_distances_106 np nb fu mem k_73 k_82 (KW_distances_94 np nb fu mem k_73 k_82 n) fu w h d x3 x4 x5 0) else (k_82 w h d x3 (x4 + 1)))
def KW_distances_82 (np nb : Nat) (fu : Nat) (mem : Mem) (k_73 : Nat → Nat → (Nat → Nat → Int32) → Int32 → Option (Nat × Nat × (Nat → Nat → Int32))) : Nat → Nat → Nat → (Nat → Nat → Int32) → Int32 → Int32 → Option (Nat × Nat × (Nat → Nat → Int32))
  | 0, _, _, _, _, _ => none
  | n + 1, w, h, d, x3, x4 => (if x4 < (rd mem 0 0) then (KW_distances_94 np nb fu mem k_73 (KW_distances_82 np nb fu mem k_73 n) fu w h d x3 x4 0) else (k_73 w h d x3))
def KW_distances_73 (np nb : Nat) (fu : Nat) (mem : Mem)  : Nat → Nat → Nat → (Nat → Nat → Int32) → Int32 → Option (Nat × Nat × (Nat → Nat → Int32))
  | 0, _, _, _, _ => none
  | n + 1, w, h, d, x3 => (if x3 = 0 then some (w, h, d) else (KW_distances_82 np nb fu mem (KW_distances_73 np nb fu mem  n) fu w h d 0 0))
def KW_distances_15 (np nb : Nat) (fu : Nat) (mem : Mem)  : Nat → Nat → Nat → (Nat → Nat → Int32) → Int32 → Int32 → Option (Nat × Nat × (Nat → Nat → Int32))
  | 0, _, _, _, _, _ => none
  | n + 1, w, h, d, x1, x3 => (if x3 < (rd mem 0 0) then (KW_distances_26 np nb fu mem (KW_distances_15 np nb fu mem  n) fu w h d x1 x3 0) else (KW_distances_73 np nb fu mem  fu w h d 1))
def KW_distances (np nb : Nat) (fu : Nat) (x1 : Int32) (mem : Mem) : Option (Nat × Nat × (Nat → Nat → Int32)) := g8 (rd mem 0 0) (g8 (rd mem 0 1) ((KW_distances_15 np nb fu mem  fu (Int32.toNatClampNeg (rd mem 0 0)) (Int32.toNatClampNeg (rd mem 0 1)) (fun _ _ => 0) x1 0)))
def rw_distances : Room := { frames := 3, cells := 9, slots := 72, locals := 68 }
theorem rwc_distances : rw_distances.cells = 9 ∧ rw_distances.slots = 72 := ⟨rfl, rfl⟩
set_option maxHeartbeats 4000000 in
set_option maxRecDepth 100000 in
theorem cw_distances (l : Launch) {D : va_G} {ca ad : Nat → Nat} {np nb eD tS sB : Nat} {Z : (Nat → Prop) → State → Heap → Prop} (hZ : ZOK Z) {tA tU L : Nat} {xs : Nat → Int32} (hW : ZWO Z tA tU sB L xs) (hg : np ≤ 4 ∧ nb ≤ 4 ∧ (np = 0 → nb = 0)) (fu : Nat) (x1 : Int32) (mem : Mem) (res : (Nat × Nat × (Nat → Nat → Int32))) (hF : KW_distances np nb fu x1 mem = some res) : CJr l D (tyL ca) (nW np nb) ad (cWd ca ad np nb eD tS sB) Z yX12_distances cX12_distances 7 (.array (.array .int)) rw_distances [.ref (ad 0), .int x1] mem (fun a ws => ∃ r, ws = exD ca a r res.1 res.2.1 res.2.2) mem := by
  refine xstart_r (own := RX12) rfl (by decide) (Nat.le_of_ble_eq_true rfl) ?_
  intro p e s m args below meth c Q hQ X
  have ec_isAtSide := rwc_isAtSide
  have ec_isOpen := rwc_isOpen
  rw [KW_distances] at hF
  revert hF
  have w_26 : ∀ (q : Nat) (r : Nat → Nat) (k_15 : Nat → Nat → (Nat → Nat → Int32) → Int32 → Int32 → Option (Nat × Nat × (Nat → Nat → Int32))) (hk_15 : ∀ (w : Nat) (h : Nat) (d : Nat → Nat → Int32) (x1 : Int32) (x3 : Int32), k_15 w h d x1 x3 = some res → XX D (nW np nb) ad (cWd ca ad np nb eD tS sB) p l e rw_distances s m args below meth c 7 9 72 Q mem (exD ca q r w h d) 15 [(0, .ref (ad 0)), (1, .int x1), (2, .ref q), (3, .int x3)] []) (n : Nat) (w : Nat) (h : Nat) (d : Nat → Nat → Int32) (x1 : Int32) (x3 : Int32) (x4 : Int32), KW_distances_26 np nb fu mem k_15 n w h d x1 x3 x4 = some res → XX D (nW np nb) ad (cWd ca ad np nb eD tS sB) p l e rw_distances s m args below meth c 7 9 72 Q mem (exD ca q r w h d) 26 [(0, .ref (ad 0)), (1, .int x1), (2, .ref q), (3, .int x3), (4, .int x4)] [] := by
    intro q r k_15 hk_15 n
    induction n with
    | zero => intro w h d x1 x3 x4 hF; exact no_none (show (none : Option (Nat × Nat × (Nat → Nat → Int32))) = some res from hF)
    | succ n ih =>
      intro w h d x1 x3 x4 hF
      rw [KW_distances_26] at hF
      refine x_iload X 4 dX12_distances_26 rfl 28 rfl ?_
      refine x_aload_n X 0 dX12_distances_28 rfl rfl 29 rfl ?_
      refine x_getV (v := .int (rd mem 0 1)) X 0 nw_0 kw_0 (T := TX12) (N := 11) rfl in_X12 1 (by decide) kF_X12_13 rfl rfl dX12_distances_29 32 rfl ?_
      refine x_icmp_ge X hF 65 35 dX12_distances_32 (by decide) rfl (fun hF => ?_) (fun hF => ?_)
      · refine x_aload_n X 2 dX12_distances_35 rfl rfl 36 rfl ?_
        refine x_iload_n X 3 dX12_distances_36 rfl rfl 37 rfl ?_
        refine x_gi hF (fun h_1 hF => ?_)
        refine e_aar X 0 (b := r (Int32.toNatClampNeg x3)) exD_0 (t0 := 6) rfl h_1 (if_pos (vp_lt h_1)) dX12_distances_37 38 rfl ?_
        refine x_iload X 4 dX12_distances_38 rfl 40 rfl ?_
        refine x_aload_n X 0 dX12_distances_40 rfl rfl 41 rfl ?_
        refine x_iload_n X 3 dX12_distances_41 rfl rfl 42 rfl ?_
        refine x_iload X 4 dX12_distances_42 rfl 44 rfl ?_
        refine x_iload_n X 1 dX12_distances_44 rfl rfl 45 rfl ?_
        refine x_callVi (fun x => x) (fun _ => mem) X hZ hF [.int x3, .int x4, .int x1] 0 nw_0 kw_0 rfl rfl rfl kB_X12_isAtSide kL_X12_100 (fun res h => cw_isAtSide l hZ hW hg fu x3 x4 x1 mem res h) rfl ⟨Nat.le_of_ble_eq_true rfl, Nat.le_of_ble_eq_true rfl⟩ (Nat.le_of_ble_eq_true rfl) ⟨Nat.le_of_ble_eq_true rfl, Nat.le_of_ble_eq_true rfl⟩ dX12_distances_45 48 rfl (fun x_2 hF => ?_)
        refine x_if_eq X hF 55 51 dX12_distances_48 (by decide) rfl (fun hF => ?_) (fun hF => ?_)
        · refine x_sipush X 1000 dX12_distances_55 rfl 58 rfl ?_
          refine x_gi hF (fun h_3 hF => ?_)
          refine e_ias X (1 + (Int32.toNatClampNeg x3)) _ (exD_r (vp_lt h_1)) (t0 := 0) rfl h_3 (exD_s (vp_lt h_1)) dX12_distances_58 59 rfl ?_
          refine x_letd hF (fun d_4 hF => ?_)
          refine x_iinc X 4 (x4 + 1) [(4, .int (x4 + 1)), (0, .ref (ad 0)), (1, .int x1), (2, .ref q), (3, .int x3)] dX12_distances_59 rfl rfl (by decide) rfl 62 rfl ?_
          refine x_goto X 26 dX12_distances_62 (by decide) ?_
          refine x_keep [1, 2, 3, 4, 0] rfl ?_
          exact ih w h d_4 x1 x3 (x4 + 1) hF
        · refine x_iconst X 0 dX12_distances_51 rfl 52 rfl ?_
          refine x_goto X 58 dX12_distances_52 (by decide) ?_
          refine x_gi hF (fun h_5 hF => ?_)
          refine e_ias X (1 + (Int32.toNatClampNeg x3)) _ (exD_r (vp_lt h_1)) (t0 := 0) rfl h_5 (exD_s (vp_lt h_1)) dX12_distances_58 59 rfl ?_
          refine x_letd hF (fun d_6 hF => ?_)
          refine x_iinc X 4 (x4 + 1) [(4, .int (x4 + 1)), (0, .ref (ad 0)), (1, .int x1), (2, .ref q), (3, .int x3)] dX12_distances_59 rfl rfl (by decide) rfl 62 rfl ?_
          refine x_goto X 26 dX12_distances_62 (by decide) ?_
          refine x_keep [1, 2, 3, 4, 0] rfl ?_
          exact ih w h d_6 x1 x3 (x4 + 1) hF
      · refine x_iinc X 3 (x3 + 1) [(3, .int (x3 + 1)), (0, .ref (ad 0)), (1, .int x1), (2, .ref q), (4, .int x4)] dX12_distances_65 rfl rfl (by decide) rfl 68 rfl ?_
        refine x_goto X 15 dX12_distances_68 (by decide) ?_
        refine x_keep [1, 2, 3, 0] rfl ?_
        exact hk_15 w h d x1 (x3 + 1) hF
  have w_106 : ∀ (q : Nat) (r : Nat → Nat) (k_73 : Nat → Nat → (Nat → Nat → Int32) → Int32 → Option (Nat × Nat × (Nat → Nat → Int32))) (hk_73 : ∀ (w : Nat) (h : Nat) (d : Nat → Nat → Int32) (x3 : Int32), k_73 w h d x3 = some res → XX D (nW np nb) ad (cWd ca ad np nb eD tS sB) p l e rw_distances s m args below meth c 7 9 72 Q mem (exD ca q r w h d) 73 [(0, .ref (ad 0)), (2, .ref q), (3, .int x3)] []) (k_82 : Nat → Nat → (Nat → Nat → Int32) → Int32 → Int32 → Option (Nat × Nat × (Nat → Nat → Int32))) (hk_82 : ∀ (w : Nat) (h : Nat) (d : Nat → Nat → Int32) (x3 : Int32) (x4 : Int32), k_82 w h d x3 x4 = some res → XX D (nW np nb) ad (cWd ca ad np nb eD tS sB) p l e rw_distances s m args below meth c 7 9 72 Q mem (exD ca q r w h d) 82 [(0, .ref (ad 0)), (2, .ref q), (3, .int x3), (4, .int x4)] []) (k_94 : Nat → Nat → (Nat → Nat → Int32) → Int32 → Int32 → Int32 → Option (Nat × Nat × (Nat → Nat → Int32))) (hk_94 : ∀ (w : Nat) (h : Nat) (d : Nat → Nat → Int32) (x3 : Int32) (x4 : Int32) (x5 : Int32), k_94 w h d x3 x4 x5 = some res → XX D (nW np nb) ad (cWd ca ad np nb eD tS sB) p l e rw_distances s m args below meth c 7 9 72 Q mem (exD ca q r w h d) 94 [(0, .ref (ad 0)), (2, .ref q), (3, .int x3), (4, .int x4), (5, .int x5)] []) (n : Nat) (w : Nat) (h : Nat) (d : Nat → Nat → Int32) (x3 : Int32) (x4 : Int32) (x5 : Int32) (x6 : Int32), KW_distances_106 np nb fu mem k_73 k_82 k_94 n w h d x3 x4 x5 x6 = some res → XX D (nW np nb) ad (cWd ca ad np nb eD tS sB) p l e rw_distances s m args below meth c 7 9 72 Q mem (exD ca q r w h d) 106 [(0, .ref (ad 0)), (2, .ref q), (3, .int x3), (4, .int x4), (5, .int x5), (6, .int x6)] [] := by
    intro q r k_73 hk_73 k_82 hk_82 k_94 hk_94 n
    induction n with
    | zero => intro w h d x3 x4 x5 x6 hF; exact no_none (show (none : Option (Nat × Nat × (Nat → Nat → Int32))) = some res from hF)
    | succ n ih =>
      intro w h d x3 x4 x5 x6 hF
      rw [KW_distances_106] at hF
      refine x_iload X 5 dX12_distances_106 rfl 108 rfl ?_
      refine x_iconst X 4 dX12_distances_108 rfl 109 rfl ?_
      refine x_icmp_ge X hF 199 112 dX12_distances_109 (by decide) rfl (fun hF => ?_) (fun hF => ?_)
      · refine x_aload_n X 0 dX12_distances_112 rfl rfl 113 rfl ?_
        refine x_iload X 3 dX12_distances_113 rfl 115 rfl ?_
        refine x_iload X 4 dX12_distances_115 rfl 117 rfl ?_
        refine x_iload X 5 dX12_distances_117 rfl 119 rfl ?_
        refine x_callVi (fun x => x) (fun _ => mem) X hZ hF [.int x4, .int x5, .int x6] 0 nw_0 kw_0 rfl rfl rfl kB_X12_isOpen kL_X12_190 (fun res h => cw_isOpen l hZ hW hg fu x4 x5 x6 mem res h) rfl ⟨Nat.le_of_ble_eq_true rfl, Nat.le_of_ble_eq_true rfl⟩ (Nat.le_of_ble_eq_true rfl) ⟨Nat.le_of_ble_eq_true rfl, Nat.le_of_ble_eq_true rfl⟩ dX12_distances_119 122 rfl (fun x_7 hF => ?_)
        refine x_if_eq X hF 193 125 dX12_distances_122 (by decide) rfl (fun hF => ?_) (fun hF => ?_)
        · refine x_iinc X 5 (x6 + 1) [(6, .int (x6 + 1)), (0, .ref (ad 0)), (2, .ref q), (3, .int x3), (4, .int x4), (5, .int x5)] dX12_distances_193 rfl rfl (by decide) rfl 196 rfl ?_
          refine x_goto X 106 dX12_distances_196 (by decide) ?_
          refine x_keep [1, 2, 3, 4, 5, 0] rfl ?_
          exact ih w h d x3 x4 x5 (x6 + 1) hF
        · refine x_aload_n X 1 dX12_distances_125 rfl rfl 126 rfl ?_
          refine x_iload X 3 dX12_distances_126 rfl 128 rfl ?_
          refine x_acr X hW (List.mem_of_getElem? (i := 0) rfl) dX12_distances_128 131 rfl ?_
          refine x_iload X 5 dX12_distances_131 rfl 133 rfl ?_
          refine x_gi hF (fun h_8 hF => ?_)
          refine x_acl X hW h_8 dX12_distances_133 134 rfl ?_
          refine x_iadd X dX12_distances_134 135 rfl ?_
          refine x_gi hF (fun h_9 hF => ?_)
          refine e_aar X 0 (b := r (Int32.toNatClampNeg (x4 + (dxV (Int32.toNatClampNeg x6))))) exD_0 (t0 := 6) rfl h_9 (if_pos (vp_lt h_9)) dX12_distances_135 136 rfl ?_
          refine x_iload X 4 dX12_distances_136 rfl 138 rfl ?_
          refine x_ups X hW (List.mem_of_getElem? (i := 1) rfl) dX12_distances_138 141 rfl ?_
          refine x_iload X 5 dX12_distances_141 rfl 143 rfl ?_
          refine x_gi hF (fun h_10 hF => ?_)
          refine x_upl X hW h_10 dX12_distances_143 144 rfl ?_
          refine x_iadd X dX12_distances_144 145 rfl ?_
          refine x_gi hF (fun h_11 hF => ?_)
          refine e_ial X (1 + (Int32.toNatClampNeg (x4 + (dxV (Int32.toNatClampNeg x6))))) (exD_r (vp_lt h_9)) (t0 := 0) rfl h_11 dX12_distances_145 146 rfl ?_
          refine x_iconst X 1 dX12_distances_146 rfl 147 rfl ?_
          refine x_iadd X dX12_distances_147 148 rfl ?_
          refine x_aload_n X 1 dX12_distances_148 rfl rfl 149 rfl ?_
          refine x_iload X 3 dX12_distances_149 rfl 151 rfl ?_
          refine x_gi hF (fun h_12 hF => ?_)
          refine e_aar X 0 (b := r (Int32.toNatClampNeg x4)) exD_0 (t0 := 6) rfl h_12 (if_pos (vp_lt h_12)) dX12_distances_151 152 rfl ?_
          refine x_iload X 4 dX12_distances_152 rfl 154 rfl ?_
          refine x_gi hF (fun h_13 hF => ?_)
          refine e_ial X (1 + (Int32.toNatClampNeg x4)) (exD_r (vp_lt h_12)) (t0 := 0) rfl h_13 dX12_distances_154 155 rfl ?_
          refine x_icmp_lt X hF 161 158 dX12_distances_155 (by decide) rfl (fun hF => ?_) (fun hF => ?_)
          · refine x_aload_n X 1 dX12_distances_161 rfl rfl 162 rfl ?_
            refine x_iload X 3 dX12_distances_162 rfl 164 rfl ?_
            refine x_gi hF (fun h_14 hF => ?_)
            refine e_aar X 0 (b := r (Int32.toNatClampNeg x4)) exD_0 (t0 := 6) rfl h_14 (if_pos (vp_lt h_14)) dX12_distances_164 165 rfl ?_
            refine x_iload X 4 dX12_distances_165 rfl 167 rfl ?_
            refine x_aload_n X 1 dX12_distances_167 rfl rfl 168 rfl ?_
            refine x_iload X 3 dX12_distances_168 rfl 170 rfl ?_
            refine x_acr X hW (List.mem_of_getElem? (i := 0) rfl) dX12_distances_170 173 rfl ?_
            refine x_iload X 5 dX12_distances_173 rfl 175 rfl ?_
            refine x_gi hF (fun h_15 hF => ?_)
            refine x_acl X hW h_15 dX12_distances_175 176 rfl ?_
            refine x_iadd X dX12_distances_176 177 rfl ?_
            refine x_gi hF (fun h_16 hF => ?_)
            refine e_aar X 0 (b := r (Int32.toNatClampNeg (x4 + (dxV (Int32.toNatClampNeg x6))))) exD_0 (t0 := 6) rfl h_16 (if_pos (vp_lt h_16)) dX12_distances_177 178 rfl ?_
            refine x_iload X 4 dX12_distances_178 rfl 180 rfl ?_
            refine x_ups X hW (List.mem_of_getElem? (i := 1) rfl) dX12_distances_180 183 rfl ?_
            refine x_iload X 5 dX12_distances_183 rfl 185 rfl ?_
            refine x_gi hF (fun h_17 hF => ?_)
            refine x_upl X hW h_17 dX12_distances_185 186 rfl ?_
            refine x_iadd X dX12_distances_186 187 rfl ?_
            refine x_gi hF (fun h_18 hF => ?_)
            refine e_ial X (1 + (Int32.toNatClampNeg (x4 + (dxV (Int32.toNatClampNeg x6))))) (exD_r (vp_lt h_16)) (t0 := 0) rfl h_18 dX12_distances_187 188 rfl ?_
            refine x_iconst X 1 dX12_distances_188 rfl 189 rfl ?_
            refine x_iadd X dX12_distances_189 190 rfl ?_
            refine x_gi hF (fun h_19 hF => ?_)
            refine e_ias X (1 + (Int32.toNatClampNeg x4)) _ (exD_r (vp_lt h_14)) (t0 := 0) rfl h_19 (exD_s (vp_lt h_14)) dX12_distances_190 191 rfl ?_
            refine x_letd hF (fun d_20 hF => ?_)
            refine x_iconst X 1 dX12_distances_191 rfl 192 rfl ?_
            refine x_istore_n X [(3, .int 1), (0, .ref (ad 0)), (2, .ref q), (4, .int x4), (5, .int x5), (6, .int x6)] dX12_distances_192 rfl (by decide) rfl 193 rfl ?_
            refine x_iinc X 5 (x6 + 1) [(6, .int (x6 + 1)), (3, .int 1), (0, .ref (ad 0)), (2, .ref q), (4, .int x4), (5, .int x5)] dX12_distances_193 rfl rfl (by decide) rfl 196 rfl ?_
            refine x_goto X 106 dX12_distances_196 (by decide) ?_
            refine x_keep [2, 3, 1, 4, 5, 0] rfl ?_
            exact ih w h d_20 1 x4 x5 (x6 + 1) hF
          · refine x_goto X 193 dX12_distances_158 (by decide) ?_
            refine x_iinc X 5 (x6 + 1) [(6, .int (x6 + 1)), (0, .ref (ad 0)), (2, .ref q), (3, .int x3), (4, .int x4), (5, .int x5)] dX12_distances_193 rfl rfl (by decide) rfl 196 rfl ?_
            refine x_goto X 106 dX12_distances_196 (by decide) ?_
            refine x_keep [1, 2, 3, 4, 5, 0] rfl ?_
            exact ih w h d x3 x4 x5 (x6 + 1) hF
      · refine x_iinc X 4 (x5 + 1) [(5, .int (x5 + 1)), (0, .ref (ad 0)), (2, .ref q), (3, .int x3), (4, .int x4), (6, .int x6)] dX12_distances_199 rfl rfl (by decide) rfl 202 rfl ?_
        refine x_goto X 94 dX12_distances_202 (by decide) ?_
        refine x_keep [1, 2, 3, 4, 0] rfl ?_
        exact hk_94 w h d x3 x4 (x5 + 1) hF
  have w_94 : ∀ (q : Nat) (r : Nat → Nat) (k_73 : Nat → Nat → (Nat → Nat → Int32) → Int32 → Option (Nat × Nat × (Nat → Nat → Int32))) (hk_73 : ∀ (w : Nat) (h : Nat) (d : Nat → Nat → Int32) (x3 : Int32), k_73 w h d x3 = some res → XX D (nW np nb) ad (cWd ca ad np nb eD tS sB) p l e rw_distances s m args below meth c 7 9 72 Q mem (exD ca q r w h d) 73 [(0, .ref (ad 0)), (2, .ref q), (3, .int x3)] []) (k_82 : Nat → Nat → (Nat → Nat → Int32) → Int32 → Int32 → Option (Nat × Nat × (Nat → Nat → Int32))) (hk_82 : ∀ (w : Nat) (h : Nat) (d : Nat → Nat → Int32) (x3 : Int32) (x4 : Int32), k_82 w h d x3 x4 = some res → XX D (nW np nb) ad (cWd ca ad np nb eD tS sB) p l e rw_distances s m args below meth c 7 9 72 Q mem (exD ca q r w h d) 82 [(0, .ref (ad 0)), (2, .ref q), (3, .int x3), (4, .int x4)] []) (n : Nat) (w : Nat) (h : Nat) (d : Nat → Nat → Int32) (x3 : Int32) (x4 : Int32) (x5 : Int32), KW_distances_94 np nb fu mem k_73 k_82 n w h d x3 x4 x5 = some res → XX D (nW np nb) ad (cWd ca ad np nb eD tS sB) p l e rw_distances s m args below meth c 7 9 72 Q mem (exD ca q r w h d) 94 [(0, .ref (ad 0)), (2, .ref q), (3, .int x3), (4, .int x4), (5, .int x5)] [] := by
    intro q r k_73 hk_73 k_82 hk_82 n
    induction n with
    | zero => intro w h d x3 x4 x5 hF; exact no_none (show (none : Option (Nat × Nat × (Nat → Nat → Int32))) = some res from hF)
    | succ n ih =>
      intro w h d x3 x4 x5 hF
      rw [KW_distances_94] at hF
      refine x_iload X 4 dX12_distances_94 rfl 96 rfl ?_
      refine x_aload_n X 0 dX12_distances_96 rfl rfl 97 rfl ?_
      refine x_getV (v := .int (rd mem 0 1)) X 0 nw_0 kw_0 (T := TX12) (N := 11) rfl in_X12 1 (by decide) kF_X12_13 rfl rfl dX12_distances_97 100 rfl ?_
      refine x_icmp_ge X hF 205 103 dX12_distances_100 (by decide) rfl (fun hF => ?_) (fun hF => ?_)
      · refine x_iconst X 0 dX12_distances_103 rfl 104 rfl ?_
        refine x_istore X [(6, .int 0), (0, .ref (ad 0)), (2, .ref q), (3, .int x3), (4, .int x4), (5, .int x5)] dX12_distances_104 (by decide) rfl 106 rfl ?_
        refine x_keep [1, 2, 3, 4, 5, 0] rfl ?_
        exact w_106 q r k_73 hk_73 k_82 hk_82 (KW_distances_94 np nb fu mem k_73 k_82 n) (fun w h d x3 x4 x5 => ih w h d x3 x4 x5) fu w h d x3 x4 x5 0 hF
      · refine x_iinc X 3 (x4 + 1) [(4, .int (x4 + 1)), (0, .ref (ad 0)), (2, .ref q), (3, .int x3), (5, .int x5)] dX12_distances_205 rfl rfl (by decide) rfl 208 rfl ?_
        refine x_goto X 82 dX12_distances_208 (by decide) ?_
        refine x_keep [1, 2, 3, 0] rfl ?_
        exact hk_82 w h d x3 (x4 + 1) hF
  have w_82 : ∀ (q : Nat) (r : Nat → Nat) (k_73 : Nat → Nat → (Nat → Nat → Int32) → Int32 → Option (Nat × Nat × (Nat → Nat → Int32))) (hk_73 : ∀ (w : Nat) (h : Nat) (d : Nat → Nat → Int32) (x3 : Int32), k_73 w h d x3 = some res → XX D (nW np nb) ad (cWd ca ad np nb eD tS sB) p l e rw_distances s m args below meth c 7 9 72 Q mem (exD ca q r w h d) 73 [(0, .ref (ad 0)), (2, .ref q), (3, .int x3)] []) (n : Nat) (w : Nat) (h : Nat) (d : Nat → Nat → Int32) (x3 : Int32) (x4 : Int32), KW_distances_82 np nb fu mem k_73 n w h d x3 x4 = some res → XX D (nW np nb) ad (cWd ca ad np nb eD tS sB) p l e rw_distances s m args below meth c 7 9 72 Q mem (exD ca q r w h d) 82 [(0, .ref (ad 0)), (2, .ref q), (3, .int x3), (4, .int x4)] [] := by
    intro q r k_73 hk_73 n
    induction n with
    | zero => intro w h d x3 x4 hF; exact no_none (show (none : Option (Nat × Nat × (Nat → Nat → Int32))) = some res from hF)
    | succ n ih =>
      intro w h d x3 x4 hF
      rw [KW_distances_82] at hF
      refine x_iload X 3 dX12_distances_82 rfl 84 rfl ?_
      refine x_aload_n X 0 dX12_distances_84 rfl rfl 85 rfl ?_
      refine x_getV (v := .int (rd mem 0 0)) X 0 nw_0 kw_0 (T := TX12) (N := 11) rfl in_X12 0 (by decide) kF_X12_7 rfl rfl dX12_distances_85 88 rfl ?_
      refine x_icmp_ge X hF 211 91 dX12_distances_88 (by decide) rfl (fun hF => ?_) (fun hF => ?_)
      · refine x_iconst X 0 dX12_distances_91 rfl 92 rfl ?_
        refine x_istore X [(5, .int 0), (0, .ref (ad 0)), (2, .ref q), (3, .int x3), (4, .int x4)] dX12_distances_92 (by decide) rfl 94 rfl ?_
        refine x_keep [1, 2, 3, 4, 0] rfl ?_
        exact w_94 q r k_73 hk_73 (KW_distances_82 np nb fu mem k_73 n) (fun w h d x3 x4 => ih w h d x3 x4) fu w h d x3 x4 0 hF
      · refine x_goto X 73 dX12_distances_211 (by decide) ?_
        refine x_keep [0, 1, 2] rfl ?_
        exact hk_73 w h d x3 hF
  have w_73 : ∀ (q : Nat) (r : Nat → Nat)  (n : Nat) (w : Nat) (h : Nat) (d : Nat → Nat → Int32) (x3 : Int32), KW_distances_73 np nb fu mem  n w h d x3 = some res → XX D (nW np nb) ad (cWd ca ad np nb eD tS sB) p l e rw_distances s m args below meth c 7 9 72 Q mem (exD ca q r w h d) 73 [(0, .ref (ad 0)), (2, .ref q), (3, .int x3)] [] := by
    intro q r  n
    induction n with
    | zero => intro w h d x3 hF; exact no_none (show (none : Option (Nat × Nat × (Nat → Nat → Int32))) = some res from hF)
    | succ n ih =>
      intro w h d x3 hF
      rw [KW_distances_73] at hF
      refine x_iload_n X 2 dX12_distances_73 rfl rfl 74 rfl ?_
      refine x_if_eq X hF 214 77 dX12_distances_74 (by decide) rfl (fun hF => ?_) (fun hF => ?_)
      · refine x_aload_n X 1 dX12_distances_214 rfl rfl 215 rfl ?_
        have hF := o_inj hF
        subst hF
        exact x_aret (B := fun a ws => ∃ r, ws = exD ca a r w h d) X (Or.inr ⟨_, rfl⟩) hQ ⟨r, rfl⟩ rfl (Nat.le_of_ble_eq_true rfl) (Nat.le_of_ble_eq_true rfl) dX12_distances_215
      · refine x_iconst X 0 dX12_distances_77 rfl 78 rfl ?_
        refine x_istore_n X [(3, .int 0), (0, .ref (ad 0)), (2, .ref q)] dX12_distances_78 rfl (by decide) rfl 79 rfl ?_
        refine x_iconst X 0 dX12_distances_79 rfl 80 rfl ?_
        refine x_istore X [(4, .int 0), (3, .int 0), (0, .ref (ad 0)), (2, .ref q)] dX12_distances_80 (by decide) rfl 82 rfl ?_
        refine x_keep [2, 3, 1, 0] rfl ?_
        exact w_82 q r (KW_distances_73 np nb fu mem  n) (fun w h d x3 => ih w h d x3) fu w h d 0 0 hF
  have w_15 : ∀ (q : Nat) (r : Nat → Nat)  (n : Nat) (w : Nat) (h : Nat) (d : Nat → Nat → Int32) (x1 : Int32) (x3 : Int32), KW_distances_15 np nb fu mem  n w h d x1 x3 = some res → XX D (nW np nb) ad (cWd ca ad np nb eD tS sB) p l e rw_distances s m args below meth c 7 9 72 Q mem (exD ca q r w h d) 15 [(0, .ref (ad 0)), (1, .int x1), (2, .ref q), (3, .int x3)] [] := by
    intro q r  n
    induction n with
    | zero => intro w h d x1 x3 hF; exact no_none (show (none : Option (Nat × Nat × (Nat → Nat → Int32))) = some res from hF)
    | succ n ih =>
      intro w h d x1 x3 hF
      rw [KW_distances_15] at hF
      refine x_iload_n X 3 dX12_distances_15 rfl rfl 16 rfl ?_
      refine x_aload_n X 0 dX12_distances_16 rfl rfl 17 rfl ?_
      refine x_getV (v := .int (rd mem 0 0)) X 0 nw_0 kw_0 (T := TX12) (N := 11) rfl in_X12 0 (by decide) kF_X12_7 rfl rfl dX12_distances_17 20 rfl ?_
      refine x_icmp_ge X hF 71 23 dX12_distances_20 (by decide) rfl (fun hF => ?_) (fun hF => ?_)
      · refine x_iconst X 0 dX12_distances_23 rfl 24 rfl ?_
        refine x_istore X [(4, .int 0), (0, .ref (ad 0)), (1, .int x1), (2, .ref q), (3, .int x3)] dX12_distances_24 (by decide) rfl 26 rfl ?_
        refine x_keep [1, 2, 3, 4, 0] rfl ?_
        exact w_26 q r (KW_distances_15 np nb fu mem  n) (fun w h d x1 x3 => ih w h d x1 x3) fu w h d x1 x3 0 hF
      · refine x_iconst X 1 dX12_distances_71 rfl 72 rfl ?_
        refine x_istore_n X [(3, .int 1), (0, .ref (ad 0)), (1, .int x1), (2, .ref q)] dX12_distances_72 rfl (by decide) rfl 73 rfl ?_
        refine x_keep [1, 3, 0] rfl ?_
        exact w_73 q r  fu w h d 1 hF
  intro hF
  refine x_aload_n X 0 dX12_distances_0 rfl rfl 1 rfl ?_
  refine x_getV (v := .int (rd mem 0 0)) X 0 nw_0 kw_0 (T := TX12) (N := 11) rfl in_X12 0 (by decide) kF_X12_7 rfl rfl dX12_distances_1 4 rfl ?_
  refine x_aload_n X 0 dX12_distances_4 rfl rfl 5 rfl ?_
  refine x_getV (v := .int (rd mem 0 1)) X 0 nw_0 kw_0 (T := TX12) (N := 11) rfl in_X12 1 (by decide) kF_X12_13 rfl rfl dX12_distances_5 8 rfl ?_
  refine x_g8 hF (fun h_21 hF => ?_)
  refine x_g8 hF (fun h_22 hF => ?_)
  refine x_mna X kCl_X12_26 kA_int (hW _ _ _ X.2.2.2.2.2).2.2.2.2.2.1 h_21 h_22 ⟨Nat.le_of_ble_eq_true rfl, Nat.le_of_ble_eq_true rfl⟩ dX12_distances_8 12 rfl (fun q r => ?_)
  rw [List.nil_append]
  refine x_astore_n X [(2, .ref q), (0, .ref (ad 0)), (1, .int x1)] dX12_distances_12 rfl (by decide) rfl 13 rfl ?_
  refine x_iconst X 0 dX12_distances_13 rfl 14 rfl ?_
  refine x_istore_n X [(3, .int 0), (2, .ref q), (0, .ref (ad 0)), (1, .int x1)] dX12_distances_14 rfl (by decide) rfl 15 rfl ?_
  refine x_keep [2, 3, 1, 0] rfl ?_
  exact w_15 q r  fu (Int32.toNatClampNeg (rd mem 0 0)) (Int32.toNatClampNeg (rd mem 0 1)) (fun _ _ => 0) x1 0 hF

def KW_distance (np nb : Nat) (fu : Nat) (x1 : Int32) (mem : Mem) : Option Int32 := gi x1 np ((if 0 < (rd mem (13 + (Int32.toNatClampNeg x1)) 6) then some 0 else bd (KW_distances np nb fu (rd mem (13 + (Int32.toNatClampNeg x1)) 2) mem) (fun t_2 => gi (rd mem (13 + (Int32.toNatClampNeg x1)) 0) t_2.1 (gi (rd mem (13 + (Int32.toNatClampNeg x1)) 1) t_2.2.1 (some (t_2.2.2 (Int32.toNatClampNeg (rd mem (13 + (Int32.toNatClampNeg x1)) 0)) (Int32.toNatClampNeg (rd mem (13 + (Int32.toNatClampNeg x1)) 1))))))))
def rw_distance : Room := { frames := 4, cells := 9, slots := 72, locals := 94 }
theorem rwc_distance : rw_distance.cells = 9 ∧ rw_distance.slots = 72 := ⟨rfl, rfl⟩
set_option maxHeartbeats 4000000 in
set_option maxRecDepth 100000 in
theorem cw_distance (l : Launch) {D : va_G} {ca ad : Nat → Nat} {np nb eD tS sB : Nat} {Z : (Nat → Prop) → State → Heap → Prop} (hZ : ZOK Z) {tA tU L : Nat} {xs : Nat → Int32} (hW : ZWO Z tA tU sB L xs) (hg : np ≤ 4 ∧ nb ≤ 4 ∧ (np = 0 → nb = 0)) (fu : Nat) (x1 : Int32) (mem : Mem) (res : Int32) (hF : KW_distance np nb fu x1 mem = some res) : CJ l D (tyL ca) (nW np nb) ad (cWd ca ad np nb eD tS sB) Z yX12_distance cX12_distance 3 .int rw_distance [.ref (ad 0), .int x1] mem res mem := by
  refine xstart_i (own := RX12) rfl (by decide) (Nat.le_of_ble_eq_true rfl) ?_
  intro p e s m args below meth c Q hQ X
  have ec_distances := rwc_distances
  rw [KW_distance] at hF
  refine x_aload_n X 0 dX12_distance_0 rfl rfl 1 rfl ?_
  refine x_getV (v := .ref (ad 1)) X 0 nw_0 kw_0 (T := TX12) (N := 11) rfl in_X12 5 (by decide) kF_X12_19 rfl rfl dX12_distance_1 4 rfl ?_
  refine x_iload_n X 1 dX12_distance_4 rfl rfl 5 rfl ?_
  refine x_gi hF (fun h_1 hF => ?_)
  refine xw_get X hZ hW hg.1 h_1 kL_X12_193 kCl_X12_169 ⟨Nat.le_of_ble_eq_true rfl, Nat.le_of_ble_eq_true rfl⟩ (Nat.le_of_ble_eq_true rfl) ⟨Nat.le_of_ble_eq_true rfl, Nat.le_of_ble_eq_true rfl⟩ dX12_distance_5 10 rfl dX12_distance_10 13 rfl ?_
  refine x_astore_n X [(2, .ref (ad (13 + (Int32.toNatClampNeg x1)))), (0, .ref (ad 0)), (1, .int x1)] dX12_distance_13 rfl (by decide) rfl 14 rfl ?_
  refine x_aload_n X 0 dX12_distance_14 rfl rfl 15 rfl ?_
  refine x_bipush X 6 dX12_distance_15 rfl 17 rfl ?_
  refine x_ial X (13 + (Int32.toNatClampNeg x1)) (nw_p (vp_lt h_1)) (kw_p (vp_lt h_1)) (t0 := 0) rfl (by unfold vp_in; decide +kernel) dX12_distance_17 18 rfl ?_
  refine x_if_le X hF 25 21 dX12_distance_18 (by decide) rfl (fun hF => ?_) (fun hF => ?_)
  · refine x_iconst X 0 dX12_distance_21 rfl 22 rfl ?_
    refine x_goto X 40 dX12_distance_22 (by decide) ?_
    exact x_iret X hQ (o_inj hF) rfl rfl (Nat.le_of_ble_eq_true rfl) (Nat.le_of_ble_eq_true rfl) dX12_distance_40
  · refine x_aload_n X 1 dX12_distance_25 rfl rfl 26 rfl ?_
    refine x_aload_n X 0 dX12_distance_26 rfl rfl 27 rfl ?_
    refine x_iconst X 2 dX12_distance_27 rfl 28 rfl ?_
    refine x_ial X (13 + (Int32.toNatClampNeg x1)) (nw_p (vp_lt h_1)) (kw_p (vp_lt h_1)) (t0 := 0) rfl (by unfold vp_in; decide +kernel) dX12_distance_28 29 rfl ?_
    refine x_callVr (fun (t : Nat × Nat × (Nat → Nat → Int32)) a ws => ∃ r, ws = exD ca a r t.1 t.2.1 t.2.2) (fun _ => mem) X hZ hF [.int (rd mem (13 + (Int32.toNatClampNeg x1)) 2)] 0 nw_0 kw_0 rfl rfl rfl kB_X12_distances kL_X12_197 (fun res h => cw_distances l hZ hW hg fu (rd mem (13 + (Int32.toNatClampNeg x1)) 2) mem res h) rfl ⟨Nat.le_of_ble_eq_true rfl, Nat.le_of_ble_eq_true rfl⟩ (Nat.le_of_ble_eq_true rfl) ⟨Nat.le_of_ble_eq_true rfl, Nat.le_of_ble_eq_true rfl⟩ dX12_distance_29 32 rfl (fun t_2 q w1 hF hw1 => ?_)
    obtain ⟨r, rfl⟩ := hw1
    rw [List.nil_append]
    refine x_aload_n X 0 dX12_distance_32 rfl rfl 33 rfl ?_
    refine x_iconst X 0 dX12_distance_33 rfl 34 rfl ?_
    refine x_ial X (13 + (Int32.toNatClampNeg x1)) (nw_p (vp_lt h_1)) (kw_p (vp_lt h_1)) (t0 := 0) rfl (by unfold vp_in; decide +kernel) dX12_distance_34 35 rfl ?_
    refine x_gi hF (fun h_3 hF => ?_)
    refine e_aar X 0 (b := r (Int32.toNatClampNeg (rd mem (13 + (Int32.toNatClampNeg x1)) 0))) exD_0 (t0 := 6) rfl h_3 (if_pos (vp_lt h_3)) dX12_distance_35 36 rfl ?_
    refine x_aload_n X 0 dX12_distance_36 rfl rfl 37 rfl ?_
    refine x_iconst X 1 dX12_distance_37 rfl 38 rfl ?_
    refine x_ial X (13 + (Int32.toNatClampNeg x1)) (nw_p (vp_lt h_1)) (kw_p (vp_lt h_1)) (t0 := 0) rfl (by unfold vp_in; decide +kernel) dX12_distance_38 39 rfl ?_
    refine x_gi hF (fun h_4 hF => ?_)
    refine e_ial X (1 + (Int32.toNatClampNeg (rd mem (13 + (Int32.toNatClampNeg x1)) 0))) (exD_r (vp_lt h_3)) (t0 := 0) rfl h_4 dX12_distance_39 40 rfl ?_
    exact x_iret X hQ (o_inj hF) rfl rfl (Nat.le_of_ble_eq_true rfl) (Nat.le_of_ble_eq_true rfl) dX12_distance_40

def KW_isAdmissible_84 (np nb : Nat) (fu : Nat)  : Nat → Int32 → Int32 → Int32 → Int32 → Mem → Option (Int32 × Mem)
  | 0, _, _, _, _, _ => none
  | n + 1, x1, x2, x4, x5, mem => (if x5 < (Int32.ofNat np) then (if x4 = 0 then (KW_isAdmissible_84 np nb fu  n x1 x2 0 (x5 + 1) mem) else bd (KW_distance np nb fu x5 mem) (fun x_1 => (if x_1 < 1000 then (KW_isAdmissible_84 np nb fu  n x1 x2 1 (x5 + 1) mem) else (KW_isAdmissible_84 np nb fu  n x1 x2 0 (x5 + 1) mem)))) else gi x2 8 (gi x1 8 (lt_ (mw mem (4 + (Int32.toNatClampNeg x2)) (Int32.toNatClampNeg x1) 0) (fun m_4 => gb x4 (some (x4, m_4))))))
def KW_isAdmissible_69 (np nb : Nat) (fu : Nat)  (x1 : Int32) (x2 : Int32) (x3 : Int32) (mem : Mem) : Option (Int32 × Mem) := gi x2 8 (gi x1 8 (lt_ (mw mem (4 + (Int32.toNatClampNeg x2)) (Int32.toNatClampNeg x1) x3) (fun m_8 => (KW_isAdmissible_84 np nb fu  5 x1 x2 1 0 m_8))))
def KW_isAdmissible_38 (np nb : Nat) (fu : Nat)  (x1 : Int32) (x2 : Int32) (x3 : Int32) (mem : Mem) : Option (Int32 × Mem) := (if x3 = 2 then bd (KW_wall np nb fu x1 (x2 - 1) mem) (fun x_9 => (if x_9 = 2 then some (0, mem) else bd (KW_wall np nb fu x1 (x2 + 1) mem) (fun x_10 => (if x_10 = 2 then some (0, mem) else (KW_isAdmissible_69 np nb fu   x1 x2 x3 mem))))) else (KW_isAdmissible_69 np nb fu   x1 x2 x3 mem))
def KW_isAdmissible (np nb : Nat) (fu : Nat) (x1 : Int32) (x2 : Int32) (x3 : Int32) (mem : Mem) : Option (Int32 × Mem) := bd (KW_wall np nb fu x1 x2 mem) (fun x_11 => (if x_11 = 0 then (if x3 = 1 then bd (KW_wall np nb fu (x1 - 1) x2 mem) (fun x_12 => (if x_12 = 1 then some (0, mem) else bd (KW_wall np nb fu (x1 + 1) x2 mem) (fun x_13 => (if x_13 = 1 then some (0, mem) else (KW_isAdmissible_38 np nb fu   x1 x2 x3 mem))))) else (KW_isAdmissible_38 np nb fu   x1 x2 x3 mem)) else some (0, mem)))
def rw_isAdmissible : Room := { frames := 5, cells := 45, slots := 360, locals := 116 }
theorem rwc_isAdmissible : rw_isAdmissible.cells = 45 ∧ rw_isAdmissible.slots = 360 := ⟨rfl, rfl⟩
set_option maxHeartbeats 4000000 in
set_option maxRecDepth 100000 in
theorem cw_isAdmissible (l : Launch) {D : va_G} {ca ad : Nat → Nat} {np nb eD tS sB : Nat} {Z : (Nat → Prop) → State → Heap → Prop} (hZ : ZOK Z) {tA tU L : Nat} {xs : Nat → Int32} (hW : ZWO Z tA tU sB L xs) (hg : np ≤ 4 ∧ nb ≤ 4 ∧ (np = 0 → nb = 0)) (fu : Nat) (x1 : Int32) (x2 : Int32) (x3 : Int32) (mem : Mem) (res : (Int32 × Mem)) (hF : KW_isAdmissible np nb fu x1 x2 x3 mem = some res) : CJ l D (tyL ca) (nW np nb) ad (cWd ca ad np nb eD tS sB) Z yX12_isAdmissible cX12_isAdmissible 6 .boolean rw_isAdmissible [.ref (ad 0), .int x1, .int x2, .int x3] mem res.1 res.2 := by
  refine xstart_i (own := RX12) rfl (by decide) (Nat.le_of_ble_eq_true rfl) ?_
  intro p e s m args below meth c Q hQ X
  have ec_distance := rwc_distance
  have ec_wall := rwc_wall
  rw [KW_isAdmissible] at hF
  revert hF
  have w_84 : ∀  (n : Nat) (hn : n ≤ 5) (x1 : Int32) (x2 : Int32) (x4 : Int32) (x5 : Int32) (mem : Mem), KW_isAdmissible_84 np nb fu  n x1 x2 x4 x5 mem = some res → XX D (nW np nb) ad (cWd ca ad np nb eD tS sB) p l e rw_isAdmissible s m args below meth c 6 (0 + (5 - n) * 9) (0 + (5 - n) * 72) Q mem [] 84 [(0, .ref (ad 0)), (1, .int x1), (2, .int x2), (4, .int x4), (5, .int x5)] [] := by
    intro  n
    induction n with
    | zero => intro hn x1 x2 x4 x5 mem hF; exact no_none (show (none : Option (Int32 × Mem)) = some res from hF)
    | succ n ih =>
      intro hn x1 x2 x4 x5 mem hF
      rw [KW_isAdmissible_84] at hF
      refine x_iload X 4 dX12_isAdmissible_84 rfl 86 rfl ?_
      refine x_aload_n X 0 dX12_isAdmissible_86 rfl rfl 87 rfl ?_
      refine x_getV (v := .ref (ad 1)) X 0 nw_0 kw_0 (T := TX12) (N := 11) rfl in_X12 5 (by decide) kF_X12_19 rfl rfl dX12_isAdmissible_87 90 rfl ?_
      refine xw_size X hZ hW kL_X12_106 ⟨Nat.le_of_ble_eq_true rfl, Nat.le_of_ble_eq_true rfl⟩ (Nat.le_of_ble_eq_true rfl) ⟨by show _ ≤ 45; omega, by show _ ≤ 360; omega⟩ dX12_isAdmissible_90 95 rfl ?_
      refine x_icmp_ge X hF 128 98 dX12_isAdmissible_95 (by decide) rfl (fun hF => ?_) (fun hF => ?_)
      · refine x_iload X 3 dX12_isAdmissible_98 rfl 100 rfl ?_
        refine x_if_eq X hF 119 103 dX12_isAdmissible_100 (by decide) rfl (fun hF => ?_) (fun hF => ?_)
        · refine x_iconst X 0 dX12_isAdmissible_119 rfl 120 rfl ?_
          refine x_istore X [(4, .int 0), (0, .ref (ad 0)), (1, .int x1), (2, .int x2), (5, .int x5)] dX12_isAdmissible_120 (by decide) rfl 122 rfl ?_
          refine x_iinc X 4 (x5 + 1) [(5, .int (x5 + 1)), (4, .int 0), (0, .ref (ad 0)), (1, .int x1), (2, .int x2)] dX12_isAdmissible_122 rfl rfl (by decide) rfl 125 rfl ?_
          refine x_goto X 84 dX12_isAdmissible_125 (by decide) ?_
          refine x_keep [2, 3, 4, 1, 0] rfl ?_
          refine x_widen (k := (0 + (5 - n) * 9)) (k2 := (0 + (5 - n) * 72)) (by omega) (by omega) ?_
          exact ih (by omega) x1 x2 0 (x5 + 1) mem hF
        · refine x_aload_n X 0 dX12_isAdmissible_103 rfl rfl 104 rfl ?_
          refine x_iload X 4 dX12_isAdmissible_104 rfl 106 rfl ?_
          refine x_callVi (fun x => x) (fun _ => mem) X hZ hF [.int x5] 0 nw_0 kw_0 rfl rfl rfl kB_X12_distance kL_X12_201 (fun res h => cw_distance l hZ hW hg fu x5 mem res h) rfl ⟨Nat.le_of_ble_eq_true rfl, Nat.le_of_ble_eq_true rfl⟩ (Nat.le_of_ble_eq_true rfl) ⟨by show _ ≤ 45; omega, by show _ ≤ 360; omega⟩ dX12_isAdmissible_106 109 rfl (fun x_1 hF => ?_)
          refine x_sipush X 1000 dX12_isAdmissible_109 rfl 112 rfl ?_
          refine x_icmp_ge X hF 119 115 dX12_isAdmissible_112 (by decide) rfl (fun hF => ?_) (fun hF => ?_)
          · refine x_iconst X 1 dX12_isAdmissible_115 rfl 116 rfl ?_
            refine x_goto X 120 dX12_isAdmissible_116 (by decide) ?_
            refine x_istore X [(4, .int 1), (0, .ref (ad 0)), (1, .int x1), (2, .int x2), (5, .int x5)] dX12_isAdmissible_120 (by decide) rfl 122 rfl ?_
            refine x_iinc X 4 (x5 + 1) [(5, .int (x5 + 1)), (4, .int 1), (0, .ref (ad 0)), (1, .int x1), (2, .int x2)] dX12_isAdmissible_122 rfl rfl (by decide) rfl 125 rfl ?_
            refine x_goto X 84 dX12_isAdmissible_125 (by decide) ?_
            refine x_keep [2, 3, 4, 1, 0] rfl ?_
            refine x_widen (k := (0 + (5 - n) * 9)) (k2 := (0 + (5 - n) * 72)) (by omega) (by omega) ?_
            exact ih (by omega) x1 x2 1 (x5 + 1) mem hF
          · refine x_iconst X 0 dX12_isAdmissible_119 rfl 120 rfl ?_
            refine x_istore X [(4, .int 0), (0, .ref (ad 0)), (1, .int x1), (2, .int x2), (5, .int x5)] dX12_isAdmissible_120 (by decide) rfl 122 rfl ?_
            refine x_iinc X 4 (x5 + 1) [(5, .int (x5 + 1)), (4, .int 0), (0, .ref (ad 0)), (1, .int x1), (2, .int x2)] dX12_isAdmissible_122 rfl rfl (by decide) rfl 125 rfl ?_
            refine x_goto X 84 dX12_isAdmissible_125 (by decide) ?_
            refine x_keep [2, 3, 4, 1, 0] rfl ?_
            refine x_widen (k := (0 + (5 - n) * 9)) (k2 := (0 + (5 - n) * 72)) (by omega) (by omega) ?_
            exact ih (by omega) x1 x2 0 (x5 + 1) mem hF
      · refine x_aload_n X 0 dX12_isAdmissible_128 rfl rfl 129 rfl ?_
        refine x_getV (v := .ref (ad 3)) X 0 nw_0 kw_0 (T := TX12) (N := 11) rfl in_X12 7 (by decide) kF_X12_28 rfl rfl dX12_isAdmissible_129 132 rfl ?_
        refine x_iload_n X 2 dX12_isAdmissible_132 rfl rfl 133 rfl ?_
        refine x_gi hF (fun h_2 hF => ?_)
        refine x_aar X 3 nw_3 (4 + (Int32.toNatClampNeg x2)) kw_3 (t0 := 6) rfl h_2 (el_rows (vp_lt h_2)) dX12_isAdmissible_133 134 rfl ?_
        refine x_iload_n X 1 dX12_isAdmissible_134 rfl rfl 135 rfl ?_
        refine x_iconst X 0 dX12_isAdmissible_135 rfl 136 rfl ?_
        refine x_gi hF (fun h_3 hF => ?_)
        refine x_ias X (4 + (Int32.toNatClampNeg x2)) (nw_r (vp_lt h_2)) (kw_r (vp_lt h_2)) (t0 := 0) rfl h_3 dX12_isAdmissible_136 137 rfl ?_
        refine x_letm hF (fun m_4 hF => ?_)
        refine x_iload X 3 dX12_isAdmissible_137 rfl 139 rfl ?_
        refine x_gb hF (fun h_5 hF => ?_)
        exact x_iret X hQ (o_inj1 hF) (o_inj2 hF) (bool_nar h_5) (by show _ ≤ 45; omega) (by show _ ≤ 360; omega) dX12_isAdmissible_139
  have w_69 : ∀  (x1 : Int32) (x2 : Int32) (x3 : Int32) (mem : Mem), KW_isAdmissible_69 np nb fu  x1 x2 x3 mem = some res → XX D (nW np nb) ad (cWd ca ad np nb eD tS sB) p l e rw_isAdmissible s m args below meth c 6 0 0 Q mem [] 69 [(0, .ref (ad 0)), (1, .int x1), (2, .int x2), (3, .int x3)] [] := by
    intro  x1 x2 x3 mem hF
    rw [KW_isAdmissible_69] at hF
    refine x_aload_n X 0 dX12_isAdmissible_69 rfl rfl 70 rfl ?_
    refine x_getV (v := .ref (ad 3)) X 0 nw_0 kw_0 (T := TX12) (N := 11) rfl in_X12 7 (by decide) kF_X12_28 rfl rfl dX12_isAdmissible_70 73 rfl ?_
    refine x_iload_n X 2 dX12_isAdmissible_73 rfl rfl 74 rfl ?_
    refine x_gi hF (fun h_6 hF => ?_)
    refine x_aar X 3 nw_3 (4 + (Int32.toNatClampNeg x2)) kw_3 (t0 := 6) rfl h_6 (el_rows (vp_lt h_6)) dX12_isAdmissible_74 75 rfl ?_
    refine x_iload_n X 1 dX12_isAdmissible_75 rfl rfl 76 rfl ?_
    refine x_iload_n X 3 dX12_isAdmissible_76 rfl rfl 77 rfl ?_
    refine x_gi hF (fun h_7 hF => ?_)
    refine x_ias X (4 + (Int32.toNatClampNeg x2)) (nw_r (vp_lt h_6)) (kw_r (vp_lt h_6)) (t0 := 0) rfl h_7 dX12_isAdmissible_77 78 rfl ?_
    refine x_letm hF (fun m_8 hF => ?_)
    refine x_iconst X 1 dX12_isAdmissible_78 rfl 79 rfl ?_
    refine x_istore X [(4, .int 1), (0, .ref (ad 0)), (1, .int x1), (2, .int x2), (3, .int x3)] dX12_isAdmissible_79 (by decide) rfl 81 rfl ?_
    refine x_iconst X 0 dX12_isAdmissible_81 rfl 82 rfl ?_
    refine x_istore X [(5, .int 0), (4, .int 1), (0, .ref (ad 0)), (1, .int x1), (2, .int x2), (3, .int x3)] dX12_isAdmissible_82 (by decide) rfl 84 rfl ?_
    refine x_keep [2, 3, 4, 1, 0] rfl ?_
    refine x_widen (k := (0 + (5 - 5) * 9)) (k2 := (0 + (5 - 5) * 72)) (by omega) (by omega) ?_
    exact w_84  5 (by omega) x1 x2 1 0 m_8 hF
  have w_38 : ∀  (x1 : Int32) (x2 : Int32) (x3 : Int32) (mem : Mem), KW_isAdmissible_38 np nb fu  x1 x2 x3 mem = some res → XX D (nW np nb) ad (cWd ca ad np nb eD tS sB) p l e rw_isAdmissible s m args below meth c 6 0 0 Q mem [] 38 [(0, .ref (ad 0)), (1, .int x1), (2, .int x2), (3, .int x3)] [] := by
    intro  x1 x2 x3 mem hF
    rw [KW_isAdmissible_38] at hF
    refine x_iload_n X 3 dX12_isAdmissible_38 rfl rfl 39 rfl ?_
    refine x_iconst X 2 dX12_isAdmissible_39 rfl 40 rfl ?_
    refine x_icmp_ne X hF 69 43 dX12_isAdmissible_40 (by decide) rfl (fun hF => ?_) (fun hF => ?_)
    · refine x_aload_n X 0 dX12_isAdmissible_43 rfl rfl 44 rfl ?_
      refine x_iload_n X 1 dX12_isAdmissible_44 rfl rfl 45 rfl ?_
      refine x_iload_n X 2 dX12_isAdmissible_45 rfl rfl 46 rfl ?_
      refine x_iconst X 1 dX12_isAdmissible_46 rfl 47 rfl ?_
      refine x_isub X dX12_isAdmissible_47 48 rfl ?_
      refine x_callVi (fun x => x) (fun _ => mem) X hZ hF [.int x1, .int (x2 - 1)] 0 nw_0 kw_0 rfl rfl rfl kB_X12_wall kL_X12_187 (fun res h => cw_wall l hZ hW hg fu x1 (x2 - 1) mem res h) rfl ⟨Nat.le_of_ble_eq_true rfl, Nat.le_of_ble_eq_true rfl⟩ (Nat.le_of_ble_eq_true rfl) ⟨Nat.le_of_ble_eq_true rfl, Nat.le_of_ble_eq_true rfl⟩ dX12_isAdmissible_48 51 rfl (fun x_9 hF => ?_)
      refine x_iconst X 2 dX12_isAdmissible_51 rfl 52 rfl ?_
      refine x_icmp_eq X hF 67 55 dX12_isAdmissible_52 (by decide) rfl (fun hF => ?_) (fun hF => ?_)
      · refine x_iconst X 0 dX12_isAdmissible_67 rfl 68 rfl ?_
        exact x_iret X hQ (o_inj1 hF) (o_inj2 hF) rfl (Nat.le_of_ble_eq_true rfl) (Nat.le_of_ble_eq_true rfl) dX12_isAdmissible_68
      · refine x_aload_n X 0 dX12_isAdmissible_55 rfl rfl 56 rfl ?_
        refine x_iload_n X 1 dX12_isAdmissible_56 rfl rfl 57 rfl ?_
        refine x_iload_n X 2 dX12_isAdmissible_57 rfl rfl 58 rfl ?_
        refine x_iconst X 1 dX12_isAdmissible_58 rfl 59 rfl ?_
        refine x_iadd X dX12_isAdmissible_59 60 rfl ?_
        refine x_callVi (fun x => x) (fun _ => mem) X hZ hF [.int x1, .int (x2 + 1)] 0 nw_0 kw_0 rfl rfl rfl kB_X12_wall kL_X12_187 (fun res h => cw_wall l hZ hW hg fu x1 (x2 + 1) mem res h) rfl ⟨Nat.le_of_ble_eq_true rfl, Nat.le_of_ble_eq_true rfl⟩ (Nat.le_of_ble_eq_true rfl) ⟨Nat.le_of_ble_eq_true rfl, Nat.le_of_ble_eq_true rfl⟩ dX12_isAdmissible_60 63 rfl (fun x_10 hF => ?_)
        refine x_iconst X 2 dX12_isAdmissible_63 rfl 64 rfl ?_
        refine x_icmp_ne X hF 69 67 dX12_isAdmissible_64 (by decide) rfl (fun hF => ?_) (fun hF => ?_)
        · refine x_iconst X 0 dX12_isAdmissible_67 rfl 68 rfl ?_
          exact x_iret X hQ (o_inj1 hF) (o_inj2 hF) rfl (Nat.le_of_ble_eq_true rfl) (Nat.le_of_ble_eq_true rfl) dX12_isAdmissible_68
        · refine x_keep [0, 1, 2, 3] rfl ?_
          exact w_69   x1 x2 x3 mem hF
    · refine x_keep [0, 1, 2, 3] rfl ?_
      exact w_69   x1 x2 x3 mem hF
  intro hF
  refine x_aload_n X 0 dX12_isAdmissible_0 rfl rfl 1 rfl ?_
  refine x_iload_n X 1 dX12_isAdmissible_1 rfl rfl 2 rfl ?_
  refine x_iload_n X 2 dX12_isAdmissible_2 rfl rfl 3 rfl ?_
  refine x_callVi (fun x => x) (fun _ => mem) X hZ hF [.int x1, .int x2] 0 nw_0 kw_0 rfl rfl rfl kB_X12_wall kL_X12_187 (fun res h => cw_wall l hZ hW hg fu x1 x2 mem res h) rfl ⟨Nat.le_of_ble_eq_true rfl, Nat.le_of_ble_eq_true rfl⟩ (Nat.le_of_ble_eq_true rfl) ⟨Nat.le_of_ble_eq_true rfl, Nat.le_of_ble_eq_true rfl⟩ dX12_isAdmissible_3 6 rfl (fun x_11 hF => ?_)
  refine x_if_ne X hF 67 9 dX12_isAdmissible_6 (by decide) rfl (fun hF => ?_) (fun hF => ?_)
  · refine x_iload_n X 3 dX12_isAdmissible_9 rfl rfl 10 rfl ?_
    refine x_iconst X 1 dX12_isAdmissible_10 rfl 11 rfl ?_
    refine x_icmp_ne X hF 38 14 dX12_isAdmissible_11 (by decide) rfl (fun hF => ?_) (fun hF => ?_)
    · refine x_aload_n X 0 dX12_isAdmissible_14 rfl rfl 15 rfl ?_
      refine x_iload_n X 1 dX12_isAdmissible_15 rfl rfl 16 rfl ?_
      refine x_iconst X 1 dX12_isAdmissible_16 rfl 17 rfl ?_
      refine x_isub X dX12_isAdmissible_17 18 rfl ?_
      refine x_iload_n X 2 dX12_isAdmissible_18 rfl rfl 19 rfl ?_
      refine x_callVi (fun x => x) (fun _ => mem) X hZ hF [.int (x1 - 1), .int x2] 0 nw_0 kw_0 rfl rfl rfl kB_X12_wall kL_X12_187 (fun res h => cw_wall l hZ hW hg fu (x1 - 1) x2 mem res h) rfl ⟨Nat.le_of_ble_eq_true rfl, Nat.le_of_ble_eq_true rfl⟩ (Nat.le_of_ble_eq_true rfl) ⟨Nat.le_of_ble_eq_true rfl, Nat.le_of_ble_eq_true rfl⟩ dX12_isAdmissible_19 22 rfl (fun x_12 hF => ?_)
      refine x_iconst X 1 dX12_isAdmissible_22 rfl 23 rfl ?_
      refine x_icmp_eq X hF 67 26 dX12_isAdmissible_23 (by decide) rfl (fun hF => ?_) (fun hF => ?_)
      · refine x_iconst X 0 dX12_isAdmissible_67 rfl 68 rfl ?_
        exact x_iret X hQ (o_inj1 hF) (o_inj2 hF) rfl (Nat.le_of_ble_eq_true rfl) (Nat.le_of_ble_eq_true rfl) dX12_isAdmissible_68
      · refine x_aload_n X 0 dX12_isAdmissible_26 rfl rfl 27 rfl ?_
        refine x_iload_n X 1 dX12_isAdmissible_27 rfl rfl 28 rfl ?_
        refine x_iconst X 1 dX12_isAdmissible_28 rfl 29 rfl ?_
        refine x_iadd X dX12_isAdmissible_29 30 rfl ?_
        refine x_iload_n X 2 dX12_isAdmissible_30 rfl rfl 31 rfl ?_
        refine x_callVi (fun x => x) (fun _ => mem) X hZ hF [.int (x1 + 1), .int x2] 0 nw_0 kw_0 rfl rfl rfl kB_X12_wall kL_X12_187 (fun res h => cw_wall l hZ hW hg fu (x1 + 1) x2 mem res h) rfl ⟨Nat.le_of_ble_eq_true rfl, Nat.le_of_ble_eq_true rfl⟩ (Nat.le_of_ble_eq_true rfl) ⟨Nat.le_of_ble_eq_true rfl, Nat.le_of_ble_eq_true rfl⟩ dX12_isAdmissible_31 34 rfl (fun x_13 hF => ?_)
        refine x_iconst X 1 dX12_isAdmissible_34 rfl 35 rfl ?_
        refine x_icmp_eq X hF 67 38 dX12_isAdmissible_35 (by decide) rfl (fun hF => ?_) (fun hF => ?_)
        · refine x_iconst X 0 dX12_isAdmissible_67 rfl 68 rfl ?_
          exact x_iret X hQ (o_inj1 hF) (o_inj2 hF) rfl (Nat.le_of_ble_eq_true rfl) (Nat.le_of_ble_eq_true rfl) dX12_isAdmissible_68
        · refine x_keep [0, 1, 2, 3] rfl ?_
          exact w_38   x1 x2 x3 mem hF
    · refine x_keep [0, 1, 2, 3] rfl ?_
      exact w_38   x1 x2 x3 mem hF
  · refine x_iconst X 0 dX12_isAdmissible_67 rfl 68 rfl ?_
    exact x_iret X hQ (o_inj1 hF) (o_inj2 hF) rfl (Nat.le_of_ble_eq_true rfl) (Nat.le_of_ble_eq_true rfl) dX12_isAdmissible_68

end WA
