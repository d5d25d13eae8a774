section T
def K_X2_hasCell (fu : Nat) (r : Nat) (x1 : Int32) (x2 : Int32) (mem : Mem) : Option Int32 := (if x1 < 0 then some 0 else (if x1 < (rd mem (pBoard r) 0) then (if x2 < 0 then some 0 else (if x2 < (rd mem (pBoard r) 1) then some 1 else some 0)) else some 0))
def rm_X2_hasCell : Room := { frames := 0, cells := 0, slots := 0, locals := 0 }
set_option maxHeartbeats 4000000 in
set_option maxRecDepth 100000 in
theorem ct_X2_hasCell (l : Launch) {D : va_G} {ca ad : Nat → Nat} {Z : (Nat → Prop) → State → Heap → Prop} (hZ : ZOK Z) {tO : Nat} (hO : ZO Z tO) (fu : Nat) {r : Nat} (hr : r < 10) (x1 : Int32) (x2 : Int32) (mem : Mem) (res : Int32) (hF : K_X2_hasCell fu r x1 x2 mem = some res) : CI l D (tyL ca) 255 ad (cC ca ad) Z yX2_hasCell cX2_hasCell 3 .boolean rm_X2_hasCell [.ref (ad (pBoard r)), .int x1, .int x2] mem res mem := by
  refine start_i (own := RX2) rfl (by decide) (Nat.le_of_ble_eq_true rfl) ?_
  intro p e s m args below meth c Q hQ X
  rw [K_X2_hasCell] at hF
  revert hF
  intro hF
  refine w_iload_n X 1 dX2_hasCell_0 rfl rfl 1 rfl ?_
  refine w_if_lt X hF 28 4 dX2_hasCell_1 (by decide) rfl (fun hF => ?_) (fun hF => ?_)
  · refine w_iconst X 0 dX2_hasCell_28 rfl 29 rfl ?_
    exact w_iret X hQ (o_inj hF) rfl rfl dX2_hasCell_29
  · refine w_iload_n X 1 dX2_hasCell_4 rfl rfl 5 rfl ?_
    refine w_aload_n X 0 dX2_hasCell_5 rfl rfl 6 rfl ?_
    refine w_getV (v := .int (rd mem (pBoard r) 0)) X (pBoard r) (lt_Board hr) ko_Board (T := TX2) (N := 5) rfl in_X2 0 (by decide) kF_X2_22 rfl rfl dX2_hasCell_6 9 rfl ?_
    refine w_icmp_ge X hF 28 12 dX2_hasCell_9 (by decide) rfl (fun hF => ?_) (fun hF => ?_)
    · refine w_iload_n X 2 dX2_hasCell_12 rfl rfl 13 rfl ?_
      refine w_if_lt X hF 28 16 dX2_hasCell_13 (by decide) rfl (fun hF => ?_) (fun hF => ?_)
      · refine w_iconst X 0 dX2_hasCell_28 rfl 29 rfl ?_
        exact w_iret X hQ (o_inj hF) rfl rfl dX2_hasCell_29
      · refine w_iload_n X 2 dX2_hasCell_16 rfl rfl 17 rfl ?_
        refine w_aload_n X 0 dX2_hasCell_17 rfl rfl 18 rfl ?_
        refine w_getV (v := .int (rd mem (pBoard r) 1)) X (pBoard r) (lt_Board hr) ko_Board (T := TX2) (N := 5) rfl in_X2 1 (by decide) kF_X2_26 rfl rfl dX2_hasCell_18 21 rfl ?_
        refine w_icmp_ge X hF 28 24 dX2_hasCell_21 (by decide) rfl (fun hF => ?_) (fun hF => ?_)
        · refine w_iconst X 1 dX2_hasCell_24 rfl 25 rfl ?_
          refine w_goto X 29 dX2_hasCell_25 (by decide) ?_
          exact w_iret X hQ (o_inj hF) rfl rfl dX2_hasCell_29
        · refine w_iconst X 0 dX2_hasCell_28 rfl 29 rfl ?_
          exact w_iret X hQ (o_inj hF) rfl rfl dX2_hasCell_29
    · refine w_iconst X 0 dX2_hasCell_28 rfl 29 rfl ?_
      exact w_iret X hQ (o_inj hF) rfl rfl dX2_hasCell_29

def K_X6_pawnOn_2 (fu : Nat) (r : Nat) (mem : Mem) : Nat → Int32 → Int32 → Option Int32
  | 0, _, _ => none
  | n + 1, x1, x2 => (if x2 < (rd mem (pRace r) 2) then gi x2 4 ((if (rd mem (pPawn r (Int32.toNatClampNeg x2)) 0) = x1 then gi x2 4 ((if (rd mem (pPawn r (Int32.toNatClampNeg x2)) 5) = 0 then some x2 else (K_X6_pawnOn_2 fu r mem n x1 (x2 + 1) ))) else (K_X6_pawnOn_2 fu r mem n x1 (x2 + 1) ))) else some (-1))
def K_X6_pawnOn (fu : Nat) (r : Nat) (x1 : Int32) (mem : Mem) : Option Int32 := (K_X6_pawnOn_2 fu r mem fu x1 0 )
def rm_X6_pawnOn : Room := { frames := 0, cells := 0, slots := 0, locals := 0 }
set_option maxHeartbeats 4000000 in
set_option maxRecDepth 100000 in
theorem ct_X6_pawnOn (l : Launch) {D : va_G} {ca ad : Nat → Nat} {Z : (Nat → Prop) → State → Heap → Prop} (hZ : ZOK Z) {tO : Nat} (hO : ZO Z tO) (fu : Nat) {r : Nat} (hr : r < 10) (x1 : Int32) (mem : Mem) (res : Int32) (hF : K_X6_pawnOn fu r x1 mem = some res) : CI l D (tyL ca) 255 ad (cC ca ad) Z yX6_pawnOn cX6_pawnOn 3 .int rm_X6_pawnOn [.ref (ad (pRace r)), .int x1] mem res mem := by
  refine start_i (own := RX6) rfl (by decide) (Nat.le_of_ble_eq_true rfl) ?_
  intro p e s m args below meth c Q hQ X
  rw [K_X6_pawnOn] at hF
  revert hF
  have w_2 : ∀ (n : Nat) (x1 : Int32) (x2 : Int32), K_X6_pawnOn_2 fu r mem n x1 x2 = some res → WW D 255 ad (cC ca ad) p l e rm_X6_pawnOn s m args below meth c 3 0 0 Q mem 2 [(0, .ref (ad (pRace r))), (1, .int x1), (2, .int x2)] [] := by
    intro n
    induction n with
    | zero => intro x1 x2 hF; exact no_none (show (none : Option Int32) = some res from hF)
    | succ n ih =>
      intro x1 x2 hF
      rw [K_X6_pawnOn_2] at hF
      refine w_iload_n X 2 dX6_pawnOn_2 rfl rfl 3 rfl ?_
      refine w_aload_n X 0 dX6_pawnOn_3 rfl rfl 4 rfl ?_
      refine w_getV (v := .int (rd mem (pRace r) 2)) X (pRace r) (lt_Race hr) ko_Race (T := TX6) (N := 8) rfl in_X6 2 (by decide) kF_X6_36 rfl rfl dX6_pawnOn_4 7 rfl ?_
      refine w_icmp_ge X hF 43 10 dX6_pawnOn_7 (by decide) rfl (fun hF => ?_) (fun hF => ?_)
      · refine w_aload_n X 0 dX6_pawnOn_10 rfl rfl 11 rfl ?_
        refine w_getV (v := .ref (ad (pPawns r))) X (pRace r) (lt_Race hr) ko_Race (T := TX6) (N := 8) rfl in_X6 1 (by decide) kF_X6_20 rfl rfl dX6_pawnOn_11 14 rfl ?_
        refine w_iload_n X 2 dX6_pawnOn_14 rfl rfl 15 rfl ?_
        refine w_gi hF (fun h_1 hF => ?_)
        refine w_aal X (pPawns r) (lt_Pawns hr) (pPawn r (Int32.toNatClampNeg x2)) ko_Pawns (t0 := 2) rfl h_1 (el_Pawns (vp_lt h_1)) dX6_pawnOn_15 16 rfl ?_
        refine w_getV (v := .int (rd mem (pPawn r (Int32.toNatClampNeg x2)) 0)) X (pPawn r (Int32.toNatClampNeg x2)) (lt_Pawn hr (vp_lt h_1)) (ko_Pawn (vp_lt h_1)) (T := TX4) (N := 6) rfl in_X4 0 (by decide) kF_X6_62 rfl rfl dX6_pawnOn_16 19 rfl ?_
        refine w_iload_n X 1 dX6_pawnOn_19 rfl rfl 20 rfl ?_
        refine w_icmp_ne X hF 37 23 dX6_pawnOn_20 (by decide) rfl (fun hF => ?_) (fun hF => ?_)
        · refine w_aload_n X 0 dX6_pawnOn_23 rfl rfl 24 rfl ?_
          refine w_getV (v := .ref (ad (pPawns r))) X (pRace r) (lt_Race hr) ko_Race (T := TX6) (N := 8) rfl in_X6 1 (by decide) kF_X6_20 rfl rfl dX6_pawnOn_24 27 rfl ?_
          refine w_iload_n X 2 dX6_pawnOn_27 rfl rfl 28 rfl ?_
          refine w_gi hF (fun h_2 hF => ?_)
          refine w_aal X (pPawns r) (lt_Pawns hr) (pPawn r (Int32.toNatClampNeg x2)) ko_Pawns (t0 := 2) rfl h_2 (el_Pawns (vp_lt h_2)) dX6_pawnOn_28 29 rfl ?_
          refine w_getV (v := .int (rd mem (pPawn r (Int32.toNatClampNeg x2)) 5)) X (pPawn r (Int32.toNatClampNeg x2)) (lt_Pawn hr (vp_lt h_2)) (ko_Pawn (vp_lt h_2)) (T := TX4) (N := 6) rfl in_X4 5 (by decide) kF_X6_77 rfl rfl dX6_pawnOn_29 32 rfl ?_
          refine w_if_ne X hF 37 35 dX6_pawnOn_32 (by decide) rfl (fun hF => ?_) (fun hF => ?_)
          · refine w_iload_n X 2 dX6_pawnOn_35 rfl rfl 36 rfl ?_
            exact w_iret X hQ (o_inj hF) rfl rfl dX6_pawnOn_36
          · refine w_iinc X 2 (x2 + 1) [(2, .int (x2 + 1)), (0, .ref (ad (pRace r))), (1, .int x1)] dX6_pawnOn_37 rfl rfl (by decide) rfl 40 rfl ?_
            refine w_goto X 2 dX6_pawnOn_40 (by decide) ?_
            refine w_keep [1, 2, 0] rfl ?_
            exact ih x1 (x2 + 1)  hF
        · refine w_iinc X 2 (x2 + 1) [(2, .int (x2 + 1)), (0, .ref (ad (pRace r))), (1, .int x1)] dX6_pawnOn_37 rfl rfl (by decide) rfl 40 rfl ?_
          refine w_goto X 2 dX6_pawnOn_40 (by decide) ?_
          refine w_keep [1, 2, 0] rfl ?_
          exact ih x1 (x2 + 1)  hF
      · refine w_iconst X (-1) dX6_pawnOn_43 rfl 44 rfl ?_
        exact w_iret X hQ (o_inj hF) rfl rfl dX6_pawnOn_44
  intro hF
  refine w_iconst X 0 dX6_pawnOn_0 rfl 1 rfl ?_
  refine w_istore_n X [(2, .int 0), (0, .ref (ad (pRace r))), (1, .int x1)] dX6_pawnOn_1 rfl (by decide) rfl 2 rfl ?_
  refine w_keep [1, 2, 0] rfl ?_
  exact w_2 fu x1 0  hF

def K_X0_byCell_55 (fu : Nat) (r : Nat) (i : Nat) (mem : Mem) (xs0 : Int32) : Option Int32 := (if xs0 = 0 then some 0 else some (1 <<< ((rd mem (pBan r i) 2) &&& 31)))
def K_X0_byCell_54 (fu : Nat) (r : Nat) (i : Nat) (mem : Mem) : Option Int32 := (K_X0_byCell_55 fu r i mem 0 )
def K_X0_byCell (fu : Nat) (r : Nat) (i : Nat) (x1 : Int32) (mem : Mem) : Option Int32 := lt_ (x1 - x1 / 9 * 9) (fun x_1 => lt_ (x1 / 9) (fun x_2 => (if (rd mem (pBan r i) 1) = 3 then (if x_1 < (rd mem (pBan r i) 5) then (K_X0_byCell_54 fu r i mem ) else (if (rd mem (pBan r i) 6) < x_1 then (K_X0_byCell_54 fu r i mem ) else (if x_2 < (rd mem (pBan r i) 7) then (K_X0_byCell_54 fu r i mem ) else (if (rd mem (pBan r i) 8) < x_2 then (K_X0_byCell_54 fu r i mem ) else (K_X0_byCell_55 fu r i mem 1 ))))) else (K_X0_byCell_54 fu r i mem ))))
def rm_X0_byCell : Room := { frames := 0, cells := 0, slots := 0, locals := 0 }
set_option maxHeartbeats 4000000 in
set_option maxRecDepth 100000 in
theorem ct_X0_byCell (l : Launch) {D : va_G} {ca ad : Nat → Nat} {Z : (Nat → Prop) → State → Heap → Prop} (hZ : ZOK Z) {tO : Nat} (hO : ZO Z tO) (fu : Nat) {r : Nat} (hr : r < 10) {i : Nat} (hi : i < 12) (x1 : Int32) (mem : Mem) (res : Int32) (hF : K_X0_byCell fu r i x1 mem = some res) : CI l D (tyL ca) 255 ad (cC ca ad) Z yX0_byCell cX0_byCell 5 .int rm_X0_byCell [.ref (ad (pBan r i)), .int x1] mem res mem := by
  refine start_i (own := RX0) rfl (by decide) (Nat.le_of_ble_eq_true rfl) ?_
  intro p e s m args below meth c Q hQ X
  rw [K_X0_byCell] at hF
  revert hF
  have w_55 : ∀ (xs0 : Int32), K_X0_byCell_55 fu r i mem xs0 = some res → WW D 255 ad (cC ca ad) p l e rm_X0_byCell s m args below meth c 5 0 0 Q mem 55 [(0, .ref (ad (pBan r i)))] [.int xs0] := by
    intro xs0 hF
    rw [K_X0_byCell_55] at hF
    refine w_istore X [(4, .int xs0), (0, .ref (ad (pBan r i)))] dX0_byCell_55 (by decide) rfl 57 rfl ?_
    refine w_iload X 0 dX0_byCell_57 rfl 59 rfl ?_
    refine w_if_eq X hF 71 62 dX0_byCell_59 (by decide) rfl (fun hF => ?_) (fun hF => ?_)
    · refine w_iconst X 0 dX0_byCell_71 rfl 72 rfl ?_
      exact w_iret X hQ (o_inj hF) rfl rfl dX0_byCell_72
    · refine w_iconst X 1 dX0_byCell_62 rfl 63 rfl ?_
      refine w_aload_n X 1 dX0_byCell_63 rfl rfl 64 rfl ?_
      refine w_getV (v := .int (rd mem (pBan r i) 2)) X (pBan r i) (lt_Ban hr hi) (ko_Ban hi) (T := TX0) (N := 9) rfl in_X0 2 (by decide) kF_X0_21 rfl rfl dX0_byCell_64 67 rfl ?_
      refine w_ishl X dX0_byCell_67 68 rfl ?_
      refine w_goto X 72 dX0_byCell_68 (by decide) ?_
      exact w_iret X hQ (o_inj hF) rfl rfl dX0_byCell_72
  have w_54 : K_X0_byCell_54 fu r i mem = some res → WW D 255 ad (cC ca ad) p l e rm_X0_byCell s m args below meth c 5 0 0 Q mem 54 [(0, .ref (ad (pBan r i)))] [] := by
    intro hF
    rw [K_X0_byCell_54] at hF
    refine w_iconst X 0 dX0_byCell_54 rfl 55 rfl ?_
    refine w_keep [0] rfl ?_
    exact w_55 0  hF
  intro hF
  refine w_iload_n X 1 dX0_byCell_0 rfl rfl 1 rfl ?_
  refine w_bipush X 9 dX0_byCell_1 rfl 3 rfl ?_
  refine w_irem X (by decide) dX0_byCell_3 4 rfl ?_
  refine w_let hF (fun x_1 hF => ?_)
  refine w_istore_n X [(2, .int x_1), (0, .ref (ad (pBan r i))), (1, .int x1)] dX0_byCell_4 rfl (by decide) rfl 5 rfl ?_
  refine w_iload_n X 2 dX0_byCell_5 rfl rfl 6 rfl ?_
  refine w_bipush X 9 dX0_byCell_6 rfl 8 rfl ?_
  refine w_idiv X (by decide) dX0_byCell_8 9 rfl ?_
  refine w_let hF (fun x_2 hF => ?_)
  refine w_istore_n X [(3, .int x_2), (2, .int x_1), (0, .ref (ad (pBan r i))), (1, .int x1)] dX0_byCell_9 rfl (by decide) rfl 10 rfl ?_
  refine w_aload_n X 2 dX0_byCell_10 rfl rfl 11 rfl ?_
  refine w_getV (v := .int (rd mem (pBan r i) 1)) X (pBan r i) (lt_Ban hr hi) (ko_Ban hi) (T := TX0) (N := 9) rfl in_X0 1 (by decide) kF_X0_18 rfl rfl dX0_byCell_11 14 rfl ?_
  refine w_iconst X 3 dX0_byCell_14 rfl 15 rfl ?_
  refine w_icmp_ne X hF 54 18 dX0_byCell_15 (by decide) rfl (fun hF => ?_) (fun hF => ?_)
  · refine w_iload_n X 1 dX0_byCell_18 rfl rfl 19 rfl ?_
    refine w_aload_n X 2 dX0_byCell_19 rfl rfl 20 rfl ?_
    refine w_getV (v := .int (rd mem (pBan r i) 5)) X (pBan r i) (lt_Ban hr hi) (ko_Ban hi) (T := TX0) (N := 9) rfl in_X0 5 (by decide) kF_X0_27 rfl rfl dX0_byCell_20 23 rfl ?_
    refine w_icmp_lt X hF 54 26 dX0_byCell_23 (by decide) rfl (fun hF => ?_) (fun hF => ?_)
    · refine w_keep [2] rfl ?_
      exact w_54  hF
    · refine w_iload_n X 1 dX0_byCell_26 rfl rfl 27 rfl ?_
      refine w_aload_n X 2 dX0_byCell_27 rfl rfl 28 rfl ?_
      refine w_getV (v := .int (rd mem (pBan r i) 6)) X (pBan r i) (lt_Ban hr hi) (ko_Ban hi) (T := TX0) (N := 9) rfl in_X0 6 (by decide) kF_X0_30 rfl rfl dX0_byCell_28 31 rfl ?_
      refine w_icmp_gt X hF 54 34 dX0_byCell_31 (by decide) rfl (fun hF => ?_) (fun hF => ?_)
      · refine w_keep [2] rfl ?_
        exact w_54  hF
      · refine w_iload_n X 0 dX0_byCell_34 rfl rfl 35 rfl ?_
        refine w_aload_n X 2 dX0_byCell_35 rfl rfl 36 rfl ?_
        refine w_getV (v := .int (rd mem (pBan r i) 7)) X (pBan r i) (lt_Ban hr hi) (ko_Ban hi) (T := TX0) (N := 9) rfl in_X0 7 (by decide) kF_X0_33 rfl rfl dX0_byCell_36 39 rfl ?_
        refine w_icmp_lt X hF 54 42 dX0_byCell_39 (by decide) rfl (fun hF => ?_) (fun hF => ?_)
        · refine w_keep [2] rfl ?_
          exact w_54  hF
        · refine w_iload_n X 0 dX0_byCell_42 rfl rfl 43 rfl ?_
          refine w_aload_n X 2 dX0_byCell_43 rfl rfl 44 rfl ?_
          refine w_getV (v := .int (rd mem (pBan r i) 8)) X (pBan r i) (lt_Ban hr hi) (ko_Ban hi) (T := TX0) (N := 9) rfl in_X0 8 (by decide) kF_X0_36 rfl rfl dX0_byCell_44 47 rfl ?_
          refine w_icmp_gt X hF 54 50 dX0_byCell_47 (by decide) rfl (fun hF => ?_) (fun hF => ?_)
          · refine w_keep [2] rfl ?_
            exact w_54  hF
          · refine w_iconst X 1 dX0_byCell_50 rfl 51 rfl ?_
            refine w_goto X 55 dX0_byCell_51 (by decide) ?_
            refine w_keep [2] rfl ?_
            exact w_55 1  hF
  · refine w_keep [2] rfl ?_
    exact w_54  hF

def K_X0_setEvery (fu : Nat) (r : Nat) (i : Nat) (x1 : Int32) (x2 : Int32) (x3 : Int32) (mem : Mem) : Option Mem := lt_ (mw mem (pBan r i) 1 2) (fun m_1 => lt_ (mw m_1 (pBan r i) 2 x1) (fun m_2 => lt_ (mw m_2 (pBan r i) 3 x2) (fun m_3 => lt_ (mw m_3 (pBan r i) 4 x3) (fun m_4 => some m_4))))
def rm_X0_setEvery : Room := { frames := 0, cells := 0, slots := 0, locals := 0 }
set_option maxHeartbeats 4000000 in
set_option maxRecDepth 100000 in
theorem ct_X0_setEvery (l : Launch) {D : va_G} {ca ad : Nat → Nat} {Z : (Nat → Prop) → State → Heap → Prop} (hZ : ZOK Z) {tO : Nat} (hO : ZO Z tO) (fu : Nat) {r : Nat} (hr : r < 10) {i : Nat} (hi : i < 12) (x1 : Int32) (x2 : Int32) (x3 : Int32) (mem : Mem) (res : Mem) (hF : K_X0_setEvery fu r i x1 x2 x3 mem = some res) : CV l D (tyL ca) 255 ad (cC ca ad) Z yX0_setEvery cX0_setEvery 4 rm_X0_setEvery [.ref (ad (pBan r i)), .int x1, .int x2, .int x3] mem res := by
  refine start_v (own := RX0) rfl (by decide) (Nat.le_of_ble_eq_true rfl) ?_
  intro p e s m args below meth c Q hQ X
  rw [K_X0_setEvery] at hF
  revert hF
  intro hF
  refine w_aload_n X 0 dX0_setEvery_0 rfl rfl 1 rfl ?_
  refine w_iconst X 2 dX0_setEvery_1 rfl 2 rfl ?_
  refine w_putI X (pBan r i) (lt_Ban hr hi) (ko_Ban hi) (T := TX0) (N := 9) rfl in_X0 tyX0 tyX0_ok nmX0 1 (by decide) kF_X0_18 rfl rfl rfl rfl (Nat.le_of_ble_eq_true rfl) rfl dX0_setEvery_2 5 rfl ?_
  refine w_letm hF (fun m_1 hF => ?_)
  refine w_aload_n X 0 dX0_setEvery_5 rfl rfl 6 rfl ?_
  refine w_iload_n X 1 dX0_setEvery_6 rfl rfl 7 rfl ?_
  refine w_putI X (pBan r i) (lt_Ban hr hi) (ko_Ban hi) (T := TX0) (N := 9) rfl in_X0 tyX0 tyX0_ok nmX0 2 (by decide) kF_X0_21 rfl rfl rfl rfl (Nat.le_of_ble_eq_true rfl) rfl dX0_setEvery_7 10 rfl ?_
  refine w_letm hF (fun m_2 hF => ?_)
  refine w_aload_n X 0 dX0_setEvery_10 rfl rfl 11 rfl ?_
  refine w_iload_n X 2 dX0_setEvery_11 rfl rfl 12 rfl ?_
  refine w_putI X (pBan r i) (lt_Ban hr hi) (ko_Ban hi) (T := TX0) (N := 9) rfl in_X0 tyX0 tyX0_ok nmX0 3 (by decide) kF_X0_9 rfl rfl rfl rfl (Nat.le_of_ble_eq_true rfl) rfl dX0_setEvery_12 15 rfl ?_
  refine w_letm hF (fun m_3 hF => ?_)
  refine w_aload_n X 0 dX0_setEvery_15 rfl rfl 16 rfl ?_
  refine w_iload_n X 3 dX0_setEvery_16 rfl rfl 17 rfl ?_
  refine w_putI X (pBan r i) (lt_Ban hr hi) (ko_Ban hi) (T := TX0) (N := 9) rfl in_X0 tyX0 tyX0_ok nmX0 4 (by decide) kF_X0_24 rfl rfl rfl rfl (Nat.le_of_ble_eq_true rfl) rfl dX0_setEvery_17 20 rfl ?_
  refine w_letm hF (fun m_4 hF => ?_)
  exact w_vret X hQ (o_inj hF) dX0_setEvery_20

def K_X0_copyFrom (fu : Nat) (r : Nat) (i : Nat) (r1 : Nat) (i1 : Nat) (mem : Mem) : Option Mem := lt_ (mw mem (pBan r i) 0 (rd mem (pBan r1 i1) 0)) (fun m_1 => lt_ (mw m_1 (pBan r i) 1 (rd m_1 (pBan r1 i1) 1)) (fun m_2 => lt_ (mw m_2 (pBan r i) 2 (rd m_2 (pBan r1 i1) 2)) (fun m_3 => lt_ (mw m_3 (pBan r i) 3 (rd m_3 (pBan r1 i1) 3)) (fun m_4 => lt_ (mw m_4 (pBan r i) 4 (rd m_4 (pBan r1 i1) 4)) (fun m_5 => lt_ (mw m_5 (pBan r i) 5 (rd m_5 (pBan r1 i1) 5)) (fun m_6 => lt_ (mw m_6 (pBan r i) 6 (rd m_6 (pBan r1 i1) 6)) (fun m_7 => lt_ (mw m_7 (pBan r i) 7 (rd m_7 (pBan r1 i1) 7)) (fun m_8 => lt_ (mw m_8 (pBan r i) 8 (rd m_8 (pBan r1 i1) 8)) (fun m_9 => some m_9)))))))))
def rm_X0_copyFrom : Room := { frames := 0, cells := 0, slots := 0, locals := 0 }
set_option maxHeartbeats 4000000 in
set_option maxRecDepth 100000 in
theorem ct_X0_copyFrom (l : Launch) {D : va_G} {ca ad : Nat → Nat} {Z : (Nat → Prop) → State → Heap → Prop} (hZ : ZOK Z) {tO : Nat} (hO : ZO Z tO) (fu : Nat) {r : Nat} (hr : r < 10) {i : Nat} (hi : i < 12) {r1 : Nat} (hr1 : r1 < 10) {i1 : Nat} (hi1 : i1 < 12) (mem : Mem) (res : Mem) (hF : K_X0_copyFrom fu r i r1 i1 mem = some res) : CV l D (tyL ca) 255 ad (cC ca ad) Z yX0_copyFrom cX0_copyFrom 2 rm_X0_copyFrom [.ref (ad (pBan r i)), .ref (ad (pBan r1 i1))] mem res := by
  refine start_v (own := RX0) rfl (by decide) (Nat.le_of_ble_eq_true rfl) ?_
  intro p e s m args below meth c Q hQ X
  rw [K_X0_copyFrom] at hF
  revert hF
  intro hF
  refine w_aload_n X 0 dX0_copyFrom_0 rfl rfl 1 rfl ?_
  refine w_aload_n X 1 dX0_copyFrom_1 rfl rfl 2 rfl ?_
  refine w_getV (v := .int (rd mem (pBan r1 i1) 0)) X (pBan r1 i1) (lt_Ban hr1 hi1) (ko_Ban hi1) (T := TX0) (N := 9) rfl in_X0 0 (by decide) kF_X0_15 rfl rfl dX0_copyFrom_2 5 rfl ?_
  refine w_putI X (pBan r i) (lt_Ban hr hi) (ko_Ban hi) (T := TX0) (N := 9) rfl in_X0 tyX0 tyX0_ok nmX0 0 (by decide) kF_X0_15 rfl rfl rfl rfl (Nat.le_of_ble_eq_true rfl) rfl dX0_copyFrom_5 8 rfl ?_
  refine w_letm hF (fun m_1 hF => ?_)
  refine w_aload_n X 0 dX0_copyFrom_8 rfl rfl 9 rfl ?_
  refine w_aload_n X 1 dX0_copyFrom_9 rfl rfl 10 rfl ?_
  refine w_getV (v := .int (rd m_1 (pBan r1 i1) 1)) X (pBan r1 i1) (lt_Ban hr1 hi1) (ko_Ban hi1) (T := TX0) (N := 9) rfl in_X0 1 (by decide) kF_X0_18 rfl rfl dX0_copyFrom_10 13 rfl ?_
  refine w_putI X (pBan r i) (lt_Ban hr hi) (ko_Ban hi) (T := TX0) (N := 9) rfl in_X0 tyX0 tyX0_ok nmX0 1 (by decide) kF_X0_18 rfl rfl rfl rfl (Nat.le_of_ble_eq_true rfl) rfl dX0_copyFrom_13 16 rfl ?_
  refine w_letm hF (fun m_2 hF => ?_)
  refine w_aload_n X 0 dX0_copyFrom_16 rfl rfl 17 rfl ?_
  refine w_aload_n X 1 dX0_copyFrom_17 rfl rfl 18 rfl ?_
  refine w_getV (v := .int (rd m_2 (pBan r1 i1) 2)) X (pBan r1 i1) (lt_Ban hr1 hi1) (ko_Ban hi1) (T := TX0) (N := 9) rfl in_X0 2 (by decide) kF_X0_21 rfl rfl dX0_copyFrom_18 21 rfl ?_
  refine w_putI X (pBan r i) (lt_Ban hr hi) (ko_Ban hi) (T := TX0) (N := 9) rfl in_X0 tyX0 tyX0_ok nmX0 2 (by decide) kF_X0_21 rfl rfl rfl rfl (Nat.le_of_ble_eq_true rfl) rfl dX0_copyFrom_21 24 rfl ?_
  refine w_letm hF (fun m_3 hF => ?_)
  refine w_aload_n X 0 dX0_copyFrom_24 rfl rfl 25 rfl ?_
  refine w_aload_n X 1 dX0_copyFrom_25 rfl rfl 26 rfl ?_
  refine w_getV (v := .int (rd m_3 (pBan r1 i1) 3)) X (pBan r1 i1) (lt_Ban hr1 hi1) (ko_Ban hi1) (T := TX0) (N := 9) rfl in_X0 3 (by decide) kF_X0_9 rfl rfl dX0_copyFrom_26 29 rfl ?_
  refine w_putI X (pBan r i) (lt_Ban hr hi) (ko_Ban hi) (T := TX0) (N := 9) rfl in_X0 tyX0 tyX0_ok nmX0 3 (by decide) kF_X0_9 rfl rfl rfl rfl (Nat.le_of_ble_eq_true rfl) rfl dX0_copyFrom_29 32 rfl ?_
  refine w_letm hF (fun m_4 hF => ?_)
  refine w_aload_n X 0 dX0_copyFrom_32 rfl rfl 33 rfl ?_
  refine w_aload_n X 1 dX0_copyFrom_33 rfl rfl 34 rfl ?_
  refine w_getV (v := .int (rd m_4 (pBan r1 i1) 4)) X (pBan r1 i1) (lt_Ban hr1 hi1) (ko_Ban hi1) (T := TX0) (N := 9) rfl in_X0 4 (by decide) kF_X0_24 rfl rfl dX0_copyFrom_34 37 rfl ?_
  refine w_putI X (pBan r i) (lt_Ban hr hi) (ko_Ban hi) (T := TX0) (N := 9) rfl in_X0 tyX0 tyX0_ok nmX0 4 (by decide) kF_X0_24 rfl rfl rfl rfl (Nat.le_of_ble_eq_true rfl) rfl dX0_copyFrom_37 40 rfl ?_
  refine w_letm hF (fun m_5 hF => ?_)
  refine w_aload_n X 0 dX0_copyFrom_40 rfl rfl 41 rfl ?_
  refine w_aload_n X 1 dX0_copyFrom_41 rfl rfl 42 rfl ?_
  refine w_getV (v := .int (rd m_5 (pBan r1 i1) 5)) X (pBan r1 i1) (lt_Ban hr1 hi1) (ko_Ban hi1) (T := TX0) (N := 9) rfl in_X0 5 (by decide) kF_X0_27 rfl rfl dX0_copyFrom_42 45 rfl ?_
  refine w_putI X (pBan r i) (lt_Ban hr hi) (ko_Ban hi) (T := TX0) (N := 9) rfl in_X0 tyX0 tyX0_ok nmX0 5 (by decide) kF_X0_27 rfl rfl rfl rfl (Nat.le_of_ble_eq_true rfl) rfl dX0_copyFrom_45 48 rfl ?_
  refine w_letm hF (fun m_6 hF => ?_)
  refine w_aload_n X 0 dX0_copyFrom_48 rfl rfl 49 rfl ?_
  refine w_aload_n X 1 dX0_copyFrom_49 rfl rfl 50 rfl ?_
  refine w_getV (v := .int (rd m_6 (pBan r1 i1) 6)) X (pBan r1 i1) (lt_Ban hr1 hi1) (ko_Ban hi1) (T := TX0) (N := 9) rfl in_X0 6 (by decide) kF_X0_30 rfl rfl dX0_copyFrom_50 53 rfl ?_
  refine w_putI X (pBan r i) (lt_Ban hr hi) (ko_Ban hi) (T := TX0) (N := 9) rfl in_X0 tyX0 tyX0_ok nmX0 6 (by decide) kF_X0_30 rfl rfl rfl rfl (Nat.le_of_ble_eq_true rfl) rfl dX0_copyFrom_53 56 rfl ?_
  refine w_letm hF (fun m_7 hF => ?_)
  refine w_aload_n X 0 dX0_copyFrom_56 rfl rfl 57 rfl ?_
  refine w_aload_n X 1 dX0_copyFrom_57 rfl rfl 58 rfl ?_
  refine w_getV (v := .int (rd m_7 (pBan r1 i1) 7)) X (pBan r1 i1) (lt_Ban hr1 hi1) (ko_Ban hi1) (T := TX0) (N := 9) rfl in_X0 7 (by decide) kF_X0_33 rfl rfl dX0_copyFrom_58 61 rfl ?_
  refine w_putI X (pBan r i) (lt_Ban hr hi) (ko_Ban hi) (T := TX0) (N := 9) rfl in_X0 tyX0 tyX0_ok nmX0 7 (by decide) kF_X0_33 rfl rfl rfl rfl (Nat.le_of_ble_eq_true rfl) rfl dX0_copyFrom_61 64 rfl ?_
  refine w_letm hF (fun m_8 hF => ?_)
  refine w_aload_n X 0 dX0_copyFrom_64 rfl rfl 65 rfl ?_
  refine w_aload_n X 1 dX0_copyFrom_65 rfl rfl 66 rfl ?_
  refine w_getV (v := .int (rd m_8 (pBan r1 i1) 8)) X (pBan r1 i1) (lt_Ban hr1 hi1) (ko_Ban hi1) (T := TX0) (N := 9) rfl in_X0 8 (by decide) kF_X0_36 rfl rfl dX0_copyFrom_66 69 rfl ?_
  refine w_putI X (pBan r i) (lt_Ban hr hi) (ko_Ban hi) (T := TX0) (N := 9) rfl in_X0 tyX0 tyX0_ok nmX0 8 (by decide) kF_X0_36 rfl rfl rfl rfl (Nat.le_of_ble_eq_true rfl) rfl dX0_copyFrom_69 72 rfl ?_
  refine w_letm hF (fun m_9 hF => ?_)
  exact w_vret X hQ (o_inj hF) dX0_copyFrom_72

def K_X6_hasEnded_23 (fu : Nat) (r : Nat) (mem : Mem) : Option Int32 := some 1
def K_X6_hasEnded (fu : Nat) (r : Nat) (mem : Mem) : Option Int32 := (if ((rd mem (pRace r) 2) - (rd mem (pRace r) 7)) < 2 then (K_X6_hasEnded_23 fu r mem ) else (if (rd mem (pRace r) 5) < 200 then some 0 else (K_X6_hasEnded_23 fu r mem )))
def rm_X6_hasEnded : Room := { frames := 0, cells := 0, slots := 0, locals := 0 }
set_option maxHeartbeats 4000000 in
set_option maxRecDepth 100000 in
theorem ct_X6_hasEnded (l : Launch) {D : va_G} {ca ad : Nat → Nat} {Z : (Nat → Prop) → State → Heap → Prop} (hZ : ZOK Z) {tO : Nat} (hO : ZO Z tO) (fu : Nat) {r : Nat} (hr : r < 10) (mem : Mem) (res : Int32) (hF : K_X6_hasEnded fu r mem = some res) : CI l D (tyL ca) 255 ad (cC ca ad) Z yX6_hasEnded cX6_hasEnded 1 .boolean rm_X6_hasEnded [.ref (ad (pRace r))] mem res mem := by
  refine start_i (own := RX6) rfl (by decide) (Nat.le_of_ble_eq_true rfl) ?_
  intro p e s m args below meth c Q hQ X
  rw [K_X6_hasEnded] at hF
  revert hF
  have w_23 : K_X6_hasEnded_23 fu r mem = some res → WW D 255 ad (cC ca ad) p l e rm_X6_hasEnded s m args below meth c 1 0 0 Q mem 23 [] [] := by
    intro hF
    rw [K_X6_hasEnded_23] at hF
    refine w_iconst X 1 dX6_hasEnded_23 rfl 24 rfl ?_
    refine w_goto X 28 dX6_hasEnded_24 (by decide) ?_
    exact w_iret X hQ (o_inj hF) rfl rfl dX6_hasEnded_28
  intro hF
  refine w_aload_n X 0 dX6_hasEnded_0 rfl rfl 1 rfl ?_
  refine w_getV (v := .int (rd mem (pRace r) 2)) X (pRace r) (lt_Race hr) ko_Race (T := TX6) (N := 8) rfl in_X6 2 (by decide) kF_X6_36 rfl rfl dX6_hasEnded_1 4 rfl ?_
  refine w_aload_n X 0 dX6_hasEnded_4 rfl rfl 5 rfl ?_
  refine w_getV (v := .int (rd mem (pRace r) 7)) X (pRace r) (lt_Race hr) ko_Race (T := TX6) (N := 8) rfl in_X6 7 (by decide) kF_X6_49 rfl rfl dX6_hasEnded_5 8 rfl ?_
  refine w_isub X dX6_hasEnded_8 9 rfl ?_
  refine w_iconst X 2 dX6_hasEnded_9 rfl 10 rfl ?_
  refine w_icmp_lt X hF 23 13 dX6_hasEnded_10 (by decide) rfl (fun hF => ?_) (fun hF => ?_)
  · refine w_keep [] rfl ?_
    exact w_23  hF
  · refine w_aload_n X 0 dX6_hasEnded_13 rfl rfl 14 rfl ?_
    refine w_getV (v := .int (rd mem (pRace r) 5)) X (pRace r) (lt_Race hr) ko_Race (T := TX6) (N := 8) rfl in_X6 5 (by decide) kF_X6_43 rfl rfl dX6_hasEnded_14 17 rfl ?_
    refine w_sipush X 200 dX6_hasEnded_17 rfl 20 rfl ?_
    refine w_icmp_lt X hF 27 23 dX6_hasEnded_20 (by decide) rfl (fun hF => ?_) (fun hF => ?_)
    · refine w_iconst X 0 dX6_hasEnded_27 rfl 28 rfl ?_
      exact w_iret X hQ (o_inj hF) rfl rfl dX6_hasEnded_28
    · refine w_keep [] rfl ?_
      exact w_23  hF

def K_X6_bansOf_4 (fu : Nat) (r : Nat) (mem : Mem) : Nat → Int32 → Int32 → Int32 → Option Int32
  | 0, _, _, _ => none
  | n + 1, x1, x2, x3 => (if x3 < (rd mem (pRace r) 4) then gi x3 12 ((if (rd mem (pBan r (Int32.toNatClampNeg x3)) 0) = x1 then (K_X6_bansOf_4 fu r mem n x1 (x2 + 1) (x3 + 1) ) else (K_X6_bansOf_4 fu r mem n x1 x2 (x3 + 1) ))) else some x2)
def K_X6_bansOf (fu : Nat) (r : Nat) (x1 : Int32) (mem : Mem) : Option Int32 := (K_X6_bansOf_4 fu r mem fu x1 0 0 )
def rm_X6_bansOf : Room := { frames := 0, cells := 0, slots := 0, locals := 0 }
set_option maxHeartbeats 4000000 in
set_option maxRecDepth 100000 in
theorem ct_X6_bansOf (l : Launch) {D : va_G} {ca ad : Nat → Nat} {Z : (Nat → Prop) → State → Heap → Prop} (hZ : ZOK Z) {tO : Nat} (hO : ZO Z tO) (fu : Nat) {r : Nat} (hr : r < 10) (x1 : Int32) (mem : Mem) (res : Int32) (hF : K_X6_bansOf fu r x1 mem = some res) : CI l D (tyL ca) 255 ad (cC ca ad) Z yX6_bansOf cX6_bansOf 4 .int rm_X6_bansOf [.ref (ad (pRace r)), .int x1] mem res mem := by
  refine start_i (own := RX6) rfl (by decide) (Nat.le_of_ble_eq_true rfl) ?_
  intro p e s m args below meth c Q hQ X
  rw [K_X6_bansOf] at hF
  revert hF
  have w_4 : ∀ (n : Nat) (x1 : Int32) (x2 : Int32) (x3 : Int32), K_X6_bansOf_4 fu r mem n x1 x2 x3 = some res → WW D 255 ad (cC ca ad) p l e rm_X6_bansOf s m args below meth c 4 0 0 Q mem 4 [(0, .ref (ad (pRace r))), (1, .int x1), (2, .int x2), (3, .int x3)] [] := by
    intro n
    induction n with
    | zero => intro x1 x2 x3 hF; exact no_none (show (none : Option Int32) = some res from hF)
    | succ n ih =>
      intro x1 x2 x3 hF
      rw [K_X6_bansOf_4] at hF
      refine w_iload_n X 3 dX6_bansOf_4 rfl rfl 5 rfl ?_
      refine w_aload_n X 0 dX6_bansOf_5 rfl rfl 6 rfl ?_
      refine w_getV (v := .int (rd mem (pRace r) 4)) X (pRace r) (lt_Race hr) ko_Race (T := TX6) (N := 8) rfl in_X6 4 (by decide) kF_X6_40 rfl rfl dX6_bansOf_6 9 rfl ?_
      refine w_icmp_ge X hF 34 12 dX6_bansOf_9 (by decide) rfl (fun hF => ?_) (fun hF => ?_)
      · refine w_aload_n X 0 dX6_bansOf_12 rfl rfl 13 rfl ?_
        refine w_getV (v := .ref (ad (pBans r))) X (pRace r) (lt_Race hr) ko_Race (T := TX6) (N := 8) rfl in_X6 3 (by decide) kF_X6_27 rfl rfl dX6_bansOf_13 16 rfl ?_
        refine w_iload_n X 3 dX6_bansOf_16 rfl rfl 17 rfl ?_
        refine w_gi hF (fun h_1 hF => ?_)
        refine w_aal X (pBans r) (lt_Bans hr) (pBan r (Int32.toNatClampNeg x3)) ko_Bans (t0 := 3) rfl h_1 (el_Bans (vp_lt h_1)) dX6_bansOf_17 18 rfl ?_
        refine w_getV (v := .int (rd mem (pBan r (Int32.toNatClampNeg x3)) 0)) X (pBan r (Int32.toNatClampNeg x3)) (lt_Ban hr (vp_lt h_1)) (ko_Ban (vp_lt h_1)) (T := TX0) (N := 9) rfl in_X0 0 (by decide) kF_X6_84 rfl rfl dX6_bansOf_18 21 rfl ?_
        refine w_iload_n X 1 dX6_bansOf_21 rfl rfl 22 rfl ?_
        refine w_icmp_ne X hF 28 25 dX6_bansOf_22 (by decide) rfl (fun hF => ?_) (fun hF => ?_)
        · refine w_iinc X 2 (x2 + 1) [(2, .int (x2 + 1)), (0, .ref (ad (pRace r))), (1, .int x1), (3, .int x3)] dX6_bansOf_25 rfl rfl (by decide) rfl 28 rfl ?_
          refine w_iinc X 3 (x3 + 1) [(3, .int (x3 + 1)), (2, .int (x2 + 1)), (0, .ref (ad (pRace r))), (1, .int x1)] dX6_bansOf_28 rfl rfl (by decide) rfl 31 rfl ?_
          refine w_goto X 4 dX6_bansOf_31 (by decide) ?_
          refine w_keep [2, 3, 1, 0] rfl ?_
          exact ih x1 (x2 + 1) (x3 + 1)  hF
        · refine w_iinc X 3 (x3 + 1) [(3, .int (x3 + 1)), (0, .ref (ad (pRace r))), (1, .int x1), (2, .int x2)] dX6_bansOf_28 rfl rfl (by decide) rfl 31 rfl ?_
          refine w_goto X 4 dX6_bansOf_31 (by decide) ?_
          refine w_keep [1, 2, 3, 0] rfl ?_
          exact ih x1 x2 (x3 + 1)  hF
      · refine w_iload_n X 2 dX6_bansOf_34 rfl rfl 35 rfl ?_
        exact w_iret X hQ (o_inj hF) rfl rfl dX6_bansOf_35
  intro hF
  refine w_iconst X 0 dX6_bansOf_0 rfl 1 rfl ?_
  refine w_istore_n X [(2, .int 0), (0, .ref (ad (pRace r))), (1, .int x1)] dX6_bansOf_1 rfl (by decide) rfl 2 rfl ?_
  refine w_iconst X 0 dX6_bansOf_2 rfl 3 rfl ?_
  refine w_istore_n X [(3, .int 0), (2, .int 0), (0, .ref (ad (pRace r))), (1, .int x1)] dX6_bansOf_3 rfl (by decide) rfl 4 rfl ?_
  refine w_keep [2, 3, 1, 0] rfl ?_
  exact w_4 fu x1 0 0  hF

def K_X2_wallOn_33 (fu : Nat) (r : Nat) (mem : Mem) (x1 : Int32) (x2 : Int32) (xs0 : Int32) : Option Int32 := (if xs0 = 0 then some (-1) else gi ((x2 * 8) + x1) 64 (some (rd mem (pBuilt r) (Int32.toNatClampNeg ((x2 * 8) + x1)))))
def K_X2_wallOn_32 (fu : Nat) (r : Nat) (mem : Mem) (x1 : Int32) (x2 : Int32) : Option Int32 := (K_X2_wallOn_33 fu r mem x1 x2 0 )
def K_X2_wallOn (fu : Nat) (r : Nat) (x1 : Int32) (x2 : Int32) (mem : Mem) : Option Int32 := (if x1 < 0 then (K_X2_wallOn_32 fu r mem x1 x2 ) else (if x1 < ((rd mem (pBoard r) 0) - 1) then (if x2 < 0 then (K_X2_wallOn_32 fu r mem x1 x2 ) else (if x2 < ((rd mem (pBoard r) 1) - 1) then (K_X2_wallOn_33 fu r mem x1 x2 1 ) else (K_X2_wallOn_32 fu r mem x1 x2 ))) else (K_X2_wallOn_32 fu r mem x1 x2 )))
def rm_X2_wallOn : Room := { frames := 0, cells := 0, slots := 0, locals := 0 }
set_option maxHeartbeats 4000000 in
set_option maxRecDepth 100000 in
theorem ct_X2_wallOn (l : Launch) {D : va_G} {ca ad : Nat → Nat} {Z : (Nat → Prop) → State → Heap → Prop} (hZ : ZOK Z) {tO : Nat} (hO : ZO Z tO) (fu : Nat) {r : Nat} (hr : r < 10) (x1 : Int32) (x2 : Int32) (mem : Mem) (res : Int32) (hF : K_X2_wallOn fu r x1 x2 mem = some res) : CI l D (tyL ca) 255 ad (cC ca ad) Z yX2_wallOn cX2_wallOn 4 .int rm_X2_wallOn [.ref (ad (pBoard r)), .int x1, .int x2] mem res mem := by
  refine start_i (own := RX2) rfl (by decide) (Nat.le_of_ble_eq_true rfl) ?_
  intro p e s m args below meth c Q hQ X
  rw [K_X2_wallOn] at hF
  revert hF
  have w_33 : ∀ (x1 : Int32) (x2 : Int32) (xs0 : Int32), K_X2_wallOn_33 fu r mem x1 x2 xs0 = some res → WW D 255 ad (cC ca ad) p l e rm_X2_wallOn s m args below meth c 4 0 0 Q mem 33 [(0, .ref (ad (pBoard r))), (1, .int x1), (2, .int x2)] [.int xs0] := by
    intro x1 x2 xs0 hF
    rw [K_X2_wallOn_33] at hF
    refine w_istore_n X [(3, .int xs0), (0, .ref (ad (pBoard r))), (1, .int x1), (2, .int x2)] dX2_wallOn_33 rfl (by decide) rfl 34 rfl ?_
    refine w_iload_n X 0 dX2_wallOn_34 rfl rfl 35 rfl ?_
    refine w_if_eq X hF 52 38 dX2_wallOn_35 (by decide) rfl (fun hF => ?_) (fun hF => ?_)
    · refine w_iconst X (-1) dX2_wallOn_52 rfl 53 rfl ?_
      exact w_iret X hQ (o_inj hF) rfl rfl dX2_wallOn_53
    · refine w_aload_n X 1 dX2_wallOn_38 rfl rfl 39 rfl ?_
      refine w_getV (v := .ref (ad (pBuilt r))) X (pBoard r) (lt_Board hr) ko_Board (T := TX2) (N := 5) rfl in_X2 3 (by decide) kF_X2_9 rfl rfl dX2_wallOn_39 42 rfl ?_
      refine w_iload_n X 3 dX2_wallOn_42 rfl rfl 43 rfl ?_
      refine w_bipush X 8 dX2_wallOn_43 rfl 45 rfl ?_
      refine w_imul X dX2_wallOn_45 46 rfl ?_
      refine w_iload_n X 2 dX2_wallOn_46 rfl rfl 47 rfl ?_
      refine w_iadd X dX2_wallOn_47 48 rfl ?_
      refine w_gi hF (fun h_1 hF => ?_)
      refine w_ial X (pBuilt r) (lt_Built hr) ko_Built (t0 := 0) rfl h_1 dX2_wallOn_48 49 rfl ?_
      refine w_goto X 53 dX2_wallOn_49 (by decide) ?_
      exact w_iret X hQ (o_inj hF) rfl rfl dX2_wallOn_53
  have w_32 : ∀ (x1 : Int32) (x2 : Int32), K_X2_wallOn_32 fu r mem x1 x2 = some res → WW D 255 ad (cC ca ad) p l e rm_X2_wallOn s m args below meth c 4 0 0 Q mem 32 [(0, .ref (ad (pBoard r))), (1, .int x1), (2, .int x2)] [] := by
    intro x1 x2 hF
    rw [K_X2_wallOn_32] at hF
    refine w_iconst X 0 dX2_wallOn_32 rfl 33 rfl ?_
    refine w_keep [0, 1, 2] rfl ?_
    exact w_33 x1 x2 0  hF
  intro hF
  refine w_iload_n X 1 dX2_wallOn_0 rfl rfl 1 rfl ?_
  refine w_if_lt X hF 32 4 dX2_wallOn_1 (by decide) rfl (fun hF => ?_) (fun hF => ?_)
  · refine w_keep [0, 1, 2] rfl ?_
    exact w_32 x1 x2  hF
  · refine w_iload_n X 1 dX2_wallOn_4 rfl rfl 5 rfl ?_
    refine w_aload_n X 0 dX2_wallOn_5 rfl rfl 6 rfl ?_
    refine w_getV (v := .int (rd mem (pBoard r) 0)) X (pBoard r) (lt_Board hr) ko_Board (T := TX2) (N := 5) rfl in_X2 0 (by decide) kF_X2_22 rfl rfl dX2_wallOn_6 9 rfl ?_
    refine w_iconst X 1 dX2_wallOn_9 rfl 10 rfl ?_
    refine w_isub X dX2_wallOn_10 11 rfl ?_
    refine w_icmp_ge X hF 32 14 dX2_wallOn_11 (by decide) rfl (fun hF => ?_) (fun hF => ?_)
    · refine w_iload_n X 2 dX2_wallOn_14 rfl rfl 15 rfl ?_
      refine w_if_lt X hF 32 18 dX2_wallOn_15 (by decide) rfl (fun hF => ?_) (fun hF => ?_)
      · refine w_keep [0, 1, 2] rfl ?_
        exact w_32 x1 x2  hF
      · refine w_iload_n X 2 dX2_wallOn_18 rfl rfl 19 rfl ?_
        refine w_aload_n X 0 dX2_wallOn_19 rfl rfl 20 rfl ?_
        refine w_getV (v := .int (rd mem (pBoard r) 1)) X (pBoard r) (lt_Board hr) ko_Board (T := TX2) (N := 5) rfl in_X2 1 (by decide) kF_X2_26 rfl rfl dX2_wallOn_20 23 rfl ?_
        refine w_iconst X 1 dX2_wallOn_23 rfl 24 rfl ?_
        refine w_isub X dX2_wallOn_24 25 rfl ?_
        refine w_icmp_ge X hF 32 28 dX2_wallOn_25 (by decide) rfl (fun hF => ?_) (fun hF => ?_)
        · refine w_iconst X 1 dX2_wallOn_28 rfl 29 rfl ?_
          refine w_goto X 33 dX2_wallOn_29 (by decide) ?_
          refine w_keep [0, 1, 2] rfl ?_
          exact w_33 x1 x2 1  hF
        · refine w_keep [0, 1, 2] rfl ?_
          exact w_32 x1 x2  hF
    · refine w_keep [0, 1, 2] rfl ?_
      exact w_32 x1 x2  hF

def K_X2_toggleSteps_25 (fu : Nat) (r : Nat) : Nat → Int32 → Int32 → Int32 → Int32 → Mem → Option Mem
  | 0, _, _, _, _, _ => none
  | n + 1, x1, x3, x4, x5, mem => (if x5 < 2 then lt_ (x1 + (x5 * x4)) (fun x_1 => gi x3 4 (lt_ (x_1 + (offV (Int32.toNatClampNeg x3))) (fun x_3 => (if x_1 < 0 then (K_X2_toggleSteps_25 fu r n x1 x3 x4 (x5 + 1) mem) else (if x_3 < 81 then gi x_1 81 (gi x_1 81 (lt_ (mw mem (pOpen r) (Int32.toNatClampNeg x_1) ((rd mem (pOpen r) (Int32.toNatClampNeg x_1)) ^^^ (1 <<< (x3 &&& 31)))) (fun m_6 => gi x_3 81 (gi x_3 81 (lt_ (mw m_6 (pOpen r) (Int32.toNatClampNeg x_3) ((rd m_6 (pOpen r) (Int32.toNatClampNeg x_3)) ^^^ (1 <<< ((x3 ^^^ 2) &&& 31)))) (fun m_9 => (K_X2_toggleSteps_25 fu r n x1 x3 x4 (x5 + 1) m_9))))))) else (K_X2_toggleSteps_25 fu r n x1 x3 x4 (x5 + 1) mem)))))) else some mem)
def K_X2_toggleSteps_20 (fu : Nat) (r : Nat) (x1 : Int32) (x3 : Int32) (xs0 : Int32) (mem : Mem) : Option Mem := (K_X2_toggleSteps_25 fu r fu x1 x3 xs0 0 mem)
def K_X2_toggleSteps_9 (fu : Nat) (r : Nat) (x1 : Int32) (x2 : Int32) (xs0 : Int32) (mem : Mem) : Option Mem := (if x2 = 0 then (K_X2_toggleSteps_20 fu r x1 xs0 1 mem) else (K_X2_toggleSteps_20 fu r x1 xs0 9 mem))
def K_X2_toggleSteps (fu : Nat) (r : Nat) (x1 : Int32) (x2 : Int32) (mem : Mem) : Option Mem := (if x2 = 0 then (K_X2_toggleSteps_9 fu r x1 x2 0 mem) else (K_X2_toggleSteps_9 fu r x1 x2 1 mem))
def rm_X2_toggleSteps : Room := { frames := 0, cells := 0, slots := 0, locals := 0 }
set_option maxHeartbeats 4000000 in
set_option maxRecDepth 100000 in
theorem ct_X2_toggleSteps (l : Launch) {D : va_G} {ca ad : Nat → Nat} {Z : (Nat → Prop) → State → Heap → Prop} (hZ : ZOK Z) {tO : Nat} (hO : ZO Z tO) (fu : Nat) {r : Nat} (hr : r < 10) (x1 : Int32) (x2 : Int32) (mem : Mem) (res : Mem) (hF : K_X2_toggleSteps fu r x1 x2 mem = some res) : CV l D (tyL ca) 255 ad (cC ca ad) Z yX2_toggleSteps cX2_toggleSteps 8 rm_X2_toggleSteps [.ref (ad (pBoard r)), .int x1, .int x2] mem res := by
  refine start_v (own := RX2) rfl (by decide) (Nat.le_of_ble_eq_true rfl) ?_
  intro p e s m args below meth c Q hQ X
  rw [K_X2_toggleSteps] at hF
  revert hF
  have w_25 : ∀ (n : Nat) (x1 : Int32) (x3 : Int32) (x4 : Int32) (x5 : Int32) (mem : Mem), K_X2_toggleSteps_25 fu r n x1 x3 x4 x5 mem = some res → WW D 255 ad (cC ca ad) p l e rm_X2_toggleSteps s m args below meth c 8 0 0 Q mem 25 [(0, .ref (ad (pBoard r))), (1, .int x1), (3, .int x3), (4, .int x4), (5, .int x5)] [] := by
    intro n
    induction n with
    | zero => intro x1 x3 x4 x5 mem hF; exact no_none (show (none : Option Mem) = some res from hF)
    | succ n ih =>
      intro x1 x3 x4 x5 mem hF
      rw [K_X2_toggleSteps_25] at hF
      refine w_iload X 4 dX2_toggleSteps_25 rfl 27 rfl ?_
      refine w_iconst X 2 dX2_toggleSteps_27 rfl 28 rfl ?_
      refine w_icmp_ge X hF 96 31 dX2_toggleSteps_28 (by decide) rfl (fun hF => ?_) (fun hF => ?_)
      · refine w_iload_n X 1 dX2_toggleSteps_31 rfl rfl 32 rfl ?_
        refine w_iload X 4 dX2_toggleSteps_32 rfl 34 rfl ?_
        refine w_iload X 3 dX2_toggleSteps_34 rfl 36 rfl ?_
        refine w_imul X dX2_toggleSteps_36 37 rfl ?_
        refine w_iadd X dX2_toggleSteps_37 38 rfl ?_
        refine w_let hF (fun x_1 hF => ?_)
        refine w_istore X [(6, .int x_1), (0, .ref (ad (pBoard r))), (1, .int x1), (3, .int x3), (4, .int x4), (5, .int x5)] dX2_toggleSteps_38 (by decide) rfl 40 rfl ?_
        refine w_iload X 0 dX2_toggleSteps_40 rfl 42 rfl ?_
        refine w_offs X hO (hO _ _ _ X.2.2.2.2.2).2.2.2.1 dX2_toggleSteps_42 45 rfl ?_
        refine w_iload_n X 3 dX2_toggleSteps_45 rfl rfl 46 rfl ?_
        refine w_gi hF (fun h_2 hF => ?_)
        refine w_offl X hO h_2 dX2_toggleSteps_46 47 rfl ?_
        refine w_iadd X dX2_toggleSteps_47 48 rfl ?_
        refine w_let hF (fun x_3 hF => ?_)
        refine w_istore X [(7, .int x_3), (6, .int x_1), (0, .ref (ad (pBoard r))), (1, .int x1), (3, .int x3), (4, .int x4), (5, .int x5)] dX2_toggleSteps_48 (by decide) rfl 50 rfl ?_
        refine w_iload X 1 dX2_toggleSteps_50 rfl 52 rfl ?_
        refine w_if_lt X hF 90 55 dX2_toggleSteps_52 (by decide) rfl (fun hF => ?_) (fun hF => ?_)
        · refine w_iinc X 6 (x5 + 1) [(5, .int (x5 + 1)), (7, .int x_3), (6, .int x_1), (0, .ref (ad (pBoard r))), (1, .int x1), (3, .int x3), (4, .int x4)] dX2_toggleSteps_90 rfl rfl (by decide) rfl 93 rfl ?_
          refine w_goto X 25 dX2_toggleSteps_93 (by decide) ?_
          refine w_keep [3, 4, 5, 6, 0] rfl ?_
          exact ih x1 x3 x4 (x5 + 1) mem hF
        · refine w_iload X 0 dX2_toggleSteps_55 rfl 57 rfl ?_
          refine w_bipush X 81 dX2_toggleSteps_57 rfl 59 rfl ?_
          refine w_icmp_ge X hF 90 62 dX2_toggleSteps_59 (by decide) rfl (fun hF => ?_) (fun hF => ?_)
          · refine w_aload_n X 2 dX2_toggleSteps_62 rfl rfl 63 rfl ?_
            refine w_getV (v := .ref (ad (pOpen r))) X (pBoard r) (lt_Board hr) ko_Board (T := TX2) (N := 5) rfl in_X2 4 (by decide) kF_X2_15 rfl rfl dX2_toggleSteps_63 66 rfl ?_
            refine w_iload X 1 dX2_toggleSteps_66 rfl 68 rfl ?_
            refine w_dup2 X dX2_toggleSteps_68 rfl rfl 69 rfl ?_
            refine w_gi hF (fun h_4 hF => ?_)
            refine w_ial X (pOpen r) (lt_Open hr) ko_Open (t0 := 0) rfl h_4 dX2_toggleSteps_69 70 rfl ?_
            refine w_iconst X 1 dX2_toggleSteps_70 rfl 71 rfl ?_
            refine w_iload_n X 4 dX2_toggleSteps_71 rfl rfl 72 rfl ?_
            refine w_ishl X dX2_toggleSteps_72 73 rfl ?_
            refine w_ixor X dX2_toggleSteps_73 74 rfl ?_
            refine w_gi hF (fun h_5 hF => ?_)
            refine w_ias X (pOpen r) (lt_Open hr) ko_Open (t0 := 0) rfl h_5 dX2_toggleSteps_74 75 rfl ?_
            refine w_letm hF (fun m_6 hF => ?_)
            refine w_aload_n X 2 dX2_toggleSteps_75 rfl rfl 76 rfl ?_
            refine w_getV (v := .ref (ad (pOpen r))) X (pBoard r) (lt_Board hr) ko_Board (T := TX2) (N := 5) rfl in_X2 4 (by decide) kF_X2_15 rfl rfl dX2_toggleSteps_76 79 rfl ?_
            refine w_iload X 0 dX2_toggleSteps_79 rfl 81 rfl ?_
            refine w_dup2 X dX2_toggleSteps_81 rfl rfl 82 rfl ?_
            refine w_gi hF (fun h_7 hF => ?_)
            refine w_ial X (pOpen r) (lt_Open hr) ko_Open (t0 := 0) rfl h_7 dX2_toggleSteps_82 83 rfl ?_
            refine w_iconst X 1 dX2_toggleSteps_83 rfl 84 rfl ?_
            refine w_iload_n X 4 dX2_toggleSteps_84 rfl rfl 85 rfl ?_
            refine w_iconst X 2 dX2_toggleSteps_85 rfl 86 rfl ?_
            refine w_ixor X dX2_toggleSteps_86 87 rfl ?_
            refine w_ishl X dX2_toggleSteps_87 88 rfl ?_
            refine w_ixor X dX2_toggleSteps_88 89 rfl ?_
            refine w_gi hF (fun h_8 hF => ?_)
            refine w_ias X (pOpen r) (lt_Open hr) ko_Open (t0 := 0) rfl h_8 dX2_toggleSteps_89 90 rfl ?_
            refine w_letm hF (fun m_9 hF => ?_)
            refine w_iinc X 6 (x5 + 1) [(5, .int (x5 + 1)), (7, .int x_3), (6, .int x_1), (0, .ref (ad (pBoard r))), (1, .int x1), (3, .int x3), (4, .int x4)] dX2_toggleSteps_90 rfl rfl (by decide) rfl 93 rfl ?_
            refine w_goto X 25 dX2_toggleSteps_93 (by decide) ?_
            refine w_keep [3, 4, 5, 6, 0] rfl ?_
            exact ih x1 x3 x4 (x5 + 1) m_9 hF
          · refine w_iinc X 6 (x5 + 1) [(5, .int (x5 + 1)), (7, .int x_3), (6, .int x_1), (0, .ref (ad (pBoard r))), (1, .int x1), (3, .int x3), (4, .int x4)] dX2_toggleSteps_90 rfl rfl (by decide) rfl 93 rfl ?_
            refine w_goto X 25 dX2_toggleSteps_93 (by decide) ?_
            refine w_keep [3, 4, 5, 6, 0] rfl ?_
            exact ih x1 x3 x4 (x5 + 1) mem hF
      · exact w_vret X hQ (o_inj hF) dX2_toggleSteps_96
  have w_20 : ∀ (x1 : Int32) (x3 : Int32) (xs0 : Int32) (mem : Mem), K_X2_toggleSteps_20 fu r x1 x3 xs0 mem = some res → WW D 255 ad (cC ca ad) p l e rm_X2_toggleSteps s m args below meth c 8 0 0 Q mem 20 [(0, .ref (ad (pBoard r))), (1, .int x1), (3, .int x3)] [.int xs0] := by
    intro x1 x3 xs0 mem hF
    rw [K_X2_toggleSteps_20] at hF
    refine w_istore X [(4, .int xs0), (0, .ref (ad (pBoard r))), (1, .int x1), (3, .int x3)] dX2_toggleSteps_20 (by decide) rfl 22 rfl ?_
    refine w_iconst X 0 dX2_toggleSteps_22 rfl 23 rfl ?_
    refine w_istore X [(5, .int 0), (4, .int xs0), (0, .ref (ad (pBoard r))), (1, .int x1), (3, .int x3)] dX2_toggleSteps_23 (by decide) rfl 25 rfl ?_
    refine w_keep [2, 3, 4, 1, 0] rfl ?_
    exact w_25 fu x1 x3 xs0 0 mem hF
  have w_9 : ∀ (x1 : Int32) (x2 : Int32) (xs0 : Int32) (mem : Mem), K_X2_toggleSteps_9 fu r x1 x2 xs0 mem = some res → WW D 255 ad (cC ca ad) p l e rm_X2_toggleSteps s m args below meth c 8 0 0 Q mem 9 [(0, .ref (ad (pBoard r))), (1, .int x1), (2, .int x2)] [.int xs0] := by
    intro x1 x2 xs0 mem hF
    rw [K_X2_toggleSteps_9] at hF
    refine w_istore_n X [(3, .int xs0), (0, .ref (ad (pBoard r))), (1, .int x1), (2, .int x2)] dX2_toggleSteps_9 rfl (by decide) rfl 10 rfl ?_
    refine w_iload_n X 3 dX2_toggleSteps_10 rfl rfl 11 rfl ?_
    refine w_if_ne X hF 18 14 dX2_toggleSteps_11 (by decide) rfl (fun hF => ?_) (fun hF => ?_)
    · refine w_iconst X 1 dX2_toggleSteps_14 rfl 15 rfl ?_
      refine w_goto X 20 dX2_toggleSteps_15 (by decide) ?_
      refine w_keep [1, 2, 0] rfl ?_
      exact w_20 x1 xs0 1 mem hF
    · refine w_bipush X 9 dX2_toggleSteps_18 rfl 20 rfl ?_
      refine w_keep [1, 2, 0] rfl ?_
      exact w_20 x1 xs0 9 mem hF
  intro hF
  refine w_iload_n X 2 dX2_toggleSteps_0 rfl rfl 1 rfl ?_
  refine w_if_ne X hF 8 4 dX2_toggleSteps_1 (by decide) rfl (fun hF => ?_) (fun hF => ?_)
  · refine w_iconst X 0 dX2_toggleSteps_4 rfl 5 rfl ?_
    refine w_goto X 9 dX2_toggleSteps_5 (by decide) ?_
    refine w_keep [0, 1, 2] rfl ?_
    exact w_9 x1 x2 0 mem hF
  · refine w_iconst X 1 dX2_toggleSteps_8 rfl 9 rfl ?_
    refine w_keep [0, 1, 2] rfl ?_
    exact w_9 x1 x2 1 mem hF

def K_X2_liesAt (fu : Nat) (r : Nat) (x1 : Int32) (x2 : Int32) (mem : Mem) : Option Int32 := (if x2 = 0 then lt_ (x1 / 9) (fun x_2 => (if x_2 = ((rd mem (pBoard r) 1) - 1) then some 1 else some 0)) else (if x2 = 1 then lt_ (x1 - x1 / 9 * 9) (fun x_4 => (if x_4 = ((rd mem (pBoard r) 0) - 1) then some 1 else some 0)) else (if x2 = 2 then lt_ (x1 / 9) (fun x_6 => (if x_6 = 0 then some 1 else some 0)) else lt_ (x1 - x1 / 9 * 9) (fun x_7 => (if x_7 = 0 then some 1 else some 0)))))
def rm_X2_liesAt : Room := { frames := 0, cells := 0, slots := 0, locals := 0 }
set_option maxHeartbeats 4000000 in
set_option maxRecDepth 100000 in
theorem ct_X2_liesAt (l : Launch) {D : va_G} {ca ad : Nat → Nat} {Z : (Nat → Prop) → State → Heap → Prop} (hZ : ZOK Z) {tO : Nat} (hO : ZO Z tO) (fu : Nat) {r : Nat} (hr : r < 10) (x1 : Int32) (x2 : Int32) (mem : Mem) (res : Int32) (hF : K_X2_liesAt fu r x1 x2 mem = some res) : CI l D (tyL ca) 255 ad (cC ca ad) Z yX2_liesAt cX2_liesAt 3 .boolean rm_X2_liesAt [.ref (ad (pBoard r)), .int x1, .int x2] mem res mem := by
  refine start_i (own := RX2) rfl (by decide) (Nat.le_of_ble_eq_true rfl) ?_
  intro p e s m args below meth c Q hQ X
  rw [K_X2_liesAt] at hF
  revert hF
  intro hF
  refine w_iload_n X 2 dX2_liesAt_0 rfl rfl 1 rfl ?_
  refine w_case (v := 0) hF (fun h_1 hF => ?_) (fun h_1 hF => ?_)
  · refine w_tin X 28 dX2_liesAt_1 h_1 (by decide) (by decide) rfl (by decide) ?_
    refine w_iload_n X 1 dX2_liesAt_28 rfl rfl 29 rfl ?_
    refine w_bipush X 9 dX2_liesAt_29 rfl 31 rfl ?_
    refine w_idiv X (by decide) dX2_liesAt_31 32 rfl ?_
    refine w_let hF (fun x_2 hF => ?_)
    refine w_aload_n X 0 dX2_liesAt_32 rfl rfl 33 rfl ?_
    refine w_getV (v := .int (rd mem (pBoard r) 1)) X (pBoard r) (lt_Board hr) ko_Board (T := TX2) (N := 5) rfl in_X2 1 (by decide) kF_X2_26 rfl rfl dX2_liesAt_33 36 rfl ?_
    refine w_iconst X 1 dX2_liesAt_36 rfl 37 rfl ?_
    refine w_isub X dX2_liesAt_37 38 rfl ?_
    refine w_icmp_ne X hF 45 41 dX2_liesAt_38 (by decide) rfl (fun hF => ?_) (fun hF => ?_)
    · refine w_iconst X 1 dX2_liesAt_41 rfl 42 rfl ?_
      refine w_goto X 46 dX2_liesAt_42 (by decide) ?_
      exact w_iret X hQ (o_inj hF) rfl rfl dX2_liesAt_46
    · refine w_iconst X 0 dX2_liesAt_45 rfl 46 rfl ?_
      exact w_iret X hQ (o_inj hF) rfl rfl dX2_liesAt_46
  refine w_case (v := 1) hF (fun h_3 hF => ?_) (fun h_3 hF => ?_)
  · refine w_tin X 47 dX2_liesAt_1 h_3 (by decide) (by decide) rfl (by decide) ?_
    refine w_iload_n X 1 dX2_liesAt_47 rfl rfl 48 rfl ?_
    refine w_bipush X 9 dX2_liesAt_48 rfl 50 rfl ?_
    refine w_irem X (by decide) dX2_liesAt_50 51 rfl ?_
    refine w_let hF (fun x_4 hF => ?_)
    refine w_aload_n X 0 dX2_liesAt_51 rfl rfl 52 rfl ?_
    refine w_getV (v := .int (rd mem (pBoard r) 0)) X (pBoard r) (lt_Board hr) ko_Board (T := TX2) (N := 5) rfl in_X2 0 (by decide) kF_X2_22 rfl rfl dX2_liesAt_52 55 rfl ?_
    refine w_iconst X 1 dX2_liesAt_55 rfl 56 rfl ?_
    refine w_isub X dX2_liesAt_56 57 rfl ?_
    refine w_icmp_ne X hF 64 60 dX2_liesAt_57 (by decide) rfl (fun hF => ?_) (fun hF => ?_)
    · refine w_iconst X 1 dX2_liesAt_60 rfl 61 rfl ?_
      refine w_goto X 65 dX2_liesAt_61 (by decide) ?_
      exact w_iret X hQ (o_inj hF) rfl rfl dX2_liesAt_65
    · refine w_iconst X 0 dX2_liesAt_64 rfl 65 rfl ?_
      exact w_iret X hQ (o_inj hF) rfl rfl dX2_liesAt_65
  refine w_case (v := 2) hF (fun h_5 hF => ?_) (fun h_5 hF => ?_)
  · refine w_tin X 66 dX2_liesAt_1 h_5 (by decide) (by decide) rfl (by decide) ?_
    refine w_iload_n X 1 dX2_liesAt_66 rfl rfl 67 rfl ?_
    refine w_bipush X 9 dX2_liesAt_67 rfl 69 rfl ?_
    refine w_idiv X (by decide) dX2_liesAt_69 70 rfl ?_
    refine w_let hF (fun x_6 hF => ?_)
    refine w_if_ne X hF 77 73 dX2_liesAt_70 (by decide) rfl (fun hF => ?_) (fun hF => ?_)
    · refine w_iconst X 1 dX2_liesAt_73 rfl 74 rfl ?_
      refine w_goto X 78 dX2_liesAt_74 (by decide) ?_
      exact w_iret X hQ (o_inj hF) rfl rfl dX2_liesAt_78
    · refine w_iconst X 0 dX2_liesAt_77 rfl 78 rfl ?_
      exact w_iret X hQ (o_inj hF) rfl rfl dX2_liesAt_78
  refine w_tout X 79 dX2_liesAt_1 (by have := lv_neT h_1 (show (0 : Int32).toInt = 0 from rfl); have := lv_neT h_3 (show (1 : Int32).toInt = 1 from rfl); have := lv_neT h_5 (show (2 : Int32).toInt = 2 from rfl); omega) (by decide) ?_
  refine w_iload_n X 1 dX2_liesAt_79 rfl rfl 80 rfl ?_
  refine w_bipush X 9 dX2_liesAt_80 rfl 82 rfl ?_
  refine w_irem X (by decide) dX2_liesAt_82 83 rfl ?_
  refine w_let hF (fun x_7 hF => ?_)
  refine w_if_ne X hF 90 86 dX2_liesAt_83 (by decide) rfl (fun hF => ?_) (fun hF => ?_)
  · refine w_iconst X 1 dX2_liesAt_86 rfl 87 rfl ?_
    refine w_goto X 91 dX2_liesAt_87 (by decide) ?_
    exact w_iret X hQ (o_inj hF) rfl rfl dX2_liesAt_91
  · refine w_iconst X 0 dX2_liesAt_90 rfl 91 rfl ?_
    exact w_iret X hQ (o_inj hF) rfl rfl dX2_liesAt_91

def K_X9_kindOf_60 (fu : Nat) (mem : Mem) : Option Int32 := some 3
def K_X9_kindOf_42 (fu : Nat) (mem : Mem) (x0 : Int32) : Option Int32 := (if x0 = 59 then (K_X9_kindOf_60 fu mem ) else (if x0 = 40 then (K_X9_kindOf_60 fu mem ) else (if x0 = 41 then (K_X9_kindOf_60 fu mem ) else some 4)))
def K_X9_kindOf_28 (fu : Nat) (mem : Mem) (x0 : Int32) : Option Int32 := (if x0 < 48 then (K_X9_kindOf_42 fu mem x0 ) else (if 57 < x0 then (K_X9_kindOf_42 fu mem x0 ) else some 2))
def K_X9_kindOf (fu : Nat) (x0 : Int32) (mem : Mem) : Option Int32 := (if x0 = 32 then some 0 else (if x0 = 10 then some 0 else (if x0 < 97 then (K_X9_kindOf_28 fu mem x0 ) else (if 122 < x0 then (K_X9_kindOf_28 fu mem x0 ) else some 1))))
def rm_X9_kindOf : Room := { frames := 0, cells := 0, slots := 0, locals := 0 }
set_option maxHeartbeats 4000000 in
set_option maxRecDepth 100000 in
theorem ct_X9_kindOf (l : Launch) {D : va_G} {ca ad : Nat → Nat} {Z : (Nat → Prop) → State → Heap → Prop} (hZ : ZOK Z) {tO : Nat} (hO : ZO Z tO) (fu : Nat) (x0 : Int32) (mem : Mem) (res : Int32) (hF : K_X9_kindOf fu x0 mem = some res) : CI l D (tyL ca) 255 ad (cC ca ad) Z yX9_kindOf cX9_kindOf 1 .int rm_X9_kindOf [.int x0] mem res mem := by
  refine start_i (own := RX9) rfl (by decide) (Nat.le_of_ble_eq_true rfl) ?_
  intro p e s m args below meth c Q hQ X
  rw [K_X9_kindOf] at hF
  revert hF
  have w_60 : K_X9_kindOf_60 fu mem = some res → WW D 255 ad (cC ca ad) p l e rm_X9_kindOf s m args below meth c 1 0 0 Q mem 60 [] [] := by
    intro hF
    rw [K_X9_kindOf_60] at hF
    refine w_iconst X 3 dX9_kindOf_60 rfl 61 rfl ?_
    refine w_goto X 65 dX9_kindOf_61 (by decide) ?_
    exact w_iret X hQ (o_inj hF) rfl rfl dX9_kindOf_65
  have w_42 : ∀ (x0 : Int32), K_X9_kindOf_42 fu mem x0 = some res → WW D 255 ad (cC ca ad) p l e rm_X9_kindOf s m args below meth c 1 0 0 Q mem 42 [(0, .int x0)] [] := by
    intro x0 hF
    rw [K_X9_kindOf_42] at hF
    refine w_iload_n X 0 dX9_kindOf_42 rfl rfl 43 rfl ?_
    refine w_bipush X 59 dX9_kindOf_43 rfl 45 rfl ?_
    refine w_icmp_eq X hF 60 48 dX9_kindOf_45 (by decide) rfl (fun hF => ?_) (fun hF => ?_)
    · refine w_keep [] rfl ?_
      exact w_60  hF
    · refine w_iload_n X 0 dX9_kindOf_48 rfl rfl 49 rfl ?_
      refine w_bipush X 40 dX9_kindOf_49 rfl 51 rfl ?_
      refine w_icmp_eq X hF 60 54 dX9_kindOf_51 (by decide) rfl (fun hF => ?_) (fun hF => ?_)
      · refine w_keep [] rfl ?_
        exact w_60  hF
      · refine w_iload_n X 0 dX9_kindOf_54 rfl rfl 55 rfl ?_
        refine w_bipush X 41 dX9_kindOf_55 rfl 57 rfl ?_
        refine w_icmp_ne X hF 64 60 dX9_kindOf_57 (by decide) rfl (fun hF => ?_) (fun hF => ?_)
        · refine w_keep [] rfl ?_
          exact w_60  hF
        · refine w_iconst X 4 dX9_kindOf_64 rfl 65 rfl ?_
          exact w_iret X hQ (o_inj hF) rfl rfl dX9_kindOf_65
  have w_28 : ∀ (x0 : Int32), K_X9_kindOf_28 fu mem x0 = some res → WW D 255 ad (cC ca ad) p l e rm_X9_kindOf s m args below meth c 1 0 0 Q mem 28 [(0, .int x0)] [] := by
    intro x0 hF
    rw [K_X9_kindOf_28] at hF
    refine w_iload_n X 0 dX9_kindOf_28 rfl rfl 29 rfl ?_
    refine w_bipush X 48 dX9_kindOf_29 rfl 31 rfl ?_
    refine w_icmp_lt X hF 42 34 dX9_kindOf_31 (by decide) rfl (fun hF => ?_) (fun hF => ?_)
    · refine w_keep [0] rfl ?_
      exact w_42 x0  hF
    · refine w_iload_n X 0 dX9_kindOf_34 rfl rfl 35 rfl ?_
      refine w_bipush X 57 dX9_kindOf_35 rfl 37 rfl ?_
      refine w_icmp_gt X hF 42 40 dX9_kindOf_37 (by decide) rfl (fun hF => ?_) (fun hF => ?_)
      · refine w_keep [0] rfl ?_
        exact w_42 x0  hF
      · refine w_iconst X 2 dX9_kindOf_40 rfl 41 rfl ?_
        exact w_iret X hQ (o_inj hF) rfl rfl dX9_kindOf_41
  intro hF
  refine w_iload_n X 0 dX9_kindOf_0 rfl rfl 1 rfl ?_
  refine w_bipush X 32 dX9_kindOf_1 rfl 3 rfl ?_
  refine w_icmp_eq X hF 12 6 dX9_kindOf_3 (by decide) rfl (fun hF => ?_) (fun hF => ?_)
  · refine w_iconst X 0 dX9_kindOf_12 rfl 13 rfl ?_
    exact w_iret X hQ (o_inj hF) rfl rfl dX9_kindOf_13
  · refine w_iload_n X 0 dX9_kindOf_6 rfl rfl 7 rfl ?_
    refine w_bipush X 10 dX9_kindOf_7 rfl 9 rfl ?_
    refine w_icmp_ne X hF 14 12 dX9_kindOf_9 (by decide) rfl (fun hF => ?_) (fun hF => ?_)
    · refine w_iconst X 0 dX9_kindOf_12 rfl 13 rfl ?_
      exact w_iret X hQ (o_inj hF) rfl rfl dX9_kindOf_13
    · refine w_iload_n X 0 dX9_kindOf_14 rfl rfl 15 rfl ?_
      refine w_bipush X 97 dX9_kindOf_15 rfl 17 rfl ?_
      refine w_icmp_lt X hF 28 20 dX9_kindOf_17 (by decide) rfl (fun hF => ?_) (fun hF => ?_)
      · refine w_keep [0] rfl ?_
        exact w_28 x0  hF
      · refine w_iload_n X 0 dX9_kindOf_20 rfl rfl 21 rfl ?_
        refine w_bipush X 122 dX9_kindOf_21 rfl 23 rfl ?_
        refine w_icmp_gt X hF 28 26 dX9_kindOf_23 (by decide) rfl (fun hF => ?_) (fun hF => ?_)
        · refine w_keep [0] rfl ?_
          exact w_28 x0  hF
        · refine w_iconst X 1 dX9_kindOf_26 rfl 27 rfl ?_
          exact w_iret X hQ (o_inj hF) rfl rfl dX9_kindOf_27

def K_X10_beginAt (fu : Nat) (w : Nat) (x1 : Int32) (mem : Mem) : Option Mem := (if x1 < 0 then some mem else (if x1 < 81 then (if (rd mem (pWays w) 2) < 81 then gi x1 81 (lt_ (mw mem (pDist w) (Int32.toNatClampNeg x1) 0) (fun m_2 => gi (rd m_2 (pWays w) 2) 81 (lt_ (mw m_2 (pQueue w) (Int32.toNatClampNeg (rd m_2 (pWays w) 2)) x1) (fun m_4 => lt_ (mw m_4 (pWays w) 2 ((rd m_4 (pWays w) 2) + 1)) (fun m_5 => some m_5))))) else some mem) else some mem))
def rm_X10_beginAt : Room := { frames := 0, cells := 0, slots := 0, locals := 0 }
set_option maxHeartbeats 4000000 in
set_option maxRecDepth 100000 in
theorem ct_X10_beginAt (l : Launch) {D : va_G} {ca ad : Nat → Nat} {Z : (Nat → Prop) → State → Heap → Prop} (hZ : ZOK Z) {tO : Nat} (hO : ZO Z tO) (fu : Nat) {w : Nat} (hw : w < 2) (x1 : Int32) (mem : Mem) (res : Mem) (hF : K_X10_beginAt fu w x1 mem = some res) : CV l D (tyL ca) 255 ad (cC ca ad) Z yX10_beginAt cX10_beginAt 2 rm_X10_beginAt [.ref (ad (pWays w)), .int x1] mem res := by
  refine start_v (own := RX10) rfl (by decide) (Nat.le_of_ble_eq_true rfl) ?_
  intro p e s m args below meth c Q hQ X
  rw [K_X10_beginAt] at hF
  revert hF
  intro hF
  refine w_iload_n X 1 dX10_beginAt_0 rfl rfl 1 rfl ?_
  refine w_if_lt X hF 46 4 dX10_beginAt_1 (by decide) rfl (fun hF => ?_) (fun hF => ?_)
  · exact w_vret X hQ (o_inj hF) dX10_beginAt_46
  · refine w_iload_n X 1 dX10_beginAt_4 rfl rfl 5 rfl ?_
    refine w_bipush X 81 dX10_beginAt_5 rfl 7 rfl ?_
    refine w_icmp_ge X hF 46 10 dX10_beginAt_7 (by decide) rfl (fun hF => ?_) (fun hF => ?_)
    · refine w_aload_n X 0 dX10_beginAt_10 rfl rfl 11 rfl ?_
      refine w_getV (v := .int (rd mem (pWays w) 2)) X (pWays w) (lt_Ways hw) (ko_Ways hw) (T := TX10) (N := 4) rfl in_X10 2 (by decide) kF_X10_27 rfl rfl dX10_beginAt_11 14 rfl ?_
      refine w_bipush X 81 dX10_beginAt_14 rfl 16 rfl ?_
      refine w_icmp_ge X hF 46 19 dX10_beginAt_16 (by decide) rfl (fun hF => ?_) (fun hF => ?_)
      · refine w_aload_n X 0 dX10_beginAt_19 rfl rfl 20 rfl ?_
        refine w_getV (v := .ref (ad (pDist w))) X (pWays w) (lt_Ways hw) (ko_Ways hw) (T := TX10) (N := 4) rfl in_X10 0 (by decide) kF_X10_9 rfl rfl dX10_beginAt_20 23 rfl ?_
        refine w_iload_n X 1 dX10_beginAt_23 rfl rfl 24 rfl ?_
        refine w_iconst X 0 dX10_beginAt_24 rfl 25 rfl ?_
        refine w_gi hF (fun h_1 hF => ?_)
        refine w_ias X (pDist w) (lt_Dist hw) (ko_Dist hw) (t0 := 0) rfl h_1 dX10_beginAt_25 26 rfl ?_
        refine w_letm hF (fun m_2 hF => ?_)
        refine w_aload_n X 0 dX10_beginAt_26 rfl rfl 27 rfl ?_
        refine w_getV (v := .ref (ad (pQueue w))) X (pWays w) (lt_Ways hw) (ko_Ways hw) (T := TX10) (N := 4) rfl in_X10 1 (by decide) kF_X10_15 rfl rfl dX10_beginAt_27 30 rfl ?_
        refine w_aload_n X 0 dX10_beginAt_30 rfl rfl 31 rfl ?_
        refine w_getV (v := .int (rd m_2 (pWays w) 2)) X (pWays w) (lt_Ways hw) (ko_Ways hw) (T := TX10) (N := 4) rfl in_X10 2 (by decide) kF_X10_27 rfl rfl dX10_beginAt_31 34 rfl ?_
        refine w_iload_n X 1 dX10_beginAt_34 rfl rfl 35 rfl ?_
        refine w_gi hF (fun h_3 hF => ?_)
        refine w_ias X (pQueue w) (lt_Queue hw) (ko_Queue hw) (t0 := 0) rfl h_3 dX10_beginAt_35 36 rfl ?_
        refine w_letm hF (fun m_4 hF => ?_)
        refine w_aload_n X 0 dX10_beginAt_36 rfl rfl 37 rfl ?_
        refine w_dup X dX10_beginAt_37 rfl 38 rfl ?_
        refine w_getV (v := .int (rd m_4 (pWays w) 2)) X (pWays w) (lt_Ways hw) (ko_Ways hw) (T := TX10) (N := 4) rfl in_X10 2 (by decide) kF_X10_27 rfl rfl dX10_beginAt_38 41 rfl ?_
        refine w_iconst X 1 dX10_beginAt_41 rfl 42 rfl ?_
        refine w_iadd X dX10_beginAt_42 43 rfl ?_
        refine w_putI X (pWays w) (lt_Ways hw) (ko_Ways hw) (T := TX10) (N := 4) rfl in_X10 tyX10 tyX10_ok nmX10 2 (by decide) kF_X10_27 rfl rfl rfl rfl (Nat.le_of_ble_eq_true rfl) rfl dX10_beginAt_43 46 rfl ?_
        refine w_letm hF (fun m_5 hF => ?_)
        exact w_vret X hQ (o_inj hF) dX10_beginAt_46
      · exact w_vret X hQ (o_inj hF) dX10_beginAt_46
    · exact w_vret X hQ (o_inj hF) dX10_beginAt_46

end T
