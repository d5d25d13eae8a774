section Kc2
def K_X6_buildWall (fu : Nat) (r : Nat) (x1 : Int32) (x2 : Int32) (x3 : Int32) (mem : Mem) : Option Mem := bd (K_X2_raise fu r x1 x2 x3 mem) (fun m_1 => gi (rd m_1 (pRace r) 6) 4 (lt_ (mw m_1 (pPawn r (Int32.toNatClampNeg (rd m_1 (pRace r) 6))) 2 ((rd m_1 (pPawn r (Int32.toNatClampNeg (rd m_1 (pRace r) 6))) 2) - 1)) (fun m_3 => bd (K_X6_endTurn fu r m_3) (fun m_4 => some m_4))))
def rm_X6_buildWall : Room := { frames := 2, cells := 0, slots := 0, locals := 50 }
set_option maxHeartbeats 4000000 in
set_option maxRecDepth 100000 in
theorem ct_X6_buildWall (l : Launch) {D : va_G} {ca ad : Nat → Nat} {Z : (Nat → Prop) → State → Heap → Prop} (hZ : ZOK Z) {tO : Nat} {sK sV : Nat → Nat} (hO : ZO Z tO sK sV) (fu : Nat) {r : Nat} (hr : r < 10) (x1 : Int32) (x2 : Int32) (x3 : Int32) (mem : Mem) (res : Mem) (hF : K_X6_buildWall fu r x1 x2 x3 mem = some res) : CV l D (tyL ca) 255 ad (cC ca ad) Z yX6_buildWall cX6_buildWall 4 rm_X6_buildWall [.ref (ad (pRace r)), .int x1, .int x2, .int x3] mem res := by
  refine start_v (own := RX6) rfl (by decide) (Nat.le_of_ble_eq_true rfl) ?_
  intro p e s m args below meth c Q hQ X
  rw [K_X6_buildWall] at hF
  revert hF
  intro hF
  refine w_aload_n X 0 dX6_buildWall_0 rfl rfl 1 rfl ?_
  refine w_getV (v := .ref (ad (pBoard r))) X (pRace r) (lt_Race hr) ko_Race (T := TX6) (N := 8) rfl in_X6 0 (by decide) kF_X6_12 rfl rfl dX6_buildWall_1 4 rfl ?_
  refine w_iload_n X 1 dX6_buildWall_4 rfl rfl 5 rfl ?_
  refine w_iload_n X 2 dX6_buildWall_5 rfl rfl 6 rfl ?_
  refine w_iload_n X 3 dX6_buildWall_6 rfl rfl 7 rfl ?_
  refine w_callVv (fun m => m) X hZ hF [.int x1, .int x2, .int x3] (pBoard r) (lt_Board hr) ko_Board rfl rfl rfl kB_X2_raise kL_X6_120 (fun res h => ct_X2_raise l hZ hO fu hr x1 x2 x3 mem res h) rfl rfl rfl ⟨Nat.le_of_ble_eq_true rfl, Nat.le_of_ble_eq_true rfl⟩ (Nat.le_of_ble_eq_true rfl) ⟨Nat.zero_le _, Nat.zero_le _⟩ dX6_buildWall_7 10 rfl (fun m_1 hF => ?_)
  refine w_aload_n X 0 dX6_buildWall_10 rfl rfl 11 rfl ?_
  refine w_getV (v := .ref (ad (pPawns r))) X (pRace r) (lt_Race hr) ko_Race (T := TX6) (N := 8) rfl in_X6 1 (by decide) kF_X6_20 rfl rfl dX6_buildWall_11 14 rfl ?_
  refine w_aload_n X 0 dX6_buildWall_14 rfl rfl 15 rfl ?_
  refine w_getV (v := .int (rd m_1 (pRace r) 6)) X (pRace r) (lt_Race hr) ko_Race (T := TX6) (N := 8) rfl in_X6 6 (by decide) kF_X6_46 rfl rfl dX6_buildWall_15 18 rfl ?_
  refine w_gi hF (fun h_2 hF => ?_)
  refine w_aal X (pPawns r) (lt_Pawns hr) (pPawn r (Int32.toNatClampNeg (rd m_1 (pRace r) 6))) ko_Pawns (t0 := 2) rfl h_2 (el_Pawns (vp_lt h_2)) dX6_buildWall_18 19 rfl ?_
  refine w_dup X dX6_buildWall_19 rfl 20 rfl ?_
  refine w_getV (v := .int (rd m_1 (pPawn r (Int32.toNatClampNeg (rd m_1 (pRace r) 6))) 2)) X (pPawn r (Int32.toNatClampNeg (rd m_1 (pRace r) 6))) (lt_Pawn hr (vp_lt h_2)) (ko_Pawn (vp_lt h_2)) (T := TX4) (N := 6) rfl in_X4 2 (by decide) kF_X6_68 rfl rfl dX6_buildWall_20 23 rfl ?_
  refine w_iconst X 1 dX6_buildWall_23 rfl 24 rfl ?_
  refine w_isub X dX6_buildWall_24 25 rfl ?_
  refine w_putI X (pPawn r (Int32.toNatClampNeg (rd m_1 (pRace r) 6))) (lt_Pawn hr (vp_lt h_2)) (ko_Pawn (vp_lt h_2)) (T := TX4) (N := 6) rfl in_X4 tyX4 tyX4_ok nmX4 2 (by decide) kF_X6_68 rfl rfl rfl rfl (Nat.le_of_ble_eq_true rfl) rfl dX6_buildWall_25 28 rfl ?_
  refine w_letm hF (fun m_3 hF => ?_)
  refine w_aload_n X 0 dX6_buildWall_28 rfl rfl 29 rfl ?_
  refine w_callVv (fun m => m) X hZ hF [] (pRace r) (lt_Race hr) ko_Race rfl rfl rfl kB_X6_endTurn kL_X6_117 (fun res h => ct_X6_endTurn l hZ hO fu hr m_3 res h) rfl rfl rfl ⟨Nat.le_of_ble_eq_true rfl, Nat.le_of_ble_eq_true rfl⟩ (Nat.le_of_ble_eq_true rfl) ⟨Nat.zero_le _, Nat.zero_le _⟩ dX6_buildWall_29 32 rfl (fun m_4 hF => ?_)
  exact w_vret X hQ (o_inj hF) dX6_buildWall_32

def K_X11_mayPlay (fu : Nat) (x0 : Int32) (x1 : Int32) (mem : Mem) : Option Int32 := (if x0 < 0 then some 0 else (if x0 < 2 then (if x1 < 1 then some 0 else (if 99 < x1 then some 0 else some 1)) else some 0))
def rm_X11_mayPlay : Room := { frames := 0, cells := 0, slots := 0, locals := 0 }
set_option maxHeartbeats 4000000 in
set_option maxRecDepth 100000 in
theorem ct_X11_mayPlay (l : Launch) {D : va_G} {ca ad : Nat → Nat} {Z : (Nat → Prop) → State → Heap → Prop} (hZ : ZOK Z) {tO : Nat} {sK sV : Nat → Nat} (hO : ZO Z tO sK sV) (fu : Nat) (x0 : Int32) (x1 : Int32) (mem : Mem) (res : Int32) (hF : K_X11_mayPlay fu x0 x1 mem = some res) : CI l D (tyL ca) 255 ad (cC ca ad) Z yX11_mayPlay cX11_mayPlay 2 .boolean rm_X11_mayPlay [.int x0, .int x1] mem res mem := by
  refine start_i (own := RX11) rfl (by decide) (Nat.le_of_ble_eq_true rfl) ?_
  intro p e s m args below meth c Q hQ X
  rw [K_X11_mayPlay] at hF
  revert hF
  intro hF
  refine w_iload_n X 0 dX11_mayPlay_0 rfl rfl 1 rfl ?_
  refine w_if_lt X hF 24 4 dX11_mayPlay_1 (by decide) rfl (fun hF => ?_) (fun hF => ?_)
  · refine w_iconst X 0 dX11_mayPlay_24 rfl 25 rfl ?_
    exact w_iret X hQ (o_inj hF) rfl rfl dX11_mayPlay_25
  · refine w_iload_n X 0 dX11_mayPlay_4 rfl rfl 5 rfl ?_
    refine w_iconst X 2 dX11_mayPlay_5 rfl 6 rfl ?_
    refine w_icmp_ge X hF 24 9 dX11_mayPlay_6 (by decide) rfl (fun hF => ?_) (fun hF => ?_)
    · refine w_iload_n X 1 dX11_mayPlay_9 rfl rfl 10 rfl ?_
      refine w_iconst X 1 dX11_mayPlay_10 rfl 11 rfl ?_
      refine w_icmp_lt X hF 24 14 dX11_mayPlay_11 (by decide) rfl (fun hF => ?_) (fun hF => ?_)
      · refine w_iconst X 0 dX11_mayPlay_24 rfl 25 rfl ?_
        exact w_iret X hQ (o_inj hF) rfl rfl dX11_mayPlay_25
      · refine w_iload_n X 1 dX11_mayPlay_14 rfl rfl 15 rfl ?_
        refine w_bipush X 99 dX11_mayPlay_15 rfl 17 rfl ?_
        refine w_icmp_gt X hF 24 20 dX11_mayPlay_17 (by decide) rfl (fun hF => ?_) (fun hF => ?_)
        · refine w_iconst X 0 dX11_mayPlay_24 rfl 25 rfl ?_
          exact w_iret X hQ (o_inj hF) rfl rfl dX11_mayPlay_25
        · refine w_iconst X 1 dX11_mayPlay_20 rfl 21 rfl ?_
          refine w_goto X 25 dX11_mayPlay_21 (by decide) ?_
          exact w_iret X hQ (o_inj hF) rfl rfl dX11_mayPlay_25
    · refine w_iconst X 0 dX11_mayPlay_24 rfl 25 rfl ?_
      exact w_iret X hQ (o_inj hF) rfl rfl dX11_mayPlay_25

def K_X1_addBan_30 (fu : Nat) (r1 : Nat) (i1 : Nat) : Nat → Int32 → Mem → Option Mem
  | 0, _, _ => none
  | n + 1, x2, mem => (if x2 < 4 then gi x2 5 (bd (K_X0_byLatest fu r1 i1 x2 mem) (fun x_6 => gi x2 5 (lt_ (mw mem 32 (Int32.toNatClampNeg x2) ((rd mem 32 (Int32.toNatClampNeg x2)) ||| x_6)) (fun m_8 => (K_X1_addBan_30 fu r1 i1 n (x2 + 1) m_8))))) else some mem)
def K_X1_addBan_2 (fu : Nat) (r1 : Nat) (i1 : Nat) : Nat → Int32 → Mem → Option Mem
  | 0, _, _ => none
  | n + 1, x2, mem => (if x2 < 81 then gi x2 81 (bd (K_X0_byCell fu r1 i1 x2 mem) (fun x_2 => gi x2 81 (lt_ (mw mem 31 (Int32.toNatClampNeg x2) ((rd mem 31 (Int32.toNatClampNeg x2)) ||| x_2)) (fun m_4 => (K_X1_addBan_2 fu r1 i1 n (x2 + 1) m_4))))) else (K_X1_addBan_30 fu r1 i1 fu 0 mem))
def K_X1_addBan (fu : Nat) (r1 : Nat) (i1 : Nat) (mem : Mem) : Option Mem := (K_X1_addBan_2 fu r1 i1 fu 0 mem)
def rm_X1_addBan : Room := { frames := 1, cells := 0, slots := 0, locals := 24 }
set_option maxHeartbeats 4000000 in
set_option maxRecDepth 100000 in
theorem ct_X1_addBan (l : Launch) {D : va_G} {ca ad : Nat → Nat} {Z : (Nat → Prop) → State → Heap → Prop} (hZ : ZOK Z) {tO : Nat} {sK sV : Nat → Nat} (hO : ZO Z tO sK sV) (fu : Nat) {r1 : Nat} (hr1 : r1 < 10) {i1 : Nat} (hi1 : i1 < 12) (mem : Mem) (res : Mem) (hF : K_X1_addBan fu r1 i1 mem = some res) : CV l D (tyL ca) 255 ad (cC ca ad) Z yX1_addBan cX1_addBan 3 rm_X1_addBan [.ref (ad 28), .ref (ad (pBan r1 i1))] mem res := by
  refine start_v (own := RX1) rfl (by decide) (Nat.le_of_ble_eq_true rfl) ?_
  intro p e s m args below meth c Q hQ X
  rw [K_X1_addBan] at hF
  revert hF
  have w_30 : ∀ (n : Nat) (x2 : Int32) (mem : Mem), K_X1_addBan_30 fu r1 i1 n x2 mem = some res → WW D 255 ad (cC ca ad) p l e rm_X1_addBan s m args below meth c 3 0 0 Q mem 30 [(0, .ref (ad 28)), (1, .ref (ad (pBan r1 i1))), (2, .int x2)] [] := by
    intro n
    induction n with
    | zero => intro x2 mem hF; exact no_none (show (none : Option Mem) = some res from hF)
    | succ n ih =>
      intro x2 mem hF
      rw [K_X1_addBan_30] at hF
      refine w_iload_n X 2 dX1_addBan_30 rfl rfl 31 rfl ?_
      refine w_iconst X 4 dX1_addBan_31 rfl 32 rfl ?_
      refine w_icmp_ge X hF 55 35 dX1_addBan_32 (by decide) rfl (fun hF => ?_) (fun hF => ?_)
      · refine w_aload_n X 0 dX1_addBan_35 rfl rfl 36 rfl ?_
        refine w_getV (v := .ref (ad 32)) X 28 plt_28 ko_28 (T := TX1) (N := 4) rfl in_X1 3 (by decide) kF_X1_21 rfl rfl dX1_addBan_36 39 rfl ?_
        refine w_iload_n X 2 dX1_addBan_39 rfl rfl 40 rfl ?_
        refine w_dup2 X dX1_addBan_40 rfl rfl 41 rfl ?_
        refine w_gi hF (fun h_5 hF => ?_)
        refine w_ial X 32 plt_32 ko_32 (t0 := 0) rfl h_5 dX1_addBan_41 42 rfl ?_
        refine w_aload_n X 1 dX1_addBan_42 rfl rfl 43 rfl ?_
        refine w_iload_n X 2 dX1_addBan_43 rfl rfl 44 rfl ?_
        refine w_callVi (fun x => x) (fun _ => mem) X hZ hF [.int x2] (pBan r1 i1) (lt_Ban hr1 hi1) (ko_Ban hi1) rfl rfl rfl kB_X0_byLatest kL_X1_77 (fun res h => ct_X0_byLatest l hZ hO fu hr1 hi1 x2 mem res h) rfl rfl rfl ⟨Nat.le_of_ble_eq_true rfl, Nat.le_of_ble_eq_true rfl⟩ (Nat.le_of_ble_eq_true rfl) ⟨Nat.zero_le _, Nat.zero_le _⟩ dX1_addBan_44 47 rfl (fun x_6 hF => ?_)
        refine w_ior X dX1_addBan_47 48 rfl ?_
        refine w_gi hF (fun h_7 hF => ?_)
        refine w_ias X 32 plt_32 ko_32 (t0 := 0) rfl h_7 dX1_addBan_48 49 rfl ?_
        refine w_letm hF (fun m_8 hF => ?_)
        refine w_iinc X 2 (x2 + 1) [(2, .int (x2 + 1)), (0, .ref (ad 28)), (1, .ref (ad (pBan r1 i1)))] dX1_addBan_49 rfl rfl (by decide) rfl 52 rfl ?_
        refine w_goto X 30 dX1_addBan_52 (by decide) ?_
        refine w_keep [1, 2, 0] rfl ?_
        exact ih (x2 + 1) m_8 hF
      · exact w_vret X hQ (o_inj hF) dX1_addBan_55
  have w_2 : ∀ (n : Nat) (x2 : Int32) (mem : Mem), K_X1_addBan_2 fu r1 i1 n x2 mem = some res → WW D 255 ad (cC ca ad) p l e rm_X1_addBan s m args below meth c 3 0 0 Q mem 2 [(0, .ref (ad 28)), (1, .ref (ad (pBan r1 i1))), (2, .int x2)] [] := by
    intro n
    induction n with
    | zero => intro x2 mem hF; exact no_none (show (none : Option Mem) = some res from hF)
    | succ n ih =>
      intro x2 mem hF
      rw [K_X1_addBan_2] at hF
      refine w_iload_n X 2 dX1_addBan_2 rfl rfl 3 rfl ?_
      refine w_bipush X 81 dX1_addBan_3 rfl 5 rfl ?_
      refine w_icmp_ge X hF 28 8 dX1_addBan_5 (by decide) rfl (fun hF => ?_) (fun hF => ?_)
      · refine w_aload_n X 0 dX1_addBan_8 rfl rfl 9 rfl ?_
        refine w_getV (v := .ref (ad 31)) X 28 plt_28 ko_28 (T := TX1) (N := 4) rfl in_X1 2 (by decide) kF_X1_18 rfl rfl dX1_addBan_9 12 rfl ?_
        refine w_iload_n X 2 dX1_addBan_12 rfl rfl 13 rfl ?_
        refine w_dup2 X dX1_addBan_13 rfl rfl 14 rfl ?_
        refine w_gi hF (fun h_1 hF => ?_)
        refine w_ial X 31 plt_31 ko_31 (t0 := 0) rfl h_1 dX1_addBan_14 15 rfl ?_
        refine w_aload_n X 1 dX1_addBan_15 rfl rfl 16 rfl ?_
        refine w_iload_n X 2 dX1_addBan_16 rfl rfl 17 rfl ?_
        refine w_callVi (fun x => x) (fun _ => mem) X hZ hF [.int x2] (pBan r1 i1) (lt_Ban hr1 hi1) (ko_Ban hi1) rfl rfl rfl kB_X0_byCell kL_X1_73 (fun res h => ct_X0_byCell l hZ hO fu hr1 hi1 x2 mem res h) rfl rfl rfl ⟨Nat.le_of_ble_eq_true rfl, Nat.le_of_ble_eq_true rfl⟩ (Nat.le_of_ble_eq_true rfl) ⟨Nat.zero_le _, Nat.zero_le _⟩ dX1_addBan_17 20 rfl (fun x_2 hF => ?_)
        refine w_ior X dX1_addBan_20 21 rfl ?_
        refine w_gi hF (fun h_3 hF => ?_)
        refine w_ias X 31 plt_31 ko_31 (t0 := 0) rfl h_3 dX1_addBan_21 22 rfl ?_
        refine w_letm hF (fun m_4 hF => ?_)
        refine w_iinc X 2 (x2 + 1) [(2, .int (x2 + 1)), (0, .ref (ad 28)), (1, .ref (ad (pBan r1 i1)))] dX1_addBan_22 rfl rfl (by decide) rfl 25 rfl ?_
        refine w_goto X 2 dX1_addBan_25 (by decide) ?_
        refine w_keep [1, 2, 0] rfl ?_
        exact ih (x2 + 1) m_4 hF
      · refine w_iconst X 0 dX1_addBan_28 rfl 29 rfl ?_
        refine w_istore_n X [(2, .int 0), (0, .ref (ad 28)), (1, .ref (ad (pBan r1 i1)))] dX1_addBan_29 rfl (by decide) rfl 30 rfl ?_
        refine w_keep [1, 2, 0] rfl ?_
        exact w_30 fu 0 mem hF
  intro hF
  refine w_iconst X 0 dX1_addBan_0 rfl 1 rfl ?_
  refine w_istore_n X [(2, .int 0), (0, .ref (ad 28)), (1, .ref (ad (pBan r1 i1)))] dX1_addBan_1 rfl (by decide) rfl 2 rfl ?_
  refine w_keep [1, 2, 0] rfl ?_
  exact w_2 fu 0 mem hF

def K_X1_begin_96 (fu : Nat) (r1 : Nat) (xs0 : Int32) (xs1 : Int32) (bs2 : Int32) (mem : Mem) : Option Mem := gi (xs1 + xs0) 405 (lt_ (mw mem (pBW bs2) (Int32.toNatClampNeg (xs1 + xs0)) 1) (fun m_9 => some m_9))
def K_X1_begin_18 (fu : Nat) (r1 : Nat) : Nat → Int32 → Int32 → Mem → Option Mem
  | 0, _, _, _ => none
  | n + 1, x2, x3, mem => (if x3 < (rd mem (pRace r1) 4) then gi x3 12 ((if (rd mem (pBan r1 (Int32.toNatClampNeg x3)) 0) = x2 then gi x3 12 (bd (K_X1_addBan fu r1 (Int32.toNatClampNeg x3) mem) (fun m_5 => (K_X1_begin_18 fu r1 n x2 (x3 + 1) m_5))) else (K_X1_begin_18 fu r1 n x2 (x3 + 1) mem))) else bd (K_J7_fill_53178 fu (pBW (rd mem 28 0)) 405 0 mem) (fun m_6 => gi x2 4 ((if (rd m_6 (pPawn r1 (Int32.toNatClampNeg x2)) 4) = (-1) then (K_X1_begin_96 fu r1 4 ((rd m_6 (pPawn r1 (Int32.toNatClampNeg x2)) 0) * 5) (rd m_6 28 0) m_6) else (K_X1_begin_96 fu r1 (rd m_6 (pPawn r1 (Int32.toNatClampNeg x2)) 4) ((rd m_6 (pPawn r1 (Int32.toNatClampNeg x2)) 0) * 5) (rd m_6 28 0) m_6)))))
def K_X1_begin (fu : Nat) (r1 : Nat) (x2 : Int32) (mem : Mem) : Option Mem := bd (K_J7_fill_53178 fu 31 81 0 mem) (fun m_1 => bd (K_J7_fill_53178 fu 32 5 0 m_1) (fun m_2 => (K_X1_begin_18 fu r1 fu x2 0 m_2)))
def rm_X1_begin : Room := { frames := 2, cells := 0, slots := 0, locals := 46 }
set_option maxHeartbeats 4000000 in
set_option maxRecDepth 100000 in
theorem ct_X1_begin (l : Launch) {D : va_G} {ca ad : Nat → Nat} {Z : (Nat → Prop) → State → Heap → Prop} (hZ : ZOK Z) {tO : Nat} {sK sV : Nat → Nat} (hO : ZO Z tO sK sV) (fu : Nat) {r1 : Nat} (hr1 : r1 < 10) (x2 : Int32) (mem : Mem) (res : Mem) (hF : K_X1_begin fu r1 x2 mem = some res) : CV l D (tyL ca) 255 ad (cC ca ad) Z yX1_begin cX1_begin 4 rm_X1_begin [.ref (ad 28), .ref (ad (pRace r1)), .int x2] mem res := by
  refine start_v (own := RX1) rfl (by decide) (Nat.le_of_ble_eq_true rfl) ?_
  intro p e s m args below meth c Q hQ X
  rw [K_X1_begin] at hF
  revert hF
  have w_96 : ∀ (xs0 : Int32) (xs1 : Int32) (bs2 : Int32) (mem : Mem), K_X1_begin_96 fu r1 xs0 xs1 bs2 mem = some res → WW D 255 ad (cC ca ad) p l e rm_X1_begin s m args below meth c 4 0 0 Q mem 96 [] [.int xs0, .int xs1, .ref (ad (pBW bs2))] := by
    intro xs0 xs1 bs2 mem hF
    rw [K_X1_begin_96] at hF
    refine w_iadd X dX1_begin_96 97 rfl ?_
    refine w_iconst X 1 dX1_begin_97 rfl 98 rfl ?_
    refine w_gi hF (fun h_8 hF => ?_)
    refine w_ias X (pBW bs2) lt_BW ko_BW (t0 := 0) rfl h_8 dX1_begin_98 99 rfl ?_
    refine w_letm hF (fun m_9 hF => ?_)
    exact w_vret X hQ (o_inj hF) dX1_begin_99
  have w_18 : ∀ (n : Nat) (x2 : Int32) (x3 : Int32) (mem : Mem), K_X1_begin_18 fu r1 n x2 x3 mem = some res → WW D 255 ad (cC ca ad) p l e rm_X1_begin s m args below meth c 4 0 0 Q mem 18 [(0, .ref (ad 28)), (1, .ref (ad (pRace r1))), (2, .int x2), (3, .int x3)] [] := by
    intro n
    induction n with
    | zero => intro x2 x3 mem hF; exact no_none (show (none : Option Mem) = some res from hF)
    | succ n ih =>
      intro x2 x3 mem hF
      rw [K_X1_begin_18] at hF
      refine w_iload_n X 3 dX1_begin_18 rfl rfl 19 rfl ?_
      refine w_aload_n X 1 dX1_begin_19 rfl rfl 20 rfl ?_
      refine w_getV (v := .int (rd mem (pRace r1) 4)) X (pRace r1) (lt_Race hr1) ko_Race (T := TX6) (N := 8) rfl in_X6 4 (by decide) kF_X1_51 rfl rfl dX1_begin_20 23 rfl ?_
      refine w_icmp_ge X hF 55 26 dX1_begin_23 (by decide) rfl (fun hF => ?_) (fun hF => ?_)
      · refine w_aload_n X 1 dX1_begin_26 rfl rfl 27 rfl ?_
        refine w_getV (v := .ref (ad (pBans r1))) X (pRace r1) (lt_Race hr1) ko_Race (T := TX6) (N := 8) rfl in_X6 3 (by decide) kF_X1_54 rfl rfl dX1_begin_27 30 rfl ?_
        refine w_iload_n X 3 dX1_begin_30 rfl rfl 31 rfl ?_
        refine w_gi hF (fun h_3 hF => ?_)
        refine w_aal X (pBans r1) (lt_Bans hr1) (pBan r1 (Int32.toNatClampNeg x3)) ko_Bans (t0 := 3) rfl h_3 (el_Bans (vp_lt h_3)) dX1_begin_31 32 rfl ?_
        refine w_getV (v := .int (rd mem (pBan r1 (Int32.toNatClampNeg x3)) 0)) X (pBan r1 (Int32.toNatClampNeg x3)) (lt_Ban hr1 (vp_lt h_3)) (ko_Ban (vp_lt h_3)) (T := TX0) (N := 9) rfl in_X0 0 (by decide) kF_X1_58 rfl rfl dX1_begin_32 35 rfl ?_
        refine w_iload_n X 2 dX1_begin_35 rfl rfl 36 rfl ?_
        refine w_icmp_ne X hF 49 39 dX1_begin_36 (by decide) rfl (fun hF => ?_) (fun hF => ?_)
        · refine w_aload_n X 0 dX1_begin_39 rfl rfl 40 rfl ?_
          refine w_aload_n X 1 dX1_begin_40 rfl rfl 41 rfl ?_
          refine w_getV (v := .ref (ad (pBans r1))) X (pRace r1) (lt_Race hr1) ko_Race (T := TX6) (N := 8) rfl in_X6 3 (by decide) kF_X1_54 rfl rfl dX1_begin_41 44 rfl ?_
          refine w_iload_n X 3 dX1_begin_44 rfl rfl 45 rfl ?_
          refine w_gi hF (fun h_4 hF => ?_)
          refine w_aal X (pBans r1) (lt_Bans hr1) (pBan r1 (Int32.toNatClampNeg x3)) ko_Bans (t0 := 3) rfl h_4 (el_Bans (vp_lt h_4)) dX1_begin_45 46 rfl ?_
          refine w_callVv (fun m => m) X hZ hF [.ref (ad (pBan r1 (Int32.toNatClampNeg x3)))] 28 plt_28 ko_28 rfl rfl rfl kB_X1_addBan kL_X1_63 (fun res h => ct_X1_addBan l hZ hO fu hr1 (vp_lt h_4) mem res h) rfl rfl rfl ⟨Nat.le_of_ble_eq_true rfl, Nat.le_of_ble_eq_true rfl⟩ (Nat.le_of_ble_eq_true rfl) ⟨Nat.zero_le _, Nat.zero_le _⟩ dX1_begin_46 49 rfl (fun m_5 hF => ?_)
          refine w_iinc X 3 (x3 + 1) [(3, .int (x3 + 1)), (0, .ref (ad 28)), (1, .ref (ad (pRace r1))), (2, .int x2)] dX1_begin_49 rfl rfl (by decide) rfl 52 rfl ?_
          refine w_goto X 18 dX1_begin_52 (by decide) ?_
          refine w_keep [1, 2, 3, 0] rfl ?_
          exact ih x2 (x3 + 1) m_5 hF
        · refine w_iinc X 3 (x3 + 1) [(3, .int (x3 + 1)), (0, .ref (ad 28)), (1, .ref (ad (pRace r1))), (2, .int x2)] dX1_begin_49 rfl rfl (by decide) rfl 52 rfl ?_
          refine w_goto X 18 dX1_begin_52 (by decide) ?_
          refine w_keep [1, 2, 3, 0] rfl ?_
          exact ih x2 (x3 + 1) mem hF
      · refine w_aload_n X 0 dX1_begin_55 rfl rfl 56 rfl ?_
        refine w_getV (v := .ref (ad (pBW (rd mem 28 0)))) X 28 plt_28 ko_28 (T := TX1) (N := 4) rfl in_X1 0 (by decide) kF_X1_11 rfl rfl dX1_begin_56 59 rfl ?_
        refine w_iconst X 0 dX1_begin_59 rfl 60 rfl ?_
        refine w_callSv (fun m => m) X hZ hF [.ref (ad (pBW (rd mem 28 0))), .int 0] rfl kB_J7_fill_53178 kL_X1_45 (fun res h => ct_J7_fill_53178 l hZ hO fu lt_BW ko_BW 0 mem res h) rfl rfl rfl ⟨Nat.le_of_ble_eq_true rfl, Nat.le_of_ble_eq_true rfl⟩ (Nat.le_of_ble_eq_true rfl) ⟨Nat.zero_le _, Nat.zero_le _⟩ dX1_begin_60 63 rfl (fun m_6 hF => ?_)
        refine w_aload_n X 1 dX1_begin_63 rfl rfl 64 rfl ?_
        refine w_getV (v := .ref (ad (pPawns r1))) X (pRace r1) (lt_Race hr1) ko_Race (T := TX6) (N := 8) rfl in_X6 1 (by decide) kF_X1_24 rfl rfl dX1_begin_64 67 rfl ?_
        refine w_iload_n X 2 dX1_begin_67 rfl rfl 68 rfl ?_
        refine w_gi hF (fun h_7 hF => ?_)
        refine w_aal X (pPawns r1) (lt_Pawns hr1) (pPawn r1 (Int32.toNatClampNeg x2)) ko_Pawns (t0 := 2) rfl h_7 (el_Pawns (vp_lt h_7)) dX1_begin_68 69 rfl ?_
        refine w_astore_n X [(3, .ref (ad (pPawn r1 (Int32.toNatClampNeg x2)))), (0, .ref (ad 28)), (1, .ref (ad (pRace r1))), (2, .int x2)] dX1_begin_69 rfl (by decide) rfl 70 rfl ?_
        refine w_aload_n X 1 dX1_begin_70 rfl rfl 71 rfl ?_
        refine w_getV (v := .ref (ad (pBW (rd m_6 28 0)))) X 28 plt_28 ko_28 (T := TX1) (N := 4) rfl in_X1 0 (by decide) kF_X1_11 rfl rfl dX1_begin_71 74 rfl ?_
        refine w_aload_n X 0 dX1_begin_74 rfl rfl 75 rfl ?_
        refine w_getV (v := .int (rd m_6 (pPawn r1 (Int32.toNatClampNeg x2)) 0)) X (pPawn r1 (Int32.toNatClampNeg x2)) (lt_Pawn hr1 (vp_lt h_7)) (ko_Pawn (vp_lt h_7)) (T := TX4) (N := 6) rfl in_X4 0 (by decide) kF_X1_67 rfl rfl dX1_begin_75 78 rfl ?_
        refine w_iconst X 5 dX1_begin_78 rfl 79 rfl ?_
        refine w_imul X dX1_begin_79 80 rfl ?_
        refine w_aload_n X 0 dX1_begin_80 rfl rfl 81 rfl ?_
        refine w_getV (v := .int (rd m_6 (pPawn r1 (Int32.toNatClampNeg x2)) 4)) X (pPawn r1 (Int32.toNatClampNeg x2)) (lt_Pawn hr1 (vp_lt h_7)) (ko_Pawn (vp_lt h_7)) (T := TX4) (N := 6) rfl in_X4 4 (by decide) kF_X1_70 rfl rfl dX1_begin_81 84 rfl ?_
        refine w_iconst X (-1) dX1_begin_84 rfl 85 rfl ?_
        refine w_icmp_ne X hF 92 88 dX1_begin_85 (by decide) rfl (fun hF => ?_) (fun hF => ?_)
        · refine w_iconst X 4 dX1_begin_88 rfl 89 rfl ?_
          refine w_goto X 96 dX1_begin_89 (by decide) ?_
          refine w_keep [] rfl ?_
          exact w_96 4 ((rd m_6 (pPawn r1 (Int32.toNatClampNeg x2)) 0) * 5) (rd m_6 28 0) m_6 hF
        · refine w_aload_n X 0 dX1_begin_92 rfl rfl 93 rfl ?_
          refine w_getV (v := .int (rd m_6 (pPawn r1 (Int32.toNatClampNeg x2)) 4)) X (pPawn r1 (Int32.toNatClampNeg x2)) (lt_Pawn hr1 (vp_lt h_7)) (ko_Pawn (vp_lt h_7)) (T := TX4) (N := 6) rfl in_X4 4 (by decide) kF_X1_70 rfl rfl dX1_begin_93 96 rfl ?_
          refine w_keep [] rfl ?_
          exact w_96 (rd m_6 (pPawn r1 (Int32.toNatClampNeg x2)) 4) ((rd m_6 (pPawn r1 (Int32.toNatClampNeg x2)) 0) * 5) (rd m_6 28 0) m_6 hF
  intro hF
  refine w_aload_n X 0 dX1_begin_0 rfl rfl 1 rfl ?_
  refine w_getV (v := .ref (ad 31)) X 28 plt_28 ko_28 (T := TX1) (N := 4) rfl in_X1 2 (by decide) kF_X1_18 rfl rfl dX1_begin_1 4 rfl ?_
  refine w_iconst X 0 dX1_begin_4 rfl 5 rfl ?_
  refine w_callSv (fun m => m) X hZ hF [.ref (ad 31), .int 0] rfl kB_J7_fill_53178 kL_X1_45 (fun res h => ct_J7_fill_53178 l hZ hO fu plt_31 ko_31 0 mem res h) rfl rfl rfl ⟨Nat.le_of_ble_eq_true rfl, Nat.le_of_ble_eq_true rfl⟩ (Nat.le_of_ble_eq_true rfl) ⟨Nat.zero_le _, Nat.zero_le _⟩ dX1_begin_5 8 rfl (fun m_1 hF => ?_)
  refine w_aload_n X 0 dX1_begin_8 rfl rfl 9 rfl ?_
  refine w_getV (v := .ref (ad 32)) X 28 plt_28 ko_28 (T := TX1) (N := 4) rfl in_X1 3 (by decide) kF_X1_21 rfl rfl dX1_begin_9 12 rfl ?_
  refine w_iconst X 0 dX1_begin_12 rfl 13 rfl ?_
  refine w_callSv (fun m => m) X hZ hF [.ref (ad 32), .int 0] rfl kB_J7_fill_53178 kL_X1_45 (fun res h => ct_J7_fill_53178 l hZ hO fu plt_32 ko_32 0 m_1 res h) rfl rfl rfl ⟨Nat.le_of_ble_eq_true rfl, Nat.le_of_ble_eq_true rfl⟩ (Nat.le_of_ble_eq_true rfl) ⟨Nat.zero_le _, Nat.zero_le _⟩ dX1_begin_13 16 rfl (fun m_2 hF => ?_)
  refine w_iconst X 0 dX1_begin_16 rfl 17 rfl ?_
  refine w_istore_n X [(3, .int 0), (0, .ref (ad 28)), (1, .ref (ad (pRace r1))), (2, .int x2)] dX1_begin_17 rfl (by decide) rfl 18 rfl ?_
  refine w_keep [1, 2, 3, 0] rfl ?_
  exact w_18 fu x2 0 m_2 hF

def K_X6_bannedByNumber_5 (fu : Nat) (r : Nat) (mem : Mem) : Nat → Int32 → Int32 → Int32 → Int32 → Option Int32
  | 0, _, _, _, _ => none
  | n + 1, x1, x2, x3, x4 => (if x4 < (rd mem (pRace r) 4) then gi x4 12 ((if (rd mem (pBan r (Int32.toNatClampNeg x4)) 0) = x1 then gi x4 12 (bd (K_X0_byNumber fu r (Int32.toNatClampNeg x4) x2 mem) (fun x_3 => lt_ (x3 ||| x_3) (fun x_4 => (K_X6_bannedByNumber_5 fu r mem n x1 x2 x_4 (x4 + 1) )))) else (K_X6_bannedByNumber_5 fu r mem n x1 x2 x3 (x4 + 1) ))) else some x3)
def K_X6_bannedByNumber (fu : Nat) (r : Nat) (x1 : Int32) (x2 : Int32) (mem : Mem) : Option Int32 := (K_X6_bannedByNumber_5 fu r mem fu x1 x2 0 0 )
def rm_X6_bannedByNumber : Room := { frames := 1, cells := 0, slots := 0, locals := 22 }
set_option maxHeartbeats 4000000 in
set_option maxRecDepth 100000 in
theorem ct_X6_bannedByNumber (l : Launch) {D : va_G} {ca ad : Nat → Nat} {Z : (Nat → Prop) → State → Heap → Prop} (hZ : ZOK Z) {tO : Nat} {sK sV : Nat → Nat} (hO : ZO Z tO sK sV) (fu : Nat) {r : Nat} (hr : r < 10) (x1 : Int32) (x2 : Int32) (mem : Mem) (res : Int32) (hF : K_X6_bannedByNumber fu r x1 x2 mem = some res) : CI l D (tyL ca) 255 ad (cC ca ad) Z yX6_bannedByNumber cX6_bannedByNumber 5 .int rm_X6_bannedByNumber [.ref (ad (pRace r)), .int x1, .int x2] mem res mem := by
  refine start_i (own := RX6) rfl (by decide) (Nat.le_of_ble_eq_true rfl) ?_
  intro p e s m args below meth c Q hQ X
  rw [K_X6_bannedByNumber] at hF
  revert hF
  have w_5 : ∀ (n : Nat) (x1 : Int32) (x2 : Int32) (x3 : Int32) (x4 : Int32), K_X6_bannedByNumber_5 fu r mem n x1 x2 x3 x4 = some res → WW D 255 ad (cC ca ad) p l e rm_X6_bannedByNumber s m args below meth c 5 0 0 Q mem 5 [(0, .ref (ad (pRace r))), (1, .int x1), (2, .int x2), (3, .int x3), (4, .int x4)] [] := by
    intro n
    induction n with
    | zero => intro x1 x2 x3 x4 hF; exact no_none (show (none : Option Int32) = some res from hF)
    | succ n ih =>
      intro x1 x2 x3 x4 hF
      rw [K_X6_bannedByNumber_5] at hF
      refine w_iload X 4 dX6_bannedByNumber_5 rfl 7 rfl ?_
      refine w_aload_n X 0 dX6_bannedByNumber_7 rfl rfl 8 rfl ?_
      refine w_getV (v := .int (rd mem (pRace r) 4)) X (pRace r) (lt_Race hr) ko_Race (T := TX6) (N := 8) rfl in_X6 4 (by decide) kF_X6_40 rfl rfl dX6_bannedByNumber_8 11 rfl ?_
      refine w_icmp_ge X hF 48 14 dX6_bannedByNumber_11 (by decide) rfl (fun hF => ?_) (fun hF => ?_)
      · refine w_aload_n X 0 dX6_bannedByNumber_14 rfl rfl 15 rfl ?_
        refine w_getV (v := .ref (ad (pBans r))) X (pRace r) (lt_Race hr) ko_Race (T := TX6) (N := 8) rfl in_X6 3 (by decide) kF_X6_27 rfl rfl dX6_bannedByNumber_15 18 rfl ?_
        refine w_iload X 4 dX6_bannedByNumber_18 rfl 20 rfl ?_
        refine w_gi hF (fun h_1 hF => ?_)
        refine w_aal X (pBans r) (lt_Bans hr) (pBan r (Int32.toNatClampNeg x4)) ko_Bans (t0 := 3) rfl h_1 (el_Bans (vp_lt h_1)) dX6_bannedByNumber_20 21 rfl ?_
        refine w_getV (v := .int (rd mem (pBan r (Int32.toNatClampNeg x4)) 0)) X (pBan r (Int32.toNatClampNeg x4)) (lt_Ban hr (vp_lt h_1)) (ko_Ban (vp_lt h_1)) (T := TX0) (N := 9) rfl in_X0 0 (by decide) kF_X6_84 rfl rfl dX6_bannedByNumber_21 24 rfl ?_
        refine w_iload_n X 1 dX6_bannedByNumber_24 rfl rfl 25 rfl ?_
        refine w_icmp_ne X hF 42 28 dX6_bannedByNumber_25 (by decide) rfl (fun hF => ?_) (fun hF => ?_)
        · refine w_iload_n X 3 dX6_bannedByNumber_28 rfl rfl 29 rfl ?_
          refine w_aload_n X 0 dX6_bannedByNumber_29 rfl rfl 30 rfl ?_
          refine w_getV (v := .ref (ad (pBans r))) X (pRace r) (lt_Race hr) ko_Race (T := TX6) (N := 8) rfl in_X6 3 (by decide) kF_X6_27 rfl rfl dX6_bannedByNumber_30 33 rfl ?_
          refine w_iload X 4 dX6_bannedByNumber_33 rfl 35 rfl ?_
          refine w_gi hF (fun h_2 hF => ?_)
          refine w_aal X (pBans r) (lt_Bans hr) (pBan r (Int32.toNatClampNeg x4)) ko_Bans (t0 := 3) rfl h_2 (el_Bans (vp_lt h_2)) dX6_bannedByNumber_35 36 rfl ?_
          refine w_iload_n X 2 dX6_bannedByNumber_36 rfl rfl 37 rfl ?_
          refine w_callVi (fun x => x) (fun _ => mem) X hZ hF [.int x2] (pBan r (Int32.toNatClampNeg x4)) (lt_Ban hr (vp_lt h_2)) (ko_Ban (vp_lt h_2)) rfl rfl rfl kB_X0_byNumber kL_X6_87 (fun res h => ct_X0_byNumber l hZ hO fu hr (vp_lt h_2) x2 mem res h) rfl rfl rfl ⟨Nat.le_of_ble_eq_true rfl, Nat.le_of_ble_eq_true rfl⟩ (Nat.le_of_ble_eq_true rfl) ⟨Nat.zero_le _, Nat.zero_le _⟩ dX6_bannedByNumber_37 40 rfl (fun x_3 hF => ?_)
          refine w_ior X dX6_bannedByNumber_40 41 rfl ?_
          refine w_let hF (fun x_4 hF => ?_)
          refine w_istore_n X [(3, .int x_4), (0, .ref (ad (pRace r))), (1, .int x1), (2, .int x2), (4, .int x4)] dX6_bannedByNumber_41 rfl (by decide) rfl 42 rfl ?_
          refine w_iinc X 4 (x4 + 1) [(4, .int (x4 + 1)), (3, .int x_4), (0, .ref (ad (pRace r))), (1, .int x1), (2, .int x2)] dX6_bannedByNumber_42 rfl rfl (by decide) rfl 45 rfl ?_
          refine w_goto X 5 dX6_bannedByNumber_45 (by decide) ?_
          refine w_keep [2, 3, 4, 1, 0] rfl ?_
          exact ih x1 x2 x_4 (x4 + 1)  hF
        · refine w_iinc X 4 (x4 + 1) [(4, .int (x4 + 1)), (0, .ref (ad (pRace r))), (1, .int x1), (2, .int x2), (3, .int x3)] dX6_bannedByNumber_42 rfl rfl (by decide) rfl 45 rfl ?_
          refine w_goto X 5 dX6_bannedByNumber_45 (by decide) ?_
          refine w_keep [1, 2, 3, 4, 0] rfl ?_
          exact ih x1 x2 x3 (x4 + 1)  hF
      · refine w_iload_n X 3 dX6_bannedByNumber_48 rfl rfl 49 rfl ?_
        exact w_iret X hQ (o_inj hF) rfl rfl dX6_bannedByNumber_49
  intro hF
  refine w_iconst X 0 dX6_bannedByNumber_0 rfl 1 rfl ?_
  refine w_istore_n X [(3, .int 0), (0, .ref (ad (pRace r))), (1, .int x1), (2, .int x2)] dX6_bannedByNumber_1 rfl (by decide) rfl 2 rfl ?_
  refine w_iconst X 0 dX6_bannedByNumber_2 rfl 3 rfl ?_
  refine w_istore X [(4, .int 0), (3, .int 0), (0, .ref (ad (pRace r))), (1, .int x1), (2, .int x2)] dX6_bannedByNumber_3 (by decide) rfl 5 rfl ?_
  refine w_keep [2, 3, 4, 1, 0] rfl ?_
  exact w_5 fu x1 x2 0 0  hF

def K_X1_sum (fu : Nat) (x0 : Int32) (x1 : Int32) (mem : Mem) : Option Int32 := lt_ (x0 + x1) (fun x_1 => (if 1000003 < x_1 then some (x_1 - 1000003) else some x_1))
def rm_X1_sum : Room := { frames := 0, cells := 0, slots := 0, locals := 0 }
set_option maxHeartbeats 4000000 in
set_option maxRecDepth 100000 in
theorem ct_X1_sum (l : Launch) {D : va_G} {ca ad : Nat → Nat} {Z : (Nat → Prop) → State → Heap → Prop} (hZ : ZOK Z) {tO : Nat} {sK sV : Nat → Nat} (hO : ZO Z tO sK sV) (fu : Nat) (x0 : Int32) (x1 : Int32) (mem : Mem) (res : Int32) (hF : K_X1_sum fu x0 x1 mem = some res) : CI l D (tyL ca) 255 ad (cC ca ad) Z yX1_sum cX1_sum 3 .int rm_X1_sum [.int x0, .int x1] mem res mem := by
  refine start_i (own := RX1) rfl (by decide) (Nat.le_of_ble_eq_true rfl) ?_
  intro p e s m args below meth c Q hQ X
  rw [K_X1_sum] at hF
  revert hF
  intro hF
  refine w_iload_n X 0 dX1_sum_0 rfl rfl 1 rfl ?_
  refine w_iload_n X 1 dX1_sum_1 rfl rfl 2 rfl ?_
  refine w_iadd X dX1_sum_2 3 rfl ?_
  refine w_let hF (fun x_1 hF => ?_)
  refine w_istore_n X [(2, .int x_1), (0, .int x0), (1, .int x1)] dX1_sum_3 rfl (by decide) rfl 4 rfl ?_
  refine w_iload_n X 0 dX1_sum_4 rfl rfl 5 rfl ?_
  refine w_ldc X 1000003 kK_X1_44 dX1_sum_5 7 rfl ?_
  refine w_icmp_le X hF 17 10 dX1_sum_7 (by decide) rfl (fun hF => ?_) (fun hF => ?_)
  · refine w_iload_n X 0 dX1_sum_10 rfl rfl 11 rfl ?_
    refine w_ldc X 1000003 kK_X1_44 dX1_sum_11 13 rfl ?_
    refine w_isub X dX1_sum_13 14 rfl ?_
    refine w_goto X 18 dX1_sum_14 (by decide) ?_
    exact w_iret X hQ (o_inj hF) rfl rfl dX1_sum_18
  · refine w_iload_n X 0 dX1_sum_17 rfl rfl 18 rfl ?_
    exact w_iret X hQ (o_inj hF) rfl rfl dX1_sum_18

def K_X1_waysThat_5 (fu : Nat) (mem : Mem) : Nat → Int32 → Int32 → Int32 → Int32 → Option Int32
  | 0, _, _, _, _ => none
  | n + 1, x1, x2, x3, x4 => (if x4 < 5 then gi x4 5 ((if (((rd mem 32 (Int32.toNatClampNeg x4)) >>> (x2 &&& 31)) &&& 1) = 0 then gi ((x1 * 5) + x4) 405 (bd (K_X1_sum fu x3 (rd mem (pBW (rd mem 28 0)) (Int32.toNatClampNeg ((x1 * 5) + x4))) mem) (fun x_3 => (K_X1_waysThat_5 fu mem n x1 x2 x_3 (x4 + 1) ))) else (K_X1_waysThat_5 fu mem n x1 x2 x3 (x4 + 1) ))) else some x3)
def K_X1_waysThat (fu : Nat) (x1 : Int32) (x2 : Int32) (mem : Mem) : Option Int32 := (K_X1_waysThat_5 fu mem fu x1 x2 0 0 )
def rm_X1_waysThat : Room := { frames := 1, cells := 0, slots := 0, locals := 22 }
set_option maxHeartbeats 4000000 in
set_option maxRecDepth 100000 in
theorem ct_X1_waysThat (l : Launch) {D : va_G} {ca ad : Nat → Nat} {Z : (Nat → Prop) → State → Heap → Prop} (hZ : ZOK Z) {tO : Nat} {sK sV : Nat → Nat} (hO : ZO Z tO sK sV) (fu : Nat) (x1 : Int32) (x2 : Int32) (mem : Mem) (res : Int32) (hF : K_X1_waysThat fu x1 x2 mem = some res) : CI l D (tyL ca) 255 ad (cC ca ad) Z yX1_waysThat cX1_waysThat 5 .int rm_X1_waysThat [.ref (ad 28), .int x1, .int x2] mem res mem := by
  refine start_i (own := RX1) rfl (by decide) (Nat.le_of_ble_eq_true rfl) ?_
  intro p e s m args below meth c Q hQ X
  rw [K_X1_waysThat] at hF
  revert hF
  have w_5 : ∀ (n : Nat) (x1 : Int32) (x2 : Int32) (x3 : Int32) (x4 : Int32), K_X1_waysThat_5 fu mem n x1 x2 x3 x4 = some res → WW D 255 ad (cC ca ad) p l e rm_X1_waysThat s m args below meth c 5 0 0 Q mem 5 [(0, .ref (ad 28)), (1, .int x1), (2, .int x2), (3, .int x3), (4, .int x4)] [] := by
    intro n
    induction n with
    | zero => intro x1 x2 x3 x4 hF; exact no_none (show (none : Option Int32) = some res from hF)
    | succ n ih =>
      intro x1 x2 x3 x4 hF
      rw [K_X1_waysThat_5] at hF
      refine w_iload X 4 dX1_waysThat_5 rfl 7 rfl ?_
      refine w_iconst X 5 dX1_waysThat_7 rfl 8 rfl ?_
      refine w_icmp_ge X hF 47 11 dX1_waysThat_8 (by decide) rfl (fun hF => ?_) (fun hF => ?_)
      · refine w_aload_n X 0 dX1_waysThat_11 rfl rfl 12 rfl ?_
        refine w_getV (v := .ref (ad 32)) X 28 plt_28 ko_28 (T := TX1) (N := 4) rfl in_X1 3 (by decide) kF_X1_21 rfl rfl dX1_waysThat_12 15 rfl ?_
        refine w_iload X 4 dX1_waysThat_15 rfl 17 rfl ?_
        refine w_gi hF (fun h_1 hF => ?_)
        refine w_ial X 32 plt_32 ko_32 (t0 := 0) rfl h_1 dX1_waysThat_17 18 rfl ?_
        refine w_iload_n X 2 dX1_waysThat_18 rfl rfl 19 rfl ?_
        refine w_ishr X dX1_waysThat_19 20 rfl ?_
        refine w_iconst X 1 dX1_waysThat_20 rfl 21 rfl ?_
        refine w_iand X dX1_waysThat_21 22 rfl ?_
        refine w_if_ne X hF 41 25 dX1_waysThat_22 (by decide) rfl (fun hF => ?_) (fun hF => ?_)
        · refine w_iload_n X 3 dX1_waysThat_25 rfl rfl 26 rfl ?_
          refine w_aload_n X 0 dX1_waysThat_26 rfl rfl 27 rfl ?_
          refine w_getV (v := .ref (ad (pBW (rd mem 28 0)))) X 28 plt_28 ko_28 (T := TX1) (N := 4) rfl in_X1 0 (by decide) kF_X1_11 rfl rfl dX1_waysThat_27 30 rfl ?_
          refine w_iload_n X 1 dX1_waysThat_30 rfl rfl 31 rfl ?_
          refine w_iconst X 5 dX1_waysThat_31 rfl 32 rfl ?_
          refine w_imul X dX1_waysThat_32 33 rfl ?_
          refine w_iload X 4 dX1_waysThat_33 rfl 35 rfl ?_
          refine w_iadd X dX1_waysThat_35 36 rfl ?_
          refine w_gi hF (fun h_2 hF => ?_)
          refine w_ial X (pBW (rd mem 28 0)) lt_BW ko_BW (t0 := 0) rfl h_2 dX1_waysThat_36 37 rfl ?_
          refine w_callSi (fun x => x) (fun _ => mem) X hZ hF [.int x3, .int (rd mem (pBW (rd mem 28 0)) (Int32.toNatClampNeg ((x1 * 5) + x4)))] rfl kB_X1_sum kL_X1_109 (fun res h => ct_X1_sum l hZ hO fu x3 (rd mem (pBW (rd mem 28 0)) (Int32.toNatClampNeg ((x1 * 5) + x4))) mem res h) rfl rfl rfl ⟨Nat.le_of_ble_eq_true rfl, Nat.le_of_ble_eq_true rfl⟩ (Nat.le_of_ble_eq_true rfl) ⟨Nat.zero_le _, Nat.zero_le _⟩ dX1_waysThat_37 40 rfl (fun x_3 hF => ?_)
          refine w_istore_n X [(3, .int x_3), (0, .ref (ad 28)), (1, .int x1), (2, .int x2), (4, .int x4)] dX1_waysThat_40 rfl (by decide) rfl 41 rfl ?_
          refine w_iinc X 4 (x4 + 1) [(4, .int (x4 + 1)), (3, .int x_3), (0, .ref (ad 28)), (1, .int x1), (2, .int x2)] dX1_waysThat_41 rfl rfl (by decide) rfl 44 rfl ?_
          refine w_goto X 5 dX1_waysThat_44 (by decide) ?_
          refine w_keep [2, 3, 4, 1, 0] rfl ?_
          exact ih x1 x2 x_3 (x4 + 1)  hF
        · refine w_iinc X 4 (x4 + 1) [(4, .int (x4 + 1)), (0, .ref (ad 28)), (1, .int x1), (2, .int x2), (3, .int x3)] dX1_waysThat_41 rfl rfl (by decide) rfl 44 rfl ?_
          refine w_goto X 5 dX1_waysThat_44 (by decide) ?_
          refine w_keep [1, 2, 3, 4, 0] rfl ?_
          exact ih x1 x2 x3 (x4 + 1)  hF
      · refine w_iload_n X 3 dX1_waysThat_47 rfl rfl 48 rfl ?_
        exact w_iret X hQ (o_inj hF) rfl rfl dX1_waysThat_48
  intro hF
  refine w_iconst X 0 dX1_waysThat_0 rfl 1 rfl ?_
  refine w_istore_n X [(3, .int 0), (0, .ref (ad 28)), (1, .int x1), (2, .int x2)] dX1_waysThat_1 rfl (by decide) rfl 2 rfl ?_
  refine w_iconst X 0 dX1_waysThat_2 rfl 3 rfl ?_
  refine w_istore X [(4, .int 0), (3, .int 0), (0, .ref (ad 28)), (1, .int x1), (2, .int x2)] dX1_waysThat_3 (by decide) rfl 5 rfl ?_
  refine w_keep [2, 3, 4, 1, 0] rfl ?_
  exact w_5 fu x1 x2 0 0  hF

def K_X2_liesAt (fu : Nat) (r : Nat) (x1 : Int32) (x2 : Int32) (mem : Mem) : Option Int32 := (if x2 = 0 then lt_ (x1 / 9) (fun x_2 => (if x_2 = ((rd mem (pBoard r) 1) - 1) then some 1 else some 0)) else (if x2 = 1 then lt_ (x1 - x1 / 9 * 9) (fun x_4 => (if x_4 = ((rd mem (pBoard r) 0) - 1) then some 1 else some 0)) else (if x2 = 2 then lt_ (x1 / 9) (fun x_6 => (if x_6 = 0 then some 1 else some 0)) else lt_ (x1 - x1 / 9 * 9) (fun x_7 => (if x_7 = 0 then some 1 else some 0)))))
def rm_X2_liesAt : Room := { frames := 0, cells := 0, slots := 0, locals := 0 }
set_option maxHeartbeats 4000000 in
set_option maxRecDepth 100000 in
theorem ct_X2_liesAt (l : Launch) {D : va_G} {ca ad : Nat → Nat} {Z : (Nat → Prop) → State → Heap → Prop} (hZ : ZOK Z) {tO : Nat} {sK sV : Nat → Nat} (hO : ZO Z tO sK sV) (fu : Nat) {r : Nat} (hr : r < 10) (x1 : Int32) (x2 : Int32) (mem : Mem) (res : Int32) (hF : K_X2_liesAt fu r x1 x2 mem = some res) : CI l D (tyL ca) 255 ad (cC ca ad) Z yX2_liesAt cX2_liesAt 3 .boolean rm_X2_liesAt [.ref (ad (pBoard r)), .int x1, .int x2] mem res mem := by
  refine start_i (own := RX2) rfl (by decide) (Nat.le_of_ble_eq_true rfl) ?_
  intro p e s m args below meth c Q hQ X
  rw [K_X2_liesAt] at hF
  revert hF
  intro hF
  refine w_iload_n X 2 dX2_liesAt_0 rfl rfl 1 rfl ?_
  refine w_case (v := 0) hF (fun h_1 hF => ?_) (fun h_1 hF => ?_)
  · refine w_tin X 28 dX2_liesAt_1 h_1 (by decide) (by decide) rfl (by decide) ?_
    refine w_iload_n X 1 dX2_liesAt_28 rfl rfl 29 rfl ?_
    refine w_bipush X 9 dX2_liesAt_29 rfl 31 rfl ?_
    refine w_idiv X (by decide) dX2_liesAt_31 32 rfl ?_
    refine w_let hF (fun x_2 hF => ?_)
    refine w_aload_n X 0 dX2_liesAt_32 rfl rfl 33 rfl ?_
    refine w_getV (v := .int (rd mem (pBoard r) 1)) X (pBoard r) (lt_Board hr) ko_Board (T := TX2) (N := 5) rfl in_X2 1 (by decide) kF_X2_26 rfl rfl dX2_liesAt_33 36 rfl ?_
    refine w_iconst X 1 dX2_liesAt_36 rfl 37 rfl ?_
    refine w_isub X dX2_liesAt_37 38 rfl ?_
    refine w_icmp_ne X hF 45 41 dX2_liesAt_38 (by decide) rfl (fun hF => ?_) (fun hF => ?_)
    · refine w_iconst X 1 dX2_liesAt_41 rfl 42 rfl ?_
      refine w_goto X 46 dX2_liesAt_42 (by decide) ?_
      exact w_iret X hQ (o_inj hF) rfl rfl dX2_liesAt_46
    · refine w_iconst X 0 dX2_liesAt_45 rfl 46 rfl ?_
      exact w_iret X hQ (o_inj hF) rfl rfl dX2_liesAt_46
  refine w_case (v := 1) hF (fun h_3 hF => ?_) (fun h_3 hF => ?_)
  · refine w_tin X 47 dX2_liesAt_1 h_3 (by decide) (by decide) rfl (by decide) ?_
    refine w_iload_n X 1 dX2_liesAt_47 rfl rfl 48 rfl ?_
    refine w_bipush X 9 dX2_liesAt_48 rfl 50 rfl ?_
    refine w_irem X (by decide) dX2_liesAt_50 51 rfl ?_
    refine w_let hF (fun x_4 hF => ?_)
    refine w_aload_n X 0 dX2_liesAt_51 rfl rfl 52 rfl ?_
    refine w_getV (v := .int (rd mem (pBoard r) 0)) X (pBoard r) (lt_Board hr) ko_Board (T := TX2) (N := 5) rfl in_X2 0 (by decide) kF_X2_22 rfl rfl dX2_liesAt_52 55 rfl ?_
    refine w_iconst X 1 dX2_liesAt_55 rfl 56 rfl ?_
    refine w_isub X dX2_liesAt_56 57 rfl ?_
    refine w_icmp_ne X hF 64 60 dX2_liesAt_57 (by decide) rfl (fun hF => ?_) (fun hF => ?_)
    · refine w_iconst X 1 dX2_liesAt_60 rfl 61 rfl ?_
      refine w_goto X 65 dX2_liesAt_61 (by decide) ?_
      exact w_iret X hQ (o_inj hF) rfl rfl dX2_liesAt_65
    · refine w_iconst X 0 dX2_liesAt_64 rfl 65 rfl ?_
      exact w_iret X hQ (o_inj hF) rfl rfl dX2_liesAt_65
  refine w_case (v := 2) hF (fun h_5 hF => ?_) (fun h_5 hF => ?_)
  · refine w_tin X 66 dX2_liesAt_1 h_5 (by decide) (by decide) rfl (by decide) ?_
    refine w_iload_n X 1 dX2_liesAt_66 rfl rfl 67 rfl ?_
    refine w_bipush X 9 dX2_liesAt_67 rfl 69 rfl ?_
    refine w_idiv X (by decide) dX2_liesAt_69 70 rfl ?_
    refine w_let hF (fun x_6 hF => ?_)
    refine w_if_ne X hF 77 73 dX2_liesAt_70 (by decide) rfl (fun hF => ?_) (fun hF => ?_)
    · refine w_iconst X 1 dX2_liesAt_73 rfl 74 rfl ?_
      refine w_goto X 78 dX2_liesAt_74 (by decide) ?_
      exact w_iret X hQ (o_inj hF) rfl rfl dX2_liesAt_78
    · refine w_iconst X 0 dX2_liesAt_77 rfl 78 rfl ?_
      exact w_iret X hQ (o_inj hF) rfl rfl dX2_liesAt_78
  refine w_tout X 79 dX2_liesAt_1 (by have := lv_neT h_1 (show (0 : Int32).toInt = 0 from rfl); have := lv_neT h_3 (show (1 : Int32).toInt = 1 from rfl); have := lv_neT h_5 (show (2 : Int32).toInt = 2 from rfl); omega) (by decide) ?_
  refine w_iload_n X 1 dX2_liesAt_79 rfl rfl 80 rfl ?_
  refine w_bipush X 9 dX2_liesAt_80 rfl 82 rfl ?_
  refine w_irem X (by decide) dX2_liesAt_82 83 rfl ?_
  refine w_let hF (fun x_7 hF => ?_)
  refine w_if_ne X hF 90 86 dX2_liesAt_83 (by decide) rfl (fun hF => ?_) (fun hF => ?_)
  · refine w_iconst X 1 dX2_liesAt_86 rfl 87 rfl ?_
    refine w_goto X 91 dX2_liesAt_87 (by decide) ?_
    exact w_iret X hQ (o_inj hF) rfl rfl dX2_liesAt_91
  · refine w_iconst X 0 dX2_liesAt_90 rfl 91 rfl ?_
    exact w_iret X hQ (o_inj hF) rfl rfl dX2_liesAt_91

def K_X1_goOn_99 (fu : Nat) (r1 : Nat) (k_36 : Nat → Int32 → Int32 → Int32 → Mem → Option (Int32 × Mem)) (k_71 : Nat → Int32 → Int32 → Int32 → Int32 → Int32 → Mem → Option (Int32 × Mem)) (iq4 : Nat) (x5 : Int32) (x6 : Int32) (x7 : Int32) (x8 : Int32) (x9 : Int32) (xs0 : Int32) (mem : Mem) : Option (Int32 × Mem) := gi x9 4 (lt_ (x7 + (offV (Int32.toNatClampNeg x9))) (fun x_11 => (if xs0 = 0 then (k_71 iq4 x5 x6 x7 x8 (x9 + 1) mem) else (if x_11 < 0 then (k_71 iq4 x5 x6 x7 x8 (x9 + 1) mem) else (if x_11 < 81 then bd (K_X2_liesAt fu r1 x_11 (rd mem (pPawn r1 iq4) 1) mem) (fun x_12 => (if x_12 = 0 then gi ((x_11 * 5) + x9) 405 (lt_ (mw mem (pBW (rd mem 28 1)) (Int32.toNatClampNeg ((x_11 * 5) + x9)) xs0) (fun m_14 => (k_71 iq4 x5 x6 x7 x8 (x9 + 1) m_14))) else bd (K_X1_sum fu x6 xs0 mem) (fun x_15 => (k_71 iq4 x5 x_15 x7 x8 (x9 + 1) mem)))) else (k_71 iq4 x5 x6 x7 x8 (x9 + 1) mem))))))
def K_X1_goOn_71 (fu : Nat) (r1 : Nat) (k_36 : Nat → Int32 → Int32 → Int32 → Mem → Option (Int32 × Mem)) : Nat → Nat → Int32 → Int32 → Int32 → Int32 → Int32 → Mem → Option (Int32 × Mem)
  | 0, _, _, _, _, _, _, _ => none
  | n + 1, iq4, x5, x6, x7, x8, x9, mem => (if x9 < 4 then (if ((x8 >>> (x9 &&& 31)) &&& 1) = 0 then (K_X1_goOn_99 fu r1 k_36 (K_X1_goOn_71 fu r1 k_36 n) iq4 x5 x6 x7 x8 x9 0 mem) else bd (K_X1_waysThat fu x7 x9 mem) (fun x_9 => (K_X1_goOn_99 fu r1 k_36 (K_X1_goOn_71 fu r1 k_36 n) iq4 x5 x6 x7 x8 x9 x_9 mem))) else (k_36 iq4 x5 x6 (x7 + 1) mem))
def K_X1_goOn_36 (fu : Nat) (r1 : Nat) : Nat → Nat → Int32 → Int32 → Int32 → Mem → Option (Int32 × Mem)
  | 0, _, _, _, _, _ => none
  | n + 1, iq4, x5, x6, x7, mem => (if x7 < 81 then gi x7 81 (gi x7 81 (lt_ ((rd mem (pOpen r1) (Int32.toNatClampNeg x7)) &&& ((x5 ||| (rd mem 31 (Int32.toNatClampNeg x7))) ^^^ (-1))) (fun x_6 => (K_X1_goOn_71 fu r1 (K_X1_goOn_36 fu r1 n) fu iq4 x5 x6 x7 x_6 0 mem)))) else lt_ (mw mem 28 0 (rd mem 28 1)) (fun m_7 => lt_ (mw m_7 28 1 (rd mem 28 0)) (fun m_8 => some (x6, m_8))))
def K_X1_goOn (fu : Nat) (r1 : Nat) (x2 : Int32) (x3 : Int32) (mem : Mem) : Option (Int32 × Mem) := bd (K_J7_fill_53178 fu (pBW (rd mem 28 1)) 405 0 mem) (fun m_1 => gi x2 4 (bd (K_X6_bannedByNumber fu r1 x2 ((rd m_1 (pPawn r1 (Int32.toNatClampNeg x2)) 3) + x3) m_1) (fun x_3 => (K_X1_goOn_36 fu r1 fu (Int32.toNatClampNeg x2) x_3 0 0 m_1))))
def rm_X1_goOn : Room := { frames := 2, cells := 0, slots := 0, locals := 46 }
set_option maxHeartbeats 4000000 in
set_option maxRecDepth 100000 in
theorem ct_X1_goOn (l : Launch) {D : va_G} {ca ad : Nat → Nat} {Z : (Nat → Prop) → State → Heap → Prop} (hZ : ZOK Z) {tO : Nat} {sK sV : Nat → Nat} (hO : ZO Z tO sK sV) (fu : Nat) {r1 : Nat} (hr1 : r1 < 10) (x2 : Int32) (x3 : Int32) (mem : Mem) (res : (Int32 × Mem)) (hF : K_X1_goOn fu r1 x2 x3 mem = some res) : CI l D (tyL ca) 255 ad (cC ca ad) Z yX1_goOn cX1_goOn 12 .int rm_X1_goOn [.ref (ad 28), .ref (ad (pRace r1)), .int x2, .int x3] mem res.1 res.2 := by
  refine start_i (own := RX1) rfl (by decide) (Nat.le_of_ble_eq_true rfl) ?_
  intro p e s m args below meth c Q hQ X
  rw [K_X1_goOn] at hF
  revert hF
  have w_99 : ∀ (k_36 : Nat → Int32 → Int32 → Int32 → Mem → Option (Int32 × Mem)) (hk_36 : ∀ (iq4 : Nat) (hiq4 : iq4 < 4) (x5 : Int32) (x6 : Int32) (x7 : Int32) (mem : Mem), k_36 iq4 x5 x6 x7 mem = some res → WW D 255 ad (cC ca ad) p l e rm_X1_goOn s m args below meth c 12 0 0 Q mem 36 [(0, .ref (ad 28)), (1, .ref (ad (pRace r1))), (4, .ref (ad (pPawn r1 iq4))), (5, .int x5), (6, .int x6), (7, .int x7)] []) (k_71 : Nat → Int32 → Int32 → Int32 → Int32 → Int32 → Mem → Option (Int32 × Mem)) (hk_71 : ∀ (iq4 : Nat) (hiq4 : iq4 < 4) (x5 : Int32) (x6 : Int32) (x7 : Int32) (x8 : Int32) (x9 : Int32) (mem : Mem), k_71 iq4 x5 x6 x7 x8 x9 mem = some res → WW D 255 ad (cC ca ad) p l e rm_X1_goOn s m args below meth c 12 0 0 Q mem 71 [(0, .ref (ad 28)), (1, .ref (ad (pRace r1))), (4, .ref (ad (pPawn r1 iq4))), (5, .int x5), (6, .int x6), (7, .int x7), (8, .int x8), (9, .int x9)] []) (iq4 : Nat) (hiq4 : iq4 < 4) (x5 : Int32) (x6 : Int32) (x7 : Int32) (x8 : Int32) (x9 : Int32) (xs0 : Int32) (mem : Mem), K_X1_goOn_99 fu r1 k_36 k_71 iq4 x5 x6 x7 x8 x9 xs0 mem = some res → WW D 255 ad (cC ca ad) p l e rm_X1_goOn s m args below meth c 12 0 0 Q mem 99 [(0, .ref (ad 28)), (1, .ref (ad (pRace r1))), (4, .ref (ad (pPawn r1 iq4))), (5, .int x5), (6, .int x6), (7, .int x7), (8, .int x8), (9, .int x9)] [.int xs0] := by
    intro k_36 hk_36 k_71 hk_71 iq4 hiq4 x5 x6 x7 x8 x9 xs0 mem hF
    rw [K_X1_goOn_99] at hF
    refine w_istore X [(10, .int xs0), (0, .ref (ad 28)), (1, .ref (ad (pRace r1))), (4, .ref (ad (pPawn r1 iq4))), (5, .int x5), (6, .int x6), (7, .int x7), (8, .int x8), (9, .int x9)] dX1_goOn_99 (by decide) rfl 101 rfl ?_
    refine w_iload X 6 dX1_goOn_101 rfl 103 rfl ?_
    refine w_offs X hO (hO _ _ _ X.2.2.2.2.2).1.2.2.1 dX1_goOn_103 106 rfl ?_
    refine w_iload X 8 dX1_goOn_106 rfl 108 rfl ?_
    refine w_gi hF (fun h_10 hF => ?_)
    refine w_offl X hO h_10 dX1_goOn_108 109 rfl ?_
    refine w_iadd X dX1_goOn_109 110 rfl ?_
    refine w_let hF (fun x_11 hF => ?_)
    refine w_istore X [(11, .int x_11), (10, .int xs0), (0, .ref (ad 28)), (1, .ref (ad (pRace r1))), (4, .ref (ad (pPawn r1 iq4))), (5, .int x5), (6, .int x6), (7, .int x7), (8, .int x8), (9, .int x9)] dX1_goOn_110 (by decide) rfl 112 rfl ?_
    refine w_iload X 1 dX1_goOn_112 rfl 114 rfl ?_
    refine w_if_eq X hF 175 117 dX1_goOn_114 (by decide) rfl (fun hF => ?_) (fun hF => ?_)
    · refine w_iinc X 9 (x9 + 1) [(9, .int (x9 + 1)), (11, .int x_11), (10, .int xs0), (0, .ref (ad 28)), (1, .ref (ad (pRace r1))), (4, .ref (ad (pPawn r1 iq4))), (5, .int x5), (6, .int x6), (7, .int x7), (8, .int x8)] dX1_goOn_175 rfl rfl (by decide) rfl 178 rfl ?_
      refine w_goto X 71 dX1_goOn_178 (by decide) ?_
      refine w_keep [3, 4, 5, 6, 7, 8, 9, 0] rfl ?_
      exact hk_71 iq4 hiq4 x5 x6 x7 x8 (x9 + 1) mem hF
    · refine w_iload X 0 dX1_goOn_117 rfl 119 rfl ?_
      refine w_if_lt X hF 175 122 dX1_goOn_119 (by decide) rfl (fun hF => ?_) (fun hF => ?_)
      · refine w_iinc X 9 (x9 + 1) [(9, .int (x9 + 1)), (11, .int x_11), (10, .int xs0), (0, .ref (ad 28)), (1, .ref (ad (pRace r1))), (4, .ref (ad (pPawn r1 iq4))), (5, .int x5), (6, .int x6), (7, .int x7), (8, .int x8)] dX1_goOn_175 rfl rfl (by decide) rfl 178 rfl ?_
        refine w_goto X 71 dX1_goOn_178 (by decide) ?_
        refine w_keep [3, 4, 5, 6, 7, 8, 9, 0] rfl ?_
        exact hk_71 iq4 hiq4 x5 x6 x7 x8 (x9 + 1) mem hF
      · refine w_iload X 0 dX1_goOn_122 rfl 124 rfl ?_
        refine w_bipush X 81 dX1_goOn_124 rfl 126 rfl ?_
        refine w_icmp_lt X hF 132 129 dX1_goOn_126 (by decide) rfl (fun hF => ?_) (fun hF => ?_)
        · refine w_aload_n X 3 dX1_goOn_132 rfl rfl 133 rfl ?_
          refine w_getV (v := .ref (ad (pBoard r1))) X (pRace r1) (lt_Race hr1) ko_Race (T := TX6) (N := 8) rfl in_X6 0 (by decide) kF_X1_87 rfl rfl dX1_goOn_133 136 rfl ?_
          refine w_iload X 0 dX1_goOn_136 rfl 138 rfl ?_
          refine w_aload X 4 dX1_goOn_138 rfl 140 rfl ?_
          refine w_getV (v := .int (rd mem (pPawn r1 iq4) 1)) X (pPawn r1 iq4) (lt_Pawn hr1 hiq4) (ko_Pawn hiq4) (T := TX4) (N := 6) rfl in_X4 1 (by decide) kF_X1_102 rfl rfl dX1_goOn_140 143 rfl ?_
          refine w_callVi (fun x => x) (fun _ => mem) X hZ hF [.int x_11, .int (rd mem (pPawn r1 iq4) 1)] (pBoard r1) (lt_Board hr1) ko_Board rfl rfl rfl kB_X2_liesAt kL_X1_105 (fun res h => ct_X2_liesAt l hZ hO fu hr1 x_11 (rd mem (pPawn r1 iq4) 1) mem res h) rfl rfl rfl ⟨Nat.le_of_ble_eq_true rfl, Nat.le_of_ble_eq_true rfl⟩ (Nat.le_of_ble_eq_true rfl) ⟨Nat.zero_le _, Nat.zero_le _⟩ dX1_goOn_143 146 rfl (fun x_12 hF => ?_)
          refine w_if_eq X hF 161 149 dX1_goOn_146 (by decide) rfl (fun hF => ?_) (fun hF => ?_)
          · refine w_aload_n X 2 dX1_goOn_161 rfl rfl 162 rfl ?_
            refine w_getV (v := .ref (ad (pBW (rd mem 28 1)))) X 28 plt_28 ko_28 (T := TX1) (N := 4) rfl in_X1 1 (by decide) kF_X1_15 rfl rfl dX1_goOn_162 165 rfl ?_
            refine w_iload X 0 dX1_goOn_165 rfl 167 rfl ?_
            refine w_iconst X 5 dX1_goOn_167 rfl 168 rfl ?_
            refine w_imul X dX1_goOn_168 169 rfl ?_
            refine w_iload X 9 dX1_goOn_169 rfl 171 rfl ?_
            refine w_iadd X dX1_goOn_171 172 rfl ?_
            refine w_iload X 1 dX1_goOn_172 rfl 174 rfl ?_
            refine w_gi hF (fun h_13 hF => ?_)
            refine w_ias X (pBW (rd mem 28 1)) lt_BW ko_BW (t0 := 0) rfl h_13 dX1_goOn_174 175 rfl ?_
            refine w_letm hF (fun m_14 hF => ?_)
            refine w_iinc X 9 (x9 + 1) [(9, .int (x9 + 1)), (11, .int x_11), (10, .int xs0), (0, .ref (ad 28)), (1, .ref (ad (pRace r1))), (4, .ref (ad (pPawn r1 iq4))), (5, .int x5), (6, .int x6), (7, .int x7), (8, .int x8)] dX1_goOn_175 rfl rfl (by decide) rfl 178 rfl ?_
            refine w_goto X 71 dX1_goOn_178 (by decide) ?_
            refine w_keep [3, 4, 5, 6, 7, 8, 9, 0] rfl ?_
            exact hk_71 iq4 hiq4 x5 x6 x7 x8 (x9 + 1) m_14 hF
          · refine w_iload X 6 dX1_goOn_149 rfl 151 rfl ?_
            refine w_iload X 1 dX1_goOn_151 rfl 153 rfl ?_
            refine w_callSi (fun x => x) (fun _ => mem) X hZ hF [.int x6, .int xs0] rfl kB_X1_sum kL_X1_109 (fun res h => ct_X1_sum l hZ hO fu x6 xs0 mem res h) rfl rfl rfl ⟨Nat.le_of_ble_eq_true rfl, Nat.le_of_ble_eq_true rfl⟩ (Nat.le_of_ble_eq_true rfl) ⟨Nat.zero_le _, Nat.zero_le _⟩ dX1_goOn_153 156 rfl (fun x_15 hF => ?_)
            refine w_istore X [(6, .int x_15), (11, .int x_11), (10, .int xs0), (0, .ref (ad 28)), (1, .ref (ad (pRace r1))), (4, .ref (ad (pPawn r1 iq4))), (5, .int x5), (7, .int x7), (8, .int x8), (9, .int x9)] dX1_goOn_156 (by decide) rfl 158 rfl ?_
            refine w_goto X 175 dX1_goOn_158 (by decide) ?_
            refine w_iinc X 9 (x9 + 1) [(9, .int (x9 + 1)), (6, .int x_15), (11, .int x_11), (10, .int xs0), (0, .ref (ad 28)), (1, .ref (ad (pRace r1))), (4, .ref (ad (pPawn r1 iq4))), (5, .int x5), (7, .int x7), (8, .int x8)] dX1_goOn_175 rfl rfl (by decide) rfl 178 rfl ?_
            refine w_goto X 71 dX1_goOn_178 (by decide) ?_
            refine w_keep [4, 5, 6, 7, 1, 8, 9, 0] rfl ?_
            exact hk_71 iq4 hiq4 x5 x_15 x7 x8 (x9 + 1) mem hF
        · refine w_goto X 175 dX1_goOn_129 (by decide) ?_
          refine w_iinc X 9 (x9 + 1) [(9, .int (x9 + 1)), (11, .int x_11), (10, .int xs0), (0, .ref (ad 28)), (1, .ref (ad (pRace r1))), (4, .ref (ad (pPawn r1 iq4))), (5, .int x5), (6, .int x6), (7, .int x7), (8, .int x8)] dX1_goOn_175 rfl rfl (by decide) rfl 178 rfl ?_
          refine w_goto X 71 dX1_goOn_178 (by decide) ?_
          refine w_keep [3, 4, 5, 6, 7, 8, 9, 0] rfl ?_
          exact hk_71 iq4 hiq4 x5 x6 x7 x8 (x9 + 1) mem hF
  have w_71 : ∀ (k_36 : Nat → Int32 → Int32 → Int32 → Mem → Option (Int32 × Mem)) (hk_36 : ∀ (iq4 : Nat) (hiq4 : iq4 < 4) (x5 : Int32) (x6 : Int32) (x7 : Int32) (mem : Mem), k_36 iq4 x5 x6 x7 mem = some res → WW D 255 ad (cC ca ad) p l e rm_X1_goOn s m args below meth c 12 0 0 Q mem 36 [(0, .ref (ad 28)), (1, .ref (ad (pRace r1))), (4, .ref (ad (pPawn r1 iq4))), (5, .int x5), (6, .int x6), (7, .int x7)] []) (n : Nat) (iq4 : Nat) (hiq4 : iq4 < 4) (x5 : Int32) (x6 : Int32) (x7 : Int32) (x8 : Int32) (x9 : Int32) (mem : Mem), K_X1_goOn_71 fu r1 k_36 n iq4 x5 x6 x7 x8 x9 mem = some res → WW D 255 ad (cC ca ad) p l e rm_X1_goOn s m args below meth c 12 0 0 Q mem 71 [(0, .ref (ad 28)), (1, .ref (ad (pRace r1))), (4, .ref (ad (pPawn r1 iq4))), (5, .int x5), (6, .int x6), (7, .int x7), (8, .int x8), (9, .int x9)] [] := by
    intro k_36 hk_36 n
    induction n with
    | zero => intro iq4 hiq4 x5 x6 x7 x8 x9 mem hF; exact no_none (show (none : Option (Int32 × Mem)) = some res from hF)
    | succ n ih =>
      intro iq4 hiq4 x5 x6 x7 x8 x9 mem hF
      rw [K_X1_goOn_71] at hF
      refine w_iload X 7 dX1_goOn_71 rfl 73 rfl ?_
      refine w_iconst X 4 dX1_goOn_73 rfl 74 rfl ?_
      refine w_icmp_ge X hF 181 77 dX1_goOn_74 (by decide) rfl (fun hF => ?_) (fun hF => ?_)
      · refine w_iload X 6 dX1_goOn_77 rfl 79 rfl ?_
        refine w_iload X 7 dX1_goOn_79 rfl 81 rfl ?_
        refine w_ishr X dX1_goOn_81 82 rfl ?_
        refine w_iconst X 1 dX1_goOn_82 rfl 83 rfl ?_
        refine w_iand X dX1_goOn_83 84 rfl ?_
        refine w_if_ne X hF 91 87 dX1_goOn_84 (by decide) rfl (fun hF => ?_) (fun hF => ?_)
        · refine w_iconst X 0 dX1_goOn_87 rfl 88 rfl ?_
          refine w_goto X 99 dX1_goOn_88 (by decide) ?_
          refine w_keep [0, 1, 2, 3, 4, 5, 6, 7] rfl ?_
          exact w_99 k_36 hk_36 (K_X1_goOn_71 fu r1 k_36 n) ih iq4 hiq4 x5 x6 x7 x8 x9 0 mem hF
        · refine w_aload_n X 0 dX1_goOn_91 rfl rfl 92 rfl ?_
          refine w_iload X 5 dX1_goOn_92 rfl 94 rfl ?_
          refine w_iload X 7 dX1_goOn_94 rfl 96 rfl ?_
          refine w_callVi (fun x => x) (fun _ => mem) X hZ hF [.int x7, .int x9] 28 plt_28 ko_28 rfl rfl rfl kB_X1_waysThat kL_X1_96 (fun res h => ct_X1_waysThat l hZ hO fu x7 x9 mem res h) rfl rfl rfl ⟨Nat.le_of_ble_eq_true rfl, Nat.le_of_ble_eq_true rfl⟩ (Nat.le_of_ble_eq_true rfl) ⟨Nat.zero_le _, Nat.zero_le _⟩ dX1_goOn_96 99 rfl (fun x_9 hF => ?_)
          refine w_keep [0, 1, 2, 3, 4, 5, 6, 7] rfl ?_
          exact w_99 k_36 hk_36 (K_X1_goOn_71 fu r1 k_36 n) ih iq4 hiq4 x5 x6 x7 x8 x9 x_9 mem hF
      · refine w_iinc X 5 (x7 + 1) [(7, .int (x7 + 1)), (0, .ref (ad 28)), (1, .ref (ad (pRace r1))), (4, .ref (ad (pPawn r1 iq4))), (5, .int x5), (6, .int x6), (8, .int x8), (9, .int x9)] dX1_goOn_181 rfl rfl (by decide) rfl 184 rfl ?_
        refine w_goto X 36 dX1_goOn_184 (by decide) ?_
        refine w_keep [1, 2, 3, 4, 5, 0] rfl ?_
        exact hk_36 iq4 hiq4 x5 x6 (x7 + 1) mem hF
  have w_36 : ∀ (n : Nat) (iq4 : Nat) (hiq4 : iq4 < 4) (x5 : Int32) (x6 : Int32) (x7 : Int32) (mem : Mem), K_X1_goOn_36 fu r1 n iq4 x5 x6 x7 mem = some res → WW D 255 ad (cC ca ad) p l e rm_X1_goOn s m args below meth c 12 0 0 Q mem 36 [(0, .ref (ad 28)), (1, .ref (ad (pRace r1))), (4, .ref (ad (pPawn r1 iq4))), (5, .int x5), (6, .int x6), (7, .int x7)] [] := by
    intro n
    induction n with
    | zero => intro iq4 hiq4 x5 x6 x7 mem hF; exact no_none (show (none : Option (Int32 × Mem)) = some res from hF)
    | succ n ih =>
      intro iq4 hiq4 x5 x6 x7 mem hF
      rw [K_X1_goOn_36] at hF
      refine w_iload X 5 dX1_goOn_36 rfl 38 rfl ?_
      refine w_bipush X 81 dX1_goOn_38 rfl 40 rfl ?_
      refine w_icmp_ge X hF 187 43 dX1_goOn_40 (by decide) rfl (fun hF => ?_) (fun hF => ?_)
      · refine w_aload_n X 1 dX1_goOn_43 rfl rfl 44 rfl ?_
        refine w_getV (v := .ref (ad (pBoard r1))) X (pRace r1) (lt_Race hr1) ko_Race (T := TX6) (N := 8) rfl in_X6 0 (by decide) kF_X1_87 rfl rfl dX1_goOn_44 47 rfl ?_
        refine w_getV (v := .ref (ad (pOpen r1))) X (pBoard r1) (lt_Board hr1) ko_Board (T := TX2) (N := 5) rfl in_X2 4 (by decide) kF_X1_91 rfl rfl dX1_goOn_47 50 rfl ?_
        refine w_iload X 5 dX1_goOn_50 rfl 52 rfl ?_
        refine w_gi hF (fun h_4 hF => ?_)
        refine w_ial X (pOpen r1) (lt_Open hr1) ko_Open (t0 := 0) rfl h_4 dX1_goOn_52 53 rfl ?_
        refine w_iload X 3 dX1_goOn_53 rfl 55 rfl ?_
        refine w_aload_n X 0 dX1_goOn_55 rfl rfl 56 rfl ?_
        refine w_getV (v := .ref (ad 31)) X 28 plt_28 ko_28 (T := TX1) (N := 4) rfl in_X1 2 (by decide) kF_X1_18 rfl rfl dX1_goOn_56 59 rfl ?_
        refine w_iload X 5 dX1_goOn_59 rfl 61 rfl ?_
        refine w_gi hF (fun h_5 hF => ?_)
        refine w_ial X 31 plt_31 ko_31 (t0 := 0) rfl h_5 dX1_goOn_61 62 rfl ?_
        refine w_ior X dX1_goOn_62 63 rfl ?_
        refine w_iconst X (-1) dX1_goOn_63 rfl 64 rfl ?_
        refine w_ixor X dX1_goOn_64 65 rfl ?_
        refine w_iand X dX1_goOn_65 66 rfl ?_
        refine w_let hF (fun x_6 hF => ?_)
        refine w_istore X [(8, .int x_6), (0, .ref (ad 28)), (1, .ref (ad (pRace r1))), (4, .ref (ad (pPawn r1 iq4))), (5, .int x5), (6, .int x6), (7, .int x7)] dX1_goOn_66 (by decide) rfl 68 rfl ?_
        refine w_iconst X 0 dX1_goOn_68 rfl 69 rfl ?_
        refine w_istore X [(9, .int 0), (8, .int x_6), (0, .ref (ad 28)), (1, .ref (ad (pRace r1))), (4, .ref (ad (pPawn r1 iq4))), (5, .int x5), (6, .int x6), (7, .int x7)] dX1_goOn_69 (by decide) rfl 71 rfl ?_
        refine w_keep [2, 3, 4, 5, 6, 7, 1, 0] rfl ?_
        exact w_71 (K_X1_goOn_36 fu r1 n) ih fu iq4 hiq4 x5 x6 x7 x_6 0 mem hF
      · refine w_aload_n X 0 dX1_goOn_187 rfl rfl 188 rfl ?_
        refine w_getV (v := .ref (ad (pBW (rd mem 28 0)))) X 28 plt_28 ko_28 (T := TX1) (N := 4) rfl in_X1 0 (by decide) kF_X1_11 rfl rfl dX1_goOn_188 191 rfl ?_
        refine w_astore X [(7, .ref (ad (pBW (rd mem 28 0)))), (0, .ref (ad 28)), (1, .ref (ad (pRace r1))), (4, .ref (ad (pPawn r1 iq4))), (5, .int x5), (6, .int x6)] dX1_goOn_191 (by decide) rfl 193 rfl ?_
        refine w_aload_n X 1 dX1_goOn_193 rfl rfl 194 rfl ?_
        refine w_aload_n X 1 dX1_goOn_194 rfl rfl 195 rfl ?_
        refine w_getV (v := .ref (ad (pBW (rd mem 28 1)))) X 28 plt_28 ko_28 (T := TX1) (N := 4) rfl in_X1 1 (by decide) kF_X1_15 rfl rfl dX1_goOn_195 198 rfl ?_
        refine w_putR (x := (rd mem 28 1)) X 28 plt_28 ko_28 (T := TX1) (N := 4) rfl in_X1 tyX1 tyX1_ok nmX1 0 (by decide) kF_X1_11 rfl rfl rfl rfl (Nat.le_of_ble_eq_true rfl) rfl dX1_goOn_198 201 rfl ?_
        refine w_letm hF (fun m_7 hF => ?_)
        refine w_aload_n X 1 dX1_goOn_201 rfl rfl 202 rfl ?_
        refine w_aload X 0 dX1_goOn_202 rfl 204 rfl ?_
        refine w_putR (x := (rd mem 28 0)) X 28 plt_28 ko_28 (T := TX1) (N := 4) rfl in_X1 tyX1 tyX1_ok nmX1 1 (by decide) kF_X1_15 rfl rfl rfl rfl (Nat.le_of_ble_eq_true rfl) rfl dX1_goOn_204 207 rfl ?_
        refine w_letm hF (fun m_8 hF => ?_)
        refine w_iload X 5 dX1_goOn_207 rfl 209 rfl ?_
        exact w_iret X hQ (o_inj1 hF) (o_inj2 hF) rfl dX1_goOn_209
  intro hF
  refine w_aload_n X 0 dX1_goOn_0 rfl rfl 1 rfl ?_
  refine w_getV (v := .ref (ad (pBW (rd mem 28 1)))) X 28 plt_28 ko_28 (T := TX1) (N := 4) rfl in_X1 1 (by decide) kF_X1_15 rfl rfl dX1_goOn_1 4 rfl ?_
  refine w_iconst X 0 dX1_goOn_4 rfl 5 rfl ?_
  refine w_callSv (fun m => m) X hZ hF [.ref (ad (pBW (rd mem 28 1))), .int 0] rfl kB_J7_fill_53178 kL_X1_45 (fun res h => ct_J7_fill_53178 l hZ hO fu lt_BW ko_BW 0 mem res h) rfl rfl rfl ⟨Nat.le_of_ble_eq_true rfl, Nat.le_of_ble_eq_true rfl⟩ (Nat.le_of_ble_eq_true rfl) ⟨Nat.zero_le _, Nat.zero_le _⟩ dX1_goOn_5 8 rfl (fun m_1 hF => ?_)
  refine w_aload_n X 1 dX1_goOn_8 rfl rfl 9 rfl ?_
  refine w_getV (v := .ref (ad (pPawns r1))) X (pRace r1) (lt_Race hr1) ko_Race (T := TX6) (N := 8) rfl in_X6 1 (by decide) kF_X1_24 rfl rfl dX1_goOn_9 12 rfl ?_
  refine w_iload_n X 2 dX1_goOn_12 rfl rfl 13 rfl ?_
  refine w_gi hF (fun h_2 hF => ?_)
  refine w_aal X (pPawns r1) (lt_Pawns hr1) (pPawn r1 (Int32.toNatClampNeg x2)) ko_Pawns (t0 := 2) rfl h_2 (el_Pawns (vp_lt h_2)) dX1_goOn_13 14 rfl ?_
  refine w_astore X [(4, .ref (ad (pPawn r1 (Int32.toNatClampNeg x2)))), (0, .ref (ad 28)), (1, .ref (ad (pRace r1))), (2, .int x2), (3, .int x3)] dX1_goOn_14 (by decide) rfl 16 rfl ?_
  refine w_aload_n X 2 dX1_goOn_16 rfl rfl 17 rfl ?_
  refine w_iload_n X 3 dX1_goOn_17 rfl rfl 18 rfl ?_
  refine w_aload X 0 dX1_goOn_18 rfl 20 rfl ?_
  refine w_getV (v := .int (rd m_1 (pPawn r1 (Int32.toNatClampNeg x2)) 3)) X (pPawn r1 (Int32.toNatClampNeg x2)) (lt_Pawn hr1 (vp_lt h_2)) (ko_Pawn (vp_lt h_2)) (T := TX4) (N := 6) rfl in_X4 3 (by decide) kF_X1_80 rfl rfl dX1_goOn_20 23 rfl ?_
  refine w_iload_n X 4 dX1_goOn_23 rfl rfl 24 rfl ?_
  refine w_iadd X dX1_goOn_24 25 rfl ?_
  refine w_callVi (fun x => x) (fun _ => m_1) X hZ hF [.int x2, .int ((rd m_1 (pPawn r1 (Int32.toNatClampNeg x2)) 3) + x3)] (pRace r1) (lt_Race hr1) ko_Race rfl rfl rfl kB_X6_bannedByNumber kL_X1_83 (fun res h => ct_X6_bannedByNumber l hZ hO fu hr1 x2 ((rd m_1 (pPawn r1 (Int32.toNatClampNeg x2)) 3) + x3) m_1 res h) rfl rfl rfl ⟨Nat.le_of_ble_eq_true rfl, Nat.le_of_ble_eq_true rfl⟩ (Nat.le_of_ble_eq_true rfl) ⟨Nat.zero_le _, Nat.zero_le _⟩ dX1_goOn_25 28 rfl (fun x_3 hF => ?_)
  refine w_istore X [(5, .int x_3), (4, .ref (ad (pPawn r1 (Int32.toNatClampNeg x2)))), (0, .ref (ad 28)), (1, .ref (ad (pRace r1))), (2, .int x2), (3, .int x3)] dX1_goOn_28 (by decide) rfl 30 rfl ?_
  refine w_iconst X 0 dX1_goOn_30 rfl 31 rfl ?_
  refine w_istore X [(6, .int 0), (5, .int x_3), (4, .ref (ad (pPawn r1 (Int32.toNatClampNeg x2)))), (0, .ref (ad 28)), (1, .ref (ad (pRace r1))), (2, .int x2), (3, .int x3)] dX1_goOn_31 (by decide) rfl 33 rfl ?_
  refine w_iconst X 0 dX1_goOn_33 rfl 34 rfl ?_
  refine w_istore X [(7, .int 0), (6, .int 0), (5, .int x_3), (4, .ref (ad (pPawn r1 (Int32.toNatClampNeg x2)))), (0, .ref (ad 28)), (1, .ref (ad (pRace r1))), (2, .int x2), (3, .int x3)] dX1_goOn_34 (by decide) rfl 36 rfl ?_
  refine w_keep [4, 5, 3, 2, 1, 0] rfl ?_
  exact w_36 fu (Int32.toNatClampNeg x2) (vp_lt h_2) x_3 0 0 m_1 hF

def K_X1_leastSteps_22 (fu : Nat) (r1 : Nat) : Nat → Int32 → Int32 → Mem → Option (Int32 × Mem)
  | 0, _, _, _ => none
  | n + 1, x2, x3, mem => (if 200 < x3 then some ((-1), mem) else bd (K_X1_goOn fu r1 x2 (x3 - 1) mem) (fun p_3 => (if p_3.1 = 0 then (K_X1_leastSteps_22 fu r1 n x2 (x3 + 1) p_3.2) else some (x3, p_3.2))))
def K_X1_leastSteps (fu : Nat) (r1 : Nat) (x2 : Int32) (mem : Mem) : Option (Int32 × Mem) := gi x2 4 ((if (rd mem (pPawn r1 (Int32.toNatClampNeg x2)) 5) = 0 then bd (K_X1_begin fu r1 x2 mem) (fun m_2 => (K_X1_leastSteps_22 fu r1 fu x2 1 m_2)) else some (0, mem)))
def rm_X1_leastSteps : Room := { frames := 3, cells := 0, slots := 0, locals := 77 }
set_option maxHeartbeats 4000000 in
set_option maxRecDepth 100000 in
theorem ct_X1_leastSteps (l : Launch) {D : va_G} {ca ad : Nat → Nat} {Z : (Nat → Prop) → State → Heap → Prop} (hZ : ZOK Z) {tO : Nat} {sK sV : Nat → Nat} (hO : ZO Z tO sK sV) (fu : Nat) {r1 : Nat} (hr1 : r1 < 10) (x2 : Int32) (mem : Mem) (res : (Int32 × Mem)) (hF : K_X1_leastSteps fu r1 x2 mem = some res) : CI l D (tyL ca) 255 ad (cC ca ad) Z yX1_leastSteps cX1_leastSteps 4 .int rm_X1_leastSteps [.ref (ad 28), .ref (ad (pRace r1)), .int x2] mem res.1 res.2 := by
  refine start_i (own := RX1) rfl (by decide) (Nat.le_of_ble_eq_true rfl) ?_
  intro p e s m args below meth c Q hQ X
  rw [K_X1_leastSteps] at hF
  revert hF
  have w_22 : ∀ (n : Nat) (x2 : Int32) (x3 : Int32) (mem : Mem), K_X1_leastSteps_22 fu r1 n x2 x3 mem = some res → WW D 255 ad (cC ca ad) p l e rm_X1_leastSteps s m args below meth c 4 0 0 Q mem 22 [(0, .ref (ad 28)), (1, .ref (ad (pRace r1))), (2, .int x2), (3, .int x3)] [] := by
    intro n
    induction n with
    | zero => intro x2 x3 mem hF; exact no_none (show (none : Option (Int32 × Mem)) = some res from hF)
    | succ n ih =>
      intro x2 x3 mem hF
      rw [K_X1_leastSteps_22] at hF
      refine w_iload_n X 3 dX1_leastSteps_22 rfl rfl 23 rfl ?_
      refine w_sipush X 200 dX1_leastSteps_23 rfl 26 rfl ?_
      refine w_icmp_gt X hF 49 29 dX1_leastSteps_26 (by decide) rfl (fun hF => ?_) (fun hF => ?_)
      · refine w_iconst X (-1) dX1_leastSteps_49 rfl 50 rfl ?_
        exact w_iret X hQ (o_inj1 hF) (o_inj2 hF) rfl dX1_leastSteps_50
      · refine w_aload_n X 0 dX1_leastSteps_29 rfl rfl 30 rfl ?_
        refine w_aload_n X 1 dX1_leastSteps_30 rfl rfl 31 rfl ?_
        refine w_iload_n X 2 dX1_leastSteps_31 rfl rfl 32 rfl ?_
        refine w_iload_n X 3 dX1_leastSteps_32 rfl rfl 33 rfl ?_
        refine w_iconst X 1 dX1_leastSteps_33 rfl 34 rfl ?_
        refine w_isub X dX1_leastSteps_34 35 rfl ?_
        refine w_callVi (fun x => x.1) (fun x => x.2) X hZ hF [.ref (ad (pRace r1)), .int x2, .int (x3 - 1)] 28 plt_28 ko_28 rfl rfl rfl kB_X1_goOn kL_X1_40 (fun res h => ct_X1_goOn l hZ hO fu hr1 x2 (x3 - 1) mem res h) rfl rfl rfl ⟨Nat.le_of_ble_eq_true rfl, Nat.le_of_ble_eq_true rfl⟩ (Nat.le_of_ble_eq_true rfl) ⟨Nat.zero_le _, Nat.zero_le _⟩ dX1_leastSteps_35 38 rfl (fun p_3 hF => ?_)
        refine w_if_eq X hF 43 41 dX1_leastSteps_38 (by decide) rfl (fun hF => ?_) (fun hF => ?_)
        · refine w_iinc X 3 (x3 + 1) [(3, .int (x3 + 1)), (0, .ref (ad 28)), (1, .ref (ad (pRace r1))), (2, .int x2)] dX1_leastSteps_43 rfl rfl (by decide) rfl 46 rfl ?_
          refine w_goto X 22 dX1_leastSteps_46 (by decide) ?_
          refine w_keep [1, 2, 3, 0] rfl ?_
          exact ih x2 (x3 + 1) p_3.2 hF
        · refine w_iload_n X 3 dX1_leastSteps_41 rfl rfl 42 rfl ?_
          exact w_iret X hQ (o_inj1 hF) (o_inj2 hF) rfl dX1_leastSteps_42
  intro hF
  refine w_aload_n X 1 dX1_leastSteps_0 rfl rfl 1 rfl ?_
  refine w_getV (v := .ref (ad (pPawns r1))) X (pRace r1) (lt_Race hr1) ko_Race (T := TX6) (N := 8) rfl in_X6 1 (by decide) kF_X1_24 rfl rfl dX1_leastSteps_1 4 rfl ?_
  refine w_iload_n X 2 dX1_leastSteps_4 rfl rfl 5 rfl ?_
  refine w_gi hF (fun h_1 hF => ?_)
  refine w_aal X (pPawns r1) (lt_Pawns hr1) (pPawn r1 (Int32.toNatClampNeg x2)) ko_Pawns (t0 := 2) rfl h_1 (el_Pawns (vp_lt h_1)) dX1_leastSteps_5 6 rfl ?_
  refine w_getV (v := .int (rd mem (pPawn r1 (Int32.toNatClampNeg x2)) 5)) X (pPawn r1 (Int32.toNatClampNeg x2)) (lt_Pawn hr1 (vp_lt h_1)) (ko_Pawn (vp_lt h_1)) (T := TX4) (N := 6) rfl in_X4 5 (by decide) kF_X1_30 rfl rfl dX1_leastSteps_6 9 rfl ?_
  refine w_if_eq X hF 14 12 dX1_leastSteps_9 (by decide) rfl (fun hF => ?_) (fun hF => ?_)
  · refine w_aload_n X 0 dX1_leastSteps_14 rfl rfl 15 rfl ?_
    refine w_aload_n X 1 dX1_leastSteps_15 rfl rfl 16 rfl ?_
    refine w_iload_n X 2 dX1_leastSteps_16 rfl rfl 17 rfl ?_
    refine w_callVv (fun m => m) X hZ hF [.ref (ad (pRace r1)), .int x2] 28 plt_28 ko_28 rfl rfl rfl kB_X1_begin kL_X1_36 (fun res h => ct_X1_begin l hZ hO fu hr1 x2 mem res h) rfl rfl rfl ⟨Nat.le_of_ble_eq_true rfl, Nat.le_of_ble_eq_true rfl⟩ (Nat.le_of_ble_eq_true rfl) ⟨Nat.zero_le _, Nat.zero_le _⟩ dX1_leastSteps_17 20 rfl (fun m_2 hF => ?_)
    refine w_iconst X 1 dX1_leastSteps_20 rfl 21 rfl ?_
    refine w_istore_n X [(3, .int 1), (0, .ref (ad 28)), (1, .ref (ad (pRace r1))), (2, .int x2)] dX1_leastSteps_21 rfl (by decide) rfl 22 rfl ?_
    refine w_keep [1, 2, 3, 0] rfl ?_
    exact w_22 fu x2 1 m_2 hF
  · refine w_iconst X 0 dX1_leastSteps_12 rfl 13 rfl ?_
    exact w_iret X hQ (o_inj1 hF) (o_inj2 hF) rfl dX1_leastSteps_13

def K_X11_errorCode (fu : Nat) (mem : Mem) : Option Int32 := some (rd mem 2 11)
def K_X11_errorPosition (fu : Nat) (mem : Mem) : Option Int32 := some (rd mem 2 12)
def K_X9_append_3 (fu : Nat) : Nat → Int32 → Int32 → Mem → Option Mem
  | 0, _, _, _ => none
  | n + 1, x1, x2, mem => (if x2 < 0 then some mem else (if (rd mem 2 1) < 700 then gi (rd mem 2 1) 700 (lt_ (mw mem 3 (Int32.toNatClampNeg (rd mem 2 1)) (vp_nar .byte (Int8.toInt32 (Int32.toInt8 (x1 >>> (x2 &&& 31)))))) (fun m_2 => lt_ (mw m_2 2 1 ((rd m_2 2 1) + 1)) (fun m_3 => (K_X9_append_3 fu n x1 (x2 + (-8)) m_3)))) else (K_X9_append_3 fu n x1 (x2 + (-8)) mem)))
def K_X9_append (fu : Nat) (x1 : Int32) (mem : Mem) : Option Mem := (K_X9_append_3 fu fu x1 24 mem)
def rm_X9_append : Room := { frames := 0, cells := 0, slots := 0, locals := 0 }
set_option maxHeartbeats 4000000 in
set_option maxRecDepth 100000 in
theorem ct_X9_append (l : Launch) {D : va_G} {ca ad : Nat → Nat} {Z : (Nat → Prop) → State → Heap → Prop} (hZ : ZOK Z) {tO : Nat} {sK sV : Nat → Nat} (hO : ZO Z tO sK sV) (fu : Nat) (x1 : Int32) (mem : Mem) (res : Mem) (hF : K_X9_append fu x1 mem = some res) : CV l D (tyL ca) 255 ad (cC ca ad) Z yX9_append cX9_append 3 rm_X9_append [.ref (ad 2), .int x1] mem res := by
  refine start_v (own := RX9) rfl (by decide) (Nat.le_of_ble_eq_true rfl) ?_
  intro p e s m args below meth c Q hQ X
  rw [K_X9_append] at hF
  revert hF
  have w_3 : ∀ (n : Nat) (x1 : Int32) (x2 : Int32) (mem : Mem), K_X9_append_3 fu n x1 x2 mem = some res → WW D 255 ad (cC ca ad) p l e rm_X9_append s m args below meth c 3 0 0 Q mem 3 [(0, .ref (ad 2)), (1, .int x1), (2, .int x2)] [] := by
    intro n
    induction n with
    | zero => intro x1 x2 mem hF; exact no_none (show (none : Option Mem) = some res from hF)
    | succ n ih =>
      intro x1 x2 mem hF
      rw [K_X9_append_3] at hF
      refine w_iload_n X 2 dX9_append_3 rfl rfl 4 rfl ?_
      refine w_if_lt X hF 46 7 dX9_append_4 (by decide) rfl (fun hF => ?_) (fun hF => ?_)
      · exact w_vret X hQ (o_inj hF) dX9_append_46
      · refine w_aload_n X 0 dX9_append_7 rfl rfl 8 rfl ?_
        refine w_getV (v := .int (rd mem 2 1)) X 2 plt_2 ko_2 (T := TX9) (N := 13) rfl in_X9 1 (by decide) kF_X9_29 rfl rfl dX9_append_8 11 rfl ?_
        refine w_sipush X 700 dX9_append_11 rfl 14 rfl ?_
        refine w_icmp_ge X hF 40 17 dX9_append_14 (by decide) rfl (fun hF => ?_) (fun hF => ?_)
        · refine w_aload_n X 0 dX9_append_17 rfl rfl 18 rfl ?_
          refine w_getV (v := .ref (ad 3)) X 2 plt_2 ko_2 (T := TX9) (N := 13) rfl in_X9 0 (by decide) kF_X9_9 rfl rfl dX9_append_18 21 rfl ?_
          refine w_aload_n X 0 dX9_append_21 rfl rfl 22 rfl ?_
          refine w_getV (v := .int (rd mem 2 1)) X 2 plt_2 ko_2 (T := TX9) (N := 13) rfl in_X9 1 (by decide) kF_X9_29 rfl rfl dX9_append_22 25 rfl ?_
          refine w_iload_n X 1 dX9_append_25 rfl rfl 26 rfl ?_
          refine w_iload_n X 2 dX9_append_26 rfl rfl 27 rfl ?_
          refine w_ishr X dX9_append_27 28 rfl ?_
          refine w_i2b X dX9_append_28 29 rfl ?_
          refine w_gi hF (fun h_1 hF => ?_)
          refine w_bas X 3 plt_3 ko_3 (t0 := 1) rfl h_1 dX9_append_29 30 rfl ?_
          refine w_letm hF (fun m_2 hF => ?_)
          refine w_aload_n X 0 dX9_append_30 rfl rfl 31 rfl ?_
          refine w_dup X dX9_append_31 rfl 32 rfl ?_
          refine w_getV (v := .int (rd m_2 2 1)) X 2 plt_2 ko_2 (T := TX9) (N := 13) rfl in_X9 1 (by decide) kF_X9_29 rfl rfl dX9_append_32 35 rfl ?_
          refine w_iconst X 1 dX9_append_35 rfl 36 rfl ?_
          refine w_iadd X dX9_append_36 37 rfl ?_
          refine w_putI X 2 plt_2 ko_2 (T := TX9) (N := 13) rfl in_X9 tyX9 tyX9_ok nmX9 1 (by decide) kF_X9_29 rfl rfl rfl rfl (Nat.le_of_ble_eq_true rfl) rfl dX9_append_37 40 rfl ?_
          refine w_letm hF (fun m_3 hF => ?_)
          refine w_iinc X 2 (x2 + (-8)) [(2, .int (x2 + (-8))), (0, .ref (ad 2)), (1, .int x1)] dX9_append_40 rfl rfl (by decide) rfl 43 rfl ?_
          refine w_goto X 3 dX9_append_43 (by decide) ?_
          refine w_keep [1, 2, 0] rfl ?_
          exact ih x1 (x2 + (-8)) m_3 hF
        · refine w_iinc X 2 (x2 + (-8)) [(2, .int (x2 + (-8))), (0, .ref (ad 2)), (1, .int x1)] dX9_append_40 rfl rfl (by decide) rfl 43 rfl ?_
          refine w_goto X 3 dX9_append_43 (by decide) ?_
          refine w_keep [1, 2, 0] rfl ?_
          exact ih x1 (x2 + (-8)) mem hF
  intro hF
  refine w_bipush X 24 dX9_append_0 rfl 2 rfl ?_
  refine w_istore_n X [(2, .int 24), (0, .ref (ad 2)), (1, .int x1)] dX9_append_2 rfl (by decide) rfl 3 rfl ?_
  refine w_keep [1, 2, 0] rfl ?_
  exact w_3 fu x1 24 mem hF

def K_X5_nearest_85 (fu : Nat) (r1 : Nat) (k_8 : Int32 → Int32 → Int32 → Int32 → Mem → Option (Int32 × Mem)) (x2 : Int32) (x5 : Int32) (x6 : Int32) (mem : Mem) : Option (Int32 × Mem) := (k_8 x2 x5 x6 (x5 + 1) mem)
def K_X5_nearest_8 (fu : Nat) (r1 : Nat) : Nat → Int32 → Int32 → Int32 → Int32 → Mem → Option (Int32 × Mem)
  | 0, _, _, _, _, _ => none
  | n + 1, x2, x3, x4, x5, mem => (if x5 < (rd mem (pRace r1) 2) then gi x5 4 ((if (rd mem (pPawn r1 (Int32.toNatClampNeg x5)) 5) = 0 then (if x5 = x2 then (K_X5_nearest_8 fu r1 n x2 x3 x4 (x5 + 1) mem) else gi x5 4 (gi x5 4 (bd (K_X10_spread fu 0 r1 (rd mem (pPawn r1 (Int32.toNatClampNeg x5)) 1) (-1) (rd mem (pPawn r1 (Int32.toNatClampNeg x5)) 0) mem) (fun p_4 => lt_ p_4.1 (fun x_5 => (if x3 = (-1) then (K_X5_nearest_85 fu r1 (K_X5_nearest_8 fu r1 n) x2 x5 x_5 p_4.2) else (if x_5 < x4 then (K_X5_nearest_85 fu r1 (K_X5_nearest_8 fu r1 n) x2 x5 x_5 p_4.2) else (K_X5_nearest_8 fu r1 n x2 x3 x4 (x5 + 1) p_4.2)))))))) else (K_X5_nearest_8 fu r1 n x2 x3 x4 (x5 + 1) mem))) else some (x3, mem))
def K_X5_nearest (fu : Nat) (r1 : Nat) (x2 : Int32) (mem : Mem) : Option (Int32 × Mem) := (K_X5_nearest_8 fu r1 fu x2 (-1) 0 0 mem)
def rm_X5_nearest : Room := { frames := 2, cells := 0, slots := 0, locals := 55 }
set_option maxHeartbeats 4000000 in
set_option maxRecDepth 100000 in
theorem ct_X5_nearest (l : Launch) {D : va_G} {ca ad : Nat → Nat} {Z : (Nat → Prop) → State → Heap → Prop} (hZ : ZOK Z) {tO : Nat} {sK sV : Nat → Nat} (hO : ZO Z tO sK sV) (fu : Nat) {r1 : Nat} (hr1 : r1 < 10) (x2 : Int32) (mem : Mem) (res : (Int32 × Mem)) (hF : K_X5_nearest fu r1 x2 mem = some res) : CI l D (tyL ca) 255 ad (cC ca ad) Z yX5_nearest cX5_nearest 7 .int rm_X5_nearest [.ref (ad 17), .ref (ad (pRace r1)), .int x2] mem res.1 res.2 := by
  refine start_i (own := RX5) rfl (by decide) (Nat.le_of_ble_eq_true rfl) ?_
  intro p e s m args below meth c Q hQ X
  rw [K_X5_nearest] at hF
  revert hF
  have w_85 : ∀ (k_8 : Int32 → Int32 → Int32 → Int32 → Mem → Option (Int32 × Mem)) (hk_8 : ∀ (x2 : Int32) (x3 : Int32) (x4 : Int32) (x5 : Int32) (mem : Mem), k_8 x2 x3 x4 x5 mem = some res → WW D 255 ad (cC ca ad) p l e rm_X5_nearest s m args below meth c 7 0 0 Q mem 8 [(0, .ref (ad 17)), (1, .ref (ad (pRace r1))), (2, .int x2), (3, .int x3), (4, .int x4), (5, .int x5)] []) (x2 : Int32) (x5 : Int32) (x6 : Int32) (mem : Mem), K_X5_nearest_85 fu r1 k_8 x2 x5 x6 mem = some res → WW D 255 ad (cC ca ad) p l e rm_X5_nearest s m args below meth c 7 0 0 Q mem 85 [(0, .ref (ad 17)), (1, .ref (ad (pRace r1))), (2, .int x2), (5, .int x5), (6, .int x6)] [] := by
    intro k_8 hk_8 x2 x5 x6 mem hF
    rw [K_X5_nearest_85] at hF
    refine w_iload X 3 dX5_nearest_85 rfl 87 rfl ?_
    refine w_istore_n X [(3, .int x5), (0, .ref (ad 17)), (1, .ref (ad (pRace r1))), (2, .int x2), (5, .int x5), (6, .int x6)] dX5_nearest_87 rfl (by decide) rfl 88 rfl ?_
    refine w_iload X 5 dX5_nearest_88 rfl 90 rfl ?_
    refine w_istore X [(4, .int x6), (3, .int x5), (0, .ref (ad 17)), (1, .ref (ad (pRace r1))), (2, .int x2), (5, .int x5), (6, .int x6)] dX5_nearest_90 (by decide) rfl 92 rfl ?_
    refine w_iinc X 5 (x5 + 1) [(5, .int (x5 + 1)), (4, .int x6), (3, .int x5), (0, .ref (ad 17)), (1, .ref (ad (pRace r1))), (2, .int x2), (6, .int x6)] dX5_nearest_92 rfl rfl (by decide) rfl 95 rfl ?_
    refine w_goto X 8 dX5_nearest_95 (by decide) ?_
    refine w_keep [3, 4, 5, 2, 1, 0] rfl ?_
    exact hk_8 x2 x5 x6 (x5 + 1) mem hF
  have w_8 : ∀ (n : Nat) (x2 : Int32) (x3 : Int32) (x4 : Int32) (x5 : Int32) (mem : Mem), K_X5_nearest_8 fu r1 n x2 x3 x4 x5 mem = some res → WW D 255 ad (cC ca ad) p l e rm_X5_nearest s m args below meth c 7 0 0 Q mem 8 [(0, .ref (ad 17)), (1, .ref (ad (pRace r1))), (2, .int x2), (3, .int x3), (4, .int x4), (5, .int x5)] [] := by
    intro n
    induction n with
    | zero => intro x2 x3 x4 x5 mem hF; exact no_none (show (none : Option (Int32 × Mem)) = some res from hF)
    | succ n ih =>
      intro x2 x3 x4 x5 mem hF
      rw [K_X5_nearest_8] at hF
      refine w_iload X 5 dX5_nearest_8 rfl 10 rfl ?_
      refine w_aload_n X 1 dX5_nearest_10 rfl rfl 11 rfl ?_
      refine w_getV (v := .int (rd mem (pRace r1) 2)) X (pRace r1) (lt_Race hr1) ko_Race (T := TX6) (N := 8) rfl in_X6 2 (by decide) kF_X5_25 rfl rfl dX5_nearest_11 14 rfl ?_
      refine w_icmp_ge X hF 98 17 dX5_nearest_14 (by decide) rfl (fun hF => ?_) (fun hF => ?_)
      · refine w_aload_n X 1 dX5_nearest_17 rfl rfl 18 rfl ?_
        refine w_getV (v := .ref (ad (pPawns r1))) X (pRace r1) (lt_Race hr1) ko_Race (T := TX6) (N := 8) rfl in_X6 1 (by decide) kF_X5_35 rfl rfl dX5_nearest_18 21 rfl ?_
        refine w_iload X 5 dX5_nearest_21 rfl 23 rfl ?_
        refine w_gi hF (fun h_1 hF => ?_)
        refine w_aal X (pPawns r1) (lt_Pawns hr1) (pPawn r1 (Int32.toNatClampNeg x5)) ko_Pawns (t0 := 2) rfl h_1 (el_Pawns (vp_lt h_1)) dX5_nearest_23 24 rfl ?_
        refine w_getV (v := .int (rd mem (pPawn r1 (Int32.toNatClampNeg x5)) 5)) X (pPawn r1 (Int32.toNatClampNeg x5)) (lt_Pawn hr1 (vp_lt h_1)) (ko_Pawn (vp_lt h_1)) (T := TX4) (N := 6) rfl in_X4 5 (by decide) kF_X5_109 rfl rfl dX5_nearest_24 27 rfl ?_
        refine w_if_ne X hF 92 30 dX5_nearest_27 (by decide) rfl (fun hF => ?_) (fun hF => ?_)
        · refine w_iload X 5 dX5_nearest_30 rfl 32 rfl ?_
          refine w_iload_n X 2 dX5_nearest_32 rfl rfl 33 rfl ?_
          refine w_icmp_ne X hF 39 36 dX5_nearest_33 (by decide) rfl (fun hF => ?_) (fun hF => ?_)
          · refine w_goto X 92 dX5_nearest_36 (by decide) ?_
            refine w_iinc X 5 (x5 + 1) [(5, .int (x5 + 1)), (0, .ref (ad 17)), (1, .ref (ad (pRace r1))), (2, .int x2), (3, .int x3), (4, .int x4)] dX5_nearest_92 rfl rfl (by decide) rfl 95 rfl ?_
            refine w_goto X 8 dX5_nearest_95 (by decide) ?_
            refine w_keep [1, 2, 3, 4, 5, 0] rfl ?_
            exact ih x2 x3 x4 (x5 + 1) mem hF
          · refine w_aload_n X 0 dX5_nearest_39 rfl rfl 40 rfl ?_
            refine w_getV (v := .ref (ad (pWays 0))) X 17 plt_17 ko_17 (T := TX5) (N := 7) rfl in_X5 0 (by decide) kF_X5_12 rfl rfl dX5_nearest_40 43 rfl ?_
            refine w_aload_n X 1 dX5_nearest_43 rfl rfl 44 rfl ?_
            refine w_getV (v := .ref (ad (pBoard r1))) X (pRace r1) (lt_Race hr1) ko_Race (T := TX6) (N := 8) rfl in_X6 0 (by decide) kF_X5_31 rfl rfl dX5_nearest_44 47 rfl ?_
            refine w_aload_n X 1 dX5_nearest_47 rfl rfl 48 rfl ?_
            refine w_getV (v := .ref (ad (pPawns r1))) X (pRace r1) (lt_Race hr1) ko_Race (T := TX6) (N := 8) rfl in_X6 1 (by decide) kF_X5_35 rfl rfl dX5_nearest_48 51 rfl ?_
            refine w_iload X 5 dX5_nearest_51 rfl 53 rfl ?_
            refine w_gi hF (fun h_2 hF => ?_)
            refine w_aal X (pPawns r1) (lt_Pawns hr1) (pPawn r1 (Int32.toNatClampNeg x5)) ko_Pawns (t0 := 2) rfl h_2 (el_Pawns (vp_lt h_2)) dX5_nearest_53 54 rfl ?_
            refine w_getV (v := .int (rd mem (pPawn r1 (Int32.toNatClampNeg x5)) 1)) X (pPawn r1 (Int32.toNatClampNeg x5)) (lt_Pawn hr1 (vp_lt h_2)) (ko_Pawn (vp_lt h_2)) (T := TX4) (N := 6) rfl in_X4 1 (by decide) kF_X5_80 rfl rfl dX5_nearest_54 57 rfl ?_
            refine w_iconst X (-1) dX5_nearest_57 rfl 58 rfl ?_
            refine w_aload_n X 1 dX5_nearest_58 rfl rfl 59 rfl ?_
            refine w_getV (v := .ref (ad (pPawns r1))) X (pRace r1) (lt_Race hr1) ko_Race (T := TX6) (N := 8) rfl in_X6 1 (by decide) kF_X5_35 rfl rfl dX5_nearest_59 62 rfl ?_
            refine w_iload X 5 dX5_nearest_62 rfl 64 rfl ?_
            refine w_gi hF (fun h_3 hF => ?_)
            refine w_aal X (pPawns r1) (lt_Pawns hr1) (pPawn r1 (Int32.toNatClampNeg x5)) ko_Pawns (t0 := 2) rfl h_3 (el_Pawns (vp_lt h_3)) dX5_nearest_64 65 rfl ?_
            refine w_getV (v := .int (rd mem (pPawn r1 (Int32.toNatClampNeg x5)) 0)) X (pPawn r1 (Int32.toNatClampNeg x5)) (lt_Pawn hr1 (vp_lt h_3)) (ko_Pawn (vp_lt h_3)) (T := TX4) (N := 6) rfl in_X4 0 (by decide) kF_X5_83 rfl rfl dX5_nearest_65 68 rfl ?_
            refine w_callVi (fun x => x.1) (fun x => x.2) X hZ hF [.ref (ad (pBoard r1)), .int (rd mem (pPawn r1 (Int32.toNatClampNeg x5)) 1), .int (-1), .int (rd mem (pPawn r1 (Int32.toNatClampNeg x5)) 0)] (pWays 0) (lt_Ways (by decide)) (ko_Ways (by decide)) rfl rfl rfl kB_X10_spread kL_X5_86 (fun res h => ct_X10_spread l hZ hO fu (by decide) hr1 (rd mem (pPawn r1 (Int32.toNatClampNeg x5)) 1) (-1) (rd mem (pPawn r1 (Int32.toNatClampNeg x5)) 0) mem res h) rfl rfl rfl ⟨Nat.le_of_ble_eq_true rfl, Nat.le_of_ble_eq_true rfl⟩ (Nat.le_of_ble_eq_true rfl) ⟨Nat.zero_le _, Nat.zero_le _⟩ dX5_nearest_68 71 rfl (fun p_4 hF => ?_)
            refine w_let hF (fun x_5 hF => ?_)
            refine w_istore X [(6, .int x_5), (0, .ref (ad 17)), (1, .ref (ad (pRace r1))), (2, .int x2), (3, .int x3), (4, .int x4), (5, .int x5)] dX5_nearest_71 (by decide) rfl 73 rfl ?_
            refine w_iload_n X 4 dX5_nearest_73 rfl rfl 74 rfl ?_
            refine w_iconst X (-1) dX5_nearest_74 rfl 75 rfl ?_
            refine w_icmp_eq X hF 85 78 dX5_nearest_75 (by decide) rfl (fun hF => ?_) (fun hF => ?_)
            · refine w_keep [1, 2, 3, 6, 0] rfl ?_
              exact w_85 (K_X5_nearest_8 fu r1 n) ih x2 x5 x_5 p_4.2 hF
            · refine w_iload X 0 dX5_nearest_78 rfl 80 rfl ?_
              refine w_iload X 5 dX5_nearest_80 rfl 82 rfl ?_
              refine w_icmp_ge X hF 92 85 dX5_nearest_82 (by decide) rfl (fun hF => ?_) (fun hF => ?_)
              · refine w_keep [1, 2, 3, 6, 0] rfl ?_
                exact w_85 (K_X5_nearest_8 fu r1 n) ih x2 x5 x_5 p_4.2 hF
              · refine w_iinc X 6 (x5 + 1) [(5, .int (x5 + 1)), (6, .int x_5), (0, .ref (ad 17)), (1, .ref (ad (pRace r1))), (2, .int x2), (3, .int x3), (4, .int x4)] dX5_nearest_92 rfl rfl (by decide) rfl 95 rfl ?_
                refine w_goto X 8 dX5_nearest_95 (by decide) ?_
                refine w_keep [2, 3, 4, 5, 6, 0] rfl ?_
                exact ih x2 x3 x4 (x5 + 1) p_4.2 hF
        · refine w_iinc X 5 (x5 + 1) [(5, .int (x5 + 1)), (0, .ref (ad 17)), (1, .ref (ad (pRace r1))), (2, .int x2), (3, .int x3), (4, .int x4)] dX5_nearest_92 rfl rfl (by decide) rfl 95 rfl ?_
          refine w_goto X 8 dX5_nearest_95 (by decide) ?_
          refine w_keep [1, 2, 3, 4, 5, 0] rfl ?_
          exact ih x2 x3 x4 (x5 + 1) mem hF
      · refine w_iload_n X 3 dX5_nearest_98 rfl rfl 99 rfl ?_
        exact w_iret X hQ (o_inj1 hF) (o_inj2 hF) rfl dX5_nearest_99
  intro hF
  refine w_iconst X (-1) dX5_nearest_0 rfl 1 rfl ?_
  refine w_istore_n X [(3, .int (-1)), (0, .ref (ad 17)), (1, .ref (ad (pRace r1))), (2, .int x2)] dX5_nearest_1 rfl (by decide) rfl 2 rfl ?_
  refine w_iconst X 0 dX5_nearest_2 rfl 3 rfl ?_
  refine w_istore X [(4, .int 0), (3, .int (-1)), (0, .ref (ad 17)), (1, .ref (ad (pRace r1))), (2, .int x2)] dX5_nearest_3 (by decide) rfl 5 rfl ?_
  refine w_iconst X 0 dX5_nearest_5 rfl 6 rfl ?_
  refine w_istore X [(5, .int 0), (4, .int 0), (3, .int (-1)), (0, .ref (ad 17)), (1, .ref (ad (pRace r1))), (2, .int x2)] dX5_nearest_6 (by decide) rfl 8 rfl ?_
  refine w_keep [3, 4, 5, 2, 1, 0] rfl ?_
  exact w_8 fu x2 (-1) 0 0 mem hF

def K_X5_rivalAhead_30 (fu : Nat) (r1 : Nat) (iq2 : Nat) (xs0 : Int32) (mem : Mem) : Option (Int32 × Mem) := (if xs0 = (-1) then some ((-1), mem) else bd (K_X10_measure fu 0 r1 r1 iq2 mem) (fun p_3 => lt_ p_3.1 (fun x_4 => gi xs0 4 (bd (K_X10_measure fu 0 r1 r1 (Int32.toNatClampNeg xs0) p_3.2) (fun p_6 => (if p_6.1 < x_4 then some (xs0, p_6.2) else some ((-1), p_6.2)))))))
def K_X5_rivalAhead (fu : Nat) (r1 : Nat) (mem : Mem) : Option (Int32 × Mem) := gi (rd mem (pRace r1) 6) 4 ((if 0 < (rd mem (pPawn r1 (Int32.toNatClampNeg (rd mem (pRace r1) 6))) 2) then bd (K_X5_nearest fu r1 (rd mem (pRace r1) 6) mem) (fun p_2 => (K_X5_rivalAhead_30 fu r1 (Int32.toNatClampNeg (rd mem (pRace r1) 6)) p_2.1 p_2.2)) else (K_X5_rivalAhead_30 fu r1 (Int32.toNatClampNeg (rd mem (pRace r1) 6)) (-1) mem)))
def rm_X5_rivalAhead : Room := { frames := 3, cells := 0, slots := 0, locals := 81 }
set_option maxHeartbeats 4000000 in
set_option maxRecDepth 100000 in
theorem ct_X5_rivalAhead (l : Launch) {D : va_G} {ca ad : Nat → Nat} {Z : (Nat → Prop) → State → Heap → Prop} (hZ : ZOK Z) {tO : Nat} {sK sV : Nat → Nat} (hO : ZO Z tO sK sV) (fu : Nat) {r1 : Nat} (hr1 : r1 < 10) (mem : Mem) (res : (Int32 × Mem)) (hF : K_X5_rivalAhead fu r1 mem = some res) : CI l D (tyL ca) 255 ad (cC ca ad) Z yX5_rivalAhead cX5_rivalAhead 5 .int rm_X5_rivalAhead [.ref (ad 17), .ref (ad (pRace r1))] mem res.1 res.2 := by
  refine start_i (own := RX5) rfl (by decide) (Nat.le_of_ble_eq_true rfl) ?_
  intro p e s m args below meth c Q hQ X
  rw [K_X5_rivalAhead] at hF
  revert hF
  have w_30 : ∀ (iq2 : Nat) (hiq2 : iq2 < 4) (xs0 : Int32) (mem : Mem), K_X5_rivalAhead_30 fu r1 iq2 xs0 mem = some res → WW D 255 ad (cC ca ad) p l e rm_X5_rivalAhead s m args below meth c 5 0 0 Q mem 30 [(0, .ref (ad 17)), (1, .ref (ad (pRace r1))), (2, .ref (ad (pPawn r1 iq2)))] [.int xs0] := by
    intro iq2 hiq2 xs0 mem hF
    rw [K_X5_rivalAhead_30] at hF
    refine w_istore_n X [(3, .int xs0), (0, .ref (ad 17)), (1, .ref (ad (pRace r1))), (2, .ref (ad (pPawn r1 iq2)))] dX5_rivalAhead_30 rfl (by decide) rfl 31 rfl ?_
    refine w_iload_n X 0 dX5_rivalAhead_31 rfl rfl 32 rfl ?_
    refine w_iconst X (-1) dX5_rivalAhead_32 rfl 33 rfl ?_
    refine w_icmp_ne X hF 38 36 dX5_rivalAhead_33 (by decide) rfl (fun hF => ?_) (fun hF => ?_)
    · refine w_iconst X (-1) dX5_rivalAhead_36 rfl 37 rfl ?_
      exact w_iret X hQ (o_inj1 hF) (o_inj2 hF) rfl dX5_rivalAhead_37
    · refine w_aload_n X 1 dX5_rivalAhead_38 rfl rfl 39 rfl ?_
      refine w_getV (v := .ref (ad (pWays 0))) X 17 plt_17 ko_17 (T := TX5) (N := 7) rfl in_X5 0 (by decide) kF_X5_12 rfl rfl dX5_rivalAhead_39 42 rfl ?_
      refine w_aload_n X 2 dX5_rivalAhead_42 rfl rfl 43 rfl ?_
      refine w_getV (v := .ref (ad (pBoard r1))) X (pRace r1) (lt_Race hr1) ko_Race (T := TX6) (N := 8) rfl in_X6 0 (by decide) kF_X5_31 rfl rfl dX5_rivalAhead_43 46 rfl ?_
      refine w_aload_n X 3 dX5_rivalAhead_46 rfl rfl 47 rfl ?_
      refine w_callVi (fun x => x.1) (fun x => x.2) X hZ hF [.ref (ad (pBoard r1)), .ref (ad (pPawn r1 iq2))] (pWays 0) (lt_Ways (by decide)) (ko_Ways (by decide)) rfl rfl rfl kB_X10_measure kL_X5_39 (fun res h => ct_X10_measure l hZ hO fu (by decide) hr1 hr1 hiq2 mem res h) rfl rfl rfl ⟨Nat.le_of_ble_eq_true rfl, Nat.le_of_ble_eq_true rfl⟩ (Nat.le_of_ble_eq_true rfl) ⟨Nat.zero_le _, Nat.zero_le _⟩ dX5_rivalAhead_47 50 rfl (fun p_3 hF => ?_)
      refine w_let hF (fun x_4 hF => ?_)
      refine w_istore X [(4, .int x_4), (3, .int xs0), (0, .ref (ad 17)), (1, .ref (ad (pRace r1))), (2, .ref (ad (pPawn r1 iq2)))] dX5_rivalAhead_50 (by decide) rfl 52 rfl ?_
      refine w_aload_n X 2 dX5_rivalAhead_52 rfl rfl 53 rfl ?_
      refine w_getV (v := .ref (ad (pWays 0))) X 17 plt_17 ko_17 (T := TX5) (N := 7) rfl in_X5 0 (by decide) kF_X5_12 rfl rfl dX5_rivalAhead_53 56 rfl ?_
      refine w_aload_n X 3 dX5_rivalAhead_56 rfl rfl 57 rfl ?_
      refine w_getV (v := .ref (ad (pBoard r1))) X (pRace r1) (lt_Race hr1) ko_Race (T := TX6) (N := 8) rfl in_X6 0 (by decide) kF_X5_31 rfl rfl dX5_rivalAhead_57 60 rfl ?_
      refine w_aload_n X 3 dX5_rivalAhead_60 rfl rfl 61 rfl ?_
      refine w_getV (v := .ref (ad (pPawns r1))) X (pRace r1) (lt_Race hr1) ko_Race (T := TX6) (N := 8) rfl in_X6 1 (by decide) kF_X5_35 rfl rfl dX5_rivalAhead_61 64 rfl ?_
      refine w_iload_n X 1 dX5_rivalAhead_64 rfl rfl 65 rfl ?_
      refine w_gi hF (fun h_5 hF => ?_)
      refine w_aal X (pPawns r1) (lt_Pawns hr1) (pPawn r1 (Int32.toNatClampNeg xs0)) ko_Pawns (t0 := 2) rfl h_5 (el_Pawns (vp_lt h_5)) dX5_rivalAhead_65 66 rfl ?_
      refine w_callVi (fun x => x.1) (fun x => x.2) X hZ hF [.ref (ad (pBoard r1)), .ref (ad (pPawn r1 (Int32.toNatClampNeg xs0)))] (pWays 0) (lt_Ways (by decide)) (ko_Ways (by decide)) rfl rfl rfl kB_X10_measure kL_X5_39 (fun res h => ct_X10_measure l hZ hO fu (by decide) hr1 hr1 (vp_lt h_5) p_3.2 res h) rfl rfl rfl ⟨Nat.le_of_ble_eq_true rfl, Nat.le_of_ble_eq_true rfl⟩ (Nat.le_of_ble_eq_true rfl) ⟨Nat.zero_le _, Nat.zero_le _⟩ dX5_rivalAhead_66 69 rfl (fun p_6 hF => ?_)
      refine w_iload X 0 dX5_rivalAhead_69 rfl 71 rfl ?_
      refine w_icmp_ge X hF 78 74 dX5_rivalAhead_71 (by decide) rfl (fun hF => ?_) (fun hF => ?_)
      · refine w_iload_n X 1 dX5_rivalAhead_74 rfl rfl 75 rfl ?_
        refine w_goto X 79 dX5_rivalAhead_75 (by decide) ?_
        exact w_iret X hQ (o_inj1 hF) (o_inj2 hF) rfl dX5_rivalAhead_79
      · refine w_iconst X (-1) dX5_rivalAhead_78 rfl 79 rfl ?_
        exact w_iret X hQ (o_inj1 hF) (o_inj2 hF) rfl dX5_rivalAhead_79
  intro hF
  refine w_aload_n X 1 dX5_rivalAhead_0 rfl rfl 1 rfl ?_
  refine w_getV (v := .ref (ad (pPawns r1))) X (pRace r1) (lt_Race hr1) ko_Race (T := TX6) (N := 8) rfl in_X6 1 (by decide) kF_X5_35 rfl rfl dX5_rivalAhead_1 4 rfl ?_
  refine w_aload_n X 1 dX5_rivalAhead_4 rfl rfl 5 rfl ?_
  refine w_getV (v := .int (rd mem (pRace r1) 6)) X (pRace r1) (lt_Race hr1) ko_Race (T := TX6) (N := 8) rfl in_X6 6 (by decide) kF_X5_55 rfl rfl dX5_rivalAhead_5 8 rfl ?_
  refine w_gi hF (fun h_1 hF => ?_)
  refine w_aal X (pPawns r1) (lt_Pawns hr1) (pPawn r1 (Int32.toNatClampNeg (rd mem (pRace r1) 6))) ko_Pawns (t0 := 2) rfl h_1 (el_Pawns (vp_lt h_1)) dX5_rivalAhead_8 9 rfl ?_
  refine w_astore_n X [(2, .ref (ad (pPawn r1 (Int32.toNatClampNeg (rd mem (pRace r1) 6))))), (0, .ref (ad 17)), (1, .ref (ad (pRace r1)))] dX5_rivalAhead_9 rfl (by decide) rfl 10 rfl ?_
  refine w_aload_n X 0 dX5_rivalAhead_10 rfl rfl 11 rfl ?_
  refine w_getV (v := .int (rd mem (pPawn r1 (Int32.toNatClampNeg (rd mem (pRace r1) 6))) 2)) X (pPawn r1 (Int32.toNatClampNeg (rd mem (pRace r1) 6))) (lt_Pawn hr1 (vp_lt h_1)) (ko_Pawn (vp_lt h_1)) (T := TX4) (N := 6) rfl in_X4 2 (by decide) kF_X5_58 rfl rfl dX5_rivalAhead_11 14 rfl ?_
  refine w_if_le X hF 29 17 dX5_rivalAhead_14 (by decide) rfl (fun hF => ?_) (fun hF => ?_)
  · refine w_aload_n X 1 dX5_rivalAhead_17 rfl rfl 18 rfl ?_
    refine w_aload_n X 2 dX5_rivalAhead_18 rfl rfl 19 rfl ?_
    refine w_aload_n X 2 dX5_rivalAhead_19 rfl rfl 20 rfl ?_
    refine w_getV (v := .int (rd mem (pRace r1) 6)) X (pRace r1) (lt_Race hr1) ko_Race (T := TX6) (N := 8) rfl in_X6 6 (by decide) kF_X5_55 rfl rfl dX5_rivalAhead_20 23 rfl ?_
    refine w_callVi (fun x => x.1) (fun x => x.2) X hZ hF [.ref (ad (pRace r1)), .int (rd mem (pRace r1) 6)] 17 plt_17 ko_17 rfl rfl rfl kB_X5_nearest kL_X5_167 (fun res h => ct_X5_nearest l hZ hO fu hr1 (rd mem (pRace r1) 6) mem res h) rfl rfl rfl ⟨Nat.le_of_ble_eq_true rfl, Nat.le_of_ble_eq_true rfl⟩ (Nat.le_of_ble_eq_true rfl) ⟨Nat.zero_le _, Nat.zero_le _⟩ dX5_rivalAhead_23 26 rfl (fun p_2 hF => ?_)
    refine w_goto X 30 dX5_rivalAhead_26 (by decide) ?_
    refine w_keep [1, 2, 0] rfl ?_
    exact w_30 (Int32.toNatClampNeg (rd mem (pRace r1) 6)) (vp_lt h_1) p_2.1 p_2.2 hF
  · refine w_iconst X (-1) dX5_rivalAhead_29 rfl 30 rfl ?_
    refine w_keep [1, 2, 0] rfl ?_
    exact w_30 (Int32.toNatClampNeg (rd mem (pRace r1) 6)) (vp_lt h_1) (-1) mem hF

def K_X6_move_79 (fu : Nat) (r : Nat) (mem : Mem) : Option Mem := bd (K_X6_endTurn fu r mem) (fun m_9 => some m_9)
def K_X6_move (fu : Nat) (r : Nat) (x1 : Int32) (mem : Mem) : Option Mem := bd (K_X6_landing fu r (rd mem (pRace r) 6) x1 mem) (fun x_1 => (if x_1 = (-1) then some mem else gi (rd mem (pRace r) 6) 4 (lt_ (mw mem (pPawn r (Int32.toNatClampNeg (rd mem (pRace r) 6))) 0 x_1) (fun m_3 => lt_ (mw m_3 (pPawn r (Int32.toNatClampNeg (rd mem (pRace r) 6))) 3 ((rd m_3 (pPawn r (Int32.toNatClampNeg (rd mem (pRace r) 6))) 3) + 1)) (fun m_4 => lt_ (mw m_4 (pPawn r (Int32.toNatClampNeg (rd mem (pRace r) 6))) 4 x1) (fun m_5 => bd (K_X2_liesAt fu r x_1 (rd m_5 (pPawn r (Int32.toNatClampNeg (rd mem (pRace r) 6))) 1) m_5) (fun x_6 => (if x_6 = 0 then (K_X6_move_79 fu r m_5) else lt_ (mw m_5 (pRace r) 7 ((rd m_5 (pRace r) 7) + 1)) (fun m_7 => lt_ (mw m_7 (pPawn r (Int32.toNatClampNeg (rd mem (pRace r) 6))) 5 (rd m_7 (pRace r) 7)) (fun m_8 => (K_X6_move_79 fu r m_8)))))))))))
def rm_X6_move : Room := { frames := 3, cells := 0, slots := 0, locals := 72 }
set_option maxHeartbeats 4000000 in
set_option maxRecDepth 100000 in
theorem ct_X6_move (l : Launch) {D : va_G} {ca ad : Nat → Nat} {Z : (Nat → Prop) → State → Heap → Prop} (hZ : ZOK Z) {tO : Nat} {sK sV : Nat → Nat} (hO : ZO Z tO sK sV) (fu : Nat) {r : Nat} (hr : r < 10) (x1 : Int32) (mem : Mem) (res : Mem) (hF : K_X6_move fu r x1 mem = some res) : CV l D (tyL ca) 255 ad (cC ca ad) Z yX6_move cX6_move 4 rm_X6_move [.ref (ad (pRace r)), .int x1] mem res := by
  refine start_v (own := RX6) rfl (by decide) (Nat.le_of_ble_eq_true rfl) ?_
  intro p e s m args below meth c Q hQ X
  rw [K_X6_move] at hF
  revert hF
  have w_79 : ∀ (mem : Mem), K_X6_move_79 fu r mem = some res → WW D 255 ad (cC ca ad) p l e rm_X6_move s m args below meth c 4 0 0 Q mem 79 [(0, .ref (ad (pRace r)))] [] := by
    intro mem hF
    rw [K_X6_move_79] at hF
    refine w_aload_n X 0 dX6_move_79 rfl rfl 80 rfl ?_
    refine w_callVv (fun m => m) X hZ hF [] (pRace r) (lt_Race hr) ko_Race rfl rfl rfl kB_X6_endTurn kL_X6_117 (fun res h => ct_X6_endTurn l hZ hO fu hr mem res h) rfl rfl rfl ⟨Nat.le_of_ble_eq_true rfl, Nat.le_of_ble_eq_true rfl⟩ (Nat.le_of_ble_eq_true rfl) ⟨Nat.zero_le _, Nat.zero_le _⟩ dX6_move_80 83 rfl (fun m_9 hF => ?_)
    exact w_vret X hQ (o_inj hF) dX6_move_83
  intro hF
  refine w_aload_n X 0 dX6_move_0 rfl rfl 1 rfl ?_
  refine w_aload_n X 0 dX6_move_1 rfl rfl 2 rfl ?_
  refine w_getV (v := .int (rd mem (pRace r) 6)) X (pRace r) (lt_Race hr) ko_Race (T := TX6) (N := 8) rfl in_X6 6 (by decide) kF_X6_46 rfl rfl dX6_move_2 5 rfl ?_
  refine w_iload_n X 1 dX6_move_5 rfl rfl 6 rfl ?_
  refine w_callVi (fun x => x) (fun _ => mem) X hZ hF [.int (rd mem (pRace r) 6), .int x1] (pRace r) (lt_Race hr) ko_Race rfl rfl rfl kB_X6_landing kL_X6_107 (fun res h => ct_X6_landing l hZ hO fu hr (rd mem (pRace r) 6) x1 mem res h) rfl rfl rfl ⟨Nat.le_of_ble_eq_true rfl, Nat.le_of_ble_eq_true rfl⟩ (Nat.le_of_ble_eq_true rfl) ⟨Nat.zero_le _, Nat.zero_le _⟩ dX6_move_6 9 rfl (fun x_1 hF => ?_)
  refine w_istore_n X [(2, .int x_1), (0, .ref (ad (pRace r))), (1, .int x1)] dX6_move_9 rfl (by decide) rfl 10 rfl ?_
  refine w_iload_n X 0 dX6_move_10 rfl rfl 11 rfl ?_
  refine w_iconst X (-1) dX6_move_11 rfl 12 rfl ?_
  refine w_icmp_ne X hF 16 15 dX6_move_12 (by decide) rfl (fun hF => ?_) (fun hF => ?_)
  · exact w_vret X hQ (o_inj hF) dX6_move_15
  · refine w_aload_n X 1 dX6_move_16 rfl rfl 17 rfl ?_
    refine w_getV (v := .ref (ad (pPawns r))) X (pRace r) (lt_Race hr) ko_Race (T := TX6) (N := 8) rfl in_X6 1 (by decide) kF_X6_20 rfl rfl dX6_move_17 20 rfl ?_
    refine w_aload_n X 1 dX6_move_20 rfl rfl 21 rfl ?_
    refine w_getV (v := .int (rd mem (pRace r) 6)) X (pRace r) (lt_Race hr) ko_Race (T := TX6) (N := 8) rfl in_X6 6 (by decide) kF_X6_46 rfl rfl dX6_move_21 24 rfl ?_
    refine w_gi hF (fun h_2 hF => ?_)
    refine w_aal X (pPawns r) (lt_Pawns hr) (pPawn r (Int32.toNatClampNeg (rd mem (pRace r) 6))) ko_Pawns (t0 := 2) rfl h_2 (el_Pawns (vp_lt h_2)) dX6_move_24 25 rfl ?_
    refine w_astore_n X [(3, .ref (ad (pPawn r (Int32.toNatClampNeg (rd mem (pRace r) 6))))), (2, .int x_1), (0, .ref (ad (pRace r))), (1, .int x1)] dX6_move_25 rfl (by decide) rfl 26 rfl ?_
    refine w_aload_n X 0 dX6_move_26 rfl rfl 27 rfl ?_
    refine w_iload_n X 1 dX6_move_27 rfl rfl 28 rfl ?_
    refine w_putI X (pPawn r (Int32.toNatClampNeg (rd mem (pRace r) 6))) (lt_Pawn hr (vp_lt h_2)) (ko_Pawn (vp_lt h_2)) (T := TX4) (N := 6) rfl in_X4 tyX4 tyX4_ok nmX4 0 (by decide) kF_X6_62 rfl rfl rfl rfl (Nat.le_of_ble_eq_true rfl) rfl dX6_move_28 31 rfl ?_
    refine w_letm hF (fun m_3 hF => ?_)
    refine w_aload_n X 0 dX6_move_31 rfl rfl 32 rfl ?_
    refine w_dup X dX6_move_32 rfl 33 rfl ?_
    refine w_getV (v := .int (rd m_3 (pPawn r (Int32.toNatClampNeg (rd mem (pRace r) 6))) 3)) X (pPawn r (Int32.toNatClampNeg (rd mem (pRace r) 6))) (lt_Pawn hr (vp_lt h_2)) (ko_Pawn (vp_lt h_2)) (T := TX4) (N := 6) rfl in_X4 3 (by decide) kF_X6_71 rfl rfl dX6_move_33 36 rfl ?_
    refine w_iconst X 1 dX6_move_36 rfl 37 rfl ?_
    refine w_iadd X dX6_move_37 38 rfl ?_
    refine w_putI X (pPawn r (Int32.toNatClampNeg (rd mem (pRace r) 6))) (lt_Pawn hr (vp_lt h_2)) (ko_Pawn (vp_lt h_2)) (T := TX4) (N := 6) rfl in_X4 tyX4 tyX4_ok nmX4 3 (by decide) kF_X6_71 rfl rfl rfl rfl (Nat.le_of_ble_eq_true rfl) rfl dX6_move_38 41 rfl ?_
    refine w_letm hF (fun m_4 hF => ?_)
    refine w_aload_n X 0 dX6_move_41 rfl rfl 42 rfl ?_
    refine w_iload_n X 3 dX6_move_42 rfl rfl 43 rfl ?_
    refine w_putI X (pPawn r (Int32.toNatClampNeg (rd mem (pRace r) 6))) (lt_Pawn hr (vp_lt h_2)) (ko_Pawn (vp_lt h_2)) (T := TX4) (N := 6) rfl in_X4 tyX4 tyX4_ok nmX4 4 (by decide) kF_X6_74 rfl rfl rfl rfl (Nat.le_of_ble_eq_true rfl) rfl dX6_move_43 46 rfl ?_
    refine w_letm hF (fun m_5 hF => ?_)
    refine w_aload_n X 2 dX6_move_46 rfl rfl 47 rfl ?_
    refine w_getV (v := .ref (ad (pBoard r))) X (pRace r) (lt_Race hr) ko_Race (T := TX6) (N := 8) rfl in_X6 0 (by decide) kF_X6_12 rfl rfl dX6_move_47 50 rfl ?_
    refine w_iload_n X 1 dX6_move_50 rfl rfl 51 rfl ?_
    refine w_aload_n X 0 dX6_move_51 rfl rfl 52 rfl ?_
    refine w_getV (v := .int (rd m_5 (pPawn r (Int32.toNatClampNeg (rd mem (pRace r) 6))) 1)) X (pPawn r (Int32.toNatClampNeg (rd mem (pRace r) 6))) (lt_Pawn hr (vp_lt h_2)) (ko_Pawn (vp_lt h_2)) (T := TX4) (N := 6) rfl in_X4 1 (by decide) kF_X6_65 rfl rfl dX6_move_52 55 rfl ?_
    refine w_callVi (fun x => x) (fun _ => m_5) X hZ hF [.int x_1, .int (rd m_5 (pPawn r (Int32.toNatClampNeg (rd mem (pRace r) 6))) 1)] (pBoard r) (lt_Board hr) ko_Board rfl rfl rfl kB_X2_liesAt kL_X6_113 (fun res h => ct_X2_liesAt l hZ hO fu hr x_1 (rd m_5 (pPawn r (Int32.toNatClampNeg (rd mem (pRace r) 6))) 1) m_5 res h) rfl rfl rfl ⟨Nat.le_of_ble_eq_true rfl, Nat.le_of_ble_eq_true rfl⟩ (Nat.le_of_ble_eq_true rfl) ⟨Nat.zero_le _, Nat.zero_le _⟩ dX6_move_55 58 rfl (fun x_6 hF => ?_)
    refine w_if_eq X hF 79 61 dX6_move_58 (by decide) rfl (fun hF => ?_) (fun hF => ?_)
    · refine w_keep [2] rfl ?_
      exact w_79 m_5 hF
    · refine w_aload_n X 2 dX6_move_61 rfl rfl 62 rfl ?_
      refine w_dup X dX6_move_62 rfl 63 rfl ?_
      refine w_getV (v := .int (rd m_5 (pRace r) 7)) X (pRace r) (lt_Race hr) ko_Race (T := TX6) (N := 8) rfl in_X6 7 (by decide) kF_X6_49 rfl rfl dX6_move_63 66 rfl ?_
      refine w_iconst X 1 dX6_move_66 rfl 67 rfl ?_
      refine w_iadd X dX6_move_67 68 rfl ?_
      refine w_putI X (pRace r) (lt_Race hr) ko_Race (T := TX6) (N := 8) rfl in_X6 tyX6 tyX6_ok nmX6 7 (by decide) kF_X6_49 rfl rfl rfl rfl (Nat.le_of_ble_eq_true rfl) rfl dX6_move_68 71 rfl ?_
      refine w_letm hF (fun m_7 hF => ?_)
      refine w_aload_n X 0 dX6_move_71 rfl rfl 72 rfl ?_
      refine w_aload_n X 2 dX6_move_72 rfl rfl 73 rfl ?_
      refine w_getV (v := .int (rd m_7 (pRace r) 7)) X (pRace r) (lt_Race hr) ko_Race (T := TX6) (N := 8) rfl in_X6 7 (by decide) kF_X6_49 rfl rfl dX6_move_73 76 rfl ?_
      refine w_putI X (pPawn r (Int32.toNatClampNeg (rd mem (pRace r) 6))) (lt_Pawn hr (vp_lt h_2)) (ko_Pawn (vp_lt h_2)) (T := TX4) (N := 6) rfl in_X4 tyX4 tyX4_ok nmX4 5 (by decide) kF_X6_77 rfl rfl rfl rfl (Nat.le_of_ble_eq_true rfl) rfl dX6_move_76 79 rfl ?_
      refine w_letm hF (fun m_8 hF => ?_)
      refine w_keep [2] rfl ?_
      exact w_79 m_8 hF

def K_X5_playTurns_75 (fu : Nat) (r1 : Nat) (k_3 : Int32 → Int32 → Int32 → Mem → Option (Int32 × Mem)) (x2 : Int32) (x3 : Int32) (x4 : Int32) (mem : Mem) : Option (Int32 × Mem) := bd (K_X5_advise fu r1 (rd mem (pRace r1) 6) mem) (fun p_5 => lt_ p_5.1 (fun x_6 => (if x_6 = (-1) then bd (K_X6_endTurn fu r1 p_5.2) (fun m_7 => (k_3 x2 x3 (x4 + 1) m_7)) else bd (K_X6_move fu r1 x_6 p_5.2) (fun m_8 => (k_3 x2 x3 (x4 + 1) m_8)))))
def K_X5_playTurns_30 (fu : Nat) (r1 : Nat) (k_3 : Int32 → Int32 → Int32 → Mem → Option (Int32 × Mem)) (x2 : Int32) (x3 : Int32) (x4 : Int32) (xs0 : Int32) (mem : Mem) : Option (Int32 × Mem) := (if xs0 = (-1) then (K_X5_playTurns_75 fu r1 k_3 x2 x3 x4 mem) else bd (K_X5_findBest fu r1 xs0 mem) (fun p_3 => (if p_3.1 = 0 then (K_X5_playTurns_75 fu r1 k_3 x2 x3 x4 p_3.2) else (if (rd p_3.2 17 6) < 1 then (K_X5_playTurns_75 fu r1 k_3 x2 x3 x4 p_3.2) else bd (K_X6_buildWall fu r1 (rd p_3.2 17 3) (rd p_3.2 17 4) (rd p_3.2 17 5) p_3.2) (fun m_4 => (k_3 x2 x3 (x4 + 1) m_4))))))
def K_X5_playTurns_3 (fu : Nat) (r1 : Nat) : Nat → Int32 → Int32 → Int32 → Mem → Option (Int32 × Mem)
  | 0, _, _, _, _ => none
  | n + 1, x2, x3, x4, mem => (if x4 < x3 then bd (K_X6_hasEnded fu r1 mem) (fun x_1 => (if x_1 = 0 then (if x2 = 1 then bd (K_X5_rivalAhead fu r1 mem) (fun p_2 => (K_X5_playTurns_30 fu r1 (K_X5_playTurns_3 fu r1 n) x2 x3 x4 p_2.1 p_2.2)) else (K_X5_playTurns_30 fu r1 (K_X5_playTurns_3 fu r1 n) x2 x3 x4 (-1) mem)) else some (x4, mem))) else some (x4, mem))
def K_X5_playTurns (fu : Nat) (r1 : Nat) (x2 : Int32) (x3 : Int32) (mem : Mem) : Option (Int32 × Mem) := (K_X5_playTurns_3 fu r1 fu x2 x3 0 mem)
def rm_X5_playTurns : Room := { frames := 4, cells := 0, slots := 0, locals := 107 }
set_option maxHeartbeats 4000000 in
set_option maxRecDepth 100000 in
theorem ct_X5_playTurns (l : Launch) {D : va_G} {ca ad : Nat → Nat} {Z : (Nat → Prop) → State → Heap → Prop} (hZ : ZOK Z) {tO : Nat} {sK sV : Nat → Nat} (hO : ZO Z tO sK sV) (fu : Nat) {r1 : Nat} (hr1 : r1 < 10) (x2 : Int32) (x3 : Int32) (mem : Mem) (res : (Int32 × Mem)) (hF : K_X5_playTurns fu r1 x2 x3 mem = some res) : CI l D (tyL ca) 255 ad (cC ca ad) Z yX5_playTurns cX5_playTurns 7 .int rm_X5_playTurns [.ref (ad 17), .ref (ad (pRace r1)), .int x2, .int x3] mem res.1 res.2 := by
  refine start_i (own := RX5) rfl (by decide) (Nat.le_of_ble_eq_true rfl) ?_
  intro p e s m args below meth c Q hQ X
  rw [K_X5_playTurns] at hF
  revert hF
  have w_75 : ∀ (k_3 : Int32 → Int32 → Int32 → Mem → Option (Int32 × Mem)) (hk_3 : ∀ (x2 : Int32) (x3 : Int32) (x4 : Int32) (mem : Mem), k_3 x2 x3 x4 mem = some res → WW D 255 ad (cC ca ad) p l e rm_X5_playTurns s m args below meth c 7 0 0 Q mem 3 [(0, .ref (ad 17)), (1, .ref (ad (pRace r1))), (2, .int x2), (3, .int x3), (4, .int x4)] []) (x2 : Int32) (x3 : Int32) (x4 : Int32) (mem : Mem), K_X5_playTurns_75 fu r1 k_3 x2 x3 x4 mem = some res → WW D 255 ad (cC ca ad) p l e rm_X5_playTurns s m args below meth c 7 0 0 Q mem 75 [(0, .ref (ad 17)), (1, .ref (ad (pRace r1))), (2, .int x2), (3, .int x3), (4, .int x4)] [] := by
    intro k_3 hk_3 x2 x3 x4 mem hF
    rw [K_X5_playTurns_75] at hF
    refine w_aload_n X 0 dX5_playTurns_75 rfl rfl 76 rfl ?_
    refine w_aload_n X 1 dX5_playTurns_76 rfl rfl 77 rfl ?_
    refine w_aload_n X 1 dX5_playTurns_77 rfl rfl 78 rfl ?_
    refine w_getV (v := .int (rd mem (pRace r1) 6)) X (pRace r1) (lt_Race hr1) ko_Race (T := TX6) (N := 8) rfl in_X6 6 (by decide) kF_X5_55 rfl rfl dX5_playTurns_78 81 rfl ?_
    refine w_callVi (fun x => x.1) (fun x => x.2) X hZ hF [.ref (ad (pRace r1)), .int (rd mem (pRace r1) 6)] 17 plt_17 ko_17 rfl rfl rfl kB_X5_advise kL_X5_156 (fun res h => ct_X5_advise l hZ hO fu hr1 (rd mem (pRace r1) 6) mem res h) rfl rfl rfl ⟨Nat.le_of_ble_eq_true rfl, Nat.le_of_ble_eq_true rfl⟩ (Nat.le_of_ble_eq_true rfl) ⟨Nat.zero_le _, Nat.zero_le _⟩ dX5_playTurns_81 84 rfl (fun p_5 hF => ?_)
    refine w_let hF (fun x_6 hF => ?_)
    refine w_istore X [(6, .int x_6), (0, .ref (ad 17)), (1, .ref (ad (pRace r1))), (2, .int x2), (3, .int x3), (4, .int x4)] dX5_playTurns_84 (by decide) rfl 86 rfl ?_
    refine w_iload X 0 dX5_playTurns_86 rfl 88 rfl ?_
    refine w_iconst X (-1) dX5_playTurns_88 rfl 89 rfl ?_
    refine w_icmp_ne X hF 99 92 dX5_playTurns_89 (by decide) rfl (fun hF => ?_) (fun hF => ?_)
    · refine w_aload_n X 2 dX5_playTurns_92 rfl rfl 93 rfl ?_
      refine w_callVv (fun m => m) X hZ hF [] (pRace r1) (lt_Race hr1) ko_Race rfl rfl rfl kB_X6_endTurn kL_X5_160 (fun res h => ct_X6_endTurn l hZ hO fu hr1 p_5.2 res h) rfl rfl rfl ⟨Nat.le_of_ble_eq_true rfl, Nat.le_of_ble_eq_true rfl⟩ (Nat.le_of_ble_eq_true rfl) ⟨Nat.zero_le _, Nat.zero_le _⟩ dX5_playTurns_93 96 rfl (fun m_7 hF => ?_)
      refine w_goto X 105 dX5_playTurns_96 (by decide) ?_
      refine w_iinc X 5 (x4 + 1) [(4, .int (x4 + 1)), (6, .int x_6), (0, .ref (ad 17)), (1, .ref (ad (pRace r1))), (2, .int x2), (3, .int x3)] dX5_playTurns_105 rfl rfl (by decide) rfl 108 rfl ?_
      refine w_goto X 3 dX5_playTurns_108 (by decide) ?_
      refine w_keep [2, 3, 4, 5, 0] rfl ?_
      exact hk_3 x2 x3 (x4 + 1) m_7 hF
    · refine w_aload_n X 2 dX5_playTurns_99 rfl rfl 100 rfl ?_
      refine w_iload X 0 dX5_playTurns_100 rfl 102 rfl ?_
      refine w_callVv (fun m => m) X hZ hF [.int x_6] (pRace r1) (lt_Race hr1) ko_Race rfl rfl rfl kB_X6_move kL_X5_163 (fun res h => ct_X6_move l hZ hO fu hr1 x_6 p_5.2 res h) rfl rfl rfl ⟨Nat.le_of_ble_eq_true rfl, Nat.le_of_ble_eq_true rfl⟩ (Nat.le_of_ble_eq_true rfl) ⟨Nat.zero_le _, Nat.zero_le _⟩ dX5_playTurns_102 105 rfl (fun m_8 hF => ?_)
      refine w_iinc X 5 (x4 + 1) [(4, .int (x4 + 1)), (6, .int x_6), (0, .ref (ad 17)), (1, .ref (ad (pRace r1))), (2, .int x2), (3, .int x3)] dX5_playTurns_105 rfl rfl (by decide) rfl 108 rfl ?_
      refine w_goto X 3 dX5_playTurns_108 (by decide) ?_
      refine w_keep [2, 3, 4, 5, 0] rfl ?_
      exact hk_3 x2 x3 (x4 + 1) m_8 hF
  have w_30 : ∀ (k_3 : Int32 → Int32 → Int32 → Mem → Option (Int32 × Mem)) (hk_3 : ∀ (x2 : Int32) (x3 : Int32) (x4 : Int32) (mem : Mem), k_3 x2 x3 x4 mem = some res → WW D 255 ad (cC ca ad) p l e rm_X5_playTurns s m args below meth c 7 0 0 Q mem 3 [(0, .ref (ad 17)), (1, .ref (ad (pRace r1))), (2, .int x2), (3, .int x3), (4, .int x4)] []) (x2 : Int32) (x3 : Int32) (x4 : Int32) (xs0 : Int32) (mem : Mem), K_X5_playTurns_30 fu r1 k_3 x2 x3 x4 xs0 mem = some res → WW D 255 ad (cC ca ad) p l e rm_X5_playTurns s m args below meth c 7 0 0 Q mem 30 [(0, .ref (ad 17)), (1, .ref (ad (pRace r1))), (2, .int x2), (3, .int x3), (4, .int x4)] [.int xs0] := by
    intro k_3 hk_3 x2 x3 x4 xs0 mem hF
    rw [K_X5_playTurns_30] at hF
    refine w_istore X [(5, .int xs0), (0, .ref (ad 17)), (1, .ref (ad (pRace r1))), (2, .int x2), (3, .int x3), (4, .int x4)] dX5_playTurns_30 (by decide) rfl 32 rfl ?_
    refine w_iload X 0 dX5_playTurns_32 rfl 34 rfl ?_
    refine w_iconst X (-1) dX5_playTurns_34 rfl 35 rfl ?_
    refine w_icmp_eq X hF 75 38 dX5_playTurns_35 (by decide) rfl (fun hF => ?_) (fun hF => ?_)
    · refine w_keep [1, 2, 3, 4, 5] rfl ?_
      exact w_75 k_3 hk_3 x2 x3 x4 mem hF
    · refine w_aload_n X 1 dX5_playTurns_38 rfl rfl 39 rfl ?_
      refine w_aload_n X 2 dX5_playTurns_39 rfl rfl 40 rfl ?_
      refine w_iload X 0 dX5_playTurns_40 rfl 42 rfl ?_
      refine w_callVi (fun x => x.1) (fun x => x.2) X hZ hF [.ref (ad (pRace r1)), .int xs0] 17 plt_17 ko_17 rfl rfl rfl kB_X5_findBest kL_X5_149 (fun res h => ct_X5_findBest l hZ hO fu hr1 xs0 mem res h) rfl rfl rfl ⟨Nat.le_of_ble_eq_true rfl, Nat.le_of_ble_eq_true rfl⟩ (Nat.le_of_ble_eq_true rfl) ⟨Nat.zero_le _, Nat.zero_le _⟩ dX5_playTurns_42 45 rfl (fun p_3 hF => ?_)
      refine w_if_eq X hF 75 48 dX5_playTurns_45 (by decide) rfl (fun hF => ?_) (fun hF => ?_)
      · refine w_keep [1, 2, 3, 4, 5] rfl ?_
        exact w_75 k_3 hk_3 x2 x3 x4 p_3.2 hF
      · refine w_aload_n X 1 dX5_playTurns_48 rfl rfl 49 rfl ?_
        refine w_getV (v := .int (rd p_3.2 17 6)) X 17 plt_17 ko_17 (T := TX5) (N := 7) rfl in_X5 6 (by decide) kF_X5_120 rfl rfl dX5_playTurns_49 52 rfl ?_
        refine w_iconst X 1 dX5_playTurns_52 rfl 53 rfl ?_
        refine w_icmp_lt X hF 75 56 dX5_playTurns_53 (by decide) rfl (fun hF => ?_) (fun hF => ?_)
        · refine w_keep [1, 2, 3, 4, 5] rfl ?_
          exact w_75 k_3 hk_3 x2 x3 x4 p_3.2 hF
        · refine w_aload_n X 2 dX5_playTurns_56 rfl rfl 57 rfl ?_
          refine w_aload_n X 1 dX5_playTurns_57 rfl rfl 58 rfl ?_
          refine w_getV (v := .int (rd p_3.2 17 3)) X 17 plt_17 ko_17 (T := TX5) (N := 7) rfl in_X5 3 (by decide) kF_X5_131 rfl rfl dX5_playTurns_58 61 rfl ?_
          refine w_aload_n X 1 dX5_playTurns_61 rfl rfl 62 rfl ?_
          refine w_getV (v := .int (rd p_3.2 17 4)) X 17 plt_17 ko_17 (T := TX5) (N := 7) rfl in_X5 4 (by decide) kF_X5_134 rfl rfl dX5_playTurns_62 65 rfl ?_
          refine w_aload_n X 1 dX5_playTurns_65 rfl rfl 66 rfl ?_
          refine w_getV (v := .int (rd p_3.2 17 5)) X 17 plt_17 ko_17 (T := TX5) (N := 7) rfl in_X5 5 (by decide) kF_X5_137 rfl rfl dX5_playTurns_66 69 rfl ?_
          refine w_callVv (fun m => m) X hZ hF [.int (rd p_3.2 17 3), .int (rd p_3.2 17 4), .int (rd p_3.2 17 5)] (pRace r1) (lt_Race hr1) ko_Race rfl rfl rfl kB_X6_buildWall kL_X5_153 (fun res h => ct_X6_buildWall l hZ hO fu hr1 (rd p_3.2 17 3) (rd p_3.2 17 4) (rd p_3.2 17 5) p_3.2 res h) rfl rfl rfl ⟨Nat.le_of_ble_eq_true rfl, Nat.le_of_ble_eq_true rfl⟩ (Nat.le_of_ble_eq_true rfl) ⟨Nat.zero_le _, Nat.zero_le _⟩ dX5_playTurns_69 72 rfl (fun m_4 hF => ?_)
          refine w_goto X 105 dX5_playTurns_72 (by decide) ?_
          refine w_iinc X 5 (x4 + 1) [(4, .int (x4 + 1)), (5, .int xs0), (0, .ref (ad 17)), (1, .ref (ad (pRace r1))), (2, .int x2), (3, .int x3)] dX5_playTurns_105 rfl rfl (by decide) rfl 108 rfl ?_
          refine w_goto X 3 dX5_playTurns_108 (by decide) ?_
          refine w_keep [2, 3, 4, 5, 0] rfl ?_
          exact hk_3 x2 x3 (x4 + 1) m_4 hF
  have w_3 : ∀ (n : Nat) (x2 : Int32) (x3 : Int32) (x4 : Int32) (mem : Mem), K_X5_playTurns_3 fu r1 n x2 x3 x4 mem = some res → WW D 255 ad (cC ca ad) p l e rm_X5_playTurns s m args below meth c 7 0 0 Q mem 3 [(0, .ref (ad 17)), (1, .ref (ad (pRace r1))), (2, .int x2), (3, .int x3), (4, .int x4)] [] := by
    intro n
    induction n with
    | zero => intro x2 x3 x4 mem hF; exact no_none (show (none : Option (Int32 × Mem)) = some res from hF)
    | succ n ih =>
      intro x2 x3 x4 mem hF
      rw [K_X5_playTurns_3] at hF
      refine w_iload X 4 dX5_playTurns_3 rfl 5 rfl ?_
      refine w_iload_n X 3 dX5_playTurns_5 rfl rfl 6 rfl ?_
      refine w_icmp_ge X hF 111 9 dX5_playTurns_6 (by decide) rfl (fun hF => ?_) (fun hF => ?_)
      · refine w_aload_n X 1 dX5_playTurns_9 rfl rfl 10 rfl ?_
        refine w_callVi (fun x => x) (fun _ => mem) X hZ hF [] (pRace r1) (lt_Race hr1) ko_Race rfl rfl rfl kB_X6_hasEnded kL_X5_51 (fun res h => ct_X6_hasEnded l hZ hO fu hr1 mem res h) rfl rfl rfl ⟨Nat.le_of_ble_eq_true rfl, Nat.le_of_ble_eq_true rfl⟩ (Nat.le_of_ble_eq_true rfl) ⟨Nat.zero_le _, Nat.zero_le _⟩ dX5_playTurns_10 13 rfl (fun x_1 hF => ?_)
        refine w_if_ne X hF 111 16 dX5_playTurns_13 (by decide) rfl (fun hF => ?_) (fun hF => ?_)
        · refine w_iload_n X 2 dX5_playTurns_16 rfl rfl 17 rfl ?_
          refine w_iconst X 1 dX5_playTurns_17 rfl 18 rfl ?_
          refine w_icmp_ne X hF 29 21 dX5_playTurns_18 (by decide) rfl (fun hF => ?_) (fun hF => ?_)
          · refine w_aload_n X 0 dX5_playTurns_21 rfl rfl 22 rfl ?_
            refine w_aload_n X 1 dX5_playTurns_22 rfl rfl 23 rfl ?_
            refine w_callVi (fun x => x.1) (fun x => x.2) X hZ hF [.ref (ad (pRace r1))] 17 plt_17 ko_17 rfl rfl rfl kB_X5_rivalAhead kL_X5_145 (fun res h => ct_X5_rivalAhead l hZ hO fu hr1 mem res h) rfl rfl rfl ⟨Nat.le_of_ble_eq_true rfl, Nat.le_of_ble_eq_true rfl⟩ (Nat.le_of_ble_eq_true rfl) ⟨Nat.zero_le _, Nat.zero_le _⟩ dX5_playTurns_23 26 rfl (fun p_2 hF => ?_)
            refine w_goto X 30 dX5_playTurns_26 (by decide) ?_
            refine w_keep [0, 1, 2, 3, 4] rfl ?_
            exact w_30 (K_X5_playTurns_3 fu r1 n) ih x2 x3 x4 p_2.1 p_2.2 hF
          · refine w_iconst X (-1) dX5_playTurns_29 rfl 30 rfl ?_
            refine w_keep [0, 1, 2, 3, 4] rfl ?_
            exact w_30 (K_X5_playTurns_3 fu r1 n) ih x2 x3 x4 (-1) mem hF
        · refine w_iload X 4 dX5_playTurns_111 rfl 113 rfl ?_
          exact w_iret X hQ (o_inj1 hF) (o_inj2 hF) rfl dX5_playTurns_113
      · refine w_iload X 4 dX5_playTurns_111 rfl 113 rfl ?_
        exact w_iret X hQ (o_inj1 hF) (o_inj2 hF) rfl dX5_playTurns_113
  intro hF
  refine w_iconst X 0 dX5_playTurns_0 rfl 1 rfl ?_
  refine w_istore X [(4, .int 0), (0, .ref (ad 17)), (1, .ref (ad (pRace r1))), (2, .int x2), (3, .int x3)] dX5_playTurns_1 (by decide) rfl 3 rfl ?_
  refine w_keep [1, 2, 3, 4, 0] rfl ?_
  exact w_3 fu x2 x3 0 mem hF

def K_X2_openWithoutWalls_51 (fu : Nat) (r : Nat) (mem : Mem) (x1 : Int32) (xs0 : Int32) (xs1 : Int32) : Option Int32 := (if 0 < x1 then some ((xs1 ||| xs0) ||| 8) else some ((xs1 ||| xs0) ||| 0))
def K_X2_openWithoutWalls_41 (fu : Nat) (r : Nat) (mem : Mem) (x1 : Int32) (x2 : Int32) (xs0 : Int32) (xs1 : Int32) : Option Int32 := (if 0 < x2 then (K_X2_openWithoutWalls_51 fu r mem x1 4 (xs1 ||| xs0) ) else (K_X2_openWithoutWalls_51 fu r mem x1 0 (xs1 ||| xs0) ))
def K_X2_openWithoutWalls_26 (fu : Nat) (r : Nat) (mem : Mem) (x1 : Int32) (x2 : Int32) (xs0 : Int32) : Option Int32 := (if x1 < ((rd mem (pBoard r) 0) - 1) then (K_X2_openWithoutWalls_41 fu r mem x1 x2 2 xs0 ) else (K_X2_openWithoutWalls_41 fu r mem x1 x2 0 xs0 ))
def K_X2_openWithoutWalls (fu : Nat) (r : Nat) (x1 : Int32) (x2 : Int32) (mem : Mem) : Option Int32 := bd (K_X2_hasCell fu r x1 x2 mem) (fun x_1 => (if x_1 = 0 then some 0 else (if x2 < ((rd mem (pBoard r) 1) - 1) then (K_X2_openWithoutWalls_26 fu r mem x1 x2 1 ) else (K_X2_openWithoutWalls_26 fu r mem x1 x2 0 ))))
def rm_X2_openWithoutWalls : Room := { frames := 1, cells := 0, slots := 0, locals := 22 }
set_option maxHeartbeats 4000000 in
set_option maxRecDepth 100000 in
theorem ct_X2_openWithoutWalls (l : Launch) {D : va_G} {ca ad : Nat → Nat} {Z : (Nat → Prop) → State → Heap → Prop} (hZ : ZOK Z) {tO : Nat} {sK sV : Nat → Nat} (hO : ZO Z tO sK sV) (fu : Nat) {r : Nat} (hr : r < 10) (x1 : Int32) (x2 : Int32) (mem : Mem) (res : Int32) (hF : K_X2_openWithoutWalls fu r x1 x2 mem = some res) : CI l D (tyL ca) 255 ad (cC ca ad) Z yX2_openWithoutWalls cX2_openWithoutWalls 3 .int rm_X2_openWithoutWalls [.ref (ad (pBoard r)), .int x1, .int x2] mem res mem := by
  refine start_i (own := RX2) rfl (by decide) (Nat.le_of_ble_eq_true rfl) ?_
  intro p e s m args below meth c Q hQ X
  rw [K_X2_openWithoutWalls] at hF
  revert hF
  have w_51 : ∀ (x1 : Int32) (xs0 : Int32) (xs1 : Int32), K_X2_openWithoutWalls_51 fu r mem x1 xs0 xs1 = some res → WW D 255 ad (cC ca ad) p l e rm_X2_openWithoutWalls s m args below meth c 3 0 0 Q mem 51 [(1, .int x1)] [.int xs0, .int xs1] := by
    intro x1 xs0 xs1 hF
    rw [K_X2_openWithoutWalls_51] at hF
    refine w_ior X dX2_openWithoutWalls_51 52 rfl ?_
    refine w_iload_n X 0 dX2_openWithoutWalls_52 rfl rfl 53 rfl ?_
    refine w_if_le X hF 61 56 dX2_openWithoutWalls_53 (by decide) rfl (fun hF => ?_) (fun hF => ?_)
    · refine w_bipush X 8 dX2_openWithoutWalls_56 rfl 58 rfl ?_
      refine w_goto X 62 dX2_openWithoutWalls_58 (by decide) ?_
      refine w_ior X dX2_openWithoutWalls_62 63 rfl ?_
      exact w_iret X hQ (o_inj hF) rfl rfl dX2_openWithoutWalls_63
    · refine w_iconst X 0 dX2_openWithoutWalls_61 rfl 62 rfl ?_
      refine w_ior X dX2_openWithoutWalls_62 63 rfl ?_
      exact w_iret X hQ (o_inj hF) rfl rfl dX2_openWithoutWalls_63
  have w_41 : ∀ (x1 : Int32) (x2 : Int32) (xs0 : Int32) (xs1 : Int32), K_X2_openWithoutWalls_41 fu r mem x1 x2 xs0 xs1 = some res → WW D 255 ad (cC ca ad) p l e rm_X2_openWithoutWalls s m args below meth c 3 0 0 Q mem 41 [(1, .int x1), (2, .int x2)] [.int xs0, .int xs1] := by
    intro x1 x2 xs0 xs1 hF
    rw [K_X2_openWithoutWalls_41] at hF
    refine w_ior X dX2_openWithoutWalls_41 42 rfl ?_
    refine w_iload_n X 1 dX2_openWithoutWalls_42 rfl rfl 43 rfl ?_
    refine w_if_le X hF 50 46 dX2_openWithoutWalls_43 (by decide) rfl (fun hF => ?_) (fun hF => ?_)
    · refine w_iconst X 4 dX2_openWithoutWalls_46 rfl 47 rfl ?_
      refine w_goto X 51 dX2_openWithoutWalls_47 (by decide) ?_
      refine w_keep [0] rfl ?_
      exact w_51 x1 4 (xs1 ||| xs0)  hF
    · refine w_iconst X 0 dX2_openWithoutWalls_50 rfl 51 rfl ?_
      refine w_keep [0] rfl ?_
      exact w_51 x1 0 (xs1 ||| xs0)  hF
  have w_26 : ∀ (x1 : Int32) (x2 : Int32) (xs0 : Int32), K_X2_openWithoutWalls_26 fu r mem x1 x2 xs0 = some res → WW D 255 ad (cC ca ad) p l e rm_X2_openWithoutWalls s m args below meth c 3 0 0 Q mem 26 [(0, .ref (ad (pBoard r))), (1, .int x1), (2, .int x2)] [.int xs0] := by
    intro x1 x2 xs0 hF
    rw [K_X2_openWithoutWalls_26] at hF
    refine w_iload_n X 1 dX2_openWithoutWalls_26 rfl rfl 27 rfl ?_
    refine w_aload_n X 0 dX2_openWithoutWalls_27 rfl rfl 28 rfl ?_
    refine w_getV (v := .int (rd mem (pBoard r) 0)) X (pBoard r) (lt_Board hr) ko_Board (T := TX2) (N := 5) rfl in_X2 0 (by decide) kF_X2_22 rfl rfl dX2_openWithoutWalls_28 31 rfl ?_
    refine w_iconst X 1 dX2_openWithoutWalls_31 rfl 32 rfl ?_
    refine w_isub X dX2_openWithoutWalls_32 33 rfl ?_
    refine w_icmp_ge X hF 40 36 dX2_openWithoutWalls_33 (by decide) rfl (fun hF => ?_) (fun hF => ?_)
    · refine w_iconst X 2 dX2_openWithoutWalls_36 rfl 37 rfl ?_
      refine w_goto X 41 dX2_openWithoutWalls_37 (by decide) ?_
      refine w_keep [1, 2] rfl ?_
      exact w_41 x1 x2 2 xs0  hF
    · refine w_iconst X 0 dX2_openWithoutWalls_40 rfl 41 rfl ?_
      refine w_keep [1, 2] rfl ?_
      exact w_41 x1 x2 0 xs0  hF
  intro hF
  refine w_aload_n X 0 dX2_openWithoutWalls_0 rfl rfl 1 rfl ?_
  refine w_iload_n X 1 dX2_openWithoutWalls_1 rfl rfl 2 rfl ?_
  refine w_iload_n X 2 dX2_openWithoutWalls_2 rfl rfl 3 rfl ?_
  refine w_callVi (fun x => x) (fun _ => mem) X hZ hF [.int x1, .int x2] (pBoard r) (lt_Board hr) ko_Board rfl rfl rfl kB_X2_hasCell kL_X2_42 (fun res h => ct_X2_hasCell l hZ hO fu hr x1 x2 mem res h) rfl rfl rfl ⟨Nat.le_of_ble_eq_true rfl, Nat.le_of_ble_eq_true rfl⟩ (Nat.le_of_ble_eq_true rfl) ⟨Nat.zero_le _, Nat.zero_le _⟩ dX2_openWithoutWalls_3 6 rfl (fun x_1 hF => ?_)
  refine w_if_ne X hF 11 9 dX2_openWithoutWalls_6 (by decide) rfl (fun hF => ?_) (fun hF => ?_)
  · refine w_iconst X 0 dX2_openWithoutWalls_9 rfl 10 rfl ?_
    exact w_iret X hQ (o_inj hF) rfl rfl dX2_openWithoutWalls_10
  · refine w_iload_n X 2 dX2_openWithoutWalls_11 rfl rfl 12 rfl ?_
    refine w_aload_n X 0 dX2_openWithoutWalls_12 rfl rfl 13 rfl ?_
    refine w_getV (v := .int (rd mem (pBoard r) 1)) X (pBoard r) (lt_Board hr) ko_Board (T := TX2) (N := 5) rfl in_X2 1 (by decide) kF_X2_26 rfl rfl dX2_openWithoutWalls_13 16 rfl ?_
    refine w_iconst X 1 dX2_openWithoutWalls_16 rfl 17 rfl ?_
    refine w_isub X dX2_openWithoutWalls_17 18 rfl ?_
    refine w_icmp_ge X hF 25 21 dX2_openWithoutWalls_18 (by decide) rfl (fun hF => ?_) (fun hF => ?_)
    · refine w_iconst X 1 dX2_openWithoutWalls_21 rfl 22 rfl ?_
      refine w_goto X 26 dX2_openWithoutWalls_22 (by decide) ?_
      refine w_keep [0, 1, 2] rfl ?_
      exact w_26 x1 x2 1  hF
    · refine w_iconst X 0 dX2_openWithoutWalls_25 rfl 26 rfl ?_
      refine w_keep [0, 1, 2] rfl ?_
      exact w_26 x1 x2 0  hF

def K_X2_clear_25 (fu : Nat) (r : Nat) : Nat → Int32 → Mem → Option Mem
  | 0, _, _ => none
  | n + 1, x3, mem => (if x3 < 81 then lt_ (x3 - x3 / 9 * 9) (fun x_5 => lt_ (x3 / 9) (fun x_6 => bd (K_X2_openWithoutWalls fu r x_5 x_6 mem) (fun x_7 => gi x3 81 (lt_ (mw mem (pOpen r) (Int32.toNatClampNeg x3) x_7) (fun m_9 => (K_X2_clear_25 fu r n (x3 + 1) m_9)))))) else some mem)
def K_X2_clear (fu : Nat) (r : Nat) (x1 : Int32) (x2 : Int32) (mem : Mem) : Option Mem := lt_ (mw mem (pBoard r) 0 x1) (fun m_1 => lt_ (mw m_1 (pBoard r) 1 x2) (fun m_2 => lt_ (mw m_2 (pBoard r) 2 0) (fun m_3 => bd (K_J7_fill_53178 fu (pBuilt r) 64 (-1) m_3) (fun m_4 => (K_X2_clear_25 fu r fu 0 m_4)))))
def rm_X2_clear : Room := { frames := 2, cells := 0, slots := 0, locals := 44 }
set_option maxHeartbeats 4000000 in
set_option maxRecDepth 100000 in
theorem ct_X2_clear (l : Launch) {D : va_G} {ca ad : Nat → Nat} {Z : (Nat → Prop) → State → Heap → Prop} (hZ : ZOK Z) {tO : Nat} {sK sV : Nat → Nat} (hO : ZO Z tO sK sV) (fu : Nat) {r : Nat} (hr : r < 10) (x1 : Int32) (x2 : Int32) (mem : Mem) (res : Mem) (hF : K_X2_clear fu r x1 x2 mem = some res) : CV l D (tyL ca) 255 ad (cC ca ad) Z yX2_clear cX2_clear 4 rm_X2_clear [.ref (ad (pBoard r)), .int x1, .int x2] mem res := by
  refine start_v (own := RX2) rfl (by decide) (Nat.le_of_ble_eq_true rfl) ?_
  intro p e s m args below meth c Q hQ X
  rw [K_X2_clear] at hF
  revert hF
  have w_25 : ∀ (n : Nat) (x3 : Int32) (mem : Mem), K_X2_clear_25 fu r n x3 mem = some res → WW D 255 ad (cC ca ad) p l e rm_X2_clear s m args below meth c 4 0 0 Q mem 25 [(0, .ref (ad (pBoard r))), (3, .int x3)] [] := by
    intro n
    induction n with
    | zero => intro x3 mem hF; exact no_none (show (none : Option Mem) = some res from hF)
    | succ n ih =>
      intro x3 mem hF
      rw [K_X2_clear_25] at hF
      refine w_iload_n X 1 dX2_clear_25 rfl rfl 26 rfl ?_
      refine w_bipush X 81 dX2_clear_26 rfl 28 rfl ?_
      refine w_icmp_ge X hF 55 31 dX2_clear_28 (by decide) rfl (fun hF => ?_) (fun hF => ?_)
      · refine w_aload_n X 0 dX2_clear_31 rfl rfl 32 rfl ?_
        refine w_getV (v := .ref (ad (pOpen r))) X (pBoard r) (lt_Board hr) ko_Board (T := TX2) (N := 5) rfl in_X2 4 (by decide) kF_X2_15 rfl rfl dX2_clear_32 35 rfl ?_
        refine w_iload_n X 1 dX2_clear_35 rfl rfl 36 rfl ?_
        refine w_aload_n X 0 dX2_clear_36 rfl rfl 37 rfl ?_
        refine w_iload_n X 1 dX2_clear_37 rfl rfl 38 rfl ?_
        refine w_bipush X 9 dX2_clear_38 rfl 40 rfl ?_
        refine w_irem X (by decide) dX2_clear_40 41 rfl ?_
        refine w_let hF (fun x_5 hF => ?_)
        refine w_iload_n X 1 dX2_clear_41 rfl rfl 42 rfl ?_
        refine w_bipush X 9 dX2_clear_42 rfl 44 rfl ?_
        refine w_idiv X (by decide) dX2_clear_44 45 rfl ?_
        refine w_let hF (fun x_6 hF => ?_)
        refine w_callVi (fun x => x) (fun _ => mem) X hZ hF [.int x_5, .int x_6] (pBoard r) (lt_Board hr) ko_Board rfl rfl rfl kB_X2_openWithoutWalls kL_X2_38 (fun res h => ct_X2_openWithoutWalls l hZ hO fu hr x_5 x_6 mem res h) rfl rfl rfl ⟨Nat.le_of_ble_eq_true rfl, Nat.le_of_ble_eq_true rfl⟩ (Nat.le_of_ble_eq_true rfl) ⟨Nat.zero_le _, Nat.zero_le _⟩ dX2_clear_45 48 rfl (fun x_7 hF => ?_)
        refine w_gi hF (fun h_8 hF => ?_)
        refine w_ias X (pOpen r) (lt_Open hr) ko_Open (t0 := 0) rfl h_8 dX2_clear_48 49 rfl ?_
        refine w_letm hF (fun m_9 hF => ?_)
        refine w_iinc X 1 (x3 + 1) [(3, .int (x3 + 1)), (0, .ref (ad (pBoard r)))] dX2_clear_49 rfl rfl (by decide) rfl 52 rfl ?_
        refine w_goto X 25 dX2_clear_52 (by decide) ?_
        refine w_keep [1, 0] rfl ?_
        exact ih (x3 + 1) m_9 hF
      · exact w_vret X hQ (o_inj hF) dX2_clear_55
  intro hF
  refine w_aload_n X 0 dX2_clear_0 rfl rfl 1 rfl ?_
  refine w_iload_n X 1 dX2_clear_1 rfl rfl 2 rfl ?_
  refine w_putI X (pBoard r) (lt_Board hr) ko_Board (T := TX2) (N := 5) rfl in_X2 tyX2 tyX2_ok nmX2 0 (by decide) kF_X2_22 rfl rfl rfl rfl (Nat.le_of_ble_eq_true rfl) rfl dX2_clear_2 5 rfl ?_
  refine w_letm hF (fun m_1 hF => ?_)
  refine w_aload_n X 0 dX2_clear_5 rfl rfl 6 rfl ?_
  refine w_iload_n X 2 dX2_clear_6 rfl rfl 7 rfl ?_
  refine w_putI X (pBoard r) (lt_Board hr) ko_Board (T := TX2) (N := 5) rfl in_X2 tyX2 tyX2_ok nmX2 1 (by decide) kF_X2_26 rfl rfl rfl rfl (Nat.le_of_ble_eq_true rfl) rfl dX2_clear_7 10 rfl ?_
  refine w_letm hF (fun m_2 hF => ?_)
  refine w_aload_n X 0 dX2_clear_10 rfl rfl 11 rfl ?_
  refine w_iconst X 0 dX2_clear_11 rfl 12 rfl ?_
  refine w_putI X (pBoard r) (lt_Board hr) ko_Board (T := TX2) (N := 5) rfl in_X2 tyX2 tyX2_ok nmX2 2 (by decide) kF_X2_29 rfl rfl rfl rfl (Nat.le_of_ble_eq_true rfl) rfl dX2_clear_12 15 rfl ?_
  refine w_letm hF (fun m_3 hF => ?_)
  refine w_aload_n X 0 dX2_clear_15 rfl rfl 16 rfl ?_
  refine w_getV (v := .ref (ad (pBuilt r))) X (pBoard r) (lt_Board hr) ko_Board (T := TX2) (N := 5) rfl in_X2 3 (by decide) kF_X2_9 rfl rfl dX2_clear_16 19 rfl ?_
  refine w_iconst X (-1) dX2_clear_19 rfl 20 rfl ?_
  refine w_callSv (fun m => m) X hZ hF [.ref (ad (pBuilt r)), .int (-1)] rfl kB_J7_fill_53178 kL_X2_32 (fun res h => ct_J7_fill_53178 l hZ hO fu (lt_Built hr) ko_Built (-1) m_3 res h) rfl rfl rfl ⟨Nat.le_of_ble_eq_true rfl, Nat.le_of_ble_eq_true rfl⟩ (Nat.le_of_ble_eq_true rfl) ⟨Nat.zero_le _, Nat.zero_le _⟩ dX2_clear_20 23 rfl (fun m_4 hF => ?_)
  refine w_iconst X 0 dX2_clear_23 rfl 24 rfl ?_
  refine w_istore_n X [(3, .int 0), (0, .ref (ad (pBoard r))), (1, .int x1), (2, .int x2)] dX2_clear_24 rfl (by decide) rfl 25 rfl ?_
  refine w_keep [1, 0] rfl ?_
  exact w_25 fu 0 m_4 hF

def K_X11_isOver (fu : Nat) (mem : Mem) : Option Int32 := bd (K_X6_hasEnded fu 0 mem) (fun x_1 => gb x_1 (some x_1))
def rm_X11_isOver : Room := { frames := 1, cells := 0, slots := 0, locals := 20 }
set_option maxHeartbeats 4000000 in
set_option maxRecDepth 100000 in
theorem ct_X11_isOver (l : Launch) {D : va_G} {ca ad : Nat → Nat} {Z : (Nat → Prop) → State → Heap → Prop} (hZ : ZOK Z) {tO : Nat} {sK sV : Nat → Nat} (hO : ZO Z tO sK sV) (fu : Nat) (mem : Mem) (res : Int32) (hF : K_X11_isOver fu mem = some res) : CI l D (tyL ca) 255 ad (cC ca ad) Z yX11_isOver cX11_isOver 1 .boolean rm_X11_isOver [.ref (ad 0)] mem res mem := by
  refine start_i (own := RX11) rfl (by decide) (Nat.le_of_ble_eq_true rfl) ?_
  intro p e s m args below meth c Q hQ X
  rw [K_X11_isOver] at hF
  revert hF
  intro hF
  refine w_aload_n X 0 dX11_isOver_0 rfl rfl 1 rfl ?_
  refine w_getV (v := .ref (ad (pRace 0))) X 0 plt_0 ko_0 (T := TX11) (N := 14) rfl in_X11 6 (by decide) kF_X11_40 rfl rfl dX11_isOver_1 4 rfl ?_
  refine w_callVi (fun x => x) (fun _ => mem) X hZ hF [] (pRace 0) (lt_Race (by decide)) ko_Race rfl rfl rfl kB_X6_hasEnded kL_X11_204 (fun res h => ct_X6_hasEnded l hZ hO fu (by decide) mem res h) rfl rfl rfl ⟨Nat.le_of_ble_eq_true rfl, Nat.le_of_ble_eq_true rfl⟩ (Nat.le_of_ble_eq_true rfl) ⟨Nat.zero_le _, Nat.zero_le _⟩ dX11_isOver_4 7 rfl (fun x_1 hF => ?_)
  refine w_gb hF (fun h_2 hF => ?_)
  exact w_iret X hQ (o_inj hF) rfl (bool_nar h_2) dX11_isOver_7

def K_X11_leader (fu : Nat) (mem : Mem) : Option (Int32 × Mem) := bd (K_X5_nearest fu 0 (-1) mem) (fun p_1 => some (p_1.1, p_1.2))
def K_X6_stepMask_4 (fu : Nat) (r : Nat) (mem : Mem) : Nat → Int32 → Int32 → Int32 → Option Int32
  | 0, _, _, _ => none
  | n + 1, x1, x2, x3 => (if x3 < 4 then bd (K_X6_landing fu r x1 x3 mem) (fun x_1 => (if x_1 = (-1) then lt_ (x2 ||| 0) (fun x_2 => (K_X6_stepMask_4 fu r mem n x1 x_2 (x3 + 1) )) else lt_ (x2 ||| (1 <<< (x3 &&& 31))) (fun x_3 => (K_X6_stepMask_4 fu r mem n x1 x_3 (x3 + 1) )))) else some x2)
def K_X6_stepMask (fu : Nat) (r : Nat) (x1 : Int32) (mem : Mem) : Option Int32 := (K_X6_stepMask_4 fu r mem fu x1 0 0 )
def rm_X6_stepMask : Room := { frames := 3, cells := 0, slots := 0, locals := 72 }
set_option maxHeartbeats 4000000 in
set_option maxRecDepth 100000 in
theorem ct_X6_stepMask (l : Launch) {D : va_G} {ca ad : Nat → Nat} {Z : (Nat → Prop) → State → Heap → Prop} (hZ : ZOK Z) {tO : Nat} {sK sV : Nat → Nat} (hO : ZO Z tO sK sV) (fu : Nat) {r : Nat} (hr : r < 10) (x1 : Int32) (mem : Mem) (res : Int32) (hF : K_X6_stepMask fu r x1 mem = some res) : CI l D (tyL ca) 255 ad (cC ca ad) Z yX6_stepMask cX6_stepMask 4 .int rm_X6_stepMask [.ref (ad (pRace r)), .int x1] mem res mem := by
  refine start_i (own := RX6) rfl (by decide) (Nat.le_of_ble_eq_true rfl) ?_
  intro p e s m args below meth c Q hQ X
  rw [K_X6_stepMask] at hF
  revert hF
  have w_4 : ∀ (n : Nat) (x1 : Int32) (x2 : Int32) (x3 : Int32), K_X6_stepMask_4 fu r mem n x1 x2 x3 = some res → WW D 255 ad (cC ca ad) p l e rm_X6_stepMask s m args below meth c 4 0 0 Q mem 4 [(0, .ref (ad (pRace r))), (1, .int x1), (2, .int x2), (3, .int x3)] [] := by
    intro n
    induction n with
    | zero => intro x1 x2 x3 hF; exact no_none (show (none : Option Int32) = some res from hF)
    | succ n ih =>
      intro x1 x2 x3 hF
      rw [K_X6_stepMask_4] at hF
      refine w_iload_n X 3 dX6_stepMask_4 rfl rfl 5 rfl ?_
      refine w_iconst X 4 dX6_stepMask_5 rfl 6 rfl ?_
      refine w_icmp_ge X hF 35 9 dX6_stepMask_6 (by decide) rfl (fun hF => ?_) (fun hF => ?_)
      · refine w_iload_n X 2 dX6_stepMask_9 rfl rfl 10 rfl ?_
        refine w_aload_n X 0 dX6_stepMask_10 rfl rfl 11 rfl ?_
        refine w_iload_n X 1 dX6_stepMask_11 rfl rfl 12 rfl ?_
        refine w_iload_n X 3 dX6_stepMask_12 rfl rfl 13 rfl ?_
        refine w_callVi (fun x => x) (fun _ => mem) X hZ hF [.int x1, .int x3] (pRace r) (lt_Race hr) ko_Race rfl rfl rfl kB_X6_landing kL_X6_107 (fun res h => ct_X6_landing l hZ hO fu hr x1 x3 mem res h) rfl rfl rfl ⟨Nat.le_of_ble_eq_true rfl, Nat.le_of_ble_eq_true rfl⟩ (Nat.le_of_ble_eq_true rfl) ⟨Nat.zero_le _, Nat.zero_le _⟩ dX6_stepMask_13 16 rfl (fun x_1 hF => ?_)
        refine w_iconst X (-1) dX6_stepMask_16 rfl 17 rfl ?_
        refine w_icmp_ne X hF 24 20 dX6_stepMask_17 (by decide) rfl (fun hF => ?_) (fun hF => ?_)
        · refine w_iconst X 0 dX6_stepMask_20 rfl 21 rfl ?_
          refine w_goto X 27 dX6_stepMask_21 (by decide) ?_
          refine w_ior X dX6_stepMask_27 28 rfl ?_
          refine w_let hF (fun x_2 hF => ?_)
          refine w_istore_n X [(2, .int x_2), (0, .ref (ad (pRace r))), (1, .int x1), (3, .int x3)] dX6_stepMask_28 rfl (by decide) rfl 29 rfl ?_
          refine w_iinc X 3 (x3 + 1) [(3, .int (x3 + 1)), (2, .int x_2), (0, .ref (ad (pRace r))), (1, .int x1)] dX6_stepMask_29 rfl rfl (by decide) rfl 32 rfl ?_
          refine w_goto X 4 dX6_stepMask_32 (by decide) ?_
          refine w_keep [2, 3, 1, 0] rfl ?_
          exact ih x1 x_2 (x3 + 1)  hF
        · refine w_iconst X 1 dX6_stepMask_24 rfl 25 rfl ?_
          refine w_iload_n X 3 dX6_stepMask_25 rfl rfl 26 rfl ?_
          refine w_ishl X dX6_stepMask_26 27 rfl ?_
          refine w_ior X dX6_stepMask_27 28 rfl ?_
          refine w_let hF (fun x_3 hF => ?_)
          refine w_istore_n X [(2, .int x_3), (0, .ref (ad (pRace r))), (1, .int x1), (3, .int x3)] dX6_stepMask_28 rfl (by decide) rfl 29 rfl ?_
          refine w_iinc X 3 (x3 + 1) [(3, .int (x3 + 1)), (2, .int x_3), (0, .ref (ad (pRace r))), (1, .int x1)] dX6_stepMask_29 rfl rfl (by decide) rfl 32 rfl ?_
          refine w_goto X 4 dX6_stepMask_32 (by decide) ?_
          refine w_keep [2, 3, 1, 0] rfl ?_
          exact ih x1 x_3 (x3 + 1)  hF
      · refine w_iload_n X 2 dX6_stepMask_35 rfl rfl 36 rfl ?_
        exact w_iret X hQ (o_inj hF) rfl rfl dX6_stepMask_36
  intro hF
  refine w_iconst X 0 dX6_stepMask_0 rfl 1 rfl ?_
  refine w_istore_n X [(2, .int 0), (0, .ref (ad (pRace r))), (1, .int x1)] dX6_stepMask_1 rfl (by decide) rfl 2 rfl ?_
  refine w_iconst X 0 dX6_stepMask_2 rfl 3 rfl ?_
  refine w_istore_n X [(3, .int 0), (2, .int 0), (0, .ref (ad (pRace r))), (1, .int x1)] dX6_stepMask_3 rfl (by decide) rfl 4 rfl ?_
  refine w_keep [2, 3, 1, 0] rfl ?_
  exact w_4 fu x1 0 0  hF

def K_X6_mayPass (fu : Nat) (r : Nat) (mem : Mem) : Option Int32 := bd (K_X6_hasEnded fu r mem) (fun x_1 => (if x_1 = 0 then bd (K_X6_stepMask fu r (rd mem (pRace r) 6) mem) (fun x_2 => (if x_2 = 0 then some 1 else some 0)) else some 0))
def rm_X6_mayPass : Room := { frames := 4, cells := 0, slots := 0, locals := 95 }
set_option maxHeartbeats 4000000 in
set_option maxRecDepth 100000 in
theorem ct_X6_mayPass (l : Launch) {D : va_G} {ca ad : Nat → Nat} {Z : (Nat → Prop) → State → Heap → Prop} (hZ : ZOK Z) {tO : Nat} {sK sV : Nat → Nat} (hO : ZO Z tO sK sV) (fu : Nat) {r : Nat} (hr : r < 10) (mem : Mem) (res : Int32) (hF : K_X6_mayPass fu r mem = some res) : CI l D (tyL ca) 255 ad (cC ca ad) Z yX6_mayPass cX6_mayPass 1 .boolean rm_X6_mayPass [.ref (ad (pRace r))] mem res mem := by
  refine start_i (own := RX6) rfl (by decide) (Nat.le_of_ble_eq_true rfl) ?_
  intro p e s m args below meth c Q hQ X
  rw [K_X6_mayPass] at hF
  revert hF
  intro hF
  refine w_aload_n X 0 dX6_mayPass_0 rfl rfl 1 rfl ?_
  refine w_callVi (fun x => x) (fun _ => mem) X hZ hF [] (pRace r) (lt_Race hr) ko_Race rfl rfl rfl kB_X6_hasEnded kL_X6_80 (fun res h => ct_X6_hasEnded l hZ hO fu hr mem res h) rfl rfl rfl ⟨Nat.le_of_ble_eq_true rfl, Nat.le_of_ble_eq_true rfl⟩ (Nat.le_of_ble_eq_true rfl) ⟨Nat.zero_le _, Nat.zero_le _⟩ dX6_mayPass_1 4 rfl (fun x_1 hF => ?_)
  refine w_if_ne X hF 22 7 dX6_mayPass_4 (by decide) rfl (fun hF => ?_) (fun hF => ?_)
  · refine w_aload_n X 0 dX6_mayPass_7 rfl rfl 8 rfl ?_
    refine w_aload_n X 0 dX6_mayPass_8 rfl rfl 9 rfl ?_
    refine w_getV (v := .int (rd mem (pRace r) 6)) X (pRace r) (lt_Race hr) ko_Race (T := TX6) (N := 8) rfl in_X6 6 (by decide) kF_X6_46 rfl rfl dX6_mayPass_9 12 rfl ?_
    refine w_callVi (fun x => x) (fun _ => mem) X hZ hF [.int (rd mem (pRace r) 6)] (pRace r) (lt_Race hr) ko_Race rfl rfl rfl kB_X6_stepMask kL_X6_110 (fun res h => ct_X6_stepMask l hZ hO fu hr (rd mem (pRace r) 6) mem res h) rfl rfl rfl ⟨Nat.le_of_ble_eq_true rfl, Nat.le_of_ble_eq_true rfl⟩ (Nat.le_of_ble_eq_true rfl) ⟨Nat.zero_le _, Nat.zero_le _⟩ dX6_mayPass_12 15 rfl (fun x_2 hF => ?_)
    refine w_if_ne X hF 22 18 dX6_mayPass_15 (by decide) rfl (fun hF => ?_) (fun hF => ?_)
    · refine w_iconst X 1 dX6_mayPass_18 rfl 19 rfl ?_
      refine w_goto X 23 dX6_mayPass_19 (by decide) ?_
      exact w_iret X hQ (o_inj hF) rfl rfl dX6_mayPass_23
    · refine w_iconst X 0 dX6_mayPass_22 rfl 23 rfl ?_
      exact w_iret X hQ (o_inj hF) rfl rfl dX6_mayPass_23
  · refine w_iconst X 0 dX6_mayPass_22 rfl 23 rfl ?_
    exact w_iret X hQ (o_inj hF) rfl rfl dX6_mayPass_23

def K_X6_mover (fu : Nat) (r : Nat) (mem : Mem) : Option Int32 := bd (K_X6_hasEnded fu r mem) (fun x_1 => (if x_1 = 0 then some (rd mem (pRace r) 6) else some (-1)))
def rm_X6_mover : Room := { frames := 1, cells := 0, slots := 0, locals := 20 }
set_option maxHeartbeats 4000000 in
set_option maxRecDepth 100000 in
theorem ct_X6_mover (l : Launch) {D : va_G} {ca ad : Nat → Nat} {Z : (Nat → Prop) → State → Heap → Prop} (hZ : ZOK Z) {tO : Nat} {sK sV : Nat → Nat} (hO : ZO Z tO sK sV) (fu : Nat) {r : Nat} (hr : r < 10) (mem : Mem) (res : Int32) (hF : K_X6_mover fu r mem = some res) : CI l D (tyL ca) 255 ad (cC ca ad) Z yX6_mover cX6_mover 1 .int rm_X6_mover [.ref (ad (pRace r))] mem res mem := by
  refine start_i (own := RX6) rfl (by decide) (Nat.le_of_ble_eq_true rfl) ?_
  intro p e s m args below meth c Q hQ X
  rw [K_X6_mover] at hF
  revert hF
  intro hF
  refine w_aload_n X 0 dX6_mover_0 rfl rfl 1 rfl ?_
  refine w_callVi (fun x => x) (fun _ => mem) X hZ hF [] (pRace r) (lt_Race hr) ko_Race rfl rfl rfl kB_X6_hasEnded kL_X6_80 (fun res h => ct_X6_hasEnded l hZ hO fu hr mem res h) rfl rfl rfl ⟨Nat.le_of_ble_eq_true rfl, Nat.le_of_ble_eq_true rfl⟩ (Nat.le_of_ble_eq_true rfl) ⟨Nat.zero_le _, Nat.zero_le _⟩ dX6_mover_1 4 rfl (fun x_1 hF => ?_)
  refine w_if_eq X hF 11 7 dX6_mover_4 (by decide) rfl (fun hF => ?_) (fun hF => ?_)
  · refine w_aload_n X 0 dX6_mover_11 rfl rfl 12 rfl ?_
    refine w_getV (v := .int (rd mem (pRace r) 6)) X (pRace r) (lt_Race hr) ko_Race (T := TX6) (N := 8) rfl in_X6 6 (by decide) kF_X6_46 rfl rfl dX6_mover_12 15 rfl ?_
    exact w_iret X hQ (o_inj hF) rfl rfl dX6_mover_15
  · refine w_iconst X (-1) dX6_mover_7 rfl 8 rfl ?_
    refine w_goto X 15 dX6_mover_8 (by decide) ?_
    exact w_iret X hQ (o_inj hF) rfl rfl dX6_mover_15

def K_X6_bansOf_4 (fu : Nat) (r : Nat) (mem : Mem) : Nat → Int32 → Int32 → Int32 → Option Int32
  | 0, _, _, _ => none
  | n + 1, x1, x2, x3 => (if x3 < (rd mem (pRace r) 4) then gi x3 12 ((if (rd mem (pBan r (Int32.toNatClampNeg x3)) 0) = x1 then (K_X6_bansOf_4 fu r mem n x1 (x2 + 1) (x3 + 1) ) else (K_X6_bansOf_4 fu r mem n x1 x2 (x3 + 1) ))) else some x2)
def K_X6_bansOf (fu : Nat) (r : Nat) (x1 : Int32) (mem : Mem) : Option Int32 := (K_X6_bansOf_4 fu r mem fu x1 0 0 )
def rm_X6_bansOf : Room := { frames := 0, cells := 0, slots := 0, locals := 0 }
set_option maxHeartbeats 4000000 in
set_option maxRecDepth 100000 in
theorem ct_X6_bansOf (l : Launch) {D : va_G} {ca ad : Nat → Nat} {Z : (Nat → Prop) → State → Heap → Prop} (hZ : ZOK Z) {tO : Nat} {sK sV : Nat → Nat} (hO : ZO Z tO sK sV) (fu : Nat) {r : Nat} (hr : r < 10) (x1 : Int32) (mem : Mem) (res : Int32) (hF : K_X6_bansOf fu r x1 mem = some res) : CI l D (tyL ca) 255 ad (cC ca ad) Z yX6_bansOf cX6_bansOf 4 .int rm_X6_bansOf [.ref (ad (pRace r)), .int x1] mem res mem := by
  refine start_i (own := RX6) rfl (by decide) (Nat.le_of_ble_eq_true rfl) ?_
  intro p e s m args below meth c Q hQ X
  rw [K_X6_bansOf] at hF
  revert hF
  have w_4 : ∀ (n : Nat) (x1 : Int32) (x2 : Int32) (x3 : Int32), K_X6_bansOf_4 fu r mem n x1 x2 x3 = some res → WW D 255 ad (cC ca ad) p l e rm_X6_bansOf s m args below meth c 4 0 0 Q mem 4 [(0, .ref (ad (pRace r))), (1, .int x1), (2, .int x2), (3, .int x3)] [] := by
    intro n
    induction n with
    | zero => intro x1 x2 x3 hF; exact no_none (show (none : Option Int32) = some res from hF)
    | succ n ih =>
      intro x1 x2 x3 hF
      rw [K_X6_bansOf_4] at hF
      refine w_iload_n X 3 dX6_bansOf_4 rfl rfl 5 rfl ?_
      refine w_aload_n X 0 dX6_bansOf_5 rfl rfl 6 rfl ?_
      refine w_getV (v := .int (rd mem (pRace r) 4)) X (pRace r) (lt_Race hr) ko_Race (T := TX6) (N := 8) rfl in_X6 4 (by decide) kF_X6_40 rfl rfl dX6_bansOf_6 9 rfl ?_
      refine w_icmp_ge X hF 34 12 dX6_bansOf_9 (by decide) rfl (fun hF => ?_) (fun hF => ?_)
      · refine w_aload_n X 0 dX6_bansOf_12 rfl rfl 13 rfl ?_
        refine w_getV (v := .ref (ad (pBans r))) X (pRace r) (lt_Race hr) ko_Race (T := TX6) (N := 8) rfl in_X6 3 (by decide) kF_X6_27 rfl rfl dX6_bansOf_13 16 rfl ?_
        refine w_iload_n X 3 dX6_bansOf_16 rfl rfl 17 rfl ?_
        refine w_gi hF (fun h_1 hF => ?_)
        refine w_aal X (pBans r) (lt_Bans hr) (pBan r (Int32.toNatClampNeg x3)) ko_Bans (t0 := 3) rfl h_1 (el_Bans (vp_lt h_1)) dX6_bansOf_17 18 rfl ?_
        refine w_getV (v := .int (rd mem (pBan r (Int32.toNatClampNeg x3)) 0)) X (pBan r (Int32.toNatClampNeg x3)) (lt_Ban hr (vp_lt h_1)) (ko_Ban (vp_lt h_1)) (T := TX0) (N := 9) rfl in_X0 0 (by decide) kF_X6_84 rfl rfl dX6_bansOf_18 21 rfl ?_
        refine w_iload_n X 1 dX6_bansOf_21 rfl rfl 22 rfl ?_
        refine w_icmp_ne X hF 28 25 dX6_bansOf_22 (by decide) rfl (fun hF => ?_) (fun hF => ?_)
        · refine w_iinc X 2 (x2 + 1) [(2, .int (x2 + 1)), (0, .ref (ad (pRace r))), (1, .int x1), (3, .int x3)] dX6_bansOf_25 rfl rfl (by decide) rfl 28 rfl ?_
          refine w_iinc X 3 (x3 + 1) [(3, .int (x3 + 1)), (2, .int (x2 + 1)), (0, .ref (ad (pRace r))), (1, .int x1)] dX6_bansOf_28 rfl rfl (by decide) rfl 31 rfl ?_
          refine w_goto X 4 dX6_bansOf_31 (by decide) ?_
          refine w_keep [2, 3, 1, 0] rfl ?_
          exact ih x1 (x2 + 1) (x3 + 1)  hF
        · refine w_iinc X 3 (x3 + 1) [(3, .int (x3 + 1)), (0, .ref (ad (pRace r))), (1, .int x1), (2, .int x2)] dX6_bansOf_28 rfl rfl (by decide) rfl 31 rfl ?_
          refine w_goto X 4 dX6_bansOf_31 (by decide) ?_
          refine w_keep [1, 2, 3, 0] rfl ?_
          exact ih x1 x2 (x3 + 1)  hF
      · refine w_iload_n X 2 dX6_bansOf_34 rfl rfl 35 rfl ?_
        exact w_iret X hQ (o_inj hF) rfl rfl dX6_bansOf_35
  intro hF
  refine w_iconst X 0 dX6_bansOf_0 rfl 1 rfl ?_
  refine w_istore_n X [(2, .int 0), (0, .ref (ad (pRace r))), (1, .int x1)] dX6_bansOf_1 rfl (by decide) rfl 2 rfl ?_
  refine w_iconst X 0 dX6_bansOf_2 rfl 3 rfl ?_
  refine w_istore_n X [(3, .int 0), (2, .int 0), (0, .ref (ad (pRace r))), (1, .int x1)] dX6_bansOf_3 rfl (by decide) rfl 4 rfl ?_
  refine w_keep [2, 3, 1, 0] rfl ?_
  exact w_4 fu x1 0 0  hF

def K_X6_pawnOfRank_2 (fu : Nat) (r : Nat) (mem : Mem) : Nat → Int32 → Int32 → Option Int32
  | 0, _, _ => none
  | n + 1, x1, x2 => (if x2 < (rd mem (pRace r) 2) then (if 0 < x1 then gi x2 4 ((if (rd mem (pPawn r (Int32.toNatClampNeg x2)) 5) = x1 then some x2 else (K_X6_pawnOfRank_2 fu r mem n x1 (x2 + 1) ))) else (K_X6_pawnOfRank_2 fu r mem n x1 (x2 + 1) )) else some (-1))
def K_X6_pawnOfRank (fu : Nat) (r : Nat) (x1 : Int32) (mem : Mem) : Option Int32 := (K_X6_pawnOfRank_2 fu r mem fu x1 0 )
def rm_X6_pawnOfRank : Room := { frames := 0, cells := 0, slots := 0, locals := 0 }
set_option maxHeartbeats 4000000 in
set_option maxRecDepth 100000 in
theorem ct_X6_pawnOfRank (l : Launch) {D : va_G} {ca ad : Nat → Nat} {Z : (Nat → Prop) → State → Heap → Prop} (hZ : ZOK Z) {tO : Nat} {sK sV : Nat → Nat} (hO : ZO Z tO sK sV) (fu : Nat) {r : Nat} (hr : r < 10) (x1 : Int32) (mem : Mem) (res : Int32) (hF : K_X6_pawnOfRank fu r x1 mem = some res) : CI l D (tyL ca) 255 ad (cC ca ad) Z yX6_pawnOfRank cX6_pawnOfRank 3 .int rm_X6_pawnOfRank [.ref (ad (pRace r)), .int x1] mem res mem := by
  refine start_i (own := RX6) rfl (by decide) (Nat.le_of_ble_eq_true rfl) ?_
  intro p e s m args below meth c Q hQ X
  rw [K_X6_pawnOfRank] at hF
  revert hF
  have w_2 : ∀ (n : Nat) (x1 : Int32) (x2 : Int32), K_X6_pawnOfRank_2 fu r mem n x1 x2 = some res → WW D 255 ad (cC ca ad) p l e rm_X6_pawnOfRank s m args below meth c 3 0 0 Q mem 2 [(0, .ref (ad (pRace r))), (1, .int x1), (2, .int x2)] [] := by
    intro n
    induction n with
    | zero => intro x1 x2 hF; exact no_none (show (none : Option Int32) = some res from hF)
    | succ n ih =>
      intro x1 x2 hF
      rw [K_X6_pawnOfRank_2] at hF
      refine w_iload_n X 2 dX6_pawnOfRank_2 rfl rfl 3 rfl ?_
      refine w_aload_n X 0 dX6_pawnOfRank_3 rfl rfl 4 rfl ?_
      refine w_getV (v := .int (rd mem (pRace r) 2)) X (pRace r) (lt_Race hr) ko_Race (T := TX6) (N := 8) rfl in_X6 2 (by decide) kF_X6_36 rfl rfl dX6_pawnOfRank_4 7 rfl ?_
      refine w_icmp_ge X hF 35 10 dX6_pawnOfRank_7 (by decide) rfl (fun hF => ?_) (fun hF => ?_)
      · refine w_iload_n X 1 dX6_pawnOfRank_10 rfl rfl 11 rfl ?_
        refine w_if_le X hF 29 14 dX6_pawnOfRank_11 (by decide) rfl (fun hF => ?_) (fun hF => ?_)
        · refine w_aload_n X 0 dX6_pawnOfRank_14 rfl rfl 15 rfl ?_
          refine w_getV (v := .ref (ad (pPawns r))) X (pRace r) (lt_Race hr) ko_Race (T := TX6) (N := 8) rfl in_X6 1 (by decide) kF_X6_20 rfl rfl dX6_pawnOfRank_15 18 rfl ?_
          refine w_iload_n X 2 dX6_pawnOfRank_18 rfl rfl 19 rfl ?_
          refine w_gi hF (fun h_1 hF => ?_)
          refine w_aal X (pPawns r) (lt_Pawns hr) (pPawn r (Int32.toNatClampNeg x2)) ko_Pawns (t0 := 2) rfl h_1 (el_Pawns (vp_lt h_1)) dX6_pawnOfRank_19 20 rfl ?_
          refine w_getV (v := .int (rd mem (pPawn r (Int32.toNatClampNeg x2)) 5)) X (pPawn r (Int32.toNatClampNeg x2)) (lt_Pawn hr (vp_lt h_1)) (ko_Pawn (vp_lt h_1)) (T := TX4) (N := 6) rfl in_X4 5 (by decide) kF_X6_77 rfl rfl dX6_pawnOfRank_20 23 rfl ?_
          refine w_iload_n X 1 dX6_pawnOfRank_23 rfl rfl 24 rfl ?_
          refine w_icmp_ne X hF 29 27 dX6_pawnOfRank_24 (by decide) rfl (fun hF => ?_) (fun hF => ?_)
          · refine w_iload_n X 2 dX6_pawnOfRank_27 rfl rfl 28 rfl ?_
            exact w_iret X hQ (o_inj hF) rfl rfl dX6_pawnOfRank_28
          · refine w_iinc X 2 (x2 + 1) [(2, .int (x2 + 1)), (0, .ref (ad (pRace r))), (1, .int x1)] dX6_pawnOfRank_29 rfl rfl (by decide) rfl 32 rfl ?_
            refine w_goto X 2 dX6_pawnOfRank_32 (by decide) ?_
            refine w_keep [1, 2, 0] rfl ?_
            exact ih x1 (x2 + 1)  hF
        · refine w_iinc X 2 (x2 + 1) [(2, .int (x2 + 1)), (0, .ref (ad (pRace r))), (1, .int x1)] dX6_pawnOfRank_29 rfl rfl (by decide) rfl 32 rfl ?_
          refine w_goto X 2 dX6_pawnOfRank_32 (by decide) ?_
          refine w_keep [1, 2, 0] rfl ?_
          exact ih x1 (x2 + 1)  hF
      · refine w_iconst X (-1) dX6_pawnOfRank_35 rfl 36 rfl ?_
        exact w_iret X hQ (o_inj hF) rfl rfl dX6_pawnOfRank_36
  intro hF
  refine w_iconst X 0 dX6_pawnOfRank_0 rfl 1 rfl ?_
  refine w_istore_n X [(2, .int 0), (0, .ref (ad (pRace r))), (1, .int x1)] dX6_pawnOfRank_1 rfl (by decide) rfl 2 rfl ?_
  refine w_keep [1, 2, 0] rfl ?_
  exact w_2 fu x1 0  hF

def K_X11_ranked (fu : Nat) (x1 : Int32) (mem : Mem) : Option Int32 := bd (K_X6_pawnOfRank fu 0 x1 mem) (fun x_1 => some x_1)
def rm_X11_ranked : Room := { frames := 1, cells := 0, slots := 0, locals := 22 }
set_option maxHeartbeats 4000000 in
set_option maxRecDepth 100000 in
theorem ct_X11_ranked (l : Launch) {D : va_G} {ca ad : Nat → Nat} {Z : (Nat → Prop) → State → Heap → Prop} (hZ : ZOK Z) {tO : Nat} {sK sV : Nat → Nat} (hO : ZO Z tO sK sV) (fu : Nat) (x1 : Int32) (mem : Mem) (res : Int32) (hF : K_X11_ranked fu x1 mem = some res) : CI l D (tyL ca) 255 ad (cC ca ad) Z yX11_ranked cX11_ranked 2 .int rm_X11_ranked [.ref (ad 0), .int x1] mem res mem := by
  refine start_i (own := RX11) rfl (by decide) (Nat.le_of_ble_eq_true rfl) ?_
  intro p e s m args below meth c Q hQ X
  rw [K_X11_ranked] at hF
  revert hF
  intro hF
  refine w_aload_n X 0 dX11_ranked_0 rfl rfl 1 rfl ?_
  refine w_getV (v := .ref (ad (pRace 0))) X 0 plt_0 ko_0 (T := TX11) (N := 14) rfl in_X11 6 (by decide) kF_X11_40 rfl rfl dX11_ranked_1 4 rfl ?_
  refine w_iload_n X 1 dX11_ranked_4 rfl rfl 5 rfl ?_
  refine w_callVi (fun x => x) (fun _ => mem) X hZ hF [.int x1] (pRace 0) (lt_Race (by decide)) ko_Race rfl rfl rfl kB_X6_pawnOfRank kL_X11_214 (fun res h => ct_X6_pawnOfRank l hZ hO fu (by decide) x1 mem res h) rfl rfl rfl ⟨Nat.le_of_ble_eq_true rfl, Nat.le_of_ble_eq_true rfl⟩ (Nat.le_of_ble_eq_true rfl) ⟨Nat.zero_le _, Nat.zero_le _⟩ dX11_ranked_5 8 rfl (fun x_1 hF => ?_)
  exact w_iret X hQ (o_inj hF) rfl rfl dX11_ranked_8

def K_X6_clear (fu : Nat) (r : Nat) (mem : Mem) : Option Mem := bd (K_X2_clear fu r 5 5 mem) (fun m_1 => lt_ (mw m_1 (pRace r) 2 0) (fun m_2 => lt_ (mw m_2 (pRace r) 4 0) (fun m_3 => lt_ (mw m_3 (pRace r) 5 0) (fun m_4 => lt_ (mw m_4 (pRace r) 6 0) (fun m_5 => lt_ (mw m_5 (pRace r) 7 0) (fun m_6 => some m_6))))))
def rm_X6_clear : Room := { frames := 3, cells := 0, slots := 0, locals := 67 }
set_option maxHeartbeats 4000000 in
set_option maxRecDepth 100000 in
theorem ct_X6_clear (l : Launch) {D : va_G} {ca ad : Nat → Nat} {Z : (Nat → Prop) → State → Heap → Prop} (hZ : ZOK Z) {tO : Nat} {sK sV : Nat → Nat} (hO : ZO Z tO sK sV) (fu : Nat) {r : Nat} (hr : r < 10) (mem : Mem) (res : Mem) (hF : K_X6_clear fu r mem = some res) : CV l D (tyL ca) 255 ad (cC ca ad) Z yX6_clear cX6_clear 1 rm_X6_clear [.ref (ad (pRace r))] mem res := by
  refine start_v (own := RX6) rfl (by decide) (Nat.le_of_ble_eq_true rfl) ?_
  intro p e s m args below meth c Q hQ X
  rw [K_X6_clear] at hF
  revert hF
  intro hF
  refine w_aload_n X 0 dX6_clear_0 rfl rfl 1 rfl ?_
  refine w_getV (v := .ref (ad (pBoard r))) X (pRace r) (lt_Race hr) ko_Race (T := TX6) (N := 8) rfl in_X6 0 (by decide) kF_X6_12 rfl rfl dX6_clear_1 4 rfl ?_
  refine w_iconst X 5 dX6_clear_4 rfl 5 rfl ?_
  refine w_iconst X 5 dX6_clear_5 rfl 6 rfl ?_
  refine w_callVv (fun m => m) X hZ hF [.int 5, .int 5] (pBoard r) (lt_Board hr) ko_Board rfl rfl rfl kB_X2_clear kL_X6_32 (fun res h => ct_X2_clear l hZ hO fu hr 5 5 mem res h) rfl rfl rfl ⟨Nat.le_of_ble_eq_true rfl, Nat.le_of_ble_eq_true rfl⟩ (Nat.le_of_ble_eq_true rfl) ⟨Nat.zero_le _, Nat.zero_le _⟩ dX6_clear_6 9 rfl (fun m_1 hF => ?_)
  refine w_aload_n X 0 dX6_clear_9 rfl rfl 10 rfl ?_
  refine w_iconst X 0 dX6_clear_10 rfl 11 rfl ?_
  refine w_putI X (pRace r) (lt_Race hr) ko_Race (T := TX6) (N := 8) rfl in_X6 tyX6 tyX6_ok nmX6 2 (by decide) kF_X6_36 rfl rfl rfl rfl (Nat.le_of_ble_eq_true rfl) rfl dX6_clear_11 14 rfl ?_
  refine w_letm hF (fun m_2 hF => ?_)
  refine w_aload_n X 0 dX6_clear_14 rfl rfl 15 rfl ?_
  refine w_iconst X 0 dX6_clear_15 rfl 16 rfl ?_
  refine w_putI X (pRace r) (lt_Race hr) ko_Race (T := TX6) (N := 8) rfl in_X6 tyX6 tyX6_ok nmX6 4 (by decide) kF_X6_40 rfl rfl rfl rfl (Nat.le_of_ble_eq_true rfl) rfl dX6_clear_16 19 rfl ?_
  refine w_letm hF (fun m_3 hF => ?_)
  refine w_aload_n X 0 dX6_clear_19 rfl rfl 20 rfl ?_
  refine w_iconst X 0 dX6_clear_20 rfl 21 rfl ?_
  refine w_putI X (pRace r) (lt_Race hr) ko_Race (T := TX6) (N := 8) rfl in_X6 tyX6 tyX6_ok nmX6 5 (by decide) kF_X6_43 rfl rfl rfl rfl (Nat.le_of_ble_eq_true rfl) rfl dX6_clear_21 24 rfl ?_
  refine w_letm hF (fun m_4 hF => ?_)
  refine w_aload_n X 0 dX6_clear_24 rfl rfl 25 rfl ?_
  refine w_iconst X 0 dX6_clear_25 rfl 26 rfl ?_
  refine w_putI X (pRace r) (lt_Race hr) ko_Race (T := TX6) (N := 8) rfl in_X6 tyX6 tyX6_ok nmX6 6 (by decide) kF_X6_46 rfl rfl rfl rfl (Nat.le_of_ble_eq_true rfl) rfl dX6_clear_26 29 rfl ?_
  refine w_letm hF (fun m_5 hF => ?_)
  refine w_aload_n X 0 dX6_clear_29 rfl rfl 30 rfl ?_
  refine w_iconst X 0 dX6_clear_30 rfl 31 rfl ?_
  refine w_putI X (pRace r) (lt_Race hr) ko_Race (T := TX6) (N := 8) rfl in_X6 tyX6 tyX6_ok nmX6 7 (by decide) kF_X6_49 rfl rfl rfl rfl (Nat.le_of_ble_eq_true rfl) rfl dX6_clear_31 34 rfl ?_
  refine w_letm hF (fun m_6 hF => ?_)
  exact w_vret X hQ (o_inj hF) dX6_clear_34

def K_X9_byteAt (fu : Nat) (x1 : Int32) (mem : Mem) : Option Int32 := (if x1 < 0 then some (-1) else (if x1 < (rd mem 2 1) then (if x1 < 700 then gi x1 700 (some ((rd mem 3 (Int32.toNatClampNeg x1)) &&& 255)) else some (-1)) else some (-1)))
def rm_X9_byteAt : Room := { frames := 0, cells := 0, slots := 0, locals := 0 }
set_option maxHeartbeats 4000000 in
set_option maxRecDepth 100000 in
theorem ct_X9_byteAt (l : Launch) {D : va_G} {ca ad : Nat → Nat} {Z : (Nat → Prop) → State → Heap → Prop} (hZ : ZOK Z) {tO : Nat} {sK sV : Nat → Nat} (hO : ZO Z tO sK sV) (fu : Nat) (x1 : Int32) (mem : Mem) (res : Int32) (hF : K_X9_byteAt fu x1 mem = some res) : CI l D (tyL ca) 255 ad (cC ca ad) Z yX9_byteAt cX9_byteAt 2 .int rm_X9_byteAt [.ref (ad 2), .int x1] mem res mem := by
  refine start_i (own := RX9) rfl (by decide) (Nat.le_of_ble_eq_true rfl) ?_
  intro p e s m args below meth c Q hQ X
  rw [K_X9_byteAt] at hF
  revert hF
  intro hF
  refine w_iload_n X 1 dX9_byteAt_0 rfl rfl 1 rfl ?_
  refine w_if_lt X hF 32 4 dX9_byteAt_1 (by decide) rfl (fun hF => ?_) (fun hF => ?_)
  · refine w_iconst X (-1) dX9_byteAt_32 rfl 33 rfl ?_
    exact w_iret X hQ (o_inj hF) rfl rfl dX9_byteAt_33
  · refine w_iload_n X 1 dX9_byteAt_4 rfl rfl 5 rfl ?_
    refine w_aload_n X 0 dX9_byteAt_5 rfl rfl 6 rfl ?_
    refine w_getV (v := .int (rd mem 2 1)) X 2 plt_2 ko_2 (T := TX9) (N := 13) rfl in_X9 1 (by decide) kF_X9_29 rfl rfl dX9_byteAt_6 9 rfl ?_
    refine w_icmp_ge X hF 32 12 dX9_byteAt_9 (by decide) rfl (fun hF => ?_) (fun hF => ?_)
    · refine w_iload_n X 1 dX9_byteAt_12 rfl rfl 13 rfl ?_
      refine w_sipush X 700 dX9_byteAt_13 rfl 16 rfl ?_
      refine w_icmp_ge X hF 32 19 dX9_byteAt_16 (by decide) rfl (fun hF => ?_) (fun hF => ?_)
      · refine w_aload_n X 0 dX9_byteAt_19 rfl rfl 20 rfl ?_
        refine w_getV (v := .ref (ad 3)) X 2 plt_2 ko_2 (T := TX9) (N := 13) rfl in_X9 0 (by decide) kF_X9_9 rfl rfl dX9_byteAt_20 23 rfl ?_
        refine w_iload_n X 1 dX9_byteAt_23 rfl rfl 24 rfl ?_
        refine w_gi hF (fun h_1 hF => ?_)
        refine w_bal X 3 plt_3 ko_3 (t0 := 1) rfl h_1 dX9_byteAt_24 25 rfl ?_
        refine w_sipush X 255 dX9_byteAt_25 rfl 28 rfl ?_
        refine w_iand X dX9_byteAt_28 29 rfl ?_
        refine w_goto X 33 dX9_byteAt_29 (by decide) ?_
        exact w_iret X hQ (o_inj hF) rfl rfl dX9_byteAt_33
      · refine w_iconst X (-1) dX9_byteAt_32 rfl 33 rfl ?_
        exact w_iret X hQ (o_inj hF) rfl rfl dX9_byteAt_33
    · refine w_iconst X (-1) dX9_byteAt_32 rfl 33 rfl ?_
      exact w_iret X hQ (o_inj hF) rfl rfl dX9_byteAt_33

def K_X9_kindOf_60 (fu : Nat) (mem : Mem) : Option Int32 := some 3
def K_X9_kindOf_42 (fu : Nat) (mem : Mem) (x0 : Int32) : Option Int32 := (if x0 = 59 then (K_X9_kindOf_60 fu mem ) else (if x0 = 40 then (K_X9_kindOf_60 fu mem ) else (if x0 = 41 then (K_X9_kindOf_60 fu mem ) else some 4)))
def K_X9_kindOf_28 (fu : Nat) (mem : Mem) (x0 : Int32) : Option Int32 := (if x0 < 48 then (K_X9_kindOf_42 fu mem x0 ) else (if 57 < x0 then (K_X9_kindOf_42 fu mem x0 ) else some 2))
def K_X9_kindOf (fu : Nat) (x0 : Int32) (mem : Mem) : Option Int32 := (if x0 = 32 then some 0 else (if x0 = 10 then some 0 else (if x0 < 97 then (K_X9_kindOf_28 fu mem x0 ) else (if 122 < x0 then (K_X9_kindOf_28 fu mem x0 ) else some 1))))
def rm_X9_kindOf : Room := { frames := 0, cells := 0, slots := 0, locals := 0 }
set_option maxHeartbeats 4000000 in
set_option maxRecDepth 100000 in
theorem ct_X9_kindOf (l : Launch) {D : va_G} {ca ad : Nat → Nat} {Z : (Nat → Prop) → State → Heap → Prop} (hZ : ZOK Z) {tO : Nat} {sK sV : Nat → Nat} (hO : ZO Z tO sK sV) (fu : Nat) (x0 : Int32) (mem : Mem) (res : Int32) (hF : K_X9_kindOf fu x0 mem = some res) : CI l D (tyL ca) 255 ad (cC ca ad) Z yX9_kindOf cX9_kindOf 1 .int rm_X9_kindOf [.int x0] mem res mem := by
  refine start_i (own := RX9) rfl (by decide) (Nat.le_of_ble_eq_true rfl) ?_
  intro p e s m args below meth c Q hQ X
  rw [K_X9_kindOf] at hF
  revert hF
  have w_60 : K_X9_kindOf_60 fu mem = some res → WW D 255 ad (cC ca ad) p l e rm_X9_kindOf s m args below meth c 1 0 0 Q mem 60 [] [] := by
    intro hF
    rw [K_X9_kindOf_60] at hF
    refine w_iconst X 3 dX9_kindOf_60 rfl 61 rfl ?_
    refine w_goto X 65 dX9_kindOf_61 (by decide) ?_
    exact w_iret X hQ (o_inj hF) rfl rfl dX9_kindOf_65
  have w_42 : ∀ (x0 : Int32), K_X9_kindOf_42 fu mem x0 = some res → WW D 255 ad (cC ca ad) p l e rm_X9_kindOf s m args below meth c 1 0 0 Q mem 42 [(0, .int x0)] [] := by
    intro x0 hF
    rw [K_X9_kindOf_42] at hF
    refine w_iload_n X 0 dX9_kindOf_42 rfl rfl 43 rfl ?_
    refine w_bipush X 59 dX9_kindOf_43 rfl 45 rfl ?_
    refine w_icmp_eq X hF 60 48 dX9_kindOf_45 (by decide) rfl (fun hF => ?_) (fun hF => ?_)
    · refine w_keep [] rfl ?_
      exact w_60  hF
    · refine w_iload_n X 0 dX9_kindOf_48 rfl rfl 49 rfl ?_
      refine w_bipush X 40 dX9_kindOf_49 rfl 51 rfl ?_
      refine w_icmp_eq X hF 60 54 dX9_kindOf_51 (by decide) rfl (fun hF => ?_) (fun hF => ?_)
      · refine w_keep [] rfl ?_
        exact w_60  hF
      · refine w_iload_n X 0 dX9_kindOf_54 rfl rfl 55 rfl ?_
        refine w_bipush X 41 dX9_kindOf_55 rfl 57 rfl ?_
        refine w_icmp_ne X hF 64 60 dX9_kindOf_57 (by decide) rfl (fun hF => ?_) (fun hF => ?_)
        · refine w_keep [] rfl ?_
          exact w_60  hF
        · refine w_iconst X 4 dX9_kindOf_64 rfl 65 rfl ?_
          exact w_iret X hQ (o_inj hF) rfl rfl dX9_kindOf_65
  have w_28 : ∀ (x0 : Int32), K_X9_kindOf_28 fu mem x0 = some res → WW D 255 ad (cC ca ad) p l e rm_X9_kindOf s m args below meth c 1 0 0 Q mem 28 [(0, .int x0)] [] := by
    intro x0 hF
    rw [K_X9_kindOf_28] at hF
    refine w_iload_n X 0 dX9_kindOf_28 rfl rfl 29 rfl ?_
    refine w_bipush X 48 dX9_kindOf_29 rfl 31 rfl ?_
    refine w_icmp_lt X hF 42 34 dX9_kindOf_31 (by decide) rfl (fun hF => ?_) (fun hF => ?_)
    · refine w_keep [0] rfl ?_
      exact w_42 x0  hF
    · refine w_iload_n X 0 dX9_kindOf_34 rfl rfl 35 rfl ?_
      refine w_bipush X 57 dX9_kindOf_35 rfl 37 rfl ?_
      refine w_icmp_gt X hF 42 40 dX9_kindOf_37 (by decide) rfl (fun hF => ?_) (fun hF => ?_)
      · refine w_keep [0] rfl ?_
        exact w_42 x0  hF
      · refine w_iconst X 2 dX9_kindOf_40 rfl 41 rfl ?_
        exact w_iret X hQ (o_inj hF) rfl rfl dX9_kindOf_41
  intro hF
  refine w_iload_n X 0 dX9_kindOf_0 rfl rfl 1 rfl ?_
  refine w_bipush X 32 dX9_kindOf_1 rfl 3 rfl ?_
  refine w_icmp_eq X hF 12 6 dX9_kindOf_3 (by decide) rfl (fun hF => ?_) (fun hF => ?_)
  · refine w_iconst X 0 dX9_kindOf_12 rfl 13 rfl ?_
    exact w_iret X hQ (o_inj hF) rfl rfl dX9_kindOf_13
  · refine w_iload_n X 0 dX9_kindOf_6 rfl rfl 7 rfl ?_
    refine w_bipush X 10 dX9_kindOf_7 rfl 9 rfl ?_
    refine w_icmp_ne X hF 14 12 dX9_kindOf_9 (by decide) rfl (fun hF => ?_) (fun hF => ?_)
    · refine w_iconst X 0 dX9_kindOf_12 rfl 13 rfl ?_
      exact w_iret X hQ (o_inj hF) rfl rfl dX9_kindOf_13
    · refine w_iload_n X 0 dX9_kindOf_14 rfl rfl 15 rfl ?_
      refine w_bipush X 97 dX9_kindOf_15 rfl 17 rfl ?_
      refine w_icmp_lt X hF 28 20 dX9_kindOf_17 (by decide) rfl (fun hF => ?_) (fun hF => ?_)
      · refine w_keep [0] rfl ?_
        exact w_28 x0  hF
      · refine w_iload_n X 0 dX9_kindOf_20 rfl rfl 21 rfl ?_
        refine w_bipush X 122 dX9_kindOf_21 rfl 23 rfl ?_
        refine w_icmp_gt X hF 28 26 dX9_kindOf_23 (by decide) rfl (fun hF => ?_) (fun hF => ?_)
        · refine w_keep [0] rfl ?_
          exact w_28 x0  hF
        · refine w_iconst X 1 dX9_kindOf_26 rfl 27 rfl ?_
          exact w_iret X hQ (o_inj hF) rfl rfl dX9_kindOf_27

def K_X9_addToken (fu : Nat) (x1 : Int32) (x2 : Int32) (mem : Mem) : Option Mem := (if (rd mem 2 5) < 701 then gi (rd mem 2 5) 701 (lt_ (mw mem 4 (Int32.toNatClampNeg (rd mem 2 5)) x1) (fun m_2 => gi (rd m_2 2 5) 701 (lt_ (mw m_2 5 (Int32.toNatClampNeg (rd m_2 2 5)) x2) (fun m_4 => gi (rd m_4 2 5) 701 (lt_ (mw m_4 6 (Int32.toNatClampNeg (rd m_4 2 5)) 1) (fun m_6 => lt_ (mw m_6 2 5 ((rd m_6 2 5) + 1)) (fun m_7 => some m_7))))))) else some mem)
def rm_X9_addToken : Room := { frames := 0, cells := 0, slots := 0, locals := 0 }
set_option maxHeartbeats 4000000 in
set_option maxRecDepth 100000 in
theorem ct_X9_addToken (l : Launch) {D : va_G} {ca ad : Nat → Nat} {Z : (Nat → Prop) → State → Heap → Prop} (hZ : ZOK Z) {tO : Nat} {sK sV : Nat → Nat} (hO : ZO Z tO sK sV) (fu : Nat) (x1 : Int32) (x2 : Int32) (mem : Mem) (res : Mem) (hF : K_X9_addToken fu x1 x2 mem = some res) : CV l D (tyL ca) 255 ad (cC ca ad) Z yX9_addToken cX9_addToken 3 rm_X9_addToken [.ref (ad 2), .int x1, .int x2] mem res := by
  refine start_v (own := RX9) rfl (by decide) (Nat.le_of_ble_eq_true rfl) ?_
  intro p e s m args below meth c Q hQ X
  rw [K_X9_addToken] at hF
  revert hF
  intro hF
  refine w_aload_n X 0 dX9_addToken_0 rfl rfl 1 rfl ?_
  refine w_getV (v := .int (rd mem 2 5)) X 2 plt_2 ko_2 (T := TX9) (N := 13) rfl in_X9 5 (by decide) kF_X9_35 rfl rfl dX9_addToken_1 4 rfl ?_
  refine w_aload_n X 0 dX9_addToken_4 rfl rfl 5 rfl ?_
  refine w_getV (v := .ref (ad 4)) X 2 plt_2 ko_2 (T := TX9) (N := 13) rfl in_X9 2 (by decide) kF_X9_15 rfl rfl dX9_addToken_5 8 rfl ?_
  refine w_alen X 4 plt_4 701 (ko_4 _) (t0 := 0) rfl rfl dX9_addToken_8 9 rfl ?_
  refine w_icmp_ge X hF 52 12 dX9_addToken_9 (by decide) rfl (fun hF => ?_) (fun hF => ?_)
  · refine w_aload_n X 0 dX9_addToken_12 rfl rfl 13 rfl ?_
    refine w_getV (v := .ref (ad 4)) X 2 plt_2 ko_2 (T := TX9) (N := 13) rfl in_X9 2 (by decide) kF_X9_15 rfl rfl dX9_addToken_13 16 rfl ?_
    refine w_aload_n X 0 dX9_addToken_16 rfl rfl 17 rfl ?_
    refine w_getV (v := .int (rd mem 2 5)) X 2 plt_2 ko_2 (T := TX9) (N := 13) rfl in_X9 5 (by decide) kF_X9_35 rfl rfl dX9_addToken_17 20 rfl ?_
    refine w_iload_n X 1 dX9_addToken_20 rfl rfl 21 rfl ?_
    refine w_gi hF (fun h_1 hF => ?_)
    refine w_ias X 4 plt_4 ko_4 (t0 := 0) rfl h_1 dX9_addToken_21 22 rfl ?_
    refine w_letm hF (fun m_2 hF => ?_)
    refine w_aload_n X 0 dX9_addToken_22 rfl rfl 23 rfl ?_
    refine w_getV (v := .ref (ad 5)) X 2 plt_2 ko_2 (T := TX9) (N := 13) rfl in_X9 3 (by decide) kF_X9_19 rfl rfl dX9_addToken_23 26 rfl ?_
    refine w_aload_n X 0 dX9_addToken_26 rfl rfl 27 rfl ?_
    refine w_getV (v := .int (rd m_2 2 5)) X 2 plt_2 ko_2 (T := TX9) (N := 13) rfl in_X9 5 (by decide) kF_X9_35 rfl rfl dX9_addToken_27 30 rfl ?_
    refine w_iload_n X 2 dX9_addToken_30 rfl rfl 31 rfl ?_
    refine w_gi hF (fun h_3 hF => ?_)
    refine w_ias X 5 plt_5 ko_5 (t0 := 0) rfl h_3 dX9_addToken_31 32 rfl ?_
    refine w_letm hF (fun m_4 hF => ?_)
    refine w_aload_n X 0 dX9_addToken_32 rfl rfl 33 rfl ?_
    refine w_getV (v := .ref (ad 6)) X 2 plt_2 ko_2 (T := TX9) (N := 13) rfl in_X9 4 (by decide) kF_X9_22 rfl rfl dX9_addToken_33 36 rfl ?_
    refine w_aload_n X 0 dX9_addToken_36 rfl rfl 37 rfl ?_
    refine w_getV (v := .int (rd m_4 2 5)) X 2 plt_2 ko_2 (T := TX9) (N := 13) rfl in_X9 5 (by decide) kF_X9_35 rfl rfl dX9_addToken_37 40 rfl ?_
    refine w_iconst X 1 dX9_addToken_40 rfl 41 rfl ?_
    refine w_gi hF (fun h_5 hF => ?_)
    refine w_ias X 6 plt_6 ko_6 (t0 := 0) rfl h_5 dX9_addToken_41 42 rfl ?_
    refine w_letm hF (fun m_6 hF => ?_)
    refine w_aload_n X 0 dX9_addToken_42 rfl rfl 43 rfl ?_
    refine w_dup X dX9_addToken_43 rfl 44 rfl ?_
    refine w_getV (v := .int (rd m_6 2 5)) X 2 plt_2 ko_2 (T := TX9) (N := 13) rfl in_X9 5 (by decide) kF_X9_35 rfl rfl dX9_addToken_44 47 rfl ?_
    refine w_iconst X 1 dX9_addToken_47 rfl 48 rfl ?_
    refine w_iadd X dX9_addToken_48 49 rfl ?_
    refine w_putI X 2 plt_2 ko_2 (T := TX9) (N := 13) rfl in_X9 tyX9 tyX9_ok nmX9 5 (by decide) kF_X9_35 rfl rfl rfl rfl (Nat.le_of_ble_eq_true rfl) rfl dX9_addToken_49 52 rfl ?_
    refine w_letm hF (fun m_7 hF => ?_)
    exact w_vret X hQ (o_inj hF) dX9_addToken_52
  · exact w_vret X hQ (o_inj hF) dX9_addToken_52
end Kc2
