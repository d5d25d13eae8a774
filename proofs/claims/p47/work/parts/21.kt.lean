section KT
def K_X11_checkPawn (fu : Nat) (x1 : Int32) (mem : Mem) : Option Nat := (if x1 < 0 then some 3 else (if x1 < (rd mem (pRace 0) 2) then some 0 else some 3))
def rm_X11_checkPawn : Room := { frames := 6, cells := 1, slots := 6, locals := 82 }
set_option maxHeartbeats 4000000 in
set_option maxRecDepth 100000 in
theorem ct_X11_checkPawn (l : Launch) (hl : l.stackTraces = false) {D : va_G} {ca ad : Nat → Nat} {Z : (Nat → Prop) → State → Heap → Prop} (hZ : ZOK Z) (hX : ZX Z) {tO : Nat} {sK sV : Nat → Nat} (hO : ZO Z tO sK sV) (fu : Nat) (x1 : Int32) (mem : Mem) (res : Nat) (hF : K_X11_checkPawn fu x1 mem = some res) : CTv l D (tyL ca) 255 ad (cC ca ad) Z yX11_checkPawn cX11_checkPawn 2 rm_X11_checkPawn [.ref (ad 0), .int x1] mem res := by
  refine start_tv (own := RX11) rfl (by decide) (Nat.le_of_ble_eq_true rfl) ?_
  intro p e s m args below meth c Q hQ htb X
  rw [K_X11_checkPawn] at hF
  refine w_iload_n X 1 dX11_checkPawn_0 rfl rfl 1 rfl ?_
  refine w_if_lt X hF 15 4 dX11_checkPawn_1 (by decide) rfl (fun hF => ?_) (fun hF => ?_)
  · exact w_thrW X hX hl htb hQ 3 (by decide) ((by rw [← o_inj hF])) exB_3 9 rfl ⟨Nat.le_of_ble_eq_true rfl, Nat.le_of_ble_eq_true rfl⟩ ⟨Nat.le_of_ble_eq_true rfl, Nat.le_of_ble_eq_true rfl⟩ ⟨Nat.le_of_ble_eq_true rfl, Nat.le_of_ble_eq_true rfl⟩ dX11_checkPawn_15 dX11_checkPawn_18 dX11_checkPawn_19 dX11_checkPawn_22 dX11_checkPawn_25
  · refine w_iload_n X 1 dX11_checkPawn_4 rfl rfl 5 rfl ?_
    refine w_aload_n X 0 dX11_checkPawn_5 rfl rfl 6 rfl ?_
    refine w_getV (v := .ref (ad (pRace 0))) X 0 plt_0 ko_0 (T := TX11) (N := 14) rfl in_X11 6 (by decide) kF_X11_40 rfl rfl dX11_checkPawn_6 9 rfl ?_
    refine w_getV (v := .int (rd mem (pRace 0) 2)) X (pRace 0) (lt_Race (Nat.le_of_ble_eq_true rfl)) ko_Race (T := TX6) (N := 8) rfl in_X6 2 (by decide) kF_X11_122 rfl rfl dX11_checkPawn_9 12 rfl ?_
    refine w_icmp_lt X hF 26 15 dX11_checkPawn_12 (by decide) rfl (fun hF => ?_) (fun hF => ?_)
    · exact w_tvret X hQ (by rw [← o_inj hF]) ⟨Nat.le_of_ble_eq_true rfl, Nat.le_of_ble_eq_true rfl⟩ dX11_checkPawn_26
    · exact w_thrW X hX hl htb hQ 3 (by decide) ((by rw [← o_inj hF])) exB_3 9 rfl ⟨Nat.le_of_ble_eq_true rfl, Nat.le_of_ble_eq_true rfl⟩ ⟨Nat.le_of_ble_eq_true rfl, Nat.le_of_ble_eq_true rfl⟩ ⟨Nat.le_of_ble_eq_true rfl, Nat.le_of_ble_eq_true rfl⟩ dX11_checkPawn_15 dX11_checkPawn_18 dX11_checkPawn_19 dX11_checkPawn_22 dX11_checkPawn_25

def K_X11_checkCell (fu : Nat) (x1 : Int32) (x2 : Int32) (mem : Mem) : Option Nat := bd (K_X2_hasCell fu 0 x1 x2 mem) (fun x_1 => (if x_1 = 0 then some 3 else some 0))
def rm_X11_checkCell : Room := { frames := 6, cells := 1, slots := 6, locals := 82 }
set_option maxHeartbeats 4000000 in
set_option maxRecDepth 100000 in
theorem ct_X11_checkCell (l : Launch) (hl : l.stackTraces = false) {D : va_G} {ca ad : Nat → Nat} {Z : (Nat → Prop) → State → Heap → Prop} (hZ : ZOK Z) (hX : ZX Z) {tO : Nat} {sK sV : Nat → Nat} (hO : ZO Z tO sK sV) (fu : Nat) (x1 : Int32) (x2 : Int32) (mem : Mem) (res : Nat) (hF : K_X11_checkCell fu x1 x2 mem = some res) : CTv l D (tyL ca) 255 ad (cC ca ad) Z yX11_checkCell cX11_checkCell 3 rm_X11_checkCell [.ref (ad 0), .int x1, .int x2] mem res := by
  refine start_tv (own := RX11) rfl (by decide) (Nat.le_of_ble_eq_true rfl) ?_
  intro p e s m args below meth c Q hQ htb X
  rw [K_X11_checkCell] at hF
  refine w_aload_n X 0 dX11_checkCell_0 rfl rfl 1 rfl ?_
  refine w_getV (v := .ref (ad (pRace 0))) X 0 plt_0 ko_0 (T := TX11) (N := 14) rfl in_X11 6 (by decide) kF_X11_40 rfl rfl dX11_checkCell_1 4 rfl ?_
  refine w_getV (v := .ref (ad (pBoard 0))) X (pRace 0) (lt_Race (Nat.le_of_ble_eq_true rfl)) ko_Race (T := TX6) (N := 8) rfl in_X6 0 (by decide) kF_X11_143 rfl rfl dX11_checkCell_4 7 rfl ?_
  refine w_iload_n X 1 dX11_checkCell_7 rfl rfl 8 rfl ?_
  refine w_iload_n X 2 dX11_checkCell_8 rfl rfl 9 rfl ?_
  refine w_callVi (fun x => x) (fun _ => mem) X hZ hF [.int x1, .int x2] (pBoard 0) (lt_Board (Nat.le_of_ble_eq_true rfl)) ko_Board rfl rfl rfl kB_X2_hasCell kL_X11_364 (fun res h => ct_X2_hasCell l hZ hO fu (Nat.le_of_ble_eq_true rfl) x1 x2 mem res h) rfl rfl rfl ⟨Nat.le_of_ble_eq_true rfl, Nat.le_of_ble_eq_true rfl⟩ (Nat.le_of_ble_eq_true rfl) ⟨Nat.le_of_ble_eq_true rfl, Nat.le_of_ble_eq_true rfl⟩ dX11_checkCell_9 12 rfl (fun x_1 hF => ?_)
  refine w_if_ne X hF 26 15 dX11_checkCell_12 (by decide) rfl (fun hF => ?_) (fun hF => ?_)
  · exact w_thrW X hX hl htb hQ 3 (by decide) ((by rw [← o_inj hF])) exB_3 10 rfl ⟨Nat.le_of_ble_eq_true rfl, Nat.le_of_ble_eq_true rfl⟩ ⟨Nat.le_of_ble_eq_true rfl, Nat.le_of_ble_eq_true rfl⟩ ⟨Nat.le_of_ble_eq_true rfl, Nat.le_of_ble_eq_true rfl⟩ dX11_checkCell_15 dX11_checkCell_18 dX11_checkCell_19 dX11_checkCell_22 dX11_checkCell_25
  · exact w_tvret X hQ (by rw [← o_inj hF]) ⟨Nat.le_of_ble_eq_true rfl, Nat.le_of_ble_eq_true rfl⟩ dX11_checkCell_26

def K_X11_checkPlace (fu : Nat) (x1 : Int32) (x2 : Int32) (mem : Mem) : Option Nat := bd (K_X2_hasPlace fu 0 x1 x2 mem) (fun x_1 => (if x_1 = 0 then some 3 else some 0))
def rm_X11_checkPlace : Room := { frames := 6, cells := 1, slots := 6, locals := 82 }
set_option maxHeartbeats 4000000 in
set_option maxRecDepth 100000 in
theorem ct_X11_checkPlace (l : Launch) (hl : l.stackTraces = false) {D : va_G} {ca ad : Nat → Nat} {Z : (Nat → Prop) → State → Heap → Prop} (hZ : ZOK Z) (hX : ZX Z) {tO : Nat} {sK sV : Nat → Nat} (hO : ZO Z tO sK sV) (fu : Nat) (x1 : Int32) (x2 : Int32) (mem : Mem) (res : Nat) (hF : K_X11_checkPlace fu x1 x2 mem = some res) : CTv l D (tyL ca) 255 ad (cC ca ad) Z yX11_checkPlace cX11_checkPlace 3 rm_X11_checkPlace [.ref (ad 0), .int x1, .int x2] mem res := by
  refine start_tv (own := RX11) rfl (by decide) (Nat.le_of_ble_eq_true rfl) ?_
  intro p e s m args below meth c Q hQ htb X
  rw [K_X11_checkPlace] at hF
  refine w_aload_n X 0 dX11_checkPlace_0 rfl rfl 1 rfl ?_
  refine w_getV (v := .ref (ad (pRace 0))) X 0 plt_0 ko_0 (T := TX11) (N := 14) rfl in_X11 6 (by decide) kF_X11_40 rfl rfl dX11_checkPlace_1 4 rfl ?_
  refine w_getV (v := .ref (ad (pBoard 0))) X (pRace 0) (lt_Race (Nat.le_of_ble_eq_true rfl)) ko_Race (T := TX6) (N := 8) rfl in_X6 0 (by decide) kF_X11_143 rfl rfl dX11_checkPlace_4 7 rfl ?_
  refine w_iload_n X 1 dX11_checkPlace_7 rfl rfl 8 rfl ?_
  refine w_iload_n X 2 dX11_checkPlace_8 rfl rfl 9 rfl ?_
  refine w_callVi (fun x => x) (fun _ => mem) X hZ hF [.int x1, .int x2] (pBoard 0) (lt_Board (Nat.le_of_ble_eq_true rfl)) ko_Board rfl rfl rfl kB_X2_hasPlace kL_X11_370 (fun res h => ct_X2_hasPlace l hZ hO fu (Nat.le_of_ble_eq_true rfl) x1 x2 mem res h) rfl rfl rfl ⟨Nat.le_of_ble_eq_true rfl, Nat.le_of_ble_eq_true rfl⟩ (Nat.le_of_ble_eq_true rfl) ⟨Nat.le_of_ble_eq_true rfl, Nat.le_of_ble_eq_true rfl⟩ dX11_checkPlace_9 12 rfl (fun x_1 hF => ?_)
  refine w_if_ne X hF 26 15 dX11_checkPlace_12 (by decide) rfl (fun hF => ?_) (fun hF => ?_)
  · exact w_thrW X hX hl htb hQ 3 (by decide) ((by rw [← o_inj hF])) exB_3 11 rfl ⟨Nat.le_of_ble_eq_true rfl, Nat.le_of_ble_eq_true rfl⟩ ⟨Nat.le_of_ble_eq_true rfl, Nat.le_of_ble_eq_true rfl⟩ ⟨Nat.le_of_ble_eq_true rfl, Nat.le_of_ble_eq_true rfl⟩ dX11_checkPlace_15 dX11_checkPlace_18 dX11_checkPlace_19 dX11_checkPlace_22 dX11_checkPlace_25
  · exact w_tvret X hQ (by rw [← o_inj hF]) ⟨Nat.le_of_ble_eq_true rfl, Nat.le_of_ble_eq_true rfl⟩ dX11_checkPlace_26

def K_X11_checkDirection (fu : Nat) (x1 : Int32) (mem : Mem) : Option Nat := (if x1 < 0 then some 1 else (if x1 < 4 then some 0 else some 1))
def rm_X11_checkDirection : Room := { frames := 6, cells := 1, slots := 6, locals := 82 }
set_option maxHeartbeats 4000000 in
set_option maxRecDepth 100000 in
theorem ct_X11_checkDirection (l : Launch) (hl : l.stackTraces = false) {D : va_G} {ca ad : Nat → Nat} {Z : (Nat → Prop) → State → Heap → Prop} (hZ : ZOK Z) (hX : ZX Z) {tO : Nat} {sK sV : Nat → Nat} (hO : ZO Z tO sK sV) (fu : Nat) (x1 : Int32) (mem : Mem) (res : Nat) (hF : K_X11_checkDirection fu x1 mem = some res) : CTv l D (tyL ca) 255 ad (cC ca ad) Z yX11_checkDirection cX11_checkDirection 2 rm_X11_checkDirection [.ref (ad 0), .int x1] mem res := by
  refine start_tv (own := RX11) rfl (by decide) (Nat.le_of_ble_eq_true rfl) ?_
  intro p e s m args below meth c Q hQ htb X
  rw [K_X11_checkDirection] at hF
  refine w_iload_n X 1 dX11_checkDirection_0 rfl rfl 1 rfl ?_
  refine w_if_lt X hF 9 4 dX11_checkDirection_1 (by decide) rfl (fun hF => ?_) (fun hF => ?_)
  · exact w_thrW X hX hl htb hQ 1 (by decide) ((by rw [← o_inj hF])) exB_1 12 rfl ⟨Nat.le_of_ble_eq_true rfl, Nat.le_of_ble_eq_true rfl⟩ ⟨Nat.le_of_ble_eq_true rfl, Nat.le_of_ble_eq_true rfl⟩ ⟨Nat.le_of_ble_eq_true rfl, Nat.le_of_ble_eq_true rfl⟩ dX11_checkDirection_9 dX11_checkDirection_12 dX11_checkDirection_13 dX11_checkDirection_16 dX11_checkDirection_19
  · refine w_iload_n X 1 dX11_checkDirection_4 rfl rfl 5 rfl ?_
    refine w_iconst X 4 dX11_checkDirection_5 rfl 6 rfl ?_
    refine w_icmp_lt X hF 20 9 dX11_checkDirection_6 (by decide) rfl (fun hF => ?_) (fun hF => ?_)
    · exact w_tvret X hQ (by rw [← o_inj hF]) ⟨Nat.le_of_ble_eq_true rfl, Nat.le_of_ble_eq_true rfl⟩ dX11_checkDirection_20
    · exact w_thrW X hX hl htb hQ 1 (by decide) ((by rw [← o_inj hF])) exB_1 12 rfl ⟨Nat.le_of_ble_eq_true rfl, Nat.le_of_ble_eq_true rfl⟩ ⟨Nat.le_of_ble_eq_true rfl, Nat.le_of_ble_eq_true rfl⟩ ⟨Nat.le_of_ble_eq_true rfl, Nat.le_of_ble_eq_true rfl⟩ dX11_checkDirection_9 dX11_checkDirection_12 dX11_checkDirection_13 dX11_checkDirection_16 dX11_checkDirection_19

def K_X11_checkPlay (fu : Nat) (x1 : Int32) (x2 : Int32) (mem : Mem) : Option Nat := bd (K_X11_mayPlay fu x1 x2 mem) (fun x_1 => (if x_1 = 0 then some 1 else some 0))
def rm_X11_checkPlay : Room := { frames := 6, cells := 1, slots := 6, locals := 82 }
set_option maxHeartbeats 4000000 in
set_option maxRecDepth 100000 in
theorem ct_X11_checkPlay (l : Launch) (hl : l.stackTraces = false) {D : va_G} {ca ad : Nat → Nat} {Z : (Nat → Prop) → State → Heap → Prop} (hZ : ZOK Z) (hX : ZX Z) {tO : Nat} {sK sV : Nat → Nat} (hO : ZO Z tO sK sV) (fu : Nat) (x1 : Int32) (x2 : Int32) (mem : Mem) (res : Nat) (hF : K_X11_checkPlay fu x1 x2 mem = some res) : CTv l D (tyL ca) 255 ad (cC ca ad) Z yX11_checkPlay cX11_checkPlay 3 rm_X11_checkPlay [.ref (ad 0), .int x1, .int x2] mem res := by
  refine start_tv (own := RX11) rfl (by decide) (Nat.le_of_ble_eq_true rfl) ?_
  intro p e s m args below meth c Q hQ htb X
  rw [K_X11_checkPlay] at hF
  refine w_iload_n X 1 dX11_checkPlay_0 rfl rfl 1 rfl ?_
  refine w_iload_n X 2 dX11_checkPlay_1 rfl rfl 2 rfl ?_
  refine w_callSi (fun x => x) (fun _ => mem) X hZ hF [.int x1, .int x2] rfl kB_X11_mayPlay kL_X11_377 (fun res h => ct_X11_mayPlay l hZ hO fu x1 x2 mem res h) rfl rfl rfl ⟨Nat.le_of_ble_eq_true rfl, Nat.le_of_ble_eq_true rfl⟩ (Nat.le_of_ble_eq_true rfl) ⟨Nat.le_of_ble_eq_true rfl, Nat.le_of_ble_eq_true rfl⟩ dX11_checkPlay_2 5 rfl (fun x_1 hF => ?_)
  refine w_if_ne X hF 19 8 dX11_checkPlay_5 (by decide) rfl (fun hF => ?_) (fun hF => ?_)
  · exact w_thrW X hX hl htb hQ 1 (by decide) ((by rw [← o_inj hF])) exB_1 13 rfl ⟨Nat.le_of_ble_eq_true rfl, Nat.le_of_ble_eq_true rfl⟩ ⟨Nat.le_of_ble_eq_true rfl, Nat.le_of_ble_eq_true rfl⟩ ⟨Nat.le_of_ble_eq_true rfl, Nat.le_of_ble_eq_true rfl⟩ dX11_checkPlay_8 dX11_checkPlay_11 dX11_checkPlay_12 dX11_checkPlay_15 dX11_checkPlay_18
  · exact w_tvret X hQ (by rw [← o_inj hF]) ⟨Nat.le_of_ble_eq_true rfl, Nat.le_of_ble_eq_true rfl⟩ dX11_checkPlay_19

def K_X11_advised (fu : Nat) (x1 : Int32) (mem : Mem) : Option TR := bdt (K_X11_checkPawn fu x1 mem) mem (bd (K_X5_advise fu 0 x1 mem) (fun p_1 => some (0, p_1.1, p_1.2)))
def K_X11_bestWall (fu : Nat) (x1 : Int32) (mem : Mem) : Option TR := bdt (K_X11_checkPawn fu x1 mem) mem (bd (K_X5_findBest fu 0 x1 mem) (fun p_1 => (if p_1.1 = 0 then some (0, (-1), p_1.2) else some (0, (((100 * (rd p_1.2 17 5)) + (10 * (rd p_1.2 17 4))) + (rd p_1.2 17 3)), p_1.2))))
def K_X11_build (fu : Nat) (x1 : Int32) (x2 : Int32) (x3 : Int32) (mem : Mem) : Option TR := bdt (K_X11_checkPlace fu x1 x2 mem) mem ((if x3 = 0 then bd (K_X5_mayBuild fu 0 x1 x2 0 mem) (fun p_1 => (if p_1.1 = 0 then some (2, 0, p_1.2) else bd (K_X3_keep fu 0 p_1.2) (fun m_2 => gi (rd m_2 (pRace 0) 6) 4 (bd (K_X6_buildWall fu 0 x1 x2 0 m_2) (fun m_4 => some (0, (rd m_4 (pPawn 0 (Int32.toNatClampNeg (rd m_2 (pRace 0) 6))) 2), m_4)))))) else bd (K_X5_mayBuild fu 0 x1 x2 1 mem) (fun p_5 => (if p_5.1 = 0 then some (2, 0, p_5.2) else bd (K_X3_keep fu 0 p_5.2) (fun m_6 => gi (rd m_6 (pRace 0) 6) 4 (bd (K_X6_buildWall fu 0 x1 x2 1 m_6) (fun m_8 => some (0, (rd m_8 (pPawn 0 (Int32.toNatClampNeg (rd m_6 (pRace 0) 6))) 2), m_8))))))))
def rm_X11_build : Room := { frames := 7, cells := 3, slots := 18, locals := 130 }
set_option maxHeartbeats 4000000 in
set_option maxRecDepth 100000 in
theorem ct_X11_build (l : Launch) (hl : l.stackTraces = false) {D : va_G} {ca ad : Nat → Nat} {Z : (Nat → Prop) → State → Heap → Prop} (hZ : ZOK Z) (hX : ZX Z) {tO : Nat} {sK sV : Nat → Nat} (hO : ZO Z tO sK sV) (fu : Nat) (x1 : Int32) (x2 : Int32) (x3 : Int32) (mem : Mem) (res : TR) (hF : K_X11_build fu x1 x2 x3 mem = some res) : CT l D (tyL ca) 255 ad (cC ca ad) Z yX11_build cX11_build 6 .int rm_X11_build [.ref (ad 0), .int x1, .int x2, .int x3] mem res := by
  refine start_t (own := RX11) rfl (by decide) (Nat.le_of_ble_eq_true rfl) ?_
  intro p e s m args below meth c Q hQ htb X
  rw [K_X11_build] at hF
  refine w_aload_n X 0 dX11_build_0 rfl rfl 1 rfl ?_
  refine w_iload_n X 1 dX11_build_1 rfl rfl 2 rfl ?_
  refine w_iload_n X 2 dX11_build_2 rfl rfl 3 rfl ?_
  refine w_chk X hZ htb hQ hF [.int x1, .int x2] 0 plt_0 ko_0 rfl rfl rfl kB_X11_checkPlace kL_X11_217 (fun res h => ct_X11_checkPlace l hl hZ hX hO fu x1 x2 mem res h) rfl rfl rfl ⟨Nat.le_of_ble_eq_true rfl, Nat.le_of_ble_eq_true rfl⟩ (Nat.le_of_ble_eq_true rfl) ⟨Nat.le_of_ble_eq_true rfl, Nat.le_of_ble_eq_true rfl⟩ ⟨Nat.le_of_ble_eq_true rfl, Nat.le_of_ble_eq_true rfl⟩ dX11_build_3 6 rfl (fun hF => ?_)
  refine w_iload_n X 3 dX11_build_6 rfl rfl 7 rfl ?_
  refine w_if_eq X hF 14 10 dX11_build_7 (by decide) rfl (fun hF => ?_) (fun hF => ?_)
  · refine w_iconst X 0 dX11_build_14 rfl 15 rfl ?_
    refine w_istore X [(4, .int 0), (0, .ref (ad 0)), (1, .int x1), (2, .int x2), (3, .int x3)] dX11_build_15 (by decide) rfl 17 rfl ?_
    refine w_aload_n X 1 dX11_build_17 rfl rfl 18 rfl ?_
    refine w_getV (v := .ref (ad 17)) X 0 plt_0 ko_0 (T := TX11) (N := 14) rfl in_X11 3 (by decide) kF_X11_19 rfl rfl dX11_build_18 21 rfl ?_
    refine w_aload_n X 1 dX11_build_21 rfl rfl 22 rfl ?_
    refine w_getV (v := .ref (ad (pRace 0))) X 0 plt_0 ko_0 (T := TX11) (N := 14) rfl in_X11 6 (by decide) kF_X11_40 rfl rfl dX11_build_22 25 rfl ?_
    refine w_iload_n X 2 dX11_build_25 rfl rfl 26 rfl ?_
    refine w_iload_n X 3 dX11_build_26 rfl rfl 27 rfl ?_
    refine w_iload X 0 dX11_build_27 rfl 29 rfl ?_
    refine w_callVi (fun x => x.1) (fun x => x.2) X hZ hF [.ref (ad (pRace 0)), .int x1, .int x2, .int 0] 17 plt_17 ko_17 rfl rfl rfl kB_X5_mayBuild kL_X11_327 (fun res h => ct_X5_mayBuild l hZ hO fu (Nat.le_of_ble_eq_true rfl) x1 x2 0 mem res h) rfl rfl rfl ⟨Nat.le_of_ble_eq_true rfl, Nat.le_of_ble_eq_true rfl⟩ (Nat.le_of_ble_eq_true rfl) ⟨Nat.le_of_ble_eq_true rfl, Nat.le_of_ble_eq_true rfl⟩ dX11_build_29 32 rfl (fun p_1 hF => ?_)
    refine w_if_ne X hF 46 35 dX11_build_32 (by decide) rfl (fun hF => ?_) (fun hF => ?_)
    · exact w_thrW X hX hl htb hQ 2 (by decide) (o_inj hF) exB_2 7 rfl ⟨Nat.le_of_ble_eq_true rfl, Nat.le_of_ble_eq_true rfl⟩ ⟨Nat.le_of_ble_eq_true rfl, Nat.le_of_ble_eq_true rfl⟩ ⟨Nat.le_of_ble_eq_true rfl, Nat.le_of_ble_eq_true rfl⟩ dX11_build_35 dX11_build_38 dX11_build_39 dX11_build_42 dX11_build_45
    · refine w_aload_n X 1 dX11_build_46 rfl rfl 47 rfl ?_
      refine w_getV (v := .ref (ad 33)) X 0 plt_0 ko_0 (T := TX11) (N := 14) rfl in_X11 11 (by decide) kF_X11_78 rfl rfl dX11_build_47 50 rfl ?_
      refine w_aload_n X 1 dX11_build_50 rfl rfl 51 rfl ?_
      refine w_getV (v := .ref (ad (pRace 0))) X 0 plt_0 ko_0 (T := TX11) (N := 14) rfl in_X11 6 (by decide) kF_X11_40 rfl rfl dX11_build_51 54 rfl ?_
      refine w_callVv (fun m => m) X hZ hF [.ref (ad (pRace 0))] 33 plt_33 ko_33 rfl rfl rfl kB_X3_keep kL_X11_130 (fun res h => ct_X3_keep l hZ hO fu (Nat.le_of_ble_eq_true rfl) p_1.2 res h) rfl rfl rfl ⟨Nat.le_of_ble_eq_true rfl, Nat.le_of_ble_eq_true rfl⟩ (Nat.le_of_ble_eq_true rfl) ⟨Nat.le_of_ble_eq_true rfl, Nat.le_of_ble_eq_true rfl⟩ dX11_build_54 57 rfl (fun m_2 hF => ?_)
      refine w_aload_n X 1 dX11_build_57 rfl rfl 58 rfl ?_
      refine w_getV (v := .ref (ad (pRace 0))) X 0 plt_0 ko_0 (T := TX11) (N := 14) rfl in_X11 6 (by decide) kF_X11_40 rfl rfl dX11_build_58 61 rfl ?_
      refine w_getV (v := .ref (ad (pPawns 0))) X (pRace 0) (lt_Race (Nat.le_of_ble_eq_true rfl)) ko_Race (T := TX6) (N := 8) rfl in_X6 1 (by decide) kF_X11_172 rfl rfl dX11_build_61 64 rfl ?_
      refine w_aload_n X 1 dX11_build_64 rfl rfl 65 rfl ?_
      refine w_getV (v := .ref (ad (pRace 0))) X 0 plt_0 ko_0 (T := TX11) (N := 14) rfl in_X11 6 (by decide) kF_X11_40 rfl rfl dX11_build_65 68 rfl ?_
      refine w_getV (v := .int (rd m_2 (pRace 0) 6)) X (pRace 0) (lt_Race (Nat.le_of_ble_eq_true rfl)) ko_Race (T := TX6) (N := 8) rfl in_X6 6 (by decide) kF_X11_321 rfl rfl dX11_build_68 71 rfl ?_
      refine w_gi hF (fun h_3 hF => ?_)
      refine w_aal X (pPawns 0) (lt_Pawns (Nat.le_of_ble_eq_true rfl)) (pPawn 0 (Int32.toNatClampNeg (rd m_2 (pRace 0) 6))) ko_Pawns (t0 := 2) rfl h_3 (el_Pawns (vp_lt h_3)) dX11_build_71 72 rfl ?_
      refine w_astore X [(5, .ref (ad (pPawn 0 (Int32.toNatClampNeg (rd m_2 (pRace 0) 6))))), (4, .int 0), (0, .ref (ad 0)), (1, .int x1), (2, .int x2), (3, .int x3)] dX11_build_72 (by decide) rfl 74 rfl ?_
      refine w_aload_n X 2 dX11_build_74 rfl rfl 75 rfl ?_
      refine w_getV (v := .ref (ad (pRace 0))) X 0 plt_0 ko_0 (T := TX11) (N := 14) rfl in_X11 6 (by decide) kF_X11_40 rfl rfl dX11_build_75 78 rfl ?_
      refine w_iload_n X 3 dX11_build_78 rfl rfl 79 rfl ?_
      refine w_iload_n X 4 dX11_build_79 rfl rfl 80 rfl ?_
      refine w_iload X 1 dX11_build_80 rfl 82 rfl ?_
      refine w_callVv (fun m => m) X hZ hF [.int x1, .int x2, .int 0] (pRace 0) (lt_Race (Nat.le_of_ble_eq_true rfl)) ko_Race rfl rfl rfl kB_X6_buildWall kL_X11_332 (fun res h => ct_X6_buildWall l hZ hO fu (Nat.le_of_ble_eq_true rfl) x1 x2 0 m_2 res h) rfl rfl rfl ⟨Nat.le_of_ble_eq_true rfl, Nat.le_of_ble_eq_true rfl⟩ (Nat.le_of_ble_eq_true rfl) ⟨Nat.le_of_ble_eq_true rfl, Nat.le_of_ble_eq_true rfl⟩ dX11_build_82 85 rfl (fun m_4 hF => ?_)
      refine w_aload X 0 dX11_build_85 rfl 87 rfl ?_
      refine w_getV (v := .int (rd m_4 (pPawn 0 (Int32.toNatClampNeg (rd m_2 (pRace 0) 6))) 2)) X (pPawn 0 (Int32.toNatClampNeg (rd m_2 (pRace 0) 6))) (lt_Pawn (Nat.le_of_ble_eq_true rfl) (vp_lt h_3)) (ko_Pawn (vp_lt h_3)) (T := TX4) (N := 6) rfl in_X4 2 (by decide) kF_X11_184 rfl rfl dX11_build_87 90 rfl ?_
      exact w_tret X hQ (o_inj hF) rfl ⟨Nat.le_of_ble_eq_true rfl, Nat.le_of_ble_eq_true rfl⟩ dX11_build_90
  · refine w_iconst X 1 dX11_build_10 rfl 11 rfl ?_
    refine w_goto X 15 dX11_build_11 (by decide) ?_
    refine w_istore X [(4, .int 1), (0, .ref (ad 0)), (1, .int x1), (2, .int x2), (3, .int x3)] dX11_build_15 (by decide) rfl 17 rfl ?_
    refine w_aload_n X 1 dX11_build_17 rfl rfl 18 rfl ?_
    refine w_getV (v := .ref (ad 17)) X 0 plt_0 ko_0 (T := TX11) (N := 14) rfl in_X11 3 (by decide) kF_X11_19 rfl rfl dX11_build_18 21 rfl ?_
    refine w_aload_n X 1 dX11_build_21 rfl rfl 22 rfl ?_
    refine w_getV (v := .ref (ad (pRace 0))) X 0 plt_0 ko_0 (T := TX11) (N := 14) rfl in_X11 6 (by decide) kF_X11_40 rfl rfl dX11_build_22 25 rfl ?_
    refine w_iload_n X 2 dX11_build_25 rfl rfl 26 rfl ?_
    refine w_iload_n X 3 dX11_build_26 rfl rfl 27 rfl ?_
    refine w_iload X 0 dX11_build_27 rfl 29 rfl ?_
    refine w_callVi (fun x => x.1) (fun x => x.2) X hZ hF [.ref (ad (pRace 0)), .int x1, .int x2, .int 1] 17 plt_17 ko_17 rfl rfl rfl kB_X5_mayBuild kL_X11_327 (fun res h => ct_X5_mayBuild l hZ hO fu (Nat.le_of_ble_eq_true rfl) x1 x2 1 mem res h) rfl rfl rfl ⟨Nat.le_of_ble_eq_true rfl, Nat.le_of_ble_eq_true rfl⟩ (Nat.le_of_ble_eq_true rfl) ⟨Nat.le_of_ble_eq_true rfl, Nat.le_of_ble_eq_true rfl⟩ dX11_build_29 32 rfl (fun p_5 hF => ?_)
    refine w_if_ne X hF 46 35 dX11_build_32 (by decide) rfl (fun hF => ?_) (fun hF => ?_)
    · exact w_thrW X hX hl htb hQ 2 (by decide) (o_inj hF) exB_2 7 rfl ⟨Nat.le_of_ble_eq_true rfl, Nat.le_of_ble_eq_true rfl⟩ ⟨Nat.le_of_ble_eq_true rfl, Nat.le_of_ble_eq_true rfl⟩ ⟨Nat.le_of_ble_eq_true rfl, Nat.le_of_ble_eq_true rfl⟩ dX11_build_35 dX11_build_38 dX11_build_39 dX11_build_42 dX11_build_45
    · refine w_aload_n X 1 dX11_build_46 rfl rfl 47 rfl ?_
      refine w_getV (v := .ref (ad 33)) X 0 plt_0 ko_0 (T := TX11) (N := 14) rfl in_X11 11 (by decide) kF_X11_78 rfl rfl dX11_build_47 50 rfl ?_
      refine w_aload_n X 1 dX11_build_50 rfl rfl 51 rfl ?_
      refine w_getV (v := .ref (ad (pRace 0))) X 0 plt_0 ko_0 (T := TX11) (N := 14) rfl in_X11 6 (by decide) kF_X11_40 rfl rfl dX11_build_51 54 rfl ?_
      refine w_callVv (fun m => m) X hZ hF [.ref (ad (pRace 0))] 33 plt_33 ko_33 rfl rfl rfl kB_X3_keep kL_X11_130 (fun res h => ct_X3_keep l hZ hO fu (Nat.le_of_ble_eq_true rfl) p_5.2 res h) rfl rfl rfl ⟨Nat.le_of_ble_eq_true rfl, Nat.le_of_ble_eq_true rfl⟩ (Nat.le_of_ble_eq_true rfl) ⟨Nat.le_of_ble_eq_true rfl, Nat.le_of_ble_eq_true rfl⟩ dX11_build_54 57 rfl (fun m_6 hF => ?_)
      refine w_aload_n X 1 dX11_build_57 rfl rfl 58 rfl ?_
      refine w_getV (v := .ref (ad (pRace 0))) X 0 plt_0 ko_0 (T := TX11) (N := 14) rfl in_X11 6 (by decide) kF_X11_40 rfl rfl dX11_build_58 61 rfl ?_
      refine w_getV (v := .ref (ad (pPawns 0))) X (pRace 0) (lt_Race (Nat.le_of_ble_eq_true rfl)) ko_Race (T := TX6) (N := 8) rfl in_X6 1 (by decide) kF_X11_172 rfl rfl dX11_build_61 64 rfl ?_
      refine w_aload_n X 1 dX11_build_64 rfl rfl 65 rfl ?_
      refine w_getV (v := .ref (ad (pRace 0))) X 0 plt_0 ko_0 (T := TX11) (N := 14) rfl in_X11 6 (by decide) kF_X11_40 rfl rfl dX11_build_65 68 rfl ?_
      refine w_getV (v := .int (rd m_6 (pRace 0) 6)) X (pRace 0) (lt_Race (Nat.le_of_ble_eq_true rfl)) ko_Race (T := TX6) (N := 8) rfl in_X6 6 (by decide) kF_X11_321 rfl rfl dX11_build_68 71 rfl ?_
      refine w_gi hF (fun h_7 hF => ?_)
      refine w_aal X (pPawns 0) (lt_Pawns (Nat.le_of_ble_eq_true rfl)) (pPawn 0 (Int32.toNatClampNeg (rd m_6 (pRace 0) 6))) ko_Pawns (t0 := 2) rfl h_7 (el_Pawns (vp_lt h_7)) dX11_build_71 72 rfl ?_
      refine w_astore X [(5, .ref (ad (pPawn 0 (Int32.toNatClampNeg (rd m_6 (pRace 0) 6))))), (4, .int 1), (0, .ref (ad 0)), (1, .int x1), (2, .int x2), (3, .int x3)] dX11_build_72 (by decide) rfl 74 rfl ?_
      refine w_aload_n X 2 dX11_build_74 rfl rfl 75 rfl ?_
      refine w_getV (v := .ref (ad (pRace 0))) X 0 plt_0 ko_0 (T := TX11) (N := 14) rfl in_X11 6 (by decide) kF_X11_40 rfl rfl dX11_build_75 78 rfl ?_
      refine w_iload_n X 3 dX11_build_78 rfl rfl 79 rfl ?_
      refine w_iload_n X 4 dX11_build_79 rfl rfl 80 rfl ?_
      refine w_iload X 1 dX11_build_80 rfl 82 rfl ?_
      refine w_callVv (fun m => m) X hZ hF [.int x1, .int x2, .int 1] (pRace 0) (lt_Race (Nat.le_of_ble_eq_true rfl)) ko_Race rfl rfl rfl kB_X6_buildWall kL_X11_332 (fun res h => ct_X6_buildWall l hZ hO fu (Nat.le_of_ble_eq_true rfl) x1 x2 1 m_6 res h) rfl rfl rfl ⟨Nat.le_of_ble_eq_true rfl, Nat.le_of_ble_eq_true rfl⟩ (Nat.le_of_ble_eq_true rfl) ⟨Nat.le_of_ble_eq_true rfl, Nat.le_of_ble_eq_true rfl⟩ dX11_build_82 85 rfl (fun m_8 hF => ?_)
      refine w_aload X 0 dX11_build_85 rfl 87 rfl ?_
      refine w_getV (v := .int (rd m_8 (pPawn 0 (Int32.toNatClampNeg (rd m_6 (pRace 0) 6))) 2)) X (pPawn 0 (Int32.toNatClampNeg (rd m_6 (pRace 0) 6))) (lt_Pawn (Nat.le_of_ble_eq_true rfl) (vp_lt h_7)) (ko_Pawn (vp_lt h_7)) (T := TX4) (N := 6) rfl in_X4 2 (by decide) kF_X11_184 rfl rfl dX11_build_87 90 rfl ?_
      exact w_tret X hQ (o_inj hF) rfl ⟨Nat.le_of_ble_eq_true rfl, Nat.le_of_ble_eq_true rfl⟩ dX11_build_90

def K_X11_canStep (fu : Nat) (x1 : Int32) (x2 : Int32) (mem : Mem) : Option TR := bdt (K_X11_checkPawn fu x1 mem) mem (bdt (K_X11_checkDirection fu x2 mem) mem (bd (K_X6_landing fu 0 x1 x2 mem) (fun x_1 => (if x_1 = (-1) then some (0, 0, mem) else some (0, 1, mem)))))
def rm_X11_canStep : Room := { frames := 7, cells := 3, slots := 18, locals := 103 }
set_option maxHeartbeats 4000000 in
set_option maxRecDepth 100000 in
theorem ct_X11_canStep (l : Launch) (hl : l.stackTraces = false) {D : va_G} {ca ad : Nat → Nat} {Z : (Nat → Prop) → State → Heap → Prop} (hZ : ZOK Z) (hX : ZX Z) {tO : Nat} {sK sV : Nat → Nat} (hO : ZO Z tO sK sV) (fu : Nat) (x1 : Int32) (x2 : Int32) (mem : Mem) (res : TR) (hF : K_X11_canStep fu x1 x2 mem = some res) : CT l D (tyL ca) 255 ad (cC ca ad) Z yX11_canStep cX11_canStep 3 .boolean rm_X11_canStep [.ref (ad 0), .int x1, .int x2] mem res := by
  refine start_t (own := RX11) rfl (by decide) (Nat.le_of_ble_eq_true rfl) ?_
  intro p e s m args below meth c Q hQ htb X
  rw [K_X11_canStep] at hF
  refine w_aload_n X 0 dX11_canStep_0 rfl rfl 1 rfl ?_
  refine w_iload_n X 1 dX11_canStep_1 rfl rfl 2 rfl ?_
  refine w_chk X hZ htb hQ hF [.int x1] 0 plt_0 ko_0 rfl rfl rfl kB_X11_checkPawn kL_X11_169 (fun res h => ct_X11_checkPawn l hl hZ hX hO fu x1 mem res h) rfl rfl rfl ⟨Nat.le_of_ble_eq_true rfl, Nat.le_of_ble_eq_true rfl⟩ (Nat.le_of_ble_eq_true rfl) ⟨Nat.le_of_ble_eq_true rfl, Nat.le_of_ble_eq_true rfl⟩ ⟨Nat.le_of_ble_eq_true rfl, Nat.le_of_ble_eq_true rfl⟩ dX11_canStep_2 5 rfl (fun hF => ?_)
  refine w_aload_n X 0 dX11_canStep_5 rfl rfl 6 rfl ?_
  refine w_iload_n X 2 dX11_canStep_6 rfl rfl 7 rfl ?_
  refine w_chk X hZ htb hQ hF [.int x2] 0 plt_0 ko_0 rfl rfl rfl kB_X11_checkDirection kL_X11_224 (fun res h => ct_X11_checkDirection l hl hZ hX hO fu x2 mem res h) rfl rfl rfl ⟨Nat.le_of_ble_eq_true rfl, Nat.le_of_ble_eq_true rfl⟩ (Nat.le_of_ble_eq_true rfl) ⟨Nat.le_of_ble_eq_true rfl, Nat.le_of_ble_eq_true rfl⟩ ⟨Nat.le_of_ble_eq_true rfl, Nat.le_of_ble_eq_true rfl⟩ dX11_canStep_7 10 rfl (fun hF => ?_)
  refine w_aload_n X 0 dX11_canStep_10 rfl rfl 11 rfl ?_
  refine w_getV (v := .ref (ad (pRace 0))) X 0 plt_0 ko_0 (T := TX11) (N := 14) rfl in_X11 6 (by decide) kF_X11_40 rfl rfl dX11_canStep_11 14 rfl ?_
  refine w_iload_n X 1 dX11_canStep_14 rfl rfl 15 rfl ?_
  refine w_iload_n X 2 dX11_canStep_15 rfl rfl 16 rfl ?_
  refine w_callVi (fun x => x) (fun _ => mem) X hZ hF [.int x1, .int x2] (pRace 0) (lt_Race (Nat.le_of_ble_eq_true rfl)) ko_Race rfl rfl rfl kB_X6_landing kL_X11_242 (fun res h => ct_X6_landing l hZ hO fu (Nat.le_of_ble_eq_true rfl) x1 x2 mem res h) rfl rfl rfl ⟨Nat.le_of_ble_eq_true rfl, Nat.le_of_ble_eq_true rfl⟩ (Nat.le_of_ble_eq_true rfl) ⟨Nat.le_of_ble_eq_true rfl, Nat.le_of_ble_eq_true rfl⟩ dX11_canStep_16 19 rfl (fun x_1 hF => ?_)
  refine w_iconst X (-1) dX11_canStep_19 rfl 20 rfl ?_
  refine w_icmp_eq X hF 27 23 dX11_canStep_20 (by decide) rfl (fun hF => ?_) (fun hF => ?_)
  · refine w_iconst X 0 dX11_canStep_27 rfl 28 rfl ?_
    exact w_tret X hQ (o_inj hF) rfl ⟨Nat.le_of_ble_eq_true rfl, Nat.le_of_ble_eq_true rfl⟩ dX11_canStep_28
  · refine w_iconst X 1 dX11_canStep_23 rfl 24 rfl ?_
    refine w_goto X 28 dX11_canStep_24 (by decide) ?_
    exact w_tret X hQ (o_inj hF) rfl ⟨Nat.le_of_ble_eq_true rfl, Nat.le_of_ble_eq_true rfl⟩ dX11_canStep_28

def K_X11_detour (fu : Nat) (x1 : Int32) (mem : Mem) : Option TR := bdt (K_X11_checkPawn fu x1 mem) mem (bd (K_X1_leastSteps fu 0 x1 mem) (fun p_1 => (if p_1.1 = (-1) then some (0, (-1), p_1.2) else gi x1 4 (bd (K_X10_measure fu 1 0 0 (Int32.toNatClampNeg x1) p_1.2) (fun p_3 => some (0, (p_1.1 - p_3.1), p_3.2))))))
def rm_X11_detour : Room := { frames := 7, cells := 3, slots := 18, locals := 103 }
set_option maxHeartbeats 4000000 in
set_option maxRecDepth 100000 in
theorem ct_X11_detour (l : Launch) (hl : l.stackTraces = false) {D : va_G} {ca ad : Nat → Nat} {Z : (Nat → Prop) → State → Heap → Prop} (hZ : ZOK Z) (hX : ZX Z) {tO : Nat} {sK sV : Nat → Nat} (hO : ZO Z tO sK sV) (fu : Nat) (x1 : Int32) (mem : Mem) (res : TR) (hF : K_X11_detour fu x1 mem = some res) : CT l D (tyL ca) 255 ad (cC ca ad) Z yX11_detour cX11_detour 3 .int rm_X11_detour [.ref (ad 0), .int x1] mem res := by
  refine start_t (own := RX11) rfl (by decide) (Nat.le_of_ble_eq_true rfl) ?_
  intro p e s m args below meth c Q hQ htb X
  rw [K_X11_detour] at hF
  refine w_aload_n X 0 dX11_detour_0 rfl rfl 1 rfl ?_
  refine w_iload_n X 1 dX11_detour_1 rfl rfl 2 rfl ?_
  refine w_chk X hZ htb hQ hF [.int x1] 0 plt_0 ko_0 rfl rfl rfl kB_X11_checkPawn kL_X11_169 (fun res h => ct_X11_checkPawn l hl hZ hX hO fu x1 mem res h) rfl rfl rfl ⟨Nat.le_of_ble_eq_true rfl, Nat.le_of_ble_eq_true rfl⟩ (Nat.le_of_ble_eq_true rfl) ⟨Nat.le_of_ble_eq_true rfl, Nat.le_of_ble_eq_true rfl⟩ ⟨Nat.le_of_ble_eq_true rfl, Nat.le_of_ble_eq_true rfl⟩ dX11_detour_2 5 rfl (fun hF => ?_)
  refine w_aload_n X 0 dX11_detour_5 rfl rfl 6 rfl ?_
  refine w_getV (v := .ref (ad 28)) X 0 plt_0 ko_0 (T := TX11) (N := 14) rfl in_X11 5 (by decide) kF_X11_33 rfl rfl dX11_detour_6 9 rfl ?_
  refine w_aload_n X 0 dX11_detour_9 rfl rfl 10 rfl ?_
  refine w_getV (v := .ref (ad (pRace 0))) X 0 plt_0 ko_0 (T := TX11) (N := 14) rfl in_X11 6 (by decide) kF_X11_40 rfl rfl dX11_detour_10 13 rfl ?_
  refine w_iload_n X 1 dX11_detour_13 rfl rfl 14 rfl ?_
  refine w_callVi (fun x => x.1) (fun x => x.2) X hZ hF [.ref (ad (pRace 0)), .int x1] 28 plt_28 ko_28 rfl rfl rfl kB_X1_leastSteps kL_X11_272 (fun res h => ct_X1_leastSteps l hZ hO fu (Nat.le_of_ble_eq_true rfl) x1 mem res h) rfl rfl rfl ⟨Nat.le_of_ble_eq_true rfl, Nat.le_of_ble_eq_true rfl⟩ (Nat.le_of_ble_eq_true rfl) ⟨Nat.le_of_ble_eq_true rfl, Nat.le_of_ble_eq_true rfl⟩ dX11_detour_14 17 rfl (fun p_1 hF => ?_)
  refine w_istore_n X [(2, .int p_1.1), (0, .ref (ad 0)), (1, .int x1)] dX11_detour_17 rfl (by decide) rfl 18 rfl ?_
  refine w_iload_n X 0 dX11_detour_18 rfl rfl 19 rfl ?_
  refine w_iconst X (-1) dX11_detour_19 rfl 20 rfl ?_
  refine w_icmp_ne X hF 27 23 dX11_detour_20 (by decide) rfl (fun hF => ?_) (fun hF => ?_)
  · refine w_iconst X (-1) dX11_detour_23 rfl 24 rfl ?_
    refine w_goto X 52 dX11_detour_24 (by decide) ?_
    exact w_tret X hQ (o_inj hF) rfl ⟨Nat.le_of_ble_eq_true rfl, Nat.le_of_ble_eq_true rfl⟩ dX11_detour_52
  · refine w_iload_n X 0 dX11_detour_27 rfl rfl 28 rfl ?_
    refine w_aload_n X 1 dX11_detour_28 rfl rfl 29 rfl ?_
    refine w_getV (v := .ref (ad (pWays 1))) X 0 plt_0 ko_0 (T := TX11) (N := 14) rfl in_X11 4 (by decide) kF_X11_26 rfl rfl dX11_detour_29 32 rfl ?_
    refine w_aload_n X 1 dX11_detour_32 rfl rfl 33 rfl ?_
    refine w_getV (v := .ref (ad (pRace 0))) X 0 plt_0 ko_0 (T := TX11) (N := 14) rfl in_X11 6 (by decide) kF_X11_40 rfl rfl dX11_detour_33 36 rfl ?_
    refine w_getV (v := .ref (ad (pBoard 0))) X (pRace 0) (lt_Race (Nat.le_of_ble_eq_true rfl)) ko_Race (T := TX6) (N := 8) rfl in_X6 0 (by decide) kF_X11_143 rfl rfl dX11_detour_36 39 rfl ?_
    refine w_aload_n X 1 dX11_detour_39 rfl rfl 40 rfl ?_
    refine w_getV (v := .ref (ad (pRace 0))) X 0 plt_0 ko_0 (T := TX11) (N := 14) rfl in_X11 6 (by decide) kF_X11_40 rfl rfl dX11_detour_40 43 rfl ?_
    refine w_getV (v := .ref (ad (pPawns 0))) X (pRace 0) (lt_Race (Nat.le_of_ble_eq_true rfl)) ko_Race (T := TX6) (N := 8) rfl in_X6 1 (by decide) kF_X11_172 rfl rfl dX11_detour_43 46 rfl ?_
    refine w_iload_n X 2 dX11_detour_46 rfl rfl 47 rfl ?_
    refine w_gi hF (fun h_2 hF => ?_)
    refine w_aal X (pPawns 0) (lt_Pawns (Nat.le_of_ble_eq_true rfl)) (pPawn 0 (Int32.toNatClampNeg x1)) ko_Pawns (t0 := 2) rfl h_2 (el_Pawns (vp_lt h_2)) dX11_detour_47 48 rfl ?_
    refine w_callVi (fun x => x.1) (fun x => x.2) X hZ hF [.ref (ad (pBoard 0)), .ref (ad (pPawn 0 (Int32.toNatClampNeg x1)))] (pWays 1) (lt_Ways (Nat.le_of_ble_eq_true rfl)) (ko_Ways (Nat.le_of_ble_eq_true rfl)) rfl rfl rfl kB_X10_measure kL_X11_251 (fun res h => ct_X10_measure l hZ hO fu (Nat.le_of_ble_eq_true rfl) (Nat.le_of_ble_eq_true rfl) (Nat.le_of_ble_eq_true rfl) (vp_lt h_2) p_1.2 res h) rfl rfl rfl ⟨Nat.le_of_ble_eq_true rfl, Nat.le_of_ble_eq_true rfl⟩ (Nat.le_of_ble_eq_true rfl) ⟨Nat.le_of_ble_eq_true rfl, Nat.le_of_ble_eq_true rfl⟩ dX11_detour_48 51 rfl (fun p_3 hF => ?_)
    refine w_isub X dX11_detour_51 52 rfl ?_
    exact w_tret X hQ (o_inj hF) rfl ⟨Nat.le_of_ble_eq_true rfl, Nat.le_of_ble_eq_true rfl⟩ dX11_detour_52

def K_X11_distance (fu : Nat) (x1 : Int32) (mem : Mem) : Option TR := bdt (K_X11_checkPawn fu x1 mem) mem (gi x1 4 (bd (K_X10_measure fu 1 0 0 (Int32.toNatClampNeg x1) mem) (fun p_2 => some (0, p_2.1, p_2.2))))
def rm_X11_distance : Room := { frames := 7, cells := 3, slots := 18, locals := 103 }
set_option maxHeartbeats 4000000 in
set_option maxRecDepth 100000 in
theorem ct_X11_distance (l : Launch) (hl : l.stackTraces = false) {D : va_G} {ca ad : Nat → Nat} {Z : (Nat → Prop) → State → Heap → Prop} (hZ : ZOK Z) (hX : ZX Z) {tO : Nat} {sK sV : Nat → Nat} (hO : ZO Z tO sK sV) (fu : Nat) (x1 : Int32) (mem : Mem) (res : TR) (hF : K_X11_distance fu x1 mem = some res) : CT l D (tyL ca) 255 ad (cC ca ad) Z yX11_distance cX11_distance 2 .int rm_X11_distance [.ref (ad 0), .int x1] mem res := by
  refine start_t (own := RX11) rfl (by decide) (Nat.le_of_ble_eq_true rfl) ?_
  intro p e s m args below meth c Q hQ htb X
  rw [K_X11_distance] at hF
  refine w_aload_n X 0 dX11_distance_0 rfl rfl 1 rfl ?_
  refine w_iload_n X 1 dX11_distance_1 rfl rfl 2 rfl ?_
  refine w_chk X hZ htb hQ hF [.int x1] 0 plt_0 ko_0 rfl rfl rfl kB_X11_checkPawn kL_X11_169 (fun res h => ct_X11_checkPawn l hl hZ hX hO fu x1 mem res h) rfl rfl rfl ⟨Nat.le_of_ble_eq_true rfl, Nat.le_of_ble_eq_true rfl⟩ (Nat.le_of_ble_eq_true rfl) ⟨Nat.le_of_ble_eq_true rfl, Nat.le_of_ble_eq_true rfl⟩ ⟨Nat.le_of_ble_eq_true rfl, Nat.le_of_ble_eq_true rfl⟩ dX11_distance_2 5 rfl (fun hF => ?_)
  refine w_aload_n X 0 dX11_distance_5 rfl rfl 6 rfl ?_
  refine w_getV (v := .ref (ad (pWays 1))) X 0 plt_0 ko_0 (T := TX11) (N := 14) rfl in_X11 4 (by decide) kF_X11_26 rfl rfl dX11_distance_6 9 rfl ?_
  refine w_aload_n X 0 dX11_distance_9 rfl rfl 10 rfl ?_
  refine w_getV (v := .ref (ad (pRace 0))) X 0 plt_0 ko_0 (T := TX11) (N := 14) rfl in_X11 6 (by decide) kF_X11_40 rfl rfl dX11_distance_10 13 rfl ?_
  refine w_getV (v := .ref (ad (pBoard 0))) X (pRace 0) (lt_Race (Nat.le_of_ble_eq_true rfl)) ko_Race (T := TX6) (N := 8) rfl in_X6 0 (by decide) kF_X11_143 rfl rfl dX11_distance_13 16 rfl ?_
  refine w_aload_n X 0 dX11_distance_16 rfl rfl 17 rfl ?_
  refine w_getV (v := .ref (ad (pRace 0))) X 0 plt_0 ko_0 (T := TX11) (N := 14) rfl in_X11 6 (by decide) kF_X11_40 rfl rfl dX11_distance_17 20 rfl ?_
  refine w_getV (v := .ref (ad (pPawns 0))) X (pRace 0) (lt_Race (Nat.le_of_ble_eq_true rfl)) ko_Race (T := TX6) (N := 8) rfl in_X6 1 (by decide) kF_X11_172 rfl rfl dX11_distance_20 23 rfl ?_
  refine w_iload_n X 1 dX11_distance_23 rfl rfl 24 rfl ?_
  refine w_gi hF (fun h_1 hF => ?_)
  refine w_aal X (pPawns 0) (lt_Pawns (Nat.le_of_ble_eq_true rfl)) (pPawn 0 (Int32.toNatClampNeg x1)) ko_Pawns (t0 := 2) rfl h_1 (el_Pawns (vp_lt h_1)) dX11_distance_24 25 rfl ?_
  refine w_callVi (fun x => x.1) (fun x => x.2) X hZ hF [.ref (ad (pBoard 0)), .ref (ad (pPawn 0 (Int32.toNatClampNeg x1)))] (pWays 1) (lt_Ways (Nat.le_of_ble_eq_true rfl)) (ko_Ways (Nat.le_of_ble_eq_true rfl)) rfl rfl rfl kB_X10_measure kL_X11_251 (fun res h => ct_X10_measure l hZ hO fu (Nat.le_of_ble_eq_true rfl) (Nat.le_of_ble_eq_true rfl) (Nat.le_of_ble_eq_true rfl) (vp_lt h_1) mem res h) rfl rfl rfl ⟨Nat.le_of_ble_eq_true rfl, Nat.le_of_ble_eq_true rfl⟩ (Nat.le_of_ble_eq_true rfl) ⟨Nat.le_of_ble_eq_true rfl, Nat.le_of_ble_eq_true rfl⟩ dX11_distance_25 28 rfl (fun p_2 hF => ?_)
  exact w_tret X hQ (o_inj hF) rfl ⟨Nat.le_of_ble_eq_true rfl, Nat.le_of_ble_eq_true rfl⟩ dX11_distance_28

def K_X11_distanceFrom (fu : Nat) (x1 : Int32) (x2 : Int32) (x3 : Int32) (mem : Mem) : Option TR := bdt (K_X11_checkPawn fu x1 mem) mem (bdt (K_X11_checkCell fu x2 x3 mem) mem (gi x1 4 (bd (K_X10_spread fu 1 0 (rd mem (pPawn 0 (Int32.toNatClampNeg x1)) 1) (-1) ((x3 * 9) + x2) mem) (fun p_2 => some (0, p_2.1, p_2.2)))))
def rm_X11_distanceFrom : Room := { frames := 7, cells := 3, slots := 18, locals := 104 }
set_option maxHeartbeats 4000000 in
set_option maxRecDepth 100000 in
theorem ct_X11_distanceFrom (l : Launch) (hl : l.stackTraces = false) {D : va_G} {ca ad : Nat → Nat} {Z : (Nat → Prop) → State → Heap → Prop} (hZ : ZOK Z) (hX : ZX Z) {tO : Nat} {sK sV : Nat → Nat} (hO : ZO Z tO sK sV) (fu : Nat) (x1 : Int32) (x2 : Int32) (x3 : Int32) (mem : Mem) (res : TR) (hF : K_X11_distanceFrom fu x1 x2 x3 mem = some res) : CT l D (tyL ca) 255 ad (cC ca ad) Z yX11_distanceFrom cX11_distanceFrom 5 .int rm_X11_distanceFrom [.ref (ad 0), .int x1, .int x2, .int x3] mem res := by
  refine start_t (own := RX11) rfl (by decide) (Nat.le_of_ble_eq_true rfl) ?_
  intro p e s m args below meth c Q hQ htb X
  rw [K_X11_distanceFrom] at hF
  refine w_aload_n X 0 dX11_distanceFrom_0 rfl rfl 1 rfl ?_
  refine w_iload_n X 1 dX11_distanceFrom_1 rfl rfl 2 rfl ?_
  refine w_chk X hZ htb hQ hF [.int x1] 0 plt_0 ko_0 rfl rfl rfl kB_X11_checkPawn kL_X11_169 (fun res h => ct_X11_checkPawn l hl hZ hX hO fu x1 mem res h) rfl rfl rfl ⟨Nat.le_of_ble_eq_true rfl, Nat.le_of_ble_eq_true rfl⟩ (Nat.le_of_ble_eq_true rfl) ⟨Nat.le_of_ble_eq_true rfl, Nat.le_of_ble_eq_true rfl⟩ ⟨Nat.le_of_ble_eq_true rfl, Nat.le_of_ble_eq_true rfl⟩ dX11_distanceFrom_2 5 rfl (fun hF => ?_)
  refine w_aload_n X 0 dX11_distanceFrom_5 rfl rfl 6 rfl ?_
  refine w_iload_n X 2 dX11_distanceFrom_6 rfl rfl 7 rfl ?_
  refine w_iload_n X 3 dX11_distanceFrom_7 rfl rfl 8 rfl ?_
  refine w_chk X hZ htb hQ hF [.int x2, .int x3] 0 plt_0 ko_0 rfl rfl rfl kB_X11_checkCell kL_X11_207 (fun res h => ct_X11_checkCell l hl hZ hX hO fu x2 x3 mem res h) rfl rfl rfl ⟨Nat.le_of_ble_eq_true rfl, Nat.le_of_ble_eq_true rfl⟩ (Nat.le_of_ble_eq_true rfl) ⟨Nat.le_of_ble_eq_true rfl, Nat.le_of_ble_eq_true rfl⟩ ⟨Nat.le_of_ble_eq_true rfl, Nat.le_of_ble_eq_true rfl⟩ dX11_distanceFrom_8 11 rfl (fun hF => ?_)
  refine w_iload_n X 3 dX11_distanceFrom_11 rfl rfl 12 rfl ?_
  refine w_bipush X 9 dX11_distanceFrom_12 rfl 14 rfl ?_
  refine w_imul X dX11_distanceFrom_14 15 rfl ?_
  refine w_iload_n X 2 dX11_distanceFrom_15 rfl rfl 16 rfl ?_
  refine w_iadd X dX11_distanceFrom_16 17 rfl ?_
  refine w_istore X [(4, .int ((x3 * 9) + x2)), (0, .ref (ad 0)), (1, .int x1), (2, .int x2), (3, .int x3)] dX11_distanceFrom_17 (by decide) rfl 19 rfl ?_
  refine w_aload_n X 1 dX11_distanceFrom_19 rfl rfl 20 rfl ?_
  refine w_getV (v := .ref (ad (pWays 1))) X 0 plt_0 ko_0 (T := TX11) (N := 14) rfl in_X11 4 (by decide) kF_X11_26 rfl rfl dX11_distanceFrom_20 23 rfl ?_
  refine w_aload_n X 1 dX11_distanceFrom_23 rfl rfl 24 rfl ?_
  refine w_getV (v := .ref (ad (pRace 0))) X 0 plt_0 ko_0 (T := TX11) (N := 14) rfl in_X11 6 (by decide) kF_X11_40 rfl rfl dX11_distanceFrom_24 27 rfl ?_
  refine w_getV (v := .ref (ad (pBoard 0))) X (pRace 0) (lt_Race (Nat.le_of_ble_eq_true rfl)) ko_Race (T := TX6) (N := 8) rfl in_X6 0 (by decide) kF_X11_143 rfl rfl dX11_distanceFrom_27 30 rfl ?_
  refine w_aload_n X 1 dX11_distanceFrom_30 rfl rfl 31 rfl ?_
  refine w_getV (v := .ref (ad (pRace 0))) X 0 plt_0 ko_0 (T := TX11) (N := 14) rfl in_X11 6 (by decide) kF_X11_40 rfl rfl dX11_distanceFrom_31 34 rfl ?_
  refine w_getV (v := .ref (ad (pPawns 0))) X (pRace 0) (lt_Race (Nat.le_of_ble_eq_true rfl)) ko_Race (T := TX6) (N := 8) rfl in_X6 1 (by decide) kF_X11_172 rfl rfl dX11_distanceFrom_34 37 rfl ?_
  refine w_iload_n X 2 dX11_distanceFrom_37 rfl rfl 38 rfl ?_
  refine w_gi hF (fun h_1 hF => ?_)
  refine w_aal X (pPawns 0) (lt_Pawns (Nat.le_of_ble_eq_true rfl)) (pPawn 0 (Int32.toNatClampNeg x1)) ko_Pawns (t0 := 2) rfl h_1 (el_Pawns (vp_lt h_1)) dX11_distanceFrom_38 39 rfl ?_
  refine w_getV (v := .int (rd mem (pPawn 0 (Int32.toNatClampNeg x1)) 1)) X (pPawn 0 (Int32.toNatClampNeg x1)) (lt_Pawn (Nat.le_of_ble_eq_true rfl) (vp_lt h_1)) (ko_Pawn (vp_lt h_1)) (T := TX4) (N := 6) rfl in_X4 1 (by decide) kF_X11_181 rfl rfl dX11_distanceFrom_39 42 rfl ?_
  refine w_iconst X (-1) dX11_distanceFrom_42 rfl 43 rfl ?_
  refine w_iload X 0 dX11_distanceFrom_43 rfl 45 rfl ?_
  refine w_callVi (fun x => x.1) (fun x => x.2) X hZ hF [.ref (ad (pBoard 0)), .int (rd mem (pPawn 0 (Int32.toNatClampNeg x1)) 1), .int (-1), .int ((x3 * 9) + x2)] (pWays 1) (lt_Ways (Nat.le_of_ble_eq_true rfl)) (ko_Ways (Nat.le_of_ble_eq_true rfl)) rfl rfl rfl kB_X10_spread kL_X11_255 (fun res h => ct_X10_spread l hZ hO fu (Nat.le_of_ble_eq_true rfl) (Nat.le_of_ble_eq_true rfl) (rd mem (pPawn 0 (Int32.toNatClampNeg x1)) 1) (-1) ((x3 * 9) + x2) mem res h) rfl rfl rfl ⟨Nat.le_of_ble_eq_true rfl, Nat.le_of_ble_eq_true rfl⟩ (Nat.le_of_ble_eq_true rfl) ⟨Nat.le_of_ble_eq_true rfl, Nat.le_of_ble_eq_true rfl⟩ dX11_distanceFrom_45 48 rfl (fun p_2 hF => ?_)
  exact w_tret X hQ (o_inj hF) rfl ⟨Nat.le_of_ble_eq_true rfl, Nat.le_of_ble_eq_true rfl⟩ dX11_distanceFrom_48

def K_X11_feed (fu : Nat) (x1 : Int32) (x2 : Int32) (x3 : Int32) (x4 : Int32) (x5 : Int32) (mem : Mem) : Option TR := (if 700 < ((rd mem 2 1) + 20) then some (2, 0, mem) else bd (K_X9_append fu x1 mem) (fun m_1 => bd (K_X9_append fu x2 m_1) (fun m_2 => bd (K_X9_append fu x3 m_2) (fun m_3 => bd (K_X9_append fu x4 m_3) (fun m_4 => bd (K_X9_append fu x5 m_4) (fun m_5 => some (0, (rd m_5 2 1), m_5)))))))
def rm_X11_feed : Room := { frames := 6, cells := 3, slots := 18, locals := 82 }
set_option maxHeartbeats 4000000 in
set_option maxRecDepth 100000 in
theorem ct_X11_feed (l : Launch) (hl : l.stackTraces = false) {D : va_G} {ca ad : Nat → Nat} {Z : (Nat → Prop) → State → Heap → Prop} (hZ : ZOK Z) (hX : ZX Z) {tO : Nat} {sK sV : Nat → Nat} (hO : ZO Z tO sK sV) (fu : Nat) (x1 : Int32) (x2 : Int32) (x3 : Int32) (x4 : Int32) (x5 : Int32) (mem : Mem) (res : TR) (hF : K_X11_feed fu x1 x2 x3 x4 x5 mem = some res) : CT l D (tyL ca) 255 ad (cC ca ad) Z yX11_feed cX11_feed 6 .int rm_X11_feed [.ref (ad 0), .int x1, .int x2, .int x3, .int x4, .int x5] mem res := by
  refine start_t (own := RX11) rfl (by decide) (Nat.le_of_ble_eq_true rfl) ?_
  intro p e s m args below meth c Q hQ htb X
  rw [K_X11_feed] at hF
  refine w_aload_n X 0 dX11_feed_0 rfl rfl 1 rfl ?_
  refine w_getV (v := .ref (ad 2)) X 0 plt_0 ko_0 (T := TX11) (N := 14) rfl in_X11 0 (by decide) kF_X11_12 rfl rfl dX11_feed_1 4 rfl ?_
  refine w_getV (v := .int (rd mem 2 1)) X 2 plt_2 ko_2 (T := TX9) (N := 13) rfl in_X9 1 (by decide) kF_X11_90 rfl rfl dX11_feed_4 7 rfl ?_
  refine w_bipush X 20 dX11_feed_7 rfl 9 rfl ?_
  refine w_iadd X dX11_feed_9 10 rfl ?_
  refine w_sipush X 700 dX11_feed_10 rfl 13 rfl ?_
  refine w_icmp_le X hF 26 16 dX11_feed_13 (by decide) rfl (fun hF => ?_) (fun hF => ?_)
  · exact w_thr X hX hl htb hQ 2 (by decide) (o_inj hF) exB_2 0 rfl ⟨Nat.le_of_ble_eq_true rfl, Nat.le_of_ble_eq_true rfl⟩ ⟨Nat.le_of_ble_eq_true rfl, Nat.le_of_ble_eq_true rfl⟩ ⟨Nat.le_of_ble_eq_true rfl, Nat.le_of_ble_eq_true rfl⟩ dX11_feed_16 dX11_feed_19 dX11_feed_20 dX11_feed_22 dX11_feed_25
  · refine w_aload_n X 0 dX11_feed_26 rfl rfl 27 rfl ?_
    refine w_getV (v := .ref (ad 2)) X 0 plt_0 ko_0 (T := TX11) (N := 14) rfl in_X11 0 (by decide) kF_X11_12 rfl rfl dX11_feed_27 30 rfl ?_
    refine w_iload_n X 1 dX11_feed_30 rfl rfl 31 rfl ?_
    refine w_callVv (fun m => m) X hZ hF [.int x1] 2 plt_2 ko_2 rfl rfl rfl kB_X9_append kL_X11_100 (fun res h => ct_X9_append l hZ hO fu x1 mem res h) rfl rfl rfl ⟨Nat.le_of_ble_eq_true rfl, Nat.le_of_ble_eq_true rfl⟩ (Nat.le_of_ble_eq_true rfl) ⟨Nat.le_of_ble_eq_true rfl, Nat.le_of_ble_eq_true rfl⟩ dX11_feed_31 34 rfl (fun m_1 hF => ?_)
    refine w_aload_n X 0 dX11_feed_34 rfl rfl 35 rfl ?_
    refine w_getV (v := .ref (ad 2)) X 0 plt_0 ko_0 (T := TX11) (N := 14) rfl in_X11 0 (by decide) kF_X11_12 rfl rfl dX11_feed_35 38 rfl ?_
    refine w_iload_n X 2 dX11_feed_38 rfl rfl 39 rfl ?_
    refine w_callVv (fun m => m) X hZ hF [.int x2] 2 plt_2 ko_2 rfl rfl rfl kB_X9_append kL_X11_100 (fun res h => ct_X9_append l hZ hO fu x2 m_1 res h) rfl rfl rfl ⟨Nat.le_of_ble_eq_true rfl, Nat.le_of_ble_eq_true rfl⟩ (Nat.le_of_ble_eq_true rfl) ⟨Nat.le_of_ble_eq_true rfl, Nat.le_of_ble_eq_true rfl⟩ dX11_feed_39 42 rfl (fun m_2 hF => ?_)
    refine w_aload_n X 0 dX11_feed_42 rfl rfl 43 rfl ?_
    refine w_getV (v := .ref (ad 2)) X 0 plt_0 ko_0 (T := TX11) (N := 14) rfl in_X11 0 (by decide) kF_X11_12 rfl rfl dX11_feed_43 46 rfl ?_
    refine w_iload_n X 3 dX11_feed_46 rfl rfl 47 rfl ?_
    refine w_callVv (fun m => m) X hZ hF [.int x3] 2 plt_2 ko_2 rfl rfl rfl kB_X9_append kL_X11_100 (fun res h => ct_X9_append l hZ hO fu x3 m_2 res h) rfl rfl rfl ⟨Nat.le_of_ble_eq_true rfl, Nat.le_of_ble_eq_true rfl⟩ (Nat.le_of_ble_eq_true rfl) ⟨Nat.le_of_ble_eq_true rfl, Nat.le_of_ble_eq_true rfl⟩ dX11_feed_47 50 rfl (fun m_3 hF => ?_)
    refine w_aload_n X 0 dX11_feed_50 rfl rfl 51 rfl ?_
    refine w_getV (v := .ref (ad 2)) X 0 plt_0 ko_0 (T := TX11) (N := 14) rfl in_X11 0 (by decide) kF_X11_12 rfl rfl dX11_feed_51 54 rfl ?_
    refine w_iload X 4 dX11_feed_54 rfl 56 rfl ?_
    refine w_callVv (fun m => m) X hZ hF [.int x4] 2 plt_2 ko_2 rfl rfl rfl kB_X9_append kL_X11_100 (fun res h => ct_X9_append l hZ hO fu x4 m_3 res h) rfl rfl rfl ⟨Nat.le_of_ble_eq_true rfl, Nat.le_of_ble_eq_true rfl⟩ (Nat.le_of_ble_eq_true rfl) ⟨Nat.le_of_ble_eq_true rfl, Nat.le_of_ble_eq_true rfl⟩ dX11_feed_56 59 rfl (fun m_4 hF => ?_)
    refine w_aload_n X 0 dX11_feed_59 rfl rfl 60 rfl ?_
    refine w_getV (v := .ref (ad 2)) X 0 plt_0 ko_0 (T := TX11) (N := 14) rfl in_X11 0 (by decide) kF_X11_12 rfl rfl dX11_feed_60 63 rfl ?_
    refine w_iload X 5 dX11_feed_63 rfl 65 rfl ?_
    refine w_callVv (fun m => m) X hZ hF [.int x5] 2 plt_2 ko_2 rfl rfl rfl kB_X9_append kL_X11_100 (fun res h => ct_X9_append l hZ hO fu x5 m_4 res h) rfl rfl rfl ⟨Nat.le_of_ble_eq_true rfl, Nat.le_of_ble_eq_true rfl⟩ (Nat.le_of_ble_eq_true rfl) ⟨Nat.le_of_ble_eq_true rfl, Nat.le_of_ble_eq_true rfl⟩ dX11_feed_65 68 rfl (fun m_5 hF => ?_)
    refine w_aload_n X 0 dX11_feed_68 rfl rfl 69 rfl ?_
    refine w_getV (v := .ref (ad 2)) X 0 plt_0 ko_0 (T := TX11) (N := 14) rfl in_X11 0 (by decide) kF_X11_12 rfl rfl dX11_feed_69 72 rfl ?_
    refine w_getV (v := .int (rd m_5 2 1)) X 2 plt_2 ko_2 (T := TX9) (N := 13) rfl in_X9 1 (by decide) kF_X11_90 rfl rfl dX11_feed_72 75 rfl ?_
    exact w_tret X hQ (o_inj hF) rfl ⟨Nat.le_of_ble_eq_true rfl, Nat.le_of_ble_eq_true rfl⟩ dX11_feed_75

def K_X11_foreseen (fu : Nat) (x1 : Int32) (x2 : Int32) (x3 : Int32) (mem : Mem) : Option TR := bdt (K_X11_checkPawn fu x3 mem) mem (bdt (K_X11_checkPlay fu x1 x2 mem) mem (bd (K_X6_copyFrom fu 2 0 mem) (fun m_1 => bd (K_X5_playTurns fu 2 x1 x2 m_1) (fun p_2 => gi x3 4 (some (0, (rd p_2.2 (pPawn 2 (Int32.toNatClampNeg x3)) 5), p_2.2))))))
def rm_X11_foreseen : Room := { frames := 7, cells := 3, slots := 18, locals := 133 }
set_option maxHeartbeats 4000000 in
set_option maxRecDepth 100000 in
theorem ct_X11_foreseen (l : Launch) (hl : l.stackTraces = false) {D : va_G} {ca ad : Nat → Nat} {Z : (Nat → Prop) → State → Heap → Prop} (hZ : ZOK Z) (hX : ZX Z) {tO : Nat} {sK sV : Nat → Nat} (hO : ZO Z tO sK sV) (fu : Nat) (x1 : Int32) (x2 : Int32) (x3 : Int32) (mem : Mem) (res : TR) (hF : K_X11_foreseen fu x1 x2 x3 mem = some res) : CT l D (tyL ca) 255 ad (cC ca ad) Z yX11_foreseen cX11_foreseen 4 .int rm_X11_foreseen [.ref (ad 0), .int x1, .int x2, .int x3] mem res := by
  refine start_t (own := RX11) rfl (by decide) (Nat.le_of_ble_eq_true rfl) ?_
  intro p e s m args below meth c Q hQ htb X
  rw [K_X11_foreseen] at hF
  refine w_aload_n X 0 dX11_foreseen_0 rfl rfl 1 rfl ?_
  refine w_iload_n X 3 dX11_foreseen_1 rfl rfl 2 rfl ?_
  refine w_chk X hZ htb hQ hF [.int x3] 0 plt_0 ko_0 rfl rfl rfl kB_X11_checkPawn kL_X11_169 (fun res h => ct_X11_checkPawn l hl hZ hX hO fu x3 mem res h) rfl rfl rfl ⟨Nat.le_of_ble_eq_true rfl, Nat.le_of_ble_eq_true rfl⟩ (Nat.le_of_ble_eq_true rfl) ⟨Nat.le_of_ble_eq_true rfl, Nat.le_of_ble_eq_true rfl⟩ ⟨Nat.le_of_ble_eq_true rfl, Nat.le_of_ble_eq_true rfl⟩ dX11_foreseen_2 5 rfl (fun hF => ?_)
  refine w_aload_n X 0 dX11_foreseen_5 rfl rfl 6 rfl ?_
  refine w_iload_n X 1 dX11_foreseen_6 rfl rfl 7 rfl ?_
  refine w_iload_n X 2 dX11_foreseen_7 rfl rfl 8 rfl ?_
  refine w_chk X hZ htb hQ hF [.int x1, .int x2] 0 plt_0 ko_0 rfl rfl rfl kB_X11_checkPlay kL_X11_309 (fun res h => ct_X11_checkPlay l hl hZ hX hO fu x1 x2 mem res h) rfl rfl rfl ⟨Nat.le_of_ble_eq_true rfl, Nat.le_of_ble_eq_true rfl⟩ (Nat.le_of_ble_eq_true rfl) ⟨Nat.le_of_ble_eq_true rfl, Nat.le_of_ble_eq_true rfl⟩ ⟨Nat.le_of_ble_eq_true rfl, Nat.le_of_ble_eq_true rfl⟩ dX11_foreseen_8 11 rfl (fun hF => ?_)
  refine w_aload_n X 0 dX11_foreseen_11 rfl rfl 12 rfl ?_
  refine w_getV (v := .ref (ad (pRace 2))) X 0 plt_0 ko_0 (T := TX11) (N := 14) rfl in_X11 8 (by decide) kF_X11_65 rfl rfl dX11_foreseen_12 15 rfl ?_
  refine w_aload_n X 0 dX11_foreseen_15 rfl rfl 16 rfl ?_
  refine w_getV (v := .ref (ad (pRace 0))) X 0 plt_0 ko_0 (T := TX11) (N := 14) rfl in_X11 6 (by decide) kF_X11_40 rfl rfl dX11_foreseen_16 19 rfl ?_
  refine w_callVv (fun m => m) X hZ hF [.ref (ad (pRace 0))] (pRace 2) (lt_Race (Nat.le_of_ble_eq_true rfl)) ko_Race rfl rfl rfl kB_X6_copyFrom kL_X11_115 (fun res h => ct_X6_copyFrom l hZ hO fu (Nat.le_of_ble_eq_true rfl) (Nat.le_of_ble_eq_true rfl) mem res h) rfl rfl rfl ⟨Nat.le_of_ble_eq_true rfl, Nat.le_of_ble_eq_true rfl⟩ (Nat.le_of_ble_eq_true rfl) ⟨Nat.le_of_ble_eq_true rfl, Nat.le_of_ble_eq_true rfl⟩ dX11_foreseen_19 22 rfl (fun m_1 hF => ?_)
  refine w_aload_n X 0 dX11_foreseen_22 rfl rfl 23 rfl ?_
  refine w_getV (v := .ref (ad 17)) X 0 plt_0 ko_0 (T := TX11) (N := 14) rfl in_X11 3 (by decide) kF_X11_19 rfl rfl dX11_foreseen_23 26 rfl ?_
  refine w_aload_n X 0 dX11_foreseen_26 rfl rfl 27 rfl ?_
  refine w_getV (v := .ref (ad (pRace 2))) X 0 plt_0 ko_0 (T := TX11) (N := 14) rfl in_X11 8 (by decide) kF_X11_65 rfl rfl dX11_foreseen_27 30 rfl ?_
  refine w_iload_n X 1 dX11_foreseen_30 rfl rfl 31 rfl ?_
  refine w_iload_n X 2 dX11_foreseen_31 rfl rfl 32 rfl ?_
  refine w_callVi (fun x => x.1) (fun x => x.2) X hZ hF [.ref (ad (pRace 2)), .int x1, .int x2] 17 plt_17 ko_17 rfl rfl rfl kB_X5_playTurns kL_X11_312 (fun res h => ct_X5_playTurns l hZ hO fu (Nat.le_of_ble_eq_true rfl) x1 x2 m_1 res h) rfl rfl rfl ⟨Nat.le_of_ble_eq_true rfl, Nat.le_of_ble_eq_true rfl⟩ (Nat.le_of_ble_eq_true rfl) ⟨Nat.le_of_ble_eq_true rfl, Nat.le_of_ble_eq_true rfl⟩ dX11_foreseen_32 35 rfl (fun p_2 hF => ?_)
  refine w_pop X dX11_foreseen_35 rfl 36 rfl ?_
  refine w_aload_n X 0 dX11_foreseen_36 rfl rfl 37 rfl ?_
  refine w_getV (v := .ref (ad (pRace 2))) X 0 plt_0 ko_0 (T := TX11) (N := 14) rfl in_X11 8 (by decide) kF_X11_65 rfl rfl dX11_foreseen_37 40 rfl ?_
  refine w_getV (v := .ref (ad (pPawns 2))) X (pRace 2) (lt_Race (Nat.le_of_ble_eq_true rfl)) ko_Race (T := TX6) (N := 8) rfl in_X6 1 (by decide) kF_X11_172 rfl rfl dX11_foreseen_40 43 rfl ?_
  refine w_iload_n X 3 dX11_foreseen_43 rfl rfl 44 rfl ?_
  refine w_gi hF (fun h_3 hF => ?_)
  refine w_aal X (pPawns 2) (lt_Pawns (Nat.le_of_ble_eq_true rfl)) (pPawn 2 (Int32.toNatClampNeg x3)) ko_Pawns (t0 := 2) rfl h_3 (el_Pawns (vp_lt h_3)) dX11_foreseen_44 45 rfl ?_
  refine w_getV (v := .int (rd p_2.2 (pPawn 2 (Int32.toNatClampNeg x3)) 5)) X (pPawn 2 (Int32.toNatClampNeg x3)) (lt_Pawn (Nat.le_of_ble_eq_true rfl) (vp_lt h_3)) (ko_Pawn (vp_lt h_3)) (T := TX4) (N := 6) rfl in_X4 5 (by decide) kF_X11_191 rfl rfl dX11_foreseen_45 48 rfl ?_
  exact w_tret X hQ (o_inj hF) rfl ⟨Nat.le_of_ble_eq_true rfl, Nat.le_of_ble_eq_true rfl⟩ dX11_foreseen_48

def K_X11_gain (fu : Nat) (x1 : Int32) (mem : Mem) : Option TR := bdt (K_X11_checkPawn fu x1 mem) mem (bd (K_X5_findBest fu 0 x1 mem) (fun p_1 => (if p_1.1 = 0 then some (0, (-1), p_1.2) else some (0, (rd p_1.2 17 6), p_1.2))))
def rm_X11_gain : Room := { frames := 7, cells := 3, slots := 18, locals := 107 }
set_option maxHeartbeats 4000000 in
set_option maxRecDepth 100000 in
theorem ct_X11_gain (l : Launch) (hl : l.stackTraces = false) {D : va_G} {ca ad : Nat → Nat} {Z : (Nat → Prop) → State → Heap → Prop} (hZ : ZOK Z) (hX : ZX Z) {tO : Nat} {sK sV : Nat → Nat} (hO : ZO Z tO sK sV) (fu : Nat) (x1 : Int32) (mem : Mem) (res : TR) (hF : K_X11_gain fu x1 mem = some res) : CT l D (tyL ca) 255 ad (cC ca ad) Z yX11_gain cX11_gain 2 .int rm_X11_gain [.ref (ad 0), .int x1] mem res := by
  refine start_t (own := RX11) rfl (by decide) (Nat.le_of_ble_eq_true rfl) ?_
  intro p e s m args below meth c Q hQ htb X
  rw [K_X11_gain] at hF
  refine w_aload_n X 0 dX11_gain_0 rfl rfl 1 rfl ?_
  refine w_iload_n X 1 dX11_gain_1 rfl rfl 2 rfl ?_
  refine w_chk X hZ htb hQ hF [.int x1] 0 plt_0 ko_0 rfl rfl rfl kB_X11_checkPawn kL_X11_169 (fun res h => ct_X11_checkPawn l hl hZ hX hO fu x1 mem res h) rfl rfl rfl ⟨Nat.le_of_ble_eq_true rfl, Nat.le_of_ble_eq_true rfl⟩ (Nat.le_of_ble_eq_true rfl) ⟨Nat.le_of_ble_eq_true rfl, Nat.le_of_ble_eq_true rfl⟩ ⟨Nat.le_of_ble_eq_true rfl, Nat.le_of_ble_eq_true rfl⟩ dX11_gain_2 5 rfl (fun hF => ?_)
  refine w_aload_n X 0 dX11_gain_5 rfl rfl 6 rfl ?_
  refine w_getV (v := .ref (ad 17)) X 0 plt_0 ko_0 (T := TX11) (N := 14) rfl in_X11 3 (by decide) kF_X11_19 rfl rfl dX11_gain_6 9 rfl ?_
  refine w_aload_n X 0 dX11_gain_9 rfl rfl 10 rfl ?_
  refine w_getV (v := .ref (ad (pRace 0))) X 0 plt_0 ko_0 (T := TX11) (N := 14) rfl in_X11 6 (by decide) kF_X11_40 rfl rfl dX11_gain_10 13 rfl ?_
  refine w_iload_n X 1 dX11_gain_13 rfl rfl 14 rfl ?_
  refine w_callVi (fun x => x.1) (fun x => x.2) X hZ hF [.ref (ad (pRace 0)), .int x1] 17 plt_17 ko_17 rfl rfl rfl kB_X5_findBest kL_X11_287 (fun res h => ct_X5_findBest l hZ hO fu (Nat.le_of_ble_eq_true rfl) x1 mem res h) rfl rfl rfl ⟨Nat.le_of_ble_eq_true rfl, Nat.le_of_ble_eq_true rfl⟩ (Nat.le_of_ble_eq_true rfl) ⟨Nat.le_of_ble_eq_true rfl, Nat.le_of_ble_eq_true rfl⟩ dX11_gain_14 17 rfl (fun p_1 hF => ?_)
  refine w_if_eq X hF 30 20 dX11_gain_17 (by decide) rfl (fun hF => ?_) (fun hF => ?_)
  · refine w_iconst X (-1) dX11_gain_30 rfl 31 rfl ?_
    exact w_tret X hQ (o_inj hF) rfl ⟨Nat.le_of_ble_eq_true rfl, Nat.le_of_ble_eq_true rfl⟩ dX11_gain_31
  · refine w_aload_n X 0 dX11_gain_20 rfl rfl 21 rfl ?_
    refine w_getV (v := .ref (ad 17)) X 0 plt_0 ko_0 (T := TX11) (N := 14) rfl in_X11 3 (by decide) kF_X11_19 rfl rfl dX11_gain_21 24 rfl ?_
    refine w_getV (v := .int (rd p_1.2 17 6)) X 17 plt_17 ko_17 (T := TX5) (N := 7) rfl in_X5 6 (by decide) kF_X11_300 rfl rfl dX11_gain_24 27 rfl ?_
    refine w_goto X 31 dX11_gain_27 (by decide) ?_
    exact w_tret X hQ (o_inj hF) rfl ⟨Nat.le_of_ble_eq_true rfl, Nat.le_of_ble_eq_true rfl⟩ dX11_gain_31

def K_X11_gates (fu : Nat) (x1 : Int32) (mem : Mem) : Option TR := bdt (K_X11_checkPawn fu x1 mem) mem (gi x1 4 (bd (K_X10_countGates fu 1 0 0 (Int32.toNatClampNeg x1) mem) (fun p_2 => some (0, p_2.1, p_2.2))))
def rm_X11_gates : Room := { frames := 7, cells := 3, slots := 18, locals := 103 }
set_option maxHeartbeats 4000000 in
set_option maxRecDepth 100000 in
theorem ct_X11_gates (l : Launch) (hl : l.stackTraces = false) {D : va_G} {ca ad : Nat → Nat} {Z : (Nat → Prop) → State → Heap → Prop} (hZ : ZOK Z) (hX : ZX Z) {tO : Nat} {sK sV : Nat → Nat} (hO : ZO Z tO sK sV) (fu : Nat) (x1 : Int32) (mem : Mem) (res : TR) (hF : K_X11_gates fu x1 mem = some res) : CT l D (tyL ca) 255 ad (cC ca ad) Z yX11_gates cX11_gates 2 .int rm_X11_gates [.ref (ad 0), .int x1] mem res := by
  refine start_t (own := RX11) rfl (by decide) (Nat.le_of_ble_eq_true rfl) ?_
  intro p e s m args below meth c Q hQ htb X
  rw [K_X11_gates] at hF
  refine w_aload_n X 0 dX11_gates_0 rfl rfl 1 rfl ?_
  refine w_iload_n X 1 dX11_gates_1 rfl rfl 2 rfl ?_
  refine w_chk X hZ htb hQ hF [.int x1] 0 plt_0 ko_0 rfl rfl rfl kB_X11_checkPawn kL_X11_169 (fun res h => ct_X11_checkPawn l hl hZ hX hO fu x1 mem res h) rfl rfl rfl ⟨Nat.le_of_ble_eq_true rfl, Nat.le_of_ble_eq_true rfl⟩ (Nat.le_of_ble_eq_true rfl) ⟨Nat.le_of_ble_eq_true rfl, Nat.le_of_ble_eq_true rfl⟩ ⟨Nat.le_of_ble_eq_true rfl, Nat.le_of_ble_eq_true rfl⟩ dX11_gates_2 5 rfl (fun hF => ?_)
  refine w_aload_n X 0 dX11_gates_5 rfl rfl 6 rfl ?_
  refine w_getV (v := .ref (ad (pWays 1))) X 0 plt_0 ko_0 (T := TX11) (N := 14) rfl in_X11 4 (by decide) kF_X11_26 rfl rfl dX11_gates_6 9 rfl ?_
  refine w_aload_n X 0 dX11_gates_9 rfl rfl 10 rfl ?_
  refine w_getV (v := .ref (ad (pRace 0))) X 0 plt_0 ko_0 (T := TX11) (N := 14) rfl in_X11 6 (by decide) kF_X11_40 rfl rfl dX11_gates_10 13 rfl ?_
  refine w_getV (v := .ref (ad (pBoard 0))) X (pRace 0) (lt_Race (Nat.le_of_ble_eq_true rfl)) ko_Race (T := TX6) (N := 8) rfl in_X6 0 (by decide) kF_X11_143 rfl rfl dX11_gates_13 16 rfl ?_
  refine w_aload_n X 0 dX11_gates_16 rfl rfl 17 rfl ?_
  refine w_getV (v := .ref (ad (pRace 0))) X 0 plt_0 ko_0 (T := TX11) (N := 14) rfl in_X11 6 (by decide) kF_X11_40 rfl rfl dX11_gates_17 20 rfl ?_
  refine w_getV (v := .ref (ad (pPawns 0))) X (pRace 0) (lt_Race (Nat.le_of_ble_eq_true rfl)) ko_Race (T := TX6) (N := 8) rfl in_X6 1 (by decide) kF_X11_172 rfl rfl dX11_gates_20 23 rfl ?_
  refine w_iload_n X 1 dX11_gates_23 rfl rfl 24 rfl ?_
  refine w_gi hF (fun h_1 hF => ?_)
  refine w_aal X (pPawns 0) (lt_Pawns (Nat.le_of_ble_eq_true rfl)) (pPawn 0 (Int32.toNatClampNeg x1)) ko_Pawns (t0 := 2) rfl h_1 (el_Pawns (vp_lt h_1)) dX11_gates_24 25 rfl ?_
  refine w_callVi (fun x => x.1) (fun x => x.2) X hZ hF [.ref (ad (pBoard 0)), .ref (ad (pPawn 0 (Int32.toNatClampNeg x1)))] (pWays 1) (lt_Ways (Nat.le_of_ble_eq_true rfl)) (ko_Ways (Nat.le_of_ble_eq_true rfl)) rfl rfl rfl kB_X10_countGates kL_X11_265 (fun res h => ct_X10_countGates l hZ hO fu (Nat.le_of_ble_eq_true rfl) (Nat.le_of_ble_eq_true rfl) (Nat.le_of_ble_eq_true rfl) (vp_lt h_1) mem res h) rfl rfl rfl ⟨Nat.le_of_ble_eq_true rfl, Nat.le_of_ble_eq_true rfl⟩ (Nat.le_of_ble_eq_true rfl) ⟨Nat.le_of_ble_eq_true rfl, Nat.le_of_ble_eq_true rfl⟩ dX11_gates_25 28 rfl (fun p_2 hF => ?_)
  exact w_tret X hQ (o_inj hF) rfl ⟨Nat.le_of_ble_eq_true rfl, Nat.le_of_ble_eq_true rfl⟩ dX11_gates_28

def K_X11_harm (fu : Nat) (x1 : Int32) (x2 : Int32) (x3 : Int32) (x4 : Int32) (mem : Mem) : Option TR := bdt (K_X11_checkPawn fu x1 mem) mem (bdt (K_X11_checkPlace fu x2 x3 mem) mem ((if x4 = 0 then bd (K_X5_admitsNow fu 0 x2 x3 0 mem) (fun p_1 => (if p_1.1 = 0 then some (2, 0, p_1.2) else bd (K_X5_loss fu 0 x1 x2 x3 0 p_1.2) (fun p_2 => some (0, p_2.1, p_2.2)))) else bd (K_X5_admitsNow fu 0 x2 x3 1 mem) (fun p_3 => (if p_3.1 = 0 then some (2, 0, p_3.2) else bd (K_X5_loss fu 0 x1 x2 x3 1 p_3.2) (fun p_4 => some (0, p_4.1, p_4.2)))))))
def rm_X11_harm : Room := { frames := 7, cells := 3, slots := 18, locals := 106 }
set_option maxHeartbeats 4000000 in
set_option maxRecDepth 100000 in
theorem ct_X11_harm (l : Launch) (hl : l.stackTraces = false) {D : va_G} {ca ad : Nat → Nat} {Z : (Nat → Prop) → State → Heap → Prop} (hZ : ZOK Z) (hX : ZX Z) {tO : Nat} {sK sV : Nat → Nat} (hO : ZO Z tO sK sV) (fu : Nat) (x1 : Int32) (x2 : Int32) (x3 : Int32) (x4 : Int32) (mem : Mem) (res : TR) (hF : K_X11_harm fu x1 x2 x3 x4 mem = some res) : CT l D (tyL ca) 255 ad (cC ca ad) Z yX11_harm cX11_harm 6 .int rm_X11_harm [.ref (ad 0), .int x1, .int x2, .int x3, .int x4] mem res := by
  refine start_t (own := RX11) rfl (by decide) (Nat.le_of_ble_eq_true rfl) ?_
  intro p e s m args below meth c Q hQ htb X
  rw [K_X11_harm] at hF
  refine w_aload_n X 0 dX11_harm_0 rfl rfl 1 rfl ?_
  refine w_iload_n X 1 dX11_harm_1 rfl rfl 2 rfl ?_
  refine w_chk X hZ htb hQ hF [.int x1] 0 plt_0 ko_0 rfl rfl rfl kB_X11_checkPawn kL_X11_169 (fun res h => ct_X11_checkPawn l hl hZ hX hO fu x1 mem res h) rfl rfl rfl ⟨Nat.le_of_ble_eq_true rfl, Nat.le_of_ble_eq_true rfl⟩ (Nat.le_of_ble_eq_true rfl) ⟨Nat.le_of_ble_eq_true rfl, Nat.le_of_ble_eq_true rfl⟩ ⟨Nat.le_of_ble_eq_true rfl, Nat.le_of_ble_eq_true rfl⟩ dX11_harm_2 5 rfl (fun hF => ?_)
  refine w_aload_n X 0 dX11_harm_5 rfl rfl 6 rfl ?_
  refine w_iload_n X 2 dX11_harm_6 rfl rfl 7 rfl ?_
  refine w_iload_n X 3 dX11_harm_7 rfl rfl 8 rfl ?_
  refine w_chk X hZ htb hQ hF [.int x2, .int x3] 0 plt_0 ko_0 rfl rfl rfl kB_X11_checkPlace kL_X11_217 (fun res h => ct_X11_checkPlace l hl hZ hX hO fu x2 x3 mem res h) rfl rfl rfl ⟨Nat.le_of_ble_eq_true rfl, Nat.le_of_ble_eq_true rfl⟩ (Nat.le_of_ble_eq_true rfl) ⟨Nat.le_of_ble_eq_true rfl, Nat.le_of_ble_eq_true rfl⟩ ⟨Nat.le_of_ble_eq_true rfl, Nat.le_of_ble_eq_true rfl⟩ dX11_harm_8 11 rfl (fun hF => ?_)
  refine w_iload X 4 dX11_harm_11 rfl 13 rfl ?_
  refine w_if_eq X hF 20 16 dX11_harm_13 (by decide) rfl (fun hF => ?_) (fun hF => ?_)
  · refine w_iconst X 0 dX11_harm_20 rfl 21 rfl ?_
    refine w_istore X [(5, .int 0), (0, .ref (ad 0)), (1, .int x1), (2, .int x2), (3, .int x3), (4, .int x4)] dX11_harm_21 (by decide) rfl 23 rfl ?_
    refine w_aload_n X 1 dX11_harm_23 rfl rfl 24 rfl ?_
    refine w_getV (v := .ref (ad 17)) X 0 plt_0 ko_0 (T := TX11) (N := 14) rfl in_X11 3 (by decide) kF_X11_19 rfl rfl dX11_harm_24 27 rfl ?_
    refine w_aload_n X 1 dX11_harm_27 rfl rfl 28 rfl ?_
    refine w_getV (v := .ref (ad (pRace 0))) X 0 plt_0 ko_0 (T := TX11) (N := 14) rfl in_X11 6 (by decide) kF_X11_40 rfl rfl dX11_harm_28 31 rfl ?_
    refine w_iload_n X 3 dX11_harm_31 rfl rfl 32 rfl ?_
    refine w_iload_n X 4 dX11_harm_32 rfl rfl 33 rfl ?_
    refine w_iload X 0 dX11_harm_33 rfl 35 rfl ?_
    refine w_callVi (fun x => x.1) (fun x => x.2) X hZ hF [.ref (ad (pRace 0)), .int x2, .int x3, .int 0] 17 plt_17 ko_17 rfl rfl rfl kB_X5_admitsNow kL_X11_230 (fun res h => ct_X5_admitsNow l hZ hO fu (Nat.le_of_ble_eq_true rfl) x2 x3 0 mem res h) rfl rfl rfl ⟨Nat.le_of_ble_eq_true rfl, Nat.le_of_ble_eq_true rfl⟩ (Nat.le_of_ble_eq_true rfl) ⟨Nat.le_of_ble_eq_true rfl, Nat.le_of_ble_eq_true rfl⟩ dX11_harm_35 38 rfl (fun p_1 hF => ?_)
    refine w_if_ne X hF 52 41 dX11_harm_38 (by decide) rfl (fun hF => ?_) (fun hF => ?_)
    · exact w_thrW X hX hl htb hQ 2 (by decide) (o_inj hF) exB_2 5 rfl ⟨Nat.le_of_ble_eq_true rfl, Nat.le_of_ble_eq_true rfl⟩ ⟨Nat.le_of_ble_eq_true rfl, Nat.le_of_ble_eq_true rfl⟩ ⟨Nat.le_of_ble_eq_true rfl, Nat.le_of_ble_eq_true rfl⟩ dX11_harm_41 dX11_harm_44 dX11_harm_45 dX11_harm_48 dX11_harm_51
    · refine w_aload_n X 1 dX11_harm_52 rfl rfl 53 rfl ?_
      refine w_getV (v := .ref (ad 17)) X 0 plt_0 ko_0 (T := TX11) (N := 14) rfl in_X11 3 (by decide) kF_X11_19 rfl rfl dX11_harm_53 56 rfl ?_
      refine w_aload_n X 1 dX11_harm_56 rfl rfl 57 rfl ?_
      refine w_getV (v := .ref (ad (pRace 0))) X 0 plt_0 ko_0 (T := TX11) (N := 14) rfl in_X11 6 (by decide) kF_X11_40 rfl rfl dX11_harm_57 60 rfl ?_
      refine w_iload_n X 2 dX11_harm_60 rfl rfl 61 rfl ?_
      refine w_iload_n X 3 dX11_harm_61 rfl rfl 62 rfl ?_
      refine w_iload_n X 4 dX11_harm_62 rfl rfl 63 rfl ?_
      refine w_iload X 0 dX11_harm_63 rfl 65 rfl ?_
      refine w_callVi (fun x => x.1) (fun x => x.2) X hZ hF [.ref (ad (pRace 0)), .int x1, .int x2, .int x3, .int 0] 17 plt_17 ko_17 rfl rfl rfl kB_X5_loss kL_X11_305 (fun res h => ct_X5_loss l hZ hO fu (Nat.le_of_ble_eq_true rfl) x1 x2 x3 0 p_1.2 res h) rfl rfl rfl ⟨Nat.le_of_ble_eq_true rfl, Nat.le_of_ble_eq_true rfl⟩ (Nat.le_of_ble_eq_true rfl) ⟨Nat.le_of_ble_eq_true rfl, Nat.le_of_ble_eq_true rfl⟩ dX11_harm_65 68 rfl (fun p_2 hF => ?_)
      exact w_tret X hQ (o_inj hF) rfl ⟨Nat.le_of_ble_eq_true rfl, Nat.le_of_ble_eq_true rfl⟩ dX11_harm_68
  · refine w_iconst X 1 dX11_harm_16 rfl 17 rfl ?_
    refine w_goto X 21 dX11_harm_17 (by decide) ?_
    refine w_istore X [(5, .int 1), (0, .ref (ad 0)), (1, .int x1), (2, .int x2), (3, .int x3), (4, .int x4)] dX11_harm_21 (by decide) rfl 23 rfl ?_
    refine w_aload_n X 1 dX11_harm_23 rfl rfl 24 rfl ?_
    refine w_getV (v := .ref (ad 17)) X 0 plt_0 ko_0 (T := TX11) (N := 14) rfl in_X11 3 (by decide) kF_X11_19 rfl rfl dX11_harm_24 27 rfl ?_
    refine w_aload_n X 1 dX11_harm_27 rfl rfl 28 rfl ?_
    refine w_getV (v := .ref (ad (pRace 0))) X 0 plt_0 ko_0 (T := TX11) (N := 14) rfl in_X11 6 (by decide) kF_X11_40 rfl rfl dX11_harm_28 31 rfl ?_
    refine w_iload_n X 3 dX11_harm_31 rfl rfl 32 rfl ?_
    refine w_iload_n X 4 dX11_harm_32 rfl rfl 33 rfl ?_
    refine w_iload X 0 dX11_harm_33 rfl 35 rfl ?_
    refine w_callVi (fun x => x.1) (fun x => x.2) X hZ hF [.ref (ad (pRace 0)), .int x2, .int x3, .int 1] 17 plt_17 ko_17 rfl rfl rfl kB_X5_admitsNow kL_X11_230 (fun res h => ct_X5_admitsNow l hZ hO fu (Nat.le_of_ble_eq_true rfl) x2 x3 1 mem res h) rfl rfl rfl ⟨Nat.le_of_ble_eq_true rfl, Nat.le_of_ble_eq_true rfl⟩ (Nat.le_of_ble_eq_true rfl) ⟨Nat.le_of_ble_eq_true rfl, Nat.le_of_ble_eq_true rfl⟩ dX11_harm_35 38 rfl (fun p_3 hF => ?_)
    refine w_if_ne X hF 52 41 dX11_harm_38 (by decide) rfl (fun hF => ?_) (fun hF => ?_)
    · exact w_thrW X hX hl htb hQ 2 (by decide) (o_inj hF) exB_2 5 rfl ⟨Nat.le_of_ble_eq_true rfl, Nat.le_of_ble_eq_true rfl⟩ ⟨Nat.le_of_ble_eq_true rfl, Nat.le_of_ble_eq_true rfl⟩ ⟨Nat.le_of_ble_eq_true rfl, Nat.le_of_ble_eq_true rfl⟩ dX11_harm_41 dX11_harm_44 dX11_harm_45 dX11_harm_48 dX11_harm_51
    · refine w_aload_n X 1 dX11_harm_52 rfl rfl 53 rfl ?_
      refine w_getV (v := .ref (ad 17)) X 0 plt_0 ko_0 (T := TX11) (N := 14) rfl in_X11 3 (by decide) kF_X11_19 rfl rfl dX11_harm_53 56 rfl ?_
      refine w_aload_n X 1 dX11_harm_56 rfl rfl 57 rfl ?_
      refine w_getV (v := .ref (ad (pRace 0))) X 0 plt_0 ko_0 (T := TX11) (N := 14) rfl in_X11 6 (by decide) kF_X11_40 rfl rfl dX11_harm_57 60 rfl ?_
      refine w_iload_n X 2 dX11_harm_60 rfl rfl 61 rfl ?_
      refine w_iload_n X 3 dX11_harm_61 rfl rfl 62 rfl ?_
      refine w_iload_n X 4 dX11_harm_62 rfl rfl 63 rfl ?_
      refine w_iload X 0 dX11_harm_63 rfl 65 rfl ?_
      refine w_callVi (fun x => x.1) (fun x => x.2) X hZ hF [.ref (ad (pRace 0)), .int x1, .int x2, .int x3, .int 1] 17 plt_17 ko_17 rfl rfl rfl kB_X5_loss kL_X11_305 (fun res h => ct_X5_loss l hZ hO fu (Nat.le_of_ble_eq_true rfl) x1 x2 x3 1 p_3.2 res h) rfl rfl rfl ⟨Nat.le_of_ble_eq_true rfl, Nat.le_of_ble_eq_true rfl⟩ (Nat.le_of_ble_eq_true rfl) ⟨Nat.le_of_ble_eq_true rfl, Nat.le_of_ble_eq_true rfl⟩ dX11_harm_65 68 rfl (fun p_4 hF => ?_)
      exact w_tret X hQ (o_inj hF) rfl ⟨Nat.le_of_ble_eq_true rfl, Nat.le_of_ble_eq_true rfl⟩ dX11_harm_68

def K_X11_isAdmissible (fu : Nat) (x1 : Int32) (x2 : Int32) (x3 : Int32) (mem : Mem) : Option TR := bdt (K_X11_checkPlace fu x1 x2 mem) mem ((if x3 = 0 then bd (K_X5_admitsNow fu 0 x1 x2 0 mem) (fun p_1 => gb p_1.1 (some (0, p_1.1, p_1.2))) else bd (K_X5_admitsNow fu 0 x1 x2 1 mem) (fun p_3 => gb p_3.1 (some (0, p_3.1, p_3.2)))))
def rm_X11_isAdmissible : Room := { frames := 7, cells := 3, slots := 18, locals := 106 }
set_option maxHeartbeats 4000000 in
set_option maxRecDepth 100000 in
theorem ct_X11_isAdmissible (l : Launch) (hl : l.stackTraces = false) {D : va_G} {ca ad : Nat → Nat} {Z : (Nat → Prop) → State → Heap → Prop} (hZ : ZOK Z) (hX : ZX Z) {tO : Nat} {sK sV : Nat → Nat} (hO : ZO Z tO sK sV) (fu : Nat) (x1 : Int32) (x2 : Int32) (x3 : Int32) (mem : Mem) (res : TR) (hF : K_X11_isAdmissible fu x1 x2 x3 mem = some res) : CT l D (tyL ca) 255 ad (cC ca ad) Z yX11_isAdmissible cX11_isAdmissible 4 .boolean rm_X11_isAdmissible [.ref (ad 0), .int x1, .int x2, .int x3] mem res := by
  refine start_t (own := RX11) rfl (by decide) (Nat.le_of_ble_eq_true rfl) ?_
  intro p e s m args below meth c Q hQ htb X
  rw [K_X11_isAdmissible] at hF
  refine w_aload_n X 0 dX11_isAdmissible_0 rfl rfl 1 rfl ?_
  refine w_iload_n X 1 dX11_isAdmissible_1 rfl rfl 2 rfl ?_
  refine w_iload_n X 2 dX11_isAdmissible_2 rfl rfl 3 rfl ?_
  refine w_chk X hZ htb hQ hF [.int x1, .int x2] 0 plt_0 ko_0 rfl rfl rfl kB_X11_checkPlace kL_X11_217 (fun res h => ct_X11_checkPlace l hl hZ hX hO fu x1 x2 mem res h) rfl rfl rfl ⟨Nat.le_of_ble_eq_true rfl, Nat.le_of_ble_eq_true rfl⟩ (Nat.le_of_ble_eq_true rfl) ⟨Nat.le_of_ble_eq_true rfl, Nat.le_of_ble_eq_true rfl⟩ ⟨Nat.le_of_ble_eq_true rfl, Nat.le_of_ble_eq_true rfl⟩ dX11_isAdmissible_3 6 rfl (fun hF => ?_)
  refine w_aload_n X 0 dX11_isAdmissible_6 rfl rfl 7 rfl ?_
  refine w_getV (v := .ref (ad 17)) X 0 plt_0 ko_0 (T := TX11) (N := 14) rfl in_X11 3 (by decide) kF_X11_19 rfl rfl dX11_isAdmissible_7 10 rfl ?_
  refine w_aload_n X 0 dX11_isAdmissible_10 rfl rfl 11 rfl ?_
  refine w_getV (v := .ref (ad (pRace 0))) X 0 plt_0 ko_0 (T := TX11) (N := 14) rfl in_X11 6 (by decide) kF_X11_40 rfl rfl dX11_isAdmissible_11 14 rfl ?_
  refine w_iload_n X 1 dX11_isAdmissible_14 rfl rfl 15 rfl ?_
  refine w_iload_n X 2 dX11_isAdmissible_15 rfl rfl 16 rfl ?_
  refine w_iload_n X 3 dX11_isAdmissible_16 rfl rfl 17 rfl ?_
  refine w_if_eq X hF 24 20 dX11_isAdmissible_17 (by decide) rfl (fun hF => ?_) (fun hF => ?_)
  · refine w_iconst X 0 dX11_isAdmissible_24 rfl 25 rfl ?_
    refine w_callVi (fun x => x.1) (fun x => x.2) X hZ hF [.ref (ad (pRace 0)), .int x1, .int x2, .int 0] 17 plt_17 ko_17 rfl rfl rfl kB_X5_admitsNow kL_X11_230 (fun res h => ct_X5_admitsNow l hZ hO fu (Nat.le_of_ble_eq_true rfl) x1 x2 0 mem res h) rfl rfl rfl ⟨Nat.le_of_ble_eq_true rfl, Nat.le_of_ble_eq_true rfl⟩ (Nat.le_of_ble_eq_true rfl) ⟨Nat.le_of_ble_eq_true rfl, Nat.le_of_ble_eq_true rfl⟩ dX11_isAdmissible_25 28 rfl (fun p_1 hF => ?_)
    refine w_gb hF (fun h_2 hF => ?_)
    exact w_tret X hQ (o_inj hF) (bool_nar h_2) ⟨Nat.le_of_ble_eq_true rfl, Nat.le_of_ble_eq_true rfl⟩ dX11_isAdmissible_28
  · refine w_iconst X 1 dX11_isAdmissible_20 rfl 21 rfl ?_
    refine w_goto X 25 dX11_isAdmissible_21 (by decide) ?_
    refine w_callVi (fun x => x.1) (fun x => x.2) X hZ hF [.ref (ad (pRace 0)), .int x1, .int x2, .int 1] 17 plt_17 ko_17 rfl rfl rfl kB_X5_admitsNow kL_X11_230 (fun res h => ct_X5_admitsNow l hZ hO fu (Nat.le_of_ble_eq_true rfl) x1 x2 1 mem res h) rfl rfl rfl ⟨Nat.le_of_ble_eq_true rfl, Nat.le_of_ble_eq_true rfl⟩ (Nat.le_of_ble_eq_true rfl) ⟨Nat.le_of_ble_eq_true rfl, Nat.le_of_ble_eq_true rfl⟩ dX11_isAdmissible_25 28 rfl (fun p_3 hF => ?_)
    refine w_gb hF (fun h_4 hF => ?_)
    exact w_tret X hQ (o_inj hF) (bool_nar h_4) ⟨Nat.le_of_ble_eq_true rfl, Nat.le_of_ble_eq_true rfl⟩ dX11_isAdmissible_28

def K_X11_isBanned (fu : Nat) (x1 : Int32) (x2 : Int32) (mem : Mem) : Option TR := bdt (K_X11_checkPawn fu x1 mem) mem (bdt (K_X11_checkDirection fu x2 mem) mem (bd (K_X6_bannedNow fu 0 x1 mem) (fun x_1 => (if ((x_1 >>> (x2 &&& 31)) &&& 1) = 0 then some (0, 0, mem) else some (0, 1, mem)))))
def K_X11_isBlocked (fu : Nat) (x1 : Int32) (x2 : Int32) (x3 : Int32) (mem : Mem) : Option TR := bdt (K_X11_checkCell fu x1 x2 mem) mem (bdt (K_X11_checkDirection fu x3 mem) mem (bd (K_X2_behind fu 0 ((x2 * 9) + x1) x3 mem) (fun x_1 => (if x_1 = (-1) then some (0, 1, mem) else some (0, 0, mem)))))
def rm_X11_isBlocked : Room := { frames := 7, cells := 3, slots := 18, locals := 104 }
set_option maxHeartbeats 4000000 in
set_option maxRecDepth 100000 in
theorem ct_X11_isBlocked (l : Launch) (hl : l.stackTraces = false) {D : va_G} {ca ad : Nat → Nat} {Z : (Nat → Prop) → State → Heap → Prop} (hZ : ZOK Z) (hX : ZX Z) {tO : Nat} {sK sV : Nat → Nat} (hO : ZO Z tO sK sV) (fu : Nat) (x1 : Int32) (x2 : Int32) (x3 : Int32) (mem : Mem) (res : TR) (hF : K_X11_isBlocked fu x1 x2 x3 mem = some res) : CT l D (tyL ca) 255 ad (cC ca ad) Z yX11_isBlocked cX11_isBlocked 4 .boolean rm_X11_isBlocked [.ref (ad 0), .int x1, .int x2, .int x3] mem res := by
  refine start_t (own := RX11) rfl (by decide) (Nat.le_of_ble_eq_true rfl) ?_
  intro p e s m args below meth c Q hQ htb X
  rw [K_X11_isBlocked] at hF
  refine w_aload_n X 0 dX11_isBlocked_0 rfl rfl 1 rfl ?_
  refine w_iload_n X 1 dX11_isBlocked_1 rfl rfl 2 rfl ?_
  refine w_iload_n X 2 dX11_isBlocked_2 rfl rfl 3 rfl ?_
  refine w_chk X hZ htb hQ hF [.int x1, .int x2] 0 plt_0 ko_0 rfl rfl rfl kB_X11_checkCell kL_X11_207 (fun res h => ct_X11_checkCell l hl hZ hX hO fu x1 x2 mem res h) rfl rfl rfl ⟨Nat.le_of_ble_eq_true rfl, Nat.le_of_ble_eq_true rfl⟩ (Nat.le_of_ble_eq_true rfl) ⟨Nat.le_of_ble_eq_true rfl, Nat.le_of_ble_eq_true rfl⟩ ⟨Nat.le_of_ble_eq_true rfl, Nat.le_of_ble_eq_true rfl⟩ dX11_isBlocked_3 6 rfl (fun hF => ?_)
  refine w_aload_n X 0 dX11_isBlocked_6 rfl rfl 7 rfl ?_
  refine w_iload_n X 3 dX11_isBlocked_7 rfl rfl 8 rfl ?_
  refine w_chk X hZ htb hQ hF [.int x3] 0 plt_0 ko_0 rfl rfl rfl kB_X11_checkDirection kL_X11_224 (fun res h => ct_X11_checkDirection l hl hZ hX hO fu x3 mem res h) rfl rfl rfl ⟨Nat.le_of_ble_eq_true rfl, Nat.le_of_ble_eq_true rfl⟩ (Nat.le_of_ble_eq_true rfl) ⟨Nat.le_of_ble_eq_true rfl, Nat.le_of_ble_eq_true rfl⟩ ⟨Nat.le_of_ble_eq_true rfl, Nat.le_of_ble_eq_true rfl⟩ dX11_isBlocked_8 11 rfl (fun hF => ?_)
  refine w_aload_n X 0 dX11_isBlocked_11 rfl rfl 12 rfl ?_
  refine w_getV (v := .ref (ad (pRace 0))) X 0 plt_0 ko_0 (T := TX11) (N := 14) rfl in_X11 6 (by decide) kF_X11_40 rfl rfl dX11_isBlocked_12 15 rfl ?_
  refine w_getV (v := .ref (ad (pBoard 0))) X (pRace 0) (lt_Race (Nat.le_of_ble_eq_true rfl)) ko_Race (T := TX6) (N := 8) rfl in_X6 0 (by decide) kF_X11_143 rfl rfl dX11_isBlocked_15 18 rfl ?_
  refine w_iload_n X 2 dX11_isBlocked_18 rfl rfl 19 rfl ?_
  refine w_bipush X 9 dX11_isBlocked_19 rfl 21 rfl ?_
  refine w_imul X dX11_isBlocked_21 22 rfl ?_
  refine w_iload_n X 1 dX11_isBlocked_22 rfl rfl 23 rfl ?_
  refine w_iadd X dX11_isBlocked_23 24 rfl ?_
  refine w_iload_n X 3 dX11_isBlocked_24 rfl rfl 25 rfl ?_
  refine w_callVi (fun x => x) (fun _ => mem) X hZ hF [.int ((x2 * 9) + x1), .int x3] (pBoard 0) (lt_Board (Nat.le_of_ble_eq_true rfl)) ko_Board rfl rfl rfl kB_X2_behind kL_X11_227 (fun res h => ct_X2_behind l hZ hO fu (Nat.le_of_ble_eq_true rfl) ((x2 * 9) + x1) x3 mem res h) rfl rfl rfl ⟨Nat.le_of_ble_eq_true rfl, Nat.le_of_ble_eq_true rfl⟩ (Nat.le_of_ble_eq_true rfl) ⟨Nat.le_of_ble_eq_true rfl, Nat.le_of_ble_eq_true rfl⟩ dX11_isBlocked_25 28 rfl (fun x_1 hF => ?_)
  refine w_iconst X (-1) dX11_isBlocked_28 rfl 29 rfl ?_
  refine w_icmp_ne X hF 36 32 dX11_isBlocked_29 (by decide) rfl (fun hF => ?_) (fun hF => ?_)
  · refine w_iconst X 1 dX11_isBlocked_32 rfl 33 rfl ?_
    refine w_goto X 37 dX11_isBlocked_33 (by decide) ?_
    exact w_tret X hQ (o_inj hF) rfl ⟨Nat.le_of_ble_eq_true rfl, Nat.le_of_ble_eq_true rfl⟩ dX11_isBlocked_37
  · refine w_iconst X 0 dX11_isBlocked_36 rfl 37 rfl ?_
    exact w_tret X hQ (o_inj hF) rfl ⟨Nat.le_of_ble_eq_true rfl, Nat.le_of_ble_eq_true rfl⟩ dX11_isBlocked_37

def K_X11_isGate (fu : Nat) (x1 : Int32) (x2 : Int32) (x3 : Int32) (mem : Mem) : Option TR := bdt (K_X11_checkPawn fu x1 mem) mem (bdt (K_X11_checkCell fu x2 x3 mem) mem (gi x1 4 (bd (K_X10_closesAt fu 1 0 0 (Int32.toNatClampNeg x1) ((x3 * 9) + x2) mem) (fun p_2 => gb p_2.1 (some (0, p_2.1, p_2.2))))))
def rm_X11_isGate : Room := { frames := 7, cells := 3, slots := 18, locals := 104 }
set_option maxHeartbeats 4000000 in
set_option maxRecDepth 100000 in
theorem ct_X11_isGate (l : Launch) (hl : l.stackTraces = false) {D : va_G} {ca ad : Nat → Nat} {Z : (Nat → Prop) → State → Heap → Prop} (hZ : ZOK Z) (hX : ZX Z) {tO : Nat} {sK sV : Nat → Nat} (hO : ZO Z tO sK sV) (fu : Nat) (x1 : Int32) (x2 : Int32) (x3 : Int32) (mem : Mem) (res : TR) (hF : K_X11_isGate fu x1 x2 x3 mem = some res) : CT l D (tyL ca) 255 ad (cC ca ad) Z yX11_isGate cX11_isGate 4 .boolean rm_X11_isGate [.ref (ad 0), .int x1, .int x2, .int x3] mem res := by
  refine start_t (own := RX11) rfl (by decide) (Nat.le_of_ble_eq_true rfl) ?_
  intro p e s m args below meth c Q hQ htb X
  rw [K_X11_isGate] at hF
  refine w_aload_n X 0 dX11_isGate_0 rfl rfl 1 rfl ?_
  refine w_iload_n X 1 dX11_isGate_1 rfl rfl 2 rfl ?_
  refine w_chk X hZ htb hQ hF [.int x1] 0 plt_0 ko_0 rfl rfl rfl kB_X11_checkPawn kL_X11_169 (fun res h => ct_X11_checkPawn l hl hZ hX hO fu x1 mem res h) rfl rfl rfl ⟨Nat.le_of_ble_eq_true rfl, Nat.le_of_ble_eq_true rfl⟩ (Nat.le_of_ble_eq_true rfl) ⟨Nat.le_of_ble_eq_true rfl, Nat.le_of_ble_eq_true rfl⟩ ⟨Nat.le_of_ble_eq_true rfl, Nat.le_of_ble_eq_true rfl⟩ dX11_isGate_2 5 rfl (fun hF => ?_)
  refine w_aload_n X 0 dX11_isGate_5 rfl rfl 6 rfl ?_
  refine w_iload_n X 2 dX11_isGate_6 rfl rfl 7 rfl ?_
  refine w_iload_n X 3 dX11_isGate_7 rfl rfl 8 rfl ?_
  refine w_chk X hZ htb hQ hF [.int x2, .int x3] 0 plt_0 ko_0 rfl rfl rfl kB_X11_checkCell kL_X11_207 (fun res h => ct_X11_checkCell l hl hZ hX hO fu x2 x3 mem res h) rfl rfl rfl ⟨Nat.le_of_ble_eq_true rfl, Nat.le_of_ble_eq_true rfl⟩ (Nat.le_of_ble_eq_true rfl) ⟨Nat.le_of_ble_eq_true rfl, Nat.le_of_ble_eq_true rfl⟩ ⟨Nat.le_of_ble_eq_true rfl, Nat.le_of_ble_eq_true rfl⟩ dX11_isGate_8 11 rfl (fun hF => ?_)
  refine w_aload_n X 0 dX11_isGate_11 rfl rfl 12 rfl ?_
  refine w_getV (v := .ref (ad (pWays 1))) X 0 plt_0 ko_0 (T := TX11) (N := 14) rfl in_X11 4 (by decide) kF_X11_26 rfl rfl dX11_isGate_12 15 rfl ?_
  refine w_aload_n X 0 dX11_isGate_15 rfl rfl 16 rfl ?_
  refine w_getV (v := .ref (ad (pRace 0))) X 0 plt_0 ko_0 (T := TX11) (N := 14) rfl in_X11 6 (by decide) kF_X11_40 rfl rfl dX11_isGate_16 19 rfl ?_
  refine w_getV (v := .ref (ad (pBoard 0))) X (pRace 0) (lt_Race (Nat.le_of_ble_eq_true rfl)) ko_Race (T := TX6) (N := 8) rfl in_X6 0 (by decide) kF_X11_143 rfl rfl dX11_isGate_19 22 rfl ?_
  refine w_aload_n X 0 dX11_isGate_22 rfl rfl 23 rfl ?_
  refine w_getV (v := .ref (ad (pRace 0))) X 0 plt_0 ko_0 (T := TX11) (N := 14) rfl in_X11 6 (by decide) kF_X11_40 rfl rfl dX11_isGate_23 26 rfl ?_
  refine w_getV (v := .ref (ad (pPawns 0))) X (pRace 0) (lt_Race (Nat.le_of_ble_eq_true rfl)) ko_Race (T := TX6) (N := 8) rfl in_X6 1 (by decide) kF_X11_172 rfl rfl dX11_isGate_26 29 rfl ?_
  refine w_iload_n X 1 dX11_isGate_29 rfl rfl 30 rfl ?_
  refine w_gi hF (fun h_1 hF => ?_)
  refine w_aal X (pPawns 0) (lt_Pawns (Nat.le_of_ble_eq_true rfl)) (pPawn 0 (Int32.toNatClampNeg x1)) ko_Pawns (t0 := 2) rfl h_1 (el_Pawns (vp_lt h_1)) dX11_isGate_30 31 rfl ?_
  refine w_iload_n X 3 dX11_isGate_31 rfl rfl 32 rfl ?_
  refine w_bipush X 9 dX11_isGate_32 rfl 34 rfl ?_
  refine w_imul X dX11_isGate_34 35 rfl ?_
  refine w_iload_n X 2 dX11_isGate_35 rfl rfl 36 rfl ?_
  refine w_iadd X dX11_isGate_36 37 rfl ?_
  refine w_callVi (fun x => x.1) (fun x => x.2) X hZ hF [.ref (ad (pBoard 0)), .ref (ad (pPawn 0 (Int32.toNatClampNeg x1))), .int ((x3 * 9) + x2)] (pWays 1) (lt_Ways (Nat.le_of_ble_eq_true rfl)) (ko_Ways (Nat.le_of_ble_eq_true rfl)) rfl rfl rfl kB_X10_closesAt kL_X11_268 (fun res h => ct_X10_closesAt l hZ hO fu (Nat.le_of_ble_eq_true rfl) (Nat.le_of_ble_eq_true rfl) (Nat.le_of_ble_eq_true rfl) (vp_lt h_1) ((x3 * 9) + x2) mem res h) rfl rfl rfl ⟨Nat.le_of_ble_eq_true rfl, Nat.le_of_ble_eq_true rfl⟩ (Nat.le_of_ble_eq_true rfl) ⟨Nat.le_of_ble_eq_true rfl, Nat.le_of_ble_eq_true rfl⟩ dX11_isGate_37 40 rfl (fun p_2 hF => ?_)
  refine w_gb hF (fun h_3 hF => ?_)
  exact w_tret X hQ (o_inj hF) (bool_nar h_3) ⟨Nat.le_of_ble_eq_true rfl, Nat.le_of_ble_eq_true rfl⟩ dX11_isGate_40

def K_X11_onWays (fu : Nat) (x1 : Int32) (mem : Mem) : Option TR := bdt (K_X11_checkPawn fu x1 mem) mem (gi x1 4 (bd (K_X10_countCellsOnWays fu 1 0 0 (Int32.toNatClampNeg x1) mem) (fun p_2 => some (0, p_2.1, p_2.2))))
def rm_X11_onWays : Room := { frames := 7, cells := 3, slots := 18, locals := 103 }
set_option maxHeartbeats 4000000 in
set_option maxRecDepth 100000 in
theorem ct_X11_onWays (l : Launch) (hl : l.stackTraces = false) {D : va_G} {ca ad : Nat → Nat} {Z : (Nat → Prop) → State → Heap → Prop} (hZ : ZOK Z) (hX : ZX Z) {tO : Nat} {sK sV : Nat → Nat} (hO : ZO Z tO sK sV) (fu : Nat) (x1 : Int32) (mem : Mem) (res : TR) (hF : K_X11_onWays fu x1 mem = some res) : CT l D (tyL ca) 255 ad (cC ca ad) Z yX11_onWays cX11_onWays 2 .int rm_X11_onWays [.ref (ad 0), .int x1] mem res := by
  refine start_t (own := RX11) rfl (by decide) (Nat.le_of_ble_eq_true rfl) ?_
  intro p e s m args below meth c Q hQ htb X
  rw [K_X11_onWays] at hF
  refine w_aload_n X 0 dX11_onWays_0 rfl rfl 1 rfl ?_
  refine w_iload_n X 1 dX11_onWays_1 rfl rfl 2 rfl ?_
  refine w_chk X hZ htb hQ hF [.int x1] 0 plt_0 ko_0 rfl rfl rfl kB_X11_checkPawn kL_X11_169 (fun res h => ct_X11_checkPawn l hl hZ hX hO fu x1 mem res h) rfl rfl rfl ⟨Nat.le_of_ble_eq_true rfl, Nat.le_of_ble_eq_true rfl⟩ (Nat.le_of_ble_eq_true rfl) ⟨Nat.le_of_ble_eq_true rfl, Nat.le_of_ble_eq_true rfl⟩ ⟨Nat.le_of_ble_eq_true rfl, Nat.le_of_ble_eq_true rfl⟩ dX11_onWays_2 5 rfl (fun hF => ?_)
  refine w_aload_n X 0 dX11_onWays_5 rfl rfl 6 rfl ?_
  refine w_getV (v := .ref (ad (pWays 1))) X 0 plt_0 ko_0 (T := TX11) (N := 14) rfl in_X11 4 (by decide) kF_X11_26 rfl rfl dX11_onWays_6 9 rfl ?_
  refine w_aload_n X 0 dX11_onWays_9 rfl rfl 10 rfl ?_
  refine w_getV (v := .ref (ad (pRace 0))) X 0 plt_0 ko_0 (T := TX11) (N := 14) rfl in_X11 6 (by decide) kF_X11_40 rfl rfl dX11_onWays_10 13 rfl ?_
  refine w_getV (v := .ref (ad (pBoard 0))) X (pRace 0) (lt_Race (Nat.le_of_ble_eq_true rfl)) ko_Race (T := TX6) (N := 8) rfl in_X6 0 (by decide) kF_X11_143 rfl rfl dX11_onWays_13 16 rfl ?_
  refine w_aload_n X 0 dX11_onWays_16 rfl rfl 17 rfl ?_
  refine w_getV (v := .ref (ad (pRace 0))) X 0 plt_0 ko_0 (T := TX11) (N := 14) rfl in_X11 6 (by decide) kF_X11_40 rfl rfl dX11_onWays_17 20 rfl ?_
  refine w_getV (v := .ref (ad (pPawns 0))) X (pRace 0) (lt_Race (Nat.le_of_ble_eq_true rfl)) ko_Race (T := TX6) (N := 8) rfl in_X6 1 (by decide) kF_X11_172 rfl rfl dX11_onWays_20 23 rfl ?_
  refine w_iload_n X 1 dX11_onWays_23 rfl rfl 24 rfl ?_
  refine w_gi hF (fun h_1 hF => ?_)
  refine w_aal X (pPawns 0) (lt_Pawns (Nat.le_of_ble_eq_true rfl)) (pPawn 0 (Int32.toNatClampNeg x1)) ko_Pawns (t0 := 2) rfl h_1 (el_Pawns (vp_lt h_1)) dX11_onWays_24 25 rfl ?_
  refine w_callVi (fun x => x.1) (fun x => x.2) X hZ hF [.ref (ad (pBoard 0)), .ref (ad (pPawn 0 (Int32.toNatClampNeg x1)))] (pWays 1) (lt_Ways (Nat.le_of_ble_eq_true rfl)) (ko_Ways (Nat.le_of_ble_eq_true rfl)) rfl rfl rfl kB_X10_countCellsOnWays kL_X11_262 (fun res h => ct_X10_countCellsOnWays l hZ hO fu (Nat.le_of_ble_eq_true rfl) (Nat.le_of_ble_eq_true rfl) (Nat.le_of_ble_eq_true rfl) (vp_lt h_1) mem res h) rfl rfl rfl ⟨Nat.le_of_ble_eq_true rfl, Nat.le_of_ble_eq_true rfl⟩ (Nat.le_of_ble_eq_true rfl) ⟨Nat.le_of_ble_eq_true rfl, Nat.le_of_ble_eq_true rfl⟩ dX11_onWays_25 28 rfl (fun p_2 hF => ?_)
  exact w_tret X hQ (o_inj hF) rfl ⟨Nat.le_of_ble_eq_true rfl, Nat.le_of_ble_eq_true rfl⟩ dX11_onWays_28

def K_X11_pass (fu : Nat)  (mem : Mem) : Option TR := bd (K_X6_mayPass fu 0 mem) (fun x_1 => (if x_1 = 0 then some (2, 0, mem) else bd (K_X3_keep fu 0 mem) (fun m_2 => bd (K_X6_endTurn fu 0 m_2) (fun m_3 => bd (K_X6_mover fu 0 m_3) (fun x_4 => some (0, x_4, m_3))))))
def rm_X11_pass : Room := { frames := 6, cells := 3, slots := 18, locals := 115 }
set_option maxHeartbeats 4000000 in
set_option maxRecDepth 100000 in
theorem ct_X11_pass (l : Launch) (hl : l.stackTraces = false) {D : va_G} {ca ad : Nat → Nat} {Z : (Nat → Prop) → State → Heap → Prop} (hZ : ZOK Z) (hX : ZX Z) {tO : Nat} {sK sV : Nat → Nat} (hO : ZO Z tO sK sV) (fu : Nat)  (mem : Mem) (res : TR) (hF : K_X11_pass fu  mem = some res) : CT l D (tyL ca) 255 ad (cC ca ad) Z yX11_pass cX11_pass 1 .int rm_X11_pass [.ref (ad 0)] mem res := by
  refine start_t (own := RX11) rfl (by decide) (Nat.le_of_ble_eq_true rfl) ?_
  intro p e s m args below meth c Q hQ htb X
  rw [K_X11_pass] at hF
  refine w_aload_n X 0 dX11_pass_0 rfl rfl 1 rfl ?_
  refine w_getV (v := .ref (ad (pRace 0))) X 0 plt_0 ko_0 (T := TX11) (N := 14) rfl in_X11 6 (by decide) kF_X11_40 rfl rfl dX11_pass_1 4 rfl ?_
  refine w_callVi (fun x => x) (fun _ => mem) X hZ hF [] (pRace 0) (lt_Race (Nat.le_of_ble_eq_true rfl)) ko_Race rfl rfl rfl kB_X6_mayPass kL_X11_336 (fun res h => ct_X6_mayPass l hZ hO fu (Nat.le_of_ble_eq_true rfl) mem res h) rfl rfl rfl ⟨Nat.le_of_ble_eq_true rfl, Nat.le_of_ble_eq_true rfl⟩ (Nat.le_of_ble_eq_true rfl) ⟨Nat.le_of_ble_eq_true rfl, Nat.le_of_ble_eq_true rfl⟩ dX11_pass_4 7 rfl (fun x_1 hF => ?_)
  refine w_if_ne X hF 21 10 dX11_pass_7 (by decide) rfl (fun hF => ?_) (fun hF => ?_)
  · exact w_thrW X hX hl htb hQ 2 (by decide) (o_inj hF) exB_2 8 rfl ⟨Nat.le_of_ble_eq_true rfl, Nat.le_of_ble_eq_true rfl⟩ ⟨Nat.le_of_ble_eq_true rfl, Nat.le_of_ble_eq_true rfl⟩ ⟨Nat.le_of_ble_eq_true rfl, Nat.le_of_ble_eq_true rfl⟩ dX11_pass_10 dX11_pass_13 dX11_pass_14 dX11_pass_17 dX11_pass_20
  · refine w_aload_n X 0 dX11_pass_21 rfl rfl 22 rfl ?_
    refine w_getV (v := .ref (ad 33)) X 0 plt_0 ko_0 (T := TX11) (N := 14) rfl in_X11 11 (by decide) kF_X11_78 rfl rfl dX11_pass_22 25 rfl ?_
    refine w_aload_n X 0 dX11_pass_25 rfl rfl 26 rfl ?_
    refine w_getV (v := .ref (ad (pRace 0))) X 0 plt_0 ko_0 (T := TX11) (N := 14) rfl in_X11 6 (by decide) kF_X11_40 rfl rfl dX11_pass_26 29 rfl ?_
    refine w_callVv (fun m => m) X hZ hF [.ref (ad (pRace 0))] 33 plt_33 ko_33 rfl rfl rfl kB_X3_keep kL_X11_130 (fun res h => ct_X3_keep l hZ hO fu (Nat.le_of_ble_eq_true rfl) mem res h) rfl rfl rfl ⟨Nat.le_of_ble_eq_true rfl, Nat.le_of_ble_eq_true rfl⟩ (Nat.le_of_ble_eq_true rfl) ⟨Nat.le_of_ble_eq_true rfl, Nat.le_of_ble_eq_true rfl⟩ dX11_pass_29 32 rfl (fun m_2 hF => ?_)
    refine w_aload_n X 0 dX11_pass_32 rfl rfl 33 rfl ?_
    refine w_getV (v := .ref (ad (pRace 0))) X 0 plt_0 ko_0 (T := TX11) (N := 14) rfl in_X11 6 (by decide) kF_X11_40 rfl rfl dX11_pass_33 36 rfl ?_
    refine w_callVv (fun m => m) X hZ hF [] (pRace 0) (lt_Race (Nat.le_of_ble_eq_true rfl)) ko_Race rfl rfl rfl kB_X6_endTurn kL_X11_341 (fun res h => ct_X6_endTurn l hZ hO fu (Nat.le_of_ble_eq_true rfl) m_2 res h) rfl rfl rfl ⟨Nat.le_of_ble_eq_true rfl, Nat.le_of_ble_eq_true rfl⟩ (Nat.le_of_ble_eq_true rfl) ⟨Nat.le_of_ble_eq_true rfl, Nat.le_of_ble_eq_true rfl⟩ dX11_pass_36 39 rfl (fun m_3 hF => ?_)
    refine w_aload_n X 0 dX11_pass_39 rfl rfl 40 rfl ?_
    refine w_getV (v := .ref (ad (pRace 0))) X 0 plt_0 ko_0 (T := TX11) (N := 14) rfl in_X11 6 (by decide) kF_X11_40 rfl rfl dX11_pass_40 43 rfl ?_
    refine w_callVi (fun x => x) (fun _ => m_3) X hZ hF [] (pRace 0) (lt_Race (Nat.le_of_ble_eq_true rfl)) ko_Race rfl rfl rfl kB_X6_mover kL_X11_200 (fun res h => ct_X6_mover l hZ hO fu (Nat.le_of_ble_eq_true rfl) m_3 res h) rfl rfl rfl ⟨Nat.le_of_ble_eq_true rfl, Nat.le_of_ble_eq_true rfl⟩ (Nat.le_of_ble_eq_true rfl) ⟨Nat.le_of_ble_eq_true rfl, Nat.le_of_ble_eq_true rfl⟩ dX11_pass_43 46 rfl (fun x_4 hF => ?_)
    exact w_tret X hQ (o_inj hF) rfl ⟨Nat.le_of_ble_eq_true rfl, Nat.le_of_ble_eq_true rfl⟩ dX11_pass_46

def K_X11_pawn (fu : Nat) (x1 : Int32) (x2 : Int32) (mem : Mem) : Option TR := bdt (K_X11_checkPawn fu x1 mem) mem (gi x1 4 ((if x2 = 0 then some (0, ((rd mem (pPawn 0 (Int32.toNatClampNeg x1)) 0) - (rd mem (pPawn 0 (Int32.toNatClampNeg x1)) 0) / 9 * 9), mem) else (if x2 = 1 then some (0, ((rd mem (pPawn 0 (Int32.toNatClampNeg x1)) 0) / 9), mem) else (if x2 = 2 then some (0, (rd mem (pPawn 0 (Int32.toNatClampNeg x1)) 1), mem) else (if x2 = 3 then some (0, (rd mem (pPawn 0 (Int32.toNatClampNeg x1)) 2), mem) else (if x2 = 4 then some (0, (rd mem (pPawn 0 (Int32.toNatClampNeg x1)) 3), mem) else (if x2 = 5 then some (0, (rd mem (pPawn 0 (Int32.toNatClampNeg x1)) 4), mem) else (if x2 = 6 then some (0, (rd mem (pPawn 0 (Int32.toNatClampNeg x1)) 5), mem) else (if x2 = 7 then bd (K_X6_bansOf fu 0 x1 mem) (fun x_10 => some (0, x_10, mem)) else some (1, 0, mem)))))))))))
def rm_X11_pawn : Room := { frames := 7, cells := 3, slots := 18, locals := 103 }
set_option maxHeartbeats 4000000 in
set_option maxRecDepth 100000 in
theorem ct_X11_pawn (l : Launch) (hl : l.stackTraces = false) {D : va_G} {ca ad : Nat → Nat} {Z : (Nat → Prop) → State → Heap → Prop} (hZ : ZOK Z) (hX : ZX Z) {tO : Nat} {sK sV : Nat → Nat} (hO : ZO Z tO sK sV) (fu : Nat) (x1 : Int32) (x2 : Int32) (mem : Mem) (res : TR) (hF : K_X11_pawn fu x1 x2 mem = some res) : CT l D (tyL ca) 255 ad (cC ca ad) Z yX11_pawn cX11_pawn 4 .int rm_X11_pawn [.ref (ad 0), .int x1, .int x2] mem res := by
  refine start_t (own := RX11) rfl (by decide) (Nat.le_of_ble_eq_true rfl) ?_
  intro p e s m args below meth c Q hQ htb X
  rw [K_X11_pawn] at hF
  refine w_aload_n X 0 dX11_pawn_0 rfl rfl 1 rfl ?_
  refine w_iload_n X 1 dX11_pawn_1 rfl rfl 2 rfl ?_
  refine w_chk X hZ htb hQ hF [.int x1] 0 plt_0 ko_0 rfl rfl rfl kB_X11_checkPawn kL_X11_169 (fun res h => ct_X11_checkPawn l hl hZ hX hO fu x1 mem res h) rfl rfl rfl ⟨Nat.le_of_ble_eq_true rfl, Nat.le_of_ble_eq_true rfl⟩ (Nat.le_of_ble_eq_true rfl) ⟨Nat.le_of_ble_eq_true rfl, Nat.le_of_ble_eq_true rfl⟩ ⟨Nat.le_of_ble_eq_true rfl, Nat.le_of_ble_eq_true rfl⟩ dX11_pawn_2 5 rfl (fun hF => ?_)
  refine w_aload_n X 0 dX11_pawn_5 rfl rfl 6 rfl ?_
  refine w_getV (v := .ref (ad (pRace 0))) X 0 plt_0 ko_0 (T := TX11) (N := 14) rfl in_X11 6 (by decide) kF_X11_40 rfl rfl dX11_pawn_6 9 rfl ?_
  refine w_getV (v := .ref (ad (pPawns 0))) X (pRace 0) (lt_Race (Nat.le_of_ble_eq_true rfl)) ko_Race (T := TX6) (N := 8) rfl in_X6 1 (by decide) kF_X11_172 rfl rfl dX11_pawn_9 12 rfl ?_
  refine w_iload_n X 1 dX11_pawn_12 rfl rfl 13 rfl ?_
  refine w_gi hF (fun h_1 hF => ?_)
  refine w_aal X (pPawns 0) (lt_Pawns (Nat.le_of_ble_eq_true rfl)) (pPawn 0 (Int32.toNatClampNeg x1)) ko_Pawns (t0 := 2) rfl h_1 (el_Pawns (vp_lt h_1)) dX11_pawn_13 14 rfl ?_
  refine w_astore_n X [(3, .ref (ad (pPawn 0 (Int32.toNatClampNeg x1)))), (0, .ref (ad 0)), (1, .int x1), (2, .int x2)] dX11_pawn_14 rfl (by decide) rfl 15 rfl ?_
  refine w_iload_n X 3 dX11_pawn_15 rfl rfl 16 rfl ?_
  refine w_case (v := 0) hF (fun h_2 hF => ?_) (fun h_2 hF => ?_)
  · refine w_tin X 64 dX11_pawn_16 h_2 (by decide) (by decide) rfl (by decide) ?_
    refine w_aload_n X 0 dX11_pawn_64 rfl rfl 65 rfl ?_
    refine w_getV (v := .int (rd mem (pPawn 0 (Int32.toNatClampNeg x1)) 0)) X (pPawn 0 (Int32.toNatClampNeg x1)) (lt_Pawn (Nat.le_of_ble_eq_true rfl) (vp_lt h_1)) (ko_Pawn (vp_lt h_1)) (T := TX4) (N := 6) rfl in_X4 0 (by decide) kF_X11_176 rfl rfl dX11_pawn_65 68 rfl ?_
    refine w_bipush X 9 dX11_pawn_68 rfl 70 rfl ?_
    refine w_irem X (by decide) dX11_pawn_70 71 rfl ?_
    exact w_tret X hQ (o_inj hF) rfl ⟨Nat.le_of_ble_eq_true rfl, Nat.le_of_ble_eq_true rfl⟩ dX11_pawn_71
  · skip
    refine w_case (v := 1) hF (fun h_3 hF => ?_) (fun h_3 hF => ?_)
    · refine w_tin X 72 dX11_pawn_16 h_3 (by decide) (by decide) rfl (by decide) ?_
      refine w_aload_n X 0 dX11_pawn_72 rfl rfl 73 rfl ?_
      refine w_getV (v := .int (rd mem (pPawn 0 (Int32.toNatClampNeg x1)) 0)) X (pPawn 0 (Int32.toNatClampNeg x1)) (lt_Pawn (Nat.le_of_ble_eq_true rfl) (vp_lt h_1)) (ko_Pawn (vp_lt h_1)) (T := TX4) (N := 6) rfl in_X4 0 (by decide) kF_X11_176 rfl rfl dX11_pawn_73 76 rfl ?_
      refine w_bipush X 9 dX11_pawn_76 rfl 78 rfl ?_
      refine w_idiv X (by decide) dX11_pawn_78 79 rfl ?_
      exact w_tret X hQ (o_inj hF) rfl ⟨Nat.le_of_ble_eq_true rfl, Nat.le_of_ble_eq_true rfl⟩ dX11_pawn_79
    · skip
      refine w_case (v := 2) hF (fun h_4 hF => ?_) (fun h_4 hF => ?_)
      · refine w_tin X 80 dX11_pawn_16 h_4 (by decide) (by decide) rfl (by decide) ?_
        refine w_aload_n X 0 dX11_pawn_80 rfl rfl 81 rfl ?_
        refine w_getV (v := .int (rd mem (pPawn 0 (Int32.toNatClampNeg x1)) 1)) X (pPawn 0 (Int32.toNatClampNeg x1)) (lt_Pawn (Nat.le_of_ble_eq_true rfl) (vp_lt h_1)) (ko_Pawn (vp_lt h_1)) (T := TX4) (N := 6) rfl in_X4 1 (by decide) kF_X11_181 rfl rfl dX11_pawn_81 84 rfl ?_
        exact w_tret X hQ (o_inj hF) rfl ⟨Nat.le_of_ble_eq_true rfl, Nat.le_of_ble_eq_true rfl⟩ dX11_pawn_84
      · skip
        refine w_case (v := 3) hF (fun h_5 hF => ?_) (fun h_5 hF => ?_)
        · refine w_tin X 85 dX11_pawn_16 h_5 (by decide) (by decide) rfl (by decide) ?_
          refine w_aload_n X 0 dX11_pawn_85 rfl rfl 86 rfl ?_
          refine w_getV (v := .int (rd mem (pPawn 0 (Int32.toNatClampNeg x1)) 2)) X (pPawn 0 (Int32.toNatClampNeg x1)) (lt_Pawn (Nat.le_of_ble_eq_true rfl) (vp_lt h_1)) (ko_Pawn (vp_lt h_1)) (T := TX4) (N := 6) rfl in_X4 2 (by decide) kF_X11_184 rfl rfl dX11_pawn_86 89 rfl ?_
          exact w_tret X hQ (o_inj hF) rfl ⟨Nat.le_of_ble_eq_true rfl, Nat.le_of_ble_eq_true rfl⟩ dX11_pawn_89
        · skip
          refine w_case (v := 4) hF (fun h_6 hF => ?_) (fun h_6 hF => ?_)
          · refine w_tin X 90 dX11_pawn_16 h_6 (by decide) (by decide) rfl (by decide) ?_
            refine w_aload_n X 0 dX11_pawn_90 rfl rfl 91 rfl ?_
            refine w_getV (v := .int (rd mem (pPawn 0 (Int32.toNatClampNeg x1)) 3)) X (pPawn 0 (Int32.toNatClampNeg x1)) (lt_Pawn (Nat.le_of_ble_eq_true rfl) (vp_lt h_1)) (ko_Pawn (vp_lt h_1)) (T := TX4) (N := 6) rfl in_X4 3 (by decide) kF_X11_185 rfl rfl dX11_pawn_91 94 rfl ?_
            exact w_tret X hQ (o_inj hF) rfl ⟨Nat.le_of_ble_eq_true rfl, Nat.le_of_ble_eq_true rfl⟩ dX11_pawn_94
          · skip
            refine w_case (v := 5) hF (fun h_7 hF => ?_) (fun h_7 hF => ?_)
            · refine w_tin X 95 dX11_pawn_16 h_7 (by decide) (by decide) rfl (by decide) ?_
              refine w_aload_n X 0 dX11_pawn_95 rfl rfl 96 rfl ?_
              refine w_getV (v := .int (rd mem (pPawn 0 (Int32.toNatClampNeg x1)) 4)) X (pPawn 0 (Int32.toNatClampNeg x1)) (lt_Pawn (Nat.le_of_ble_eq_true rfl) (vp_lt h_1)) (ko_Pawn (vp_lt h_1)) (T := TX4) (N := 6) rfl in_X4 4 (by decide) kF_X11_188 rfl rfl dX11_pawn_96 99 rfl ?_
              exact w_tret X hQ (o_inj hF) rfl ⟨Nat.le_of_ble_eq_true rfl, Nat.le_of_ble_eq_true rfl⟩ dX11_pawn_99
            · skip
              refine w_case (v := 6) hF (fun h_8 hF => ?_) (fun h_8 hF => ?_)
              · refine w_tin X 100 dX11_pawn_16 h_8 (by decide) (by decide) rfl (by decide) ?_
                refine w_aload_n X 0 dX11_pawn_100 rfl rfl 101 rfl ?_
                refine w_getV (v := .int (rd mem (pPawn 0 (Int32.toNatClampNeg x1)) 5)) X (pPawn 0 (Int32.toNatClampNeg x1)) (lt_Pawn (Nat.le_of_ble_eq_true rfl) (vp_lt h_1)) (ko_Pawn (vp_lt h_1)) (T := TX4) (N := 6) rfl in_X4 5 (by decide) kF_X11_191 rfl rfl dX11_pawn_101 104 rfl ?_
                exact w_tret X hQ (o_inj hF) rfl ⟨Nat.le_of_ble_eq_true rfl, Nat.le_of_ble_eq_true rfl⟩ dX11_pawn_104
              · skip
                refine w_case (v := 7) hF (fun h_9 hF => ?_) (fun h_9 hF => ?_)
                · refine w_tin X 105 dX11_pawn_16 h_9 (by decide) (by decide) rfl (by decide) ?_
                  refine w_aload_n X 1 dX11_pawn_105 rfl rfl 106 rfl ?_
                  refine w_getV (v := .ref (ad (pRace 0))) X 0 plt_0 ko_0 (T := TX11) (N := 14) rfl in_X11 6 (by decide) kF_X11_40 rfl rfl dX11_pawn_106 109 rfl ?_
                  refine w_iload_n X 2 dX11_pawn_109 rfl rfl 110 rfl ?_
                  refine w_callVi (fun x => x) (fun _ => mem) X hZ hF [.int x1] (pRace 0) (lt_Race (Nat.le_of_ble_eq_true rfl)) ko_Race rfl rfl rfl kB_X6_bansOf kL_X11_194 (fun res h => ct_X6_bansOf l hZ hO fu (Nat.le_of_ble_eq_true rfl) x1 mem res h) rfl rfl rfl ⟨Nat.le_of_ble_eq_true rfl, Nat.le_of_ble_eq_true rfl⟩ (Nat.le_of_ble_eq_true rfl) ⟨Nat.le_of_ble_eq_true rfl, Nat.le_of_ble_eq_true rfl⟩ dX11_pawn_110 113 rfl (fun x_10 hF => ?_)
                  exact w_tret X hQ (o_inj hF) rfl ⟨Nat.le_of_ble_eq_true rfl, Nat.le_of_ble_eq_true rfl⟩ dX11_pawn_113
                · skip
                  refine w_tout X 114 dX11_pawn_16 (by have := lv_neT h_2 (show (0 : Int32).toInt = 0 from rfl); have := lv_neT h_3 (show (1 : Int32).toInt = 1 from rfl); have := lv_neT h_4 (show (2 : Int32).toInt = 2 from rfl); have := lv_neT h_5 (show (3 : Int32).toInt = 3 from rfl); have := lv_neT h_6 (show (4 : Int32).toInt = 4 from rfl); have := lv_neT h_7 (show (5 : Int32).toInt = 5 from rfl); have := lv_neT h_8 (show (6 : Int32).toInt = 6 from rfl); have := lv_neT h_9 (show (7 : Int32).toInt = 7 from rfl); omega) (by decide) ?_
                  exact w_thr X hX hl htb hQ 1 (by decide) (o_inj hF) exB_1 4 rfl ⟨Nat.le_of_ble_eq_true rfl, Nat.le_of_ble_eq_true rfl⟩ ⟨Nat.le_of_ble_eq_true rfl, Nat.le_of_ble_eq_true rfl⟩ ⟨Nat.le_of_ble_eq_true rfl, Nat.le_of_ble_eq_true rfl⟩ dX11_pawn_114 dX11_pawn_117 dX11_pawn_118 dX11_pawn_120 dX11_pawn_123

def K_X11_pawnAt (fu : Nat) (x1 : Int32) (x2 : Int32) (mem : Mem) : Option TR := bdt (K_X11_checkCell fu x1 x2 mem) mem (bd (K_X6_pawnOn fu 0 ((x2 * 9) + x1) mem) (fun x_1 => some (0, x_1, mem)))
def K_X11_play (fu : Nat) (x1 : Int32) (x2 : Int32) (mem : Mem) : Option TR := bdt (K_X11_checkPlay fu x1 x2 mem) mem (bd (K_X3_keep fu 0 mem) (fun m_1 => bd (K_X5_playTurns fu 0 x1 x2 m_1) (fun p_2 => some (0, p_2.1, p_2.2))))
def rm_X11_play : Room := { frames := 7, cells := 3, slots := 18, locals := 133 }
set_option maxHeartbeats 4000000 in
set_option maxRecDepth 100000 in
theorem ct_X11_play (l : Launch) (hl : l.stackTraces = false) {D : va_G} {ca ad : Nat → Nat} {Z : (Nat → Prop) → State → Heap → Prop} (hZ : ZOK Z) (hX : ZX Z) {tO : Nat} {sK sV : Nat → Nat} (hO : ZO Z tO sK sV) (fu : Nat) (x1 : Int32) (x2 : Int32) (mem : Mem) (res : TR) (hF : K_X11_play fu x1 x2 mem = some res) : CT l D (tyL ca) 255 ad (cC ca ad) Z yX11_play cX11_play 3 .int rm_X11_play [.ref (ad 0), .int x1, .int x2] mem res := by
  refine start_t (own := RX11) rfl (by decide) (Nat.le_of_ble_eq_true rfl) ?_
  intro p e s m args below meth c Q hQ htb X
  rw [K_X11_play] at hF
  refine w_aload_n X 0 dX11_play_0 rfl rfl 1 rfl ?_
  refine w_iload_n X 1 dX11_play_1 rfl rfl 2 rfl ?_
  refine w_iload_n X 2 dX11_play_2 rfl rfl 3 rfl ?_
  refine w_chk X hZ htb hQ hF [.int x1, .int x2] 0 plt_0 ko_0 rfl rfl rfl kB_X11_checkPlay kL_X11_309 (fun res h => ct_X11_checkPlay l hl hZ hX hO fu x1 x2 mem res h) rfl rfl rfl ⟨Nat.le_of_ble_eq_true rfl, Nat.le_of_ble_eq_true rfl⟩ (Nat.le_of_ble_eq_true rfl) ⟨Nat.le_of_ble_eq_true rfl, Nat.le_of_ble_eq_true rfl⟩ ⟨Nat.le_of_ble_eq_true rfl, Nat.le_of_ble_eq_true rfl⟩ dX11_play_3 6 rfl (fun hF => ?_)
  refine w_aload_n X 0 dX11_play_6 rfl rfl 7 rfl ?_
  refine w_getV (v := .ref (ad 33)) X 0 plt_0 ko_0 (T := TX11) (N := 14) rfl in_X11 11 (by decide) kF_X11_78 rfl rfl dX11_play_7 10 rfl ?_
  refine w_aload_n X 0 dX11_play_10 rfl rfl 11 rfl ?_
  refine w_getV (v := .ref (ad (pRace 0))) X 0 plt_0 ko_0 (T := TX11) (N := 14) rfl in_X11 6 (by decide) kF_X11_40 rfl rfl dX11_play_11 14 rfl ?_
  refine w_callVv (fun m => m) X hZ hF [.ref (ad (pRace 0))] 33 plt_33 ko_33 rfl rfl rfl kB_X3_keep kL_X11_130 (fun res h => ct_X3_keep l hZ hO fu (Nat.le_of_ble_eq_true rfl) mem res h) rfl rfl rfl ⟨Nat.le_of_ble_eq_true rfl, Nat.le_of_ble_eq_true rfl⟩ (Nat.le_of_ble_eq_true rfl) ⟨Nat.le_of_ble_eq_true rfl, Nat.le_of_ble_eq_true rfl⟩ dX11_play_14 17 rfl (fun m_1 hF => ?_)
  refine w_aload_n X 0 dX11_play_17 rfl rfl 18 rfl ?_
  refine w_getV (v := .ref (ad 17)) X 0 plt_0 ko_0 (T := TX11) (N := 14) rfl in_X11 3 (by decide) kF_X11_19 rfl rfl dX11_play_18 21 rfl ?_
  refine w_aload_n X 0 dX11_play_21 rfl rfl 22 rfl ?_
  refine w_getV (v := .ref (ad (pRace 0))) X 0 plt_0 ko_0 (T := TX11) (N := 14) rfl in_X11 6 (by decide) kF_X11_40 rfl rfl dX11_play_22 25 rfl ?_
  refine w_iload_n X 1 dX11_play_25 rfl rfl 26 rfl ?_
  refine w_iload_n X 2 dX11_play_26 rfl rfl 27 rfl ?_
  refine w_callVi (fun x => x.1) (fun x => x.2) X hZ hF [.ref (ad (pRace 0)), .int x1, .int x2] 17 plt_17 ko_17 rfl rfl rfl kB_X5_playTurns kL_X11_312 (fun res h => ct_X5_playTurns l hZ hO fu (Nat.le_of_ble_eq_true rfl) x1 x2 m_1 res h) rfl rfl rfl ⟨Nat.le_of_ble_eq_true rfl, Nat.le_of_ble_eq_true rfl⟩ (Nat.le_of_ble_eq_true rfl) ⟨Nat.le_of_ble_eq_true rfl, Nat.le_of_ble_eq_true rfl⟩ dX11_play_27 30 rfl (fun p_2 hF => ?_)
  exact w_tret X hQ (o_inj hF) rfl ⟨Nat.le_of_ble_eq_true rfl, Nat.le_of_ble_eq_true rfl⟩ dX11_play_30

def K_X11_readText (fu : Nat)  (mem : Mem) : Option TR := bd (K_X7_readRace fu mem) (fun p_1 => lt_ (mw p_1.2 2 1 0) (fun m_2 => (if p_1.1 = 0 then some (1, 0, m_2) else bd (K_X6_copyFrom fu 0 1 m_2) (fun m_3 => bd (K_X3_forget fu m_3) (fun m_4 => some (0, (rd m_4 (pRace 0) 2), m_4))))))
def rm_X11_readText : Room := { frames := 11, cells := 3, slots := 18, locals := 233 }
set_option maxHeartbeats 4000000 in
set_option maxRecDepth 100000 in
theorem ct_X11_readText (l : Launch) (hl : l.stackTraces = false) {D : va_G} {ca ad : Nat → Nat} {Z : (Nat → Prop) → State → Heap → Prop} (hZ : ZOK Z) (hX : ZX Z) {tO : Nat} {sK sV : Nat → Nat} (hO : ZO Z tO sK sV) (fu : Nat)  (mem : Mem) (res : TR) (hF : K_X11_readText fu  mem = some res) : CT l D (tyL ca) 255 ad (cC ca ad) Z yX11_readText cX11_readText 2 .int rm_X11_readText [.ref (ad 0)] mem res := by
  refine start_t (own := RX11) rfl (by decide) (Nat.le_of_ble_eq_true rfl) ?_
  intro p e s m args below meth c Q hQ htb X
  rw [K_X11_readText] at hF
  refine w_aload_n X 0 dX11_readText_0 rfl rfl 1 rfl ?_
  refine w_getV (v := .ref (ad 7)) X 0 plt_0 ko_0 (T := TX11) (N := 14) rfl in_X11 1 (by decide) kF_X11_52 rfl rfl dX11_readText_1 4 rfl ?_
  refine w_callVi (fun x => x.1) (fun x => x.2) X hZ hF [] 7 plt_7 ko_7 rfl rfl rfl kB_X7_readRace kL_X11_109 (fun res h => ct_X7_readRace l hZ hO fu  mem res h) rfl rfl rfl ⟨Nat.le_of_ble_eq_true rfl, Nat.le_of_ble_eq_true rfl⟩ (Nat.le_of_ble_eq_true rfl) ⟨Nat.le_of_ble_eq_true rfl, Nat.le_of_ble_eq_true rfl⟩ dX11_readText_4 7 rfl (fun p_1 hF => ?_)
  refine w_istore_n X [(1, .int p_1.1), (0, .ref (ad 0))] dX11_readText_7 rfl (by decide) rfl 8 rfl ?_
  refine w_aload_n X 1 dX11_readText_8 rfl rfl 9 rfl ?_
  refine w_getV (v := .ref (ad 2)) X 0 plt_0 ko_0 (T := TX11) (N := 14) rfl in_X11 0 (by decide) kF_X11_12 rfl rfl dX11_readText_9 12 rfl ?_
  refine w_iconst X 0 dX11_readText_12 rfl 13 rfl ?_
  refine w_putI X 2 plt_2 ko_2 (T := TX9) (N := 13) rfl in_X9 tyX9 tyX9_ok nmX9 1 (by decide) kF_X11_90 rfl rfl rfl rfl (Nat.le_of_ble_eq_true rfl) rfl dX11_readText_13 16 rfl ?_
  refine w_letm hF (fun m_2 hF => ?_)
  refine w_iload_n X 0 dX11_readText_16 rfl rfl 17 rfl ?_
  refine w_if_ne X hF 30 20 dX11_readText_17 (by decide) rfl (fun hF => ?_) (fun hF => ?_)
  · exact w_thr X hX hl htb hQ 1 (by decide) (o_inj hF) exB_1 2 rfl ⟨Nat.le_of_ble_eq_true rfl, Nat.le_of_ble_eq_true rfl⟩ ⟨Nat.le_of_ble_eq_true rfl, Nat.le_of_ble_eq_true rfl⟩ ⟨Nat.le_of_ble_eq_true rfl, Nat.le_of_ble_eq_true rfl⟩ dX11_readText_20 dX11_readText_23 dX11_readText_24 dX11_readText_26 dX11_readText_29
  · refine w_aload_n X 1 dX11_readText_30 rfl rfl 31 rfl ?_
    refine w_getV (v := .ref (ad (pRace 0))) X 0 plt_0 ko_0 (T := TX11) (N := 14) rfl in_X11 6 (by decide) kF_X11_40 rfl rfl dX11_readText_31 34 rfl ?_
    refine w_aload_n X 1 dX11_readText_34 rfl rfl 35 rfl ?_
    refine w_getV (v := .ref (ad (pRace 1))) X 0 plt_0 ko_0 (T := TX11) (N := 14) rfl in_X11 7 (by decide) kF_X11_44 rfl rfl dX11_readText_35 38 rfl ?_
    refine w_callVv (fun m => m) X hZ hF [.ref (ad (pRace 1))] (pRace 0) (lt_Race (Nat.le_of_ble_eq_true rfl)) ko_Race rfl rfl rfl kB_X6_copyFrom kL_X11_115 (fun res h => ct_X6_copyFrom l hZ hO fu (Nat.le_of_ble_eq_true rfl) (Nat.le_of_ble_eq_true rfl) m_2 res h) rfl rfl rfl ⟨Nat.le_of_ble_eq_true rfl, Nat.le_of_ble_eq_true rfl⟩ (Nat.le_of_ble_eq_true rfl) ⟨Nat.le_of_ble_eq_true rfl, Nat.le_of_ble_eq_true rfl⟩ dX11_readText_38 41 rfl (fun m_3 hF => ?_)
    refine w_aload_n X 1 dX11_readText_41 rfl rfl 42 rfl ?_
    refine w_getV (v := .ref (ad 33)) X 0 plt_0 ko_0 (T := TX11) (N := 14) rfl in_X11 11 (by decide) kF_X11_78 rfl rfl dX11_readText_42 45 rfl ?_
    refine w_callVv (fun m => m) X hZ hF [] 33 plt_33 ko_33 rfl rfl rfl kB_X3_forget kL_X11_119 (fun res h => ct_X3_forget l hZ hO fu  m_3 res h) rfl rfl rfl ⟨Nat.le_of_ble_eq_true rfl, Nat.le_of_ble_eq_true rfl⟩ (Nat.le_of_ble_eq_true rfl) ⟨Nat.le_of_ble_eq_true rfl, Nat.le_of_ble_eq_true rfl⟩ dX11_readText_45 48 rfl (fun m_4 hF => ?_)
    refine w_aload_n X 1 dX11_readText_48 rfl rfl 49 rfl ?_
    refine w_getV (v := .ref (ad (pRace 0))) X 0 plt_0 ko_0 (T := TX11) (N := 14) rfl in_X11 6 (by decide) kF_X11_40 rfl rfl dX11_readText_49 52 rfl ?_
    refine w_getV (v := .int (rd m_4 (pRace 0) 2)) X (pRace 0) (lt_Race (Nat.le_of_ble_eq_true rfl)) ko_Race (T := TX6) (N := 8) rfl in_X6 2 (by decide) kF_X11_122 rfl rfl dX11_readText_52 55 rfl ?_
    exact w_tret X hQ (o_inj hF) rfl ⟨Nat.le_of_ble_eq_true rfl, Nat.le_of_ble_eq_true rfl⟩ dX11_readText_55

def K_X11_reportByte (fu : Nat) (x1 : Int32) (mem : Mem) : Option TR := (if x1 < 0 then some (3, 0, mem) else (if x1 < (rd mem 0 13) then gi x1 283 (some (0, (rd mem 1 (Int32.toNatClampNeg x1)), mem)) else some (3, 0, mem)))
def K_X11_restore (fu : Nat)  (mem : Mem) : Option TR := (if (rd mem 0 10) = 0 then some (2, 0, mem) else bd (K_X6_copyFrom fu 0 3 mem) (fun m_1 => bd (K_X3_forget fu m_1) (fun m_2 => some (0, (rd m_2 (pRace 0) 5), m_2))))
def K_X11_runScript (fu : Nat)  (mem : Mem) : Option TR := bd (K_X8_readCommands fu mem) (fun p_1 => lt_ (mw p_1.2 2 1 0) (fun m_2 => (if p_1.1 = 0 then some (1, 0, m_2) else bd (K_X3_keep fu 0 m_2) (fun m_3 => bd (K_X8_run fu 0 m_3) (fun p_4 => some (0, p_4.1, p_4.2))))))
def K_X11_setting (fu : Nat) (x1 : Int32) (mem : Mem) : Option TR := (if x1 = 0 then some (0, (rd mem (pBoard 0) 0), mem) else (if x1 = 1 then some (0, (rd mem (pBoard 0) 1), mem) else (if x1 = 2 then some (0, (rd mem (pRace 0) 2), mem) else (if x1 = 3 then some (0, (rd mem (pBoard 0) 2), mem) else (if x1 = 4 then some (0, (rd mem (pRace 0) 5), mem) else (if x1 = 5 then some (0, (rd mem (pRace 0) 7), mem) else (if x1 = 6 then some (0, (rd mem (pRace 0) 4), mem) else some (1, 0, mem))))))))
def rm_X11_setting : Room := { frames := 6, cells := 3, slots := 18, locals := 82 }
set_option maxHeartbeats 4000000 in
set_option maxRecDepth 100000 in
theorem ct_X11_setting (l : Launch) (hl : l.stackTraces = false) {D : va_G} {ca ad : Nat → Nat} {Z : (Nat → Prop) → State → Heap → Prop} (hZ : ZOK Z) (hX : ZX Z) {tO : Nat} {sK sV : Nat → Nat} (hO : ZO Z tO sK sV) (fu : Nat) (x1 : Int32) (mem : Mem) (res : TR) (hF : K_X11_setting fu x1 mem = some res) : CT l D (tyL ca) 255 ad (cC ca ad) Z yX11_setting cX11_setting 2 .int rm_X11_setting [.ref (ad 0), .int x1] mem res := by
  refine start_t (own := RX11) rfl (by decide) (Nat.le_of_ble_eq_true rfl) ?_
  intro p e s m args below meth c Q hQ htb X
  rw [K_X11_setting] at hF
  refine w_iload_n X 1 dX11_setting_0 rfl rfl 1 rfl ?_
  refine w_case (v := 0) hF (fun h_1 hF => ?_) (fun h_1 hF => ?_)
  · refine w_tin X 44 dX11_setting_1 h_1 (by decide) (by decide) rfl (by decide) ?_
    refine w_aload_n X 0 dX11_setting_44 rfl rfl 45 rfl ?_
    refine w_getV (v := .ref (ad (pRace 0))) X 0 plt_0 ko_0 (T := TX11) (N := 14) rfl in_X11 6 (by decide) kF_X11_40 rfl rfl dX11_setting_45 48 rfl ?_
    refine w_getV (v := .ref (ad (pBoard 0))) X (pRace 0) (lt_Race (Nat.le_of_ble_eq_true rfl)) ko_Race (T := TX6) (N := 8) rfl in_X6 0 (by decide) kF_X11_143 rfl rfl dX11_setting_48 51 rfl ?_
    refine w_getV (v := .int (rd mem (pBoard 0) 0)) X (pBoard 0) (lt_Board (Nat.le_of_ble_eq_true rfl)) ko_Board (T := TX2) (N := 5) rfl in_X2 0 (by decide) kF_X11_147 rfl rfl dX11_setting_51 54 rfl ?_
    exact w_tret X hQ (o_inj hF) rfl ⟨Nat.le_of_ble_eq_true rfl, Nat.le_of_ble_eq_true rfl⟩ dX11_setting_54
  · skip
    refine w_case (v := 1) hF (fun h_2 hF => ?_) (fun h_2 hF => ?_)
    · refine w_tin X 55 dX11_setting_1 h_2 (by decide) (by decide) rfl (by decide) ?_
      refine w_aload_n X 0 dX11_setting_55 rfl rfl 56 rfl ?_
      refine w_getV (v := .ref (ad (pRace 0))) X 0 plt_0 ko_0 (T := TX11) (N := 14) rfl in_X11 6 (by decide) kF_X11_40 rfl rfl dX11_setting_56 59 rfl ?_
      refine w_getV (v := .ref (ad (pBoard 0))) X (pRace 0) (lt_Race (Nat.le_of_ble_eq_true rfl)) ko_Race (T := TX6) (N := 8) rfl in_X6 0 (by decide) kF_X11_143 rfl rfl dX11_setting_59 62 rfl ?_
      refine w_getV (v := .int (rd mem (pBoard 0) 1)) X (pBoard 0) (lt_Board (Nat.le_of_ble_eq_true rfl)) ko_Board (T := TX2) (N := 5) rfl in_X2 1 (by decide) kF_X11_152 rfl rfl dX11_setting_62 65 rfl ?_
      exact w_tret X hQ (o_inj hF) rfl ⟨Nat.le_of_ble_eq_true rfl, Nat.le_of_ble_eq_true rfl⟩ dX11_setting_65
    · skip
      refine w_case (v := 2) hF (fun h_3 hF => ?_) (fun h_3 hF => ?_)
      · refine w_tin X 66 dX11_setting_1 h_3 (by decide) (by decide) rfl (by decide) ?_
        refine w_aload_n X 0 dX11_setting_66 rfl rfl 67 rfl ?_
        refine w_getV (v := .ref (ad (pRace 0))) X 0 plt_0 ko_0 (T := TX11) (N := 14) rfl in_X11 6 (by decide) kF_X11_40 rfl rfl dX11_setting_67 70 rfl ?_
        refine w_getV (v := .int (rd mem (pRace 0) 2)) X (pRace 0) (lt_Race (Nat.le_of_ble_eq_true rfl)) ko_Race (T := TX6) (N := 8) rfl in_X6 2 (by decide) kF_X11_122 rfl rfl dX11_setting_70 73 rfl ?_
        exact w_tret X hQ (o_inj hF) rfl ⟨Nat.le_of_ble_eq_true rfl, Nat.le_of_ble_eq_true rfl⟩ dX11_setting_73
      · skip
        refine w_case (v := 3) hF (fun h_4 hF => ?_) (fun h_4 hF => ?_)
        · refine w_tin X 74 dX11_setting_1 h_4 (by decide) (by decide) rfl (by decide) ?_
          refine w_aload_n X 0 dX11_setting_74 rfl rfl 75 rfl ?_
          refine w_getV (v := .ref (ad (pRace 0))) X 0 plt_0 ko_0 (T := TX11) (N := 14) rfl in_X11 6 (by decide) kF_X11_40 rfl rfl dX11_setting_75 78 rfl ?_
          refine w_getV (v := .ref (ad (pBoard 0))) X (pRace 0) (lt_Race (Nat.le_of_ble_eq_true rfl)) ko_Race (T := TX6) (N := 8) rfl in_X6 0 (by decide) kF_X11_143 rfl rfl dX11_setting_78 81 rfl ?_
          refine w_getV (v := .int (rd mem (pBoard 0) 2)) X (pBoard 0) (lt_Board (Nat.le_of_ble_eq_true rfl)) ko_Board (T := TX2) (N := 5) rfl in_X2 2 (by decide) kF_X11_155 rfl rfl dX11_setting_81 84 rfl ?_
          exact w_tret X hQ (o_inj hF) rfl ⟨Nat.le_of_ble_eq_true rfl, Nat.le_of_ble_eq_true rfl⟩ dX11_setting_84
        · skip
          refine w_case (v := 4) hF (fun h_5 hF => ?_) (fun h_5 hF => ?_)
          · refine w_tin X 85 dX11_setting_1 h_5 (by decide) (by decide) rfl (by decide) ?_
            refine w_aload_n X 0 dX11_setting_85 rfl rfl 86 rfl ?_
            refine w_getV (v := .ref (ad (pRace 0))) X 0 plt_0 ko_0 (T := TX11) (N := 14) rfl in_X11 6 (by decide) kF_X11_40 rfl rfl dX11_setting_86 89 rfl ?_
            refine w_getV (v := .int (rd mem (pRace 0) 5)) X (pRace 0) (lt_Race (Nat.le_of_ble_eq_true rfl)) ko_Race (T := TX6) (N := 8) rfl in_X6 5 (by decide) kF_X11_158 rfl rfl dX11_setting_89 92 rfl ?_
            exact w_tret X hQ (o_inj hF) rfl ⟨Nat.le_of_ble_eq_true rfl, Nat.le_of_ble_eq_true rfl⟩ dX11_setting_92
          · skip
            refine w_case (v := 5) hF (fun h_6 hF => ?_) (fun h_6 hF => ?_)
            · refine w_tin X 93 dX11_setting_1 h_6 (by decide) (by decide) rfl (by decide) ?_
              refine w_aload_n X 0 dX11_setting_93 rfl rfl 94 rfl ?_
              refine w_getV (v := .ref (ad (pRace 0))) X 0 plt_0 ko_0 (T := TX11) (N := 14) rfl in_X11 6 (by decide) kF_X11_40 rfl rfl dX11_setting_94 97 rfl ?_
              refine w_getV (v := .int (rd mem (pRace 0) 7)) X (pRace 0) (lt_Race (Nat.le_of_ble_eq_true rfl)) ko_Race (T := TX6) (N := 8) rfl in_X6 7 (by decide) kF_X11_161 rfl rfl dX11_setting_97 100 rfl ?_
              exact w_tret X hQ (o_inj hF) rfl ⟨Nat.le_of_ble_eq_true rfl, Nat.le_of_ble_eq_true rfl⟩ dX11_setting_100
            · skip
              refine w_case (v := 6) hF (fun h_7 hF => ?_) (fun h_7 hF => ?_)
              · refine w_tin X 101 dX11_setting_1 h_7 (by decide) (by decide) rfl (by decide) ?_
                refine w_aload_n X 0 dX11_setting_101 rfl rfl 102 rfl ?_
                refine w_getV (v := .ref (ad (pRace 0))) X 0 plt_0 ko_0 (T := TX11) (N := 14) rfl in_X11 6 (by decide) kF_X11_40 rfl rfl dX11_setting_102 105 rfl ?_
                refine w_getV (v := .int (rd mem (pRace 0) 4)) X (pRace 0) (lt_Race (Nat.le_of_ble_eq_true rfl)) ko_Race (T := TX6) (N := 8) rfl in_X6 4 (by decide) kF_X11_164 rfl rfl dX11_setting_105 108 rfl ?_
                exact w_tret X hQ (o_inj hF) rfl ⟨Nat.le_of_ble_eq_true rfl, Nat.le_of_ble_eq_true rfl⟩ dX11_setting_108
              · skip
                refine w_tout X 109 dX11_setting_1 (by have := lv_neT h_1 (show (0 : Int32).toInt = 0 from rfl); have := lv_neT h_2 (show (1 : Int32).toInt = 1 from rfl); have := lv_neT h_3 (show (2 : Int32).toInt = 2 from rfl); have := lv_neT h_4 (show (3 : Int32).toInt = 3 from rfl); have := lv_neT h_5 (show (4 : Int32).toInt = 4 from rfl); have := lv_neT h_6 (show (5 : Int32).toInt = 5 from rfl); have := lv_neT h_7 (show (6 : Int32).toInt = 6 from rfl); omega) (by decide) ?_
                exact w_thr X hX hl htb hQ 1 (by decide) (o_inj hF) exB_1 3 rfl ⟨Nat.le_of_ble_eq_true rfl, Nat.le_of_ble_eq_true rfl⟩ ⟨Nat.le_of_ble_eq_true rfl, Nat.le_of_ble_eq_true rfl⟩ ⟨Nat.le_of_ble_eq_true rfl, Nat.le_of_ble_eq_true rfl⟩ dX11_setting_109 dX11_setting_112 dX11_setting_113 dX11_setting_115 dX11_setting_118

def K_X11_step (fu : Nat) (x1 : Int32) (mem : Mem) : Option TR := bdt (K_X11_checkDirection fu x1 mem) mem (bd (K_X6_mayMove fu 0 x1 mem) (fun x_1 => (if x_1 = 0 then some (2, 0, mem) else bd (K_X3_keep fu 0 mem) (fun m_2 => gi (rd m_2 (pRace 0) 6) 4 (bd (K_X6_move fu 0 x1 m_2) (fun m_4 => bd (K_X10_measure fu 1 0 0 (Int32.toNatClampNeg (rd m_2 (pRace 0) 6)) m_4) (fun p_5 => some (0, p_5.1, p_5.2))))))))
def rm_X11_step : Room := { frames := 7, cells := 3, slots := 18, locals := 104 }
set_option maxHeartbeats 4000000 in
set_option maxRecDepth 100000 in
theorem ct_X11_step (l : Launch) (hl : l.stackTraces = false) {D : va_G} {ca ad : Nat → Nat} {Z : (Nat → Prop) → State → Heap → Prop} (hZ : ZOK Z) (hX : ZX Z) {tO : Nat} {sK sV : Nat → Nat} (hO : ZO Z tO sK sV) (fu : Nat) (x1 : Int32) (mem : Mem) (res : TR) (hF : K_X11_step fu x1 mem = some res) : CT l D (tyL ca) 255 ad (cC ca ad) Z yX11_step cX11_step 3 .int rm_X11_step [.ref (ad 0), .int x1] mem res := by
  refine start_t (own := RX11) rfl (by decide) (Nat.le_of_ble_eq_true rfl) ?_
  intro p e s m args below meth c Q hQ htb X
  rw [K_X11_step] at hF
  refine w_aload_n X 0 dX11_step_0 rfl rfl 1 rfl ?_
  refine w_iload_n X 1 dX11_step_1 rfl rfl 2 rfl ?_
  refine w_chk X hZ htb hQ hF [.int x1] 0 plt_0 ko_0 rfl rfl rfl kB_X11_checkDirection kL_X11_224 (fun res h => ct_X11_checkDirection l hl hZ hX hO fu x1 mem res h) rfl rfl rfl ⟨Nat.le_of_ble_eq_true rfl, Nat.le_of_ble_eq_true rfl⟩ (Nat.le_of_ble_eq_true rfl) ⟨Nat.le_of_ble_eq_true rfl, Nat.le_of_ble_eq_true rfl⟩ ⟨Nat.le_of_ble_eq_true rfl, Nat.le_of_ble_eq_true rfl⟩ dX11_step_2 5 rfl (fun hF => ?_)
  refine w_aload_n X 0 dX11_step_5 rfl rfl 6 rfl ?_
  refine w_getV (v := .ref (ad (pRace 0))) X 0 plt_0 ko_0 (T := TX11) (N := 14) rfl in_X11 6 (by decide) kF_X11_40 rfl rfl dX11_step_6 9 rfl ?_
  refine w_iload_n X 1 dX11_step_9 rfl rfl 10 rfl ?_
  refine w_callVi (fun x => x) (fun _ => mem) X hZ hF [.int x1] (pRace 0) (lt_Race (Nat.le_of_ble_eq_true rfl)) ko_Race rfl rfl rfl kB_X6_mayMove kL_X11_315 (fun res h => ct_X6_mayMove l hZ hO fu (Nat.le_of_ble_eq_true rfl) x1 mem res h) rfl rfl rfl ⟨Nat.le_of_ble_eq_true rfl, Nat.le_of_ble_eq_true rfl⟩ (Nat.le_of_ble_eq_true rfl) ⟨Nat.le_of_ble_eq_true rfl, Nat.le_of_ble_eq_true rfl⟩ dX11_step_10 13 rfl (fun x_1 hF => ?_)
  refine w_if_ne X hF 27 16 dX11_step_13 (by decide) rfl (fun hF => ?_) (fun hF => ?_)
  · exact w_thrW X hX hl htb hQ 2 (by decide) (o_inj hF) exB_2 6 rfl ⟨Nat.le_of_ble_eq_true rfl, Nat.le_of_ble_eq_true rfl⟩ ⟨Nat.le_of_ble_eq_true rfl, Nat.le_of_ble_eq_true rfl⟩ ⟨Nat.le_of_ble_eq_true rfl, Nat.le_of_ble_eq_true rfl⟩ dX11_step_16 dX11_step_19 dX11_step_20 dX11_step_23 dX11_step_26
  · refine w_aload_n X 0 dX11_step_27 rfl rfl 28 rfl ?_
    refine w_getV (v := .ref (ad 33)) X 0 plt_0 ko_0 (T := TX11) (N := 14) rfl in_X11 11 (by decide) kF_X11_78 rfl rfl dX11_step_28 31 rfl ?_
    refine w_aload_n X 0 dX11_step_31 rfl rfl 32 rfl ?_
    refine w_getV (v := .ref (ad (pRace 0))) X 0 plt_0 ko_0 (T := TX11) (N := 14) rfl in_X11 6 (by decide) kF_X11_40 rfl rfl dX11_step_32 35 rfl ?_
    refine w_callVv (fun m => m) X hZ hF [.ref (ad (pRace 0))] 33 plt_33 ko_33 rfl rfl rfl kB_X3_keep kL_X11_130 (fun res h => ct_X3_keep l hZ hO fu (Nat.le_of_ble_eq_true rfl) mem res h) rfl rfl rfl ⟨Nat.le_of_ble_eq_true rfl, Nat.le_of_ble_eq_true rfl⟩ (Nat.le_of_ble_eq_true rfl) ⟨Nat.le_of_ble_eq_true rfl, Nat.le_of_ble_eq_true rfl⟩ dX11_step_35 38 rfl (fun m_2 hF => ?_)
    refine w_aload_n X 0 dX11_step_38 rfl rfl 39 rfl ?_
    refine w_getV (v := .ref (ad (pRace 0))) X 0 plt_0 ko_0 (T := TX11) (N := 14) rfl in_X11 6 (by decide) kF_X11_40 rfl rfl dX11_step_39 42 rfl ?_
    refine w_getV (v := .ref (ad (pPawns 0))) X (pRace 0) (lt_Race (Nat.le_of_ble_eq_true rfl)) ko_Race (T := TX6) (N := 8) rfl in_X6 1 (by decide) kF_X11_172 rfl rfl dX11_step_42 45 rfl ?_
    refine w_aload_n X 0 dX11_step_45 rfl rfl 46 rfl ?_
    refine w_getV (v := .ref (ad (pRace 0))) X 0 plt_0 ko_0 (T := TX11) (N := 14) rfl in_X11 6 (by decide) kF_X11_40 rfl rfl dX11_step_46 49 rfl ?_
    refine w_getV (v := .int (rd m_2 (pRace 0) 6)) X (pRace 0) (lt_Race (Nat.le_of_ble_eq_true rfl)) ko_Race (T := TX6) (N := 8) rfl in_X6 6 (by decide) kF_X11_321 rfl rfl dX11_step_49 52 rfl ?_
    refine w_gi hF (fun h_3 hF => ?_)
    refine w_aal X (pPawns 0) (lt_Pawns (Nat.le_of_ble_eq_true rfl)) (pPawn 0 (Int32.toNatClampNeg (rd m_2 (pRace 0) 6))) ko_Pawns (t0 := 2) rfl h_3 (el_Pawns (vp_lt h_3)) dX11_step_52 53 rfl ?_
    refine w_astore_n X [(2, .ref (ad (pPawn 0 (Int32.toNatClampNeg (rd m_2 (pRace 0) 6))))), (0, .ref (ad 0)), (1, .int x1)] dX11_step_53 rfl (by decide) rfl 54 rfl ?_
    refine w_aload_n X 1 dX11_step_54 rfl rfl 55 rfl ?_
    refine w_getV (v := .ref (ad (pRace 0))) X 0 plt_0 ko_0 (T := TX11) (N := 14) rfl in_X11 6 (by decide) kF_X11_40 rfl rfl dX11_step_55 58 rfl ?_
    refine w_iload_n X 2 dX11_step_58 rfl rfl 59 rfl ?_
    refine w_callVv (fun m => m) X hZ hF [.int x1] (pRace 0) (lt_Race (Nat.le_of_ble_eq_true rfl)) ko_Race rfl rfl rfl kB_X6_move kL_X11_324 (fun res h => ct_X6_move l hZ hO fu (Nat.le_of_ble_eq_true rfl) x1 m_2 res h) rfl rfl rfl ⟨Nat.le_of_ble_eq_true rfl, Nat.le_of_ble_eq_true rfl⟩ (Nat.le_of_ble_eq_true rfl) ⟨Nat.le_of_ble_eq_true rfl, Nat.le_of_ble_eq_true rfl⟩ dX11_step_59 62 rfl (fun m_4 hF => ?_)
    refine w_aload_n X 1 dX11_step_62 rfl rfl 63 rfl ?_
    refine w_getV (v := .ref (ad (pWays 1))) X 0 plt_0 ko_0 (T := TX11) (N := 14) rfl in_X11 4 (by decide) kF_X11_26 rfl rfl dX11_step_63 66 rfl ?_
    refine w_aload_n X 1 dX11_step_66 rfl rfl 67 rfl ?_
    refine w_getV (v := .ref (ad (pRace 0))) X 0 plt_0 ko_0 (T := TX11) (N := 14) rfl in_X11 6 (by decide) kF_X11_40 rfl rfl dX11_step_67 70 rfl ?_
    refine w_getV (v := .ref (ad (pBoard 0))) X (pRace 0) (lt_Race (Nat.le_of_ble_eq_true rfl)) ko_Race (T := TX6) (N := 8) rfl in_X6 0 (by decide) kF_X11_143 rfl rfl dX11_step_70 73 rfl ?_
    refine w_aload_n X 0 dX11_step_73 rfl rfl 74 rfl ?_
    refine w_callVi (fun x => x.1) (fun x => x.2) X hZ hF [.ref (ad (pBoard 0)), .ref (ad (pPawn 0 (Int32.toNatClampNeg (rd m_2 (pRace 0) 6))))] (pWays 1) (lt_Ways (Nat.le_of_ble_eq_true rfl)) (ko_Ways (Nat.le_of_ble_eq_true rfl)) rfl rfl rfl kB_X10_measure kL_X11_251 (fun res h => ct_X10_measure l hZ hO fu (Nat.le_of_ble_eq_true rfl) (Nat.le_of_ble_eq_true rfl) (Nat.le_of_ble_eq_true rfl) (vp_lt h_3) m_4 res h) rfl rfl rfl ⟨Nat.le_of_ble_eq_true rfl, Nat.le_of_ble_eq_true rfl⟩ (Nat.le_of_ble_eq_true rfl) ⟨Nat.le_of_ble_eq_true rfl, Nat.le_of_ble_eq_true rfl⟩ dX11_step_74 77 rfl (fun p_5 hF => ?_)
    exact w_tret X hQ (o_inj hF) rfl ⟨Nat.le_of_ble_eq_true rfl, Nat.le_of_ble_eq_true rfl⟩ dX11_step_77

def K_X11_steps (fu : Nat) (x1 : Int32) (mem : Mem) : Option TR := bdt (K_X11_checkPawn fu x1 mem) mem (bd (K_X6_stepMask fu 0 x1 mem) (fun x_1 => some (0, x_1, mem)))
def K_X11_stepsWithBans (fu : Nat) (x1 : Int32) (mem : Mem) : Option TR := bdt (K_X11_checkPawn fu x1 mem) mem (bd (K_X1_leastSteps fu 0 x1 mem) (fun p_1 => some (0, p_1.1, p_1.2)))
def rm_X11_stepsWithBans : Room := { frames := 7, cells := 3, slots := 18, locals := 103 }
set_option maxHeartbeats 4000000 in
set_option maxRecDepth 100000 in
theorem ct_X11_stepsWithBans (l : Launch) (hl : l.stackTraces = false) {D : va_G} {ca ad : Nat → Nat} {Z : (Nat → Prop) → State → Heap → Prop} (hZ : ZOK Z) (hX : ZX Z) {tO : Nat} {sK sV : Nat → Nat} (hO : ZO Z tO sK sV) (fu : Nat) (x1 : Int32) (mem : Mem) (res : TR) (hF : K_X11_stepsWithBans fu x1 mem = some res) : CT l D (tyL ca) 255 ad (cC ca ad) Z yX11_stepsWithBans cX11_stepsWithBans 2 .int rm_X11_stepsWithBans [.ref (ad 0), .int x1] mem res := by
  refine start_t (own := RX11) rfl (by decide) (Nat.le_of_ble_eq_true rfl) ?_
  intro p e s m args below meth c Q hQ htb X
  rw [K_X11_stepsWithBans] at hF
  refine w_aload_n X 0 dX11_stepsWithBans_0 rfl rfl 1 rfl ?_
  refine w_iload_n X 1 dX11_stepsWithBans_1 rfl rfl 2 rfl ?_
  refine w_chk X hZ htb hQ hF [.int x1] 0 plt_0 ko_0 rfl rfl rfl kB_X11_checkPawn kL_X11_169 (fun res h => ct_X11_checkPawn l hl hZ hX hO fu x1 mem res h) rfl rfl rfl ⟨Nat.le_of_ble_eq_true rfl, Nat.le_of_ble_eq_true rfl⟩ (Nat.le_of_ble_eq_true rfl) ⟨Nat.le_of_ble_eq_true rfl, Nat.le_of_ble_eq_true rfl⟩ ⟨Nat.le_of_ble_eq_true rfl, Nat.le_of_ble_eq_true rfl⟩ dX11_stepsWithBans_2 5 rfl (fun hF => ?_)
  refine w_aload_n X 0 dX11_stepsWithBans_5 rfl rfl 6 rfl ?_
  refine w_getV (v := .ref (ad 28)) X 0 plt_0 ko_0 (T := TX11) (N := 14) rfl in_X11 5 (by decide) kF_X11_33 rfl rfl dX11_stepsWithBans_6 9 rfl ?_
  refine w_aload_n X 0 dX11_stepsWithBans_9 rfl rfl 10 rfl ?_
  refine w_getV (v := .ref (ad (pRace 0))) X 0 plt_0 ko_0 (T := TX11) (N := 14) rfl in_X11 6 (by decide) kF_X11_40 rfl rfl dX11_stepsWithBans_10 13 rfl ?_
  refine w_iload_n X 1 dX11_stepsWithBans_13 rfl rfl 14 rfl ?_
  refine w_callVi (fun x => x.1) (fun x => x.2) X hZ hF [.ref (ad (pRace 0)), .int x1] 28 plt_28 ko_28 rfl rfl rfl kB_X1_leastSteps kL_X11_272 (fun res h => ct_X1_leastSteps l hZ hO fu (Nat.le_of_ble_eq_true rfl) x1 mem res h) rfl rfl rfl ⟨Nat.le_of_ble_eq_true rfl, Nat.le_of_ble_eq_true rfl⟩ (Nat.le_of_ble_eq_true rfl) ⟨Nat.le_of_ble_eq_true rfl, Nat.le_of_ble_eq_true rfl⟩ dX11_stepsWithBans_14 17 rfl (fun p_1 hF => ?_)
  exact w_tret X hQ (o_inj hF) rfl ⟨Nat.le_of_ble_eq_true rfl, Nat.le_of_ble_eq_true rfl⟩ dX11_stepsWithBans_17

def K_X11_truncate (fu : Nat) (x1 : Int32) (mem : Mem) : Option TR := (if x1 < 0 then some (1, 0, mem) else (if (rd mem 2 1) < x1 then some (1, 0, mem) else lt_ (mw mem 2 1 x1) (fun m_1 => some (0, x1, m_1))))
def rm_X11_truncate : Room := { frames := 6, cells := 3, slots := 18, locals := 82 }
set_option maxHeartbeats 4000000 in
set_option maxRecDepth 100000 in
theorem ct_X11_truncate (l : Launch) (hl : l.stackTraces = false) {D : va_G} {ca ad : Nat → Nat} {Z : (Nat → Prop) → State → Heap → Prop} (hZ : ZOK Z) (hX : ZX Z) {tO : Nat} {sK sV : Nat → Nat} (hO : ZO Z tO sK sV) (fu : Nat) (x1 : Int32) (mem : Mem) (res : TR) (hF : K_X11_truncate fu x1 mem = some res) : CT l D (tyL ca) 255 ad (cC ca ad) Z yX11_truncate cX11_truncate 2 .int rm_X11_truncate [.ref (ad 0), .int x1] mem res := by
  refine start_t (own := RX11) rfl (by decide) (Nat.le_of_ble_eq_true rfl) ?_
  intro p e s m args below meth c Q hQ htb X
  rw [K_X11_truncate] at hF
  refine w_iload_n X 1 dX11_truncate_0 rfl rfl 1 rfl ?_
  refine w_if_lt X hF 15 4 dX11_truncate_1 (by decide) rfl (fun hF => ?_) (fun hF => ?_)
  · exact w_thr X hX hl htb hQ 1 (by decide) (o_inj hF) exB_1 1 rfl ⟨Nat.le_of_ble_eq_true rfl, Nat.le_of_ble_eq_true rfl⟩ ⟨Nat.le_of_ble_eq_true rfl, Nat.le_of_ble_eq_true rfl⟩ ⟨Nat.le_of_ble_eq_true rfl, Nat.le_of_ble_eq_true rfl⟩ dX11_truncate_15 dX11_truncate_18 dX11_truncate_19 dX11_truncate_21 dX11_truncate_24
  · refine w_iload_n X 1 dX11_truncate_4 rfl rfl 5 rfl ?_
    refine w_aload_n X 0 dX11_truncate_5 rfl rfl 6 rfl ?_
    refine w_getV (v := .ref (ad 2)) X 0 plt_0 ko_0 (T := TX11) (N := 14) rfl in_X11 0 (by decide) kF_X11_12 rfl rfl dX11_truncate_6 9 rfl ?_
    refine w_getV (v := .int (rd mem 2 1)) X 2 plt_2 ko_2 (T := TX9) (N := 13) rfl in_X9 1 (by decide) kF_X11_90 rfl rfl dX11_truncate_9 12 rfl ?_
    refine w_icmp_le X hF 25 15 dX11_truncate_12 (by decide) rfl (fun hF => ?_) (fun hF => ?_)
    · exact w_thr X hX hl htb hQ 1 (by decide) (o_inj hF) exB_1 1 rfl ⟨Nat.le_of_ble_eq_true rfl, Nat.le_of_ble_eq_true rfl⟩ ⟨Nat.le_of_ble_eq_true rfl, Nat.le_of_ble_eq_true rfl⟩ ⟨Nat.le_of_ble_eq_true rfl, Nat.le_of_ble_eq_true rfl⟩ dX11_truncate_15 dX11_truncate_18 dX11_truncate_19 dX11_truncate_21 dX11_truncate_24
    · refine w_aload_n X 0 dX11_truncate_25 rfl rfl 26 rfl ?_
      refine w_getV (v := .ref (ad 2)) X 0 plt_0 ko_0 (T := TX11) (N := 14) rfl in_X11 0 (by decide) kF_X11_12 rfl rfl dX11_truncate_26 29 rfl ?_
      refine w_iload_n X 1 dX11_truncate_29 rfl rfl 30 rfl ?_
      refine w_putI X 2 plt_2 ko_2 (T := TX9) (N := 13) rfl in_X9 tyX9 tyX9_ok nmX9 1 (by decide) kF_X11_90 rfl rfl rfl rfl (Nat.le_of_ble_eq_true rfl) rfl dX11_truncate_30 33 rfl ?_
      refine w_letm hF (fun m_1 hF => ?_)
      refine w_iload_n X 1 dX11_truncate_33 rfl rfl 34 rfl ?_
      exact w_tret X hQ (o_inj hF) rfl ⟨Nat.le_of_ble_eq_true rfl, Nat.le_of_ble_eq_true rfl⟩ dX11_truncate_34

def K_X11_wallAt (fu : Nat) (x1 : Int32) (x2 : Int32) (mem : Mem) : Option TR := bdt (K_X11_checkPlace fu x1 x2 mem) mem (bd (K_X2_wallOn fu 0 x1 x2 mem) (fun x_1 => some (0, x_1, mem)))
def rm_X11_wallAt : Room := { frames := 7, cells := 3, slots := 18, locals := 104 }
set_option maxHeartbeats 4000000 in
set_option maxRecDepth 100000 in
theorem ct_X11_wallAt (l : Launch) (hl : l.stackTraces = false) {D : va_G} {ca ad : Nat → Nat} {Z : (Nat → Prop) → State → Heap → Prop} (hZ : ZOK Z) (hX : ZX Z) {tO : Nat} {sK sV : Nat → Nat} (hO : ZO Z tO sK sV) (fu : Nat) (x1 : Int32) (x2 : Int32) (mem : Mem) (res : TR) (hF : K_X11_wallAt fu x1 x2 mem = some res) : CT l D (tyL ca) 255 ad (cC ca ad) Z yX11_wallAt cX11_wallAt 3 .int rm_X11_wallAt [.ref (ad 0), .int x1, .int x2] mem res := by
  refine start_t (own := RX11) rfl (by decide) (Nat.le_of_ble_eq_true rfl) ?_
  intro p e s m args below meth c Q hQ htb X
  rw [K_X11_wallAt] at hF
  refine w_aload_n X 0 dX11_wallAt_0 rfl rfl 1 rfl ?_
  refine w_iload_n X 1 dX11_wallAt_1 rfl rfl 2 rfl ?_
  refine w_iload_n X 2 dX11_wallAt_2 rfl rfl 3 rfl ?_
  refine w_chk X hZ htb hQ hF [.int x1, .int x2] 0 plt_0 ko_0 rfl rfl rfl kB_X11_checkPlace kL_X11_217 (fun res h => ct_X11_checkPlace l hl hZ hX hO fu x1 x2 mem res h) rfl rfl rfl ⟨Nat.le_of_ble_eq_true rfl, Nat.le_of_ble_eq_true rfl⟩ (Nat.le_of_ble_eq_true rfl) ⟨Nat.le_of_ble_eq_true rfl, Nat.le_of_ble_eq_true rfl⟩ ⟨Nat.le_of_ble_eq_true rfl, Nat.le_of_ble_eq_true rfl⟩ dX11_wallAt_3 6 rfl (fun hF => ?_)
  refine w_aload_n X 0 dX11_wallAt_6 rfl rfl 7 rfl ?_
  refine w_getV (v := .ref (ad (pRace 0))) X 0 plt_0 ko_0 (T := TX11) (N := 14) rfl in_X11 6 (by decide) kF_X11_40 rfl rfl dX11_wallAt_7 10 rfl ?_
  refine w_getV (v := .ref (ad (pBoard 0))) X (pRace 0) (lt_Race (Nat.le_of_ble_eq_true rfl)) ko_Race (T := TX6) (N := 8) rfl in_X6 0 (by decide) kF_X11_143 rfl rfl dX11_wallAt_10 13 rfl ?_
  refine w_iload_n X 1 dX11_wallAt_13 rfl rfl 14 rfl ?_
  refine w_iload_n X 2 dX11_wallAt_14 rfl rfl 15 rfl ?_
  refine w_callVi (fun x => x) (fun _ => mem) X hZ hF [.int x1, .int x2] (pBoard 0) (lt_Board (Nat.le_of_ble_eq_true rfl)) ko_Board rfl rfl rfl kB_X2_wallOn kL_X11_220 (fun res h => ct_X2_wallOn l hZ hO fu (Nat.le_of_ble_eq_true rfl) x1 x2 mem res h) rfl rfl rfl ⟨Nat.le_of_ble_eq_true rfl, Nat.le_of_ble_eq_true rfl⟩ (Nat.le_of_ble_eq_true rfl) ⟨Nat.le_of_ble_eq_true rfl, Nat.le_of_ble_eq_true rfl⟩ dX11_wallAt_15 18 rfl (fun x_1 hF => ?_)
  exact w_tret X hQ (o_inj hF) rfl ⟨Nat.le_of_ble_eq_true rfl, Nat.le_of_ble_eq_true rfl⟩ dX11_wallAt_18

def K_X11_ways (fu : Nat) (x1 : Int32) (mem : Mem) : Option TR := bdt (K_X11_checkPawn fu x1 mem) mem (gi x1 4 (bd (K_X10_countWays fu 1 0 0 (Int32.toNatClampNeg x1) mem) (fun p_2 => some (0, p_2.1, p_2.2))))
def rm_X11_ways : Room := { frames := 7, cells := 3, slots := 18, locals := 103 }
set_option maxHeartbeats 4000000 in
set_option maxRecDepth 100000 in
theorem ct_X11_ways (l : Launch) (hl : l.stackTraces = false) {D : va_G} {ca ad : Nat → Nat} {Z : (Nat → Prop) → State → Heap → Prop} (hZ : ZOK Z) (hX : ZX Z) {tO : Nat} {sK sV : Nat → Nat} (hO : ZO Z tO sK sV) (fu : Nat) (x1 : Int32) (mem : Mem) (res : TR) (hF : K_X11_ways fu x1 mem = some res) : CT l D (tyL ca) 255 ad (cC ca ad) Z yX11_ways cX11_ways 2 .int rm_X11_ways [.ref (ad 0), .int x1] mem res := by
  refine start_t (own := RX11) rfl (by decide) (Nat.le_of_ble_eq_true rfl) ?_
  intro p e s m args below meth c Q hQ htb X
  rw [K_X11_ways] at hF
  refine w_aload_n X 0 dX11_ways_0 rfl rfl 1 rfl ?_
  refine w_iload_n X 1 dX11_ways_1 rfl rfl 2 rfl ?_
  refine w_chk X hZ htb hQ hF [.int x1] 0 plt_0 ko_0 rfl rfl rfl kB_X11_checkPawn kL_X11_169 (fun res h => ct_X11_checkPawn l hl hZ hX hO fu x1 mem res h) rfl rfl rfl ⟨Nat.le_of_ble_eq_true rfl, Nat.le_of_ble_eq_true rfl⟩ (Nat.le_of_ble_eq_true rfl) ⟨Nat.le_of_ble_eq_true rfl, Nat.le_of_ble_eq_true rfl⟩ ⟨Nat.le_of_ble_eq_true rfl, Nat.le_of_ble_eq_true rfl⟩ dX11_ways_2 5 rfl (fun hF => ?_)
  refine w_aload_n X 0 dX11_ways_5 rfl rfl 6 rfl ?_
  refine w_getV (v := .ref (ad (pWays 1))) X 0 plt_0 ko_0 (T := TX11) (N := 14) rfl in_X11 4 (by decide) kF_X11_26 rfl rfl dX11_ways_6 9 rfl ?_
  refine w_aload_n X 0 dX11_ways_9 rfl rfl 10 rfl ?_
  refine w_getV (v := .ref (ad (pRace 0))) X 0 plt_0 ko_0 (T := TX11) (N := 14) rfl in_X11 6 (by decide) kF_X11_40 rfl rfl dX11_ways_10 13 rfl ?_
  refine w_getV (v := .ref (ad (pBoard 0))) X (pRace 0) (lt_Race (Nat.le_of_ble_eq_true rfl)) ko_Race (T := TX6) (N := 8) rfl in_X6 0 (by decide) kF_X11_143 rfl rfl dX11_ways_13 16 rfl ?_
  refine w_aload_n X 0 dX11_ways_16 rfl rfl 17 rfl ?_
  refine w_getV (v := .ref (ad (pRace 0))) X 0 plt_0 ko_0 (T := TX11) (N := 14) rfl in_X11 6 (by decide) kF_X11_40 rfl rfl dX11_ways_17 20 rfl ?_
  refine w_getV (v := .ref (ad (pPawns 0))) X (pRace 0) (lt_Race (Nat.le_of_ble_eq_true rfl)) ko_Race (T := TX6) (N := 8) rfl in_X6 1 (by decide) kF_X11_172 rfl rfl dX11_ways_20 23 rfl ?_
  refine w_iload_n X 1 dX11_ways_23 rfl rfl 24 rfl ?_
  refine w_gi hF (fun h_1 hF => ?_)
  refine w_aal X (pPawns 0) (lt_Pawns (Nat.le_of_ble_eq_true rfl)) (pPawn 0 (Int32.toNatClampNeg x1)) ko_Pawns (t0 := 2) rfl h_1 (el_Pawns (vp_lt h_1)) dX11_ways_24 25 rfl ?_
  refine w_callVi (fun x => x.1) (fun x => x.2) X hZ hF [.ref (ad (pBoard 0)), .ref (ad (pPawn 0 (Int32.toNatClampNeg x1)))] (pWays 1) (lt_Ways (Nat.le_of_ble_eq_true rfl)) (ko_Ways (Nat.le_of_ble_eq_true rfl)) rfl rfl rfl kB_X10_countWays kL_X11_259 (fun res h => ct_X10_countWays l hZ hO fu (Nat.le_of_ble_eq_true rfl) (Nat.le_of_ble_eq_true rfl) (Nat.le_of_ble_eq_true rfl) (vp_lt h_1) mem res h) rfl rfl rfl ⟨Nat.le_of_ble_eq_true rfl, Nat.le_of_ble_eq_true rfl⟩ (Nat.le_of_ble_eq_true rfl) ⟨Nat.le_of_ble_eq_true rfl, Nat.le_of_ble_eq_true rfl⟩ dX11_ways_25 28 rfl (fun p_2 hF => ?_)
  exact w_tret X hQ (o_inj hF) rfl ⟨Nat.le_of_ble_eq_true rfl, Nat.le_of_ble_eq_true rfl⟩ dX11_ways_28

def K_X11_waysWithBans (fu : Nat) (x1 : Int32) (x2 : Int32) (mem : Mem) : Option TR := bdt (K_X11_checkPawn fu x1 mem) mem ((if x2 < 0 then some (1, 0, mem) else (if 200 < x2 then some (1, 0, mem) else bd (K_X1_countWays fu 0 x1 x2 mem) (fun p_1 => some (0, p_1.1, p_1.2)))))
end KT
