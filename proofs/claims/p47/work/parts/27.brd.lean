section BRD
/-- a board alone: the object, its places, its cells -/
def cB (ca ad : Nat → Nat) (k : Nat) (f : Row) : va_E := if k = 0 then .inr (2, [.int (f.1 0), .int (f.1 1), .int (f.1 2), .ref (ad 1), .ref (ad 2)]) else if k = 1 then .inl (ca 0, 64, .inl f.1) else .inl (ca 0, 81, .inl f.1)
theorem kb_0 {ca ad : Nat → Nat} (f : Row) : cB ca ad 0 f = .inr (2, [.int (f.1 0), .int (f.1 1), .int (f.1 2), .ref (ad 1), .ref (ad 2)]) := rfl
theorem kb_1 {ca ad : Nat → Nat} (f : Row) : cB ca ad 1 f = .inl (ca 0, 64, .inl f.1) := rfl
theorem kb_2 {ca ad : Nat → Nat} (f : Row) : cB ca ad 2 f = .inl (ca 0, 81, .inl f.1) := rfl
theorem lt3_0 : 0 < 3 := by decide
theorem lt3_1 : 1 < 3 := by decide
theorem lt3_2 : 2 < 3 := by decide
set_option maxHeartbeats 4000000 in
set_option maxRecDepth 100000 in
theorem ct_B_fill (l : Launch) {D : va_G} {ca ad : Nat → Nat} {Z : (Nat → Prop) → State → Heap → Prop} (hZ : ZOK Z) {tO : Nat} {sK sV : Nat → Nat} (hO : ZO Z tO sK sV) (fu : Nat) {a0 na0 : Nat} (ha0 : a0 < 3) (ka0 : ∀ f : Row, (cB ca ad) a0 f = .inl (ca 0, na0, .inl f.1)) (x1 : Int32) (mem : Mem) (res : Mem) (hF : K_J7_fill_53178 fu a0 na0 x1 mem = some res) : CV l D (tyL ca) 3 ad (cB ca ad) Z yJ7_fill_53178 cJ7_fill_53178 4 rm_J7_fill_53178 [.ref (ad a0), .int x1] mem res := by
  refine start_v (own := RJ7) rfl (by decide) (Nat.le_of_ble_eq_true rfl) ?_
  intro p e s m args below meth c Q hQ X
  rw [K_J7_fill_53178] at hF
  revert hF
  have w_5 : ∀ (n : Nat) (x1 : Int32) (x2 : Int32) (x3 : Int32) (mem : Mem), K_J7_fill_53178_5 fu a0 na0 n x1 x2 x3 mem = some res → WW D 3 ad (cB ca ad) p l e rm_J7_fill_53178 s m args below meth c 4 0 0 Q mem 5 [(0, .ref (ad a0)), (1, .int x1), (2, .int x2), (3, .int x3)] [] := by
    intro n
    induction n with
    | zero => intro x1 x2 x3 mem hF; exact no_none (show (none : Option Mem) = some res from hF)
    | succ n ih =>
      intro x1 x2 x3 mem hF
      rw [K_J7_fill_53178_5] at hF
      refine w_iload_n X 2 dJ7_fill_53178_5 rfl rfl 6 rfl ?_
      refine w_iload_n X 3 dJ7_fill_53178_6 rfl rfl 7 rfl ?_
      refine w_icmp_ge X hF 20 10 dJ7_fill_53178_7 (by decide) rfl (fun hF => ?_) (fun hF => ?_)
      · refine w_aload_n X 0 dJ7_fill_53178_10 rfl rfl 11 rfl ?_
        refine w_iload_n X 2 dJ7_fill_53178_11 rfl rfl 12 rfl ?_
        refine w_iload_n X 1 dJ7_fill_53178_12 rfl rfl 13 rfl ?_
        refine w_gi hF (fun h_2 hF => ?_)
        refine w_ias X a0 ha0 ka0 (t0 := 0) rfl h_2 dJ7_fill_53178_13 14 rfl ?_
        refine w_letm hF (fun m_3 hF => ?_)
        refine w_iinc X 2 (x2 + 1) [(2, .int (x2 + 1)), (0, .ref (ad a0)), (1, .int x1), (3, .int x3)] dJ7_fill_53178_14 rfl rfl (by decide) rfl 17 rfl ?_
        refine w_goto X 5 dJ7_fill_53178_17 (by decide) ?_
        refine w_keep [1, 2, 0, 3] rfl ?_
        exact ih x1 (x2 + 1) x3 m_3 hF
      · exact w_vret X hQ (o_inj hF) dJ7_fill_53178_20
  intro hF
  refine w_iconst X 0 dJ7_fill_53178_0 rfl 1 rfl ?_
  refine w_istore_n X [(2, .int 0), (0, .ref (ad a0)), (1, .int x1)] dJ7_fill_53178_1 rfl (by decide) rfl 2 rfl ?_
  refine w_aload_n X 1 dJ7_fill_53178_2 rfl rfl 3 rfl ?_
  refine w_alen X a0 ha0 (Int32.ofNat na0) (ka0 _) (t0 := 0) rfl rfl dJ7_fill_53178_3 4 rfl ?_
  refine w_let hF (fun x_1 hF => ?_)
  refine w_istore_n X [(3, .int x_1), (2, .int 0), (0, .ref (ad a0)), (1, .int x1)] dJ7_fill_53178_4 rfl (by decide) rfl 5 rfl ?_
  refine w_keep [2, 3, 1, 0] rfl ?_
  exact w_5 fu x1 0 x_1 mem hF

def K_B_hasCell (fu : Nat) (x1 : Int32) (x2 : Int32) (mem : Mem) : Option Int32 := (if x1 < 0 then some 0 else (if x1 < (rd mem 0 0) then (if x2 < 0 then some 0 else (if x2 < (rd mem 0 1) then some 1 else some 0)) else some 0))
set_option maxHeartbeats 4000000 in
set_option maxRecDepth 100000 in
theorem ct_B_hasCell (l : Launch) {D : va_G} {ca ad : Nat → Nat} {Z : (Nat → Prop) → State → Heap → Prop} (hZ : ZOK Z) {tO : Nat} {sK sV : Nat → Nat} (hO : ZO Z tO sK sV) (fu : Nat) (x1 : Int32) (x2 : Int32) (mem : Mem) (res : Int32) (hF : K_B_hasCell fu x1 x2 mem = some res) : CI l D (tyL ca) 3 ad (cB ca ad) Z yX2_hasCell cX2_hasCell 3 .boolean rm_X2_hasCell [.ref (ad 0), .int x1, .int x2] mem res mem := by
  refine start_i (own := RX2) rfl (by decide) (Nat.le_of_ble_eq_true rfl) ?_
  intro p e s m args below meth c Q hQ X
  rw [K_B_hasCell] at hF
  revert hF
  intro hF
  refine w_iload_n X 1 dX2_hasCell_0 rfl rfl 1 rfl ?_
  refine w_if_lt X hF 28 4 dX2_hasCell_1 (by decide) rfl (fun hF => ?_) (fun hF => ?_)
  · refine w_iconst X 0 dX2_hasCell_28 rfl 29 rfl ?_
    exact w_iret X hQ (o_inj hF) rfl rfl dX2_hasCell_29
  · refine w_iload_n X 1 dX2_hasCell_4 rfl rfl 5 rfl ?_
    refine w_aload_n X 0 dX2_hasCell_5 rfl rfl 6 rfl ?_
    refine w_getV (v := .int (rd mem 0 0)) X 0 lt3_0 kb_0 (T := TX2) (N := 5) rfl in_X2 0 (by decide) kF_X2_22 rfl rfl dX2_hasCell_6 9 rfl ?_
    refine w_icmp_ge X hF 28 12 dX2_hasCell_9 (by decide) rfl (fun hF => ?_) (fun hF => ?_)
    · refine w_iload_n X 2 dX2_hasCell_12 rfl rfl 13 rfl ?_
      refine w_if_lt X hF 28 16 dX2_hasCell_13 (by decide) rfl (fun hF => ?_) (fun hF => ?_)
      · refine w_iconst X 0 dX2_hasCell_28 rfl 29 rfl ?_
        exact w_iret X hQ (o_inj hF) rfl rfl dX2_hasCell_29
      · refine w_iload_n X 2 dX2_hasCell_16 rfl rfl 17 rfl ?_
        refine w_aload_n X 0 dX2_hasCell_17 rfl rfl 18 rfl ?_
        refine w_getV (v := .int (rd mem 0 1)) X 0 lt3_0 kb_0 (T := TX2) (N := 5) rfl in_X2 1 (by decide) kF_X2_26 rfl rfl dX2_hasCell_18 21 rfl ?_
        refine w_icmp_ge X hF 28 24 dX2_hasCell_21 (by decide) rfl (fun hF => ?_) (fun hF => ?_)
        · refine w_iconst X 1 dX2_hasCell_24 rfl 25 rfl ?_
          refine w_goto X 29 dX2_hasCell_25 (by decide) ?_
          exact w_iret X hQ (o_inj hF) rfl rfl dX2_hasCell_29
        · refine w_iconst X 0 dX2_hasCell_28 rfl 29 rfl ?_
          exact w_iret X hQ (o_inj hF) rfl rfl dX2_hasCell_29
    · refine w_iconst X 0 dX2_hasCell_28 rfl 29 rfl ?_
      exact w_iret X hQ (o_inj hF) rfl rfl dX2_hasCell_29

def K_B_openWithoutWalls_51 (fu : Nat) (mem : Mem) (x1 : Int32) (xs0 : Int32) (xs1 : Int32) : Option Int32 := (if 0 < x1 then some ((xs1 ||| xs0) ||| 8) else some ((xs1 ||| xs0) ||| 0))
def K_B_openWithoutWalls_41 (fu : Nat) (mem : Mem) (x1 : Int32) (x2 : Int32) (xs0 : Int32) (xs1 : Int32) : Option Int32 := (if 0 < x2 then (K_B_openWithoutWalls_51 fu mem x1 4 (xs1 ||| xs0) ) else (K_B_openWithoutWalls_51 fu mem x1 0 (xs1 ||| xs0) ))
def K_B_openWithoutWalls_26 (fu : Nat) (mem : Mem) (x1 : Int32) (x2 : Int32) (xs0 : Int32) : Option Int32 := (if x1 < ((rd mem 0 0) - 1) then (K_B_openWithoutWalls_41 fu mem x1 x2 2 xs0 ) else (K_B_openWithoutWalls_41 fu mem x1 x2 0 xs0 ))
def K_B_openWithoutWalls (fu : Nat) (x1 : Int32) (x2 : Int32) (mem : Mem) : Option Int32 := bd (K_B_hasCell fu x1 x2 mem) (fun x_1 => (if x_1 = 0 then some 0 else (if x2 < ((rd mem 0 1) - 1) then (K_B_openWithoutWalls_26 fu mem x1 x2 1 ) else (K_B_openWithoutWalls_26 fu mem x1 x2 0 ))))
set_option maxHeartbeats 4000000 in
set_option maxRecDepth 100000 in
theorem ct_B_openWithoutWalls (l : Launch) {D : va_G} {ca ad : Nat → Nat} {Z : (Nat → Prop) → State → Heap → Prop} (hZ : ZOK Z) {tO : Nat} {sK sV : Nat → Nat} (hO : ZO Z tO sK sV) (fu : Nat) (x1 : Int32) (x2 : Int32) (mem : Mem) (res : Int32) (hF : K_B_openWithoutWalls fu x1 x2 mem = some res) : CI l D (tyL ca) 3 ad (cB ca ad) Z yX2_openWithoutWalls cX2_openWithoutWalls 3 .int rm_X2_openWithoutWalls [.ref (ad 0), .int x1, .int x2] mem res mem := by
  refine start_i (own := RX2) rfl (by decide) (Nat.le_of_ble_eq_true rfl) ?_
  intro p e s m args below meth c Q hQ X
  rw [K_B_openWithoutWalls] at hF
  revert hF
  have w_51 : ∀ (x1 : Int32) (xs0 : Int32) (xs1 : Int32), K_B_openWithoutWalls_51 fu mem x1 xs0 xs1 = some res → WW D 3 ad (cB ca ad) p l e rm_X2_openWithoutWalls s m args below meth c 3 0 0 Q mem 51 [(1, .int x1)] [.int xs0, .int xs1] := by
    intro x1 xs0 xs1 hF
    rw [K_B_openWithoutWalls_51] at hF
    refine w_ior X dX2_openWithoutWalls_51 52 rfl ?_
    refine w_iload_n X 0 dX2_openWithoutWalls_52 rfl rfl 53 rfl ?_
    refine w_if_le X hF 61 56 dX2_openWithoutWalls_53 (by decide) rfl (fun hF => ?_) (fun hF => ?_)
    · refine w_bipush X 8 dX2_openWithoutWalls_56 rfl 58 rfl ?_
      refine w_goto X 62 dX2_openWithoutWalls_58 (by decide) ?_
      refine w_ior X dX2_openWithoutWalls_62 63 rfl ?_
      exact w_iret X hQ (o_inj hF) rfl rfl dX2_openWithoutWalls_63
    · refine w_iconst X 0 dX2_openWithoutWalls_61 rfl 62 rfl ?_
      refine w_ior X dX2_openWithoutWalls_62 63 rfl ?_
      exact w_iret X hQ (o_inj hF) rfl rfl dX2_openWithoutWalls_63
  have w_41 : ∀ (x1 : Int32) (x2 : Int32) (xs0 : Int32) (xs1 : Int32), K_B_openWithoutWalls_41 fu mem x1 x2 xs0 xs1 = some res → WW D 3 ad (cB ca ad) p l e rm_X2_openWithoutWalls s m args below meth c 3 0 0 Q mem 41 [(1, .int x1), (2, .int x2)] [.int xs0, .int xs1] := by
    intro x1 x2 xs0 xs1 hF
    rw [K_B_openWithoutWalls_41] at hF
    refine w_ior X dX2_openWithoutWalls_41 42 rfl ?_
    refine w_iload_n X 1 dX2_openWithoutWalls_42 rfl rfl 43 rfl ?_
    refine w_if_le X hF 50 46 dX2_openWithoutWalls_43 (by decide) rfl (fun hF => ?_) (fun hF => ?_)
    · refine w_iconst X 4 dX2_openWithoutWalls_46 rfl 47 rfl ?_
      refine w_goto X 51 dX2_openWithoutWalls_47 (by decide) ?_
      refine w_keep [0] rfl ?_
      exact w_51 x1 4 (xs1 ||| xs0)  hF
    · refine w_iconst X 0 dX2_openWithoutWalls_50 rfl 51 rfl ?_
      refine w_keep [0] rfl ?_
      exact w_51 x1 0 (xs1 ||| xs0)  hF
  have w_26 : ∀ (x1 : Int32) (x2 : Int32) (xs0 : Int32), K_B_openWithoutWalls_26 fu mem x1 x2 xs0 = some res → WW D 3 ad (cB ca ad) p l e rm_X2_openWithoutWalls s m args below meth c 3 0 0 Q mem 26 [(0, .ref (ad 0)), (1, .int x1), (2, .int x2)] [.int xs0] := by
    intro x1 x2 xs0 hF
    rw [K_B_openWithoutWalls_26] at hF
    refine w_iload_n X 1 dX2_openWithoutWalls_26 rfl rfl 27 rfl ?_
    refine w_aload_n X 0 dX2_openWithoutWalls_27 rfl rfl 28 rfl ?_
    refine w_getV (v := .int (rd mem 0 0)) X 0 lt3_0 kb_0 (T := TX2) (N := 5) rfl in_X2 0 (by decide) kF_X2_22 rfl rfl dX2_openWithoutWalls_28 31 rfl ?_
    refine w_iconst X 1 dX2_openWithoutWalls_31 rfl 32 rfl ?_
    refine w_isub X dX2_openWithoutWalls_32 33 rfl ?_
    refine w_icmp_ge X hF 40 36 dX2_openWithoutWalls_33 (by decide) rfl (fun hF => ?_) (fun hF => ?_)
    · refine w_iconst X 2 dX2_openWithoutWalls_36 rfl 37 rfl ?_
      refine w_goto X 41 dX2_openWithoutWalls_37 (by decide) ?_
      refine w_keep [1, 2] rfl ?_
      exact w_41 x1 x2 2 xs0  hF
    · refine w_iconst X 0 dX2_openWithoutWalls_40 rfl 41 rfl ?_
      refine w_keep [1, 2] rfl ?_
      exact w_41 x1 x2 0 xs0  hF
  intro hF
  refine w_aload_n X 0 dX2_openWithoutWalls_0 rfl rfl 1 rfl ?_
  refine w_iload_n X 1 dX2_openWithoutWalls_1 rfl rfl 2 rfl ?_
  refine w_iload_n X 2 dX2_openWithoutWalls_2 rfl rfl 3 rfl ?_
  refine w_callVi (fun x => x) (fun _ => mem) X hZ hF [.int x1, .int x2] 0 lt3_0 kb_0 rfl rfl rfl kB_X2_hasCell kL_X2_42 (fun res h => ct_B_hasCell l hZ hO fu x1 x2 mem res h) rfl rfl rfl ⟨Nat.le_of_ble_eq_true rfl, Nat.le_of_ble_eq_true rfl⟩ (Nat.le_of_ble_eq_true rfl) ⟨Nat.zero_le _, Nat.zero_le _⟩ dX2_openWithoutWalls_3 6 rfl (fun x_1 hF => ?_)
  refine w_if_ne X hF 11 9 dX2_openWithoutWalls_6 (by decide) rfl (fun hF => ?_) (fun hF => ?_)
  · refine w_iconst X 0 dX2_openWithoutWalls_9 rfl 10 rfl ?_
    exact w_iret X hQ (o_inj hF) rfl rfl dX2_openWithoutWalls_10
  · refine w_iload_n X 2 dX2_openWithoutWalls_11 rfl rfl 12 rfl ?_
    refine w_aload_n X 0 dX2_openWithoutWalls_12 rfl rfl 13 rfl ?_
    refine w_getV (v := .int (rd mem 0 1)) X 0 lt3_0 kb_0 (T := TX2) (N := 5) rfl in_X2 1 (by decide) kF_X2_26 rfl rfl dX2_openWithoutWalls_13 16 rfl ?_
    refine w_iconst X 1 dX2_openWithoutWalls_16 rfl 17 rfl ?_
    refine w_isub X dX2_openWithoutWalls_17 18 rfl ?_
    refine w_icmp_ge X hF 25 21 dX2_openWithoutWalls_18 (by decide) rfl (fun hF => ?_) (fun hF => ?_)
    · refine w_iconst X 1 dX2_openWithoutWalls_21 rfl 22 rfl ?_
      refine w_goto X 26 dX2_openWithoutWalls_22 (by decide) ?_
      refine w_keep [0, 1, 2] rfl ?_
      exact w_26 x1 x2 1  hF
    · refine w_iconst X 0 dX2_openWithoutWalls_25 rfl 26 rfl ?_
      refine w_keep [0, 1, 2] rfl ?_
      exact w_26 x1 x2 0  hF

def K_B_clear_25 (fu : Nat) : Nat → Int32 → Mem → Option Mem
  | 0, _, _ => none
  | n + 1, x3, mem => (if x3 < 81 then lt_ (x3 - x3 / 9 * 9) (fun x_5 => lt_ (x3 / 9) (fun x_6 => bd (K_B_openWithoutWalls fu x_5 x_6 mem) (fun x_7 => gi x3 81 (lt_ (mw mem 2 (Int32.toNatClampNeg x3) x_7) (fun m_9 => (K_B_clear_25 fu n (x3 + 1) m_9)))))) else some mem)
def K_B_clear (fu : Nat) (x1 : Int32) (x2 : Int32) (mem : Mem) : Option Mem := lt_ (mw mem 0 0 x1) (fun m_1 => lt_ (mw m_1 0 1 x2) (fun m_2 => lt_ (mw m_2 0 2 0) (fun m_3 => bd (K_J7_fill_53178 fu 1 64 (-1) m_3) (fun m_4 => (K_B_clear_25 fu fu 0 m_4)))))
set_option maxHeartbeats 4000000 in
set_option maxRecDepth 100000 in
theorem ct_B_clear (l : Launch) {D : va_G} {ca ad : Nat → Nat} {Z : (Nat → Prop) → State → Heap → Prop} (hZ : ZOK Z) {tO : Nat} {sK sV : Nat → Nat} (hO : ZO Z tO sK sV) (fu : Nat) (x1 : Int32) (x2 : Int32) (mem : Mem) (res : Mem) (hF : K_B_clear fu x1 x2 mem = some res) : CV l D (tyL ca) 3 ad (cB ca ad) Z yX2_clear cX2_clear 4 rm_X2_clear [.ref (ad 0), .int x1, .int x2] mem res := by
  refine start_v (own := RX2) rfl (by decide) (Nat.le_of_ble_eq_true rfl) ?_
  intro p e s m args below meth c Q hQ X
  rw [K_B_clear] at hF
  revert hF
  have w_25 : ∀ (n : Nat) (x3 : Int32) (mem : Mem), K_B_clear_25 fu n x3 mem = some res → WW D 3 ad (cB ca ad) p l e rm_X2_clear s m args below meth c 4 0 0 Q mem 25 [(0, .ref (ad 0)), (3, .int x3)] [] := by
    intro n
    induction n with
    | zero => intro x3 mem hF; exact no_none (show (none : Option Mem) = some res from hF)
    | succ n ih =>
      intro x3 mem hF
      rw [K_B_clear_25] at hF
      refine w_iload_n X 1 dX2_clear_25 rfl rfl 26 rfl ?_
      refine w_bipush X 81 dX2_clear_26 rfl 28 rfl ?_
      refine w_icmp_ge X hF 55 31 dX2_clear_28 (by decide) rfl (fun hF => ?_) (fun hF => ?_)
      · refine w_aload_n X 0 dX2_clear_31 rfl rfl 32 rfl ?_
        refine w_getV (v := .ref (ad 2)) X 0 lt3_0 kb_0 (T := TX2) (N := 5) rfl in_X2 4 (by decide) kF_X2_15 rfl rfl dX2_clear_32 35 rfl ?_
        refine w_iload_n X 1 dX2_clear_35 rfl rfl 36 rfl ?_
        refine w_aload_n X 0 dX2_clear_36 rfl rfl 37 rfl ?_
        refine w_iload_n X 1 dX2_clear_37 rfl rfl 38 rfl ?_
        refine w_bipush X 9 dX2_clear_38 rfl 40 rfl ?_
        refine w_irem X (by decide) dX2_clear_40 41 rfl ?_
        refine w_let hF (fun x_5 hF => ?_)
        refine w_iload_n X 1 dX2_clear_41 rfl rfl 42 rfl ?_
        refine w_bipush X 9 dX2_clear_42 rfl 44 rfl ?_
        refine w_idiv X (by decide) dX2_clear_44 45 rfl ?_
        refine w_let hF (fun x_6 hF => ?_)
        refine w_callVi (fun x => x) (fun _ => mem) X hZ hF [.int x_5, .int x_6] 0 lt3_0 kb_0 rfl rfl rfl kB_X2_openWithoutWalls kL_X2_38 (fun res h => ct_B_openWithoutWalls l hZ hO fu x_5 x_6 mem res h) rfl rfl rfl ⟨Nat.le_of_ble_eq_true rfl, Nat.le_of_ble_eq_true rfl⟩ (Nat.le_of_ble_eq_true rfl) ⟨Nat.zero_le _, Nat.zero_le _⟩ dX2_clear_45 48 rfl (fun x_7 hF => ?_)
        refine w_gi hF (fun h_8 hF => ?_)
        refine w_ias X 2 lt3_2 kb_2 (t0 := 0) rfl h_8 dX2_clear_48 49 rfl ?_
        refine w_letm hF (fun m_9 hF => ?_)
        refine w_iinc X 1 (x3 + 1) [(3, .int (x3 + 1)), (0, .ref (ad 0))] dX2_clear_49 rfl rfl (by decide) rfl 52 rfl ?_
        refine w_goto X 25 dX2_clear_52 (by decide) ?_
        refine w_keep [1, 0] rfl ?_
        exact ih (x3 + 1) m_9 hF
      · exact w_vret X hQ (o_inj hF) dX2_clear_55
  intro hF
  refine w_aload_n X 0 dX2_clear_0 rfl rfl 1 rfl ?_
  refine w_iload_n X 1 dX2_clear_1 rfl rfl 2 rfl ?_
  refine w_putI X 0 lt3_0 kb_0 (T := TX2) (N := 5) rfl in_X2 tyX2 tyX2_ok nmX2 0 (by decide) kF_X2_22 rfl rfl rfl rfl (Nat.le_of_ble_eq_true rfl) rfl dX2_clear_2 5 rfl ?_
  refine w_letm hF (fun m_1 hF => ?_)
  refine w_aload_n X 0 dX2_clear_5 rfl rfl 6 rfl ?_
  refine w_iload_n X 2 dX2_clear_6 rfl rfl 7 rfl ?_
  refine w_putI X 0 lt3_0 kb_0 (T := TX2) (N := 5) rfl in_X2 tyX2 tyX2_ok nmX2 1 (by decide) kF_X2_26 rfl rfl rfl rfl (Nat.le_of_ble_eq_true rfl) rfl dX2_clear_7 10 rfl ?_
  refine w_letm hF (fun m_2 hF => ?_)
  refine w_aload_n X 0 dX2_clear_10 rfl rfl 11 rfl ?_
  refine w_iconst X 0 dX2_clear_11 rfl 12 rfl ?_
  refine w_putI X 0 lt3_0 kb_0 (T := TX2) (N := 5) rfl in_X2 tyX2 tyX2_ok nmX2 2 (by decide) kF_X2_29 rfl rfl rfl rfl (Nat.le_of_ble_eq_true rfl) rfl dX2_clear_12 15 rfl ?_
  refine w_letm hF (fun m_3 hF => ?_)
  refine w_aload_n X 0 dX2_clear_15 rfl rfl 16 rfl ?_
  refine w_getV (v := .ref (ad 1)) X 0 lt3_0 kb_0 (T := TX2) (N := 5) rfl in_X2 3 (by decide) kF_X2_9 rfl rfl dX2_clear_16 19 rfl ?_
  refine w_iconst X (-1) dX2_clear_19 rfl 20 rfl ?_
  refine w_callSv (fun m => m) X hZ hF [.ref (ad 1), .int (-1)] rfl kB_J7_fill_53178 kL_X2_32 (fun res h => ct_B_fill l hZ hO fu lt3_1 kb_1 (-1) m_3 res h) rfl rfl rfl ⟨Nat.le_of_ble_eq_true rfl, Nat.le_of_ble_eq_true rfl⟩ (Nat.le_of_ble_eq_true rfl) ⟨Nat.zero_le _, Nat.zero_le _⟩ dX2_clear_20 23 rfl (fun m_4 hF => ?_)
  refine w_iconst X 0 dX2_clear_23 rfl 24 rfl ?_
  refine w_istore_n X [(3, .int 0), (0, .ref (ad 0)), (1, .int x1), (2, .int x2)] dX2_clear_24 rfl (by decide) rfl 25 rfl ?_
  refine w_keep [1, 0] rfl ?_
  exact w_25 fu 0 m_4 hF

end BRD
