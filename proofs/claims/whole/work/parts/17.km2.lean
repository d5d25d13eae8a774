section Km2
def K_X12_wayHere_46 (fu : Nat) (x1 : Int32) (mem : Mem) : Option (Int32 × Mem) := bd (K_X12_isGood fu mem) (fun x_5 => (if x_5 = 0 then some (x1, mem) else bd (K_X12_goOn fu mem) (fun m_6 => some (x1, m_6))))
def K_X12_wayHere_29 (fu : Nat) (xs0 : Int32) (mem : Mem) : Option (Int32 × Mem) := bd (K_X12_isGood fu mem) (fun x_3 => (if x_3 = 0 then (K_X12_wayHere_46 fu xs0 mem) else (if xs0 = 0 then bd (K_X12_wrong fu 1 mem) (fun m_4 => (K_X12_wayHere_46 fu xs0 m_4)) else (K_X12_wayHere_46 fu xs0 mem))))
def K_X12_wayHere (fu : Nat) (mem : Mem) : Option (Int32 × Mem) := bd (K_X12_isWord fu 12769452 mem) (fun x_1 => (if x_1 = 0 then bd (K_X12_isWord fu 23104625940 mem) (fun x_2 => (if x_2 = 0 then (K_X12_wayHere_29 fu 0 mem) else (K_X12_wayHere_29 fu 2 mem))) else (K_X12_wayHere_29 fu 1 mem)))
def rm_X12_wayHere : Room := { frames := 2, cells := 0, slots := 0, locals := 43 }
set_option maxHeartbeats 4000000 in
set_option maxRecDepth 100000 in
theorem ct_X12_wayHere (l : Launch) {D : va_G} {ca ad : Nat → Nat} {Z : (Nat → Prop) → State → Heap → Prop} (hZ : ZOK Z) (fu : Nat) (mem : Mem) (res : (Int32 × Mem)) (hF : K_X12_wayHere fu mem = some res) : CI l D (tyL ca) 23 ad (cM ca ad) Z yX12_wayHere cX12_wayHere 2 .int rm_X12_wayHere [.ref (ad 0)] mem res.1 res.2 := by
  refine start_i (own := RX12) rfl (by decide) (Nat.le_of_ble_eq_true rfl) ?_
  intro p e s m args below meth c Q hQ X
  rw [K_X12_wayHere] at hF
  revert hF
  have w_46 : ∀ (x1 : Int32) (mem : Mem), K_X12_wayHere_46 fu x1 mem = some res → WW D 23 ad (cM ca ad) p l e rm_X12_wayHere s m args below meth c 2 0 0 Q mem 46 [(0, .ref (ad 0)), (1, .int x1)] [] := by
    intro x1 mem hF
    rw [K_X12_wayHere_46] at hF
    refine w_aload_n X 0 dX12_wayHere_46 rfl rfl 47 rfl ?_
    refine w_callVi (fun x => x) (fun _ => mem) X hZ hF [] 0 ml_0 mo_0 rfl rfl rfl kB_X12_isGood kL_X12_143 (fun res h => ct_X12_isGood l hZ fu mem res h) rfl rfl rfl ⟨Nat.le_of_ble_eq_true rfl, Nat.le_of_ble_eq_true rfl⟩ (Nat.le_of_ble_eq_true rfl) ⟨Nat.zero_le _, Nat.zero_le _⟩ dX12_wayHere_47 50 rfl (fun x_5 hF => ?_)
    refine w_if_eq X hF 57 53 dX12_wayHere_50 (by decide) rfl (fun hF => ?_) (fun hF => ?_)
    · refine w_iload_n X 1 dX12_wayHere_57 rfl rfl 58 rfl ?_
      exact w_iret X hQ (o_inj1 hF) (o_inj2 hF) rfl dX12_wayHere_58
    · refine w_aload_n X 0 dX12_wayHere_53 rfl rfl 54 rfl ?_
      refine w_callVv (fun m => m) X hZ hF [] 0 ml_0 mo_0 rfl rfl rfl kB_X12_goOn kL_X12_153 (fun res h => ct_X12_goOn l hZ fu mem res h) rfl rfl rfl ⟨Nat.le_of_ble_eq_true rfl, Nat.le_of_ble_eq_true rfl⟩ (Nat.le_of_ble_eq_true rfl) ⟨Nat.zero_le _, Nat.zero_le _⟩ dX12_wayHere_54 57 rfl (fun m_6 hF => ?_)
      refine w_iload_n X 1 dX12_wayHere_57 rfl rfl 58 rfl ?_
      exact w_iret X hQ (o_inj1 hF) (o_inj2 hF) rfl dX12_wayHere_58
  have w_29 : ∀ (xs0 : Int32) (mem : Mem), K_X12_wayHere_29 fu xs0 mem = some res → WW D 23 ad (cM ca ad) p l e rm_X12_wayHere s m args below meth c 2 0 0 Q mem 29 [(0, .ref (ad 0))] [.int xs0] := by
    intro xs0 mem hF
    rw [K_X12_wayHere_29] at hF
    refine w_istore_n X [(1, .int xs0), (0, .ref (ad 0))] dX12_wayHere_29 rfl (by decide) rfl 30 rfl ?_
    refine w_aload_n X 1 dX12_wayHere_30 rfl rfl 31 rfl ?_
    refine w_callVi (fun x => x) (fun _ => mem) X hZ hF [] 0 ml_0 mo_0 rfl rfl rfl kB_X12_isGood kL_X12_143 (fun res h => ct_X12_isGood l hZ fu mem res h) rfl rfl rfl ⟨Nat.le_of_ble_eq_true rfl, Nat.le_of_ble_eq_true rfl⟩ (Nat.le_of_ble_eq_true rfl) ⟨Nat.zero_le _, Nat.zero_le _⟩ dX12_wayHere_31 34 rfl (fun x_3 hF => ?_)
    refine w_if_eq X hF 46 37 dX12_wayHere_34 (by decide) rfl (fun hF => ?_) (fun hF => ?_)
    · refine w_keep [1, 0] rfl ?_
      exact w_46 xs0 mem hF
    · refine w_iload_n X 0 dX12_wayHere_37 rfl rfl 38 rfl ?_
      refine w_if_ne X hF 46 41 dX12_wayHere_38 (by decide) rfl (fun hF => ?_) (fun hF => ?_)
      · refine w_aload_n X 1 dX12_wayHere_41 rfl rfl 42 rfl ?_
        refine w_iconst X 1 dX12_wayHere_42 rfl 43 rfl ?_
        refine w_callVv (fun m => m) X hZ hF [.int 1] 0 ml_0 mo_0 rfl rfl rfl kB_X12_wrong kL_X12_150 (fun res h => ct_X12_wrong l hZ fu 1 mem res h) rfl rfl rfl ⟨Nat.le_of_ble_eq_true rfl, Nat.le_of_ble_eq_true rfl⟩ (Nat.le_of_ble_eq_true rfl) ⟨Nat.zero_le _, Nat.zero_le _⟩ dX12_wayHere_43 46 rfl (fun m_4 hF => ?_)
        refine w_keep [1, 0] rfl ?_
        exact w_46 xs0 m_4 hF
      · refine w_keep [1, 0] rfl ?_
        exact w_46 xs0 mem hF
  intro hF
  refine w_aload_n X 0 dX12_wayHere_0 rfl rfl 1 rfl ?_
  refine w_ldc2 X 12769452 kK_X12_239 dX12_wayHere_1 4 rfl ?_
  refine w_callVi (fun x => x) (fun _ => mem) X hZ hF [.long 12769452] 0 ml_0 mo_0 rfl rfl rfl kB_X12_isWord kL_X12_156 (fun res h => ct_X12_isWord l hZ fu 12769452 mem res h) rfl rfl rfl ⟨Nat.le_of_ble_eq_true rfl, Nat.le_of_ble_eq_true rfl⟩ (Nat.le_of_ble_eq_true rfl) ⟨Nat.zero_le _, Nat.zero_le _⟩ dX12_wayHere_4 7 rfl (fun x_1 hF => ?_)
  refine w_if_eq X hF 14 10 dX12_wayHere_7 (by decide) rfl (fun hF => ?_) (fun hF => ?_)
  · refine w_aload_n X 0 dX12_wayHere_14 rfl rfl 15 rfl ?_
    refine w_ldc2 X 23104625940 kK_X12_241 dX12_wayHere_15 18 rfl ?_
    refine w_callVi (fun x => x) (fun _ => mem) X hZ hF [.long 23104625940] 0 ml_0 mo_0 rfl rfl rfl kB_X12_isWord kL_X12_156 (fun res h => ct_X12_isWord l hZ fu 23104625940 mem res h) rfl rfl rfl ⟨Nat.le_of_ble_eq_true rfl, Nat.le_of_ble_eq_true rfl⟩ (Nat.le_of_ble_eq_true rfl) ⟨Nat.zero_le _, Nat.zero_le _⟩ dX12_wayHere_18 21 rfl (fun x_2 hF => ?_)
    refine w_if_eq X hF 28 24 dX12_wayHere_21 (by decide) rfl (fun hF => ?_) (fun hF => ?_)
    · refine w_iconst X 0 dX12_wayHere_28 rfl 29 rfl ?_
      refine w_keep [0] rfl ?_
      exact w_29 0 mem hF
    · refine w_iconst X 2 dX12_wayHere_24 rfl 25 rfl ?_
      refine w_goto X 29 dX12_wayHere_25 (by decide) ?_
      refine w_keep [0] rfl ?_
      exact w_29 2 mem hF
  · refine w_iconst X 1 dX12_wayHere_10 rfl 11 rfl ?_
    refine w_goto X 29 dX12_wayHere_11 (by decide) ?_
    refine w_keep [0] rfl ?_
    exact w_29 1 mem hF

def K_X12_isSign (fu : Nat) (x1 : Int32) (mem : Mem) : Option Int32 := (if (rd mem 0 8) = 0 then (if (rd mem 0 6) = 3 then (if (rd mem 0 7) = x1 then some 1 else some 0) else some 0) else some 0)
def rm_X12_isSign : Room := { frames := 0, cells := 0, slots := 0, locals := 0 }
set_option maxHeartbeats 4000000 in
set_option maxRecDepth 100000 in
theorem ct_X12_isSign (l : Launch) {D : va_G} {ca ad : Nat → Nat} {Z : (Nat → Prop) → State → Heap → Prop} (hZ : ZOK Z) (fu : Nat) (x1 : Int32) (mem : Mem) (res : Int32) (hF : K_X12_isSign fu x1 mem = some res) : CI l D (tyL ca) 23 ad (cM ca ad) Z yX12_isSign cX12_isSign 2 .boolean rm_X12_isSign [.ref (ad 0), .int x1] mem res mem := by
  refine start_i (own := RX12) rfl (by decide) (Nat.le_of_ble_eq_true rfl) ?_
  intro p e s m args below meth c Q hQ X
  rw [K_X12_isSign] at hF
  revert hF
  intro hF
  refine w_aload_n X 0 dX12_isSign_0 rfl rfl 1 rfl ?_
  refine w_getV (v := .int (rd mem 0 8)) X 0 ml_0 mo_0 (T := TX12) (N := 50) rfl in_X12 8 (by decide) kF_X12_140 rfl rfl dX12_isSign_1 4 rfl ?_
  refine w_if_ne X hF 27 7 dX12_isSign_4 (by decide) rfl (fun hF => ?_) (fun hF => ?_)
  · refine w_aload_n X 0 dX12_isSign_7 rfl rfl 8 rfl ?_
    refine w_getV (v := .int (rd mem 0 6)) X 0 ml_0 mo_0 (T := TX12) (N := 50) rfl in_X12 6 (by decide) kF_X12_130 rfl rfl dX12_isSign_8 11 rfl ?_
    refine w_iconst X 3 dX12_isSign_11 rfl 12 rfl ?_
    refine w_icmp_ne X hF 27 15 dX12_isSign_12 (by decide) rfl (fun hF => ?_) (fun hF => ?_)
    · refine w_aload_n X 0 dX12_isSign_15 rfl rfl 16 rfl ?_
      refine w_getV (v := .int (rd mem 0 7)) X 0 ml_0 mo_0 (T := TX12) (N := 50) rfl in_X12 7 (by decide) kF_X12_127 rfl rfl dX12_isSign_16 19 rfl ?_
      refine w_iload_n X 1 dX12_isSign_19 rfl rfl 20 rfl ?_
      refine w_icmp_ne X hF 27 23 dX12_isSign_20 (by decide) rfl (fun hF => ?_) (fun hF => ?_)
      · refine w_iconst X 1 dX12_isSign_23 rfl 24 rfl ?_
        refine w_goto X 28 dX12_isSign_24 (by decide) ?_
        exact w_iret X hQ (o_inj hF) rfl rfl dX12_isSign_28
      · refine w_iconst X 0 dX12_isSign_27 rfl 28 rfl ?_
        exact w_iret X hQ (o_inj hF) rfl rfl dX12_isSign_28
    · refine w_iconst X 0 dX12_isSign_27 rfl 28 rfl ?_
      exact w_iret X hQ (o_inj hF) rfl rfl dX12_isSign_28
  · refine w_iconst X 0 dX12_isSign_27 rfl 28 rfl ?_
    exact w_iret X hQ (o_inj hF) rfl rfl dX12_isSign_28

def K_X12_mustSign_20 (fu : Nat) (mem : Mem) : Option Mem := bd (K_X12_isGood fu mem) (fun x_4 => (if x_4 = 0 then some mem else bd (K_X12_goOn fu mem) (fun m_5 => some m_5)))
def K_X12_mustSign (fu : Nat) (x1 : Int32) (mem : Mem) : Option Mem := bd (K_X12_isGood fu mem) (fun x_1 => (if x_1 = 0 then (K_X12_mustSign_20 fu mem) else bd (K_X12_isSign fu x1 mem) (fun x_2 => (if x_2 = 0 then bd (K_X12_wrong fu 1 mem) (fun m_3 => (K_X12_mustSign_20 fu m_3)) else (K_X12_mustSign_20 fu mem)))))
def rm_X12_mustSign : Room := { frames := 2, cells := 0, slots := 0, locals := 43 }
set_option maxHeartbeats 4000000 in
set_option maxRecDepth 100000 in
theorem ct_X12_mustSign (l : Launch) {D : va_G} {ca ad : Nat → Nat} {Z : (Nat → Prop) → State → Heap → Prop} (hZ : ZOK Z) (fu : Nat) (x1 : Int32) (mem : Mem) (res : Mem) (hF : K_X12_mustSign fu x1 mem = some res) : CV l D (tyL ca) 23 ad (cM ca ad) Z yX12_mustSign cX12_mustSign 2 rm_X12_mustSign [.ref (ad 0), .int x1] mem res := by
  refine start_v (own := RX12) rfl (by decide) (Nat.le_of_ble_eq_true rfl) ?_
  intro p e s m args below meth c Q hQ X
  rw [K_X12_mustSign] at hF
  revert hF
  have w_20 : ∀ (mem : Mem), K_X12_mustSign_20 fu mem = some res → WW D 23 ad (cM ca ad) p l e rm_X12_mustSign s m args below meth c 2 0 0 Q mem 20 [(0, .ref (ad 0))] [] := by
    intro mem hF
    rw [K_X12_mustSign_20] at hF
    refine w_aload_n X 0 dX12_mustSign_20 rfl rfl 21 rfl ?_
    refine w_callVi (fun x => x) (fun _ => mem) X hZ hF [] 0 ml_0 mo_0 rfl rfl rfl kB_X12_isGood kL_X12_143 (fun res h => ct_X12_isGood l hZ fu mem res h) rfl rfl rfl ⟨Nat.le_of_ble_eq_true rfl, Nat.le_of_ble_eq_true rfl⟩ (Nat.le_of_ble_eq_true rfl) ⟨Nat.zero_le _, Nat.zero_le _⟩ dX12_mustSign_21 24 rfl (fun x_4 hF => ?_)
    refine w_if_eq X hF 31 27 dX12_mustSign_24 (by decide) rfl (fun hF => ?_) (fun hF => ?_)
    · exact w_vret X hQ (o_inj hF) dX12_mustSign_31
    · refine w_aload_n X 0 dX12_mustSign_27 rfl rfl 28 rfl ?_
      refine w_callVv (fun m => m) X hZ hF [] 0 ml_0 mo_0 rfl rfl rfl kB_X12_goOn kL_X12_153 (fun res h => ct_X12_goOn l hZ fu mem res h) rfl rfl rfl ⟨Nat.le_of_ble_eq_true rfl, Nat.le_of_ble_eq_true rfl⟩ (Nat.le_of_ble_eq_true rfl) ⟨Nat.zero_le _, Nat.zero_le _⟩ dX12_mustSign_28 31 rfl (fun m_5 hF => ?_)
      exact w_vret X hQ (o_inj hF) dX12_mustSign_31
  intro hF
  refine w_aload_n X 0 dX12_mustSign_0 rfl rfl 1 rfl ?_
  refine w_callVi (fun x => x) (fun _ => mem) X hZ hF [] 0 ml_0 mo_0 rfl rfl rfl kB_X12_isGood kL_X12_143 (fun res h => ct_X12_isGood l hZ fu mem res h) rfl rfl rfl ⟨Nat.le_of_ble_eq_true rfl, Nat.le_of_ble_eq_true rfl⟩ (Nat.le_of_ble_eq_true rfl) ⟨Nat.zero_le _, Nat.zero_le _⟩ dX12_mustSign_1 4 rfl (fun x_1 hF => ?_)
  refine w_if_eq X hF 20 7 dX12_mustSign_4 (by decide) rfl (fun hF => ?_) (fun hF => ?_)
  · refine w_keep [0] rfl ?_
    exact w_20 mem hF
  · refine w_aload_n X 0 dX12_mustSign_7 rfl rfl 8 rfl ?_
    refine w_iload_n X 1 dX12_mustSign_8 rfl rfl 9 rfl ?_
    refine w_callVi (fun x => x) (fun _ => mem) X hZ hF [.int x1] 0 ml_0 mo_0 rfl rfl rfl kB_X12_isSign kL_X12_147 (fun res h => ct_X12_isSign l hZ fu x1 mem res h) rfl rfl rfl ⟨Nat.le_of_ble_eq_true rfl, Nat.le_of_ble_eq_true rfl⟩ (Nat.le_of_ble_eq_true rfl) ⟨Nat.zero_le _, Nat.zero_le _⟩ dX12_mustSign_9 12 rfl (fun x_2 hF => ?_)
    refine w_if_ne X hF 20 15 dX12_mustSign_12 (by decide) rfl (fun hF => ?_) (fun hF => ?_)
    · refine w_aload_n X 0 dX12_mustSign_15 rfl rfl 16 rfl ?_
      refine w_iconst X 1 dX12_mustSign_16 rfl 17 rfl ?_
      refine w_callVv (fun m => m) X hZ hF [.int 1] 0 ml_0 mo_0 rfl rfl rfl kB_X12_wrong kL_X12_150 (fun res h => ct_X12_wrong l hZ fu 1 mem res h) rfl rfl rfl ⟨Nat.le_of_ble_eq_true rfl, Nat.le_of_ble_eq_true rfl⟩ (Nat.le_of_ble_eq_true rfl) ⟨Nat.zero_le _, Nat.zero_le _⟩ dX12_mustSign_17 20 rfl (fun m_3 hF => ?_)
      refine w_keep [0] rfl ?_
      exact w_20 m_3 hF
    · refine w_keep [0] rfl ?_
      exact w_20 mem hF

def K_X12_command_219 (fu : Nat) (xs0 : Int32) (xs1 : Int32) (mem : Mem) : Option Mem := bd (K_X12_truth fu xs0 mem) (fun x_29 => lt_ (mw mem 0 45 (xs1 + x_29)) (fun m_30 => some m_30))
def K_X12_command_186 (fu : Nat) (x1 : Int32) (mem : Mem) : Option Mem := bd (K_X12_isGood fu mem) (fun x_27 => (if x_27 = 0 then some mem else lt_ (mw mem 0 43 ((rd mem 0 43) + 1)) (fun m_28 => (if x1 = 4 then (K_X12_command_219 fu 1 (rd m_28 0 45) m_28) else (K_X12_command_219 fu 0 (rd m_28 0 45) m_28)))))
def K_X12_command_175 (fu : Nat) (x1 : Int32) (mem : Mem) : Option Mem := (if x1 = 4 then bd (K_X12_mustSign fu 40 mem) (fun m_26 => (K_X12_command_186 fu x1 m_26)) else (K_X12_command_186 fu x1 mem))
def K_X12_command_157 (fu : Nat) (x1 : Int32) (x2 : Int32) (mem : Mem) : Option Mem := (if x1 = 4 then bd (K_X12_number fu 1 20 mem) (fun p_23 => gi x2 60 (lt_ (mw p_23.2 17 (Int32.toNatClampNeg x2) p_23.1) (fun m_25 => (K_X12_command_175 fu x1 m_25)))) else (K_X12_command_175 fu x1 mem))
def K_X12_command_142 (fu : Nat) (x1 : Int32) (x2 : Int32) (mem : Mem) : Option Mem := (if x1 = 1 then bd (K_X12_wayHere fu mem) (fun p_20 => gi x2 60 (lt_ (mw p_20.2 19 (Int32.toNatClampNeg x2) p_20.1) (fun m_22 => (K_X12_command_157 fu x1 x2 m_22)))) else (K_X12_command_157 fu x1 x2 mem))
def K_X12_command_129 (fu : Nat) (x1 : Int32) (x2 : Int32) (mem : Mem) : Option Mem := bd (K_X12_number fu 0 99 mem) (fun p_17 => gi x2 60 (lt_ (mw p_17.2 18 (Int32.toNatClampNeg x2) p_17.1) (fun m_19 => (K_X12_command_142 fu x1 x2 m_19))))
def K_X12_command_119 (fu : Nat) (x1 : Int32) (x2 : Int32) (mem : Mem) : Option Mem := (if x1 = 1 then (K_X12_command_129 fu x1 x2 mem) else (if x1 = 3 then (K_X12_command_129 fu x1 x2 mem) else (K_X12_command_142 fu x1 x2 mem)))
def K_X12_command_106 (fu : Nat) (x1 : Int32) (x2 : Int32) (mem : Mem) : Option Mem := bd (K_X12_number fu 0 99 mem) (fun p_14 => gi x2 60 (lt_ (mw p_14.2 17 (Int32.toNatClampNeg x2) p_14.1) (fun m_16 => (K_X12_command_119 fu x1 x2 m_16))))
def K_X12_command_96 (fu : Nat) (x1 : Int32) (x2 : Int32) (mem : Mem) : Option Mem := (if x1 = 1 then (K_X12_command_106 fu x1 x2 mem) else (if x1 = 3 then (K_X12_command_106 fu x1 x2 mem) else (K_X12_command_119 fu x1 x2 mem)))
def K_X12_command_48 (fu : Nat) (x1 : Int32) (mem : Mem) : Option Mem := bd (K_X12_isGood fu mem) (fun x_5 => (if x_5 = 0 then some mem else lt_ (mw mem 0 44 ((rd mem 0 44) + 1)) (fun m_6 => bd (K_X12_goOn fu m_6) (fun m_7 => lt_ (rd m_7 0 43) (fun x_8 => gi x_8 60 (lt_ (mw m_7 16 (Int32.toNatClampNeg x_8) x1) (fun m_10 => (if x1 = 0 then bd (K_X12_sideTold fu m_10) (fun p_11 => gi x_8 60 (lt_ (mw p_11.2 17 (Int32.toNatClampNeg x_8) p_11.1) (fun m_13 => (K_X12_command_96 fu x1 x_8 m_13)))) else (K_X12_command_96 fu x1 x_8 m_10)))))))))
def K_X12_command_33 (fu : Nat) (x1 : Int32) (mem : Mem) : Option Mem := (if (rd mem 0 44) = 30 then bd (K_X12_wrong fu 6 mem) (fun m_4 => (K_X12_command_48 fu x1 m_4)) else (K_X12_command_48 fu x1 mem))
def K_X12_command_15 (fu : Nat) (x1 : Int32) (mem : Mem) : Option Mem := (if x1 = 4 then (if (rd mem 0 45) = 2 then bd (K_X12_wrong fu 3 mem) (fun m_3 => (K_X12_command_33 fu x1 m_3)) else (K_X12_command_33 fu x1 mem)) else (K_X12_command_33 fu x1 mem))
def K_X12_command (fu : Nat) (mem : Mem) : Option Mem := bd (K_X12_commandHere fu mem) (fun x_1 => (if x_1 = (-1) then bd (K_X12_wrong fu 1 mem) (fun m_2 => (K_X12_command_15 fu x_1 m_2)) else (K_X12_command_15 fu x_1 mem)))
def rm_X12_command : Room := { frames := 3, cells := 0, slots := 0, locals := 70 }
set_option maxHeartbeats 4000000 in
set_option maxRecDepth 100000 in
theorem ct_X12_command (l : Launch) {D : va_G} {ca ad : Nat → Nat} {Z : (Nat → Prop) → State → Heap → Prop} (hZ : ZOK Z) (fu : Nat) (mem : Mem) (res : Mem) (hF : K_X12_command fu mem = some res) : CV l D (tyL ca) 23 ad (cM ca ad) Z yX12_command cX12_command 3 rm_X12_command [.ref (ad 0)] mem res := by
  refine start_v (own := RX12) rfl (by decide) (Nat.le_of_ble_eq_true rfl) ?_
  intro p e s m args below meth c Q hQ X
  rw [K_X12_command] at hF
  revert hF
  have w_219 : ∀ (xs0 : Int32) (xs1 : Int32) (mem : Mem), K_X12_command_219 fu xs0 xs1 mem = some res → WW D 23 ad (cM ca ad) p l e rm_X12_command s m args below meth c 3 0 0 Q mem 219 [] [.int xs0, .int xs1, .ref (ad 0)] := by
    intro xs0 xs1 mem hF
    rw [K_X12_command_219] at hF
    refine w_callSi (fun x => x) (fun _ => mem) X hZ hF [.int xs0] rfl kB_X12_truth kL_X12_91 (fun res h => ct_X12_truth l hZ fu xs0 mem res h) rfl rfl rfl ⟨Nat.le_of_ble_eq_true rfl, Nat.le_of_ble_eq_true rfl⟩ (Nat.le_of_ble_eq_true rfl) ⟨Nat.zero_le _, Nat.zero_le _⟩ dX12_command_219 222 rfl (fun x_29 hF => ?_)
    refine w_iadd X dX12_command_222 223 rfl ?_
    refine w_putI X 0 ml_0 mo_0 (T := TX12) (N := 50) rfl in_X12 tyX12 tyX12_ok nmX12 45 (by decide) kF_X12_488 rfl rfl rfl rfl (Nat.le_of_ble_eq_true rfl) rfl dX12_command_223 226 rfl ?_
    refine w_letm hF (fun m_30 hF => ?_)
    exact w_vret X hQ (o_inj hF) dX12_command_226
  have w_186 : ∀ (x1 : Int32) (mem : Mem), K_X12_command_186 fu x1 mem = some res → WW D 23 ad (cM ca ad) p l e rm_X12_command s m args below meth c 3 0 0 Q mem 186 [(0, .ref (ad 0)), (1, .int x1)] [] := by
    intro x1 mem hF
    rw [K_X12_command_186] at hF
    refine w_aload_n X 0 dX12_command_186 rfl rfl 187 rfl ?_
    refine w_callVi (fun x => x) (fun _ => mem) X hZ hF [] 0 ml_0 mo_0 rfl rfl rfl kB_X12_isGood kL_X12_143 (fun res h => ct_X12_isGood l hZ fu mem res h) rfl rfl rfl ⟨Nat.le_of_ble_eq_true rfl, Nat.le_of_ble_eq_true rfl⟩ (Nat.le_of_ble_eq_true rfl) ⟨Nat.zero_le _, Nat.zero_le _⟩ dX12_command_187 190 rfl (fun x_27 hF => ?_)
    refine w_if_ne X hF 194 193 dX12_command_190 (by decide) rfl (fun hF => ?_) (fun hF => ?_)
    · exact w_vret X hQ (o_inj hF) dX12_command_193
    · refine w_aload_n X 0 dX12_command_194 rfl rfl 195 rfl ?_
      refine w_dup X dX12_command_195 rfl 196 rfl ?_
      refine w_getV (v := .int (rd mem 0 43)) X 0 ml_0 mo_0 (T := TX12) (N := 50) rfl in_X12 43 (by decide) kF_X12_494 rfl rfl dX12_command_196 199 rfl ?_
      refine w_iconst X 1 dX12_command_199 rfl 200 rfl ?_
      refine w_iadd X dX12_command_200 201 rfl ?_
      refine w_putI X 0 ml_0 mo_0 (T := TX12) (N := 50) rfl in_X12 tyX12 tyX12_ok nmX12 43 (by decide) kF_X12_494 rfl rfl rfl rfl (Nat.le_of_ble_eq_true rfl) rfl dX12_command_201 204 rfl ?_
      refine w_letm hF (fun m_28 hF => ?_)
      refine w_aload_n X 0 dX12_command_204 rfl rfl 205 rfl ?_
      refine w_dup X dX12_command_205 rfl 206 rfl ?_
      refine w_getV (v := .int (rd m_28 0 45)) X 0 ml_0 mo_0 (T := TX12) (N := 50) rfl in_X12 45 (by decide) kF_X12_488 rfl rfl dX12_command_206 209 rfl ?_
      refine w_iload_n X 1 dX12_command_209 rfl rfl 210 rfl ?_
      refine w_iconst X 4 dX12_command_210 rfl 211 rfl ?_
      refine w_icmp_ne X hF 218 214 dX12_command_211 (by decide) rfl (fun hF => ?_) (fun hF => ?_)
      · refine w_iconst X 1 dX12_command_214 rfl 215 rfl ?_
        refine w_goto X 219 dX12_command_215 (by decide) ?_
        refine w_keep [] rfl ?_
        exact w_219 1 (rd m_28 0 45) m_28 hF
      · refine w_iconst X 0 dX12_command_218 rfl 219 rfl ?_
        refine w_keep [] rfl ?_
        exact w_219 0 (rd m_28 0 45) m_28 hF
  have w_175 : ∀ (x1 : Int32) (mem : Mem), K_X12_command_175 fu x1 mem = some res → WW D 23 ad (cM ca ad) p l e rm_X12_command s m args below meth c 3 0 0 Q mem 175 [(0, .ref (ad 0)), (1, .int x1)] [] := by
    intro x1 mem hF
    rw [K_X12_command_175] at hF
    refine w_iload_n X 1 dX12_command_175 rfl rfl 176 rfl ?_
    refine w_iconst X 4 dX12_command_176 rfl 177 rfl ?_
    refine w_icmp_ne X hF 186 180 dX12_command_177 (by decide) rfl (fun hF => ?_) (fun hF => ?_)
    · refine w_aload_n X 0 dX12_command_180 rfl rfl 181 rfl ?_
      refine w_bipush X 40 dX12_command_181 rfl 183 rfl ?_
      refine w_callVv (fun m => m) X hZ hF [.int 40] 0 ml_0 mo_0 rfl rfl rfl kB_X12_mustSign kL_X12_319 (fun res h => ct_X12_mustSign l hZ fu 40 mem res h) rfl rfl rfl ⟨Nat.le_of_ble_eq_true rfl, Nat.le_of_ble_eq_true rfl⟩ (Nat.le_of_ble_eq_true rfl) ⟨Nat.zero_le _, Nat.zero_le _⟩ dX12_command_183 186 rfl (fun m_26 hF => ?_)
      refine w_keep [0, 1] rfl ?_
      exact w_186 x1 m_26 hF
    · refine w_keep [0, 1] rfl ?_
      exact w_186 x1 mem hF
  have w_157 : ∀ (x1 : Int32) (x2 : Int32) (mem : Mem), K_X12_command_157 fu x1 x2 mem = some res → WW D 23 ad (cM ca ad) p l e rm_X12_command s m args below meth c 3 0 0 Q mem 157 [(0, .ref (ad 0)), (1, .int x1), (2, .int x2)] [] := by
    intro x1 x2 mem hF
    rw [K_X12_command_157] at hF
    refine w_iload_n X 1 dX12_command_157 rfl rfl 158 rfl ?_
    refine w_iconst X 4 dX12_command_158 rfl 159 rfl ?_
    refine w_icmp_ne X hF 175 162 dX12_command_159 (by decide) rfl (fun hF => ?_) (fun hF => ?_)
    · refine w_aload_n X 0 dX12_command_162 rfl rfl 163 rfl ?_
      refine w_getV (v := .ref (ad 17)) X 0 ml_0 mo_0 (T := TX12) (N := 50) rfl in_X12 38 (by decide) kF_X12_67 rfl rfl dX12_command_163 166 rfl ?_
      refine w_iload_n X 2 dX12_command_166 rfl rfl 167 rfl ?_
      refine w_aload_n X 0 dX12_command_167 rfl rfl 168 rfl ?_
      refine w_iconst X 1 dX12_command_168 rfl 169 rfl ?_
      refine w_bipush X 20 dX12_command_169 rfl 171 rfl ?_
      refine w_callVi (fun x => x.1) (fun x => x.2) X hZ hF [.int 1, .int 20] 0 ml_0 mo_0 rfl rfl rfl kB_X12_number kL_X12_246 (fun res h => ct_X12_number l hZ fu 1 20 mem res h) rfl rfl rfl ⟨Nat.le_of_ble_eq_true rfl, Nat.le_of_ble_eq_true rfl⟩ (Nat.le_of_ble_eq_true rfl) ⟨Nat.zero_le _, Nat.zero_le _⟩ dX12_command_171 174 rfl (fun p_23 hF => ?_)
      refine w_gi hF (fun h_24 hF => ?_)
      refine w_ias X 17 ml_17 mo_17 (t0 := 0) rfl h_24 dX12_command_174 175 rfl ?_
      refine w_letm hF (fun m_25 hF => ?_)
      refine w_keep [0, 1] rfl ?_
      exact w_175 x1 m_25 hF
    · refine w_keep [0, 1] rfl ?_
      exact w_175 x1 mem hF
  have w_142 : ∀ (x1 : Int32) (x2 : Int32) (mem : Mem), K_X12_command_142 fu x1 x2 mem = some res → WW D 23 ad (cM ca ad) p l e rm_X12_command s m args below meth c 3 0 0 Q mem 142 [(0, .ref (ad 0)), (1, .int x1), (2, .int x2)] [] := by
    intro x1 x2 mem hF
    rw [K_X12_command_142] at hF
    refine w_iload_n X 1 dX12_command_142 rfl rfl 143 rfl ?_
    refine w_iconst X 1 dX12_command_143 rfl 144 rfl ?_
    refine w_icmp_ne X hF 157 147 dX12_command_144 (by decide) rfl (fun hF => ?_) (fun hF => ?_)
    · refine w_aload_n X 0 dX12_command_147 rfl rfl 148 rfl ?_
      refine w_getV (v := .ref (ad 19)) X 0 ml_0 mo_0 (T := TX12) (N := 50) rfl in_X12 40 (by decide) kF_X12_73 rfl rfl dX12_command_148 151 rfl ?_
      refine w_iload_n X 2 dX12_command_151 rfl rfl 152 rfl ?_
      refine w_aload_n X 0 dX12_command_152 rfl rfl 153 rfl ?_
      refine w_callVi (fun x => x.1) (fun x => x.2) X hZ hF [] 0 ml_0 mo_0 rfl rfl rfl kB_X12_wayHere kL_X12_290 (fun res h => ct_X12_wayHere l hZ fu mem res h) rfl rfl rfl ⟨Nat.le_of_ble_eq_true rfl, Nat.le_of_ble_eq_true rfl⟩ (Nat.le_of_ble_eq_true rfl) ⟨Nat.zero_le _, Nat.zero_le _⟩ dX12_command_153 156 rfl (fun p_20 hF => ?_)
      refine w_gi hF (fun h_21 hF => ?_)
      refine w_ias X 19 ml_19 mo_19 (t0 := 0) rfl h_21 dX12_command_156 157 rfl ?_
      refine w_letm hF (fun m_22 hF => ?_)
      refine w_keep [0, 1, 2] rfl ?_
      exact w_157 x1 x2 m_22 hF
    · refine w_keep [0, 1, 2] rfl ?_
      exact w_157 x1 x2 mem hF
  have w_129 : ∀ (x1 : Int32) (x2 : Int32) (mem : Mem), K_X12_command_129 fu x1 x2 mem = some res → WW D 23 ad (cM ca ad) p l e rm_X12_command s m args below meth c 3 0 0 Q mem 129 [(0, .ref (ad 0)), (1, .int x1), (2, .int x2)] [] := by
    intro x1 x2 mem hF
    rw [K_X12_command_129] at hF
    refine w_aload_n X 0 dX12_command_129 rfl rfl 130 rfl ?_
    refine w_getV (v := .ref (ad 18)) X 0 ml_0 mo_0 (T := TX12) (N := 50) rfl in_X12 39 (by decide) kF_X12_70 rfl rfl dX12_command_130 133 rfl ?_
    refine w_iload_n X 2 dX12_command_133 rfl rfl 134 rfl ?_
    refine w_aload_n X 0 dX12_command_134 rfl rfl 135 rfl ?_
    refine w_iconst X 0 dX12_command_135 rfl 136 rfl ?_
    refine w_bipush X 99 dX12_command_136 rfl 138 rfl ?_
    refine w_callVi (fun x => x.1) (fun x => x.2) X hZ hF [.int 0, .int 99] 0 ml_0 mo_0 rfl rfl rfl kB_X12_number kL_X12_246 (fun res h => ct_X12_number l hZ fu 0 99 mem res h) rfl rfl rfl ⟨Nat.le_of_ble_eq_true rfl, Nat.le_of_ble_eq_true rfl⟩ (Nat.le_of_ble_eq_true rfl) ⟨Nat.zero_le _, Nat.zero_le _⟩ dX12_command_138 141 rfl (fun p_17 hF => ?_)
    refine w_gi hF (fun h_18 hF => ?_)
    refine w_ias X 18 ml_18 mo_18 (t0 := 0) rfl h_18 dX12_command_141 142 rfl ?_
    refine w_letm hF (fun m_19 hF => ?_)
    refine w_keep [0, 1, 2] rfl ?_
    exact w_142 x1 x2 m_19 hF
  have w_119 : ∀ (x1 : Int32) (x2 : Int32) (mem : Mem), K_X12_command_119 fu x1 x2 mem = some res → WW D 23 ad (cM ca ad) p l e rm_X12_command s m args below meth c 3 0 0 Q mem 119 [(0, .ref (ad 0)), (1, .int x1), (2, .int x2)] [] := by
    intro x1 x2 mem hF
    rw [K_X12_command_119] at hF
    refine w_iload_n X 1 dX12_command_119 rfl rfl 120 rfl ?_
    refine w_iconst X 1 dX12_command_120 rfl 121 rfl ?_
    refine w_icmp_eq X hF 129 124 dX12_command_121 (by decide) rfl (fun hF => ?_) (fun hF => ?_)
    · refine w_keep [0, 1, 2] rfl ?_
      exact w_129 x1 x2 mem hF
    · refine w_iload_n X 1 dX12_command_124 rfl rfl 125 rfl ?_
      refine w_iconst X 3 dX12_command_125 rfl 126 rfl ?_
      refine w_icmp_ne X hF 142 129 dX12_command_126 (by decide) rfl (fun hF => ?_) (fun hF => ?_)
      · refine w_keep [0, 1, 2] rfl ?_
        exact w_129 x1 x2 mem hF
      · refine w_keep [0, 1, 2] rfl ?_
        exact w_142 x1 x2 mem hF
  have w_106 : ∀ (x1 : Int32) (x2 : Int32) (mem : Mem), K_X12_command_106 fu x1 x2 mem = some res → WW D 23 ad (cM ca ad) p l e rm_X12_command s m args below meth c 3 0 0 Q mem 106 [(0, .ref (ad 0)), (1, .int x1), (2, .int x2)] [] := by
    intro x1 x2 mem hF
    rw [K_X12_command_106] at hF
    refine w_aload_n X 0 dX12_command_106 rfl rfl 107 rfl ?_
    refine w_getV (v := .ref (ad 17)) X 0 ml_0 mo_0 (T := TX12) (N := 50) rfl in_X12 38 (by decide) kF_X12_67 rfl rfl dX12_command_107 110 rfl ?_
    refine w_iload_n X 2 dX12_command_110 rfl rfl 111 rfl ?_
    refine w_aload_n X 0 dX12_command_111 rfl rfl 112 rfl ?_
    refine w_iconst X 0 dX12_command_112 rfl 113 rfl ?_
    refine w_bipush X 99 dX12_command_113 rfl 115 rfl ?_
    refine w_callVi (fun x => x.1) (fun x => x.2) X hZ hF [.int 0, .int 99] 0 ml_0 mo_0 rfl rfl rfl kB_X12_number kL_X12_246 (fun res h => ct_X12_number l hZ fu 0 99 mem res h) rfl rfl rfl ⟨Nat.le_of_ble_eq_true rfl, Nat.le_of_ble_eq_true rfl⟩ (Nat.le_of_ble_eq_true rfl) ⟨Nat.zero_le _, Nat.zero_le _⟩ dX12_command_115 118 rfl (fun p_14 hF => ?_)
    refine w_gi hF (fun h_15 hF => ?_)
    refine w_ias X 17 ml_17 mo_17 (t0 := 0) rfl h_15 dX12_command_118 119 rfl ?_
    refine w_letm hF (fun m_16 hF => ?_)
    refine w_keep [0, 1, 2] rfl ?_
    exact w_119 x1 x2 m_16 hF
  have w_96 : ∀ (x1 : Int32) (x2 : Int32) (mem : Mem), K_X12_command_96 fu x1 x2 mem = some res → WW D 23 ad (cM ca ad) p l e rm_X12_command s m args below meth c 3 0 0 Q mem 96 [(0, .ref (ad 0)), (1, .int x1), (2, .int x2)] [] := by
    intro x1 x2 mem hF
    rw [K_X12_command_96] at hF
    refine w_iload_n X 1 dX12_command_96 rfl rfl 97 rfl ?_
    refine w_iconst X 1 dX12_command_97 rfl 98 rfl ?_
    refine w_icmp_eq X hF 106 101 dX12_command_98 (by decide) rfl (fun hF => ?_) (fun hF => ?_)
    · refine w_keep [0, 1, 2] rfl ?_
      exact w_106 x1 x2 mem hF
    · refine w_iload_n X 1 dX12_command_101 rfl rfl 102 rfl ?_
      refine w_iconst X 3 dX12_command_102 rfl 103 rfl ?_
      refine w_icmp_ne X hF 119 106 dX12_command_103 (by decide) rfl (fun hF => ?_) (fun hF => ?_)
      · refine w_keep [0, 1, 2] rfl ?_
        exact w_106 x1 x2 mem hF
      · refine w_keep [0, 1, 2] rfl ?_
        exact w_119 x1 x2 mem hF
  have w_48 : ∀ (x1 : Int32) (mem : Mem), K_X12_command_48 fu x1 mem = some res → WW D 23 ad (cM ca ad) p l e rm_X12_command s m args below meth c 3 0 0 Q mem 48 [(0, .ref (ad 0)), (1, .int x1)] [] := by
    intro x1 mem hF
    rw [K_X12_command_48] at hF
    refine w_aload_n X 0 dX12_command_48 rfl rfl 49 rfl ?_
    refine w_callVi (fun x => x) (fun _ => mem) X hZ hF [] 0 ml_0 mo_0 rfl rfl rfl kB_X12_isGood kL_X12_143 (fun res h => ct_X12_isGood l hZ fu mem res h) rfl rfl rfl ⟨Nat.le_of_ble_eq_true rfl, Nat.le_of_ble_eq_true rfl⟩ (Nat.le_of_ble_eq_true rfl) ⟨Nat.zero_le _, Nat.zero_le _⟩ dX12_command_49 52 rfl (fun x_5 hF => ?_)
    refine w_if_ne X hF 56 55 dX12_command_52 (by decide) rfl (fun hF => ?_) (fun hF => ?_)
    · exact w_vret X hQ (o_inj hF) dX12_command_55
    · refine w_aload_n X 0 dX12_command_56 rfl rfl 57 rfl ?_
      refine w_dup X dX12_command_57 rfl 58 rfl ?_
      refine w_getV (v := .int (rd mem 0 44)) X 0 ml_0 mo_0 (T := TX12) (N := 50) rfl in_X12 44 (by decide) kF_X12_491 rfl rfl dX12_command_58 61 rfl ?_
      refine w_iconst X 1 dX12_command_61 rfl 62 rfl ?_
      refine w_iadd X dX12_command_62 63 rfl ?_
      refine w_putI X 0 ml_0 mo_0 (T := TX12) (N := 50) rfl in_X12 tyX12 tyX12_ok nmX12 44 (by decide) kF_X12_491 rfl rfl rfl rfl (Nat.le_of_ble_eq_true rfl) rfl dX12_command_63 66 rfl ?_
      refine w_letm hF (fun m_6 hF => ?_)
      refine w_aload_n X 0 dX12_command_66 rfl rfl 67 rfl ?_
      refine w_callVv (fun m => m) X hZ hF [] 0 ml_0 mo_0 rfl rfl rfl kB_X12_goOn kL_X12_153 (fun res h => ct_X12_goOn l hZ fu m_6 res h) rfl rfl rfl ⟨Nat.le_of_ble_eq_true rfl, Nat.le_of_ble_eq_true rfl⟩ (Nat.le_of_ble_eq_true rfl) ⟨Nat.zero_le _, Nat.zero_le _⟩ dX12_command_67 70 rfl (fun m_7 hF => ?_)
      refine w_aload_n X 0 dX12_command_70 rfl rfl 71 rfl ?_
      refine w_getV (v := .int (rd m_7 0 43)) X 0 ml_0 mo_0 (T := TX12) (N := 50) rfl in_X12 43 (by decide) kF_X12_494 rfl rfl dX12_command_71 74 rfl ?_
      refine w_let hF (fun x_8 hF => ?_)
      refine w_istore_n X [(2, .int x_8), (0, .ref (ad 0)), (1, .int x1)] dX12_command_74 rfl (by decide) rfl 75 rfl ?_
      refine w_aload_n X 1 dX12_command_75 rfl rfl 76 rfl ?_
      refine w_getV (v := .ref (ad 16)) X 0 ml_0 mo_0 (T := TX12) (N := 50) rfl in_X12 37 (by decide) kF_X12_64 rfl rfl dX12_command_76 79 rfl ?_
      refine w_iload_n X 0 dX12_command_79 rfl rfl 80 rfl ?_
      refine w_iload_n X 2 dX12_command_80 rfl rfl 81 rfl ?_
      refine w_gi hF (fun h_9 hF => ?_)
      refine w_ias X 16 ml_16 mo_16 (t0 := 0) rfl h_9 dX12_command_81 82 rfl ?_
      refine w_letm hF (fun m_10 hF => ?_)
      refine w_iload_n X 2 dX12_command_82 rfl rfl 83 rfl ?_
      refine w_if_ne X hF 96 86 dX12_command_83 (by decide) rfl (fun hF => ?_) (fun hF => ?_)
      · refine w_aload_n X 1 dX12_command_86 rfl rfl 87 rfl ?_
        refine w_getV (v := .ref (ad 17)) X 0 ml_0 mo_0 (T := TX12) (N := 50) rfl in_X12 38 (by decide) kF_X12_67 rfl rfl dX12_command_87 90 rfl ?_
        refine w_iload_n X 0 dX12_command_90 rfl rfl 91 rfl ?_
        refine w_aload_n X 1 dX12_command_91 rfl rfl 92 rfl ?_
        refine w_callVi (fun x => x.1) (fun x => x.2) X hZ hF [] 0 ml_0 mo_0 rfl rfl rfl kB_X12_sideTold kL_X12_497 (fun res h => ct_X12_sideTold l hZ fu m_10 res h) rfl rfl rfl ⟨Nat.le_of_ble_eq_true rfl, Nat.le_of_ble_eq_true rfl⟩ (Nat.le_of_ble_eq_true rfl) ⟨Nat.zero_le _, Nat.zero_le _⟩ dX12_command_92 95 rfl (fun p_11 hF => ?_)
        refine w_gi hF (fun h_12 hF => ?_)
        refine w_ias X 17 ml_17 mo_17 (t0 := 0) rfl h_12 dX12_command_95 96 rfl ?_
        refine w_letm hF (fun m_13 hF => ?_)
        refine w_keep [1, 2, 0] rfl ?_
        exact w_96 x1 x_8 m_13 hF
      · refine w_keep [1, 2, 0] rfl ?_
        exact w_96 x1 x_8 m_10 hF
  have w_33 : ∀ (x1 : Int32) (mem : Mem), K_X12_command_33 fu x1 mem = some res → WW D 23 ad (cM ca ad) p l e rm_X12_command s m args below meth c 3 0 0 Q mem 33 [(0, .ref (ad 0)), (1, .int x1)] [] := by
    intro x1 mem hF
    rw [K_X12_command_33] at hF
    refine w_aload_n X 0 dX12_command_33 rfl rfl 34 rfl ?_
    refine w_getV (v := .int (rd mem 0 44)) X 0 ml_0 mo_0 (T := TX12) (N := 50) rfl in_X12 44 (by decide) kF_X12_491 rfl rfl dX12_command_34 37 rfl ?_
    refine w_bipush X 30 dX12_command_37 rfl 39 rfl ?_
    refine w_icmp_ne X hF 48 42 dX12_command_39 (by decide) rfl (fun hF => ?_) (fun hF => ?_)
    · refine w_aload_n X 0 dX12_command_42 rfl rfl 43 rfl ?_
      refine w_bipush X 6 dX12_command_43 rfl 45 rfl ?_
      refine w_callVv (fun m => m) X hZ hF [.int 6] 0 ml_0 mo_0 rfl rfl rfl kB_X12_wrong kL_X12_150 (fun res h => ct_X12_wrong l hZ fu 6 mem res h) rfl rfl rfl ⟨Nat.le_of_ble_eq_true rfl, Nat.le_of_ble_eq_true rfl⟩ (Nat.le_of_ble_eq_true rfl) ⟨Nat.zero_le _, Nat.zero_le _⟩ dX12_command_45 48 rfl (fun m_4 hF => ?_)
      refine w_keep [0, 1] rfl ?_
      exact w_48 x1 m_4 hF
    · refine w_keep [0, 1] rfl ?_
      exact w_48 x1 mem hF
  have w_15 : ∀ (x1 : Int32) (mem : Mem), K_X12_command_15 fu x1 mem = some res → WW D 23 ad (cM ca ad) p l e rm_X12_command s m args below meth c 3 0 0 Q mem 15 [(0, .ref (ad 0)), (1, .int x1)] [] := by
    intro x1 mem hF
    rw [K_X12_command_15] at hF
    refine w_iload_n X 1 dX12_command_15 rfl rfl 16 rfl ?_
    refine w_iconst X 4 dX12_command_16 rfl 17 rfl ?_
    refine w_icmp_ne X hF 33 20 dX12_command_17 (by decide) rfl (fun hF => ?_) (fun hF => ?_)
    · refine w_aload_n X 0 dX12_command_20 rfl rfl 21 rfl ?_
      refine w_getV (v := .int (rd mem 0 45)) X 0 ml_0 mo_0 (T := TX12) (N := 50) rfl in_X12 45 (by decide) kF_X12_488 rfl rfl dX12_command_21 24 rfl ?_
      refine w_iconst X 2 dX12_command_24 rfl 25 rfl ?_
      refine w_icmp_ne X hF 33 28 dX12_command_25 (by decide) rfl (fun hF => ?_) (fun hF => ?_)
      · refine w_aload_n X 0 dX12_command_28 rfl rfl 29 rfl ?_
        refine w_iconst X 3 dX12_command_29 rfl 30 rfl ?_
        refine w_callVv (fun m => m) X hZ hF [.int 3] 0 ml_0 mo_0 rfl rfl rfl kB_X12_wrong kL_X12_150 (fun res h => ct_X12_wrong l hZ fu 3 mem res h) rfl rfl rfl ⟨Nat.le_of_ble_eq_true rfl, Nat.le_of_ble_eq_true rfl⟩ (Nat.le_of_ble_eq_true rfl) ⟨Nat.zero_le _, Nat.zero_le _⟩ dX12_command_30 33 rfl (fun m_3 hF => ?_)
        refine w_keep [0, 1] rfl ?_
        exact w_33 x1 m_3 hF
      · refine w_keep [0, 1] rfl ?_
        exact w_33 x1 mem hF
    · refine w_keep [0, 1] rfl ?_
      exact w_33 x1 mem hF
  intro hF
  refine w_aload_n X 0 dX12_command_0 rfl rfl 1 rfl ?_
  refine w_callVi (fun x => x) (fun _ => mem) X hZ hF [] 0 ml_0 mo_0 rfl rfl rfl kB_X12_commandHere kL_X12_485 (fun res h => ct_X12_commandHere l hZ fu mem res h) rfl rfl rfl ⟨Nat.le_of_ble_eq_true rfl, Nat.le_of_ble_eq_true rfl⟩ (Nat.le_of_ble_eq_true rfl) ⟨Nat.zero_le _, Nat.zero_le _⟩ dX12_command_1 4 rfl (fun x_1 hF => ?_)
  refine w_istore_n X [(1, .int x_1), (0, .ref (ad 0))] dX12_command_4 rfl (by decide) rfl 5 rfl ?_
  refine w_iload_n X 0 dX12_command_5 rfl rfl 6 rfl ?_
  refine w_iconst X (-1) dX12_command_6 rfl 7 rfl ?_
  refine w_icmp_ne X hF 15 10 dX12_command_7 (by decide) rfl (fun hF => ?_) (fun hF => ?_)
  · refine w_aload_n X 1 dX12_command_10 rfl rfl 11 rfl ?_
    refine w_iconst X 1 dX12_command_11 rfl 12 rfl ?_
    refine w_callVv (fun m => m) X hZ hF [.int 1] 0 ml_0 mo_0 rfl rfl rfl kB_X12_wrong kL_X12_150 (fun res h => ct_X12_wrong l hZ fu 1 mem res h) rfl rfl rfl ⟨Nat.le_of_ble_eq_true rfl, Nat.le_of_ble_eq_true rfl⟩ (Nat.le_of_ble_eq_true rfl) ⟨Nat.zero_le _, Nat.zero_le _⟩ dX12_command_12 15 rfl (fun m_2 hF => ?_)
    refine w_keep [1, 0] rfl ?_
    exact w_15 x_1 m_2 hF
  · refine w_keep [1, 0] rfl ?_
    exact w_15 x_1 mem hF

def K_X12_walksOn_33 (fu : Nat) (x1 : Int32) (x2 : Int32) (x3 : Int32) (x4 : Int32) (x5 : Int32) (x6 : Int32) (x7 : Int32) (xs0 : Int32) (mem : Mem) : Option Mem := bd (K_X12_blocks fu x6 x7 x4 mem) (fun x_6 => (if x_6 = 0 then bd (K_X12_isForbidden fu x6 x7 xs0 x3 x4 mem) (fun x_7 => (if x_7 = 0 then bd (K_X12_across fu x4 mem) (fun x_8 => bd (K_X12_up fu x4 mem) (fun x_9 => bd (K_X12_of fu x1 2 mem) (fun x_10 => bd (K_X12_isAtSide fu (x6 + x_8) (x7 + x_9) x_10 mem) (fun x_11 => (if x_11 = 0 then bd (K_X12_up fu x4 mem) (fun x_12 => bd (K_X12_across fu x4 mem) (fun x_13 => lt_ ((5 * ((x5 + (9 * x_12)) + x_13)) + x4) (fun x_14 => gi x_14 405 (lt_ (mw mem 15 (Int32.toNatClampNeg x_14) (vp_nar .boolean 1)) (fun m_16 => gi x_14 405 (gi x2 405 (lt_ (((rd m_16 13 (Int32.toNatClampNeg x_14)) + (rd m_16 12 (Int32.toNatClampNeg x2))) - ((rd m_16 13 (Int32.toNatClampNeg x_14)) + (rd m_16 12 (Int32.toNatClampNeg x2))) / 1000003 * 1000003) (fun x_20 => gi x_14 405 (lt_ (mw m_16 13 (Int32.toNatClampNeg x_14) x_20) (fun m_22 => some m_22)))))))))) else lt_ (mw mem 0 35 1) (fun m_23 => gi x2 405 (lt_ (((rd m_23 0 34) + (rd m_23 12 (Int32.toNatClampNeg x2))) - ((rd m_23 0 34) + (rd m_23 12 (Int32.toNatClampNeg x2))) / 1000003 * 1000003) (fun x_26 => lt_ (mw m_23 0 34 x_26) (fun m_27 => some m_27))))))))) else some mem)) else some mem))
def K_X12_walksOn (fu : Nat) (x1 : Int32) (x2 : Int32) (x3 : Int32) (x4 : Int32) (mem : Mem) : Option Mem := lt_ (x2 / 5) (fun x_1 => lt_ (x_1 - x_1 / 9 * 9) (fun x_2 => lt_ (x_1 / 9) (fun x_3 => lt_ (x2 - x2 / 5 * 5) (fun x_4 => (if x_4 = 4 then (K_X12_walksOn_33 fu x1 x2 x3 x4 x_1 x_2 x_3 (-1) mem) else lt_ (x2 - x2 / 5 * 5) (fun x_5 => (K_X12_walksOn_33 fu x1 x2 x3 x4 x_1 x_2 x_3 x_5 mem)))))))
def rm_X12_walksOn : Room := { frames := 4, cells := 0, slots := 0, locals := 96 }
set_option maxHeartbeats 4000000 in
set_option maxRecDepth 100000 in
theorem ct_X12_walksOn (l : Launch) {D : va_G} {ca ad : Nat → Nat} {Z : (Nat → Prop) → State → Heap → Prop} (hZ : ZOK Z) (fu : Nat) (x1 : Int32) (x2 : Int32) (x3 : Int32) (x4 : Int32) (mem : Mem) (res : Mem) (hF : K_X12_walksOn fu x1 x2 x3 x4 mem = some res) : CV l D (tyL ca) 23 ad (cM ca ad) Z yX12_walksOn cX12_walksOn 10 rm_X12_walksOn [.ref (ad 0), .int x1, .int x2, .int x3, .int x4] mem res := by
  refine start_v (own := RX12) rfl (by decide) (Nat.le_of_ble_eq_true rfl) ?_
  intro p e s m args below meth c Q hQ X
  rw [K_X12_walksOn] at hF
  revert hF
  have w_33 : ∀ (x1 : Int32) (x2 : Int32) (x3 : Int32) (x4 : Int32) (x5 : Int32) (x6 : Int32) (x7 : Int32) (xs0 : Int32) (mem : Mem), K_X12_walksOn_33 fu x1 x2 x3 x4 x5 x6 x7 xs0 mem = some res → WW D 23 ad (cM ca ad) p l e rm_X12_walksOn s m args below meth c 10 0 0 Q mem 33 [(0, .ref (ad 0)), (1, .int x1), (2, .int x2), (3, .int x3), (4, .int x4), (5, .int x5), (6, .int x6), (7, .int x7)] [.int xs0] := by
    intro x1 x2 x3 x4 x5 x6 x7 xs0 mem hF
    rw [K_X12_walksOn_33] at hF
    refine w_istore X [(8, .int xs0), (0, .ref (ad 0)), (1, .int x1), (2, .int x2), (3, .int x3), (4, .int x4), (5, .int x5), (6, .int x6), (7, .int x7)] dX12_walksOn_33 (by decide) rfl 35 rfl ?_
    refine w_aload_n X 1 dX12_walksOn_35 rfl rfl 36 rfl ?_
    refine w_iload X 7 dX12_walksOn_36 rfl 38 rfl ?_
    refine w_iload X 8 dX12_walksOn_38 rfl 40 rfl ?_
    refine w_iload X 5 dX12_walksOn_40 rfl 42 rfl ?_
    refine w_callVi (fun x => x) (fun _ => mem) X hZ hF [.int x6, .int x7, .int x4] 0 ml_0 mo_0 rfl rfl rfl kB_X12_blocks kL_X12_210 (fun res h => ct_X12_blocks l hZ fu x6 x7 x4 mem res h) rfl rfl rfl ⟨Nat.le_of_ble_eq_true rfl, Nat.le_of_ble_eq_true rfl⟩ (Nat.le_of_ble_eq_true rfl) ⟨Nat.zero_le _, Nat.zero_le _⟩ dX12_walksOn_42 45 rfl (fun x_6 hF => ?_)
    refine w_if_ne X hF 64 48 dX12_walksOn_45 (by decide) rfl (fun hF => ?_) (fun hF => ?_)
    · refine w_aload_n X 1 dX12_walksOn_48 rfl rfl 49 rfl ?_
      refine w_iload X 7 dX12_walksOn_49 rfl 51 rfl ?_
      refine w_iload X 8 dX12_walksOn_51 rfl 53 rfl ?_
      refine w_iload X 0 dX12_walksOn_53 rfl 55 rfl ?_
      refine w_iload_n X 4 dX12_walksOn_55 rfl rfl 56 rfl ?_
      refine w_iload X 5 dX12_walksOn_56 rfl 58 rfl ?_
      refine w_callVi (fun x => x) (fun _ => mem) X hZ hF [.int x6, .int x7, .int xs0, .int x3, .int x4] 0 ml_0 mo_0 rfl rfl rfl kB_X12_isForbidden kL_X12_372 (fun res h => ct_X12_isForbidden l hZ fu x6 x7 xs0 x3 x4 mem res h) rfl rfl rfl ⟨Nat.le_of_ble_eq_true rfl, Nat.le_of_ble_eq_true rfl⟩ (Nat.le_of_ble_eq_true rfl) ⟨Nat.zero_le _, Nat.zero_le _⟩ dX12_walksOn_58 61 rfl (fun x_7 hF => ?_)
      refine w_if_eq X hF 65 64 dX12_walksOn_61 (by decide) rfl (fun hF => ?_) (fun hF => ?_)
      · refine w_aload_n X 1 dX12_walksOn_65 rfl rfl 66 rfl ?_
        refine w_iload X 7 dX12_walksOn_66 rfl 68 rfl ?_
        refine w_iload X 5 dX12_walksOn_68 rfl 70 rfl ?_
        refine w_callSi (fun x => x) (fun _ => mem) X hZ hF [.int x4] rfl kB_X12_across kL_X12_181 (fun res h => ct_X12_across l hZ fu x4 mem res h) rfl rfl rfl ⟨Nat.le_of_ble_eq_true rfl, Nat.le_of_ble_eq_true rfl⟩ (Nat.le_of_ble_eq_true rfl) ⟨Nat.zero_le _, Nat.zero_le _⟩ dX12_walksOn_70 73 rfl (fun x_8 hF => ?_)
        refine w_iadd X dX12_walksOn_73 74 rfl ?_
        refine w_iload X 8 dX12_walksOn_74 rfl 76 rfl ?_
        refine w_iload X 5 dX12_walksOn_76 rfl 78 rfl ?_
        refine w_callSi (fun x => x) (fun _ => mem) X hZ hF [.int x4] rfl kB_X12_up kL_X12_184 (fun res h => ct_X12_up l hZ fu x4 mem res h) rfl rfl rfl ⟨Nat.le_of_ble_eq_true rfl, Nat.le_of_ble_eq_true rfl⟩ (Nat.le_of_ble_eq_true rfl) ⟨Nat.zero_le _, Nat.zero_le _⟩ dX12_walksOn_78 81 rfl (fun x_9 hF => ?_)
        refine w_iadd X dX12_walksOn_81 82 rfl ?_
        refine w_aload_n X 1 dX12_walksOn_82 rfl rfl 83 rfl ?_
        refine w_iload_n X 2 dX12_walksOn_83 rfl rfl 84 rfl ?_
        refine w_iconst X 2 dX12_walksOn_84 rfl 85 rfl ?_
        refine w_callVi (fun x => x) (fun _ => mem) X hZ hF [.int x1, .int 2] 0 ml_0 mo_0 rfl rfl rfl kB_X12_of kL_X12_174 (fun res h => ct_X12_of l hZ fu x1 2 mem res h) rfl rfl rfl ⟨Nat.le_of_ble_eq_true rfl, Nat.le_of_ble_eq_true rfl⟩ (Nat.le_of_ble_eq_true rfl) ⟨Nat.zero_le _, Nat.zero_le _⟩ dX12_walksOn_85 88 rfl (fun x_10 hF => ?_)
        refine w_callVi (fun x => x) (fun _ => mem) X hZ hF [.int (x6 + x_8), .int (x7 + x_9), .int x_10] 0 ml_0 mo_0 rfl rfl rfl kB_X12_isAtSide kL_X12_199 (fun res h => ct_X12_isAtSide l hZ fu (x6 + x_8) (x7 + x_9) x_10 mem res h) rfl rfl rfl ⟨Nat.le_of_ble_eq_true rfl, Nat.le_of_ble_eq_true rfl⟩ (Nat.le_of_ble_eq_true rfl) ⟨Nat.zero_le _, Nat.zero_le _⟩ dX12_walksOn_88 91 rfl (fun x_11 hF => ?_)
        refine w_if_eq X hF 119 94 dX12_walksOn_91 (by decide) rfl (fun hF => ?_) (fun hF => ?_)
        · refine w_iconst X 5 dX12_walksOn_119 rfl 120 rfl ?_
          refine w_iload X 6 dX12_walksOn_120 rfl 122 rfl ?_
          refine w_bipush X 9 dX12_walksOn_122 rfl 124 rfl ?_
          refine w_iload X 5 dX12_walksOn_124 rfl 126 rfl ?_
          refine w_callSi (fun x => x) (fun _ => mem) X hZ hF [.int x4] rfl kB_X12_up kL_X12_184 (fun res h => ct_X12_up l hZ fu x4 mem res h) rfl rfl rfl ⟨Nat.le_of_ble_eq_true rfl, Nat.le_of_ble_eq_true rfl⟩ (Nat.le_of_ble_eq_true rfl) ⟨Nat.zero_le _, Nat.zero_le _⟩ dX12_walksOn_126 129 rfl (fun x_12 hF => ?_)
          refine w_imul X dX12_walksOn_129 130 rfl ?_
          refine w_iadd X dX12_walksOn_130 131 rfl ?_
          refine w_iload X 5 dX12_walksOn_131 rfl 133 rfl ?_
          refine w_callSi (fun x => x) (fun _ => mem) X hZ hF [.int x4] rfl kB_X12_across kL_X12_181 (fun res h => ct_X12_across l hZ fu x4 mem res h) rfl rfl rfl ⟨Nat.le_of_ble_eq_true rfl, Nat.le_of_ble_eq_true rfl⟩ (Nat.le_of_ble_eq_true rfl) ⟨Nat.zero_le _, Nat.zero_le _⟩ dX12_walksOn_133 136 rfl (fun x_13 hF => ?_)
          refine w_iadd X dX12_walksOn_136 137 rfl ?_
          refine w_imul X dX12_walksOn_137 138 rfl ?_
          refine w_iload X 5 dX12_walksOn_138 rfl 140 rfl ?_
          refine w_iadd X dX12_walksOn_140 141 rfl ?_
          refine w_let hF (fun x_14 hF => ?_)
          refine w_istore X [(9, .int x_14), (8, .int xs0), (0, .ref (ad 0)), (1, .int x1), (2, .int x2), (3, .int x3), (4, .int x4), (5, .int x5), (6, .int x6), (7, .int x7)] dX12_walksOn_141 (by decide) rfl 143 rfl ?_
          refine w_aload_n X 2 dX12_walksOn_143 rfl rfl 144 rfl ?_
          refine w_getV (v := .ref (ad 15)) X 0 ml_0 mo_0 (T := TX12) (N := 50) rfl in_X12 33 (by decide) kF_X12_61 rfl rfl dX12_walksOn_144 147 rfl ?_
          refine w_iload X 0 dX12_walksOn_147 rfl 149 rfl ?_
          refine w_iconst X 1 dX12_walksOn_149 rfl 150 rfl ?_
          refine w_gi hF (fun h_15 hF => ?_)
          refine w_zas X 15 ml_15 mo_15 (t0 := 6) rfl h_15 dX12_walksOn_150 151 rfl ?_
          refine w_letm hF (fun m_16 hF => ?_)
          refine w_aload_n X 2 dX12_walksOn_151 rfl rfl 152 rfl ?_
          refine w_getV (v := .ref (ad 13)) X 0 ml_0 mo_0 (T := TX12) (N := 50) rfl in_X12 31 (by decide) kF_X12_55 rfl rfl dX12_walksOn_152 155 rfl ?_
          refine w_iload X 0 dX12_walksOn_155 rfl 157 rfl ?_
          refine w_aload_n X 2 dX12_walksOn_157 rfl rfl 158 rfl ?_
          refine w_getV (v := .ref (ad 13)) X 0 ml_0 mo_0 (T := TX12) (N := 50) rfl in_X12 31 (by decide) kF_X12_55 rfl rfl dX12_walksOn_158 161 rfl ?_
          refine w_iload X 0 dX12_walksOn_161 rfl 163 rfl ?_
          refine w_gi hF (fun h_17 hF => ?_)
          refine w_ial X 13 ml_13 mo_13 (t0 := 0) rfl h_17 dX12_walksOn_163 164 rfl ?_
          refine w_aload_n X 2 dX12_walksOn_164 rfl rfl 165 rfl ?_
          refine w_getV (v := .ref (ad 12)) X 0 ml_0 mo_0 (T := TX12) (N := 50) rfl in_X12 30 (by decide) kF_X12_52 rfl rfl dX12_walksOn_165 168 rfl ?_
          refine w_iload_n X 4 dX12_walksOn_168 rfl rfl 169 rfl ?_
          refine w_gi hF (fun h_18 hF => ?_)
          refine w_ial X 12 ml_12 mo_12 (t0 := 0) rfl h_18 dX12_walksOn_169 170 rfl ?_
          refine w_iadd X dX12_walksOn_170 171 rfl ?_
          refine w_ldcw X 1000003 kK_X12_388 dX12_walksOn_171 174 rfl ?_
          refine w_irem X (by decide) dX12_walksOn_174 175 rfl ?_
          refine w_let hF (fun x_20 hF => ?_)
          refine w_gi hF (fun h_21 hF => ?_)
          refine w_ias X 13 ml_13 mo_13 (t0 := 0) rfl h_21 dX12_walksOn_175 176 rfl ?_
          refine w_letm hF (fun m_22 hF => ?_)
          exact w_vret X hQ (o_inj hF) dX12_walksOn_176
        · refine w_aload_n X 1 dX12_walksOn_94 rfl rfl 95 rfl ?_
          refine w_iconst X 1 dX12_walksOn_95 rfl 96 rfl ?_
          refine w_putI X 0 ml_0 mo_0 (T := TX12) (N := 50) rfl in_X12 tyX12 tyX12_ok nmX12 35 (by decide) kF_X12_398 rfl rfl rfl rfl (Nat.le_of_ble_eq_true rfl) rfl dX12_walksOn_96 99 rfl ?_
          refine w_letm hF (fun m_23 hF => ?_)
          refine w_aload_n X 1 dX12_walksOn_99 rfl rfl 100 rfl ?_
          refine w_aload_n X 1 dX12_walksOn_100 rfl rfl 101 rfl ?_
          refine w_getV (v := .int (rd m_23 0 34)) X 0 ml_0 mo_0 (T := TX12) (N := 50) rfl in_X12 34 (by decide) kF_X12_395 rfl rfl dX12_walksOn_101 104 rfl ?_
          refine w_aload_n X 1 dX12_walksOn_104 rfl rfl 105 rfl ?_
          refine w_getV (v := .ref (ad 12)) X 0 ml_0 mo_0 (T := TX12) (N := 50) rfl in_X12 30 (by decide) kF_X12_52 rfl rfl dX12_walksOn_105 108 rfl ?_
          refine w_iload_n X 3 dX12_walksOn_108 rfl rfl 109 rfl ?_
          refine w_gi hF (fun h_24 hF => ?_)
          refine w_ial X 12 ml_12 mo_12 (t0 := 0) rfl h_24 dX12_walksOn_109 110 rfl ?_
          refine w_iadd X dX12_walksOn_110 111 rfl ?_
          refine w_ldcw X 1000003 kK_X12_388 dX12_walksOn_111 114 rfl ?_
          refine w_irem X (by decide) dX12_walksOn_114 115 rfl ?_
          refine w_let hF (fun x_26 hF => ?_)
          refine w_putI X 0 ml_0 mo_0 (T := TX12) (N := 50) rfl in_X12 tyX12 tyX12_ok nmX12 34 (by decide) kF_X12_395 rfl rfl rfl rfl (Nat.le_of_ble_eq_true rfl) rfl dX12_walksOn_115 118 rfl ?_
          refine w_letm hF (fun m_27 hF => ?_)
          exact w_vret X hQ (o_inj hF) dX12_walksOn_118
      · exact w_vret X hQ (o_inj hF) dX12_walksOn_64
    · exact w_vret X hQ (o_inj hF) dX12_walksOn_64
  intro hF
  refine w_iload_n X 2 dX12_walksOn_0 rfl rfl 1 rfl ?_
  refine w_iconst X 5 dX12_walksOn_1 rfl 2 rfl ?_
  refine w_idiv X (by decide) dX12_walksOn_2 3 rfl ?_
  refine w_let hF (fun x_1 hF => ?_)
  refine w_istore X [(5, .int x_1), (0, .ref (ad 0)), (1, .int x1), (2, .int x2), (3, .int x3), (4, .int x4)] dX12_walksOn_3 (by decide) rfl 5 rfl ?_
  refine w_iload X 0 dX12_walksOn_5 rfl 7 rfl ?_
  refine w_bipush X 9 dX12_walksOn_7 rfl 9 rfl ?_
  refine w_irem X (by decide) dX12_walksOn_9 10 rfl ?_
  refine w_let hF (fun x_2 hF => ?_)
  refine w_istore X [(6, .int x_2), (5, .int x_1), (0, .ref (ad 0)), (1, .int x1), (2, .int x2), (3, .int x3), (4, .int x4)] dX12_walksOn_10 (by decide) rfl 12 rfl ?_
  refine w_iload X 1 dX12_walksOn_12 rfl 14 rfl ?_
  refine w_bipush X 9 dX12_walksOn_14 rfl 16 rfl ?_
  refine w_idiv X (by decide) dX12_walksOn_16 17 rfl ?_
  refine w_let hF (fun x_3 hF => ?_)
  refine w_istore X [(7, .int x_3), (6, .int x_2), (5, .int x_1), (0, .ref (ad 0)), (1, .int x1), (2, .int x2), (3, .int x3), (4, .int x4)] dX12_walksOn_17 (by decide) rfl 19 rfl ?_
  refine w_iload_n X 5 dX12_walksOn_19 rfl rfl 20 rfl ?_
  refine w_iconst X 5 dX12_walksOn_20 rfl 21 rfl ?_
  refine w_irem X (by decide) dX12_walksOn_21 22 rfl ?_
  refine w_let hF (fun x_4 hF => ?_)
  refine w_iconst X 4 dX12_walksOn_22 rfl 23 rfl ?_
  refine w_icmp_ne X hF 30 26 dX12_walksOn_23 (by decide) rfl (fun hF => ?_) (fun hF => ?_)
  · refine w_iconst X (-1) dX12_walksOn_26 rfl 27 rfl ?_
    refine w_goto X 33 dX12_walksOn_27 (by decide) ?_
    refine w_keep [3, 4, 5, 6, 7, 2, 1, 0] rfl ?_
    exact w_33 x1 x2 x3 x4 x_1 x_2 x_3 (-1) mem hF
  · refine w_iload_n X 5 dX12_walksOn_30 rfl rfl 31 rfl ?_
    refine w_iconst X 5 dX12_walksOn_31 rfl 32 rfl ?_
    refine w_irem X (by decide) dX12_walksOn_32 33 rfl ?_
    refine w_let hF (fun x_5 hF => ?_)
    refine w_keep [3, 4, 5, 6, 7, 2, 1, 0] rfl ?_
    exact w_33 x1 x2 x3 x4 x_1 x_2 x_3 x_5 mem hF

def K_X12_walks_89 (fu : Nat) : Nat → Int32 → Mem → Option Mem
  | 0, _, _ => none
  | n + 1, x3, mem => (if x3 < 405 then gi x3 405 (gi x3 405 (lt_ (mw mem 14 (Int32.toNatClampNeg x3) (vp_nar .boolean (rd mem 15 (Int32.toNatClampNeg x3)))) (fun m_11 => gi x3 405 (gi x3 405 (lt_ (mw m_11 12 (Int32.toNatClampNeg x3) (rd m_11 13 (Int32.toNatClampNeg x3))) (fun m_14 => (K_X12_walks_89 fu n (x3 + 1) m_14))))))) else some mem)
def K_X12_walks_60 (fu : Nat) (k_41 : Int32 → Int32 → Int32 → Mem → Option Mem) : Nat → Int32 → Int32 → Int32 → Int32 → Mem → Option Mem
  | 0, _, _, _, _, _ => none
  | n + 1, x1, x2, x3, x4, mem => (if x4 < 4 then bd (K_X12_walksOn fu x1 x3 x2 x4 mem) (fun m_8 => (K_X12_walks_60 fu k_41 n x1 x2 x3 (x4 + 1) m_8)) else (k_41 x1 x2 (x3 + 1) mem))
def K_X12_walks_41 (fu : Nat) : Nat → Int32 → Int32 → Int32 → Mem → Option Mem
  | 0, _, _, _, _ => none
  | n + 1, x1, x2, x3, mem => (if x3 < 405 then gi x3 405 ((if (rd mem 14 (Int32.toNatClampNeg x3)) = 0 then (K_X12_walks_41 fu n x1 x2 (x3 + 1) mem) else (K_X12_walks_60 fu (K_X12_walks_41 fu n) fu x1 x2 x3 0 mem))) else (K_X12_walks_89 fu fu 0 mem))
def K_X12_walks_12 (fu : Nat) : Nat → Int32 → Int32 → Int32 → Mem → Option Mem
  | 0, _, _, _, _ => none
  | n + 1, x1, x2, x3, mem => (if x3 < 405 then gi x3 405 (lt_ (mw mem 15 (Int32.toNatClampNeg x3) (vp_nar .boolean 0)) (fun m_4 => gi x3 405 (lt_ (mw m_4 13 (Int32.toNatClampNeg x3) 0) (fun m_6 => (K_X12_walks_12 fu n x1 x2 (x3 + 1) m_6))))) else (K_X12_walks_41 fu fu x1 x2 0 mem))
def K_X12_walks (fu : Nat) (x1 : Int32) (x2 : Int32) (mem : Mem) : Option Mem := lt_ (mw mem 0 34 0) (fun m_1 => lt_ (mw m_1 0 35 0) (fun m_2 => (K_X12_walks_12 fu fu x1 x2 0 m_2)))
def rm_X12_walks : Room := { frames := 5, cells := 0, slots := 0, locals := 125 }
set_option maxHeartbeats 4000000 in
set_option maxRecDepth 100000 in
theorem ct_X12_walks (l : Launch) {D : va_G} {ca ad : Nat → Nat} {Z : (Nat → Prop) → State → Heap → Prop} (hZ : ZOK Z) (fu : Nat) (x1 : Int32) (x2 : Int32) (mem : Mem) (res : Mem) (hF : K_X12_walks fu x1 x2 mem = some res) : CV l D (tyL ca) 23 ad (cM ca ad) Z yX12_walks cX12_walks 5 rm_X12_walks [.ref (ad 0), .int x1, .int x2] mem res := by
  refine start_v (own := RX12) rfl (by decide) (Nat.le_of_ble_eq_true rfl) ?_
  intro p e s m args below meth c Q hQ X
  rw [K_X12_walks] at hF
  revert hF
  have w_89 : ∀ (n : Nat) (x3 : Int32) (mem : Mem), K_X12_walks_89 fu n x3 mem = some res → WW D 23 ad (cM ca ad) p l e rm_X12_walks s m args below meth c 5 0 0 Q mem 89 [(0, .ref (ad 0)), (3, .int x3)] [] := by
    intro n
    induction n with
    | zero => intro x3 mem hF; exact no_none (show (none : Option Mem) = some res from hF)
    | succ n ih =>
      intro x3 mem hF
      rw [K_X12_walks_89] at hF
      refine w_iload_n X 1 dX12_walks_89 rfl rfl 90 rfl ?_
      refine w_sipush X 405 dX12_walks_90 rfl 93 rfl ?_
      refine w_icmp_ge X hF 126 96 dX12_walks_93 (by decide) rfl (fun hF => ?_) (fun hF => ?_)
      · refine w_aload_n X 0 dX12_walks_96 rfl rfl 97 rfl ?_
        refine w_getV (v := .ref (ad 14)) X 0 ml_0 mo_0 (T := TX12) (N := 50) rfl in_X12 32 (by decide) kF_X12_58 rfl rfl dX12_walks_97 100 rfl ?_
        refine w_iload_n X 1 dX12_walks_100 rfl rfl 101 rfl ?_
        refine w_aload_n X 0 dX12_walks_101 rfl rfl 102 rfl ?_
        refine w_getV (v := .ref (ad 15)) X 0 ml_0 mo_0 (T := TX12) (N := 50) rfl in_X12 33 (by decide) kF_X12_61 rfl rfl dX12_walks_102 105 rfl ?_
        refine w_iload_n X 1 dX12_walks_105 rfl rfl 106 rfl ?_
        refine w_gi hF (fun h_9 hF => ?_)
        refine w_zal X 15 ml_15 mo_15 (t0 := 6) rfl h_9 dX12_walks_106 107 rfl ?_
        refine w_gi hF (fun h_10 hF => ?_)
        refine w_zas X 14 ml_14 mo_14 (t0 := 6) rfl h_10 dX12_walks_107 108 rfl ?_
        refine w_letm hF (fun m_11 hF => ?_)
        refine w_aload_n X 0 dX12_walks_108 rfl rfl 109 rfl ?_
        refine w_getV (v := .ref (ad 12)) X 0 ml_0 mo_0 (T := TX12) (N := 50) rfl in_X12 30 (by decide) kF_X12_52 rfl rfl dX12_walks_109 112 rfl ?_
        refine w_iload_n X 1 dX12_walks_112 rfl rfl 113 rfl ?_
        refine w_aload_n X 0 dX12_walks_113 rfl rfl 114 rfl ?_
        refine w_getV (v := .ref (ad 13)) X 0 ml_0 mo_0 (T := TX12) (N := 50) rfl in_X12 31 (by decide) kF_X12_55 rfl rfl dX12_walks_114 117 rfl ?_
        refine w_iload_n X 1 dX12_walks_117 rfl rfl 118 rfl ?_
        refine w_gi hF (fun h_12 hF => ?_)
        refine w_ial X 13 ml_13 mo_13 (t0 := 0) rfl h_12 dX12_walks_118 119 rfl ?_
        refine w_gi hF (fun h_13 hF => ?_)
        refine w_ias X 12 ml_12 mo_12 (t0 := 0) rfl h_13 dX12_walks_119 120 rfl ?_
        refine w_letm hF (fun m_14 hF => ?_)
        refine w_iinc X 1 (x3 + 1) [(3, .int (x3 + 1)), (0, .ref (ad 0))] dX12_walks_120 rfl rfl (by decide) rfl 123 rfl ?_
        refine w_goto X 89 dX12_walks_123 (by decide) ?_
        refine w_keep [1, 0] rfl ?_
        exact ih (x3 + 1) m_14 hF
      · exact w_vret X hQ (o_inj hF) dX12_walks_126
  have w_60 : ∀ (k_41 : Int32 → Int32 → Int32 → Mem → Option Mem) (hk_41 : ∀ (x1 : Int32) (x2 : Int32) (x3 : Int32) (mem : Mem), k_41 x1 x2 x3 mem = some res → WW D 23 ad (cM ca ad) p l e rm_X12_walks s m args below meth c 5 0 0 Q mem 41 [(0, .ref (ad 0)), (1, .int x1), (2, .int x2), (3, .int x3)] []) (n : Nat) (x1 : Int32) (x2 : Int32) (x3 : Int32) (x4 : Int32) (mem : Mem), K_X12_walks_60 fu k_41 n x1 x2 x3 x4 mem = some res → WW D 23 ad (cM ca ad) p l e rm_X12_walks s m args below meth c 5 0 0 Q mem 60 [(0, .ref (ad 0)), (1, .int x1), (2, .int x2), (3, .int x3), (4, .int x4)] [] := by
    intro k_41 hk_41 n
    induction n with
    | zero => intro x1 x2 x3 x4 mem hF; exact no_none (show (none : Option Mem) = some res from hF)
    | succ n ih =>
      intro x1 x2 x3 x4 mem hF
      rw [K_X12_walks_60] at hF
      refine w_iload X 4 dX12_walks_60 rfl 62 rfl ?_
      refine w_iconst X 4 dX12_walks_62 rfl 63 rfl ?_
      refine w_icmp_ge X hF 81 66 dX12_walks_63 (by decide) rfl (fun hF => ?_) (fun hF => ?_)
      · refine w_aload_n X 0 dX12_walks_66 rfl rfl 67 rfl ?_
        refine w_iload_n X 1 dX12_walks_67 rfl rfl 68 rfl ?_
        refine w_iload_n X 3 dX12_walks_68 rfl rfl 69 rfl ?_
        refine w_iload_n X 2 dX12_walks_69 rfl rfl 70 rfl ?_
        refine w_iload X 4 dX12_walks_70 rfl 72 rfl ?_
        refine w_callVv (fun m => m) X hZ hF [.int x1, .int x3, .int x2, .int x4] 0 ml_0 mo_0 rfl rfl rfl kB_X12_walksOn kL_X12_401 (fun res h => ct_X12_walksOn l hZ fu x1 x3 x2 x4 mem res h) rfl rfl rfl ⟨Nat.le_of_ble_eq_true rfl, Nat.le_of_ble_eq_true rfl⟩ (Nat.le_of_ble_eq_true rfl) ⟨Nat.zero_le _, Nat.zero_le _⟩ dX12_walks_72 75 rfl (fun m_8 hF => ?_)
        refine w_iinc X 4 (x4 + 1) [(4, .int (x4 + 1)), (0, .ref (ad 0)), (1, .int x1), (2, .int x2), (3, .int x3)] dX12_walks_75 rfl rfl (by decide) rfl 78 rfl ?_
        refine w_goto X 60 dX12_walks_78 (by decide) ?_
        refine w_keep [1, 2, 3, 4, 0] rfl ?_
        exact ih x1 x2 x3 (x4 + 1) m_8 hF
      · refine w_iinc X 3 (x3 + 1) [(3, .int (x3 + 1)), (0, .ref (ad 0)), (1, .int x1), (2, .int x2), (4, .int x4)] dX12_walks_81 rfl rfl (by decide) rfl 84 rfl ?_
        refine w_goto X 41 dX12_walks_84 (by decide) ?_
        refine w_keep [1, 2, 3, 0] rfl ?_
        exact hk_41 x1 x2 (x3 + 1) mem hF
  have w_41 : ∀ (n : Nat) (x1 : Int32) (x2 : Int32) (x3 : Int32) (mem : Mem), K_X12_walks_41 fu n x1 x2 x3 mem = some res → WW D 23 ad (cM ca ad) p l e rm_X12_walks s m args below meth c 5 0 0 Q mem 41 [(0, .ref (ad 0)), (1, .int x1), (2, .int x2), (3, .int x3)] [] := by
    intro n
    induction n with
    | zero => intro x1 x2 x3 mem hF; exact no_none (show (none : Option Mem) = some res from hF)
    | succ n ih =>
      intro x1 x2 x3 mem hF
      rw [K_X12_walks_41] at hF
      refine w_iload_n X 3 dX12_walks_41 rfl rfl 42 rfl ?_
      refine w_sipush X 405 dX12_walks_42 rfl 45 rfl ?_
      refine w_icmp_ge X hF 87 48 dX12_walks_45 (by decide) rfl (fun hF => ?_) (fun hF => ?_)
      · refine w_aload_n X 0 dX12_walks_48 rfl rfl 49 rfl ?_
        refine w_getV (v := .ref (ad 14)) X 0 ml_0 mo_0 (T := TX12) (N := 50) rfl in_X12 32 (by decide) kF_X12_58 rfl rfl dX12_walks_49 52 rfl ?_
        refine w_iload_n X 3 dX12_walks_52 rfl rfl 53 rfl ?_
        refine w_gi hF (fun h_7 hF => ?_)
        refine w_zal X 14 ml_14 mo_14 (t0 := 6) rfl h_7 dX12_walks_53 54 rfl ?_
        refine w_if_eq X hF 81 57 dX12_walks_54 (by decide) rfl (fun hF => ?_) (fun hF => ?_)
        · refine w_iinc X 3 (x3 + 1) [(3, .int (x3 + 1)), (0, .ref (ad 0)), (1, .int x1), (2, .int x2)] dX12_walks_81 rfl rfl (by decide) rfl 84 rfl ?_
          refine w_goto X 41 dX12_walks_84 (by decide) ?_
          refine w_keep [1, 2, 3, 0] rfl ?_
          exact ih x1 x2 (x3 + 1) mem hF
        · refine w_iconst X 0 dX12_walks_57 rfl 58 rfl ?_
          refine w_istore X [(4, .int 0), (0, .ref (ad 0)), (1, .int x1), (2, .int x2), (3, .int x3)] dX12_walks_58 (by decide) rfl 60 rfl ?_
          refine w_keep [1, 2, 3, 4, 0] rfl ?_
          exact w_60 (K_X12_walks_41 fu n) ih fu x1 x2 x3 0 mem hF
      · refine w_iconst X 0 dX12_walks_87 rfl 88 rfl ?_
        refine w_istore_n X [(3, .int 0), (0, .ref (ad 0)), (1, .int x1), (2, .int x2)] dX12_walks_88 rfl (by decide) rfl 89 rfl ?_
        refine w_keep [1, 0] rfl ?_
        exact w_89 fu 0 mem hF
  have w_12 : ∀ (n : Nat) (x1 : Int32) (x2 : Int32) (x3 : Int32) (mem : Mem), K_X12_walks_12 fu n x1 x2 x3 mem = some res → WW D 23 ad (cM ca ad) p l e rm_X12_walks s m args below meth c 5 0 0 Q mem 12 [(0, .ref (ad 0)), (1, .int x1), (2, .int x2), (3, .int x3)] [] := by
    intro n
    induction n with
    | zero => intro x1 x2 x3 mem hF; exact no_none (show (none : Option Mem) = some res from hF)
    | succ n ih =>
      intro x1 x2 x3 mem hF
      rw [K_X12_walks_12] at hF
      refine w_iload_n X 3 dX12_walks_12 rfl rfl 13 rfl ?_
      refine w_sipush X 405 dX12_walks_13 rfl 16 rfl ?_
      refine w_icmp_ge X hF 39 19 dX12_walks_16 (by decide) rfl (fun hF => ?_) (fun hF => ?_)
      · refine w_aload_n X 0 dX12_walks_19 rfl rfl 20 rfl ?_
        refine w_getV (v := .ref (ad 15)) X 0 ml_0 mo_0 (T := TX12) (N := 50) rfl in_X12 33 (by decide) kF_X12_61 rfl rfl dX12_walks_20 23 rfl ?_
        refine w_iload_n X 3 dX12_walks_23 rfl rfl 24 rfl ?_
        refine w_iconst X 0 dX12_walks_24 rfl 25 rfl ?_
        refine w_gi hF (fun h_3 hF => ?_)
        refine w_zas X 15 ml_15 mo_15 (t0 := 6) rfl h_3 dX12_walks_25 26 rfl ?_
        refine w_letm hF (fun m_4 hF => ?_)
        refine w_aload_n X 0 dX12_walks_26 rfl rfl 27 rfl ?_
        refine w_getV (v := .ref (ad 13)) X 0 ml_0 mo_0 (T := TX12) (N := 50) rfl in_X12 31 (by decide) kF_X12_55 rfl rfl dX12_walks_27 30 rfl ?_
        refine w_iload_n X 3 dX12_walks_30 rfl rfl 31 rfl ?_
        refine w_iconst X 0 dX12_walks_31 rfl 32 rfl ?_
        refine w_gi hF (fun h_5 hF => ?_)
        refine w_ias X 13 ml_13 mo_13 (t0 := 0) rfl h_5 dX12_walks_32 33 rfl ?_
        refine w_letm hF (fun m_6 hF => ?_)
        refine w_iinc X 3 (x3 + 1) [(3, .int (x3 + 1)), (0, .ref (ad 0)), (1, .int x1), (2, .int x2)] dX12_walks_33 rfl rfl (by decide) rfl 36 rfl ?_
        refine w_goto X 12 dX12_walks_36 (by decide) ?_
        refine w_keep [1, 2, 3, 0] rfl ?_
        exact ih x1 x2 (x3 + 1) m_6 hF
      · refine w_iconst X 0 dX12_walks_39 rfl 40 rfl ?_
        refine w_istore_n X [(3, .int 0), (0, .ref (ad 0)), (1, .int x1), (2, .int x2)] dX12_walks_40 rfl (by decide) rfl 41 rfl ?_
        refine w_keep [1, 2, 3, 0] rfl ?_
        exact w_41 fu x1 x2 0 mem hF
  intro hF
  refine w_aload_n X 0 dX12_walks_0 rfl rfl 1 rfl ?_
  refine w_iconst X 0 dX12_walks_1 rfl 2 rfl ?_
  refine w_putI X 0 ml_0 mo_0 (T := TX12) (N := 50) rfl in_X12 tyX12 tyX12_ok nmX12 34 (by decide) kF_X12_395 rfl rfl rfl rfl (Nat.le_of_ble_eq_true rfl) rfl dX12_walks_2 5 rfl ?_
  refine w_letm hF (fun m_1 hF => ?_)
  refine w_aload_n X 0 dX12_walks_5 rfl rfl 6 rfl ?_
  refine w_iconst X 0 dX12_walks_6 rfl 7 rfl ?_
  refine w_putI X 0 ml_0 mo_0 (T := TX12) (N := 50) rfl in_X12 tyX12 tyX12_ok nmX12 35 (by decide) kF_X12_398 rfl rfl rfl rfl (Nat.le_of_ble_eq_true rfl) rfl dX12_walks_7 10 rfl ?_
  refine w_letm hF (fun m_2 hF => ?_)
  refine w_iconst X 0 dX12_walks_10 rfl 11 rfl ?_
  refine w_istore_n X [(3, .int 0), (0, .ref (ad 0)), (1, .int x1), (2, .int x2)] dX12_walks_11 rfl (by decide) rfl 12 rfl ?_
  refine w_keep [1, 2, 3, 0] rfl ?_
  exact w_12 fu x1 x2 0 m_2 hF

def K_X12_leastWithBans_17 (fu : Nat) : Nat → Int32 → Int32 → Mem → Option (Int32 × Mem)
  | 0, _, _, _ => none
  | n + 1, x1, x2, mem => (if 200 < x2 then some ((-1), mem) else bd (K_X12_of fu x1 4 mem) (fun x_3 => bd (K_X12_walks fu x1 ((x_3 + x2) - 1) mem) (fun m_4 => (if (rd m_4 0 35) = 0 then (K_X12_leastWithBans_17 fu n x1 (x2 + 1) m_4) else some (x2, m_4)))))
def K_X12_leastWithBans (fu : Nat) (x1 : Int32) (mem : Mem) : Option (Int32 × Mem) := bd (K_X12_hasFinished fu x1 mem) (fun x_1 => (if x_1 = 0 then bd (K_X12_beginsWalk fu x1 mem) (fun m_2 => (K_X12_leastWithBans_17 fu fu x1 1 m_2)) else some (0, mem)))
def rm_X12_leastWithBans : Room := { frames := 6, cells := 0, slots := 0, locals := 149 }
set_option maxHeartbeats 4000000 in
set_option maxRecDepth 100000 in
theorem ct_X12_leastWithBans (l : Launch) {D : va_G} {ca ad : Nat → Nat} {Z : (Nat → Prop) → State → Heap → Prop} (hZ : ZOK Z) (fu : Nat) (x1 : Int32) (mem : Mem) (res : (Int32 × Mem)) (hF : K_X12_leastWithBans fu x1 mem = some res) : CI l D (tyL ca) 23 ad (cM ca ad) Z yX12_leastWithBans cX12_leastWithBans 3 .int rm_X12_leastWithBans [.ref (ad 0), .int x1] mem res.1 res.2 := by
  refine start_i (own := RX12) rfl (by decide) (Nat.le_of_ble_eq_true rfl) ?_
  intro p e s m args below meth c Q hQ X
  rw [K_X12_leastWithBans] at hF
  revert hF
  have w_17 : ∀ (n : Nat) (x1 : Int32) (x2 : Int32) (mem : Mem), K_X12_leastWithBans_17 fu n x1 x2 mem = some res → WW D 23 ad (cM ca ad) p l e rm_X12_leastWithBans s m args below meth c 3 0 0 Q mem 17 [(0, .ref (ad 0)), (1, .int x1), (2, .int x2)] [] := by
    intro n
    induction n with
    | zero => intro x1 x2 mem hF; exact no_none (show (none : Option (Int32 × Mem)) = some res from hF)
    | succ n ih =>
      intro x1 x2 mem hF
      rw [K_X12_leastWithBans_17] at hF
      refine w_iload_n X 2 dX12_leastWithBans_17 rfl rfl 18 rfl ?_
      refine w_sipush X 200 dX12_leastWithBans_18 rfl 21 rfl ?_
      refine w_icmp_gt X hF 54 24 dX12_leastWithBans_21 (by decide) rfl (fun hF => ?_) (fun hF => ?_)
      · refine w_iconst X (-1) dX12_leastWithBans_54 rfl 55 rfl ?_
        exact w_iret X hQ (o_inj1 hF) (o_inj2 hF) rfl dX12_leastWithBans_55
      · refine w_aload_n X 0 dX12_leastWithBans_24 rfl rfl 25 rfl ?_
        refine w_iload_n X 1 dX12_leastWithBans_25 rfl rfl 26 rfl ?_
        refine w_aload_n X 0 dX12_leastWithBans_26 rfl rfl 27 rfl ?_
        refine w_iload_n X 1 dX12_leastWithBans_27 rfl rfl 28 rfl ?_
        refine w_iconst X 4 dX12_leastWithBans_28 rfl 29 rfl ?_
        refine w_callVi (fun x => x) (fun _ => mem) X hZ hF [.int x1, .int 4] 0 ml_0 mo_0 rfl rfl rfl kB_X12_of kL_X12_174 (fun res h => ct_X12_of l hZ fu x1 4 mem res h) rfl rfl rfl ⟨Nat.le_of_ble_eq_true rfl, Nat.le_of_ble_eq_true rfl⟩ (Nat.le_of_ble_eq_true rfl) ⟨Nat.zero_le _, Nat.zero_le _⟩ dX12_leastWithBans_29 32 rfl (fun x_3 hF => ?_)
        refine w_iload_n X 2 dX12_leastWithBans_32 rfl rfl 33 rfl ?_
        refine w_iadd X dX12_leastWithBans_33 34 rfl ?_
        refine w_iconst X 1 dX12_leastWithBans_34 rfl 35 rfl ?_
        refine w_isub X dX12_leastWithBans_35 36 rfl ?_
        refine w_callVv (fun m => m) X hZ hF [.int x1, .int ((x_3 + x2) - 1)] 0 ml_0 mo_0 rfl rfl rfl kB_X12_walks kL_X12_408 (fun res h => ct_X12_walks l hZ fu x1 ((x_3 + x2) - 1) mem res h) rfl rfl rfl ⟨Nat.le_of_ble_eq_true rfl, Nat.le_of_ble_eq_true rfl⟩ (Nat.le_of_ble_eq_true rfl) ⟨Nat.zero_le _, Nat.zero_le _⟩ dX12_leastWithBans_36 39 rfl (fun m_4 hF => ?_)
        refine w_aload_n X 0 dX12_leastWithBans_39 rfl rfl 40 rfl ?_
        refine w_getV (v := .int (rd m_4 0 35)) X 0 ml_0 mo_0 (T := TX12) (N := 50) rfl in_X12 35 (by decide) kF_X12_398 rfl rfl dX12_leastWithBans_40 43 rfl ?_
        refine w_if_eq X hF 48 46 dX12_leastWithBans_43 (by decide) rfl (fun hF => ?_) (fun hF => ?_)
        · refine w_iinc X 2 (x2 + 1) [(2, .int (x2 + 1)), (0, .ref (ad 0)), (1, .int x1)] dX12_leastWithBans_48 rfl rfl (by decide) rfl 51 rfl ?_
          refine w_goto X 17 dX12_leastWithBans_51 (by decide) ?_
          refine w_keep [1, 2, 0] rfl ?_
          exact ih x1 (x2 + 1) m_4 hF
        · refine w_iload_n X 2 dX12_leastWithBans_46 rfl rfl 47 rfl ?_
          exact w_iret X hQ (o_inj1 hF) (o_inj2 hF) rfl dX12_leastWithBans_47
  intro hF
  refine w_aload_n X 0 dX12_leastWithBans_0 rfl rfl 1 rfl ?_
  refine w_iload_n X 1 dX12_leastWithBans_1 rfl rfl 2 rfl ?_
  refine w_callVi (fun x => x) (fun _ => mem) X hZ hF [.int x1] 0 ml_0 mo_0 rfl rfl rfl kB_X12_hasFinished kL_X12_213 (fun res h => ct_X12_hasFinished l hZ fu x1 mem res h) rfl rfl rfl ⟨Nat.le_of_ble_eq_true rfl, Nat.le_of_ble_eq_true rfl⟩ (Nat.le_of_ble_eq_true rfl) ⟨Nat.zero_le _, Nat.zero_le _⟩ dX12_leastWithBans_2 5 rfl (fun x_1 hF => ?_)
  refine w_if_eq X hF 10 8 dX12_leastWithBans_5 (by decide) rfl (fun hF => ?_) (fun hF => ?_)
  · refine w_aload_n X 0 dX12_leastWithBans_10 rfl rfl 11 rfl ?_
    refine w_iload_n X 1 dX12_leastWithBans_11 rfl rfl 12 rfl ?_
    refine w_callVv (fun m => m) X hZ hF [.int x1] 0 ml_0 mo_0 rfl rfl rfl kB_X12_beginsWalk kL_X12_405 (fun res h => ct_X12_beginsWalk l hZ fu x1 mem res h) rfl rfl rfl ⟨Nat.le_of_ble_eq_true rfl, Nat.le_of_ble_eq_true rfl⟩ (Nat.le_of_ble_eq_true rfl) ⟨Nat.zero_le _, Nat.zero_le _⟩ dX12_leastWithBans_12 15 rfl (fun m_2 hF => ?_)
    refine w_iconst X 1 dX12_leastWithBans_15 rfl 16 rfl ?_
    refine w_istore_n X [(2, .int 1), (0, .ref (ad 0)), (1, .int x1)] dX12_leastWithBans_16 rfl (by decide) rfl 17 rfl ?_
    refine w_keep [1, 2, 0] rfl ?_
    exact w_17 fu x1 1 m_2 hF
  · refine w_iconst X 0 dX12_leastWithBans_8 rfl 9 rfl ?_
    exact w_iret X hQ (o_inj1 hF) (o_inj2 hF) rfl dX12_leastWithBans_9

def K_X12_detour (fu : Nat) (x1 : Int32) (mem : Mem) : Option (Int32 × Mem) := bd (K_X12_isPawn fu x1 mem) (fun x_1 => bd (K_X12_goes fu x_1 mem) (fun p_2 => (if p_2.1 = 0 then some (0, p_2.2) else bd (K_X12_leastWithBans fu x1 p_2.2) (fun p_3 => lt_ p_3.1 (fun x_4 => (if x_4 = (-1) then some ((-1), p_3.2) else bd (K_X12_distanceOf fu x1 p_3.2) (fun p_5 => some ((x_4 - p_5.1), p_5.2))))))))
def rm_X12_detour : Room := { frames := 7, cells := 0, slots := 0, locals := 171 }
set_option maxHeartbeats 4000000 in
set_option maxRecDepth 100000 in
theorem ct_X12_detour (l : Launch) {D : va_G} {ca ad : Nat → Nat} {Z : (Nat → Prop) → State → Heap → Prop} (hZ : ZOK Z) (fu : Nat) (x1 : Int32) (mem : Mem) (res : (Int32 × Mem)) (hF : K_X12_detour fu x1 mem = some res) : CI l D (tyL ca) 23 ad (cM ca ad) Z yX12_detour cX12_detour 3 .int rm_X12_detour [.ref (ad 0), .int x1] mem res.1 res.2 := by
  refine start_i (own := RX12) rfl (by decide) (Nat.le_of_ble_eq_true rfl) ?_
  intro p e s m args below meth c Q hQ X
  rw [K_X12_detour] at hF
  revert hF
  intro hF
  refine w_aload_n X 0 dX12_detour_0 rfl rfl 1 rfl ?_
  refine w_aload_n X 0 dX12_detour_1 rfl rfl 2 rfl ?_
  refine w_iload_n X 1 dX12_detour_2 rfl rfl 3 rfl ?_
  refine w_callVi (fun x => x) (fun _ => mem) X hZ hF [.int x1] 0 ml_0 mo_0 rfl rfl rfl kB_X12_isPawn kL_X12_339 (fun res h => ct_X12_isPawn l hZ fu x1 mem res h) rfl rfl rfl ⟨Nat.le_of_ble_eq_true rfl, Nat.le_of_ble_eq_true rfl⟩ (Nat.le_of_ble_eq_true rfl) ⟨Nat.zero_le _, Nat.zero_le _⟩ dX12_detour_3 6 rfl (fun x_1 hF => ?_)
  refine w_callVi (fun x => x.1) (fun x => x.2) X hZ hF [.int x_1] 0 ml_0 mo_0 rfl rfl rfl kB_X12_goes kL_X12_98 (fun res h => ct_X12_goes l hZ fu x_1 mem res h) rfl rfl rfl ⟨Nat.le_of_ble_eq_true rfl, Nat.le_of_ble_eq_true rfl⟩ (Nat.le_of_ble_eq_true rfl) ⟨Nat.zero_le _, Nat.zero_le _⟩ dX12_detour_6 9 rfl (fun p_2 hF => ?_)
  refine w_if_ne X hF 14 12 dX12_detour_9 (by decide) rfl (fun hF => ?_) (fun hF => ?_)
  · refine w_iconst X 0 dX12_detour_12 rfl 13 rfl ?_
    exact w_iret X hQ (o_inj1 hF) (o_inj2 hF) rfl dX12_detour_13
  · refine w_aload_n X 0 dX12_detour_14 rfl rfl 15 rfl ?_
    refine w_iload_n X 1 dX12_detour_15 rfl rfl 16 rfl ?_
    refine w_callVi (fun x => x.1) (fun x => x.2) X hZ hF [.int x1] 0 ml_0 mo_0 rfl rfl rfl kB_X12_leastWithBans kL_X12_412 (fun res h => ct_X12_leastWithBans l hZ fu x1 p_2.2 res h) rfl rfl rfl ⟨Nat.le_of_ble_eq_true rfl, Nat.le_of_ble_eq_true rfl⟩ (Nat.le_of_ble_eq_true rfl) ⟨Nat.zero_le _, Nat.zero_le _⟩ dX12_detour_16 19 rfl (fun p_3 hF => ?_)
    refine w_let hF (fun x_4 hF => ?_)
    refine w_istore_n X [(2, .int x_4), (0, .ref (ad 0)), (1, .int x1)] dX12_detour_19 rfl (by decide) rfl 20 rfl ?_
    refine w_iload_n X 0 dX12_detour_20 rfl rfl 21 rfl ?_
    refine w_iconst X (-1) dX12_detour_21 rfl 22 rfl ?_
    refine w_icmp_ne X hF 29 25 dX12_detour_22 (by decide) rfl (fun hF => ?_) (fun hF => ?_)
    · refine w_iconst X (-1) dX12_detour_25 rfl 26 rfl ?_
      refine w_goto X 36 dX12_detour_26 (by decide) ?_
      exact w_iret X hQ (o_inj1 hF) (o_inj2 hF) rfl dX12_detour_36
    · refine w_iload_n X 0 dX12_detour_29 rfl rfl 30 rfl ?_
      refine w_aload_n X 1 dX12_detour_30 rfl rfl 31 rfl ?_
      refine w_iload_n X 2 dX12_detour_31 rfl rfl 32 rfl ?_
      refine w_callVi (fun x => x.1) (fun x => x.2) X hZ hF [.int x1] 0 ml_0 mo_0 rfl rfl rfl kB_X12_distanceOf kL_X12_222 (fun res h => ct_X12_distanceOf l hZ fu x1 p_3.2 res h) rfl rfl rfl ⟨Nat.le_of_ble_eq_true rfl, Nat.le_of_ble_eq_true rfl⟩ (Nat.le_of_ble_eq_true rfl) ⟨Nat.zero_le _, Nat.zero_le _⟩ dX12_detour_32 35 rfl (fun p_5 hF => ?_)
      refine w_isub X dX12_detour_35 36 rfl ?_
      exact w_iret X hQ (o_inj1 hF) (o_inj2 hF) rfl dX12_detour_36

def K_X12_distance (fu : Nat) (x1 : Int32) (mem : Mem) : Option (Int32 × Mem) := bd (K_X12_isPawn fu x1 mem) (fun x_1 => bd (K_X12_goes fu x_1 mem) (fun p_2 => (if p_2.1 = 0 then some (0, p_2.2) else bd (K_X12_distanceOf fu x1 p_2.2) (fun p_3 => some (p_3.1, p_3.2)))))
def rm_X12_distance : Room := { frames := 7, cells := 0, slots := 0, locals := 164 }
set_option maxHeartbeats 4000000 in
set_option maxRecDepth 100000 in
theorem ct_X12_distance (l : Launch) {D : va_G} {ca ad : Nat → Nat} {Z : (Nat → Prop) → State → Heap → Prop} (hZ : ZOK Z) (fu : Nat) (x1 : Int32) (mem : Mem) (res : (Int32 × Mem)) (hF : K_X12_distance fu x1 mem = some res) : CI l D (tyL ca) 23 ad (cM ca ad) Z yX12_distance cX12_distance 2 .int rm_X12_distance [.ref (ad 0), .int x1] mem res.1 res.2 := by
  refine start_i (own := RX12) rfl (by decide) (Nat.le_of_ble_eq_true rfl) ?_
  intro p e s m args below meth c Q hQ X
  rw [K_X12_distance] at hF
  revert hF
  intro hF
  refine w_aload_n X 0 dX12_distance_0 rfl rfl 1 rfl ?_
  refine w_aload_n X 0 dX12_distance_1 rfl rfl 2 rfl ?_
  refine w_iload_n X 1 dX12_distance_2 rfl rfl 3 rfl ?_
  refine w_callVi (fun x => x) (fun _ => mem) X hZ hF [.int x1] 0 ml_0 mo_0 rfl rfl rfl kB_X12_isPawn kL_X12_339 (fun res h => ct_X12_isPawn l hZ fu x1 mem res h) rfl rfl rfl ⟨Nat.le_of_ble_eq_true rfl, Nat.le_of_ble_eq_true rfl⟩ (Nat.le_of_ble_eq_true rfl) ⟨Nat.zero_le _, Nat.zero_le _⟩ dX12_distance_3 6 rfl (fun x_1 hF => ?_)
  refine w_callVi (fun x => x.1) (fun x => x.2) X hZ hF [.int x_1] 0 ml_0 mo_0 rfl rfl rfl kB_X12_goes kL_X12_98 (fun res h => ct_X12_goes l hZ fu x_1 mem res h) rfl rfl rfl ⟨Nat.le_of_ble_eq_true rfl, Nat.le_of_ble_eq_true rfl⟩ (Nat.le_of_ble_eq_true rfl) ⟨Nat.zero_le _, Nat.zero_le _⟩ dX12_distance_6 9 rfl (fun p_2 hF => ?_)
  refine w_if_eq X hF 20 12 dX12_distance_9 (by decide) rfl (fun hF => ?_) (fun hF => ?_)
  · refine w_iconst X 0 dX12_distance_20 rfl 21 rfl ?_
    exact w_iret X hQ (o_inj1 hF) (o_inj2 hF) rfl dX12_distance_21
  · refine w_aload_n X 0 dX12_distance_12 rfl rfl 13 rfl ?_
    refine w_iload_n X 1 dX12_distance_13 rfl rfl 14 rfl ?_
    refine w_callVi (fun x => x.1) (fun x => x.2) X hZ hF [.int x1] 0 ml_0 mo_0 rfl rfl rfl kB_X12_distanceOf kL_X12_222 (fun res h => ct_X12_distanceOf l hZ fu x1 p_2.2 res h) rfl rfl rfl ⟨Nat.le_of_ble_eq_true rfl, Nat.le_of_ble_eq_true rfl⟩ (Nat.le_of_ble_eq_true rfl) ⟨Nat.zero_le _, Nat.zero_le _⟩ dX12_distance_14 17 rfl (fun p_3 hF => ?_)
    refine w_goto X 21 dX12_distance_17 (by decide) ?_
    exact w_iret X hQ (o_inj1 hF) (o_inj2 hF) rfl dX12_distance_21

def K_X12_distanceFrom_23 (fu : Nat) (x1 : Int32) (x2 : Int32) (x3 : Int32) (xs0 : Int32) (mem : Mem) : Option (Int32 × Mem) := bd (K_X12_goes fu xs0 mem) (fun p_3 => (if p_3.1 = 0 then some (0, p_3.2) else bd (K_X12_of fu x1 2 p_3.2) (fun x_4 => bd (K_X12_lays fu x_4 p_3.2) (fun m_5 => gi ((9 * x3) + x2) 81 (some ((rd m_5 7 (Int32.toNatClampNeg ((9 * x3) + x2))), m_5))))))
def K_X12_distanceFrom_22 (fu : Nat) (x1 : Int32) (x2 : Int32) (x3 : Int32) (mem : Mem) : Option (Int32 × Mem) := (K_X12_distanceFrom_23 fu x1 x2 x3 0 mem)
def K_X12_distanceFrom (fu : Nat) (x1 : Int32) (x2 : Int32) (x3 : Int32) (mem : Mem) : Option (Int32 × Mem) := bd (K_X12_isPawn fu x1 mem) (fun x_1 => (if x_1 = 0 then (K_X12_distanceFrom_22 fu x1 x2 x3 mem) else bd (K_X12_isCell fu x2 x3 mem) (fun x_2 => (if x_2 = 0 then (K_X12_distanceFrom_22 fu x1 x2 x3 mem) else (K_X12_distanceFrom_23 fu x1 x2 x3 1 mem)))))
def rm_X12_distanceFrom : Room := { frames := 6, cells := 0, slots := 0, locals := 143 }
set_option maxHeartbeats 4000000 in
set_option maxRecDepth 100000 in
theorem ct_X12_distanceFrom (l : Launch) {D : va_G} {ca ad : Nat → Nat} {Z : (Nat → Prop) → State → Heap → Prop} (hZ : ZOK Z) (fu : Nat) (x1 : Int32) (x2 : Int32) (x3 : Int32) (mem : Mem) (res : (Int32 × Mem)) (hF : K_X12_distanceFrom fu x1 x2 x3 mem = some res) : CI l D (tyL ca) 23 ad (cM ca ad) Z yX12_distanceFrom cX12_distanceFrom 4 .int rm_X12_distanceFrom [.ref (ad 0), .int x1, .int x2, .int x3] mem res.1 res.2 := by
  refine start_i (own := RX12) rfl (by decide) (Nat.le_of_ble_eq_true rfl) ?_
  intro p e s m args below meth c Q hQ X
  rw [K_X12_distanceFrom] at hF
  revert hF
  have w_23 : ∀ (x1 : Int32) (x2 : Int32) (x3 : Int32) (xs0 : Int32) (mem : Mem), K_X12_distanceFrom_23 fu x1 x2 x3 xs0 mem = some res → WW D 23 ad (cM ca ad) p l e rm_X12_distanceFrom s m args below meth c 4 0 0 Q mem 23 [(0, .ref (ad 0)), (1, .int x1), (2, .int x2), (3, .int x3)] [.int xs0, .ref (ad 0)] := by
    intro x1 x2 x3 xs0 mem hF
    rw [K_X12_distanceFrom_23] at hF
    refine w_callVi (fun x => x.1) (fun x => x.2) X hZ hF [.int xs0] 0 ml_0 mo_0 rfl rfl rfl kB_X12_goes kL_X12_98 (fun res h => ct_X12_goes l hZ fu xs0 mem res h) rfl rfl rfl ⟨Nat.le_of_ble_eq_true rfl, Nat.le_of_ble_eq_true rfl⟩ (Nat.le_of_ble_eq_true rfl) ⟨Nat.zero_le _, Nat.zero_le _⟩ dX12_distanceFrom_23 26 rfl (fun p_3 hF => ?_)
    refine w_if_ne X hF 31 29 dX12_distanceFrom_26 (by decide) rfl (fun hF => ?_) (fun hF => ?_)
    · refine w_iconst X 0 dX12_distanceFrom_29 rfl 30 rfl ?_
      exact w_iret X hQ (o_inj1 hF) (o_inj2 hF) rfl dX12_distanceFrom_30
    · refine w_aload_n X 0 dX12_distanceFrom_31 rfl rfl 32 rfl ?_
      refine w_aload_n X 0 dX12_distanceFrom_32 rfl rfl 33 rfl ?_
      refine w_iload_n X 1 dX12_distanceFrom_33 rfl rfl 34 rfl ?_
      refine w_iconst X 2 dX12_distanceFrom_34 rfl 35 rfl ?_
      refine w_callVi (fun x => x) (fun _ => p_3.2) X hZ hF [.int x1, .int 2] 0 ml_0 mo_0 rfl rfl rfl kB_X12_of kL_X12_174 (fun res h => ct_X12_of l hZ fu x1 2 p_3.2 res h) rfl rfl rfl ⟨Nat.le_of_ble_eq_true rfl, Nat.le_of_ble_eq_true rfl⟩ (Nat.le_of_ble_eq_true rfl) ⟨Nat.zero_le _, Nat.zero_le _⟩ dX12_distanceFrom_35 38 rfl (fun x_4 hF => ?_)
      refine w_callVv (fun m => m) X hZ hF [.int x_4] 0 ml_0 mo_0 rfl rfl rfl kB_X12_lays kL_X12_216 (fun res h => ct_X12_lays l hZ fu x_4 p_3.2 res h) rfl rfl rfl ⟨Nat.le_of_ble_eq_true rfl, Nat.le_of_ble_eq_true rfl⟩ (Nat.le_of_ble_eq_true rfl) ⟨Nat.zero_le _, Nat.zero_le _⟩ dX12_distanceFrom_38 41 rfl (fun m_5 hF => ?_)
      refine w_aload_n X 0 dX12_distanceFrom_41 rfl rfl 42 rfl ?_
      refine w_getV (v := .ref (ad 7)) X 0 ml_0 mo_0 (T := TX12) (N := 50) rfl in_X12 20 (by decide) kF_X12_35 rfl rfl dX12_distanceFrom_42 45 rfl ?_
      refine w_bipush X 9 dX12_distanceFrom_45 rfl 47 rfl ?_
      refine w_iload_n X 3 dX12_distanceFrom_47 rfl rfl 48 rfl ?_
      refine w_imul X dX12_distanceFrom_48 49 rfl ?_
      refine w_iload_n X 2 dX12_distanceFrom_49 rfl rfl 50 rfl ?_
      refine w_iadd X dX12_distanceFrom_50 51 rfl ?_
      refine w_gi hF (fun h_6 hF => ?_)
      refine w_ial X 7 ml_7 mo_7 (t0 := 0) rfl h_6 dX12_distanceFrom_51 52 rfl ?_
      exact w_iret X hQ (o_inj1 hF) (o_inj2 hF) rfl dX12_distanceFrom_52
  have w_22 : ∀ (x1 : Int32) (x2 : Int32) (x3 : Int32) (mem : Mem), K_X12_distanceFrom_22 fu x1 x2 x3 mem = some res → WW D 23 ad (cM ca ad) p l e rm_X12_distanceFrom s m args below meth c 4 0 0 Q mem 22 [(0, .ref (ad 0)), (1, .int x1), (2, .int x2), (3, .int x3)] [.ref (ad 0)] := by
    intro x1 x2 x3 mem hF
    rw [K_X12_distanceFrom_22] at hF
    refine w_iconst X 0 dX12_distanceFrom_22 rfl 23 rfl ?_
    refine w_keep [0, 1, 2, 3] rfl ?_
    exact w_23 x1 x2 x3 0 mem hF
  intro hF
  refine w_aload_n X 0 dX12_distanceFrom_0 rfl rfl 1 rfl ?_
  refine w_aload_n X 0 dX12_distanceFrom_1 rfl rfl 2 rfl ?_
  refine w_iload_n X 1 dX12_distanceFrom_2 rfl rfl 3 rfl ?_
  refine w_callVi (fun x => x) (fun _ => mem) X hZ hF [.int x1] 0 ml_0 mo_0 rfl rfl rfl kB_X12_isPawn kL_X12_339 (fun res h => ct_X12_isPawn l hZ fu x1 mem res h) rfl rfl rfl ⟨Nat.le_of_ble_eq_true rfl, Nat.le_of_ble_eq_true rfl⟩ (Nat.le_of_ble_eq_true rfl) ⟨Nat.zero_le _, Nat.zero_le _⟩ dX12_distanceFrom_3 6 rfl (fun x_1 hF => ?_)
  refine w_if_eq X hF 22 9 dX12_distanceFrom_6 (by decide) rfl (fun hF => ?_) (fun hF => ?_)
  · refine w_keep [0, 1, 2, 3] rfl ?_
    exact w_22 x1 x2 x3 mem hF
  · refine w_aload_n X 0 dX12_distanceFrom_9 rfl rfl 10 rfl ?_
    refine w_iload_n X 2 dX12_distanceFrom_10 rfl rfl 11 rfl ?_
    refine w_iload_n X 3 dX12_distanceFrom_11 rfl rfl 12 rfl ?_
    refine w_callVi (fun x => x) (fun _ => mem) X hZ hF [.int x2, .int x3] 0 ml_0 mo_0 rfl rfl rfl kB_X12_isCell kL_X12_187 (fun res h => ct_X12_isCell l hZ fu x2 x3 mem res h) rfl rfl rfl ⟨Nat.le_of_ble_eq_true rfl, Nat.le_of_ble_eq_true rfl⟩ (Nat.le_of_ble_eq_true rfl) ⟨Nat.zero_le _, Nat.zero_le _⟩ dX12_distanceFrom_12 15 rfl (fun x_2 hF => ?_)
    refine w_if_eq X hF 22 18 dX12_distanceFrom_15 (by decide) rfl (fun hF => ?_) (fun hF => ?_)
    · refine w_keep [0, 1, 2, 3] rfl ?_
      exact w_22 x1 x2 x3 mem hF
    · refine w_iconst X 1 dX12_distanceFrom_18 rfl 19 rfl ?_
      refine w_goto X 23 dX12_distanceFrom_19 (by decide) ?_
      refine w_keep [0, 1, 2, 3] rfl ?_
      exact w_23 x1 x2 x3 1 mem hF

def K_X12_mayStep (fu : Nat) (x1 : Int32) (mem : Mem) : Option (Int32 × Mem) := bd (K_X12_over fu mem) (fun x_1 => (if x_1 = 0 then gi 7 184 (bd (K_X12_goesBy fu (rd mem 2 (Int32.toNatClampNeg 7)) x1 mem) (fun p_3 => (if 0 < p_3.1 then some (1, p_3.2) else some (0, p_3.2)))) else some (0, mem)))
def rm_X12_mayStep : Room := { frames := 5, cells := 0, slots := 0, locals := 125 }
set_option maxHeartbeats 4000000 in
set_option maxRecDepth 100000 in
theorem ct_X12_mayStep (l : Launch) {D : va_G} {ca ad : Nat → Nat} {Z : (Nat → Prop) → State → Heap → Prop} (hZ : ZOK Z) (fu : Nat) (x1 : Int32) (mem : Mem) (res : (Int32 × Mem)) (hF : K_X12_mayStep fu x1 mem = some res) : CI l D (tyL ca) 23 ad (cM ca ad) Z yX12_mayStep cX12_mayStep 2 .boolean rm_X12_mayStep [.ref (ad 0), .int x1] mem res.1 res.2 := by
  refine start_i (own := RX12) rfl (by decide) (Nat.le_of_ble_eq_true rfl) ?_
  intro p e s m args below meth c Q hQ X
  rw [K_X12_mayStep] at hF
  revert hF
  intro hF
  refine w_aload_n X 0 dX12_mayStep_0 rfl rfl 1 rfl ?_
  refine w_callVi (fun x => x) (fun _ => mem) X hZ hF [] 0 ml_0 mo_0 rfl rfl rfl kB_X12_over kL_X12_351 (fun res h => ct_X12_over l hZ fu mem res h) rfl rfl rfl ⟨Nat.le_of_ble_eq_true rfl, Nat.le_of_ble_eq_true rfl⟩ (Nat.le_of_ble_eq_true rfl) ⟨Nat.zero_le _, Nat.zero_le _⟩ dX12_mayStep_1 4 rfl (fun x_1 hF => ?_)
  refine w_if_ne X hF 26 7 dX12_mayStep_4 (by decide) rfl (fun hF => ?_) (fun hF => ?_)
  · refine w_aload_n X 0 dX12_mayStep_7 rfl rfl 8 rfl ?_
    refine w_aload_n X 0 dX12_mayStep_8 rfl rfl 9 rfl ?_
    refine w_getV (v := .ref (ad 2)) X 0 ml_0 mo_0 (T := TX12) (N := 50) rfl in_X12 13 (by decide) kF_X12_20 rfl rfl dX12_mayStep_9 12 rfl ?_
    refine w_bipush X 7 dX12_mayStep_12 rfl 14 rfl ?_
    refine w_gi hF (fun h_2 hF => ?_)
    refine w_ial X 2 ml_2 mo_2 (t0 := 0) rfl h_2 dX12_mayStep_14 15 rfl ?_
    refine w_iload_n X 1 dX12_mayStep_15 rfl rfl 16 rfl ?_
    refine w_callVi (fun x => x.1) (fun x => x.2) X hZ hF [.int (rd mem 2 (Int32.toNatClampNeg 7)), .int x1] 0 ml_0 mo_0 rfl rfl rfl kB_X12_goesBy kL_X12_379 (fun res h => ct_X12_goesBy l hZ fu (rd mem 2 (Int32.toNatClampNeg 7)) x1 mem res h) rfl rfl rfl ⟨Nat.le_of_ble_eq_true rfl, Nat.le_of_ble_eq_true rfl⟩ (Nat.le_of_ble_eq_true rfl) ⟨Nat.zero_le _, Nat.zero_le _⟩ dX12_mayStep_16 19 rfl (fun p_3 hF => ?_)
    refine w_if_le X hF 26 22 dX12_mayStep_19 (by decide) rfl (fun hF => ?_) (fun hF => ?_)
    · refine w_iconst X 1 dX12_mayStep_22 rfl 23 rfl ?_
      refine w_goto X 27 dX12_mayStep_23 (by decide) ?_
      exact w_iret X hQ (o_inj1 hF) (o_inj2 hF) rfl dX12_mayStep_27
    · refine w_iconst X 0 dX12_mayStep_26 rfl 27 rfl ?_
      exact w_iret X hQ (o_inj1 hF) (o_inj2 hF) rfl dX12_mayStep_27
  · refine w_iconst X 0 dX12_mayStep_26 rfl 27 rfl ?_
    exact w_iret X hQ (o_inj1 hF) (o_inj2 hF) rfl dX12_mayStep_27

def K_X12_stepsOf_24 (fu : Nat) (k_4 : Int32 → Int32 → Int32 → Mem → Option (Int32 × Mem)) (x1 : Int32) (x3 : Int32) (xs0 : Int32) (xs1 : Int32) (mem : Mem) : Option (Int32 × Mem) := bd (K_X12_truth fu xs0 mem) (fun x_2 => lt_ (xs1 ||| (x_2 <<< (x3 &&& 31))) (fun x_3 => (k_4 x1 x_3 (x3 + 1) mem)))
def K_X12_stepsOf_4 (fu : Nat) : Nat → Int32 → Int32 → Int32 → Mem → Option (Int32 × Mem)
  | 0, _, _, _, _ => none
  | n + 1, x1, x2, x3, mem => (if x3 < 4 then bd (K_X12_goesBy fu x1 x3 mem) (fun p_1 => (if 0 < p_1.1 then (K_X12_stepsOf_24 fu (K_X12_stepsOf_4 fu n) x1 x3 1 x2 p_1.2) else (K_X12_stepsOf_24 fu (K_X12_stepsOf_4 fu n) x1 x3 0 x2 p_1.2))) else some (x2, mem))
def K_X12_stepsOf (fu : Nat) (x1 : Int32) (mem : Mem) : Option (Int32 × Mem) := (K_X12_stepsOf_4 fu fu x1 0 0 mem)
def rm_X12_stepsOf : Room := { frames := 5, cells := 0, slots := 0, locals := 125 }
set_option maxHeartbeats 4000000 in
set_option maxRecDepth 100000 in
theorem ct_X12_stepsOf (l : Launch) {D : va_G} {ca ad : Nat → Nat} {Z : (Nat → Prop) → State → Heap → Prop} (hZ : ZOK Z) (fu : Nat) (x1 : Int32) (mem : Mem) (res : (Int32 × Mem)) (hF : K_X12_stepsOf fu x1 mem = some res) : CI l D (tyL ca) 23 ad (cM ca ad) Z yX12_stepsOf cX12_stepsOf 4 .int rm_X12_stepsOf [.ref (ad 0), .int x1] mem res.1 res.2 := by
  refine start_i (own := RX12) rfl (by decide) (Nat.le_of_ble_eq_true rfl) ?_
  intro p e s m args below meth c Q hQ X
  rw [K_X12_stepsOf] at hF
  revert hF
  have w_24 : ∀ (k_4 : Int32 → Int32 → Int32 → Mem → Option (Int32 × Mem)) (hk_4 : ∀ (x1 : Int32) (x2 : Int32) (x3 : Int32) (mem : Mem), k_4 x1 x2 x3 mem = some res → WW D 23 ad (cM ca ad) p l e rm_X12_stepsOf s m args below meth c 4 0 0 Q mem 4 [(0, .ref (ad 0)), (1, .int x1), (2, .int x2), (3, .int x3)] []) (x1 : Int32) (x3 : Int32) (xs0 : Int32) (xs1 : Int32) (mem : Mem), K_X12_stepsOf_24 fu k_4 x1 x3 xs0 xs1 mem = some res → WW D 23 ad (cM ca ad) p l e rm_X12_stepsOf s m args below meth c 4 0 0 Q mem 24 [(0, .ref (ad 0)), (1, .int x1), (3, .int x3)] [.int xs0, .int xs1] := by
    intro k_4 hk_4 x1 x3 xs0 xs1 mem hF
    rw [K_X12_stepsOf_24] at hF
    refine w_callSi (fun x => x) (fun _ => mem) X hZ hF [.int xs0] rfl kB_X12_truth kL_X12_91 (fun res h => ct_X12_truth l hZ fu xs0 mem res h) rfl rfl rfl ⟨Nat.le_of_ble_eq_true rfl, Nat.le_of_ble_eq_true rfl⟩ (Nat.le_of_ble_eq_true rfl) ⟨Nat.zero_le _, Nat.zero_le _⟩ dX12_stepsOf_24 27 rfl (fun x_2 hF => ?_)
    refine w_iload_n X 2 dX12_stepsOf_27 rfl rfl 28 rfl ?_
    refine w_ishl X dX12_stepsOf_28 29 rfl ?_
    refine w_ior X dX12_stepsOf_29 30 rfl ?_
    refine w_let hF (fun x_3 hF => ?_)
    refine w_istore_n X [(2, .int x_3), (0, .ref (ad 0)), (1, .int x1), (3, .int x3)] dX12_stepsOf_30 rfl (by decide) rfl 31 rfl ?_
    refine w_iinc X 3 (x3 + 1) [(3, .int (x3 + 1)), (2, .int x_3), (0, .ref (ad 0)), (1, .int x1)] dX12_stepsOf_31 rfl rfl (by decide) rfl 34 rfl ?_
    refine w_goto X 4 dX12_stepsOf_34 (by decide) ?_
    refine w_keep [2, 3, 1, 0] rfl ?_
    exact hk_4 x1 x_3 (x3 + 1) mem hF
  have w_4 : ∀ (n : Nat) (x1 : Int32) (x2 : Int32) (x3 : Int32) (mem : Mem), K_X12_stepsOf_4 fu n x1 x2 x3 mem = some res → WW D 23 ad (cM ca ad) p l e rm_X12_stepsOf s m args below meth c 4 0 0 Q mem 4 [(0, .ref (ad 0)), (1, .int x1), (2, .int x2), (3, .int x3)] [] := by
    intro n
    induction n with
    | zero => intro x1 x2 x3 mem hF; exact no_none (show (none : Option (Int32 × Mem)) = some res from hF)
    | succ n ih =>
      intro x1 x2 x3 mem hF
      rw [K_X12_stepsOf_4] at hF
      refine w_iload_n X 3 dX12_stepsOf_4 rfl rfl 5 rfl ?_
      refine w_iconst X 4 dX12_stepsOf_5 rfl 6 rfl ?_
      refine w_icmp_ge X hF 37 9 dX12_stepsOf_6 (by decide) rfl (fun hF => ?_) (fun hF => ?_)
      · refine w_iload_n X 2 dX12_stepsOf_9 rfl rfl 10 rfl ?_
        refine w_aload_n X 0 dX12_stepsOf_10 rfl rfl 11 rfl ?_
        refine w_iload_n X 1 dX12_stepsOf_11 rfl rfl 12 rfl ?_
        refine w_iload_n X 3 dX12_stepsOf_12 rfl rfl 13 rfl ?_
        refine w_callVi (fun x => x.1) (fun x => x.2) X hZ hF [.int x1, .int x3] 0 ml_0 mo_0 rfl rfl rfl kB_X12_goesBy kL_X12_379 (fun res h => ct_X12_goesBy l hZ fu x1 x3 mem res h) rfl rfl rfl ⟨Nat.le_of_ble_eq_true rfl, Nat.le_of_ble_eq_true rfl⟩ (Nat.le_of_ble_eq_true rfl) ⟨Nat.zero_le _, Nat.zero_le _⟩ dX12_stepsOf_13 16 rfl (fun p_1 hF => ?_)
        refine w_if_le X hF 23 19 dX12_stepsOf_16 (by decide) rfl (fun hF => ?_) (fun hF => ?_)
        · refine w_iconst X 1 dX12_stepsOf_19 rfl 20 rfl ?_
          refine w_goto X 24 dX12_stepsOf_20 (by decide) ?_
          refine w_keep [0, 1, 3] rfl ?_
          exact w_24 (K_X12_stepsOf_4 fu n) ih x1 x3 1 x2 p_1.2 hF
        · refine w_iconst X 0 dX12_stepsOf_23 rfl 24 rfl ?_
          refine w_keep [0, 1, 3] rfl ?_
          exact w_24 (K_X12_stepsOf_4 fu n) ih x1 x3 0 x2 p_1.2 hF
      · refine w_iload_n X 2 dX12_stepsOf_37 rfl rfl 38 rfl ?_
        exact w_iret X hQ (o_inj1 hF) (o_inj2 hF) rfl dX12_stepsOf_38
  intro hF
  refine w_iconst X 0 dX12_stepsOf_0 rfl 1 rfl ?_
  refine w_istore_n X [(2, .int 0), (0, .ref (ad 0)), (1, .int x1)] dX12_stepsOf_1 rfl (by decide) rfl 2 rfl ?_
  refine w_iconst X 0 dX12_stepsOf_2 rfl 3 rfl ?_
  refine w_istore_n X [(3, .int 0), (2, .int 0), (0, .ref (ad 0)), (1, .int x1)] dX12_stepsOf_3 rfl (by decide) rfl 4 rfl ?_
  refine w_keep [2, 3, 1, 0] rfl ?_
  exact w_4 fu x1 0 0 mem hF

def K_X12_mayPass (fu : Nat) (mem : Mem) : Option (Int32 × Mem) := bd (K_X12_over fu mem) (fun x_1 => (if x_1 = 0 then gi 7 184 (bd (K_X12_stepsOf fu (rd mem 2 (Int32.toNatClampNeg 7)) mem) (fun p_3 => (if p_3.1 = 0 then some (1, p_3.2) else some (0, p_3.2)))) else some (0, mem)))
def rm_X12_mayPass : Room := { frames := 6, cells := 0, slots := 0, locals := 148 }
set_option maxHeartbeats 4000000 in
set_option maxRecDepth 100000 in
theorem ct_X12_mayPass (l : Launch) {D : va_G} {ca ad : Nat → Nat} {Z : (Nat → Prop) → State → Heap → Prop} (hZ : ZOK Z) (fu : Nat) (mem : Mem) (res : (Int32 × Mem)) (hF : K_X12_mayPass fu mem = some res) : CI l D (tyL ca) 23 ad (cM ca ad) Z yX12_mayPass cX12_mayPass 1 .boolean rm_X12_mayPass [.ref (ad 0)] mem res.1 res.2 := by
  refine start_i (own := RX12) rfl (by decide) (Nat.le_of_ble_eq_true rfl) ?_
  intro p e s m args below meth c Q hQ X
  rw [K_X12_mayPass] at hF
  revert hF
  intro hF
  refine w_aload_n X 0 dX12_mayPass_0 rfl rfl 1 rfl ?_
  refine w_callVi (fun x => x) (fun _ => mem) X hZ hF [] 0 ml_0 mo_0 rfl rfl rfl kB_X12_over kL_X12_351 (fun res h => ct_X12_over l hZ fu mem res h) rfl rfl rfl ⟨Nat.le_of_ble_eq_true rfl, Nat.le_of_ble_eq_true rfl⟩ (Nat.le_of_ble_eq_true rfl) ⟨Nat.zero_le _, Nat.zero_le _⟩ dX12_mayPass_1 4 rfl (fun x_1 hF => ?_)
  refine w_if_ne X hF 25 7 dX12_mayPass_4 (by decide) rfl (fun hF => ?_) (fun hF => ?_)
  · refine w_aload_n X 0 dX12_mayPass_7 rfl rfl 8 rfl ?_
    refine w_aload_n X 0 dX12_mayPass_8 rfl rfl 9 rfl ?_
    refine w_getV (v := .ref (ad 2)) X 0 ml_0 mo_0 (T := TX12) (N := 50) rfl in_X12 13 (by decide) kF_X12_20 rfl rfl dX12_mayPass_9 12 rfl ?_
    refine w_bipush X 7 dX12_mayPass_12 rfl 14 rfl ?_
    refine w_gi hF (fun h_2 hF => ?_)
    refine w_ial X 2 ml_2 mo_2 (t0 := 0) rfl h_2 dX12_mayPass_14 15 rfl ?_
    refine w_callVi (fun x => x.1) (fun x => x.2) X hZ hF [.int (rd mem 2 (Int32.toNatClampNeg 7))] 0 ml_0 mo_0 rfl rfl rfl kB_X12_stepsOf kL_X12_382 (fun res h => ct_X12_stepsOf l hZ fu (rd mem 2 (Int32.toNatClampNeg 7)) mem res h) rfl rfl rfl ⟨Nat.le_of_ble_eq_true rfl, Nat.le_of_ble_eq_true rfl⟩ (Nat.le_of_ble_eq_true rfl) ⟨Nat.zero_le _, Nat.zero_le _⟩ dX12_mayPass_15 18 rfl (fun p_3 hF => ?_)
    refine w_if_ne X hF 25 21 dX12_mayPass_18 (by decide) rfl (fun hF => ?_) (fun hF => ?_)
    · refine w_iconst X 1 dX12_mayPass_21 rfl 22 rfl ?_
      refine w_goto X 26 dX12_mayPass_22 (by decide) ?_
      exact w_iret X hQ (o_inj1 hF) (o_inj2 hF) rfl dX12_mayPass_26
    · refine w_iconst X 0 dX12_mayPass_25 rfl 26 rfl ?_
      exact w_iret X hQ (o_inj1 hF) (o_inj2 hF) rfl dX12_mayPass_26
  · refine w_iconst X 0 dX12_mayPass_25 rfl 26 rfl ?_
    exact w_iret X hQ (o_inj1 hF) (o_inj2 hF) rfl dX12_mayPass_26

def K_X12_steps__124 (fu : Nat) (mem : Mem) : Option Mem := bd (K_X12_endsTurn fu mem) (fun m_25 => some m_25)
def K_X12_steps_ (fu : Nat) (x1 : Int32) (x2 : Int32) (x3 : Int32) (mem : Mem) : Option Mem := lt_ (8 + (7 * x1)) (fun x_1 => gi x_1 184 (bd (K_X12_across fu x2 mem) (fun x_3 => gi x_1 184 (lt_ (mw mem 2 (Int32.toNatClampNeg x_1) ((rd mem 2 (Int32.toNatClampNeg x_1)) + (x3 * x_3))) (fun m_5 => gi (x_1 + 1) 184 (bd (K_X12_up fu x2 m_5) (fun x_7 => gi (x_1 + 1) 184 (lt_ (mw m_5 2 (Int32.toNatClampNeg (x_1 + 1)) ((rd m_5 2 (Int32.toNatClampNeg (x_1 + 1))) + (x3 * x_7))) (fun m_9 => gi (x_1 + 4) 184 (gi (x_1 + 4) 184 (lt_ (mw m_9 2 (Int32.toNatClampNeg (x_1 + 4)) ((rd m_9 2 (Int32.toNatClampNeg (x_1 + 4))) + 1)) (fun m_12 => gi (x_1 + 5) 184 (lt_ (mw m_12 2 (Int32.toNatClampNeg (x_1 + 5)) x2) (fun m_14 => gi x_1 184 (gi (x_1 + 1) 184 (gi (x_1 + 2) 184 (bd (K_X12_isAtSide fu (rd m_14 2 (Int32.toNatClampNeg x_1)) (rd m_14 2 (Int32.toNatClampNeg (x_1 + 1))) (rd m_14 2 (Int32.toNatClampNeg (x_1 + 2))) m_14) (fun x_18 => (if x_18 = 0 then (K_X12_steps__124 fu m_14) else gi 5 184 (gi 5 184 (lt_ (mw m_14 2 (Int32.toNatClampNeg 5) ((rd m_14 2 (Int32.toNatClampNeg 5)) + 1)) (fun m_21 => gi 5 184 (gi (x_1 + 6) 184 (lt_ (mw m_21 2 (Int32.toNatClampNeg (x_1 + 6)) (rd m_21 2 (Int32.toNatClampNeg 5))) (fun m_24 => (K_X12_steps__124 fu m_24))))))))))))))))))))))))))
def rm_X12_steps_ : Room := { frames := 3, cells := 0, slots := 0, locals := 66 }
set_option maxHeartbeats 4000000 in
set_option maxRecDepth 100000 in
theorem ct_X12_steps_ (l : Launch) {D : va_G} {ca ad : Nat → Nat} {Z : (Nat → Prop) → State → Heap → Prop} (hZ : ZOK Z) (fu : Nat) (x1 : Int32) (x2 : Int32) (x3 : Int32) (mem : Mem) (res : Mem) (hF : K_X12_steps_ fu x1 x2 x3 mem = some res) : CV l D (tyL ca) 23 ad (cM ca ad) Z yX12_steps_ cX12_steps_ 5 rm_X12_steps_ [.ref (ad 0), .int x1, .int x2, .int x3] mem res := by
  refine start_v (own := RX12) rfl (by decide) (Nat.le_of_ble_eq_true rfl) ?_
  intro p e s m args below meth c Q hQ X
  rw [K_X12_steps_] at hF
  revert hF
  have w_124 : ∀ (mem : Mem), K_X12_steps__124 fu mem = some res → WW D 23 ad (cM ca ad) p l e rm_X12_steps_ s m args below meth c 5 0 0 Q mem 124 [(0, .ref (ad 0))] [] := by
    intro mem hF
    rw [K_X12_steps__124] at hF
    refine w_aload_n X 0 dX12_steps__124 rfl rfl 125 rfl ?_
    refine w_callVv (fun m => m) X hZ hF [] 0 ml_0 mo_0 rfl rfl rfl kB_X12_endsTurn kL_X12_444 (fun res h => ct_X12_endsTurn l hZ fu mem res h) rfl rfl rfl ⟨Nat.le_of_ble_eq_true rfl, Nat.le_of_ble_eq_true rfl⟩ (Nat.le_of_ble_eq_true rfl) ⟨Nat.zero_le _, Nat.zero_le _⟩ dX12_steps__125 128 rfl (fun m_25 hF => ?_)
    exact w_vret X hQ (o_inj hF) dX12_steps__128
  intro hF
  refine w_bipush X 8 dX12_steps__0 rfl 2 rfl ?_
  refine w_bipush X 7 dX12_steps__2 rfl 4 rfl ?_
  refine w_iload_n X 1 dX12_steps__4 rfl rfl 5 rfl ?_
  refine w_imul X dX12_steps__5 6 rfl ?_
  refine w_iadd X dX12_steps__6 7 rfl ?_
  refine w_let hF (fun x_1 hF => ?_)
  refine w_istore X [(4, .int x_1), (0, .ref (ad 0)), (1, .int x1), (2, .int x2), (3, .int x3)] dX12_steps__7 (by decide) rfl 9 rfl ?_
  refine w_aload_n X 1 dX12_steps__9 rfl rfl 10 rfl ?_
  refine w_getV (v := .ref (ad 2)) X 0 ml_0 mo_0 (T := TX12) (N := 50) rfl in_X12 13 (by decide) kF_X12_20 rfl rfl dX12_steps__10 13 rfl ?_
  refine w_iload X 0 dX12_steps__13 rfl 15 rfl ?_
  refine w_dup2 X dX12_steps__15 rfl rfl 16 rfl ?_
  refine w_gi hF (fun h_2 hF => ?_)
  refine w_ial X 2 ml_2 mo_2 (t0 := 0) rfl h_2 dX12_steps__16 17 rfl ?_
  refine w_iload_n X 4 dX12_steps__17 rfl rfl 18 rfl ?_
  refine w_iload_n X 3 dX12_steps__18 rfl rfl 19 rfl ?_
  refine w_callSi (fun x => x) (fun _ => mem) X hZ hF [.int x2] rfl kB_X12_across kL_X12_181 (fun res h => ct_X12_across l hZ fu x2 mem res h) rfl rfl rfl ⟨Nat.le_of_ble_eq_true rfl, Nat.le_of_ble_eq_true rfl⟩ (Nat.le_of_ble_eq_true rfl) ⟨Nat.zero_le _, Nat.zero_le _⟩ dX12_steps__19 22 rfl (fun x_3 hF => ?_)
  refine w_imul X dX12_steps__22 23 rfl ?_
  refine w_iadd X dX12_steps__23 24 rfl ?_
  refine w_gi hF (fun h_4 hF => ?_)
  refine w_ias X 2 ml_2 mo_2 (t0 := 0) rfl h_4 dX12_steps__24 25 rfl ?_
  refine w_letm hF (fun m_5 hF => ?_)
  refine w_aload_n X 1 dX12_steps__25 rfl rfl 26 rfl ?_
  refine w_getV (v := .ref (ad 2)) X 0 ml_0 mo_0 (T := TX12) (N := 50) rfl in_X12 13 (by decide) kF_X12_20 rfl rfl dX12_steps__26 29 rfl ?_
  refine w_iload X 0 dX12_steps__29 rfl 31 rfl ?_
  refine w_iconst X 1 dX12_steps__31 rfl 32 rfl ?_
  refine w_iadd X dX12_steps__32 33 rfl ?_
  refine w_dup2 X dX12_steps__33 rfl rfl 34 rfl ?_
  refine w_gi hF (fun h_6 hF => ?_)
  refine w_ial X 2 ml_2 mo_2 (t0 := 0) rfl h_6 dX12_steps__34 35 rfl ?_
  refine w_iload_n X 4 dX12_steps__35 rfl rfl 36 rfl ?_
  refine w_iload_n X 3 dX12_steps__36 rfl rfl 37 rfl ?_
  refine w_callSi (fun x => x) (fun _ => m_5) X hZ hF [.int x2] rfl kB_X12_up kL_X12_184 (fun res h => ct_X12_up l hZ fu x2 m_5 res h) rfl rfl rfl ⟨Nat.le_of_ble_eq_true rfl, Nat.le_of_ble_eq_true rfl⟩ (Nat.le_of_ble_eq_true rfl) ⟨Nat.zero_le _, Nat.zero_le _⟩ dX12_steps__37 40 rfl (fun x_7 hF => ?_)
  refine w_imul X dX12_steps__40 41 rfl ?_
  refine w_iadd X dX12_steps__41 42 rfl ?_
  refine w_gi hF (fun h_8 hF => ?_)
  refine w_ias X 2 ml_2 mo_2 (t0 := 0) rfl h_8 dX12_steps__42 43 rfl ?_
  refine w_letm hF (fun m_9 hF => ?_)
  refine w_aload_n X 1 dX12_steps__43 rfl rfl 44 rfl ?_
  refine w_getV (v := .ref (ad 2)) X 0 ml_0 mo_0 (T := TX12) (N := 50) rfl in_X12 13 (by decide) kF_X12_20 rfl rfl dX12_steps__44 47 rfl ?_
  refine w_iload X 0 dX12_steps__47 rfl 49 rfl ?_
  refine w_iconst X 4 dX12_steps__49 rfl 50 rfl ?_
  refine w_iadd X dX12_steps__50 51 rfl ?_
  refine w_dup2 X dX12_steps__51 rfl rfl 52 rfl ?_
  refine w_gi hF (fun h_10 hF => ?_)
  refine w_ial X 2 ml_2 mo_2 (t0 := 0) rfl h_10 dX12_steps__52 53 rfl ?_
  refine w_iconst X 1 dX12_steps__53 rfl 54 rfl ?_
  refine w_iadd X dX12_steps__54 55 rfl ?_
  refine w_gi hF (fun h_11 hF => ?_)
  refine w_ias X 2 ml_2 mo_2 (t0 := 0) rfl h_11 dX12_steps__55 56 rfl ?_
  refine w_letm hF (fun m_12 hF => ?_)
  refine w_aload_n X 1 dX12_steps__56 rfl rfl 57 rfl ?_
  refine w_getV (v := .ref (ad 2)) X 0 ml_0 mo_0 (T := TX12) (N := 50) rfl in_X12 13 (by decide) kF_X12_20 rfl rfl dX12_steps__57 60 rfl ?_
  refine w_iload X 0 dX12_steps__60 rfl 62 rfl ?_
  refine w_iconst X 5 dX12_steps__62 rfl 63 rfl ?_
  refine w_iadd X dX12_steps__63 64 rfl ?_
  refine w_iload_n X 3 dX12_steps__64 rfl rfl 65 rfl ?_
  refine w_gi hF (fun h_13 hF => ?_)
  refine w_ias X 2 ml_2 mo_2 (t0 := 0) rfl h_13 dX12_steps__65 66 rfl ?_
  refine w_letm hF (fun m_14 hF => ?_)
  refine w_aload_n X 1 dX12_steps__66 rfl rfl 67 rfl ?_
  refine w_aload_n X 1 dX12_steps__67 rfl rfl 68 rfl ?_
  refine w_getV (v := .ref (ad 2)) X 0 ml_0 mo_0 (T := TX12) (N := 50) rfl in_X12 13 (by decide) kF_X12_20 rfl rfl dX12_steps__68 71 rfl ?_
  refine w_iload X 0 dX12_steps__71 rfl 73 rfl ?_
  refine w_gi hF (fun h_15 hF => ?_)
  refine w_ial X 2 ml_2 mo_2 (t0 := 0) rfl h_15 dX12_steps__73 74 rfl ?_
  refine w_aload_n X 1 dX12_steps__74 rfl rfl 75 rfl ?_
  refine w_getV (v := .ref (ad 2)) X 0 ml_0 mo_0 (T := TX12) (N := 50) rfl in_X12 13 (by decide) kF_X12_20 rfl rfl dX12_steps__75 78 rfl ?_
  refine w_iload X 0 dX12_steps__78 rfl 80 rfl ?_
  refine w_iconst X 1 dX12_steps__80 rfl 81 rfl ?_
  refine w_iadd X dX12_steps__81 82 rfl ?_
  refine w_gi hF (fun h_16 hF => ?_)
  refine w_ial X 2 ml_2 mo_2 (t0 := 0) rfl h_16 dX12_steps__82 83 rfl ?_
  refine w_aload_n X 1 dX12_steps__83 rfl rfl 84 rfl ?_
  refine w_getV (v := .ref (ad 2)) X 0 ml_0 mo_0 (T := TX12) (N := 50) rfl in_X12 13 (by decide) kF_X12_20 rfl rfl dX12_steps__84 87 rfl ?_
  refine w_iload X 0 dX12_steps__87 rfl 89 rfl ?_
  refine w_iconst X 2 dX12_steps__89 rfl 90 rfl ?_
  refine w_iadd X dX12_steps__90 91 rfl ?_
  refine w_gi hF (fun h_17 hF => ?_)
  refine w_ial X 2 ml_2 mo_2 (t0 := 0) rfl h_17 dX12_steps__91 92 rfl ?_
  refine w_callVi (fun x => x) (fun _ => m_14) X hZ hF [.int (rd m_14 2 (Int32.toNatClampNeg x_1)), .int (rd m_14 2 (Int32.toNatClampNeg (x_1 + 1))), .int (rd m_14 2 (Int32.toNatClampNeg (x_1 + 2)))] 0 ml_0 mo_0 rfl rfl rfl kB_X12_isAtSide kL_X12_199 (fun res h => ct_X12_isAtSide l hZ fu (rd m_14 2 (Int32.toNatClampNeg x_1)) (rd m_14 2 (Int32.toNatClampNeg (x_1 + 1))) (rd m_14 2 (Int32.toNatClampNeg (x_1 + 2))) m_14 res h) rfl rfl rfl ⟨Nat.le_of_ble_eq_true rfl, Nat.le_of_ble_eq_true rfl⟩ (Nat.le_of_ble_eq_true rfl) ⟨Nat.zero_le _, Nat.zero_le _⟩ dX12_steps__92 95 rfl (fun x_18 hF => ?_)
  refine w_if_eq X hF 124 98 dX12_steps__95 (by decide) rfl (fun hF => ?_) (fun hF => ?_)
  · refine w_keep [1] rfl ?_
    exact w_124 m_14 hF
  · refine w_aload_n X 1 dX12_steps__98 rfl rfl 99 rfl ?_
    refine w_getV (v := .ref (ad 2)) X 0 ml_0 mo_0 (T := TX12) (N := 50) rfl in_X12 13 (by decide) kF_X12_20 rfl rfl dX12_steps__99 102 rfl ?_
    refine w_iconst X 5 dX12_steps__102 rfl 103 rfl ?_
    refine w_dup2 X dX12_steps__103 rfl rfl 104 rfl ?_
    refine w_gi hF (fun h_19 hF => ?_)
    refine w_ial X 2 ml_2 mo_2 (t0 := 0) rfl h_19 dX12_steps__104 105 rfl ?_
    refine w_iconst X 1 dX12_steps__105 rfl 106 rfl ?_
    refine w_iadd X dX12_steps__106 107 rfl ?_
    refine w_gi hF (fun h_20 hF => ?_)
    refine w_ias X 2 ml_2 mo_2 (t0 := 0) rfl h_20 dX12_steps__107 108 rfl ?_
    refine w_letm hF (fun m_21 hF => ?_)
    refine w_aload_n X 1 dX12_steps__108 rfl rfl 109 rfl ?_
    refine w_getV (v := .ref (ad 2)) X 0 ml_0 mo_0 (T := TX12) (N := 50) rfl in_X12 13 (by decide) kF_X12_20 rfl rfl dX12_steps__109 112 rfl ?_
    refine w_iload X 0 dX12_steps__112 rfl 114 rfl ?_
    refine w_bipush X 6 dX12_steps__114 rfl 116 rfl ?_
    refine w_iadd X dX12_steps__116 117 rfl ?_
    refine w_aload_n X 1 dX12_steps__117 rfl rfl 118 rfl ?_
    refine w_getV (v := .ref (ad 2)) X 0 ml_0 mo_0 (T := TX12) (N := 50) rfl in_X12 13 (by decide) kF_X12_20 rfl rfl dX12_steps__118 121 rfl ?_
    refine w_iconst X 5 dX12_steps__121 rfl 122 rfl ?_
    refine w_gi hF (fun h_22 hF => ?_)
    refine w_ial X 2 ml_2 mo_2 (t0 := 0) rfl h_22 dX12_steps__122 123 rfl ?_
    refine w_gi hF (fun h_23 hF => ?_)
    refine w_ias X 2 ml_2 mo_2 (t0 := 0) rfl h_23 dX12_steps__123 124 rfl ?_
    refine w_letm hF (fun m_24 hF => ?_)
    refine w_keep [1] rfl ?_
    exact w_124 m_24 hF

def K_X12_stepsNow (fu : Nat) (x1 : Int32) (mem : Mem) : Option (Int32 × Mem) := gi 7 184 (lt_ (rd mem 2 (Int32.toNatClampNeg 7)) (fun x_2 => bd (K_X12_goesBy fu x_2 x1 mem) (fun p_3 => bd (K_X12_steps_ fu x_2 x1 p_3.1 p_3.2) (fun m_4 => bd (K_X12_distanceOf fu x_2 m_4) (fun p_5 => some (p_5.1, p_5.2))))))
def rm_X12_stepsNow : Room := { frames := 7, cells := 0, slots := 0, locals := 164 }
set_option maxHeartbeats 4000000 in
set_option maxRecDepth 100000 in
theorem ct_X12_stepsNow (l : Launch) {D : va_G} {ca ad : Nat → Nat} {Z : (Nat → Prop) → State → Heap → Prop} (hZ : ZOK Z) (fu : Nat) (x1 : Int32) (mem : Mem) (res : (Int32 × Mem)) (hF : K_X12_stepsNow fu x1 mem = some res) : CI l D (tyL ca) 23 ad (cM ca ad) Z yX12_stepsNow cX12_stepsNow 3 .int rm_X12_stepsNow [.ref (ad 0), .int x1] mem res.1 res.2 := by
  refine start_i (own := RX12) rfl (by decide) (Nat.le_of_ble_eq_true rfl) ?_
  intro p e s m args below meth c Q hQ X
  rw [K_X12_stepsNow] at hF
  revert hF
  intro hF
  refine w_aload_n X 0 dX12_stepsNow_0 rfl rfl 1 rfl ?_
  refine w_getV (v := .ref (ad 2)) X 0 ml_0 mo_0 (T := TX12) (N := 50) rfl in_X12 13 (by decide) kF_X12_20 rfl rfl dX12_stepsNow_1 4 rfl ?_
  refine w_bipush X 7 dX12_stepsNow_4 rfl 6 rfl ?_
  refine w_gi hF (fun h_1 hF => ?_)
  refine w_ial X 2 ml_2 mo_2 (t0 := 0) rfl h_1 dX12_stepsNow_6 7 rfl ?_
  refine w_let hF (fun x_2 hF => ?_)
  refine w_istore_n X [(2, .int x_2), (0, .ref (ad 0)), (1, .int x1)] dX12_stepsNow_7 rfl (by decide) rfl 8 rfl ?_
  refine w_aload_n X 1 dX12_stepsNow_8 rfl rfl 9 rfl ?_
  refine w_iload_n X 0 dX12_stepsNow_9 rfl rfl 10 rfl ?_
  refine w_iload_n X 2 dX12_stepsNow_10 rfl rfl 11 rfl ?_
  refine w_aload_n X 1 dX12_stepsNow_11 rfl rfl 12 rfl ?_
  refine w_iload_n X 0 dX12_stepsNow_12 rfl rfl 13 rfl ?_
  refine w_iload_n X 2 dX12_stepsNow_13 rfl rfl 14 rfl ?_
  refine w_callVi (fun x => x.1) (fun x => x.2) X hZ hF [.int x_2, .int x1] 0 ml_0 mo_0 rfl rfl rfl kB_X12_goesBy kL_X12_379 (fun res h => ct_X12_goesBy l hZ fu x_2 x1 mem res h) rfl rfl rfl ⟨Nat.le_of_ble_eq_true rfl, Nat.le_of_ble_eq_true rfl⟩ (Nat.le_of_ble_eq_true rfl) ⟨Nat.zero_le _, Nat.zero_le _⟩ dX12_stepsNow_14 17 rfl (fun p_3 hF => ?_)
  refine w_callVv (fun m => m) X hZ hF [.int x_2, .int x1, .int p_3.1] 0 ml_0 mo_0 rfl rfl rfl kB_X12_steps_ kL_X12_447 (fun res h => ct_X12_steps_ l hZ fu x_2 x1 p_3.1 p_3.2 res h) rfl rfl rfl ⟨Nat.le_of_ble_eq_true rfl, Nat.le_of_ble_eq_true rfl⟩ (Nat.le_of_ble_eq_true rfl) ⟨Nat.zero_le _, Nat.zero_le _⟩ dX12_stepsNow_17 20 rfl (fun m_4 hF => ?_)
  refine w_aload_n X 1 dX12_stepsNow_20 rfl rfl 21 rfl ?_
  refine w_iload_n X 0 dX12_stepsNow_21 rfl rfl 22 rfl ?_
  refine w_callVi (fun x => x.1) (fun x => x.2) X hZ hF [.int x_2] 0 ml_0 mo_0 rfl rfl rfl kB_X12_distanceOf kL_X12_222 (fun res h => ct_X12_distanceOf l hZ fu x_2 m_4 res h) rfl rfl rfl ⟨Nat.le_of_ble_eq_true rfl, Nat.le_of_ble_eq_true rfl⟩ (Nat.le_of_ble_eq_true rfl) ⟨Nat.zero_le _, Nat.zero_le _⟩ dX12_stepsNow_22 25 rfl (fun p_5 hF => ?_)
  exact w_iret X hQ (o_inj1 hF) (o_inj2 hF) rfl dX12_stepsNow_25

def K_X12_nearest_58 (fu : Nat) (k_7 : Int32 → Int32 → Int32 → Int32 → Mem → Option (Int32 × Mem)) (x1 : Int32) (x4 : Int32) (x5 : Int32) (mem : Mem) : Option (Int32 × Mem) := (k_7 x1 x4 x5 (x4 + 1) mem)
def K_X12_nearest_7 (fu : Nat) : Nat → Int32 → Int32 → Int32 → Int32 → Mem → Option (Int32 × Mem)
  | 0, _, _, _, _, _ => none
  | n + 1, x1, x2, x3, x4, mem => gi 2 184 ((if x4 < (rd mem 2 (Int32.toNatClampNeg 2)) then (if x4 = x1 then (K_X12_nearest_7 fu n x1 x2 x3 (x4 + 1) mem) else bd (K_X12_hasFinished fu x4 mem) (fun x_2 => (if x_2 = 0 then bd (K_X12_distanceOf fu x4 mem) (fun p_3 => lt_ p_3.1 (fun x_4 => (if x2 = (-1) then (K_X12_nearest_58 fu (K_X12_nearest_7 fu n) x1 x4 x_4 p_3.2) else (if x_4 < x3 then (K_X12_nearest_58 fu (K_X12_nearest_7 fu n) x1 x4 x_4 p_3.2) else (K_X12_nearest_7 fu n x1 x2 x3 (x4 + 1) p_3.2))))) else (K_X12_nearest_7 fu n x1 x2 x3 (x4 + 1) mem)))) else some (x2, mem)))
def K_X12_nearest (fu : Nat) (x1 : Int32) (mem : Mem) : Option (Int32 × Mem) := (K_X12_nearest_7 fu fu x1 (-1) 0 0 mem)
def rm_X12_nearest : Room := { frames := 7, cells := 0, slots := 0, locals := 164 }
set_option maxHeartbeats 4000000 in
set_option maxRecDepth 100000 in
theorem ct_X12_nearest (l : Launch) {D : va_G} {ca ad : Nat → Nat} {Z : (Nat → Prop) → State → Heap → Prop} (hZ : ZOK Z) (fu : Nat) (x1 : Int32) (mem : Mem) (res : (Int32 × Mem)) (hF : K_X12_nearest fu x1 mem = some res) : CI l D (tyL ca) 23 ad (cM ca ad) Z yX12_nearest cX12_nearest 6 .int rm_X12_nearest [.ref (ad 0), .int x1] mem res.1 res.2 := by
  refine start_i (own := RX12) rfl (by decide) (Nat.le_of_ble_eq_true rfl) ?_
  intro p e s m args below meth c Q hQ X
  rw [K_X12_nearest] at hF
  revert hF
  have w_58 : ∀ (k_7 : Int32 → Int32 → Int32 → Int32 → Mem → Option (Int32 × Mem)) (hk_7 : ∀ (x1 : Int32) (x2 : Int32) (x3 : Int32) (x4 : Int32) (mem : Mem), k_7 x1 x2 x3 x4 mem = some res → WW D 23 ad (cM ca ad) p l e rm_X12_nearest s m args below meth c 6 0 0 Q mem 7 [(0, .ref (ad 0)), (1, .int x1), (2, .int x2), (3, .int x3), (4, .int x4)] []) (x1 : Int32) (x4 : Int32) (x5 : Int32) (mem : Mem), K_X12_nearest_58 fu k_7 x1 x4 x5 mem = some res → WW D 23 ad (cM ca ad) p l e rm_X12_nearest s m args below meth c 6 0 0 Q mem 58 [(0, .ref (ad 0)), (1, .int x1), (4, .int x4), (5, .int x5)] [] := by
    intro k_7 hk_7 x1 x4 x5 mem hF
    rw [K_X12_nearest_58] at hF
    refine w_iload X 2 dX12_nearest_58 rfl 60 rfl ?_
    refine w_istore_n X [(2, .int x4), (0, .ref (ad 0)), (1, .int x1), (4, .int x4), (5, .int x5)] dX12_nearest_60 rfl (by decide) rfl 61 rfl ?_
    refine w_iload X 4 dX12_nearest_61 rfl 63 rfl ?_
    refine w_istore_n X [(3, .int x5), (2, .int x4), (0, .ref (ad 0)), (1, .int x1), (4, .int x4), (5, .int x5)] dX12_nearest_63 rfl (by decide) rfl 64 rfl ?_
    refine w_iinc X 4 (x4 + 1) [(4, .int (x4 + 1)), (3, .int x5), (2, .int x4), (0, .ref (ad 0)), (1, .int x1), (5, .int x5)] dX12_nearest_64 rfl rfl (by decide) rfl 67 rfl ?_
    refine w_goto X 7 dX12_nearest_67 (by decide) ?_
    refine w_keep [3, 4, 2, 1, 0] rfl ?_
    exact hk_7 x1 x4 x5 (x4 + 1) mem hF
  have w_7 : ∀ (n : Nat) (x1 : Int32) (x2 : Int32) (x3 : Int32) (x4 : Int32) (mem : Mem), K_X12_nearest_7 fu n x1 x2 x3 x4 mem = some res → WW D 23 ad (cM ca ad) p l e rm_X12_nearest s m args below meth c 6 0 0 Q mem 7 [(0, .ref (ad 0)), (1, .int x1), (2, .int x2), (3, .int x3), (4, .int x4)] [] := by
    intro n
    induction n with
    | zero => intro x1 x2 x3 x4 mem hF; exact no_none (show (none : Option (Int32 × Mem)) = some res from hF)
    | succ n ih =>
      intro x1 x2 x3 x4 mem hF
      rw [K_X12_nearest_7] at hF
      refine w_iload X 4 dX12_nearest_7 rfl 9 rfl ?_
      refine w_aload_n X 0 dX12_nearest_9 rfl rfl 10 rfl ?_
      refine w_getV (v := .ref (ad 2)) X 0 ml_0 mo_0 (T := TX12) (N := 50) rfl in_X12 13 (by decide) kF_X12_20 rfl rfl dX12_nearest_10 13 rfl ?_
      refine w_iconst X 2 dX12_nearest_13 rfl 14 rfl ?_
      refine w_gi hF (fun h_1 hF => ?_)
      refine w_ial X 2 ml_2 mo_2 (t0 := 0) rfl h_1 dX12_nearest_14 15 rfl ?_
      refine w_icmp_ge X hF 70 18 dX12_nearest_15 (by decide) rfl (fun hF => ?_) (fun hF => ?_)
      · refine w_iload X 4 dX12_nearest_18 rfl 20 rfl ?_
        refine w_iload_n X 1 dX12_nearest_20 rfl rfl 21 rfl ?_
        refine w_icmp_eq X hF 64 24 dX12_nearest_21 (by decide) rfl (fun hF => ?_) (fun hF => ?_)
        · refine w_iinc X 4 (x4 + 1) [(4, .int (x4 + 1)), (0, .ref (ad 0)), (1, .int x1), (2, .int x2), (3, .int x3)] dX12_nearest_64 rfl rfl (by decide) rfl 67 rfl ?_
          refine w_goto X 7 dX12_nearest_67 (by decide) ?_
          refine w_keep [1, 2, 3, 4, 0] rfl ?_
          exact ih x1 x2 x3 (x4 + 1) mem hF
        · refine w_aload_n X 0 dX12_nearest_24 rfl rfl 25 rfl ?_
          refine w_iload X 4 dX12_nearest_25 rfl 27 rfl ?_
          refine w_callVi (fun x => x) (fun _ => mem) X hZ hF [.int x4] 0 ml_0 mo_0 rfl rfl rfl kB_X12_hasFinished kL_X12_213 (fun res h => ct_X12_hasFinished l hZ fu x4 mem res h) rfl rfl rfl ⟨Nat.le_of_ble_eq_true rfl, Nat.le_of_ble_eq_true rfl⟩ (Nat.le_of_ble_eq_true rfl) ⟨Nat.zero_le _, Nat.zero_le _⟩ dX12_nearest_27 30 rfl (fun x_2 hF => ?_)
          refine w_if_eq X hF 36 33 dX12_nearest_30 (by decide) rfl (fun hF => ?_) (fun hF => ?_)
          · refine w_aload_n X 0 dX12_nearest_36 rfl rfl 37 rfl ?_
            refine w_iload X 4 dX12_nearest_37 rfl 39 rfl ?_
            refine w_callVi (fun x => x.1) (fun x => x.2) X hZ hF [.int x4] 0 ml_0 mo_0 rfl rfl rfl kB_X12_distanceOf kL_X12_222 (fun res h => ct_X12_distanceOf l hZ fu x4 mem res h) rfl rfl rfl ⟨Nat.le_of_ble_eq_true rfl, Nat.le_of_ble_eq_true rfl⟩ (Nat.le_of_ble_eq_true rfl) ⟨Nat.zero_le _, Nat.zero_le _⟩ dX12_nearest_39 42 rfl (fun p_3 hF => ?_)
            refine w_let hF (fun x_4 hF => ?_)
            refine w_istore X [(5, .int x_4), (0, .ref (ad 0)), (1, .int x1), (2, .int x2), (3, .int x3), (4, .int x4)] dX12_nearest_42 (by decide) rfl 44 rfl ?_
            refine w_iload_n X 3 dX12_nearest_44 rfl rfl 45 rfl ?_
            refine w_iconst X (-1) dX12_nearest_45 rfl 46 rfl ?_
            refine w_icmp_eq X hF 58 49 dX12_nearest_46 (by decide) rfl (fun hF => ?_) (fun hF => ?_)
            · refine w_keep [1, 2, 5, 0] rfl ?_
              exact w_58 (K_X12_nearest_7 fu n) ih x1 x4 x_4 p_3.2 hF
            · refine w_iload X 0 dX12_nearest_49 rfl 51 rfl ?_
              refine w_iload_n X 4 dX12_nearest_51 rfl rfl 52 rfl ?_
              refine w_icmp_lt X hF 58 55 dX12_nearest_52 (by decide) rfl (fun hF => ?_) (fun hF => ?_)
              · refine w_keep [1, 2, 5, 0] rfl ?_
                exact w_58 (K_X12_nearest_7 fu n) ih x1 x4 x_4 p_3.2 hF
              · refine w_goto X 64 dX12_nearest_55 (by decide) ?_
                refine w_iinc X 5 (x4 + 1) [(4, .int (x4 + 1)), (5, .int x_4), (0, .ref (ad 0)), (1, .int x1), (2, .int x2), (3, .int x3)] dX12_nearest_64 rfl rfl (by decide) rfl 67 rfl ?_
                refine w_goto X 7 dX12_nearest_67 (by decide) ?_
                refine w_keep [2, 3, 4, 5, 0] rfl ?_
                exact ih x1 x2 x3 (x4 + 1) p_3.2 hF
          · refine w_goto X 64 dX12_nearest_33 (by decide) ?_
            refine w_iinc X 4 (x4 + 1) [(4, .int (x4 + 1)), (0, .ref (ad 0)), (1, .int x1), (2, .int x2), (3, .int x3)] dX12_nearest_64 rfl rfl (by decide) rfl 67 rfl ?_
            refine w_goto X 7 dX12_nearest_67 (by decide) ?_
            refine w_keep [1, 2, 3, 4, 0] rfl ?_
            exact ih x1 x2 x3 (x4 + 1) mem hF
      · refine w_iload_n X 2 dX12_nearest_70 rfl rfl 71 rfl ?_
        exact w_iret X hQ (o_inj1 hF) (o_inj2 hF) rfl dX12_nearest_71
  intro hF
  refine w_iconst X (-1) dX12_nearest_0 rfl 1 rfl ?_
  refine w_istore_n X [(2, .int (-1)), (0, .ref (ad 0)), (1, .int x1)] dX12_nearest_1 rfl (by decide) rfl 2 rfl ?_
  refine w_iconst X 0 dX12_nearest_2 rfl 3 rfl ?_
  refine w_istore_n X [(3, .int 0), (2, .int (-1)), (0, .ref (ad 0)), (1, .int x1)] dX12_nearest_3 rfl (by decide) rfl 4 rfl ?_
  refine w_iconst X 0 dX12_nearest_4 rfl 5 rfl ?_
  refine w_istore X [(4, .int 0), (3, .int 0), (2, .int (-1)), (0, .ref (ad 0)), (1, .int x1)] dX12_nearest_5 (by decide) rfl 7 rfl ?_
  refine w_keep [3, 4, 2, 1, 0] rfl ?_
  exact w_7 fu x1 (-1) 0 0 mem hF

def K_X12_playsOne_104 (fu : Nat) (x2 : Int32) (mem : Mem) : Option Mem := bd (K_X12_advises fu x2 mem) (fun p_16 => lt_ p_16.1 (fun x_17 => (if x_17 = (-1) then bd (K_X12_endsTurn fu p_16.2) (fun m_18 => some m_18) else bd (K_X12_goesBy fu x2 x_17 p_16.2) (fun p_19 => bd (K_X12_steps_ fu x2 x_17 p_19.1 p_19.2) (fun m_20 => some m_20)))))
def K_X12_playsOne_31 (fu : Nat) (x2 : Int32) (xs0 : Int32) (mem : Mem) : Option Mem := (if xs0 = (-1) then (K_X12_playsOne_104 fu x2 mem) else bd (K_X12_distanceOf fu xs0 mem) (fun p_5 => bd (K_X12_distanceOf fu x2 p_5.2) (fun p_6 => (if p_5.1 < p_6.1 then bd (K_X12_seeks fu xs0 p_6.2) (fun p_7 => lt_ p_7.1 (fun x_8 => (if x_8 = (-1) then (K_X12_playsOne_104 fu x2 p_7.2) else bd (K_X12_distanceOf fu xs0 p_7.2) (fun p_9 => (if p_9.1 < (rd p_7.2 0 36) then lt_ (x_8 - x_8 / 10 * 10) (fun x_10 => lt_ (x_8 / 10) (fun x_11 => lt_ (x_11 - x_11 / 10 * 10) (fun x_12 => lt_ (x_8 / 100) (fun x_13 => bd (K_X12_builds fu x_10 x_12 (1 + x_13) p_9.2) (fun p_14 => lt_ (mw p_14.2 0 46 p_14.1) (fun m_15 => some m_15)))))) else (K_X12_playsOne_104 fu x2 p_9.2)))))) else (K_X12_playsOne_104 fu x2 p_6.2)))))
def K_X12_playsOne_30 (fu : Nat) (x2 : Int32) (mem : Mem) : Option Mem := (K_X12_playsOne_31 fu x2 (-1) mem)
def K_X12_playsOne (fu : Nat) (x1 : Int32) (mem : Mem) : Option Mem := gi 7 184 (lt_ (rd mem 2 (Int32.toNatClampNeg 7)) (fun x_2 => (if x1 = 1 then bd (K_X12_of fu x_2 3 mem) (fun x_3 => (if 0 < x_3 then bd (K_X12_nearest fu x_2 mem) (fun p_4 => (K_X12_playsOne_31 fu x_2 p_4.1 p_4.2)) else (K_X12_playsOne_30 fu x_2 mem))) else (K_X12_playsOne_30 fu x_2 mem))))
def rm_X12_playsOne : Room := { frames := 10, cells := 0, slots := 0, locals := 236 }
set_option maxHeartbeats 4000000 in
set_option maxRecDepth 100000 in
theorem ct_X12_playsOne (l : Launch) {D : va_G} {ca ad : Nat → Nat} {Z : (Nat → Prop) → State → Heap → Prop} (hZ : ZOK Z) (fu : Nat) (x1 : Int32) (mem : Mem) (res : Mem) (hF : K_X12_playsOne fu x1 mem = some res) : CV l D (tyL ca) 23 ad (cM ca ad) Z yX12_playsOne cX12_playsOne 5 rm_X12_playsOne [.ref (ad 0), .int x1] mem res := by
  refine start_v (own := RX12) rfl (by decide) (Nat.le_of_ble_eq_true rfl) ?_
  intro p e s m args below meth c Q hQ X
  rw [K_X12_playsOne] at hF
  revert hF
  have w_104 : ∀ (x2 : Int32) (mem : Mem), K_X12_playsOne_104 fu x2 mem = some res → WW D 23 ad (cM ca ad) p l e rm_X12_playsOne s m args below meth c 5 0 0 Q mem 104 [(0, .ref (ad 0)), (2, .int x2)] [] := by
    intro x2 mem hF
    rw [K_X12_playsOne_104] at hF
    refine w_aload_n X 0 dX12_playsOne_104 rfl rfl 105 rfl ?_
    refine w_iload_n X 1 dX12_playsOne_105 rfl rfl 106 rfl ?_
    refine w_callVi (fun x => x.1) (fun x => x.2) X hZ hF [.int x2] 0 ml_0 mo_0 rfl rfl rfl kB_X12_advises kL_X12_420 (fun res h => ct_X12_advises l hZ fu x2 mem res h) rfl rfl rfl ⟨Nat.le_of_ble_eq_true rfl, Nat.le_of_ble_eq_true rfl⟩ (Nat.le_of_ble_eq_true rfl) ⟨Nat.zero_le _, Nat.zero_le _⟩ dX12_playsOne_106 109 rfl (fun p_16 hF => ?_)
    refine w_let hF (fun x_17 hF => ?_)
    refine w_istore X [(4, .int x_17), (0, .ref (ad 0)), (2, .int x2)] dX12_playsOne_109 (by decide) rfl 111 rfl ?_
    refine w_iload X 0 dX12_playsOne_111 rfl 113 rfl ?_
    refine w_iconst X (-1) dX12_playsOne_113 rfl 114 rfl ?_
    refine w_icmp_ne X hF 124 117 dX12_playsOne_114 (by decide) rfl (fun hF => ?_) (fun hF => ?_)
    · refine w_aload_n X 1 dX12_playsOne_117 rfl rfl 118 rfl ?_
      refine w_callVv (fun m => m) X hZ hF [] 0 ml_0 mo_0 rfl rfl rfl kB_X12_endsTurn kL_X12_444 (fun res h => ct_X12_endsTurn l hZ fu p_16.2 res h) rfl rfl rfl ⟨Nat.le_of_ble_eq_true rfl, Nat.le_of_ble_eq_true rfl⟩ (Nat.le_of_ble_eq_true rfl) ⟨Nat.zero_le _, Nat.zero_le _⟩ dX12_playsOne_118 121 rfl (fun m_18 hF => ?_)
      refine w_goto X 138 dX12_playsOne_121 (by decide) ?_
      exact w_vret X hQ (o_inj hF) dX12_playsOne_138
    · refine w_aload_n X 1 dX12_playsOne_124 rfl rfl 125 rfl ?_
      refine w_iload_n X 2 dX12_playsOne_125 rfl rfl 126 rfl ?_
      refine w_iload X 0 dX12_playsOne_126 rfl 128 rfl ?_
      refine w_aload_n X 1 dX12_playsOne_128 rfl rfl 129 rfl ?_
      refine w_iload_n X 2 dX12_playsOne_129 rfl rfl 130 rfl ?_
      refine w_iload X 0 dX12_playsOne_130 rfl 132 rfl ?_
      refine w_callVi (fun x => x.1) (fun x => x.2) X hZ hF [.int x2, .int x_17] 0 ml_0 mo_0 rfl rfl rfl kB_X12_goesBy kL_X12_379 (fun res h => ct_X12_goesBy l hZ fu x2 x_17 p_16.2 res h) rfl rfl rfl ⟨Nat.le_of_ble_eq_true rfl, Nat.le_of_ble_eq_true rfl⟩ (Nat.le_of_ble_eq_true rfl) ⟨Nat.zero_le _, Nat.zero_le _⟩ dX12_playsOne_132 135 rfl (fun p_19 hF => ?_)
      refine w_callVv (fun m => m) X hZ hF [.int x2, .int x_17, .int p_19.1] 0 ml_0 mo_0 rfl rfl rfl kB_X12_steps_ kL_X12_447 (fun res h => ct_X12_steps_ l hZ fu x2 x_17 p_19.1 p_19.2 res h) rfl rfl rfl ⟨Nat.le_of_ble_eq_true rfl, Nat.le_of_ble_eq_true rfl⟩ (Nat.le_of_ble_eq_true rfl) ⟨Nat.zero_le _, Nat.zero_le _⟩ dX12_playsOne_135 138 rfl (fun m_20 hF => ?_)
      exact w_vret X hQ (o_inj hF) dX12_playsOne_138
  have w_31 : ∀ (x2 : Int32) (xs0 : Int32) (mem : Mem), K_X12_playsOne_31 fu x2 xs0 mem = some res → WW D 23 ad (cM ca ad) p l e rm_X12_playsOne s m args below meth c 5 0 0 Q mem 31 [(0, .ref (ad 0)), (2, .int x2)] [.int xs0] := by
    intro x2 xs0 mem hF
    rw [K_X12_playsOne_31] at hF
    refine w_istore_n X [(3, .int xs0), (0, .ref (ad 0)), (2, .int x2)] dX12_playsOne_31 rfl (by decide) rfl 32 rfl ?_
    refine w_iload_n X 0 dX12_playsOne_32 rfl rfl 33 rfl ?_
    refine w_iconst X (-1) dX12_playsOne_33 rfl 34 rfl ?_
    refine w_icmp_eq X hF 104 37 dX12_playsOne_34 (by decide) rfl (fun hF => ?_) (fun hF => ?_)
    · refine w_keep [1, 2] rfl ?_
      exact w_104 x2 mem hF
    · refine w_aload_n X 1 dX12_playsOne_37 rfl rfl 38 rfl ?_
      refine w_iload_n X 0 dX12_playsOne_38 rfl rfl 39 rfl ?_
      refine w_callVi (fun x => x.1) (fun x => x.2) X hZ hF [.int xs0] 0 ml_0 mo_0 rfl rfl rfl kB_X12_distanceOf kL_X12_222 (fun res h => ct_X12_distanceOf l hZ fu xs0 mem res h) rfl rfl rfl ⟨Nat.le_of_ble_eq_true rfl, Nat.le_of_ble_eq_true rfl⟩ (Nat.le_of_ble_eq_true rfl) ⟨Nat.zero_le _, Nat.zero_le _⟩ dX12_playsOne_39 42 rfl (fun p_5 hF => ?_)
      refine w_aload_n X 1 dX12_playsOne_42 rfl rfl 43 rfl ?_
      refine w_iload_n X 2 dX12_playsOne_43 rfl rfl 44 rfl ?_
      refine w_callVi (fun x => x.1) (fun x => x.2) X hZ hF [.int x2] 0 ml_0 mo_0 rfl rfl rfl kB_X12_distanceOf kL_X12_222 (fun res h => ct_X12_distanceOf l hZ fu x2 p_5.2 res h) rfl rfl rfl ⟨Nat.le_of_ble_eq_true rfl, Nat.le_of_ble_eq_true rfl⟩ (Nat.le_of_ble_eq_true rfl) ⟨Nat.zero_le _, Nat.zero_le _⟩ dX12_playsOne_44 47 rfl (fun p_6 hF => ?_)
      refine w_icmp_ge X hF 104 50 dX12_playsOne_47 (by decide) rfl (fun hF => ?_) (fun hF => ?_)
      · refine w_aload_n X 1 dX12_playsOne_50 rfl rfl 51 rfl ?_
        refine w_iload_n X 0 dX12_playsOne_51 rfl rfl 52 rfl ?_
        refine w_callVi (fun x => x.1) (fun x => x.2) X hZ hF [.int xs0] 0 ml_0 mo_0 rfl rfl rfl kB_X12_seeks kL_X12_430 (fun res h => ct_X12_seeks l hZ fu xs0 p_6.2 res h) rfl rfl rfl ⟨Nat.le_of_ble_eq_true rfl, Nat.le_of_ble_eq_true rfl⟩ (Nat.le_of_ble_eq_true rfl) ⟨Nat.zero_le _, Nat.zero_le _⟩ dX12_playsOne_52 55 rfl (fun p_7 hF => ?_)
        refine w_let hF (fun x_8 hF => ?_)
        refine w_istore X [(4, .int x_8), (3, .int xs0), (0, .ref (ad 0)), (2, .int x2)] dX12_playsOne_55 (by decide) rfl 57 rfl ?_
        refine w_iload X 0 dX12_playsOne_57 rfl 59 rfl ?_
        refine w_iconst X (-1) dX12_playsOne_59 rfl 60 rfl ?_
        refine w_icmp_eq X hF 104 63 dX12_playsOne_60 (by decide) rfl (fun hF => ?_) (fun hF => ?_)
        · refine w_keep [2, 3] rfl ?_
          exact w_104 x2 p_7.2 hF
        · refine w_aload_n X 2 dX12_playsOne_63 rfl rfl 64 rfl ?_
          refine w_getV (v := .int (rd p_7.2 0 36)) X 0 ml_0 mo_0 (T := TX12) (N := 50) rfl in_X12 36 (by decide) kF_X12_423 rfl rfl dX12_playsOne_64 67 rfl ?_
          refine w_aload_n X 2 dX12_playsOne_67 rfl rfl 68 rfl ?_
          refine w_iload_n X 1 dX12_playsOne_68 rfl rfl 69 rfl ?_
          refine w_callVi (fun x => x.1) (fun x => x.2) X hZ hF [.int xs0] 0 ml_0 mo_0 rfl rfl rfl kB_X12_distanceOf kL_X12_222 (fun res h => ct_X12_distanceOf l hZ fu xs0 p_7.2 res h) rfl rfl rfl ⟨Nat.le_of_ble_eq_true rfl, Nat.le_of_ble_eq_true rfl⟩ (Nat.le_of_ble_eq_true rfl) ⟨Nat.zero_le _, Nat.zero_le _⟩ dX12_playsOne_69 72 rfl (fun p_9 hF => ?_)
          refine w_icmp_le X hF 104 75 dX12_playsOne_72 (by decide) rfl (fun hF => ?_) (fun hF => ?_)
          · refine w_aload_n X 2 dX12_playsOne_75 rfl rfl 76 rfl ?_
            refine w_aload_n X 2 dX12_playsOne_76 rfl rfl 77 rfl ?_
            refine w_iload X 0 dX12_playsOne_77 rfl 79 rfl ?_
            refine w_bipush X 10 dX12_playsOne_79 rfl 81 rfl ?_
            refine w_irem X (by decide) dX12_playsOne_81 82 rfl ?_
            refine w_let hF (fun x_10 hF => ?_)
            refine w_iload X 0 dX12_playsOne_82 rfl 84 rfl ?_
            refine w_bipush X 10 dX12_playsOne_84 rfl 86 rfl ?_
            refine w_idiv X (by decide) dX12_playsOne_86 87 rfl ?_
            refine w_let hF (fun x_11 hF => ?_)
            refine w_bipush X 10 dX12_playsOne_87 rfl 89 rfl ?_
            refine w_irem X (by decide) dX12_playsOne_89 90 rfl ?_
            refine w_let hF (fun x_12 hF => ?_)
            refine w_iconst X 1 dX12_playsOne_90 rfl 91 rfl ?_
            refine w_iload X 0 dX12_playsOne_91 rfl 93 rfl ?_
            refine w_bipush X 100 dX12_playsOne_93 rfl 95 rfl ?_
            refine w_idiv X (by decide) dX12_playsOne_95 96 rfl ?_
            refine w_let hF (fun x_13 hF => ?_)
            refine w_iadd X dX12_playsOne_96 97 rfl ?_
            refine w_callVi (fun x => x.1) (fun x => x.2) X hZ hF [.int x_10, .int x_12, .int (1 + x_13)] 0 ml_0 mo_0 rfl rfl rfl kB_X12_builds kL_X12_462 (fun res h => ct_X12_builds l hZ fu x_10 x_12 (1 + x_13) p_9.2 res h) rfl rfl rfl ⟨Nat.le_of_ble_eq_true rfl, Nat.le_of_ble_eq_true rfl⟩ (Nat.le_of_ble_eq_true rfl) ⟨Nat.zero_le _, Nat.zero_le _⟩ dX12_playsOne_97 100 rfl (fun p_14 hF => ?_)
            refine w_putI X 0 ml_0 mo_0 (T := TX12) (N := 50) rfl in_X12 tyX12 tyX12_ok nmX12 46 (by decide) kF_X12_469 rfl rfl rfl rfl (Nat.le_of_ble_eq_true rfl) rfl dX12_playsOne_100 103 rfl ?_
            refine w_letm hF (fun m_15 hF => ?_)
            exact w_vret X hQ (o_inj hF) dX12_playsOne_103
          · refine w_keep [2, 3] rfl ?_
            exact w_104 x2 p_9.2 hF
      · refine w_keep [1, 2] rfl ?_
        exact w_104 x2 p_6.2 hF
  have w_30 : ∀ (x2 : Int32) (mem : Mem), K_X12_playsOne_30 fu x2 mem = some res → WW D 23 ad (cM ca ad) p l e rm_X12_playsOne s m args below meth c 5 0 0 Q mem 30 [(0, .ref (ad 0)), (2, .int x2)] [] := by
    intro x2 mem hF
    rw [K_X12_playsOne_30] at hF
    refine w_iconst X (-1) dX12_playsOne_30 rfl 31 rfl ?_
    refine w_keep [0, 1] rfl ?_
    exact w_31 x2 (-1) mem hF
  intro hF
  refine w_aload_n X 0 dX12_playsOne_0 rfl rfl 1 rfl ?_
  refine w_getV (v := .ref (ad 2)) X 0 ml_0 mo_0 (T := TX12) (N := 50) rfl in_X12 13 (by decide) kF_X12_20 rfl rfl dX12_playsOne_1 4 rfl ?_
  refine w_bipush X 7 dX12_playsOne_4 rfl 6 rfl ?_
  refine w_gi hF (fun h_1 hF => ?_)
  refine w_ial X 2 ml_2 mo_2 (t0 := 0) rfl h_1 dX12_playsOne_6 7 rfl ?_
  refine w_let hF (fun x_2 hF => ?_)
  refine w_istore_n X [(2, .int x_2), (0, .ref (ad 0)), (1, .int x1)] dX12_playsOne_7 rfl (by decide) rfl 8 rfl ?_
  refine w_iload_n X 2 dX12_playsOne_8 rfl rfl 9 rfl ?_
  refine w_iconst X 1 dX12_playsOne_9 rfl 10 rfl ?_
  refine w_icmp_ne X hF 30 13 dX12_playsOne_10 (by decide) rfl (fun hF => ?_) (fun hF => ?_)
  · refine w_aload_n X 1 dX12_playsOne_13 rfl rfl 14 rfl ?_
    refine w_iload_n X 0 dX12_playsOne_14 rfl rfl 15 rfl ?_
    refine w_iconst X 3 dX12_playsOne_15 rfl 16 rfl ?_
    refine w_callVi (fun x => x) (fun _ => mem) X hZ hF [.int x_2, .int 3] 0 ml_0 mo_0 rfl rfl rfl kB_X12_of kL_X12_174 (fun res h => ct_X12_of l hZ fu x_2 3 mem res h) rfl rfl rfl ⟨Nat.le_of_ble_eq_true rfl, Nat.le_of_ble_eq_true rfl⟩ (Nat.le_of_ble_eq_true rfl) ⟨Nat.zero_le _, Nat.zero_le _⟩ dX12_playsOne_16 19 rfl (fun x_3 hF => ?_)
    refine w_if_le X hF 30 22 dX12_playsOne_19 (by decide) rfl (fun hF => ?_) (fun hF => ?_)
    · refine w_aload_n X 1 dX12_playsOne_22 rfl rfl 23 rfl ?_
      refine w_iload_n X 0 dX12_playsOne_23 rfl rfl 24 rfl ?_
      refine w_callVi (fun x => x.1) (fun x => x.2) X hZ hF [.int x_2] 0 ml_0 mo_0 rfl rfl rfl kB_X12_nearest kL_X12_417 (fun res h => ct_X12_nearest l hZ fu x_2 mem res h) rfl rfl rfl ⟨Nat.le_of_ble_eq_true rfl, Nat.le_of_ble_eq_true rfl⟩ (Nat.le_of_ble_eq_true rfl) ⟨Nat.zero_le _, Nat.zero_le _⟩ dX12_playsOne_24 27 rfl (fun p_4 hF => ?_)
      refine w_goto X 31 dX12_playsOne_27 (by decide) ?_
      refine w_keep [1, 0] rfl ?_
      exact w_31 x_2 p_4.1 p_4.2 hF
    · refine w_keep [1, 0] rfl ?_
      exact w_30 x_2 mem hF
  · refine w_keep [1, 0] rfl ?_
    exact w_30 x_2 mem hF

def K_X12_plays_2 (fu : Nat) : Nat → Int32 → Int32 → Int32 → Mem → Option (Int32 × Mem)
  | 0, _, _, _, _ => none
  | n + 1, x1, x2, x3, mem => (if x3 < x2 then bd (K_X12_over fu mem) (fun x_1 => (if x_1 = 0 then bd (K_X12_playsOne fu x1 mem) (fun m_2 => (K_X12_plays_2 fu n x1 x2 (x3 + 1) m_2)) else some (x3, mem))) else some (x3, mem))
def K_X12_plays (fu : Nat) (x1 : Int32) (x2 : Int32) (mem : Mem) : Option (Int32 × Mem) := (K_X12_plays_2 fu fu x1 x2 0 mem)
def rm_X12_plays : Room := { frames := 11, cells := 0, slots := 0, locals := 260 }
set_option maxHeartbeats 4000000 in
set_option maxRecDepth 100000 in
theorem ct_X12_plays (l : Launch) {D : va_G} {ca ad : Nat → Nat} {Z : (Nat → Prop) → State → Heap → Prop} (hZ : ZOK Z) (fu : Nat) (x1 : Int32) (x2 : Int32) (mem : Mem) (res : (Int32 × Mem)) (hF : K_X12_plays fu x1 x2 mem = some res) : CI l D (tyL ca) 23 ad (cM ca ad) Z yX12_plays cX12_plays 4 .int rm_X12_plays [.ref (ad 0), .int x1, .int x2] mem res.1 res.2 := by
  refine start_i (own := RX12) rfl (by decide) (Nat.le_of_ble_eq_true rfl) ?_
  intro p e s m args below meth c Q hQ X
  rw [K_X12_plays] at hF
  revert hF
  have w_2 : ∀ (n : Nat) (x1 : Int32) (x2 : Int32) (x3 : Int32) (mem : Mem), K_X12_plays_2 fu n x1 x2 x3 mem = some res → WW D 23 ad (cM ca ad) p l e rm_X12_plays s m args below meth c 4 0 0 Q mem 2 [(0, .ref (ad 0)), (1, .int x1), (2, .int x2), (3, .int x3)] [] := by
    intro n
    induction n with
    | zero => intro x1 x2 x3 mem hF; exact no_none (show (none : Option (Int32 × Mem)) = some res from hF)
    | succ n ih =>
      intro x1 x2 x3 mem hF
      rw [K_X12_plays_2] at hF
      refine w_iload_n X 3 dX12_plays_2 rfl rfl 3 rfl ?_
      refine w_iload_n X 2 dX12_plays_3 rfl rfl 4 rfl ?_
      refine w_icmp_ge X hF 25 7 dX12_plays_4 (by decide) rfl (fun hF => ?_) (fun hF => ?_)
      · refine w_aload_n X 0 dX12_plays_7 rfl rfl 8 rfl ?_
        refine w_callVi (fun x => x) (fun _ => mem) X hZ hF [] 0 ml_0 mo_0 rfl rfl rfl kB_X12_over kL_X12_351 (fun res h => ct_X12_over l hZ fu mem res h) rfl rfl rfl ⟨Nat.le_of_ble_eq_true rfl, Nat.le_of_ble_eq_true rfl⟩ (Nat.le_of_ble_eq_true rfl) ⟨Nat.zero_le _, Nat.zero_le _⟩ dX12_plays_8 11 rfl (fun x_1 hF => ?_)
        refine w_if_ne X hF 25 14 dX12_plays_11 (by decide) rfl (fun hF => ?_) (fun hF => ?_)
        · refine w_aload_n X 0 dX12_plays_14 rfl rfl 15 rfl ?_
          refine w_iload_n X 1 dX12_plays_15 rfl rfl 16 rfl ?_
          refine w_callVv (fun m => m) X hZ hF [.int x1] 0 ml_0 mo_0 rfl rfl rfl kB_X12_playsOne kL_X12_472 (fun res h => ct_X12_playsOne l hZ fu x1 mem res h) rfl rfl rfl ⟨Nat.le_of_ble_eq_true rfl, Nat.le_of_ble_eq_true rfl⟩ (Nat.le_of_ble_eq_true rfl) ⟨Nat.zero_le _, Nat.zero_le _⟩ dX12_plays_16 19 rfl (fun m_2 hF => ?_)
          refine w_iinc X 3 (x3 + 1) [(3, .int (x3 + 1)), (0, .ref (ad 0)), (1, .int x1), (2, .int x2)] dX12_plays_19 rfl rfl (by decide) rfl 22 rfl ?_
          refine w_goto X 2 dX12_plays_22 (by decide) ?_
          refine w_keep [1, 2, 3, 0] rfl ?_
          exact ih x1 x2 (x3 + 1) m_2 hF
        · refine w_iload_n X 3 dX12_plays_25 rfl rfl 26 rfl ?_
          exact w_iret X hQ (o_inj1 hF) (o_inj2 hF) rfl dX12_plays_26
      · refine w_iload_n X 3 dX12_plays_25 rfl rfl 26 rfl ?_
        exact w_iret X hQ (o_inj1 hF) (o_inj2 hF) rfl dX12_plays_26
  intro hF
  refine w_iconst X 0 dX12_plays_0 rfl 1 rfl ?_
  refine w_istore_n X [(3, .int 0), (0, .ref (ad 0)), (1, .int x1), (2, .int x2)] dX12_plays_1 rfl (by decide) rfl 2 rfl ?_
  refine w_keep [1, 2, 3, 0] rfl ?_
  exact w_2 fu x1 x2 0 mem hF

def K_X12_does_132 (fu : Nat) (x1 : Int32) (x2 : Int32) (x3 : Int32) (mem : Mem) : Option (Int32 × Mem) := (if x1 = 3 then bd (K_X12_plays fu x2 x3 mem) (fun p_12 => lt_ (mw p_12.2 0 46 p_12.1) (fun m_13 => some (1, m_13))) else some (1, mem))
def K_X12_does_123 (fu : Nat) (x1 : Int32) (x2 : Int32) (x3 : Int32) (mem : Mem) : Option (Int32 × Mem) := (if x1 = 2 then bd (K_X12_endsTurn fu mem) (fun m_11 => (K_X12_does_132 fu x1 x2 x3 m_11)) else (K_X12_does_132 fu x1 x2 x3 mem))
def K_X12_does_106 (fu : Nat) (x1 : Int32) (x2 : Int32) (x3 : Int32) (x4 : Int32) (mem : Mem) : Option (Int32 × Mem) := (if x1 = 1 then bd (K_X12_builds fu x2 x3 x4 mem) (fun p_9 => lt_ (mw p_9.2 0 46 p_9.1) (fun m_10 => (K_X12_does_123 fu x1 x2 x3 m_10))) else (K_X12_does_123 fu x1 x2 x3 mem))
def K_X12_does_84 (fu : Nat) (x1 : Int32) (x2 : Int32) (x3 : Int32) (x4 : Int32) (xs0 : Int32) (mem : Mem) : Option (Int32 × Mem) := (if xs0 = 0 then some (0, mem) else (if x1 = 0 then bd (K_X12_stepsNow fu x2 mem) (fun p_7 => lt_ (mw p_7.2 0 46 p_7.1) (fun m_8 => (K_X12_does_106 fu x1 x2 x3 x4 m_8))) else (K_X12_does_106 fu x1 x2 x3 x4 mem)))
def K_X12_does_83 (fu : Nat) (x1 : Int32) (x2 : Int32) (x3 : Int32) (x4 : Int32) (mem : Mem) : Option (Int32 × Mem) := (K_X12_does_84 fu x1 x2 x3 x4 0 mem)
def K_X12_does_41 (fu : Nat) (x1 : Int32) (x2 : Int32) (x3 : Int32) (x4 : Int32) (mem : Mem) : Option (Int32 × Mem) := (K_X12_does_84 fu x1 x2 x3 x4 0 mem)
def K_X12_does (fu : Nat) (x1 : Int32) (x2 : Int32) (x3 : Int32) (x4 : Int32) (mem : Mem) : Option (Int32 × Mem) := (if x1 = 0 then bd (K_X12_mayStep fu x2 mem) (fun p_1 => (K_X12_does_84 fu x1 x2 x3 x4 p_1.1 p_1.2)) else (if x1 = 1 then bd (K_X12_isPlace fu x2 x3 mem) (fun x_2 => (if x_2 = 0 then (K_X12_does_41 fu x1 x2 x3 x4 mem) else bd (K_X12_mayBuild fu x2 x3 x4 mem) (fun p_3 => (if p_3.1 = 0 then (K_X12_does_41 fu x1 x2 x3 x4 p_3.2) else (K_X12_does_84 fu x1 x2 x3 x4 1 p_3.2))))) else (if x1 = 2 then bd (K_X12_mayPass fu mem) (fun p_4 => (K_X12_does_84 fu x1 x2 x3 x4 p_4.1 p_4.2)) else bd (K_X12_isIn fu (Int32.toInt64 x2) 0 1 mem) (fun x_5 => (if x_5 = 0 then (K_X12_does_83 fu x1 x2 x3 x4 mem) else bd (K_X12_isIn fu (Int32.toInt64 x3) 1 99 mem) (fun x_6 => (if x_6 = 0 then (K_X12_does_83 fu x1 x2 x3 x4 mem) else (K_X12_does_84 fu x1 x2 x3 x4 1 mem))))))))
def rm_X12_does : Room := { frames := 12, cells := 0, slots := 0, locals := 283 }
set_option maxHeartbeats 4000000 in
set_option maxRecDepth 100000 in
theorem ct_X12_does (l : Launch) {D : va_G} {ca ad : Nat → Nat} {Z : (Nat → Prop) → State → Heap → Prop} (hZ : ZOK Z) (fu : Nat) (x1 : Int32) (x2 : Int32) (x3 : Int32) (x4 : Int32) (mem : Mem) (res : (Int32 × Mem)) (hF : K_X12_does fu x1 x2 x3 x4 mem = some res) : CI l D (tyL ca) 23 ad (cM ca ad) Z yX12_does cX12_does 6 .boolean rm_X12_does [.ref (ad 0), .int x1, .int x2, .int x3, .int x4] mem res.1 res.2 := by
  refine start_i (own := RX12) rfl (by decide) (Nat.le_of_ble_eq_true rfl) ?_
  intro p e s m args below meth c Q hQ X
  rw [K_X12_does] at hF
  revert hF
  have w_132 : ∀ (x1 : Int32) (x2 : Int32) (x3 : Int32) (mem : Mem), K_X12_does_132 fu x1 x2 x3 mem = some res → WW D 23 ad (cM ca ad) p l e rm_X12_does s m args below meth c 6 0 0 Q mem 132 [(0, .ref (ad 0)), (1, .int x1), (2, .int x2), (3, .int x3)] [] := by
    intro x1 x2 x3 mem hF
    rw [K_X12_does_132] at hF
    refine w_iload_n X 1 dX12_does_132 rfl rfl 133 rfl ?_
    refine w_iconst X 3 dX12_does_133 rfl 134 rfl ?_
    refine w_icmp_ne X hF 147 137 dX12_does_134 (by decide) rfl (fun hF => ?_) (fun hF => ?_)
    · refine w_aload_n X 0 dX12_does_137 rfl rfl 138 rfl ?_
      refine w_aload_n X 0 dX12_does_138 rfl rfl 139 rfl ?_
      refine w_iload_n X 2 dX12_does_139 rfl rfl 140 rfl ?_
      refine w_iload_n X 3 dX12_does_140 rfl rfl 141 rfl ?_
      refine w_callVi (fun x => x.1) (fun x => x.2) X hZ hF [.int x2, .int x3] 0 ml_0 mo_0 rfl rfl rfl kB_X12_plays kL_X12_438 (fun res h => ct_X12_plays l hZ fu x2 x3 mem res h) rfl rfl rfl ⟨Nat.le_of_ble_eq_true rfl, Nat.le_of_ble_eq_true rfl⟩ (Nat.le_of_ble_eq_true rfl) ⟨Nat.zero_le _, Nat.zero_le _⟩ dX12_does_141 144 rfl (fun p_12 hF => ?_)
      refine w_putI X 0 ml_0 mo_0 (T := TX12) (N := 50) rfl in_X12 tyX12 tyX12_ok nmX12 46 (by decide) kF_X12_469 rfl rfl rfl rfl (Nat.le_of_ble_eq_true rfl) rfl dX12_does_144 147 rfl ?_
      refine w_letm hF (fun m_13 hF => ?_)
      refine w_iconst X 1 dX12_does_147 rfl 148 rfl ?_
      exact w_iret X hQ (o_inj1 hF) (o_inj2 hF) rfl dX12_does_148
    · refine w_iconst X 1 dX12_does_147 rfl 148 rfl ?_
      exact w_iret X hQ (o_inj1 hF) (o_inj2 hF) rfl dX12_does_148
  have w_123 : ∀ (x1 : Int32) (x2 : Int32) (x3 : Int32) (mem : Mem), K_X12_does_123 fu x1 x2 x3 mem = some res → WW D 23 ad (cM ca ad) p l e rm_X12_does s m args below meth c 6 0 0 Q mem 123 [(0, .ref (ad 0)), (1, .int x1), (2, .int x2), (3, .int x3)] [] := by
    intro x1 x2 x3 mem hF
    rw [K_X12_does_123] at hF
    refine w_iload_n X 1 dX12_does_123 rfl rfl 124 rfl ?_
    refine w_iconst X 2 dX12_does_124 rfl 125 rfl ?_
    refine w_icmp_ne X hF 132 128 dX12_does_125 (by decide) rfl (fun hF => ?_) (fun hF => ?_)
    · refine w_aload_n X 0 dX12_does_128 rfl rfl 129 rfl ?_
      refine w_callVv (fun m => m) X hZ hF [] 0 ml_0 mo_0 rfl rfl rfl kB_X12_endsTurn kL_X12_444 (fun res h => ct_X12_endsTurn l hZ fu mem res h) rfl rfl rfl ⟨Nat.le_of_ble_eq_true rfl, Nat.le_of_ble_eq_true rfl⟩ (Nat.le_of_ble_eq_true rfl) ⟨Nat.zero_le _, Nat.zero_le _⟩ dX12_does_129 132 rfl (fun m_11 hF => ?_)
      refine w_keep [0, 1, 2, 3] rfl ?_
      exact w_132 x1 x2 x3 m_11 hF
    · refine w_keep [0, 1, 2, 3] rfl ?_
      exact w_132 x1 x2 x3 mem hF
  have w_106 : ∀ (x1 : Int32) (x2 : Int32) (x3 : Int32) (x4 : Int32) (mem : Mem), K_X12_does_106 fu x1 x2 x3 x4 mem = some res → WW D 23 ad (cM ca ad) p l e rm_X12_does s m args below meth c 6 0 0 Q mem 106 [(0, .ref (ad 0)), (1, .int x1), (2, .int x2), (3, .int x3), (4, .int x4)] [] := by
    intro x1 x2 x3 x4 mem hF
    rw [K_X12_does_106] at hF
    refine w_iload_n X 1 dX12_does_106 rfl rfl 107 rfl ?_
    refine w_iconst X 1 dX12_does_107 rfl 108 rfl ?_
    refine w_icmp_ne X hF 123 111 dX12_does_108 (by decide) rfl (fun hF => ?_) (fun hF => ?_)
    · refine w_aload_n X 0 dX12_does_111 rfl rfl 112 rfl ?_
      refine w_aload_n X 0 dX12_does_112 rfl rfl 113 rfl ?_
      refine w_iload_n X 2 dX12_does_113 rfl rfl 114 rfl ?_
      refine w_iload_n X 3 dX12_does_114 rfl rfl 115 rfl ?_
      refine w_iload X 4 dX12_does_115 rfl 117 rfl ?_
      refine w_callVi (fun x => x.1) (fun x => x.2) X hZ hF [.int x2, .int x3, .int x4] 0 ml_0 mo_0 rfl rfl rfl kB_X12_builds kL_X12_462 (fun res h => ct_X12_builds l hZ fu x2 x3 x4 mem res h) rfl rfl rfl ⟨Nat.le_of_ble_eq_true rfl, Nat.le_of_ble_eq_true rfl⟩ (Nat.le_of_ble_eq_true rfl) ⟨Nat.zero_le _, Nat.zero_le _⟩ dX12_does_117 120 rfl (fun p_9 hF => ?_)
      refine w_putI X 0 ml_0 mo_0 (T := TX12) (N := 50) rfl in_X12 tyX12 tyX12_ok nmX12 46 (by decide) kF_X12_469 rfl rfl rfl rfl (Nat.le_of_ble_eq_true rfl) rfl dX12_does_120 123 rfl ?_
      refine w_letm hF (fun m_10 hF => ?_)
      refine w_keep [0, 1, 2, 3] rfl ?_
      exact w_123 x1 x2 x3 m_10 hF
    · refine w_keep [0, 1, 2, 3] rfl ?_
      exact w_123 x1 x2 x3 mem hF
  have w_84 : ∀ (x1 : Int32) (x2 : Int32) (x3 : Int32) (x4 : Int32) (xs0 : Int32) (mem : Mem), K_X12_does_84 fu x1 x2 x3 x4 xs0 mem = some res → WW D 23 ad (cM ca ad) p l e rm_X12_does s m args below meth c 6 0 0 Q mem 84 [(0, .ref (ad 0)), (1, .int x1), (2, .int x2), (3, .int x3), (4, .int x4)] [.int xs0] := by
    intro x1 x2 x3 x4 xs0 mem hF
    rw [K_X12_does_84] at hF
    refine w_istore X [(5, .int xs0), (0, .ref (ad 0)), (1, .int x1), (2, .int x2), (3, .int x3), (4, .int x4)] dX12_does_84 (by decide) rfl 86 rfl ?_
    refine w_iload X 0 dX12_does_86 rfl 88 rfl ?_
    refine w_if_ne X hF 93 91 dX12_does_88 (by decide) rfl (fun hF => ?_) (fun hF => ?_)
    · refine w_iconst X 0 dX12_does_91 rfl 92 rfl ?_
      exact w_iret X hQ (o_inj1 hF) (o_inj2 hF) rfl dX12_does_92
    · refine w_iload_n X 2 dX12_does_93 rfl rfl 94 rfl ?_
      refine w_if_ne X hF 106 97 dX12_does_94 (by decide) rfl (fun hF => ?_) (fun hF => ?_)
      · refine w_aload_n X 1 dX12_does_97 rfl rfl 98 rfl ?_
        refine w_aload_n X 1 dX12_does_98 rfl rfl 99 rfl ?_
        refine w_iload_n X 3 dX12_does_99 rfl rfl 100 rfl ?_
        refine w_callVi (fun x => x.1) (fun x => x.2) X hZ hF [.int x2] 0 ml_0 mo_0 rfl rfl rfl kB_X12_stepsNow kL_X12_453 (fun res h => ct_X12_stepsNow l hZ fu x2 mem res h) rfl rfl rfl ⟨Nat.le_of_ble_eq_true rfl, Nat.le_of_ble_eq_true rfl⟩ (Nat.le_of_ble_eq_true rfl) ⟨Nat.zero_le _, Nat.zero_le _⟩ dX12_does_100 103 rfl (fun p_7 hF => ?_)
        refine w_putI X 0 ml_0 mo_0 (T := TX12) (N := 50) rfl in_X12 tyX12 tyX12_ok nmX12 46 (by decide) kF_X12_469 rfl rfl rfl rfl (Nat.le_of_ble_eq_true rfl) rfl dX12_does_103 106 rfl ?_
        refine w_letm hF (fun m_8 hF => ?_)
        refine w_keep [1, 2, 3, 4, 5] rfl ?_
        exact w_106 x1 x2 x3 x4 m_8 hF
      · refine w_keep [1, 2, 3, 4, 5] rfl ?_
        exact w_106 x1 x2 x3 x4 mem hF
  have w_83 : ∀ (x1 : Int32) (x2 : Int32) (x3 : Int32) (x4 : Int32) (mem : Mem), K_X12_does_83 fu x1 x2 x3 x4 mem = some res → WW D 23 ad (cM ca ad) p l e rm_X12_does s m args below meth c 6 0 0 Q mem 83 [(0, .ref (ad 0)), (1, .int x1), (2, .int x2), (3, .int x3), (4, .int x4)] [] := by
    intro x1 x2 x3 x4 mem hF
    rw [K_X12_does_83] at hF
    refine w_iconst X 0 dX12_does_83 rfl 84 rfl ?_
    refine w_keep [0, 1, 2, 3, 4] rfl ?_
    exact w_84 x1 x2 x3 x4 0 mem hF
  have w_41 : ∀ (x1 : Int32) (x2 : Int32) (x3 : Int32) (x4 : Int32) (mem : Mem), K_X12_does_41 fu x1 x2 x3 x4 mem = some res → WW D 23 ad (cM ca ad) p l e rm_X12_does s m args below meth c 6 0 0 Q mem 41 [(0, .ref (ad 0)), (1, .int x1), (2, .int x2), (3, .int x3), (4, .int x4)] [] := by
    intro x1 x2 x3 x4 mem hF
    rw [K_X12_does_41] at hF
    refine w_iconst X 0 dX12_does_41 rfl 42 rfl ?_
    refine w_goto X 84 dX12_does_42 (by decide) ?_
    refine w_keep [0, 1, 2, 3, 4] rfl ?_
    exact w_84 x1 x2 x3 x4 0 mem hF
  intro hF
  refine w_iload_n X 1 dX12_does_0 rfl rfl 1 rfl ?_
  refine w_if_ne X hF 12 4 dX12_does_1 (by decide) rfl (fun hF => ?_) (fun hF => ?_)
  · refine w_aload_n X 0 dX12_does_4 rfl rfl 5 rfl ?_
    refine w_iload_n X 2 dX12_does_5 rfl rfl 6 rfl ?_
    refine w_callVi (fun x => x.1) (fun x => x.2) X hZ hF [.int x2] 0 ml_0 mo_0 rfl rfl rfl kB_X12_mayStep kL_X12_450 (fun res h => ct_X12_mayStep l hZ fu x2 mem res h) rfl rfl rfl ⟨Nat.le_of_ble_eq_true rfl, Nat.le_of_ble_eq_true rfl⟩ (Nat.le_of_ble_eq_true rfl) ⟨Nat.zero_le _, Nat.zero_le _⟩ dX12_does_6 9 rfl (fun p_1 hF => ?_)
    refine w_goto X 84 dX12_does_9 (by decide) ?_
    refine w_keep [0, 1, 2, 3, 4] rfl ?_
    exact w_84 x1 x2 x3 x4 p_1.1 p_1.2 hF
  · refine w_iload_n X 1 dX12_does_12 rfl rfl 13 rfl ?_
    refine w_iconst X 1 dX12_does_13 rfl 14 rfl ?_
    refine w_icmp_ne X hF 45 17 dX12_does_14 (by decide) rfl (fun hF => ?_) (fun hF => ?_)
    · refine w_aload_n X 0 dX12_does_17 rfl rfl 18 rfl ?_
      refine w_iload_n X 2 dX12_does_18 rfl rfl 19 rfl ?_
      refine w_iload_n X 3 dX12_does_19 rfl rfl 20 rfl ?_
      refine w_callVi (fun x => x) (fun _ => mem) X hZ hF [.int x2, .int x3] 0 ml_0 mo_0 rfl rfl rfl kB_X12_isPlace kL_X12_177 (fun res h => ct_X12_isPlace l hZ fu x2 x3 mem res h) rfl rfl rfl ⟨Nat.le_of_ble_eq_true rfl, Nat.le_of_ble_eq_true rfl⟩ (Nat.le_of_ble_eq_true rfl) ⟨Nat.zero_le _, Nat.zero_le _⟩ dX12_does_20 23 rfl (fun x_2 hF => ?_)
      refine w_if_eq X hF 41 26 dX12_does_23 (by decide) rfl (fun hF => ?_) (fun hF => ?_)
      · refine w_keep [0, 1, 2, 3, 4] rfl ?_
        exact w_41 x1 x2 x3 x4 mem hF
      · refine w_aload_n X 0 dX12_does_26 rfl rfl 27 rfl ?_
        refine w_iload_n X 2 dX12_does_27 rfl rfl 28 rfl ?_
        refine w_iload_n X 3 dX12_does_28 rfl rfl 29 rfl ?_
        refine w_iload X 4 dX12_does_29 rfl 31 rfl ?_
        refine w_callVi (fun x => x.1) (fun x => x.2) X hZ hF [.int x2, .int x3, .int x4] 0 ml_0 mo_0 rfl rfl rfl kB_X12_mayBuild kL_X12_459 (fun res h => ct_X12_mayBuild l hZ fu x2 x3 x4 mem res h) rfl rfl rfl ⟨Nat.le_of_ble_eq_true rfl, Nat.le_of_ble_eq_true rfl⟩ (Nat.le_of_ble_eq_true rfl) ⟨Nat.zero_le _, Nat.zero_le _⟩ dX12_does_31 34 rfl (fun p_3 hF => ?_)
        refine w_if_eq X hF 41 37 dX12_does_34 (by decide) rfl (fun hF => ?_) (fun hF => ?_)
        · refine w_keep [0, 1, 2, 3, 4] rfl ?_
          exact w_41 x1 x2 x3 x4 p_3.2 hF
        · refine w_iconst X 1 dX12_does_37 rfl 38 rfl ?_
          refine w_goto X 84 dX12_does_38 (by decide) ?_
          refine w_keep [0, 1, 2, 3, 4] rfl ?_
          exact w_84 x1 x2 x3 x4 1 p_3.2 hF
    · refine w_iload_n X 1 dX12_does_45 rfl rfl 46 rfl ?_
      refine w_iconst X 2 dX12_does_46 rfl 47 rfl ?_
      refine w_icmp_ne X hF 57 50 dX12_does_47 (by decide) rfl (fun hF => ?_) (fun hF => ?_)
      · refine w_aload_n X 0 dX12_does_50 rfl rfl 51 rfl ?_
        refine w_callVi (fun x => x.1) (fun x => x.2) X hZ hF [] 0 ml_0 mo_0 rfl rfl rfl kB_X12_mayPass kL_X12_466 (fun res h => ct_X12_mayPass l hZ fu mem res h) rfl rfl rfl ⟨Nat.le_of_ble_eq_true rfl, Nat.le_of_ble_eq_true rfl⟩ (Nat.le_of_ble_eq_true rfl) ⟨Nat.zero_le _, Nat.zero_le _⟩ dX12_does_51 54 rfl (fun p_4 hF => ?_)
        refine w_goto X 84 dX12_does_54 (by decide) ?_
        refine w_keep [0, 1, 2, 3, 4] rfl ?_
        exact w_84 x1 x2 x3 x4 p_4.1 p_4.2 hF
      · refine w_iload_n X 2 dX12_does_57 rfl rfl 58 rfl ?_
        refine w_i2l X dX12_does_58 59 rfl ?_
        refine w_lconst X 0 dX12_does_59 rfl 60 rfl ?_
        refine w_lconst X 1 dX12_does_60 rfl 61 rfl ?_
        refine w_callSi (fun x => x) (fun _ => mem) X hZ hF [.long (Int32.toInt64 x2), .long 0, .long 1] rfl kB_X12_isIn kL_X12_106 (fun res h => ct_X12_isIn l hZ fu (Int32.toInt64 x2) 0 1 mem res h) rfl rfl rfl ⟨Nat.le_of_ble_eq_true rfl, Nat.le_of_ble_eq_true rfl⟩ (Nat.le_of_ble_eq_true rfl) ⟨Nat.zero_le _, Nat.zero_le _⟩ dX12_does_61 64 rfl (fun x_5 hF => ?_)
        refine w_if_eq X hF 83 67 dX12_does_64 (by decide) rfl (fun hF => ?_) (fun hF => ?_)
        · refine w_keep [0, 1, 2, 3, 4] rfl ?_
          exact w_83 x1 x2 x3 x4 mem hF
        · refine w_iload_n X 3 dX12_does_67 rfl rfl 68 rfl ?_
          refine w_i2l X dX12_does_68 69 rfl ?_
          refine w_lconst X 1 dX12_does_69 rfl 70 rfl ?_
          refine w_ldc2 X 99 kK_X12_433 dX12_does_70 73 rfl ?_
          refine w_callSi (fun x => x) (fun _ => mem) X hZ hF [.long (Int32.toInt64 x3), .long 1, .long 99] rfl kB_X12_isIn kL_X12_106 (fun res h => ct_X12_isIn l hZ fu (Int32.toInt64 x3) 1 99 mem res h) rfl rfl rfl ⟨Nat.le_of_ble_eq_true rfl, Nat.le_of_ble_eq_true rfl⟩ (Nat.le_of_ble_eq_true rfl) ⟨Nat.zero_le _, Nat.zero_le _⟩ dX12_does_73 76 rfl (fun x_6 hF => ?_)
          refine w_if_eq X hF 83 79 dX12_does_76 (by decide) rfl (fun hF => ?_) (fun hF => ?_)
          · refine w_keep [0, 1, 2, 3, 4] rfl ?_
            exact w_83 x1 x2 x3 x4 mem hF
          · refine w_iconst X 1 dX12_does_79 rfl 80 rfl ?_
            refine w_goto X 84 dX12_does_80 (by decide) ?_
            refine w_keep [0, 1, 2, 3, 4] rfl ?_
            exact w_84 x1 x2 x3 x4 1 mem hF

def K_X12_ends_0 (fu : Nat) : Nat → Mem → Option Mem
  | 0, _ => none
  | n + 1, mem => (if 0 < (rd mem 0 45) then bd (K_X12_isSign fu 41 mem) (fun x_1 => (if x_1 = 0 then some mem else lt_ (mw mem 0 45 ((rd mem 0 45) - 1)) (fun m_2 => gi (rd m_2 0 43) 60 (lt_ (mw m_2 16 (Int32.toNatClampNeg (rd m_2 0 43)) 5) (fun m_4 => lt_ (mw m_4 0 43 ((rd m_4 0 43) + 1)) (fun m_5 => bd (K_X12_goOn fu m_5) (fun m_6 => bd (K_X12_mustSign fu 59 m_6) (fun m_7 => (K_X12_ends_0 fu n m_7))))))))) else some mem)
def K_X12_ends (fu : Nat) (mem : Mem) : Option Mem := (K_X12_ends_0 fu fu mem)
def rm_X12_ends : Room := { frames := 3, cells := 0, slots := 0, locals := 64 }
set_option maxHeartbeats 4000000 in
set_option maxRecDepth 100000 in
theorem ct_X12_ends (l : Launch) {D : va_G} {ca ad : Nat → Nat} {Z : (Nat → Prop) → State → Heap → Prop} (hZ : ZOK Z) (fu : Nat) (mem : Mem) (res : Mem) (hF : K_X12_ends fu mem = some res) : CV l D (tyL ca) 23 ad (cM ca ad) Z yX12_ends cX12_ends 1 rm_X12_ends [.ref (ad 0)] mem res := by
  refine start_v (own := RX12) rfl (by decide) (Nat.le_of_ble_eq_true rfl) ?_
  intro p e s m args below meth c Q hQ X
  rw [K_X12_ends] at hF
  revert hF
  have w_0 : ∀ (n : Nat) (mem : Mem), K_X12_ends_0 fu n mem = some res → WW D 23 ad (cM ca ad) p l e rm_X12_ends s m args below meth c 1 0 0 Q mem 0 [(0, .ref (ad 0))] [] := by
    intro n
    induction n with
    | zero => intro mem hF; exact no_none (show (none : Option Mem) = some res from hF)
    | succ n ih =>
      intro mem hF
      rw [K_X12_ends_0] at hF
      refine w_aload_n X 0 dX12_ends_0 rfl rfl 1 rfl ?_
      refine w_getV (v := .int (rd mem 0 45)) X 0 ml_0 mo_0 (T := TX12) (N := 50) rfl in_X12 45 (by decide) kF_X12_488 rfl rfl dX12_ends_1 4 rfl ?_
      refine w_if_le X hF 59 7 dX12_ends_4 (by decide) rfl (fun hF => ?_) (fun hF => ?_)
      · refine w_aload_n X 0 dX12_ends_7 rfl rfl 8 rfl ?_
        refine w_bipush X 41 dX12_ends_8 rfl 10 rfl ?_
        refine w_callVi (fun x => x) (fun _ => mem) X hZ hF [.int 41] 0 ml_0 mo_0 rfl rfl rfl kB_X12_isSign kL_X12_147 (fun res h => ct_X12_isSign l hZ fu 41 mem res h) rfl rfl rfl ⟨Nat.le_of_ble_eq_true rfl, Nat.le_of_ble_eq_true rfl⟩ (Nat.le_of_ble_eq_true rfl) ⟨Nat.zero_le _, Nat.zero_le _⟩ dX12_ends_10 13 rfl (fun x_1 hF => ?_)
        refine w_if_eq X hF 59 16 dX12_ends_13 (by decide) rfl (fun hF => ?_) (fun hF => ?_)
        · exact w_vret X hQ (o_inj hF) dX12_ends_59
        · refine w_aload_n X 0 dX12_ends_16 rfl rfl 17 rfl ?_
          refine w_dup X dX12_ends_17 rfl 18 rfl ?_
          refine w_getV (v := .int (rd mem 0 45)) X 0 ml_0 mo_0 (T := TX12) (N := 50) rfl in_X12 45 (by decide) kF_X12_488 rfl rfl dX12_ends_18 21 rfl ?_
          refine w_iconst X 1 dX12_ends_21 rfl 22 rfl ?_
          refine w_isub X dX12_ends_22 23 rfl ?_
          refine w_putI X 0 ml_0 mo_0 (T := TX12) (N := 50) rfl in_X12 tyX12 tyX12_ok nmX12 45 (by decide) kF_X12_488 rfl rfl rfl rfl (Nat.le_of_ble_eq_true rfl) rfl dX12_ends_23 26 rfl ?_
          refine w_letm hF (fun m_2 hF => ?_)
          refine w_aload_n X 0 dX12_ends_26 rfl rfl 27 rfl ?_
          refine w_getV (v := .ref (ad 16)) X 0 ml_0 mo_0 (T := TX12) (N := 50) rfl in_X12 37 (by decide) kF_X12_64 rfl rfl dX12_ends_27 30 rfl ?_
          refine w_aload_n X 0 dX12_ends_30 rfl rfl 31 rfl ?_
          refine w_getV (v := .int (rd m_2 0 43)) X 0 ml_0 mo_0 (T := TX12) (N := 50) rfl in_X12 43 (by decide) kF_X12_494 rfl rfl dX12_ends_31 34 rfl ?_
          refine w_iconst X 5 dX12_ends_34 rfl 35 rfl ?_
          refine w_gi hF (fun h_3 hF => ?_)
          refine w_ias X 16 ml_16 mo_16 (t0 := 0) rfl h_3 dX12_ends_35 36 rfl ?_
          refine w_letm hF (fun m_4 hF => ?_)
          refine w_aload_n X 0 dX12_ends_36 rfl rfl 37 rfl ?_
          refine w_dup X dX12_ends_37 rfl 38 rfl ?_
          refine w_getV (v := .int (rd m_4 0 43)) X 0 ml_0 mo_0 (T := TX12) (N := 50) rfl in_X12 43 (by decide) kF_X12_494 rfl rfl dX12_ends_38 41 rfl ?_
          refine w_iconst X 1 dX12_ends_41 rfl 42 rfl ?_
          refine w_iadd X dX12_ends_42 43 rfl ?_
          refine w_putI X 0 ml_0 mo_0 (T := TX12) (N := 50) rfl in_X12 tyX12 tyX12_ok nmX12 43 (by decide) kF_X12_494 rfl rfl rfl rfl (Nat.le_of_ble_eq_true rfl) rfl dX12_ends_43 46 rfl ?_
          refine w_letm hF (fun m_5 hF => ?_)
          refine w_aload_n X 0 dX12_ends_46 rfl rfl 47 rfl ?_
          refine w_callVv (fun m => m) X hZ hF [] 0 ml_0 mo_0 rfl rfl rfl kB_X12_goOn kL_X12_153 (fun res h => ct_X12_goOn l hZ fu m_5 res h) rfl rfl rfl ⟨Nat.le_of_ble_eq_true rfl, Nat.le_of_ble_eq_true rfl⟩ (Nat.le_of_ble_eq_true rfl) ⟨Nat.zero_le _, Nat.zero_le _⟩ dX12_ends_47 50 rfl (fun m_6 hF => ?_)
          refine w_aload_n X 0 dX12_ends_50 rfl rfl 51 rfl ?_
          refine w_bipush X 59 dX12_ends_51 rfl 53 rfl ?_
          refine w_callVv (fun m => m) X hZ hF [.int 59] 0 ml_0 mo_0 rfl rfl rfl kB_X12_mustSign kL_X12_319 (fun res h => ct_X12_mustSign l hZ fu 59 m_6 res h) rfl rfl rfl ⟨Nat.le_of_ble_eq_true rfl, Nat.le_of_ble_eq_true rfl⟩ (Nat.le_of_ble_eq_true rfl) ⟨Nat.zero_le _, Nat.zero_le _⟩ dX12_ends_53 56 rfl (fun m_7 hF => ?_)
          refine w_goto X 0 dX12_ends_56 (by decide) ?_
          refine w_keep [0] rfl ?_
          exact ih m_7 hF
      · exact w_vret X hQ (o_inj hF) dX12_ends_59
  intro hF
  refine w_keep [0] rfl ?_
  exact w_0 fu mem hF

def K_X12_endsText_29 (fu : Nat) (xs0 : Int32) (mem : Mem) : Option (Int32 × Mem) := bd (K_X12_goes fu xs0 mem) (fun p_3 => gb p_3.1 (some (p_3.1, p_3.2)))
def K_X12_endsText (fu : Nat) (mem : Mem) : Option (Int32 × Mem) := lt_ (mw mem 0 10 (rd mem 0 8)) (fun m_1 => lt_ (mw m_1 0 11 (rd m_1 0 9)) (fun m_2 => (if (rd m_2 0 8) = 0 then (K_X12_endsText_29 fu 1 m_2) else (K_X12_endsText_29 fu 0 m_2))))
def rm_X12_endsText : Room := { frames := 2, cells := 0, slots := 0, locals := 41 }
set_option maxHeartbeats 4000000 in
set_option maxRecDepth 100000 in
theorem ct_X12_endsText (l : Launch) {D : va_G} {ca ad : Nat → Nat} {Z : (Nat → Prop) → State → Heap → Prop} (hZ : ZOK Z) (fu : Nat) (mem : Mem) (res : (Int32 × Mem)) (hF : K_X12_endsText fu mem = some res) : CI l D (tyL ca) 23 ad (cM ca ad) Z yX12_endsText cX12_endsText 1 .boolean rm_X12_endsText [.ref (ad 0)] mem res.1 res.2 := by
  refine start_i (own := RX12) rfl (by decide) (Nat.le_of_ble_eq_true rfl) ?_
  intro p e s m args below meth c Q hQ X
  rw [K_X12_endsText] at hF
  revert hF
  have w_29 : ∀ (xs0 : Int32) (mem : Mem), K_X12_endsText_29 fu xs0 mem = some res → WW D 23 ad (cM ca ad) p l e rm_X12_endsText s m args below meth c 1 0 0 Q mem 29 [] [.int xs0, .ref (ad 0)] := by
    intro xs0 mem hF
    rw [K_X12_endsText_29] at hF
    refine w_callVi (fun x => x.1) (fun x => x.2) X hZ hF [.int xs0] 0 ml_0 mo_0 rfl rfl rfl kB_X12_goes kL_X12_98 (fun res h => ct_X12_goes l hZ fu xs0 mem res h) rfl rfl rfl ⟨Nat.le_of_ble_eq_true rfl, Nat.le_of_ble_eq_true rfl⟩ (Nat.le_of_ble_eq_true rfl) ⟨Nat.zero_le _, Nat.zero_le _⟩ dX12_endsText_29 32 rfl (fun p_3 hF => ?_)
    refine w_gb hF (fun h_4 hF => ?_)
    exact w_iret X hQ (o_inj1 hF) (o_inj2 hF) (bool_nar h_4) dX12_endsText_32
  intro hF
  refine w_aload_n X 0 dX12_endsText_0 rfl rfl 1 rfl ?_
  refine w_aload_n X 0 dX12_endsText_1 rfl rfl 2 rfl ?_
  refine w_getV (v := .int (rd mem 0 8)) X 0 ml_0 mo_0 (T := TX12) (N := 50) rfl in_X12 8 (by decide) kF_X12_140 rfl rfl dX12_endsText_2 5 rfl ?_
  refine w_putI X 0 ml_0 mo_0 (T := TX12) (N := 50) rfl in_X12 tyX12 tyX12_ok nmX12 10 (by decide) kF_X12_164 rfl rfl rfl rfl (Nat.le_of_ble_eq_true rfl) rfl dX12_endsText_5 8 rfl ?_
  refine w_letm hF (fun m_1 hF => ?_)
  refine w_aload_n X 0 dX12_endsText_8 rfl rfl 9 rfl ?_
  refine w_aload_n X 0 dX12_endsText_9 rfl rfl 10 rfl ?_
  refine w_getV (v := .int (rd m_1 0 9)) X 0 ml_0 mo_0 (T := TX12) (N := 50) rfl in_X12 9 (by decide) kF_X12_13 rfl rfl dX12_endsText_10 13 rfl ?_
  refine w_putI X 0 ml_0 mo_0 (T := TX12) (N := 50) rfl in_X12 tyX12 tyX12_ok nmX12 11 (by decide) kF_X12_17 rfl rfl rfl rfl (Nat.le_of_ble_eq_true rfl) rfl dX12_endsText_13 16 rfl ?_
  refine w_letm hF (fun m_2 hF => ?_)
  refine w_aload_n X 0 dX12_endsText_16 rfl rfl 17 rfl ?_
  refine w_aload_n X 0 dX12_endsText_17 rfl rfl 18 rfl ?_
  refine w_getV (v := .int (rd m_2 0 8)) X 0 ml_0 mo_0 (T := TX12) (N := 50) rfl in_X12 8 (by decide) kF_X12_140 rfl rfl dX12_endsText_18 21 rfl ?_
  refine w_if_ne X hF 28 24 dX12_endsText_21 (by decide) rfl (fun hF => ?_) (fun hF => ?_)
  · refine w_iconst X 1 dX12_endsText_24 rfl 25 rfl ?_
    refine w_goto X 29 dX12_endsText_25 (by decide) ?_
    refine w_keep [] rfl ?_
    exact w_29 1 m_2 hF
  · refine w_iconst X 0 dX12_endsText_28 rfl 29 rfl ?_
    refine w_keep [] rfl ?_
    exact w_29 0 m_2 hF

def K_X12_errorCode (fu : Nat) (mem : Mem) : Option (Int32 × Mem) := lt_ (mw mem 0 0 0) (fun m_1 => some ((rd m_1 0 10), m_1))
def rm_X12_errorCode : Room := { frames := 0, cells := 0, slots := 0, locals := 0 }
set_option maxHeartbeats 4000000 in
set_option maxRecDepth 100000 in
theorem ct_X12_errorCode (l : Launch) {D : va_G} {ca ad : Nat → Nat} {Z : (Nat → Prop) → State → Heap → Prop} (hZ : ZOK Z) (fu : Nat) (mem : Mem) (res : (Int32 × Mem)) (hF : K_X12_errorCode fu mem = some res) : CI l D (tyL ca) 23 ad (cM ca ad) Z yX12_errorCode cX12_errorCode 1 .int rm_X12_errorCode [.ref (ad 0)] mem res.1 res.2 := by
  refine start_i (own := RX12) rfl (by decide) (Nat.le_of_ble_eq_true rfl) ?_
  intro p e s m args below meth c Q hQ X
  rw [K_X12_errorCode] at hF
  revert hF
  intro hF
  refine w_aload_n X 0 dX12_errorCode_0 rfl rfl 1 rfl ?_
  refine w_iconst X 0 dX12_errorCode_1 rfl 2 rfl ?_
  refine w_putI X 0 ml_0 mo_0 (T := TX12) (N := 50) rfl in_X12 tyX12 tyX12_ok nmX12 0 (by decide) kF_X12_88 rfl rfl rfl rfl (Nat.le_of_ble_eq_true rfl) rfl dX12_errorCode_2 5 rfl ?_
  refine w_letm hF (fun m_1 hF => ?_)
  refine w_aload_n X 0 dX12_errorCode_5 rfl rfl 6 rfl ?_
  refine w_getV (v := .int (rd m_1 0 10)) X 0 ml_0 mo_0 (T := TX12) (N := 50) rfl in_X12 10 (by decide) kF_X12_164 rfl rfl dX12_errorCode_6 9 rfl ?_
  exact w_iret X hQ (o_inj1 hF) (o_inj2 hF) rfl dX12_errorCode_9

def K_X12_errorPosition (fu : Nat) (mem : Mem) : Option (Int32 × Mem) := lt_ (mw mem 0 0 0) (fun m_1 => some ((rd m_1 0 11), m_1))
def rm_X12_errorPosition : Room := { frames := 0, cells := 0, slots := 0, locals := 0 }
set_option maxHeartbeats 4000000 in
set_option maxRecDepth 100000 in
theorem ct_X12_errorPosition (l : Launch) {D : va_G} {ca ad : Nat → Nat} {Z : (Nat → Prop) → State → Heap → Prop} (hZ : ZOK Z) (fu : Nat) (mem : Mem) (res : (Int32 × Mem)) (hF : K_X12_errorPosition fu mem = some res) : CI l D (tyL ca) 23 ad (cM ca ad) Z yX12_errorPosition cX12_errorPosition 1 .int rm_X12_errorPosition [.ref (ad 0)] mem res.1 res.2 := by
  refine start_i (own := RX12) rfl (by decide) (Nat.le_of_ble_eq_true rfl) ?_
  intro p e s m args below meth c Q hQ X
  rw [K_X12_errorPosition] at hF
  revert hF
  intro hF
  refine w_aload_n X 0 dX12_errorPosition_0 rfl rfl 1 rfl ?_
  refine w_iconst X 0 dX12_errorPosition_1 rfl 2 rfl ?_
  refine w_putI X 0 ml_0 mo_0 (T := TX12) (N := 50) rfl in_X12 tyX12 tyX12_ok nmX12 0 (by decide) kF_X12_88 rfl rfl rfl rfl (Nat.le_of_ble_eq_true rfl) rfl dX12_errorPosition_2 5 rfl ?_
  refine w_letm hF (fun m_1 hF => ?_)
  refine w_aload_n X 0 dX12_errorPosition_5 rfl rfl 6 rfl ?_
  refine w_getV (v := .int (rd m_1 0 11)) X 0 ml_0 mo_0 (T := TX12) (N := 50) rfl in_X12 11 (by decide) kF_X12_17 rfl rfl dX12_errorPosition_6 9 rfl ?_
  exact w_iret X hQ (o_inj1 hF) (o_inj2 hF) rfl dX12_errorPosition_9

def K_X12_four_3 (fu : Nat) : Nat → Int32 → Int32 → Mem → Option Mem
  | 0, _, _, _ => none
  | n + 1, x1, x2, mem => (if x2 < 0 then some mem else gi (rd mem 0 2) 700 (lt_ (mw mem 1 (Int32.toNatClampNeg (rd mem 0 2)) ((x1 >>> (x2 &&& 31)) &&& 255)) (fun m_2 => lt_ (mw m_2 0 2 ((rd m_2 0 2) + 1)) (fun m_3 => (K_X12_four_3 fu n x1 (x2 + (-8)) m_3)))))
def K_X12_four (fu : Nat) (x1 : Int32) (mem : Mem) : Option Mem := (K_X12_four_3 fu fu x1 24 mem)
def rm_X12_four : Room := { frames := 0, cells := 0, slots := 0, locals := 0 }
set_option maxHeartbeats 4000000 in
set_option maxRecDepth 100000 in
theorem ct_X12_four (l : Launch) {D : va_G} {ca ad : Nat → Nat} {Z : (Nat → Prop) → State → Heap → Prop} (hZ : ZOK Z) (fu : Nat) (x1 : Int32) (mem : Mem) (res : Mem) (hF : K_X12_four fu x1 mem = some res) : CV l D (tyL ca) 23 ad (cM ca ad) Z yX12_four cX12_four 3 rm_X12_four [.ref (ad 0), .int x1] mem res := by
  refine start_v (own := RX12) rfl (by decide) (Nat.le_of_ble_eq_true rfl) ?_
  intro p e s m args below meth c Q hQ X
  rw [K_X12_four] at hF
  revert hF
  have w_3 : ∀ (n : Nat) (x1 : Int32) (x2 : Int32) (mem : Mem), K_X12_four_3 fu n x1 x2 mem = some res → WW D 23 ad (cM ca ad) p l e rm_X12_four s m args below meth c 3 0 0 Q mem 3 [(0, .ref (ad 0)), (1, .int x1), (2, .int x2)] [] := by
    intro n
    induction n with
    | zero => intro x1 x2 mem hF; exact no_none (show (none : Option Mem) = some res from hF)
    | succ n ih =>
      intro x1 x2 mem hF
      rw [K_X12_four_3] at hF
      refine w_iload_n X 2 dX12_four_3 rfl rfl 4 rfl ?_
      refine w_if_lt X hF 39 7 dX12_four_4 (by decide) rfl (fun hF => ?_) (fun hF => ?_)
      · exact w_vret X hQ (o_inj hF) dX12_four_39
      · refine w_aload_n X 0 dX12_four_7 rfl rfl 8 rfl ?_
        refine w_getV (v := .ref (ad 1)) X 0 ml_0 mo_0 (T := TX12) (N := 50) rfl in_X12 1 (by decide) kF_X12_7 rfl rfl dX12_four_8 11 rfl ?_
        refine w_aload_n X 0 dX12_four_11 rfl rfl 12 rfl ?_
        refine w_getV (v := .int (rd mem 0 2)) X 0 ml_0 mo_0 (T := TX12) (N := 50) rfl in_X12 2 (by decide) kF_X12_95 rfl rfl dX12_four_12 15 rfl ?_
        refine w_iload_n X 1 dX12_four_15 rfl rfl 16 rfl ?_
        refine w_iload_n X 2 dX12_four_16 rfl rfl 17 rfl ?_
        refine w_ishr X dX12_four_17 18 rfl ?_
        refine w_sipush X 255 dX12_four_18 rfl 21 rfl ?_
        refine w_iand X dX12_four_21 22 rfl ?_
        refine w_gi hF (fun h_1 hF => ?_)
        refine w_ias X 1 ml_1 mo_1 (t0 := 0) rfl h_1 dX12_four_22 23 rfl ?_
        refine w_letm hF (fun m_2 hF => ?_)
        refine w_aload_n X 0 dX12_four_23 rfl rfl 24 rfl ?_
        refine w_dup X dX12_four_24 rfl 25 rfl ?_
        refine w_getV (v := .int (rd m_2 0 2)) X 0 ml_0 mo_0 (T := TX12) (N := 50) rfl in_X12 2 (by decide) kF_X12_95 rfl rfl dX12_four_25 28 rfl ?_
        refine w_iconst X 1 dX12_four_28 rfl 29 rfl ?_
        refine w_iadd X dX12_four_29 30 rfl ?_
        refine w_putI X 0 ml_0 mo_0 (T := TX12) (N := 50) rfl in_X12 tyX12 tyX12_ok nmX12 2 (by decide) kF_X12_95 rfl rfl rfl rfl (Nat.le_of_ble_eq_true rfl) rfl dX12_four_30 33 rfl ?_
        refine w_letm hF (fun m_3 hF => ?_)
        refine w_iinc X 2 (x2 + (-8)) [(2, .int (x2 + (-8))), (0, .ref (ad 0)), (1, .int x1)] dX12_four_33 rfl rfl (by decide) rfl 36 rfl ?_
        refine w_goto X 3 dX12_four_36 (by decide) ?_
        refine w_keep [1, 2, 0] rfl ?_
        exact ih x1 (x2 + (-8)) m_3 hF
  intro hF
  refine w_bipush X 24 dX12_four_0 rfl 2 rfl ?_
  refine w_istore_n X [(2, .int 24), (0, .ref (ad 0)), (1, .int x1)] dX12_four_2 rfl (by decide) rfl 3 rfl ?_
  refine w_keep [1, 2, 0] rfl ?_
  exact w_3 fu x1 24 mem hF

def K_X12_feed_19 (fu : Nat) (x1 : Int32) (x2 : Int32) (x3 : Int32) (x4 : Int32) (x5 : Int32) (xs0 : Int32) (mem : Mem) : Option (Int32 × Mem) := bd (K_X12_goes fu xs0 mem) (fun p_1 => (if p_1.1 = 0 then some (0, p_1.2) else bd (K_X12_four fu x1 p_1.2) (fun m_2 => bd (K_X12_four fu x2 m_2) (fun m_3 => bd (K_X12_four fu x3 m_3) (fun m_4 => bd (K_X12_four fu x4 m_4) (fun m_5 => bd (K_X12_four fu x5 m_5) (fun m_6 => some ((rd m_6 0 2), m_6))))))))
def K_X12_feed (fu : Nat) (x1 : Int32) (x2 : Int32) (x3 : Int32) (x4 : Int32) (x5 : Int32) (mem : Mem) : Option (Int32 × Mem) := (if 700 < ((rd mem 0 2) + 20) then (K_X12_feed_19 fu x1 x2 x3 x4 x5 0 mem) else (K_X12_feed_19 fu x1 x2 x3 x4 x5 1 mem))
def rm_X12_feed : Room := { frames := 2, cells := 0, slots := 0, locals := 41 }
set_option maxHeartbeats 4000000 in
set_option maxRecDepth 100000 in
theorem ct_X12_feed (l : Launch) {D : va_G} {ca ad : Nat → Nat} {Z : (Nat → Prop) → State → Heap → Prop} (hZ : ZOK Z) (fu : Nat) (x1 : Int32) (x2 : Int32) (x3 : Int32) (x4 : Int32) (x5 : Int32) (mem : Mem) (res : (Int32 × Mem)) (hF : K_X12_feed fu x1 x2 x3 x4 x5 mem = some res) : CI l D (tyL ca) 23 ad (cM ca ad) Z yX12_feed cX12_feed 6 .int rm_X12_feed [.ref (ad 0), .int x1, .int x2, .int x3, .int x4, .int x5] mem res.1 res.2 := by
  refine start_i (own := RX12) rfl (by decide) (Nat.le_of_ble_eq_true rfl) ?_
  intro p e s m args below meth c Q hQ X
  rw [K_X12_feed] at hF
  revert hF
  have w_19 : ∀ (x1 : Int32) (x2 : Int32) (x3 : Int32) (x4 : Int32) (x5 : Int32) (xs0 : Int32) (mem : Mem), K_X12_feed_19 fu x1 x2 x3 x4 x5 xs0 mem = some res → WW D 23 ad (cM ca ad) p l e rm_X12_feed s m args below meth c 6 0 0 Q mem 19 [(0, .ref (ad 0)), (1, .int x1), (2, .int x2), (3, .int x3), (4, .int x4), (5, .int x5)] [.int xs0, .ref (ad 0)] := by
    intro x1 x2 x3 x4 x5 xs0 mem hF
    rw [K_X12_feed_19] at hF
    refine w_callVi (fun x => x.1) (fun x => x.2) X hZ hF [.int xs0] 0 ml_0 mo_0 rfl rfl rfl kB_X12_goes kL_X12_98 (fun res h => ct_X12_goes l hZ fu xs0 mem res h) rfl rfl rfl ⟨Nat.le_of_ble_eq_true rfl, Nat.le_of_ble_eq_true rfl⟩ (Nat.le_of_ble_eq_true rfl) ⟨Nat.zero_le _, Nat.zero_le _⟩ dX12_feed_19 22 rfl (fun p_1 hF => ?_)
    refine w_if_ne X hF 27 25 dX12_feed_22 (by decide) rfl (fun hF => ?_) (fun hF => ?_)
    · refine w_iconst X 0 dX12_feed_25 rfl 26 rfl ?_
      exact w_iret X hQ (o_inj1 hF) (o_inj2 hF) rfl dX12_feed_26
    · refine w_aload_n X 0 dX12_feed_27 rfl rfl 28 rfl ?_
      refine w_iload_n X 1 dX12_feed_28 rfl rfl 29 rfl ?_
      refine w_callVv (fun m => m) X hZ hF [.int x1] 0 ml_0 mo_0 rfl rfl rfl kB_X12_four kL_X12_102 (fun res h => ct_X12_four l hZ fu x1 p_1.2 res h) rfl rfl rfl ⟨Nat.le_of_ble_eq_true rfl, Nat.le_of_ble_eq_true rfl⟩ (Nat.le_of_ble_eq_true rfl) ⟨Nat.zero_le _, Nat.zero_le _⟩ dX12_feed_29 32 rfl (fun m_2 hF => ?_)
      refine w_aload_n X 0 dX12_feed_32 rfl rfl 33 rfl ?_
      refine w_iload_n X 2 dX12_feed_33 rfl rfl 34 rfl ?_
      refine w_callVv (fun m => m) X hZ hF [.int x2] 0 ml_0 mo_0 rfl rfl rfl kB_X12_four kL_X12_102 (fun res h => ct_X12_four l hZ fu x2 m_2 res h) rfl rfl rfl ⟨Nat.le_of_ble_eq_true rfl, Nat.le_of_ble_eq_true rfl⟩ (Nat.le_of_ble_eq_true rfl) ⟨Nat.zero_le _, Nat.zero_le _⟩ dX12_feed_34 37 rfl (fun m_3 hF => ?_)
      refine w_aload_n X 0 dX12_feed_37 rfl rfl 38 rfl ?_
      refine w_iload_n X 3 dX12_feed_38 rfl rfl 39 rfl ?_
      refine w_callVv (fun m => m) X hZ hF [.int x3] 0 ml_0 mo_0 rfl rfl rfl kB_X12_four kL_X12_102 (fun res h => ct_X12_four l hZ fu x3 m_3 res h) rfl rfl rfl ⟨Nat.le_of_ble_eq_true rfl, Nat.le_of_ble_eq_true rfl⟩ (Nat.le_of_ble_eq_true rfl) ⟨Nat.zero_le _, Nat.zero_le _⟩ dX12_feed_39 42 rfl (fun m_4 hF => ?_)
      refine w_aload_n X 0 dX12_feed_42 rfl rfl 43 rfl ?_
      refine w_iload X 4 dX12_feed_43 rfl 45 rfl ?_
      refine w_callVv (fun m => m) X hZ hF [.int x4] 0 ml_0 mo_0 rfl rfl rfl kB_X12_four kL_X12_102 (fun res h => ct_X12_four l hZ fu x4 m_4 res h) rfl rfl rfl ⟨Nat.le_of_ble_eq_true rfl, Nat.le_of_ble_eq_true rfl⟩ (Nat.le_of_ble_eq_true rfl) ⟨Nat.zero_le _, Nat.zero_le _⟩ dX12_feed_45 48 rfl (fun m_5 hF => ?_)
      refine w_aload_n X 0 dX12_feed_48 rfl rfl 49 rfl ?_
      refine w_iload X 5 dX12_feed_49 rfl 51 rfl ?_
      refine w_callVv (fun m => m) X hZ hF [.int x5] 0 ml_0 mo_0 rfl rfl rfl kB_X12_four kL_X12_102 (fun res h => ct_X12_four l hZ fu x5 m_5 res h) rfl rfl rfl ⟨Nat.le_of_ble_eq_true rfl, Nat.le_of_ble_eq_true rfl⟩ (Nat.le_of_ble_eq_true rfl) ⟨Nat.zero_le _, Nat.zero_le _⟩ dX12_feed_51 54 rfl (fun m_6 hF => ?_)
      refine w_aload_n X 0 dX12_feed_54 rfl rfl 55 rfl ?_
      refine w_getV (v := .int (rd m_6 0 2)) X 0 ml_0 mo_0 (T := TX12) (N := 50) rfl in_X12 2 (by decide) kF_X12_95 rfl rfl dX12_feed_55 58 rfl ?_
      exact w_iret X hQ (o_inj1 hF) (o_inj2 hF) rfl dX12_feed_58
  intro hF
  refine w_aload_n X 0 dX12_feed_0 rfl rfl 1 rfl ?_
  refine w_aload_n X 0 dX12_feed_1 rfl rfl 2 rfl ?_
  refine w_getV (v := .int (rd mem 0 2)) X 0 ml_0 mo_0 (T := TX12) (N := 50) rfl in_X12 2 (by decide) kF_X12_95 rfl rfl dX12_feed_2 5 rfl ?_
  refine w_bipush X 20 dX12_feed_5 rfl 7 rfl ?_
  refine w_iadd X dX12_feed_7 8 rfl ?_
  refine w_sipush X 700 dX12_feed_8 rfl 11 rfl ?_
  refine w_icmp_gt X hF 18 14 dX12_feed_11 (by decide) rfl (fun hF => ?_) (fun hF => ?_)
  · refine w_iconst X 0 dX12_feed_18 rfl 19 rfl ?_
    refine w_keep [0, 1, 2, 3, 4, 5] rfl ?_
    exact w_19 x1 x2 x3 x4 x5 0 mem hF
  · refine w_iconst X 1 dX12_feed_14 rfl 15 rfl ?_
    refine w_goto X 19 dX12_feed_15 (by decide) ?_
    refine w_keep [0, 1, 2, 3, 4, 5] rfl ?_
    exact w_19 x1 x2 x3 x4 x5 1 mem hF
end Km2
