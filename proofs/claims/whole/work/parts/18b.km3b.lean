section Km3b
def K_X12_isNearer (fu : Nat) (x1 : Int32) (x2 : Int32) (mem : Mem) : Option Int32 := lt_ (x1 - x1 / 9 * 9) (fun x_1 => lt_ (x1 / 9) (fun x_2 => bd (K_X12_blocks fu x_1 x_2 x2 mem) (fun x_3 => (if x_3 = 0 then bd (K_X12_up fu x2 mem) (fun x_4 => bd (K_X12_across fu x2 mem) (fun x_5 => gi ((x1 + (9 * x_4)) + x_5) 81 (gi x1 81 ((if (rd mem 7 (Int32.toNatClampNeg ((x1 + (9 * x_4)) + x_5))) = ((rd mem 7 (Int32.toNatClampNeg x1)) - 1) then some 1 else some 0))))) else some 0))))
def rm_X12_isNearer : Room := { frames := 4, cells := 0, slots := 0, locals := 96 }
set_option maxHeartbeats 4000000 in
set_option maxRecDepth 100000 in
theorem ct_X12_isNearer (l : Launch) {D : va_G} {ca ad : Nat → Nat} {Z : (Nat → Prop) → State → Heap → Prop} (hZ : ZOK Z) (fu : Nat) (x1 : Int32) (x2 : Int32) (mem : Mem) (res : Int32) (hF : K_X12_isNearer fu x1 x2 mem = some res) : CI l D (tyL ca) 23 ad (cM ca ad) Z yX12_isNearer cX12_isNearer 3 .boolean rm_X12_isNearer [.ref (ad 0), .int x1, .int x2] mem res mem := by
  refine start_i (own := RX12) rfl (by decide) (Nat.le_of_ble_eq_true rfl) ?_
  intro p e s m args below meth c Q hQ X
  rw [K_X12_isNearer] at hF
  revert hF
  intro hF
  refine w_aload_n X 0 dX12_isNearer_0 rfl rfl 1 rfl ?_
  refine w_iload_n X 1 dX12_isNearer_1 rfl rfl 2 rfl ?_
  refine w_bipush X 9 dX12_isNearer_2 rfl 4 rfl ?_
  refine w_irem X (by decide) dX12_isNearer_4 5 rfl ?_
  refine w_let hF (fun x_1 hF => ?_)
  refine w_iload_n X 1 dX12_isNearer_5 rfl rfl 6 rfl ?_
  refine w_bipush X 9 dX12_isNearer_6 rfl 8 rfl ?_
  refine w_idiv X (by decide) dX12_isNearer_8 9 rfl ?_
  refine w_let hF (fun x_2 hF => ?_)
  refine w_iload_n X 2 dX12_isNearer_9 rfl rfl 10 rfl ?_
  refine w_callVi (fun x => x) (fun _ => mem) X hZ hF [.int x_1, .int x_2, .int x2] 0 ml_0 mo_0 rfl rfl rfl kB_X12_blocks kL_X12_210 (fun res h => ct_X12_blocks l hZ fu x_1 x_2 x2 mem res h) rfl rfl rfl ⟨Nat.le_of_ble_eq_true rfl, Nat.le_of_ble_eq_true rfl⟩ (Nat.le_of_ble_eq_true rfl) ⟨Nat.zero_le _, Nat.zero_le _⟩ dX12_isNearer_10 13 rfl (fun x_3 hF => ?_)
  refine w_if_ne X hF 50 16 dX12_isNearer_13 (by decide) rfl (fun hF => ?_) (fun hF => ?_)
  · refine w_aload_n X 0 dX12_isNearer_16 rfl rfl 17 rfl ?_
    refine w_getV (v := .ref (ad 7)) X 0 ml_0 mo_0 (T := TX12) (N := 50) rfl in_X12 20 (by decide) kF_X12_35 rfl rfl dX12_isNearer_17 20 rfl ?_
    refine w_iload_n X 1 dX12_isNearer_20 rfl rfl 21 rfl ?_
    refine w_bipush X 9 dX12_isNearer_21 rfl 23 rfl ?_
    refine w_iload_n X 2 dX12_isNearer_23 rfl rfl 24 rfl ?_
    refine w_callSi (fun x => x) (fun _ => mem) X hZ hF [.int x2] rfl kB_X12_up kL_X12_184 (fun res h => ct_X12_up l hZ fu x2 mem res h) rfl rfl rfl ⟨Nat.le_of_ble_eq_true rfl, Nat.le_of_ble_eq_true rfl⟩ (Nat.le_of_ble_eq_true rfl) ⟨Nat.zero_le _, Nat.zero_le _⟩ dX12_isNearer_24 27 rfl (fun x_4 hF => ?_)
    refine w_imul X dX12_isNearer_27 28 rfl ?_
    refine w_iadd X dX12_isNearer_28 29 rfl ?_
    refine w_iload_n X 2 dX12_isNearer_29 rfl rfl 30 rfl ?_
    refine w_callSi (fun x => x) (fun _ => mem) X hZ hF [.int x2] rfl kB_X12_across kL_X12_181 (fun res h => ct_X12_across l hZ fu x2 mem res h) rfl rfl rfl ⟨Nat.le_of_ble_eq_true rfl, Nat.le_of_ble_eq_true rfl⟩ (Nat.le_of_ble_eq_true rfl) ⟨Nat.zero_le _, Nat.zero_le _⟩ dX12_isNearer_30 33 rfl (fun x_5 hF => ?_)
    refine w_iadd X dX12_isNearer_33 34 rfl ?_
    refine w_gi hF (fun h_6 hF => ?_)
    refine w_ial X 7 ml_7 mo_7 (t0 := 0) rfl h_6 dX12_isNearer_34 35 rfl ?_
    refine w_aload_n X 0 dX12_isNearer_35 rfl rfl 36 rfl ?_
    refine w_getV (v := .ref (ad 7)) X 0 ml_0 mo_0 (T := TX12) (N := 50) rfl in_X12 20 (by decide) kF_X12_35 rfl rfl dX12_isNearer_36 39 rfl ?_
    refine w_iload_n X 1 dX12_isNearer_39 rfl rfl 40 rfl ?_
    refine w_gi hF (fun h_7 hF => ?_)
    refine w_ial X 7 ml_7 mo_7 (t0 := 0) rfl h_7 dX12_isNearer_40 41 rfl ?_
    refine w_iconst X 1 dX12_isNearer_41 rfl 42 rfl ?_
    refine w_isub X dX12_isNearer_42 43 rfl ?_
    refine w_icmp_ne X hF 50 46 dX12_isNearer_43 (by decide) rfl (fun hF => ?_) (fun hF => ?_)
    · refine w_iconst X 1 dX12_isNearer_46 rfl 47 rfl ?_
      refine w_goto X 51 dX12_isNearer_47 (by decide) ?_
      exact w_iret X hQ (o_inj hF) rfl rfl dX12_isNearer_51
    · refine w_iconst X 0 dX12_isNearer_50 rfl 51 rfl ?_
      exact w_iret X hQ (o_inj hF) rfl rfl dX12_isNearer_51
  · refine w_iconst X 0 dX12_isNearer_50 rfl 51 rfl ?_
    exact w_iret X hQ (o_inj hF) rfl rfl dX12_isNearer_51

def K_X12_isOver (fu : Nat) (mem : Mem) : Option (Int32 × Mem) := lt_ (mw mem 0 0 0) (fun m_1 => bd (K_X12_over fu m_1) (fun x_2 => gb x_2 (some (x_2, m_1))))
def rm_X12_isOver : Room := { frames := 1, cells := 0, slots := 0, locals := 20 }
set_option maxHeartbeats 4000000 in
set_option maxRecDepth 100000 in
theorem ct_X12_isOver (l : Launch) {D : va_G} {ca ad : Nat → Nat} {Z : (Nat → Prop) → State → Heap → Prop} (hZ : ZOK Z) (fu : Nat) (mem : Mem) (res : (Int32 × Mem)) (hF : K_X12_isOver fu mem = some res) : CI l D (tyL ca) 23 ad (cM ca ad) Z yX12_isOver cX12_isOver 1 .boolean rm_X12_isOver [.ref (ad 0)] mem res.1 res.2 := by
  refine start_i (own := RX12) rfl (by decide) (Nat.le_of_ble_eq_true rfl) ?_
  intro p e s m args below meth c Q hQ X
  rw [K_X12_isOver] at hF
  revert hF
  intro hF
  refine w_aload_n X 0 dX12_isOver_0 rfl rfl 1 rfl ?_
  refine w_iconst X 0 dX12_isOver_1 rfl 2 rfl ?_
  refine w_putI X 0 ml_0 mo_0 (T := TX12) (N := 50) rfl in_X12 tyX12 tyX12_ok nmX12 0 (by decide) kF_X12_88 rfl rfl rfl rfl (Nat.le_of_ble_eq_true rfl) rfl dX12_isOver_2 5 rfl ?_
  refine w_letm hF (fun m_1 hF => ?_)
  refine w_aload_n X 0 dX12_isOver_5 rfl rfl 6 rfl ?_
  refine w_callVi (fun x => x) (fun _ => m_1) X hZ hF [] 0 ml_0 mo_0 rfl rfl rfl kB_X12_over kL_X12_351 (fun res h => ct_X12_over l hZ fu m_1 res h) rfl rfl rfl ⟨Nat.le_of_ble_eq_true rfl, Nat.le_of_ble_eq_true rfl⟩ (Nat.le_of_ble_eq_true rfl) ⟨Nat.zero_le _, Nat.zero_le _⟩ dX12_isOver_6 9 rfl (fun x_2 hF => ?_)
  refine w_gb hF (fun h_3 hF => ?_)
  exact w_iret X hQ (o_inj1 hF) (o_inj2 hF) (bool_nar h_3) dX12_isOver_9

def K_X12_leader (fu : Nat) (mem : Mem) : Option (Int32 × Mem) := lt_ (mw mem 0 0 0) (fun m_1 => bd (K_X12_nearest fu (-1) m_1) (fun p_2 => some (p_2.1, p_2.2)))
def rm_X12_leader : Room := { frames := 8, cells := 0, slots := 0, locals := 189 }
set_option maxHeartbeats 4000000 in
set_option maxRecDepth 100000 in
theorem ct_X12_leader (l : Launch) {D : va_G} {ca ad : Nat → Nat} {Z : (Nat → Prop) → State → Heap → Prop} (hZ : ZOK Z) (fu : Nat) (mem : Mem) (res : (Int32 × Mem)) (hF : K_X12_leader fu mem = some res) : CI l D (tyL ca) 23 ad (cM ca ad) Z yX12_leader cX12_leader 1 .int rm_X12_leader [.ref (ad 0)] mem res.1 res.2 := by
  refine start_i (own := RX12) rfl (by decide) (Nat.le_of_ble_eq_true rfl) ?_
  intro p e s m args below meth c Q hQ X
  rw [K_X12_leader] at hF
  revert hF
  intro hF
  refine w_aload_n X 0 dX12_leader_0 rfl rfl 1 rfl ?_
  refine w_iconst X 0 dX12_leader_1 rfl 2 rfl ?_
  refine w_putI X 0 ml_0 mo_0 (T := TX12) (N := 50) rfl in_X12 tyX12 tyX12_ok nmX12 0 (by decide) kF_X12_88 rfl rfl rfl rfl (Nat.le_of_ble_eq_true rfl) rfl dX12_leader_2 5 rfl ?_
  refine w_letm hF (fun m_1 hF => ?_)
  refine w_aload_n X 0 dX12_leader_5 rfl rfl 6 rfl ?_
  refine w_iconst X (-1) dX12_leader_6 rfl 7 rfl ?_
  refine w_callVi (fun x => x.1) (fun x => x.2) X hZ hF [.int (-1)] 0 ml_0 mo_0 rfl rfl rfl kB_X12_nearest kL_X12_417 (fun res h => ct_X12_nearest l hZ fu (-1) m_1 res h) rfl rfl rfl ⟨Nat.le_of_ble_eq_true rfl, Nat.le_of_ble_eq_true rfl⟩ (Nat.le_of_ble_eq_true rfl) ⟨Nat.zero_le _, Nat.zero_le _⟩ dX12_leader_7 10 rfl (fun p_2 hF => ?_)
  exact w_iret X hQ (o_inj1 hF) (o_inj2 hF) rfl dX12_leader_10

def K_X12_mustWord_20 (fu : Nat) (mem : Mem) : Option Mem := bd (K_X12_isGood fu mem) (fun x_4 => (if x_4 = 0 then some mem else bd (K_X12_goOn fu mem) (fun m_5 => some m_5)))
def K_X12_mustWord (fu : Nat) (x1 : Int64) (mem : Mem) : Option Mem := bd (K_X12_isGood fu mem) (fun x_1 => (if x_1 = 0 then (K_X12_mustWord_20 fu mem) else bd (K_X12_isWord fu x1 mem) (fun x_2 => (if x_2 = 0 then bd (K_X12_wrong fu 1 mem) (fun m_3 => (K_X12_mustWord_20 fu m_3)) else (K_X12_mustWord_20 fu mem)))))
def rm_X12_mustWord : Room := { frames := 2, cells := 0, slots := 0, locals := 43 }
set_option maxHeartbeats 4000000 in
set_option maxRecDepth 100000 in
theorem ct_X12_mustWord (l : Launch) {D : va_G} {ca ad : Nat → Nat} {Z : (Nat → Prop) → State → Heap → Prop} (hZ : ZOK Z) (fu : Nat) (x1 : Int64) (mem : Mem) (res : Mem) (hF : K_X12_mustWord fu x1 mem = some res) : CV l D (tyL ca) 23 ad (cM ca ad) Z yX12_mustWord cX12_mustWord 3 rm_X12_mustWord [.ref (ad 0), .long x1] mem res := by
  refine start_v (own := RX12) rfl (by decide) (Nat.le_of_ble_eq_true rfl) ?_
  intro p e s m args below meth c Q hQ X
  rw [K_X12_mustWord] at hF
  revert hF
  have w_20 : ∀ (mem : Mem), K_X12_mustWord_20 fu mem = some res → WW D 23 ad (cM ca ad) p l e rm_X12_mustWord s m args below meth c 3 0 0 Q mem 20 [(0, .ref (ad 0))] [] := by
    intro mem hF
    rw [K_X12_mustWord_20] at hF
    refine w_aload_n X 0 dX12_mustWord_20 rfl rfl 21 rfl ?_
    refine w_callVi (fun x => x) (fun _ => mem) X hZ hF [] 0 ml_0 mo_0 rfl rfl rfl kB_X12_isGood kL_X12_143 (fun res h => ct_X12_isGood l hZ fu mem res h) rfl rfl rfl ⟨Nat.le_of_ble_eq_true rfl, Nat.le_of_ble_eq_true rfl⟩ (Nat.le_of_ble_eq_true rfl) ⟨Nat.zero_le _, Nat.zero_le _⟩ dX12_mustWord_21 24 rfl (fun x_4 hF => ?_)
    refine w_if_eq X hF 31 27 dX12_mustWord_24 (by decide) rfl (fun hF => ?_) (fun hF => ?_)
    · exact w_vret X hQ (o_inj hF) dX12_mustWord_31
    · refine w_aload_n X 0 dX12_mustWord_27 rfl rfl 28 rfl ?_
      refine w_callVv (fun m => m) X hZ hF [] 0 ml_0 mo_0 rfl rfl rfl kB_X12_goOn kL_X12_153 (fun res h => ct_X12_goOn l hZ fu mem res h) rfl rfl rfl ⟨Nat.le_of_ble_eq_true rfl, Nat.le_of_ble_eq_true rfl⟩ (Nat.le_of_ble_eq_true rfl) ⟨Nat.zero_le _, Nat.zero_le _⟩ dX12_mustWord_28 31 rfl (fun m_5 hF => ?_)
      exact w_vret X hQ (o_inj hF) dX12_mustWord_31
  intro hF
  refine w_aload_n X 0 dX12_mustWord_0 rfl rfl 1 rfl ?_
  refine w_callVi (fun x => x) (fun _ => mem) X hZ hF [] 0 ml_0 mo_0 rfl rfl rfl kB_X12_isGood kL_X12_143 (fun res h => ct_X12_isGood l hZ fu mem res h) rfl rfl rfl ⟨Nat.le_of_ble_eq_true rfl, Nat.le_of_ble_eq_true rfl⟩ (Nat.le_of_ble_eq_true rfl) ⟨Nat.zero_le _, Nat.zero_le _⟩ dX12_mustWord_1 4 rfl (fun x_1 hF => ?_)
  refine w_if_eq X hF 20 7 dX12_mustWord_4 (by decide) rfl (fun hF => ?_) (fun hF => ?_)
  · refine w_keep [0] rfl ?_
    exact w_20 mem hF
  · refine w_aload_n X 0 dX12_mustWord_7 rfl rfl 8 rfl ?_
    refine w_lload_n X 1 dX12_mustWord_8 rfl rfl 9 rfl ?_
    refine w_callVi (fun x => x) (fun _ => mem) X hZ hF [.long x1] 0 ml_0 mo_0 rfl rfl rfl kB_X12_isWord kL_X12_156 (fun res h => ct_X12_isWord l hZ fu x1 mem res h) rfl rfl rfl ⟨Nat.le_of_ble_eq_true rfl, Nat.le_of_ble_eq_true rfl⟩ (Nat.le_of_ble_eq_true rfl) ⟨Nat.zero_le _, Nat.zero_le _⟩ dX12_mustWord_9 12 rfl (fun x_2 hF => ?_)
    refine w_if_ne X hF 20 15 dX12_mustWord_12 (by decide) rfl (fun hF => ?_) (fun hF => ?_)
    · refine w_aload_n X 0 dX12_mustWord_15 rfl rfl 16 rfl ?_
      refine w_iconst X 1 dX12_mustWord_16 rfl 17 rfl ?_
      refine w_callVv (fun m => m) X hZ hF [.int 1] 0 ml_0 mo_0 rfl rfl rfl kB_X12_wrong kL_X12_150 (fun res h => ct_X12_wrong l hZ fu 1 mem res h) rfl rfl rfl ⟨Nat.le_of_ble_eq_true rfl, Nat.le_of_ble_eq_true rfl⟩ (Nat.le_of_ble_eq_true rfl) ⟨Nat.zero_le _, Nat.zero_le _⟩ dX12_mustWord_17 20 rfl (fun m_3 hF => ?_)
      refine w_keep [0] rfl ?_
      exact w_20 m_3 hF
    · refine w_keep [0] rfl ?_
      exact w_20 mem hF

def K_X12_named_4 (fu : Nat) (mem : Mem) : Nat → Int32 → Int32 → Option Int32
  | 0, _, _ => none
  | n + 1, x1, x2 => gi 2 184 ((if x2 < (rd mem 2 (Int32.toNatClampNeg 2)) then gi x2 4 ((if (lg_cmp (rl mem 9 (Int32.toNatClampNeg x2)) (rl mem 0 12)) = 0 then (K_X12_named_4 fu mem n x2 (x2 + 1) ) else (K_X12_named_4 fu mem n x1 (x2 + 1) ))) else some x1))
def K_X12_named (fu : Nat) (mem : Mem) : Option Int32 := (K_X12_named_4 fu mem fu (-1) 0 )
def rm_X12_named : Room := { frames := 0, cells := 0, slots := 0, locals := 0 }
set_option maxHeartbeats 4000000 in
set_option maxRecDepth 100000 in
theorem ct_X12_named (l : Launch) {D : va_G} {ca ad : Nat → Nat} {Z : (Nat → Prop) → State → Heap → Prop} (hZ : ZOK Z) (fu : Nat) (mem : Mem) (res : Int32) (hF : K_X12_named fu mem = some res) : CI l D (tyL ca) 23 ad (cM ca ad) Z yX12_named cX12_named 3 .int rm_X12_named [.ref (ad 0)] mem res mem := by
  refine start_i (own := RX12) rfl (by decide) (Nat.le_of_ble_eq_true rfl) ?_
  intro p e s m args below meth c Q hQ X
  rw [K_X12_named] at hF
  revert hF
  have w_4 : ∀ (n : Nat) (x1 : Int32) (x2 : Int32), K_X12_named_4 fu mem n x1 x2 = some res → WW D 23 ad (cM ca ad) p l e rm_X12_named s m args below meth c 3 0 0 Q mem 4 [(0, .ref (ad 0)), (1, .int x1), (2, .int x2)] [] := by
    intro n
    induction n with
    | zero => intro x1 x2 hF; exact no_none (show (none : Option Int32) = some res from hF)
    | succ n ih =>
      intro x1 x2 hF
      rw [K_X12_named_4] at hF
      refine w_iload_n X 2 dX12_named_4 rfl rfl 5 rfl ?_
      refine w_aload_n X 0 dX12_named_5 rfl rfl 6 rfl ?_
      refine w_getV (v := .ref (ad 2)) X 0 ml_0 mo_0 (T := TX12) (N := 50) rfl in_X12 13 (by decide) kF_X12_20 rfl rfl dX12_named_6 9 rfl ?_
      refine w_iconst X 2 dX12_named_9 rfl 10 rfl ?_
      refine w_gi hF (fun h_1 hF => ?_)
      refine w_ial X 2 ml_2 mo_2 (t0 := 0) rfl h_1 dX12_named_10 11 rfl ?_
      refine w_icmp_ge X hF 40 14 dX12_named_11 (by decide) rfl (fun hF => ?_) (fun hF => ?_)
      · refine w_aload_n X 0 dX12_named_14 rfl rfl 15 rfl ?_
        refine w_getV (v := .ref (ad 9)) X 0 ml_0 mo_0 (T := TX12) (N := 50) rfl in_X12 23 (by decide) kF_X12_41 rfl rfl dX12_named_15 18 rfl ?_
        refine w_iload_n X 2 dX12_named_18 rfl rfl 19 rfl ?_
        refine w_gi hF (fun h_2 hF => ?_)
        refine w_lal X 9 ml_9 mo_9 (t0 := 5) rfl h_2 dX12_named_19 20 rfl ?_
        refine w_aload_n X 0 dX12_named_20 rfl rfl 21 rfl ?_
        refine w_getV (v := .long (rl mem 0 12)) X 0 ml_0 mo_0 (T := TX12) (N := 50) rfl in_X12 12 (by decide) kF_X12_123 rfl rfl dX12_named_21 24 rfl ?_
        refine w_lcmp X dX12_named_24 25 rfl ?_
        refine w_if_ne X hF 32 28 dX12_named_25 (by decide) rfl (fun hF => ?_) (fun hF => ?_)
        · refine w_iload_n X 2 dX12_named_28 rfl rfl 29 rfl ?_
          refine w_goto X 33 dX12_named_29 (by decide) ?_
          refine w_istore_n X [(1, .int x2), (0, .ref (ad 0)), (2, .int x2)] dX12_named_33 rfl (by decide) rfl 34 rfl ?_
          refine w_iinc X 2 (x2 + 1) [(2, .int (x2 + 1)), (1, .int x2), (0, .ref (ad 0))] dX12_named_34 rfl rfl (by decide) rfl 37 rfl ?_
          refine w_goto X 4 dX12_named_37 (by decide) ?_
          refine w_keep [2, 1, 0] rfl ?_
          exact ih x2 (x2 + 1)  hF
        · refine w_iload_n X 1 dX12_named_32 rfl rfl 33 rfl ?_
          refine w_istore_n X [(1, .int x1), (0, .ref (ad 0)), (2, .int x2)] dX12_named_33 rfl (by decide) rfl 34 rfl ?_
          refine w_iinc X 2 (x2 + 1) [(2, .int (x2 + 1)), (1, .int x1), (0, .ref (ad 0))] dX12_named_34 rfl rfl (by decide) rfl 37 rfl ?_
          refine w_goto X 4 dX12_named_37 (by decide) ?_
          refine w_keep [2, 1, 0] rfl ?_
          exact ih x1 (x2 + 1)  hF
      · refine w_iload_n X 1 dX12_named_40 rfl rfl 41 rfl ?_
        exact w_iret X hQ (o_inj hF) rfl rfl dX12_named_41
  intro hF
  refine w_iconst X (-1) dX12_named_0 rfl 1 rfl ?_
  refine w_istore_n X [(1, .int (-1)), (0, .ref (ad 0))] dX12_named_1 rfl (by decide) rfl 2 rfl ?_
  refine w_iconst X 0 dX12_named_2 rfl 3 rfl ?_
  refine w_istore_n X [(2, .int 0), (1, .int (-1)), (0, .ref (ad 0))] dX12_named_3 rfl (by decide) rfl 4 rfl ?_
  refine w_keep [2, 1, 0] rfl ?_
  exact w_4 fu (-1) 0  hF

def K_X12_onWays_108 (fu : Nat) (k_77 : Int32 → Int32 → Mem → Option (Int32 × Mem)) : Nat → Int32 → Int32 → Int32 → Int32 → Mem → Option (Int32 × Mem)
  | 0, _, _, _, _, _ => none
  | n + 1, x2, x3, x4, x5, mem => (if x5 < 4 then bd (K_X12_isNearer fu x4 x5 mem) (fun x_13 => (if x_13 = 0 then (K_X12_onWays_108 fu k_77 n x2 x3 x4 (x5 + 1) mem) else bd (K_X12_up fu x5 mem) (fun x_14 => bd (K_X12_across fu x5 mem) (fun x_15 => gi ((x4 + (9 * x_14)) + x_15) 81 (lt_ (mw mem 11 (Int32.toNatClampNeg ((x4 + (9 * x_14)) + x_15)) (vp_nar .boolean 1)) (fun m_17 => (K_X12_onWays_108 fu k_77 n x2 x3 x4 (x5 + 1) m_17))))))) else (k_77 x2 (x3 + (-1)) mem))
def K_X12_onWays_77 (fu : Nat) : Nat → Int32 → Int32 → Mem → Option (Int32 × Mem)
  | 0, _, _, _ => none
  | n + 1, x2, x3, mem => (if x3 < 0 then some (x2, mem) else gi x3 81 (lt_ (rd mem 8 (Int32.toNatClampNeg x3)) (fun x_11 => gi x_11 81 ((if (rd mem 11 (Int32.toNatClampNeg x_11)) = 0 then (K_X12_onWays_77 fu n x2 (x3 + (-1)) mem) else (K_X12_onWays_108 fu (K_X12_onWays_77 fu n) fu (x2 + 1) x3 x_11 0 mem))))))
def K_X12_onWays_61 (fu : Nat) (k_36 : Int32 → Int32 → Mem → Option (Int32 × Mem)) (x1 : Int32) (x2 : Int32) (xs0 : Int32) (xs1 : Int32) (mem : Mem) : Option (Int32 × Mem) := gi xs1 81 (lt_ (mw mem 11 (Int32.toNatClampNeg xs1) (vp_nar .boolean xs0)) (fun m_9 => (k_36 x1 (x2 + 1) m_9)))
def K_X12_onWays_36 (fu : Nat) : Nat → Int32 → Int32 → Mem → Option (Int32 × Mem)
  | 0, _, _, _ => none
  | n + 1, x1, x2, mem => (if x2 < 81 then bd (K_X12_cellOf fu x1 mem) (fun x_6 => (if x2 = x_6 then (K_X12_onWays_61 fu (K_X12_onWays_36 fu n) x1 x2 1 x2 mem) else (K_X12_onWays_61 fu (K_X12_onWays_36 fu n) x1 x2 0 x2 mem))) else lt_ ((rd mem 0 22) - 1) (fun x_7 => (K_X12_onWays_77 fu fu 0 x_7 mem)))
def K_X12_onWays (fu : Nat) (x1 : Int32) (mem : Mem) : Option (Int32 × Mem) := bd (K_X12_isPawn fu x1 mem) (fun x_1 => bd (K_X12_goes fu x_1 mem) (fun p_2 => (if p_2.1 = 0 then some (0, p_2.2) else bd (K_X12_hasFinished fu x1 p_2.2) (fun x_3 => (if x_3 = 0 then bd (K_X12_of fu x1 2 p_2.2) (fun x_4 => bd (K_X12_lays fu x_4 p_2.2) (fun m_5 => (K_X12_onWays_36 fu fu x1 0 m_5))) else some (1, p_2.2))))))
def rm_X12_onWays : Room := { frames := 6, cells := 0, slots := 0, locals := 143 }
set_option maxHeartbeats 4000000 in
set_option maxRecDepth 100000 in
theorem ct_X12_onWays (l : Launch) {D : va_G} {ca ad : Nat → Nat} {Z : (Nat → Prop) → State → Heap → Prop} (hZ : ZOK Z) (fu : Nat) (x1 : Int32) (mem : Mem) (res : (Int32 × Mem)) (hF : K_X12_onWays fu x1 mem = some res) : CI l D (tyL ca) 23 ad (cM ca ad) Z yX12_onWays cX12_onWays 6 .int rm_X12_onWays [.ref (ad 0), .int x1] mem res.1 res.2 := by
  refine start_i (own := RX12) rfl (by decide) (Nat.le_of_ble_eq_true rfl) ?_
  intro p e s m args below meth c Q hQ X
  rw [K_X12_onWays] at hF
  revert hF
  have w_108 : ∀ (k_77 : Int32 → Int32 → Mem → Option (Int32 × Mem)) (hk_77 : ∀ (x2 : Int32) (x3 : Int32) (mem : Mem), k_77 x2 x3 mem = some res → WW D 23 ad (cM ca ad) p l e rm_X12_onWays s m args below meth c 6 0 0 Q mem 77 [(0, .ref (ad 0)), (2, .int x2), (3, .int x3)] []) (n : Nat) (x2 : Int32) (x3 : Int32) (x4 : Int32) (x5 : Int32) (mem : Mem), K_X12_onWays_108 fu k_77 n x2 x3 x4 x5 mem = some res → WW D 23 ad (cM ca ad) p l e rm_X12_onWays s m args below meth c 6 0 0 Q mem 108 [(0, .ref (ad 0)), (2, .int x2), (3, .int x3), (4, .int x4), (5, .int x5)] [] := by
    intro k_77 hk_77 n
    induction n with
    | zero => intro x2 x3 x4 x5 mem hF; exact no_none (show (none : Option (Int32 × Mem)) = some res from hF)
    | succ n ih =>
      intro x2 x3 x4 x5 mem hF
      rw [K_X12_onWays_108] at hF
      refine w_iload X 4 dX12_onWays_108 rfl 110 rfl ?_
      refine w_iconst X 4 dX12_onWays_110 rfl 111 rfl ?_
      refine w_icmp_ge X hF 154 114 dX12_onWays_111 (by decide) rfl (fun hF => ?_) (fun hF => ?_)
      · refine w_aload_n X 0 dX12_onWays_114 rfl rfl 115 rfl ?_
        refine w_iload X 3 dX12_onWays_115 rfl 117 rfl ?_
        refine w_iload X 4 dX12_onWays_117 rfl 119 rfl ?_
        refine w_callVi (fun x => x) (fun _ => mem) X hZ hF [.int x4, .int x5] 0 ml_0 mo_0 rfl rfl rfl kB_X12_isNearer kL_X12_385 (fun res h => ct_X12_isNearer l hZ fu x4 x5 mem res h) rfl rfl rfl ⟨Nat.le_of_ble_eq_true rfl, Nat.le_of_ble_eq_true rfl⟩ (Nat.le_of_ble_eq_true rfl) ⟨Nat.zero_le _, Nat.zero_le _⟩ dX12_onWays_119 122 rfl (fun x_13 hF => ?_)
        refine w_if_eq X hF 148 125 dX12_onWays_122 (by decide) rfl (fun hF => ?_) (fun hF => ?_)
        · refine w_iinc X 4 (x5 + 1) [(5, .int (x5 + 1)), (0, .ref (ad 0)), (2, .int x2), (3, .int x3), (4, .int x4)] dX12_onWays_148 rfl rfl (by decide) rfl 151 rfl ?_
          refine w_goto X 108 dX12_onWays_151 (by decide) ?_
          refine w_keep [1, 2, 3, 4, 0] rfl ?_
          exact ih x2 x3 x4 (x5 + 1) mem hF
        · refine w_aload_n X 0 dX12_onWays_125 rfl rfl 126 rfl ?_
          refine w_getV (v := .ref (ad 11)) X 0 ml_0 mo_0 (T := TX12) (N := 50) rfl in_X12 29 (by decide) kF_X12_48 rfl rfl dX12_onWays_126 129 rfl ?_
          refine w_iload X 3 dX12_onWays_129 rfl 131 rfl ?_
          refine w_bipush X 9 dX12_onWays_131 rfl 133 rfl ?_
          refine w_iload X 4 dX12_onWays_133 rfl 135 rfl ?_
          refine w_callSi (fun x => x) (fun _ => mem) X hZ hF [.int x5] rfl kB_X12_up kL_X12_184 (fun res h => ct_X12_up l hZ fu x5 mem res h) rfl rfl rfl ⟨Nat.le_of_ble_eq_true rfl, Nat.le_of_ble_eq_true rfl⟩ (Nat.le_of_ble_eq_true rfl) ⟨Nat.zero_le _, Nat.zero_le _⟩ dX12_onWays_135 138 rfl (fun x_14 hF => ?_)
          refine w_imul X dX12_onWays_138 139 rfl ?_
          refine w_iadd X dX12_onWays_139 140 rfl ?_
          refine w_iload X 4 dX12_onWays_140 rfl 142 rfl ?_
          refine w_callSi (fun x => x) (fun _ => mem) X hZ hF [.int x5] rfl kB_X12_across kL_X12_181 (fun res h => ct_X12_across l hZ fu x5 mem res h) rfl rfl rfl ⟨Nat.le_of_ble_eq_true rfl, Nat.le_of_ble_eq_true rfl⟩ (Nat.le_of_ble_eq_true rfl) ⟨Nat.zero_le _, Nat.zero_le _⟩ dX12_onWays_142 145 rfl (fun x_15 hF => ?_)
          refine w_iadd X dX12_onWays_145 146 rfl ?_
          refine w_iconst X 1 dX12_onWays_146 rfl 147 rfl ?_
          refine w_gi hF (fun h_16 hF => ?_)
          refine w_zas X 11 ml_11 mo_11 (t0 := 6) rfl h_16 dX12_onWays_147 148 rfl ?_
          refine w_letm hF (fun m_17 hF => ?_)
          refine w_iinc X 4 (x5 + 1) [(5, .int (x5 + 1)), (0, .ref (ad 0)), (2, .int x2), (3, .int x3), (4, .int x4)] dX12_onWays_148 rfl rfl (by decide) rfl 151 rfl ?_
          refine w_goto X 108 dX12_onWays_151 (by decide) ?_
          refine w_keep [1, 2, 3, 4, 0] rfl ?_
          exact ih x2 x3 x4 (x5 + 1) m_17 hF
      · refine w_iinc X 2 (x3 + (-1)) [(3, .int (x3 + (-1))), (0, .ref (ad 0)), (2, .int x2), (4, .int x4), (5, .int x5)] dX12_onWays_154 rfl rfl (by decide) rfl 157 rfl ?_
        refine w_goto X 77 dX12_onWays_157 (by decide) ?_
        refine w_keep [1, 2, 0] rfl ?_
        exact hk_77 x2 (x3 + (-1)) mem hF
  have w_77 : ∀ (n : Nat) (x2 : Int32) (x3 : Int32) (mem : Mem), K_X12_onWays_77 fu n x2 x3 mem = some res → WW D 23 ad (cM ca ad) p l e rm_X12_onWays s m args below meth c 6 0 0 Q mem 77 [(0, .ref (ad 0)), (2, .int x2), (3, .int x3)] [] := by
    intro n
    induction n with
    | zero => intro x2 x3 mem hF; exact no_none (show (none : Option (Int32 × Mem)) = some res from hF)
    | succ n ih =>
      intro x2 x3 mem hF
      rw [K_X12_onWays_77] at hF
      refine w_iload_n X 2 dX12_onWays_77 rfl rfl 78 rfl ?_
      refine w_if_lt X hF 160 81 dX12_onWays_78 (by decide) rfl (fun hF => ?_) (fun hF => ?_)
      · refine w_iload_n X 1 dX12_onWays_160 rfl rfl 161 rfl ?_
        exact w_iret X hQ (o_inj1 hF) (o_inj2 hF) rfl dX12_onWays_161
      · refine w_aload_n X 0 dX12_onWays_81 rfl rfl 82 rfl ?_
        refine w_getV (v := .ref (ad 8)) X 0 ml_0 mo_0 (T := TX12) (N := 50) rfl in_X12 21 (by decide) kF_X12_38 rfl rfl dX12_onWays_82 85 rfl ?_
        refine w_iload_n X 2 dX12_onWays_85 rfl rfl 86 rfl ?_
        refine w_gi hF (fun h_10 hF => ?_)
        refine w_ial X 8 ml_8 mo_8 (t0 := 0) rfl h_10 dX12_onWays_86 87 rfl ?_
        refine w_let hF (fun x_11 hF => ?_)
        refine w_istore X [(4, .int x_11), (0, .ref (ad 0)), (2, .int x2), (3, .int x3)] dX12_onWays_87 (by decide) rfl 89 rfl ?_
        refine w_aload_n X 1 dX12_onWays_89 rfl rfl 90 rfl ?_
        refine w_getV (v := .ref (ad 11)) X 0 ml_0 mo_0 (T := TX12) (N := 50) rfl in_X12 29 (by decide) kF_X12_48 rfl rfl dX12_onWays_90 93 rfl ?_
        refine w_iload X 0 dX12_onWays_93 rfl 95 rfl ?_
        refine w_gi hF (fun h_12 hF => ?_)
        refine w_zal X 11 ml_11 mo_11 (t0 := 6) rfl h_12 dX12_onWays_95 96 rfl ?_
        refine w_if_ne X hF 102 99 dX12_onWays_96 (by decide) rfl (fun hF => ?_) (fun hF => ?_)
        · refine w_goto X 154 dX12_onWays_99 (by decide) ?_
          refine w_iinc X 3 (x3 + (-1)) [(3, .int (x3 + (-1))), (4, .int x_11), (0, .ref (ad 0)), (2, .int x2)] dX12_onWays_154 rfl rfl (by decide) rfl 157 rfl ?_
          refine w_goto X 77 dX12_onWays_157 (by decide) ?_
          refine w_keep [2, 3, 0] rfl ?_
          exact ih x2 (x3 + (-1)) mem hF
        · refine w_iinc X 2 (x2 + 1) [(2, .int (x2 + 1)), (4, .int x_11), (0, .ref (ad 0)), (3, .int x3)] dX12_onWays_102 rfl rfl (by decide) rfl 105 rfl ?_
          refine w_iconst X 0 dX12_onWays_105 rfl 106 rfl ?_
          refine w_istore X [(5, .int 0), (2, .int (x2 + 1)), (4, .int x_11), (0, .ref (ad 0)), (3, .int x3)] dX12_onWays_106 (by decide) rfl 108 rfl ?_
          refine w_keep [3, 1, 4, 2, 0] rfl ?_
          exact w_108 (K_X12_onWays_77 fu n) ih fu (x2 + 1) x3 x_11 0 mem hF
  have w_61 : ∀ (k_36 : Int32 → Int32 → Mem → Option (Int32 × Mem)) (hk_36 : ∀ (x1 : Int32) (x2 : Int32) (mem : Mem), k_36 x1 x2 mem = some res → WW D 23 ad (cM ca ad) p l e rm_X12_onWays s m args below meth c 6 0 0 Q mem 36 [(0, .ref (ad 0)), (1, .int x1), (2, .int x2)] []) (x1 : Int32) (x2 : Int32) (xs0 : Int32) (xs1 : Int32) (mem : Mem), K_X12_onWays_61 fu k_36 x1 x2 xs0 xs1 mem = some res → WW D 23 ad (cM ca ad) p l e rm_X12_onWays s m args below meth c 6 0 0 Q mem 61 [(0, .ref (ad 0)), (1, .int x1), (2, .int x2)] [.int xs0, .int xs1, .ref (ad 11)] := by
    intro k_36 hk_36 x1 x2 xs0 xs1 mem hF
    rw [K_X12_onWays_61] at hF
    refine w_gi hF (fun h_8 hF => ?_)
    refine w_zas X 11 ml_11 mo_11 (t0 := 6) rfl h_8 dX12_onWays_61 62 rfl ?_
    refine w_letm hF (fun m_9 hF => ?_)
    refine w_iinc X 2 (x2 + 1) [(2, .int (x2 + 1)), (0, .ref (ad 0)), (1, .int x1)] dX12_onWays_62 rfl rfl (by decide) rfl 65 rfl ?_
    refine w_goto X 36 dX12_onWays_65 (by decide) ?_
    refine w_keep [1, 2, 0] rfl ?_
    exact hk_36 x1 (x2 + 1) m_9 hF
  have w_36 : ∀ (n : Nat) (x1 : Int32) (x2 : Int32) (mem : Mem), K_X12_onWays_36 fu n x1 x2 mem = some res → WW D 23 ad (cM ca ad) p l e rm_X12_onWays s m args below meth c 6 0 0 Q mem 36 [(0, .ref (ad 0)), (1, .int x1), (2, .int x2)] [] := by
    intro n
    induction n with
    | zero => intro x1 x2 mem hF; exact no_none (show (none : Option (Int32 × Mem)) = some res from hF)
    | succ n ih =>
      intro x1 x2 mem hF
      rw [K_X12_onWays_36] at hF
      refine w_iload_n X 2 dX12_onWays_36 rfl rfl 37 rfl ?_
      refine w_bipush X 81 dX12_onWays_37 rfl 39 rfl ?_
      refine w_icmp_ge X hF 68 42 dX12_onWays_39 (by decide) rfl (fun hF => ?_) (fun hF => ?_)
      · refine w_aload_n X 0 dX12_onWays_42 rfl rfl 43 rfl ?_
        refine w_getV (v := .ref (ad 11)) X 0 ml_0 mo_0 (T := TX12) (N := 50) rfl in_X12 29 (by decide) kF_X12_48 rfl rfl dX12_onWays_43 46 rfl ?_
        refine w_iload_n X 2 dX12_onWays_46 rfl rfl 47 rfl ?_
        refine w_iload_n X 2 dX12_onWays_47 rfl rfl 48 rfl ?_
        refine w_aload_n X 0 dX12_onWays_48 rfl rfl 49 rfl ?_
        refine w_iload_n X 1 dX12_onWays_49 rfl rfl 50 rfl ?_
        refine w_callVi (fun x => x) (fun _ => mem) X hZ hF [.int x1] 0 ml_0 mo_0 rfl rfl rfl kB_X12_cellOf kL_X12_219 (fun res h => ct_X12_cellOf l hZ fu x1 mem res h) rfl rfl rfl ⟨Nat.le_of_ble_eq_true rfl, Nat.le_of_ble_eq_true rfl⟩ (Nat.le_of_ble_eq_true rfl) ⟨Nat.zero_le _, Nat.zero_le _⟩ dX12_onWays_50 53 rfl (fun x_6 hF => ?_)
        refine w_icmp_ne X hF 60 56 dX12_onWays_53 (by decide) rfl (fun hF => ?_) (fun hF => ?_)
        · refine w_iconst X 1 dX12_onWays_56 rfl 57 rfl ?_
          refine w_goto X 61 dX12_onWays_57 (by decide) ?_
          refine w_keep [0, 1, 2] rfl ?_
          exact w_61 (K_X12_onWays_36 fu n) ih x1 x2 1 x2 mem hF
        · refine w_iconst X 0 dX12_onWays_60 rfl 61 rfl ?_
          refine w_keep [0, 1, 2] rfl ?_
          exact w_61 (K_X12_onWays_36 fu n) ih x1 x2 0 x2 mem hF
      · refine w_iconst X 0 dX12_onWays_68 rfl 69 rfl ?_
        refine w_istore_n X [(2, .int 0), (0, .ref (ad 0)), (1, .int x1)] dX12_onWays_69 rfl (by decide) rfl 70 rfl ?_
        refine w_aload_n X 1 dX12_onWays_70 rfl rfl 71 rfl ?_
        refine w_getV (v := .int (rd mem 0 22)) X 0 ml_0 mo_0 (T := TX12) (N := 50) rfl in_X12 22 (by decide) kF_X12_196 rfl rfl dX12_onWays_71 74 rfl ?_
        refine w_iconst X 1 dX12_onWays_74 rfl 75 rfl ?_
        refine w_isub X dX12_onWays_75 76 rfl ?_
        refine w_let hF (fun x_7 hF => ?_)
        refine w_istore_n X [(3, .int x_7), (2, .int 0), (0, .ref (ad 0)), (1, .int x1)] dX12_onWays_76 rfl (by decide) rfl 77 rfl ?_
        refine w_keep [2, 1, 0] rfl ?_
        exact w_77 fu 0 x_7 mem hF
  intro hF
  refine w_aload_n X 0 dX12_onWays_0 rfl rfl 1 rfl ?_
  refine w_aload_n X 0 dX12_onWays_1 rfl rfl 2 rfl ?_
  refine w_iload_n X 1 dX12_onWays_2 rfl rfl 3 rfl ?_
  refine w_callVi (fun x => x) (fun _ => mem) X hZ hF [.int x1] 0 ml_0 mo_0 rfl rfl rfl kB_X12_isPawn kL_X12_339 (fun res h => ct_X12_isPawn l hZ fu x1 mem res h) rfl rfl rfl ⟨Nat.le_of_ble_eq_true rfl, Nat.le_of_ble_eq_true rfl⟩ (Nat.le_of_ble_eq_true rfl) ⟨Nat.zero_le _, Nat.zero_le _⟩ dX12_onWays_3 6 rfl (fun x_1 hF => ?_)
  refine w_callVi (fun x => x.1) (fun x => x.2) X hZ hF [.int x_1] 0 ml_0 mo_0 rfl rfl rfl kB_X12_goes kL_X12_98 (fun res h => ct_X12_goes l hZ fu x_1 mem res h) rfl rfl rfl ⟨Nat.le_of_ble_eq_true rfl, Nat.le_of_ble_eq_true rfl⟩ (Nat.le_of_ble_eq_true rfl) ⟨Nat.zero_le _, Nat.zero_le _⟩ dX12_onWays_6 9 rfl (fun p_2 hF => ?_)
  refine w_if_ne X hF 14 12 dX12_onWays_9 (by decide) rfl (fun hF => ?_) (fun hF => ?_)
  · refine w_iconst X 0 dX12_onWays_12 rfl 13 rfl ?_
    exact w_iret X hQ (o_inj1 hF) (o_inj2 hF) rfl dX12_onWays_13
  · refine w_aload_n X 0 dX12_onWays_14 rfl rfl 15 rfl ?_
    refine w_iload_n X 1 dX12_onWays_15 rfl rfl 16 rfl ?_
    refine w_callVi (fun x => x) (fun _ => p_2.2) X hZ hF [.int x1] 0 ml_0 mo_0 rfl rfl rfl kB_X12_hasFinished kL_X12_213 (fun res h => ct_X12_hasFinished l hZ fu x1 p_2.2 res h) rfl rfl rfl ⟨Nat.le_of_ble_eq_true rfl, Nat.le_of_ble_eq_true rfl⟩ (Nat.le_of_ble_eq_true rfl) ⟨Nat.zero_le _, Nat.zero_le _⟩ dX12_onWays_16 19 rfl (fun x_3 hF => ?_)
    refine w_if_eq X hF 24 22 dX12_onWays_19 (by decide) rfl (fun hF => ?_) (fun hF => ?_)
    · refine w_aload_n X 0 dX12_onWays_24 rfl rfl 25 rfl ?_
      refine w_aload_n X 0 dX12_onWays_25 rfl rfl 26 rfl ?_
      refine w_iload_n X 1 dX12_onWays_26 rfl rfl 27 rfl ?_
      refine w_iconst X 2 dX12_onWays_27 rfl 28 rfl ?_
      refine w_callVi (fun x => x) (fun _ => p_2.2) X hZ hF [.int x1, .int 2] 0 ml_0 mo_0 rfl rfl rfl kB_X12_of kL_X12_174 (fun res h => ct_X12_of l hZ fu x1 2 p_2.2 res h) rfl rfl rfl ⟨Nat.le_of_ble_eq_true rfl, Nat.le_of_ble_eq_true rfl⟩ (Nat.le_of_ble_eq_true rfl) ⟨Nat.zero_le _, Nat.zero_le _⟩ dX12_onWays_28 31 rfl (fun x_4 hF => ?_)
      refine w_callVv (fun m => m) X hZ hF [.int x_4] 0 ml_0 mo_0 rfl rfl rfl kB_X12_lays kL_X12_216 (fun res h => ct_X12_lays l hZ fu x_4 p_2.2 res h) rfl rfl rfl ⟨Nat.le_of_ble_eq_true rfl, Nat.le_of_ble_eq_true rfl⟩ (Nat.le_of_ble_eq_true rfl) ⟨Nat.zero_le _, Nat.zero_le _⟩ dX12_onWays_31 34 rfl (fun m_5 hF => ?_)
      refine w_iconst X 0 dX12_onWays_34 rfl 35 rfl ?_
      refine w_istore_n X [(2, .int 0), (0, .ref (ad 0)), (1, .int x1)] dX12_onWays_35 rfl (by decide) rfl 36 rfl ?_
      refine w_keep [1, 2, 0] rfl ?_
      exact w_36 fu x1 0 m_5 hF
    · refine w_iconst X 1 dX12_onWays_22 rfl 23 rfl ?_
      exact w_iret X hQ (o_inj1 hF) (o_inj2 hF) rfl dX12_onWays_23

def K_X12_turnNow (fu : Nat) (mem : Mem) : Option Int32 := bd (K_X12_over fu mem) (fun x_1 => (if x_1 = 0 then gi 7 184 (some (rd mem 2 (Int32.toNatClampNeg 7))) else some (-1)))
def rm_X12_turnNow : Room := { frames := 1, cells := 0, slots := 0, locals := 20 }
set_option maxHeartbeats 4000000 in
set_option maxRecDepth 100000 in
theorem ct_X12_turnNow (l : Launch) {D : va_G} {ca ad : Nat → Nat} {Z : (Nat → Prop) → State → Heap → Prop} (hZ : ZOK Z) (fu : Nat) (mem : Mem) (res : Int32) (hF : K_X12_turnNow fu mem = some res) : CI l D (tyL ca) 23 ad (cM ca ad) Z yX12_turnNow cX12_turnNow 1 .int rm_X12_turnNow [.ref (ad 0)] mem res mem := by
  refine start_i (own := RX12) rfl (by decide) (Nat.le_of_ble_eq_true rfl) ?_
  intro p e s m args below meth c Q hQ X
  rw [K_X12_turnNow] at hF
  revert hF
  intro hF
  refine w_aload_n X 0 dX12_turnNow_0 rfl rfl 1 rfl ?_
  refine w_callVi (fun x => x) (fun _ => mem) X hZ hF [] 0 ml_0 mo_0 rfl rfl rfl kB_X12_over kL_X12_351 (fun res h => ct_X12_over l hZ fu mem res h) rfl rfl rfl ⟨Nat.le_of_ble_eq_true rfl, Nat.le_of_ble_eq_true rfl⟩ (Nat.le_of_ble_eq_true rfl) ⟨Nat.zero_le _, Nat.zero_le _⟩ dX12_turnNow_1 4 rfl (fun x_1 hF => ?_)
  refine w_if_eq X hF 11 7 dX12_turnNow_4 (by decide) rfl (fun hF => ?_) (fun hF => ?_)
  · refine w_aload_n X 0 dX12_turnNow_11 rfl rfl 12 rfl ?_
    refine w_getV (v := .ref (ad 2)) X 0 ml_0 mo_0 (T := TX12) (N := 50) rfl in_X12 13 (by decide) kF_X12_20 rfl rfl dX12_turnNow_12 15 rfl ?_
    refine w_bipush X 7 dX12_turnNow_15 rfl 17 rfl ?_
    refine w_gi hF (fun h_2 hF => ?_)
    refine w_ial X 2 ml_2 mo_2 (t0 := 0) rfl h_2 dX12_turnNow_17 18 rfl ?_
    exact w_iret X hQ (o_inj hF) rfl rfl dX12_turnNow_18
  · refine w_iconst X (-1) dX12_turnNow_7 rfl 8 rfl ?_
    refine w_goto X 18 dX12_turnNow_8 (by decide) ?_
    exact w_iret X hQ (o_inj hF) rfl rfl dX12_turnNow_18

def K_X12_pass (fu : Nat) (mem : Mem) : Option (Int32 × Mem) := bd (K_X12_mayPass fu mem) (fun p_1 => bd (K_X12_goes fu p_1.1 p_1.2) (fun p_2 => (if p_2.1 = 0 then some (0, p_2.2) else bd (K_X12_laysAside fu p_2.2) (fun m_3 => bd (K_X12_endsTurn fu m_3) (fun m_4 => bd (K_X12_keeps fu m_4) (fun m_5 => bd (K_X12_turnNow fu m_5) (fun x_6 => some (x_6, m_5))))))))
def rm_X12_pass : Room := { frames := 7, cells := 0, slots := 0, locals := 168 }
set_option maxHeartbeats 4000000 in
set_option maxRecDepth 100000 in
theorem ct_X12_pass (l : Launch) {D : va_G} {ca ad : Nat → Nat} {Z : (Nat → Prop) → State → Heap → Prop} (hZ : ZOK Z) (fu : Nat) (mem : Mem) (res : (Int32 × Mem)) (hF : K_X12_pass fu mem = some res) : CI l D (tyL ca) 23 ad (cM ca ad) Z yX12_pass cX12_pass 1 .int rm_X12_pass [.ref (ad 0)] mem res.1 res.2 := by
  refine start_i (own := RX12) rfl (by decide) (Nat.le_of_ble_eq_true rfl) ?_
  intro p e s m args below meth c Q hQ X
  rw [K_X12_pass] at hF
  revert hF
  intro hF
  refine w_aload_n X 0 dX12_pass_0 rfl rfl 1 rfl ?_
  refine w_aload_n X 0 dX12_pass_1 rfl rfl 2 rfl ?_
  refine w_callVi (fun x => x.1) (fun x => x.2) X hZ hF [] 0 ml_0 mo_0 rfl rfl rfl kB_X12_mayPass kL_X12_466 (fun res h => ct_X12_mayPass l hZ fu mem res h) rfl rfl rfl ⟨Nat.le_of_ble_eq_true rfl, Nat.le_of_ble_eq_true rfl⟩ (Nat.le_of_ble_eq_true rfl) ⟨Nat.zero_le _, Nat.zero_le _⟩ dX12_pass_2 5 rfl (fun p_1 hF => ?_)
  refine w_callVi (fun x => x.1) (fun x => x.2) X hZ hF [.int p_1.1] 0 ml_0 mo_0 rfl rfl rfl kB_X12_goes kL_X12_98 (fun res h => ct_X12_goes l hZ fu p_1.1 p_1.2 res h) rfl rfl rfl ⟨Nat.le_of_ble_eq_true rfl, Nat.le_of_ble_eq_true rfl⟩ (Nat.le_of_ble_eq_true rfl) ⟨Nat.zero_le _, Nat.zero_le _⟩ dX12_pass_5 8 rfl (fun p_2 hF => ?_)
  refine w_if_ne X hF 13 11 dX12_pass_8 (by decide) rfl (fun hF => ?_) (fun hF => ?_)
  · refine w_iconst X 0 dX12_pass_11 rfl 12 rfl ?_
    exact w_iret X hQ (o_inj1 hF) (o_inj2 hF) rfl dX12_pass_12
  · refine w_aload_n X 0 dX12_pass_13 rfl rfl 14 rfl ?_
    refine w_callVv (fun m => m) X hZ hF [] 0 ml_0 mo_0 rfl rfl rfl kB_X12_laysAside kL_X12_325 (fun res h => ct_X12_laysAside l hZ fu p_2.2 res h) rfl rfl rfl ⟨Nat.le_of_ble_eq_true rfl, Nat.le_of_ble_eq_true rfl⟩ (Nat.le_of_ble_eq_true rfl) ⟨Nat.zero_le _, Nat.zero_le _⟩ dX12_pass_14 17 rfl (fun m_3 hF => ?_)
    refine w_aload_n X 0 dX12_pass_17 rfl rfl 18 rfl ?_
    refine w_callVv (fun m => m) X hZ hF [] 0 ml_0 mo_0 rfl rfl rfl kB_X12_endsTurn kL_X12_444 (fun res h => ct_X12_endsTurn l hZ fu m_3 res h) rfl rfl rfl ⟨Nat.le_of_ble_eq_true rfl, Nat.le_of_ble_eq_true rfl⟩ (Nat.le_of_ble_eq_true rfl) ⟨Nat.zero_le _, Nat.zero_le _⟩ dX12_pass_18 21 rfl (fun m_4 hF => ?_)
    refine w_aload_n X 0 dX12_pass_21 rfl rfl 22 rfl ?_
    refine w_callVv (fun m => m) X hZ hF [] 0 ml_0 mo_0 rfl rfl rfl kB_X12_keeps kL_X12_456 (fun res h => ct_X12_keeps l hZ fu m_4 res h) rfl rfl rfl ⟨Nat.le_of_ble_eq_true rfl, Nat.le_of_ble_eq_true rfl⟩ (Nat.le_of_ble_eq_true rfl) ⟨Nat.zero_le _, Nat.zero_le _⟩ dX12_pass_22 25 rfl (fun m_5 hF => ?_)
    refine w_aload_n X 0 dX12_pass_25 rfl rfl 26 rfl ?_
    refine w_callVi (fun x => x) (fun _ => m_5) X hZ hF [] 0 ml_0 mo_0 rfl rfl rfl kB_X12_turnNow kL_X12_354 (fun res h => ct_X12_turnNow l hZ fu m_5 res h) rfl rfl rfl ⟨Nat.le_of_ble_eq_true rfl, Nat.le_of_ble_eq_true rfl⟩ (Nat.le_of_ble_eq_true rfl) ⟨Nat.zero_le _, Nat.zero_le _⟩ dX12_pass_26 29 rfl (fun x_6 hF => ?_)
    exact w_iret X hQ (o_inj1 hF) (o_inj2 hF) rfl dX12_pass_29

def K_X12_pawn (fu : Nat) (x1 : Int32) (x2 : Int32) (mem : Mem) : Option (Int32 × Mem) := bd (K_X12_isPawn fu x1 mem) (fun x_1 => bd (K_X12_isIn fu (Int32.toInt64 x2) 0 7 mem) (fun x_2 => bd (K_X12_goesBoth fu x_1 x_2 mem) (fun p_3 => (if p_3.1 = 0 then some (0, p_3.2) else (if x2 = 7 then bd (K_X12_bansOf fu x1 p_3.2) (fun x_4 => some (x_4, p_3.2)) else bd (K_X12_of fu x1 x2 p_3.2) (fun x_5 => some (x_5, p_3.2)))))))
def rm_X12_pawn : Room := { frames := 2, cells := 0, slots := 0, locals := 46 }
set_option maxHeartbeats 4000000 in
set_option maxRecDepth 100000 in
theorem ct_X12_pawn (l : Launch) {D : va_G} {ca ad : Nat → Nat} {Z : (Nat → Prop) → State → Heap → Prop} (hZ : ZOK Z) (fu : Nat) (x1 : Int32) (x2 : Int32) (mem : Mem) (res : (Int32 × Mem)) (hF : K_X12_pawn fu x1 x2 mem = some res) : CI l D (tyL ca) 23 ad (cM ca ad) Z yX12_pawn cX12_pawn 3 .int rm_X12_pawn [.ref (ad 0), .int x1, .int x2] mem res.1 res.2 := by
  refine start_i (own := RX12) rfl (by decide) (Nat.le_of_ble_eq_true rfl) ?_
  intro p e s m args below meth c Q hQ X
  rw [K_X12_pawn] at hF
  revert hF
  intro hF
  refine w_aload_n X 0 dX12_pawn_0 rfl rfl 1 rfl ?_
  refine w_aload_n X 0 dX12_pawn_1 rfl rfl 2 rfl ?_
  refine w_iload_n X 1 dX12_pawn_2 rfl rfl 3 rfl ?_
  refine w_callVi (fun x => x) (fun _ => mem) X hZ hF [.int x1] 0 ml_0 mo_0 rfl rfl rfl kB_X12_isPawn kL_X12_339 (fun res h => ct_X12_isPawn l hZ fu x1 mem res h) rfl rfl rfl ⟨Nat.le_of_ble_eq_true rfl, Nat.le_of_ble_eq_true rfl⟩ (Nat.le_of_ble_eq_true rfl) ⟨Nat.zero_le _, Nat.zero_le _⟩ dX12_pawn_3 6 rfl (fun x_1 hF => ?_)
  refine w_iload_n X 2 dX12_pawn_6 rfl rfl 7 rfl ?_
  refine w_i2l X dX12_pawn_7 8 rfl ?_
  refine w_lconst X 0 dX12_pawn_8 rfl 9 rfl ?_
  refine w_ldc2 X 7 kK_X12_342 dX12_pawn_9 12 rfl ?_
  refine w_callSi (fun x => x) (fun _ => mem) X hZ hF [.long (Int32.toInt64 x2), .long 0, .long 7] rfl kB_X12_isIn kL_X12_106 (fun res h => ct_X12_isIn l hZ fu (Int32.toInt64 x2) 0 7 mem res h) rfl rfl rfl ⟨Nat.le_of_ble_eq_true rfl, Nat.le_of_ble_eq_true rfl⟩ (Nat.le_of_ble_eq_true rfl) ⟨Nat.zero_le _, Nat.zero_le _⟩ dX12_pawn_12 15 rfl (fun x_2 hF => ?_)
  refine w_callVi (fun x => x.1) (fun x => x.2) X hZ hF [.int x_1, .int x_2] 0 ml_0 mo_0 rfl rfl rfl kB_X12_goesBoth kL_X12_344 (fun res h => ct_X12_goesBoth l hZ fu x_1 x_2 mem res h) rfl rfl rfl ⟨Nat.le_of_ble_eq_true rfl, Nat.le_of_ble_eq_true rfl⟩ (Nat.le_of_ble_eq_true rfl) ⟨Nat.zero_le _, Nat.zero_le _⟩ dX12_pawn_15 18 rfl (fun p_3 hF => ?_)
  refine w_if_ne X hF 25 21 dX12_pawn_18 (by decide) rfl (fun hF => ?_) (fun hF => ?_)
  · refine w_iconst X 0 dX12_pawn_21 rfl 22 rfl ?_
    refine w_goto X 45 dX12_pawn_22 (by decide) ?_
    exact w_iret X hQ (o_inj1 hF) (o_inj2 hF) rfl dX12_pawn_45
  · refine w_iload_n X 2 dX12_pawn_25 rfl rfl 26 rfl ?_
    refine w_bipush X 7 dX12_pawn_26 rfl 28 rfl ?_
    refine w_icmp_ne X hF 39 31 dX12_pawn_28 (by decide) rfl (fun hF => ?_) (fun hF => ?_)
    · refine w_aload_n X 0 dX12_pawn_31 rfl rfl 32 rfl ?_
      refine w_iload_n X 1 dX12_pawn_32 rfl rfl 33 rfl ?_
      refine w_callVi (fun x => x) (fun _ => p_3.2) X hZ hF [.int x1] 0 ml_0 mo_0 rfl rfl rfl kB_X12_bansOf kL_X12_348 (fun res h => ct_X12_bansOf l hZ fu x1 p_3.2 res h) rfl rfl rfl ⟨Nat.le_of_ble_eq_true rfl, Nat.le_of_ble_eq_true rfl⟩ (Nat.le_of_ble_eq_true rfl) ⟨Nat.zero_le _, Nat.zero_le _⟩ dX12_pawn_33 36 rfl (fun x_4 hF => ?_)
      refine w_goto X 45 dX12_pawn_36 (by decide) ?_
      exact w_iret X hQ (o_inj1 hF) (o_inj2 hF) rfl dX12_pawn_45
    · refine w_aload_n X 0 dX12_pawn_39 rfl rfl 40 rfl ?_
      refine w_iload_n X 1 dX12_pawn_40 rfl rfl 41 rfl ?_
      refine w_iload_n X 2 dX12_pawn_41 rfl rfl 42 rfl ?_
      refine w_callVi (fun x => x) (fun _ => p_3.2) X hZ hF [.int x1, .int x2] 0 ml_0 mo_0 rfl rfl rfl kB_X12_of kL_X12_174 (fun res h => ct_X12_of l hZ fu x1 x2 p_3.2 res h) rfl rfl rfl ⟨Nat.le_of_ble_eq_true rfl, Nat.le_of_ble_eq_true rfl⟩ (Nat.le_of_ble_eq_true rfl) ⟨Nat.zero_le _, Nat.zero_le _⟩ dX12_pawn_42 45 rfl (fun x_5 hF => ?_)
      exact w_iret X hQ (o_inj1 hF) (o_inj2 hF) rfl dX12_pawn_45

def K_X12_pawnAt (fu : Nat) (x1 : Int32) (x2 : Int32) (mem : Mem) : Option (Int32 × Mem) := bd (K_X12_isCell fu x1 x2 mem) (fun x_1 => bd (K_X12_goes fu x_1 mem) (fun p_2 => (if p_2.1 = 0 then some (0, p_2.2) else bd (K_X12_pawnIn fu x1 x2 p_2.2) (fun x_3 => some (x_3, p_2.2)))))
def rm_X12_pawnAt : Room := { frames := 3, cells := 0, slots := 0, locals := 67 }
set_option maxHeartbeats 4000000 in
set_option maxRecDepth 100000 in
theorem ct_X12_pawnAt (l : Launch) {D : va_G} {ca ad : Nat → Nat} {Z : (Nat → Prop) → State → Heap → Prop} (hZ : ZOK Z) (fu : Nat) (x1 : Int32) (x2 : Int32) (mem : Mem) (res : (Int32 × Mem)) (hF : K_X12_pawnAt fu x1 x2 mem = some res) : CI l D (tyL ca) 23 ad (cM ca ad) Z yX12_pawnAt cX12_pawnAt 3 .int rm_X12_pawnAt [.ref (ad 0), .int x1, .int x2] mem res.1 res.2 := by
  refine start_i (own := RX12) rfl (by decide) (Nat.le_of_ble_eq_true rfl) ?_
  intro p e s m args below meth c Q hQ X
  rw [K_X12_pawnAt] at hF
  revert hF
  intro hF
  refine w_aload_n X 0 dX12_pawnAt_0 rfl rfl 1 rfl ?_
  refine w_aload_n X 0 dX12_pawnAt_1 rfl rfl 2 rfl ?_
  refine w_iload_n X 1 dX12_pawnAt_2 rfl rfl 3 rfl ?_
  refine w_iload_n X 2 dX12_pawnAt_3 rfl rfl 4 rfl ?_
  refine w_callVi (fun x => x) (fun _ => mem) X hZ hF [.int x1, .int x2] 0 ml_0 mo_0 rfl rfl rfl kB_X12_isCell kL_X12_187 (fun res h => ct_X12_isCell l hZ fu x1 x2 mem res h) rfl rfl rfl ⟨Nat.le_of_ble_eq_true rfl, Nat.le_of_ble_eq_true rfl⟩ (Nat.le_of_ble_eq_true rfl) ⟨Nat.zero_le _, Nat.zero_le _⟩ dX12_pawnAt_4 7 rfl (fun x_1 hF => ?_)
  refine w_callVi (fun x => x.1) (fun x => x.2) X hZ hF [.int x_1] 0 ml_0 mo_0 rfl rfl rfl kB_X12_goes kL_X12_98 (fun res h => ct_X12_goes l hZ fu x_1 mem res h) rfl rfl rfl ⟨Nat.le_of_ble_eq_true rfl, Nat.le_of_ble_eq_true rfl⟩ (Nat.le_of_ble_eq_true rfl) ⟨Nat.zero_le _, Nat.zero_le _⟩ dX12_pawnAt_7 10 rfl (fun p_2 hF => ?_)
  refine w_if_eq X hF 22 13 dX12_pawnAt_10 (by decide) rfl (fun hF => ?_) (fun hF => ?_)
  · refine w_iconst X 0 dX12_pawnAt_22 rfl 23 rfl ?_
    exact w_iret X hQ (o_inj1 hF) (o_inj2 hF) rfl dX12_pawnAt_23
  · refine w_aload_n X 0 dX12_pawnAt_13 rfl rfl 14 rfl ?_
    refine w_iload_n X 1 dX12_pawnAt_14 rfl rfl 15 rfl ?_
    refine w_iload_n X 2 dX12_pawnAt_15 rfl rfl 16 rfl ?_
    refine w_callVi (fun x => x) (fun _ => p_2.2) X hZ hF [.int x1, .int x2] 0 ml_0 mo_0 rfl rfl rfl kB_X12_pawnIn kL_X12_259 (fun res h => ct_X12_pawnIn l hZ fu x1 x2 p_2.2 res h) rfl rfl rfl ⟨Nat.le_of_ble_eq_true rfl, Nat.le_of_ble_eq_true rfl⟩ (Nat.le_of_ble_eq_true rfl) ⟨Nat.zero_le _, Nat.zero_le _⟩ dX12_pawnAt_16 19 rfl (fun x_3 hF => ?_)
    refine w_goto X 23 dX12_pawnAt_19 (by decide) ?_
    exact w_iret X hQ (o_inj1 hF) (o_inj2 hF) rfl dX12_pawnAt_23

def K_X12_play_28 (fu : Nat) (x1 : Int32) (x2 : Int32) (xs0 : Int32) (mem : Mem) : Option (Int32 × Mem) := bd (K_X12_goes fu xs0 mem) (fun p_3 => (if p_3.1 = 0 then some (0, p_3.2) else bd (K_X12_laysAside fu p_3.2) (fun m_4 => bd (K_X12_plays fu x1 x2 m_4) (fun p_5 => lt_ p_5.1 (fun x_6 => bd (K_X12_keeps fu p_5.2) (fun m_7 => some (x_6, m_7)))))))
def K_X12_play_27 (fu : Nat) (x1 : Int32) (x2 : Int32) (mem : Mem) : Option (Int32 × Mem) := (K_X12_play_28 fu x1 x2 0 mem)
def K_X12_play (fu : Nat) (x1 : Int32) (x2 : Int32) (mem : Mem) : Option (Int32 × Mem) := bd (K_X12_isIn fu (Int32.toInt64 x1) 0 1 mem) (fun x_1 => (if x_1 = 0 then (K_X12_play_27 fu x1 x2 mem) else bd (K_X12_isIn fu (Int32.toInt64 x2) 1 99 mem) (fun x_2 => (if x_2 = 0 then (K_X12_play_27 fu x1 x2 mem) else (K_X12_play_28 fu x1 x2 1 mem)))))
def rm_X12_play : Room := { frames := 12, cells := 0, slots := 0, locals := 283 }
set_option maxHeartbeats 4000000 in
set_option maxRecDepth 100000 in
theorem ct_X12_play (l : Launch) {D : va_G} {ca ad : Nat → Nat} {Z : (Nat → Prop) → State → Heap → Prop} (hZ : ZOK Z) (fu : Nat) (x1 : Int32) (x2 : Int32) (mem : Mem) (res : (Int32 × Mem)) (hF : K_X12_play fu x1 x2 mem = some res) : CI l D (tyL ca) 23 ad (cM ca ad) Z yX12_play cX12_play 4 .int rm_X12_play [.ref (ad 0), .int x1, .int x2] mem res.1 res.2 := by
  refine start_i (own := RX12) rfl (by decide) (Nat.le_of_ble_eq_true rfl) ?_
  intro p e s m args below meth c Q hQ X
  rw [K_X12_play] at hF
  revert hF
  have w_28 : ∀ (x1 : Int32) (x2 : Int32) (xs0 : Int32) (mem : Mem), K_X12_play_28 fu x1 x2 xs0 mem = some res → WW D 23 ad (cM ca ad) p l e rm_X12_play s m args below meth c 4 0 0 Q mem 28 [(0, .ref (ad 0)), (1, .int x1), (2, .int x2)] [.int xs0, .ref (ad 0)] := by
    intro x1 x2 xs0 mem hF
    rw [K_X12_play_28] at hF
    refine w_callVi (fun x => x.1) (fun x => x.2) X hZ hF [.int xs0] 0 ml_0 mo_0 rfl rfl rfl kB_X12_goes kL_X12_98 (fun res h => ct_X12_goes l hZ fu xs0 mem res h) rfl rfl rfl ⟨Nat.le_of_ble_eq_true rfl, Nat.le_of_ble_eq_true rfl⟩ (Nat.le_of_ble_eq_true rfl) ⟨Nat.zero_le _, Nat.zero_le _⟩ dX12_play_28 31 rfl (fun p_3 hF => ?_)
    refine w_if_ne X hF 36 34 dX12_play_31 (by decide) rfl (fun hF => ?_) (fun hF => ?_)
    · refine w_iconst X 0 dX12_play_34 rfl 35 rfl ?_
      exact w_iret X hQ (o_inj1 hF) (o_inj2 hF) rfl dX12_play_35
    · refine w_aload_n X 0 dX12_play_36 rfl rfl 37 rfl ?_
      refine w_callVv (fun m => m) X hZ hF [] 0 ml_0 mo_0 rfl rfl rfl kB_X12_laysAside kL_X12_325 (fun res h => ct_X12_laysAside l hZ fu p_3.2 res h) rfl rfl rfl ⟨Nat.le_of_ble_eq_true rfl, Nat.le_of_ble_eq_true rfl⟩ (Nat.le_of_ble_eq_true rfl) ⟨Nat.zero_le _, Nat.zero_le _⟩ dX12_play_37 40 rfl (fun m_4 hF => ?_)
      refine w_aload_n X 0 dX12_play_40 rfl rfl 41 rfl ?_
      refine w_iload_n X 1 dX12_play_41 rfl rfl 42 rfl ?_
      refine w_iload_n X 2 dX12_play_42 rfl rfl 43 rfl ?_
      refine w_callVi (fun x => x.1) (fun x => x.2) X hZ hF [.int x1, .int x2] 0 ml_0 mo_0 rfl rfl rfl kB_X12_plays kL_X12_438 (fun res h => ct_X12_plays l hZ fu x1 x2 m_4 res h) rfl rfl rfl ⟨Nat.le_of_ble_eq_true rfl, Nat.le_of_ble_eq_true rfl⟩ (Nat.le_of_ble_eq_true rfl) ⟨Nat.zero_le _, Nat.zero_le _⟩ dX12_play_43 46 rfl (fun p_5 hF => ?_)
      refine w_let hF (fun x_6 hF => ?_)
      refine w_istore_n X [(3, .int x_6), (0, .ref (ad 0)), (1, .int x1), (2, .int x2)] dX12_play_46 rfl (by decide) rfl 47 rfl ?_
      refine w_aload_n X 1 dX12_play_47 rfl rfl 48 rfl ?_
      refine w_callVv (fun m => m) X hZ hF [] 0 ml_0 mo_0 rfl rfl rfl kB_X12_keeps kL_X12_456 (fun res h => ct_X12_keeps l hZ fu p_5.2 res h) rfl rfl rfl ⟨Nat.le_of_ble_eq_true rfl, Nat.le_of_ble_eq_true rfl⟩ (Nat.le_of_ble_eq_true rfl) ⟨Nat.zero_le _, Nat.zero_le _⟩ dX12_play_48 51 rfl (fun m_7 hF => ?_)
      refine w_iload_n X 0 dX12_play_51 rfl rfl 52 rfl ?_
      exact w_iret X hQ (o_inj1 hF) (o_inj2 hF) rfl dX12_play_52
  have w_27 : ∀ (x1 : Int32) (x2 : Int32) (mem : Mem), K_X12_play_27 fu x1 x2 mem = some res → WW D 23 ad (cM ca ad) p l e rm_X12_play s m args below meth c 4 0 0 Q mem 27 [(0, .ref (ad 0)), (1, .int x1), (2, .int x2)] [.ref (ad 0)] := by
    intro x1 x2 mem hF
    rw [K_X12_play_27] at hF
    refine w_iconst X 0 dX12_play_27 rfl 28 rfl ?_
    refine w_keep [0, 1, 2] rfl ?_
    exact w_28 x1 x2 0 mem hF
  intro hF
  refine w_aload_n X 0 dX12_play_0 rfl rfl 1 rfl ?_
  refine w_iload_n X 1 dX12_play_1 rfl rfl 2 rfl ?_
  refine w_i2l X dX12_play_2 3 rfl ?_
  refine w_lconst X 0 dX12_play_3 rfl 4 rfl ?_
  refine w_lconst X 1 dX12_play_4 rfl 5 rfl ?_
  refine w_callSi (fun x => x) (fun _ => mem) X hZ hF [.long (Int32.toInt64 x1), .long 0, .long 1] rfl kB_X12_isIn kL_X12_106 (fun res h => ct_X12_isIn l hZ fu (Int32.toInt64 x1) 0 1 mem res h) rfl rfl rfl ⟨Nat.le_of_ble_eq_true rfl, Nat.le_of_ble_eq_true rfl⟩ (Nat.le_of_ble_eq_true rfl) ⟨Nat.zero_le _, Nat.zero_le _⟩ dX12_play_5 8 rfl (fun x_1 hF => ?_)
  refine w_if_eq X hF 27 11 dX12_play_8 (by decide) rfl (fun hF => ?_) (fun hF => ?_)
  · refine w_keep [0, 1, 2] rfl ?_
    exact w_27 x1 x2 mem hF
  · refine w_iload_n X 2 dX12_play_11 rfl rfl 12 rfl ?_
    refine w_i2l X dX12_play_12 13 rfl ?_
    refine w_lconst X 1 dX12_play_13 rfl 14 rfl ?_
    refine w_ldc2 X 99 kK_X12_433 dX12_play_14 17 rfl ?_
    refine w_callSi (fun x => x) (fun _ => mem) X hZ hF [.long (Int32.toInt64 x2), .long 1, .long 99] rfl kB_X12_isIn kL_X12_106 (fun res h => ct_X12_isIn l hZ fu (Int32.toInt64 x2) 1 99 mem res h) rfl rfl rfl ⟨Nat.le_of_ble_eq_true rfl, Nat.le_of_ble_eq_true rfl⟩ (Nat.le_of_ble_eq_true rfl) ⟨Nat.zero_le _, Nat.zero_le _⟩ dX12_play_17 20 rfl (fun x_2 hF => ?_)
    refine w_if_eq X hF 27 23 dX12_play_20 (by decide) rfl (fun hF => ?_) (fun hF => ?_)
    · refine w_keep [0, 1, 2] rfl ?_
      exact w_27 x1 x2 mem hF
    · refine w_iconst X 1 dX12_play_23 rfl 24 rfl ?_
      refine w_goto X 28 dX12_play_24 (by decide) ?_
      refine w_keep [0, 1, 2] rfl ?_
      exact w_28 x1 x2 1 mem hF

def K_X12_ranked_9 (fu : Nat) : Nat → Int32 → Int32 → Int32 → Mem → Option (Int32 × Mem)
  | 0, _, _, _, _ => none
  | n + 1, x1, x2, x3, mem => gi 2 184 ((if x3 < (rd mem 2 (Int32.toNatClampNeg 2)) then bd (K_X12_hasFinished fu x3 mem) (fun x_3 => (if x_3 = 0 then (K_X12_ranked_9 fu n x1 x2 (x3 + 1) mem) else bd (K_X12_of fu x3 6 mem) (fun x_4 => (if x_4 = x1 then (K_X12_ranked_9 fu n x1 x3 (x3 + 1) mem) else (K_X12_ranked_9 fu n x1 x2 (x3 + 1) mem))))) else some (x2, mem)))
def K_X12_ranked (fu : Nat) (x1 : Int32) (mem : Mem) : Option (Int32 × Mem) := lt_ (mw mem 0 0 0) (fun m_1 => (K_X12_ranked_9 fu fu x1 (-1) 0 m_1))
def rm_X12_ranked : Room := { frames := 2, cells := 0, slots := 0, locals := 43 }
set_option maxHeartbeats 4000000 in
set_option maxRecDepth 100000 in
theorem ct_X12_ranked (l : Launch) {D : va_G} {ca ad : Nat → Nat} {Z : (Nat → Prop) → State → Heap → Prop} (hZ : ZOK Z) (fu : Nat) (x1 : Int32) (mem : Mem) (res : (Int32 × Mem)) (hF : K_X12_ranked fu x1 mem = some res) : CI l D (tyL ca) 23 ad (cM ca ad) Z yX12_ranked cX12_ranked 4 .int rm_X12_ranked [.ref (ad 0), .int x1] mem res.1 res.2 := by
  refine start_i (own := RX12) rfl (by decide) (Nat.le_of_ble_eq_true rfl) ?_
  intro p e s m args below meth c Q hQ X
  rw [K_X12_ranked] at hF
  revert hF
  have w_9 : ∀ (n : Nat) (x1 : Int32) (x2 : Int32) (x3 : Int32) (mem : Mem), K_X12_ranked_9 fu n x1 x2 x3 mem = some res → WW D 23 ad (cM ca ad) p l e rm_X12_ranked s m args below meth c 4 0 0 Q mem 9 [(0, .ref (ad 0)), (1, .int x1), (2, .int x2), (3, .int x3)] [] := by
    intro n
    induction n with
    | zero => intro x1 x2 x3 mem hF; exact no_none (show (none : Option (Int32 × Mem)) = some res from hF)
    | succ n ih =>
      intro x1 x2 x3 mem hF
      rw [K_X12_ranked_9] at hF
      refine w_iload_n X 3 dX12_ranked_9 rfl rfl 10 rfl ?_
      refine w_aload_n X 0 dX12_ranked_10 rfl rfl 11 rfl ?_
      refine w_getV (v := .ref (ad 2)) X 0 ml_0 mo_0 (T := TX12) (N := 50) rfl in_X12 13 (by decide) kF_X12_20 rfl rfl dX12_ranked_11 14 rfl ?_
      refine w_iconst X 2 dX12_ranked_14 rfl 15 rfl ?_
      refine w_gi hF (fun h_2 hF => ?_)
      refine w_ial X 2 ml_2 mo_2 (t0 := 0) rfl h_2 dX12_ranked_15 16 rfl ?_
      refine w_icmp_ge X hF 50 19 dX12_ranked_16 (by decide) rfl (fun hF => ?_) (fun hF => ?_)
      · refine w_aload_n X 0 dX12_ranked_19 rfl rfl 20 rfl ?_
        refine w_iload_n X 3 dX12_ranked_20 rfl rfl 21 rfl ?_
        refine w_callVi (fun x => x) (fun _ => mem) X hZ hF [.int x3] 0 ml_0 mo_0 rfl rfl rfl kB_X12_hasFinished kL_X12_213 (fun res h => ct_X12_hasFinished l hZ fu x3 mem res h) rfl rfl rfl ⟨Nat.le_of_ble_eq_true rfl, Nat.le_of_ble_eq_true rfl⟩ (Nat.le_of_ble_eq_true rfl) ⟨Nat.zero_le _, Nat.zero_le _⟩ dX12_ranked_21 24 rfl (fun x_3 hF => ?_)
        refine w_if_eq X hF 42 27 dX12_ranked_24 (by decide) rfl (fun hF => ?_) (fun hF => ?_)
        · refine w_iload_n X 2 dX12_ranked_42 rfl rfl 43 rfl ?_
          refine w_istore_n X [(2, .int x2), (0, .ref (ad 0)), (1, .int x1), (3, .int x3)] dX12_ranked_43 rfl (by decide) rfl 44 rfl ?_
          refine w_iinc X 3 (x3 + 1) [(3, .int (x3 + 1)), (2, .int x2), (0, .ref (ad 0)), (1, .int x1)] dX12_ranked_44 rfl rfl (by decide) rfl 47 rfl ?_
          refine w_goto X 9 dX12_ranked_47 (by decide) ?_
          refine w_keep [2, 3, 1, 0] rfl ?_
          exact ih x1 x2 (x3 + 1) mem hF
        · refine w_aload_n X 0 dX12_ranked_27 rfl rfl 28 rfl ?_
          refine w_iload_n X 3 dX12_ranked_28 rfl rfl 29 rfl ?_
          refine w_bipush X 6 dX12_ranked_29 rfl 31 rfl ?_
          refine w_callVi (fun x => x) (fun _ => mem) X hZ hF [.int x3, .int 6] 0 ml_0 mo_0 rfl rfl rfl kB_X12_of kL_X12_174 (fun res h => ct_X12_of l hZ fu x3 6 mem res h) rfl rfl rfl ⟨Nat.le_of_ble_eq_true rfl, Nat.le_of_ble_eq_true rfl⟩ (Nat.le_of_ble_eq_true rfl) ⟨Nat.zero_le _, Nat.zero_le _⟩ dX12_ranked_31 34 rfl (fun x_4 hF => ?_)
          refine w_iload_n X 1 dX12_ranked_34 rfl rfl 35 rfl ?_
          refine w_icmp_ne X hF 42 38 dX12_ranked_35 (by decide) rfl (fun hF => ?_) (fun hF => ?_)
          · refine w_iload_n X 3 dX12_ranked_38 rfl rfl 39 rfl ?_
            refine w_goto X 43 dX12_ranked_39 (by decide) ?_
            refine w_istore_n X [(2, .int x3), (0, .ref (ad 0)), (1, .int x1), (3, .int x3)] dX12_ranked_43 rfl (by decide) rfl 44 rfl ?_
            refine w_iinc X 3 (x3 + 1) [(3, .int (x3 + 1)), (2, .int x3), (0, .ref (ad 0)), (1, .int x1)] dX12_ranked_44 rfl rfl (by decide) rfl 47 rfl ?_
            refine w_goto X 9 dX12_ranked_47 (by decide) ?_
            refine w_keep [2, 3, 1, 0] rfl ?_
            exact ih x1 x3 (x3 + 1) mem hF
          · refine w_iload_n X 2 dX12_ranked_42 rfl rfl 43 rfl ?_
            refine w_istore_n X [(2, .int x2), (0, .ref (ad 0)), (1, .int x1), (3, .int x3)] dX12_ranked_43 rfl (by decide) rfl 44 rfl ?_
            refine w_iinc X 3 (x3 + 1) [(3, .int (x3 + 1)), (2, .int x2), (0, .ref (ad 0)), (1, .int x1)] dX12_ranked_44 rfl rfl (by decide) rfl 47 rfl ?_
            refine w_goto X 9 dX12_ranked_47 (by decide) ?_
            refine w_keep [2, 3, 1, 0] rfl ?_
            exact ih x1 x2 (x3 + 1) mem hF
      · refine w_iload_n X 2 dX12_ranked_50 rfl rfl 51 rfl ?_
        exact w_iret X hQ (o_inj1 hF) (o_inj2 hF) rfl dX12_ranked_51
  intro hF
  refine w_aload_n X 0 dX12_ranked_0 rfl rfl 1 rfl ?_
  refine w_iconst X 0 dX12_ranked_1 rfl 2 rfl ?_
  refine w_putI X 0 ml_0 mo_0 (T := TX12) (N := 50) rfl in_X12 tyX12 tyX12_ok nmX12 0 (by decide) kF_X12_88 rfl rfl rfl rfl (Nat.le_of_ble_eq_true rfl) rfl dX12_ranked_2 5 rfl ?_
  refine w_letm hF (fun m_1 hF => ?_)
  refine w_iconst X (-1) dX12_ranked_5 rfl 6 rfl ?_
  refine w_istore_n X [(2, .int (-1)), (0, .ref (ad 0)), (1, .int x1)] dX12_ranked_6 rfl (by decide) rfl 7 rfl ?_
  refine w_iconst X 0 dX12_ranked_7 rfl 8 rfl ?_
  refine w_istore_n X [(3, .int 0), (2, .int (-1)), (0, .ref (ad 0)), (1, .int x1)] dX12_ranked_8 rfl (by decide) rfl 9 rfl ?_
  refine w_keep [2, 3, 1, 0] rfl ?_
  exact w_9 fu x1 (-1) 0 m_1 hF

def K_X12_readsBoard_46 (fu : Nat) (mem : Mem) : Option Mem := bd (K_X12_number fu 3 9 mem) (fun p_7 => lt_ p_7.1 (fun x_8 => bd (K_X12_number fu 3 9 p_7.2) (fun p_9 => lt_ p_9.1 (fun x_10 => bd (K_X12_isGood fu p_9.2) (fun x_11 => (if x_11 = 0 then some p_9.2 else gi 0 184 (lt_ (mw p_9.2 2 (Int32.toNatClampNeg 0) x_8) (fun m_13 => gi 1 184 (lt_ (mw m_13 2 (Int32.toNatClampNeg 1) x_10) (fun m_15 => some m_15))))))))))
def K_X12_readsBoard_30 (fu : Nat) (mem : Mem) : Option Mem := lt_ (mw mem 0 25 1) (fun m_4 => bd (K_X12_isGood fu m_4) (fun x_5 => (if x_5 = 0 then (K_X12_readsBoard_46 fu m_4) else bd (K_X12_goOn fu m_4) (fun m_6 => (K_X12_readsBoard_46 fu m_6)))))
def K_X12_readsBoard_25 (fu : Nat) (mem : Mem) : Option Mem := bd (K_X12_wrong fu 3 mem) (fun m_3 => (K_X12_readsBoard_30 fu m_3))
def K_X12_readsBoard (fu : Nat) (mem : Mem) : Option Mem := (if (rd mem 0 25) = 0 then gi 2 184 ((if 0 < (rd mem 2 (Int32.toNatClampNeg 2)) then (K_X12_readsBoard_25 fu mem) else gi 3 184 ((if 0 < (rd mem 2 (Int32.toNatClampNeg 3)) then (K_X12_readsBoard_25 fu mem) else (K_X12_readsBoard_30 fu mem))))) else (K_X12_readsBoard_25 fu mem))
def rm_X12_readsBoard : Room := { frames := 3, cells := 0, slots := 0, locals := 70 }
set_option maxHeartbeats 4000000 in
set_option maxRecDepth 100000 in
theorem ct_X12_readsBoard (l : Launch) {D : va_G} {ca ad : Nat → Nat} {Z : (Nat → Prop) → State → Heap → Prop} (hZ : ZOK Z) (fu : Nat) (mem : Mem) (res : Mem) (hF : K_X12_readsBoard fu mem = some res) : CV l D (tyL ca) 23 ad (cM ca ad) Z yX12_readsBoard cX12_readsBoard 3 rm_X12_readsBoard [.ref (ad 0)] mem res := by
  refine start_v (own := RX12) rfl (by decide) (Nat.le_of_ble_eq_true rfl) ?_
  intro p e s m args below meth c Q hQ X
  rw [K_X12_readsBoard] at hF
  revert hF
  have w_46 : ∀ (mem : Mem), K_X12_readsBoard_46 fu mem = some res → WW D 23 ad (cM ca ad) p l e rm_X12_readsBoard s m args below meth c 3 0 0 Q mem 46 [(0, .ref (ad 0))] [] := by
    intro mem hF
    rw [K_X12_readsBoard_46] at hF
    refine w_aload_n X 0 dX12_readsBoard_46 rfl rfl 47 rfl ?_
    refine w_iconst X 3 dX12_readsBoard_47 rfl 48 rfl ?_
    refine w_bipush X 9 dX12_readsBoard_48 rfl 50 rfl ?_
    refine w_callVi (fun x => x.1) (fun x => x.2) X hZ hF [.int 3, .int 9] 0 ml_0 mo_0 rfl rfl rfl kB_X12_number kL_X12_246 (fun res h => ct_X12_number l hZ fu 3 9 mem res h) rfl rfl rfl ⟨Nat.le_of_ble_eq_true rfl, Nat.le_of_ble_eq_true rfl⟩ (Nat.le_of_ble_eq_true rfl) ⟨Nat.zero_le _, Nat.zero_le _⟩ dX12_readsBoard_50 53 rfl (fun p_7 hF => ?_)
    refine w_let hF (fun x_8 hF => ?_)
    refine w_istore_n X [(1, .int x_8), (0, .ref (ad 0))] dX12_readsBoard_53 rfl (by decide) rfl 54 rfl ?_
    refine w_aload_n X 1 dX12_readsBoard_54 rfl rfl 55 rfl ?_
    refine w_iconst X 3 dX12_readsBoard_55 rfl 56 rfl ?_
    refine w_bipush X 9 dX12_readsBoard_56 rfl 58 rfl ?_
    refine w_callVi (fun x => x.1) (fun x => x.2) X hZ hF [.int 3, .int 9] 0 ml_0 mo_0 rfl rfl rfl kB_X12_number kL_X12_246 (fun res h => ct_X12_number l hZ fu 3 9 p_7.2 res h) rfl rfl rfl ⟨Nat.le_of_ble_eq_true rfl, Nat.le_of_ble_eq_true rfl⟩ (Nat.le_of_ble_eq_true rfl) ⟨Nat.zero_le _, Nat.zero_le _⟩ dX12_readsBoard_58 61 rfl (fun p_9 hF => ?_)
    refine w_let hF (fun x_10 hF => ?_)
    refine w_istore_n X [(2, .int x_10), (1, .int x_8), (0, .ref (ad 0))] dX12_readsBoard_61 rfl (by decide) rfl 62 rfl ?_
    refine w_aload_n X 2 dX12_readsBoard_62 rfl rfl 63 rfl ?_
    refine w_callVi (fun x => x) (fun _ => p_9.2) X hZ hF [] 0 ml_0 mo_0 rfl rfl rfl kB_X12_isGood kL_X12_143 (fun res h => ct_X12_isGood l hZ fu p_9.2 res h) rfl rfl rfl ⟨Nat.le_of_ble_eq_true rfl, Nat.le_of_ble_eq_true rfl⟩ (Nat.le_of_ble_eq_true rfl) ⟨Nat.zero_le _, Nat.zero_le _⟩ dX12_readsBoard_63 66 rfl (fun x_11 hF => ?_)
    refine w_if_ne X hF 70 69 dX12_readsBoard_66 (by decide) rfl (fun hF => ?_) (fun hF => ?_)
    · exact w_vret X hQ (o_inj hF) dX12_readsBoard_69
    · refine w_aload_n X 2 dX12_readsBoard_70 rfl rfl 71 rfl ?_
      refine w_getV (v := .ref (ad 2)) X 0 ml_0 mo_0 (T := TX12) (N := 50) rfl in_X12 13 (by decide) kF_X12_20 rfl rfl dX12_readsBoard_71 74 rfl ?_
      refine w_iconst X 0 dX12_readsBoard_74 rfl 75 rfl ?_
      refine w_iload_n X 1 dX12_readsBoard_75 rfl rfl 76 rfl ?_
      refine w_gi hF (fun h_12 hF => ?_)
      refine w_ias X 2 ml_2 mo_2 (t0 := 0) rfl h_12 dX12_readsBoard_76 77 rfl ?_
      refine w_letm hF (fun m_13 hF => ?_)
      refine w_aload_n X 2 dX12_readsBoard_77 rfl rfl 78 rfl ?_
      refine w_getV (v := .ref (ad 2)) X 0 ml_0 mo_0 (T := TX12) (N := 50) rfl in_X12 13 (by decide) kF_X12_20 rfl rfl dX12_readsBoard_78 81 rfl ?_
      refine w_iconst X 1 dX12_readsBoard_81 rfl 82 rfl ?_
      refine w_iload_n X 0 dX12_readsBoard_82 rfl rfl 83 rfl ?_
      refine w_gi hF (fun h_14 hF => ?_)
      refine w_ias X 2 ml_2 mo_2 (t0 := 0) rfl h_14 dX12_readsBoard_83 84 rfl ?_
      refine w_letm hF (fun m_15 hF => ?_)
      exact w_vret X hQ (o_inj hF) dX12_readsBoard_84
  have w_30 : ∀ (mem : Mem), K_X12_readsBoard_30 fu mem = some res → WW D 23 ad (cM ca ad) p l e rm_X12_readsBoard s m args below meth c 3 0 0 Q mem 30 [(0, .ref (ad 0))] [] := by
    intro mem hF
    rw [K_X12_readsBoard_30] at hF
    refine w_aload_n X 0 dX12_readsBoard_30 rfl rfl 31 rfl ?_
    refine w_iconst X 1 dX12_readsBoard_31 rfl 32 rfl ?_
    refine w_putI X 0 ml_0 mo_0 (T := TX12) (N := 50) rfl in_X12 tyX12 tyX12_ok nmX12 25 (by decide) kF_X12_243 rfl rfl rfl rfl (Nat.le_of_ble_eq_true rfl) rfl dX12_readsBoard_32 35 rfl ?_
    refine w_letm hF (fun m_4 hF => ?_)
    refine w_aload_n X 0 dX12_readsBoard_35 rfl rfl 36 rfl ?_
    refine w_callVi (fun x => x) (fun _ => m_4) X hZ hF [] 0 ml_0 mo_0 rfl rfl rfl kB_X12_isGood kL_X12_143 (fun res h => ct_X12_isGood l hZ fu m_4 res h) rfl rfl rfl ⟨Nat.le_of_ble_eq_true rfl, Nat.le_of_ble_eq_true rfl⟩ (Nat.le_of_ble_eq_true rfl) ⟨Nat.zero_le _, Nat.zero_le _⟩ dX12_readsBoard_36 39 rfl (fun x_5 hF => ?_)
    refine w_if_eq X hF 46 42 dX12_readsBoard_39 (by decide) rfl (fun hF => ?_) (fun hF => ?_)
    · refine w_keep [0] rfl ?_
      exact w_46 m_4 hF
    · refine w_aload_n X 0 dX12_readsBoard_42 rfl rfl 43 rfl ?_
      refine w_callVv (fun m => m) X hZ hF [] 0 ml_0 mo_0 rfl rfl rfl kB_X12_goOn kL_X12_153 (fun res h => ct_X12_goOn l hZ fu m_4 res h) rfl rfl rfl ⟨Nat.le_of_ble_eq_true rfl, Nat.le_of_ble_eq_true rfl⟩ (Nat.le_of_ble_eq_true rfl) ⟨Nat.zero_le _, Nat.zero_le _⟩ dX12_readsBoard_43 46 rfl (fun m_6 hF => ?_)
      refine w_keep [0] rfl ?_
      exact w_46 m_6 hF
  have w_25 : ∀ (mem : Mem), K_X12_readsBoard_25 fu mem = some res → WW D 23 ad (cM ca ad) p l e rm_X12_readsBoard s m args below meth c 3 0 0 Q mem 25 [(0, .ref (ad 0))] [] := by
    intro mem hF
    rw [K_X12_readsBoard_25] at hF
    refine w_aload_n X 0 dX12_readsBoard_25 rfl rfl 26 rfl ?_
    refine w_iconst X 3 dX12_readsBoard_26 rfl 27 rfl ?_
    refine w_callVv (fun m => m) X hZ hF [.int 3] 0 ml_0 mo_0 rfl rfl rfl kB_X12_wrong kL_X12_150 (fun res h => ct_X12_wrong l hZ fu 3 mem res h) rfl rfl rfl ⟨Nat.le_of_ble_eq_true rfl, Nat.le_of_ble_eq_true rfl⟩ (Nat.le_of_ble_eq_true rfl) ⟨Nat.zero_le _, Nat.zero_le _⟩ dX12_readsBoard_27 30 rfl (fun m_3 hF => ?_)
    refine w_keep [0] rfl ?_
    exact w_30 m_3 hF
  intro hF
  refine w_aload_n X 0 dX12_readsBoard_0 rfl rfl 1 rfl ?_
  refine w_getV (v := .int (rd mem 0 25)) X 0 ml_0 mo_0 (T := TX12) (N := 50) rfl in_X12 25 (by decide) kF_X12_243 rfl rfl dX12_readsBoard_1 4 rfl ?_
  refine w_if_ne X hF 25 7 dX12_readsBoard_4 (by decide) rfl (fun hF => ?_) (fun hF => ?_)
  · refine w_aload_n X 0 dX12_readsBoard_7 rfl rfl 8 rfl ?_
    refine w_getV (v := .ref (ad 2)) X 0 ml_0 mo_0 (T := TX12) (N := 50) rfl in_X12 13 (by decide) kF_X12_20 rfl rfl dX12_readsBoard_8 11 rfl ?_
    refine w_iconst X 2 dX12_readsBoard_11 rfl 12 rfl ?_
    refine w_gi hF (fun h_1 hF => ?_)
    refine w_ial X 2 ml_2 mo_2 (t0 := 0) rfl h_1 dX12_readsBoard_12 13 rfl ?_
    refine w_if_gt X hF 25 16 dX12_readsBoard_13 (by decide) rfl (fun hF => ?_) (fun hF => ?_)
    · refine w_keep [0] rfl ?_
      exact w_25 mem hF
    · refine w_aload_n X 0 dX12_readsBoard_16 rfl rfl 17 rfl ?_
      refine w_getV (v := .ref (ad 2)) X 0 ml_0 mo_0 (T := TX12) (N := 50) rfl in_X12 13 (by decide) kF_X12_20 rfl rfl dX12_readsBoard_17 20 rfl ?_
      refine w_iconst X 3 dX12_readsBoard_20 rfl 21 rfl ?_
      refine w_gi hF (fun h_2 hF => ?_)
      refine w_ial X 2 ml_2 mo_2 (t0 := 0) rfl h_2 dX12_readsBoard_21 22 rfl ?_
      refine w_if_le X hF 30 25 dX12_readsBoard_22 (by decide) rfl (fun hF => ?_) (fun hF => ?_)
      · refine w_keep [0] rfl ?_
        exact w_25 mem hF
      · refine w_keep [0] rfl ?_
        exact w_30 mem hF
  · refine w_keep [0] rfl ?_
    exact w_25 mem hF

def K_X12_readsWalls_28 (fu : Nat) (mem : Mem) : Option Mem := bd (K_X12_number fu 0 20 mem) (fun p_5 => lt_ (mw p_5.2 0 24 p_5.1) (fun m_6 => some m_6))
def K_X12_readsWalls_12 (fu : Nat) (mem : Mem) : Option Mem := lt_ (mw mem 0 26 1) (fun m_2 => bd (K_X12_isGood fu m_2) (fun x_3 => (if x_3 = 0 then (K_X12_readsWalls_28 fu m_2) else bd (K_X12_goOn fu m_2) (fun m_4 => (K_X12_readsWalls_28 fu m_4)))))
def K_X12_readsWalls (fu : Nat) (mem : Mem) : Option Mem := (if (rd mem 0 26) = 0 then (K_X12_readsWalls_12 fu mem) else bd (K_X12_wrong fu 3 mem) (fun m_1 => (K_X12_readsWalls_12 fu m_1)))
def rm_X12_readsWalls : Room := { frames := 3, cells := 0, slots := 0, locals := 70 }
set_option maxHeartbeats 4000000 in
set_option maxRecDepth 100000 in
theorem ct_X12_readsWalls (l : Launch) {D : va_G} {ca ad : Nat → Nat} {Z : (Nat → Prop) → State → Heap → Prop} (hZ : ZOK Z) (fu : Nat) (mem : Mem) (res : Mem) (hF : K_X12_readsWalls fu mem = some res) : CV l D (tyL ca) 23 ad (cM ca ad) Z yX12_readsWalls cX12_readsWalls 1 rm_X12_readsWalls [.ref (ad 0)] mem res := by
  refine start_v (own := RX12) rfl (by decide) (Nat.le_of_ble_eq_true rfl) ?_
  intro p e s m args below meth c Q hQ X
  rw [K_X12_readsWalls] at hF
  revert hF
  have w_28 : ∀ (mem : Mem), K_X12_readsWalls_28 fu mem = some res → WW D 23 ad (cM ca ad) p l e rm_X12_readsWalls s m args below meth c 1 0 0 Q mem 28 [(0, .ref (ad 0))] [] := by
    intro mem hF
    rw [K_X12_readsWalls_28] at hF
    refine w_aload_n X 0 dX12_readsWalls_28 rfl rfl 29 rfl ?_
    refine w_aload_n X 0 dX12_readsWalls_29 rfl rfl 30 rfl ?_
    refine w_iconst X 0 dX12_readsWalls_30 rfl 31 rfl ?_
    refine w_bipush X 20 dX12_readsWalls_31 rfl 33 rfl ?_
    refine w_callVi (fun x => x.1) (fun x => x.2) X hZ hF [.int 0, .int 20] 0 ml_0 mo_0 rfl rfl rfl kB_X12_number kL_X12_246 (fun res h => ct_X12_number l hZ fu 0 20 mem res h) rfl rfl rfl ⟨Nat.le_of_ble_eq_true rfl, Nat.le_of_ble_eq_true rfl⟩ (Nat.le_of_ble_eq_true rfl) ⟨Nat.zero_le _, Nat.zero_le _⟩ dX12_readsWalls_33 36 rfl (fun p_5 hF => ?_)
    refine w_putI X 0 ml_0 mo_0 (T := TX12) (N := 50) rfl in_X12 tyX12 tyX12_ok nmX12 24 (by decide) kF_X12_252 rfl rfl rfl rfl (Nat.le_of_ble_eq_true rfl) rfl dX12_readsWalls_36 39 rfl ?_
    refine w_letm hF (fun m_6 hF => ?_)
    exact w_vret X hQ (o_inj hF) dX12_readsWalls_39
  have w_12 : ∀ (mem : Mem), K_X12_readsWalls_12 fu mem = some res → WW D 23 ad (cM ca ad) p l e rm_X12_readsWalls s m args below meth c 1 0 0 Q mem 12 [(0, .ref (ad 0))] [] := by
    intro mem hF
    rw [K_X12_readsWalls_12] at hF
    refine w_aload_n X 0 dX12_readsWalls_12 rfl rfl 13 rfl ?_
    refine w_iconst X 1 dX12_readsWalls_13 rfl 14 rfl ?_
    refine w_putI X 0 ml_0 mo_0 (T := TX12) (N := 50) rfl in_X12 tyX12 tyX12_ok nmX12 26 (by decide) kF_X12_249 rfl rfl rfl rfl (Nat.le_of_ble_eq_true rfl) rfl dX12_readsWalls_14 17 rfl ?_
    refine w_letm hF (fun m_2 hF => ?_)
    refine w_aload_n X 0 dX12_readsWalls_17 rfl rfl 18 rfl ?_
    refine w_callVi (fun x => x) (fun _ => m_2) X hZ hF [] 0 ml_0 mo_0 rfl rfl rfl kB_X12_isGood kL_X12_143 (fun res h => ct_X12_isGood l hZ fu m_2 res h) rfl rfl rfl ⟨Nat.le_of_ble_eq_true rfl, Nat.le_of_ble_eq_true rfl⟩ (Nat.le_of_ble_eq_true rfl) ⟨Nat.zero_le _, Nat.zero_le _⟩ dX12_readsWalls_18 21 rfl (fun x_3 hF => ?_)
    refine w_if_eq X hF 28 24 dX12_readsWalls_21 (by decide) rfl (fun hF => ?_) (fun hF => ?_)
    · refine w_keep [0] rfl ?_
      exact w_28 m_2 hF
    · refine w_aload_n X 0 dX12_readsWalls_24 rfl rfl 25 rfl ?_
      refine w_callVv (fun m => m) X hZ hF [] 0 ml_0 mo_0 rfl rfl rfl kB_X12_goOn kL_X12_153 (fun res h => ct_X12_goOn l hZ fu m_2 res h) rfl rfl rfl ⟨Nat.le_of_ble_eq_true rfl, Nat.le_of_ble_eq_true rfl⟩ (Nat.le_of_ble_eq_true rfl) ⟨Nat.zero_le _, Nat.zero_le _⟩ dX12_readsWalls_25 28 rfl (fun m_4 hF => ?_)
      refine w_keep [0] rfl ?_
      exact w_28 m_4 hF
  intro hF
  refine w_aload_n X 0 dX12_readsWalls_0 rfl rfl 1 rfl ?_
  refine w_getV (v := .int (rd mem 0 26)) X 0 ml_0 mo_0 (T := TX12) (N := 50) rfl in_X12 26 (by decide) kF_X12_249 rfl rfl dX12_readsWalls_1 4 rfl ?_
  refine w_if_eq X hF 12 7 dX12_readsWalls_4 (by decide) rfl (fun hF => ?_) (fun hF => ?_)
  · refine w_keep [0] rfl ?_
    exact w_12 mem hF
  · refine w_aload_n X 0 dX12_readsWalls_7 rfl rfl 8 rfl ?_
    refine w_iconst X 3 dX12_readsWalls_8 rfl 9 rfl ?_
    refine w_callVv (fun m => m) X hZ hF [.int 3] 0 ml_0 mo_0 rfl rfl rfl kB_X12_wrong kL_X12_150 (fun res h => ct_X12_wrong l hZ fu 3 mem res h) rfl rfl rfl ⟨Nat.le_of_ble_eq_true rfl, Nat.le_of_ble_eq_true rfl⟩ (Nat.le_of_ble_eq_true rfl) ⟨Nat.zero_le _, Nat.zero_le _⟩ dX12_readsWalls_9 12 rfl (fun m_1 hF => ?_)
    refine w_keep [0] rfl ?_
    exact w_12 m_1 hF
end Km3b
