section Km3
def K_X12_thinks_2 (fu : Nat) : Nat → Int32 → Mem → Option Mem
  | 0, _, _ => none
  | n + 1, x1, mem => (if x1 < 184 then gi x1 184 (gi x1 184 (lt_ (mw mem 6 (Int32.toNatClampNeg x1) (rd mem 2 (Int32.toNatClampNeg x1))) (fun m_3 => (K_X12_thinks_2 fu n (x1 + 1) m_3)))) else some mem)
def K_X12_thinks (fu : Nat) (mem : Mem) : Option Mem := (K_X12_thinks_2 fu fu 0 mem)
def rm_X12_thinks : Room := { frames := 0, cells := 0, slots := 0, locals := 0 }
set_option maxHeartbeats 4000000 in
set_option maxRecDepth 100000 in
theorem ct_X12_thinks (l : Launch) {D : va_G} {ca ad : Nat → Nat} {Z : (Nat → Prop) → State → Heap → Prop} (hZ : ZOK Z) (fu : Nat) (mem : Mem) (res : Mem) (hF : K_X12_thinks fu mem = some res) : CV l D (tyL ca) 23 ad (cM ca ad) Z yX12_thinks cX12_thinks 2 rm_X12_thinks [.ref (ad 0)] mem res := by
  refine start_v (own := RX12) rfl (by decide) (Nat.le_of_ble_eq_true rfl) ?_
  intro p e s m args below meth c Q hQ X
  rw [K_X12_thinks] at hF
  revert hF
  have w_2 : ∀ (n : Nat) (x1 : Int32) (mem : Mem), K_X12_thinks_2 fu n x1 mem = some res → WW D 23 ad (cM ca ad) p l e rm_X12_thinks s m args below meth c 2 0 0 Q mem 2 [(0, .ref (ad 0)), (1, .int x1)] [] := by
    intro n
    induction n with
    | zero => intro x1 mem hF; exact no_none (show (none : Option Mem) = some res from hF)
    | succ n ih =>
      intro x1 mem hF
      rw [K_X12_thinks_2] at hF
      refine w_iload_n X 1 dX12_thinks_2 rfl rfl 3 rfl ?_
      refine w_sipush X 184 dX12_thinks_3 rfl 6 rfl ?_
      refine w_icmp_ge X hF 27 9 dX12_thinks_6 (by decide) rfl (fun hF => ?_) (fun hF => ?_)
      · refine w_aload_n X 0 dX12_thinks_9 rfl rfl 10 rfl ?_
        refine w_getV (v := .ref (ad 6)) X 0 ml_0 mo_0 (T := TX12) (N := 50) rfl in_X12 17 (by decide) kF_X12_32 rfl rfl dX12_thinks_10 13 rfl ?_
        refine w_iload_n X 1 dX12_thinks_13 rfl rfl 14 rfl ?_
        refine w_aload_n X 0 dX12_thinks_14 rfl rfl 15 rfl ?_
        refine w_getV (v := .ref (ad 2)) X 0 ml_0 mo_0 (T := TX12) (N := 50) rfl in_X12 13 (by decide) kF_X12_20 rfl rfl dX12_thinks_15 18 rfl ?_
        refine w_iload_n X 1 dX12_thinks_18 rfl rfl 19 rfl ?_
        refine w_gi hF (fun h_1 hF => ?_)
        refine w_ial X 2 ml_2 mo_2 (t0 := 0) rfl h_1 dX12_thinks_19 20 rfl ?_
        refine w_gi hF (fun h_2 hF => ?_)
        refine w_ias X 6 ml_6 mo_6 (t0 := 0) rfl h_2 dX12_thinks_20 21 rfl ?_
        refine w_letm hF (fun m_3 hF => ?_)
        refine w_iinc X 1 (x1 + 1) [(1, .int (x1 + 1)), (0, .ref (ad 0))] dX12_thinks_21 rfl rfl (by decide) rfl 24 rfl ?_
        refine w_goto X 2 dX12_thinks_24 (by decide) ?_
        refine w_keep [1, 0] rfl ?_
        exact ih (x1 + 1) m_3 hF
      · exact w_vret X hQ (o_inj hF) dX12_thinks_27
  intro hF
  refine w_iconst X 0 dX12_thinks_0 rfl 1 rfl ?_
  refine w_istore_n X [(1, .int 0), (0, .ref (ad 0))] dX12_thinks_1 rfl (by decide) rfl 2 rfl ?_
  refine w_keep [1, 0] rfl ?_
  exact w_2 fu 0 mem hF

def K_X12_thinksNoMore_2 (fu : Nat) : Nat → Int32 → Mem → Option Mem
  | 0, _, _ => none
  | n + 1, x1, mem => (if x1 < 184 then gi x1 184 (gi x1 184 (lt_ (mw mem 2 (Int32.toNatClampNeg x1) (rd mem 6 (Int32.toNatClampNeg x1))) (fun m_3 => (K_X12_thinksNoMore_2 fu n (x1 + 1) m_3)))) else some mem)
def K_X12_thinksNoMore (fu : Nat) (mem : Mem) : Option Mem := (K_X12_thinksNoMore_2 fu fu 0 mem)
def rm_X12_thinksNoMore : Room := { frames := 0, cells := 0, slots := 0, locals := 0 }
set_option maxHeartbeats 4000000 in
set_option maxRecDepth 100000 in
theorem ct_X12_thinksNoMore (l : Launch) {D : va_G} {ca ad : Nat → Nat} {Z : (Nat → Prop) → State → Heap → Prop} (hZ : ZOK Z) (fu : Nat) (mem : Mem) (res : Mem) (hF : K_X12_thinksNoMore fu mem = some res) : CV l D (tyL ca) 23 ad (cM ca ad) Z yX12_thinksNoMore cX12_thinksNoMore 2 rm_X12_thinksNoMore [.ref (ad 0)] mem res := by
  refine start_v (own := RX12) rfl (by decide) (Nat.le_of_ble_eq_true rfl) ?_
  intro p e s m args below meth c Q hQ X
  rw [K_X12_thinksNoMore] at hF
  revert hF
  have w_2 : ∀ (n : Nat) (x1 : Int32) (mem : Mem), K_X12_thinksNoMore_2 fu n x1 mem = some res → WW D 23 ad (cM ca ad) p l e rm_X12_thinksNoMore s m args below meth c 2 0 0 Q mem 2 [(0, .ref (ad 0)), (1, .int x1)] [] := by
    intro n
    induction n with
    | zero => intro x1 mem hF; exact no_none (show (none : Option Mem) = some res from hF)
    | succ n ih =>
      intro x1 mem hF
      rw [K_X12_thinksNoMore_2] at hF
      refine w_iload_n X 1 dX12_thinksNoMore_2 rfl rfl 3 rfl ?_
      refine w_sipush X 184 dX12_thinksNoMore_3 rfl 6 rfl ?_
      refine w_icmp_ge X hF 27 9 dX12_thinksNoMore_6 (by decide) rfl (fun hF => ?_) (fun hF => ?_)
      · refine w_aload_n X 0 dX12_thinksNoMore_9 rfl rfl 10 rfl ?_
        refine w_getV (v := .ref (ad 2)) X 0 ml_0 mo_0 (T := TX12) (N := 50) rfl in_X12 13 (by decide) kF_X12_20 rfl rfl dX12_thinksNoMore_10 13 rfl ?_
        refine w_iload_n X 1 dX12_thinksNoMore_13 rfl rfl 14 rfl ?_
        refine w_aload_n X 0 dX12_thinksNoMore_14 rfl rfl 15 rfl ?_
        refine w_getV (v := .ref (ad 6)) X 0 ml_0 mo_0 (T := TX12) (N := 50) rfl in_X12 17 (by decide) kF_X12_32 rfl rfl dX12_thinksNoMore_15 18 rfl ?_
        refine w_iload_n X 1 dX12_thinksNoMore_18 rfl rfl 19 rfl ?_
        refine w_gi hF (fun h_1 hF => ?_)
        refine w_ial X 6 ml_6 mo_6 (t0 := 0) rfl h_1 dX12_thinksNoMore_19 20 rfl ?_
        refine w_gi hF (fun h_2 hF => ?_)
        refine w_ias X 2 ml_2 mo_2 (t0 := 0) rfl h_2 dX12_thinksNoMore_20 21 rfl ?_
        refine w_letm hF (fun m_3 hF => ?_)
        refine w_iinc X 1 (x1 + 1) [(1, .int (x1 + 1)), (0, .ref (ad 0))] dX12_thinksNoMore_21 rfl rfl (by decide) rfl 24 rfl ?_
        refine w_goto X 2 dX12_thinksNoMore_24 (by decide) ?_
        refine w_keep [1, 0] rfl ?_
        exact ih (x1 + 1) m_3 hF
      · exact w_vret X hQ (o_inj hF) dX12_thinksNoMore_27
  intro hF
  refine w_iconst X 0 dX12_thinksNoMore_0 rfl 1 rfl ?_
  refine w_istore_n X [(1, .int 0), (0, .ref (ad 0))] dX12_thinksNoMore_1 rfl (by decide) rfl 2 rfl ?_
  refine w_keep [1, 0] rfl ?_
  exact w_2 fu 0 mem hF

def K_X12_foreseen_33 (fu : Nat) (x1 : Int32) (x2 : Int32) (x3 : Int32) (xs0 : Int32) (xs1 : Int32) (mem : Mem) : Option (Int32 × Mem) := bd (K_X12_goesBoth fu xs1 xs0 mem) (fun p_4 => (if p_4.1 = 0 then some (0, p_4.2) else bd (K_X12_thinks fu p_4.2) (fun m_5 => bd (K_X12_plays fu x1 x2 m_5) (fun p_6 => lt_ p_6.1 (fun x_7 => bd (K_X12_of fu x3 6 p_6.2) (fun x_8 => bd (K_X12_thinksNoMore fu p_6.2) (fun m_9 => (if x_7 < 0 then some ((-1), m_9) else some (x_8, m_9)))))))))
def K_X12_foreseen_32 (fu : Nat) (x1 : Int32) (x2 : Int32) (x3 : Int32) (xs0 : Int32) (mem : Mem) : Option (Int32 × Mem) := (K_X12_foreseen_33 fu x1 x2 x3 0 xs0 mem)
def K_X12_foreseen (fu : Nat) (x1 : Int32) (x2 : Int32) (x3 : Int32) (mem : Mem) : Option (Int32 × Mem) := bd (K_X12_isPawn fu x3 mem) (fun x_1 => bd (K_X12_isIn fu (Int32.toInt64 x1) 0 1 mem) (fun x_2 => (if x_2 = 0 then (K_X12_foreseen_32 fu x1 x2 x3 x_1 mem) else bd (K_X12_isIn fu (Int32.toInt64 x2) 1 99 mem) (fun x_3 => (if x_3 = 0 then (K_X12_foreseen_32 fu x1 x2 x3 x_1 mem) else (K_X12_foreseen_33 fu x1 x2 x3 1 x_1 mem))))))
def rm_X12_foreseen : Room := { frames := 12, cells := 0, slots := 0, locals := 283 }
set_option maxHeartbeats 4000000 in
set_option maxRecDepth 100000 in
theorem ct_X12_foreseen (l : Launch) {D : va_G} {ca ad : Nat → Nat} {Z : (Nat → Prop) → State → Heap → Prop} (hZ : ZOK Z) (fu : Nat) (x1 : Int32) (x2 : Int32) (x3 : Int32) (mem : Mem) (res : (Int32 × Mem)) (hF : K_X12_foreseen fu x1 x2 x3 mem = some res) : CI l D (tyL ca) 23 ad (cM ca ad) Z yX12_foreseen cX12_foreseen 6 .int rm_X12_foreseen [.ref (ad 0), .int x1, .int x2, .int x3] mem res.1 res.2 := by
  refine start_i (own := RX12) rfl (by decide) (Nat.le_of_ble_eq_true rfl) ?_
  intro p e s m args below meth c Q hQ X
  rw [K_X12_foreseen] at hF
  revert hF
  have w_33 : ∀ (x1 : Int32) (x2 : Int32) (x3 : Int32) (xs0 : Int32) (xs1 : Int32) (mem : Mem), K_X12_foreseen_33 fu x1 x2 x3 xs0 xs1 mem = some res → WW D 23 ad (cM ca ad) p l e rm_X12_foreseen s m args below meth c 6 0 0 Q mem 33 [(0, .ref (ad 0)), (1, .int x1), (2, .int x2), (3, .int x3)] [.int xs0, .int xs1, .ref (ad 0)] := by
    intro x1 x2 x3 xs0 xs1 mem hF
    rw [K_X12_foreseen_33] at hF
    refine w_callVi (fun x => x.1) (fun x => x.2) X hZ hF [.int xs1, .int xs0] 0 ml_0 mo_0 rfl rfl rfl kB_X12_goesBoth kL_X12_344 (fun res h => ct_X12_goesBoth l hZ fu xs1 xs0 mem res h) rfl rfl rfl ⟨Nat.le_of_ble_eq_true rfl, Nat.le_of_ble_eq_true rfl⟩ (Nat.le_of_ble_eq_true rfl) ⟨Nat.zero_le _, Nat.zero_le _⟩ dX12_foreseen_33 36 rfl (fun p_4 hF => ?_)
    refine w_if_ne X hF 41 39 dX12_foreseen_36 (by decide) rfl (fun hF => ?_) (fun hF => ?_)
    · refine w_iconst X 0 dX12_foreseen_39 rfl 40 rfl ?_
      exact w_iret X hQ (o_inj1 hF) (o_inj2 hF) rfl dX12_foreseen_40
    · refine w_aload_n X 0 dX12_foreseen_41 rfl rfl 42 rfl ?_
      refine w_callVv (fun m => m) X hZ hF [] 0 ml_0 mo_0 rfl rfl rfl kB_X12_thinks kL_X12_435 (fun res h => ct_X12_thinks l hZ fu p_4.2 res h) rfl rfl rfl ⟨Nat.le_of_ble_eq_true rfl, Nat.le_of_ble_eq_true rfl⟩ (Nat.le_of_ble_eq_true rfl) ⟨Nat.zero_le _, Nat.zero_le _⟩ dX12_foreseen_42 45 rfl (fun m_5 hF => ?_)
      refine w_aload_n X 0 dX12_foreseen_45 rfl rfl 46 rfl ?_
      refine w_iload_n X 1 dX12_foreseen_46 rfl rfl 47 rfl ?_
      refine w_iload_n X 2 dX12_foreseen_47 rfl rfl 48 rfl ?_
      refine w_callVi (fun x => x.1) (fun x => x.2) X hZ hF [.int x1, .int x2] 0 ml_0 mo_0 rfl rfl rfl kB_X12_plays kL_X12_438 (fun res h => ct_X12_plays l hZ fu x1 x2 m_5 res h) rfl rfl rfl ⟨Nat.le_of_ble_eq_true rfl, Nat.le_of_ble_eq_true rfl⟩ (Nat.le_of_ble_eq_true rfl) ⟨Nat.zero_le _, Nat.zero_le _⟩ dX12_foreseen_48 51 rfl (fun p_6 hF => ?_)
      refine w_let hF (fun x_7 hF => ?_)
      refine w_istore X [(4, .int x_7), (0, .ref (ad 0)), (1, .int x1), (2, .int x2), (3, .int x3)] dX12_foreseen_51 (by decide) rfl 53 rfl ?_
      refine w_aload_n X 1 dX12_foreseen_53 rfl rfl 54 rfl ?_
      refine w_iload_n X 4 dX12_foreseen_54 rfl rfl 55 rfl ?_
      refine w_bipush X 6 dX12_foreseen_55 rfl 57 rfl ?_
      refine w_callVi (fun x => x) (fun _ => p_6.2) X hZ hF [.int x3, .int 6] 0 ml_0 mo_0 rfl rfl rfl kB_X12_of kL_X12_174 (fun res h => ct_X12_of l hZ fu x3 6 p_6.2 res h) rfl rfl rfl ⟨Nat.le_of_ble_eq_true rfl, Nat.le_of_ble_eq_true rfl⟩ (Nat.le_of_ble_eq_true rfl) ⟨Nat.zero_le _, Nat.zero_le _⟩ dX12_foreseen_57 60 rfl (fun x_8 hF => ?_)
      refine w_istore X [(5, .int x_8), (4, .int x_7), (0, .ref (ad 0)), (1, .int x1), (2, .int x2), (3, .int x3)] dX12_foreseen_60 (by decide) rfl 62 rfl ?_
      refine w_aload_n X 2 dX12_foreseen_62 rfl rfl 63 rfl ?_
      refine w_callVv (fun m => m) X hZ hF [] 0 ml_0 mo_0 rfl rfl rfl kB_X12_thinksNoMore kL_X12_441 (fun res h => ct_X12_thinksNoMore l hZ fu p_6.2 res h) rfl rfl rfl ⟨Nat.le_of_ble_eq_true rfl, Nat.le_of_ble_eq_true rfl⟩ (Nat.le_of_ble_eq_true rfl) ⟨Nat.zero_le _, Nat.zero_le _⟩ dX12_foreseen_63 66 rfl (fun m_9 hF => ?_)
      refine w_iload X 1 dX12_foreseen_66 rfl 68 rfl ?_
      refine w_if_ge X hF 75 71 dX12_foreseen_68 (by decide) rfl (fun hF => ?_) (fun hF => ?_)
      · refine w_iconst X (-1) dX12_foreseen_71 rfl 72 rfl ?_
        refine w_goto X 77 dX12_foreseen_72 (by decide) ?_
        exact w_iret X hQ (o_inj1 hF) (o_inj2 hF) rfl dX12_foreseen_77
      · refine w_iload X 0 dX12_foreseen_75 rfl 77 rfl ?_
        exact w_iret X hQ (o_inj1 hF) (o_inj2 hF) rfl dX12_foreseen_77
  have w_32 : ∀ (x1 : Int32) (x2 : Int32) (x3 : Int32) (xs0 : Int32) (mem : Mem), K_X12_foreseen_32 fu x1 x2 x3 xs0 mem = some res → WW D 23 ad (cM ca ad) p l e rm_X12_foreseen s m args below meth c 6 0 0 Q mem 32 [(0, .ref (ad 0)), (1, .int x1), (2, .int x2), (3, .int x3)] [.int xs0, .ref (ad 0)] := by
    intro x1 x2 x3 xs0 mem hF
    rw [K_X12_foreseen_32] at hF
    refine w_iconst X 0 dX12_foreseen_32 rfl 33 rfl ?_
    refine w_keep [0, 1, 2, 3] rfl ?_
    exact w_33 x1 x2 x3 0 xs0 mem hF
  intro hF
  refine w_aload_n X 0 dX12_foreseen_0 rfl rfl 1 rfl ?_
  refine w_aload_n X 0 dX12_foreseen_1 rfl rfl 2 rfl ?_
  refine w_iload_n X 3 dX12_foreseen_2 rfl rfl 3 rfl ?_
  refine w_callVi (fun x => x) (fun _ => mem) X hZ hF [.int x3] 0 ml_0 mo_0 rfl rfl rfl kB_X12_isPawn kL_X12_339 (fun res h => ct_X12_isPawn l hZ fu x3 mem res h) rfl rfl rfl ⟨Nat.le_of_ble_eq_true rfl, Nat.le_of_ble_eq_true rfl⟩ (Nat.le_of_ble_eq_true rfl) ⟨Nat.zero_le _, Nat.zero_le _⟩ dX12_foreseen_3 6 rfl (fun x_1 hF => ?_)
  refine w_iload_n X 1 dX12_foreseen_6 rfl rfl 7 rfl ?_
  refine w_i2l X dX12_foreseen_7 8 rfl ?_
  refine w_lconst X 0 dX12_foreseen_8 rfl 9 rfl ?_
  refine w_lconst X 1 dX12_foreseen_9 rfl 10 rfl ?_
  refine w_callSi (fun x => x) (fun _ => mem) X hZ hF [.long (Int32.toInt64 x1), .long 0, .long 1] rfl kB_X12_isIn kL_X12_106 (fun res h => ct_X12_isIn l hZ fu (Int32.toInt64 x1) 0 1 mem res h) rfl rfl rfl ⟨Nat.le_of_ble_eq_true rfl, Nat.le_of_ble_eq_true rfl⟩ (Nat.le_of_ble_eq_true rfl) ⟨Nat.zero_le _, Nat.zero_le _⟩ dX12_foreseen_10 13 rfl (fun x_2 hF => ?_)
  refine w_if_eq X hF 32 16 dX12_foreseen_13 (by decide) rfl (fun hF => ?_) (fun hF => ?_)
  · refine w_keep [0, 1, 2, 3] rfl ?_
    exact w_32 x1 x2 x3 x_1 mem hF
  · refine w_iload_n X 2 dX12_foreseen_16 rfl rfl 17 rfl ?_
    refine w_i2l X dX12_foreseen_17 18 rfl ?_
    refine w_lconst X 1 dX12_foreseen_18 rfl 19 rfl ?_
    refine w_ldc2 X 99 kK_X12_433 dX12_foreseen_19 22 rfl ?_
    refine w_callSi (fun x => x) (fun _ => mem) X hZ hF [.long (Int32.toInt64 x2), .long 1, .long 99] rfl kB_X12_isIn kL_X12_106 (fun res h => ct_X12_isIn l hZ fu (Int32.toInt64 x2) 1 99 mem res h) rfl rfl rfl ⟨Nat.le_of_ble_eq_true rfl, Nat.le_of_ble_eq_true rfl⟩ (Nat.le_of_ble_eq_true rfl) ⟨Nat.zero_le _, Nat.zero_le _⟩ dX12_foreseen_22 25 rfl (fun x_3 hF => ?_)
    refine w_if_eq X hF 32 28 dX12_foreseen_25 (by decide) rfl (fun hF => ?_) (fun hF => ?_)
    · refine w_keep [0, 1, 2, 3] rfl ?_
      exact w_32 x1 x2 x3 x_1 mem hF
    · refine w_iconst X 1 dX12_foreseen_28 rfl 29 rfl ?_
      refine w_goto X 33 dX12_foreseen_29 (by decide) ?_
      refine w_keep [0, 1, 2, 3] rfl ?_
      exact w_33 x1 x2 x3 1 x_1 mem hF

def K_X12_gain (fu : Nat) (x1 : Int32) (mem : Mem) : Option (Int32 × Mem) := bd (K_X12_isPawn fu x1 mem) (fun x_1 => bd (K_X12_goes fu x_1 mem) (fun p_2 => (if p_2.1 = 0 then some (0, p_2.2) else bd (K_X12_seeks fu x1 p_2.2) (fun p_3 => (if p_3.1 = (-1) then some ((-1), p_3.2) else bd (K_X12_distanceOf fu x1 p_3.2) (fun p_4 => some (((rd p_3.2 0 36) - p_4.1), p_4.2)))))))
def rm_X12_gain : Room := { frames := 10, cells := 0, slots := 0, locals := 236 }
set_option maxHeartbeats 4000000 in
set_option maxRecDepth 100000 in
theorem ct_X12_gain (l : Launch) {D : va_G} {ca ad : Nat → Nat} {Z : (Nat → Prop) → State → Heap → Prop} (hZ : ZOK Z) (fu : Nat) (x1 : Int32) (mem : Mem) (res : (Int32 × Mem)) (hF : K_X12_gain fu x1 mem = some res) : CI l D (tyL ca) 23 ad (cM ca ad) Z yX12_gain cX12_gain 2 .int rm_X12_gain [.ref (ad 0), .int x1] mem res.1 res.2 := by
  refine start_i (own := RX12) rfl (by decide) (Nat.le_of_ble_eq_true rfl) ?_
  intro p e s m args below meth c Q hQ X
  rw [K_X12_gain] at hF
  revert hF
  intro hF
  refine w_aload_n X 0 dX12_gain_0 rfl rfl 1 rfl ?_
  refine w_aload_n X 0 dX12_gain_1 rfl rfl 2 rfl ?_
  refine w_iload_n X 1 dX12_gain_2 rfl rfl 3 rfl ?_
  refine w_callVi (fun x => x) (fun _ => mem) X hZ hF [.int x1] 0 ml_0 mo_0 rfl rfl rfl kB_X12_isPawn kL_X12_339 (fun res h => ct_X12_isPawn l hZ fu x1 mem res h) rfl rfl rfl ⟨Nat.le_of_ble_eq_true rfl, Nat.le_of_ble_eq_true rfl⟩ (Nat.le_of_ble_eq_true rfl) ⟨Nat.zero_le _, Nat.zero_le _⟩ dX12_gain_3 6 rfl (fun x_1 hF => ?_)
  refine w_callVi (fun x => x.1) (fun x => x.2) X hZ hF [.int x_1] 0 ml_0 mo_0 rfl rfl rfl kB_X12_goes kL_X12_98 (fun res h => ct_X12_goes l hZ fu x_1 mem res h) rfl rfl rfl ⟨Nat.le_of_ble_eq_true rfl, Nat.le_of_ble_eq_true rfl⟩ (Nat.le_of_ble_eq_true rfl) ⟨Nat.zero_le _, Nat.zero_le _⟩ dX12_gain_6 9 rfl (fun p_2 hF => ?_)
  refine w_if_ne X hF 14 12 dX12_gain_9 (by decide) rfl (fun hF => ?_) (fun hF => ?_)
  · refine w_iconst X 0 dX12_gain_12 rfl 13 rfl ?_
    exact w_iret X hQ (o_inj1 hF) (o_inj2 hF) rfl dX12_gain_13
  · refine w_aload_n X 0 dX12_gain_14 rfl rfl 15 rfl ?_
    refine w_iload_n X 1 dX12_gain_15 rfl rfl 16 rfl ?_
    refine w_callVi (fun x => x.1) (fun x => x.2) X hZ hF [.int x1] 0 ml_0 mo_0 rfl rfl rfl kB_X12_seeks kL_X12_430 (fun res h => ct_X12_seeks l hZ fu x1 p_2.2 res h) rfl rfl rfl ⟨Nat.le_of_ble_eq_true rfl, Nat.le_of_ble_eq_true rfl⟩ (Nat.le_of_ble_eq_true rfl) ⟨Nat.zero_le _, Nat.zero_le _⟩ dX12_gain_16 19 rfl (fun p_3 hF => ?_)
    refine w_iconst X (-1) dX12_gain_19 rfl 20 rfl ?_
    refine w_icmp_ne X hF 27 23 dX12_gain_20 (by decide) rfl (fun hF => ?_) (fun hF => ?_)
    · refine w_iconst X (-1) dX12_gain_23 rfl 24 rfl ?_
      refine w_goto X 37 dX12_gain_24 (by decide) ?_
      exact w_iret X hQ (o_inj1 hF) (o_inj2 hF) rfl dX12_gain_37
    · refine w_aload_n X 0 dX12_gain_27 rfl rfl 28 rfl ?_
      refine w_getV (v := .int (rd p_3.2 0 36)) X 0 ml_0 mo_0 (T := TX12) (N := 50) rfl in_X12 36 (by decide) kF_X12_423 rfl rfl dX12_gain_28 31 rfl ?_
      refine w_aload_n X 0 dX12_gain_31 rfl rfl 32 rfl ?_
      refine w_iload_n X 1 dX12_gain_32 rfl rfl 33 rfl ?_
      refine w_callVi (fun x => x.1) (fun x => x.2) X hZ hF [.int x1] 0 ml_0 mo_0 rfl rfl rfl kB_X12_distanceOf kL_X12_222 (fun res h => ct_X12_distanceOf l hZ fu x1 p_3.2 res h) rfl rfl rfl ⟨Nat.le_of_ble_eq_true rfl, Nat.le_of_ble_eq_true rfl⟩ (Nat.le_of_ble_eq_true rfl) ⟨Nat.zero_le _, Nat.zero_le _⟩ dX12_gain_33 36 rfl (fun p_4 hF => ?_)
      refine w_isub X dX12_gain_36 37 rfl ?_
      exact w_iret X hQ (o_inj1 hF) (o_inj2 hF) rfl dX12_gain_37

def K_X12_isGateOf (fu : Nat) (x1 : Int32) (x2 : Int32) (x3 : Int32) (mem : Mem) : Option (Int32 × Mem) := bd (K_X12_hasFinished fu x1 mem) (fun x_1 => (if x_1 = 0 then bd (K_X12_cellOf fu x1 mem) (fun x_2 => (if ((9 * x3) + x2) = x_2 then some (0, mem) else bd (K_X12_comesWithout fu x1 ((9 * x3) + x2) mem) (fun p_3 => (if p_3.1 = 0 then some (1, p_3.2) else some (0, p_3.2))))) else some (0, mem)))
def rm_X12_isGateOf : Room := { frames := 6, cells := 0, slots := 0, locals := 144 }
set_option maxHeartbeats 4000000 in
set_option maxRecDepth 100000 in
theorem ct_X12_isGateOf (l : Launch) {D : va_G} {ca ad : Nat → Nat} {Z : (Nat → Prop) → State → Heap → Prop} (hZ : ZOK Z) (fu : Nat) (x1 : Int32) (x2 : Int32) (x3 : Int32) (mem : Mem) (res : (Int32 × Mem)) (hF : K_X12_isGateOf fu x1 x2 x3 mem = some res) : CI l D (tyL ca) 23 ad (cM ca ad) Z yX12_isGateOf cX12_isGateOf 4 .boolean rm_X12_isGateOf [.ref (ad 0), .int x1, .int x2, .int x3] mem res.1 res.2 := by
  refine start_i (own := RX12) rfl (by decide) (Nat.le_of_ble_eq_true rfl) ?_
  intro p e s m args below meth c Q hQ X
  rw [K_X12_isGateOf] at hF
  revert hF
  intro hF
  refine w_aload_n X 0 dX12_isGateOf_0 rfl rfl 1 rfl ?_
  refine w_iload_n X 1 dX12_isGateOf_1 rfl rfl 2 rfl ?_
  refine w_callVi (fun x => x) (fun _ => mem) X hZ hF [.int x1] 0 ml_0 mo_0 rfl rfl rfl kB_X12_hasFinished kL_X12_213 (fun res h => ct_X12_hasFinished l hZ fu x1 mem res h) rfl rfl rfl ⟨Nat.le_of_ble_eq_true rfl, Nat.le_of_ble_eq_true rfl⟩ (Nat.le_of_ble_eq_true rfl) ⟨Nat.zero_le _, Nat.zero_le _⟩ dX12_isGateOf_2 5 rfl (fun x_1 hF => ?_)
  refine w_if_ne X hF 40 8 dX12_isGateOf_5 (by decide) rfl (fun hF => ?_) (fun hF => ?_)
  · refine w_bipush X 9 dX12_isGateOf_8 rfl 10 rfl ?_
    refine w_iload_n X 3 dX12_isGateOf_10 rfl rfl 11 rfl ?_
    refine w_imul X dX12_isGateOf_11 12 rfl ?_
    refine w_iload_n X 2 dX12_isGateOf_12 rfl rfl 13 rfl ?_
    refine w_iadd X dX12_isGateOf_13 14 rfl ?_
    refine w_aload_n X 0 dX12_isGateOf_14 rfl rfl 15 rfl ?_
    refine w_iload_n X 1 dX12_isGateOf_15 rfl rfl 16 rfl ?_
    refine w_callVi (fun x => x) (fun _ => mem) X hZ hF [.int x1] 0 ml_0 mo_0 rfl rfl rfl kB_X12_cellOf kL_X12_219 (fun res h => ct_X12_cellOf l hZ fu x1 mem res h) rfl rfl rfl ⟨Nat.le_of_ble_eq_true rfl, Nat.le_of_ble_eq_true rfl⟩ (Nat.le_of_ble_eq_true rfl) ⟨Nat.zero_le _, Nat.zero_le _⟩ dX12_isGateOf_16 19 rfl (fun x_2 hF => ?_)
    refine w_icmp_eq X hF 40 22 dX12_isGateOf_19 (by decide) rfl (fun hF => ?_) (fun hF => ?_)
    · refine w_iconst X 0 dX12_isGateOf_40 rfl 41 rfl ?_
      exact w_iret X hQ (o_inj1 hF) (o_inj2 hF) rfl dX12_isGateOf_41
    · refine w_aload_n X 0 dX12_isGateOf_22 rfl rfl 23 rfl ?_
      refine w_iload_n X 1 dX12_isGateOf_23 rfl rfl 24 rfl ?_
      refine w_bipush X 9 dX12_isGateOf_24 rfl 26 rfl ?_
      refine w_iload_n X 3 dX12_isGateOf_26 rfl rfl 27 rfl ?_
      refine w_imul X dX12_isGateOf_27 28 rfl ?_
      refine w_iload_n X 2 dX12_isGateOf_28 rfl rfl 29 rfl ?_
      refine w_iadd X dX12_isGateOf_29 30 rfl ?_
      refine w_callVi (fun x => x.1) (fun x => x.2) X hZ hF [.int x1, .int ((9 * x3) + x2)] 0 ml_0 mo_0 rfl rfl rfl kB_X12_comesWithout kL_X12_389 (fun res h => ct_X12_comesWithout l hZ fu x1 ((9 * x3) + x2) mem res h) rfl rfl rfl ⟨Nat.le_of_ble_eq_true rfl, Nat.le_of_ble_eq_true rfl⟩ (Nat.le_of_ble_eq_true rfl) ⟨Nat.zero_le _, Nat.zero_le _⟩ dX12_isGateOf_30 33 rfl (fun p_3 hF => ?_)
      refine w_if_ne X hF 40 36 dX12_isGateOf_33 (by decide) rfl (fun hF => ?_) (fun hF => ?_)
      · refine w_iconst X 1 dX12_isGateOf_36 rfl 37 rfl ?_
        refine w_goto X 41 dX12_isGateOf_37 (by decide) ?_
        exact w_iret X hQ (o_inj1 hF) (o_inj2 hF) rfl dX12_isGateOf_41
      · refine w_iconst X 0 dX12_isGateOf_40 rfl 41 rfl ?_
        exact w_iret X hQ (o_inj1 hF) (o_inj2 hF) rfl dX12_isGateOf_41
  · refine w_iconst X 0 dX12_isGateOf_40 rfl 41 rfl ?_
    exact w_iret X hQ (o_inj1 hF) (o_inj2 hF) rfl dX12_isGateOf_41

def K_X12_gates_31 (fu : Nat) (k_18 : Int32 → Int32 → Int32 → Mem → Option (Int32 × Mem)) : Nat → Int32 → Int32 → Int32 → Int32 → Mem → Option (Int32 × Mem)
  | 0, _, _, _, _, _ => none
  | n + 1, x1, x2, x3, x4, mem => gi 0 184 ((if x4 < (rd mem 2 (Int32.toNatClampNeg 0)) then bd (K_X12_isGateOf fu x1 x4 x3 mem) (fun p_5 => bd (K_X12_truth fu p_5.1 p_5.2) (fun x_6 => lt_ (x2 + x_6) (fun x_7 => (K_X12_gates_31 fu k_18 n x1 x_7 x3 (x4 + 1) p_5.2)))) else (k_18 x1 x2 (x3 + 1) mem)))
def K_X12_gates_18 (fu : Nat) : Nat → Int32 → Int32 → Int32 → Mem → Option (Int32 × Mem)
  | 0, _, _, _, _ => none
  | n + 1, x1, x2, x3, mem => gi 1 184 ((if x3 < (rd mem 2 (Int32.toNatClampNeg 1)) then (K_X12_gates_31 fu (K_X12_gates_18 fu n) fu x1 x2 x3 0 mem) else some (x2, mem)))
def K_X12_gates (fu : Nat) (x1 : Int32) (mem : Mem) : Option (Int32 × Mem) := bd (K_X12_isPawn fu x1 mem) (fun x_1 => bd (K_X12_goes fu x_1 mem) (fun p_2 => (if p_2.1 = 0 then some (0, p_2.2) else (K_X12_gates_18 fu fu x1 0 0 p_2.2))))
def rm_X12_gates : Room := { frames := 7, cells := 0, slots := 0, locals := 167 }
set_option maxHeartbeats 4000000 in
set_option maxRecDepth 100000 in
theorem ct_X12_gates (l : Launch) {D : va_G} {ca ad : Nat → Nat} {Z : (Nat → Prop) → State → Heap → Prop} (hZ : ZOK Z) (fu : Nat) (x1 : Int32) (mem : Mem) (res : (Int32 × Mem)) (hF : K_X12_gates fu x1 mem = some res) : CI l D (tyL ca) 23 ad (cM ca ad) Z yX12_gates cX12_gates 5 .int rm_X12_gates [.ref (ad 0), .int x1] mem res.1 res.2 := by
  refine start_i (own := RX12) rfl (by decide) (Nat.le_of_ble_eq_true rfl) ?_
  intro p e s m args below meth c Q hQ X
  rw [K_X12_gates] at hF
  revert hF
  have w_31 : ∀ (k_18 : Int32 → Int32 → Int32 → Mem → Option (Int32 × Mem)) (hk_18 : ∀ (x1 : Int32) (x2 : Int32) (x3 : Int32) (mem : Mem), k_18 x1 x2 x3 mem = some res → WW D 23 ad (cM ca ad) p l e rm_X12_gates s m args below meth c 5 0 0 Q mem 18 [(0, .ref (ad 0)), (1, .int x1), (2, .int x2), (3, .int x3)] []) (n : Nat) (x1 : Int32) (x2 : Int32) (x3 : Int32) (x4 : Int32) (mem : Mem), K_X12_gates_31 fu k_18 n x1 x2 x3 x4 mem = some res → WW D 23 ad (cM ca ad) p l e rm_X12_gates s m args below meth c 5 0 0 Q mem 31 [(0, .ref (ad 0)), (1, .int x1), (2, .int x2), (3, .int x3), (4, .int x4)] [] := by
    intro k_18 hk_18 n
    induction n with
    | zero => intro x1 x2 x3 x4 mem hF; exact no_none (show (none : Option (Int32 × Mem)) = some res from hF)
    | succ n ih =>
      intro x1 x2 x3 x4 mem hF
      rw [K_X12_gates_31] at hF
      refine w_iload X 4 dX12_gates_31 rfl 33 rfl ?_
      refine w_aload_n X 0 dX12_gates_33 rfl rfl 34 rfl ?_
      refine w_getV (v := .ref (ad 2)) X 0 ml_0 mo_0 (T := TX12) (N := 50) rfl in_X12 13 (by decide) kF_X12_20 rfl rfl dX12_gates_34 37 rfl ?_
      refine w_iconst X 0 dX12_gates_37 rfl 38 rfl ?_
      refine w_gi hF (fun h_4 hF => ?_)
      refine w_ial X 2 ml_2 mo_2 (t0 := 0) rfl h_4 dX12_gates_38 39 rfl ?_
      refine w_icmp_ge X hF 62 42 dX12_gates_39 (by decide) rfl (fun hF => ?_) (fun hF => ?_)
      · refine w_iload_n X 2 dX12_gates_42 rfl rfl 43 rfl ?_
        refine w_aload_n X 0 dX12_gates_43 rfl rfl 44 rfl ?_
        refine w_iload_n X 1 dX12_gates_44 rfl rfl 45 rfl ?_
        refine w_iload X 4 dX12_gates_45 rfl 47 rfl ?_
        refine w_iload_n X 3 dX12_gates_47 rfl rfl 48 rfl ?_
        refine w_callVi (fun x => x.1) (fun x => x.2) X hZ hF [.int x1, .int x4, .int x3] 0 ml_0 mo_0 rfl rfl rfl kB_X12_isGateOf kL_X12_392 (fun res h => ct_X12_isGateOf l hZ fu x1 x4 x3 mem res h) rfl rfl rfl ⟨Nat.le_of_ble_eq_true rfl, Nat.le_of_ble_eq_true rfl⟩ (Nat.le_of_ble_eq_true rfl) ⟨Nat.zero_le _, Nat.zero_le _⟩ dX12_gates_48 51 rfl (fun p_5 hF => ?_)
        refine w_callSi (fun x => x) (fun _ => p_5.2) X hZ hF [.int p_5.1] rfl kB_X12_truth kL_X12_91 (fun res h => ct_X12_truth l hZ fu p_5.1 p_5.2 res h) rfl rfl rfl ⟨Nat.le_of_ble_eq_true rfl, Nat.le_of_ble_eq_true rfl⟩ (Nat.le_of_ble_eq_true rfl) ⟨Nat.zero_le _, Nat.zero_le _⟩ dX12_gates_51 54 rfl (fun x_6 hF => ?_)
        refine w_iadd X dX12_gates_54 55 rfl ?_
        refine w_let hF (fun x_7 hF => ?_)
        refine w_istore_n X [(2, .int x_7), (0, .ref (ad 0)), (1, .int x1), (3, .int x3), (4, .int x4)] dX12_gates_55 rfl (by decide) rfl 56 rfl ?_
        refine w_iinc X 4 (x4 + 1) [(4, .int (x4 + 1)), (2, .int x_7), (0, .ref (ad 0)), (1, .int x1), (3, .int x3)] dX12_gates_56 rfl rfl (by decide) rfl 59 rfl ?_
        refine w_goto X 31 dX12_gates_59 (by decide) ?_
        refine w_keep [2, 3, 1, 4, 0] rfl ?_
        exact ih x1 x_7 x3 (x4 + 1) p_5.2 hF
      · refine w_iinc X 3 (x3 + 1) [(3, .int (x3 + 1)), (0, .ref (ad 0)), (1, .int x1), (2, .int x2), (4, .int x4)] dX12_gates_62 rfl rfl (by decide) rfl 65 rfl ?_
        refine w_goto X 18 dX12_gates_65 (by decide) ?_
        refine w_keep [1, 2, 3, 0] rfl ?_
        exact hk_18 x1 x2 (x3 + 1) mem hF
  have w_18 : ∀ (n : Nat) (x1 : Int32) (x2 : Int32) (x3 : Int32) (mem : Mem), K_X12_gates_18 fu n x1 x2 x3 mem = some res → WW D 23 ad (cM ca ad) p l e rm_X12_gates s m args below meth c 5 0 0 Q mem 18 [(0, .ref (ad 0)), (1, .int x1), (2, .int x2), (3, .int x3)] [] := by
    intro n
    induction n with
    | zero => intro x1 x2 x3 mem hF; exact no_none (show (none : Option (Int32 × Mem)) = some res from hF)
    | succ n ih =>
      intro x1 x2 x3 mem hF
      rw [K_X12_gates_18] at hF
      refine w_iload_n X 3 dX12_gates_18 rfl rfl 19 rfl ?_
      refine w_aload_n X 0 dX12_gates_19 rfl rfl 20 rfl ?_
      refine w_getV (v := .ref (ad 2)) X 0 ml_0 mo_0 (T := TX12) (N := 50) rfl in_X12 13 (by decide) kF_X12_20 rfl rfl dX12_gates_20 23 rfl ?_
      refine w_iconst X 1 dX12_gates_23 rfl 24 rfl ?_
      refine w_gi hF (fun h_3 hF => ?_)
      refine w_ial X 2 ml_2 mo_2 (t0 := 0) rfl h_3 dX12_gates_24 25 rfl ?_
      refine w_icmp_ge X hF 68 28 dX12_gates_25 (by decide) rfl (fun hF => ?_) (fun hF => ?_)
      · refine w_iconst X 0 dX12_gates_28 rfl 29 rfl ?_
        refine w_istore X [(4, .int 0), (0, .ref (ad 0)), (1, .int x1), (2, .int x2), (3, .int x3)] dX12_gates_29 (by decide) rfl 31 rfl ?_
        refine w_keep [1, 2, 3, 4, 0] rfl ?_
        exact w_31 (K_X12_gates_18 fu n) ih fu x1 x2 x3 0 mem hF
      · refine w_iload_n X 2 dX12_gates_68 rfl rfl 69 rfl ?_
        exact w_iret X hQ (o_inj1 hF) (o_inj2 hF) rfl dX12_gates_69
  intro hF
  refine w_aload_n X 0 dX12_gates_0 rfl rfl 1 rfl ?_
  refine w_aload_n X 0 dX12_gates_1 rfl rfl 2 rfl ?_
  refine w_iload_n X 1 dX12_gates_2 rfl rfl 3 rfl ?_
  refine w_callVi (fun x => x) (fun _ => mem) X hZ hF [.int x1] 0 ml_0 mo_0 rfl rfl rfl kB_X12_isPawn kL_X12_339 (fun res h => ct_X12_isPawn l hZ fu x1 mem res h) rfl rfl rfl ⟨Nat.le_of_ble_eq_true rfl, Nat.le_of_ble_eq_true rfl⟩ (Nat.le_of_ble_eq_true rfl) ⟨Nat.zero_le _, Nat.zero_le _⟩ dX12_gates_3 6 rfl (fun x_1 hF => ?_)
  refine w_callVi (fun x => x.1) (fun x => x.2) X hZ hF [.int x_1] 0 ml_0 mo_0 rfl rfl rfl kB_X12_goes kL_X12_98 (fun res h => ct_X12_goes l hZ fu x_1 mem res h) rfl rfl rfl ⟨Nat.le_of_ble_eq_true rfl, Nat.le_of_ble_eq_true rfl⟩ (Nat.le_of_ble_eq_true rfl) ⟨Nat.zero_le _, Nat.zero_le _⟩ dX12_gates_6 9 rfl (fun p_2 hF => ?_)
  refine w_if_ne X hF 14 12 dX12_gates_9 (by decide) rfl (fun hF => ?_) (fun hF => ?_)
  · refine w_iconst X 0 dX12_gates_12 rfl 13 rfl ?_
    exact w_iret X hQ (o_inj1 hF) (o_inj2 hF) rfl dX12_gates_13
  · refine w_iconst X 0 dX12_gates_14 rfl 15 rfl ?_
    refine w_istore_n X [(2, .int 0), (0, .ref (ad 0)), (1, .int x1)] dX12_gates_15 rfl (by decide) rfl 16 rfl ?_
    refine w_iconst X 0 dX12_gates_16 rfl 17 rfl ?_
    refine w_istore_n X [(3, .int 0), (2, .int 0), (0, .ref (ad 0)), (1, .int x1)] dX12_gates_17 rfl (by decide) rfl 18 rfl ?_
    refine w_keep [2, 3, 1, 0] rfl ?_
    exact w_18 fu x1 0 0 p_2.2 hF

def K_X12_harm_51 (fu : Nat) (x1 : Int32) (x2 : Int32) (x3 : Int32) (x4 : Int32) (xs0 : Int32) (xs1 : Int32) (mem : Mem) : Option (Int32 × Mem) := bd (K_X12_goesBoth fu xs1 xs0 mem) (fun p_5 => (if p_5.1 = 0 then some (0, p_5.2) else bd (K_X12_wayOf fu x4 p_5.2) (fun x_6 => bd (K_X12_behind fu x1 x2 x3 x_6 p_5.2) (fun p_7 => bd (K_X12_distanceOf fu x1 p_7.2) (fun p_8 => some ((p_7.1 - p_8.1), p_8.2))))))
def K_X12_harm_50 (fu : Nat) (x1 : Int32) (x2 : Int32) (x3 : Int32) (x4 : Int32) (xs0 : Int32) (mem : Mem) : Option (Int32 × Mem) := (K_X12_harm_51 fu x1 x2 x3 x4 0 xs0 mem)
def K_X12_harm_22 (fu : Nat) (x1 : Int32) (x2 : Int32) (x3 : Int32) (x4 : Int32) (xs0 : Int32) (mem : Mem) : Option (Int32 × Mem) := (if xs0 = 0 then (K_X12_harm_50 fu x1 x2 x3 x4 xs0 mem) else bd (K_X12_wayOf fu x4 mem) (fun x_3 => bd (K_X12_admits fu x2 x3 x_3 mem) (fun p_4 => (if p_4.1 = 0 then (K_X12_harm_50 fu x1 x2 x3 x4 xs0 p_4.2) else (K_X12_harm_51 fu x1 x2 x3 x4 1 xs0 p_4.2)))))
def K_X12_harm_21 (fu : Nat) (x1 : Int32) (x2 : Int32) (x3 : Int32) (x4 : Int32) (mem : Mem) : Option (Int32 × Mem) := (K_X12_harm_22 fu x1 x2 x3 x4 0 mem)
def K_X12_harm (fu : Nat) (x1 : Int32) (x2 : Int32) (x3 : Int32) (x4 : Int32) (mem : Mem) : Option (Int32 × Mem) := bd (K_X12_isPawn fu x1 mem) (fun x_1 => (if x_1 = 0 then (K_X12_harm_21 fu x1 x2 x3 x4 mem) else bd (K_X12_isPlace fu x2 x3 mem) (fun x_2 => (if x_2 = 0 then (K_X12_harm_21 fu x1 x2 x3 x4 mem) else (K_X12_harm_22 fu x1 x2 x3 x4 1 mem)))))
def rm_X12_harm : Room := { frames := 9, cells := 0, slots := 0, locals := 210 }
set_option maxHeartbeats 4000000 in
set_option maxRecDepth 100000 in
theorem ct_X12_harm (l : Launch) {D : va_G} {ca ad : Nat → Nat} {Z : (Nat → Prop) → State → Heap → Prop} (hZ : ZOK Z) (fu : Nat) (x1 : Int32) (x2 : Int32) (x3 : Int32) (x4 : Int32) (mem : Mem) (res : (Int32 × Mem)) (hF : K_X12_harm fu x1 x2 x3 x4 mem = some res) : CI l D (tyL ca) 23 ad (cM ca ad) Z yX12_harm cX12_harm 6 .int rm_X12_harm [.ref (ad 0), .int x1, .int x2, .int x3, .int x4] mem res.1 res.2 := by
  refine start_i (own := RX12) rfl (by decide) (Nat.le_of_ble_eq_true rfl) ?_
  intro p e s m args below meth c Q hQ X
  rw [K_X12_harm] at hF
  revert hF
  have w_51 : ∀ (x1 : Int32) (x2 : Int32) (x3 : Int32) (x4 : Int32) (xs0 : Int32) (xs1 : Int32) (mem : Mem), K_X12_harm_51 fu x1 x2 x3 x4 xs0 xs1 mem = some res → WW D 23 ad (cM ca ad) p l e rm_X12_harm s m args below meth c 6 0 0 Q mem 51 [(0, .ref (ad 0)), (1, .int x1), (2, .int x2), (3, .int x3), (4, .int x4)] [.int xs0, .int xs1, .ref (ad 0)] := by
    intro x1 x2 x3 x4 xs0 xs1 mem hF
    rw [K_X12_harm_51] at hF
    refine w_callVi (fun x => x.1) (fun x => x.2) X hZ hF [.int xs1, .int xs0] 0 ml_0 mo_0 rfl rfl rfl kB_X12_goesBoth kL_X12_344 (fun res h => ct_X12_goesBoth l hZ fu xs1 xs0 mem res h) rfl rfl rfl ⟨Nat.le_of_ble_eq_true rfl, Nat.le_of_ble_eq_true rfl⟩ (Nat.le_of_ble_eq_true rfl) ⟨Nat.zero_le _, Nat.zero_le _⟩ dX12_harm_51 54 rfl (fun p_5 hF => ?_)
    refine w_if_ne X hF 59 57 dX12_harm_54 (by decide) rfl (fun hF => ?_) (fun hF => ?_)
    · refine w_iconst X 0 dX12_harm_57 rfl 58 rfl ?_
      exact w_iret X hQ (o_inj1 hF) (o_inj2 hF) rfl dX12_harm_58
    · refine w_aload_n X 0 dX12_harm_59 rfl rfl 60 rfl ?_
      refine w_iload_n X 1 dX12_harm_60 rfl rfl 61 rfl ?_
      refine w_iload_n X 2 dX12_harm_61 rfl rfl 62 rfl ?_
      refine w_iload_n X 3 dX12_harm_62 rfl rfl 63 rfl ?_
      refine w_iload X 4 dX12_harm_63 rfl 65 rfl ?_
      refine w_callSi (fun x => x) (fun _ => p_5.2) X hZ hF [.int x4] rfl kB_X12_wayOf kL_X12_359 (fun res h => ct_X12_wayOf l hZ fu x4 p_5.2 res h) rfl rfl rfl ⟨Nat.le_of_ble_eq_true rfl, Nat.le_of_ble_eq_true rfl⟩ (Nat.le_of_ble_eq_true rfl) ⟨Nat.zero_le _, Nat.zero_le _⟩ dX12_harm_65 68 rfl (fun x_6 hF => ?_)
      refine w_callVi (fun x => x.1) (fun x => x.2) X hZ hF [.int x1, .int x2, .int x3, .int x_6] 0 ml_0 mo_0 rfl rfl rfl kB_X12_behind kL_X12_426 (fun res h => ct_X12_behind l hZ fu x1 x2 x3 x_6 p_5.2 res h) rfl rfl rfl ⟨Nat.le_of_ble_eq_true rfl, Nat.le_of_ble_eq_true rfl⟩ (Nat.le_of_ble_eq_true rfl) ⟨Nat.zero_le _, Nat.zero_le _⟩ dX12_harm_68 71 rfl (fun p_7 hF => ?_)
      refine w_aload_n X 0 dX12_harm_71 rfl rfl 72 rfl ?_
      refine w_iload_n X 1 dX12_harm_72 rfl rfl 73 rfl ?_
      refine w_callVi (fun x => x.1) (fun x => x.2) X hZ hF [.int x1] 0 ml_0 mo_0 rfl rfl rfl kB_X12_distanceOf kL_X12_222 (fun res h => ct_X12_distanceOf l hZ fu x1 p_7.2 res h) rfl rfl rfl ⟨Nat.le_of_ble_eq_true rfl, Nat.le_of_ble_eq_true rfl⟩ (Nat.le_of_ble_eq_true rfl) ⟨Nat.zero_le _, Nat.zero_le _⟩ dX12_harm_73 76 rfl (fun p_8 hF => ?_)
      refine w_isub X dX12_harm_76 77 rfl ?_
      exact w_iret X hQ (o_inj1 hF) (o_inj2 hF) rfl dX12_harm_77
  have w_50 : ∀ (x1 : Int32) (x2 : Int32) (x3 : Int32) (x4 : Int32) (xs0 : Int32) (mem : Mem), K_X12_harm_50 fu x1 x2 x3 x4 xs0 mem = some res → WW D 23 ad (cM ca ad) p l e rm_X12_harm s m args below meth c 6 0 0 Q mem 50 [(0, .ref (ad 0)), (1, .int x1), (2, .int x2), (3, .int x3), (4, .int x4)] [.int xs0, .ref (ad 0)] := by
    intro x1 x2 x3 x4 xs0 mem hF
    rw [K_X12_harm_50] at hF
    refine w_iconst X 0 dX12_harm_50 rfl 51 rfl ?_
    refine w_keep [0, 1, 2, 3, 4] rfl ?_
    exact w_51 x1 x2 x3 x4 0 xs0 mem hF
  have w_22 : ∀ (x1 : Int32) (x2 : Int32) (x3 : Int32) (x4 : Int32) (xs0 : Int32) (mem : Mem), K_X12_harm_22 fu x1 x2 x3 x4 xs0 mem = some res → WW D 23 ad (cM ca ad) p l e rm_X12_harm s m args below meth c 6 0 0 Q mem 22 [(0, .ref (ad 0)), (1, .int x1), (2, .int x2), (3, .int x3), (4, .int x4)] [.int xs0] := by
    intro x1 x2 x3 x4 xs0 mem hF
    rw [K_X12_harm_22] at hF
    refine w_istore X [(5, .int xs0), (0, .ref (ad 0)), (1, .int x1), (2, .int x2), (3, .int x3), (4, .int x4)] dX12_harm_22 (by decide) rfl 24 rfl ?_
    refine w_aload_n X 1 dX12_harm_24 rfl rfl 25 rfl ?_
    refine w_iload X 0 dX12_harm_25 rfl 27 rfl ?_
    refine w_iload X 0 dX12_harm_27 rfl 29 rfl ?_
    refine w_if_eq X hF 50 32 dX12_harm_29 (by decide) rfl (fun hF => ?_) (fun hF => ?_)
    · refine w_keep [1, 2, 3, 4, 5] rfl ?_
      exact w_50 x1 x2 x3 x4 xs0 mem hF
    · refine w_aload_n X 1 dX12_harm_32 rfl rfl 33 rfl ?_
      refine w_iload_n X 3 dX12_harm_33 rfl rfl 34 rfl ?_
      refine w_iload_n X 4 dX12_harm_34 rfl rfl 35 rfl ?_
      refine w_iload X 5 dX12_harm_35 rfl 37 rfl ?_
      refine w_callSi (fun x => x) (fun _ => mem) X hZ hF [.int x4] rfl kB_X12_wayOf kL_X12_359 (fun res h => ct_X12_wayOf l hZ fu x4 mem res h) rfl rfl rfl ⟨Nat.le_of_ble_eq_true rfl, Nat.le_of_ble_eq_true rfl⟩ (Nat.le_of_ble_eq_true rfl) ⟨Nat.zero_le _, Nat.zero_le _⟩ dX12_harm_37 40 rfl (fun x_3 hF => ?_)
      refine w_callVi (fun x => x.1) (fun x => x.2) X hZ hF [.int x2, .int x3, .int x_3] 0 ml_0 mo_0 rfl rfl rfl kB_X12_admits kL_X12_293 (fun res h => ct_X12_admits l hZ fu x2 x3 x_3 mem res h) rfl rfl rfl ⟨Nat.le_of_ble_eq_true rfl, Nat.le_of_ble_eq_true rfl⟩ (Nat.le_of_ble_eq_true rfl) ⟨Nat.zero_le _, Nat.zero_le _⟩ dX12_harm_40 43 rfl (fun p_4 hF => ?_)
      refine w_if_eq X hF 50 46 dX12_harm_43 (by decide) rfl (fun hF => ?_) (fun hF => ?_)
      · refine w_keep [1, 2, 3, 4, 5] rfl ?_
        exact w_50 x1 x2 x3 x4 xs0 p_4.2 hF
      · refine w_iconst X 1 dX12_harm_46 rfl 47 rfl ?_
        refine w_goto X 51 dX12_harm_47 (by decide) ?_
        refine w_keep [1, 2, 3, 4, 5] rfl ?_
        exact w_51 x1 x2 x3 x4 1 xs0 p_4.2 hF
  have w_21 : ∀ (x1 : Int32) (x2 : Int32) (x3 : Int32) (x4 : Int32) (mem : Mem), K_X12_harm_21 fu x1 x2 x3 x4 mem = some res → WW D 23 ad (cM ca ad) p l e rm_X12_harm s m args below meth c 6 0 0 Q mem 21 [(0, .ref (ad 0)), (1, .int x1), (2, .int x2), (3, .int x3), (4, .int x4)] [] := by
    intro x1 x2 x3 x4 mem hF
    rw [K_X12_harm_21] at hF
    refine w_iconst X 0 dX12_harm_21 rfl 22 rfl ?_
    refine w_keep [0, 1, 2, 3, 4] rfl ?_
    exact w_22 x1 x2 x3 x4 0 mem hF
  intro hF
  refine w_aload_n X 0 dX12_harm_0 rfl rfl 1 rfl ?_
  refine w_iload_n X 1 dX12_harm_1 rfl rfl 2 rfl ?_
  refine w_callVi (fun x => x) (fun _ => mem) X hZ hF [.int x1] 0 ml_0 mo_0 rfl rfl rfl kB_X12_isPawn kL_X12_339 (fun res h => ct_X12_isPawn l hZ fu x1 mem res h) rfl rfl rfl ⟨Nat.le_of_ble_eq_true rfl, Nat.le_of_ble_eq_true rfl⟩ (Nat.le_of_ble_eq_true rfl) ⟨Nat.zero_le _, Nat.zero_le _⟩ dX12_harm_2 5 rfl (fun x_1 hF => ?_)
  refine w_if_eq X hF 21 8 dX12_harm_5 (by decide) rfl (fun hF => ?_) (fun hF => ?_)
  · refine w_keep [0, 1, 2, 3, 4] rfl ?_
    exact w_21 x1 x2 x3 x4 mem hF
  · refine w_aload_n X 0 dX12_harm_8 rfl rfl 9 rfl ?_
    refine w_iload_n X 2 dX12_harm_9 rfl rfl 10 rfl ?_
    refine w_iload_n X 3 dX12_harm_10 rfl rfl 11 rfl ?_
    refine w_callVi (fun x => x) (fun _ => mem) X hZ hF [.int x2, .int x3] 0 ml_0 mo_0 rfl rfl rfl kB_X12_isPlace kL_X12_177 (fun res h => ct_X12_isPlace l hZ fu x2 x3 mem res h) rfl rfl rfl ⟨Nat.le_of_ble_eq_true rfl, Nat.le_of_ble_eq_true rfl⟩ (Nat.le_of_ble_eq_true rfl) ⟨Nat.zero_le _, Nat.zero_le _⟩ dX12_harm_11 14 rfl (fun x_2 hF => ?_)
    refine w_if_eq X hF 21 17 dX12_harm_14 (by decide) rfl (fun hF => ?_) (fun hF => ?_)
    · refine w_keep [0, 1, 2, 3, 4] rfl ?_
      exact w_21 x1 x2 x3 x4 mem hF
    · refine w_iconst X 1 dX12_harm_17 rfl 18 rfl ?_
      refine w_goto X 22 dX12_harm_18 (by decide) ?_
      refine w_keep [0, 1, 2, 3, 4] rfl ?_
      exact w_22 x1 x2 x3 x4 1 mem hF

def K_X12_isAdmissible (fu : Nat) (x1 : Int32) (x2 : Int32) (x3 : Int32) (mem : Mem) : Option (Int32 × Mem) := bd (K_X12_isPlace fu x1 x2 mem) (fun x_1 => bd (K_X12_goes fu x_1 mem) (fun p_2 => (if p_2.1 = 0 then some (0, p_2.2) else bd (K_X12_wayOf fu x3 p_2.2) (fun x_3 => bd (K_X12_admits fu x1 x2 x_3 p_2.2) (fun p_4 => (if p_4.1 = 0 then some (0, p_4.2) else some (1, p_4.2)))))))
def rm_X12_isAdmissible : Room := { frames := 9, cells := 0, slots := 0, locals := 210 }
set_option maxHeartbeats 4000000 in
set_option maxRecDepth 100000 in
theorem ct_X12_isAdmissible (l : Launch) {D : va_G} {ca ad : Nat → Nat} {Z : (Nat → Prop) → State → Heap → Prop} (hZ : ZOK Z) (fu : Nat) (x1 : Int32) (x2 : Int32) (x3 : Int32) (mem : Mem) (res : (Int32 × Mem)) (hF : K_X12_isAdmissible fu x1 x2 x3 mem = some res) : CI l D (tyL ca) 23 ad (cM ca ad) Z yX12_isAdmissible cX12_isAdmissible 4 .boolean rm_X12_isAdmissible [.ref (ad 0), .int x1, .int x2, .int x3] mem res.1 res.2 := by
  refine start_i (own := RX12) rfl (by decide) (Nat.le_of_ble_eq_true rfl) ?_
  intro p e s m args below meth c Q hQ X
  rw [K_X12_isAdmissible] at hF
  revert hF
  intro hF
  refine w_aload_n X 0 dX12_isAdmissible_0 rfl rfl 1 rfl ?_
  refine w_aload_n X 0 dX12_isAdmissible_1 rfl rfl 2 rfl ?_
  refine w_iload_n X 1 dX12_isAdmissible_2 rfl rfl 3 rfl ?_
  refine w_iload_n X 2 dX12_isAdmissible_3 rfl rfl 4 rfl ?_
  refine w_callVi (fun x => x) (fun _ => mem) X hZ hF [.int x1, .int x2] 0 ml_0 mo_0 rfl rfl rfl kB_X12_isPlace kL_X12_177 (fun res h => ct_X12_isPlace l hZ fu x1 x2 mem res h) rfl rfl rfl ⟨Nat.le_of_ble_eq_true rfl, Nat.le_of_ble_eq_true rfl⟩ (Nat.le_of_ble_eq_true rfl) ⟨Nat.zero_le _, Nat.zero_le _⟩ dX12_isAdmissible_4 7 rfl (fun x_1 hF => ?_)
  refine w_callVi (fun x => x.1) (fun x => x.2) X hZ hF [.int x_1] 0 ml_0 mo_0 rfl rfl rfl kB_X12_goes kL_X12_98 (fun res h => ct_X12_goes l hZ fu x_1 mem res h) rfl rfl rfl ⟨Nat.le_of_ble_eq_true rfl, Nat.le_of_ble_eq_true rfl⟩ (Nat.le_of_ble_eq_true rfl) ⟨Nat.zero_le _, Nat.zero_le _⟩ dX12_isAdmissible_7 10 rfl (fun p_2 hF => ?_)
  refine w_if_eq X hF 30 13 dX12_isAdmissible_10 (by decide) rfl (fun hF => ?_) (fun hF => ?_)
  · refine w_iconst X 0 dX12_isAdmissible_30 rfl 31 rfl ?_
    exact w_iret X hQ (o_inj1 hF) (o_inj2 hF) rfl dX12_isAdmissible_31
  · refine w_aload_n X 0 dX12_isAdmissible_13 rfl rfl 14 rfl ?_
    refine w_iload_n X 1 dX12_isAdmissible_14 rfl rfl 15 rfl ?_
    refine w_iload_n X 2 dX12_isAdmissible_15 rfl rfl 16 rfl ?_
    refine w_iload_n X 3 dX12_isAdmissible_16 rfl rfl 17 rfl ?_
    refine w_callSi (fun x => x) (fun _ => p_2.2) X hZ hF [.int x3] rfl kB_X12_wayOf kL_X12_359 (fun res h => ct_X12_wayOf l hZ fu x3 p_2.2 res h) rfl rfl rfl ⟨Nat.le_of_ble_eq_true rfl, Nat.le_of_ble_eq_true rfl⟩ (Nat.le_of_ble_eq_true rfl) ⟨Nat.zero_le _, Nat.zero_le _⟩ dX12_isAdmissible_17 20 rfl (fun x_3 hF => ?_)
    refine w_callVi (fun x => x.1) (fun x => x.2) X hZ hF [.int x1, .int x2, .int x_3] 0 ml_0 mo_0 rfl rfl rfl kB_X12_admits kL_X12_293 (fun res h => ct_X12_admits l hZ fu x1 x2 x_3 p_2.2 res h) rfl rfl rfl ⟨Nat.le_of_ble_eq_true rfl, Nat.le_of_ble_eq_true rfl⟩ (Nat.le_of_ble_eq_true rfl) ⟨Nat.zero_le _, Nat.zero_le _⟩ dX12_isAdmissible_20 23 rfl (fun p_4 hF => ?_)
    refine w_if_eq X hF 30 26 dX12_isAdmissible_23 (by decide) rfl (fun hF => ?_) (fun hF => ?_)
    · refine w_iconst X 0 dX12_isAdmissible_30 rfl 31 rfl ?_
      exact w_iret X hQ (o_inj1 hF) (o_inj2 hF) rfl dX12_isAdmissible_31
    · refine w_iconst X 1 dX12_isAdmissible_26 rfl 27 rfl ?_
      refine w_goto X 31 dX12_isAdmissible_27 (by decide) ?_
      exact w_iret X hQ (o_inj1 hF) (o_inj2 hF) rfl dX12_isAdmissible_31

def K_X12_isBanned (fu : Nat) (x1 : Int32) (x2 : Int32) (mem : Mem) : Option (Int32 × Mem) := bd (K_X12_isPawn fu x1 mem) (fun x_1 => bd (K_X12_isIn fu (Int32.toInt64 x2) 0 3 mem) (fun x_2 => bd (K_X12_goesBoth fu x_1 x_2 mem) (fun p_3 => (if p_3.1 = 0 then some (0, p_3.2) else bd (K_X12_bans fu x1 x2 p_3.2) (fun p_4 => (if p_4.1 = 0 then some (0, p_4.2) else some (1, p_4.2)))))))
def rm_X12_isBanned : Room := { frames := 4, cells := 0, slots := 0, locals := 101 }
set_option maxHeartbeats 4000000 in
set_option maxRecDepth 100000 in
theorem ct_X12_isBanned (l : Launch) {D : va_G} {ca ad : Nat → Nat} {Z : (Nat → Prop) → State → Heap → Prop} (hZ : ZOK Z) (fu : Nat) (x1 : Int32) (x2 : Int32) (mem : Mem) (res : (Int32 × Mem)) (hF : K_X12_isBanned fu x1 x2 mem = some res) : CI l D (tyL ca) 23 ad (cM ca ad) Z yX12_isBanned cX12_isBanned 3 .boolean rm_X12_isBanned [.ref (ad 0), .int x1, .int x2] mem res.1 res.2 := by
  refine start_i (own := RX12) rfl (by decide) (Nat.le_of_ble_eq_true rfl) ?_
  intro p e s m args below meth c Q hQ X
  rw [K_X12_isBanned] at hF
  revert hF
  intro hF
  refine w_aload_n X 0 dX12_isBanned_0 rfl rfl 1 rfl ?_
  refine w_aload_n X 0 dX12_isBanned_1 rfl rfl 2 rfl ?_
  refine w_iload_n X 1 dX12_isBanned_2 rfl rfl 3 rfl ?_
  refine w_callVi (fun x => x) (fun _ => mem) X hZ hF [.int x1] 0 ml_0 mo_0 rfl rfl rfl kB_X12_isPawn kL_X12_339 (fun res h => ct_X12_isPawn l hZ fu x1 mem res h) rfl rfl rfl ⟨Nat.le_of_ble_eq_true rfl, Nat.le_of_ble_eq_true rfl⟩ (Nat.le_of_ble_eq_true rfl) ⟨Nat.zero_le _, Nat.zero_le _⟩ dX12_isBanned_3 6 rfl (fun x_1 hF => ?_)
  refine w_iload_n X 2 dX12_isBanned_6 rfl rfl 7 rfl ?_
  refine w_i2l X dX12_isBanned_7 8 rfl ?_
  refine w_lconst X 0 dX12_isBanned_8 rfl 9 rfl ?_
  refine w_ldc2 X 3 kK_X12_357 dX12_isBanned_9 12 rfl ?_
  refine w_callSi (fun x => x) (fun _ => mem) X hZ hF [.long (Int32.toInt64 x2), .long 0, .long 3] rfl kB_X12_isIn kL_X12_106 (fun res h => ct_X12_isIn l hZ fu (Int32.toInt64 x2) 0 3 mem res h) rfl rfl rfl ⟨Nat.le_of_ble_eq_true rfl, Nat.le_of_ble_eq_true rfl⟩ (Nat.le_of_ble_eq_true rfl) ⟨Nat.zero_le _, Nat.zero_le _⟩ dX12_isBanned_12 15 rfl (fun x_2 hF => ?_)
  refine w_callVi (fun x => x.1) (fun x => x.2) X hZ hF [.int x_1, .int x_2] 0 ml_0 mo_0 rfl rfl rfl kB_X12_goesBoth kL_X12_344 (fun res h => ct_X12_goesBoth l hZ fu x_1 x_2 mem res h) rfl rfl rfl ⟨Nat.le_of_ble_eq_true rfl, Nat.le_of_ble_eq_true rfl⟩ (Nat.le_of_ble_eq_true rfl) ⟨Nat.zero_le _, Nat.zero_le _⟩ dX12_isBanned_15 18 rfl (fun p_3 hF => ?_)
  refine w_if_eq X hF 34 21 dX12_isBanned_18 (by decide) rfl (fun hF => ?_) (fun hF => ?_)
  · refine w_iconst X 0 dX12_isBanned_34 rfl 35 rfl ?_
    exact w_iret X hQ (o_inj1 hF) (o_inj2 hF) rfl dX12_isBanned_35
  · refine w_aload_n X 0 dX12_isBanned_21 rfl rfl 22 rfl ?_
    refine w_iload_n X 1 dX12_isBanned_22 rfl rfl 23 rfl ?_
    refine w_iload_n X 2 dX12_isBanned_23 rfl rfl 24 rfl ?_
    refine w_callVi (fun x => x.1) (fun x => x.2) X hZ hF [.int x1, .int x2] 0 ml_0 mo_0 rfl rfl rfl kB_X12_bans kL_X12_376 (fun res h => ct_X12_bans l hZ fu x1 x2 p_3.2 res h) rfl rfl rfl ⟨Nat.le_of_ble_eq_true rfl, Nat.le_of_ble_eq_true rfl⟩ (Nat.le_of_ble_eq_true rfl) ⟨Nat.zero_le _, Nat.zero_le _⟩ dX12_isBanned_24 27 rfl (fun p_4 hF => ?_)
    refine w_if_eq X hF 34 30 dX12_isBanned_27 (by decide) rfl (fun hF => ?_) (fun hF => ?_)
    · refine w_iconst X 0 dX12_isBanned_34 rfl 35 rfl ?_
      exact w_iret X hQ (o_inj1 hF) (o_inj2 hF) rfl dX12_isBanned_35
    · refine w_iconst X 1 dX12_isBanned_30 rfl 31 rfl ?_
      refine w_goto X 35 dX12_isBanned_31 (by decide) ?_
      exact w_iret X hQ (o_inj1 hF) (o_inj2 hF) rfl dX12_isBanned_35

def K_X12_isBlocked (fu : Nat) (x1 : Int32) (x2 : Int32) (x3 : Int32) (mem : Mem) : Option (Int32 × Mem) := bd (K_X12_isCell fu x1 x2 mem) (fun x_1 => bd (K_X12_isIn fu (Int32.toInt64 x3) 0 3 mem) (fun x_2 => bd (K_X12_goesBoth fu x_1 x_2 mem) (fun p_3 => (if p_3.1 = 0 then some (0, p_3.2) else bd (K_X12_blocks fu x1 x2 x3 p_3.2) (fun x_4 => (if x_4 = 0 then some (0, p_3.2) else some (1, p_3.2)))))))
def rm_X12_isBlocked : Room := { frames := 4, cells := 0, slots := 0, locals := 96 }
set_option maxHeartbeats 4000000 in
set_option maxRecDepth 100000 in
theorem ct_X12_isBlocked (l : Launch) {D : va_G} {ca ad : Nat → Nat} {Z : (Nat → Prop) → State → Heap → Prop} (hZ : ZOK Z) (fu : Nat) (x1 : Int32) (x2 : Int32) (x3 : Int32) (mem : Mem) (res : (Int32 × Mem)) (hF : K_X12_isBlocked fu x1 x2 x3 mem = some res) : CI l D (tyL ca) 23 ad (cM ca ad) Z yX12_isBlocked cX12_isBlocked 4 .boolean rm_X12_isBlocked [.ref (ad 0), .int x1, .int x2, .int x3] mem res.1 res.2 := by
  refine start_i (own := RX12) rfl (by decide) (Nat.le_of_ble_eq_true rfl) ?_
  intro p e s m args below meth c Q hQ X
  rw [K_X12_isBlocked] at hF
  revert hF
  intro hF
  refine w_aload_n X 0 dX12_isBlocked_0 rfl rfl 1 rfl ?_
  refine w_aload_n X 0 dX12_isBlocked_1 rfl rfl 2 rfl ?_
  refine w_iload_n X 1 dX12_isBlocked_2 rfl rfl 3 rfl ?_
  refine w_iload_n X 2 dX12_isBlocked_3 rfl rfl 4 rfl ?_
  refine w_callVi (fun x => x) (fun _ => mem) X hZ hF [.int x1, .int x2] 0 ml_0 mo_0 rfl rfl rfl kB_X12_isCell kL_X12_187 (fun res h => ct_X12_isCell l hZ fu x1 x2 mem res h) rfl rfl rfl ⟨Nat.le_of_ble_eq_true rfl, Nat.le_of_ble_eq_true rfl⟩ (Nat.le_of_ble_eq_true rfl) ⟨Nat.zero_le _, Nat.zero_le _⟩ dX12_isBlocked_4 7 rfl (fun x_1 hF => ?_)
  refine w_iload_n X 3 dX12_isBlocked_7 rfl rfl 8 rfl ?_
  refine w_i2l X dX12_isBlocked_8 9 rfl ?_
  refine w_lconst X 0 dX12_isBlocked_9 rfl 10 rfl ?_
  refine w_ldc2 X 3 kK_X12_357 dX12_isBlocked_10 13 rfl ?_
  refine w_callSi (fun x => x) (fun _ => mem) X hZ hF [.long (Int32.toInt64 x3), .long 0, .long 3] rfl kB_X12_isIn kL_X12_106 (fun res h => ct_X12_isIn l hZ fu (Int32.toInt64 x3) 0 3 mem res h) rfl rfl rfl ⟨Nat.le_of_ble_eq_true rfl, Nat.le_of_ble_eq_true rfl⟩ (Nat.le_of_ble_eq_true rfl) ⟨Nat.zero_le _, Nat.zero_le _⟩ dX12_isBlocked_13 16 rfl (fun x_2 hF => ?_)
  refine w_callVi (fun x => x.1) (fun x => x.2) X hZ hF [.int x_1, .int x_2] 0 ml_0 mo_0 rfl rfl rfl kB_X12_goesBoth kL_X12_344 (fun res h => ct_X12_goesBoth l hZ fu x_1 x_2 mem res h) rfl rfl rfl ⟨Nat.le_of_ble_eq_true rfl, Nat.le_of_ble_eq_true rfl⟩ (Nat.le_of_ble_eq_true rfl) ⟨Nat.zero_le _, Nat.zero_le _⟩ dX12_isBlocked_16 19 rfl (fun p_3 hF => ?_)
  refine w_if_eq X hF 36 22 dX12_isBlocked_19 (by decide) rfl (fun hF => ?_) (fun hF => ?_)
  · refine w_iconst X 0 dX12_isBlocked_36 rfl 37 rfl ?_
    exact w_iret X hQ (o_inj1 hF) (o_inj2 hF) rfl dX12_isBlocked_37
  · refine w_aload_n X 0 dX12_isBlocked_22 rfl rfl 23 rfl ?_
    refine w_iload_n X 1 dX12_isBlocked_23 rfl rfl 24 rfl ?_
    refine w_iload_n X 2 dX12_isBlocked_24 rfl rfl 25 rfl ?_
    refine w_iload_n X 3 dX12_isBlocked_25 rfl rfl 26 rfl ?_
    refine w_callVi (fun x => x) (fun _ => p_3.2) X hZ hF [.int x1, .int x2, .int x3] 0 ml_0 mo_0 rfl rfl rfl kB_X12_blocks kL_X12_210 (fun res h => ct_X12_blocks l hZ fu x1 x2 x3 p_3.2 res h) rfl rfl rfl ⟨Nat.le_of_ble_eq_true rfl, Nat.le_of_ble_eq_true rfl⟩ (Nat.le_of_ble_eq_true rfl) ⟨Nat.zero_le _, Nat.zero_le _⟩ dX12_isBlocked_26 29 rfl (fun x_4 hF => ?_)
    refine w_if_eq X hF 36 32 dX12_isBlocked_29 (by decide) rfl (fun hF => ?_) (fun hF => ?_)
    · refine w_iconst X 0 dX12_isBlocked_36 rfl 37 rfl ?_
      exact w_iret X hQ (o_inj1 hF) (o_inj2 hF) rfl dX12_isBlocked_37
    · refine w_iconst X 1 dX12_isBlocked_32 rfl 33 rfl ?_
      refine w_goto X 37 dX12_isBlocked_33 (by decide) ?_
      exact w_iret X hQ (o_inj1 hF) (o_inj2 hF) rfl dX12_isBlocked_37

def K_X12_isGate_23 (fu : Nat) (x1 : Int32) (x2 : Int32) (x3 : Int32) (xs0 : Int32) (mem : Mem) : Option (Int32 × Mem) := bd (K_X12_goes fu xs0 mem) (fun p_3 => (if p_3.1 = 0 then some (0, p_3.2) else bd (K_X12_isGateOf fu x1 x2 x3 p_3.2) (fun p_4 => (if p_4.1 = 0 then some (0, p_4.2) else some (1, p_4.2)))))
def K_X12_isGate_22 (fu : Nat) (x1 : Int32) (x2 : Int32) (x3 : Int32) (mem : Mem) : Option (Int32 × Mem) := (K_X12_isGate_23 fu x1 x2 x3 0 mem)
def K_X12_isGate (fu : Nat) (x1 : Int32) (x2 : Int32) (x3 : Int32) (mem : Mem) : Option (Int32 × Mem) := bd (K_X12_isPawn fu x1 mem) (fun x_1 => (if x_1 = 0 then (K_X12_isGate_22 fu x1 x2 x3 mem) else bd (K_X12_isCell fu x2 x3 mem) (fun x_2 => (if x_2 = 0 then (K_X12_isGate_22 fu x1 x2 x3 mem) else (K_X12_isGate_23 fu x1 x2 x3 1 mem)))))
def rm_X12_isGate : Room := { frames := 7, cells := 0, slots := 0, locals := 167 }
set_option maxHeartbeats 4000000 in
set_option maxRecDepth 100000 in
theorem ct_X12_isGate (l : Launch) {D : va_G} {ca ad : Nat → Nat} {Z : (Nat → Prop) → State → Heap → Prop} (hZ : ZOK Z) (fu : Nat) (x1 : Int32) (x2 : Int32) (x3 : Int32) (mem : Mem) (res : (Int32 × Mem)) (hF : K_X12_isGate fu x1 x2 x3 mem = some res) : CI l D (tyL ca) 23 ad (cM ca ad) Z yX12_isGate cX12_isGate 4 .boolean rm_X12_isGate [.ref (ad 0), .int x1, .int x2, .int x3] mem res.1 res.2 := by
  refine start_i (own := RX12) rfl (by decide) (Nat.le_of_ble_eq_true rfl) ?_
  intro p e s m args below meth c Q hQ X
  rw [K_X12_isGate] at hF
  revert hF
  have w_23 : ∀ (x1 : Int32) (x2 : Int32) (x3 : Int32) (xs0 : Int32) (mem : Mem), K_X12_isGate_23 fu x1 x2 x3 xs0 mem = some res → WW D 23 ad (cM ca ad) p l e rm_X12_isGate s m args below meth c 4 0 0 Q mem 23 [(0, .ref (ad 0)), (1, .int x1), (2, .int x2), (3, .int x3)] [.int xs0, .ref (ad 0)] := by
    intro x1 x2 x3 xs0 mem hF
    rw [K_X12_isGate_23] at hF
    refine w_callVi (fun x => x.1) (fun x => x.2) X hZ hF [.int xs0] 0 ml_0 mo_0 rfl rfl rfl kB_X12_goes kL_X12_98 (fun res h => ct_X12_goes l hZ fu xs0 mem res h) rfl rfl rfl ⟨Nat.le_of_ble_eq_true rfl, Nat.le_of_ble_eq_true rfl⟩ (Nat.le_of_ble_eq_true rfl) ⟨Nat.zero_le _, Nat.zero_le _⟩ dX12_isGate_23 26 rfl (fun p_3 hF => ?_)
    refine w_if_eq X hF 43 29 dX12_isGate_26 (by decide) rfl (fun hF => ?_) (fun hF => ?_)
    · refine w_iconst X 0 dX12_isGate_43 rfl 44 rfl ?_
      exact w_iret X hQ (o_inj1 hF) (o_inj2 hF) rfl dX12_isGate_44
    · refine w_aload_n X 0 dX12_isGate_29 rfl rfl 30 rfl ?_
      refine w_iload_n X 1 dX12_isGate_30 rfl rfl 31 rfl ?_
      refine w_iload_n X 2 dX12_isGate_31 rfl rfl 32 rfl ?_
      refine w_iload_n X 3 dX12_isGate_32 rfl rfl 33 rfl ?_
      refine w_callVi (fun x => x.1) (fun x => x.2) X hZ hF [.int x1, .int x2, .int x3] 0 ml_0 mo_0 rfl rfl rfl kB_X12_isGateOf kL_X12_392 (fun res h => ct_X12_isGateOf l hZ fu x1 x2 x3 p_3.2 res h) rfl rfl rfl ⟨Nat.le_of_ble_eq_true rfl, Nat.le_of_ble_eq_true rfl⟩ (Nat.le_of_ble_eq_true rfl) ⟨Nat.zero_le _, Nat.zero_le _⟩ dX12_isGate_33 36 rfl (fun p_4 hF => ?_)
      refine w_if_eq X hF 43 39 dX12_isGate_36 (by decide) rfl (fun hF => ?_) (fun hF => ?_)
      · refine w_iconst X 0 dX12_isGate_43 rfl 44 rfl ?_
        exact w_iret X hQ (o_inj1 hF) (o_inj2 hF) rfl dX12_isGate_44
      · refine w_iconst X 1 dX12_isGate_39 rfl 40 rfl ?_
        refine w_goto X 44 dX12_isGate_40 (by decide) ?_
        exact w_iret X hQ (o_inj1 hF) (o_inj2 hF) rfl dX12_isGate_44
  have w_22 : ∀ (x1 : Int32) (x2 : Int32) (x3 : Int32) (mem : Mem), K_X12_isGate_22 fu x1 x2 x3 mem = some res → WW D 23 ad (cM ca ad) p l e rm_X12_isGate s m args below meth c 4 0 0 Q mem 22 [(0, .ref (ad 0)), (1, .int x1), (2, .int x2), (3, .int x3)] [.ref (ad 0)] := by
    intro x1 x2 x3 mem hF
    rw [K_X12_isGate_22] at hF
    refine w_iconst X 0 dX12_isGate_22 rfl 23 rfl ?_
    refine w_keep [0, 1, 2, 3] rfl ?_
    exact w_23 x1 x2 x3 0 mem hF
  intro hF
  refine w_aload_n X 0 dX12_isGate_0 rfl rfl 1 rfl ?_
  refine w_aload_n X 0 dX12_isGate_1 rfl rfl 2 rfl ?_
  refine w_iload_n X 1 dX12_isGate_2 rfl rfl 3 rfl ?_
  refine w_callVi (fun x => x) (fun _ => mem) X hZ hF [.int x1] 0 ml_0 mo_0 rfl rfl rfl kB_X12_isPawn kL_X12_339 (fun res h => ct_X12_isPawn l hZ fu x1 mem res h) rfl rfl rfl ⟨Nat.le_of_ble_eq_true rfl, Nat.le_of_ble_eq_true rfl⟩ (Nat.le_of_ble_eq_true rfl) ⟨Nat.zero_le _, Nat.zero_le _⟩ dX12_isGate_3 6 rfl (fun x_1 hF => ?_)
  refine w_if_eq X hF 22 9 dX12_isGate_6 (by decide) rfl (fun hF => ?_) (fun hF => ?_)
  · refine w_keep [0, 1, 2, 3] rfl ?_
    exact w_22 x1 x2 x3 mem hF
  · refine w_aload_n X 0 dX12_isGate_9 rfl rfl 10 rfl ?_
    refine w_iload_n X 2 dX12_isGate_10 rfl rfl 11 rfl ?_
    refine w_iload_n X 3 dX12_isGate_11 rfl rfl 12 rfl ?_
    refine w_callVi (fun x => x) (fun _ => mem) X hZ hF [.int x2, .int x3] 0 ml_0 mo_0 rfl rfl rfl kB_X12_isCell kL_X12_187 (fun res h => ct_X12_isCell l hZ fu x2 x3 mem res h) rfl rfl rfl ⟨Nat.le_of_ble_eq_true rfl, Nat.le_of_ble_eq_true rfl⟩ (Nat.le_of_ble_eq_true rfl) ⟨Nat.zero_le _, Nat.zero_le _⟩ dX12_isGate_12 15 rfl (fun x_2 hF => ?_)
    refine w_if_eq X hF 22 18 dX12_isGate_15 (by decide) rfl (fun hF => ?_) (fun hF => ?_)
    · refine w_keep [0, 1, 2, 3] rfl ?_
      exact w_22 x1 x2 x3 mem hF
    · refine w_iconst X 1 dX12_isGate_18 rfl 19 rfl ?_
      refine w_goto X 23 dX12_isGate_19 (by decide) ?_
      refine w_keep [0, 1, 2, 3] rfl ?_
      exact w_23 x1 x2 x3 1 mem hF
end Km3
