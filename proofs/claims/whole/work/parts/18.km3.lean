section Km3
def K_X12_thinks_2 (fu : Nat) : Nat → Int32 → Mem → Option Mem
  | 0, _, _ => none
  | n + 1, x1, mem => (if x1 < 184 then gi x1 184 (gi x1 184 (lt_ (mw mem 6 (Int32.toNatClampNeg x1) (rd mem 2 (Int32.toNatClampNeg x1))) (fun m_3 => (K_X12_thinks_2 fu n (x1 + 1) m_3)))) else some mem)
def K_X12_thinks (fu : Nat) (mem : Mem) : Option Mem := (K_X12_thinks_2 fu fu 0 mem)
def rm_X12_thinks : Room := { frames := 0, cells := 0, slots := 0, locals := 0 }
set_option maxHeartbeats 4000000 in
set_option maxRecDepth 100000 in
theorem ct_X12_thinks (l : Launch) {D : va_G} {ca ad : Nat → Nat} {Z : (Nat → Prop) → State → Heap → Prop} (hZ : ZOK Z) (fu : Nat) (mem : Mem) (res : Mem) (hF : K_X12_thinks fu mem = some res) : CV l D (tyL ca) 23 ad (cM ca ad) Z yX12_thinks cX12_thinks 2 rm_X12_thinks [.ref (ad 0)] mem res := by
  refine start_v (own := RX12) rfl (by decide) (Nat.le_of_ble_eq_true rfl) ?_
  intro p e s m args below meth c Q hQ X
  rw [K_X12_thinks] at hF
  revert hF
  have w_2 : ∀ (n : Nat) (x1 : Int32) (mem : Mem), K_X12_thinks_2 fu n x1 mem = some res → WW D 23 ad (cM ca ad) p l e rm_X12_thinks s m args below meth c 2 0 0 Q mem 2 [(0, .ref (ad 0)), (1, .int x1)] [] := by
    intro n
    induction n with
    | zero => intro x1 mem hF; exact no_none (show (none : Option Mem) = some res from hF)
    | succ n ih =>
      intro x1 mem hF
      rw [K_X12_thinks_2] at hF
      refine w_iload_n X 1 dX12_thinks_2 rfl rfl 3 rfl ?_
      refine w_sipush X 184 dX12_thinks_3 rfl 6 rfl ?_
      refine w_icmp_ge X hF 27 9 dX12_thinks_6 (by decide) rfl (fun hF => ?_) (fun hF => ?_)
      · refine w_aload_n X 0 dX12_thinks_9 rfl rfl 10 rfl ?_
        refine w_getV (v := .ref (ad 6)) X 0 ml_0 mo_0 (T := TX12) (N := 50) rfl in_X12 17 (by decide) kF_X12_32 rfl rfl dX12_thinks_10 13 rfl ?_
        refine w_iload_n X 1 dX12_thinks_13 rfl rfl 14 rfl ?_
        refine w_aload_n X 0 dX12_thinks_14 rfl rfl 15 rfl ?_
        refine w_getV (v := .ref (ad 2)) X 0 ml_0 mo_0 (T := TX12) (N := 50) rfl in_X12 13 (by decide) kF_X12_20 rfl rfl dX12_thinks_15 18 rfl ?_
        refine w_iload_n X 1 dX12_thinks_18 rfl rfl 19 rfl ?_
        refine w_gi hF (fun h_1 hF => ?_)
        refine w_ial X 2 ml_2 mo_2 (t0 := 0) rfl h_1 dX12_thinks_19 20 rfl ?_
        refine w_gi hF (fun h_2 hF => ?_)
        refine w_ias X 6 ml_6 mo_6 (t0 := 0) rfl h_2 dX12_thinks_20 21 rfl ?_
        refine w_letm hF (fun m_3 hF => ?_)
        refine w_iinc X 1 (x1 + 1) [(1, .int (x1 + 1)), (0, .ref (ad 0))] dX12_thinks_21 rfl rfl (by decide) rfl 24 rfl ?_
        refine w_goto X 2 dX12_thinks_24 (by decide) ?_
        refine w_keep [1, 0] rfl ?_
        exact ih (x1 + 1) m_3 hF
      · exact w_vret X hQ (o_inj hF) dX12_thinks_27
  intro hF
  refine w_iconst X 0 dX12_thinks_0 rfl 1 rfl ?_
  refine w_istore_n X [(1, .int 0), (0, .ref (ad 0))] dX12_thinks_1 rfl (by decide) rfl 2 rfl ?_
  refine w_keep [1, 0] rfl ?_
  exact w_2 fu 0 mem hF

def K_X12_thinksNoMore_2 (fu : Nat) : Nat → Int32 → Mem → Option Mem
  | 0, _, _ => none
  | n + 1, x1, mem => (if x1 < 184 then gi x1 184 (gi x1 184 (lt_ (mw mem 2 (Int32.toNatClampNeg x1) (rd mem 6 (Int32.toNatClampNeg x1))) (fun m_3 => (K_X12_thinksNoMore_2 fu n (x1 + 1) m_3)))) else some mem)
def K_X12_thinksNoMore (fu : Nat) (mem : Mem) : Option Mem := (K_X12_thinksNoMore_2 fu fu 0 mem)
def rm_X12_thinksNoMore : Room := { frames := 0, cells := 0, slots := 0, locals := 0 }
set_option maxHeartbeats 4000000 in
set_option maxRecDepth 100000 in
theorem ct_X12_thinksNoMore (l : Launch) {D : va_G} {ca ad : Nat → Nat} {Z : (Nat → Prop) → State → Heap → Prop} (hZ : ZOK Z) (fu : Nat) (mem : Mem) (res : Mem) (hF : K_X12_thinksNoMore fu mem = some res) : CV l D (tyL ca) 23 ad (cM ca ad) Z yX12_thinksNoMore cX12_thinksNoMore 2 rm_X12_thinksNoMore [.ref (ad 0)] mem res := by
  refine start_v (own := RX12) rfl (by decide) (Nat.le_of_ble_eq_true rfl) ?_
  intro p e s m args below meth c Q hQ X
  rw [K_X12_thinksNoMore] at hF
  revert hF
  have w_2 : ∀ (n : Nat) (x1 : Int32) (mem : Mem), K_X12_thinksNoMore_2 fu n x1 mem = some res → WW D 23 ad (cM ca ad) p l e rm_X12_thinksNoMore s m args below meth c 2 0 0 Q mem 2 [(0, .ref (ad 0)), (1, .int x1)] [] := by
    intro n
    induction n with
    | zero => intro x1 mem hF; exact no_none (show (none : Option Mem) = some res from hF)
    | succ n ih =>
      intro x1 mem hF
      rw [K_X12_thinksNoMore_2] at hF
      refine w_iload_n X 1 dX12_thinksNoMore_2 rfl rfl 3 rfl ?_
      refine w_sipush X 184 dX12_thinksNoMore_3 rfl 6 rfl ?_
      refine w_icmp_ge X hF 27 9 dX12_thinksNoMore_6 (by decide) rfl (fun hF => ?_) (fun hF => ?_)
      · refine w_aload_n X 0 dX12_thinksNoMore_9 rfl rfl 10 rfl ?_
        refine w_getV (v := .ref (ad 2)) X 0 ml_0 mo_0 (T := TX12) (N := 50) rfl in_X12 13 (by decide) kF_X12_20 rfl rfl dX12_thinksNoMore_10 13 rfl ?_
        refine w_iload_n X 1 dX12_thinksNoMore_13 rfl rfl 14 rfl ?_
        refine w_aload_n X 0 dX12_thinksNoMore_14 rfl rfl 15 rfl ?_
        refine w_getV (v := .ref (ad 6)) X 0 ml_0 mo_0 (T := TX12) (N := 50) rfl in_X12 17 (by decide) kF_X12_32 rfl rfl dX12_thinksNoMore_15 18 rfl ?_
        refine w_iload_n X 1 dX12_thinksNoMore_18 rfl rfl 19 rfl ?_
        refine w_gi hF (fun h_1 hF => ?_)
        refine w_ial X 6 ml_6 mo_6 (t0 := 0) rfl h_1 dX12_thinksNoMore_19 20 rfl ?_
        refine w_gi hF (fun h_2 hF => ?_)
        refine w_ias X 2 ml_2 mo_2 (t0 := 0) rfl h_2 dX12_thinksNoMore_20 21 rfl ?_
        refine w_letm hF (fun m_3 hF => ?_)
        refine w_iinc X 1 (x1 + 1) [(1, .int (x1 + 1)), (0, .ref (ad 0))] dX12_thinksNoMore_21 rfl rfl (by decide) rfl 24 rfl ?_
        refine w_goto X 2 dX12_thinksNoMore_24 (by decide) ?_
        refine w_keep [1, 0] rfl ?_
        exact ih (x1 + 1) m_3 hF
      · exact w_vret X hQ (o_inj hF) dX12_thinksNoMore_27
  intro hF
  refine w_iconst X 0 dX12_thinksNoMore_0 rfl 1 rfl ?_
  refine w_istore_n X [(1, .int 0), (0, .ref (ad 0))] dX12_thinksNoMore_1 rfl (by decide) rfl 2 rfl ?_
  refine w_keep [1, 0] rfl ?_
  exact w_2 fu 0 mem hF

def K_X12_foreseen_33 (fu : Nat) (x1 : Int32) (x2 : Int32) (x3 : Int32) (xs0 : Int32) (xs1 : Int32) (mem : Mem) : Option (Int32 × Mem) := bd (K_X12_goesBoth fu xs1 xs0 mem) (fun p_4 => (if p_4.1 = 0 then some (0, p_4.2) else bd (K_X12_thinks fu p_4.2) (fun m_5 => bd (K_X12_plays fu x1 x2 m_5) (fun p_6 => lt_ p_6.1 (fun x_7 => bd (K_X12_of fu x3 6 p_6.2) (fun x_8 => bd (K_X12_thinksNoMore fu p_6.2) (fun m_9 => (if x_7 < 0 then some ((-1), m_9) else some (x_8, m_9)))))))))
def K_X12_foreseen_32 (fu : Nat) (x1 : Int32) (x2 : Int32) (x3 : Int32) (xs0 : Int32) (mem : Mem) : Option (Int32 × Mem) := (K_X12_foreseen_33 fu x1 x2 x3 0 xs0 mem)
def K_X12_foreseen (fu : Nat) (x1 : Int32) (x2 : Int32) (x3 : Int32) (mem : Mem) : Option (Int32 × Mem) := bd (K_X12_isPawn fu x3 mem) (fun x_1 => bd (K_X12_isIn fu (Int32.toInt64 x1) 0 1 mem) (fun x_2 => (if x_2 = 0 then (K_X12_foreseen_32 fu x1 x2 x3 x_1 mem) else bd (K_X12_isIn fu (Int32.toInt64 x2) 1 99 mem) (fun x_3 => (if x_3 = 0 then (K_X12_foreseen_32 fu x1 x2 x3 x_1 mem) else (K_X12_foreseen_33 fu x1 x2 x3 1 x_1 mem))))))
def rm_X12_foreseen : Room := { frames := 12, cells := 0, slots := 0, locals := 283 }
set_option maxHeartbeats 4000000 in
set_option maxRecDepth 100000 in
theorem ct_X12_foreseen (l : Launch) {D : va_G} {ca ad : Nat → Nat} {Z : (Nat → Prop) → State → Heap → Prop} (hZ : ZOK Z) (fu : Nat) (x1 : Int32) (x2 : Int32) (x3 : Int32) (mem : Mem) (res : (Int32 × Mem)) (hF : K_X12_foreseen fu x1 x2 x3 mem = some res) : CI l D (tyL ca) 23 ad (cM ca ad) Z yX12_foreseen cX12_foreseen 6 .int rm_X12_foreseen [.ref (ad 0), .int x1, .int x2, .int x3] mem res.1 res.2 := by
  refine start_i (own := RX12) rfl (by decide) (Nat.le_of_ble_eq_true rfl) ?_
  intro p e s m args below meth c Q hQ X
  rw [K_X12_foreseen] at hF
  revert hF
  have w_33 : ∀ (x1 : Int32) (x2 : Int32) (x3 : Int32) (xs0 : Int32) (xs1 : Int32) (mem : Mem), K_X12_foreseen_33 fu x1 x2 x3 xs0 xs1 mem = some res → WW D 23 ad (cM ca ad) p l e rm_X12_foreseen s m args below meth c 6 0 0 Q mem 33 [(0, .ref (ad 0)), (1, .int x1), (2, .int x2), (3, .int x3)] [.int xs0, .int xs1, .ref (ad 0)] := by
    intro x1 x2 x3 xs0 xs1 mem hF
    rw [K_X12_foreseen_33] at hF
    refine w_callVi (fun x => x.1) (fun x => x.2) X hZ hF [.int xs1, .int xs0] 0 ml_0 mo_0 rfl rfl rfl kB_X12_goesBoth kL_X12_344 (fun res h => ct_X12_goesBoth l hZ fu xs1 xs0 mem res h) rfl rfl rfl ⟨Nat.le_of_ble_eq_true rfl, Nat.le_of_ble_eq_true rfl⟩ (Nat.le_of_ble_eq_true rfl) ⟨Nat.zero_le _, Nat.zero_le _⟩ dX12_foreseen_33 36 rfl (fun p_4 hF => ?_)
    refine w_if_ne X hF 41 39 dX12_foreseen_36 (by decide) rfl (fun hF => ?_) (fun hF => ?_)
    · refine w_iconst X 0 dX12_foreseen_39 rfl 40 rfl ?_
      exact w_iret X hQ (o_inj1 hF) (o_inj2 hF) rfl dX12_foreseen_40
    · refine w_aload_n X 0 dX12_foreseen_41 rfl rfl 42 rfl ?_
      refine w_callVv (fun m => m) X hZ hF [] 0 ml_0 mo_0 rfl rfl rfl kB_X12_thinks kL_X12_435 (fun res h => ct_X12_thinks l hZ fu p_4.2 res h) rfl rfl rfl ⟨Nat.le_of_ble_eq_true rfl, Nat.le_of_ble_eq_true rfl⟩ (Nat.le_of_ble_eq_true rfl) ⟨Nat.zero_le _, Nat.zero_le _⟩ dX12_foreseen_42 45 rfl (fun m_5 hF => ?_)
      refine w_aload_n X 0 dX12_foreseen_45 rfl rfl 46 rfl ?_
      refine w_iload_n X 1 dX12_foreseen_46 rfl rfl 47 rfl ?_
      refine w_iload_n X 2 dX12_foreseen_47 rfl rfl 48 rfl ?_
      refine w_callVi (fun x => x.1) (fun x => x.2) X hZ hF [.int x1, .int x2] 0 ml_0 mo_0 rfl rfl rfl kB_X12_plays kL_X12_438 (fun res h => ct_X12_plays l hZ fu x1 x2 m_5 res h) rfl rfl rfl ⟨Nat.le_of_ble_eq_true rfl, Nat.le_of_ble_eq_true rfl⟩ (Nat.le_of_ble_eq_true rfl) ⟨Nat.zero_le _, Nat.zero_le _⟩ dX12_foreseen_48 51 rfl (fun p_6 hF => ?_)
      refine w_let hF (fun x_7 hF => ?_)
      refine w_istore X [(4, .int x_7), (0, .ref (ad 0)), (1, .int x1), (2, .int x2), (3, .int x3)] dX12_foreseen_51 (by decide) rfl 53 rfl ?_
      refine w_aload_n X 1 dX12_foreseen_53 rfl rfl 54 rfl ?_
      refine w_iload_n X 4 dX12_foreseen_54 rfl rfl 55 rfl ?_
      refine w_bipush X 6 dX12_foreseen_55 rfl 57 rfl ?_
      refine w_callVi (fun x => x) (fun _ => p_6.2) X hZ hF [.int x3, .int 6] 0 ml_0 mo_0 rfl rfl rfl kB_X12_of kL_X12_174 (fun res h => ct_X12_of l hZ fu x3 6 p_6.2 res h) rfl rfl rfl ⟨Nat.le_of_ble_eq_true rfl, Nat.le_of_ble_eq_true rfl⟩ (Nat.le_of_ble_eq_true rfl) ⟨Nat.zero_le _, Nat.zero_le _⟩ dX12_foreseen_57 60 rfl (fun x_8 hF => ?_)
      refine w_istore X [(5, .int x_8), (4, .int x_7), (0, .ref (ad 0)), (1, .int x1), (2, .int x2), (3, .int x3)] dX12_foreseen_60 (by decide) rfl 62 rfl ?_
      refine w_aload_n X 2 dX12_foreseen_62 rfl rfl 63 rfl ?_
      refine w_callVv (fun m => m) X hZ hF [] 0 ml_0 mo_0 rfl rfl rfl kB_X12_thinksNoMore kL_X12_441 (fun res h => ct_X12_thinksNoMore l hZ fu p_6.2 res h) rfl rfl rfl ⟨Nat.le_of_ble_eq_true rfl, Nat.le_of_ble_eq_true rfl⟩ (Nat.le_of_ble_eq_true rfl) ⟨Nat.zero_le _, Nat.zero_le _⟩ dX12_foreseen_63 66 rfl (fun m_9 hF => ?_)
      refine w_iload X 1 dX12_foreseen_66 rfl 68 rfl ?_
      refine w_if_ge X hF 75 71 dX12_foreseen_68 (by decide) rfl (fun hF => ?_) (fun hF => ?_)
      · refine w_iconst X (-1) dX12_foreseen_71 rfl 72 rfl ?_
        refine w_goto X 77 dX12_foreseen_72 (by decide) ?_
        exact w_iret X hQ (o_inj1 hF) (o_inj2 hF) rfl dX12_foreseen_77
      · refine w_iload X 0 dX12_foreseen_75 rfl 77 rfl ?_
        exact w_iret X hQ (o_inj1 hF) (o_inj2 hF) rfl dX12_foreseen_77
  have w_32 : ∀ (x1 : Int32) (x2 : Int32) (x3 : Int32) (xs0 : Int32) (mem : Mem), K_X12_foreseen_32 fu x1 x2 x3 xs0 mem = some res → WW D 23 ad (cM ca ad) p l e rm_X12_foreseen s m args below meth c 6 0 0 Q mem 32 [(0, .ref (ad 0)), (1, .int x1), (2, .int x2), (3, .int x3)] [.int xs0, .ref (ad 0)] := by
    intro x1 x2 x3 xs0 mem hF
    rw [K_X12_foreseen_32] at hF
    refine w_iconst X 0 dX12_foreseen_32 rfl 33 rfl ?_
    refine w_keep [0, 1, 2, 3] rfl ?_
    exact w_33 x1 x2 x3 0 xs0 mem hF
  intro hF
  refine w_aload_n X 0 dX12_foreseen_0 rfl rfl 1 rfl ?_
  refine w_aload_n X 0 dX12_foreseen_1 rfl rfl 2 rfl ?_
  refine w_iload_n X 3 dX12_foreseen_2 rfl rfl 3 rfl ?_
  refine w_callVi (fun x => x) (fun _ => mem) X hZ hF [.int x3] 0 ml_0 mo_0 rfl rfl rfl kB_X12_isPawn kL_X12_339 (fun res h => ct_X12_isPawn l hZ fu x3 mem res h) rfl rfl rfl ⟨Nat.le_of_ble_eq_true rfl, Nat.le_of_ble_eq_true rfl⟩ (Nat.le_of_ble_eq_true rfl) ⟨Nat.zero_le _, Nat.zero_le _⟩ dX12_foreseen_3 6 rfl (fun x_1 hF => ?_)
  refine w_iload_n X 1 dX12_foreseen_6 rfl rfl 7 rfl ?_
  refine w_i2l X dX12_foreseen_7 8 rfl ?_
  refine w_lconst X 0 dX12_foreseen_8 rfl 9 rfl ?_
  refine w_lconst X 1 dX12_foreseen_9 rfl 10 rfl ?_
  refine w_callSi (fun x => x) (fun _ => mem) X hZ hF [.long (Int32.toInt64 x1), .long 0, .long 1] rfl kB_X12_isIn kL_X12_106 (fun res h => ct_X12_isIn l hZ fu (Int32.toInt64 x1) 0 1 mem res h) rfl rfl rfl ⟨Nat.le_of_ble_eq_true rfl, Nat.le_of_ble_eq_true rfl⟩ (Nat.le_of_ble_eq_true rfl) ⟨Nat.zero_le _, Nat.zero_le _⟩ dX12_foreseen_10 13 rfl (fun x_2 hF => ?_)
  refine w_if_eq X hF 32 16 dX12_foreseen_13 (by decide) rfl (fun hF => ?_) (fun hF => ?_)
  · refine w_keep [0, 1, 2, 3] rfl ?_
    exact w_32 x1 x2 x3 x_1 mem hF
  · refine w_iload_n X 2 dX12_foreseen_16 rfl rfl 17 rfl ?_
    refine w_i2l X dX12_foreseen_17 18 rfl ?_
    refine w_lconst X 1 dX12_foreseen_18 rfl 19 rfl ?_
    refine w_ldc2 X 99 kK_X12_433 dX12_foreseen_19 22 rfl ?_
    refine w_callSi (fun x => x) (fun _ => mem) X hZ hF [.long (Int32.toInt64 x2), .long 1, .long 99] rfl kB_X12_isIn kL_X12_106 (fun res h => ct_X12_isIn l hZ fu (Int32.toInt64 x2) 1 99 mem res h) rfl rfl rfl ⟨Nat.le_of_ble_eq_true rfl, Nat.le_of_ble_eq_true rfl⟩ (Nat.le_of_ble_eq_true rfl) ⟨Nat.zero_le _, Nat.zero_le _⟩ dX12_foreseen_22 25 rfl (fun x_3 hF => ?_)
    refine w_if_eq X hF 32 28 dX12_foreseen_25 (by decide) rfl (fun hF => ?_) (fun hF => ?_)
    · refine w_keep [0, 1, 2, 3] rfl ?_
      exact w_32 x1 x2 x3 x_1 mem hF
    · refine w_iconst X 1 dX12_foreseen_28 rfl 29 rfl ?_
      refine w_goto X 33 dX12_foreseen_29 (by decide) ?_
      refine w_keep [0, 1, 2, 3] rfl ?_
      exact w_33 x1 x2 x3 1 x_1 mem hF

def K_X12_gain (fu : Nat) (x1 : Int32) (mem : Mem) : Option (Int32 × Mem) := bd (K_X12_isPawn fu x1 mem) (fun x_1 => bd (K_X12_goes fu x_1 mem) (fun p_2 => (if p_2.1 = 0 then some (0, p_2.2) else bd (K_X12_seeks fu x1 p_2.2) (fun p_3 => (if p_3.1 = (-1) then some ((-1), p_3.2) else bd (K_X12_distanceOf fu x1 p_3.2) (fun p_4 => some (((rd p_3.2 0 36) - p_4.1), p_4.2)))))))
def rm_X12_gain : Room := { frames := 10, cells := 0, slots := 0, locals := 236 }
set_option maxHeartbeats 4000000 in
set_option maxRecDepth 100000 in
theorem ct_X12_gain (l : Launch) {D : va_G} {ca ad : Nat → Nat} {Z : (Nat → Prop) → State → Heap → Prop} (hZ : ZOK Z) (fu : Nat) (x1 : Int32) (mem : Mem) (res : (Int32 × Mem)) (hF : K_X12_gain fu x1 mem = some res) : CI l D (tyL ca) 23 ad (cM ca ad) Z yX12_gain cX12_gain 2 .int rm_X12_gain [.ref (ad 0), .int x1] mem res.1 res.2 := by
  refine start_i (own := RX12) rfl (by decide) (Nat.le_of_ble_eq_true rfl) ?_
  intro p e s m args below meth c Q hQ X
  rw [K_X12_gain] at hF
  revert hF
  intro hF
  refine w_aload_n X 0 dX12_gain_0 rfl rfl 1 rfl ?_
  refine w_aload_n X 0 dX12_gain_1 rfl rfl 2 rfl ?_
  refine w_iload_n X 1 dX12_gain_2 rfl rfl 3 rfl ?_
  refine w_callVi (fun x => x) (fun _ => mem) X hZ hF [.int x1] 0 ml_0 mo_0 rfl rfl rfl kB_X12_isPawn kL_X12_339 (fun res h => ct_X12_isPawn l hZ fu x1 mem res h) rfl rfl rfl ⟨Nat.le_of_ble_eq_true rfl, Nat.le_of_ble_eq_true rfl⟩ (Nat.le_of_ble_eq_true rfl) ⟨Nat.zero_le _, Nat.zero_le _⟩ dX12_gain_3 6 rfl (fun x_1 hF => ?_)
  refine w_callVi (fun x => x.1) (fun x => x.2) X hZ hF [.int x_1] 0 ml_0 mo_0 rfl rfl rfl kB_X12_goes kL_X12_98 (fun res h => ct_X12_goes l hZ fu x_1 mem res h) rfl rfl rfl ⟨Nat.le_of_ble_eq_true rfl, Nat.le_of_ble_eq_true rfl⟩ (Nat.le_of_ble_eq_true rfl) ⟨Nat.zero_le _, Nat.zero_le _⟩ dX12_gain_6 9 rfl (fun p_2 hF => ?_)
  refine w_if_ne X hF 14 12 dX12_gain_9 (by decide) rfl (fun hF => ?_) (fun hF => ?_)
  · refine w_iconst X 0 dX12_gain_12 rfl 13 rfl ?_
    exact w_iret X hQ (o_inj1 hF) (o_inj2 hF) rfl dX12_gain_13
  · refine w_aload_n X 0 dX12_gain_14 rfl rfl 15 rfl ?_
    refine w_iload_n X 1 dX12_gain_15 rfl rfl 16 rfl ?_
    refine w_callVi (fun x => x.1) (fun x => x.2) X hZ hF [.int x1] 0 ml_0 mo_0 rfl rfl rfl kB_X12_seeks kL_X12_430 (fun res h => ct_X12_seeks l hZ fu x1 p_2.2 res h) rfl rfl rfl ⟨Nat.le_of_ble_eq_true rfl, Nat.le_of_ble_eq_true rfl⟩ (Nat.le_of_ble_eq_true rfl) ⟨Nat.zero_le _, Nat.zero_le _⟩ dX12_gain_16 19 rfl (fun p_3 hF => ?_)
    refine w_iconst X (-1) dX12_gain_19 rfl 20 rfl ?_
    refine w_icmp_ne X hF 27 23 dX12_gain_20 (by decide) rfl (fun hF => ?_) (fun hF => ?_)
    · refine w_iconst X (-1) dX12_gain_23 rfl 24 rfl ?_
      refine w_goto X 37 dX12_gain_24 (by decide) ?_
      exact w_iret X hQ (o_inj1 hF) (o_inj2 hF) rfl dX12_gain_37
    · refine w_aload_n X 0 dX12_gain_27 rfl rfl 28 rfl ?_
      refine w_getV (v := .int (rd p_3.2 0 36)) X 0 ml_0 mo_0 (T := TX12) (N := 50) rfl in_X12 36 (by decide) kF_X12_423 rfl rfl dX12_gain_28 31 rfl ?_
      refine w_aload_n X 0 dX12_gain_31 rfl rfl 32 rfl ?_
      refine w_iload_n X 1 dX12_gain_32 rfl rfl 33 rfl ?_
      refine w_callVi (fun x => x.1) (fun x => x.2) X hZ hF [.int x1] 0 ml_0 mo_0 rfl rfl rfl kB_X12_distanceOf kL_X12_222 (fun res h => ct_X12_distanceOf l hZ fu x1 p_3.2 res h) rfl rfl rfl ⟨Nat.le_of_ble_eq_true rfl, Nat.le_of_ble_eq_true rfl⟩ (Nat.le_of_ble_eq_true rfl) ⟨Nat.zero_le _, Nat.zero_le _⟩ dX12_gain_33 36 rfl (fun p_4 hF => ?_)
      refine w_isub X dX12_gain_36 37 rfl ?_
      exact w_iret X hQ (o_inj1 hF) (o_inj2 hF) rfl dX12_gain_37

def K_X12_isGateOf (fu : Nat) (x1 : Int32) (x2 : Int32) (x3 : Int32) (mem : Mem) : Option (Int32 × Mem) := bd (K_X12_hasFinished fu x1 mem) (fun x_1 => (if x_1 = 0 then bd (K_X12_cellOf fu x1 mem) (fun x_2 => (if ((9 * x3) + x2) = x_2 then some (0, mem) else bd (K_X12_comesWithout fu x1 ((9 * x3) + x2) mem) (fun p_3 => (if p_3.1 = 0 then some (1, p_3.2) else some (0, p_3.2))))) else some (0, mem)))
def rm_X12_isGateOf : Room := { frames := 6, cells := 0, slots := 0, locals := 144 }
set_option maxHeartbeats 4000000 in
set_option maxRecDepth 100000 in
theorem ct_X12_isGateOf (l : Launch) {D : va_G} {ca ad : Nat → Nat} {Z : (Nat → Prop) → State → Heap → Prop} (hZ : ZOK Z) (fu : Nat) (x1 : Int32) (x2 : Int32) (x3 : Int32) (mem : Mem) (res : (Int32 × Mem)) (hF : K_X12_isGateOf fu x1 x2 x3 mem = some res) : CI l D (tyL ca) 23 ad (cM ca ad) Z yX12_isGateOf cX12_isGateOf 4 .boolean rm_X12_isGateOf [.ref (ad 0), .int x1, .int x2, .int x3] mem res.1 res.2 := by
  refine start_i (own := RX12) rfl (by decide) (Nat.le_of_ble_eq_true rfl) ?_
  intro p e s m args below meth c Q hQ X
  rw [K_X12_isGateOf] at hF
  revert hF
  intro hF
  refine w_aload_n X 0 dX12_isGateOf_0 rfl rfl 1 rfl ?_
  refine w_iload_n X 1 dX12_isGateOf_1 rfl rfl 2 rfl ?_
  refine w_callVi (fun x => x) (fun _ => mem) X hZ hF [.int x1] 0 ml_0 mo_0 rfl rfl rfl kB_X12_hasFinished kL_X12_213 (fun res h => ct_X12_hasFinished l hZ fu x1 mem res h) rfl rfl rfl ⟨Nat.le_of_ble_eq_true rfl, Nat.le_of_ble_eq_true rfl⟩ (Nat.le_of_ble_eq_true rfl) ⟨Nat.zero_le _, Nat.zero_le _⟩ dX12_isGateOf_2 5 rfl (fun x_1 hF => ?_)
  refine w_if_ne X hF 40 8 dX12_isGateOf_5 (by decide) rfl (fun hF => ?_) (fun hF => ?_)
  · refine w_bipush X 9 dX12_isGateOf_8 rfl 10 rfl ?_
    refine w_iload_n X 3 dX12_isGateOf_10 rfl rfl 11 rfl ?_
    refine w_imul X dX12_isGateOf_11 12 rfl ?_
    refine w_iload_n X 2 dX12_isGateOf_12 rfl rfl 13 rfl ?_
    refine w_iadd X dX12_isGateOf_13 14 rfl ?_
    refine w_aload_n X 0 dX12_isGateOf_14 rfl rfl 15 rfl ?_
    refine w_iload_n X 1 dX12_isGateOf_15 rfl rfl 16 rfl ?_
    refine w_callVi (fun x => x) (fun _ => mem) X hZ hF [.int x1] 0 ml_0 mo_0 rfl rfl rfl kB_X12_cellOf kL_X12_219 (fun res h => ct_X12_cellOf l hZ fu x1 mem res h) rfl rfl rfl ⟨Nat.le_of_ble_eq_true rfl, Nat.le_of_ble_eq_true rfl⟩ (Nat.le_of_ble_eq_true rfl) ⟨Nat.zero_le _, Nat.zero_le _⟩ dX12_isGateOf_16 19 rfl (fun x_2 hF => ?_)
    refine w_icmp_eq X hF 40 22 dX12_isGateOf_19 (by decide) rfl (fun hF => ?_) (fun hF => ?_)
    · refine w_iconst X 0 dX12_isGateOf_40 rfl 41 rfl ?_
      exact w_iret X hQ (o_inj1 hF) (o_inj2 hF) rfl dX12_isGateOf_41
    · refine w_aload_n X 0 dX12_isGateOf_22 rfl rfl 23 rfl ?_
      refine w_iload_n X 1 dX12_isGateOf_23 rfl rfl 24 rfl ?_
      refine w_bipush X 9 dX12_isGateOf_24 rfl 26 rfl ?_
      refine w_iload_n X 3 dX12_isGateOf_26 rfl rfl 27 rfl ?_
      refine w_imul X dX12_isGateOf_27 28 rfl ?_
      refine w_iload_n X 2 dX12_isGateOf_28 rfl rfl 29 rfl ?_
      refine w_iadd X dX12_isGateOf_29 30 rfl ?_
      refine w_callVi (fun x => x.1) (fun x => x.2) X hZ hF [.int x1, .int ((9 * x3) + x2)] 0 ml_0 mo_0 rfl rfl rfl kB_X12_comesWithout kL_X12_389 (fun res h => ct_X12_comesWithout l hZ fu x1 ((9 * x3) + x2) mem res h) rfl rfl rfl ⟨Nat.le_of_ble_eq_true rfl, Nat.le_of_ble_eq_true rfl⟩ (Nat.le_of_ble_eq_true rfl) ⟨Nat.zero_le _, Nat.zero_le _⟩ dX12_isGateOf_30 33 rfl (fun p_3 hF => ?_)
      refine w_if_ne X hF 40 36 dX12_isGateOf_33 (by decide) rfl (fun hF => ?_) (fun hF => ?_)
      · refine w_iconst X 1 dX12_isGateOf_36 rfl 37 rfl ?_
        refine w_goto X 41 dX12_isGateOf_37 (by decide) ?_
        exact w_iret X hQ (o_inj1 hF) (o_inj2 hF) rfl dX12_isGateOf_41
      · refine w_iconst X 0 dX12_isGateOf_40 rfl 41 rfl ?_
        exact w_iret X hQ (o_inj1 hF) (o_inj2 hF) rfl dX12_isGateOf_41
  · refine w_iconst X 0 dX12_isGateOf_40 rfl 41 rfl ?_
    exact w_iret X hQ (o_inj1 hF) (o_inj2 hF) rfl dX12_isGateOf_41

def K_X12_gates_31 (fu : Nat) (k_18 : Int32 → Int32 → Int32 → Mem → Option (Int32 × Mem)) : Nat → Int32 → Int32 → Int32 → Int32 → Mem → Option (Int32 × Mem)
  | 0, _, _, _, _, _ => none
  | n + 1, x1, x2, x3, x4, mem => gi 0 184 ((if x4 < (rd mem 2 (Int32.toNatClampNeg 0)) then bd (K_X12_isGateOf fu x1 x4 x3 mem) (fun p_5 => bd (K_X12_truth fu p_5.1 p_5.2) (fun x_6 => lt_ (x2 + x_6) (fun x_7 => (K_X12_gates_31 fu k_18 n x1 x_7 x3 (x4 + 1) p_5.2)))) else (k_18 x1 x2 (x3 + 1) mem)))
def K_X12_gates_18 (fu : Nat) : Nat → Int32 → Int32 → Int32 → Mem → Option (Int32 × Mem)
  | 0, _, _, _, _ => none
  | n + 1, x1, x2, x3, mem => gi 1 184 ((if x3 < (rd mem 2 (Int32.toNatClampNeg 1)) then (K_X12_gates_31 fu (K_X12_gates_18 fu n) fu x1 x2 x3 0 mem) else some (x2, mem)))
def K_X12_gates (fu : Nat) (x1 : Int32) (mem : Mem) : Option (Int32 × Mem) := bd (K_X12_isPawn fu x1 mem) (fun x_1 => bd (K_X12_goes fu x_1 mem) (fun p_2 => (if p_2.1 = 0 then some (0, p_2.2) else (K_X12_gates_18 fu fu x1 0 0 p_2.2))))
def rm_X12_gates : Room := { frames := 7, cells := 0, slots := 0, locals := 167 }
set_option maxHeartbeats 4000000 in
set_option maxRecDepth 100000 in
theorem ct_X12_gates (l : Launch) {D : va_G} {ca ad : Nat → Nat} {Z : (Nat → Prop) → State → Heap → Prop} (hZ : ZOK Z) (fu : Nat) (x1 : Int32) (mem : Mem) (res : (Int32 × Mem)) (hF : K_X12_gates fu x1 mem = some res) : CI l D (tyL ca) 23 ad (cM ca ad) Z yX12_gates cX12_gates 5 .int rm_X12_gates [.ref (ad 0), .int x1] mem res.1 res.2 := by
  refine start_i (own := RX12) rfl (by decide) (Nat.le_of_ble_eq_true rfl) ?_
  intro p e s m args below meth c Q hQ X
  rw [K_X12_gates] at hF
  revert hF
  have w_31 : ∀ (k_18 : Int32 → Int32 → Int32 → Mem → Option (Int32 × Mem)) (hk_18 : ∀ (x1 : Int32) (x2 : Int32) (x3 : Int32) (mem : Mem), k_18 x1 x2 x3 mem = some res → WW D 23 ad (cM ca ad) p l e rm_X12_gates s m args below meth c 5 0 0 Q mem 18 [(0, .ref (ad 0)), (1, .int x1), (2, .int x2), (3, .int x3)] []) (n : Nat) (x1 : Int32) (x2 : Int32) (x3 : Int32) (x4 : Int32) (mem : Mem), K_X12_gates_31 fu k_18 n x1 x2 x3 x4 mem = some res → WW D 23 ad (cM ca ad) p l e rm_X12_gates s m args below meth c 5 0 0 Q mem 31 [(0, .ref (ad 0)), (1, .int x1), (2, .int x2), (3, .int x3), (4, .int x4)] [] := by
    intro k_18 hk_18 n
    induction n with
    | zero => intro x1 x2 x3 x4 mem hF; exact no_none (show (none : Option (Int32 × Mem)) = some res from hF)
    | succ n ih =>
      intro x1 x2 x3 x4 mem hF
      rw [K_X12_gates_31] at hF
      refine w_iload X 4 dX12_gates_31 rfl 33 rfl ?_
      refine w_aload_n X 0 dX12_gates_33 rfl rfl 34 rfl ?_
      refine w_getV (v := .ref (ad 2)) X 0 ml_0 mo_0 (T := TX12) (N := 50) rfl in_X12 13 (by decide) kF_X12_20 rfl rfl dX12_gates_34 37 rfl ?_
      refine w_iconst X 0 dX12_gates_37 rfl 38 rfl ?_
      refine w_gi hF (fun h_4 hF => ?_)
      refine w_ial X 2 ml_2 mo_2 (t0 := 0) rfl h_4 dX12_gates_38 39 rfl ?_
      refine w_icmp_ge X hF 62 42 dX12_gates_39 (by decide) rfl (fun hF => ?_) (fun hF => ?_)
      · refine w_iload_n X 2 dX12_gates_42 rfl rfl 43 rfl ?_
        refine w_aload_n X 0 dX12_gates_43 rfl rfl 44 rfl ?_
        refine w_iload_n X 1 dX12_gates_44 rfl rfl 45 rfl ?_
        refine w_iload X 4 dX12_gates_45 rfl 47 rfl ?_
        refine w_iload_n X 3 dX12_gates_47 rfl rfl 48 rfl ?_
        refine w_callVi (fun x => x.1) (fun x => x.2) X hZ hF [.int x1, .int x4, .int x3] 0 ml_0 mo_0 rfl rfl rfl kB_X12_isGateOf kL_X12_392 (fun res h => ct_X12_isGateOf l hZ fu x1 x4 x3 mem res h) rfl rfl rfl ⟨Nat.le_of_ble_eq_true rfl, Nat.le_of_ble_eq_true rfl⟩ (Nat.le_of_ble_eq_true rfl) ⟨Nat.zero_le _, Nat.zero_le _⟩ dX12_gates_48 51 rfl (fun p_5 hF => ?_)
        refine w_callSi (fun x => x) (fun _ => p_5.2) X hZ hF [.int p_5.1] rfl kB_X12_truth kL_X12_91 (fun res h => ct_X12_truth l hZ fu p_5.1 p_5.2 res h) rfl rfl rfl ⟨Nat.le_of_ble_eq_true rfl, Nat.le_of_ble_eq_true rfl⟩ (Nat.le_of_ble_eq_true rfl) ⟨Nat.zero_le _, Nat.zero_le _⟩ dX12_gates_51 54 rfl (fun x_6 hF => ?_)
        refine w_iadd X dX12_gates_54 55 rfl ?_
        refine w_let hF (fun x_7 hF => ?_)
        refine w_istore_n X [(2, .int x_7), (0, .ref (ad 0)), (1, .int x1), (3, .int x3), (4, .int x4)] dX12_gates_55 rfl (by decide) rfl 56 rfl ?_
        refine w_iinc X 4 (x4 + 1) [(4, .int (x4 + 1)), (2, .int x_7), (0, .ref (ad 0)), (1, .int x1), (3, .int x3)] dX12_gates_56 rfl rfl (by decide) rfl 59 rfl ?_
        refine w_goto X 31 dX12_gates_59 (by decide) ?_
        refine w_keep [2, 3, 1, 4, 0] rfl ?_
        exact ih x1 x_7 x3 (x4 + 1) p_5.2 hF
      · refine w_iinc X 3 (x3 + 1) [(3, .int (x3 + 1)), (0, .ref (ad 0)), (1, .int x1), (2, .int x2), (4, .int x4)] dX12_gates_62 rfl rfl (by decide) rfl 65 rfl ?_
        refine w_goto X 18 dX12_gates_65 (by decide) ?_
        refine w_keep [1, 2, 3, 0] rfl ?_
        exact hk_18 x1 x2 (x3 + 1) mem hF
  have w_18 : ∀ (n : Nat) (x1 : Int32) (x2 : Int32) (x3 : Int32) (mem : Mem), K_X12_gates_18 fu n x1 x2 x3 mem = some res → WW D 23 ad (cM ca ad) p l e rm_X12_gates s m args below meth c 5 0 0 Q mem 18 [(0, .ref (ad 0)), (1, .int x1), (2, .int x2), (3, .int x3)] [] := by
    intro n
    induction n with
    | zero => intro x1 x2 x3 mem hF; exact no_none (show (none : Option (Int32 × Mem)) = some res from hF)
    | succ n ih =>
      intro x1 x2 x3 mem hF
      rw [K_X12_gates_18] at hF
      refine w_iload_n X 3 dX12_gates_18 rfl rfl 19 rfl ?_
      refine w_aload_n X 0 dX12_gates_19 rfl rfl 20 rfl ?_
      refine w_getV (v := .ref (ad 2)) X 0 ml_0 mo_0 (T := TX12) (N := 50) rfl in_X12 13 (by decide) kF_X12_20 rfl rfl dX12_gates_20 23 rfl ?_
      refine w_iconst X 1 dX12_gates_23 rfl 24 rfl ?_
      refine w_gi hF (fun h_3 hF => ?_)
      refine w_ial X 2 ml_2 mo_2 (t0 := 0) rfl h_3 dX12_gates_24 25 rfl ?_
      refine w_icmp_ge X hF 68 28 dX12_gates_25 (by decide) rfl (fun hF => ?_) (fun hF => ?_)
      · refine w_iconst X 0 dX12_gates_28 rfl 29 rfl ?_
        refine w_istore X [(4, .int 0), (0, .ref (ad 0)), (1, .int x1), (2, .int x2), (3, .int x3)] dX12_gates_29 (by decide) rfl 31 rfl ?_
        refine w_keep [1, 2, 3, 4, 0] rfl ?_
        exact w_31 (K_X12_gates_18 fu n) ih fu x1 x2 x3 0 mem hF
      · refine w_iload_n X 2 dX12_gates_68 rfl rfl 69 rfl ?_
        exact w_iret X hQ (o_inj1 hF) (o_inj2 hF) rfl dX12_gates_69
  intro hF
  refine w_aload_n X 0 dX12_gates_0 rfl rfl 1 rfl ?_
  refine w_aload_n X 0 dX12_gates_1 rfl rfl 2 rfl ?_
  refine w_iload_n X 1 dX12_gates_2 rfl rfl 3 rfl ?_
  refine w_callVi (fun x => x) (fun _ => mem) X hZ hF [.int x1] 0 ml_0 mo_0 rfl rfl rfl kB_X12_isPawn kL_X12_339 (fun res h => ct_X12_isPawn l hZ fu x1 mem res h) rfl rfl rfl ⟨Nat.le_of_ble_eq_true rfl, Nat.le_of_ble_eq_true rfl⟩ (Nat.le_of_ble_eq_true rfl) ⟨Nat.zero_le _, Nat.zero_le _⟩ dX12_gates_3 6 rfl (fun x_1 hF => ?_)
  refine w_callVi (fun x => x.1) (fun x => x.2) X hZ hF [.int x_1] 0 ml_0 mo_0 rfl rfl rfl kB_X12_goes kL_X12_98 (fun res h => ct_X12_goes l hZ fu x_1 mem res h) rfl rfl rfl ⟨Nat.le_of_ble_eq_true rfl, Nat.le_of_ble_eq_true rfl⟩ (Nat.le_of_ble_eq_true rfl) ⟨Nat.zero_le _, Nat.zero_le _⟩ dX12_gates_6 9 rfl (fun p_2 hF => ?_)
  refine w_if_ne X hF 14 12 dX12_gates_9 (by decide) rfl (fun hF => ?_) (fun hF => ?_)
  · refine w_iconst X 0 dX12_gates_12 rfl 13 rfl ?_
    exact w_iret X hQ (o_inj1 hF) (o_inj2 hF) rfl dX12_gates_13
  · refine w_iconst X 0 dX12_gates_14 rfl 15 rfl ?_
    refine w_istore_n X [(2, .int 0), (0, .ref (ad 0)), (1, .int x1)] dX12_gates_15 rfl (by decide) rfl 16 rfl ?_
    refine w_iconst X 0 dX12_gates_16 rfl 17 rfl ?_
    refine w_istore_n X [(3, .int 0), (2, .int 0), (0, .ref (ad 0)), (1, .int x1)] dX12_gates_17 rfl (by decide) rfl 18 rfl ?_
    refine w_keep [2, 3, 1, 0] rfl ?_
    exact w_18 fu x1 0 0 p_2.2 hF

def K_X12_harm_51 (fu : Nat) (x1 : Int32) (x2 : Int32) (x3 : Int32) (x4 : Int32) (xs0 : Int32) (xs1 : Int32) (mem : Mem) : Option (Int32 × Mem) := bd (K_X12_goesBoth fu xs1 xs0 mem) (fun p_5 => (if p_5.1 = 0 then some (0, p_5.2) else bd (K_X12_wayOf fu x4 p_5.2) (fun x_6 => bd (K_X12_behind fu x1 x2 x3 x_6 p_5.2) (fun p_7 => bd (K_X12_distanceOf fu x1 p_7.2) (fun p_8 => some ((p_7.1 - p_8.1), p_8.2))))))
def K_X12_harm_50 (fu : Nat) (x1 : Int32) (x2 : Int32) (x3 : Int32) (x4 : Int32) (xs0 : Int32) (mem : Mem) : Option (Int32 × Mem) := (K_X12_harm_51 fu x1 x2 x3 x4 0 xs0 mem)
def K_X12_harm_22 (fu : Nat) (x1 : Int32) (x2 : Int32) (x3 : Int32) (x4 : Int32) (xs0 : Int32) (mem : Mem) : Option (Int32 × Mem) := (if xs0 = 0 then (K_X12_harm_50 fu x1 x2 x3 x4 xs0 mem) else bd (K_X12_wayOf fu x4 mem) (fun x_3 => bd (K_X12_admits fu x2 x3 x_3 mem) (fun p_4 => (if p_4.1 = 0 then (K_X12_harm_50 fu x1 x2 x3 x4 xs0 p_4.2) else (K_X12_harm_51 fu x1 x2 x3 x4 1 xs0 p_4.2)))))
def K_X12_harm_21 (fu : Nat) (x1 : Int32) (x2 : Int32) (x3 : Int32) (x4 : Int32) (mem : Mem) : Option (Int32 × Mem) := (K_X12_harm_22 fu x1 x2 x3 x4 0 mem)
def K_X12_harm (fu : Nat) (x1 : Int32) (x2 : Int32) (x3 : Int32) (x4 : Int32) (mem : Mem) : Option (Int32 × Mem) := bd (K_X12_isPawn fu x1 mem) (fun x_1 => (if x_1 = 0 then (K_X12_harm_21 fu x1 x2 x3 x4 mem) else bd (K_X12_isPlace fu x2 x3 mem) (fun x_2 => (if x_2 = 0 then (K_X12_harm_21 fu x1 x2 x3 x4 mem) else (K_X12_harm_22 fu x1 x2 x3 x4 1 mem)))))
def rm_X12_harm : Room := { frames := 9, cells := 0, slots := 0, locals := 210 }
set_option maxHeartbeats 4000000 in
set_option maxRecDepth 100000 in
theorem ct_X12_harm (l : Launch) {D : va_G} {ca ad : Nat → Nat} {Z : (Nat → Prop) → State → Heap → Prop} (hZ : ZOK Z) (fu : Nat) (x1 : Int32) (x2 : Int32) (x3 : Int32) (x4 : Int32) (mem : Mem) (res : (Int32 × Mem)) (hF : K_X12_harm fu x1 x2 x3 x4 mem = some res) : CI l D (tyL ca) 23 ad (cM ca ad) Z yX12_harm cX12_harm 6 .int rm_X12_harm [.ref (ad 0), .int x1, .int x2, .int x3, .int x4] mem res.1 res.2 := by
  refine start_i (own := RX12) rfl (by decide) (Nat.le_of_ble_eq_true rfl) ?_
  intro p e s m args below meth c Q hQ X
  rw [K_X12_harm] at hF
  revert hF
  have w_51 : ∀ (x1 : Int32) (x2 : Int32) (x3 : Int32) (x4 : Int32) (xs0 : Int32) (xs1 : Int32) (mem : Mem), K_X12_harm_51 fu x1 x2 x3 x4 xs0 xs1 mem = some res → WW D 23 ad (cM ca ad) p l e rm_X12_harm s m args below meth c 6 0 0 Q mem 51 [(0, .ref (ad 0)), (1, .int x1), (2, .int x2), (3, .int x3), (4, .int x4)] [.int xs0, .int xs1, .ref (ad 0)] := by
    intro x1 x2 x3 x4 xs0 xs1 mem hF
    rw [K_X12_harm_51] at hF
    refine w_callVi (fun x => x.1) (fun x => x.2) X hZ hF [.int xs1, .int xs0] 0 ml_0 mo_0 rfl rfl rfl kB_X12_goesBoth kL_X12_344 (fun res h => ct_X12_goesBoth l hZ fu xs1 xs0 mem res h) rfl rfl rfl ⟨Nat.le_of_ble_eq_true rfl, Nat.le_of_ble_eq_true rfl⟩ (Nat.le_of_ble_eq_true rfl) ⟨Nat.zero_le _, Nat.zero_le _⟩ dX12_harm_51 54 rfl (fun p_5 hF => ?_)
    refine w_if_ne X hF 59 57 dX12_harm_54 (by decide) rfl (fun hF => ?_) (fun hF => ?_)
    · refine w_iconst X 0 dX12_harm_57 rfl 58 rfl ?_
      exact w_iret X hQ (o_inj1 hF) (o_inj2 hF) rfl dX12_harm_58
    · refine w_aload_n X 0 dX12_harm_59 rfl rfl 60 rfl ?_
      refine w_iload_n X 1 dX12_harm_60 rfl rfl 61 rfl ?_
      refine w_iload_n X 2 dX12_harm_61 rfl rfl 62 rfl ?_
      refine w_iload_n X 3 dX12_harm_62 rfl rfl 63 rfl ?_
      refine w_iload X 4 dX12_harm_63 rfl 65 rfl ?_
      refine w_callSi (fun x => x) (fun _ => p_5.2) X hZ hF [.int x4] rfl kB_X12_wayOf kL_X12_359 (fun res h => ct_X12_wayOf l hZ fu x4 p_5.2 res h) rfl rfl rfl ⟨Nat.le_of_ble_eq_true rfl, Nat.le_of_ble_eq_true rfl⟩ (Nat.le_of_ble_eq_true rfl) ⟨Nat.zero_le _, Nat.zero_le _⟩ dX12_harm_65 68 rfl (fun x_6 hF => ?_)
      refine w_callVi (fun x => x.1) (fun x => x.2) X hZ hF [.int x1, .int x2, .int x3, .int x_6] 0 ml_0 mo_0 rfl rfl rfl kB_X12_behind kL_X12_426 (fun res h => ct_X12_behind l hZ fu x1 x2 x3 x_6 p_5.2 res h) rfl rfl rfl ⟨Nat.le_of_ble_eq_true rfl, Nat.le_of_ble_eq_true rfl⟩ (Nat.le_of_ble_eq_true rfl) ⟨Nat.zero_le _, Nat.zero_le _⟩ dX12_harm_68 71 rfl (fun p_7 hF => ?_)
      refine w_aload_n X 0 dX12_harm_71 rfl rfl 72 rfl ?_
      refine w_iload_n X 1 dX12_harm_72 rfl rfl 73 rfl ?_
      refine w_callVi (fun x => x.1) (fun x => x.2) X hZ hF [.int x1] 0 ml_0 mo_0 rfl rfl rfl kB_X12_distanceOf kL_X12_222 (fun res h => ct_X12_distanceOf l hZ fu x1 p_7.2 res h) rfl rfl rfl ⟨Nat.le_of_ble_eq_true rfl, Nat.le_of_ble_eq_true rfl⟩ (Nat.le_of_ble_eq_true rfl) ⟨Nat.zero_le _, Nat.zero_le _⟩ dX12_harm_73 76 rfl (fun p_8 hF => ?_)
      refine w_isub X dX12_harm_76 77 rfl ?_
      exact w_iret X hQ (o_inj1 hF) (o_inj2 hF) rfl dX12_harm_77
  have w_50 : ∀ (x1 : Int32) (x2 : Int32) (x3 : Int32) (x4 : Int32) (xs0 : Int32) (mem : Mem), K_X12_harm_50 fu x1 x2 x3 x4 xs0 mem = some res → WW D 23 ad (cM ca ad) p l e rm_X12_harm s m args below meth c 6 0 0 Q mem 50 [(0, .ref (ad 0)), (1, .int x1), (2, .int x2), (3, .int x3), (4, .int x4)] [.int xs0, .ref (ad 0)] := by
    intro x1 x2 x3 x4 xs0 mem hF
    rw [K_X12_harm_50] at hF
    refine w_iconst X 0 dX12_harm_50 rfl 51 rfl ?_
    refine w_keep [0, 1, 2, 3, 4] rfl ?_
    exact w_51 x1 x2 x3 x4 0 xs0 mem hF
  have w_22 : ∀ (x1 : Int32) (x2 : Int32) (x3 : Int32) (x4 : Int32) (xs0 : Int32) (mem : Mem), K_X12_harm_22 fu x1 x2 x3 x4 xs0 mem = some res → WW D 23 ad (cM ca ad) p l e rm_X12_harm s m args below meth c 6 0 0 Q mem 22 [(0, .ref (ad 0)), (1, .int x1), (2, .int x2), (3, .int x3), (4, .int x4)] [.int xs0] := by
    intro x1 x2 x3 x4 xs0 mem hF
    rw [K_X12_harm_22] at hF
    refine w_istore X [(5, .int xs0), (0, .ref (ad 0)), (1, .int x1), (2, .int x2), (3, .int x3), (4, .int x4)] dX12_harm_22 (by decide) rfl 24 rfl ?_
    refine w_aload_n X 1 dX12_harm_24 rfl rfl 25 rfl ?_
    refine w_iload X 0 dX12_harm_25 rfl 27 rfl ?_
    refine w_iload X 0 dX12_harm_27 rfl 29 rfl ?_
    refine w_if_eq X hF 50 32 dX12_harm_29 (by decide) rfl (fun hF => ?_) (fun hF => ?_)
    · refine w_keep [1, 2, 3, 4, 5] rfl ?_
      exact w_50 x1 x2 x3 x4 xs0 mem hF
    · refine w_aload_n X 1 dX12_harm_32 rfl rfl 33 rfl ?_
      refine w_iload_n X 3 dX12_harm_33 rfl rfl 34 rfl ?_
      refine w_iload_n X 4 dX12_harm_34 rfl rfl 35 rfl ?_
      refine w_iload X 5 dX12_harm_35 rfl 37 rfl ?_
      refine w_callSi (fun x => x) (fun _ => mem) X hZ hF [.int x4] rfl kB_X12_wayOf kL_X12_359 (fun res h => ct_X12_wayOf l hZ fu x4 mem res h) rfl rfl rfl ⟨Nat.le_of_ble_eq_true rfl, Nat.le_of_ble_eq_true rfl⟩ (Nat.le_of_ble_eq_true rfl) ⟨Nat.zero_le _, Nat.zero_le _⟩ dX12_harm_37 40 rfl (fun x_3 hF => ?_)
      refine w_callVi (fun x => x.1) (fun x => x.2) X hZ hF [.int x2, .int x3, .int x_3] 0 ml_0 mo_0 rfl rfl rfl kB_X12_admits kL_X12_293 (fun res h => ct_X12_admits l hZ fu x2 x3 x_3 mem res h) rfl rfl rfl ⟨Nat.le_of_ble_eq_true rfl, Nat.le_of_ble_eq_true rfl⟩ (Nat.le_of_ble_eq_true rfl) ⟨Nat.zero_le _, Nat.zero_le _⟩ dX12_harm_40 43 rfl (fun p_4 hF => ?_)
      refine w_if_eq X hF 50 46 dX12_harm_43 (by decide) rfl (fun hF => ?_) (fun hF => ?_)
      · refine w_keep [1, 2, 3, 4, 5] rfl ?_
        exact w_50 x1 x2 x3 x4 xs0 p_4.2 hF
      · refine w_iconst X 1 dX12_harm_46 rfl 47 rfl ?_
        refine w_goto X 51 dX12_harm_47 (by decide) ?_
        refine w_keep [1, 2, 3, 4, 5] rfl ?_
        exact w_51 x1 x2 x3 x4 1 xs0 p_4.2 hF
  have w_21 : ∀ (x1 : Int32) (x2 : Int32) (x3 : Int32) (x4 : Int32) (mem : Mem), K_X12_harm_21 fu x1 x2 x3 x4 mem = some res → WW D 23 ad (cM ca ad) p l e rm_X12_harm s m args below meth c 6 0 0 Q mem 21 [(0, .ref (ad 0)), (1, .int x1), (2, .int x2), (3, .int x3), (4, .int x4)] [] := by
    intro x1 x2 x3 x4 mem hF
    rw [K_X12_harm_21] at hF
    refine w_iconst X 0 dX12_harm_21 rfl 22 rfl ?_
    refine w_keep [0, 1, 2, 3, 4] rfl ?_
    exact w_22 x1 x2 x3 x4 0 mem hF
  intro hF
  refine w_aload_n X 0 dX12_harm_0 rfl rfl 1 rfl ?_
  refine w_iload_n X 1 dX12_harm_1 rfl rfl 2 rfl ?_
  refine w_callVi (fun x => x) (fun _ => mem) X hZ hF [.int x1] 0 ml_0 mo_0 rfl rfl rfl kB_X12_isPawn kL_X12_339 (fun res h => ct_X12_isPawn l hZ fu x1 mem res h) rfl rfl rfl ⟨Nat.le_of_ble_eq_true rfl, Nat.le_of_ble_eq_true rfl⟩ (Nat.le_of_ble_eq_true rfl) ⟨Nat.zero_le _, Nat.zero_le _⟩ dX12_harm_2 5 rfl (fun x_1 hF => ?_)
  refine w_if_eq X hF 21 8 dX12_harm_5 (by decide) rfl (fun hF => ?_) (fun hF => ?_)
  · refine w_keep [0, 1, 2, 3, 4] rfl ?_
    exact w_21 x1 x2 x3 x4 mem hF
  · refine w_aload_n X 0 dX12_harm_8 rfl rfl 9 rfl ?_
    refine w_iload_n X 2 dX12_harm_9 rfl rfl 10 rfl ?_
    refine w_iload_n X 3 dX12_harm_10 rfl rfl 11 rfl ?_
    refine w_callVi (fun x => x) (fun _ => mem) X hZ hF [.int x2, .int x3] 0 ml_0 mo_0 rfl rfl rfl kB_X12_isPlace kL_X12_177 (fun res h => ct_X12_isPlace l hZ fu x2 x3 mem res h) rfl rfl rfl ⟨Nat.le_of_ble_eq_true rfl, Nat.le_of_ble_eq_true rfl⟩ (Nat.le_of_ble_eq_true rfl) ⟨Nat.zero_le _, Nat.zero_le _⟩ dX12_harm_11 14 rfl (fun x_2 hF => ?_)
    refine w_if_eq X hF 21 17 dX12_harm_14 (by decide) rfl (fun hF => ?_) (fun hF => ?_)
    · refine w_keep [0, 1, 2, 3, 4] rfl ?_
      exact w_21 x1 x2 x3 x4 mem hF
    · refine w_iconst X 1 dX12_harm_17 rfl 18 rfl ?_
      refine w_goto X 22 dX12_harm_18 (by decide) ?_
      refine w_keep [0, 1, 2, 3, 4] rfl ?_
      exact w_22 x1 x2 x3 x4 1 mem hF

def K_X12_isAdmissible (fu : Nat) (x1 : Int32) (x2 : Int32) (x3 : Int32) (mem : Mem) : Option (Int32 × Mem) := bd (K_X12_isPlace fu x1 x2 mem) (fun x_1 => bd (K_X12_goes fu x_1 mem) (fun p_2 => (if p_2.1 = 0 then some (0, p_2.2) else bd (K_X12_wayOf fu x3 p_2.2) (fun x_3 => bd (K_X12_admits fu x1 x2 x_3 p_2.2) (fun p_4 => (if p_4.1 = 0 then some (0, p_4.2) else some (1, p_4.2)))))))
def rm_X12_isAdmissible : Room := { frames := 9, cells := 0, slots := 0, locals := 210 }
set_option maxHeartbeats 4000000 in
set_option maxRecDepth 100000 in
theorem ct_X12_isAdmissible (l : Launch) {D : va_G} {ca ad : Nat → Nat} {Z : (Nat → Prop) → State → Heap → Prop} (hZ : ZOK Z) (fu : Nat) (x1 : Int32) (x2 : Int32) (x3 : Int32) (mem : Mem) (res : (Int32 × Mem)) (hF : K_X12_isAdmissible fu x1 x2 x3 mem = some res) : CI l D (tyL ca) 23 ad (cM ca ad) Z yX12_isAdmissible cX12_isAdmissible 4 .boolean rm_X12_isAdmissible [.ref (ad 0), .int x1, .int x2, .int x3] mem res.1 res.2 := by
  refine start_i (own := RX12) rfl (by decide) (Nat.le_of_ble_eq_true rfl) ?_
  intro p e s m args below meth c Q hQ X
  rw [K_X12_isAdmissible] at hF
  revert hF
  intro hF
  refine w_aload_n X 0 dX12_isAdmissible_0 rfl rfl 1 rfl ?_
  refine w_aload_n X 0 dX12_isAdmissible_1 rfl rfl 2 rfl ?_
  refine w_iload_n X 1 dX12_isAdmissible_2 rfl rfl 3 rfl ?_
  refine w_iload_n X 2 dX12_isAdmissible_3 rfl rfl 4 rfl ?_
  refine w_callVi (fun x => x) (fun _ => mem) X hZ hF [.int x1, .int x2] 0 ml_0 mo_0 rfl rfl rfl kB_X12_isPlace kL_X12_177 (fun res h => ct_X12_isPlace l hZ fu x1 x2 mem res h) rfl rfl rfl ⟨Nat.le_of_ble_eq_true rfl, Nat.le_of_ble_eq_true rfl⟩ (Nat.le_of_ble_eq_true rfl) ⟨Nat.zero_le _, Nat.zero_le _⟩ dX12_isAdmissible_4 7 rfl (fun x_1 hF => ?_)
  refine w_callVi (fun x => x.1) (fun x => x.2) X hZ hF [.int x_1] 0 ml_0 mo_0 rfl rfl rfl kB_X12_goes kL_X12_98 (fun res h => ct_X12_goes l hZ fu x_1 mem res h) rfl rfl rfl ⟨Nat.le_of_ble_eq_true rfl, Nat.le_of_ble_eq_true rfl⟩ (Nat.le_of_ble_eq_true rfl) ⟨Nat.zero_le _, Nat.zero_le _⟩ dX12_isAdmissible_7 10 rfl (fun p_2 hF => ?_)
  refine w_if_eq X hF 30 13 dX12_isAdmissible_10 (by decide) rfl (fun hF => ?_) (fun hF => ?_)
  · refine w_iconst X 0 dX12_isAdmissible_30 rfl 31 rfl ?_
    exact w_iret X hQ (o_inj1 hF) (o_inj2 hF) rfl dX12_isAdmissible_31
  · refine w_aload_n X 0 dX12_isAdmissible_13 rfl rfl 14 rfl ?_
    refine w_iload_n X 1 dX12_isAdmissible_14 rfl rfl 15 rfl ?_
    refine w_iload_n X 2 dX12_isAdmissible_15 rfl rfl 16 rfl ?_
    refine w_iload_n X 3 dX12_isAdmissible_16 rfl rfl 17 rfl ?_
    refine w_callSi (fun x => x) (fun _ => p_2.2) X hZ hF [.int x3] rfl kB_X12_wayOf kL_X12_359 (fun res h => ct_X12_wayOf l hZ fu x3 p_2.2 res h) rfl rfl rfl ⟨Nat.le_of_ble_eq_true rfl, Nat.le_of_ble_eq_true rfl⟩ (Nat.le_of_ble_eq_true rfl) ⟨Nat.zero_le _, Nat.zero_le _⟩ dX12_isAdmissible_17 20 rfl (fun x_3 hF => ?_)
    refine w_callVi (fun x => x.1) (fun x => x.2) X hZ hF [.int x1, .int x2, .int x_3] 0 ml_0 mo_0 rfl rfl rfl kB_X12_admits kL_X12_293 (fun res h => ct_X12_admits l hZ fu x1 x2 x_3 p_2.2 res h) rfl rfl rfl ⟨Nat.le_of_ble_eq_true rfl, Nat.le_of_ble_eq_true rfl⟩ (Nat.le_of_ble_eq_true rfl) ⟨Nat.zero_le _, Nat.zero_le _⟩ dX12_isAdmissible_20 23 rfl (fun p_4 hF => ?_)
    refine w_if_eq X hF 30 26 dX12_isAdmissible_23 (by decide) rfl (fun hF => ?_) (fun hF => ?_)
    · refine w_iconst X 0 dX12_isAdmissible_30 rfl 31 rfl ?_
      exact w_iret X hQ (o_inj1 hF) (o_inj2 hF) rfl dX12_isAdmissible_31
    · refine w_iconst X 1 dX12_isAdmissible_26 rfl 27 rfl ?_
      refine w_goto X 31 dX12_isAdmissible_27 (by decide) ?_
      exact w_iret X hQ (o_inj1 hF) (o_inj2 hF) rfl dX12_isAdmissible_31

def K_X12_isBanned (fu : Nat) (x1 : Int32) (x2 : Int32) (mem : Mem) : Option (Int32 × Mem) := bd (K_X12_isPawn fu x1 mem) (fun x_1 => bd (K_X12_isIn fu (Int32.toInt64 x2) 0 3 mem) (fun x_2 => bd (K_X12_goesBoth fu x_1 x_2 mem) (fun p_3 => (if p_3.1 = 0 then some (0, p_3.2) else bd (K_X12_bans fu x1 x2 p_3.2) (fun p_4 => (if p_4.1 = 0 then some (0, p_4.2) else some (1, p_4.2)))))))
def rm_X12_isBanned : Room := { frames := 4, cells := 0, slots := 0, locals := 101 }
set_option maxHeartbeats 4000000 in
set_option maxRecDepth 100000 in
theorem ct_X12_isBanned (l : Launch) {D : va_G} {ca ad : Nat → Nat} {Z : (Nat → Prop) → State → Heap → Prop} (hZ : ZOK Z) (fu : Nat) (x1 : Int32) (x2 : Int32) (mem : Mem) (res : (Int32 × Mem)) (hF : K_X12_isBanned fu x1 x2 mem = some res) : CI l D (tyL ca) 23 ad (cM ca ad) Z yX12_isBanned cX12_isBanned 3 .boolean rm_X12_isBanned [.ref (ad 0), .int x1, .int x2] mem res.1 res.2 := by
  refine start_i (own := RX12) rfl (by decide) (Nat.le_of_ble_eq_true rfl) ?_
  intro p e s m args below meth c Q hQ X
  rw [K_X12_isBanned] at hF
  revert hF
  intro hF
  refine w_aload_n X 0 dX12_isBanned_0 rfl rfl 1 rfl ?_
  refine w_aload_n X 0 dX12_isBanned_1 rfl rfl 2 rfl ?_
  refine w_iload_n X 1 dX12_isBanned_2 rfl rfl 3 rfl ?_
  refine w_callVi (fun x => x) (fun _ => mem) X hZ hF [.int x1] 0 ml_0 mo_0 rfl rfl rfl kB_X12_isPawn kL_X12_339 (fun res h => ct_X12_isPawn l hZ fu x1 mem res h) rfl rfl rfl ⟨Nat.le_of_ble_eq_true rfl, Nat.le_of_ble_eq_true rfl⟩ (Nat.le_of_ble_eq_true rfl) ⟨Nat.zero_le _, Nat.zero_le _⟩ dX12_isBanned_3 6 rfl (fun x_1 hF => ?_)
  refine w_iload_n X 2 dX12_isBanned_6 rfl rfl 7 rfl ?_
  refine w_i2l X dX12_isBanned_7 8 rfl ?_
  refine w_lconst X 0 dX12_isBanned_8 rfl 9 rfl ?_
  refine w_ldc2 X 3 kK_X12_357 dX12_isBanned_9 12 rfl ?_
  refine w_callSi (fun x => x) (fun _ => mem) X hZ hF [.long (Int32.toInt64 x2), .long 0, .long 3] rfl kB_X12_isIn kL_X12_106 (fun res h => ct_X12_isIn l hZ fu (Int32.toInt64 x2) 0 3 mem res h) rfl rfl rfl ⟨Nat.le_of_ble_eq_true rfl, Nat.le_of_ble_eq_true rfl⟩ (Nat.le_of_ble_eq_true rfl) ⟨Nat.zero_le _, Nat.zero_le _⟩ dX12_isBanned_12 15 rfl (fun x_2 hF => ?_)
  refine w_callVi (fun x => x.1) (fun x => x.2) X hZ hF [.int x_1, .int x_2] 0 ml_0 mo_0 rfl rfl rfl kB_X12_goesBoth kL_X12_344 (fun res h => ct_X12_goesBoth l hZ fu x_1 x_2 mem res h) rfl rfl rfl ⟨Nat.le_of_ble_eq_true rfl, Nat.le_of_ble_eq_true rfl⟩ (Nat.le_of_ble_eq_true rfl) ⟨Nat.zero_le _, Nat.zero_le _⟩ dX12_isBanned_15 18 rfl (fun p_3 hF => ?_)
  refine w_if_eq X hF 34 21 dX12_isBanned_18 (by decide) rfl (fun hF => ?_) (fun hF => ?_)
  · refine w_iconst X 0 dX12_isBanned_34 rfl 35 rfl ?_
    exact w_iret X hQ (o_inj1 hF) (o_inj2 hF) rfl dX12_isBanned_35
  · refine w_aload_n X 0 dX12_isBanned_21 rfl rfl 22 rfl ?_
    refine w_iload_n X 1 dX12_isBanned_22 rfl rfl 23 rfl ?_
    refine w_iload_n X 2 dX12_isBanned_23 rfl rfl 24 rfl ?_
    refine w_callVi (fun x => x.1) (fun x => x.2) X hZ hF [.int x1, .int x2] 0 ml_0 mo_0 rfl rfl rfl kB_X12_bans kL_X12_376 (fun res h => ct_X12_bans l hZ fu x1 x2 p_3.2 res h) rfl rfl rfl ⟨Nat.le_of_ble_eq_true rfl, Nat.le_of_ble_eq_true rfl⟩ (Nat.le_of_ble_eq_true rfl) ⟨Nat.zero_le _, Nat.zero_le _⟩ dX12_isBanned_24 27 rfl (fun p_4 hF => ?_)
    refine w_if_eq X hF 34 30 dX12_isBanned_27 (by decide) rfl (fun hF => ?_) (fun hF => ?_)
    · refine w_iconst X 0 dX12_isBanned_34 rfl 35 rfl ?_
      exact w_iret X hQ (o_inj1 hF) (o_inj2 hF) rfl dX12_isBanned_35
    · refine w_iconst X 1 dX12_isBanned_30 rfl 31 rfl ?_
      refine w_goto X 35 dX12_isBanned_31 (by decide) ?_
      exact w_iret X hQ (o_inj1 hF) (o_inj2 hF) rfl dX12_isBanned_35

def K_X12_isBlocked (fu : Nat) (x1 : Int32) (x2 : Int32) (x3 : Int32) (mem : Mem) : Option (Int32 × Mem) := bd (K_X12_isCell fu x1 x2 mem) (fun x_1 => bd (K_X12_isIn fu (Int32.toInt64 x3) 0 3 mem) (fun x_2 => bd (K_X12_goesBoth fu x_1 x_2 mem) (fun p_3 => (if p_3.1 = 0 then some (0, p_3.2) else bd (K_X12_blocks fu x1 x2 x3 p_3.2) (fun x_4 => (if x_4 = 0 then some (0, p_3.2) else some (1, p_3.2)))))))
def rm_X12_isBlocked : Room := { frames := 4, cells := 0, slots := 0, locals := 96 }
set_option maxHeartbeats 4000000 in
set_option maxRecDepth 100000 in
theorem ct_X12_isBlocked (l : Launch) {D : va_G} {ca ad : Nat → Nat} {Z : (Nat → Prop) → State → Heap → Prop} (hZ : ZOK Z) (fu : Nat) (x1 : Int32) (x2 : Int32) (x3 : Int32) (mem : Mem) (res : (Int32 × Mem)) (hF : K_X12_isBlocked fu x1 x2 x3 mem = some res) : CI l D (tyL ca) 23 ad (cM ca ad) Z yX12_isBlocked cX12_isBlocked 4 .boolean rm_X12_isBlocked [.ref (ad 0), .int x1, .int x2, .int x3] mem res.1 res.2 := by
  refine start_i (own := RX12) rfl (by decide) (Nat.le_of_ble_eq_true rfl) ?_
  intro p e s m args below meth c Q hQ X
  rw [K_X12_isBlocked] at hF
  revert hF
  intro hF
  refine w_aload_n X 0 dX12_isBlocked_0 rfl rfl 1 rfl ?_
  refine w_aload_n X 0 dX12_isBlocked_1 rfl rfl 2 rfl ?_
  refine w_iload_n X 1 dX12_isBlocked_2 rfl rfl 3 rfl ?_
  refine w_iload_n X 2 dX12_isBlocked_3 rfl rfl 4 rfl ?_
  refine w_callVi (fun x => x) (fun _ => mem) X hZ hF [.int x1, .int x2] 0 ml_0 mo_0 rfl rfl rfl kB_X12_isCell kL_X12_187 (fun res h => ct_X12_isCell l hZ fu x1 x2 mem res h) rfl rfl rfl ⟨Nat.le_of_ble_eq_true rfl, Nat.le_of_ble_eq_true rfl⟩ (Nat.le_of_ble_eq_true rfl) ⟨Nat.zero_le _, Nat.zero_le _⟩ dX12_isBlocked_4 7 rfl (fun x_1 hF => ?_)
  refine w_iload_n X 3 dX12_isBlocked_7 rfl rfl 8 rfl ?_
  refine w_i2l X dX12_isBlocked_8 9 rfl ?_
  refine w_lconst X 0 dX12_isBlocked_9 rfl 10 rfl ?_
  refine w_ldc2 X 3 kK_X12_357 dX12_isBlocked_10 13 rfl ?_
  refine w_callSi (fun x => x) (fun _ => mem) X hZ hF [.long (Int32.toInt64 x3), .long 0, .long 3] rfl kB_X12_isIn kL_X12_106 (fun res h => ct_X12_isIn l hZ fu (Int32.toInt64 x3) 0 3 mem res h) rfl rfl rfl ⟨Nat.le_of_ble_eq_true rfl, Nat.le_of_ble_eq_true rfl⟩ (Nat.le_of_ble_eq_true rfl) ⟨Nat.zero_le _, Nat.zero_le _⟩ dX12_isBlocked_13 16 rfl (fun x_2 hF => ?_)
  refine w_callVi (fun x => x.1) (fun x => x.2) X hZ hF [.int x_1, .int x_2] 0 ml_0 mo_0 rfl rfl rfl kB_X12_goesBoth kL_X12_344 (fun res h => ct_X12_goesBoth l hZ fu x_1 x_2 mem res h) rfl rfl rfl ⟨Nat.le_of_ble_eq_true rfl, Nat.le_of_ble_eq_true rfl⟩ (Nat.le_of_ble_eq_true rfl) ⟨Nat.zero_le _, Nat.zero_le _⟩ dX12_isBlocked_16 19 rfl (fun p_3 hF => ?_)
  refine w_if_eq X hF 36 22 dX12_isBlocked_19 (by decide) rfl (fun hF => ?_) (fun hF => ?_)
  · refine w_iconst X 0 dX12_isBlocked_36 rfl 37 rfl ?_
    exact w_iret X hQ (o_inj1 hF) (o_inj2 hF) rfl dX12_isBlocked_37
  · refine w_aload_n X 0 dX12_isBlocked_22 rfl rfl 23 rfl ?_
    refine w_iload_n X 1 dX12_isBlocked_23 rfl rfl 24 rfl ?_
    refine w_iload_n X 2 dX12_isBlocked_24 rfl rfl 25 rfl ?_
    refine w_iload_n X 3 dX12_isBlocked_25 rfl rfl 26 rfl ?_
    refine w_callVi (fun x => x) (fun _ => p_3.2) X hZ hF [.int x1, .int x2, .int x3] 0 ml_0 mo_0 rfl rfl rfl kB_X12_blocks kL_X12_210 (fun res h => ct_X12_blocks l hZ fu x1 x2 x3 p_3.2 res h) rfl rfl rfl ⟨Nat.le_of_ble_eq_true rfl, Nat.le_of_ble_eq_true rfl⟩ (Nat.le_of_ble_eq_true rfl) ⟨Nat.zero_le _, Nat.zero_le _⟩ dX12_isBlocked_26 29 rfl (fun x_4 hF => ?_)
    refine w_if_eq X hF 36 32 dX12_isBlocked_29 (by decide) rfl (fun hF => ?_) (fun hF => ?_)
    · refine w_iconst X 0 dX12_isBlocked_36 rfl 37 rfl ?_
      exact w_iret X hQ (o_inj1 hF) (o_inj2 hF) rfl dX12_isBlocked_37
    · refine w_iconst X 1 dX12_isBlocked_32 rfl 33 rfl ?_
      refine w_goto X 37 dX12_isBlocked_33 (by decide) ?_
      exact w_iret X hQ (o_inj1 hF) (o_inj2 hF) rfl dX12_isBlocked_37

def K_X12_isGate_23 (fu : Nat) (x1 : Int32) (x2 : Int32) (x3 : Int32) (xs0 : Int32) (mem : Mem) : Option (Int32 × Mem) := bd (K_X12_goes fu xs0 mem) (fun p_3 => (if p_3.1 = 0 then some (0, p_3.2) else bd (K_X12_isGateOf fu x1 x2 x3 p_3.2) (fun p_4 => (if p_4.1 = 0 then some (0, p_4.2) else some (1, p_4.2)))))
def K_X12_isGate_22 (fu : Nat) (x1 : Int32) (x2 : Int32) (x3 : Int32) (mem : Mem) : Option (Int32 × Mem) := (K_X12_isGate_23 fu x1 x2 x3 0 mem)
def K_X12_isGate (fu : Nat) (x1 : Int32) (x2 : Int32) (x3 : Int32) (mem : Mem) : Option (Int32 × Mem) := bd (K_X12_isPawn fu x1 mem) (fun x_1 => (if x_1 = 0 then (K_X12_isGate_22 fu x1 x2 x3 mem) else bd (K_X12_isCell fu x2 x3 mem) (fun x_2 => (if x_2 = 0 then (K_X12_isGate_22 fu x1 x2 x3 mem) else (K_X12_isGate_23 fu x1 x2 x3 1 mem)))))
def rm_X12_isGate : Room := { frames := 7, cells := 0, slots := 0, locals := 167 }
set_option maxHeartbeats 4000000 in
set_option maxRecDepth 100000 in
theorem ct_X12_isGate (l : Launch) {D : va_G} {ca ad : Nat → Nat} {Z : (Nat → Prop) → State → Heap → Prop} (hZ : ZOK Z) (fu : Nat) (x1 : Int32) (x2 : Int32) (x3 : Int32) (mem : Mem) (res : (Int32 × Mem)) (hF : K_X12_isGate fu x1 x2 x3 mem = some res) : CI l D (tyL ca) 23 ad (cM ca ad) Z yX12_isGate cX12_isGate 4 .boolean rm_X12_isGate [.ref (ad 0), .int x1, .int x2, .int x3] mem res.1 res.2 := by
  refine start_i (own := RX12) rfl (by decide) (Nat.le_of_ble_eq_true rfl) ?_
  intro p e s m args below meth c Q hQ X
  rw [K_X12_isGate] at hF
  revert hF
  have w_23 : ∀ (x1 : Int32) (x2 : Int32) (x3 : Int32) (xs0 : Int32) (mem : Mem), K_X12_isGate_23 fu x1 x2 x3 xs0 mem = some res → WW D 23 ad (cM ca ad) p l e rm_X12_isGate s m args below meth c 4 0 0 Q mem 23 [(0, .ref (ad 0)), (1, .int x1), (2, .int x2), (3, .int x3)] [.int xs0, .ref (ad 0)] := by
    intro x1 x2 x3 xs0 mem hF
    rw [K_X12_isGate_23] at hF
    refine w_callVi (fun x => x.1) (fun x => x.2) X hZ hF [.int xs0] 0 ml_0 mo_0 rfl rfl rfl kB_X12_goes kL_X12_98 (fun res h => ct_X12_goes l hZ fu xs0 mem res h) rfl rfl rfl ⟨Nat.le_of_ble_eq_true rfl, Nat.le_of_ble_eq_true rfl⟩ (Nat.le_of_ble_eq_true rfl) ⟨Nat.zero_le _, Nat.zero_le _⟩ dX12_isGate_23 26 rfl (fun p_3 hF => ?_)
    refine w_if_eq X hF 43 29 dX12_isGate_26 (by decide) rfl (fun hF => ?_) (fun hF => ?_)
    · refine w_iconst X 0 dX12_isGate_43 rfl 44 rfl ?_
      exact w_iret X hQ (o_inj1 hF) (o_inj2 hF) rfl dX12_isGate_44
    · refine w_aload_n X 0 dX12_isGate_29 rfl rfl 30 rfl ?_
      refine w_iload_n X 1 dX12_isGate_30 rfl rfl 31 rfl ?_
      refine w_iload_n X 2 dX12_isGate_31 rfl rfl 32 rfl ?_
      refine w_iload_n X 3 dX12_isGate_32 rfl rfl 33 rfl ?_
      refine w_callVi (fun x => x.1) (fun x => x.2) X hZ hF [.int x1, .int x2, .int x3] 0 ml_0 mo_0 rfl rfl rfl kB_X12_isGateOf kL_X12_392 (fun res h => ct_X12_isGateOf l hZ fu x1 x2 x3 p_3.2 res h) rfl rfl rfl ⟨Nat.le_of_ble_eq_true rfl, Nat.le_of_ble_eq_true rfl⟩ (Nat.le_of_ble_eq_true rfl) ⟨Nat.zero_le _, Nat.zero_le _⟩ dX12_isGate_33 36 rfl (fun p_4 hF => ?_)
      refine w_if_eq X hF 43 39 dX12_isGate_36 (by decide) rfl (fun hF => ?_) (fun hF => ?_)
      · refine w_iconst X 0 dX12_isGate_43 rfl 44 rfl ?_
        exact w_iret X hQ (o_inj1 hF) (o_inj2 hF) rfl dX12_isGate_44
      · refine w_iconst X 1 dX12_isGate_39 rfl 40 rfl ?_
        refine w_goto X 44 dX12_isGate_40 (by decide) ?_
        exact w_iret X hQ (o_inj1 hF) (o_inj2 hF) rfl dX12_isGate_44
  have w_22 : ∀ (x1 : Int32) (x2 : Int32) (x3 : Int32) (mem : Mem), K_X12_isGate_22 fu x1 x2 x3 mem = some res → WW D 23 ad (cM ca ad) p l e rm_X12_isGate s m args below meth c 4 0 0 Q mem 22 [(0, .ref (ad 0)), (1, .int x1), (2, .int x2), (3, .int x3)] [.ref (ad 0)] := by
    intro x1 x2 x3 mem hF
    rw [K_X12_isGate_22] at hF
    refine w_iconst X 0 dX12_isGate_22 rfl 23 rfl ?_
    refine w_keep [0, 1, 2, 3] rfl ?_
    exact w_23 x1 x2 x3 0 mem hF
  intro hF
  refine w_aload_n X 0 dX12_isGate_0 rfl rfl 1 rfl ?_
  refine w_aload_n X 0 dX12_isGate_1 rfl rfl 2 rfl ?_
  refine w_iload_n X 1 dX12_isGate_2 rfl rfl 3 rfl ?_
  refine w_callVi (fun x => x) (fun _ => mem) X hZ hF [.int x1] 0 ml_0 mo_0 rfl rfl rfl kB_X12_isPawn kL_X12_339 (fun res h => ct_X12_isPawn l hZ fu x1 mem res h) rfl rfl rfl ⟨Nat.le_of_ble_eq_true rfl, Nat.le_of_ble_eq_true rfl⟩ (Nat.le_of_ble_eq_true rfl) ⟨Nat.zero_le _, Nat.zero_le _⟩ dX12_isGate_3 6 rfl (fun x_1 hF => ?_)
  refine w_if_eq X hF 22 9 dX12_isGate_6 (by decide) rfl (fun hF => ?_) (fun hF => ?_)
  · refine w_keep [0, 1, 2, 3] rfl ?_
    exact w_22 x1 x2 x3 mem hF
  · refine w_aload_n X 0 dX12_isGate_9 rfl rfl 10 rfl ?_
    refine w_iload_n X 2 dX12_isGate_10 rfl rfl 11 rfl ?_
    refine w_iload_n X 3 dX12_isGate_11 rfl rfl 12 rfl ?_
    refine w_callVi (fun x => x) (fun _ => mem) X hZ hF [.int x2, .int x3] 0 ml_0 mo_0 rfl rfl rfl kB_X12_isCell kL_X12_187 (fun res h => ct_X12_isCell l hZ fu x2 x3 mem res h) rfl rfl rfl ⟨Nat.le_of_ble_eq_true rfl, Nat.le_of_ble_eq_true rfl⟩ (Nat.le_of_ble_eq_true rfl) ⟨Nat.zero_le _, Nat.zero_le _⟩ dX12_isGate_12 15 rfl (fun x_2 hF => ?_)
    refine w_if_eq X hF 22 18 dX12_isGate_15 (by decide) rfl (fun hF => ?_) (fun hF => ?_)
    · refine w_keep [0, 1, 2, 3] rfl ?_
      exact w_22 x1 x2 x3 mem hF
    · refine w_iconst X 1 dX12_isGate_18 rfl 19 rfl ?_
      refine w_goto X 23 dX12_isGate_19 (by decide) ?_
      refine w_keep [0, 1, 2, 3] rfl ?_
      exact w_23 x1 x2 x3 1 mem hF

def K_X12_isNearer (fu : Nat) (x1 : Int32) (x2 : Int32) (mem : Mem) : Option Int32 := lt_ (x1 - x1 / 9 * 9) (fun x_1 => lt_ (x1 / 9) (fun x_2 => bd (K_X12_blocks fu x_1 x_2 x2 mem) (fun x_3 => (if x_3 = 0 then bd (K_X12_up fu x2 mem) (fun x_4 => bd (K_X12_across fu x2 mem) (fun x_5 => gi ((x1 + (9 * x_4)) + x_5) 81 (gi x1 81 ((if (rd mem 7 (Int32.toNatClampNeg ((x1 + (9 * x_4)) + x_5))) = ((rd mem 7 (Int32.toNatClampNeg x1)) - 1) then some 1 else some 0))))) else some 0))))
def rm_X12_isNearer : Room := { frames := 4, cells := 0, slots := 0, locals := 96 }
set_option maxHeartbeats 4000000 in
set_option maxRecDepth 100000 in
theorem ct_X12_isNearer (l : Launch) {D : va_G} {ca ad : Nat → Nat} {Z : (Nat → Prop) → State → Heap → Prop} (hZ : ZOK Z) (fu : Nat) (x1 : Int32) (x2 : Int32) (mem : Mem) (res : Int32) (hF : K_X12_isNearer fu x1 x2 mem = some res) : CI l D (tyL ca) 23 ad (cM ca ad) Z yX12_isNearer cX12_isNearer 3 .boolean rm_X12_isNearer [.ref (ad 0), .int x1, .int x2] mem res mem := by
  refine start_i (own := RX12) rfl (by decide) (Nat.le_of_ble_eq_true rfl) ?_
  intro p e s m args below meth c Q hQ X
  rw [K_X12_isNearer] at hF
  revert hF
  intro hF
  refine w_aload_n X 0 dX12_isNearer_0 rfl rfl 1 rfl ?_
  refine w_iload_n X 1 dX12_isNearer_1 rfl rfl 2 rfl ?_
  refine w_bipush X 9 dX12_isNearer_2 rfl 4 rfl ?_
  refine w_irem X (by decide) dX12_isNearer_4 5 rfl ?_
  refine w_let hF (fun x_1 hF => ?_)
  refine w_iload_n X 1 dX12_isNearer_5 rfl rfl 6 rfl ?_
  refine w_bipush X 9 dX12_isNearer_6 rfl 8 rfl ?_
  refine w_idiv X (by decide) dX12_isNearer_8 9 rfl ?_
  refine w_let hF (fun x_2 hF => ?_)
  refine w_iload_n X 2 dX12_isNearer_9 rfl rfl 10 rfl ?_
  refine w_callVi (fun x => x) (fun _ => mem) X hZ hF [.int x_1, .int x_2, .int x2] 0 ml_0 mo_0 rfl rfl rfl kB_X12_blocks kL_X12_210 (fun res h => ct_X12_blocks l hZ fu x_1 x_2 x2 mem res h) rfl rfl rfl ⟨Nat.le_of_ble_eq_true rfl, Nat.le_of_ble_eq_true rfl⟩ (Nat.le_of_ble_eq_true rfl) ⟨Nat.zero_le _, Nat.zero_le _⟩ dX12_isNearer_10 13 rfl (fun x_3 hF => ?_)
  refine w_if_ne X hF 50 16 dX12_isNearer_13 (by decide) rfl (fun hF => ?_) (fun hF => ?_)
  · refine w_aload_n X 0 dX12_isNearer_16 rfl rfl 17 rfl ?_
    refine w_getV (v := .ref (ad 7)) X 0 ml_0 mo_0 (T := TX12) (N := 50) rfl in_X12 20 (by decide) kF_X12_35 rfl rfl dX12_isNearer_17 20 rfl ?_
    refine w_iload_n X 1 dX12_isNearer_20 rfl rfl 21 rfl ?_
    refine w_bipush X 9 dX12_isNearer_21 rfl 23 rfl ?_
    refine w_iload_n X 2 dX12_isNearer_23 rfl rfl 24 rfl ?_
    refine w_callSi (fun x => x) (fun _ => mem) X hZ hF [.int x2] rfl kB_X12_up kL_X12_184 (fun res h => ct_X12_up l hZ fu x2 mem res h) rfl rfl rfl ⟨Nat.le_of_ble_eq_true rfl, Nat.le_of_ble_eq_true rfl⟩ (Nat.le_of_ble_eq_true rfl) ⟨Nat.zero_le _, Nat.zero_le _⟩ dX12_isNearer_24 27 rfl (fun x_4 hF => ?_)
    refine w_imul X dX12_isNearer_27 28 rfl ?_
    refine w_iadd X dX12_isNearer_28 29 rfl ?_
    refine w_iload_n X 2 dX12_isNearer_29 rfl rfl 30 rfl ?_
    refine w_callSi (fun x => x) (fun _ => mem) X hZ hF [.int x2] rfl kB_X12_across kL_X12_181 (fun res h => ct_X12_across l hZ fu x2 mem res h) rfl rfl rfl ⟨Nat.le_of_ble_eq_true rfl, Nat.le_of_ble_eq_true rfl⟩ (Nat.le_of_ble_eq_true rfl) ⟨Nat.zero_le _, Nat.zero_le _⟩ dX12_isNearer_30 33 rfl (fun x_5 hF => ?_)
    refine w_iadd X dX12_isNearer_33 34 rfl ?_
    refine w_gi hF (fun h_6 hF => ?_)
    refine w_ial X 7 ml_7 mo_7 (t0 := 0) rfl h_6 dX12_isNearer_34 35 rfl ?_
    refine w_aload_n X 0 dX12_isNearer_35 rfl rfl 36 rfl ?_
    refine w_getV (v := .ref (ad 7)) X 0 ml_0 mo_0 (T := TX12) (N := 50) rfl in_X12 20 (by decide) kF_X12_35 rfl rfl dX12_isNearer_36 39 rfl ?_
    refine w_iload_n X 1 dX12_isNearer_39 rfl rfl 40 rfl ?_
    refine w_gi hF (fun h_7 hF => ?_)
    refine w_ial X 7 ml_7 mo_7 (t0 := 0) rfl h_7 dX12_isNearer_40 41 rfl ?_
    refine w_iconst X 1 dX12_isNearer_41 rfl 42 rfl ?_
    refine w_isub X dX12_isNearer_42 43 rfl ?_
    refine w_icmp_ne X hF 50 46 dX12_isNearer_43 (by decide) rfl (fun hF => ?_) (fun hF => ?_)
    · refine w_iconst X 1 dX12_isNearer_46 rfl 47 rfl ?_
      refine w_goto X 51 dX12_isNearer_47 (by decide) ?_
      exact w_iret X hQ (o_inj hF) rfl rfl dX12_isNearer_51
    · refine w_iconst X 0 dX12_isNearer_50 rfl 51 rfl ?_
      exact w_iret X hQ (o_inj hF) rfl rfl dX12_isNearer_51
  · refine w_iconst X 0 dX12_isNearer_50 rfl 51 rfl ?_
    exact w_iret X hQ (o_inj hF) rfl rfl dX12_isNearer_51

def K_X12_isOver (fu : Nat) (mem : Mem) : Option (Int32 × Mem) := lt_ (mw mem 0 0 0) (fun m_1 => bd (K_X12_over fu m_1) (fun x_2 => gb x_2 (some (x_2, m_1))))
def rm_X12_isOver : Room := { frames := 1, cells := 0, slots := 0, locals := 20 }
set_option maxHeartbeats 4000000 in
set_option maxRecDepth 100000 in
theorem ct_X12_isOver (l : Launch) {D : va_G} {ca ad : Nat → Nat} {Z : (Nat → Prop) → State → Heap → Prop} (hZ : ZOK Z) (fu : Nat) (mem : Mem) (res : (Int32 × Mem)) (hF : K_X12_isOver fu mem = some res) : CI l D (tyL ca) 23 ad (cM ca ad) Z yX12_isOver cX12_isOver 1 .boolean rm_X12_isOver [.ref (ad 0)] mem res.1 res.2 := by
  refine start_i (own := RX12) rfl (by decide) (Nat.le_of_ble_eq_true rfl) ?_
  intro p e s m args below meth c Q hQ X
  rw [K_X12_isOver] at hF
  revert hF
  intro hF
  refine w_aload_n X 0 dX12_isOver_0 rfl rfl 1 rfl ?_
  refine w_iconst X 0 dX12_isOver_1 rfl 2 rfl ?_
  refine w_putI X 0 ml_0 mo_0 (T := TX12) (N := 50) rfl in_X12 tyX12 tyX12_ok nmX12 0 (by decide) kF_X12_88 rfl rfl rfl rfl (Nat.le_of_ble_eq_true rfl) rfl dX12_isOver_2 5 rfl ?_
  refine w_letm hF (fun m_1 hF => ?_)
  refine w_aload_n X 0 dX12_isOver_5 rfl rfl 6 rfl ?_
  refine w_callVi (fun x => x) (fun _ => m_1) X hZ hF [] 0 ml_0 mo_0 rfl rfl rfl kB_X12_over kL_X12_351 (fun res h => ct_X12_over l hZ fu m_1 res h) rfl rfl rfl ⟨Nat.le_of_ble_eq_true rfl, Nat.le_of_ble_eq_true rfl⟩ (Nat.le_of_ble_eq_true rfl) ⟨Nat.zero_le _, Nat.zero_le _⟩ dX12_isOver_6 9 rfl (fun x_2 hF => ?_)
  refine w_gb hF (fun h_3 hF => ?_)
  exact w_iret X hQ (o_inj1 hF) (o_inj2 hF) (bool_nar h_3) dX12_isOver_9

def K_X12_leader (fu : Nat) (mem : Mem) : Option (Int32 × Mem) := lt_ (mw mem 0 0 0) (fun m_1 => bd (K_X12_nearest fu (-1) m_1) (fun p_2 => some (p_2.1, p_2.2)))
def rm_X12_leader : Room := { frames := 8, cells := 0, slots := 0, locals := 189 }
set_option maxHeartbeats 4000000 in
set_option maxRecDepth 100000 in
theorem ct_X12_leader (l : Launch) {D : va_G} {ca ad : Nat → Nat} {Z : (Nat → Prop) → State → Heap → Prop} (hZ : ZOK Z) (fu : Nat) (mem : Mem) (res : (Int32 × Mem)) (hF : K_X12_leader fu mem = some res) : CI l D (tyL ca) 23 ad (cM ca ad) Z yX12_leader cX12_leader 1 .int rm_X12_leader [.ref (ad 0)] mem res.1 res.2 := by
  refine start_i (own := RX12) rfl (by decide) (Nat.le_of_ble_eq_true rfl) ?_
  intro p e s m args below meth c Q hQ X
  rw [K_X12_leader] at hF
  revert hF
  intro hF
  refine w_aload_n X 0 dX12_leader_0 rfl rfl 1 rfl ?_
  refine w_iconst X 0 dX12_leader_1 rfl 2 rfl ?_
  refine w_putI X 0 ml_0 mo_0 (T := TX12) (N := 50) rfl in_X12 tyX12 tyX12_ok nmX12 0 (by decide) kF_X12_88 rfl rfl rfl rfl (Nat.le_of_ble_eq_true rfl) rfl dX12_leader_2 5 rfl ?_
  refine w_letm hF (fun m_1 hF => ?_)
  refine w_aload_n X 0 dX12_leader_5 rfl rfl 6 rfl ?_
  refine w_iconst X (-1) dX12_leader_6 rfl 7 rfl ?_
  refine w_callVi (fun x => x.1) (fun x => x.2) X hZ hF [.int (-1)] 0 ml_0 mo_0 rfl rfl rfl kB_X12_nearest kL_X12_417 (fun res h => ct_X12_nearest l hZ fu (-1) m_1 res h) rfl rfl rfl ⟨Nat.le_of_ble_eq_true rfl, Nat.le_of_ble_eq_true rfl⟩ (Nat.le_of_ble_eq_true rfl) ⟨Nat.zero_le _, Nat.zero_le _⟩ dX12_leader_7 10 rfl (fun p_2 hF => ?_)
  exact w_iret X hQ (o_inj1 hF) (o_inj2 hF) rfl dX12_leader_10

def K_X12_mustWord_20 (fu : Nat) (mem : Mem) : Option Mem := bd (K_X12_isGood fu mem) (fun x_4 => (if x_4 = 0 then some mem else bd (K_X12_goOn fu mem) (fun m_5 => some m_5)))
def K_X12_mustWord (fu : Nat) (x1 : Int64) (mem : Mem) : Option Mem := bd (K_X12_isGood fu mem) (fun x_1 => (if x_1 = 0 then (K_X12_mustWord_20 fu mem) else bd (K_X12_isWord fu x1 mem) (fun x_2 => (if x_2 = 0 then bd (K_X12_wrong fu 1 mem) (fun m_3 => (K_X12_mustWord_20 fu m_3)) else (K_X12_mustWord_20 fu mem)))))
def rm_X12_mustWord : Room := { frames := 2, cells := 0, slots := 0, locals := 43 }
set_option maxHeartbeats 4000000 in
set_option maxRecDepth 100000 in
theorem ct_X12_mustWord (l : Launch) {D : va_G} {ca ad : Nat → Nat} {Z : (Nat → Prop) → State → Heap → Prop} (hZ : ZOK Z) (fu : Nat) (x1 : Int64) (mem : Mem) (res : Mem) (hF : K_X12_mustWord fu x1 mem = some res) : CV l D (tyL ca) 23 ad (cM ca ad) Z yX12_mustWord cX12_mustWord 3 rm_X12_mustWord [.ref (ad 0), .long x1] mem res := by
  refine start_v (own := RX12) rfl (by decide) (Nat.le_of_ble_eq_true rfl) ?_
  intro p e s m args below meth c Q hQ X
  rw [K_X12_mustWord] at hF
  revert hF
  have w_20 : ∀ (mem : Mem), K_X12_mustWord_20 fu mem = some res → WW D 23 ad (cM ca ad) p l e rm_X12_mustWord s m args below meth c 3 0 0 Q mem 20 [(0, .ref (ad 0))] [] := by
    intro mem hF
    rw [K_X12_mustWord_20] at hF
    refine w_aload_n X 0 dX12_mustWord_20 rfl rfl 21 rfl ?_
    refine w_callVi (fun x => x) (fun _ => mem) X hZ hF [] 0 ml_0 mo_0 rfl rfl rfl kB_X12_isGood kL_X12_143 (fun res h => ct_X12_isGood l hZ fu mem res h) rfl rfl rfl ⟨Nat.le_of_ble_eq_true rfl, Nat.le_of_ble_eq_true rfl⟩ (Nat.le_of_ble_eq_true rfl) ⟨Nat.zero_le _, Nat.zero_le _⟩ dX12_mustWord_21 24 rfl (fun x_4 hF => ?_)
    refine w_if_eq X hF 31 27 dX12_mustWord_24 (by decide) rfl (fun hF => ?_) (fun hF => ?_)
    · exact w_vret X hQ (o_inj hF) dX12_mustWord_31
    · refine w_aload_n X 0 dX12_mustWord_27 rfl rfl 28 rfl ?_
      refine w_callVv (fun m => m) X hZ hF [] 0 ml_0 mo_0 rfl rfl rfl kB_X12_goOn kL_X12_153 (fun res h => ct_X12_goOn l hZ fu mem res h) rfl rfl rfl ⟨Nat.le_of_ble_eq_true rfl, Nat.le_of_ble_eq_true rfl⟩ (Nat.le_of_ble_eq_true rfl) ⟨Nat.zero_le _, Nat.zero_le _⟩ dX12_mustWord_28 31 rfl (fun m_5 hF => ?_)
      exact w_vret X hQ (o_inj hF) dX12_mustWord_31
  intro hF
  refine w_aload_n X 0 dX12_mustWord_0 rfl rfl 1 rfl ?_
  refine w_callVi (fun x => x) (fun _ => mem) X hZ hF [] 0 ml_0 mo_0 rfl rfl rfl kB_X12_isGood kL_X12_143 (fun res h => ct_X12_isGood l hZ fu mem res h) rfl rfl rfl ⟨Nat.le_of_ble_eq_true rfl, Nat.le_of_ble_eq_true rfl⟩ (Nat.le_of_ble_eq_true rfl) ⟨Nat.zero_le _, Nat.zero_le _⟩ dX12_mustWord_1 4 rfl (fun x_1 hF => ?_)
  refine w_if_eq X hF 20 7 dX12_mustWord_4 (by decide) rfl (fun hF => ?_) (fun hF => ?_)
  · refine w_keep [0] rfl ?_
    exact w_20 mem hF
  · refine w_aload_n X 0 dX12_mustWord_7 rfl rfl 8 rfl ?_
    refine w_lload_n X 1 dX12_mustWord_8 rfl rfl 9 rfl ?_
    refine w_callVi (fun x => x) (fun _ => mem) X hZ hF [.long x1] 0 ml_0 mo_0 rfl rfl rfl kB_X12_isWord kL_X12_156 (fun res h => ct_X12_isWord l hZ fu x1 mem res h) rfl rfl rfl ⟨Nat.le_of_ble_eq_true rfl, Nat.le_of_ble_eq_true rfl⟩ (Nat.le_of_ble_eq_true rfl) ⟨Nat.zero_le _, Nat.zero_le _⟩ dX12_mustWord_9 12 rfl (fun x_2 hF => ?_)
    refine w_if_ne X hF 20 15 dX12_mustWord_12 (by decide) rfl (fun hF => ?_) (fun hF => ?_)
    · refine w_aload_n X 0 dX12_mustWord_15 rfl rfl 16 rfl ?_
      refine w_iconst X 1 dX12_mustWord_16 rfl 17 rfl ?_
      refine w_callVv (fun m => m) X hZ hF [.int 1] 0 ml_0 mo_0 rfl rfl rfl kB_X12_wrong kL_X12_150 (fun res h => ct_X12_wrong l hZ fu 1 mem res h) rfl rfl rfl ⟨Nat.le_of_ble_eq_true rfl, Nat.le_of_ble_eq_true rfl⟩ (Nat.le_of_ble_eq_true rfl) ⟨Nat.zero_le _, Nat.zero_le _⟩ dX12_mustWord_17 20 rfl (fun m_3 hF => ?_)
      refine w_keep [0] rfl ?_
      exact w_20 m_3 hF
    · refine w_keep [0] rfl ?_
      exact w_20 mem hF

def K_X12_named_4 (fu : Nat) (mem : Mem) : Nat → Int32 → Int32 → Option Int32
  | 0, _, _ => none
  | n + 1, x1, x2 => gi 2 184 ((if x2 < (rd mem 2 (Int32.toNatClampNeg 2)) then gi x2 4 ((if (lg_cmp (rl mem 9 (Int32.toNatClampNeg x2)) (rl mem 0 12)) = 0 then (K_X12_named_4 fu mem n x2 (x2 + 1) ) else (K_X12_named_4 fu mem n x1 (x2 + 1) ))) else some x1))
def K_X12_named (fu : Nat) (mem : Mem) : Option Int32 := (K_X12_named_4 fu mem fu (-1) 0 )
def rm_X12_named : Room := { frames := 0, cells := 0, slots := 0, locals := 0 }
set_option maxHeartbeats 4000000 in
set_option maxRecDepth 100000 in
theorem ct_X12_named (l : Launch) {D : va_G} {ca ad : Nat → Nat} {Z : (Nat → Prop) → State → Heap → Prop} (hZ : ZOK Z) (fu : Nat) (mem : Mem) (res : Int32) (hF : K_X12_named fu mem = some res) : CI l D (tyL ca) 23 ad (cM ca ad) Z yX12_named cX12_named 3 .int rm_X12_named [.ref (ad 0)] mem res mem := by
  refine start_i (own := RX12) rfl (by decide) (Nat.le_of_ble_eq_true rfl) ?_
  intro p e s m args below meth c Q hQ X
  rw [K_X12_named] at hF
  revert hF
  have w_4 : ∀ (n : Nat) (x1 : Int32) (x2 : Int32), K_X12_named_4 fu mem n x1 x2 = some res → WW D 23 ad (cM ca ad) p l e rm_X12_named s m args below meth c 3 0 0 Q mem 4 [(0, .ref (ad 0)), (1, .int x1), (2, .int x2)] [] := by
    intro n
    induction n with
    | zero => intro x1 x2 hF; exact no_none (show (none : Option Int32) = some res from hF)
    | succ n ih =>
      intro x1 x2 hF
      rw [K_X12_named_4] at hF
      refine w_iload_n X 2 dX12_named_4 rfl rfl 5 rfl ?_
      refine w_aload_n X 0 dX12_named_5 rfl rfl 6 rfl ?_
      refine w_getV (v := .ref (ad 2)) X 0 ml_0 mo_0 (T := TX12) (N := 50) rfl in_X12 13 (by decide) kF_X12_20 rfl rfl dX12_named_6 9 rfl ?_
      refine w_iconst X 2 dX12_named_9 rfl 10 rfl ?_
      refine w_gi hF (fun h_1 hF => ?_)
      refine w_ial X 2 ml_2 mo_2 (t0 := 0) rfl h_1 dX12_named_10 11 rfl ?_
      refine w_icmp_ge X hF 40 14 dX12_named_11 (by decide) rfl (fun hF => ?_) (fun hF => ?_)
      · refine w_aload_n X 0 dX12_named_14 rfl rfl 15 rfl ?_
        refine w_getV (v := .ref (ad 9)) X 0 ml_0 mo_0 (T := TX12) (N := 50) rfl in_X12 23 (by decide) kF_X12_41 rfl rfl dX12_named_15 18 rfl ?_
        refine w_iload_n X 2 dX12_named_18 rfl rfl 19 rfl ?_
        refine w_gi hF (fun h_2 hF => ?_)
        refine w_lal X 9 ml_9 mo_9 (t0 := 5) rfl h_2 dX12_named_19 20 rfl ?_
        refine w_aload_n X 0 dX12_named_20 rfl rfl 21 rfl ?_
        refine w_getV (v := .long (rl mem 0 12)) X 0 ml_0 mo_0 (T := TX12) (N := 50) rfl in_X12 12 (by decide) kF_X12_123 rfl rfl dX12_named_21 24 rfl ?_
        refine w_lcmp X dX12_named_24 25 rfl ?_
        refine w_if_ne X hF 32 28 dX12_named_25 (by decide) rfl (fun hF => ?_) (fun hF => ?_)
        · refine w_iload_n X 2 dX12_named_28 rfl rfl 29 rfl ?_
          refine w_goto X 33 dX12_named_29 (by decide) ?_
          refine w_istore_n X [(1, .int x2), (0, .ref (ad 0)), (2, .int x2)] dX12_named_33 rfl (by decide) rfl 34 rfl ?_
          refine w_iinc X 2 (x2 + 1) [(2, .int (x2 + 1)), (1, .int x2), (0, .ref (ad 0))] dX12_named_34 rfl rfl (by decide) rfl 37 rfl ?_
          refine w_goto X 4 dX12_named_37 (by decide) ?_
          refine w_keep [2, 1, 0] rfl ?_
          exact ih x2 (x2 + 1)  hF
        · refine w_iload_n X 1 dX12_named_32 rfl rfl 33 rfl ?_
          refine w_istore_n X [(1, .int x1), (0, .ref (ad 0)), (2, .int x2)] dX12_named_33 rfl (by decide) rfl 34 rfl ?_
          refine w_iinc X 2 (x2 + 1) [(2, .int (x2 + 1)), (1, .int x1), (0, .ref (ad 0))] dX12_named_34 rfl rfl (by decide) rfl 37 rfl ?_
          refine w_goto X 4 dX12_named_37 (by decide) ?_
          refine w_keep [2, 1, 0] rfl ?_
          exact ih x1 (x2 + 1)  hF
      · refine w_iload_n X 1 dX12_named_40 rfl rfl 41 rfl ?_
        exact w_iret X hQ (o_inj hF) rfl rfl dX12_named_41
  intro hF
  refine w_iconst X (-1) dX12_named_0 rfl 1 rfl ?_
  refine w_istore_n X [(1, .int (-1)), (0, .ref (ad 0))] dX12_named_1 rfl (by decide) rfl 2 rfl ?_
  refine w_iconst X 0 dX12_named_2 rfl 3 rfl ?_
  refine w_istore_n X [(2, .int 0), (1, .int (-1)), (0, .ref (ad 0))] dX12_named_3 rfl (by decide) rfl 4 rfl ?_
  refine w_keep [2, 1, 0] rfl ?_
  exact w_4 fu (-1) 0  hF

def K_X12_onWays_108 (fu : Nat) (k_77 : Int32 → Int32 → Mem → Option (Int32 × Mem)) : Nat → Int32 → Int32 → Int32 → Int32 → Mem → Option (Int32 × Mem)
  | 0, _, _, _, _, _ => none
  | n + 1, x2, x3, x4, x5, mem => (if x5 < 4 then bd (K_X12_isNearer fu x4 x5 mem) (fun x_13 => (if x_13 = 0 then (K_X12_onWays_108 fu k_77 n x2 x3 x4 (x5 + 1) mem) else bd (K_X12_up fu x5 mem) (fun x_14 => bd (K_X12_across fu x5 mem) (fun x_15 => gi ((x4 + (9 * x_14)) + x_15) 81 (lt_ (mw mem 11 (Int32.toNatClampNeg ((x4 + (9 * x_14)) + x_15)) (vp_nar .boolean 1)) (fun m_17 => (K_X12_onWays_108 fu k_77 n x2 x3 x4 (x5 + 1) m_17))))))) else (k_77 x2 (x3 + (-1)) mem))
def K_X12_onWays_77 (fu : Nat) : Nat → Int32 → Int32 → Mem → Option (Int32 × Mem)
  | 0, _, _, _ => none
  | n + 1, x2, x3, mem => (if x3 < 0 then some (x2, mem) else gi x3 81 (lt_ (rd mem 8 (Int32.toNatClampNeg x3)) (fun x_11 => gi x_11 81 ((if (rd mem 11 (Int32.toNatClampNeg x_11)) = 0 then (K_X12_onWays_77 fu n x2 (x3 + (-1)) mem) else (K_X12_onWays_108 fu (K_X12_onWays_77 fu n) fu (x2 + 1) x3 x_11 0 mem))))))
def K_X12_onWays_61 (fu : Nat) (k_36 : Int32 → Int32 → Mem → Option (Int32 × Mem)) (x1 : Int32) (x2 : Int32) (xs0 : Int32) (xs1 : Int32) (mem : Mem) : Option (Int32 × Mem) := gi xs1 81 (lt_ (mw mem 11 (Int32.toNatClampNeg xs1) (vp_nar .boolean xs0)) (fun m_9 => (k_36 x1 (x2 + 1) m_9)))
def K_X12_onWays_36 (fu : Nat) : Nat → Int32 → Int32 → Mem → Option (Int32 × Mem)
  | 0, _, _, _ => none
  | n + 1, x1, x2, mem => (if x2 < 81 then bd (K_X12_cellOf fu x1 mem) (fun x_6 => (if x2 = x_6 then (K_X12_onWays_61 fu (K_X12_onWays_36 fu n) x1 x2 1 x2 mem) else (K_X12_onWays_61 fu (K_X12_onWays_36 fu n) x1 x2 0 x2 mem))) else lt_ ((rd mem 0 22) - 1) (fun x_7 => (K_X12_onWays_77 fu fu 0 x_7 mem)))
def K_X12_onWays (fu : Nat) (x1 : Int32) (mem : Mem) : Option (Int32 × Mem) := bd (K_X12_isPawn fu x1 mem) (fun x_1 => bd (K_X12_goes fu x_1 mem) (fun p_2 => (if p_2.1 = 0 then some (0, p_2.2) else bd (K_X12_hasFinished fu x1 p_2.2) (fun x_3 => (if x_3 = 0 then bd (K_X12_of fu x1 2 p_2.2) (fun x_4 => bd (K_X12_lays fu x_4 p_2.2) (fun m_5 => (K_X12_onWays_36 fu fu x1 0 m_5))) else some (1, p_2.2))))))
def rm_X12_onWays : Room := { frames := 6, cells := 0, slots := 0, locals := 143 }
set_option maxHeartbeats 4000000 in
set_option maxRecDepth 100000 in
theorem ct_X12_onWays (l : Launch) {D : va_G} {ca ad : Nat → Nat} {Z : (Nat → Prop) → State → Heap → Prop} (hZ : ZOK Z) (fu : Nat) (x1 : Int32) (mem : Mem) (res : (Int32 × Mem)) (hF : K_X12_onWays fu x1 mem = some res) : CI l D (tyL ca) 23 ad (cM ca ad) Z yX12_onWays cX12_onWays 6 .int rm_X12_onWays [.ref (ad 0), .int x1] mem res.1 res.2 := by
  refine start_i (own := RX12) rfl (by decide) (Nat.le_of_ble_eq_true rfl) ?_
  intro p e s m args below meth c Q hQ X
  rw [K_X12_onWays] at hF
  revert hF
  have w_108 : ∀ (k_77 : Int32 → Int32 → Mem → Option (Int32 × Mem)) (hk_77 : ∀ (x2 : Int32) (x3 : Int32) (mem : Mem), k_77 x2 x3 mem = some res → WW D 23 ad (cM ca ad) p l e rm_X12_onWays s m args below meth c 6 0 0 Q mem 77 [(0, .ref (ad 0)), (2, .int x2), (3, .int x3)] []) (n : Nat) (x2 : Int32) (x3 : Int32) (x4 : Int32) (x5 : Int32) (mem : Mem), K_X12_onWays_108 fu k_77 n x2 x3 x4 x5 mem = some res → WW D 23 ad (cM ca ad) p l e rm_X12_onWays s m args below meth c 6 0 0 Q mem 108 [(0, .ref (ad 0)), (2, .int x2), (3, .int x3), (4, .int x4), (5, .int x5)] [] := by
    intro k_77 hk_77 n
    induction n with
    | zero => intro x2 x3 x4 x5 mem hF; exact no_none (show (none : Option (Int32 × Mem)) = some res from hF)
    | succ n ih =>
      intro x2 x3 x4 x5 mem hF
      rw [K_X12_onWays_108] at hF
      refine w_iload X 4 dX12_onWays_108 rfl 110 rfl ?_
      refine w_iconst X 4 dX12_onWays_110 rfl 111 rfl ?_
      refine w_icmp_ge X hF 154 114 dX12_onWays_111 (by decide) rfl (fun hF => ?_) (fun hF => ?_)
      · refine w_aload_n X 0 dX12_onWays_114 rfl rfl 115 rfl ?_
        refine w_iload X 3 dX12_onWays_115 rfl 117 rfl ?_
        refine w_iload X 4 dX12_onWays_117 rfl 119 rfl ?_
        refine w_callVi (fun x => x) (fun _ => mem) X hZ hF [.int x4, .int x5] 0 ml_0 mo_0 rfl rfl rfl kB_X12_isNearer kL_X12_385 (fun res h => ct_X12_isNearer l hZ fu x4 x5 mem res h) rfl rfl rfl ⟨Nat.le_of_ble_eq_true rfl, Nat.le_of_ble_eq_true rfl⟩ (Nat.le_of_ble_eq_true rfl) ⟨Nat.zero_le _, Nat.zero_le _⟩ dX12_onWays_119 122 rfl (fun x_13 hF => ?_)
        refine w_if_eq X hF 148 125 dX12_onWays_122 (by decide) rfl (fun hF => ?_) (fun hF => ?_)
        · refine w_iinc X 4 (x5 + 1) [(5, .int (x5 + 1)), (0, .ref (ad 0)), (2, .int x2), (3, .int x3), (4, .int x4)] dX12_onWays_148 rfl rfl (by decide) rfl 151 rfl ?_
          refine w_goto X 108 dX12_onWays_151 (by decide) ?_
          refine w_keep [1, 2, 3, 4, 0] rfl ?_
          exact ih x2 x3 x4 (x5 + 1) mem hF
        · refine w_aload_n X 0 dX12_onWays_125 rfl rfl 126 rfl ?_
          refine w_getV (v := .ref (ad 11)) X 0 ml_0 mo_0 (T := TX12) (N := 50) rfl in_X12 29 (by decide) kF_X12_48 rfl rfl dX12_onWays_126 129 rfl ?_
          refine w_iload X 3 dX12_onWays_129 rfl 131 rfl ?_
          refine w_bipush X 9 dX12_onWays_131 rfl 133 rfl ?_
          refine w_iload X 4 dX12_onWays_133 rfl 135 rfl ?_
          refine w_callSi (fun x => x) (fun _ => mem) X hZ hF [.int x5] rfl kB_X12_up kL_X12_184 (fun res h => ct_X12_up l hZ fu x5 mem res h) rfl rfl rfl ⟨Nat.le_of_ble_eq_true rfl, Nat.le_of_ble_eq_true rfl⟩ (Nat.le_of_ble_eq_true rfl) ⟨Nat.zero_le _, Nat.zero_le _⟩ dX12_onWays_135 138 rfl (fun x_14 hF => ?_)
          refine w_imul X dX12_onWays_138 139 rfl ?_
          refine w_iadd X dX12_onWays_139 140 rfl ?_
          refine w_iload X 4 dX12_onWays_140 rfl 142 rfl ?_
          refine w_callSi (fun x => x) (fun _ => mem) X hZ hF [.int x5] rfl kB_X12_across kL_X12_181 (fun res h => ct_X12_across l hZ fu x5 mem res h) rfl rfl rfl ⟨Nat.le_of_ble_eq_true rfl, Nat.le_of_ble_eq_true rfl⟩ (Nat.le_of_ble_eq_true rfl) ⟨Nat.zero_le _, Nat.zero_le _⟩ dX12_onWays_142 145 rfl (fun x_15 hF => ?_)
          refine w_iadd X dX12_onWays_145 146 rfl ?_
          refine w_iconst X 1 dX12_onWays_146 rfl 147 rfl ?_
          refine w_gi hF (fun h_16 hF => ?_)
          refine w_zas X 11 ml_11 mo_11 (t0 := 6) rfl h_16 dX12_onWays_147 148 rfl ?_
          refine w_letm hF (fun m_17 hF => ?_)
          refine w_iinc X 4 (x5 + 1) [(5, .int (x5 + 1)), (0, .ref (ad 0)), (2, .int x2), (3, .int x3), (4, .int x4)] dX12_onWays_148 rfl rfl (by decide) rfl 151 rfl ?_
          refine w_goto X 108 dX12_onWays_151 (by decide) ?_
          refine w_keep [1, 2, 3, 4, 0] rfl ?_
          exact ih x2 x3 x4 (x5 + 1) m_17 hF
      · refine w_iinc X 2 (x3 + (-1)) [(3, .int (x3 + (-1))), (0, .ref (ad 0)), (2, .int x2), (4, .int x4), (5, .int x5)] dX12_onWays_154 rfl rfl (by decide) rfl 157 rfl ?_
        refine w_goto X 77 dX12_onWays_157 (by decide) ?_
        refine w_keep [1, 2, 0] rfl ?_
        exact hk_77 x2 (x3 + (-1)) mem hF
  have w_77 : ∀ (n : Nat) (x2 : Int32) (x3 : Int32) (mem : Mem), K_X12_onWays_77 fu n x2 x3 mem = some res → WW D 23 ad (cM ca ad) p l e rm_X12_onWays s m args below meth c 6 0 0 Q mem 77 [(0, .ref (ad 0)), (2, .int x2), (3, .int x3)] [] := by
    intro n
    induction n with
    | zero => intro x2 x3 mem hF; exact no_none (show (none : Option (Int32 × Mem)) = some res from hF)
    | succ n ih =>
      intro x2 x3 mem hF
      rw [K_X12_onWays_77] at hF
      refine w_iload_n X 2 dX12_onWays_77 rfl rfl 78 rfl ?_
      refine w_if_lt X hF 160 81 dX12_onWays_78 (by decide) rfl (fun hF => ?_) (fun hF => ?_)
      · refine w_iload_n X 1 dX12_onWays_160 rfl rfl 161 rfl ?_
        exact w_iret X hQ (o_inj1 hF) (o_inj2 hF) rfl dX12_onWays_161
      · refine w_aload_n X 0 dX12_onWays_81 rfl rfl 82 rfl ?_
        refine w_getV (v := .ref (ad 8)) X 0 ml_0 mo_0 (T := TX12) (N := 50) rfl in_X12 21 (by decide) kF_X12_38 rfl rfl dX12_onWays_82 85 rfl ?_
        refine w_iload_n X 2 dX12_onWays_85 rfl rfl 86 rfl ?_
        refine w_gi hF (fun h_10 hF => ?_)
        refine w_ial X 8 ml_8 mo_8 (t0 := 0) rfl h_10 dX12_onWays_86 87 rfl ?_
        refine w_let hF (fun x_11 hF => ?_)
        refine w_istore X [(4, .int x_11), (0, .ref (ad 0)), (2, .int x2), (3, .int x3)] dX12_onWays_87 (by decide) rfl 89 rfl ?_
        refine w_aload_n X 1 dX12_onWays_89 rfl rfl 90 rfl ?_
        refine w_getV (v := .ref (ad 11)) X 0 ml_0 mo_0 (T := TX12) (N := 50) rfl in_X12 29 (by decide) kF_X12_48 rfl rfl dX12_onWays_90 93 rfl ?_
        refine w_iload X 0 dX12_onWays_93 rfl 95 rfl ?_
        refine w_gi hF (fun h_12 hF => ?_)
        refine w_zal X 11 ml_11 mo_11 (t0 := 6) rfl h_12 dX12_onWays_95 96 rfl ?_
        refine w_if_ne X hF 102 99 dX12_onWays_96 (by decide) rfl (fun hF => ?_) (fun hF => ?_)
        · refine w_goto X 154 dX12_onWays_99 (by decide) ?_
          refine w_iinc X 3 (x3 + (-1)) [(3, .int (x3 + (-1))), (4, .int x_11), (0, .ref (ad 0)), (2, .int x2)] dX12_onWays_154 rfl rfl (by decide) rfl 157 rfl ?_
          refine w_goto X 77 dX12_onWays_157 (by decide) ?_
          refine w_keep [2, 3, 0] rfl ?_
          exact ih x2 (x3 + (-1)) mem hF
        · refine w_iinc X 2 (x2 + 1) [(2, .int (x2 + 1)), (4, .int x_11), (0, .ref (ad 0)), (3, .int x3)] dX12_onWays_102 rfl rfl (by decide) rfl 105 rfl ?_
          refine w_iconst X 0 dX12_onWays_105 rfl 106 rfl ?_
          refine w_istore X [(5, .int 0), (2, .int (x2 + 1)), (4, .int x_11), (0, .ref (ad 0)), (3, .int x3)] dX12_onWays_106 (by decide) rfl 108 rfl ?_
          refine w_keep [3, 1, 4, 2, 0] rfl ?_
          exact w_108 (K_X12_onWays_77 fu n) ih fu (x2 + 1) x3 x_11 0 mem hF
  have w_61 : ∀ (k_36 : Int32 → Int32 → Mem → Option (Int32 × Mem)) (hk_36 : ∀ (x1 : Int32) (x2 : Int32) (mem : Mem), k_36 x1 x2 mem = some res → WW D 23 ad (cM ca ad) p l e rm_X12_onWays s m args below meth c 6 0 0 Q mem 36 [(0, .ref (ad 0)), (1, .int x1), (2, .int x2)] []) (x1 : Int32) (x2 : Int32) (xs0 : Int32) (xs1 : Int32) (mem : Mem), K_X12_onWays_61 fu k_36 x1 x2 xs0 xs1 mem = some res → WW D 23 ad (cM ca ad) p l e rm_X12_onWays s m args below meth c 6 0 0 Q mem 61 [(0, .ref (ad 0)), (1, .int x1), (2, .int x2)] [.int xs0, .int xs1, .ref (ad 11)] := by
    intro k_36 hk_36 x1 x2 xs0 xs1 mem hF
    rw [K_X12_onWays_61] at hF
    refine w_gi hF (fun h_8 hF => ?_)
    refine w_zas X 11 ml_11 mo_11 (t0 := 6) rfl h_8 dX12_onWays_61 62 rfl ?_
    refine w_letm hF (fun m_9 hF => ?_)
    refine w_iinc X 2 (x2 + 1) [(2, .int (x2 + 1)), (0, .ref (ad 0)), (1, .int x1)] dX12_onWays_62 rfl rfl (by decide) rfl 65 rfl ?_
    refine w_goto X 36 dX12_onWays_65 (by decide) ?_
    refine w_keep [1, 2, 0] rfl ?_
    exact hk_36 x1 (x2 + 1) m_9 hF
  have w_36 : ∀ (n : Nat) (x1 : Int32) (x2 : Int32) (mem : Mem), K_X12_onWays_36 fu n x1 x2 mem = some res → WW D 23 ad (cM ca ad) p l e rm_X12_onWays s m args below meth c 6 0 0 Q mem 36 [(0, .ref (ad 0)), (1, .int x1), (2, .int x2)] [] := by
    intro n
    induction n with
    | zero => intro x1 x2 mem hF; exact no_none (show (none : Option (Int32 × Mem)) = some res from hF)
    | succ n ih =>
      intro x1 x2 mem hF
      rw [K_X12_onWays_36] at hF
      refine w_iload_n X 2 dX12_onWays_36 rfl rfl 37 rfl ?_
      refine w_bipush X 81 dX12_onWays_37 rfl 39 rfl ?_
      refine w_icmp_ge X hF 68 42 dX12_onWays_39 (by decide) rfl (fun hF => ?_) (fun hF => ?_)
      · refine w_aload_n X 0 dX12_onWays_42 rfl rfl 43 rfl ?_
        refine w_getV (v := .ref (ad 11)) X 0 ml_0 mo_0 (T := TX12) (N := 50) rfl in_X12 29 (by decide) kF_X12_48 rfl rfl dX12_onWays_43 46 rfl ?_
        refine w_iload_n X 2 dX12_onWays_46 rfl rfl 47 rfl ?_
        refine w_iload_n X 2 dX12_onWays_47 rfl rfl 48 rfl ?_
        refine w_aload_n X 0 dX12_onWays_48 rfl rfl 49 rfl ?_
        refine w_iload_n X 1 dX12_onWays_49 rfl rfl 50 rfl ?_
        refine w_callVi (fun x => x) (fun _ => mem) X hZ hF [.int x1] 0 ml_0 mo_0 rfl rfl rfl kB_X12_cellOf kL_X12_219 (fun res h => ct_X12_cellOf l hZ fu x1 mem res h) rfl rfl rfl ⟨Nat.le_of_ble_eq_true rfl, Nat.le_of_ble_eq_true rfl⟩ (Nat.le_of_ble_eq_true rfl) ⟨Nat.zero_le _, Nat.zero_le _⟩ dX12_onWays_50 53 rfl (fun x_6 hF => ?_)
        refine w_icmp_ne X hF 60 56 dX12_onWays_53 (by decide) rfl (fun hF => ?_) (fun hF => ?_)
        · refine w_iconst X 1 dX12_onWays_56 rfl 57 rfl ?_
          refine w_goto X 61 dX12_onWays_57 (by decide) ?_
          refine w_keep [0, 1, 2] rfl ?_
          exact w_61 (K_X12_onWays_36 fu n) ih x1 x2 1 x2 mem hF
        · refine w_iconst X 0 dX12_onWays_60 rfl 61 rfl ?_
          refine w_keep [0, 1, 2] rfl ?_
          exact w_61 (K_X12_onWays_36 fu n) ih x1 x2 0 x2 mem hF
      · refine w_iconst X 0 dX12_onWays_68 rfl 69 rfl ?_
        refine w_istore_n X [(2, .int 0), (0, .ref (ad 0)), (1, .int x1)] dX12_onWays_69 rfl (by decide) rfl 70 rfl ?_
        refine w_aload_n X 1 dX12_onWays_70 rfl rfl 71 rfl ?_
        refine w_getV (v := .int (rd mem 0 22)) X 0 ml_0 mo_0 (T := TX12) (N := 50) rfl in_X12 22 (by decide) kF_X12_196 rfl rfl dX12_onWays_71 74 rfl ?_
        refine w_iconst X 1 dX12_onWays_74 rfl 75 rfl ?_
        refine w_isub X dX12_onWays_75 76 rfl ?_
        refine w_let hF (fun x_7 hF => ?_)
        refine w_istore_n X [(3, .int x_7), (2, .int 0), (0, .ref (ad 0)), (1, .int x1)] dX12_onWays_76 rfl (by decide) rfl 77 rfl ?_
        refine w_keep [2, 1, 0] rfl ?_
        exact w_77 fu 0 x_7 mem hF
  intro hF
  refine w_aload_n X 0 dX12_onWays_0 rfl rfl 1 rfl ?_
  refine w_aload_n X 0 dX12_onWays_1 rfl rfl 2 rfl ?_
  refine w_iload_n X 1 dX12_onWays_2 rfl rfl 3 rfl ?_
  refine w_callVi (fun x => x) (fun _ => mem) X hZ hF [.int x1] 0 ml_0 mo_0 rfl rfl rfl kB_X12_isPawn kL_X12_339 (fun res h => ct_X12_isPawn l hZ fu x1 mem res h) rfl rfl rfl ⟨Nat.le_of_ble_eq_true rfl, Nat.le_of_ble_eq_true rfl⟩ (Nat.le_of_ble_eq_true rfl) ⟨Nat.zero_le _, Nat.zero_le _⟩ dX12_onWays_3 6 rfl (fun x_1 hF => ?_)
  refine w_callVi (fun x => x.1) (fun x => x.2) X hZ hF [.int x_1] 0 ml_0 mo_0 rfl rfl rfl kB_X12_goes kL_X12_98 (fun res h => ct_X12_goes l hZ fu x_1 mem res h) rfl rfl rfl ⟨Nat.le_of_ble_eq_true rfl, Nat.le_of_ble_eq_true rfl⟩ (Nat.le_of_ble_eq_true rfl) ⟨Nat.zero_le _, Nat.zero_le _⟩ dX12_onWays_6 9 rfl (fun p_2 hF => ?_)
  refine w_if_ne X hF 14 12 dX12_onWays_9 (by decide) rfl (fun hF => ?_) (fun hF => ?_)
  · refine w_iconst X 0 dX12_onWays_12 rfl 13 rfl ?_
    exact w_iret X hQ (o_inj1 hF) (o_inj2 hF) rfl dX12_onWays_13
  · refine w_aload_n X 0 dX12_onWays_14 rfl rfl 15 rfl ?_
    refine w_iload_n X 1 dX12_onWays_15 rfl rfl 16 rfl ?_
    refine w_callVi (fun x => x) (fun _ => p_2.2) X hZ hF [.int x1] 0 ml_0 mo_0 rfl rfl rfl kB_X12_hasFinished kL_X12_213 (fun res h => ct_X12_hasFinished l hZ fu x1 p_2.2 res h) rfl rfl rfl ⟨Nat.le_of_ble_eq_true rfl, Nat.le_of_ble_eq_true rfl⟩ (Nat.le_of_ble_eq_true rfl) ⟨Nat.zero_le _, Nat.zero_le _⟩ dX12_onWays_16 19 rfl (fun x_3 hF => ?_)
    refine w_if_eq X hF 24 22 dX12_onWays_19 (by decide) rfl (fun hF => ?_) (fun hF => ?_)
    · refine w_aload_n X 0 dX12_onWays_24 rfl rfl 25 rfl ?_
      refine w_aload_n X 0 dX12_onWays_25 rfl rfl 26 rfl ?_
      refine w_iload_n X 1 dX12_onWays_26 rfl rfl 27 rfl ?_
      refine w_iconst X 2 dX12_onWays_27 rfl 28 rfl ?_
      refine w_callVi (fun x => x) (fun _ => p_2.2) X hZ hF [.int x1, .int 2] 0 ml_0 mo_0 rfl rfl rfl kB_X12_of kL_X12_174 (fun res h => ct_X12_of l hZ fu x1 2 p_2.2 res h) rfl rfl rfl ⟨Nat.le_of_ble_eq_true rfl, Nat.le_of_ble_eq_true rfl⟩ (Nat.le_of_ble_eq_true rfl) ⟨Nat.zero_le _, Nat.zero_le _⟩ dX12_onWays_28 31 rfl (fun x_4 hF => ?_)
      refine w_callVv (fun m => m) X hZ hF [.int x_4] 0 ml_0 mo_0 rfl rfl rfl kB_X12_lays kL_X12_216 (fun res h => ct_X12_lays l hZ fu x_4 p_2.2 res h) rfl rfl rfl ⟨Nat.le_of_ble_eq_true rfl, Nat.le_of_ble_eq_true rfl⟩ (Nat.le_of_ble_eq_true rfl) ⟨Nat.zero_le _, Nat.zero_le _⟩ dX12_onWays_31 34 rfl (fun m_5 hF => ?_)
      refine w_iconst X 0 dX12_onWays_34 rfl 35 rfl ?_
      refine w_istore_n X [(2, .int 0), (0, .ref (ad 0)), (1, .int x1)] dX12_onWays_35 rfl (by decide) rfl 36 rfl ?_
      refine w_keep [1, 2, 0] rfl ?_
      exact w_36 fu x1 0 m_5 hF
    · refine w_iconst X 1 dX12_onWays_22 rfl 23 rfl ?_
      exact w_iret X hQ (o_inj1 hF) (o_inj2 hF) rfl dX12_onWays_23

def K_X12_turnNow (fu : Nat) (mem : Mem) : Option Int32 := bd (K_X12_over fu mem) (fun x_1 => (if x_1 = 0 then gi 7 184 (some (rd mem 2 (Int32.toNatClampNeg 7))) else some (-1)))
def rm_X12_turnNow : Room := { frames := 1, cells := 0, slots := 0, locals := 20 }
set_option maxHeartbeats 4000000 in
set_option maxRecDepth 100000 in
theorem ct_X12_turnNow (l : Launch) {D : va_G} {ca ad : Nat → Nat} {Z : (Nat → Prop) → State → Heap → Prop} (hZ : ZOK Z) (fu : Nat) (mem : Mem) (res : Int32) (hF : K_X12_turnNow fu mem = some res) : CI l D (tyL ca) 23 ad (cM ca ad) Z yX12_turnNow cX12_turnNow 1 .int rm_X12_turnNow [.ref (ad 0)] mem res mem := by
  refine start_i (own := RX12) rfl (by decide) (Nat.le_of_ble_eq_true rfl) ?_
  intro p e s m args below meth c Q hQ X
  rw [K_X12_turnNow] at hF
  revert hF
  intro hF
  refine w_aload_n X 0 dX12_turnNow_0 rfl rfl 1 rfl ?_
  refine w_callVi (fun x => x) (fun _ => mem) X hZ hF [] 0 ml_0 mo_0 rfl rfl rfl kB_X12_over kL_X12_351 (fun res h => ct_X12_over l hZ fu mem res h) rfl rfl rfl ⟨Nat.le_of_ble_eq_true rfl, Nat.le_of_ble_eq_true rfl⟩ (Nat.le_of_ble_eq_true rfl) ⟨Nat.zero_le _, Nat.zero_le _⟩ dX12_turnNow_1 4 rfl (fun x_1 hF => ?_)
  refine w_if_eq X hF 11 7 dX12_turnNow_4 (by decide) rfl (fun hF => ?_) (fun hF => ?_)
  · refine w_aload_n X 0 dX12_turnNow_11 rfl rfl 12 rfl ?_
    refine w_getV (v := .ref (ad 2)) X 0 ml_0 mo_0 (T := TX12) (N := 50) rfl in_X12 13 (by decide) kF_X12_20 rfl rfl dX12_turnNow_12 15 rfl ?_
    refine w_bipush X 7 dX12_turnNow_15 rfl 17 rfl ?_
    refine w_gi hF (fun h_2 hF => ?_)
    refine w_ial X 2 ml_2 mo_2 (t0 := 0) rfl h_2 dX12_turnNow_17 18 rfl ?_
    exact w_iret X hQ (o_inj hF) rfl rfl dX12_turnNow_18
  · refine w_iconst X (-1) dX12_turnNow_7 rfl 8 rfl ?_
    refine w_goto X 18 dX12_turnNow_8 (by decide) ?_
    exact w_iret X hQ (o_inj hF) rfl rfl dX12_turnNow_18

def K_X12_pass (fu : Nat) (mem : Mem) : Option (Int32 × Mem) := bd (K_X12_mayPass fu mem) (fun p_1 => bd (K_X12_goes fu p_1.1 p_1.2) (fun p_2 => (if p_2.1 = 0 then some (0, p_2.2) else bd (K_X12_laysAside fu p_2.2) (fun m_3 => bd (K_X12_endsTurn fu m_3) (fun m_4 => bd (K_X12_keeps fu m_4) (fun m_5 => bd (K_X12_turnNow fu m_5) (fun x_6 => some (x_6, m_5))))))))
def rm_X12_pass : Room := { frames := 7, cells := 0, slots := 0, locals := 168 }
set_option maxHeartbeats 4000000 in
set_option maxRecDepth 100000 in
theorem ct_X12_pass (l : Launch) {D : va_G} {ca ad : Nat → Nat} {Z : (Nat → Prop) → State → Heap → Prop} (hZ : ZOK Z) (fu : Nat) (mem : Mem) (res : (Int32 × Mem)) (hF : K_X12_pass fu mem = some res) : CI l D (tyL ca) 23 ad (cM ca ad) Z yX12_pass cX12_pass 1 .int rm_X12_pass [.ref (ad 0)] mem res.1 res.2 := by
  refine start_i (own := RX12) rfl (by decide) (Nat.le_of_ble_eq_true rfl) ?_
  intro p e s m args below meth c Q hQ X
  rw [K_X12_pass] at hF
  revert hF
  intro hF
  refine w_aload_n X 0 dX12_pass_0 rfl rfl 1 rfl ?_
  refine w_aload_n X 0 dX12_pass_1 rfl rfl 2 rfl ?_
  refine w_callVi (fun x => x.1) (fun x => x.2) X hZ hF [] 0 ml_0 mo_0 rfl rfl rfl kB_X12_mayPass kL_X12_466 (fun res h => ct_X12_mayPass l hZ fu mem res h) rfl rfl rfl ⟨Nat.le_of_ble_eq_true rfl, Nat.le_of_ble_eq_true rfl⟩ (Nat.le_of_ble_eq_true rfl) ⟨Nat.zero_le _, Nat.zero_le _⟩ dX12_pass_2 5 rfl (fun p_1 hF => ?_)
  refine w_callVi (fun x => x.1) (fun x => x.2) X hZ hF [.int p_1.1] 0 ml_0 mo_0 rfl rfl rfl kB_X12_goes kL_X12_98 (fun res h => ct_X12_goes l hZ fu p_1.1 p_1.2 res h) rfl rfl rfl ⟨Nat.le_of_ble_eq_true rfl, Nat.le_of_ble_eq_true rfl⟩ (Nat.le_of_ble_eq_true rfl) ⟨Nat.zero_le _, Nat.zero_le _⟩ dX12_pass_5 8 rfl (fun p_2 hF => ?_)
  refine w_if_ne X hF 13 11 dX12_pass_8 (by decide) rfl (fun hF => ?_) (fun hF => ?_)
  · refine w_iconst X 0 dX12_pass_11 rfl 12 rfl ?_
    exact w_iret X hQ (o_inj1 hF) (o_inj2 hF) rfl dX12_pass_12
  · refine w_aload_n X 0 dX12_pass_13 rfl rfl 14 rfl ?_
    refine w_callVv (fun m => m) X hZ hF [] 0 ml_0 mo_0 rfl rfl rfl kB_X12_laysAside kL_X12_325 (fun res h => ct_X12_laysAside l hZ fu p_2.2 res h) rfl rfl rfl ⟨Nat.le_of_ble_eq_true rfl, Nat.le_of_ble_eq_true rfl⟩ (Nat.le_of_ble_eq_true rfl) ⟨Nat.zero_le _, Nat.zero_le _⟩ dX12_pass_14 17 rfl (fun m_3 hF => ?_)
    refine w_aload_n X 0 dX12_pass_17 rfl rfl 18 rfl ?_
    refine w_callVv (fun m => m) X hZ hF [] 0 ml_0 mo_0 rfl rfl rfl kB_X12_endsTurn kL_X12_444 (fun res h => ct_X12_endsTurn l hZ fu m_3 res h) rfl rfl rfl ⟨Nat.le_of_ble_eq_true rfl, Nat.le_of_ble_eq_true rfl⟩ (Nat.le_of_ble_eq_true rfl) ⟨Nat.zero_le _, Nat.zero_le _⟩ dX12_pass_18 21 rfl (fun m_4 hF => ?_)
    refine w_aload_n X 0 dX12_pass_21 rfl rfl 22 rfl ?_
    refine w_callVv (fun m => m) X hZ hF [] 0 ml_0 mo_0 rfl rfl rfl kB_X12_keeps kL_X12_456 (fun res h => ct_X12_keeps l hZ fu m_4 res h) rfl rfl rfl ⟨Nat.le_of_ble_eq_true rfl, Nat.le_of_ble_eq_true rfl⟩ (Nat.le_of_ble_eq_true rfl) ⟨Nat.zero_le _, Nat.zero_le _⟩ dX12_pass_22 25 rfl (fun m_5 hF => ?_)
    refine w_aload_n X 0 dX12_pass_25 rfl rfl 26 rfl ?_
    refine w_callVi (fun x => x) (fun _ => m_5) X hZ hF [] 0 ml_0 mo_0 rfl rfl rfl kB_X12_turnNow kL_X12_354 (fun res h => ct_X12_turnNow l hZ fu m_5 res h) rfl rfl rfl ⟨Nat.le_of_ble_eq_true rfl, Nat.le_of_ble_eq_true rfl⟩ (Nat.le_of_ble_eq_true rfl) ⟨Nat.zero_le _, Nat.zero_le _⟩ dX12_pass_26 29 rfl (fun x_6 hF => ?_)
    exact w_iret X hQ (o_inj1 hF) (o_inj2 hF) rfl dX12_pass_29

def K_X12_pawn (fu : Nat) (x1 : Int32) (x2 : Int32) (mem : Mem) : Option (Int32 × Mem) := bd (K_X12_isPawn fu x1 mem) (fun x_1 => bd (K_X12_isIn fu (Int32.toInt64 x2) 0 7 mem) (fun x_2 => bd (K_X12_goesBoth fu x_1 x_2 mem) (fun p_3 => (if p_3.1 = 0 then some (0, p_3.2) else (if x2 = 7 then bd (K_X12_bansOf fu x1 p_3.2) (fun x_4 => some (x_4, p_3.2)) else bd (K_X12_of fu x1 x2 p_3.2) (fun x_5 => some (x_5, p_3.2)))))))
def rm_X12_pawn : Room := { frames := 2, cells := 0, slots := 0, locals := 46 }
set_option maxHeartbeats 4000000 in
set_option maxRecDepth 100000 in
theorem ct_X12_pawn (l : Launch) {D : va_G} {ca ad : Nat → Nat} {Z : (Nat → Prop) → State → Heap → Prop} (hZ : ZOK Z) (fu : Nat) (x1 : Int32) (x2 : Int32) (mem : Mem) (res : (Int32 × Mem)) (hF : K_X12_pawn fu x1 x2 mem = some res) : CI l D (tyL ca) 23 ad (cM ca ad) Z yX12_pawn cX12_pawn 3 .int rm_X12_pawn [.ref (ad 0), .int x1, .int x2] mem res.1 res.2 := by
  refine start_i (own := RX12) rfl (by decide) (Nat.le_of_ble_eq_true rfl) ?_
  intro p e s m args below meth c Q hQ X
  rw [K_X12_pawn] at hF
  revert hF
  intro hF
  refine w_aload_n X 0 dX12_pawn_0 rfl rfl 1 rfl ?_
  refine w_aload_n X 0 dX12_pawn_1 rfl rfl 2 rfl ?_
  refine w_iload_n X 1 dX12_pawn_2 rfl rfl 3 rfl ?_
  refine w_callVi (fun x => x) (fun _ => mem) X hZ hF [.int x1] 0 ml_0 mo_0 rfl rfl rfl kB_X12_isPawn kL_X12_339 (fun res h => ct_X12_isPawn l hZ fu x1 mem res h) rfl rfl rfl ⟨Nat.le_of_ble_eq_true rfl, Nat.le_of_ble_eq_true rfl⟩ (Nat.le_of_ble_eq_true rfl) ⟨Nat.zero_le _, Nat.zero_le _⟩ dX12_pawn_3 6 rfl (fun x_1 hF => ?_)
  refine w_iload_n X 2 dX12_pawn_6 rfl rfl 7 rfl ?_
  refine w_i2l X dX12_pawn_7 8 rfl ?_
  refine w_lconst X 0 dX12_pawn_8 rfl 9 rfl ?_
  refine w_ldc2 X 7 kK_X12_342 dX12_pawn_9 12 rfl ?_
  refine w_callSi (fun x => x) (fun _ => mem) X hZ hF [.long (Int32.toInt64 x2), .long 0, .long 7] rfl kB_X12_isIn kL_X12_106 (fun res h => ct_X12_isIn l hZ fu (Int32.toInt64 x2) 0 7 mem res h) rfl rfl rfl ⟨Nat.le_of_ble_eq_true rfl, Nat.le_of_ble_eq_true rfl⟩ (Nat.le_of_ble_eq_true rfl) ⟨Nat.zero_le _, Nat.zero_le _⟩ dX12_pawn_12 15 rfl (fun x_2 hF => ?_)
  refine w_callVi (fun x => x.1) (fun x => x.2) X hZ hF [.int x_1, .int x_2] 0 ml_0 mo_0 rfl rfl rfl kB_X12_goesBoth kL_X12_344 (fun res h => ct_X12_goesBoth l hZ fu x_1 x_2 mem res h) rfl rfl rfl ⟨Nat.le_of_ble_eq_true rfl, Nat.le_of_ble_eq_true rfl⟩ (Nat.le_of_ble_eq_true rfl) ⟨Nat.zero_le _, Nat.zero_le _⟩ dX12_pawn_15 18 rfl (fun p_3 hF => ?_)
  refine w_if_ne X hF 25 21 dX12_pawn_18 (by decide) rfl (fun hF => ?_) (fun hF => ?_)
  · refine w_iconst X 0 dX12_pawn_21 rfl 22 rfl ?_
    refine w_goto X 45 dX12_pawn_22 (by decide) ?_
    exact w_iret X hQ (o_inj1 hF) (o_inj2 hF) rfl dX12_pawn_45
  · refine w_iload_n X 2 dX12_pawn_25 rfl rfl 26 rfl ?_
    refine w_bipush X 7 dX12_pawn_26 rfl 28 rfl ?_
    refine w_icmp_ne X hF 39 31 dX12_pawn_28 (by decide) rfl (fun hF => ?_) (fun hF => ?_)
    · refine w_aload_n X 0 dX12_pawn_31 rfl rfl 32 rfl ?_
      refine w_iload_n X 1 dX12_pawn_32 rfl rfl 33 rfl ?_
      refine w_callVi (fun x => x) (fun _ => p_3.2) X hZ hF [.int x1] 0 ml_0 mo_0 rfl rfl rfl kB_X12_bansOf kL_X12_348 (fun res h => ct_X12_bansOf l hZ fu x1 p_3.2 res h) rfl rfl rfl ⟨Nat.le_of_ble_eq_true rfl, Nat.le_of_ble_eq_true rfl⟩ (Nat.le_of_ble_eq_true rfl) ⟨Nat.zero_le _, Nat.zero_le _⟩ dX12_pawn_33 36 rfl (fun x_4 hF => ?_)
      refine w_goto X 45 dX12_pawn_36 (by decide) ?_
      exact w_iret X hQ (o_inj1 hF) (o_inj2 hF) rfl dX12_pawn_45
    · refine w_aload_n X 0 dX12_pawn_39 rfl rfl 40 rfl ?_
      refine w_iload_n X 1 dX12_pawn_40 rfl rfl 41 rfl ?_
      refine w_iload_n X 2 dX12_pawn_41 rfl rfl 42 rfl ?_
      refine w_callVi (fun x => x) (fun _ => p_3.2) X hZ hF [.int x1, .int x2] 0 ml_0 mo_0 rfl rfl rfl kB_X12_of kL_X12_174 (fun res h => ct_X12_of l hZ fu x1 x2 p_3.2 res h) rfl rfl rfl ⟨Nat.le_of_ble_eq_true rfl, Nat.le_of_ble_eq_true rfl⟩ (Nat.le_of_ble_eq_true rfl) ⟨Nat.zero_le _, Nat.zero_le _⟩ dX12_pawn_42 45 rfl (fun x_5 hF => ?_)
      exact w_iret X hQ (o_inj1 hF) (o_inj2 hF) rfl dX12_pawn_45

def K_X12_pawnAt (fu : Nat) (x1 : Int32) (x2 : Int32) (mem : Mem) : Option (Int32 × Mem) := bd (K_X12_isCell fu x1 x2 mem) (fun x_1 => bd (K_X12_goes fu x_1 mem) (fun p_2 => (if p_2.1 = 0 then some (0, p_2.2) else bd (K_X12_pawnIn fu x1 x2 p_2.2) (fun x_3 => some (x_3, p_2.2)))))
def rm_X12_pawnAt : Room := { frames := 3, cells := 0, slots := 0, locals := 67 }
set_option maxHeartbeats 4000000 in
set_option maxRecDepth 100000 in
theorem ct_X12_pawnAt (l : Launch) {D : va_G} {ca ad : Nat → Nat} {Z : (Nat → Prop) → State → Heap → Prop} (hZ : ZOK Z) (fu : Nat) (x1 : Int32) (x2 : Int32) (mem : Mem) (res : (Int32 × Mem)) (hF : K_X12_pawnAt fu x1 x2 mem = some res) : CI l D (tyL ca) 23 ad (cM ca ad) Z yX12_pawnAt cX12_pawnAt 3 .int rm_X12_pawnAt [.ref (ad 0), .int x1, .int x2] mem res.1 res.2 := by
  refine start_i (own := RX12) rfl (by decide) (Nat.le_of_ble_eq_true rfl) ?_
  intro p e s m args below meth c Q hQ X
  rw [K_X12_pawnAt] at hF
  revert hF
  intro hF
  refine w_aload_n X 0 dX12_pawnAt_0 rfl rfl 1 rfl ?_
  refine w_aload_n X 0 dX12_pawnAt_1 rfl rfl 2 rfl ?_
  refine w_iload_n X 1 dX12_pawnAt_2 rfl rfl 3 rfl ?_
  refine w_iload_n X 2 dX12_pawnAt_3 rfl rfl 4 rfl ?_
  refine w_callVi (fun x => x) (fun _ => mem) X hZ hF [.int x1, .int x2] 0 ml_0 mo_0 rfl rfl rfl kB_X12_isCell kL_X12_187 (fun res h => ct_X12_isCell l hZ fu x1 x2 mem res h) rfl rfl rfl ⟨Nat.le_of_ble_eq_true rfl, Nat.le_of_ble_eq_true rfl⟩ (Nat.le_of_ble_eq_true rfl) ⟨Nat.zero_le _, Nat.zero_le _⟩ dX12_pawnAt_4 7 rfl (fun x_1 hF => ?_)
  refine w_callVi (fun x => x.1) (fun x => x.2) X hZ hF [.int x_1] 0 ml_0 mo_0 rfl rfl rfl kB_X12_goes kL_X12_98 (fun res h => ct_X12_goes l hZ fu x_1 mem res h) rfl rfl rfl ⟨Nat.le_of_ble_eq_true rfl, Nat.le_of_ble_eq_true rfl⟩ (Nat.le_of_ble_eq_true rfl) ⟨Nat.zero_le _, Nat.zero_le _⟩ dX12_pawnAt_7 10 rfl (fun p_2 hF => ?_)
  refine w_if_eq X hF 22 13 dX12_pawnAt_10 (by decide) rfl (fun hF => ?_) (fun hF => ?_)
  · refine w_iconst X 0 dX12_pawnAt_22 rfl 23 rfl ?_
    exact w_iret X hQ (o_inj1 hF) (o_inj2 hF) rfl dX12_pawnAt_23
  · refine w_aload_n X 0 dX12_pawnAt_13 rfl rfl 14 rfl ?_
    refine w_iload_n X 1 dX12_pawnAt_14 rfl rfl 15 rfl ?_
    refine w_iload_n X 2 dX12_pawnAt_15 rfl rfl 16 rfl ?_
    refine w_callVi (fun x => x) (fun _ => p_2.2) X hZ hF [.int x1, .int x2] 0 ml_0 mo_0 rfl rfl rfl kB_X12_pawnIn kL_X12_259 (fun res h => ct_X12_pawnIn l hZ fu x1 x2 p_2.2 res h) rfl rfl rfl ⟨Nat.le_of_ble_eq_true rfl, Nat.le_of_ble_eq_true rfl⟩ (Nat.le_of_ble_eq_true rfl) ⟨Nat.zero_le _, Nat.zero_le _⟩ dX12_pawnAt_16 19 rfl (fun x_3 hF => ?_)
    refine w_goto X 23 dX12_pawnAt_19 (by decide) ?_
    exact w_iret X hQ (o_inj1 hF) (o_inj2 hF) rfl dX12_pawnAt_23

def K_X12_play_28 (fu : Nat) (x1 : Int32) (x2 : Int32) (xs0 : Int32) (mem : Mem) : Option (Int32 × Mem) := bd (K_X12_goes fu xs0 mem) (fun p_3 => (if p_3.1 = 0 then some (0, p_3.2) else bd (K_X12_laysAside fu p_3.2) (fun m_4 => bd (K_X12_plays fu x1 x2 m_4) (fun p_5 => lt_ p_5.1 (fun x_6 => bd (K_X12_keeps fu p_5.2) (fun m_7 => some (x_6, m_7)))))))
def K_X12_play_27 (fu : Nat) (x1 : Int32) (x2 : Int32) (mem : Mem) : Option (Int32 × Mem) := (K_X12_play_28 fu x1 x2 0 mem)
def K_X12_play (fu : Nat) (x1 : Int32) (x2 : Int32) (mem : Mem) : Option (Int32 × Mem) := bd (K_X12_isIn fu (Int32.toInt64 x1) 0 1 mem) (fun x_1 => (if x_1 = 0 then (K_X12_play_27 fu x1 x2 mem) else bd (K_X12_isIn fu (Int32.toInt64 x2) 1 99 mem) (fun x_2 => (if x_2 = 0 then (K_X12_play_27 fu x1 x2 mem) else (K_X12_play_28 fu x1 x2 1 mem)))))
def rm_X12_play : Room := { frames := 12, cells := 0, slots := 0, locals := 283 }
set_option maxHeartbeats 4000000 in
set_option maxRecDepth 100000 in
theorem ct_X12_play (l : Launch) {D : va_G} {ca ad : Nat → Nat} {Z : (Nat → Prop) → State → Heap → Prop} (hZ : ZOK Z) (fu : Nat) (x1 : Int32) (x2 : Int32) (mem : Mem) (res : (Int32 × Mem)) (hF : K_X12_play fu x1 x2 mem = some res) : CI l D (tyL ca) 23 ad (cM ca ad) Z yX12_play cX12_play 4 .int rm_X12_play [.ref (ad 0), .int x1, .int x2] mem res.1 res.2 := by
  refine start_i (own := RX12) rfl (by decide) (Nat.le_of_ble_eq_true rfl) ?_
  intro p e s m args below meth c Q hQ X
  rw [K_X12_play] at hF
  revert hF
  have w_28 : ∀ (x1 : Int32) (x2 : Int32) (xs0 : Int32) (mem : Mem), K_X12_play_28 fu x1 x2 xs0 mem = some res → WW D 23 ad (cM ca ad) p l e rm_X12_play s m args below meth c 4 0 0 Q mem 28 [(0, .ref (ad 0)), (1, .int x1), (2, .int x2)] [.int xs0, .ref (ad 0)] := by
    intro x1 x2 xs0 mem hF
    rw [K_X12_play_28] at hF
    refine w_callVi (fun x => x.1) (fun x => x.2) X hZ hF [.int xs0] 0 ml_0 mo_0 rfl rfl rfl kB_X12_goes kL_X12_98 (fun res h => ct_X12_goes l hZ fu xs0 mem res h) rfl rfl rfl ⟨Nat.le_of_ble_eq_true rfl, Nat.le_of_ble_eq_true rfl⟩ (Nat.le_of_ble_eq_true rfl) ⟨Nat.zero_le _, Nat.zero_le _⟩ dX12_play_28 31 rfl (fun p_3 hF => ?_)
    refine w_if_ne X hF 36 34 dX12_play_31 (by decide) rfl (fun hF => ?_) (fun hF => ?_)
    · refine w_iconst X 0 dX12_play_34 rfl 35 rfl ?_
      exact w_iret X hQ (o_inj1 hF) (o_inj2 hF) rfl dX12_play_35
    · refine w_aload_n X 0 dX12_play_36 rfl rfl 37 rfl ?_
      refine w_callVv (fun m => m) X hZ hF [] 0 ml_0 mo_0 rfl rfl rfl kB_X12_laysAside kL_X12_325 (fun res h => ct_X12_laysAside l hZ fu p_3.2 res h) rfl rfl rfl ⟨Nat.le_of_ble_eq_true rfl, Nat.le_of_ble_eq_true rfl⟩ (Nat.le_of_ble_eq_true rfl) ⟨Nat.zero_le _, Nat.zero_le _⟩ dX12_play_37 40 rfl (fun m_4 hF => ?_)
      refine w_aload_n X 0 dX12_play_40 rfl rfl 41 rfl ?_
      refine w_iload_n X 1 dX12_play_41 rfl rfl 42 rfl ?_
      refine w_iload_n X 2 dX12_play_42 rfl rfl 43 rfl ?_
      refine w_callVi (fun x => x.1) (fun x => x.2) X hZ hF [.int x1, .int x2] 0 ml_0 mo_0 rfl rfl rfl kB_X12_plays kL_X12_438 (fun res h => ct_X12_plays l hZ fu x1 x2 m_4 res h) rfl rfl rfl ⟨Nat.le_of_ble_eq_true rfl, Nat.le_of_ble_eq_true rfl⟩ (Nat.le_of_ble_eq_true rfl) ⟨Nat.zero_le _, Nat.zero_le _⟩ dX12_play_43 46 rfl (fun p_5 hF => ?_)
      refine w_let hF (fun x_6 hF => ?_)
      refine w_istore_n X [(3, .int x_6), (0, .ref (ad 0)), (1, .int x1), (2, .int x2)] dX12_play_46 rfl (by decide) rfl 47 rfl ?_
      refine w_aload_n X 1 dX12_play_47 rfl rfl 48 rfl ?_
      refine w_callVv (fun m => m) X hZ hF [] 0 ml_0 mo_0 rfl rfl rfl kB_X12_keeps kL_X12_456 (fun res h => ct_X12_keeps l hZ fu p_5.2 res h) rfl rfl rfl ⟨Nat.le_of_ble_eq_true rfl, Nat.le_of_ble_eq_true rfl⟩ (Nat.le_of_ble_eq_true rfl) ⟨Nat.zero_le _, Nat.zero_le _⟩ dX12_play_48 51 rfl (fun m_7 hF => ?_)
      refine w_iload_n X 0 dX12_play_51 rfl rfl 52 rfl ?_
      exact w_iret X hQ (o_inj1 hF) (o_inj2 hF) rfl dX12_play_52
  have w_27 : ∀ (x1 : Int32) (x2 : Int32) (mem : Mem), K_X12_play_27 fu x1 x2 mem = some res → WW D 23 ad (cM ca ad) p l e rm_X12_play s m args below meth c 4 0 0 Q mem 27 [(0, .ref (ad 0)), (1, .int x1), (2, .int x2)] [.ref (ad 0)] := by
    intro x1 x2 mem hF
    rw [K_X12_play_27] at hF
    refine w_iconst X 0 dX12_play_27 rfl 28 rfl ?_
    refine w_keep [0, 1, 2] rfl ?_
    exact w_28 x1 x2 0 mem hF
  intro hF
  refine w_aload_n X 0 dX12_play_0 rfl rfl 1 rfl ?_
  refine w_iload_n X 1 dX12_play_1 rfl rfl 2 rfl ?_
  refine w_i2l X dX12_play_2 3 rfl ?_
  refine w_lconst X 0 dX12_play_3 rfl 4 rfl ?_
  refine w_lconst X 1 dX12_play_4 rfl 5 rfl ?_
  refine w_callSi (fun x => x) (fun _ => mem) X hZ hF [.long (Int32.toInt64 x1), .long 0, .long 1] rfl kB_X12_isIn kL_X12_106 (fun res h => ct_X12_isIn l hZ fu (Int32.toInt64 x1) 0 1 mem res h) rfl rfl rfl ⟨Nat.le_of_ble_eq_true rfl, Nat.le_of_ble_eq_true rfl⟩ (Nat.le_of_ble_eq_true rfl) ⟨Nat.zero_le _, Nat.zero_le _⟩ dX12_play_5 8 rfl (fun x_1 hF => ?_)
  refine w_if_eq X hF 27 11 dX12_play_8 (by decide) rfl (fun hF => ?_) (fun hF => ?_)
  · refine w_keep [0, 1, 2] rfl ?_
    exact w_27 x1 x2 mem hF
  · refine w_iload_n X 2 dX12_play_11 rfl rfl 12 rfl ?_
    refine w_i2l X dX12_play_12 13 rfl ?_
    refine w_lconst X 1 dX12_play_13 rfl 14 rfl ?_
    refine w_ldc2 X 99 kK_X12_433 dX12_play_14 17 rfl ?_
    refine w_callSi (fun x => x) (fun _ => mem) X hZ hF [.long (Int32.toInt64 x2), .long 1, .long 99] rfl kB_X12_isIn kL_X12_106 (fun res h => ct_X12_isIn l hZ fu (Int32.toInt64 x2) 1 99 mem res h) rfl rfl rfl ⟨Nat.le_of_ble_eq_true rfl, Nat.le_of_ble_eq_true rfl⟩ (Nat.le_of_ble_eq_true rfl) ⟨Nat.zero_le _, Nat.zero_le _⟩ dX12_play_17 20 rfl (fun x_2 hF => ?_)
    refine w_if_eq X hF 27 23 dX12_play_20 (by decide) rfl (fun hF => ?_) (fun hF => ?_)
    · refine w_keep [0, 1, 2] rfl ?_
      exact w_27 x1 x2 mem hF
    · refine w_iconst X 1 dX12_play_23 rfl 24 rfl ?_
      refine w_goto X 28 dX12_play_24 (by decide) ?_
      refine w_keep [0, 1, 2] rfl ?_
      exact w_28 x1 x2 1 mem hF

def K_X12_ranked_9 (fu : Nat) : Nat → Int32 → Int32 → Int32 → Mem → Option (Int32 × Mem)
  | 0, _, _, _, _ => none
  | n + 1, x1, x2, x3, mem => gi 2 184 ((if x3 < (rd mem 2 (Int32.toNatClampNeg 2)) then bd (K_X12_hasFinished fu x3 mem) (fun x_3 => (if x_3 = 0 then (K_X12_ranked_9 fu n x1 x2 (x3 + 1) mem) else bd (K_X12_of fu x3 6 mem) (fun x_4 => (if x_4 = x1 then (K_X12_ranked_9 fu n x1 x3 (x3 + 1) mem) else (K_X12_ranked_9 fu n x1 x2 (x3 + 1) mem))))) else some (x2, mem)))
def K_X12_ranked (fu : Nat) (x1 : Int32) (mem : Mem) : Option (Int32 × Mem) := lt_ (mw mem 0 0 0) (fun m_1 => (K_X12_ranked_9 fu fu x1 (-1) 0 m_1))
def rm_X12_ranked : Room := { frames := 2, cells := 0, slots := 0, locals := 43 }
set_option maxHeartbeats 4000000 in
set_option maxRecDepth 100000 in
theorem ct_X12_ranked (l : Launch) {D : va_G} {ca ad : Nat → Nat} {Z : (Nat → Prop) → State → Heap → Prop} (hZ : ZOK Z) (fu : Nat) (x1 : Int32) (mem : Mem) (res : (Int32 × Mem)) (hF : K_X12_ranked fu x1 mem = some res) : CI l D (tyL ca) 23 ad (cM ca ad) Z yX12_ranked cX12_ranked 4 .int rm_X12_ranked [.ref (ad 0), .int x1] mem res.1 res.2 := by
  refine start_i (own := RX12) rfl (by decide) (Nat.le_of_ble_eq_true rfl) ?_
  intro p e s m args below meth c Q hQ X
  rw [K_X12_ranked] at hF
  revert hF
  have w_9 : ∀ (n : Nat) (x1 : Int32) (x2 : Int32) (x3 : Int32) (mem : Mem), K_X12_ranked_9 fu n x1 x2 x3 mem = some res → WW D 23 ad (cM ca ad) p l e rm_X12_ranked s m args below meth c 4 0 0 Q mem 9 [(0, .ref (ad 0)), (1, .int x1), (2, .int x2), (3, .int x3)] [] := by
    intro n
    induction n with
    | zero => intro x1 x2 x3 mem hF; exact no_none (show (none : Option (Int32 × Mem)) = some res from hF)
    | succ n ih =>
      intro x1 x2 x3 mem hF
      rw [K_X12_ranked_9] at hF
      refine w_iload_n X 3 dX12_ranked_9 rfl rfl 10 rfl ?_
      refine w_aload_n X 0 dX12_ranked_10 rfl rfl 11 rfl ?_
      refine w_getV (v := .ref (ad 2)) X 0 ml_0 mo_0 (T := TX12) (N := 50) rfl in_X12 13 (by decide) kF_X12_20 rfl rfl dX12_ranked_11 14 rfl ?_
      refine w_iconst X 2 dX12_ranked_14 rfl 15 rfl ?_
      refine w_gi hF (fun h_2 hF => ?_)
      refine w_ial X 2 ml_2 mo_2 (t0 := 0) rfl h_2 dX12_ranked_15 16 rfl ?_
      refine w_icmp_ge X hF 50 19 dX12_ranked_16 (by decide) rfl (fun hF => ?_) (fun hF => ?_)
      · refine w_aload_n X 0 dX12_ranked_19 rfl rfl 20 rfl ?_
        refine w_iload_n X 3 dX12_ranked_20 rfl rfl 21 rfl ?_
        refine w_callVi (fun x => x) (fun _ => mem) X hZ hF [.int x3] 0 ml_0 mo_0 rfl rfl rfl kB_X12_hasFinished kL_X12_213 (fun res h => ct_X12_hasFinished l hZ fu x3 mem res h) rfl rfl rfl ⟨Nat.le_of_ble_eq_true rfl, Nat.le_of_ble_eq_true rfl⟩ (Nat.le_of_ble_eq_true rfl) ⟨Nat.zero_le _, Nat.zero_le _⟩ dX12_ranked_21 24 rfl (fun x_3 hF => ?_)
        refine w_if_eq X hF 42 27 dX12_ranked_24 (by decide) rfl (fun hF => ?_) (fun hF => ?_)
        · refine w_iload_n X 2 dX12_ranked_42 rfl rfl 43 rfl ?_
          refine w_istore_n X [(2, .int x2), (0, .ref (ad 0)), (1, .int x1), (3, .int x3)] dX12_ranked_43 rfl (by decide) rfl 44 rfl ?_
          refine w_iinc X 3 (x3 + 1) [(3, .int (x3 + 1)), (2, .int x2), (0, .ref (ad 0)), (1, .int x1)] dX12_ranked_44 rfl rfl (by decide) rfl 47 rfl ?_
          refine w_goto X 9 dX12_ranked_47 (by decide) ?_
          refine w_keep [2, 3, 1, 0] rfl ?_
          exact ih x1 x2 (x3 + 1) mem hF
        · refine w_aload_n X 0 dX12_ranked_27 rfl rfl 28 rfl ?_
          refine w_iload_n X 3 dX12_ranked_28 rfl rfl 29 rfl ?_
          refine w_bipush X 6 dX12_ranked_29 rfl 31 rfl ?_
          refine w_callVi (fun x => x) (fun _ => mem) X hZ hF [.int x3, .int 6] 0 ml_0 mo_0 rfl rfl rfl kB_X12_of kL_X12_174 (fun res h => ct_X12_of l hZ fu x3 6 mem res h) rfl rfl rfl ⟨Nat.le_of_ble_eq_true rfl, Nat.le_of_ble_eq_true rfl⟩ (Nat.le_of_ble_eq_true rfl) ⟨Nat.zero_le _, Nat.zero_le _⟩ dX12_ranked_31 34 rfl (fun x_4 hF => ?_)
          refine w_iload_n X 1 dX12_ranked_34 rfl rfl 35 rfl ?_
          refine w_icmp_ne X hF 42 38 dX12_ranked_35 (by decide) rfl (fun hF => ?_) (fun hF => ?_)
          · refine w_iload_n X 3 dX12_ranked_38 rfl rfl 39 rfl ?_
            refine w_goto X 43 dX12_ranked_39 (by decide) ?_
            refine w_istore_n X [(2, .int x3), (0, .ref (ad 0)), (1, .int x1), (3, .int x3)] dX12_ranked_43 rfl (by decide) rfl 44 rfl ?_
            refine w_iinc X 3 (x3 + 1) [(3, .int (x3 + 1)), (2, .int x3), (0, .ref (ad 0)), (1, .int x1)] dX12_ranked_44 rfl rfl (by decide) rfl 47 rfl ?_
            refine w_goto X 9 dX12_ranked_47 (by decide) ?_
            refine w_keep [2, 3, 1, 0] rfl ?_
            exact ih x1 x3 (x3 + 1) mem hF
          · refine w_iload_n X 2 dX12_ranked_42 rfl rfl 43 rfl ?_
            refine w_istore_n X [(2, .int x2), (0, .ref (ad 0)), (1, .int x1), (3, .int x3)] dX12_ranked_43 rfl (by decide) rfl 44 rfl ?_
            refine w_iinc X 3 (x3 + 1) [(3, .int (x3 + 1)), (2, .int x2), (0, .ref (ad 0)), (1, .int x1)] dX12_ranked_44 rfl rfl (by decide) rfl 47 rfl ?_
            refine w_goto X 9 dX12_ranked_47 (by decide) ?_
            refine w_keep [2, 3, 1, 0] rfl ?_
            exact ih x1 x2 (x3 + 1) mem hF
      · refine w_iload_n X 2 dX12_ranked_50 rfl rfl 51 rfl ?_
        exact w_iret X hQ (o_inj1 hF) (o_inj2 hF) rfl dX12_ranked_51
  intro hF
  refine w_aload_n X 0 dX12_ranked_0 rfl rfl 1 rfl ?_
  refine w_iconst X 0 dX12_ranked_1 rfl 2 rfl ?_
  refine w_putI X 0 ml_0 mo_0 (T := TX12) (N := 50) rfl in_X12 tyX12 tyX12_ok nmX12 0 (by decide) kF_X12_88 rfl rfl rfl rfl (Nat.le_of_ble_eq_true rfl) rfl dX12_ranked_2 5 rfl ?_
  refine w_letm hF (fun m_1 hF => ?_)
  refine w_iconst X (-1) dX12_ranked_5 rfl 6 rfl ?_
  refine w_istore_n X [(2, .int (-1)), (0, .ref (ad 0)), (1, .int x1)] dX12_ranked_6 rfl (by decide) rfl 7 rfl ?_
  refine w_iconst X 0 dX12_ranked_7 rfl 8 rfl ?_
  refine w_istore_n X [(3, .int 0), (2, .int (-1)), (0, .ref (ad 0)), (1, .int x1)] dX12_ranked_8 rfl (by decide) rfl 9 rfl ?_
  refine w_keep [2, 3, 1, 0] rfl ?_
  exact w_9 fu x1 (-1) 0 m_1 hF

def K_X12_readsBoard_46 (fu : Nat) (mem : Mem) : Option Mem := bd (K_X12_number fu 3 9 mem) (fun p_7 => lt_ p_7.1 (fun x_8 => bd (K_X12_number fu 3 9 p_7.2) (fun p_9 => lt_ p_9.1 (fun x_10 => bd (K_X12_isGood fu p_9.2) (fun x_11 => (if x_11 = 0 then some p_9.2 else gi 0 184 (lt_ (mw p_9.2 2 (Int32.toNatClampNeg 0) x_8) (fun m_13 => gi 1 184 (lt_ (mw m_13 2 (Int32.toNatClampNeg 1) x_10) (fun m_15 => some m_15))))))))))
def K_X12_readsBoard_30 (fu : Nat) (mem : Mem) : Option Mem := lt_ (mw mem 0 25 1) (fun m_4 => bd (K_X12_isGood fu m_4) (fun x_5 => (if x_5 = 0 then (K_X12_readsBoard_46 fu m_4) else bd (K_X12_goOn fu m_4) (fun m_6 => (K_X12_readsBoard_46 fu m_6)))))
def K_X12_readsBoard_25 (fu : Nat) (mem : Mem) : Option Mem := bd (K_X12_wrong fu 3 mem) (fun m_3 => (K_X12_readsBoard_30 fu m_3))
def K_X12_readsBoard (fu : Nat) (mem : Mem) : Option Mem := (if (rd mem 0 25) = 0 then gi 2 184 ((if 0 < (rd mem 2 (Int32.toNatClampNeg 2)) then (K_X12_readsBoard_25 fu mem) else gi 3 184 ((if 0 < (rd mem 2 (Int32.toNatClampNeg 3)) then (K_X12_readsBoard_25 fu mem) else (K_X12_readsBoard_30 fu mem))))) else (K_X12_readsBoard_25 fu mem))
def rm_X12_readsBoard : Room := { frames := 3, cells := 0, slots := 0, locals := 70 }
set_option maxHeartbeats 4000000 in
set_option maxRecDepth 100000 in
theorem ct_X12_readsBoard (l : Launch) {D : va_G} {ca ad : Nat → Nat} {Z : (Nat → Prop) → State → Heap → Prop} (hZ : ZOK Z) (fu : Nat) (mem : Mem) (res : Mem) (hF : K_X12_readsBoard fu mem = some res) : CV l D (tyL ca) 23 ad (cM ca ad) Z yX12_readsBoard cX12_readsBoard 3 rm_X12_readsBoard [.ref (ad 0)] mem res := by
  refine start_v (own := RX12) rfl (by decide) (Nat.le_of_ble_eq_true rfl) ?_
  intro p e s m args below meth c Q hQ X
  rw [K_X12_readsBoard] at hF
  revert hF
  have w_46 : ∀ (mem : Mem), K_X12_readsBoard_46 fu mem = some res → WW D 23 ad (cM ca ad) p l e rm_X12_readsBoard s m args below meth c 3 0 0 Q mem 46 [(0, .ref (ad 0))] [] := by
    intro mem hF
    rw [K_X12_readsBoard_46] at hF
    refine w_aload_n X 0 dX12_readsBoard_46 rfl rfl 47 rfl ?_
    refine w_iconst X 3 dX12_readsBoard_47 rfl 48 rfl ?_
    refine w_bipush X 9 dX12_readsBoard_48 rfl 50 rfl ?_
    refine w_callVi (fun x => x.1) (fun x => x.2) X hZ hF [.int 3, .int 9] 0 ml_0 mo_0 rfl rfl rfl kB_X12_number kL_X12_246 (fun res h => ct_X12_number l hZ fu 3 9 mem res h) rfl rfl rfl ⟨Nat.le_of_ble_eq_true rfl, Nat.le_of_ble_eq_true rfl⟩ (Nat.le_of_ble_eq_true rfl) ⟨Nat.zero_le _, Nat.zero_le _⟩ dX12_readsBoard_50 53 rfl (fun p_7 hF => ?_)
    refine w_let hF (fun x_8 hF => ?_)
    refine w_istore_n X [(1, .int x_8), (0, .ref (ad 0))] dX12_readsBoard_53 rfl (by decide) rfl 54 rfl ?_
    refine w_aload_n X 1 dX12_readsBoard_54 rfl rfl 55 rfl ?_
    refine w_iconst X 3 dX12_readsBoard_55 rfl 56 rfl ?_
    refine w_bipush X 9 dX12_readsBoard_56 rfl 58 rfl ?_
    refine w_callVi (fun x => x.1) (fun x => x.2) X hZ hF [.int 3, .int 9] 0 ml_0 mo_0 rfl rfl rfl kB_X12_number kL_X12_246 (fun res h => ct_X12_number l hZ fu 3 9 p_7.2 res h) rfl rfl rfl ⟨Nat.le_of_ble_eq_true rfl, Nat.le_of_ble_eq_true rfl⟩ (Nat.le_of_ble_eq_true rfl) ⟨Nat.zero_le _, Nat.zero_le _⟩ dX12_readsBoard_58 61 rfl (fun p_9 hF => ?_)
    refine w_let hF (fun x_10 hF => ?_)
    refine w_istore_n X [(2, .int x_10), (1, .int x_8), (0, .ref (ad 0))] dX12_readsBoard_61 rfl (by decide) rfl 62 rfl ?_
    refine w_aload_n X 2 dX12_readsBoard_62 rfl rfl 63 rfl ?_
    refine w_callVi (fun x => x) (fun _ => p_9.2) X hZ hF [] 0 ml_0 mo_0 rfl rfl rfl kB_X12_isGood kL_X12_143 (fun res h => ct_X12_isGood l hZ fu p_9.2 res h) rfl rfl rfl ⟨Nat.le_of_ble_eq_true rfl, Nat.le_of_ble_eq_true rfl⟩ (Nat.le_of_ble_eq_true rfl) ⟨Nat.zero_le _, Nat.zero_le _⟩ dX12_readsBoard_63 66 rfl (fun x_11 hF => ?_)
    refine w_if_ne X hF 70 69 dX12_readsBoard_66 (by decide) rfl (fun hF => ?_) (fun hF => ?_)
    · exact w_vret X hQ (o_inj hF) dX12_readsBoard_69
    · refine w_aload_n X 2 dX12_readsBoard_70 rfl rfl 71 rfl ?_
      refine w_getV (v := .ref (ad 2)) X 0 ml_0 mo_0 (T := TX12) (N := 50) rfl in_X12 13 (by decide) kF_X12_20 rfl rfl dX12_readsBoard_71 74 rfl ?_
      refine w_iconst X 0 dX12_readsBoard_74 rfl 75 rfl ?_
      refine w_iload_n X 1 dX12_readsBoard_75 rfl rfl 76 rfl ?_
      refine w_gi hF (fun h_12 hF => ?_)
      refine w_ias X 2 ml_2 mo_2 (t0 := 0) rfl h_12 dX12_readsBoard_76 77 rfl ?_
      refine w_letm hF (fun m_13 hF => ?_)
      refine w_aload_n X 2 dX12_readsBoard_77 rfl rfl 78 rfl ?_
      refine w_getV (v := .ref (ad 2)) X 0 ml_0 mo_0 (T := TX12) (N := 50) rfl in_X12 13 (by decide) kF_X12_20 rfl rfl dX12_readsBoard_78 81 rfl ?_
      refine w_iconst X 1 dX12_readsBoard_81 rfl 82 rfl ?_
      refine w_iload_n X 0 dX12_readsBoard_82 rfl rfl 83 rfl ?_
      refine w_gi hF (fun h_14 hF => ?_)
      refine w_ias X 2 ml_2 mo_2 (t0 := 0) rfl h_14 dX12_readsBoard_83 84 rfl ?_
      refine w_letm hF (fun m_15 hF => ?_)
      exact w_vret X hQ (o_inj hF) dX12_readsBoard_84
  have w_30 : ∀ (mem : Mem), K_X12_readsBoard_30 fu mem = some res → WW D 23 ad (cM ca ad) p l e rm_X12_readsBoard s m args below meth c 3 0 0 Q mem 30 [(0, .ref (ad 0))] [] := by
    intro mem hF
    rw [K_X12_readsBoard_30] at hF
    refine w_aload_n X 0 dX12_readsBoard_30 rfl rfl 31 rfl ?_
    refine w_iconst X 1 dX12_readsBoard_31 rfl 32 rfl ?_
    refine w_putI X 0 ml_0 mo_0 (T := TX12) (N := 50) rfl in_X12 tyX12 tyX12_ok nmX12 25 (by decide) kF_X12_243 rfl rfl rfl rfl (Nat.le_of_ble_eq_true rfl) rfl dX12_readsBoard_32 35 rfl ?_
    refine w_letm hF (fun m_4 hF => ?_)
    refine w_aload_n X 0 dX12_readsBoard_35 rfl rfl 36 rfl ?_
    refine w_callVi (fun x => x) (fun _ => m_4) X hZ hF [] 0 ml_0 mo_0 rfl rfl rfl kB_X12_isGood kL_X12_143 (fun res h => ct_X12_isGood l hZ fu m_4 res h) rfl rfl rfl ⟨Nat.le_of_ble_eq_true rfl, Nat.le_of_ble_eq_true rfl⟩ (Nat.le_of_ble_eq_true rfl) ⟨Nat.zero_le _, Nat.zero_le _⟩ dX12_readsBoard_36 39 rfl (fun x_5 hF => ?_)
    refine w_if_eq X hF 46 42 dX12_readsBoard_39 (by decide) rfl (fun hF => ?_) (fun hF => ?_)
    · refine w_keep [0] rfl ?_
      exact w_46 m_4 hF
    · refine w_aload_n X 0 dX12_readsBoard_42 rfl rfl 43 rfl ?_
      refine w_callVv (fun m => m) X hZ hF [] 0 ml_0 mo_0 rfl rfl rfl kB_X12_goOn kL_X12_153 (fun res h => ct_X12_goOn l hZ fu m_4 res h) rfl rfl rfl ⟨Nat.le_of_ble_eq_true rfl, Nat.le_of_ble_eq_true rfl⟩ (Nat.le_of_ble_eq_true rfl) ⟨Nat.zero_le _, Nat.zero_le _⟩ dX12_readsBoard_43 46 rfl (fun m_6 hF => ?_)
      refine w_keep [0] rfl ?_
      exact w_46 m_6 hF
  have w_25 : ∀ (mem : Mem), K_X12_readsBoard_25 fu mem = some res → WW D 23 ad (cM ca ad) p l e rm_X12_readsBoard s m args below meth c 3 0 0 Q mem 25 [(0, .ref (ad 0))] [] := by
    intro mem hF
    rw [K_X12_readsBoard_25] at hF
    refine w_aload_n X 0 dX12_readsBoard_25 rfl rfl 26 rfl ?_
    refine w_iconst X 3 dX12_readsBoard_26 rfl 27 rfl ?_
    refine w_callVv (fun m => m) X hZ hF [.int 3] 0 ml_0 mo_0 rfl rfl rfl kB_X12_wrong kL_X12_150 (fun res h => ct_X12_wrong l hZ fu 3 mem res h) rfl rfl rfl ⟨Nat.le_of_ble_eq_true rfl, Nat.le_of_ble_eq_true rfl⟩ (Nat.le_of_ble_eq_true rfl) ⟨Nat.zero_le _, Nat.zero_le _⟩ dX12_readsBoard_27 30 rfl (fun m_3 hF => ?_)
    refine w_keep [0] rfl ?_
    exact w_30 m_3 hF
  intro hF
  refine w_aload_n X 0 dX12_readsBoard_0 rfl rfl 1 rfl ?_
  refine w_getV (v := .int (rd mem 0 25)) X 0 ml_0 mo_0 (T := TX12) (N := 50) rfl in_X12 25 (by decide) kF_X12_243 rfl rfl dX12_readsBoard_1 4 rfl ?_
  refine w_if_ne X hF 25 7 dX12_readsBoard_4 (by decide) rfl (fun hF => ?_) (fun hF => ?_)
  · refine w_aload_n X 0 dX12_readsBoard_7 rfl rfl 8 rfl ?_
    refine w_getV (v := .ref (ad 2)) X 0 ml_0 mo_0 (T := TX12) (N := 50) rfl in_X12 13 (by decide) kF_X12_20 rfl rfl dX12_readsBoard_8 11 rfl ?_
    refine w_iconst X 2 dX12_readsBoard_11 rfl 12 rfl ?_
    refine w_gi hF (fun h_1 hF => ?_)
    refine w_ial X 2 ml_2 mo_2 (t0 := 0) rfl h_1 dX12_readsBoard_12 13 rfl ?_
    refine w_if_gt X hF 25 16 dX12_readsBoard_13 (by decide) rfl (fun hF => ?_) (fun hF => ?_)
    · refine w_keep [0] rfl ?_
      exact w_25 mem hF
    · refine w_aload_n X 0 dX12_readsBoard_16 rfl rfl 17 rfl ?_
      refine w_getV (v := .ref (ad 2)) X 0 ml_0 mo_0 (T := TX12) (N := 50) rfl in_X12 13 (by decide) kF_X12_20 rfl rfl dX12_readsBoard_17 20 rfl ?_
      refine w_iconst X 3 dX12_readsBoard_20 rfl 21 rfl ?_
      refine w_gi hF (fun h_2 hF => ?_)
      refine w_ial X 2 ml_2 mo_2 (t0 := 0) rfl h_2 dX12_readsBoard_21 22 rfl ?_
      refine w_if_le X hF 30 25 dX12_readsBoard_22 (by decide) rfl (fun hF => ?_) (fun hF => ?_)
      · refine w_keep [0] rfl ?_
        exact w_25 mem hF
      · refine w_keep [0] rfl ?_
        exact w_30 mem hF
  · refine w_keep [0] rfl ?_
    exact w_25 mem hF

def K_X12_readsWalls_28 (fu : Nat) (mem : Mem) : Option Mem := bd (K_X12_number fu 0 20 mem) (fun p_5 => lt_ (mw p_5.2 0 24 p_5.1) (fun m_6 => some m_6))
def K_X12_readsWalls_12 (fu : Nat) (mem : Mem) : Option Mem := lt_ (mw mem 0 26 1) (fun m_2 => bd (K_X12_isGood fu m_2) (fun x_3 => (if x_3 = 0 then (K_X12_readsWalls_28 fu m_2) else bd (K_X12_goOn fu m_2) (fun m_4 => (K_X12_readsWalls_28 fu m_4)))))
def K_X12_readsWalls (fu : Nat) (mem : Mem) : Option Mem := (if (rd mem 0 26) = 0 then (K_X12_readsWalls_12 fu mem) else bd (K_X12_wrong fu 3 mem) (fun m_1 => (K_X12_readsWalls_12 fu m_1)))
def rm_X12_readsWalls : Room := { frames := 3, cells := 0, slots := 0, locals := 70 }
set_option maxHeartbeats 4000000 in
set_option maxRecDepth 100000 in
theorem ct_X12_readsWalls (l : Launch) {D : va_G} {ca ad : Nat → Nat} {Z : (Nat → Prop) → State → Heap → Prop} (hZ : ZOK Z) (fu : Nat) (mem : Mem) (res : Mem) (hF : K_X12_readsWalls fu mem = some res) : CV l D (tyL ca) 23 ad (cM ca ad) Z yX12_readsWalls cX12_readsWalls 1 rm_X12_readsWalls [.ref (ad 0)] mem res := by
  refine start_v (own := RX12) rfl (by decide) (Nat.le_of_ble_eq_true rfl) ?_
  intro p e s m args below meth c Q hQ X
  rw [K_X12_readsWalls] at hF
  revert hF
  have w_28 : ∀ (mem : Mem), K_X12_readsWalls_28 fu mem = some res → WW D 23 ad (cM ca ad) p l e rm_X12_readsWalls s m args below meth c 1 0 0 Q mem 28 [(0, .ref (ad 0))] [] := by
    intro mem hF
    rw [K_X12_readsWalls_28] at hF
    refine w_aload_n X 0 dX12_readsWalls_28 rfl rfl 29 rfl ?_
    refine w_aload_n X 0 dX12_readsWalls_29 rfl rfl 30 rfl ?_
    refine w_iconst X 0 dX12_readsWalls_30 rfl 31 rfl ?_
    refine w_bipush X 20 dX12_readsWalls_31 rfl 33 rfl ?_
    refine w_callVi (fun x => x.1) (fun x => x.2) X hZ hF [.int 0, .int 20] 0 ml_0 mo_0 rfl rfl rfl kB_X12_number kL_X12_246 (fun res h => ct_X12_number l hZ fu 0 20 mem res h) rfl rfl rfl ⟨Nat.le_of_ble_eq_true rfl, Nat.le_of_ble_eq_true rfl⟩ (Nat.le_of_ble_eq_true rfl) ⟨Nat.zero_le _, Nat.zero_le _⟩ dX12_readsWalls_33 36 rfl (fun p_5 hF => ?_)
    refine w_putI X 0 ml_0 mo_0 (T := TX12) (N := 50) rfl in_X12 tyX12 tyX12_ok nmX12 24 (by decide) kF_X12_252 rfl rfl rfl rfl (Nat.le_of_ble_eq_true rfl) rfl dX12_readsWalls_36 39 rfl ?_
    refine w_letm hF (fun m_6 hF => ?_)
    exact w_vret X hQ (o_inj hF) dX12_readsWalls_39
  have w_12 : ∀ (mem : Mem), K_X12_readsWalls_12 fu mem = some res → WW D 23 ad (cM ca ad) p l e rm_X12_readsWalls s m args below meth c 1 0 0 Q mem 12 [(0, .ref (ad 0))] [] := by
    intro mem hF
    rw [K_X12_readsWalls_12] at hF
    refine w_aload_n X 0 dX12_readsWalls_12 rfl rfl 13 rfl ?_
    refine w_iconst X 1 dX12_readsWalls_13 rfl 14 rfl ?_
    refine w_putI X 0 ml_0 mo_0 (T := TX12) (N := 50) rfl in_X12 tyX12 tyX12_ok nmX12 26 (by decide) kF_X12_249 rfl rfl rfl rfl (Nat.le_of_ble_eq_true rfl) rfl dX12_readsWalls_14 17 rfl ?_
    refine w_letm hF (fun m_2 hF => ?_)
    refine w_aload_n X 0 dX12_readsWalls_17 rfl rfl 18 rfl ?_
    refine w_callVi (fun x => x) (fun _ => m_2) X hZ hF [] 0 ml_0 mo_0 rfl rfl rfl kB_X12_isGood kL_X12_143 (fun res h => ct_X12_isGood l hZ fu m_2 res h) rfl rfl rfl ⟨Nat.le_of_ble_eq_true rfl, Nat.le_of_ble_eq_true rfl⟩ (Nat.le_of_ble_eq_true rfl) ⟨Nat.zero_le _, Nat.zero_le _⟩ dX12_readsWalls_18 21 rfl (fun x_3 hF => ?_)
    refine w_if_eq X hF 28 24 dX12_readsWalls_21 (by decide) rfl (fun hF => ?_) (fun hF => ?_)
    · refine w_keep [0] rfl ?_
      exact w_28 m_2 hF
    · refine w_aload_n X 0 dX12_readsWalls_24 rfl rfl 25 rfl ?_
      refine w_callVv (fun m => m) X hZ hF [] 0 ml_0 mo_0 rfl rfl rfl kB_X12_goOn kL_X12_153 (fun res h => ct_X12_goOn l hZ fu m_2 res h) rfl rfl rfl ⟨Nat.le_of_ble_eq_true rfl, Nat.le_of_ble_eq_true rfl⟩ (Nat.le_of_ble_eq_true rfl) ⟨Nat.zero_le _, Nat.zero_le _⟩ dX12_readsWalls_25 28 rfl (fun m_4 hF => ?_)
      refine w_keep [0] rfl ?_
      exact w_28 m_4 hF
  intro hF
  refine w_aload_n X 0 dX12_readsWalls_0 rfl rfl 1 rfl ?_
  refine w_getV (v := .int (rd mem 0 26)) X 0 ml_0 mo_0 (T := TX12) (N := 50) rfl in_X12 26 (by decide) kF_X12_249 rfl rfl dX12_readsWalls_1 4 rfl ?_
  refine w_if_eq X hF 12 7 dX12_readsWalls_4 (by decide) rfl (fun hF => ?_) (fun hF => ?_)
  · refine w_keep [0] rfl ?_
    exact w_12 mem hF
  · refine w_aload_n X 0 dX12_readsWalls_7 rfl rfl 8 rfl ?_
    refine w_iconst X 3 dX12_readsWalls_8 rfl 9 rfl ?_
    refine w_callVv (fun m => m) X hZ hF [.int 3] 0 ml_0 mo_0 rfl rfl rfl kB_X12_wrong kL_X12_150 (fun res h => ct_X12_wrong l hZ fu 3 mem res h) rfl rfl rfl ⟨Nat.le_of_ble_eq_true rfl, Nat.le_of_ble_eq_true rfl⟩ (Nat.le_of_ble_eq_true rfl) ⟨Nat.zero_le _, Nat.zero_le _⟩ dX12_readsWalls_9 12 rfl (fun m_1 hF => ?_)
    refine w_keep [0] rfl ?_
    exact w_12 m_1 hF

def K_X12_readsPawn_265 (fu : Nat) (x1 : Int64) (x3 : Int32) (x4 : Int32) (x5 : Int32) (x7 : Int32) (mem : Mem) : Option Mem := bd (K_X12_isGood fu mem) (fun x_38 => (if x_38 = 0 then some mem else bd (K_X12_comesPawn fu x1 x3 x4 x5 x7 mem) (fun m_39 => gi 2 184 (bd (K_X12_distanceOf fu ((rd m_39 2 (Int32.toNatClampNeg 2)) - 1) m_39) (fun p_41 => (if p_41.1 = (-1) then bd (K_X12_wrong fu 5 p_41.2) (fun m_42 => some m_42) else some p_41.2))))))
def K_X12_readsPawn_242 (fu : Nat) (x1 : Int64) (x3 : Int32) (x4 : Int32) (x5 : Int32) (xs0 : Int32) (mem : Mem) : Option Mem := bd (K_X12_isGood fu mem) (fun x_35 => (if x_35 = 0 then (K_X12_readsPawn_265 fu x1 x3 x4 x5 xs0 mem) else bd (K_X12_isSign fu 59 mem) (fun x_36 => (if x_36 = 0 then bd (K_X12_wrong fu 1 mem) (fun m_37 => (K_X12_readsPawn_265 fu x1 x3 x4 x5 xs0 m_37)) else (K_X12_readsPawn_265 fu x1 x3 x4 x5 xs0 mem)))))
def K_X12_readsPawn_223 (fu : Nat) (x1 : Int64) (x3 : Int32) (x4 : Int32) (x5 : Int32) (x6 : Int32) (mem : Mem) : Option Mem := (if x6 = 0 then (K_X12_readsPawn_242 fu x1 x3 x4 x5 (rd mem 0 24) mem) else bd (K_X12_number fu 0 20 mem) (fun p_34 => (K_X12_readsPawn_242 fu x1 x3 x4 x5 p_34.1 p_34.2)))
def K_X12_readsPawn_205 (fu : Nat) (x1 : Int64) (x3 : Int32) (x4 : Int32) (x5 : Int32) (mem : Mem) : Option Mem := bd (K_X12_isWord fu 24162707 mem) (fun x_32 => (if x_32 = 0 then (K_X12_readsPawn_223 fu x1 x3 x4 x5 x_32 mem) else bd (K_X12_goOn fu mem) (fun m_33 => (K_X12_readsPawn_223 fu x1 x3 x4 x5 x_32 m_33))))
def K_X12_readsPawn_194 (fu : Nat) (x1 : Int64) (x3 : Int32) (x4 : Int32) (x5 : Int32) (mem : Mem) : Option Mem := bd (K_X12_isGood fu mem) (fun x_30 => (if x_30 = 0 then (K_X12_readsPawn_205 fu x1 x3 x4 x5 mem) else bd (K_X12_goOn fu mem) (fun m_31 => (K_X12_readsPawn_205 fu x1 x3 x4 x5 m_31))))
def K_X12_readsPawn_170 (fu : Nat) (x1 : Int64) (x3 : Int32) (x4 : Int32) (x5 : Int32) (mem : Mem) : Option Mem := bd (K_X12_isGood fu mem) (fun x_27 => (if x_27 = 0 then (K_X12_readsPawn_194 fu x1 x3 x4 x5 mem) else bd (K_X12_isAtSide fu x3 x4 x5 mem) (fun x_28 => (if x_28 = 0 then (K_X12_readsPawn_194 fu x1 x3 x4 x5 mem) else bd (K_X12_wrong fu 4 mem) (fun m_29 => (K_X12_readsPawn_194 fu x1 x3 x4 x5 m_29))))))
def K_X12_readsPawn_146 (fu : Nat) (x1 : Int64) (x3 : Int32) (x4 : Int32) (mem : Mem) : Option Mem := bd (K_X12_sideHere fu mem) (fun x_24 => bd (K_X12_isGood fu mem) (fun x_25 => (if x_25 = 0 then (K_X12_readsPawn_170 fu x1 x3 x4 x_24 mem) else (if x_24 = (-1) then bd (K_X12_wrong fu 1 mem) (fun m_26 => (K_X12_readsPawn_170 fu x1 x3 x4 x_24 m_26)) else (K_X12_readsPawn_170 fu x1 x3 x4 x_24 mem)))))
def K_X12_readsPawn_135 (fu : Nat) (x1 : Int64) (x3 : Int32) (x4 : Int32) (mem : Mem) : Option Mem := bd (K_X12_isGood fu mem) (fun x_22 => (if x_22 = 0 then (K_X12_readsPawn_146 fu x1 x3 x4 mem) else bd (K_X12_goOn fu mem) (fun m_23 => (K_X12_readsPawn_146 fu x1 x3 x4 m_23))))
def K_X12_readsPawn_83 (fu : Nat) (x1 : Int64) (mem : Mem) : Option Mem := gi 0 184 (bd (K_X12_number fu 0 ((rd mem 2 (Int32.toNatClampNeg 0)) - 1) mem) (fun p_14 => lt_ p_14.1 (fun x_15 => gi 1 184 (bd (K_X12_seen fu 0 ((rd p_14.2 2 (Int32.toNatClampNeg 1)) - 1) p_14.2) (fun p_17 => lt_ p_17.1 (fun x_18 => bd (K_X12_isGood fu p_17.2) (fun x_19 => (if x_19 = 0 then (K_X12_readsPawn_135 fu x1 x_15 x_18 p_17.2) else bd (K_X12_pawnIn fu x_15 x_18 p_17.2) (fun x_20 => (if x_20 = (-1) then (K_X12_readsPawn_135 fu x1 x_15 x_18 p_17.2) else bd (K_X12_wrong fu 4 p_17.2) (fun m_21 => (K_X12_readsPawn_135 fu x1 x_15 x_18 m_21))))))))))))
def K_X12_readsPawn_67 (fu : Nat) (mem : Mem) : Option Mem := lt_ (rl mem 0 12) (fun x_10 => bd (K_X12_isGood fu mem) (fun x_11 => (if x_11 = 0 then (K_X12_readsPawn_83 fu x_10 mem) else bd (K_X12_goOn fu mem) (fun m_12 => (K_X12_readsPawn_83 fu x_10 m_12)))))
def K_X12_readsPawn_47 (fu : Nat) (mem : Mem) : Option Mem := bd (K_X12_isGood fu mem) (fun x_7 => (if x_7 = 0 then (K_X12_readsPawn_67 fu mem) else bd (K_X12_named fu mem) (fun x_8 => (if x_8 = (-1) then (K_X12_readsPawn_67 fu mem) else bd (K_X12_wrong fu 4 mem) (fun m_9 => (K_X12_readsPawn_67 fu m_9))))))
def K_X12_readsPawn_27 (fu : Nat) (mem : Mem) : Option Mem := bd (K_X12_isGood fu mem) (fun x_5 => (if x_5 = 0 then (K_X12_readsPawn_47 fu mem) else (if (rd mem 0 6) = 1 then (K_X12_readsPawn_47 fu mem) else bd (K_X12_wrong fu 1 mem) (fun m_6 => (K_X12_readsPawn_47 fu m_6)))))
def K_X12_readsPawn_16 (fu : Nat) (mem : Mem) : Option Mem := bd (K_X12_isGood fu mem) (fun x_3 => (if x_3 = 0 then (K_X12_readsPawn_27 fu mem) else bd (K_X12_goOn fu mem) (fun m_4 => (K_X12_readsPawn_27 fu m_4))))
def K_X12_readsPawn (fu : Nat) (mem : Mem) : Option Mem := gi 2 184 ((if (rd mem 2 (Int32.toNatClampNeg 2)) = 4 then bd (K_X12_wrong fu 6 mem) (fun m_2 => (K_X12_readsPawn_16 fu m_2)) else (K_X12_readsPawn_16 fu mem)))
def rm_X12_readsPawn : Room := { frames := 7, cells := 0, slots := 0, locals := 164 }
set_option maxHeartbeats 4000000 in
set_option maxRecDepth 100000 in
theorem ct_X12_readsPawn (l : Launch) {D : va_G} {ca ad : Nat → Nat} {Z : (Nat → Prop) → State → Heap → Prop} (hZ : ZOK Z) (fu : Nat) (mem : Mem) (res : Mem) (hF : K_X12_readsPawn fu mem = some res) : CV l D (tyL ca) 23 ad (cM ca ad) Z yX12_readsPawn cX12_readsPawn 8 rm_X12_readsPawn [.ref (ad 0)] mem res := by
  refine start_v (own := RX12) rfl (by decide) (Nat.le_of_ble_eq_true rfl) ?_
  intro p e s m args below meth c Q hQ X
  rw [K_X12_readsPawn] at hF
  revert hF
  have w_265 : ∀ (x1 : Int64) (x3 : Int32) (x4 : Int32) (x5 : Int32) (x7 : Int32) (mem : Mem), K_X12_readsPawn_265 fu x1 x3 x4 x5 x7 mem = some res → WW D 23 ad (cM ca ad) p l e rm_X12_readsPawn s m args below meth c 8 0 0 Q mem 265 [(0, .ref (ad 0)), (1, .long x1), (3, .int x3), (4, .int x4), (5, .int x5), (7, .int x7)] [] := by
    intro x1 x3 x4 x5 x7 mem hF
    rw [K_X12_readsPawn_265] at hF
    refine w_aload_n X 0 dX12_readsPawn_265 rfl rfl 266 rfl ?_
    refine w_callVi (fun x => x) (fun _ => mem) X hZ hF [] 0 ml_0 mo_0 rfl rfl rfl kB_X12_isGood kL_X12_143 (fun res h => ct_X12_isGood l hZ fu mem res h) rfl rfl rfl ⟨Nat.le_of_ble_eq_true rfl, Nat.le_of_ble_eq_true rfl⟩ (Nat.le_of_ble_eq_true rfl) ⟨Nat.zero_le _, Nat.zero_le _⟩ dX12_readsPawn_266 269 rfl (fun x_38 hF => ?_)
    refine w_if_ne X hF 273 272 dX12_readsPawn_269 (by decide) rfl (fun hF => ?_) (fun hF => ?_)
    · exact w_vret X hQ (o_inj hF) dX12_readsPawn_272
    · refine w_aload_n X 0 dX12_readsPawn_273 rfl rfl 274 rfl ?_
      refine w_lload_n X 1 dX12_readsPawn_274 rfl rfl 275 rfl ?_
      refine w_iload_n X 2 dX12_readsPawn_275 rfl rfl 276 rfl ?_
      refine w_iload X 3 dX12_readsPawn_276 rfl 278 rfl ?_
      refine w_iload X 4 dX12_readsPawn_278 rfl 280 rfl ?_
      refine w_iload X 5 dX12_readsPawn_280 rfl 282 rfl ?_
      refine w_callVv (fun m => m) X hZ hF [.long x1, .int x3, .int x4, .int x5, .int x7] 0 ml_0 mo_0 rfl rfl rfl kB_X12_comesPawn kL_X12_267 (fun res h => ct_X12_comesPawn l hZ fu x1 x3 x4 x5 x7 mem res h) rfl rfl rfl ⟨Nat.le_of_ble_eq_true rfl, Nat.le_of_ble_eq_true rfl⟩ (Nat.le_of_ble_eq_true rfl) ⟨Nat.zero_le _, Nat.zero_le _⟩ dX12_readsPawn_282 285 rfl (fun m_39 hF => ?_)
      refine w_aload_n X 0 dX12_readsPawn_285 rfl rfl 286 rfl ?_
      refine w_aload_n X 0 dX12_readsPawn_286 rfl rfl 287 rfl ?_
      refine w_getV (v := .ref (ad 2)) X 0 ml_0 mo_0 (T := TX12) (N := 50) rfl in_X12 13 (by decide) kF_X12_20 rfl rfl dX12_readsPawn_287 290 rfl ?_
      refine w_iconst X 2 dX12_readsPawn_290 rfl 291 rfl ?_
      refine w_gi hF (fun h_40 hF => ?_)
      refine w_ial X 2 ml_2 mo_2 (t0 := 0) rfl h_40 dX12_readsPawn_291 292 rfl ?_
      refine w_iconst X 1 dX12_readsPawn_292 rfl 293 rfl ?_
      refine w_isub X dX12_readsPawn_293 294 rfl ?_
      refine w_callVi (fun x => x.1) (fun x => x.2) X hZ hF [.int ((rd m_39 2 (Int32.toNatClampNeg 2)) - 1)] 0 ml_0 mo_0 rfl rfl rfl kB_X12_distanceOf kL_X12_222 (fun res h => ct_X12_distanceOf l hZ fu ((rd m_39 2 (Int32.toNatClampNeg 2)) - 1) m_39 res h) rfl rfl rfl ⟨Nat.le_of_ble_eq_true rfl, Nat.le_of_ble_eq_true rfl⟩ (Nat.le_of_ble_eq_true rfl) ⟨Nat.zero_le _, Nat.zero_le _⟩ dX12_readsPawn_294 297 rfl (fun p_41 hF => ?_)
      refine w_iconst X (-1) dX12_readsPawn_297 rfl 298 rfl ?_
      refine w_icmp_ne X hF 306 301 dX12_readsPawn_298 (by decide) rfl (fun hF => ?_) (fun hF => ?_)
      · refine w_aload_n X 0 dX12_readsPawn_301 rfl rfl 302 rfl ?_
        refine w_iconst X 5 dX12_readsPawn_302 rfl 303 rfl ?_
        refine w_callVv (fun m => m) X hZ hF [.int 5] 0 ml_0 mo_0 rfl rfl rfl kB_X12_wrong kL_X12_150 (fun res h => ct_X12_wrong l hZ fu 5 p_41.2 res h) rfl rfl rfl ⟨Nat.le_of_ble_eq_true rfl, Nat.le_of_ble_eq_true rfl⟩ (Nat.le_of_ble_eq_true rfl) ⟨Nat.zero_le _, Nat.zero_le _⟩ dX12_readsPawn_303 306 rfl (fun m_42 hF => ?_)
        exact w_vret X hQ (o_inj hF) dX12_readsPawn_306
      · exact w_vret X hQ (o_inj hF) dX12_readsPawn_306
  have w_242 : ∀ (x1 : Int64) (x3 : Int32) (x4 : Int32) (x5 : Int32) (xs0 : Int32) (mem : Mem), K_X12_readsPawn_242 fu x1 x3 x4 x5 xs0 mem = some res → WW D 23 ad (cM ca ad) p l e rm_X12_readsPawn s m args below meth c 8 0 0 Q mem 242 [(0, .ref (ad 0)), (1, .long x1), (3, .int x3), (4, .int x4), (5, .int x5)] [.int xs0] := by
    intro x1 x3 x4 x5 xs0 mem hF
    rw [K_X12_readsPawn_242] at hF
    refine w_istore X [(7, .int xs0), (0, .ref (ad 0)), (1, .long x1), (3, .int x3), (4, .int x4), (5, .int x5)] dX12_readsPawn_242 (by decide) rfl 244 rfl ?_
    refine w_aload_n X 1 dX12_readsPawn_244 rfl rfl 245 rfl ?_
    refine w_callVi (fun x => x) (fun _ => mem) X hZ hF [] 0 ml_0 mo_0 rfl rfl rfl kB_X12_isGood kL_X12_143 (fun res h => ct_X12_isGood l hZ fu mem res h) rfl rfl rfl ⟨Nat.le_of_ble_eq_true rfl, Nat.le_of_ble_eq_true rfl⟩ (Nat.le_of_ble_eq_true rfl) ⟨Nat.zero_le _, Nat.zero_le _⟩ dX12_readsPawn_245 248 rfl (fun x_35 hF => ?_)
    refine w_if_eq X hF 265 251 dX12_readsPawn_248 (by decide) rfl (fun hF => ?_) (fun hF => ?_)
    · refine w_keep [1, 2, 3, 4, 5, 0] rfl ?_
      exact w_265 x1 x3 x4 x5 xs0 mem hF
    · refine w_aload_n X 1 dX12_readsPawn_251 rfl rfl 252 rfl ?_
      refine w_bipush X 59 dX12_readsPawn_252 rfl 254 rfl ?_
      refine w_callVi (fun x => x) (fun _ => mem) X hZ hF [.int 59] 0 ml_0 mo_0 rfl rfl rfl kB_X12_isSign kL_X12_147 (fun res h => ct_X12_isSign l hZ fu 59 mem res h) rfl rfl rfl ⟨Nat.le_of_ble_eq_true rfl, Nat.le_of_ble_eq_true rfl⟩ (Nat.le_of_ble_eq_true rfl) ⟨Nat.zero_le _, Nat.zero_le _⟩ dX12_readsPawn_254 257 rfl (fun x_36 hF => ?_)
      refine w_if_ne X hF 265 260 dX12_readsPawn_257 (by decide) rfl (fun hF => ?_) (fun hF => ?_)
      · refine w_aload_n X 1 dX12_readsPawn_260 rfl rfl 261 rfl ?_
        refine w_iconst X 1 dX12_readsPawn_261 rfl 262 rfl ?_
        refine w_callVv (fun m => m) X hZ hF [.int 1] 0 ml_0 mo_0 rfl rfl rfl kB_X12_wrong kL_X12_150 (fun res h => ct_X12_wrong l hZ fu 1 mem res h) rfl rfl rfl ⟨Nat.le_of_ble_eq_true rfl, Nat.le_of_ble_eq_true rfl⟩ (Nat.le_of_ble_eq_true rfl) ⟨Nat.zero_le _, Nat.zero_le _⟩ dX12_readsPawn_262 265 rfl (fun m_37 hF => ?_)
        refine w_keep [1, 2, 3, 4, 5, 0] rfl ?_
        exact w_265 x1 x3 x4 x5 xs0 m_37 hF
      · refine w_keep [1, 2, 3, 4, 5, 0] rfl ?_
        exact w_265 x1 x3 x4 x5 xs0 mem hF
  have w_223 : ∀ (x1 : Int64) (x3 : Int32) (x4 : Int32) (x5 : Int32) (x6 : Int32) (mem : Mem), K_X12_readsPawn_223 fu x1 x3 x4 x5 x6 mem = some res → WW D 23 ad (cM ca ad) p l e rm_X12_readsPawn s m args below meth c 8 0 0 Q mem 223 [(0, .ref (ad 0)), (1, .long x1), (3, .int x3), (4, .int x4), (5, .int x5), (6, .int x6)] [] := by
    intro x1 x3 x4 x5 x6 mem hF
    rw [K_X12_readsPawn_223] at hF
    refine w_iload X 5 dX12_readsPawn_223 rfl 225 rfl ?_
    refine w_if_eq X hF 238 228 dX12_readsPawn_225 (by decide) rfl (fun hF => ?_) (fun hF => ?_)
    · refine w_aload_n X 0 dX12_readsPawn_238 rfl rfl 239 rfl ?_
      refine w_getV (v := .int (rd mem 0 24)) X 0 ml_0 mo_0 (T := TX12) (N := 50) rfl in_X12 24 (by decide) kF_X12_252 rfl rfl dX12_readsPawn_239 242 rfl ?_
      refine w_keep [0, 1, 2, 3, 4] rfl ?_
      exact w_242 x1 x3 x4 x5 (rd mem 0 24) mem hF
    · refine w_aload_n X 0 dX12_readsPawn_228 rfl rfl 229 rfl ?_
      refine w_iconst X 0 dX12_readsPawn_229 rfl 230 rfl ?_
      refine w_bipush X 20 dX12_readsPawn_230 rfl 232 rfl ?_
      refine w_callVi (fun x => x.1) (fun x => x.2) X hZ hF [.int 0, .int 20] 0 ml_0 mo_0 rfl rfl rfl kB_X12_number kL_X12_246 (fun res h => ct_X12_number l hZ fu 0 20 mem res h) rfl rfl rfl ⟨Nat.le_of_ble_eq_true rfl, Nat.le_of_ble_eq_true rfl⟩ (Nat.le_of_ble_eq_true rfl) ⟨Nat.zero_le _, Nat.zero_le _⟩ dX12_readsPawn_232 235 rfl (fun p_34 hF => ?_)
      refine w_goto X 242 dX12_readsPawn_235 (by decide) ?_
      refine w_keep [0, 1, 2, 3, 4] rfl ?_
      exact w_242 x1 x3 x4 x5 p_34.1 p_34.2 hF
  have w_205 : ∀ (x1 : Int64) (x3 : Int32) (x4 : Int32) (x5 : Int32) (mem : Mem), K_X12_readsPawn_205 fu x1 x3 x4 x5 mem = some res → WW D 23 ad (cM ca ad) p l e rm_X12_readsPawn s m args below meth c 8 0 0 Q mem 205 [(0, .ref (ad 0)), (1, .long x1), (3, .int x3), (4, .int x4), (5, .int x5)] [] := by
    intro x1 x3 x4 x5 mem hF
    rw [K_X12_readsPawn_205] at hF
    refine w_aload_n X 0 dX12_readsPawn_205 rfl rfl 206 rfl ?_
    refine w_ldc2 X 24162707 kK_X12_265 dX12_readsPawn_206 209 rfl ?_
    refine w_callVi (fun x => x) (fun _ => mem) X hZ hF [.long 24162707] 0 ml_0 mo_0 rfl rfl rfl kB_X12_isWord kL_X12_156 (fun res h => ct_X12_isWord l hZ fu 24162707 mem res h) rfl rfl rfl ⟨Nat.le_of_ble_eq_true rfl, Nat.le_of_ble_eq_true rfl⟩ (Nat.le_of_ble_eq_true rfl) ⟨Nat.zero_le _, Nat.zero_le _⟩ dX12_readsPawn_209 212 rfl (fun x_32 hF => ?_)
    refine w_istore X [(6, .int x_32), (0, .ref (ad 0)), (1, .long x1), (3, .int x3), (4, .int x4), (5, .int x5)] dX12_readsPawn_212 (by decide) rfl 214 rfl ?_
    refine w_iload X 0 dX12_readsPawn_214 rfl 216 rfl ?_
    refine w_if_eq X hF 223 219 dX12_readsPawn_216 (by decide) rfl (fun hF => ?_) (fun hF => ?_)
    · refine w_keep [1, 2, 3, 4, 5, 0] rfl ?_
      exact w_223 x1 x3 x4 x5 x_32 mem hF
    · refine w_aload_n X 1 dX12_readsPawn_219 rfl rfl 220 rfl ?_
      refine w_callVv (fun m => m) X hZ hF [] 0 ml_0 mo_0 rfl rfl rfl kB_X12_goOn kL_X12_153 (fun res h => ct_X12_goOn l hZ fu mem res h) rfl rfl rfl ⟨Nat.le_of_ble_eq_true rfl, Nat.le_of_ble_eq_true rfl⟩ (Nat.le_of_ble_eq_true rfl) ⟨Nat.zero_le _, Nat.zero_le _⟩ dX12_readsPawn_220 223 rfl (fun m_33 hF => ?_)
      refine w_keep [1, 2, 3, 4, 5, 0] rfl ?_
      exact w_223 x1 x3 x4 x5 x_32 m_33 hF
  have w_194 : ∀ (x1 : Int64) (x3 : Int32) (x4 : Int32) (x5 : Int32) (mem : Mem), K_X12_readsPawn_194 fu x1 x3 x4 x5 mem = some res → WW D 23 ad (cM ca ad) p l e rm_X12_readsPawn s m args below meth c 8 0 0 Q mem 194 [(0, .ref (ad 0)), (1, .long x1), (3, .int x3), (4, .int x4), (5, .int x5)] [] := by
    intro x1 x3 x4 x5 mem hF
    rw [K_X12_readsPawn_194] at hF
    refine w_aload_n X 0 dX12_readsPawn_194 rfl rfl 195 rfl ?_
    refine w_callVi (fun x => x) (fun _ => mem) X hZ hF [] 0 ml_0 mo_0 rfl rfl rfl kB_X12_isGood kL_X12_143 (fun res h => ct_X12_isGood l hZ fu mem res h) rfl rfl rfl ⟨Nat.le_of_ble_eq_true rfl, Nat.le_of_ble_eq_true rfl⟩ (Nat.le_of_ble_eq_true rfl) ⟨Nat.zero_le _, Nat.zero_le _⟩ dX12_readsPawn_195 198 rfl (fun x_30 hF => ?_)
    refine w_if_eq X hF 205 201 dX12_readsPawn_198 (by decide) rfl (fun hF => ?_) (fun hF => ?_)
    · refine w_keep [0, 1, 2, 3, 4] rfl ?_
      exact w_205 x1 x3 x4 x5 mem hF
    · refine w_aload_n X 0 dX12_readsPawn_201 rfl rfl 202 rfl ?_
      refine w_callVv (fun m => m) X hZ hF [] 0 ml_0 mo_0 rfl rfl rfl kB_X12_goOn kL_X12_153 (fun res h => ct_X12_goOn l hZ fu mem res h) rfl rfl rfl ⟨Nat.le_of_ble_eq_true rfl, Nat.le_of_ble_eq_true rfl⟩ (Nat.le_of_ble_eq_true rfl) ⟨Nat.zero_le _, Nat.zero_le _⟩ dX12_readsPawn_202 205 rfl (fun m_31 hF => ?_)
      refine w_keep [0, 1, 2, 3, 4] rfl ?_
      exact w_205 x1 x3 x4 x5 m_31 hF
  have w_170 : ∀ (x1 : Int64) (x3 : Int32) (x4 : Int32) (x5 : Int32) (mem : Mem), K_X12_readsPawn_170 fu x1 x3 x4 x5 mem = some res → WW D 23 ad (cM ca ad) p l e rm_X12_readsPawn s m args below meth c 8 0 0 Q mem 170 [(0, .ref (ad 0)), (1, .long x1), (3, .int x3), (4, .int x4), (5, .int x5)] [] := by
    intro x1 x3 x4 x5 mem hF
    rw [K_X12_readsPawn_170] at hF
    refine w_aload_n X 0 dX12_readsPawn_170 rfl rfl 171 rfl ?_
    refine w_callVi (fun x => x) (fun _ => mem) X hZ hF [] 0 ml_0 mo_0 rfl rfl rfl kB_X12_isGood kL_X12_143 (fun res h => ct_X12_isGood l hZ fu mem res h) rfl rfl rfl ⟨Nat.le_of_ble_eq_true rfl, Nat.le_of_ble_eq_true rfl⟩ (Nat.le_of_ble_eq_true rfl) ⟨Nat.zero_le _, Nat.zero_le _⟩ dX12_readsPawn_171 174 rfl (fun x_27 hF => ?_)
    refine w_if_eq X hF 194 177 dX12_readsPawn_174 (by decide) rfl (fun hF => ?_) (fun hF => ?_)
    · refine w_keep [0, 1, 2, 3, 4] rfl ?_
      exact w_194 x1 x3 x4 x5 mem hF
    · refine w_aload_n X 0 dX12_readsPawn_177 rfl rfl 178 rfl ?_
      refine w_iload_n X 2 dX12_readsPawn_178 rfl rfl 179 rfl ?_
      refine w_iload X 3 dX12_readsPawn_179 rfl 181 rfl ?_
      refine w_iload X 4 dX12_readsPawn_181 rfl 183 rfl ?_
      refine w_callVi (fun x => x) (fun _ => mem) X hZ hF [.int x3, .int x4, .int x5] 0 ml_0 mo_0 rfl rfl rfl kB_X12_isAtSide kL_X12_199 (fun res h => ct_X12_isAtSide l hZ fu x3 x4 x5 mem res h) rfl rfl rfl ⟨Nat.le_of_ble_eq_true rfl, Nat.le_of_ble_eq_true rfl⟩ (Nat.le_of_ble_eq_true rfl) ⟨Nat.zero_le _, Nat.zero_le _⟩ dX12_readsPawn_183 186 rfl (fun x_28 hF => ?_)
      refine w_if_eq X hF 194 189 dX12_readsPawn_186 (by decide) rfl (fun hF => ?_) (fun hF => ?_)
      · refine w_keep [0, 1, 2, 3, 4] rfl ?_
        exact w_194 x1 x3 x4 x5 mem hF
      · refine w_aload_n X 0 dX12_readsPawn_189 rfl rfl 190 rfl ?_
        refine w_iconst X 4 dX12_readsPawn_190 rfl 191 rfl ?_
        refine w_callVv (fun m => m) X hZ hF [.int 4] 0 ml_0 mo_0 rfl rfl rfl kB_X12_wrong kL_X12_150 (fun res h => ct_X12_wrong l hZ fu 4 mem res h) rfl rfl rfl ⟨Nat.le_of_ble_eq_true rfl, Nat.le_of_ble_eq_true rfl⟩ (Nat.le_of_ble_eq_true rfl) ⟨Nat.zero_le _, Nat.zero_le _⟩ dX12_readsPawn_191 194 rfl (fun m_29 hF => ?_)
        refine w_keep [0, 1, 2, 3, 4] rfl ?_
        exact w_194 x1 x3 x4 x5 m_29 hF
  have w_146 : ∀ (x1 : Int64) (x3 : Int32) (x4 : Int32) (mem : Mem), K_X12_readsPawn_146 fu x1 x3 x4 mem = some res → WW D 23 ad (cM ca ad) p l e rm_X12_readsPawn s m args below meth c 8 0 0 Q mem 146 [(0, .ref (ad 0)), (1, .long x1), (3, .int x3), (4, .int x4)] [] := by
    intro x1 x3 x4 mem hF
    rw [K_X12_readsPawn_146] at hF
    refine w_aload_n X 0 dX12_readsPawn_146 rfl rfl 147 rfl ?_
    refine w_callVi (fun x => x) (fun _ => mem) X hZ hF [] 0 ml_0 mo_0 rfl rfl rfl kB_X12_sideHere kL_X12_262 (fun res h => ct_X12_sideHere l hZ fu mem res h) rfl rfl rfl ⟨Nat.le_of_ble_eq_true rfl, Nat.le_of_ble_eq_true rfl⟩ (Nat.le_of_ble_eq_true rfl) ⟨Nat.zero_le _, Nat.zero_le _⟩ dX12_readsPawn_147 150 rfl (fun x_24 hF => ?_)
    refine w_istore X [(5, .int x_24), (0, .ref (ad 0)), (1, .long x1), (3, .int x3), (4, .int x4)] dX12_readsPawn_150 (by decide) rfl 152 rfl ?_
    refine w_aload_n X 1 dX12_readsPawn_152 rfl rfl 153 rfl ?_
    refine w_callVi (fun x => x) (fun _ => mem) X hZ hF [] 0 ml_0 mo_0 rfl rfl rfl kB_X12_isGood kL_X12_143 (fun res h => ct_X12_isGood l hZ fu mem res h) rfl rfl rfl ⟨Nat.le_of_ble_eq_true rfl, Nat.le_of_ble_eq_true rfl⟩ (Nat.le_of_ble_eq_true rfl) ⟨Nat.zero_le _, Nat.zero_le _⟩ dX12_readsPawn_153 156 rfl (fun x_25 hF => ?_)
    refine w_if_eq X hF 170 159 dX12_readsPawn_156 (by decide) rfl (fun hF => ?_) (fun hF => ?_)
    · refine w_keep [1, 2, 3, 4, 0] rfl ?_
      exact w_170 x1 x3 x4 x_24 mem hF
    · refine w_iload X 0 dX12_readsPawn_159 rfl 161 rfl ?_
      refine w_iconst X (-1) dX12_readsPawn_161 rfl 162 rfl ?_
      refine w_icmp_ne X hF 170 165 dX12_readsPawn_162 (by decide) rfl (fun hF => ?_) (fun hF => ?_)
      · refine w_aload_n X 1 dX12_readsPawn_165 rfl rfl 166 rfl ?_
        refine w_iconst X 1 dX12_readsPawn_166 rfl 167 rfl ?_
        refine w_callVv (fun m => m) X hZ hF [.int 1] 0 ml_0 mo_0 rfl rfl rfl kB_X12_wrong kL_X12_150 (fun res h => ct_X12_wrong l hZ fu 1 mem res h) rfl rfl rfl ⟨Nat.le_of_ble_eq_true rfl, Nat.le_of_ble_eq_true rfl⟩ (Nat.le_of_ble_eq_true rfl) ⟨Nat.zero_le _, Nat.zero_le _⟩ dX12_readsPawn_167 170 rfl (fun m_26 hF => ?_)
        refine w_keep [1, 2, 3, 4, 0] rfl ?_
        exact w_170 x1 x3 x4 x_24 m_26 hF
      · refine w_keep [1, 2, 3, 4, 0] rfl ?_
        exact w_170 x1 x3 x4 x_24 mem hF
  have w_135 : ∀ (x1 : Int64) (x3 : Int32) (x4 : Int32) (mem : Mem), K_X12_readsPawn_135 fu x1 x3 x4 mem = some res → WW D 23 ad (cM ca ad) p l e rm_X12_readsPawn s m args below meth c 8 0 0 Q mem 135 [(0, .ref (ad 0)), (1, .long x1), (3, .int x3), (4, .int x4)] [] := by
    intro x1 x3 x4 mem hF
    rw [K_X12_readsPawn_135] at hF
    refine w_aload_n X 0 dX12_readsPawn_135 rfl rfl 136 rfl ?_
    refine w_callVi (fun x => x) (fun _ => mem) X hZ hF [] 0 ml_0 mo_0 rfl rfl rfl kB_X12_isGood kL_X12_143 (fun res h => ct_X12_isGood l hZ fu mem res h) rfl rfl rfl ⟨Nat.le_of_ble_eq_true rfl, Nat.le_of_ble_eq_true rfl⟩ (Nat.le_of_ble_eq_true rfl) ⟨Nat.zero_le _, Nat.zero_le _⟩ dX12_readsPawn_136 139 rfl (fun x_22 hF => ?_)
    refine w_if_eq X hF 146 142 dX12_readsPawn_139 (by decide) rfl (fun hF => ?_) (fun hF => ?_)
    · refine w_keep [0, 1, 2, 3] rfl ?_
      exact w_146 x1 x3 x4 mem hF
    · refine w_aload_n X 0 dX12_readsPawn_142 rfl rfl 143 rfl ?_
      refine w_callVv (fun m => m) X hZ hF [] 0 ml_0 mo_0 rfl rfl rfl kB_X12_goOn kL_X12_153 (fun res h => ct_X12_goOn l hZ fu mem res h) rfl rfl rfl ⟨Nat.le_of_ble_eq_true rfl, Nat.le_of_ble_eq_true rfl⟩ (Nat.le_of_ble_eq_true rfl) ⟨Nat.zero_le _, Nat.zero_le _⟩ dX12_readsPawn_143 146 rfl (fun m_23 hF => ?_)
      refine w_keep [0, 1, 2, 3] rfl ?_
      exact w_146 x1 x3 x4 m_23 hF
  have w_83 : ∀ (x1 : Int64) (mem : Mem), K_X12_readsPawn_83 fu x1 mem = some res → WW D 23 ad (cM ca ad) p l e rm_X12_readsPawn s m args below meth c 8 0 0 Q mem 83 [(0, .ref (ad 0)), (1, .long x1)] [] := by
    intro x1 mem hF
    rw [K_X12_readsPawn_83] at hF
    refine w_aload_n X 0 dX12_readsPawn_83 rfl rfl 84 rfl ?_
    refine w_iconst X 0 dX12_readsPawn_84 rfl 85 rfl ?_
    refine w_aload_n X 0 dX12_readsPawn_85 rfl rfl 86 rfl ?_
    refine w_getV (v := .ref (ad 2)) X 0 ml_0 mo_0 (T := TX12) (N := 50) rfl in_X12 13 (by decide) kF_X12_20 rfl rfl dX12_readsPawn_86 89 rfl ?_
    refine w_iconst X 0 dX12_readsPawn_89 rfl 90 rfl ?_
    refine w_gi hF (fun h_13 hF => ?_)
    refine w_ial X 2 ml_2 mo_2 (t0 := 0) rfl h_13 dX12_readsPawn_90 91 rfl ?_
    refine w_iconst X 1 dX12_readsPawn_91 rfl 92 rfl ?_
    refine w_isub X dX12_readsPawn_92 93 rfl ?_
    refine w_callVi (fun x => x.1) (fun x => x.2) X hZ hF [.int 0, .int ((rd mem 2 (Int32.toNatClampNeg 0)) - 1)] 0 ml_0 mo_0 rfl rfl rfl kB_X12_number kL_X12_246 (fun res h => ct_X12_number l hZ fu 0 ((rd mem 2 (Int32.toNatClampNeg 0)) - 1) mem res h) rfl rfl rfl ⟨Nat.le_of_ble_eq_true rfl, Nat.le_of_ble_eq_true rfl⟩ (Nat.le_of_ble_eq_true rfl) ⟨Nat.zero_le _, Nat.zero_le _⟩ dX12_readsPawn_93 96 rfl (fun p_14 hF => ?_)
    refine w_let hF (fun x_15 hF => ?_)
    refine w_istore_n X [(3, .int x_15), (0, .ref (ad 0)), (1, .long x1)] dX12_readsPawn_96 rfl (by decide) rfl 97 rfl ?_
    refine w_aload_n X 1 dX12_readsPawn_97 rfl rfl 98 rfl ?_
    refine w_iconst X 0 dX12_readsPawn_98 rfl 99 rfl ?_
    refine w_aload_n X 1 dX12_readsPawn_99 rfl rfl 100 rfl ?_
    refine w_getV (v := .ref (ad 2)) X 0 ml_0 mo_0 (T := TX12) (N := 50) rfl in_X12 13 (by decide) kF_X12_20 rfl rfl dX12_readsPawn_100 103 rfl ?_
    refine w_iconst X 1 dX12_readsPawn_103 rfl 104 rfl ?_
    refine w_gi hF (fun h_16 hF => ?_)
    refine w_ial X 2 ml_2 mo_2 (t0 := 0) rfl h_16 dX12_readsPawn_104 105 rfl ?_
    refine w_iconst X 1 dX12_readsPawn_105 rfl 106 rfl ?_
    refine w_isub X dX12_readsPawn_106 107 rfl ?_
    refine w_callVi (fun x => x.1) (fun x => x.2) X hZ hF [.int 0, .int ((rd p_14.2 2 (Int32.toNatClampNeg 1)) - 1)] 0 ml_0 mo_0 rfl rfl rfl kB_X12_seen kL_X12_160 (fun res h => ct_X12_seen l hZ fu 0 ((rd p_14.2 2 (Int32.toNatClampNeg 1)) - 1) p_14.2 res h) rfl rfl rfl ⟨Nat.le_of_ble_eq_true rfl, Nat.le_of_ble_eq_true rfl⟩ (Nat.le_of_ble_eq_true rfl) ⟨Nat.zero_le _, Nat.zero_le _⟩ dX12_readsPawn_107 110 rfl (fun p_17 hF => ?_)
    refine w_let hF (fun x_18 hF => ?_)
    refine w_istore X [(4, .int x_18), (3, .int x_15), (0, .ref (ad 0)), (1, .long x1)] dX12_readsPawn_110 (by decide) rfl 112 rfl ?_
    refine w_aload_n X 2 dX12_readsPawn_112 rfl rfl 113 rfl ?_
    refine w_callVi (fun x => x) (fun _ => p_17.2) X hZ hF [] 0 ml_0 mo_0 rfl rfl rfl kB_X12_isGood kL_X12_143 (fun res h => ct_X12_isGood l hZ fu p_17.2 res h) rfl rfl rfl ⟨Nat.le_of_ble_eq_true rfl, Nat.le_of_ble_eq_true rfl⟩ (Nat.le_of_ble_eq_true rfl) ⟨Nat.zero_le _, Nat.zero_le _⟩ dX12_readsPawn_113 116 rfl (fun x_19 hF => ?_)
    refine w_if_eq X hF 135 119 dX12_readsPawn_116 (by decide) rfl (fun hF => ?_) (fun hF => ?_)
    · refine w_keep [2, 3, 1, 0] rfl ?_
      exact w_135 x1 x_15 x_18 p_17.2 hF
    · refine w_aload_n X 2 dX12_readsPawn_119 rfl rfl 120 rfl ?_
      refine w_iload_n X 1 dX12_readsPawn_120 rfl rfl 121 rfl ?_
      refine w_iload X 0 dX12_readsPawn_121 rfl 123 rfl ?_
      refine w_callVi (fun x => x) (fun _ => p_17.2) X hZ hF [.int x_15, .int x_18] 0 ml_0 mo_0 rfl rfl rfl kB_X12_pawnIn kL_X12_259 (fun res h => ct_X12_pawnIn l hZ fu x_15 x_18 p_17.2 res h) rfl rfl rfl ⟨Nat.le_of_ble_eq_true rfl, Nat.le_of_ble_eq_true rfl⟩ (Nat.le_of_ble_eq_true rfl) ⟨Nat.zero_le _, Nat.zero_le _⟩ dX12_readsPawn_123 126 rfl (fun x_20 hF => ?_)
      refine w_iconst X (-1) dX12_readsPawn_126 rfl 127 rfl ?_
      refine w_icmp_eq X hF 135 130 dX12_readsPawn_127 (by decide) rfl (fun hF => ?_) (fun hF => ?_)
      · refine w_keep [2, 3, 1, 0] rfl ?_
        exact w_135 x1 x_15 x_18 p_17.2 hF
      · refine w_aload_n X 2 dX12_readsPawn_130 rfl rfl 131 rfl ?_
        refine w_iconst X 4 dX12_readsPawn_131 rfl 132 rfl ?_
        refine w_callVv (fun m => m) X hZ hF [.int 4] 0 ml_0 mo_0 rfl rfl rfl kB_X12_wrong kL_X12_150 (fun res h => ct_X12_wrong l hZ fu 4 p_17.2 res h) rfl rfl rfl ⟨Nat.le_of_ble_eq_true rfl, Nat.le_of_ble_eq_true rfl⟩ (Nat.le_of_ble_eq_true rfl) ⟨Nat.zero_le _, Nat.zero_le _⟩ dX12_readsPawn_132 135 rfl (fun m_21 hF => ?_)
        refine w_keep [2, 3, 1, 0] rfl ?_
        exact w_135 x1 x_15 x_18 m_21 hF
  have w_67 : ∀ (mem : Mem), K_X12_readsPawn_67 fu mem = some res → WW D 23 ad (cM ca ad) p l e rm_X12_readsPawn s m args below meth c 8 0 0 Q mem 67 [(0, .ref (ad 0))] [] := by
    intro mem hF
    rw [K_X12_readsPawn_67] at hF
    refine w_aload_n X 0 dX12_readsPawn_67 rfl rfl 68 rfl ?_
    refine w_getV (v := .long (rl mem 0 12)) X 0 ml_0 mo_0 (T := TX12) (N := 50) rfl in_X12 12 (by decide) kF_X12_123 rfl rfl dX12_readsPawn_68 71 rfl ?_
    refine w_letl hF (fun x_10 hF => ?_)
    refine w_lstore_n X [(1, .long x_10), (0, .ref (ad 0))] dX12_readsPawn_71 rfl (by decide) rfl 72 rfl ?_
    refine w_aload_n X 1 dX12_readsPawn_72 rfl rfl 73 rfl ?_
    refine w_callVi (fun x => x) (fun _ => mem) X hZ hF [] 0 ml_0 mo_0 rfl rfl rfl kB_X12_isGood kL_X12_143 (fun res h => ct_X12_isGood l hZ fu mem res h) rfl rfl rfl ⟨Nat.le_of_ble_eq_true rfl, Nat.le_of_ble_eq_true rfl⟩ (Nat.le_of_ble_eq_true rfl) ⟨Nat.zero_le _, Nat.zero_le _⟩ dX12_readsPawn_73 76 rfl (fun x_11 hF => ?_)
    refine w_if_eq X hF 83 79 dX12_readsPawn_76 (by decide) rfl (fun hF => ?_) (fun hF => ?_)
    · refine w_keep [1, 0] rfl ?_
      exact w_83 x_10 mem hF
    · refine w_aload_n X 1 dX12_readsPawn_79 rfl rfl 80 rfl ?_
      refine w_callVv (fun m => m) X hZ hF [] 0 ml_0 mo_0 rfl rfl rfl kB_X12_goOn kL_X12_153 (fun res h => ct_X12_goOn l hZ fu mem res h) rfl rfl rfl ⟨Nat.le_of_ble_eq_true rfl, Nat.le_of_ble_eq_true rfl⟩ (Nat.le_of_ble_eq_true rfl) ⟨Nat.zero_le _, Nat.zero_le _⟩ dX12_readsPawn_80 83 rfl (fun m_12 hF => ?_)
      refine w_keep [1, 0] rfl ?_
      exact w_83 x_10 m_12 hF
  have w_47 : ∀ (mem : Mem), K_X12_readsPawn_47 fu mem = some res → WW D 23 ad (cM ca ad) p l e rm_X12_readsPawn s m args below meth c 8 0 0 Q mem 47 [(0, .ref (ad 0))] [] := by
    intro mem hF
    rw [K_X12_readsPawn_47] at hF
    refine w_aload_n X 0 dX12_readsPawn_47 rfl rfl 48 rfl ?_
    refine w_callVi (fun x => x) (fun _ => mem) X hZ hF [] 0 ml_0 mo_0 rfl rfl rfl kB_X12_isGood kL_X12_143 (fun res h => ct_X12_isGood l hZ fu mem res h) rfl rfl rfl ⟨Nat.le_of_ble_eq_true rfl, Nat.le_of_ble_eq_true rfl⟩ (Nat.le_of_ble_eq_true rfl) ⟨Nat.zero_le _, Nat.zero_le _⟩ dX12_readsPawn_48 51 rfl (fun x_7 hF => ?_)
    refine w_if_eq X hF 67 54 dX12_readsPawn_51 (by decide) rfl (fun hF => ?_) (fun hF => ?_)
    · refine w_keep [0] rfl ?_
      exact w_67 mem hF
    · refine w_aload_n X 0 dX12_readsPawn_54 rfl rfl 55 rfl ?_
      refine w_callVi (fun x => x) (fun _ => mem) X hZ hF [] 0 ml_0 mo_0 rfl rfl rfl kB_X12_named kL_X12_255 (fun res h => ct_X12_named l hZ fu mem res h) rfl rfl rfl ⟨Nat.le_of_ble_eq_true rfl, Nat.le_of_ble_eq_true rfl⟩ (Nat.le_of_ble_eq_true rfl) ⟨Nat.zero_le _, Nat.zero_le _⟩ dX12_readsPawn_55 58 rfl (fun x_8 hF => ?_)
      refine w_iconst X (-1) dX12_readsPawn_58 rfl 59 rfl ?_
      refine w_icmp_eq X hF 67 62 dX12_readsPawn_59 (by decide) rfl (fun hF => ?_) (fun hF => ?_)
      · refine w_keep [0] rfl ?_
        exact w_67 mem hF
      · refine w_aload_n X 0 dX12_readsPawn_62 rfl rfl 63 rfl ?_
        refine w_iconst X 4 dX12_readsPawn_63 rfl 64 rfl ?_
        refine w_callVv (fun m => m) X hZ hF [.int 4] 0 ml_0 mo_0 rfl rfl rfl kB_X12_wrong kL_X12_150 (fun res h => ct_X12_wrong l hZ fu 4 mem res h) rfl rfl rfl ⟨Nat.le_of_ble_eq_true rfl, Nat.le_of_ble_eq_true rfl⟩ (Nat.le_of_ble_eq_true rfl) ⟨Nat.zero_le _, Nat.zero_le _⟩ dX12_readsPawn_64 67 rfl (fun m_9 hF => ?_)
        refine w_keep [0] rfl ?_
        exact w_67 m_9 hF
  have w_27 : ∀ (mem : Mem), K_X12_readsPawn_27 fu mem = some res → WW D 23 ad (cM ca ad) p l e rm_X12_readsPawn s m args below meth c 8 0 0 Q mem 27 [(0, .ref (ad 0))] [] := by
    intro mem hF
    rw [K_X12_readsPawn_27] at hF
    refine w_aload_n X 0 dX12_readsPawn_27 rfl rfl 28 rfl ?_
    refine w_callVi (fun x => x) (fun _ => mem) X hZ hF [] 0 ml_0 mo_0 rfl rfl rfl kB_X12_isGood kL_X12_143 (fun res h => ct_X12_isGood l hZ fu mem res h) rfl rfl rfl ⟨Nat.le_of_ble_eq_true rfl, Nat.le_of_ble_eq_true rfl⟩ (Nat.le_of_ble_eq_true rfl) ⟨Nat.zero_le _, Nat.zero_le _⟩ dX12_readsPawn_28 31 rfl (fun x_5 hF => ?_)
    refine w_if_eq X hF 47 34 dX12_readsPawn_31 (by decide) rfl (fun hF => ?_) (fun hF => ?_)
    · refine w_keep [0] rfl ?_
      exact w_47 mem hF
    · refine w_aload_n X 0 dX12_readsPawn_34 rfl rfl 35 rfl ?_
      refine w_getV (v := .int (rd mem 0 6)) X 0 ml_0 mo_0 (T := TX12) (N := 50) rfl in_X12 6 (by decide) kF_X12_130 rfl rfl dX12_readsPawn_35 38 rfl ?_
      refine w_iconst X 1 dX12_readsPawn_38 rfl 39 rfl ?_
      refine w_icmp_eq X hF 47 42 dX12_readsPawn_39 (by decide) rfl (fun hF => ?_) (fun hF => ?_)
      · refine w_keep [0] rfl ?_
        exact w_47 mem hF
      · refine w_aload_n X 0 dX12_readsPawn_42 rfl rfl 43 rfl ?_
        refine w_iconst X 1 dX12_readsPawn_43 rfl 44 rfl ?_
        refine w_callVv (fun m => m) X hZ hF [.int 1] 0 ml_0 mo_0 rfl rfl rfl kB_X12_wrong kL_X12_150 (fun res h => ct_X12_wrong l hZ fu 1 mem res h) rfl rfl rfl ⟨Nat.le_of_ble_eq_true rfl, Nat.le_of_ble_eq_true rfl⟩ (Nat.le_of_ble_eq_true rfl) ⟨Nat.zero_le _, Nat.zero_le _⟩ dX12_readsPawn_44 47 rfl (fun m_6 hF => ?_)
        refine w_keep [0] rfl ?_
        exact w_47 m_6 hF
  have w_16 : ∀ (mem : Mem), K_X12_readsPawn_16 fu mem = some res → WW D 23 ad (cM ca ad) p l e rm_X12_readsPawn s m args below meth c 8 0 0 Q mem 16 [(0, .ref (ad 0))] [] := by
    intro mem hF
    rw [K_X12_readsPawn_16] at hF
    refine w_aload_n X 0 dX12_readsPawn_16 rfl rfl 17 rfl ?_
    refine w_callVi (fun x => x) (fun _ => mem) X hZ hF [] 0 ml_0 mo_0 rfl rfl rfl kB_X12_isGood kL_X12_143 (fun res h => ct_X12_isGood l hZ fu mem res h) rfl rfl rfl ⟨Nat.le_of_ble_eq_true rfl, Nat.le_of_ble_eq_true rfl⟩ (Nat.le_of_ble_eq_true rfl) ⟨Nat.zero_le _, Nat.zero_le _⟩ dX12_readsPawn_17 20 rfl (fun x_3 hF => ?_)
    refine w_if_eq X hF 27 23 dX12_readsPawn_20 (by decide) rfl (fun hF => ?_) (fun hF => ?_)
    · refine w_keep [0] rfl ?_
      exact w_27 mem hF
    · refine w_aload_n X 0 dX12_readsPawn_23 rfl rfl 24 rfl ?_
      refine w_callVv (fun m => m) X hZ hF [] 0 ml_0 mo_0 rfl rfl rfl kB_X12_goOn kL_X12_153 (fun res h => ct_X12_goOn l hZ fu mem res h) rfl rfl rfl ⟨Nat.le_of_ble_eq_true rfl, Nat.le_of_ble_eq_true rfl⟩ (Nat.le_of_ble_eq_true rfl) ⟨Nat.zero_le _, Nat.zero_le _⟩ dX12_readsPawn_24 27 rfl (fun m_4 hF => ?_)
      refine w_keep [0] rfl ?_
      exact w_27 m_4 hF
  intro hF
  refine w_aload_n X 0 dX12_readsPawn_0 rfl rfl 1 rfl ?_
  refine w_getV (v := .ref (ad 2)) X 0 ml_0 mo_0 (T := TX12) (N := 50) rfl in_X12 13 (by decide) kF_X12_20 rfl rfl dX12_readsPawn_1 4 rfl ?_
  refine w_iconst X 2 dX12_readsPawn_4 rfl 5 rfl ?_
  refine w_gi hF (fun h_1 hF => ?_)
  refine w_ial X 2 ml_2 mo_2 (t0 := 0) rfl h_1 dX12_readsPawn_5 6 rfl ?_
  refine w_iconst X 4 dX12_readsPawn_6 rfl 7 rfl ?_
  refine w_icmp_ne X hF 16 10 dX12_readsPawn_7 (by decide) rfl (fun hF => ?_) (fun hF => ?_)
  · refine w_aload_n X 0 dX12_readsPawn_10 rfl rfl 11 rfl ?_
    refine w_bipush X 6 dX12_readsPawn_11 rfl 13 rfl ?_
    refine w_callVv (fun m => m) X hZ hF [.int 6] 0 ml_0 mo_0 rfl rfl rfl kB_X12_wrong kL_X12_150 (fun res h => ct_X12_wrong l hZ fu 6 mem res h) rfl rfl rfl ⟨Nat.le_of_ble_eq_true rfl, Nat.le_of_ble_eq_true rfl⟩ (Nat.le_of_ble_eq_true rfl) ⟨Nat.zero_le _, Nat.zero_le _⟩ dX12_readsPawn_13 16 rfl (fun m_2 hF => ?_)
    refine w_keep [0] rfl ?_
    exact w_16 m_2 hF
  · refine w_keep [0] rfl ?_
    exact w_16 mem hF

def K_X12_readsRule_96 (fu : Nat) (x1 : Int32) (mem : Mem) : Option Mem := bd (K_X12_isGood fu mem) (fun x_14 => (if x_14 = 0 then some mem else gi (x1 + 1) 184 ((if (rd mem 2 (Int32.toNatClampNeg (x1 + 1))) < 2 then some mem else bd (K_X12_isWord fu 5969497 mem) (fun x_16 => (if x_16 = 0 then gi (x1 + 1) 184 (lt_ (mw mem 2 (Int32.toNatClampNeg (x1 + 1)) 3) (fun m_18 => bd (K_X12_mustWord fu 215533 m_18) (fun m_19 => gi 0 184 (bd (K_X12_number fu 0 ((rd m_19 2 (Int32.toNatClampNeg 0)) - 1) m_19) (fun p_21 => gi (x1 + 3) 184 (lt_ (mw p_21.2 2 (Int32.toNatClampNeg (x1 + 3)) p_21.1) (fun m_23 => gi 1 184 (bd (K_X12_number fu 0 ((rd m_23 2 (Int32.toNatClampNeg 1)) - 1) m_23) (fun p_25 => gi (x1 + 4) 184 (lt_ (mw p_25.2 2 (Int32.toNatClampNeg (x1 + 4)) p_25.1) (fun m_27 => bd (K_X12_mustWord fu 655 m_27) (fun m_28 => gi 0 184 (bd (K_X12_number fu 0 ((rd m_28 2 (Int32.toNatClampNeg 0)) - 1) m_28) (fun p_30 => gi (x1 + 5) 184 (lt_ (mw p_30.2 2 (Int32.toNatClampNeg (x1 + 5)) p_30.1) (fun m_32 => gi 1 184 (bd (K_X12_number fu 0 ((rd m_32 2 (Int32.toNatClampNeg 1)) - 1) m_32) (fun p_34 => gi (x1 + 6) 184 (lt_ (mw p_34.2 2 (Int32.toNatClampNeg (x1 + 6)) p_34.1) (fun m_36 => some m_36)))))))))))))))))))) else bd (K_X12_goOn fu mem) (fun m_37 => bd (K_X12_number fu 2 5 m_37) (fun p_38 => gi (x1 + 3) 184 (lt_ (mw p_38.2 2 (Int32.toNatClampNeg (x1 + 3)) p_38.1) (fun m_40 => bd (K_X12_mustWord fu 52 m_40) (fun m_41 => gi (x1 + 3) 184 (bd (K_X12_number fu 0 ((rd m_41 2 (Int32.toNatClampNeg (x1 + 3))) - 1) m_41) (fun p_43 => gi (x1 + 4) 184 (lt_ (mw p_43.2 2 (Int32.toNatClampNeg (x1 + 4)) p_43.1) (fun m_45 => some m_45)))))))))))))))
def K_X12_readsRule_85 (fu : Nat) (x1 : Int32) (mem : Mem) : Option Mem := bd (K_X12_isGood fu mem) (fun x_12 => (if x_12 = 0 then (K_X12_readsRule_96 fu x1 mem) else bd (K_X12_goOn fu mem) (fun m_13 => (K_X12_readsRule_96 fu x1 m_13))))
def K_X12_readsRule_36 (fu : Nat) (x1 : Int32) (xs0 : Int32) (xs1 : Int32) (mem : Mem) : Option Mem := gi xs1 184 (lt_ (mw mem 2 (Int32.toNatClampNeg xs1) xs0) (fun m_4 => bd (K_X12_sideHere fu m_4) (fun x_5 => gi (x1 + 2) 184 (lt_ (mw m_4 2 (Int32.toNatClampNeg (x1 + 2)) x_5) (fun m_7 => bd (K_X12_isGood fu m_7) (fun x_8 => (if x_8 = 0 then (K_X12_readsRule_85 fu x1 m_7) else gi (x1 + 1) 184 ((if (rd m_7 2 (Int32.toNatClampNeg (x1 + 1))) = 2 then gi (x1 + 2) 184 ((if (rd m_7 2 (Int32.toNatClampNeg (x1 + 2))) = (-1) then bd (K_X12_wrong fu 1 m_7) (fun m_11 => (K_X12_readsRule_85 fu x1 m_11)) else (K_X12_readsRule_85 fu x1 m_7))) else (K_X12_readsRule_85 fu x1 m_7))))))))))
def K_X12_readsRule (fu : Nat) (x1 : Int32) (mem : Mem) : Option Mem := bd (K_X12_isWord fu 66667 mem) (fun x_1 => (if x_1 = 0 then bd (K_X12_isWord fu 1279278 mem) (fun x_2 => (if x_2 = 0 then (K_X12_readsRule_36 fu x1 2 (x1 + 1) mem) else (K_X12_readsRule_36 fu x1 1 (x1 + 1) mem))) else (K_X12_readsRule_36 fu x1 0 (x1 + 1) mem)))
def rm_X12_readsRule : Room := { frames := 3, cells := 0, slots := 0, locals := 70 }
set_option maxHeartbeats 4000000 in
set_option maxRecDepth 100000 in
theorem ct_X12_readsRule (l : Launch) {D : va_G} {ca ad : Nat → Nat} {Z : (Nat → Prop) → State → Heap → Prop} (hZ : ZOK Z) (fu : Nat) (x1 : Int32) (mem : Mem) (res : Mem) (hF : K_X12_readsRule fu x1 mem = some res) : CV l D (tyL ca) 23 ad (cM ca ad) Z yX12_readsRule cX12_readsRule 2 rm_X12_readsRule [.ref (ad 0), .int x1] mem res := by
  refine start_v (own := RX12) rfl (by decide) (Nat.le_of_ble_eq_true rfl) ?_
  intro p e s m args below meth c Q hQ X
  rw [K_X12_readsRule] at hF
  revert hF
  have w_96 : ∀ (x1 : Int32) (mem : Mem), K_X12_readsRule_96 fu x1 mem = some res → WW D 23 ad (cM ca ad) p l e rm_X12_readsRule s m args below meth c 2 0 0 Q mem 96 [(0, .ref (ad 0)), (1, .int x1)] [] := by
    intro x1 mem hF
    rw [K_X12_readsRule_96] at hF
    refine w_aload_n X 0 dX12_readsRule_96 rfl rfl 97 rfl ?_
    refine w_callVi (fun x => x) (fun _ => mem) X hZ hF [] 0 ml_0 mo_0 rfl rfl rfl kB_X12_isGood kL_X12_143 (fun res h => ct_X12_isGood l hZ fu mem res h) rfl rfl rfl ⟨Nat.le_of_ble_eq_true rfl, Nat.le_of_ble_eq_true rfl⟩ (Nat.le_of_ble_eq_true rfl) ⟨Nat.zero_le _, Nat.zero_le _⟩ dX12_readsRule_97 100 rfl (fun x_14 hF => ?_)
    refine w_if_eq X hF 115 103 dX12_readsRule_100 (by decide) rfl (fun hF => ?_) (fun hF => ?_)
    · exact w_vret X hQ (o_inj hF) dX12_readsRule_115
    · refine w_aload_n X 0 dX12_readsRule_103 rfl rfl 104 rfl ?_
      refine w_getV (v := .ref (ad 2)) X 0 ml_0 mo_0 (T := TX12) (N := 50) rfl in_X12 13 (by decide) kF_X12_20 rfl rfl dX12_readsRule_104 107 rfl ?_
      refine w_iload_n X 1 dX12_readsRule_107 rfl rfl 108 rfl ?_
      refine w_iconst X 1 dX12_readsRule_108 rfl 109 rfl ?_
      refine w_iadd X dX12_readsRule_109 110 rfl ?_
      refine w_gi hF (fun h_15 hF => ?_)
      refine w_ial X 2 ml_2 mo_2 (t0 := 0) rfl h_15 dX12_readsRule_110 111 rfl ?_
      refine w_iconst X 2 dX12_readsRule_111 rfl 112 rfl ?_
      refine w_icmp_ge X hF 116 115 dX12_readsRule_112 (by decide) rfl (fun hF => ?_) (fun hF => ?_)
      · exact w_vret X hQ (o_inj hF) dX12_readsRule_115
      · refine w_aload_n X 0 dX12_readsRule_116 rfl rfl 117 rfl ?_
        refine w_ldc2 X 5969497 kK_X12_278 dX12_readsRule_117 120 rfl ?_
        refine w_callVi (fun x => x) (fun _ => mem) X hZ hF [.long 5969497] 0 ml_0 mo_0 rfl rfl rfl kB_X12_isWord kL_X12_156 (fun res h => ct_X12_isWord l hZ fu 5969497 mem res h) rfl rfl rfl ⟨Nat.le_of_ble_eq_true rfl, Nat.le_of_ble_eq_true rfl⟩ (Nat.le_of_ble_eq_true rfl) ⟨Nat.zero_le _, Nat.zero_le _⟩ dX12_readsRule_120 123 rfl (fun x_16 hF => ?_)
        refine w_if_eq X hF 175 126 dX12_readsRule_123 (by decide) rfl (fun hF => ?_) (fun hF => ?_)
        · refine w_aload_n X 0 dX12_readsRule_175 rfl rfl 176 rfl ?_
          refine w_getV (v := .ref (ad 2)) X 0 ml_0 mo_0 (T := TX12) (N := 50) rfl in_X12 13 (by decide) kF_X12_20 rfl rfl dX12_readsRule_176 179 rfl ?_
          refine w_iload_n X 1 dX12_readsRule_179 rfl rfl 180 rfl ?_
          refine w_iconst X 1 dX12_readsRule_180 rfl 181 rfl ?_
          refine w_iadd X dX12_readsRule_181 182 rfl ?_
          refine w_iconst X 3 dX12_readsRule_182 rfl 183 rfl ?_
          refine w_gi hF (fun h_17 hF => ?_)
          refine w_ias X 2 ml_2 mo_2 (t0 := 0) rfl h_17 dX12_readsRule_183 184 rfl ?_
          refine w_letm hF (fun m_18 hF => ?_)
          refine w_aload_n X 0 dX12_readsRule_184 rfl rfl 185 rfl ?_
          refine w_ldc2 X 215533 kK_X12_286 dX12_readsRule_185 188 rfl ?_
          refine w_callVv (fun m => m) X hZ hF [.long 215533] 0 ml_0 mo_0 rfl rfl rfl kB_X12_mustWord kL_X12_282 (fun res h => ct_X12_mustWord l hZ fu 215533 m_18 res h) rfl rfl rfl ⟨Nat.le_of_ble_eq_true rfl, Nat.le_of_ble_eq_true rfl⟩ (Nat.le_of_ble_eq_true rfl) ⟨Nat.zero_le _, Nat.zero_le _⟩ dX12_readsRule_188 191 rfl (fun m_19 hF => ?_)
          refine w_aload_n X 0 dX12_readsRule_191 rfl rfl 192 rfl ?_
          refine w_getV (v := .ref (ad 2)) X 0 ml_0 mo_0 (T := TX12) (N := 50) rfl in_X12 13 (by decide) kF_X12_20 rfl rfl dX12_readsRule_192 195 rfl ?_
          refine w_iload_n X 1 dX12_readsRule_195 rfl rfl 196 rfl ?_
          refine w_iconst X 3 dX12_readsRule_196 rfl 197 rfl ?_
          refine w_iadd X dX12_readsRule_197 198 rfl ?_
          refine w_aload_n X 0 dX12_readsRule_198 rfl rfl 199 rfl ?_
          refine w_iconst X 0 dX12_readsRule_199 rfl 200 rfl ?_
          refine w_aload_n X 0 dX12_readsRule_200 rfl rfl 201 rfl ?_
          refine w_getV (v := .ref (ad 2)) X 0 ml_0 mo_0 (T := TX12) (N := 50) rfl in_X12 13 (by decide) kF_X12_20 rfl rfl dX12_readsRule_201 204 rfl ?_
          refine w_iconst X 0 dX12_readsRule_204 rfl 205 rfl ?_
          refine w_gi hF (fun h_20 hF => ?_)
          refine w_ial X 2 ml_2 mo_2 (t0 := 0) rfl h_20 dX12_readsRule_205 206 rfl ?_
          refine w_iconst X 1 dX12_readsRule_206 rfl 207 rfl ?_
          refine w_isub X dX12_readsRule_207 208 rfl ?_
          refine w_callVi (fun x => x.1) (fun x => x.2) X hZ hF [.int 0, .int ((rd m_19 2 (Int32.toNatClampNeg 0)) - 1)] 0 ml_0 mo_0 rfl rfl rfl kB_X12_number kL_X12_246 (fun res h => ct_X12_number l hZ fu 0 ((rd m_19 2 (Int32.toNatClampNeg 0)) - 1) m_19 res h) rfl rfl rfl ⟨Nat.le_of_ble_eq_true rfl, Nat.le_of_ble_eq_true rfl⟩ (Nat.le_of_ble_eq_true rfl) ⟨Nat.zero_le _, Nat.zero_le _⟩ dX12_readsRule_208 211 rfl (fun p_21 hF => ?_)
          refine w_gi hF (fun h_22 hF => ?_)
          refine w_ias X 2 ml_2 mo_2 (t0 := 0) rfl h_22 dX12_readsRule_211 212 rfl ?_
          refine w_letm hF (fun m_23 hF => ?_)
          refine w_aload_n X 0 dX12_readsRule_212 rfl rfl 213 rfl ?_
          refine w_getV (v := .ref (ad 2)) X 0 ml_0 mo_0 (T := TX12) (N := 50) rfl in_X12 13 (by decide) kF_X12_20 rfl rfl dX12_readsRule_213 216 rfl ?_
          refine w_iload_n X 1 dX12_readsRule_216 rfl rfl 217 rfl ?_
          refine w_iconst X 4 dX12_readsRule_217 rfl 218 rfl ?_
          refine w_iadd X dX12_readsRule_218 219 rfl ?_
          refine w_aload_n X 0 dX12_readsRule_219 rfl rfl 220 rfl ?_
          refine w_iconst X 0 dX12_readsRule_220 rfl 221 rfl ?_
          refine w_aload_n X 0 dX12_readsRule_221 rfl rfl 222 rfl ?_
          refine w_getV (v := .ref (ad 2)) X 0 ml_0 mo_0 (T := TX12) (N := 50) rfl in_X12 13 (by decide) kF_X12_20 rfl rfl dX12_readsRule_222 225 rfl ?_
          refine w_iconst X 1 dX12_readsRule_225 rfl 226 rfl ?_
          refine w_gi hF (fun h_24 hF => ?_)
          refine w_ial X 2 ml_2 mo_2 (t0 := 0) rfl h_24 dX12_readsRule_226 227 rfl ?_
          refine w_iconst X 1 dX12_readsRule_227 rfl 228 rfl ?_
          refine w_isub X dX12_readsRule_228 229 rfl ?_
          refine w_callVi (fun x => x.1) (fun x => x.2) X hZ hF [.int 0, .int ((rd m_23 2 (Int32.toNatClampNeg 1)) - 1)] 0 ml_0 mo_0 rfl rfl rfl kB_X12_number kL_X12_246 (fun res h => ct_X12_number l hZ fu 0 ((rd m_23 2 (Int32.toNatClampNeg 1)) - 1) m_23 res h) rfl rfl rfl ⟨Nat.le_of_ble_eq_true rfl, Nat.le_of_ble_eq_true rfl⟩ (Nat.le_of_ble_eq_true rfl) ⟨Nat.zero_le _, Nat.zero_le _⟩ dX12_readsRule_229 232 rfl (fun p_25 hF => ?_)
          refine w_gi hF (fun h_26 hF => ?_)
          refine w_ias X 2 ml_2 mo_2 (t0 := 0) rfl h_26 dX12_readsRule_232 233 rfl ?_
          refine w_letm hF (fun m_27 hF => ?_)
          refine w_aload_n X 0 dX12_readsRule_233 rfl rfl 234 rfl ?_
          refine w_ldc2 X 655 kK_X12_288 dX12_readsRule_234 237 rfl ?_
          refine w_callVv (fun m => m) X hZ hF [.long 655] 0 ml_0 mo_0 rfl rfl rfl kB_X12_mustWord kL_X12_282 (fun res h => ct_X12_mustWord l hZ fu 655 m_27 res h) rfl rfl rfl ⟨Nat.le_of_ble_eq_true rfl, Nat.le_of_ble_eq_true rfl⟩ (Nat.le_of_ble_eq_true rfl) ⟨Nat.zero_le _, Nat.zero_le _⟩ dX12_readsRule_237 240 rfl (fun m_28 hF => ?_)
          refine w_aload_n X 0 dX12_readsRule_240 rfl rfl 241 rfl ?_
          refine w_getV (v := .ref (ad 2)) X 0 ml_0 mo_0 (T := TX12) (N := 50) rfl in_X12 13 (by decide) kF_X12_20 rfl rfl dX12_readsRule_241 244 rfl ?_
          refine w_iload_n X 1 dX12_readsRule_244 rfl rfl 245 rfl ?_
          refine w_iconst X 5 dX12_readsRule_245 rfl 246 rfl ?_
          refine w_iadd X dX12_readsRule_246 247 rfl ?_
          refine w_aload_n X 0 dX12_readsRule_247 rfl rfl 248 rfl ?_
          refine w_iconst X 0 dX12_readsRule_248 rfl 249 rfl ?_
          refine w_aload_n X 0 dX12_readsRule_249 rfl rfl 250 rfl ?_
          refine w_getV (v := .ref (ad 2)) X 0 ml_0 mo_0 (T := TX12) (N := 50) rfl in_X12 13 (by decide) kF_X12_20 rfl rfl dX12_readsRule_250 253 rfl ?_
          refine w_iconst X 0 dX12_readsRule_253 rfl 254 rfl ?_
          refine w_gi hF (fun h_29 hF => ?_)
          refine w_ial X 2 ml_2 mo_2 (t0 := 0) rfl h_29 dX12_readsRule_254 255 rfl ?_
          refine w_iconst X 1 dX12_readsRule_255 rfl 256 rfl ?_
          refine w_isub X dX12_readsRule_256 257 rfl ?_
          refine w_callVi (fun x => x.1) (fun x => x.2) X hZ hF [.int 0, .int ((rd m_28 2 (Int32.toNatClampNeg 0)) - 1)] 0 ml_0 mo_0 rfl rfl rfl kB_X12_number kL_X12_246 (fun res h => ct_X12_number l hZ fu 0 ((rd m_28 2 (Int32.toNatClampNeg 0)) - 1) m_28 res h) rfl rfl rfl ⟨Nat.le_of_ble_eq_true rfl, Nat.le_of_ble_eq_true rfl⟩ (Nat.le_of_ble_eq_true rfl) ⟨Nat.zero_le _, Nat.zero_le _⟩ dX12_readsRule_257 260 rfl (fun p_30 hF => ?_)
          refine w_gi hF (fun h_31 hF => ?_)
          refine w_ias X 2 ml_2 mo_2 (t0 := 0) rfl h_31 dX12_readsRule_260 261 rfl ?_
          refine w_letm hF (fun m_32 hF => ?_)
          refine w_aload_n X 0 dX12_readsRule_261 rfl rfl 262 rfl ?_
          refine w_getV (v := .ref (ad 2)) X 0 ml_0 mo_0 (T := TX12) (N := 50) rfl in_X12 13 (by decide) kF_X12_20 rfl rfl dX12_readsRule_262 265 rfl ?_
          refine w_iload_n X 1 dX12_readsRule_265 rfl rfl 266 rfl ?_
          refine w_bipush X 6 dX12_readsRule_266 rfl 268 rfl ?_
          refine w_iadd X dX12_readsRule_268 269 rfl ?_
          refine w_aload_n X 0 dX12_readsRule_269 rfl rfl 270 rfl ?_
          refine w_iconst X 0 dX12_readsRule_270 rfl 271 rfl ?_
          refine w_aload_n X 0 dX12_readsRule_271 rfl rfl 272 rfl ?_
          refine w_getV (v := .ref (ad 2)) X 0 ml_0 mo_0 (T := TX12) (N := 50) rfl in_X12 13 (by decide) kF_X12_20 rfl rfl dX12_readsRule_272 275 rfl ?_
          refine w_iconst X 1 dX12_readsRule_275 rfl 276 rfl ?_
          refine w_gi hF (fun h_33 hF => ?_)
          refine w_ial X 2 ml_2 mo_2 (t0 := 0) rfl h_33 dX12_readsRule_276 277 rfl ?_
          refine w_iconst X 1 dX12_readsRule_277 rfl 278 rfl ?_
          refine w_isub X dX12_readsRule_278 279 rfl ?_
          refine w_callVi (fun x => x.1) (fun x => x.2) X hZ hF [.int 0, .int ((rd m_32 2 (Int32.toNatClampNeg 1)) - 1)] 0 ml_0 mo_0 rfl rfl rfl kB_X12_number kL_X12_246 (fun res h => ct_X12_number l hZ fu 0 ((rd m_32 2 (Int32.toNatClampNeg 1)) - 1) m_32 res h) rfl rfl rfl ⟨Nat.le_of_ble_eq_true rfl, Nat.le_of_ble_eq_true rfl⟩ (Nat.le_of_ble_eq_true rfl) ⟨Nat.zero_le _, Nat.zero_le _⟩ dX12_readsRule_279 282 rfl (fun p_34 hF => ?_)
          refine w_gi hF (fun h_35 hF => ?_)
          refine w_ias X 2 ml_2 mo_2 (t0 := 0) rfl h_35 dX12_readsRule_282 283 rfl ?_
          refine w_letm hF (fun m_36 hF => ?_)
          exact w_vret X hQ (o_inj hF) dX12_readsRule_283
        · refine w_aload_n X 0 dX12_readsRule_126 rfl rfl 127 rfl ?_
          refine w_callVv (fun m => m) X hZ hF [] 0 ml_0 mo_0 rfl rfl rfl kB_X12_goOn kL_X12_153 (fun res h => ct_X12_goOn l hZ fu mem res h) rfl rfl rfl ⟨Nat.le_of_ble_eq_true rfl, Nat.le_of_ble_eq_true rfl⟩ (Nat.le_of_ble_eq_true rfl) ⟨Nat.zero_le _, Nat.zero_le _⟩ dX12_readsRule_127 130 rfl (fun m_37 hF => ?_)
          refine w_aload_n X 0 dX12_readsRule_130 rfl rfl 131 rfl ?_
          refine w_getV (v := .ref (ad 2)) X 0 ml_0 mo_0 (T := TX12) (N := 50) rfl in_X12 13 (by decide) kF_X12_20 rfl rfl dX12_readsRule_131 134 rfl ?_
          refine w_iload_n X 1 dX12_readsRule_134 rfl rfl 135 rfl ?_
          refine w_iconst X 3 dX12_readsRule_135 rfl 136 rfl ?_
          refine w_iadd X dX12_readsRule_136 137 rfl ?_
          refine w_aload_n X 0 dX12_readsRule_137 rfl rfl 138 rfl ?_
          refine w_iconst X 2 dX12_readsRule_138 rfl 139 rfl ?_
          refine w_iconst X 5 dX12_readsRule_139 rfl 140 rfl ?_
          refine w_callVi (fun x => x.1) (fun x => x.2) X hZ hF [.int 2, .int 5] 0 ml_0 mo_0 rfl rfl rfl kB_X12_number kL_X12_246 (fun res h => ct_X12_number l hZ fu 2 5 m_37 res h) rfl rfl rfl ⟨Nat.le_of_ble_eq_true rfl, Nat.le_of_ble_eq_true rfl⟩ (Nat.le_of_ble_eq_true rfl) ⟨Nat.zero_le _, Nat.zero_le _⟩ dX12_readsRule_140 143 rfl (fun p_38 hF => ?_)
          refine w_gi hF (fun h_39 hF => ?_)
          refine w_ias X 2 ml_2 mo_2 (t0 := 0) rfl h_39 dX12_readsRule_143 144 rfl ?_
          refine w_letm hF (fun m_40 hF => ?_)
          refine w_aload_n X 0 dX12_readsRule_144 rfl rfl 145 rfl ?_
          refine w_ldc2 X 52 kK_X12_280 dX12_readsRule_145 148 rfl ?_
          refine w_callVv (fun m => m) X hZ hF [.long 52] 0 ml_0 mo_0 rfl rfl rfl kB_X12_mustWord kL_X12_282 (fun res h => ct_X12_mustWord l hZ fu 52 m_40 res h) rfl rfl rfl ⟨Nat.le_of_ble_eq_true rfl, Nat.le_of_ble_eq_true rfl⟩ (Nat.le_of_ble_eq_true rfl) ⟨Nat.zero_le _, Nat.zero_le _⟩ dX12_readsRule_148 151 rfl (fun m_41 hF => ?_)
          refine w_aload_n X 0 dX12_readsRule_151 rfl rfl 152 rfl ?_
          refine w_getV (v := .ref (ad 2)) X 0 ml_0 mo_0 (T := TX12) (N := 50) rfl in_X12 13 (by decide) kF_X12_20 rfl rfl dX12_readsRule_152 155 rfl ?_
          refine w_iload_n X 1 dX12_readsRule_155 rfl rfl 156 rfl ?_
          refine w_iconst X 4 dX12_readsRule_156 rfl 157 rfl ?_
          refine w_iadd X dX12_readsRule_157 158 rfl ?_
          refine w_aload_n X 0 dX12_readsRule_158 rfl rfl 159 rfl ?_
          refine w_iconst X 0 dX12_readsRule_159 rfl 160 rfl ?_
          refine w_aload_n X 0 dX12_readsRule_160 rfl rfl 161 rfl ?_
          refine w_getV (v := .ref (ad 2)) X 0 ml_0 mo_0 (T := TX12) (N := 50) rfl in_X12 13 (by decide) kF_X12_20 rfl rfl dX12_readsRule_161 164 rfl ?_
          refine w_iload_n X 1 dX12_readsRule_164 rfl rfl 165 rfl ?_
          refine w_iconst X 3 dX12_readsRule_165 rfl 166 rfl ?_
          refine w_iadd X dX12_readsRule_166 167 rfl ?_
          refine w_gi hF (fun h_42 hF => ?_)
          refine w_ial X 2 ml_2 mo_2 (t0 := 0) rfl h_42 dX12_readsRule_167 168 rfl ?_
          refine w_iconst X 1 dX12_readsRule_168 rfl 169 rfl ?_
          refine w_isub X dX12_readsRule_169 170 rfl ?_
          refine w_callVi (fun x => x.1) (fun x => x.2) X hZ hF [.int 0, .int ((rd m_41 2 (Int32.toNatClampNeg (x1 + 3))) - 1)] 0 ml_0 mo_0 rfl rfl rfl kB_X12_number kL_X12_246 (fun res h => ct_X12_number l hZ fu 0 ((rd m_41 2 (Int32.toNatClampNeg (x1 + 3))) - 1) m_41 res h) rfl rfl rfl ⟨Nat.le_of_ble_eq_true rfl, Nat.le_of_ble_eq_true rfl⟩ (Nat.le_of_ble_eq_true rfl) ⟨Nat.zero_le _, Nat.zero_le _⟩ dX12_readsRule_170 173 rfl (fun p_43 hF => ?_)
          refine w_gi hF (fun h_44 hF => ?_)
          refine w_ias X 2 ml_2 mo_2 (t0 := 0) rfl h_44 dX12_readsRule_173 174 rfl ?_
          refine w_letm hF (fun m_45 hF => ?_)
          exact w_vret X hQ (o_inj hF) dX12_readsRule_174
  have w_85 : ∀ (x1 : Int32) (mem : Mem), K_X12_readsRule_85 fu x1 mem = some res → WW D 23 ad (cM ca ad) p l e rm_X12_readsRule s m args below meth c 2 0 0 Q mem 85 [(0, .ref (ad 0)), (1, .int x1)] [] := by
    intro x1 mem hF
    rw [K_X12_readsRule_85] at hF
    refine w_aload_n X 0 dX12_readsRule_85 rfl rfl 86 rfl ?_
    refine w_callVi (fun x => x) (fun _ => mem) X hZ hF [] 0 ml_0 mo_0 rfl rfl rfl kB_X12_isGood kL_X12_143 (fun res h => ct_X12_isGood l hZ fu mem res h) rfl rfl rfl ⟨Nat.le_of_ble_eq_true rfl, Nat.le_of_ble_eq_true rfl⟩ (Nat.le_of_ble_eq_true rfl) ⟨Nat.zero_le _, Nat.zero_le _⟩ dX12_readsRule_86 89 rfl (fun x_12 hF => ?_)
    refine w_if_eq X hF 96 92 dX12_readsRule_89 (by decide) rfl (fun hF => ?_) (fun hF => ?_)
    · refine w_keep [0, 1] rfl ?_
      exact w_96 x1 mem hF
    · refine w_aload_n X 0 dX12_readsRule_92 rfl rfl 93 rfl ?_
      refine w_callVv (fun m => m) X hZ hF [] 0 ml_0 mo_0 rfl rfl rfl kB_X12_goOn kL_X12_153 (fun res h => ct_X12_goOn l hZ fu mem res h) rfl rfl rfl ⟨Nat.le_of_ble_eq_true rfl, Nat.le_of_ble_eq_true rfl⟩ (Nat.le_of_ble_eq_true rfl) ⟨Nat.zero_le _, Nat.zero_le _⟩ dX12_readsRule_93 96 rfl (fun m_13 hF => ?_)
      refine w_keep [0, 1] rfl ?_
      exact w_96 x1 m_13 hF
  have w_36 : ∀ (x1 : Int32) (xs0 : Int32) (xs1 : Int32) (mem : Mem), K_X12_readsRule_36 fu x1 xs0 xs1 mem = some res → WW D 23 ad (cM ca ad) p l e rm_X12_readsRule s m args below meth c 2 0 0 Q mem 36 [(0, .ref (ad 0)), (1, .int x1)] [.int xs0, .int xs1, .ref (ad 2)] := by
    intro x1 xs0 xs1 mem hF
    rw [K_X12_readsRule_36] at hF
    refine w_gi hF (fun h_3 hF => ?_)
    refine w_ias X 2 ml_2 mo_2 (t0 := 0) rfl h_3 dX12_readsRule_36 37 rfl ?_
    refine w_letm hF (fun m_4 hF => ?_)
    refine w_aload_n X 0 dX12_readsRule_37 rfl rfl 38 rfl ?_
    refine w_getV (v := .ref (ad 2)) X 0 ml_0 mo_0 (T := TX12) (N := 50) rfl in_X12 13 (by decide) kF_X12_20 rfl rfl dX12_readsRule_38 41 rfl ?_
    refine w_iload_n X 1 dX12_readsRule_41 rfl rfl 42 rfl ?_
    refine w_iconst X 2 dX12_readsRule_42 rfl 43 rfl ?_
    refine w_iadd X dX12_readsRule_43 44 rfl ?_
    refine w_aload_n X 0 dX12_readsRule_44 rfl rfl 45 rfl ?_
    refine w_callVi (fun x => x) (fun _ => m_4) X hZ hF [] 0 ml_0 mo_0 rfl rfl rfl kB_X12_sideHere kL_X12_262 (fun res h => ct_X12_sideHere l hZ fu m_4 res h) rfl rfl rfl ⟨Nat.le_of_ble_eq_true rfl, Nat.le_of_ble_eq_true rfl⟩ (Nat.le_of_ble_eq_true rfl) ⟨Nat.zero_le _, Nat.zero_le _⟩ dX12_readsRule_45 48 rfl (fun x_5 hF => ?_)
    refine w_gi hF (fun h_6 hF => ?_)
    refine w_ias X 2 ml_2 mo_2 (t0 := 0) rfl h_6 dX12_readsRule_48 49 rfl ?_
    refine w_letm hF (fun m_7 hF => ?_)
    refine w_aload_n X 0 dX12_readsRule_49 rfl rfl 50 rfl ?_
    refine w_callVi (fun x => x) (fun _ => m_7) X hZ hF [] 0 ml_0 mo_0 rfl rfl rfl kB_X12_isGood kL_X12_143 (fun res h => ct_X12_isGood l hZ fu m_7 res h) rfl rfl rfl ⟨Nat.le_of_ble_eq_true rfl, Nat.le_of_ble_eq_true rfl⟩ (Nat.le_of_ble_eq_true rfl) ⟨Nat.zero_le _, Nat.zero_le _⟩ dX12_readsRule_50 53 rfl (fun x_8 hF => ?_)
    refine w_if_eq X hF 85 56 dX12_readsRule_53 (by decide) rfl (fun hF => ?_) (fun hF => ?_)
    · refine w_keep [0, 1] rfl ?_
      exact w_85 x1 m_7 hF
    · refine w_aload_n X 0 dX12_readsRule_56 rfl rfl 57 rfl ?_
      refine w_getV (v := .ref (ad 2)) X 0 ml_0 mo_0 (T := TX12) (N := 50) rfl in_X12 13 (by decide) kF_X12_20 rfl rfl dX12_readsRule_57 60 rfl ?_
      refine w_iload_n X 1 dX12_readsRule_60 rfl rfl 61 rfl ?_
      refine w_iconst X 1 dX12_readsRule_61 rfl 62 rfl ?_
      refine w_iadd X dX12_readsRule_62 63 rfl ?_
      refine w_gi hF (fun h_9 hF => ?_)
      refine w_ial X 2 ml_2 mo_2 (t0 := 0) rfl h_9 dX12_readsRule_63 64 rfl ?_
      refine w_iconst X 2 dX12_readsRule_64 rfl 65 rfl ?_
      refine w_icmp_ne X hF 85 68 dX12_readsRule_65 (by decide) rfl (fun hF => ?_) (fun hF => ?_)
      · refine w_aload_n X 0 dX12_readsRule_68 rfl rfl 69 rfl ?_
        refine w_getV (v := .ref (ad 2)) X 0 ml_0 mo_0 (T := TX12) (N := 50) rfl in_X12 13 (by decide) kF_X12_20 rfl rfl dX12_readsRule_69 72 rfl ?_
        refine w_iload_n X 1 dX12_readsRule_72 rfl rfl 73 rfl ?_
        refine w_iconst X 2 dX12_readsRule_73 rfl 74 rfl ?_
        refine w_iadd X dX12_readsRule_74 75 rfl ?_
        refine w_gi hF (fun h_10 hF => ?_)
        refine w_ial X 2 ml_2 mo_2 (t0 := 0) rfl h_10 dX12_readsRule_75 76 rfl ?_
        refine w_iconst X (-1) dX12_readsRule_76 rfl 77 rfl ?_
        refine w_icmp_ne X hF 85 80 dX12_readsRule_77 (by decide) rfl (fun hF => ?_) (fun hF => ?_)
        · refine w_aload_n X 0 dX12_readsRule_80 rfl rfl 81 rfl ?_
          refine w_iconst X 1 dX12_readsRule_81 rfl 82 rfl ?_
          refine w_callVv (fun m => m) X hZ hF [.int 1] 0 ml_0 mo_0 rfl rfl rfl kB_X12_wrong kL_X12_150 (fun res h => ct_X12_wrong l hZ fu 1 m_7 res h) rfl rfl rfl ⟨Nat.le_of_ble_eq_true rfl, Nat.le_of_ble_eq_true rfl⟩ (Nat.le_of_ble_eq_true rfl) ⟨Nat.zero_le _, Nat.zero_le _⟩ dX12_readsRule_82 85 rfl (fun m_11 hF => ?_)
          refine w_keep [0, 1] rfl ?_
          exact w_85 x1 m_11 hF
        · refine w_keep [0, 1] rfl ?_
          exact w_85 x1 m_7 hF
      · refine w_keep [0, 1] rfl ?_
        exact w_85 x1 m_7 hF
  intro hF
  refine w_aload_n X 0 dX12_readsRule_0 rfl rfl 1 rfl ?_
  refine w_getV (v := .ref (ad 2)) X 0 ml_0 mo_0 (T := TX12) (N := 50) rfl in_X12 13 (by decide) kF_X12_20 rfl rfl dX12_readsRule_1 4 rfl ?_
  refine w_iload_n X 1 dX12_readsRule_4 rfl rfl 5 rfl ?_
  refine w_iconst X 1 dX12_readsRule_5 rfl 6 rfl ?_
  refine w_iadd X dX12_readsRule_6 7 rfl ?_
  refine w_aload_n X 0 dX12_readsRule_7 rfl rfl 8 rfl ?_
  refine w_ldc2 X 66667 kK_X12_274 dX12_readsRule_8 11 rfl ?_
  refine w_callVi (fun x => x) (fun _ => mem) X hZ hF [.long 66667] 0 ml_0 mo_0 rfl rfl rfl kB_X12_isWord kL_X12_156 (fun res h => ct_X12_isWord l hZ fu 66667 mem res h) rfl rfl rfl ⟨Nat.le_of_ble_eq_true rfl, Nat.le_of_ble_eq_true rfl⟩ (Nat.le_of_ble_eq_true rfl) ⟨Nat.zero_le _, Nat.zero_le _⟩ dX12_readsRule_11 14 rfl (fun x_1 hF => ?_)
  refine w_if_eq X hF 21 17 dX12_readsRule_14 (by decide) rfl (fun hF => ?_) (fun hF => ?_)
  · refine w_aload_n X 0 dX12_readsRule_21 rfl rfl 22 rfl ?_
    refine w_ldc2 X 1279278 kK_X12_276 dX12_readsRule_22 25 rfl ?_
    refine w_callVi (fun x => x) (fun _ => mem) X hZ hF [.long 1279278] 0 ml_0 mo_0 rfl rfl rfl kB_X12_isWord kL_X12_156 (fun res h => ct_X12_isWord l hZ fu 1279278 mem res h) rfl rfl rfl ⟨Nat.le_of_ble_eq_true rfl, Nat.le_of_ble_eq_true rfl⟩ (Nat.le_of_ble_eq_true rfl) ⟨Nat.zero_le _, Nat.zero_le _⟩ dX12_readsRule_25 28 rfl (fun x_2 hF => ?_)
    refine w_if_eq X hF 35 31 dX12_readsRule_28 (by decide) rfl (fun hF => ?_) (fun hF => ?_)
    · refine w_iconst X 2 dX12_readsRule_35 rfl 36 rfl ?_
      refine w_keep [0, 1] rfl ?_
      exact w_36 x1 2 (x1 + 1) mem hF
    · refine w_iconst X 1 dX12_readsRule_31 rfl 32 rfl ?_
      refine w_goto X 36 dX12_readsRule_32 (by decide) ?_
      refine w_keep [0, 1] rfl ?_
      exact w_36 x1 1 (x1 + 1) mem hF
  · refine w_iconst X 0 dX12_readsRule_17 rfl 18 rfl ?_
    refine w_goto X 36 dX12_readsRule_18 (by decide) ?_
    refine w_keep [0, 1] rfl ?_
    exact w_36 x1 0 (x1 + 1) mem hF
end Km3
