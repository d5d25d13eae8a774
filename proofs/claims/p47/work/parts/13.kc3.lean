section Kc3
def K_X9_begin_81 (fu : Nat) (k_24 : Int32 → Int32 → Mem → Option Mem) (x2 : Int32) (x3 : Int32) (mem : Mem) : Option Mem := (if x3 = 0 then (k_24 x3 (x2 + 1) mem) else bd (K_X9_addToken fu x3 x2 mem) (fun m_11 => (k_24 x3 (x2 + 1) m_11)))
def K_X9_begin_56 (fu : Nat) (k_24 : Int32 → Int32 → Mem → Option Mem) (x2 : Int32) (x3 : Int32) (mem : Mem) : Option Mem := (if 0 < (rd mem 2 5) then gi ((rd mem 2 5) - 1) 701 (gi ((rd mem 2 5) - 1) 701 (lt_ (mw mem 6 (Int32.toNatClampNeg ((rd mem 2 5) - 1)) ((rd mem 6 (Int32.toNatClampNeg ((rd mem 2 5) - 1))) + 1)) (fun m_10 => (k_24 x3 (x2 + 1) m_10)))) else (K_X9_begin_81 fu k_24 x2 x3 mem))
def K_X9_begin_24 (fu : Nat) : Nat → Int32 → Int32 → Mem → Option Mem
  | 0, _, _, _ => none
  | n + 1, x1, x2, mem => (if x2 < (rd mem 2 1) then bd (K_X9_byteAt fu x2 mem) (fun x_5 => bd (K_X9_kindOf fu x_5 mem) (fun x_6 => (if x_6 = x1 then (if x_6 = 1 then (K_X9_begin_56 fu (K_X9_begin_24 fu n) x2 x_6 mem) else (if x_6 = 2 then (K_X9_begin_56 fu (K_X9_begin_24 fu n) x2 x_6 mem) else (K_X9_begin_81 fu (K_X9_begin_24 fu n) x2 x_6 mem))) else (K_X9_begin_81 fu (K_X9_begin_24 fu n) x2 x_6 mem)))) else bd (K_X9_addToken fu 5 (rd mem 2 1) mem) (fun m_7 => some m_7))
def K_X9_begin (fu : Nat) (mem : Mem) : Option Mem := lt_ (mw mem 2 11 0) (fun m_1 => lt_ (mw m_1 2 12 (-1)) (fun m_2 => lt_ (mw m_2 2 5 0) (fun m_3 => lt_ (mw m_3 2 6 (-1)) (fun m_4 => (K_X9_begin_24 fu fu 0 0 m_4)))))
def rm_X9_begin : Room := { frames := 1, cells := 0, slots := 0, locals := 22 }
set_option maxHeartbeats 4000000 in
set_option maxRecDepth 100000 in
theorem ct_X9_begin (l : Launch) {D : va_G} {ca ad : Nat → Nat} {Z : (Nat → Prop) → State → Heap → Prop} (hZ : ZOK Z) {tO : Nat} {sK sV : Nat → Nat} (hO : ZO Z tO sK sV) (fu : Nat) (mem : Mem) (res : Mem) (hF : K_X9_begin fu mem = some res) : CV l D (tyL ca) 255 ad (cC ca ad) Z yX9_begin cX9_begin 4 rm_X9_begin [.ref (ad 2)] mem res := by
  refine start_v (own := RX9) rfl (by decide) (Nat.le_of_ble_eq_true rfl) ?_
  intro p e s m args below meth c Q hQ X
  rw [K_X9_begin] at hF
  revert hF
  have w_81 : ∀ (k_24 : Int32 → Int32 → Mem → Option Mem) (hk_24 : ∀ (x1 : Int32) (x2 : Int32) (mem : Mem), k_24 x1 x2 mem = some res → WW D 255 ad (cC ca ad) p l e rm_X9_begin s m args below meth c 4 0 0 Q mem 24 [(0, .ref (ad 2)), (1, .int x1), (2, .int x2)] []) (x2 : Int32) (x3 : Int32) (mem : Mem), K_X9_begin_81 fu k_24 x2 x3 mem = some res → WW D 255 ad (cC ca ad) p l e rm_X9_begin s m args below meth c 4 0 0 Q mem 81 [(0, .ref (ad 2)), (2, .int x2), (3, .int x3)] [] := by
    intro k_24 hk_24 x2 x3 mem hF
    rw [K_X9_begin_81] at hF
    refine w_iload_n X 2 dX9_begin_81 rfl rfl 82 rfl ?_
    refine w_if_eq X hF 91 85 dX9_begin_82 (by decide) rfl (fun hF => ?_) (fun hF => ?_)
    · refine w_iload_n X 2 dX9_begin_91 rfl rfl 92 rfl ?_
      refine w_istore_n X [(1, .int x3), (0, .ref (ad 2)), (2, .int x2), (3, .int x3)] dX9_begin_92 rfl (by decide) rfl 93 rfl ?_
      refine w_iinc X 2 (x2 + 1) [(2, .int (x2 + 1)), (1, .int x3), (0, .ref (ad 2)), (3, .int x3)] dX9_begin_93 rfl rfl (by decide) rfl 96 rfl ?_
      refine w_goto X 24 dX9_begin_96 (by decide) ?_
      refine w_keep [2, 1, 0] rfl ?_
      exact hk_24 x3 (x2 + 1) mem hF
    · refine w_aload_n X 0 dX9_begin_85 rfl rfl 86 rfl ?_
      refine w_iload_n X 2 dX9_begin_86 rfl rfl 87 rfl ?_
      refine w_iload_n X 1 dX9_begin_87 rfl rfl 88 rfl ?_
      refine w_callVv (fun m => m) X hZ hF [.int x3, .int x2] 2 plt_2 ko_2 rfl rfl rfl kB_X9_addToken kL_X9_48 (fun res h => ct_X9_addToken l hZ hO fu x3 x2 mem res h) rfl rfl rfl ⟨Nat.le_of_ble_eq_true rfl, Nat.le_of_ble_eq_true rfl⟩ (Nat.le_of_ble_eq_true rfl) ⟨Nat.zero_le _, Nat.zero_le _⟩ dX9_begin_88 91 rfl (fun m_11 hF => ?_)
      refine w_iload_n X 2 dX9_begin_91 rfl rfl 92 rfl ?_
      refine w_istore_n X [(1, .int x3), (0, .ref (ad 2)), (2, .int x2), (3, .int x3)] dX9_begin_92 rfl (by decide) rfl 93 rfl ?_
      refine w_iinc X 2 (x2 + 1) [(2, .int (x2 + 1)), (1, .int x3), (0, .ref (ad 2)), (3, .int x3)] dX9_begin_93 rfl rfl (by decide) rfl 96 rfl ?_
      refine w_goto X 24 dX9_begin_96 (by decide) ?_
      refine w_keep [2, 1, 0] rfl ?_
      exact hk_24 x3 (x2 + 1) m_11 hF
  have w_56 : ∀ (k_24 : Int32 → Int32 → Mem → Option Mem) (hk_24 : ∀ (x1 : Int32) (x2 : Int32) (mem : Mem), k_24 x1 x2 mem = some res → WW D 255 ad (cC ca ad) p l e rm_X9_begin s m args below meth c 4 0 0 Q mem 24 [(0, .ref (ad 2)), (1, .int x1), (2, .int x2)] []) (x2 : Int32) (x3 : Int32) (mem : Mem), K_X9_begin_56 fu k_24 x2 x3 mem = some res → WW D 255 ad (cC ca ad) p l e rm_X9_begin s m args below meth c 4 0 0 Q mem 56 [(0, .ref (ad 2)), (2, .int x2), (3, .int x3)] [] := by
    intro k_24 hk_24 x2 x3 mem hF
    rw [K_X9_begin_56] at hF
    refine w_aload_n X 0 dX9_begin_56 rfl rfl 57 rfl ?_
    refine w_getV (v := .int (rd mem 2 5)) X 2 plt_2 ko_2 (T := TX9) (N := 13) rfl in_X9 5 (by decide) kF_X9_35 rfl rfl dX9_begin_57 60 rfl ?_
    refine w_if_le X hF 81 63 dX9_begin_60 (by decide) rfl (fun hF => ?_) (fun hF => ?_)
    · refine w_aload_n X 0 dX9_begin_63 rfl rfl 64 rfl ?_
      refine w_getV (v := .ref (ad 6)) X 2 plt_2 ko_2 (T := TX9) (N := 13) rfl in_X9 4 (by decide) kF_X9_22 rfl rfl dX9_begin_64 67 rfl ?_
      refine w_aload_n X 0 dX9_begin_67 rfl rfl 68 rfl ?_
      refine w_getV (v := .int (rd mem 2 5)) X 2 plt_2 ko_2 (T := TX9) (N := 13) rfl in_X9 5 (by decide) kF_X9_35 rfl rfl dX9_begin_68 71 rfl ?_
      refine w_iconst X 1 dX9_begin_71 rfl 72 rfl ?_
      refine w_isub X dX9_begin_72 73 rfl ?_
      refine w_dup2 X dX9_begin_73 rfl rfl 74 rfl ?_
      refine w_gi hF (fun h_8 hF => ?_)
      refine w_ial X 6 plt_6 ko_6 (t0 := 0) rfl h_8 dX9_begin_74 75 rfl ?_
      refine w_iconst X 1 dX9_begin_75 rfl 76 rfl ?_
      refine w_iadd X dX9_begin_76 77 rfl ?_
      refine w_gi hF (fun h_9 hF => ?_)
      refine w_ias X 6 plt_6 ko_6 (t0 := 0) rfl h_9 dX9_begin_77 78 rfl ?_
      refine w_letm hF (fun m_10 hF => ?_)
      refine w_goto X 91 dX9_begin_78 (by decide) ?_
      refine w_iload_n X 2 dX9_begin_91 rfl rfl 92 rfl ?_
      refine w_istore_n X [(1, .int x3), (0, .ref (ad 2)), (2, .int x2), (3, .int x3)] dX9_begin_92 rfl (by decide) rfl 93 rfl ?_
      refine w_iinc X 2 (x2 + 1) [(2, .int (x2 + 1)), (1, .int x3), (0, .ref (ad 2)), (3, .int x3)] dX9_begin_93 rfl rfl (by decide) rfl 96 rfl ?_
      refine w_goto X 24 dX9_begin_96 (by decide) ?_
      refine w_keep [2, 1, 0] rfl ?_
      exact hk_24 x3 (x2 + 1) m_10 hF
    · refine w_keep [0, 1, 2] rfl ?_
      exact w_81 k_24 hk_24 x2 x3 mem hF
  have w_24 : ∀ (n : Nat) (x1 : Int32) (x2 : Int32) (mem : Mem), K_X9_begin_24 fu n x1 x2 mem = some res → WW D 255 ad (cC ca ad) p l e rm_X9_begin s m args below meth c 4 0 0 Q mem 24 [(0, .ref (ad 2)), (1, .int x1), (2, .int x2)] [] := by
    intro n
    induction n with
    | zero => intro x1 x2 mem hF; exact no_none (show (none : Option Mem) = some res from hF)
    | succ n ih =>
      intro x1 x2 mem hF
      rw [K_X9_begin_24] at hF
      refine w_iload_n X 2 dX9_begin_24 rfl rfl 25 rfl ?_
      refine w_aload_n X 0 dX9_begin_25 rfl rfl 26 rfl ?_
      refine w_getV (v := .int (rd mem 2 1)) X 2 plt_2 ko_2 (T := TX9) (N := 13) rfl in_X9 1 (by decide) kF_X9_29 rfl rfl dX9_begin_26 29 rfl ?_
      refine w_icmp_ge X hF 99 32 dX9_begin_29 (by decide) rfl (fun hF => ?_) (fun hF => ?_)
      · refine w_aload_n X 0 dX9_begin_32 rfl rfl 33 rfl ?_
        refine w_iload_n X 2 dX9_begin_33 rfl rfl 34 rfl ?_
        refine w_callVi (fun x => x) (fun _ => mem) X hZ hF [.int x2] 2 plt_2 ko_2 rfl rfl rfl kB_X9_byteAt kL_X9_41 (fun res h => ct_X9_byteAt l hZ hO fu x2 mem res h) rfl rfl rfl ⟨Nat.le_of_ble_eq_true rfl, Nat.le_of_ble_eq_true rfl⟩ (Nat.le_of_ble_eq_true rfl) ⟨Nat.zero_le _, Nat.zero_le _⟩ dX9_begin_34 37 rfl (fun x_5 hF => ?_)
        refine w_callSi (fun x => x) (fun _ => mem) X hZ hF [.int x_5] rfl kB_X9_kindOf kL_X9_45 (fun res h => ct_X9_kindOf l hZ hO fu x_5 mem res h) rfl rfl rfl ⟨Nat.le_of_ble_eq_true rfl, Nat.le_of_ble_eq_true rfl⟩ (Nat.le_of_ble_eq_true rfl) ⟨Nat.zero_le _, Nat.zero_le _⟩ dX9_begin_37 40 rfl (fun x_6 hF => ?_)
        refine w_istore_n X [(3, .int x_6), (0, .ref (ad 2)), (1, .int x1), (2, .int x2)] dX9_begin_40 rfl (by decide) rfl 41 rfl ?_
        refine w_iload_n X 0 dX9_begin_41 rfl rfl 42 rfl ?_
        refine w_iload_n X 2 dX9_begin_42 rfl rfl 43 rfl ?_
        refine w_icmp_ne X hF 81 46 dX9_begin_43 (by decide) rfl (fun hF => ?_) (fun hF => ?_)
        · refine w_iload_n X 0 dX9_begin_46 rfl rfl 47 rfl ?_
          refine w_iconst X 1 dX9_begin_47 rfl 48 rfl ?_
          refine w_icmp_eq X hF 56 51 dX9_begin_48 (by decide) rfl (fun hF => ?_) (fun hF => ?_)
          · refine w_keep [1, 3, 0] rfl ?_
            exact w_56 (K_X9_begin_24 fu n) ih x2 x_6 mem hF
          · refine w_iload_n X 0 dX9_begin_51 rfl rfl 52 rfl ?_
            refine w_iconst X 2 dX9_begin_52 rfl 53 rfl ?_
            refine w_icmp_ne X hF 81 56 dX9_begin_53 (by decide) rfl (fun hF => ?_) (fun hF => ?_)
            · refine w_keep [1, 3, 0] rfl ?_
              exact w_56 (K_X9_begin_24 fu n) ih x2 x_6 mem hF
            · refine w_keep [1, 3, 0] rfl ?_
              exact w_81 (K_X9_begin_24 fu n) ih x2 x_6 mem hF
        · refine w_keep [1, 3, 0] rfl ?_
          exact w_81 (K_X9_begin_24 fu n) ih x2 x_6 mem hF
      · refine w_aload_n X 0 dX9_begin_99 rfl rfl 100 rfl ?_
        refine w_iconst X 5 dX9_begin_100 rfl 101 rfl ?_
        refine w_aload_n X 0 dX9_begin_101 rfl rfl 102 rfl ?_
        refine w_getV (v := .int (rd mem 2 1)) X 2 plt_2 ko_2 (T := TX9) (N := 13) rfl in_X9 1 (by decide) kF_X9_29 rfl rfl dX9_begin_102 105 rfl ?_
        refine w_callVv (fun m => m) X hZ hF [.int 5, .int (rd mem 2 1)] 2 plt_2 ko_2 rfl rfl rfl kB_X9_addToken kL_X9_48 (fun res h => ct_X9_addToken l hZ hO fu 5 (rd mem 2 1) mem res h) rfl rfl rfl ⟨Nat.le_of_ble_eq_true rfl, Nat.le_of_ble_eq_true rfl⟩ (Nat.le_of_ble_eq_true rfl) ⟨Nat.zero_le _, Nat.zero_le _⟩ dX9_begin_105 108 rfl (fun m_7 hF => ?_)
        exact w_vret X hQ (o_inj hF) dX9_begin_108
  intro hF
  refine w_aload_n X 0 dX9_begin_0 rfl rfl 1 rfl ?_
  refine w_iconst X 0 dX9_begin_1 rfl 2 rfl ?_
  refine w_putI X 2 plt_2 ko_2 (T := TX9) (N := 13) rfl in_X9 tyX9 tyX9_ok nmX9 11 (by decide) kF_X9_32 rfl rfl rfl rfl (Nat.le_of_ble_eq_true rfl) rfl dX9_begin_2 5 rfl ?_
  refine w_letm hF (fun m_1 hF => ?_)
  refine w_aload_n X 0 dX9_begin_5 rfl rfl 6 rfl ?_
  refine w_iconst X (-1) dX9_begin_6 rfl 7 rfl ?_
  refine w_putI X 2 plt_2 ko_2 (T := TX9) (N := 13) rfl in_X9 tyX9 tyX9_ok nmX9 12 (by decide) kF_X9_25 rfl rfl rfl rfl (Nat.le_of_ble_eq_true rfl) rfl dX9_begin_7 10 rfl ?_
  refine w_letm hF (fun m_2 hF => ?_)
  refine w_aload_n X 0 dX9_begin_10 rfl rfl 11 rfl ?_
  refine w_iconst X 0 dX9_begin_11 rfl 12 rfl ?_
  refine w_putI X 2 plt_2 ko_2 (T := TX9) (N := 13) rfl in_X9 tyX9 tyX9_ok nmX9 5 (by decide) kF_X9_35 rfl rfl rfl rfl (Nat.le_of_ble_eq_true rfl) rfl dX9_begin_12 15 rfl ?_
  refine w_letm hF (fun m_3 hF => ?_)
  refine w_aload_n X 0 dX9_begin_15 rfl rfl 16 rfl ?_
  refine w_iconst X (-1) dX9_begin_16 rfl 17 rfl ?_
  refine w_putI X 2 plt_2 ko_2 (T := TX9) (N := 13) rfl in_X9 tyX9 tyX9_ok nmX9 6 (by decide) kF_X9_38 rfl rfl rfl rfl (Nat.le_of_ble_eq_true rfl) rfl dX9_begin_17 20 rfl ?_
  refine w_letm hF (fun m_4 hF => ?_)
  refine w_iconst X 0 dX9_begin_20 rfl 21 rfl ?_
  refine w_istore_n X [(1, .int 0), (0, .ref (ad 2))] dX9_begin_21 rfl (by decide) rfl 22 rfl ?_
  refine w_iconst X 0 dX9_begin_22 rfl 23 rfl ?_
  refine w_istore_n X [(2, .int 0), (1, .int 0), (0, .ref (ad 2))] dX9_begin_23 rfl (by decide) rfl 24 rfl ?_
  refine w_keep [2, 1, 0] rfl ?_
  exact w_24 fu 0 0 m_4 hF

def K_X9_advance_115 (fu : Nat) (mem : Mem) : Option Mem := lt_ (mw mem 2 7 4) (fun m_8 => some m_8)
def K_X9_advance_99 (fu : Nat) (mem : Mem) : Option Mem := (if (rd mem 2 7) = 2 then (if 3 < (rd mem 2 9) then (K_X9_advance_115 fu mem) else some mem) else some mem)
def K_X9_advance_23 (fu : Nat) (mem : Mem) : Option Mem := (if (rd mem 2 6) < 0 then some mem else (if (rd mem 2 6) < 701 then gi (rd mem 2 6) 701 (lt_ (mw mem 2 7 (rd mem 4 (Int32.toNatClampNeg (rd mem 2 6)))) (fun m_3 => gi (rd m_3 2 6) 701 (lt_ (mw m_3 2 8 (rd m_3 5 (Int32.toNatClampNeg (rd m_3 2 6)))) (fun m_5 => gi (rd m_5 2 6) 701 (lt_ (mw m_5 2 9 (rd m_5 6 (Int32.toNatClampNeg (rd m_5 2 6)))) (fun m_7 => (if (rd m_7 2 7) = 1 then (if 8 < (rd m_7 2 9) then (K_X9_advance_115 fu m_7) else (K_X9_advance_99 fu m_7)) else (K_X9_advance_99 fu m_7)))))))) else some mem))
def K_X9_advance (fu : Nat) (mem : Mem) : Option Mem := (if ((rd mem 2 6) + 1) < (rd mem 2 5) then lt_ (mw mem 2 6 ((rd mem 2 6) + 1)) (fun m_1 => (K_X9_advance_23 fu m_1)) else (K_X9_advance_23 fu mem))
def rm_X9_advance : Room := { frames := 0, cells := 0, slots := 0, locals := 0 }
set_option maxHeartbeats 4000000 in
set_option maxRecDepth 100000 in
theorem ct_X9_advance (l : Launch) {D : va_G} {ca ad : Nat → Nat} {Z : (Nat → Prop) → State → Heap → Prop} (hZ : ZOK Z) {tO : Nat} {sK sV : Nat → Nat} (hO : ZO Z tO sK sV) (fu : Nat) (mem : Mem) (res : Mem) (hF : K_X9_advance fu mem = some res) : CV l D (tyL ca) 255 ad (cC ca ad) Z yX9_advance cX9_advance 1 rm_X9_advance [.ref (ad 2)] mem res := by
  refine start_v (own := RX9) rfl (by decide) (Nat.le_of_ble_eq_true rfl) ?_
  intro p e s m args below meth c Q hQ X
  rw [K_X9_advance] at hF
  revert hF
  have w_115 : ∀ (mem : Mem), K_X9_advance_115 fu mem = some res → WW D 255 ad (cC ca ad) p l e rm_X9_advance s m args below meth c 1 0 0 Q mem 115 [(0, .ref (ad 2))] [] := by
    intro mem hF
    rw [K_X9_advance_115] at hF
    refine w_aload_n X 0 dX9_advance_115 rfl rfl 116 rfl ?_
    refine w_iconst X 4 dX9_advance_116 rfl 117 rfl ?_
    refine w_putI X 2 plt_2 ko_2 (T := TX9) (N := 13) rfl in_X9 tyX9 tyX9_ok nmX9 7 (by decide) kF_X9_52 rfl rfl rfl rfl (Nat.le_of_ble_eq_true rfl) rfl dX9_advance_117 120 rfl ?_
    refine w_letm hF (fun m_8 hF => ?_)
    exact w_vret X hQ (o_inj hF) dX9_advance_120
  have w_99 : ∀ (mem : Mem), K_X9_advance_99 fu mem = some res → WW D 255 ad (cC ca ad) p l e rm_X9_advance s m args below meth c 1 0 0 Q mem 99 [(0, .ref (ad 2))] [] := by
    intro mem hF
    rw [K_X9_advance_99] at hF
    refine w_aload_n X 0 dX9_advance_99 rfl rfl 100 rfl ?_
    refine w_getV (v := .int (rd mem 2 7)) X 2 plt_2 ko_2 (T := TX9) (N := 13) rfl in_X9 7 (by decide) kF_X9_52 rfl rfl dX9_advance_100 103 rfl ?_
    refine w_iconst X 2 dX9_advance_103 rfl 104 rfl ?_
    refine w_icmp_ne X hF 120 107 dX9_advance_104 (by decide) rfl (fun hF => ?_) (fun hF => ?_)
    · refine w_aload_n X 0 dX9_advance_107 rfl rfl 108 rfl ?_
      refine w_getV (v := .int (rd mem 2 9)) X 2 plt_2 ko_2 (T := TX9) (N := 13) rfl in_X9 9 (by decide) kF_X9_58 rfl rfl dX9_advance_108 111 rfl ?_
      refine w_iconst X 3 dX9_advance_111 rfl 112 rfl ?_
      refine w_icmp_le X hF 120 115 dX9_advance_112 (by decide) rfl (fun hF => ?_) (fun hF => ?_)
      · refine w_keep [0] rfl ?_
        exact w_115 mem hF
      · exact w_vret X hQ (o_inj hF) dX9_advance_120
    · exact w_vret X hQ (o_inj hF) dX9_advance_120
  have w_23 : ∀ (mem : Mem), K_X9_advance_23 fu mem = some res → WW D 255 ad (cC ca ad) p l e rm_X9_advance s m args below meth c 1 0 0 Q mem 23 [(0, .ref (ad 2))] [] := by
    intro mem hF
    rw [K_X9_advance_23] at hF
    refine w_aload_n X 0 dX9_advance_23 rfl rfl 24 rfl ?_
    refine w_getV (v := .int (rd mem 2 6)) X 2 plt_2 ko_2 (T := TX9) (N := 13) rfl in_X9 6 (by decide) kF_X9_38 rfl rfl dX9_advance_24 27 rfl ?_
    refine w_if_lt X hF 42 30 dX9_advance_27 (by decide) rfl (fun hF => ?_) (fun hF => ?_)
    · exact w_vret X hQ (o_inj hF) dX9_advance_42
    · refine w_aload_n X 0 dX9_advance_30 rfl rfl 31 rfl ?_
      refine w_getV (v := .int (rd mem 2 6)) X 2 plt_2 ko_2 (T := TX9) (N := 13) rfl in_X9 6 (by decide) kF_X9_38 rfl rfl dX9_advance_31 34 rfl ?_
      refine w_aload_n X 0 dX9_advance_34 rfl rfl 35 rfl ?_
      refine w_getV (v := .ref (ad 4)) X 2 plt_2 ko_2 (T := TX9) (N := 13) rfl in_X9 2 (by decide) kF_X9_15 rfl rfl dX9_advance_35 38 rfl ?_
      refine w_alen X 4 plt_4 701 (ko_4 _) (t0 := 0) rfl rfl dX9_advance_38 39 rfl ?_
      refine w_icmp_lt X hF 43 42 dX9_advance_39 (by decide) rfl (fun hF => ?_) (fun hF => ?_)
      · refine w_aload_n X 0 dX9_advance_43 rfl rfl 44 rfl ?_
        refine w_aload_n X 0 dX9_advance_44 rfl rfl 45 rfl ?_
        refine w_getV (v := .ref (ad 4)) X 2 plt_2 ko_2 (T := TX9) (N := 13) rfl in_X9 2 (by decide) kF_X9_15 rfl rfl dX9_advance_45 48 rfl ?_
        refine w_aload_n X 0 dX9_advance_48 rfl rfl 49 rfl ?_
        refine w_getV (v := .int (rd mem 2 6)) X 2 plt_2 ko_2 (T := TX9) (N := 13) rfl in_X9 6 (by decide) kF_X9_38 rfl rfl dX9_advance_49 52 rfl ?_
        refine w_gi hF (fun h_2 hF => ?_)
        refine w_ial X 4 plt_4 ko_4 (t0 := 0) rfl h_2 dX9_advance_52 53 rfl ?_
        refine w_putI X 2 plt_2 ko_2 (T := TX9) (N := 13) rfl in_X9 tyX9 tyX9_ok nmX9 7 (by decide) kF_X9_52 rfl rfl rfl rfl (Nat.le_of_ble_eq_true rfl) rfl dX9_advance_53 56 rfl ?_
        refine w_letm hF (fun m_3 hF => ?_)
        refine w_aload_n X 0 dX9_advance_56 rfl rfl 57 rfl ?_
        refine w_aload_n X 0 dX9_advance_57 rfl rfl 58 rfl ?_
        refine w_getV (v := .ref (ad 5)) X 2 plt_2 ko_2 (T := TX9) (N := 13) rfl in_X9 3 (by decide) kF_X9_19 rfl rfl dX9_advance_58 61 rfl ?_
        refine w_aload_n X 0 dX9_advance_61 rfl rfl 62 rfl ?_
        refine w_getV (v := .int (rd m_3 2 6)) X 2 plt_2 ko_2 (T := TX9) (N := 13) rfl in_X9 6 (by decide) kF_X9_38 rfl rfl dX9_advance_62 65 rfl ?_
        refine w_gi hF (fun h_4 hF => ?_)
        refine w_ial X 5 plt_5 ko_5 (t0 := 0) rfl h_4 dX9_advance_65 66 rfl ?_
        refine w_putI X 2 plt_2 ko_2 (T := TX9) (N := 13) rfl in_X9 tyX9 tyX9_ok nmX9 8 (by decide) kF_X9_55 rfl rfl rfl rfl (Nat.le_of_ble_eq_true rfl) rfl dX9_advance_66 69 rfl ?_
        refine w_letm hF (fun m_5 hF => ?_)
        refine w_aload_n X 0 dX9_advance_69 rfl rfl 70 rfl ?_
        refine w_aload_n X 0 dX9_advance_70 rfl rfl 71 rfl ?_
        refine w_getV (v := .ref (ad 6)) X 2 plt_2 ko_2 (T := TX9) (N := 13) rfl in_X9 4 (by decide) kF_X9_22 rfl rfl dX9_advance_71 74 rfl ?_
        refine w_aload_n X 0 dX9_advance_74 rfl rfl 75 rfl ?_
        refine w_getV (v := .int (rd m_5 2 6)) X 2 plt_2 ko_2 (T := TX9) (N := 13) rfl in_X9 6 (by decide) kF_X9_38 rfl rfl dX9_advance_75 78 rfl ?_
        refine w_gi hF (fun h_6 hF => ?_)
        refine w_ial X 6 plt_6 ko_6 (t0 := 0) rfl h_6 dX9_advance_78 79 rfl ?_
        refine w_putI X 2 plt_2 ko_2 (T := TX9) (N := 13) rfl in_X9 tyX9 tyX9_ok nmX9 9 (by decide) kF_X9_58 rfl rfl rfl rfl (Nat.le_of_ble_eq_true rfl) rfl dX9_advance_79 82 rfl ?_
        refine w_letm hF (fun m_7 hF => ?_)
        refine w_aload_n X 0 dX9_advance_82 rfl rfl 83 rfl ?_
        refine w_getV (v := .int (rd m_7 2 7)) X 2 plt_2 ko_2 (T := TX9) (N := 13) rfl in_X9 7 (by decide) kF_X9_52 rfl rfl dX9_advance_83 86 rfl ?_
        refine w_iconst X 1 dX9_advance_86 rfl 87 rfl ?_
        refine w_icmp_ne X hF 99 90 dX9_advance_87 (by decide) rfl (fun hF => ?_) (fun hF => ?_)
        · refine w_aload_n X 0 dX9_advance_90 rfl rfl 91 rfl ?_
          refine w_getV (v := .int (rd m_7 2 9)) X 2 plt_2 ko_2 (T := TX9) (N := 13) rfl in_X9 9 (by decide) kF_X9_58 rfl rfl dX9_advance_91 94 rfl ?_
          refine w_bipush X 8 dX9_advance_94 rfl 96 rfl ?_
          refine w_icmp_gt X hF 115 99 dX9_advance_96 (by decide) rfl (fun hF => ?_) (fun hF => ?_)
          · refine w_keep [0] rfl ?_
            exact w_115 m_7 hF
          · refine w_keep [0] rfl ?_
            exact w_99 m_7 hF
        · refine w_keep [0] rfl ?_
          exact w_99 m_7 hF
      · exact w_vret X hQ (o_inj hF) dX9_advance_42
  intro hF
  refine w_aload_n X 0 dX9_advance_0 rfl rfl 1 rfl ?_
  refine w_getV (v := .int (rd mem 2 6)) X 2 plt_2 ko_2 (T := TX9) (N := 13) rfl in_X9 6 (by decide) kF_X9_38 rfl rfl dX9_advance_1 4 rfl ?_
  refine w_iconst X 1 dX9_advance_4 rfl 5 rfl ?_
  refine w_iadd X dX9_advance_5 6 rfl ?_
  refine w_aload_n X 0 dX9_advance_6 rfl rfl 7 rfl ?_
  refine w_getV (v := .int (rd mem 2 5)) X 2 plt_2 ko_2 (T := TX9) (N := 13) rfl in_X9 5 (by decide) kF_X9_35 rfl rfl dX9_advance_7 10 rfl ?_
  refine w_icmp_ge X hF 23 13 dX9_advance_10 (by decide) rfl (fun hF => ?_) (fun hF => ?_)
  · refine w_aload_n X 0 dX9_advance_13 rfl rfl 14 rfl ?_
    refine w_dup X dX9_advance_14 rfl 15 rfl ?_
    refine w_getV (v := .int (rd mem 2 6)) X 2 plt_2 ko_2 (T := TX9) (N := 13) rfl in_X9 6 (by decide) kF_X9_38 rfl rfl dX9_advance_15 18 rfl ?_
    refine w_iconst X 1 dX9_advance_18 rfl 19 rfl ?_
    refine w_iadd X dX9_advance_19 20 rfl ?_
    refine w_putI X 2 plt_2 ko_2 (T := TX9) (N := 13) rfl in_X9 tyX9 tyX9_ok nmX9 6 (by decide) kF_X9_38 rfl rfl rfl rfl (Nat.le_of_ble_eq_true rfl) rfl dX9_advance_20 23 rfl ?_
    refine w_letm hF (fun m_1 hF => ?_)
    refine w_keep [0] rfl ?_
    exact w_23 m_1 hF
  · refine w_keep [0] rfl ?_
    exact w_23 mem hF

def K_X9_isWord_23 (fu : Nat) (t1 : Nat) : Nat → Int32 → Mem → Option (Int32 × Mem)
  | 0, _, _ => none
  | n + 1, x2, mem => (if x2 < (rd mem 2 9) then lt_ ((rd mem 2 8) + x2) (fun x_2 => (if x_2 < 0 then some (0, mem) else (if x_2 < (rd mem 2 1) then (if x_2 < 700 then gi x_2 700 (bd (K_J0_charAt_5068e fu t1 x2 mem) (fun p_4 => (if (rd mem 3 (Int32.toNatClampNeg x_2)) = p_4.1 then (K_X9_isWord_23 fu t1 n (x2 + 1) p_4.2) else some (0, p_4.2)))) else some (0, mem)) else some (0, mem)))) else some (1, mem))
def K_X9_isWord (fu : Nat) (t1 : Nat) (mem : Mem) : Option (Int32 × Mem) := (if (rd mem 2 7) = 1 then bd (K_J0_length_8abf5 fu t1 mem) (fun x_1 => (if (rd mem 2 9) = x_1 then (K_X9_isWord_23 fu t1 fu 0 mem) else some (0, mem))) else some (0, mem))
def rm_X9_isWord : Room := { frames := 5, cells := 0, slots := 0, locals := 106 }
set_option maxHeartbeats 4000000 in
set_option maxRecDepth 100000 in
theorem ct_X9_isWord (l : Launch) {D : va_G} {ca ad : Nat → Nat} {Z : (Nat → Prop) → State → Heap → Prop} (hZ : ZOK Z) {tO : Nat} {sK sV : Nat → Nat} (hO : ZO Z tO sK sV) (fu : Nat) {t1 : Nat} (ht1 : t1 < 17) (mem : Mem) (res : (Int32 × Mem)) (hF : K_X9_isWord fu t1 mem = some res) : CI l D (tyL ca) 255 ad (cC ca ad) Z yX9_isWord cX9_isWord 4 .boolean rm_X9_isWord [.ref (ad 2), .ref (sK t1)] mem res.1 res.2 := by
  refine start_i (own := RX9) rfl (by decide) (Nat.le_of_ble_eq_true rfl) ?_
  intro p e s m args below meth c Q hQ X
  rw [K_X9_isWord] at hF
  revert hF
  have w_23 : ∀ (n : Nat) (x2 : Int32) (mem : Mem), K_X9_isWord_23 fu t1 n x2 mem = some res → WW D 255 ad (cC ca ad) p l e rm_X9_isWord s m args below meth c 4 0 0 Q mem 23 [(0, .ref (ad 2)), (1, .ref (sK t1)), (2, .int x2)] [] := by
    intro n
    induction n with
    | zero => intro x2 mem hF; exact no_none (show (none : Option (Int32 × Mem)) = some res from hF)
    | succ n ih =>
      intro x2 mem hF
      rw [K_X9_isWord_23] at hF
      refine w_iload_n X 2 dX9_isWord_23 rfl rfl 24 rfl ?_
      refine w_aload_n X 0 dX9_isWord_24 rfl rfl 25 rfl ?_
      refine w_getV (v := .int (rd mem 2 9)) X 2 plt_2 ko_2 (T := TX9) (N := 13) rfl in_X9 9 (by decide) kF_X9_58 rfl rfl dX9_isWord_25 28 rfl ?_
      refine w_icmp_ge X hF 79 31 dX9_isWord_28 (by decide) rfl (fun hF => ?_) (fun hF => ?_)
      · refine w_aload_n X 0 dX9_isWord_31 rfl rfl 32 rfl ?_
        refine w_getV (v := .int (rd mem 2 8)) X 2 plt_2 ko_2 (T := TX9) (N := 13) rfl in_X9 8 (by decide) kF_X9_55 rfl rfl dX9_isWord_32 35 rfl ?_
        refine w_iload_n X 2 dX9_isWord_35 rfl rfl 36 rfl ?_
        refine w_iadd X dX9_isWord_36 37 rfl ?_
        refine w_let hF (fun x_2 hF => ?_)
        refine w_istore_n X [(3, .int x_2), (0, .ref (ad 2)), (1, .ref (sK t1)), (2, .int x2)] dX9_isWord_37 rfl (by decide) rfl 38 rfl ?_
        refine w_iload_n X 0 dX9_isWord_38 rfl rfl 39 rfl ?_
        refine w_if_lt X hF 71 42 dX9_isWord_39 (by decide) rfl (fun hF => ?_) (fun hF => ?_)
        · refine w_iconst X 0 dX9_isWord_71 rfl 72 rfl ?_
          exact w_iret X hQ (o_inj1 hF) (o_inj2 hF) rfl dX9_isWord_72
        · refine w_iload_n X 0 dX9_isWord_42 rfl rfl 43 rfl ?_
          refine w_aload_n X 1 dX9_isWord_43 rfl rfl 44 rfl ?_
          refine w_getV (v := .int (rd mem 2 1)) X 2 plt_2 ko_2 (T := TX9) (N := 13) rfl in_X9 1 (by decide) kF_X9_29 rfl rfl dX9_isWord_44 47 rfl ?_
          refine w_icmp_ge X hF 71 50 dX9_isWord_47 (by decide) rfl (fun hF => ?_) (fun hF => ?_)
          · refine w_iload_n X 0 dX9_isWord_50 rfl rfl 51 rfl ?_
            refine w_sipush X 700 dX9_isWord_51 rfl 54 rfl ?_
            refine w_icmp_ge X hF 71 57 dX9_isWord_54 (by decide) rfl (fun hF => ?_) (fun hF => ?_)
            · refine w_aload_n X 1 dX9_isWord_57 rfl rfl 58 rfl ?_
              refine w_getV (v := .ref (ad 3)) X 2 plt_2 ko_2 (T := TX9) (N := 13) rfl in_X9 0 (by decide) kF_X9_9 rfl rfl dX9_isWord_58 61 rfl ?_
              refine w_iload_n X 0 dX9_isWord_61 rfl rfl 62 rfl ?_
              refine w_gi hF (fun h_3 hF => ?_)
              refine w_bal X 3 plt_3 ko_3 (t0 := 1) rfl h_3 dX9_isWord_62 63 rfl ?_
              refine w_aload_n X 2 dX9_isWord_63 rfl rfl 64 rfl ?_
              refine w_iload_n X 3 dX9_isWord_64 rfl rfl 65 rfl ?_
              refine w_callTi (fun x => x.1) (fun x => x.2) X hZ hF [.int x2] hO ht1 rfl rfl kB_J0_charAt_5068e kL_X9_66 (fun res h => ct_J0_charAt_5068e l hZ hO fu ht1 x2 mem res h) rfl rfl rfl ⟨Nat.le_of_ble_eq_true rfl, Nat.le_of_ble_eq_true rfl⟩ (Nat.le_of_ble_eq_true rfl) ⟨Nat.zero_le _, Nat.zero_le _⟩ dX9_isWord_65 68 rfl (fun p_4 hF => ?_)
              refine w_icmp_eq X hF 73 71 dX9_isWord_68 (by decide) rfl (fun hF => ?_) (fun hF => ?_)
              · refine w_iinc X 3 (x2 + 1) [(2, .int (x2 + 1)), (3, .int x_2), (0, .ref (ad 2)), (1, .ref (sK t1))] dX9_isWord_73 rfl rfl (by decide) rfl 76 rfl ?_
                refine w_goto X 23 dX9_isWord_76 (by decide) ?_
                refine w_keep [2, 3, 0] rfl ?_
                exact ih (x2 + 1) p_4.2 hF
              · refine w_iconst X 0 dX9_isWord_71 rfl 72 rfl ?_
                exact w_iret X hQ (o_inj1 hF) (o_inj2 hF) rfl dX9_isWord_72
            · refine w_iconst X 0 dX9_isWord_71 rfl 72 rfl ?_
              exact w_iret X hQ (o_inj1 hF) (o_inj2 hF) rfl dX9_isWord_72
          · refine w_iconst X 0 dX9_isWord_71 rfl 72 rfl ?_
            exact w_iret X hQ (o_inj1 hF) (o_inj2 hF) rfl dX9_isWord_72
      · refine w_iconst X 1 dX9_isWord_79 rfl 80 rfl ?_
        exact w_iret X hQ (o_inj1 hF) (o_inj2 hF) rfl dX9_isWord_80
  intro hF
  refine w_aload_n X 0 dX9_isWord_0 rfl rfl 1 rfl ?_
  refine w_getV (v := .int (rd mem 2 7)) X 2 plt_2 ko_2 (T := TX9) (N := 13) rfl in_X9 7 (by decide) kF_X9_52 rfl rfl dX9_isWord_1 4 rfl ?_
  refine w_iconst X 1 dX9_isWord_4 rfl 5 rfl ?_
  refine w_icmp_ne X hF 19 8 dX9_isWord_5 (by decide) rfl (fun hF => ?_) (fun hF => ?_)
  · refine w_aload_n X 0 dX9_isWord_8 rfl rfl 9 rfl ?_
    refine w_getV (v := .int (rd mem 2 9)) X 2 plt_2 ko_2 (T := TX9) (N := 13) rfl in_X9 9 (by decide) kF_X9_58 rfl rfl dX9_isWord_9 12 rfl ?_
    refine w_aload_n X 1 dX9_isWord_12 rfl rfl 13 rfl ?_
    refine w_callTi (fun x => x) (fun _ => mem) X hZ hF [] hO ht1 rfl rfl kB_J0_length_8abf5 kL_X9_61 (fun res h => ct_J0_length_8abf5 l hZ hO fu ht1 mem res h) rfl rfl rfl ⟨Nat.le_of_ble_eq_true rfl, Nat.le_of_ble_eq_true rfl⟩ (Nat.le_of_ble_eq_true rfl) ⟨Nat.zero_le _, Nat.zero_le _⟩ dX9_isWord_13 16 rfl (fun x_1 hF => ?_)
    refine w_icmp_eq X hF 21 19 dX9_isWord_16 (by decide) rfl (fun hF => ?_) (fun hF => ?_)
    · refine w_iconst X 0 dX9_isWord_21 rfl 22 rfl ?_
      refine w_istore_n X [(2, .int 0), (0, .ref (ad 2)), (1, .ref (sK t1))] dX9_isWord_22 rfl (by decide) rfl 23 rfl ?_
      refine w_keep [1, 2, 0] rfl ?_
      exact w_23 fu 0 mem hF
    · refine w_iconst X 0 dX9_isWord_19 rfl 20 rfl ?_
      exact w_iret X hQ (o_inj1 hF) (o_inj2 hF) rfl dX9_isWord_20
  · refine w_iconst X 0 dX9_isWord_19 rfl 20 rfl ?_
    exact w_iret X hQ (o_inj1 hF) (o_inj2 hF) rfl dX9_isWord_20

def K_X9_fail (fu : Nat) (x1 : Int32) (mem : Mem) : Option (Int32 × Mem) := lt_ (mw mem 2 11 x1) (fun m_1 => lt_ (mw m_1 2 12 (rd m_1 2 8)) (fun m_2 => some (0, m_2)))
def rm_X9_fail : Room := { frames := 0, cells := 0, slots := 0, locals := 0 }
set_option maxHeartbeats 4000000 in
set_option maxRecDepth 100000 in
theorem ct_X9_fail (l : Launch) {D : va_G} {ca ad : Nat → Nat} {Z : (Nat → Prop) → State → Heap → Prop} (hZ : ZOK Z) {tO : Nat} {sK sV : Nat → Nat} (hO : ZO Z tO sK sV) (fu : Nat) (x1 : Int32) (mem : Mem) (res : (Int32 × Mem)) (hF : K_X9_fail fu x1 mem = some res) : CI l D (tyL ca) 255 ad (cC ca ad) Z yX9_fail cX9_fail 2 .boolean rm_X9_fail [.ref (ad 2), .int x1] mem res.1 res.2 := by
  refine start_i (own := RX9) rfl (by decide) (Nat.le_of_ble_eq_true rfl) ?_
  intro p e s m args below meth c Q hQ X
  rw [K_X9_fail] at hF
  revert hF
  intro hF
  refine w_aload_n X 0 dX9_fail_0 rfl rfl 1 rfl ?_
  refine w_iload_n X 1 dX9_fail_1 rfl rfl 2 rfl ?_
  refine w_putI X 2 plt_2 ko_2 (T := TX9) (N := 13) rfl in_X9 tyX9 tyX9_ok nmX9 11 (by decide) kF_X9_32 rfl rfl rfl rfl (Nat.le_of_ble_eq_true rfl) rfl dX9_fail_2 5 rfl ?_
  refine w_letm hF (fun m_1 hF => ?_)
  refine w_aload_n X 0 dX9_fail_5 rfl rfl 6 rfl ?_
  refine w_aload_n X 0 dX9_fail_6 rfl rfl 7 rfl ?_
  refine w_getV (v := .int (rd m_1 2 8)) X 2 plt_2 ko_2 (T := TX9) (N := 13) rfl in_X9 8 (by decide) kF_X9_55 rfl rfl dX9_fail_7 10 rfl ?_
  refine w_putI X 2 plt_2 ko_2 (T := TX9) (N := 13) rfl in_X9 tyX9 tyX9_ok nmX9 12 (by decide) kF_X9_25 rfl rfl rfl rfl (Nat.le_of_ble_eq_true rfl) rfl dX9_fail_10 13 rfl ?_
  refine w_letm hF (fun m_2 hF => ?_)
  refine w_iconst X 0 dX9_fail_13 rfl 14 rfl ?_
  exact w_iret X hQ (o_inj1 hF) (o_inj2 hF) rfl dX9_fail_14

def K_X9_needNumber_88 (fu : Nat) (mem : Mem) : Option (Int32 × Mem) := some (1, mem)
def K_X9_needNumber_80 (fu : Nat) (mem : Mem) : Option (Int32 × Mem) := bd (K_X9_fail fu 2 mem) (fun p_7 => (if p_7.1 = 0 then some (0, p_7.2) else (K_X9_needNumber_88 fu p_7.2)))
def K_X9_needNumber_25 (fu : Nat) : Nat → Int32 → Int32 → Int32 → Mem → Option (Int32 × Mem)
  | 0, _, _, _, _ => none
  | n + 1, x1, x2, x3, mem => (if x3 < (rd mem 2 9) then bd (K_X9_byteAt fu ((rd mem 2 8) + x3) mem) (fun x_5 => lt_ (mw mem 2 10 ((((rd mem 2 10) * 10) + x_5) - 48)) (fun m_6 => (K_X9_needNumber_25 fu n x1 x2 (x3 + 1) m_6))) else (if (rd mem 2 10) < x1 then (K_X9_needNumber_80 fu mem) else (if x2 < (rd mem 2 10) then (K_X9_needNumber_80 fu mem) else (K_X9_needNumber_88 fu mem))))
def K_X9_needNumber (fu : Nat) (x1 : Int32) (x2 : Int32) (mem : Mem) : Option (Int32 × Mem) := bd (K_X9_advance fu mem) (fun m_1 => (if (rd m_1 2 7) = 2 then lt_ (mw m_1 2 10 0) (fun m_2 => (K_X9_needNumber_25 fu fu x1 x2 0 m_2)) else bd (K_X9_fail fu 1 m_1) (fun p_3 => gb p_3.1 (some (p_3.1, p_3.2)))))
def rm_X9_needNumber : Room := { frames := 1, cells := 0, slots := 0, locals := 21 }
set_option maxHeartbeats 4000000 in
set_option maxRecDepth 100000 in
theorem ct_X9_needNumber (l : Launch) {D : va_G} {ca ad : Nat → Nat} {Z : (Nat → Prop) → State → Heap → Prop} (hZ : ZOK Z) {tO : Nat} {sK sV : Nat → Nat} (hO : ZO Z tO sK sV) (fu : Nat) (x1 : Int32) (x2 : Int32) (mem : Mem) (res : (Int32 × Mem)) (hF : K_X9_needNumber fu x1 x2 mem = some res) : CI l D (tyL ca) 255 ad (cC ca ad) Z yX9_needNumber cX9_needNumber 4 .boolean rm_X9_needNumber [.ref (ad 2), .int x1, .int x2] mem res.1 res.2 := by
  refine start_i (own := RX9) rfl (by decide) (Nat.le_of_ble_eq_true rfl) ?_
  intro p e s m args below meth c Q hQ X
  rw [K_X9_needNumber] at hF
  revert hF
  have w_88 : ∀ (mem : Mem), K_X9_needNumber_88 fu mem = some res → WW D 255 ad (cC ca ad) p l e rm_X9_needNumber s m args below meth c 4 0 0 Q mem 88 [] [] := by
    intro mem hF
    rw [K_X9_needNumber_88] at hF
    refine w_iconst X 1 dX9_needNumber_88 rfl 89 rfl ?_
    refine w_goto X 93 dX9_needNumber_89 (by decide) ?_
    exact w_iret X hQ (o_inj1 hF) (o_inj2 hF) rfl dX9_needNumber_93
  have w_80 : ∀ (mem : Mem), K_X9_needNumber_80 fu mem = some res → WW D 255 ad (cC ca ad) p l e rm_X9_needNumber s m args below meth c 4 0 0 Q mem 80 [(0, .ref (ad 2))] [] := by
    intro mem hF
    rw [K_X9_needNumber_80] at hF
    refine w_aload_n X 0 dX9_needNumber_80 rfl rfl 81 rfl ?_
    refine w_iconst X 2 dX9_needNumber_81 rfl 82 rfl ?_
    refine w_callVi (fun x => x.1) (fun x => x.2) X hZ hF [.int 2] 2 plt_2 ko_2 rfl rfl rfl kB_X9_fail kL_X9_88 (fun res h => ct_X9_fail l hZ hO fu 2 mem res h) rfl rfl rfl ⟨Nat.le_of_ble_eq_true rfl, Nat.le_of_ble_eq_true rfl⟩ (Nat.le_of_ble_eq_true rfl) ⟨Nat.zero_le _, Nat.zero_le _⟩ dX9_needNumber_82 85 rfl (fun p_7 hF => ?_)
    refine w_if_eq X hF 92 88 dX9_needNumber_85 (by decide) rfl (fun hF => ?_) (fun hF => ?_)
    · refine w_iconst X 0 dX9_needNumber_92 rfl 93 rfl ?_
      exact w_iret X hQ (o_inj1 hF) (o_inj2 hF) rfl dX9_needNumber_93
    · refine w_keep [] rfl ?_
      exact w_88 p_7.2 hF
  have w_25 : ∀ (n : Nat) (x1 : Int32) (x2 : Int32) (x3 : Int32) (mem : Mem), K_X9_needNumber_25 fu n x1 x2 x3 mem = some res → WW D 255 ad (cC ca ad) p l e rm_X9_needNumber s m args below meth c 4 0 0 Q mem 25 [(0, .ref (ad 2)), (1, .int x1), (2, .int x2), (3, .int x3)] [] := by
    intro n
    induction n with
    | zero => intro x1 x2 x3 mem hF; exact no_none (show (none : Option (Int32 × Mem)) = some res from hF)
    | succ n ih =>
      intro x1 x2 x3 mem hF
      rw [K_X9_needNumber_25] at hF
      refine w_iload_n X 3 dX9_needNumber_25 rfl rfl 26 rfl ?_
      refine w_aload_n X 0 dX9_needNumber_26 rfl rfl 27 rfl ?_
      refine w_getV (v := .int (rd mem 2 9)) X 2 plt_2 ko_2 (T := TX9) (N := 13) rfl in_X9 9 (by decide) kF_X9_58 rfl rfl dX9_needNumber_27 30 rfl ?_
      refine w_icmp_ge X hF 64 33 dX9_needNumber_30 (by decide) rfl (fun hF => ?_) (fun hF => ?_)
      · refine w_aload_n X 0 dX9_needNumber_33 rfl rfl 34 rfl ?_
        refine w_aload_n X 0 dX9_needNumber_34 rfl rfl 35 rfl ?_
        refine w_getV (v := .int (rd mem 2 10)) X 2 plt_2 ko_2 (T := TX9) (N := 13) rfl in_X9 10 (by decide) kF_X9_99 rfl rfl dX9_needNumber_35 38 rfl ?_
        refine w_bipush X 10 dX9_needNumber_38 rfl 40 rfl ?_
        refine w_imul X dX9_needNumber_40 41 rfl ?_
        refine w_aload_n X 0 dX9_needNumber_41 rfl rfl 42 rfl ?_
        refine w_aload_n X 0 dX9_needNumber_42 rfl rfl 43 rfl ?_
        refine w_getV (v := .int (rd mem 2 8)) X 2 plt_2 ko_2 (T := TX9) (N := 13) rfl in_X9 8 (by decide) kF_X9_55 rfl rfl dX9_needNumber_43 46 rfl ?_
        refine w_iload_n X 3 dX9_needNumber_46 rfl rfl 47 rfl ?_
        refine w_iadd X dX9_needNumber_47 48 rfl ?_
        refine w_callVi (fun x => x) (fun _ => mem) X hZ hF [.int ((rd mem 2 8) + x3)] 2 plt_2 ko_2 rfl rfl rfl kB_X9_byteAt kL_X9_41 (fun res h => ct_X9_byteAt l hZ hO fu ((rd mem 2 8) + x3) mem res h) rfl rfl rfl ⟨Nat.le_of_ble_eq_true rfl, Nat.le_of_ble_eq_true rfl⟩ (Nat.le_of_ble_eq_true rfl) ⟨Nat.zero_le _, Nat.zero_le _⟩ dX9_needNumber_48 51 rfl (fun x_5 hF => ?_)
        refine w_iadd X dX9_needNumber_51 52 rfl ?_
        refine w_bipush X 48 dX9_needNumber_52 rfl 54 rfl ?_
        refine w_isub X dX9_needNumber_54 55 rfl ?_
        refine w_putI X 2 plt_2 ko_2 (T := TX9) (N := 13) rfl in_X9 tyX9 tyX9_ok nmX9 10 (by decide) kF_X9_99 rfl rfl rfl rfl (Nat.le_of_ble_eq_true rfl) rfl dX9_needNumber_55 58 rfl ?_
        refine w_letm hF (fun m_6 hF => ?_)
        refine w_iinc X 3 (x3 + 1) [(3, .int (x3 + 1)), (0, .ref (ad 2)), (1, .int x1), (2, .int x2)] dX9_needNumber_58 rfl rfl (by decide) rfl 61 rfl ?_
        refine w_goto X 25 dX9_needNumber_61 (by decide) ?_
        refine w_keep [1, 2, 3, 0] rfl ?_
        exact ih x1 x2 (x3 + 1) m_6 hF
      · refine w_aload_n X 0 dX9_needNumber_64 rfl rfl 65 rfl ?_
        refine w_getV (v := .int (rd mem 2 10)) X 2 plt_2 ko_2 (T := TX9) (N := 13) rfl in_X9 10 (by decide) kF_X9_99 rfl rfl dX9_needNumber_65 68 rfl ?_
        refine w_iload_n X 1 dX9_needNumber_68 rfl rfl 69 rfl ?_
        refine w_icmp_lt X hF 80 72 dX9_needNumber_69 (by decide) rfl (fun hF => ?_) (fun hF => ?_)
        · refine w_keep [0] rfl ?_
          exact w_80 mem hF
        · refine w_aload_n X 0 dX9_needNumber_72 rfl rfl 73 rfl ?_
          refine w_getV (v := .int (rd mem 2 10)) X 2 plt_2 ko_2 (T := TX9) (N := 13) rfl in_X9 10 (by decide) kF_X9_99 rfl rfl dX9_needNumber_73 76 rfl ?_
          refine w_iload_n X 2 dX9_needNumber_76 rfl rfl 77 rfl ?_
          refine w_icmp_le X hF 88 80 dX9_needNumber_77 (by decide) rfl (fun hF => ?_) (fun hF => ?_)
          · refine w_keep [0] rfl ?_
            exact w_80 mem hF
          · refine w_keep [] rfl ?_
            exact w_88 mem hF
  intro hF
  refine w_aload_n X 0 dX9_needNumber_0 rfl rfl 1 rfl ?_
  refine w_callVv (fun m => m) X hZ hF [] 2 plt_2 ko_2 rfl rfl rfl kB_X9_advance kL_X9_82 (fun res h => ct_X9_advance l hZ hO fu mem res h) rfl rfl rfl ⟨Nat.le_of_ble_eq_true rfl, Nat.le_of_ble_eq_true rfl⟩ (Nat.le_of_ble_eq_true rfl) ⟨Nat.zero_le _, Nat.zero_le _⟩ dX9_needNumber_1 4 rfl (fun m_1 hF => ?_)
  refine w_aload_n X 0 dX9_needNumber_4 rfl rfl 5 rfl ?_
  refine w_getV (v := .int (rd m_1 2 7)) X 2 plt_2 ko_2 (T := TX9) (N := 13) rfl in_X9 7 (by decide) kF_X9_52 rfl rfl dX9_needNumber_5 8 rfl ?_
  refine w_iconst X 2 dX9_needNumber_8 rfl 9 rfl ?_
  refine w_icmp_eq X hF 18 12 dX9_needNumber_9 (by decide) rfl (fun hF => ?_) (fun hF => ?_)
  · refine w_aload_n X 0 dX9_needNumber_18 rfl rfl 19 rfl ?_
    refine w_iconst X 0 dX9_needNumber_19 rfl 20 rfl ?_
    refine w_putI X 2 plt_2 ko_2 (T := TX9) (N := 13) rfl in_X9 tyX9 tyX9_ok nmX9 10 (by decide) kF_X9_99 rfl rfl rfl rfl (Nat.le_of_ble_eq_true rfl) rfl dX9_needNumber_20 23 rfl ?_
    refine w_letm hF (fun m_2 hF => ?_)
    refine w_iconst X 0 dX9_needNumber_23 rfl 24 rfl ?_
    refine w_istore_n X [(3, .int 0), (0, .ref (ad 2)), (1, .int x1), (2, .int x2)] dX9_needNumber_24 rfl (by decide) rfl 25 rfl ?_
    refine w_keep [1, 2, 3, 0] rfl ?_
    exact w_25 fu x1 x2 0 m_2 hF
  · refine w_aload_n X 0 dX9_needNumber_12 rfl rfl 13 rfl ?_
    refine w_iconst X 1 dX9_needNumber_13 rfl 14 rfl ?_
    refine w_callVi (fun x => x.1) (fun x => x.2) X hZ hF [.int 1] 2 plt_2 ko_2 rfl rfl rfl kB_X9_fail kL_X9_88 (fun res h => ct_X9_fail l hZ hO fu 1 m_1 res h) rfl rfl rfl ⟨Nat.le_of_ble_eq_true rfl, Nat.le_of_ble_eq_true rfl⟩ (Nat.le_of_ble_eq_true rfl) ⟨Nat.zero_le _, Nat.zero_le _⟩ dX9_needNumber_14 17 rfl (fun p_3 hF => ?_)
    refine w_gb hF (fun h_4 hF => ?_)
    exact w_iret X hQ (o_inj1 hF) (o_inj2 hF) (bool_nar h_4) dX9_needNumber_17

def K_X9_isSign (fu : Nat) (x1 : Int32) (mem : Mem) : Option Int32 := (if (rd mem 2 7) = 3 then bd (K_X9_byteAt fu (rd mem 2 8) mem) (fun x_1 => (if x_1 = x1 then some 1 else some 0)) else some 0)
def rm_X9_isSign : Room := { frames := 1, cells := 0, slots := 0, locals := 21 }
set_option maxHeartbeats 4000000 in
set_option maxRecDepth 100000 in
theorem ct_X9_isSign (l : Launch) {D : va_G} {ca ad : Nat → Nat} {Z : (Nat → Prop) → State → Heap → Prop} (hZ : ZOK Z) {tO : Nat} {sK sV : Nat → Nat} (hO : ZO Z tO sK sV) (fu : Nat) (x1 : Int32) (mem : Mem) (res : Int32) (hF : K_X9_isSign fu x1 mem = some res) : CI l D (tyL ca) 255 ad (cC ca ad) Z yX9_isSign cX9_isSign 2 .boolean rm_X9_isSign [.ref (ad 2), .int x1] mem res mem := by
  refine start_i (own := RX9) rfl (by decide) (Nat.le_of_ble_eq_true rfl) ?_
  intro p e s m args below meth c Q hQ X
  rw [K_X9_isSign] at hF
  revert hF
  intro hF
  refine w_aload_n X 0 dX9_isSign_0 rfl rfl 1 rfl ?_
  refine w_getV (v := .int (rd mem 2 7)) X 2 plt_2 ko_2 (T := TX9) (N := 13) rfl in_X9 7 (by decide) kF_X9_52 rfl rfl dX9_isSign_1 4 rfl ?_
  refine w_iconst X 3 dX9_isSign_4 rfl 5 rfl ?_
  refine w_icmp_ne X hF 24 8 dX9_isSign_5 (by decide) rfl (fun hF => ?_) (fun hF => ?_)
  · refine w_aload_n X 0 dX9_isSign_8 rfl rfl 9 rfl ?_
    refine w_aload_n X 0 dX9_isSign_9 rfl rfl 10 rfl ?_
    refine w_getV (v := .int (rd mem 2 8)) X 2 plt_2 ko_2 (T := TX9) (N := 13) rfl in_X9 8 (by decide) kF_X9_55 rfl rfl dX9_isSign_10 13 rfl ?_
    refine w_callVi (fun x => x) (fun _ => mem) X hZ hF [.int (rd mem 2 8)] 2 plt_2 ko_2 rfl rfl rfl kB_X9_byteAt kL_X9_41 (fun res h => ct_X9_byteAt l hZ hO fu (rd mem 2 8) mem res h) rfl rfl rfl ⟨Nat.le_of_ble_eq_true rfl, Nat.le_of_ble_eq_true rfl⟩ (Nat.le_of_ble_eq_true rfl) ⟨Nat.zero_le _, Nat.zero_le _⟩ dX9_isSign_13 16 rfl (fun x_1 hF => ?_)
    refine w_iload_n X 1 dX9_isSign_16 rfl rfl 17 rfl ?_
    refine w_icmp_ne X hF 24 20 dX9_isSign_17 (by decide) rfl (fun hF => ?_) (fun hF => ?_)
    · refine w_iconst X 1 dX9_isSign_20 rfl 21 rfl ?_
      refine w_goto X 25 dX9_isSign_21 (by decide) ?_
      exact w_iret X hQ (o_inj hF) rfl rfl dX9_isSign_25
    · refine w_iconst X 0 dX9_isSign_24 rfl 25 rfl ?_
      exact w_iret X hQ (o_inj hF) rfl rfl dX9_isSign_25
  · refine w_iconst X 0 dX9_isSign_24 rfl 25 rfl ?_
    exact w_iret X hQ (o_inj hF) rfl rfl dX9_isSign_25

def K_X9_needSign_20 (fu : Nat) (mem : Mem) : Option (Int32 × Mem) := some (1, mem)
def K_X9_needSign (fu : Nat) (x1 : Int32) (mem : Mem) : Option (Int32 × Mem) := bd (K_X9_advance fu mem) (fun m_1 => bd (K_X9_isSign fu x1 m_1) (fun x_2 => (if x_2 = 0 then bd (K_X9_fail fu 1 m_1) (fun p_3 => (if p_3.1 = 0 then some (0, p_3.2) else (K_X9_needSign_20 fu p_3.2))) else (K_X9_needSign_20 fu m_1))))
def rm_X9_needSign : Room := { frames := 2, cells := 0, slots := 0, locals := 42 }
set_option maxHeartbeats 4000000 in
set_option maxRecDepth 100000 in
theorem ct_X9_needSign (l : Launch) {D : va_G} {ca ad : Nat → Nat} {Z : (Nat → Prop) → State → Heap → Prop} (hZ : ZOK Z) {tO : Nat} {sK sV : Nat → Nat} (hO : ZO Z tO sK sV) (fu : Nat) (x1 : Int32) (mem : Mem) (res : (Int32 × Mem)) (hF : K_X9_needSign fu x1 mem = some res) : CI l D (tyL ca) 255 ad (cC ca ad) Z yX9_needSign cX9_needSign 2 .boolean rm_X9_needSign [.ref (ad 2), .int x1] mem res.1 res.2 := by
  refine start_i (own := RX9) rfl (by decide) (Nat.le_of_ble_eq_true rfl) ?_
  intro p e s m args below meth c Q hQ X
  rw [K_X9_needSign] at hF
  revert hF
  have w_20 : ∀ (mem : Mem), K_X9_needSign_20 fu mem = some res → WW D 255 ad (cC ca ad) p l e rm_X9_needSign s m args below meth c 2 0 0 Q mem 20 [] [] := by
    intro mem hF
    rw [K_X9_needSign_20] at hF
    refine w_iconst X 1 dX9_needSign_20 rfl 21 rfl ?_
    refine w_goto X 25 dX9_needSign_21 (by decide) ?_
    exact w_iret X hQ (o_inj1 hF) (o_inj2 hF) rfl dX9_needSign_25
  intro hF
  refine w_aload_n X 0 dX9_needSign_0 rfl rfl 1 rfl ?_
  refine w_callVv (fun m => m) X hZ hF [] 2 plt_2 ko_2 rfl rfl rfl kB_X9_advance kL_X9_82 (fun res h => ct_X9_advance l hZ hO fu mem res h) rfl rfl rfl ⟨Nat.le_of_ble_eq_true rfl, Nat.le_of_ble_eq_true rfl⟩ (Nat.le_of_ble_eq_true rfl) ⟨Nat.zero_le _, Nat.zero_le _⟩ dX9_needSign_1 4 rfl (fun m_1 hF => ?_)
  refine w_aload_n X 0 dX9_needSign_4 rfl rfl 5 rfl ?_
  refine w_iload_n X 1 dX9_needSign_5 rfl rfl 6 rfl ?_
  refine w_callVi (fun x => x) (fun _ => m_1) X hZ hF [.int x1] 2 plt_2 ko_2 rfl rfl rfl kB_X9_isSign kL_X9_96 (fun res h => ct_X9_isSign l hZ hO fu x1 m_1 res h) rfl rfl rfl ⟨Nat.le_of_ble_eq_true rfl, Nat.le_of_ble_eq_true rfl⟩ (Nat.le_of_ble_eq_true rfl) ⟨Nat.zero_le _, Nat.zero_le _⟩ dX9_needSign_6 9 rfl (fun x_2 hF => ?_)
  refine w_if_ne X hF 20 12 dX9_needSign_9 (by decide) rfl (fun hF => ?_) (fun hF => ?_)
  · refine w_aload_n X 0 dX9_needSign_12 rfl rfl 13 rfl ?_
    refine w_iconst X 1 dX9_needSign_13 rfl 14 rfl ?_
    refine w_callVi (fun x => x.1) (fun x => x.2) X hZ hF [.int 1] 2 plt_2 ko_2 rfl rfl rfl kB_X9_fail kL_X9_88 (fun res h => ct_X9_fail l hZ hO fu 1 m_1 res h) rfl rfl rfl ⟨Nat.le_of_ble_eq_true rfl, Nat.le_of_ble_eq_true rfl⟩ (Nat.le_of_ble_eq_true rfl) ⟨Nat.zero_le _, Nat.zero_le _⟩ dX9_needSign_14 17 rfl (fun p_3 hF => ?_)
    refine w_if_eq X hF 24 20 dX9_needSign_17 (by decide) rfl (fun hF => ?_) (fun hF => ?_)
    · refine w_iconst X 0 dX9_needSign_24 rfl 25 rfl ?_
      exact w_iret X hQ (o_inj1 hF) (o_inj2 hF) rfl dX9_needSign_25
    · refine w_keep [] rfl ?_
      exact w_20 p_3.2 hF
  · refine w_keep [] rfl ?_
    exact w_20 m_1 hF

def K_X7_readBoard_30 (fu : Nat) (mem : Mem) : Option (Int32 × Mem) := bd (K_X9_fail fu 3 mem) (fun p_8 => gb p_8.1 (some (p_8.1, p_8.2)))
def K_X7_readBoard (fu : Nat) (mem : Mem) : Option (Int32 × Mem) := (if (rd mem 7 5) = 0 then (if 0 < (rd mem (pRace 1) 2) then (K_X7_readBoard_30 fu mem) else (if 0 < (rd mem (pBoard 1) 2) then (K_X7_readBoard_30 fu mem) else lt_ (mw mem 7 5 1) (fun m_1 => bd (K_X9_needNumber fu 3 9 m_1) (fun p_2 => (if p_2.1 = 0 then some (0, p_2.2) else lt_ (rd p_2.2 2 10) (fun x_3 => bd (K_X9_needNumber fu 3 9 p_2.2) (fun p_4 => (if p_4.1 = 0 then some (0, p_4.2) else bd (K_X2_clear fu 1 x_3 (rd p_4.2 2 10) p_4.2) (fun m_5 => bd (K_X9_needSign fu 59 m_5) (fun p_6 => gb p_6.1 (some (p_6.1, p_6.2)))))))))))) else (K_X7_readBoard_30 fu mem))
def rm_X7_readBoard : Room := { frames := 3, cells := 0, slots := 0, locals := 67 }
set_option maxHeartbeats 4000000 in
set_option maxRecDepth 100000 in
theorem ct_X7_readBoard (l : Launch) {D : va_G} {ca ad : Nat → Nat} {Z : (Nat → Prop) → State → Heap → Prop} (hZ : ZOK Z) {tO : Nat} {sK sV : Nat → Nat} (hO : ZO Z tO sK sV) (fu : Nat) (mem : Mem) (res : (Int32 × Mem)) (hF : K_X7_readBoard fu mem = some res) : CI l D (tyL ca) 255 ad (cC ca ad) Z yX7_readBoard cX7_readBoard 2 .boolean rm_X7_readBoard [.ref (ad 7)] mem res.1 res.2 := by
  refine start_i (own := RX7) rfl (by decide) (Nat.le_of_ble_eq_true rfl) ?_
  intro p e s m args below meth c Q hQ X
  rw [K_X7_readBoard] at hF
  revert hF
  have w_30 : ∀ (mem : Mem), K_X7_readBoard_30 fu mem = some res → WW D 255 ad (cC ca ad) p l e rm_X7_readBoard s m args below meth c 2 0 0 Q mem 30 [(0, .ref (ad 7))] [] := by
    intro mem hF
    rw [K_X7_readBoard_30] at hF
    refine w_aload_n X 0 dX7_readBoard_30 rfl rfl 31 rfl ?_
    refine w_getV (v := .ref (ad 2)) X 7 plt_7 ko_7 (T := TX7) (N := 9) rfl in_X7 0 (by decide) kF_X7_9 rfl rfl dX7_readBoard_31 34 rfl ?_
    refine w_iconst X 3 dX7_readBoard_34 rfl 35 rfl ?_
    refine w_callVi (fun x => x.1) (fun x => x.2) X hZ hF [.int 3] 2 plt_2 ko_2 rfl rfl rfl kB_X9_fail kL_X7_90 (fun res h => ct_X9_fail l hZ hO fu 3 mem res h) rfl rfl rfl ⟨Nat.le_of_ble_eq_true rfl, Nat.le_of_ble_eq_true rfl⟩ (Nat.le_of_ble_eq_true rfl) ⟨Nat.zero_le _, Nat.zero_le _⟩ dX7_readBoard_35 38 rfl (fun p_8 hF => ?_)
    refine w_gb hF (fun h_9 hF => ?_)
    exact w_iret X hQ (o_inj1 hF) (o_inj2 hF) (bool_nar h_9) dX7_readBoard_38
  intro hF
  refine w_aload_n X 0 dX7_readBoard_0 rfl rfl 1 rfl ?_
  refine w_getV (v := .int (rd mem 7 5)) X 7 plt_7 ko_7 (T := TX7) (N := 9) rfl in_X7 5 (by decide) kF_X7_35 rfl rfl dX7_readBoard_1 4 rfl ?_
  refine w_if_ne X hF 30 7 dX7_readBoard_4 (by decide) rfl (fun hF => ?_) (fun hF => ?_)
  · refine w_aload_n X 0 dX7_readBoard_7 rfl rfl 8 rfl ?_
    refine w_getV (v := .ref (ad (pRace 1))) X 7 plt_7 ko_7 (T := TX7) (N := 9) rfl in_X7 1 (by decide) kF_X7_15 rfl rfl dX7_readBoard_8 11 rfl ?_
    refine w_getV (v := .int (rd mem (pRace 1) 2)) X (pRace 1) (lt_Race (by decide)) ko_Race (T := TX6) (N := 8) rfl in_X6 2 (by decide) kF_X7_94 rfl rfl dX7_readBoard_11 14 rfl ?_
    refine w_if_gt X hF 30 17 dX7_readBoard_14 (by decide) rfl (fun hF => ?_) (fun hF => ?_)
    · refine w_keep [0] rfl ?_
      exact w_30 mem hF
    · refine w_aload_n X 0 dX7_readBoard_17 rfl rfl 18 rfl ?_
      refine w_getV (v := .ref (ad (pRace 1))) X 7 plt_7 ko_7 (T := TX7) (N := 9) rfl in_X7 1 (by decide) kF_X7_15 rfl rfl dX7_readBoard_18 21 rfl ?_
      refine w_getV (v := .ref (ad (pBoard 1))) X (pRace 1) (lt_Race (by decide)) ko_Race (T := TX6) (N := 8) rfl in_X6 0 (by decide) kF_X7_97 rfl rfl dX7_readBoard_21 24 rfl ?_
      refine w_getV (v := .int (rd mem (pBoard 1) 2)) X (pBoard 1) (lt_Board (by decide)) ko_Board (T := TX2) (N := 5) rfl in_X2 2 (by decide) kF_X7_100 rfl rfl dX7_readBoard_24 27 rfl ?_
      refine w_if_le X hF 39 30 dX7_readBoard_27 (by decide) rfl (fun hF => ?_) (fun hF => ?_)
      · refine w_keep [0] rfl ?_
        exact w_30 mem hF
      · refine w_aload_n X 0 dX7_readBoard_39 rfl rfl 40 rfl ?_
        refine w_iconst X 1 dX7_readBoard_40 rfl 41 rfl ?_
        refine w_putI X 7 plt_7 ko_7 (T := TX7) (N := 9) rfl in_X7 tyX7 tyX7_ok nmX7 5 (by decide) kF_X7_35 rfl rfl rfl rfl (Nat.le_of_ble_eq_true rfl) rfl dX7_readBoard_41 44 rfl ?_
        refine w_letm hF (fun m_1 hF => ?_)
        refine w_aload_n X 0 dX7_readBoard_44 rfl rfl 45 rfl ?_
        refine w_getV (v := .ref (ad 2)) X 7 plt_7 ko_7 (T := TX7) (N := 9) rfl in_X7 0 (by decide) kF_X7_9 rfl rfl dX7_readBoard_45 48 rfl ?_
        refine w_iconst X 3 dX7_readBoard_48 rfl 49 rfl ?_
        refine w_bipush X 9 dX7_readBoard_49 rfl 51 rfl ?_
        refine w_callVi (fun x => x.1) (fun x => x.2) X hZ hF [.int 3, .int 9] 2 plt_2 ko_2 rfl rfl rfl kB_X9_needNumber kL_X7_104 (fun res h => ct_X9_needNumber l hZ hO fu 3 9 m_1 res h) rfl rfl rfl ⟨Nat.le_of_ble_eq_true rfl, Nat.le_of_ble_eq_true rfl⟩ (Nat.le_of_ble_eq_true rfl) ⟨Nat.zero_le _, Nat.zero_le _⟩ dX7_readBoard_51 54 rfl (fun p_2 hF => ?_)
        refine w_if_ne X hF 59 57 dX7_readBoard_54 (by decide) rfl (fun hF => ?_) (fun hF => ?_)
        · refine w_iconst X 0 dX7_readBoard_57 rfl 58 rfl ?_
          exact w_iret X hQ (o_inj1 hF) (o_inj2 hF) rfl dX7_readBoard_58
        · refine w_aload_n X 0 dX7_readBoard_59 rfl rfl 60 rfl ?_
          refine w_getV (v := .ref (ad 2)) X 7 plt_7 ko_7 (T := TX7) (N := 9) rfl in_X7 0 (by decide) kF_X7_9 rfl rfl dX7_readBoard_60 63 rfl ?_
          refine w_getV (v := .int (rd p_2.2 2 10)) X 2 plt_2 ko_2 (T := TX9) (N := 13) rfl in_X9 10 (by decide) kF_X7_108 rfl rfl dX7_readBoard_63 66 rfl ?_
          refine w_let hF (fun x_3 hF => ?_)
          refine w_istore_n X [(1, .int x_3), (0, .ref (ad 7))] dX7_readBoard_66 rfl (by decide) rfl 67 rfl ?_
          refine w_aload_n X 1 dX7_readBoard_67 rfl rfl 68 rfl ?_
          refine w_getV (v := .ref (ad 2)) X 7 plt_7 ko_7 (T := TX7) (N := 9) rfl in_X7 0 (by decide) kF_X7_9 rfl rfl dX7_readBoard_68 71 rfl ?_
          refine w_iconst X 3 dX7_readBoard_71 rfl 72 rfl ?_
          refine w_bipush X 9 dX7_readBoard_72 rfl 74 rfl ?_
          refine w_callVi (fun x => x.1) (fun x => x.2) X hZ hF [.int 3, .int 9] 2 plt_2 ko_2 rfl rfl rfl kB_X9_needNumber kL_X7_104 (fun res h => ct_X9_needNumber l hZ hO fu 3 9 p_2.2 res h) rfl rfl rfl ⟨Nat.le_of_ble_eq_true rfl, Nat.le_of_ble_eq_true rfl⟩ (Nat.le_of_ble_eq_true rfl) ⟨Nat.zero_le _, Nat.zero_le _⟩ dX7_readBoard_74 77 rfl (fun p_4 hF => ?_)
          refine w_if_ne X hF 82 80 dX7_readBoard_77 (by decide) rfl (fun hF => ?_) (fun hF => ?_)
          · refine w_iconst X 0 dX7_readBoard_80 rfl 81 rfl ?_
            exact w_iret X hQ (o_inj1 hF) (o_inj2 hF) rfl dX7_readBoard_81
          · refine w_aload_n X 1 dX7_readBoard_82 rfl rfl 83 rfl ?_
            refine w_getV (v := .ref (ad (pRace 1))) X 7 plt_7 ko_7 (T := TX7) (N := 9) rfl in_X7 1 (by decide) kF_X7_15 rfl rfl dX7_readBoard_83 86 rfl ?_
            refine w_getV (v := .ref (ad (pBoard 1))) X (pRace 1) (lt_Race (by decide)) ko_Race (T := TX6) (N := 8) rfl in_X6 0 (by decide) kF_X7_97 rfl rfl dX7_readBoard_86 89 rfl ?_
            refine w_iload_n X 0 dX7_readBoard_89 rfl rfl 90 rfl ?_
            refine w_aload_n X 1 dX7_readBoard_90 rfl rfl 91 rfl ?_
            refine w_getV (v := .ref (ad 2)) X 7 plt_7 ko_7 (T := TX7) (N := 9) rfl in_X7 0 (by decide) kF_X7_9 rfl rfl dX7_readBoard_91 94 rfl ?_
            refine w_getV (v := .int (rd p_4.2 2 10)) X 2 plt_2 ko_2 (T := TX9) (N := 13) rfl in_X9 10 (by decide) kF_X7_108 rfl rfl dX7_readBoard_94 97 rfl ?_
            refine w_callVv (fun m => m) X hZ hF [.int x_3, .int (rd p_4.2 2 10)] (pBoard 1) (lt_Board (by decide)) ko_Board rfl rfl rfl kB_X2_clear kL_X7_111 (fun res h => ct_X2_clear l hZ hO fu (by decide) x_3 (rd p_4.2 2 10) p_4.2 res h) rfl rfl rfl ⟨Nat.le_of_ble_eq_true rfl, Nat.le_of_ble_eq_true rfl⟩ (Nat.le_of_ble_eq_true rfl) ⟨Nat.zero_le _, Nat.zero_le _⟩ dX7_readBoard_97 100 rfl (fun m_5 hF => ?_)
            refine w_aload_n X 1 dX7_readBoard_100 rfl rfl 101 rfl ?_
            refine w_getV (v := .ref (ad 2)) X 7 plt_7 ko_7 (T := TX7) (N := 9) rfl in_X7 0 (by decide) kF_X7_9 rfl rfl dX7_readBoard_101 104 rfl ?_
            refine w_bipush X 59 dX7_readBoard_104 rfl 106 rfl ?_
            refine w_callVi (fun x => x.1) (fun x => x.2) X hZ hF [.int 59] 2 plt_2 ko_2 rfl rfl rfl kB_X9_needSign kL_X7_114 (fun res h => ct_X9_needSign l hZ hO fu 59 m_5 res h) rfl rfl rfl ⟨Nat.le_of_ble_eq_true rfl, Nat.le_of_ble_eq_true rfl⟩ (Nat.le_of_ble_eq_true rfl) ⟨Nat.zero_le _, Nat.zero_le _⟩ dX7_readBoard_106 109 rfl (fun p_6 hF => ?_)
            refine w_gb hF (fun h_7 hF => ?_)
            exact w_iret X hQ (o_inj1 hF) (o_inj2 hF) (bool_nar h_7) dX7_readBoard_109
  · refine w_keep [0] rfl ?_
    exact w_30 mem hF

def K_X7_readWalls (fu : Nat) (mem : Mem) : Option (Int32 × Mem) := (if (rd mem 7 6) = 0 then lt_ (mw mem 7 6 1) (fun m_1 => bd (K_X9_needNumber fu 0 20 m_1) (fun p_2 => (if p_2.1 = 0 then some (0, p_2.2) else lt_ (mw p_2.2 7 7 (rd p_2.2 2 10)) (fun m_3 => bd (K_X9_needSign fu 59 m_3) (fun p_4 => gb p_4.1 (some (p_4.1, p_4.2))))))) else bd (K_X9_fail fu 3 mem) (fun p_6 => gb p_6.1 (some (p_6.1, p_6.2))))
def rm_X7_readWalls : Room := { frames := 3, cells := 0, slots := 0, locals := 63 }
set_option maxHeartbeats 4000000 in
set_option maxRecDepth 100000 in
theorem ct_X7_readWalls (l : Launch) {D : va_G} {ca ad : Nat → Nat} {Z : (Nat → Prop) → State → Heap → Prop} (hZ : ZOK Z) {tO : Nat} {sK sV : Nat → Nat} (hO : ZO Z tO sK sV) (fu : Nat) (mem : Mem) (res : (Int32 × Mem)) (hF : K_X7_readWalls fu mem = some res) : CI l D (tyL ca) 255 ad (cC ca ad) Z yX7_readWalls cX7_readWalls 1 .boolean rm_X7_readWalls [.ref (ad 7)] mem res.1 res.2 := by
  refine start_i (own := RX7) rfl (by decide) (Nat.le_of_ble_eq_true rfl) ?_
  intro p e s m args below meth c Q hQ X
  rw [K_X7_readWalls] at hF
  revert hF
  intro hF
  refine w_aload_n X 0 dX7_readWalls_0 rfl rfl 1 rfl ?_
  refine w_getV (v := .int (rd mem 7 6)) X 7 plt_7 ko_7 (T := TX7) (N := 9) rfl in_X7 6 (by decide) kF_X7_39 rfl rfl dX7_readWalls_1 4 rfl ?_
  refine w_if_eq X hF 16 7 dX7_readWalls_4 (by decide) rfl (fun hF => ?_) (fun hF => ?_)
  · refine w_aload_n X 0 dX7_readWalls_16 rfl rfl 17 rfl ?_
    refine w_iconst X 1 dX7_readWalls_17 rfl 18 rfl ?_
    refine w_putI X 7 plt_7 ko_7 (T := TX7) (N := 9) rfl in_X7 tyX7 tyX7_ok nmX7 6 (by decide) kF_X7_39 rfl rfl rfl rfl (Nat.le_of_ble_eq_true rfl) rfl dX7_readWalls_18 21 rfl ?_
    refine w_letm hF (fun m_1 hF => ?_)
    refine w_aload_n X 0 dX7_readWalls_21 rfl rfl 22 rfl ?_
    refine w_getV (v := .ref (ad 2)) X 7 plt_7 ko_7 (T := TX7) (N := 9) rfl in_X7 0 (by decide) kF_X7_9 rfl rfl dX7_readWalls_22 25 rfl ?_
    refine w_iconst X 0 dX7_readWalls_25 rfl 26 rfl ?_
    refine w_bipush X 20 dX7_readWalls_26 rfl 28 rfl ?_
    refine w_callVi (fun x => x.1) (fun x => x.2) X hZ hF [.int 0, .int 20] 2 plt_2 ko_2 rfl rfl rfl kB_X9_needNumber kL_X7_104 (fun res h => ct_X9_needNumber l hZ hO fu 0 20 m_1 res h) rfl rfl rfl ⟨Nat.le_of_ble_eq_true rfl, Nat.le_of_ble_eq_true rfl⟩ (Nat.le_of_ble_eq_true rfl) ⟨Nat.zero_le _, Nat.zero_le _⟩ dX7_readWalls_28 31 rfl (fun p_2 hF => ?_)
    refine w_if_ne X hF 36 34 dX7_readWalls_31 (by decide) rfl (fun hF => ?_) (fun hF => ?_)
    · refine w_iconst X 0 dX7_readWalls_34 rfl 35 rfl ?_
      exact w_iret X hQ (o_inj1 hF) (o_inj2 hF) rfl dX7_readWalls_35
    · refine w_aload_n X 0 dX7_readWalls_36 rfl rfl 37 rfl ?_
      refine w_aload_n X 0 dX7_readWalls_37 rfl rfl 38 rfl ?_
      refine w_getV (v := .ref (ad 2)) X 7 plt_7 ko_7 (T := TX7) (N := 9) rfl in_X7 0 (by decide) kF_X7_9 rfl rfl dX7_readWalls_38 41 rfl ?_
      refine w_getV (v := .int (rd p_2.2 2 10)) X 2 plt_2 ko_2 (T := TX9) (N := 13) rfl in_X9 10 (by decide) kF_X7_108 rfl rfl dX7_readWalls_41 44 rfl ?_
      refine w_putI X 7 plt_7 ko_7 (T := TX7) (N := 9) rfl in_X7 tyX7 tyX7_ok nmX7 7 (by decide) kF_X7_42 rfl rfl rfl rfl (Nat.le_of_ble_eq_true rfl) rfl dX7_readWalls_44 47 rfl ?_
      refine w_letm hF (fun m_3 hF => ?_)
      refine w_aload_n X 0 dX7_readWalls_47 rfl rfl 48 rfl ?_
      refine w_getV (v := .ref (ad 2)) X 7 plt_7 ko_7 (T := TX7) (N := 9) rfl in_X7 0 (by decide) kF_X7_9 rfl rfl dX7_readWalls_48 51 rfl ?_
      refine w_bipush X 59 dX7_readWalls_51 rfl 53 rfl ?_
      refine w_callVi (fun x => x.1) (fun x => x.2) X hZ hF [.int 59] 2 plt_2 ko_2 rfl rfl rfl kB_X9_needSign kL_X7_114 (fun res h => ct_X9_needSign l hZ hO fu 59 m_3 res h) rfl rfl rfl ⟨Nat.le_of_ble_eq_true rfl, Nat.le_of_ble_eq_true rfl⟩ (Nat.le_of_ble_eq_true rfl) ⟨Nat.zero_le _, Nat.zero_le _⟩ dX7_readWalls_53 56 rfl (fun p_4 hF => ?_)
      refine w_gb hF (fun h_5 hF => ?_)
      exact w_iret X hQ (o_inj1 hF) (o_inj2 hF) (bool_nar h_5) dX7_readWalls_56
  · refine w_aload_n X 0 dX7_readWalls_7 rfl rfl 8 rfl ?_
    refine w_getV (v := .ref (ad 2)) X 7 plt_7 ko_7 (T := TX7) (N := 9) rfl in_X7 0 (by decide) kF_X7_9 rfl rfl dX7_readWalls_8 11 rfl ?_
    refine w_iconst X 3 dX7_readWalls_11 rfl 12 rfl ?_
    refine w_callVi (fun x => x.1) (fun x => x.2) X hZ hF [.int 3] 2 plt_2 ko_2 rfl rfl rfl kB_X9_fail kL_X7_90 (fun res h => ct_X9_fail l hZ hO fu 3 mem res h) rfl rfl rfl ⟨Nat.le_of_ble_eq_true rfl, Nat.le_of_ble_eq_true rfl⟩ (Nat.le_of_ble_eq_true rfl) ⟨Nat.zero_le _, Nat.zero_le _⟩ dX7_readWalls_12 15 rfl (fun p_6 hF => ?_)
    refine w_gb hF (fun h_7 hF => ?_)
    exact w_iret X hQ (o_inj1 hF) (o_inj2 hF) (bool_nar h_7) dX7_readWalls_15

def K_X9_isSameWord_20 (fu : Nat) (mem : Mem) : Nat → Int32 → Int32 → Int32 → Option Int32
  | 0, _, _, _ => none
  | n + 1, x1, x2, x3 => (if x3 < x2 then bd (K_X9_byteAt fu ((rd mem 2 8) + x3) mem) (fun x_1 => bd (K_X9_byteAt fu (x1 + x3) mem) (fun x_2 => (if x_1 = x_2 then (K_X9_isSameWord_20 fu mem n x1 x2 (x3 + 1) ) else some 0))) else some 1)
def K_X9_isSameWord (fu : Nat) (x1 : Int32) (x2 : Int32) (mem : Mem) : Option Int32 := (if (rd mem 2 7) = 1 then (if (rd mem 2 9) = x2 then (K_X9_isSameWord_20 fu mem fu x1 x2 0 ) else some 0) else some 0)
def rm_X9_isSameWord : Room := { frames := 1, cells := 0, slots := 0, locals := 21 }
set_option maxHeartbeats 4000000 in
set_option maxRecDepth 100000 in
theorem ct_X9_isSameWord (l : Launch) {D : va_G} {ca ad : Nat → Nat} {Z : (Nat → Prop) → State → Heap → Prop} (hZ : ZOK Z) {tO : Nat} {sK sV : Nat → Nat} (hO : ZO Z tO sK sV) (fu : Nat) (x1 : Int32) (x2 : Int32) (mem : Mem) (res : Int32) (hF : K_X9_isSameWord fu x1 x2 mem = some res) : CI l D (tyL ca) 255 ad (cC ca ad) Z yX9_isSameWord cX9_isSameWord 4 .boolean rm_X9_isSameWord [.ref (ad 2), .int x1, .int x2] mem res mem := by
  refine start_i (own := RX9) rfl (by decide) (Nat.le_of_ble_eq_true rfl) ?_
  intro p e s m args below meth c Q hQ X
  rw [K_X9_isSameWord] at hF
  revert hF
  have w_20 : ∀ (n : Nat) (x1 : Int32) (x2 : Int32) (x3 : Int32), K_X9_isSameWord_20 fu mem n x1 x2 x3 = some res → WW D 255 ad (cC ca ad) p l e rm_X9_isSameWord s m args below meth c 4 0 0 Q mem 20 [(0, .ref (ad 2)), (1, .int x1), (2, .int x2), (3, .int x3)] [] := by
    intro n
    induction n with
    | zero => intro x1 x2 x3 hF; exact no_none (show (none : Option Int32) = some res from hF)
    | succ n ih =>
      intro x1 x2 x3 hF
      rw [K_X9_isSameWord_20] at hF
      refine w_iload_n X 3 dX9_isSameWord_20 rfl rfl 21 rfl ?_
      refine w_iload_n X 2 dX9_isSameWord_21 rfl rfl 22 rfl ?_
      refine w_icmp_ge X hF 53 25 dX9_isSameWord_22 (by decide) rfl (fun hF => ?_) (fun hF => ?_)
      · refine w_aload_n X 0 dX9_isSameWord_25 rfl rfl 26 rfl ?_
        refine w_aload_n X 0 dX9_isSameWord_26 rfl rfl 27 rfl ?_
        refine w_getV (v := .int (rd mem 2 8)) X 2 plt_2 ko_2 (T := TX9) (N := 13) rfl in_X9 8 (by decide) kF_X9_55 rfl rfl dX9_isSameWord_27 30 rfl ?_
        refine w_iload_n X 3 dX9_isSameWord_30 rfl rfl 31 rfl ?_
        refine w_iadd X dX9_isSameWord_31 32 rfl ?_
        refine w_callVi (fun x => x) (fun _ => mem) X hZ hF [.int ((rd mem 2 8) + x3)] 2 plt_2 ko_2 rfl rfl rfl kB_X9_byteAt kL_X9_41 (fun res h => ct_X9_byteAt l hZ hO fu ((rd mem 2 8) + x3) mem res h) rfl rfl rfl ⟨Nat.le_of_ble_eq_true rfl, Nat.le_of_ble_eq_true rfl⟩ (Nat.le_of_ble_eq_true rfl) ⟨Nat.zero_le _, Nat.zero_le _⟩ dX9_isSameWord_32 35 rfl (fun x_1 hF => ?_)
        refine w_aload_n X 0 dX9_isSameWord_35 rfl rfl 36 rfl ?_
        refine w_iload_n X 1 dX9_isSameWord_36 rfl rfl 37 rfl ?_
        refine w_iload_n X 3 dX9_isSameWord_37 rfl rfl 38 rfl ?_
        refine w_iadd X dX9_isSameWord_38 39 rfl ?_
        refine w_callVi (fun x => x) (fun _ => mem) X hZ hF [.int (x1 + x3)] 2 plt_2 ko_2 rfl rfl rfl kB_X9_byteAt kL_X9_41 (fun res h => ct_X9_byteAt l hZ hO fu (x1 + x3) mem res h) rfl rfl rfl ⟨Nat.le_of_ble_eq_true rfl, Nat.le_of_ble_eq_true rfl⟩ (Nat.le_of_ble_eq_true rfl) ⟨Nat.zero_le _, Nat.zero_le _⟩ dX9_isSameWord_39 42 rfl (fun x_2 hF => ?_)
        refine w_icmp_eq X hF 47 45 dX9_isSameWord_42 (by decide) rfl (fun hF => ?_) (fun hF => ?_)
        · refine w_iinc X 3 (x3 + 1) [(3, .int (x3 + 1)), (0, .ref (ad 2)), (1, .int x1), (2, .int x2)] dX9_isSameWord_47 rfl rfl (by decide) rfl 50 rfl ?_
          refine w_goto X 20 dX9_isSameWord_50 (by decide) ?_
          refine w_keep [1, 2, 3, 0] rfl ?_
          exact ih x1 x2 (x3 + 1)  hF
        · refine w_iconst X 0 dX9_isSameWord_45 rfl 46 rfl ?_
          exact w_iret X hQ (o_inj hF) rfl rfl dX9_isSameWord_46
      · refine w_iconst X 1 dX9_isSameWord_53 rfl 54 rfl ?_
        exact w_iret X hQ (o_inj hF) rfl rfl dX9_isSameWord_54
  intro hF
  refine w_aload_n X 0 dX9_isSameWord_0 rfl rfl 1 rfl ?_
  refine w_getV (v := .int (rd mem 2 7)) X 2 plt_2 ko_2 (T := TX9) (N := 13) rfl in_X9 7 (by decide) kF_X9_52 rfl rfl dX9_isSameWord_1 4 rfl ?_
  refine w_iconst X 1 dX9_isSameWord_4 rfl 5 rfl ?_
  refine w_icmp_ne X hF 16 8 dX9_isSameWord_5 (by decide) rfl (fun hF => ?_) (fun hF => ?_)
  · refine w_aload_n X 0 dX9_isSameWord_8 rfl rfl 9 rfl ?_
    refine w_getV (v := .int (rd mem 2 9)) X 2 plt_2 ko_2 (T := TX9) (N := 13) rfl in_X9 9 (by decide) kF_X9_58 rfl rfl dX9_isSameWord_9 12 rfl ?_
    refine w_iload_n X 2 dX9_isSameWord_12 rfl rfl 13 rfl ?_
    refine w_icmp_eq X hF 18 16 dX9_isSameWord_13 (by decide) rfl (fun hF => ?_) (fun hF => ?_)
    · refine w_iconst X 0 dX9_isSameWord_18 rfl 19 rfl ?_
      refine w_istore_n X [(3, .int 0), (0, .ref (ad 2)), (1, .int x1), (2, .int x2)] dX9_isSameWord_19 rfl (by decide) rfl 20 rfl ?_
      refine w_keep [1, 2, 3, 0] rfl ?_
      exact w_20 fu x1 x2 0  hF
    · refine w_iconst X 0 dX9_isSameWord_16 rfl 17 rfl ?_
      exact w_iret X hQ (o_inj hF) rfl rfl dX9_isSameWord_17
  · refine w_iconst X 0 dX9_isSameWord_16 rfl 17 rfl ?_
    exact w_iret X hQ (o_inj hF) rfl rfl dX9_isSameWord_17

def K_X7_pawnNamed_2 (fu : Nat) (mem : Mem) : Nat → Int32 → Option Int32
  | 0, _ => none
  | n + 1, x1 => (if x1 < (rd mem (pRace 1) 2) then gi x1 4 (gi x1 4 (bd (K_X9_isSameWord fu (rd mem 8 (Int32.toNatClampNeg x1)) (rd mem 9 (Int32.toNatClampNeg x1)) mem) (fun x_3 => (if x_3 = 0 then (K_X7_pawnNamed_2 fu mem n (x1 + 1) ) else some x1)))) else some (-1))
def K_X7_pawnNamed (fu : Nat) (mem : Mem) : Option Int32 := (K_X7_pawnNamed_2 fu mem fu 0 )
def rm_X7_pawnNamed : Room := { frames := 2, cells := 0, slots := 0, locals := 44 }
set_option maxHeartbeats 4000000 in
set_option maxRecDepth 100000 in
theorem ct_X7_pawnNamed (l : Launch) {D : va_G} {ca ad : Nat → Nat} {Z : (Nat → Prop) → State → Heap → Prop} (hZ : ZOK Z) {tO : Nat} {sK sV : Nat → Nat} (hO : ZO Z tO sK sV) (fu : Nat) (mem : Mem) (res : Int32) (hF : K_X7_pawnNamed fu mem = some res) : CI l D (tyL ca) 255 ad (cC ca ad) Z yX7_pawnNamed cX7_pawnNamed 2 .int rm_X7_pawnNamed [.ref (ad 7)] mem res mem := by
  refine start_i (own := RX7) rfl (by decide) (Nat.le_of_ble_eq_true rfl) ?_
  intro p e s m args below meth c Q hQ X
  rw [K_X7_pawnNamed] at hF
  revert hF
  have w_2 : ∀ (n : Nat) (x1 : Int32), K_X7_pawnNamed_2 fu mem n x1 = some res → WW D 255 ad (cC ca ad) p l e rm_X7_pawnNamed s m args below meth c 2 0 0 Q mem 2 [(0, .ref (ad 7)), (1, .int x1)] [] := by
    intro n
    induction n with
    | zero => intro x1 hF; exact no_none (show (none : Option Int32) = some res from hF)
    | succ n ih =>
      intro x1 hF
      rw [K_X7_pawnNamed_2] at hF
      refine w_iload_n X 1 dX7_pawnNamed_2 rfl rfl 3 rfl ?_
      refine w_aload_n X 0 dX7_pawnNamed_3 rfl rfl 4 rfl ?_
      refine w_getV (v := .ref (ad (pRace 1))) X 7 plt_7 ko_7 (T := TX7) (N := 9) rfl in_X7 1 (by decide) kF_X7_15 rfl rfl dX7_pawnNamed_4 7 rfl ?_
      refine w_getV (v := .int (rd mem (pRace 1) 2)) X (pRace 1) (lt_Race (by decide)) ko_Race (T := TX6) (N := 8) rfl in_X6 2 (by decide) kF_X7_94 rfl rfl dX7_pawnNamed_7 10 rfl ?_
      refine w_icmp_ge X hF 43 13 dX7_pawnNamed_10 (by decide) rfl (fun hF => ?_) (fun hF => ?_)
      · refine w_aload_n X 0 dX7_pawnNamed_13 rfl rfl 14 rfl ?_
        refine w_getV (v := .ref (ad 2)) X 7 plt_7 ko_7 (T := TX7) (N := 9) rfl in_X7 0 (by decide) kF_X7_9 rfl rfl dX7_pawnNamed_14 17 rfl ?_
        refine w_aload_n X 0 dX7_pawnNamed_17 rfl rfl 18 rfl ?_
        refine w_getV (v := .ref (ad 8)) X 7 plt_7 ko_7 (T := TX7) (N := 9) rfl in_X7 3 (by decide) kF_X7_23 rfl rfl dX7_pawnNamed_18 21 rfl ?_
        refine w_iload_n X 1 dX7_pawnNamed_21 rfl rfl 22 rfl ?_
        refine w_gi hF (fun h_1 hF => ?_)
        refine w_ial X 8 plt_8 ko_8 (t0 := 0) rfl h_1 dX7_pawnNamed_22 23 rfl ?_
        refine w_aload_n X 0 dX7_pawnNamed_23 rfl rfl 24 rfl ?_
        refine w_getV (v := .ref (ad 9)) X 7 plt_7 ko_7 (T := TX7) (N := 9) rfl in_X7 4 (by decide) kF_X7_27 rfl rfl dX7_pawnNamed_24 27 rfl ?_
        refine w_iload_n X 1 dX7_pawnNamed_27 rfl rfl 28 rfl ?_
        refine w_gi hF (fun h_2 hF => ?_)
        refine w_ial X 9 plt_9 ko_9 (t0 := 0) rfl h_2 dX7_pawnNamed_28 29 rfl ?_
        refine w_callVi (fun x => x) (fun _ => mem) X hZ hF [.int (rd mem 8 (Int32.toNatClampNeg x1)), .int (rd mem 9 (Int32.toNatClampNeg x1))] 2 plt_2 ko_2 rfl rfl rfl kB_X9_isSameWord kL_X7_163 (fun res h => ct_X9_isSameWord l hZ hO fu (rd mem 8 (Int32.toNatClampNeg x1)) (rd mem 9 (Int32.toNatClampNeg x1)) mem res h) rfl rfl rfl ⟨Nat.le_of_ble_eq_true rfl, Nat.le_of_ble_eq_true rfl⟩ (Nat.le_of_ble_eq_true rfl) ⟨Nat.zero_le _, Nat.zero_le _⟩ dX7_pawnNamed_29 32 rfl (fun x_3 hF => ?_)
        refine w_if_eq X hF 37 35 dX7_pawnNamed_32 (by decide) rfl (fun hF => ?_) (fun hF => ?_)
        · refine w_iinc X 1 (x1 + 1) [(1, .int (x1 + 1)), (0, .ref (ad 7))] dX7_pawnNamed_37 rfl rfl (by decide) rfl 40 rfl ?_
          refine w_goto X 2 dX7_pawnNamed_40 (by decide) ?_
          refine w_keep [1, 0] rfl ?_
          exact ih (x1 + 1)  hF
        · refine w_iload_n X 1 dX7_pawnNamed_35 rfl rfl 36 rfl ?_
          exact w_iret X hQ (o_inj hF) rfl rfl dX7_pawnNamed_36
      · refine w_iconst X (-1) dX7_pawnNamed_43 rfl 44 rfl ?_
        exact w_iret X hQ (o_inj hF) rfl rfl dX7_pawnNamed_44
  intro hF
  refine w_iconst X 0 dX7_pawnNamed_0 rfl 1 rfl ?_
  refine w_istore_n X [(1, .int 0), (0, .ref (ad 7))] dX7_pawnNamed_1 rfl (by decide) rfl 2 rfl ?_
  refine w_keep [1, 0] rfl ?_
  exact w_2 fu 0  hF

def K_X7_readName_55 (fu : Nat) (mem : Mem) : Option (Int32 × Mem) := some (1, mem)
def K_X7_readName_41 (fu : Nat) (xs0 : Int32) (xs1 : Int32) (mem : Mem) : Option (Int32 × Mem) := (if xs1 = xs0 then (K_X7_readName_55 fu mem) else bd (K_X9_fail fu 4 mem) (fun p_5 => (if p_5.1 = 0 then some (0, p_5.2) else (K_X7_readName_55 fu p_5.2))))
def K_X7_readName (fu : Nat) (x1 : Int32) (mem : Mem) : Option (Int32 × Mem) := bd (K_X9_advance fu mem) (fun m_1 => (if (rd m_1 2 7) = 1 then bd (K_X7_pawnNamed fu m_1) (fun x_2 => (if x_2 = (-1) then (K_X7_readName_41 fu 0 x1 m_1) else (K_X7_readName_41 fu 1 x1 m_1))) else bd (K_X9_fail fu 1 m_1) (fun p_3 => gb p_3.1 (some (p_3.1, p_3.2)))))
def rm_X7_readName : Room := { frames := 3, cells := 0, slots := 0, locals := 65 }
set_option maxHeartbeats 4000000 in
set_option maxRecDepth 100000 in
theorem ct_X7_readName (l : Launch) {D : va_G} {ca ad : Nat → Nat} {Z : (Nat → Prop) → State → Heap → Prop} (hZ : ZOK Z) {tO : Nat} {sK sV : Nat → Nat} (hO : ZO Z tO sK sV) (fu : Nat) (x1 : Int32) (mem : Mem) (res : (Int32 × Mem)) (hF : K_X7_readName fu x1 mem = some res) : CI l D (tyL ca) 255 ad (cC ca ad) Z yX7_readName cX7_readName 2 .boolean rm_X7_readName [.ref (ad 7), .int x1] mem res.1 res.2 := by
  refine start_i (own := RX7) rfl (by decide) (Nat.le_of_ble_eq_true rfl) ?_
  intro p e s m args below meth c Q hQ X
  rw [K_X7_readName] at hF
  revert hF
  have w_55 : ∀ (mem : Mem), K_X7_readName_55 fu mem = some res → WW D 255 ad (cC ca ad) p l e rm_X7_readName s m args below meth c 2 0 0 Q mem 55 [] [] := by
    intro mem hF
    rw [K_X7_readName_55] at hF
    refine w_iconst X 1 dX7_readName_55 rfl 56 rfl ?_
    refine w_goto X 60 dX7_readName_56 (by decide) ?_
    exact w_iret X hQ (o_inj1 hF) (o_inj2 hF) rfl dX7_readName_60
  have w_41 : ∀ (xs0 : Int32) (xs1 : Int32) (mem : Mem), K_X7_readName_41 fu xs0 xs1 mem = some res → WW D 255 ad (cC ca ad) p l e rm_X7_readName s m args below meth c 2 0 0 Q mem 41 [(0, .ref (ad 7))] [.int xs0, .int xs1] := by
    intro xs0 xs1 mem hF
    rw [K_X7_readName_41] at hF
    refine w_icmp_eq X hF 55 44 dX7_readName_41 (by decide) rfl (fun hF => ?_) (fun hF => ?_)
    · refine w_keep [] rfl ?_
      exact w_55 mem hF
    · refine w_aload_n X 0 dX7_readName_44 rfl rfl 45 rfl ?_
      refine w_getV (v := .ref (ad 2)) X 7 plt_7 ko_7 (T := TX7) (N := 9) rfl in_X7 0 (by decide) kF_X7_9 rfl rfl dX7_readName_45 48 rfl ?_
      refine w_iconst X 4 dX7_readName_48 rfl 49 rfl ?_
      refine w_callVi (fun x => x.1) (fun x => x.2) X hZ hF [.int 4] 2 plt_2 ko_2 rfl rfl rfl kB_X9_fail kL_X7_90 (fun res h => ct_X9_fail l hZ hO fu 4 mem res h) rfl rfl rfl ⟨Nat.le_of_ble_eq_true rfl, Nat.le_of_ble_eq_true rfl⟩ (Nat.le_of_ble_eq_true rfl) ⟨Nat.zero_le _, Nat.zero_le _⟩ dX7_readName_49 52 rfl (fun p_5 hF => ?_)
      refine w_if_eq X hF 59 55 dX7_readName_52 (by decide) rfl (fun hF => ?_) (fun hF => ?_)
      · refine w_iconst X 0 dX7_readName_59 rfl 60 rfl ?_
        exact w_iret X hQ (o_inj1 hF) (o_inj2 hF) rfl dX7_readName_60
      · refine w_keep [] rfl ?_
        exact w_55 p_5.2 hF
  intro hF
  refine w_aload_n X 0 dX7_readName_0 rfl rfl 1 rfl ?_
  refine w_getV (v := .ref (ad 2)) X 7 plt_7 ko_7 (T := TX7) (N := 9) rfl in_X7 0 (by decide) kF_X7_9 rfl rfl dX7_readName_1 4 rfl ?_
  refine w_callVv (fun m => m) X hZ hF [] 2 plt_2 ko_2 rfl rfl rfl kB_X9_advance kL_X7_51 (fun res h => ct_X9_advance l hZ hO fu mem res h) rfl rfl rfl ⟨Nat.le_of_ble_eq_true rfl, Nat.le_of_ble_eq_true rfl⟩ (Nat.le_of_ble_eq_true rfl) ⟨Nat.zero_le _, Nat.zero_le _⟩ dX7_readName_4 7 rfl (fun m_1 hF => ?_)
  refine w_aload_n X 0 dX7_readName_7 rfl rfl 8 rfl ?_
  refine w_getV (v := .ref (ad 2)) X 7 plt_7 ko_7 (T := TX7) (N := 9) rfl in_X7 0 (by decide) kF_X7_9 rfl rfl dX7_readName_8 11 rfl ?_
  refine w_getV (v := .int (rd m_1 2 7)) X 2 plt_2 ko_2 (T := TX9) (N := 13) rfl in_X9 7 (by decide) kF_X7_54 rfl rfl dX7_readName_11 14 rfl ?_
  refine w_iconst X 1 dX7_readName_14 rfl 15 rfl ?_
  refine w_icmp_eq X hF 27 18 dX7_readName_15 (by decide) rfl (fun hF => ?_) (fun hF => ?_)
  · refine w_iload_n X 1 dX7_readName_27 rfl rfl 28 rfl ?_
    refine w_aload_n X 0 dX7_readName_28 rfl rfl 29 rfl ?_
    refine w_callVi (fun x => x) (fun _ => m_1) X hZ hF [] 7 plt_7 ko_7 rfl rfl rfl kB_X7_pawnNamed kL_X7_160 (fun res h => ct_X7_pawnNamed l hZ hO fu m_1 res h) rfl rfl rfl ⟨Nat.le_of_ble_eq_true rfl, Nat.le_of_ble_eq_true rfl⟩ (Nat.le_of_ble_eq_true rfl) ⟨Nat.zero_le _, Nat.zero_le _⟩ dX7_readName_29 32 rfl (fun x_2 hF => ?_)
    refine w_iconst X (-1) dX7_readName_32 rfl 33 rfl ?_
    refine w_icmp_eq X hF 40 36 dX7_readName_33 (by decide) rfl (fun hF => ?_) (fun hF => ?_)
    · refine w_iconst X 0 dX7_readName_40 rfl 41 rfl ?_
      refine w_keep [0] rfl ?_
      exact w_41 0 x1 m_1 hF
    · refine w_iconst X 1 dX7_readName_36 rfl 37 rfl ?_
      refine w_goto X 41 dX7_readName_37 (by decide) ?_
      refine w_keep [0] rfl ?_
      exact w_41 1 x1 m_1 hF
  · refine w_aload_n X 0 dX7_readName_18 rfl rfl 19 rfl ?_
    refine w_getV (v := .ref (ad 2)) X 7 plt_7 ko_7 (T := TX7) (N := 9) rfl in_X7 0 (by decide) kF_X7_9 rfl rfl dX7_readName_19 22 rfl ?_
    refine w_iconst X 1 dX7_readName_22 rfl 23 rfl ?_
    refine w_callVi (fun x => x.1) (fun x => x.2) X hZ hF [.int 1] 2 plt_2 ko_2 rfl rfl rfl kB_X9_fail kL_X7_90 (fun res h => ct_X9_fail l hZ hO fu 1 m_1 res h) rfl rfl rfl ⟨Nat.le_of_ble_eq_true rfl, Nat.le_of_ble_eq_true rfl⟩ (Nat.le_of_ble_eq_true rfl) ⟨Nat.zero_le _, Nat.zero_le _⟩ dX7_readName_23 26 rfl (fun p_3 hF => ?_)
    refine w_gb hF (fun h_4 hF => ?_)
    exact w_iret X hQ (o_inj1 hF) (o_inj2 hF) (bool_nar h_4) dX7_readName_26

def K_X7_readCell (fu : Nat) (mem : Mem) : Option (Int32 × Mem) := bd (K_X9_needNumber fu 0 ((rd mem (pBoard 1) 0) - 1) mem) (fun p_1 => (if p_1.1 = 0 then some (0, p_1.2) else lt_ (rd p_1.2 2 10) (fun x_2 => bd (K_X9_needNumber fu 0 ((rd p_1.2 (pBoard 1) 1) - 1) p_1.2) (fun p_3 => (if p_3.1 = 0 then some (0, p_3.2) else lt_ (mw p_3.2 7 8 (((rd p_3.2 2 10) * 9) + x_2)) (fun m_4 => some (1, m_4)))))))
def rm_X7_readCell : Room := { frames := 2, cells := 0, slots := 0, locals := 44 }
set_option maxHeartbeats 4000000 in
set_option maxRecDepth 100000 in
theorem ct_X7_readCell (l : Launch) {D : va_G} {ca ad : Nat → Nat} {Z : (Nat → Prop) → State → Heap → Prop} (hZ : ZOK Z) {tO : Nat} {sK sV : Nat → Nat} (hO : ZO Z tO sK sV) (fu : Nat) (mem : Mem) (res : (Int32 × Mem)) (hF : K_X7_readCell fu mem = some res) : CI l D (tyL ca) 255 ad (cC ca ad) Z yX7_readCell cX7_readCell 2 .boolean rm_X7_readCell [.ref (ad 7)] mem res.1 res.2 := by
  refine start_i (own := RX7) rfl (by decide) (Nat.le_of_ble_eq_true rfl) ?_
  intro p e s m args below meth c Q hQ X
  rw [K_X7_readCell] at hF
  revert hF
  intro hF
  refine w_aload_n X 0 dX7_readCell_0 rfl rfl 1 rfl ?_
  refine w_getV (v := .ref (ad 2)) X 7 plt_7 ko_7 (T := TX7) (N := 9) rfl in_X7 0 (by decide) kF_X7_9 rfl rfl dX7_readCell_1 4 rfl ?_
  refine w_iconst X 0 dX7_readCell_4 rfl 5 rfl ?_
  refine w_aload_n X 0 dX7_readCell_5 rfl rfl 6 rfl ?_
  refine w_getV (v := .ref (ad (pRace 1))) X 7 plt_7 ko_7 (T := TX7) (N := 9) rfl in_X7 1 (by decide) kF_X7_15 rfl rfl dX7_readCell_6 9 rfl ?_
  refine w_getV (v := .ref (ad (pBoard 1))) X (pRace 1) (lt_Race (by decide)) ko_Race (T := TX6) (N := 8) rfl in_X6 0 (by decide) kF_X7_97 rfl rfl dX7_readCell_9 12 rfl ?_
  refine w_getV (v := .int (rd mem (pBoard 1) 0)) X (pBoard 1) (lt_Board (by decide)) ko_Board (T := TX2) (N := 5) rfl in_X2 0 (by decide) kF_X7_166 rfl rfl dX7_readCell_12 15 rfl ?_
  refine w_iconst X 1 dX7_readCell_15 rfl 16 rfl ?_
  refine w_isub X dX7_readCell_16 17 rfl ?_
  refine w_callVi (fun x => x.1) (fun x => x.2) X hZ hF [.int 0, .int ((rd mem (pBoard 1) 0) - 1)] 2 plt_2 ko_2 rfl rfl rfl kB_X9_needNumber kL_X7_104 (fun res h => ct_X9_needNumber l hZ hO fu 0 ((rd mem (pBoard 1) 0) - 1) mem res h) rfl rfl rfl ⟨Nat.le_of_ble_eq_true rfl, Nat.le_of_ble_eq_true rfl⟩ (Nat.le_of_ble_eq_true rfl) ⟨Nat.zero_le _, Nat.zero_le _⟩ dX7_readCell_17 20 rfl (fun p_1 hF => ?_)
  refine w_if_ne X hF 25 23 dX7_readCell_20 (by decide) rfl (fun hF => ?_) (fun hF => ?_)
  · refine w_iconst X 0 dX7_readCell_23 rfl 24 rfl ?_
    exact w_iret X hQ (o_inj1 hF) (o_inj2 hF) rfl dX7_readCell_24
  · refine w_aload_n X 0 dX7_readCell_25 rfl rfl 26 rfl ?_
    refine w_getV (v := .ref (ad 2)) X 7 plt_7 ko_7 (T := TX7) (N := 9) rfl in_X7 0 (by decide) kF_X7_9 rfl rfl dX7_readCell_26 29 rfl ?_
    refine w_getV (v := .int (rd p_1.2 2 10)) X 2 plt_2 ko_2 (T := TX9) (N := 13) rfl in_X9 10 (by decide) kF_X7_108 rfl rfl dX7_readCell_29 32 rfl ?_
    refine w_let hF (fun x_2 hF => ?_)
    refine w_istore_n X [(1, .int x_2), (0, .ref (ad 7))] dX7_readCell_32 rfl (by decide) rfl 33 rfl ?_
    refine w_aload_n X 1 dX7_readCell_33 rfl rfl 34 rfl ?_
    refine w_getV (v := .ref (ad 2)) X 7 plt_7 ko_7 (T := TX7) (N := 9) rfl in_X7 0 (by decide) kF_X7_9 rfl rfl dX7_readCell_34 37 rfl ?_
    refine w_iconst X 0 dX7_readCell_37 rfl 38 rfl ?_
    refine w_aload_n X 1 dX7_readCell_38 rfl rfl 39 rfl ?_
    refine w_getV (v := .ref (ad (pRace 1))) X 7 plt_7 ko_7 (T := TX7) (N := 9) rfl in_X7 1 (by decide) kF_X7_15 rfl rfl dX7_readCell_39 42 rfl ?_
    refine w_getV (v := .ref (ad (pBoard 1))) X (pRace 1) (lt_Race (by decide)) ko_Race (T := TX6) (N := 8) rfl in_X6 0 (by decide) kF_X7_97 rfl rfl dX7_readCell_42 45 rfl ?_
    refine w_getV (v := .int (rd p_1.2 (pBoard 1) 1)) X (pBoard 1) (lt_Board (by decide)) ko_Board (T := TX2) (N := 5) rfl in_X2 1 (by decide) kF_X7_169 rfl rfl dX7_readCell_45 48 rfl ?_
    refine w_iconst X 1 dX7_readCell_48 rfl 49 rfl ?_
    refine w_isub X dX7_readCell_49 50 rfl ?_
    refine w_callVi (fun x => x.1) (fun x => x.2) X hZ hF [.int 0, .int ((rd p_1.2 (pBoard 1) 1) - 1)] 2 plt_2 ko_2 rfl rfl rfl kB_X9_needNumber kL_X7_104 (fun res h => ct_X9_needNumber l hZ hO fu 0 ((rd p_1.2 (pBoard 1) 1) - 1) p_1.2 res h) rfl rfl rfl ⟨Nat.le_of_ble_eq_true rfl, Nat.le_of_ble_eq_true rfl⟩ (Nat.le_of_ble_eq_true rfl) ⟨Nat.zero_le _, Nat.zero_le _⟩ dX7_readCell_50 53 rfl (fun p_3 hF => ?_)
    refine w_if_ne X hF 58 56 dX7_readCell_53 (by decide) rfl (fun hF => ?_) (fun hF => ?_)
    · refine w_iconst X 0 dX7_readCell_56 rfl 57 rfl ?_
      exact w_iret X hQ (o_inj1 hF) (o_inj2 hF) rfl dX7_readCell_57
    · refine w_aload_n X 1 dX7_readCell_58 rfl rfl 59 rfl ?_
      refine w_aload_n X 1 dX7_readCell_59 rfl rfl 60 rfl ?_
      refine w_getV (v := .ref (ad 2)) X 7 plt_7 ko_7 (T := TX7) (N := 9) rfl in_X7 0 (by decide) kF_X7_9 rfl rfl dX7_readCell_60 63 rfl ?_
      refine w_getV (v := .int (rd p_3.2 2 10)) X 2 plt_2 ko_2 (T := TX9) (N := 13) rfl in_X9 10 (by decide) kF_X7_108 rfl rfl dX7_readCell_63 66 rfl ?_
      refine w_bipush X 9 dX7_readCell_66 rfl 68 rfl ?_
      refine w_imul X dX7_readCell_68 69 rfl ?_
      refine w_iload_n X 0 dX7_readCell_69 rfl rfl 70 rfl ?_
      refine w_iadd X dX7_readCell_70 71 rfl ?_
      refine w_putI X 7 plt_7 ko_7 (T := TX7) (N := 9) rfl in_X7 tyX7 tyX7_ok nmX7 8 (by decide) kF_X7_130 rfl rfl rfl rfl (Nat.le_of_ble_eq_true rfl) rfl dX7_readCell_71 74 rfl ?_
      refine w_letm hF (fun m_4 hF => ?_)
      refine w_iconst X 1 dX7_readCell_74 rfl 75 rfl ?_
      exact w_iret X hQ (o_inj1 hF) (o_inj2 hF) rfl dX7_readCell_75

def K_X9_side (fu : Nat) (mem : Mem) : Option (Int32 × Mem) := bd (K_X9_isWord fu 3 mem) (fun p_1 => (if p_1.1 = 0 then bd (K_X9_isWord fu 4 p_1.2) (fun p_2 => (if p_2.1 = 0 then bd (K_X9_isWord fu 5 p_2.2) (fun p_3 => (if p_3.1 = 0 then bd (K_X9_isWord fu 6 p_3.2) (fun p_4 => (if p_4.1 = 0 then some ((-1), p_4.2) else some (3, p_4.2))) else some (2, p_3.2))) else some (1, p_2.2))) else some (0, p_1.2)))
def rm_X9_side : Room := { frames := 6, cells := 0, slots := 0, locals := 129 }
set_option maxHeartbeats 4000000 in
set_option maxRecDepth 100000 in
theorem ct_X9_side (l : Launch) {D : va_G} {ca ad : Nat → Nat} {Z : (Nat → Prop) → State → Heap → Prop} (hZ : ZOK Z) {tO : Nat} {sK sV : Nat → Nat} (hO : ZO Z tO sK sV) (fu : Nat) (mem : Mem) (res : (Int32 × Mem)) (hF : K_X9_side fu mem = some res) : CI l D (tyL ca) 255 ad (cC ca ad) Z yX9_side cX9_side 1 .int rm_X9_side [.ref (ad 2)] mem res.1 res.2 := by
  refine start_i (own := RX9) rfl (by decide) (Nat.le_of_ble_eq_true rfl) ?_
  intro p e s m args below meth c Q hQ X
  rw [K_X9_side] at hF
  revert hF
  intro hF
  refine w_aload_n X 0 dX9_side_0 rfl rfl 1 rfl ?_
  refine w_ldcS X hO 3 rfl dX9_side_1 3 rfl ?_
  refine w_callVi (fun x => x.1) (fun x => x.2) X hZ hF [.ref (sK 3)] 2 plt_2 ko_2 rfl rfl rfl kB_X9_isWord kL_X9_72 (fun res h => ct_X9_isWord l hZ hO fu (by decide) mem res h) rfl rfl rfl ⟨Nat.le_of_ble_eq_true rfl, Nat.le_of_ble_eq_true rfl⟩ (Nat.le_of_ble_eq_true rfl) ⟨Nat.zero_le _, Nat.zero_le _⟩ dX9_side_3 6 rfl (fun p_1 hF => ?_)
  refine w_if_eq X hF 11 9 dX9_side_6 (by decide) rfl (fun hF => ?_) (fun hF => ?_)
  · refine w_aload_n X 0 dX9_side_11 rfl rfl 12 rfl ?_
    refine w_ldcS X hO 4 rfl dX9_side_12 14 rfl ?_
    refine w_callVi (fun x => x.1) (fun x => x.2) X hZ hF [.ref (sK 4)] 2 plt_2 ko_2 rfl rfl rfl kB_X9_isWord kL_X9_72 (fun res h => ct_X9_isWord l hZ hO fu (by decide) p_1.2 res h) rfl rfl rfl ⟨Nat.le_of_ble_eq_true rfl, Nat.le_of_ble_eq_true rfl⟩ (Nat.le_of_ble_eq_true rfl) ⟨Nat.zero_le _, Nat.zero_le _⟩ dX9_side_14 17 rfl (fun p_2 hF => ?_)
    refine w_if_eq X hF 22 20 dX9_side_17 (by decide) rfl (fun hF => ?_) (fun hF => ?_)
    · refine w_aload_n X 0 dX9_side_22 rfl rfl 23 rfl ?_
      refine w_ldcS X hO 5 rfl dX9_side_23 25 rfl ?_
      refine w_callVi (fun x => x.1) (fun x => x.2) X hZ hF [.ref (sK 5)] 2 plt_2 ko_2 rfl rfl rfl kB_X9_isWord kL_X9_72 (fun res h => ct_X9_isWord l hZ hO fu (by decide) p_2.2 res h) rfl rfl rfl ⟨Nat.le_of_ble_eq_true rfl, Nat.le_of_ble_eq_true rfl⟩ (Nat.le_of_ble_eq_true rfl) ⟨Nat.zero_le _, Nat.zero_le _⟩ dX9_side_25 28 rfl (fun p_3 hF => ?_)
      refine w_if_eq X hF 33 31 dX9_side_28 (by decide) rfl (fun hF => ?_) (fun hF => ?_)
      · refine w_aload_n X 0 dX9_side_33 rfl rfl 34 rfl ?_
        refine w_ldcS X hO 6 rfl dX9_side_34 36 rfl ?_
        refine w_callVi (fun x => x.1) (fun x => x.2) X hZ hF [.ref (sK 6)] 2 plt_2 ko_2 rfl rfl rfl kB_X9_isWord kL_X9_72 (fun res h => ct_X9_isWord l hZ hO fu (by decide) p_3.2 res h) rfl rfl rfl ⟨Nat.le_of_ble_eq_true rfl, Nat.le_of_ble_eq_true rfl⟩ (Nat.le_of_ble_eq_true rfl) ⟨Nat.zero_le _, Nat.zero_le _⟩ dX9_side_36 39 rfl (fun p_4 hF => ?_)
        refine w_if_eq X hF 46 42 dX9_side_39 (by decide) rfl (fun hF => ?_) (fun hF => ?_)
        · refine w_iconst X (-1) dX9_side_46 rfl 47 rfl ?_
          exact w_iret X hQ (o_inj1 hF) (o_inj2 hF) rfl dX9_side_47
        · refine w_iconst X 3 dX9_side_42 rfl 43 rfl ?_
          refine w_goto X 47 dX9_side_43 (by decide) ?_
          exact w_iret X hQ (o_inj1 hF) (o_inj2 hF) rfl dX9_side_47
      · refine w_iconst X 2 dX9_side_31 rfl 32 rfl ?_
        exact w_iret X hQ (o_inj1 hF) (o_inj2 hF) rfl dX9_side_32
    · refine w_iconst X 1 dX9_side_20 rfl 21 rfl ?_
      exact w_iret X hQ (o_inj1 hF) (o_inj2 hF) rfl dX9_side_21
  · refine w_iconst X 0 dX9_side_9 rfl 10 rfl ?_
    exact w_iret X hQ (o_inj1 hF) (o_inj2 hF) rfl dX9_side_10

def K_X9_needSide (fu : Nat) (mem : Mem) : Option (Int32 × Mem) := bd (K_X9_advance fu mem) (fun m_1 => bd (K_X9_side fu m_1) (fun p_2 => lt_ p_2.1 (fun x_3 => (if x_3 = (-1) then bd (K_X9_fail fu 1 p_2.2) (fun p_4 => some (x_3, p_4.2)) else some (x_3, p_2.2)))))
def rm_X9_needSide : Room := { frames := 7, cells := 0, slots := 0, locals := 149 }
set_option maxHeartbeats 4000000 in
set_option maxRecDepth 100000 in
theorem ct_X9_needSide (l : Launch) {D : va_G} {ca ad : Nat → Nat} {Z : (Nat → Prop) → State → Heap → Prop} (hZ : ZOK Z) {tO : Nat} {sK sV : Nat → Nat} (hO : ZO Z tO sK sV) (fu : Nat) (mem : Mem) (res : (Int32 × Mem)) (hF : K_X9_needSide fu mem = some res) : CI l D (tyL ca) 255 ad (cC ca ad) Z yX9_needSide cX9_needSide 2 .int rm_X9_needSide [.ref (ad 2)] mem res.1 res.2 := by
  refine start_i (own := RX9) rfl (by decide) (Nat.le_of_ble_eq_true rfl) ?_
  intro p e s m args below meth c Q hQ X
  rw [K_X9_needSide] at hF
  revert hF
  intro hF
  refine w_aload_n X 0 dX9_needSide_0 rfl rfl 1 rfl ?_
  refine w_callVv (fun m => m) X hZ hF [] 2 plt_2 ko_2 rfl rfl rfl kB_X9_advance kL_X9_82 (fun res h => ct_X9_advance l hZ hO fu mem res h) rfl rfl rfl ⟨Nat.le_of_ble_eq_true rfl, Nat.le_of_ble_eq_true rfl⟩ (Nat.le_of_ble_eq_true rfl) ⟨Nat.zero_le _, Nat.zero_le _⟩ dX9_needSide_1 4 rfl (fun m_1 hF => ?_)
  refine w_aload_n X 0 dX9_needSide_4 rfl rfl 5 rfl ?_
  refine w_callVi (fun x => x.1) (fun x => x.2) X hZ hF [] 2 plt_2 ko_2 rfl rfl rfl kB_X9_side kL_X9_85 (fun res h => ct_X9_side l hZ hO fu m_1 res h) rfl rfl rfl ⟨Nat.le_of_ble_eq_true rfl, Nat.le_of_ble_eq_true rfl⟩ (Nat.le_of_ble_eq_true rfl) ⟨Nat.zero_le _, Nat.zero_le _⟩ dX9_needSide_5 8 rfl (fun p_2 hF => ?_)
  refine w_let hF (fun x_3 hF => ?_)
  refine w_istore_n X [(1, .int x_3), (0, .ref (ad 2))] dX9_needSide_8 rfl (by decide) rfl 9 rfl ?_
  refine w_iload_n X 0 dX9_needSide_9 rfl rfl 10 rfl ?_
  refine w_iconst X (-1) dX9_needSide_10 rfl 11 rfl ?_
  refine w_icmp_ne X hF 20 14 dX9_needSide_11 (by decide) rfl (fun hF => ?_) (fun hF => ?_)
  · refine w_aload_n X 1 dX9_needSide_14 rfl rfl 15 rfl ?_
    refine w_iconst X 1 dX9_needSide_15 rfl 16 rfl ?_
    refine w_callVi (fun x => x.1) (fun x => x.2) X hZ hF [.int 1] 2 plt_2 ko_2 rfl rfl rfl kB_X9_fail kL_X9_88 (fun res h => ct_X9_fail l hZ hO fu 1 p_2.2 res h) rfl rfl rfl ⟨Nat.le_of_ble_eq_true rfl, Nat.le_of_ble_eq_true rfl⟩ (Nat.le_of_ble_eq_true rfl) ⟨Nat.zero_le _, Nat.zero_le _⟩ dX9_needSide_16 19 rfl (fun p_4 hF => ?_)
    refine w_pop X dX9_needSide_19 rfl 20 rfl ?_
    refine w_iload_n X 0 dX9_needSide_20 rfl rfl 21 rfl ?_
    exact w_iret X hQ (o_inj1 hF) (o_inj2 hF) rfl dX9_needSide_21
  · refine w_iload_n X 0 dX9_needSide_20 rfl rfl 21 rfl ?_
    exact w_iret X hQ (o_inj1 hF) (o_inj2 hF) rfl dX9_needSide_21

def K_X6_addPawn (fu : Nat) (r : Nat) (x1 : Int32) (x2 : Int32) (x3 : Int32) (mem : Mem) : Option Mem := (if (rd mem (pRace r) 2) < 4 then gi (rd mem (pRace r) 2) 4 (lt_ (mw mem (pPawn r (Int32.toNatClampNeg (rd mem (pRace r) 2))) 0 x1) (fun m_2 => lt_ (mw m_2 (pPawn r (Int32.toNatClampNeg (rd mem (pRace r) 2))) 1 x2) (fun m_3 => lt_ (mw m_3 (pPawn r (Int32.toNatClampNeg (rd mem (pRace r) 2))) 2 x3) (fun m_4 => lt_ (mw m_4 (pPawn r (Int32.toNatClampNeg (rd mem (pRace r) 2))) 3 0) (fun m_5 => lt_ (mw m_5 (pPawn r (Int32.toNatClampNeg (rd mem (pRace r) 2))) 4 (-1)) (fun m_6 => lt_ (mw m_6 (pPawn r (Int32.toNatClampNeg (rd mem (pRace r) 2))) 5 0) (fun m_7 => lt_ (mw m_7 (pRace r) 2 ((rd m_7 (pRace r) 2) + 1)) (fun m_8 => some m_8)))))))) else some mem)
def rm_X6_addPawn : Room := { frames := 0, cells := 0, slots := 0, locals := 0 }
set_option maxHeartbeats 4000000 in
set_option maxRecDepth 100000 in
theorem ct_X6_addPawn (l : Launch) {D : va_G} {ca ad : Nat → Nat} {Z : (Nat → Prop) → State → Heap → Prop} (hZ : ZOK Z) {tO : Nat} {sK sV : Nat → Nat} (hO : ZO Z tO sK sV) (fu : Nat) {r : Nat} (hr : r < 10) (x1 : Int32) (x2 : Int32) (x3 : Int32) (mem : Mem) (res : Mem) (hF : K_X6_addPawn fu r x1 x2 x3 mem = some res) : CV l D (tyL ca) 255 ad (cC ca ad) Z yX6_addPawn cX6_addPawn 5 rm_X6_addPawn [.ref (ad (pRace r)), .int x1, .int x2, .int x3] mem res := by
  refine start_v (own := RX6) rfl (by decide) (Nat.le_of_ble_eq_true rfl) ?_
  intro p e s m args below meth c Q hQ X
  rw [K_X6_addPawn] at hF
  revert hF
  intro hF
  refine w_aload_n X 0 dX6_addPawn_0 rfl rfl 1 rfl ?_
  refine w_getV (v := .int (rd mem (pRace r) 2)) X (pRace r) (lt_Race hr) ko_Race (T := TX6) (N := 8) rfl in_X6 2 (by decide) kF_X6_36 rfl rfl dX6_addPawn_1 4 rfl ?_
  refine w_iconst X 4 dX6_addPawn_4 rfl 5 rfl ?_
  refine w_icmp_ge X hF 65 8 dX6_addPawn_5 (by decide) rfl (fun hF => ?_) (fun hF => ?_)
  · refine w_aload_n X 0 dX6_addPawn_8 rfl rfl 9 rfl ?_
    refine w_getV (v := .ref (ad (pPawns r))) X (pRace r) (lt_Race hr) ko_Race (T := TX6) (N := 8) rfl in_X6 1 (by decide) kF_X6_20 rfl rfl dX6_addPawn_9 12 rfl ?_
    refine w_aload_n X 0 dX6_addPawn_12 rfl rfl 13 rfl ?_
    refine w_getV (v := .int (rd mem (pRace r) 2)) X (pRace r) (lt_Race hr) ko_Race (T := TX6) (N := 8) rfl in_X6 2 (by decide) kF_X6_36 rfl rfl dX6_addPawn_13 16 rfl ?_
    refine w_gi hF (fun h_1 hF => ?_)
    refine w_aal X (pPawns r) (lt_Pawns hr) (pPawn r (Int32.toNatClampNeg (rd mem (pRace r) 2))) ko_Pawns (t0 := 2) rfl h_1 (el_Pawns (vp_lt h_1)) dX6_addPawn_16 17 rfl ?_
    refine w_astore X [(4, .ref (ad (pPawn r (Int32.toNatClampNeg (rd mem (pRace r) 2))))), (0, .ref (ad (pRace r))), (1, .int x1), (2, .int x2), (3, .int x3)] dX6_addPawn_17 (by decide) rfl 19 rfl ?_
    refine w_aload X 0 dX6_addPawn_19 rfl 21 rfl ?_
    refine w_iload_n X 2 dX6_addPawn_21 rfl rfl 22 rfl ?_
    refine w_putI X (pPawn r (Int32.toNatClampNeg (rd mem (pRace r) 2))) (lt_Pawn hr (vp_lt h_1)) (ko_Pawn (vp_lt h_1)) (T := TX4) (N := 6) rfl in_X4 tyX4 tyX4_ok nmX4 0 (by decide) kF_X6_62 rfl rfl rfl rfl (Nat.le_of_ble_eq_true rfl) rfl dX6_addPawn_22 25 rfl ?_
    refine w_letm hF (fun m_2 hF => ?_)
    refine w_aload X 0 dX6_addPawn_25 rfl 27 rfl ?_
    refine w_iload_n X 3 dX6_addPawn_27 rfl rfl 28 rfl ?_
    refine w_putI X (pPawn r (Int32.toNatClampNeg (rd mem (pRace r) 2))) (lt_Pawn hr (vp_lt h_1)) (ko_Pawn (vp_lt h_1)) (T := TX4) (N := 6) rfl in_X4 tyX4 tyX4_ok nmX4 1 (by decide) kF_X6_65 rfl rfl rfl rfl (Nat.le_of_ble_eq_true rfl) rfl dX6_addPawn_28 31 rfl ?_
    refine w_letm hF (fun m_3 hF => ?_)
    refine w_aload X 0 dX6_addPawn_31 rfl 33 rfl ?_
    refine w_iload_n X 4 dX6_addPawn_33 rfl rfl 34 rfl ?_
    refine w_putI X (pPawn r (Int32.toNatClampNeg (rd mem (pRace r) 2))) (lt_Pawn hr (vp_lt h_1)) (ko_Pawn (vp_lt h_1)) (T := TX4) (N := 6) rfl in_X4 tyX4 tyX4_ok nmX4 2 (by decide) kF_X6_68 rfl rfl rfl rfl (Nat.le_of_ble_eq_true rfl) rfl dX6_addPawn_34 37 rfl ?_
    refine w_letm hF (fun m_4 hF => ?_)
    refine w_aload X 0 dX6_addPawn_37 rfl 39 rfl ?_
    refine w_iconst X 0 dX6_addPawn_39 rfl 40 rfl ?_
    refine w_putI X (pPawn r (Int32.toNatClampNeg (rd mem (pRace r) 2))) (lt_Pawn hr (vp_lt h_1)) (ko_Pawn (vp_lt h_1)) (T := TX4) (N := 6) rfl in_X4 tyX4 tyX4_ok nmX4 3 (by decide) kF_X6_71 rfl rfl rfl rfl (Nat.le_of_ble_eq_true rfl) rfl dX6_addPawn_40 43 rfl ?_
    refine w_letm hF (fun m_5 hF => ?_)
    refine w_aload X 0 dX6_addPawn_43 rfl 45 rfl ?_
    refine w_iconst X (-1) dX6_addPawn_45 rfl 46 rfl ?_
    refine w_putI X (pPawn r (Int32.toNatClampNeg (rd mem (pRace r) 2))) (lt_Pawn hr (vp_lt h_1)) (ko_Pawn (vp_lt h_1)) (T := TX4) (N := 6) rfl in_X4 tyX4 tyX4_ok nmX4 4 (by decide) kF_X6_74 rfl rfl rfl rfl (Nat.le_of_ble_eq_true rfl) rfl dX6_addPawn_46 49 rfl ?_
    refine w_letm hF (fun m_6 hF => ?_)
    refine w_aload X 0 dX6_addPawn_49 rfl 51 rfl ?_
    refine w_iconst X 0 dX6_addPawn_51 rfl 52 rfl ?_
    refine w_putI X (pPawn r (Int32.toNatClampNeg (rd mem (pRace r) 2))) (lt_Pawn hr (vp_lt h_1)) (ko_Pawn (vp_lt h_1)) (T := TX4) (N := 6) rfl in_X4 tyX4 tyX4_ok nmX4 5 (by decide) kF_X6_77 rfl rfl rfl rfl (Nat.le_of_ble_eq_true rfl) rfl dX6_addPawn_52 55 rfl ?_
    refine w_letm hF (fun m_7 hF => ?_)
    refine w_aload_n X 1 dX6_addPawn_55 rfl rfl 56 rfl ?_
    refine w_dup X dX6_addPawn_56 rfl 57 rfl ?_
    refine w_getV (v := .int (rd m_7 (pRace r) 2)) X (pRace r) (lt_Race hr) ko_Race (T := TX6) (N := 8) rfl in_X6 2 (by decide) kF_X6_36 rfl rfl dX6_addPawn_57 60 rfl ?_
    refine w_iconst X 1 dX6_addPawn_60 rfl 61 rfl ?_
    refine w_iadd X dX6_addPawn_61 62 rfl ?_
    refine w_putI X (pRace r) (lt_Race hr) ko_Race (T := TX6) (N := 8) rfl in_X6 tyX6 tyX6_ok nmX6 2 (by decide) kF_X6_36 rfl rfl rfl rfl (Nat.le_of_ble_eq_true rfl) rfl dX6_addPawn_62 65 rfl ?_
    refine w_letm hF (fun m_8 hF => ?_)
    exact w_vret X hQ (o_inj hF) dX6_addPawn_65
  · exact w_vret X hQ (o_inj hF) dX6_addPawn_65

def K_X7_readWallsOfPawn_54 (fu : Nat) (x1 : Int32) (x2 : Int32) (mem : Mem) : Option (Int32 × Mem) := bd (K_X9_isSign fu 59 mem) (fun x_7 => (if x_7 = 0 then bd (K_X9_fail fu 1 mem) (fun p_8 => gb p_8.1 (some (p_8.1, p_8.2))) else bd (K_X6_addPawn fu 1 (rd mem 7 8) x1 x2 mem) (fun m_10 => some (1, m_10))))
def K_X7_readWallsOfPawn (fu : Nat) (x1 : Int32) (mem : Mem) : Option (Int32 × Mem) := lt_ (rd mem 7 7) (fun x_1 => bd (K_X9_advance fu mem) (fun m_2 => bd (K_X9_isWord fu 1 m_2) (fun p_3 => (if p_3.1 = 0 then (K_X7_readWallsOfPawn_54 fu x1 x_1 p_3.2) else bd (K_X9_needNumber fu 0 20 p_3.2) (fun p_4 => (if p_4.1 = 0 then some (0, p_4.2) else lt_ (rd p_4.2 2 10) (fun x_5 => bd (K_X9_advance fu p_4.2) (fun m_6 => (K_X7_readWallsOfPawn_54 fu x1 x_5 m_6)))))))))
def rm_X7_readWallsOfPawn : Room := { frames := 6, cells := 0, slots := 0, locals := 129 }
set_option maxHeartbeats 4000000 in
set_option maxRecDepth 100000 in
theorem ct_X7_readWallsOfPawn (l : Launch) {D : va_G} {ca ad : Nat → Nat} {Z : (Nat → Prop) → State → Heap → Prop} (hZ : ZOK Z) {tO : Nat} {sK sV : Nat → Nat} (hO : ZO Z tO sK sV) (fu : Nat) (x1 : Int32) (mem : Mem) (res : (Int32 × Mem)) (hF : K_X7_readWallsOfPawn fu x1 mem = some res) : CI l D (tyL ca) 255 ad (cC ca ad) Z yX7_readWallsOfPawn cX7_readWallsOfPawn 3 .boolean rm_X7_readWallsOfPawn [.ref (ad 7), .int x1] mem res.1 res.2 := by
  refine start_i (own := RX7) rfl (by decide) (Nat.le_of_ble_eq_true rfl) ?_
  intro p e s m args below meth c Q hQ X
  rw [K_X7_readWallsOfPawn] at hF
  revert hF
  have w_54 : ∀ (x1 : Int32) (x2 : Int32) (mem : Mem), K_X7_readWallsOfPawn_54 fu x1 x2 mem = some res → WW D 255 ad (cC ca ad) p l e rm_X7_readWallsOfPawn s m args below meth c 3 0 0 Q mem 54 [(0, .ref (ad 7)), (1, .int x1), (2, .int x2)] [] := by
    intro x1 x2 mem hF
    rw [K_X7_readWallsOfPawn_54] at hF
    refine w_aload_n X 0 dX7_readWallsOfPawn_54 rfl rfl 55 rfl ?_
    refine w_getV (v := .ref (ad 2)) X 7 plt_7 ko_7 (T := TX7) (N := 9) rfl in_X7 0 (by decide) kF_X7_9 rfl rfl dX7_readWallsOfPawn_55 58 rfl ?_
    refine w_bipush X 59 dX7_readWallsOfPawn_58 rfl 60 rfl ?_
    refine w_callVi (fun x => x) (fun _ => mem) X hZ hF [.int 59] 2 plt_2 ko_2 rfl rfl rfl kB_X9_isSign kL_X7_153 (fun res h => ct_X9_isSign l hZ hO fu 59 mem res h) rfl rfl rfl ⟨Nat.le_of_ble_eq_true rfl, Nat.le_of_ble_eq_true rfl⟩ (Nat.le_of_ble_eq_true rfl) ⟨Nat.zero_le _, Nat.zero_le _⟩ dX7_readWallsOfPawn_60 63 rfl (fun x_7 hF => ?_)
    refine w_if_ne X hF 75 66 dX7_readWallsOfPawn_63 (by decide) rfl (fun hF => ?_) (fun hF => ?_)
    · refine w_aload_n X 0 dX7_readWallsOfPawn_66 rfl rfl 67 rfl ?_
      refine w_getV (v := .ref (ad 2)) X 7 plt_7 ko_7 (T := TX7) (N := 9) rfl in_X7 0 (by decide) kF_X7_9 rfl rfl dX7_readWallsOfPawn_67 70 rfl ?_
      refine w_iconst X 1 dX7_readWallsOfPawn_70 rfl 71 rfl ?_
      refine w_callVi (fun x => x.1) (fun x => x.2) X hZ hF [.int 1] 2 plt_2 ko_2 rfl rfl rfl kB_X9_fail kL_X7_90 (fun res h => ct_X9_fail l hZ hO fu 1 mem res h) rfl rfl rfl ⟨Nat.le_of_ble_eq_true rfl, Nat.le_of_ble_eq_true rfl⟩ (Nat.le_of_ble_eq_true rfl) ⟨Nat.zero_le _, Nat.zero_le _⟩ dX7_readWallsOfPawn_71 74 rfl (fun p_8 hF => ?_)
      refine w_gb hF (fun h_9 hF => ?_)
      exact w_iret X hQ (o_inj1 hF) (o_inj2 hF) (bool_nar h_9) dX7_readWallsOfPawn_74
    · refine w_aload_n X 0 dX7_readWallsOfPawn_75 rfl rfl 76 rfl ?_
      refine w_getV (v := .ref (ad (pRace 1))) X 7 plt_7 ko_7 (T := TX7) (N := 9) rfl in_X7 1 (by decide) kF_X7_15 rfl rfl dX7_readWallsOfPawn_76 79 rfl ?_
      refine w_aload_n X 0 dX7_readWallsOfPawn_79 rfl rfl 80 rfl ?_
      refine w_getV (v := .int (rd mem 7 8)) X 7 plt_7 ko_7 (T := TX7) (N := 9) rfl in_X7 8 (by decide) kF_X7_130 rfl rfl dX7_readWallsOfPawn_80 83 rfl ?_
      refine w_iload_n X 1 dX7_readWallsOfPawn_83 rfl rfl 84 rfl ?_
      refine w_iload_n X 2 dX7_readWallsOfPawn_84 rfl rfl 85 rfl ?_
      refine w_callVv (fun m => m) X hZ hF [.int (rd mem 7 8), .int x1, .int x2] (pRace 1) (lt_Race (by decide)) ko_Race rfl rfl rfl kB_X6_addPawn kL_X7_156 (fun res h => ct_X6_addPawn l hZ hO fu (by decide) (rd mem 7 8) x1 x2 mem res h) rfl rfl rfl ⟨Nat.le_of_ble_eq_true rfl, Nat.le_of_ble_eq_true rfl⟩ (Nat.le_of_ble_eq_true rfl) ⟨Nat.zero_le _, Nat.zero_le _⟩ dX7_readWallsOfPawn_85 88 rfl (fun m_10 hF => ?_)
      refine w_iconst X 1 dX7_readWallsOfPawn_88 rfl 89 rfl ?_
      exact w_iret X hQ (o_inj1 hF) (o_inj2 hF) rfl dX7_readWallsOfPawn_89
  intro hF
  refine w_aload_n X 0 dX7_readWallsOfPawn_0 rfl rfl 1 rfl ?_
  refine w_getV (v := .int (rd mem 7 7)) X 7 plt_7 ko_7 (T := TX7) (N := 9) rfl in_X7 7 (by decide) kF_X7_42 rfl rfl dX7_readWallsOfPawn_1 4 rfl ?_
  refine w_let hF (fun x_1 hF => ?_)
  refine w_istore_n X [(2, .int x_1), (0, .ref (ad 7)), (1, .int x1)] dX7_readWallsOfPawn_4 rfl (by decide) rfl 5 rfl ?_
  refine w_aload_n X 1 dX7_readWallsOfPawn_5 rfl rfl 6 rfl ?_
  refine w_getV (v := .ref (ad 2)) X 7 plt_7 ko_7 (T := TX7) (N := 9) rfl in_X7 0 (by decide) kF_X7_9 rfl rfl dX7_readWallsOfPawn_6 9 rfl ?_
  refine w_callVv (fun m => m) X hZ hF [] 2 plt_2 ko_2 rfl rfl rfl kB_X9_advance kL_X7_51 (fun res h => ct_X9_advance l hZ hO fu mem res h) rfl rfl rfl ⟨Nat.le_of_ble_eq_true rfl, Nat.le_of_ble_eq_true rfl⟩ (Nat.le_of_ble_eq_true rfl) ⟨Nat.zero_le _, Nat.zero_le _⟩ dX7_readWallsOfPawn_9 12 rfl (fun m_2 hF => ?_)
  refine w_aload_n X 1 dX7_readWallsOfPawn_12 rfl rfl 13 rfl ?_
  refine w_getV (v := .ref (ad 2)) X 7 plt_7 ko_7 (T := TX7) (N := 9) rfl in_X7 0 (by decide) kF_X7_9 rfl rfl dX7_readWallsOfPawn_13 16 rfl ?_
  refine w_ldcS X hO 1 rfl dX7_readWallsOfPawn_16 18 rfl ?_
  refine w_callVi (fun x => x.1) (fun x => x.2) X hZ hF [.ref (sK 1)] 2 plt_2 ko_2 rfl rfl rfl kB_X9_isWord kL_X7_63 (fun res h => ct_X9_isWord l hZ hO fu (by decide) m_2 res h) rfl rfl rfl ⟨Nat.le_of_ble_eq_true rfl, Nat.le_of_ble_eq_true rfl⟩ (Nat.le_of_ble_eq_true rfl) ⟨Nat.zero_le _, Nat.zero_le _⟩ dX7_readWallsOfPawn_18 21 rfl (fun p_3 hF => ?_)
  refine w_if_eq X hF 54 24 dX7_readWallsOfPawn_21 (by decide) rfl (fun hF => ?_) (fun hF => ?_)
  · refine w_keep [1, 2, 0] rfl ?_
    exact w_54 x1 x_1 p_3.2 hF
  · refine w_aload_n X 1 dX7_readWallsOfPawn_24 rfl rfl 25 rfl ?_
    refine w_getV (v := .ref (ad 2)) X 7 plt_7 ko_7 (T := TX7) (N := 9) rfl in_X7 0 (by decide) kF_X7_9 rfl rfl dX7_readWallsOfPawn_25 28 rfl ?_
    refine w_iconst X 0 dX7_readWallsOfPawn_28 rfl 29 rfl ?_
    refine w_bipush X 20 dX7_readWallsOfPawn_29 rfl 31 rfl ?_
    refine w_callVi (fun x => x.1) (fun x => x.2) X hZ hF [.int 0, .int 20] 2 plt_2 ko_2 rfl rfl rfl kB_X9_needNumber kL_X7_104 (fun res h => ct_X9_needNumber l hZ hO fu 0 20 p_3.2 res h) rfl rfl rfl ⟨Nat.le_of_ble_eq_true rfl, Nat.le_of_ble_eq_true rfl⟩ (Nat.le_of_ble_eq_true rfl) ⟨Nat.zero_le _, Nat.zero_le _⟩ dX7_readWallsOfPawn_31 34 rfl (fun p_4 hF => ?_)
    refine w_if_ne X hF 39 37 dX7_readWallsOfPawn_34 (by decide) rfl (fun hF => ?_) (fun hF => ?_)
    · refine w_iconst X 0 dX7_readWallsOfPawn_37 rfl 38 rfl ?_
      exact w_iret X hQ (o_inj1 hF) (o_inj2 hF) rfl dX7_readWallsOfPawn_38
    · refine w_aload_n X 1 dX7_readWallsOfPawn_39 rfl rfl 40 rfl ?_
      refine w_getV (v := .ref (ad 2)) X 7 plt_7 ko_7 (T := TX7) (N := 9) rfl in_X7 0 (by decide) kF_X7_9 rfl rfl dX7_readWallsOfPawn_40 43 rfl ?_
      refine w_getV (v := .int (rd p_4.2 2 10)) X 2 plt_2 ko_2 (T := TX9) (N := 13) rfl in_X9 10 (by decide) kF_X7_108 rfl rfl dX7_readWallsOfPawn_43 46 rfl ?_
      refine w_let hF (fun x_5 hF => ?_)
      refine w_istore_n X [(2, .int x_5), (0, .ref (ad 7)), (1, .int x1)] dX7_readWallsOfPawn_46 rfl (by decide) rfl 47 rfl ?_
      refine w_aload_n X 1 dX7_readWallsOfPawn_47 rfl rfl 48 rfl ?_
      refine w_getV (v := .ref (ad 2)) X 7 plt_7 ko_7 (T := TX7) (N := 9) rfl in_X7 0 (by decide) kF_X7_9 rfl rfl dX7_readWallsOfPawn_48 51 rfl ?_
      refine w_callVv (fun m => m) X hZ hF [] 2 plt_2 ko_2 rfl rfl rfl kB_X9_advance kL_X7_51 (fun res h => ct_X9_advance l hZ hO fu p_4.2 res h) rfl rfl rfl ⟨Nat.le_of_ble_eq_true rfl, Nat.le_of_ble_eq_true rfl⟩ (Nat.le_of_ble_eq_true rfl) ⟨Nat.zero_le _, Nat.zero_le _⟩ dX7_readWallsOfPawn_51 54 rfl (fun m_6 hF => ?_)
      refine w_keep [1, 2, 0] rfl ?_
      exact w_54 x1 x_5 m_6 hF

def K_X5_hasWay (fu : Nat) (r1 : Nat) (x2 : Int32) (mem : Mem) : Option (Int32 × Mem) := (if x2 < 0 then some (0, mem) else (if x2 < (rd mem (pRace r1) 2) then gi x2 4 (bd (K_X10_measure fu 0 r1 r1 (Int32.toNatClampNeg x2) mem) (fun p_2 => (if p_2.1 = (-1) then some (0, p_2.2) else some (1, p_2.2)))) else some (0, mem)))
def rm_X5_hasWay : Room := { frames := 3, cells := 0, slots := 0, locals := 77 }
set_option maxHeartbeats 4000000 in
set_option maxRecDepth 100000 in
theorem ct_X5_hasWay (l : Launch) {D : va_G} {ca ad : Nat → Nat} {Z : (Nat → Prop) → State → Heap → Prop} (hZ : ZOK Z) {tO : Nat} {sK sV : Nat → Nat} (hO : ZO Z tO sK sV) (fu : Nat) {r1 : Nat} (hr1 : r1 < 10) (x2 : Int32) (mem : Mem) (res : (Int32 × Mem)) (hF : K_X5_hasWay fu r1 x2 mem = some res) : CI l D (tyL ca) 255 ad (cC ca ad) Z yX5_hasWay cX5_hasWay 3 .boolean rm_X5_hasWay [.ref (ad 17), .ref (ad (pRace r1)), .int x2] mem res.1 res.2 := by
  refine start_i (own := RX5) rfl (by decide) (Nat.le_of_ble_eq_true rfl) ?_
  intro p e s m args below meth c Q hQ X
  rw [K_X5_hasWay] at hF
  revert hF
  intro hF
  refine w_iload_n X 2 dX5_hasWay_0 rfl rfl 1 rfl ?_
  refine w_if_lt X hF 37 4 dX5_hasWay_1 (by decide) rfl (fun hF => ?_) (fun hF => ?_)
  · refine w_iconst X 0 dX5_hasWay_37 rfl 38 rfl ?_
    exact w_iret X hQ (o_inj1 hF) (o_inj2 hF) rfl dX5_hasWay_38
  · refine w_iload_n X 2 dX5_hasWay_4 rfl rfl 5 rfl ?_
    refine w_aload_n X 1 dX5_hasWay_5 rfl rfl 6 rfl ?_
    refine w_getV (v := .int (rd mem (pRace r1) 2)) X (pRace r1) (lt_Race hr1) ko_Race (T := TX6) (N := 8) rfl in_X6 2 (by decide) kF_X5_25 rfl rfl dX5_hasWay_6 9 rfl ?_
    refine w_icmp_ge X hF 37 12 dX5_hasWay_9 (by decide) rfl (fun hF => ?_) (fun hF => ?_)
    · refine w_aload_n X 0 dX5_hasWay_12 rfl rfl 13 rfl ?_
      refine w_getV (v := .ref (ad (pWays 0))) X 17 plt_17 ko_17 (T := TX5) (N := 7) rfl in_X5 0 (by decide) kF_X5_12 rfl rfl dX5_hasWay_13 16 rfl ?_
      refine w_aload_n X 1 dX5_hasWay_16 rfl rfl 17 rfl ?_
      refine w_getV (v := .ref (ad (pBoard r1))) X (pRace r1) (lt_Race hr1) ko_Race (T := TX6) (N := 8) rfl in_X6 0 (by decide) kF_X5_31 rfl rfl dX5_hasWay_17 20 rfl ?_
      refine w_aload_n X 1 dX5_hasWay_20 rfl rfl 21 rfl ?_
      refine w_getV (v := .ref (ad (pPawns r1))) X (pRace r1) (lt_Race hr1) ko_Race (T := TX6) (N := 8) rfl in_X6 1 (by decide) kF_X5_35 rfl rfl dX5_hasWay_21 24 rfl ?_
      refine w_iload_n X 2 dX5_hasWay_24 rfl rfl 25 rfl ?_
      refine w_gi hF (fun h_1 hF => ?_)
      refine w_aal X (pPawns r1) (lt_Pawns hr1) (pPawn r1 (Int32.toNatClampNeg x2)) ko_Pawns (t0 := 2) rfl h_1 (el_Pawns (vp_lt h_1)) dX5_hasWay_25 26 rfl ?_
      refine w_callVi (fun x => x.1) (fun x => x.2) X hZ hF [.ref (ad (pBoard r1)), .ref (ad (pPawn r1 (Int32.toNatClampNeg x2)))] (pWays 0) (lt_Ways (by decide)) (ko_Ways (by decide)) rfl rfl rfl kB_X10_measure kL_X5_39 (fun res h => ct_X10_measure l hZ hO fu (by decide) hr1 hr1 (vp_lt h_1) mem res h) rfl rfl rfl ⟨Nat.le_of_ble_eq_true rfl, Nat.le_of_ble_eq_true rfl⟩ (Nat.le_of_ble_eq_true rfl) ⟨Nat.zero_le _, Nat.zero_le _⟩ dX5_hasWay_26 29 rfl (fun p_2 hF => ?_)
      refine w_iconst X (-1) dX5_hasWay_29 rfl 30 rfl ?_
      refine w_icmp_eq X hF 37 33 dX5_hasWay_30 (by decide) rfl (fun hF => ?_) (fun hF => ?_)
      · refine w_iconst X 0 dX5_hasWay_37 rfl 38 rfl ?_
        exact w_iret X hQ (o_inj1 hF) (o_inj2 hF) rfl dX5_hasWay_38
      · refine w_iconst X 1 dX5_hasWay_33 rfl 34 rfl ?_
        refine w_goto X 38 dX5_hasWay_34 (by decide) ?_
        exact w_iret X hQ (o_inj1 hF) (o_inj2 hF) rfl dX5_hasWay_38
    · refine w_iconst X 0 dX5_hasWay_37 rfl 38 rfl ?_
      exact w_iret X hQ (o_inj1 hF) (o_inj2 hF) rfl dX5_hasWay_38

def K_X7_readPawn_174 (fu : Nat) (mem : Mem) : Option (Int32 × Mem) := some (1, mem)
def K_X7_readPawn_17 (fu : Nat) (mem : Mem) : Option (Int32 × Mem) := bd (K_X9_fail fu 6 mem) (fun p_19 => gb p_19.1 (some (p_19.1, p_19.2)))
def K_X7_readPawn (fu : Nat) (mem : Mem) : Option (Int32 × Mem) := lt_ (rd mem (pRace 1) 2) (fun x_1 => (if x_1 < 0 then (K_X7_readPawn_17 fu mem) else (if x_1 < 4 then bd (K_X7_readName fu 0 mem) (fun p_2 => (if p_2.1 = 0 then some (0, p_2.2) else gi x_1 4 (lt_ (mw p_2.2 8 (Int32.toNatClampNeg x_1) (rd p_2.2 2 8)) (fun m_4 => gi x_1 4 (lt_ (mw m_4 9 (Int32.toNatClampNeg x_1) (rd m_4 2 9)) (fun m_6 => bd (K_X7_readCell fu m_6) (fun p_7 => (if p_7.1 = 0 then some (0, p_7.2) else bd (K_X6_pawnOn fu 1 (rd p_7.2 7 8) p_7.2) (fun x_8 => (if x_8 = (-1) then bd (K_X9_needSide fu p_7.2) (fun p_9 => lt_ p_9.1 (fun x_10 => (if x_10 = (-1) then some (0, p_9.2) else bd (K_X2_liesAt fu 1 (rd p_9.2 7 8) x_10 p_9.2) (fun x_11 => (if x_11 = 0 then bd (K_X7_readWallsOfPawn fu x_10 p_9.2) (fun p_12 => (if p_12.1 = 0 then some (0, p_12.2) else bd (K_X5_hasWay fu 1 x_1 p_12.2) (fun p_13 => (if p_13.1 = 0 then bd (K_X9_fail fu 5 p_13.2) (fun p_14 => (if p_14.1 = 0 then some (0, p_14.2) else (K_X7_readPawn_174 fu p_14.2))) else (K_X7_readPawn_174 fu p_13.2))))) else bd (K_X9_fail fu 4 p_9.2) (fun p_15 => gb p_15.1 (some (p_15.1, p_15.2)))))))) else bd (K_X9_fail fu 4 p_7.2) (fun p_17 => gb p_17.1 (some (p_17.1, p_17.2))))))))))))) else (K_X7_readPawn_17 fu mem))))
def rm_X7_readPawn : Room := { frames := 8, cells := 0, slots := 0, locals := 170 }
set_option maxHeartbeats 4000000 in
set_option maxRecDepth 100000 in
theorem ct_X7_readPawn (l : Launch) {D : va_G} {ca ad : Nat → Nat} {Z : (Nat → Prop) → State → Heap → Prop} (hZ : ZOK Z) {tO : Nat} {sK sV : Nat → Nat} (hO : ZO Z tO sK sV) (fu : Nat) (mem : Mem) (res : (Int32 × Mem)) (hF : K_X7_readPawn fu mem = some res) : CI l D (tyL ca) 255 ad (cC ca ad) Z yX7_readPawn cX7_readPawn 3 .boolean rm_X7_readPawn [.ref (ad 7)] mem res.1 res.2 := by
  refine start_i (own := RX7) rfl (by decide) (Nat.le_of_ble_eq_true rfl) ?_
  intro p e s m args below meth c Q hQ X
  rw [K_X7_readPawn] at hF
  revert hF
  have w_174 : ∀ (mem : Mem), K_X7_readPawn_174 fu mem = some res → WW D 255 ad (cC ca ad) p l e rm_X7_readPawn s m args below meth c 3 0 0 Q mem 174 [] [] := by
    intro mem hF
    rw [K_X7_readPawn_174] at hF
    refine w_iconst X 1 dX7_readPawn_174 rfl 175 rfl ?_
    refine w_goto X 179 dX7_readPawn_175 (by decide) ?_
    exact w_iret X hQ (o_inj1 hF) (o_inj2 hF) rfl dX7_readPawn_179
  have w_17 : ∀ (mem : Mem), K_X7_readPawn_17 fu mem = some res → WW D 255 ad (cC ca ad) p l e rm_X7_readPawn s m args below meth c 3 0 0 Q mem 17 [(0, .ref (ad 7))] [] := by
    intro mem hF
    rw [K_X7_readPawn_17] at hF
    refine w_aload_n X 0 dX7_readPawn_17 rfl rfl 18 rfl ?_
    refine w_getV (v := .ref (ad 2)) X 7 plt_7 ko_7 (T := TX7) (N := 9) rfl in_X7 0 (by decide) kF_X7_9 rfl rfl dX7_readPawn_18 21 rfl ?_
    refine w_bipush X 6 dX7_readPawn_21 rfl 23 rfl ?_
    refine w_callVi (fun x => x.1) (fun x => x.2) X hZ hF [.int 6] 2 plt_2 ko_2 rfl rfl rfl kB_X9_fail kL_X7_90 (fun res h => ct_X9_fail l hZ hO fu 6 mem res h) rfl rfl rfl ⟨Nat.le_of_ble_eq_true rfl, Nat.le_of_ble_eq_true rfl⟩ (Nat.le_of_ble_eq_true rfl) ⟨Nat.zero_le _, Nat.zero_le _⟩ dX7_readPawn_23 26 rfl (fun p_19 hF => ?_)
    refine w_gb hF (fun h_20 hF => ?_)
    exact w_iret X hQ (o_inj1 hF) (o_inj2 hF) (bool_nar h_20) dX7_readPawn_26
  intro hF
  refine w_aload_n X 0 dX7_readPawn_0 rfl rfl 1 rfl ?_
  refine w_getV (v := .ref (ad (pRace 1))) X 7 plt_7 ko_7 (T := TX7) (N := 9) rfl in_X7 1 (by decide) kF_X7_15 rfl rfl dX7_readPawn_1 4 rfl ?_
  refine w_getV (v := .int (rd mem (pRace 1) 2)) X (pRace 1) (lt_Race (by decide)) ko_Race (T := TX6) (N := 8) rfl in_X6 2 (by decide) kF_X7_94 rfl rfl dX7_readPawn_4 7 rfl ?_
  refine w_let hF (fun x_1 hF => ?_)
  refine w_istore_n X [(1, .int x_1), (0, .ref (ad 7))] dX7_readPawn_7 rfl (by decide) rfl 8 rfl ?_
  refine w_iload_n X 0 dX7_readPawn_8 rfl rfl 9 rfl ?_
  refine w_if_lt X hF 17 12 dX7_readPawn_9 (by decide) rfl (fun hF => ?_) (fun hF => ?_)
  · refine w_keep [1] rfl ?_
    exact w_17 mem hF
  · refine w_iload_n X 0 dX7_readPawn_12 rfl rfl 13 rfl ?_
    refine w_iconst X 4 dX7_readPawn_13 rfl 14 rfl ?_
    refine w_icmp_lt X hF 27 17 dX7_readPawn_14 (by decide) rfl (fun hF => ?_) (fun hF => ?_)
    · refine w_aload_n X 1 dX7_readPawn_27 rfl rfl 28 rfl ?_
      refine w_iconst X 0 dX7_readPawn_28 rfl 29 rfl ?_
      refine w_callVi (fun x => x.1) (fun x => x.2) X hZ hF [.int 0] 7 plt_7 ko_7 rfl rfl rfl kB_X7_readName kL_X7_117 (fun res h => ct_X7_readName l hZ hO fu 0 mem res h) rfl rfl rfl ⟨Nat.le_of_ble_eq_true rfl, Nat.le_of_ble_eq_true rfl⟩ (Nat.le_of_ble_eq_true rfl) ⟨Nat.zero_le _, Nat.zero_le _⟩ dX7_readPawn_29 32 rfl (fun p_2 hF => ?_)
      refine w_if_ne X hF 37 35 dX7_readPawn_32 (by decide) rfl (fun hF => ?_) (fun hF => ?_)
      · refine w_iconst X 0 dX7_readPawn_35 rfl 36 rfl ?_
        exact w_iret X hQ (o_inj1 hF) (o_inj2 hF) rfl dX7_readPawn_36
      · refine w_aload_n X 1 dX7_readPawn_37 rfl rfl 38 rfl ?_
        refine w_getV (v := .ref (ad 8)) X 7 plt_7 ko_7 (T := TX7) (N := 9) rfl in_X7 3 (by decide) kF_X7_23 rfl rfl dX7_readPawn_38 41 rfl ?_
        refine w_iload_n X 0 dX7_readPawn_41 rfl rfl 42 rfl ?_
        refine w_aload_n X 1 dX7_readPawn_42 rfl rfl 43 rfl ?_
        refine w_getV (v := .ref (ad 2)) X 7 plt_7 ko_7 (T := TX7) (N := 9) rfl in_X7 0 (by decide) kF_X7_9 rfl rfl dX7_readPawn_43 46 rfl ?_
        refine w_getV (v := .int (rd p_2.2 2 8)) X 2 plt_2 ko_2 (T := TX9) (N := 13) rfl in_X9 8 (by decide) kF_X7_121 rfl rfl dX7_readPawn_46 49 rfl ?_
        refine w_gi hF (fun h_3 hF => ?_)
        refine w_ias X 8 plt_8 ko_8 (t0 := 0) rfl h_3 dX7_readPawn_49 50 rfl ?_
        refine w_letm hF (fun m_4 hF => ?_)
        refine w_aload_n X 1 dX7_readPawn_50 rfl rfl 51 rfl ?_
        refine w_getV (v := .ref (ad 9)) X 7 plt_7 ko_7 (T := TX7) (N := 9) rfl in_X7 4 (by decide) kF_X7_27 rfl rfl dX7_readPawn_51 54 rfl ?_
        refine w_iload_n X 0 dX7_readPawn_54 rfl rfl 55 rfl ?_
        refine w_aload_n X 1 dX7_readPawn_55 rfl rfl 56 rfl ?_
        refine w_getV (v := .ref (ad 2)) X 7 plt_7 ko_7 (T := TX7) (N := 9) rfl in_X7 0 (by decide) kF_X7_9 rfl rfl dX7_readPawn_56 59 rfl ?_
        refine w_getV (v := .int (rd m_4 2 9)) X 2 plt_2 ko_2 (T := TX9) (N := 13) rfl in_X9 9 (by decide) kF_X7_124 rfl rfl dX7_readPawn_59 62 rfl ?_
        refine w_gi hF (fun h_5 hF => ?_)
        refine w_ias X 9 plt_9 ko_9 (t0 := 0) rfl h_5 dX7_readPawn_62 63 rfl ?_
        refine w_letm hF (fun m_6 hF => ?_)
        refine w_aload_n X 1 dX7_readPawn_63 rfl rfl 64 rfl ?_
        refine w_callVi (fun x => x.1) (fun x => x.2) X hZ hF [] 7 plt_7 ko_7 rfl rfl rfl kB_X7_readCell kL_X7_127 (fun res h => ct_X7_readCell l hZ hO fu m_6 res h) rfl rfl rfl ⟨Nat.le_of_ble_eq_true rfl, Nat.le_of_ble_eq_true rfl⟩ (Nat.le_of_ble_eq_true rfl) ⟨Nat.zero_le _, Nat.zero_le _⟩ dX7_readPawn_64 67 rfl (fun p_7 hF => ?_)
        refine w_if_ne X hF 72 70 dX7_readPawn_67 (by decide) rfl (fun hF => ?_) (fun hF => ?_)
        · refine w_iconst X 0 dX7_readPawn_70 rfl 71 rfl ?_
          exact w_iret X hQ (o_inj1 hF) (o_inj2 hF) rfl dX7_readPawn_71
        · refine w_aload_n X 1 dX7_readPawn_72 rfl rfl 73 rfl ?_
          refine w_getV (v := .ref (ad (pRace 1))) X 7 plt_7 ko_7 (T := TX7) (N := 9) rfl in_X7 1 (by decide) kF_X7_15 rfl rfl dX7_readPawn_73 76 rfl ?_
          refine w_aload_n X 1 dX7_readPawn_76 rfl rfl 77 rfl ?_
          refine w_getV (v := .int (rd p_7.2 7 8)) X 7 plt_7 ko_7 (T := TX7) (N := 9) rfl in_X7 8 (by decide) kF_X7_130 rfl rfl dX7_readPawn_77 80 rfl ?_
          refine w_callVi (fun x => x) (fun _ => p_7.2) X hZ hF [.int (rd p_7.2 7 8)] (pRace 1) (lt_Race (by decide)) ko_Race rfl rfl rfl kB_X6_pawnOn kL_X7_133 (fun res h => ct_X6_pawnOn l hZ hO fu (by decide) (rd p_7.2 7 8) p_7.2 res h) rfl rfl rfl ⟨Nat.le_of_ble_eq_true rfl, Nat.le_of_ble_eq_true rfl⟩ (Nat.le_of_ble_eq_true rfl) ⟨Nat.zero_le _, Nat.zero_le _⟩ dX7_readPawn_80 83 rfl (fun x_8 hF => ?_)
          refine w_iconst X (-1) dX7_readPawn_83 rfl 84 rfl ?_
          refine w_icmp_eq X hF 96 87 dX7_readPawn_84 (by decide) rfl (fun hF => ?_) (fun hF => ?_)
          · refine w_aload_n X 1 dX7_readPawn_96 rfl rfl 97 rfl ?_
            refine w_getV (v := .ref (ad 2)) X 7 plt_7 ko_7 (T := TX7) (N := 9) rfl in_X7 0 (by decide) kF_X7_9 rfl rfl dX7_readPawn_97 100 rfl ?_
            refine w_callVi (fun x => x.1) (fun x => x.2) X hZ hF [] 2 plt_2 ko_2 rfl rfl rfl kB_X9_needSide kL_X7_137 (fun res h => ct_X9_needSide l hZ hO fu p_7.2 res h) rfl rfl rfl ⟨Nat.le_of_ble_eq_true rfl, Nat.le_of_ble_eq_true rfl⟩ (Nat.le_of_ble_eq_true rfl) ⟨Nat.zero_le _, Nat.zero_le _⟩ dX7_readPawn_100 103 rfl (fun p_9 hF => ?_)
            refine w_let hF (fun x_10 hF => ?_)
            refine w_istore_n X [(2, .int x_10), (1, .int x_1), (0, .ref (ad 7))] dX7_readPawn_103 rfl (by decide) rfl 104 rfl ?_
            refine w_iload_n X 0 dX7_readPawn_104 rfl rfl 105 rfl ?_
            refine w_iconst X (-1) dX7_readPawn_105 rfl 106 rfl ?_
            refine w_icmp_ne X hF 111 109 dX7_readPawn_106 (by decide) rfl (fun hF => ?_) (fun hF => ?_)
            · refine w_iconst X 0 dX7_readPawn_109 rfl 110 rfl ?_
              exact w_iret X hQ (o_inj1 hF) (o_inj2 hF) rfl dX7_readPawn_110
            · refine w_aload_n X 2 dX7_readPawn_111 rfl rfl 112 rfl ?_
              refine w_getV (v := .ref (ad (pRace 1))) X 7 plt_7 ko_7 (T := TX7) (N := 9) rfl in_X7 1 (by decide) kF_X7_15 rfl rfl dX7_readPawn_112 115 rfl ?_
              refine w_getV (v := .ref (ad (pBoard 1))) X (pRace 1) (lt_Race (by decide)) ko_Race (T := TX6) (N := 8) rfl in_X6 0 (by decide) kF_X7_97 rfl rfl dX7_readPawn_115 118 rfl ?_
              refine w_aload_n X 2 dX7_readPawn_118 rfl rfl 119 rfl ?_
              refine w_getV (v := .int (rd p_9.2 7 8)) X 7 plt_7 ko_7 (T := TX7) (N := 9) rfl in_X7 8 (by decide) kF_X7_130 rfl rfl dX7_readPawn_119 122 rfl ?_
              refine w_iload_n X 0 dX7_readPawn_122 rfl rfl 123 rfl ?_
              refine w_callVi (fun x => x) (fun _ => p_9.2) X hZ hF [.int (rd p_9.2 7 8), .int x_10] (pBoard 1) (lt_Board (by decide)) ko_Board rfl rfl rfl kB_X2_liesAt kL_X7_141 (fun res h => ct_X2_liesAt l hZ hO fu (by decide) (rd p_9.2 7 8) x_10 p_9.2 res h) rfl rfl rfl ⟨Nat.le_of_ble_eq_true rfl, Nat.le_of_ble_eq_true rfl⟩ (Nat.le_of_ble_eq_true rfl) ⟨Nat.zero_le _, Nat.zero_le _⟩ dX7_readPawn_123 126 rfl (fun x_11 hF => ?_)
              refine w_if_eq X hF 138 129 dX7_readPawn_126 (by decide) rfl (fun hF => ?_) (fun hF => ?_)
              · refine w_aload_n X 2 dX7_readPawn_138 rfl rfl 139 rfl ?_
                refine w_iload_n X 0 dX7_readPawn_139 rfl rfl 140 rfl ?_
                refine w_callVi (fun x => x.1) (fun x => x.2) X hZ hF [.int x_10] 7 plt_7 ko_7 rfl rfl rfl kB_X7_readWallsOfPawn kL_X7_144 (fun res h => ct_X7_readWallsOfPawn l hZ hO fu x_10 p_9.2 res h) rfl rfl rfl ⟨Nat.le_of_ble_eq_true rfl, Nat.le_of_ble_eq_true rfl⟩ (Nat.le_of_ble_eq_true rfl) ⟨Nat.zero_le _, Nat.zero_le _⟩ dX7_readPawn_140 143 rfl (fun p_12 hF => ?_)
                refine w_if_ne X hF 148 146 dX7_readPawn_143 (by decide) rfl (fun hF => ?_) (fun hF => ?_)
                · refine w_iconst X 0 dX7_readPawn_146 rfl 147 rfl ?_
                  exact w_iret X hQ (o_inj1 hF) (o_inj2 hF) rfl dX7_readPawn_147
                · refine w_aload_n X 2 dX7_readPawn_148 rfl rfl 149 rfl ?_
                  refine w_getV (v := .ref (ad 17)) X 7 plt_7 ko_7 (T := TX7) (N := 9) rfl in_X7 2 (by decide) kF_X7_19 rfl rfl dX7_readPawn_149 152 rfl ?_
                  refine w_aload_n X 2 dX7_readPawn_152 rfl rfl 153 rfl ?_
                  refine w_getV (v := .ref (ad (pRace 1))) X 7 plt_7 ko_7 (T := TX7) (N := 9) rfl in_X7 1 (by decide) kF_X7_15 rfl rfl dX7_readPawn_153 156 rfl ?_
                  refine w_iload_n X 1 dX7_readPawn_156 rfl rfl 157 rfl ?_
                  refine w_callVi (fun x => x.1) (fun x => x.2) X hZ hF [.ref (ad (pRace 1)), .int x_1] 17 plt_17 ko_17 rfl rfl rfl kB_X5_hasWay kL_X7_147 (fun res h => ct_X5_hasWay l hZ hO fu (by decide) x_1 p_12.2 res h) rfl rfl rfl ⟨Nat.le_of_ble_eq_true rfl, Nat.le_of_ble_eq_true rfl⟩ (Nat.le_of_ble_eq_true rfl) ⟨Nat.zero_le _, Nat.zero_le _⟩ dX7_readPawn_157 160 rfl (fun p_13 hF => ?_)
                  refine w_if_ne X hF 174 163 dX7_readPawn_160 (by decide) rfl (fun hF => ?_) (fun hF => ?_)
                  · refine w_aload_n X 2 dX7_readPawn_163 rfl rfl 164 rfl ?_
                    refine w_getV (v := .ref (ad 2)) X 7 plt_7 ko_7 (T := TX7) (N := 9) rfl in_X7 0 (by decide) kF_X7_9 rfl rfl dX7_readPawn_164 167 rfl ?_
                    refine w_iconst X 5 dX7_readPawn_167 rfl 168 rfl ?_
                    refine w_callVi (fun x => x.1) (fun x => x.2) X hZ hF [.int 5] 2 plt_2 ko_2 rfl rfl rfl kB_X9_fail kL_X7_90 (fun res h => ct_X9_fail l hZ hO fu 5 p_13.2 res h) rfl rfl rfl ⟨Nat.le_of_ble_eq_true rfl, Nat.le_of_ble_eq_true rfl⟩ (Nat.le_of_ble_eq_true rfl) ⟨Nat.zero_le _, Nat.zero_le _⟩ dX7_readPawn_168 171 rfl (fun p_14 hF => ?_)
                    refine w_if_eq X hF 178 174 dX7_readPawn_171 (by decide) rfl (fun hF => ?_) (fun hF => ?_)
                    · refine w_iconst X 0 dX7_readPawn_178 rfl 179 rfl ?_
                      exact w_iret X hQ (o_inj1 hF) (o_inj2 hF) rfl dX7_readPawn_179
                    · refine w_keep [] rfl ?_
                      exact w_174 p_14.2 hF
                  · refine w_keep [] rfl ?_
                    exact w_174 p_13.2 hF
              · refine w_aload_n X 2 dX7_readPawn_129 rfl rfl 130 rfl ?_
                refine w_getV (v := .ref (ad 2)) X 7 plt_7 ko_7 (T := TX7) (N := 9) rfl in_X7 0 (by decide) kF_X7_9 rfl rfl dX7_readPawn_130 133 rfl ?_
                refine w_iconst X 4 dX7_readPawn_133 rfl 134 rfl ?_
                refine w_callVi (fun x => x.1) (fun x => x.2) X hZ hF [.int 4] 2 plt_2 ko_2 rfl rfl rfl kB_X9_fail kL_X7_90 (fun res h => ct_X9_fail l hZ hO fu 4 p_9.2 res h) rfl rfl rfl ⟨Nat.le_of_ble_eq_true rfl, Nat.le_of_ble_eq_true rfl⟩ (Nat.le_of_ble_eq_true rfl) ⟨Nat.zero_le _, Nat.zero_le _⟩ dX7_readPawn_134 137 rfl (fun p_15 hF => ?_)
                refine w_gb hF (fun h_16 hF => ?_)
                exact w_iret X hQ (o_inj1 hF) (o_inj2 hF) (bool_nar h_16) dX7_readPawn_137
          · refine w_aload_n X 1 dX7_readPawn_87 rfl rfl 88 rfl ?_
            refine w_getV (v := .ref (ad 2)) X 7 plt_7 ko_7 (T := TX7) (N := 9) rfl in_X7 0 (by decide) kF_X7_9 rfl rfl dX7_readPawn_88 91 rfl ?_
            refine w_iconst X 4 dX7_readPawn_91 rfl 92 rfl ?_
            refine w_callVi (fun x => x.1) (fun x => x.2) X hZ hF [.int 4] 2 plt_2 ko_2 rfl rfl rfl kB_X9_fail kL_X7_90 (fun res h => ct_X9_fail l hZ hO fu 4 p_7.2 res h) rfl rfl rfl ⟨Nat.le_of_ble_eq_true rfl, Nat.le_of_ble_eq_true rfl⟩ (Nat.le_of_ble_eq_true rfl) ⟨Nat.zero_le _, Nat.zero_le _⟩ dX7_readPawn_92 95 rfl (fun p_17 hF => ?_)
            refine w_gb hF (fun h_18 hF => ?_)
            exact w_iret X hQ (o_inj1 hF) (o_inj2 hF) (bool_nar h_18) dX7_readPawn_95
    · refine w_keep [1] rfl ?_
      exact w_17 mem hF

def K_X7_readEvery (fu : Nat) (r1 : Nat) (i1 : Nat) (x2 : Int32) (mem : Mem) : Option (Int32 × Mem) := bd (K_X9_needNumber fu 2 5 mem) (fun p_1 => (if p_1.1 = 0 then some (0, p_1.2) else lt_ (rd p_1.2 2 10) (fun x_2 => bd (K_X9_advance fu p_1.2) (fun m_3 => bd (K_X9_isWord fu 11 m_3) (fun p_4 => (if p_4.1 = 0 then bd (K_X9_fail fu 1 p_4.2) (fun p_5 => gb p_5.1 (some (p_5.1, p_5.2))) else bd (K_X9_needNumber fu 0 (x_2 - 1) p_4.2) (fun p_7 => (if p_7.1 = 0 then some (0, p_7.2) else bd (K_X0_setEvery fu r1 i1 x2 x_2 (rd p_7.2 2 10) p_7.2) (fun m_8 => bd (K_X9_needSign fu 59 m_8) (fun p_9 => gb p_9.1 (some (p_9.1, p_9.2))))))))))))
def rm_X7_readEvery : Room := { frames := 6, cells := 0, slots := 0, locals := 129 }
set_option maxHeartbeats 4000000 in
set_option maxRecDepth 100000 in
theorem ct_X7_readEvery (l : Launch) {D : va_G} {ca ad : Nat → Nat} {Z : (Nat → Prop) → State → Heap → Prop} (hZ : ZOK Z) {tO : Nat} {sK sV : Nat → Nat} (hO : ZO Z tO sK sV) (fu : Nat) {r1 : Nat} (hr1 : r1 < 10) {i1 : Nat} (hi1 : i1 < 12) (x2 : Int32) (mem : Mem) (res : (Int32 × Mem)) (hF : K_X7_readEvery fu r1 i1 x2 mem = some res) : CI l D (tyL ca) 255 ad (cC ca ad) Z yX7_readEvery cX7_readEvery 4 .boolean rm_X7_readEvery [.ref (ad 7), .ref (ad (pBan r1 i1)), .int x2] mem res.1 res.2 := by
  refine start_i (own := RX7) rfl (by decide) (Nat.le_of_ble_eq_true rfl) ?_
  intro p e s m args below meth c Q hQ X
  rw [K_X7_readEvery] at hF
  revert hF
  intro hF
  refine w_aload_n X 0 dX7_readEvery_0 rfl rfl 1 rfl ?_
  refine w_getV (v := .ref (ad 2)) X 7 plt_7 ko_7 (T := TX7) (N := 9) rfl in_X7 0 (by decide) kF_X7_9 rfl rfl dX7_readEvery_1 4 rfl ?_
  refine w_iconst X 2 dX7_readEvery_4 rfl 5 rfl ?_
  refine w_iconst X 5 dX7_readEvery_5 rfl 6 rfl ?_
  refine w_callVi (fun x => x.1) (fun x => x.2) X hZ hF [.int 2, .int 5] 2 plt_2 ko_2 rfl rfl rfl kB_X9_needNumber kL_X7_104 (fun res h => ct_X9_needNumber l hZ hO fu 2 5 mem res h) rfl rfl rfl ⟨Nat.le_of_ble_eq_true rfl, Nat.le_of_ble_eq_true rfl⟩ (Nat.le_of_ble_eq_true rfl) ⟨Nat.zero_le _, Nat.zero_le _⟩ dX7_readEvery_6 9 rfl (fun p_1 hF => ?_)
  refine w_if_ne X hF 14 12 dX7_readEvery_9 (by decide) rfl (fun hF => ?_) (fun hF => ?_)
  · refine w_iconst X 0 dX7_readEvery_12 rfl 13 rfl ?_
    exact w_iret X hQ (o_inj1 hF) (o_inj2 hF) rfl dX7_readEvery_13
  · refine w_aload_n X 0 dX7_readEvery_14 rfl rfl 15 rfl ?_
    refine w_getV (v := .ref (ad 2)) X 7 plt_7 ko_7 (T := TX7) (N := 9) rfl in_X7 0 (by decide) kF_X7_9 rfl rfl dX7_readEvery_15 18 rfl ?_
    refine w_getV (v := .int (rd p_1.2 2 10)) X 2 plt_2 ko_2 (T := TX9) (N := 13) rfl in_X9 10 (by decide) kF_X7_108 rfl rfl dX7_readEvery_18 21 rfl ?_
    refine w_let hF (fun x_2 hF => ?_)
    refine w_istore_n X [(3, .int x_2), (0, .ref (ad 7)), (1, .ref (ad (pBan r1 i1))), (2, .int x2)] dX7_readEvery_21 rfl (by decide) rfl 22 rfl ?_
    refine w_aload_n X 1 dX7_readEvery_22 rfl rfl 23 rfl ?_
    refine w_getV (v := .ref (ad 2)) X 7 plt_7 ko_7 (T := TX7) (N := 9) rfl in_X7 0 (by decide) kF_X7_9 rfl rfl dX7_readEvery_23 26 rfl ?_
    refine w_callVv (fun m => m) X hZ hF [] 2 plt_2 ko_2 rfl rfl rfl kB_X9_advance kL_X7_51 (fun res h => ct_X9_advance l hZ hO fu p_1.2 res h) rfl rfl rfl ⟨Nat.le_of_ble_eq_true rfl, Nat.le_of_ble_eq_true rfl⟩ (Nat.le_of_ble_eq_true rfl) ⟨Nat.zero_le _, Nat.zero_le _⟩ dX7_readEvery_26 29 rfl (fun m_3 hF => ?_)
    refine w_aload_n X 1 dX7_readEvery_29 rfl rfl 30 rfl ?_
    refine w_getV (v := .ref (ad 2)) X 7 plt_7 ko_7 (T := TX7) (N := 9) rfl in_X7 0 (by decide) kF_X7_9 rfl rfl dX7_readEvery_30 33 rfl ?_
    refine w_ldcS X hO 11 rfl dX7_readEvery_33 35 rfl ?_
    refine w_callVi (fun x => x.1) (fun x => x.2) X hZ hF [.ref (sK 11)] 2 plt_2 ko_2 rfl rfl rfl kB_X9_isWord kL_X7_63 (fun res h => ct_X9_isWord l hZ hO fu (by decide) m_3 res h) rfl rfl rfl ⟨Nat.le_of_ble_eq_true rfl, Nat.le_of_ble_eq_true rfl⟩ (Nat.le_of_ble_eq_true rfl) ⟨Nat.zero_le _, Nat.zero_le _⟩ dX7_readEvery_35 38 rfl (fun p_4 hF => ?_)
    refine w_if_ne X hF 50 41 dX7_readEvery_38 (by decide) rfl (fun hF => ?_) (fun hF => ?_)
    · refine w_aload_n X 1 dX7_readEvery_41 rfl rfl 42 rfl ?_
      refine w_getV (v := .ref (ad 2)) X 7 plt_7 ko_7 (T := TX7) (N := 9) rfl in_X7 0 (by decide) kF_X7_9 rfl rfl dX7_readEvery_42 45 rfl ?_
      refine w_iconst X 1 dX7_readEvery_45 rfl 46 rfl ?_
      refine w_callVi (fun x => x.1) (fun x => x.2) X hZ hF [.int 1] 2 plt_2 ko_2 rfl rfl rfl kB_X9_fail kL_X7_90 (fun res h => ct_X9_fail l hZ hO fu 1 p_4.2 res h) rfl rfl rfl ⟨Nat.le_of_ble_eq_true rfl, Nat.le_of_ble_eq_true rfl⟩ (Nat.le_of_ble_eq_true rfl) ⟨Nat.zero_le _, Nat.zero_le _⟩ dX7_readEvery_46 49 rfl (fun p_5 hF => ?_)
      refine w_gb hF (fun h_6 hF => ?_)
      exact w_iret X hQ (o_inj1 hF) (o_inj2 hF) (bool_nar h_6) dX7_readEvery_49
    · refine w_aload_n X 1 dX7_readEvery_50 rfl rfl 51 rfl ?_
      refine w_getV (v := .ref (ad 2)) X 7 plt_7 ko_7 (T := TX7) (N := 9) rfl in_X7 0 (by decide) kF_X7_9 rfl rfl dX7_readEvery_51 54 rfl ?_
      refine w_iconst X 0 dX7_readEvery_54 rfl 55 rfl ?_
      refine w_iload_n X 0 dX7_readEvery_55 rfl rfl 56 rfl ?_
      refine w_iconst X 1 dX7_readEvery_56 rfl 57 rfl ?_
      refine w_isub X dX7_readEvery_57 58 rfl ?_
      refine w_callVi (fun x => x.1) (fun x => x.2) X hZ hF [.int 0, .int (x_2 - 1)] 2 plt_2 ko_2 rfl rfl rfl kB_X9_needNumber kL_X7_104 (fun res h => ct_X9_needNumber l hZ hO fu 0 (x_2 - 1) p_4.2 res h) rfl rfl rfl ⟨Nat.le_of_ble_eq_true rfl, Nat.le_of_ble_eq_true rfl⟩ (Nat.le_of_ble_eq_true rfl) ⟨Nat.zero_le _, Nat.zero_le _⟩ dX7_readEvery_58 61 rfl (fun p_7 hF => ?_)
      refine w_if_ne X hF 66 64 dX7_readEvery_61 (by decide) rfl (fun hF => ?_) (fun hF => ?_)
      · refine w_iconst X 0 dX7_readEvery_64 rfl 65 rfl ?_
        exact w_iret X hQ (o_inj1 hF) (o_inj2 hF) rfl dX7_readEvery_65
      · refine w_aload_n X 2 dX7_readEvery_66 rfl rfl 67 rfl ?_
        refine w_iload_n X 3 dX7_readEvery_67 rfl rfl 68 rfl ?_
        refine w_iload_n X 0 dX7_readEvery_68 rfl rfl 69 rfl ?_
        refine w_aload_n X 1 dX7_readEvery_69 rfl rfl 70 rfl ?_
        refine w_getV (v := .ref (ad 2)) X 7 plt_7 ko_7 (T := TX7) (N := 9) rfl in_X7 0 (by decide) kF_X7_9 rfl rfl dX7_readEvery_70 73 rfl ?_
        refine w_getV (v := .int (rd p_7.2 2 10)) X 2 plt_2 ko_2 (T := TX9) (N := 13) rfl in_X9 10 (by decide) kF_X7_108 rfl rfl dX7_readEvery_73 76 rfl ?_
        refine w_callVv (fun m => m) X hZ hF [.int x2, .int x_2, .int (rd p_7.2 2 10)] (pBan r1 i1) (lt_Ban hr1 hi1) (ko_Ban hi1) rfl rfl rfl kB_X0_setEvery kL_X7_204 (fun res h => ct_X0_setEvery l hZ hO fu hr1 hi1 x2 x_2 (rd p_7.2 2 10) p_7.2 res h) rfl rfl rfl ⟨Nat.le_of_ble_eq_true rfl, Nat.le_of_ble_eq_true rfl⟩ (Nat.le_of_ble_eq_true rfl) ⟨Nat.zero_le _, Nat.zero_le _⟩ dX7_readEvery_76 79 rfl (fun m_8 hF => ?_)
        refine w_aload_n X 1 dX7_readEvery_79 rfl rfl 80 rfl ?_
        refine w_getV (v := .ref (ad 2)) X 7 plt_7 ko_7 (T := TX7) (N := 9) rfl in_X7 0 (by decide) kF_X7_9 rfl rfl dX7_readEvery_80 83 rfl ?_
        refine w_bipush X 59 dX7_readEvery_83 rfl 85 rfl ?_
        refine w_callVi (fun x => x.1) (fun x => x.2) X hZ hF [.int 59] 2 plt_2 ko_2 rfl rfl rfl kB_X9_needSign kL_X7_114 (fun res h => ct_X9_needSign l hZ hO fu 59 m_8 res h) rfl rfl rfl ⟨Nat.le_of_ble_eq_true rfl, Nat.le_of_ble_eq_true rfl⟩ (Nat.le_of_ble_eq_true rfl) ⟨Nat.zero_le _, Nat.zero_le _⟩ dX7_readEvery_85 88 rfl (fun p_9 hF => ?_)
        refine w_gb hF (fun h_10 hF => ?_)
        exact w_iret X hQ (o_inj1 hF) (o_inj2 hF) (bool_nar h_10) dX7_readEvery_88

def K_X7_readWithin (fu : Nat) (r1 : Nat) (i1 : Nat) (x2 : Int32) (mem : Mem) : Option (Int32 × Mem) := bd (K_X7_readCell fu mem) (fun p_1 => (if p_1.1 = 0 then some (0, p_1.2) else lt_ (rd p_1.2 7 8) (fun x_2 => bd (K_X9_advance fu p_1.2) (fun m_3 => bd (K_X9_isWord fu 13 m_3) (fun p_4 => (if p_4.1 = 0 then bd (K_X9_fail fu 1 p_4.2) (fun p_5 => gb p_5.1 (some (p_5.1, p_5.2))) else bd (K_X7_readCell fu p_4.2) (fun p_7 => (if p_7.1 = 0 then some (0, p_7.2) else bd (K_X0_setWithin fu r1 i1 x2 x_2 (rd p_7.2 7 8) p_7.2) (fun m_8 => bd (K_X9_needSign fu 59 m_8) (fun p_9 => gb p_9.1 (some (p_9.1, p_9.2))))))))))))
def rm_X7_readWithin : Room := { frames := 6, cells := 0, slots := 0, locals := 129 }
set_option maxHeartbeats 4000000 in
set_option maxRecDepth 100000 in
theorem ct_X7_readWithin (l : Launch) {D : va_G} {ca ad : Nat → Nat} {Z : (Nat → Prop) → State → Heap → Prop} (hZ : ZOK Z) {tO : Nat} {sK sV : Nat → Nat} (hO : ZO Z tO sK sV) (fu : Nat) {r1 : Nat} (hr1 : r1 < 10) {i1 : Nat} (hi1 : i1 < 12) (x2 : Int32) (mem : Mem) (res : (Int32 × Mem)) (hF : K_X7_readWithin fu r1 i1 x2 mem = some res) : CI l D (tyL ca) 255 ad (cC ca ad) Z yX7_readWithin cX7_readWithin 4 .boolean rm_X7_readWithin [.ref (ad 7), .ref (ad (pBan r1 i1)), .int x2] mem res.1 res.2 := by
  refine start_i (own := RX7) rfl (by decide) (Nat.le_of_ble_eq_true rfl) ?_
  intro p e s m args below meth c Q hQ X
  rw [K_X7_readWithin] at hF
  revert hF
  intro hF
  refine w_aload_n X 0 dX7_readWithin_0 rfl rfl 1 rfl ?_
  refine w_callVi (fun x => x.1) (fun x => x.2) X hZ hF [] 7 plt_7 ko_7 rfl rfl rfl kB_X7_readCell kL_X7_127 (fun res h => ct_X7_readCell l hZ hO fu mem res h) rfl rfl rfl ⟨Nat.le_of_ble_eq_true rfl, Nat.le_of_ble_eq_true rfl⟩ (Nat.le_of_ble_eq_true rfl) ⟨Nat.zero_le _, Nat.zero_le _⟩ dX7_readWithin_1 4 rfl (fun p_1 hF => ?_)
  refine w_if_ne X hF 9 7 dX7_readWithin_4 (by decide) rfl (fun hF => ?_) (fun hF => ?_)
  · refine w_iconst X 0 dX7_readWithin_7 rfl 8 rfl ?_
    exact w_iret X hQ (o_inj1 hF) (o_inj2 hF) rfl dX7_readWithin_8
  · refine w_aload_n X 0 dX7_readWithin_9 rfl rfl 10 rfl ?_
    refine w_getV (v := .int (rd p_1.2 7 8)) X 7 plt_7 ko_7 (T := TX7) (N := 9) rfl in_X7 8 (by decide) kF_X7_130 rfl rfl dX7_readWithin_10 13 rfl ?_
    refine w_let hF (fun x_2 hF => ?_)
    refine w_istore_n X [(3, .int x_2), (0, .ref (ad 7)), (1, .ref (ad (pBan r1 i1))), (2, .int x2)] dX7_readWithin_13 rfl (by decide) rfl 14 rfl ?_
    refine w_aload_n X 1 dX7_readWithin_14 rfl rfl 15 rfl ?_
    refine w_getV (v := .ref (ad 2)) X 7 plt_7 ko_7 (T := TX7) (N := 9) rfl in_X7 0 (by decide) kF_X7_9 rfl rfl dX7_readWithin_15 18 rfl ?_
    refine w_callVv (fun m => m) X hZ hF [] 2 plt_2 ko_2 rfl rfl rfl kB_X9_advance kL_X7_51 (fun res h => ct_X9_advance l hZ hO fu p_1.2 res h) rfl rfl rfl ⟨Nat.le_of_ble_eq_true rfl, Nat.le_of_ble_eq_true rfl⟩ (Nat.le_of_ble_eq_true rfl) ⟨Nat.zero_le _, Nat.zero_le _⟩ dX7_readWithin_18 21 rfl (fun m_3 hF => ?_)
    refine w_aload_n X 1 dX7_readWithin_21 rfl rfl 22 rfl ?_
    refine w_getV (v := .ref (ad 2)) X 7 plt_7 ko_7 (T := TX7) (N := 9) rfl in_X7 0 (by decide) kF_X7_9 rfl rfl dX7_readWithin_22 25 rfl ?_
    refine w_ldcS X hO 13 rfl dX7_readWithin_25 27 rfl ?_
    refine w_callVi (fun x => x.1) (fun x => x.2) X hZ hF [.ref (sK 13)] 2 plt_2 ko_2 rfl rfl rfl kB_X9_isWord kL_X7_63 (fun res h => ct_X9_isWord l hZ hO fu (by decide) m_3 res h) rfl rfl rfl ⟨Nat.le_of_ble_eq_true rfl, Nat.le_of_ble_eq_true rfl⟩ (Nat.le_of_ble_eq_true rfl) ⟨Nat.zero_le _, Nat.zero_le _⟩ dX7_readWithin_27 30 rfl (fun p_4 hF => ?_)
    refine w_if_ne X hF 42 33 dX7_readWithin_30 (by decide) rfl (fun hF => ?_) (fun hF => ?_)
    · refine w_aload_n X 1 dX7_readWithin_33 rfl rfl 34 rfl ?_
      refine w_getV (v := .ref (ad 2)) X 7 plt_7 ko_7 (T := TX7) (N := 9) rfl in_X7 0 (by decide) kF_X7_9 rfl rfl dX7_readWithin_34 37 rfl ?_
      refine w_iconst X 1 dX7_readWithin_37 rfl 38 rfl ?_
      refine w_callVi (fun x => x.1) (fun x => x.2) X hZ hF [.int 1] 2 plt_2 ko_2 rfl rfl rfl kB_X9_fail kL_X7_90 (fun res h => ct_X9_fail l hZ hO fu 1 p_4.2 res h) rfl rfl rfl ⟨Nat.le_of_ble_eq_true rfl, Nat.le_of_ble_eq_true rfl⟩ (Nat.le_of_ble_eq_true rfl) ⟨Nat.zero_le _, Nat.zero_le _⟩ dX7_readWithin_38 41 rfl (fun p_5 hF => ?_)
      refine w_gb hF (fun h_6 hF => ?_)
      exact w_iret X hQ (o_inj1 hF) (o_inj2 hF) (bool_nar h_6) dX7_readWithin_41
    · refine w_aload_n X 1 dX7_readWithin_42 rfl rfl 43 rfl ?_
      refine w_callVi (fun x => x.1) (fun x => x.2) X hZ hF [] 7 plt_7 ko_7 rfl rfl rfl kB_X7_readCell kL_X7_127 (fun res h => ct_X7_readCell l hZ hO fu p_4.2 res h) rfl rfl rfl ⟨Nat.le_of_ble_eq_true rfl, Nat.le_of_ble_eq_true rfl⟩ (Nat.le_of_ble_eq_true rfl) ⟨Nat.zero_le _, Nat.zero_le _⟩ dX7_readWithin_43 46 rfl (fun p_7 hF => ?_)
      refine w_if_ne X hF 51 49 dX7_readWithin_46 (by decide) rfl (fun hF => ?_) (fun hF => ?_)
      · refine w_iconst X 0 dX7_readWithin_49 rfl 50 rfl ?_
        exact w_iret X hQ (o_inj1 hF) (o_inj2 hF) rfl dX7_readWithin_50
      · refine w_aload_n X 2 dX7_readWithin_51 rfl rfl 52 rfl ?_
        refine w_iload_n X 3 dX7_readWithin_52 rfl rfl 53 rfl ?_
        refine w_iload_n X 0 dX7_readWithin_53 rfl rfl 54 rfl ?_
        refine w_aload_n X 1 dX7_readWithin_54 rfl rfl 55 rfl ?_
        refine w_getV (v := .int (rd p_7.2 7 8)) X 7 plt_7 ko_7 (T := TX7) (N := 9) rfl in_X7 8 (by decide) kF_X7_130 rfl rfl dX7_readWithin_55 58 rfl ?_
        refine w_callVv (fun m => m) X hZ hF [.int x2, .int x_2, .int (rd p_7.2 7 8)] (pBan r1 i1) (lt_Ban hr1 hi1) (ko_Ban hi1) rfl rfl rfl kB_X0_setWithin kL_X7_209 (fun res h => ct_X0_setWithin l hZ hO fu hr1 hi1 x2 x_2 (rd p_7.2 7 8) p_7.2 res h) rfl rfl rfl ⟨Nat.le_of_ble_eq_true rfl, Nat.le_of_ble_eq_true rfl⟩ (Nat.le_of_ble_eq_true rfl) ⟨Nat.zero_le _, Nat.zero_le _⟩ dX7_readWithin_58 61 rfl (fun m_8 hF => ?_)
        refine w_aload_n X 1 dX7_readWithin_61 rfl rfl 62 rfl ?_
        refine w_getV (v := .ref (ad 2)) X 7 plt_7 ko_7 (T := TX7) (N := 9) rfl in_X7 0 (by decide) kF_X7_9 rfl rfl dX7_readWithin_62 65 rfl ?_
        refine w_bipush X 59 dX7_readWithin_65 rfl 67 rfl ?_
        refine w_callVi (fun x => x.1) (fun x => x.2) X hZ hF [.int 59] 2 plt_2 ko_2 rfl rfl rfl kB_X9_needSign kL_X7_114 (fun res h => ct_X9_needSign l hZ hO fu 59 m_8 res h) rfl rfl rfl ⟨Nat.le_of_ble_eq_true rfl, Nat.le_of_ble_eq_true rfl⟩ (Nat.le_of_ble_eq_true rfl) ⟨Nat.zero_le _, Nat.zero_le _⟩ dX7_readWithin_67 70 rfl (fun p_9 hF => ?_)
        refine w_gb hF (fun h_10 hF => ?_)
        exact w_iret X hQ (o_inj1 hF) (o_inj2 hF) (bool_nar h_10) dX7_readWithin_70

def K_X7_readBan_22 (fu : Nat) (mem : Mem) : Option (Int32 × Mem) := bd (K_X9_fail fu 6 mem) (fun p_28 => gb p_28.1 (some (p_28.1, p_28.2)))
def K_X7_readBan (fu : Nat) (mem : Mem) : Option (Int32 × Mem) := (if (rd mem (pRace 1) 4) < 0 then (K_X7_readBan_22 fu mem) else (if (rd mem (pRace 1) 4) < 12 then bd (K_X7_readName fu 1 mem) (fun p_1 => (if p_1.1 = 0 then some (0, p_1.2) else gi (rd p_1.2 (pRace 1) 4) 12 (lt_ (mw p_1.2 (pRace 1) 4 ((rd p_1.2 (pRace 1) 4) + 1)) (fun m_3 => bd (K_X7_pawnNamed fu m_3) (fun x_4 => lt_ (mw m_3 (pBan 1 (Int32.toNatClampNeg (rd p_1.2 (pRace 1) 4))) 0 x_4) (fun m_5 => bd (K_X9_advance fu m_5) (fun m_6 => bd (K_X9_isWord fu 8 m_6) (fun p_7 => (if p_7.1 = 0 then bd (K_X9_isWord fu 9 p_7.2) (fun p_8 => (if p_8.1 = 0 then bd (K_X9_side fu p_8.2) (fun p_9 => lt_ p_9.1 (fun x_10 => (if x_10 = (-1) then bd (K_X9_fail fu 1 p_9.2) (fun p_11 => gb p_11.1 (some (p_11.1, p_11.2))) else bd (K_X9_advance fu p_9.2) (fun m_13 => bd (K_X9_isWord fu 10 m_13) (fun p_14 => (if p_14.1 = 0 then bd (K_X9_isWord fu 12 p_14.2) (fun p_15 => (if p_15.1 = 0 then bd (K_X9_fail fu 1 p_15.2) (fun p_16 => gb p_16.1 (some (p_16.1, p_16.2))) else bd (K_X7_readWithin fu 1 (Int32.toNatClampNeg (rd p_1.2 (pRace 1) 4)) x_10 p_15.2) (fun p_18 => gb p_18.1 (some (p_18.1, p_18.2))))) else bd (K_X7_readEvery fu 1 (Int32.toNatClampNeg (rd p_1.2 (pRace 1) 4)) x_10 p_14.2) (fun p_20 => gb p_20.1 (some (p_20.1, p_20.2))))))))) else lt_ (mw p_8.2 (pBan 1 (Int32.toNatClampNeg (rd p_1.2 (pRace 1) 4))) 1 1) (fun m_22 => bd (K_X9_needSign fu 59 m_22) (fun p_23 => gb p_23.1 (some (p_23.1, p_23.2)))))) else lt_ (mw p_7.2 (pBan 1 (Int32.toNatClampNeg (rd p_1.2 (pRace 1) 4))) 1 0) (fun m_25 => bd (K_X9_needSign fu 59 m_25) (fun p_26 => gb p_26.1 (some (p_26.1, p_26.2))))))))))))) else (K_X7_readBan_22 fu mem)))
def rm_X7_readBan : Room := { frames := 7, cells := 0, slots := 0, locals := 152 }
set_option maxHeartbeats 4000000 in
set_option maxRecDepth 100000 in
theorem ct_X7_readBan (l : Launch) {D : va_G} {ca ad : Nat → Nat} {Z : (Nat → Prop) → State → Heap → Prop} (hZ : ZOK Z) {tO : Nat} {sK sV : Nat → Nat} (hO : ZO Z tO sK sV) (fu : Nat) (mem : Mem) (res : (Int32 × Mem)) (hF : K_X7_readBan fu mem = some res) : CI l D (tyL ca) 255 ad (cC ca ad) Z yX7_readBan cX7_readBan 3 .boolean rm_X7_readBan [.ref (ad 7)] mem res.1 res.2 := by
  refine start_i (own := RX7) rfl (by decide) (Nat.le_of_ble_eq_true rfl) ?_
  intro p e s m args below meth c Q hQ X
  rw [K_X7_readBan] at hF
  revert hF
  have w_22 : ∀ (mem : Mem), K_X7_readBan_22 fu mem = some res → WW D 255 ad (cC ca ad) p l e rm_X7_readBan s m args below meth c 3 0 0 Q mem 22 [(0, .ref (ad 7))] [] := by
    intro mem hF
    rw [K_X7_readBan_22] at hF
    refine w_aload_n X 0 dX7_readBan_22 rfl rfl 23 rfl ?_
    refine w_getV (v := .ref (ad 2)) X 7 plt_7 ko_7 (T := TX7) (N := 9) rfl in_X7 0 (by decide) kF_X7_9 rfl rfl dX7_readBan_23 26 rfl ?_
    refine w_bipush X 6 dX7_readBan_26 rfl 28 rfl ?_
    refine w_callVi (fun x => x.1) (fun x => x.2) X hZ hF [.int 6] 2 plt_2 ko_2 rfl rfl rfl kB_X9_fail kL_X7_90 (fun res h => ct_X9_fail l hZ hO fu 6 mem res h) rfl rfl rfl ⟨Nat.le_of_ble_eq_true rfl, Nat.le_of_ble_eq_true rfl⟩ (Nat.le_of_ble_eq_true rfl) ⟨Nat.zero_le _, Nat.zero_le _⟩ dX7_readBan_28 31 rfl (fun p_28 hF => ?_)
    refine w_gb hF (fun h_29 hF => ?_)
    exact w_iret X hQ (o_inj1 hF) (o_inj2 hF) (bool_nar h_29) dX7_readBan_31
  intro hF
  refine w_aload_n X 0 dX7_readBan_0 rfl rfl 1 rfl ?_
  refine w_getV (v := .ref (ad (pRace 1))) X 7 plt_7 ko_7 (T := TX7) (N := 9) rfl in_X7 1 (by decide) kF_X7_15 rfl rfl dX7_readBan_1 4 rfl ?_
  refine w_getV (v := .int (rd mem (pRace 1) 4)) X (pRace 1) (lt_Race (by decide)) ko_Race (T := TX6) (N := 8) rfl in_X6 4 (by decide) kF_X7_172 rfl rfl dX7_readBan_4 7 rfl ?_
  refine w_if_lt X hF 22 10 dX7_readBan_7 (by decide) rfl (fun hF => ?_) (fun hF => ?_)
  · refine w_keep [0] rfl ?_
    exact w_22 mem hF
  · refine w_aload_n X 0 dX7_readBan_10 rfl rfl 11 rfl ?_
    refine w_getV (v := .ref (ad (pRace 1))) X 7 plt_7 ko_7 (T := TX7) (N := 9) rfl in_X7 1 (by decide) kF_X7_15 rfl rfl dX7_readBan_11 14 rfl ?_
    refine w_getV (v := .int (rd mem (pRace 1) 4)) X (pRace 1) (lt_Race (by decide)) ko_Race (T := TX6) (N := 8) rfl in_X6 4 (by decide) kF_X7_172 rfl rfl dX7_readBan_14 17 rfl ?_
    refine w_bipush X 12 dX7_readBan_17 rfl 19 rfl ?_
    refine w_icmp_lt X hF 32 22 dX7_readBan_19 (by decide) rfl (fun hF => ?_) (fun hF => ?_)
    · refine w_aload_n X 0 dX7_readBan_32 rfl rfl 33 rfl ?_
      refine w_iconst X 1 dX7_readBan_33 rfl 34 rfl ?_
      refine w_callVi (fun x => x.1) (fun x => x.2) X hZ hF [.int 1] 7 plt_7 ko_7 rfl rfl rfl kB_X7_readName kL_X7_117 (fun res h => ct_X7_readName l hZ hO fu 1 mem res h) rfl rfl rfl ⟨Nat.le_of_ble_eq_true rfl, Nat.le_of_ble_eq_true rfl⟩ (Nat.le_of_ble_eq_true rfl) ⟨Nat.zero_le _, Nat.zero_le _⟩ dX7_readBan_34 37 rfl (fun p_1 hF => ?_)
      refine w_if_ne X hF 42 40 dX7_readBan_37 (by decide) rfl (fun hF => ?_) (fun hF => ?_)
      · refine w_iconst X 0 dX7_readBan_40 rfl 41 rfl ?_
        exact w_iret X hQ (o_inj1 hF) (o_inj2 hF) rfl dX7_readBan_41
      · refine w_aload_n X 0 dX7_readBan_42 rfl rfl 43 rfl ?_
        refine w_getV (v := .ref (ad (pRace 1))) X 7 plt_7 ko_7 (T := TX7) (N := 9) rfl in_X7 1 (by decide) kF_X7_15 rfl rfl dX7_readBan_43 46 rfl ?_
        refine w_getV (v := .ref (ad (pBans 1))) X (pRace 1) (lt_Race (by decide)) ko_Race (T := TX6) (N := 8) rfl in_X6 3 (by decide) kF_X7_175 rfl rfl dX7_readBan_46 49 rfl ?_
        refine w_aload_n X 0 dX7_readBan_49 rfl rfl 50 rfl ?_
        refine w_getV (v := .ref (ad (pRace 1))) X 7 plt_7 ko_7 (T := TX7) (N := 9) rfl in_X7 1 (by decide) kF_X7_15 rfl rfl dX7_readBan_50 53 rfl ?_
        refine w_getV (v := .int (rd p_1.2 (pRace 1) 4)) X (pRace 1) (lt_Race (by decide)) ko_Race (T := TX6) (N := 8) rfl in_X6 4 (by decide) kF_X7_172 rfl rfl dX7_readBan_53 56 rfl ?_
        refine w_gi hF (fun h_2 hF => ?_)
        refine w_aal X (pBans 1) (lt_Bans (by decide)) (pBan 1 (Int32.toNatClampNeg (rd p_1.2 (pRace 1) 4))) ko_Bans (t0 := 3) rfl h_2 (el_Bans (vp_lt h_2)) dX7_readBan_56 57 rfl ?_
        refine w_astore_n X [(1, .ref (ad (pBan 1 (Int32.toNatClampNeg (rd p_1.2 (pRace 1) 4))))), (0, .ref (ad 7))] dX7_readBan_57 rfl (by decide) rfl 58 rfl ?_
        refine w_aload_n X 1 dX7_readBan_58 rfl rfl 59 rfl ?_
        refine w_getV (v := .ref (ad (pRace 1))) X 7 plt_7 ko_7 (T := TX7) (N := 9) rfl in_X7 1 (by decide) kF_X7_15 rfl rfl dX7_readBan_59 62 rfl ?_
        refine w_dup X dX7_readBan_62 rfl 63 rfl ?_
        refine w_getV (v := .int (rd p_1.2 (pRace 1) 4)) X (pRace 1) (lt_Race (by decide)) ko_Race (T := TX6) (N := 8) rfl in_X6 4 (by decide) kF_X7_172 rfl rfl dX7_readBan_63 66 rfl ?_
        refine w_iconst X 1 dX7_readBan_66 rfl 67 rfl ?_
        refine w_iadd X dX7_readBan_67 68 rfl ?_
        refine w_putI X (pRace 1) (lt_Race (by decide)) ko_Race (T := TX6) (N := 8) rfl in_X6 tyX6 tyX6_ok nmX6 4 (by decide) kF_X7_172 rfl rfl rfl rfl (Nat.le_of_ble_eq_true rfl) rfl dX7_readBan_68 71 rfl ?_
        refine w_letm hF (fun m_3 hF => ?_)
        refine w_aload_n X 0 dX7_readBan_71 rfl rfl 72 rfl ?_
        refine w_aload_n X 1 dX7_readBan_72 rfl rfl 73 rfl ?_
        refine w_callVi (fun x => x) (fun _ => m_3) X hZ hF [] 7 plt_7 ko_7 rfl rfl rfl kB_X7_pawnNamed kL_X7_160 (fun res h => ct_X7_pawnNamed l hZ hO fu m_3 res h) rfl rfl rfl ⟨Nat.le_of_ble_eq_true rfl, Nat.le_of_ble_eq_true rfl⟩ (Nat.le_of_ble_eq_true rfl) ⟨Nat.zero_le _, Nat.zero_le _⟩ dX7_readBan_73 76 rfl (fun x_4 hF => ?_)
        refine w_putI X (pBan 1 (Int32.toNatClampNeg (rd p_1.2 (pRace 1) 4))) (lt_Ban (by decide) (vp_lt h_2)) (ko_Ban (vp_lt h_2)) (T := TX0) (N := 9) rfl in_X0 tyX0 tyX0_ok nmX0 0 (by decide) kF_X7_179 rfl rfl rfl rfl (Nat.le_of_ble_eq_true rfl) rfl dX7_readBan_76 79 rfl ?_
        refine w_letm hF (fun m_5 hF => ?_)
        refine w_aload_n X 1 dX7_readBan_79 rfl rfl 80 rfl ?_
        refine w_getV (v := .ref (ad 2)) X 7 plt_7 ko_7 (T := TX7) (N := 9) rfl in_X7 0 (by decide) kF_X7_9 rfl rfl dX7_readBan_80 83 rfl ?_
        refine w_callVv (fun m => m) X hZ hF [] 2 plt_2 ko_2 rfl rfl rfl kB_X9_advance kL_X7_51 (fun res h => ct_X9_advance l hZ hO fu m_5 res h) rfl rfl rfl ⟨Nat.le_of_ble_eq_true rfl, Nat.le_of_ble_eq_true rfl⟩ (Nat.le_of_ble_eq_true rfl) ⟨Nat.zero_le _, Nat.zero_le _⟩ dX7_readBan_83 86 rfl (fun m_6 hF => ?_)
        refine w_aload_n X 1 dX7_readBan_86 rfl rfl 87 rfl ?_
        refine w_getV (v := .ref (ad 2)) X 7 plt_7 ko_7 (T := TX7) (N := 9) rfl in_X7 0 (by decide) kF_X7_9 rfl rfl dX7_readBan_87 90 rfl ?_
        refine w_ldcS X hO 8 rfl dX7_readBan_90 92 rfl ?_
        refine w_callVi (fun x => x.1) (fun x => x.2) X hZ hF [.ref (sK 8)] 2 plt_2 ko_2 rfl rfl rfl kB_X9_isWord kL_X7_63 (fun res h => ct_X9_isWord l hZ hO fu (by decide) m_6 res h) rfl rfl rfl ⟨Nat.le_of_ble_eq_true rfl, Nat.le_of_ble_eq_true rfl⟩ (Nat.le_of_ble_eq_true rfl) ⟨Nat.zero_le _, Nat.zero_le _⟩ dX7_readBan_92 95 rfl (fun p_7 hF => ?_)
        refine w_if_eq X hF 113 98 dX7_readBan_95 (by decide) rfl (fun hF => ?_) (fun hF => ?_)
        · refine w_aload_n X 1 dX7_readBan_113 rfl rfl 114 rfl ?_
          refine w_getV (v := .ref (ad 2)) X 7 plt_7 ko_7 (T := TX7) (N := 9) rfl in_X7 0 (by decide) kF_X7_9 rfl rfl dX7_readBan_114 117 rfl ?_
          refine w_ldcS X hO 9 rfl dX7_readBan_117 119 rfl ?_
          refine w_callVi (fun x => x.1) (fun x => x.2) X hZ hF [.ref (sK 9)] 2 plt_2 ko_2 rfl rfl rfl kB_X9_isWord kL_X7_63 (fun res h => ct_X9_isWord l hZ hO fu (by decide) p_7.2 res h) rfl rfl rfl ⟨Nat.le_of_ble_eq_true rfl, Nat.le_of_ble_eq_true rfl⟩ (Nat.le_of_ble_eq_true rfl) ⟨Nat.zero_le _, Nat.zero_le _⟩ dX7_readBan_119 122 rfl (fun p_8 hF => ?_)
          refine w_if_eq X hF 140 125 dX7_readBan_122 (by decide) rfl (fun hF => ?_) (fun hF => ?_)
          · refine w_aload_n X 1 dX7_readBan_140 rfl rfl 141 rfl ?_
            refine w_getV (v := .ref (ad 2)) X 7 plt_7 ko_7 (T := TX7) (N := 9) rfl in_X7 0 (by decide) kF_X7_9 rfl rfl dX7_readBan_141 144 rfl ?_
            refine w_callVi (fun x => x.1) (fun x => x.2) X hZ hF [] 2 plt_2 ko_2 rfl rfl rfl kB_X9_side kL_X7_188 (fun res h => ct_X9_side l hZ hO fu p_8.2 res h) rfl rfl rfl ⟨Nat.le_of_ble_eq_true rfl, Nat.le_of_ble_eq_true rfl⟩ (Nat.le_of_ble_eq_true rfl) ⟨Nat.zero_le _, Nat.zero_le _⟩ dX7_readBan_144 147 rfl (fun p_9 hF => ?_)
            refine w_let hF (fun x_10 hF => ?_)
            refine w_istore_n X [(2, .int x_10), (1, .ref (ad (pBan 1 (Int32.toNatClampNeg (rd p_1.2 (pRace 1) 4))))), (0, .ref (ad 7))] dX7_readBan_147 rfl (by decide) rfl 148 rfl ?_
            refine w_iload_n X 0 dX7_readBan_148 rfl rfl 149 rfl ?_
            refine w_iconst X (-1) dX7_readBan_149 rfl 150 rfl ?_
            refine w_icmp_ne X hF 162 153 dX7_readBan_150 (by decide) rfl (fun hF => ?_) (fun hF => ?_)
            · refine w_aload_n X 2 dX7_readBan_153 rfl rfl 154 rfl ?_
              refine w_getV (v := .ref (ad 2)) X 7 plt_7 ko_7 (T := TX7) (N := 9) rfl in_X7 0 (by decide) kF_X7_9 rfl rfl dX7_readBan_154 157 rfl ?_
              refine w_iconst X 1 dX7_readBan_157 rfl 158 rfl ?_
              refine w_callVi (fun x => x.1) (fun x => x.2) X hZ hF [.int 1] 2 plt_2 ko_2 rfl rfl rfl kB_X9_fail kL_X7_90 (fun res h => ct_X9_fail l hZ hO fu 1 p_9.2 res h) rfl rfl rfl ⟨Nat.le_of_ble_eq_true rfl, Nat.le_of_ble_eq_true rfl⟩ (Nat.le_of_ble_eq_true rfl) ⟨Nat.zero_le _, Nat.zero_le _⟩ dX7_readBan_158 161 rfl (fun p_11 hF => ?_)
              refine w_gb hF (fun h_12 hF => ?_)
              exact w_iret X hQ (o_inj1 hF) (o_inj2 hF) (bool_nar h_12) dX7_readBan_161
            · refine w_aload_n X 2 dX7_readBan_162 rfl rfl 163 rfl ?_
              refine w_getV (v := .ref (ad 2)) X 7 plt_7 ko_7 (T := TX7) (N := 9) rfl in_X7 0 (by decide) kF_X7_9 rfl rfl dX7_readBan_163 166 rfl ?_
              refine w_callVv (fun m => m) X hZ hF [] 2 plt_2 ko_2 rfl rfl rfl kB_X9_advance kL_X7_51 (fun res h => ct_X9_advance l hZ hO fu p_9.2 res h) rfl rfl rfl ⟨Nat.le_of_ble_eq_true rfl, Nat.le_of_ble_eq_true rfl⟩ (Nat.le_of_ble_eq_true rfl) ⟨Nat.zero_le _, Nat.zero_le _⟩ dX7_readBan_166 169 rfl (fun m_13 hF => ?_)
              refine w_aload_n X 2 dX7_readBan_169 rfl rfl 170 rfl ?_
              refine w_getV (v := .ref (ad 2)) X 7 plt_7 ko_7 (T := TX7) (N := 9) rfl in_X7 0 (by decide) kF_X7_9 rfl rfl dX7_readBan_170 173 rfl ?_
              refine w_ldcS X hO 10 rfl dX7_readBan_173 175 rfl ?_
              refine w_callVi (fun x => x.1) (fun x => x.2) X hZ hF [.ref (sK 10)] 2 plt_2 ko_2 rfl rfl rfl kB_X9_isWord kL_X7_63 (fun res h => ct_X9_isWord l hZ hO fu (by decide) m_13 res h) rfl rfl rfl ⟨Nat.le_of_ble_eq_true rfl, Nat.le_of_ble_eq_true rfl⟩ (Nat.le_of_ble_eq_true rfl) ⟨Nat.zero_le _, Nat.zero_le _⟩ dX7_readBan_175 178 rfl (fun p_14 hF => ?_)
              refine w_if_eq X hF 188 181 dX7_readBan_178 (by decide) rfl (fun hF => ?_) (fun hF => ?_)
              · refine w_aload_n X 2 dX7_readBan_188 rfl rfl 189 rfl ?_
                refine w_getV (v := .ref (ad 2)) X 7 plt_7 ko_7 (T := TX7) (N := 9) rfl in_X7 0 (by decide) kF_X7_9 rfl rfl dX7_readBan_189 192 rfl ?_
                refine w_ldcS X hO 12 rfl dX7_readBan_192 194 rfl ?_
                refine w_callVi (fun x => x.1) (fun x => x.2) X hZ hF [.ref (sK 12)] 2 plt_2 ko_2 rfl rfl rfl kB_X9_isWord kL_X7_63 (fun res h => ct_X9_isWord l hZ hO fu (by decide) p_14.2 res h) rfl rfl rfl ⟨Nat.le_of_ble_eq_true rfl, Nat.le_of_ble_eq_true rfl⟩ (Nat.le_of_ble_eq_true rfl) ⟨Nat.zero_le _, Nat.zero_le _⟩ dX7_readBan_194 197 rfl (fun p_15 hF => ?_)
                refine w_if_eq X hF 209 200 dX7_readBan_197 (by decide) rfl (fun hF => ?_) (fun hF => ?_)
                · refine w_aload_n X 2 dX7_readBan_209 rfl rfl 210 rfl ?_
                  refine w_getV (v := .ref (ad 2)) X 7 plt_7 ko_7 (T := TX7) (N := 9) rfl in_X7 0 (by decide) kF_X7_9 rfl rfl dX7_readBan_210 213 rfl ?_
                  refine w_iconst X 1 dX7_readBan_213 rfl 214 rfl ?_
                  refine w_callVi (fun x => x.1) (fun x => x.2) X hZ hF [.int 1] 2 plt_2 ko_2 rfl rfl rfl kB_X9_fail kL_X7_90 (fun res h => ct_X9_fail l hZ hO fu 1 p_15.2 res h) rfl rfl rfl ⟨Nat.le_of_ble_eq_true rfl, Nat.le_of_ble_eq_true rfl⟩ (Nat.le_of_ble_eq_true rfl) ⟨Nat.zero_le _, Nat.zero_le _⟩ dX7_readBan_214 217 rfl (fun p_16 hF => ?_)
                  refine w_gb hF (fun h_17 hF => ?_)
                  exact w_iret X hQ (o_inj1 hF) (o_inj2 hF) (bool_nar h_17) dX7_readBan_217
                · refine w_aload_n X 2 dX7_readBan_200 rfl rfl 201 rfl ?_
                  refine w_aload_n X 1 dX7_readBan_201 rfl rfl 202 rfl ?_
                  refine w_iload_n X 0 dX7_readBan_202 rfl rfl 203 rfl ?_
                  refine w_callVi (fun x => x.1) (fun x => x.2) X hZ hF [.ref (ad (pBan 1 (Int32.toNatClampNeg (rd p_1.2 (pRace 1) 4)))), .int x_10] 7 plt_7 ko_7 rfl rfl rfl kB_X7_readWithin kL_X7_199 (fun res h => ct_X7_readWithin l hZ hO fu (by decide) (vp_lt h_2) x_10 p_15.2 res h) rfl rfl rfl ⟨Nat.le_of_ble_eq_true rfl, Nat.le_of_ble_eq_true rfl⟩ (Nat.le_of_ble_eq_true rfl) ⟨Nat.zero_le _, Nat.zero_le _⟩ dX7_readBan_203 206 rfl (fun p_18 hF => ?_)
                  refine w_goto X 217 dX7_readBan_206 (by decide) ?_
                  refine w_gb hF (fun h_19 hF => ?_)
                  exact w_iret X hQ (o_inj1 hF) (o_inj2 hF) (bool_nar h_19) dX7_readBan_217
              · refine w_aload_n X 2 dX7_readBan_181 rfl rfl 182 rfl ?_
                refine w_aload_n X 1 dX7_readBan_182 rfl rfl 183 rfl ?_
                refine w_iload_n X 0 dX7_readBan_183 rfl rfl 184 rfl ?_
                refine w_callVi (fun x => x.1) (fun x => x.2) X hZ hF [.ref (ad (pBan 1 (Int32.toNatClampNeg (rd p_1.2 (pRace 1) 4)))), .int x_10] 7 plt_7 ko_7 rfl rfl rfl kB_X7_readEvery kL_X7_193 (fun res h => ct_X7_readEvery l hZ hO fu (by decide) (vp_lt h_2) x_10 p_14.2 res h) rfl rfl rfl ⟨Nat.le_of_ble_eq_true rfl, Nat.le_of_ble_eq_true rfl⟩ (Nat.le_of_ble_eq_true rfl) ⟨Nat.zero_le _, Nat.zero_le _⟩ dX7_readBan_184 187 rfl (fun p_20 hF => ?_)
                refine w_gb hF (fun h_21 hF => ?_)
                exact w_iret X hQ (o_inj1 hF) (o_inj2 hF) (bool_nar h_21) dX7_readBan_187
          · refine w_aload_n X 0 dX7_readBan_125 rfl rfl 126 rfl ?_
            refine w_iconst X 1 dX7_readBan_126 rfl 127 rfl ?_
            refine w_putI X (pBan 1 (Int32.toNatClampNeg (rd p_1.2 (pRace 1) 4))) (lt_Ban (by decide) (vp_lt h_2)) (ko_Ban (vp_lt h_2)) (T := TX0) (N := 9) rfl in_X0 tyX0 tyX0_ok nmX0 1 (by decide) kF_X7_185 rfl rfl rfl rfl (Nat.le_of_ble_eq_true rfl) rfl dX7_readBan_127 130 rfl ?_
            refine w_letm hF (fun m_22 hF => ?_)
            refine w_aload_n X 1 dX7_readBan_130 rfl rfl 131 rfl ?_
            refine w_getV (v := .ref (ad 2)) X 7 plt_7 ko_7 (T := TX7) (N := 9) rfl in_X7 0 (by decide) kF_X7_9 rfl rfl dX7_readBan_131 134 rfl ?_
            refine w_bipush X 59 dX7_readBan_134 rfl 136 rfl ?_
            refine w_callVi (fun x => x.1) (fun x => x.2) X hZ hF [.int 59] 2 plt_2 ko_2 rfl rfl rfl kB_X9_needSign kL_X7_114 (fun res h => ct_X9_needSign l hZ hO fu 59 m_22 res h) rfl rfl rfl ⟨Nat.le_of_ble_eq_true rfl, Nat.le_of_ble_eq_true rfl⟩ (Nat.le_of_ble_eq_true rfl) ⟨Nat.zero_le _, Nat.zero_le _⟩ dX7_readBan_136 139 rfl (fun p_23 hF => ?_)
            refine w_gb hF (fun h_24 hF => ?_)
            exact w_iret X hQ (o_inj1 hF) (o_inj2 hF) (bool_nar h_24) dX7_readBan_139
        · refine w_aload_n X 0 dX7_readBan_98 rfl rfl 99 rfl ?_
          refine w_iconst X 0 dX7_readBan_99 rfl 100 rfl ?_
          refine w_putI X (pBan 1 (Int32.toNatClampNeg (rd p_1.2 (pRace 1) 4))) (lt_Ban (by decide) (vp_lt h_2)) (ko_Ban (vp_lt h_2)) (T := TX0) (N := 9) rfl in_X0 tyX0 tyX0_ok nmX0 1 (by decide) kF_X7_185 rfl rfl rfl rfl (Nat.le_of_ble_eq_true rfl) rfl dX7_readBan_100 103 rfl ?_
          refine w_letm hF (fun m_25 hF => ?_)
          refine w_aload_n X 1 dX7_readBan_103 rfl rfl 104 rfl ?_
          refine w_getV (v := .ref (ad 2)) X 7 plt_7 ko_7 (T := TX7) (N := 9) rfl in_X7 0 (by decide) kF_X7_9 rfl rfl dX7_readBan_104 107 rfl ?_
          refine w_bipush X 59 dX7_readBan_107 rfl 109 rfl ?_
          refine w_callVi (fun x => x.1) (fun x => x.2) X hZ hF [.int 59] 2 plt_2 ko_2 rfl rfl rfl kB_X9_needSign kL_X7_114 (fun res h => ct_X9_needSign l hZ hO fu 59 m_25 res h) rfl rfl rfl ⟨Nat.le_of_ble_eq_true rfl, Nat.le_of_ble_eq_true rfl⟩ (Nat.le_of_ble_eq_true rfl) ⟨Nat.zero_le _, Nat.zero_le _⟩ dX7_readBan_109 112 rfl (fun p_26 hF => ?_)
          refine w_gb hF (fun h_27 hF => ?_)
          exact w_iret X hQ (o_inj1 hF) (o_inj2 hF) (bool_nar h_27) dX7_readBan_112
    · refine w_keep [0] rfl ?_
      exact w_22 mem hF

def K_X9_needWay (fu : Nat) (mem : Mem) : Option (Int32 × Mem) := bd (K_X9_advance fu mem) (fun m_1 => bd (K_X9_isWord fu 15 m_1) (fun p_2 => (if p_2.1 = 0 then bd (K_X9_isWord fu 16 p_2.2) (fun p_3 => (if p_3.1 = 0 then bd (K_X9_fail fu 1 p_3.2) (fun p_4 => some ((-1), p_4.2)) else some (1, p_3.2))) else some (0, p_2.2))))
def rm_X9_needWay : Room := { frames := 6, cells := 0, slots := 0, locals := 129 }
set_option maxHeartbeats 4000000 in
set_option maxRecDepth 100000 in
theorem ct_X9_needWay (l : Launch) {D : va_G} {ca ad : Nat → Nat} {Z : (Nat → Prop) → State → Heap → Prop} (hZ : ZOK Z) {tO : Nat} {sK sV : Nat → Nat} (hO : ZO Z tO sK sV) (fu : Nat) (mem : Mem) (res : (Int32 × Mem)) (hF : K_X9_needWay fu mem = some res) : CI l D (tyL ca) 255 ad (cC ca ad) Z yX9_needWay cX9_needWay 1 .int rm_X9_needWay [.ref (ad 2)] mem res.1 res.2 := by
  refine start_i (own := RX9) rfl (by decide) (Nat.le_of_ble_eq_true rfl) ?_
  intro p e s m args below meth c Q hQ X
  rw [K_X9_needWay] at hF
  revert hF
  intro hF
  refine w_aload_n X 0 dX9_needWay_0 rfl rfl 1 rfl ?_
  refine w_callVv (fun m => m) X hZ hF [] 2 plt_2 ko_2 rfl rfl rfl kB_X9_advance kL_X9_82 (fun res h => ct_X9_advance l hZ hO fu mem res h) rfl rfl rfl ⟨Nat.le_of_ble_eq_true rfl, Nat.le_of_ble_eq_true rfl⟩ (Nat.le_of_ble_eq_true rfl) ⟨Nat.zero_le _, Nat.zero_le _⟩ dX9_needWay_1 4 rfl (fun m_1 hF => ?_)
  refine w_aload_n X 0 dX9_needWay_4 rfl rfl 5 rfl ?_
  refine w_ldcS X hO 15 rfl dX9_needWay_5 7 rfl ?_
  refine w_callVi (fun x => x.1) (fun x => x.2) X hZ hF [.ref (sK 15)] 2 plt_2 ko_2 rfl rfl rfl kB_X9_isWord kL_X9_72 (fun res h => ct_X9_isWord l hZ hO fu (by decide) m_1 res h) rfl rfl rfl ⟨Nat.le_of_ble_eq_true rfl, Nat.le_of_ble_eq_true rfl⟩ (Nat.le_of_ble_eq_true rfl) ⟨Nat.zero_le _, Nat.zero_le _⟩ dX9_needWay_7 10 rfl (fun p_2 hF => ?_)
  refine w_if_eq X hF 15 13 dX9_needWay_10 (by decide) rfl (fun hF => ?_) (fun hF => ?_)
  · refine w_aload_n X 0 dX9_needWay_15 rfl rfl 16 rfl ?_
    refine w_ldcS X hO 16 rfl dX9_needWay_16 18 rfl ?_
    refine w_callVi (fun x => x.1) (fun x => x.2) X hZ hF [.ref (sK 16)] 2 plt_2 ko_2 rfl rfl rfl kB_X9_isWord kL_X9_72 (fun res h => ct_X9_isWord l hZ hO fu (by decide) p_2.2 res h) rfl rfl rfl ⟨Nat.le_of_ble_eq_true rfl, Nat.le_of_ble_eq_true rfl⟩ (Nat.le_of_ble_eq_true rfl) ⟨Nat.zero_le _, Nat.zero_le _⟩ dX9_needWay_18 21 rfl (fun p_3 hF => ?_)
    refine w_if_eq X hF 26 24 dX9_needWay_21 (by decide) rfl (fun hF => ?_) (fun hF => ?_)
    · refine w_aload_n X 0 dX9_needWay_26 rfl rfl 27 rfl ?_
      refine w_iconst X 1 dX9_needWay_27 rfl 28 rfl ?_
      refine w_callVi (fun x => x.1) (fun x => x.2) X hZ hF [.int 1] 2 plt_2 ko_2 rfl rfl rfl kB_X9_fail kL_X9_88 (fun res h => ct_X9_fail l hZ hO fu 1 p_3.2 res h) rfl rfl rfl ⟨Nat.le_of_ble_eq_true rfl, Nat.le_of_ble_eq_true rfl⟩ (Nat.le_of_ble_eq_true rfl) ⟨Nat.zero_le _, Nat.zero_le _⟩ dX9_needWay_28 31 rfl (fun p_4 hF => ?_)
      refine w_pop X dX9_needWay_31 rfl 32 rfl ?_
      refine w_iconst X (-1) dX9_needWay_32 rfl 33 rfl ?_
      exact w_iret X hQ (o_inj1 hF) (o_inj2 hF) rfl dX9_needWay_33
    · refine w_iconst X 1 dX9_needWay_24 rfl 25 rfl ?_
      exact w_iret X hQ (o_inj1 hF) (o_inj2 hF) rfl dX9_needWay_25
  · refine w_iconst X 0 dX9_needWay_13 rfl 14 rfl ?_
    exact w_iret X hQ (o_inj1 hF) (o_inj2 hF) rfl dX9_needWay_14

def K_X7_readBlock (fu : Nat) (mem : Mem) : Option (Int32 × Mem) := (if (rd mem (pBoard 1) 2) < 40 then bd (K_X9_needNumber fu 0 ((rd mem (pBoard 1) 0) - 2) mem) (fun p_1 => (if p_1.1 = 0 then some (0, p_1.2) else lt_ (rd p_1.2 2 10) (fun x_2 => bd (K_X9_needNumber fu 0 ((rd p_1.2 (pBoard 1) 1) - 2) p_1.2) (fun p_3 => (if p_3.1 = 0 then some (0, p_3.2) else lt_ (rd p_3.2 2 10) (fun x_4 => bd (K_X9_needWay fu p_3.2) (fun p_5 => lt_ p_5.1 (fun x_6 => (if x_6 = (-1) then some (0, p_5.2) else bd (K_X9_needSign fu 59 p_5.2) (fun p_7 => (if p_7.1 = 0 then some (0, p_7.2) else bd (K_X5_markTrails fu 1 p_7.2) (fun m_8 => bd (K_X5_admits fu 1 x_2 x_4 x_6 m_8) (fun p_9 => (if p_9.1 = 0 then bd (K_X9_fail fu 5 p_9.2) (fun p_10 => gb p_10.1 (some (p_10.1, p_10.2))) else bd (K_X2_raise fu 1 x_2 x_4 x_6 p_9.2) (fun m_12 => some (1, m_12)))))))))))))))) else bd (K_X9_fail fu 6 mem) (fun p_13 => gb p_13.1 (some (p_13.1, p_13.2))))
def rm_X7_readBlock : Room := { frames := 7, cells := 0, slots := 0, locals := 149 }
set_option maxHeartbeats 4000000 in
set_option maxRecDepth 100000 in
theorem ct_X7_readBlock (l : Launch) {D : va_G} {ca ad : Nat → Nat} {Z : (Nat → Prop) → State → Heap → Prop} (hZ : ZOK Z) {tO : Nat} {sK sV : Nat → Nat} (hO : ZO Z tO sK sV) (fu : Nat) (mem : Mem) (res : (Int32 × Mem)) (hF : K_X7_readBlock fu mem = some res) : CI l D (tyL ca) 255 ad (cC ca ad) Z yX7_readBlock cX7_readBlock 4 .boolean rm_X7_readBlock [.ref (ad 7)] mem res.1 res.2 := by
  refine start_i (own := RX7) rfl (by decide) (Nat.le_of_ble_eq_true rfl) ?_
  intro p e s m args below meth c Q hQ X
  rw [K_X7_readBlock] at hF
  revert hF
  intro hF
  refine w_aload_n X 0 dX7_readBlock_0 rfl rfl 1 rfl ?_
  refine w_getV (v := .ref (ad (pRace 1))) X 7 plt_7 ko_7 (T := TX7) (N := 9) rfl in_X7 1 (by decide) kF_X7_15 rfl rfl dX7_readBlock_1 4 rfl ?_
  refine w_getV (v := .ref (ad (pBoard 1))) X (pRace 1) (lt_Race (by decide)) ko_Race (T := TX6) (N := 8) rfl in_X6 0 (by decide) kF_X7_97 rfl rfl dX7_readBlock_4 7 rfl ?_
  refine w_getV (v := .int (rd mem (pBoard 1) 2)) X (pBoard 1) (lt_Board (by decide)) ko_Board (T := TX2) (N := 5) rfl in_X2 2 (by decide) kF_X7_100 rfl rfl dX7_readBlock_7 10 rfl ?_
  refine w_bipush X 40 dX7_readBlock_10 rfl 12 rfl ?_
  refine w_icmp_lt X hF 25 15 dX7_readBlock_12 (by decide) rfl (fun hF => ?_) (fun hF => ?_)
  · refine w_aload_n X 0 dX7_readBlock_25 rfl rfl 26 rfl ?_
    refine w_getV (v := .ref (ad 2)) X 7 plt_7 ko_7 (T := TX7) (N := 9) rfl in_X7 0 (by decide) kF_X7_9 rfl rfl dX7_readBlock_26 29 rfl ?_
    refine w_iconst X 0 dX7_readBlock_29 rfl 30 rfl ?_
    refine w_aload_n X 0 dX7_readBlock_30 rfl rfl 31 rfl ?_
    refine w_getV (v := .ref (ad (pRace 1))) X 7 plt_7 ko_7 (T := TX7) (N := 9) rfl in_X7 1 (by decide) kF_X7_15 rfl rfl dX7_readBlock_31 34 rfl ?_
    refine w_getV (v := .ref (ad (pBoard 1))) X (pRace 1) (lt_Race (by decide)) ko_Race (T := TX6) (N := 8) rfl in_X6 0 (by decide) kF_X7_97 rfl rfl dX7_readBlock_34 37 rfl ?_
    refine w_getV (v := .int (rd mem (pBoard 1) 0)) X (pBoard 1) (lt_Board (by decide)) ko_Board (T := TX2) (N := 5) rfl in_X2 0 (by decide) kF_X7_166 rfl rfl dX7_readBlock_37 40 rfl ?_
    refine w_iconst X 2 dX7_readBlock_40 rfl 41 rfl ?_
    refine w_isub X dX7_readBlock_41 42 rfl ?_
    refine w_callVi (fun x => x.1) (fun x => x.2) X hZ hF [.int 0, .int ((rd mem (pBoard 1) 0) - 2)] 2 plt_2 ko_2 rfl rfl rfl kB_X9_needNumber kL_X7_104 (fun res h => ct_X9_needNumber l hZ hO fu 0 ((rd mem (pBoard 1) 0) - 2) mem res h) rfl rfl rfl ⟨Nat.le_of_ble_eq_true rfl, Nat.le_of_ble_eq_true rfl⟩ (Nat.le_of_ble_eq_true rfl) ⟨Nat.zero_le _, Nat.zero_le _⟩ dX7_readBlock_42 45 rfl (fun p_1 hF => ?_)
    refine w_if_ne X hF 50 48 dX7_readBlock_45 (by decide) rfl (fun hF => ?_) (fun hF => ?_)
    · refine w_iconst X 0 dX7_readBlock_48 rfl 49 rfl ?_
      exact w_iret X hQ (o_inj1 hF) (o_inj2 hF) rfl dX7_readBlock_49
    · refine w_aload_n X 0 dX7_readBlock_50 rfl rfl 51 rfl ?_
      refine w_getV (v := .ref (ad 2)) X 7 plt_7 ko_7 (T := TX7) (N := 9) rfl in_X7 0 (by decide) kF_X7_9 rfl rfl dX7_readBlock_51 54 rfl ?_
      refine w_getV (v := .int (rd p_1.2 2 10)) X 2 plt_2 ko_2 (T := TX9) (N := 13) rfl in_X9 10 (by decide) kF_X7_108 rfl rfl dX7_readBlock_54 57 rfl ?_
      refine w_let hF (fun x_2 hF => ?_)
      refine w_istore_n X [(1, .int x_2), (0, .ref (ad 7))] dX7_readBlock_57 rfl (by decide) rfl 58 rfl ?_
      refine w_aload_n X 1 dX7_readBlock_58 rfl rfl 59 rfl ?_
      refine w_getV (v := .ref (ad 2)) X 7 plt_7 ko_7 (T := TX7) (N := 9) rfl in_X7 0 (by decide) kF_X7_9 rfl rfl dX7_readBlock_59 62 rfl ?_
      refine w_iconst X 0 dX7_readBlock_62 rfl 63 rfl ?_
      refine w_aload_n X 1 dX7_readBlock_63 rfl rfl 64 rfl ?_
      refine w_getV (v := .ref (ad (pRace 1))) X 7 plt_7 ko_7 (T := TX7) (N := 9) rfl in_X7 1 (by decide) kF_X7_15 rfl rfl dX7_readBlock_64 67 rfl ?_
      refine w_getV (v := .ref (ad (pBoard 1))) X (pRace 1) (lt_Race (by decide)) ko_Race (T := TX6) (N := 8) rfl in_X6 0 (by decide) kF_X7_97 rfl rfl dX7_readBlock_67 70 rfl ?_
      refine w_getV (v := .int (rd p_1.2 (pBoard 1) 1)) X (pBoard 1) (lt_Board (by decide)) ko_Board (T := TX2) (N := 5) rfl in_X2 1 (by decide) kF_X7_169 rfl rfl dX7_readBlock_70 73 rfl ?_
      refine w_iconst X 2 dX7_readBlock_73 rfl 74 rfl ?_
      refine w_isub X dX7_readBlock_74 75 rfl ?_
      refine w_callVi (fun x => x.1) (fun x => x.2) X hZ hF [.int 0, .int ((rd p_1.2 (pBoard 1) 1) - 2)] 2 plt_2 ko_2 rfl rfl rfl kB_X9_needNumber kL_X7_104 (fun res h => ct_X9_needNumber l hZ hO fu 0 ((rd p_1.2 (pBoard 1) 1) - 2) p_1.2 res h) rfl rfl rfl ⟨Nat.le_of_ble_eq_true rfl, Nat.le_of_ble_eq_true rfl⟩ (Nat.le_of_ble_eq_true rfl) ⟨Nat.zero_le _, Nat.zero_le _⟩ dX7_readBlock_75 78 rfl (fun p_3 hF => ?_)
      refine w_if_ne X hF 83 81 dX7_readBlock_78 (by decide) rfl (fun hF => ?_) (fun hF => ?_)
      · refine w_iconst X 0 dX7_readBlock_81 rfl 82 rfl ?_
        exact w_iret X hQ (o_inj1 hF) (o_inj2 hF) rfl dX7_readBlock_82
      · refine w_aload_n X 1 dX7_readBlock_83 rfl rfl 84 rfl ?_
        refine w_getV (v := .ref (ad 2)) X 7 plt_7 ko_7 (T := TX7) (N := 9) rfl in_X7 0 (by decide) kF_X7_9 rfl rfl dX7_readBlock_84 87 rfl ?_
        refine w_getV (v := .int (rd p_3.2 2 10)) X 2 plt_2 ko_2 (T := TX9) (N := 13) rfl in_X9 10 (by decide) kF_X7_108 rfl rfl dX7_readBlock_87 90 rfl ?_
        refine w_let hF (fun x_4 hF => ?_)
        refine w_istore_n X [(2, .int x_4), (1, .int x_2), (0, .ref (ad 7))] dX7_readBlock_90 rfl (by decide) rfl 91 rfl ?_
        refine w_aload_n X 2 dX7_readBlock_91 rfl rfl 92 rfl ?_
        refine w_getV (v := .ref (ad 2)) X 7 plt_7 ko_7 (T := TX7) (N := 9) rfl in_X7 0 (by decide) kF_X7_9 rfl rfl dX7_readBlock_92 95 rfl ?_
        refine w_callVi (fun x => x.1) (fun x => x.2) X hZ hF [] 2 plt_2 ko_2 rfl rfl rfl kB_X9_needWay kL_X7_212 (fun res h => ct_X9_needWay l hZ hO fu p_3.2 res h) rfl rfl rfl ⟨Nat.le_of_ble_eq_true rfl, Nat.le_of_ble_eq_true rfl⟩ (Nat.le_of_ble_eq_true rfl) ⟨Nat.zero_le _, Nat.zero_le _⟩ dX7_readBlock_95 98 rfl (fun p_5 hF => ?_)
        refine w_let hF (fun x_6 hF => ?_)
        refine w_istore_n X [(3, .int x_6), (2, .int x_4), (1, .int x_2), (0, .ref (ad 7))] dX7_readBlock_98 rfl (by decide) rfl 99 rfl ?_
        refine w_iload_n X 0 dX7_readBlock_99 rfl rfl 100 rfl ?_
        refine w_iconst X (-1) dX7_readBlock_100 rfl 101 rfl ?_
        refine w_icmp_eq X hF 116 104 dX7_readBlock_101 (by decide) rfl (fun hF => ?_) (fun hF => ?_)
        · refine w_iconst X 0 dX7_readBlock_116 rfl 117 rfl ?_
          exact w_iret X hQ (o_inj1 hF) (o_inj2 hF) rfl dX7_readBlock_117
        · refine w_aload_n X 3 dX7_readBlock_104 rfl rfl 105 rfl ?_
          refine w_getV (v := .ref (ad 2)) X 7 plt_7 ko_7 (T := TX7) (N := 9) rfl in_X7 0 (by decide) kF_X7_9 rfl rfl dX7_readBlock_105 108 rfl ?_
          refine w_bipush X 59 dX7_readBlock_108 rfl 110 rfl ?_
          refine w_callVi (fun x => x.1) (fun x => x.2) X hZ hF [.int 59] 2 plt_2 ko_2 rfl rfl rfl kB_X9_needSign kL_X7_114 (fun res h => ct_X9_needSign l hZ hO fu 59 p_5.2 res h) rfl rfl rfl ⟨Nat.le_of_ble_eq_true rfl, Nat.le_of_ble_eq_true rfl⟩ (Nat.le_of_ble_eq_true rfl) ⟨Nat.zero_le _, Nat.zero_le _⟩ dX7_readBlock_110 113 rfl (fun p_7 hF => ?_)
          refine w_if_ne X hF 118 116 dX7_readBlock_113 (by decide) rfl (fun hF => ?_) (fun hF => ?_)
          · refine w_iconst X 0 dX7_readBlock_116 rfl 117 rfl ?_
            exact w_iret X hQ (o_inj1 hF) (o_inj2 hF) rfl dX7_readBlock_117
          · refine w_aload_n X 3 dX7_readBlock_118 rfl rfl 119 rfl ?_
            refine w_getV (v := .ref (ad 17)) X 7 plt_7 ko_7 (T := TX7) (N := 9) rfl in_X7 2 (by decide) kF_X7_19 rfl rfl dX7_readBlock_119 122 rfl ?_
            refine w_aload_n X 3 dX7_readBlock_122 rfl rfl 123 rfl ?_
            refine w_getV (v := .ref (ad (pRace 1))) X 7 plt_7 ko_7 (T := TX7) (N := 9) rfl in_X7 1 (by decide) kF_X7_15 rfl rfl dX7_readBlock_123 126 rfl ?_
            refine w_callVv (fun m => m) X hZ hF [.ref (ad (pRace 1))] 17 plt_17 ko_17 rfl rfl rfl kB_X5_markTrails kL_X7_215 (fun res h => ct_X5_markTrails l hZ hO fu (by decide) p_7.2 res h) rfl rfl rfl ⟨Nat.le_of_ble_eq_true rfl, Nat.le_of_ble_eq_true rfl⟩ (Nat.le_of_ble_eq_true rfl) ⟨Nat.zero_le _, Nat.zero_le _⟩ dX7_readBlock_126 129 rfl (fun m_8 hF => ?_)
            refine w_aload_n X 3 dX7_readBlock_129 rfl rfl 130 rfl ?_
            refine w_getV (v := .ref (ad 17)) X 7 plt_7 ko_7 (T := TX7) (N := 9) rfl in_X7 2 (by decide) kF_X7_19 rfl rfl dX7_readBlock_130 133 rfl ?_
            refine w_aload_n X 3 dX7_readBlock_133 rfl rfl 134 rfl ?_
            refine w_getV (v := .ref (ad (pRace 1))) X 7 plt_7 ko_7 (T := TX7) (N := 9) rfl in_X7 1 (by decide) kF_X7_15 rfl rfl dX7_readBlock_134 137 rfl ?_
            refine w_iload_n X 2 dX7_readBlock_137 rfl rfl 138 rfl ?_
            refine w_iload_n X 1 dX7_readBlock_138 rfl rfl 139 rfl ?_
            refine w_iload_n X 0 dX7_readBlock_139 rfl rfl 140 rfl ?_
            refine w_callVi (fun x => x.1) (fun x => x.2) X hZ hF [.ref (ad (pRace 1)), .int x_2, .int x_4, .int x_6] 17 plt_17 ko_17 rfl rfl rfl kB_X5_admits kL_X7_219 (fun res h => ct_X5_admits l hZ hO fu (by decide) x_2 x_4 x_6 m_8 res h) rfl rfl rfl ⟨Nat.le_of_ble_eq_true rfl, Nat.le_of_ble_eq_true rfl⟩ (Nat.le_of_ble_eq_true rfl) ⟨Nat.zero_le _, Nat.zero_le _⟩ dX7_readBlock_140 143 rfl (fun p_9 hF => ?_)
            refine w_if_ne X hF 155 146 dX7_readBlock_143 (by decide) rfl (fun hF => ?_) (fun hF => ?_)
            · refine w_aload_n X 3 dX7_readBlock_146 rfl rfl 147 rfl ?_
              refine w_getV (v := .ref (ad 2)) X 7 plt_7 ko_7 (T := TX7) (N := 9) rfl in_X7 0 (by decide) kF_X7_9 rfl rfl dX7_readBlock_147 150 rfl ?_
              refine w_iconst X 5 dX7_readBlock_150 rfl 151 rfl ?_
              refine w_callVi (fun x => x.1) (fun x => x.2) X hZ hF [.int 5] 2 plt_2 ko_2 rfl rfl rfl kB_X9_fail kL_X7_90 (fun res h => ct_X9_fail l hZ hO fu 5 p_9.2 res h) rfl rfl rfl ⟨Nat.le_of_ble_eq_true rfl, Nat.le_of_ble_eq_true rfl⟩ (Nat.le_of_ble_eq_true rfl) ⟨Nat.zero_le _, Nat.zero_le _⟩ dX7_readBlock_151 154 rfl (fun p_10 hF => ?_)
              refine w_gb hF (fun h_11 hF => ?_)
              exact w_iret X hQ (o_inj1 hF) (o_inj2 hF) (bool_nar h_11) dX7_readBlock_154
            · refine w_aload_n X 3 dX7_readBlock_155 rfl rfl 156 rfl ?_
              refine w_getV (v := .ref (ad (pRace 1))) X 7 plt_7 ko_7 (T := TX7) (N := 9) rfl in_X7 1 (by decide) kF_X7_15 rfl rfl dX7_readBlock_156 159 rfl ?_
              refine w_getV (v := .ref (ad (pBoard 1))) X (pRace 1) (lt_Race (by decide)) ko_Race (T := TX6) (N := 8) rfl in_X6 0 (by decide) kF_X7_97 rfl rfl dX7_readBlock_159 162 rfl ?_
              refine w_iload_n X 2 dX7_readBlock_162 rfl rfl 163 rfl ?_
              refine w_iload_n X 1 dX7_readBlock_163 rfl rfl 164 rfl ?_
              refine w_iload_n X 0 dX7_readBlock_164 rfl rfl 165 rfl ?_
              refine w_callVv (fun m => m) X hZ hF [.int x_2, .int x_4, .int x_6] (pBoard 1) (lt_Board (by decide)) ko_Board rfl rfl rfl kB_X2_raise kL_X7_223 (fun res h => ct_X2_raise l hZ hO fu (by decide) x_2 x_4 x_6 p_9.2 res h) rfl rfl rfl ⟨Nat.le_of_ble_eq_true rfl, Nat.le_of_ble_eq_true rfl⟩ (Nat.le_of_ble_eq_true rfl) ⟨Nat.zero_le _, Nat.zero_le _⟩ dX7_readBlock_165 168 rfl (fun m_12 hF => ?_)
              refine w_iconst X 1 dX7_readBlock_168 rfl 169 rfl ?_
              exact w_iret X hQ (o_inj1 hF) (o_inj2 hF) rfl dX7_readBlock_169
  · refine w_aload_n X 0 dX7_readBlock_15 rfl rfl 16 rfl ?_
    refine w_getV (v := .ref (ad 2)) X 7 plt_7 ko_7 (T := TX7) (N := 9) rfl in_X7 0 (by decide) kF_X7_9 rfl rfl dX7_readBlock_16 19 rfl ?_
    refine w_bipush X 6 dX7_readBlock_19 rfl 21 rfl ?_
    refine w_callVi (fun x => x.1) (fun x => x.2) X hZ hF [.int 6] 2 plt_2 ko_2 rfl rfl rfl kB_X9_fail kL_X7_90 (fun res h => ct_X9_fail l hZ hO fu 6 mem res h) rfl rfl rfl ⟨Nat.le_of_ble_eq_true rfl, Nat.le_of_ble_eq_true rfl⟩ (Nat.le_of_ble_eq_true rfl) ⟨Nat.zero_le _, Nat.zero_le _⟩ dX7_readBlock_21 24 rfl (fun p_13 hF => ?_)
    refine w_gb hF (fun h_14 hF => ?_)
    exact w_iret X hQ (o_inj1 hF) (o_inj2 hF) (bool_nar h_14) dX7_readBlock_24
end Kc3
