section Km4
def K_X12_readsBan_69 (fu : Nat) (mem : Mem) : Option Mem := gi 6 184 (bd (K_X12_less fu (rd mem 2 (Int32.toNatClampNeg 6)) 11 mem) (fun x_11 => lt_ (36 + (7 * x_11)) (fun x_12 => bd (K_X12_isGood fu mem) (fun x_13 => (if x_13 = 0 then some mem else bd (K_X12_named fu mem) (fun x_14 => gi x_12 184 (lt_ (mw mem 2 (Int32.toNatClampNeg x_12) x_14) (fun m_16 => bd (K_X12_goOn fu m_16) (fun m_17 => bd (K_X12_readsRule fu x_12 m_17) (fun m_18 => bd (K_X12_isGood fu m_18) (fun x_19 => (if x_19 = 0 then some m_18 else gi 6 184 (gi 6 184 (lt_ (mw m_18 2 (Int32.toNatClampNeg 6) ((rd m_18 2 (Int32.toNatClampNeg 6)) + 1)) (fun m_22 => some m_22)))))))))))))))
def K_X12_readsBan_49 (fu : Nat) (mem : Mem) : Option Mem := bd (K_X12_isGood fu mem) (fun x_7 => (if x_7 = 0 then (K_X12_readsBan_69 fu mem) else bd (K_X12_named fu mem) (fun x_8 => (if x_8 = (-1) then bd (K_X12_wrong fu 4 mem) (fun m_9 => (K_X12_readsBan_69 fu m_9)) else (K_X12_readsBan_69 fu mem)))))
def K_X12_readsBan_29 (fu : Nat) (mem : Mem) : Option Mem := bd (K_X12_isGood fu mem) (fun x_5 => (if x_5 = 0 then (K_X12_readsBan_49 fu mem) else (if (rd mem 0 6) = 1 then (K_X12_readsBan_49 fu mem) else bd (K_X12_wrong fu 1 mem) (fun m_6 => (K_X12_readsBan_49 fu m_6)))))
def K_X12_readsBan_18 (fu : Nat) (mem : Mem) : Option Mem := bd (K_X12_isGood fu mem) (fun x_3 => (if x_3 = 0 then (K_X12_readsBan_29 fu mem) else bd (K_X12_goOn fu mem) (fun m_4 => (K_X12_readsBan_29 fu m_4))))
def K_X12_readsBan (fu : Nat) (mem : Mem) : Option Mem := gi 6 184 ((if (rd mem 2 (Int32.toNatClampNeg 6)) = 12 then bd (K_X12_wrong fu 6 mem) (fun m_2 => (K_X12_readsBan_18 fu m_2)) else (K_X12_readsBan_18 fu mem)))
def rm_X12_readsBan : Room := { frames := 4, cells := 0, slots := 0, locals := 91 }
set_option maxHeartbeats 4000000 in
set_option maxRecDepth 100000 in
theorem ct_X12_readsBan (l : Launch) {D : va_G} {ca ad : Nat → Nat} {Z : (Nat → Prop) → State → Heap → Prop} (hZ : ZOK Z) (fu : Nat) (mem : Mem) (res : Mem) (hF : K_X12_readsBan fu mem = some res) : CV l D (tyL ca) 23 ad (cM ca ad) Z yX12_readsBan cX12_readsBan 2 rm_X12_readsBan [.ref (ad 0)] mem res := by
  refine start_v (own := RX12) rfl (by decide) (Nat.le_of_ble_eq_true rfl) ?_
  intro p e s m args below meth c Q hQ X
  rw [K_X12_readsBan] at hF
  revert hF
  have w_69 : ∀ (mem : Mem), K_X12_readsBan_69 fu mem = some res → WW D 23 ad (cM ca ad) p l e rm_X12_readsBan s m args below meth c 2 0 0 Q mem 69 [(0, .ref (ad 0))] [] := by
    intro mem hF
    rw [K_X12_readsBan_69] at hF
    refine w_bipush X 36 dX12_readsBan_69 rfl 71 rfl ?_
    refine w_bipush X 7 dX12_readsBan_71 rfl 73 rfl ?_
    refine w_aload_n X 0 dX12_readsBan_73 rfl rfl 74 rfl ?_
    refine w_getV (v := .ref (ad 2)) X 0 ml_0 mo_0 (T := TX12) (N := 50) rfl in_X12 13 (by decide) kF_X12_20 rfl rfl dX12_readsBan_74 77 rfl ?_
    refine w_bipush X 6 dX12_readsBan_77 rfl 79 rfl ?_
    refine w_gi hF (fun h_10 hF => ?_)
    refine w_ial X 2 ml_2 mo_2 (t0 := 0) rfl h_10 dX12_readsBan_79 80 rfl ?_
    refine w_bipush X 11 dX12_readsBan_80 rfl 82 rfl ?_
    refine w_callSi (fun x => x) (fun _ => mem) X hZ hF [.int (rd mem 2 (Int32.toNatClampNeg 6)), .int 11] rfl kB_X12_less kL_X12_190 (fun res h => ct_X12_less l hZ fu (rd mem 2 (Int32.toNatClampNeg 6)) 11 mem res h) rfl rfl rfl ⟨Nat.le_of_ble_eq_true rfl, Nat.le_of_ble_eq_true rfl⟩ (Nat.le_of_ble_eq_true rfl) ⟨Nat.zero_le _, Nat.zero_le _⟩ dX12_readsBan_82 85 rfl (fun x_11 hF => ?_)
    refine w_imul X dX12_readsBan_85 86 rfl ?_
    refine w_iadd X dX12_readsBan_86 87 rfl ?_
    refine w_let hF (fun x_12 hF => ?_)
    refine w_istore_n X [(1, .int x_12), (0, .ref (ad 0))] dX12_readsBan_87 rfl (by decide) rfl 88 rfl ?_
    refine w_aload_n X 1 dX12_readsBan_88 rfl rfl 89 rfl ?_
    refine w_callVi (fun x => x) (fun _ => mem) X hZ hF [] 0 ml_0 mo_0 rfl rfl rfl kB_X12_isGood kL_X12_143 (fun res h => ct_X12_isGood l hZ fu mem res h) rfl rfl rfl ⟨Nat.le_of_ble_eq_true rfl, Nat.le_of_ble_eq_true rfl⟩ (Nat.le_of_ble_eq_true rfl) ⟨Nat.zero_le _, Nat.zero_le _⟩ dX12_readsBan_89 92 rfl (fun x_13 hF => ?_)
    refine w_if_ne X hF 96 95 dX12_readsBan_92 (by decide) rfl (fun hF => ?_) (fun hF => ?_)
    · exact w_vret X hQ (o_inj hF) dX12_readsBan_95
    · refine w_aload_n X 1 dX12_readsBan_96 rfl rfl 97 rfl ?_
      refine w_getV (v := .ref (ad 2)) X 0 ml_0 mo_0 (T := TX12) (N := 50) rfl in_X12 13 (by decide) kF_X12_20 rfl rfl dX12_readsBan_97 100 rfl ?_
      refine w_iload_n X 0 dX12_readsBan_100 rfl rfl 101 rfl ?_
      refine w_aload_n X 1 dX12_readsBan_101 rfl rfl 102 rfl ?_
      refine w_callVi (fun x => x) (fun _ => mem) X hZ hF [] 0 ml_0 mo_0 rfl rfl rfl kB_X12_named kL_X12_255 (fun res h => ct_X12_named l hZ fu mem res h) rfl rfl rfl ⟨Nat.le_of_ble_eq_true rfl, Nat.le_of_ble_eq_true rfl⟩ (Nat.le_of_ble_eq_true rfl) ⟨Nat.zero_le _, Nat.zero_le _⟩ dX12_readsBan_102 105 rfl (fun x_14 hF => ?_)
      refine w_gi hF (fun h_15 hF => ?_)
      refine w_ias X 2 ml_2 mo_2 (t0 := 0) rfl h_15 dX12_readsBan_105 106 rfl ?_
      refine w_letm hF (fun m_16 hF => ?_)
      refine w_aload_n X 1 dX12_readsBan_106 rfl rfl 107 rfl ?_
      refine w_callVv (fun m => m) X hZ hF [] 0 ml_0 mo_0 rfl rfl rfl kB_X12_goOn kL_X12_153 (fun res h => ct_X12_goOn l hZ fu m_16 res h) rfl rfl rfl ⟨Nat.le_of_ble_eq_true rfl, Nat.le_of_ble_eq_true rfl⟩ (Nat.le_of_ble_eq_true rfl) ⟨Nat.zero_le _, Nat.zero_le _⟩ dX12_readsBan_107 110 rfl (fun m_17 hF => ?_)
      refine w_aload_n X 1 dX12_readsBan_110 rfl rfl 111 rfl ?_
      refine w_iload_n X 0 dX12_readsBan_111 rfl rfl 112 rfl ?_
      refine w_callVv (fun m => m) X hZ hF [.int x_12] 0 ml_0 mo_0 rfl rfl rfl kB_X12_readsRule kL_X12_271 (fun res h => ct_X12_readsRule l hZ fu x_12 m_17 res h) rfl rfl rfl ⟨Nat.le_of_ble_eq_true rfl, Nat.le_of_ble_eq_true rfl⟩ (Nat.le_of_ble_eq_true rfl) ⟨Nat.zero_le _, Nat.zero_le _⟩ dX12_readsBan_112 115 rfl (fun m_18 hF => ?_)
      refine w_aload_n X 1 dX12_readsBan_115 rfl rfl 116 rfl ?_
      refine w_callVi (fun x => x) (fun _ => m_18) X hZ hF [] 0 ml_0 mo_0 rfl rfl rfl kB_X12_isGood kL_X12_143 (fun res h => ct_X12_isGood l hZ fu m_18 res h) rfl rfl rfl ⟨Nat.le_of_ble_eq_true rfl, Nat.le_of_ble_eq_true rfl⟩ (Nat.le_of_ble_eq_true rfl) ⟨Nat.zero_le _, Nat.zero_le _⟩ dX12_readsBan_116 119 rfl (fun x_19 hF => ?_)
      refine w_if_eq X hF 133 122 dX12_readsBan_119 (by decide) rfl (fun hF => ?_) (fun hF => ?_)
      · exact w_vret X hQ (o_inj hF) dX12_readsBan_133
      · refine w_aload_n X 1 dX12_readsBan_122 rfl rfl 123 rfl ?_
        refine w_getV (v := .ref (ad 2)) X 0 ml_0 mo_0 (T := TX12) (N := 50) rfl in_X12 13 (by decide) kF_X12_20 rfl rfl dX12_readsBan_123 126 rfl ?_
        refine w_bipush X 6 dX12_readsBan_126 rfl 128 rfl ?_
        refine w_dup2 X dX12_readsBan_128 rfl rfl 129 rfl ?_
        refine w_gi hF (fun h_20 hF => ?_)
        refine w_ial X 2 ml_2 mo_2 (t0 := 0) rfl h_20 dX12_readsBan_129 130 rfl ?_
        refine w_iconst X 1 dX12_readsBan_130 rfl 131 rfl ?_
        refine w_iadd X dX12_readsBan_131 132 rfl ?_
        refine w_gi hF (fun h_21 hF => ?_)
        refine w_ias X 2 ml_2 mo_2 (t0 := 0) rfl h_21 dX12_readsBan_132 133 rfl ?_
        refine w_letm hF (fun m_22 hF => ?_)
        exact w_vret X hQ (o_inj hF) dX12_readsBan_133
  have w_49 : ∀ (mem : Mem), K_X12_readsBan_49 fu mem = some res → WW D 23 ad (cM ca ad) p l e rm_X12_readsBan s m args below meth c 2 0 0 Q mem 49 [(0, .ref (ad 0))] [] := by
    intro mem hF
    rw [K_X12_readsBan_49] at hF
    refine w_aload_n X 0 dX12_readsBan_49 rfl rfl 50 rfl ?_
    refine w_callVi (fun x => x) (fun _ => mem) X hZ hF [] 0 ml_0 mo_0 rfl rfl rfl kB_X12_isGood kL_X12_143 (fun res h => ct_X12_isGood l hZ fu mem res h) rfl rfl rfl ⟨Nat.le_of_ble_eq_true rfl, Nat.le_of_ble_eq_true rfl⟩ (Nat.le_of_ble_eq_true rfl) ⟨Nat.zero_le _, Nat.zero_le _⟩ dX12_readsBan_50 53 rfl (fun x_7 hF => ?_)
    refine w_if_eq X hF 69 56 dX12_readsBan_53 (by decide) rfl (fun hF => ?_) (fun hF => ?_)
    · refine w_keep [0] rfl ?_
      exact w_69 mem hF
    · refine w_aload_n X 0 dX12_readsBan_56 rfl rfl 57 rfl ?_
      refine w_callVi (fun x => x) (fun _ => mem) X hZ hF [] 0 ml_0 mo_0 rfl rfl rfl kB_X12_named kL_X12_255 (fun res h => ct_X12_named l hZ fu mem res h) rfl rfl rfl ⟨Nat.le_of_ble_eq_true rfl, Nat.le_of_ble_eq_true rfl⟩ (Nat.le_of_ble_eq_true rfl) ⟨Nat.zero_le _, Nat.zero_le _⟩ dX12_readsBan_57 60 rfl (fun x_8 hF => ?_)
      refine w_iconst X (-1) dX12_readsBan_60 rfl 61 rfl ?_
      refine w_icmp_ne X hF 69 64 dX12_readsBan_61 (by decide) rfl (fun hF => ?_) (fun hF => ?_)
      · refine w_aload_n X 0 dX12_readsBan_64 rfl rfl 65 rfl ?_
        refine w_iconst X 4 dX12_readsBan_65 rfl 66 rfl ?_
        refine w_callVv (fun m => m) X hZ hF [.int 4] 0 ml_0 mo_0 rfl rfl rfl kB_X12_wrong kL_X12_150 (fun res h => ct_X12_wrong l hZ fu 4 mem res h) rfl rfl rfl ⟨Nat.le_of_ble_eq_true rfl, Nat.le_of_ble_eq_true rfl⟩ (Nat.le_of_ble_eq_true rfl) ⟨Nat.zero_le _, Nat.zero_le _⟩ dX12_readsBan_66 69 rfl (fun m_9 hF => ?_)
        refine w_keep [0] rfl ?_
        exact w_69 m_9 hF
      · refine w_keep [0] rfl ?_
        exact w_69 mem hF
  have w_29 : ∀ (mem : Mem), K_X12_readsBan_29 fu mem = some res → WW D 23 ad (cM ca ad) p l e rm_X12_readsBan s m args below meth c 2 0 0 Q mem 29 [(0, .ref (ad 0))] [] := by
    intro mem hF
    rw [K_X12_readsBan_29] at hF
    refine w_aload_n X 0 dX12_readsBan_29 rfl rfl 30 rfl ?_
    refine w_callVi (fun x => x) (fun _ => mem) X hZ hF [] 0 ml_0 mo_0 rfl rfl rfl kB_X12_isGood kL_X12_143 (fun res h => ct_X12_isGood l hZ fu mem res h) rfl rfl rfl ⟨Nat.le_of_ble_eq_true rfl, Nat.le_of_ble_eq_true rfl⟩ (Nat.le_of_ble_eq_true rfl) ⟨Nat.zero_le _, Nat.zero_le _⟩ dX12_readsBan_30 33 rfl (fun x_5 hF => ?_)
    refine w_if_eq X hF 49 36 dX12_readsBan_33 (by decide) rfl (fun hF => ?_) (fun hF => ?_)
    · refine w_keep [0] rfl ?_
      exact w_49 mem hF
    · refine w_aload_n X 0 dX12_readsBan_36 rfl rfl 37 rfl ?_
      refine w_getV (v := .int (rd mem 0 6)) X 0 ml_0 mo_0 (T := TX12) (N := 50) rfl in_X12 6 (by decide) kF_X12_130 rfl rfl dX12_readsBan_37 40 rfl ?_
      refine w_iconst X 1 dX12_readsBan_40 rfl 41 rfl ?_
      refine w_icmp_eq X hF 49 44 dX12_readsBan_41 (by decide) rfl (fun hF => ?_) (fun hF => ?_)
      · refine w_keep [0] rfl ?_
        exact w_49 mem hF
      · refine w_aload_n X 0 dX12_readsBan_44 rfl rfl 45 rfl ?_
        refine w_iconst X 1 dX12_readsBan_45 rfl 46 rfl ?_
        refine w_callVv (fun m => m) X hZ hF [.int 1] 0 ml_0 mo_0 rfl rfl rfl kB_X12_wrong kL_X12_150 (fun res h => ct_X12_wrong l hZ fu 1 mem res h) rfl rfl rfl ⟨Nat.le_of_ble_eq_true rfl, Nat.le_of_ble_eq_true rfl⟩ (Nat.le_of_ble_eq_true rfl) ⟨Nat.zero_le _, Nat.zero_le _⟩ dX12_readsBan_46 49 rfl (fun m_6 hF => ?_)
        refine w_keep [0] rfl ?_
        exact w_49 m_6 hF
  have w_18 : ∀ (mem : Mem), K_X12_readsBan_18 fu mem = some res → WW D 23 ad (cM ca ad) p l e rm_X12_readsBan s m args below meth c 2 0 0 Q mem 18 [(0, .ref (ad 0))] [] := by
    intro mem hF
    rw [K_X12_readsBan_18] at hF
    refine w_aload_n X 0 dX12_readsBan_18 rfl rfl 19 rfl ?_
    refine w_callVi (fun x => x) (fun _ => mem) X hZ hF [] 0 ml_0 mo_0 rfl rfl rfl kB_X12_isGood kL_X12_143 (fun res h => ct_X12_isGood l hZ fu mem res h) rfl rfl rfl ⟨Nat.le_of_ble_eq_true rfl, Nat.le_of_ble_eq_true rfl⟩ (Nat.le_of_ble_eq_true rfl) ⟨Nat.zero_le _, Nat.zero_le _⟩ dX12_readsBan_19 22 rfl (fun x_3 hF => ?_)
    refine w_if_eq X hF 29 25 dX12_readsBan_22 (by decide) rfl (fun hF => ?_) (fun hF => ?_)
    · refine w_keep [0] rfl ?_
      exact w_29 mem hF
    · refine w_aload_n X 0 dX12_readsBan_25 rfl rfl 26 rfl ?_
      refine w_callVv (fun m => m) X hZ hF [] 0 ml_0 mo_0 rfl rfl rfl kB_X12_goOn kL_X12_153 (fun res h => ct_X12_goOn l hZ fu mem res h) rfl rfl rfl ⟨Nat.le_of_ble_eq_true rfl, Nat.le_of_ble_eq_true rfl⟩ (Nat.le_of_ble_eq_true rfl) ⟨Nat.zero_le _, Nat.zero_le _⟩ dX12_readsBan_26 29 rfl (fun m_4 hF => ?_)
      refine w_keep [0] rfl ?_
      exact w_29 m_4 hF
  intro hF
  refine w_aload_n X 0 dX12_readsBan_0 rfl rfl 1 rfl ?_
  refine w_getV (v := .ref (ad 2)) X 0 ml_0 mo_0 (T := TX12) (N := 50) rfl in_X12 13 (by decide) kF_X12_20 rfl rfl dX12_readsBan_1 4 rfl ?_
  refine w_bipush X 6 dX12_readsBan_4 rfl 6 rfl ?_
  refine w_gi hF (fun h_1 hF => ?_)
  refine w_ial X 2 ml_2 mo_2 (t0 := 0) rfl h_1 dX12_readsBan_6 7 rfl ?_
  refine w_bipush X 12 dX12_readsBan_7 rfl 9 rfl ?_
  refine w_icmp_ne X hF 18 12 dX12_readsBan_9 (by decide) rfl (fun hF => ?_) (fun hF => ?_)
  · refine w_aload_n X 0 dX12_readsBan_12 rfl rfl 13 rfl ?_
    refine w_bipush X 6 dX12_readsBan_13 rfl 15 rfl ?_
    refine w_callVv (fun m => m) X hZ hF [.int 6] 0 ml_0 mo_0 rfl rfl rfl kB_X12_wrong kL_X12_150 (fun res h => ct_X12_wrong l hZ fu 6 mem res h) rfl rfl rfl ⟨Nat.le_of_ble_eq_true rfl, Nat.le_of_ble_eq_true rfl⟩ (Nat.le_of_ble_eq_true rfl) ⟨Nat.zero_le _, Nat.zero_le _⟩ dX12_readsBan_15 18 rfl (fun m_2 hF => ?_)
    refine w_keep [0] rfl ?_
    exact w_18 m_2 hF
  · refine w_keep [0] rfl ?_
    exact w_18 mem hF

def K_X12_readsBlock_104 (fu : Nat) (x1 : Int32) (x2 : Int32) (x3 : Int32) (mem : Mem) : Option Mem := bd (K_X12_isGood fu mem) (fun x_19 => (if x_19 = 0 then some mem else gi ((120 + (8 * x2)) + x1) 184 (lt_ (mw mem 2 (Int32.toNatClampNeg ((120 + (8 * x2)) + x1)) x3) (fun m_21 => gi 3 184 (gi 3 184 (lt_ (mw m_21 2 (Int32.toNatClampNeg 3) ((rd m_21 2 (Int32.toNatClampNeg 3)) + 1)) (fun m_24 => some m_24)))))))
def K_X12_readsBlock_82 (fu : Nat) (x1 : Int32) (x2 : Int32) (x3 : Int32) (mem : Mem) : Option Mem := bd (K_X12_isGood fu mem) (fun x_16 => (if x_16 = 0 then (K_X12_readsBlock_104 fu x1 x2 x3 mem) else bd (K_X12_admits fu x1 x2 x3 mem) (fun p_17 => (if p_17.1 = 0 then bd (K_X12_wrong fu 5 p_17.2) (fun m_18 => (K_X12_readsBlock_104 fu x1 x2 x3 m_18)) else (K_X12_readsBlock_104 fu x1 x2 x3 p_17.2)))))
def K_X12_readsBlock_28 (fu : Nat) (mem : Mem) : Option Mem := gi 0 184 (bd (K_X12_number fu 0 ((rd mem 2 (Int32.toNatClampNeg 0)) - 2) mem) (fun p_6 => lt_ p_6.1 (fun x_7 => gi 1 184 (bd (K_X12_number fu 0 ((rd p_6.2 2 (Int32.toNatClampNeg 1)) - 2) p_6.2) (fun p_9 => lt_ p_9.1 (fun x_10 => bd (K_X12_wayHere fu p_9.2) (fun p_11 => lt_ p_11.1 (fun x_12 => bd (K_X12_isGood fu p_11.2) (fun x_13 => (if x_13 = 0 then (K_X12_readsBlock_82 fu x_7 x_10 x_12 p_11.2) else bd (K_X12_isSign fu 59 p_11.2) (fun x_14 => (if x_14 = 0 then bd (K_X12_wrong fu 1 p_11.2) (fun m_15 => (K_X12_readsBlock_82 fu x_7 x_10 x_12 m_15)) else (K_X12_readsBlock_82 fu x_7 x_10 x_12 p_11.2)))))))))))))
def K_X12_readsBlock_17 (fu : Nat) (mem : Mem) : Option Mem := bd (K_X12_isGood fu mem) (fun x_3 => (if x_3 = 0 then (K_X12_readsBlock_28 fu mem) else bd (K_X12_goOn fu mem) (fun m_4 => (K_X12_readsBlock_28 fu m_4))))
def K_X12_readsBlock (fu : Nat) (mem : Mem) : Option Mem := gi 3 184 ((if (rd mem 2 (Int32.toNatClampNeg 3)) = 40 then bd (K_X12_wrong fu 6 mem) (fun m_2 => (K_X12_readsBlock_17 fu m_2)) else (K_X12_readsBlock_17 fu mem)))
def rm_X12_readsBlock : Room := { frames := 9, cells := 0, slots := 0, locals := 210 }
set_option maxHeartbeats 4000000 in
set_option maxRecDepth 100000 in
theorem ct_X12_readsBlock (l : Launch) {D : va_G} {ca ad : Nat → Nat} {Z : (Nat → Prop) → State → Heap → Prop} (hZ : ZOK Z) (fu : Nat) (mem : Mem) (res : Mem) (hF : K_X12_readsBlock fu mem = some res) : CV l D (tyL ca) 23 ad (cM ca ad) Z yX12_readsBlock cX12_readsBlock 4 rm_X12_readsBlock [.ref (ad 0)] mem res := by
  refine start_v (own := RX12) rfl (by decide) (Nat.le_of_ble_eq_true rfl) ?_
  intro p e s m args below meth c Q hQ X
  rw [K_X12_readsBlock] at hF
  revert hF
  have w_104 : ∀ (x1 : Int32) (x2 : Int32) (x3 : Int32) (mem : Mem), K_X12_readsBlock_104 fu x1 x2 x3 mem = some res → WW D 23 ad (cM ca ad) p l e rm_X12_readsBlock s m args below meth c 4 0 0 Q mem 104 [(0, .ref (ad 0)), (1, .int x1), (2, .int x2), (3, .int x3)] [] := by
    intro x1 x2 x3 mem hF
    rw [K_X12_readsBlock_104] at hF
    refine w_aload_n X 0 dX12_readsBlock_104 rfl rfl 105 rfl ?_
    refine w_callVi (fun x => x) (fun _ => mem) X hZ hF [] 0 ml_0 mo_0 rfl rfl rfl kB_X12_isGood kL_X12_143 (fun res h => ct_X12_isGood l hZ fu mem res h) rfl rfl rfl ⟨Nat.le_of_ble_eq_true rfl, Nat.le_of_ble_eq_true rfl⟩ (Nat.le_of_ble_eq_true rfl) ⟨Nat.zero_le _, Nat.zero_le _⟩ dX12_readsBlock_105 108 rfl (fun x_19 hF => ?_)
    refine w_if_ne X hF 112 111 dX12_readsBlock_108 (by decide) rfl (fun hF => ?_) (fun hF => ?_)
    · exact w_vret X hQ (o_inj hF) dX12_readsBlock_111
    · refine w_aload_n X 0 dX12_readsBlock_112 rfl rfl 113 rfl ?_
      refine w_getV (v := .ref (ad 2)) X 0 ml_0 mo_0 (T := TX12) (N := 50) rfl in_X12 13 (by decide) kF_X12_20 rfl rfl dX12_readsBlock_113 116 rfl ?_
      refine w_bipush X 120 dX12_readsBlock_116 rfl 118 rfl ?_
      refine w_bipush X 8 dX12_readsBlock_118 rfl 120 rfl ?_
      refine w_iload_n X 2 dX12_readsBlock_120 rfl rfl 121 rfl ?_
      refine w_imul X dX12_readsBlock_121 122 rfl ?_
      refine w_iadd X dX12_readsBlock_122 123 rfl ?_
      refine w_iload_n X 1 dX12_readsBlock_123 rfl rfl 124 rfl ?_
      refine w_iadd X dX12_readsBlock_124 125 rfl ?_
      refine w_iload_n X 3 dX12_readsBlock_125 rfl rfl 126 rfl ?_
      refine w_gi hF (fun h_20 hF => ?_)
      refine w_ias X 2 ml_2 mo_2 (t0 := 0) rfl h_20 dX12_readsBlock_126 127 rfl ?_
      refine w_letm hF (fun m_21 hF => ?_)
      refine w_aload_n X 0 dX12_readsBlock_127 rfl rfl 128 rfl ?_
      refine w_getV (v := .ref (ad 2)) X 0 ml_0 mo_0 (T := TX12) (N := 50) rfl in_X12 13 (by decide) kF_X12_20 rfl rfl dX12_readsBlock_128 131 rfl ?_
      refine w_iconst X 3 dX12_readsBlock_131 rfl 132 rfl ?_
      refine w_dup2 X dX12_readsBlock_132 rfl rfl 133 rfl ?_
      refine w_gi hF (fun h_22 hF => ?_)
      refine w_ial X 2 ml_2 mo_2 (t0 := 0) rfl h_22 dX12_readsBlock_133 134 rfl ?_
      refine w_iconst X 1 dX12_readsBlock_134 rfl 135 rfl ?_
      refine w_iadd X dX12_readsBlock_135 136 rfl ?_
      refine w_gi hF (fun h_23 hF => ?_)
      refine w_ias X 2 ml_2 mo_2 (t0 := 0) rfl h_23 dX12_readsBlock_136 137 rfl ?_
      refine w_letm hF (fun m_24 hF => ?_)
      exact w_vret X hQ (o_inj hF) dX12_readsBlock_137
  have w_82 : ∀ (x1 : Int32) (x2 : Int32) (x3 : Int32) (mem : Mem), K_X12_readsBlock_82 fu x1 x2 x3 mem = some res → WW D 23 ad (cM ca ad) p l e rm_X12_readsBlock s m args below meth c 4 0 0 Q mem 82 [(0, .ref (ad 0)), (1, .int x1), (2, .int x2), (3, .int x3)] [] := by
    intro x1 x2 x3 mem hF
    rw [K_X12_readsBlock_82] at hF
    refine w_aload_n X 0 dX12_readsBlock_82 rfl rfl 83 rfl ?_
    refine w_callVi (fun x => x) (fun _ => mem) X hZ hF [] 0 ml_0 mo_0 rfl rfl rfl kB_X12_isGood kL_X12_143 (fun res h => ct_X12_isGood l hZ fu mem res h) rfl rfl rfl ⟨Nat.le_of_ble_eq_true rfl, Nat.le_of_ble_eq_true rfl⟩ (Nat.le_of_ble_eq_true rfl) ⟨Nat.zero_le _, Nat.zero_le _⟩ dX12_readsBlock_83 86 rfl (fun x_16 hF => ?_)
    refine w_if_eq X hF 104 89 dX12_readsBlock_86 (by decide) rfl (fun hF => ?_) (fun hF => ?_)
    · refine w_keep [0, 1, 2, 3] rfl ?_
      exact w_104 x1 x2 x3 mem hF
    · refine w_aload_n X 0 dX12_readsBlock_89 rfl rfl 90 rfl ?_
      refine w_iload_n X 1 dX12_readsBlock_90 rfl rfl 91 rfl ?_
      refine w_iload_n X 2 dX12_readsBlock_91 rfl rfl 92 rfl ?_
      refine w_iload_n X 3 dX12_readsBlock_92 rfl rfl 93 rfl ?_
      refine w_callVi (fun x => x.1) (fun x => x.2) X hZ hF [.int x1, .int x2, .int x3] 0 ml_0 mo_0 rfl rfl rfl kB_X12_admits kL_X12_293 (fun res h => ct_X12_admits l hZ fu x1 x2 x3 mem res h) rfl rfl rfl ⟨Nat.le_of_ble_eq_true rfl, Nat.le_of_ble_eq_true rfl⟩ (Nat.le_of_ble_eq_true rfl) ⟨Nat.zero_le _, Nat.zero_le _⟩ dX12_readsBlock_93 96 rfl (fun p_17 hF => ?_)
      refine w_if_ne X hF 104 99 dX12_readsBlock_96 (by decide) rfl (fun hF => ?_) (fun hF => ?_)
      · refine w_aload_n X 0 dX12_readsBlock_99 rfl rfl 100 rfl ?_
        refine w_iconst X 5 dX12_readsBlock_100 rfl 101 rfl ?_
        refine w_callVv (fun m => m) X hZ hF [.int 5] 0 ml_0 mo_0 rfl rfl rfl kB_X12_wrong kL_X12_150 (fun res h => ct_X12_wrong l hZ fu 5 p_17.2 res h) rfl rfl rfl ⟨Nat.le_of_ble_eq_true rfl, Nat.le_of_ble_eq_true rfl⟩ (Nat.le_of_ble_eq_true rfl) ⟨Nat.zero_le _, Nat.zero_le _⟩ dX12_readsBlock_101 104 rfl (fun m_18 hF => ?_)
        refine w_keep [0, 1, 2, 3] rfl ?_
        exact w_104 x1 x2 x3 m_18 hF
      · refine w_keep [0, 1, 2, 3] rfl ?_
        exact w_104 x1 x2 x3 p_17.2 hF
  have w_28 : ∀ (mem : Mem), K_X12_readsBlock_28 fu mem = some res → WW D 23 ad (cM ca ad) p l e rm_X12_readsBlock s m args below meth c 4 0 0 Q mem 28 [(0, .ref (ad 0))] [] := by
    intro mem hF
    rw [K_X12_readsBlock_28] at hF
    refine w_aload_n X 0 dX12_readsBlock_28 rfl rfl 29 rfl ?_
    refine w_iconst X 0 dX12_readsBlock_29 rfl 30 rfl ?_
    refine w_aload_n X 0 dX12_readsBlock_30 rfl rfl 31 rfl ?_
    refine w_getV (v := .ref (ad 2)) X 0 ml_0 mo_0 (T := TX12) (N := 50) rfl in_X12 13 (by decide) kF_X12_20 rfl rfl dX12_readsBlock_31 34 rfl ?_
    refine w_iconst X 0 dX12_readsBlock_34 rfl 35 rfl ?_
    refine w_gi hF (fun h_5 hF => ?_)
    refine w_ial X 2 ml_2 mo_2 (t0 := 0) rfl h_5 dX12_readsBlock_35 36 rfl ?_
    refine w_iconst X 2 dX12_readsBlock_36 rfl 37 rfl ?_
    refine w_isub X dX12_readsBlock_37 38 rfl ?_
    refine w_callVi (fun x => x.1) (fun x => x.2) X hZ hF [.int 0, .int ((rd mem 2 (Int32.toNatClampNeg 0)) - 2)] 0 ml_0 mo_0 rfl rfl rfl kB_X12_number kL_X12_246 (fun res h => ct_X12_number l hZ fu 0 ((rd mem 2 (Int32.toNatClampNeg 0)) - 2) mem res h) rfl rfl rfl ⟨Nat.le_of_ble_eq_true rfl, Nat.le_of_ble_eq_true rfl⟩ (Nat.le_of_ble_eq_true rfl) ⟨Nat.zero_le _, Nat.zero_le _⟩ dX12_readsBlock_38 41 rfl (fun p_6 hF => ?_)
    refine w_let hF (fun x_7 hF => ?_)
    refine w_istore_n X [(1, .int x_7), (0, .ref (ad 0))] dX12_readsBlock_41 rfl (by decide) rfl 42 rfl ?_
    refine w_aload_n X 1 dX12_readsBlock_42 rfl rfl 43 rfl ?_
    refine w_iconst X 0 dX12_readsBlock_43 rfl 44 rfl ?_
    refine w_aload_n X 1 dX12_readsBlock_44 rfl rfl 45 rfl ?_
    refine w_getV (v := .ref (ad 2)) X 0 ml_0 mo_0 (T := TX12) (N := 50) rfl in_X12 13 (by decide) kF_X12_20 rfl rfl dX12_readsBlock_45 48 rfl ?_
    refine w_iconst X 1 dX12_readsBlock_48 rfl 49 rfl ?_
    refine w_gi hF (fun h_8 hF => ?_)
    refine w_ial X 2 ml_2 mo_2 (t0 := 0) rfl h_8 dX12_readsBlock_49 50 rfl ?_
    refine w_iconst X 2 dX12_readsBlock_50 rfl 51 rfl ?_
    refine w_isub X dX12_readsBlock_51 52 rfl ?_
    refine w_callVi (fun x => x.1) (fun x => x.2) X hZ hF [.int 0, .int ((rd p_6.2 2 (Int32.toNatClampNeg 1)) - 2)] 0 ml_0 mo_0 rfl rfl rfl kB_X12_number kL_X12_246 (fun res h => ct_X12_number l hZ fu 0 ((rd p_6.2 2 (Int32.toNatClampNeg 1)) - 2) p_6.2 res h) rfl rfl rfl ⟨Nat.le_of_ble_eq_true rfl, Nat.le_of_ble_eq_true rfl⟩ (Nat.le_of_ble_eq_true rfl) ⟨Nat.zero_le _, Nat.zero_le _⟩ dX12_readsBlock_52 55 rfl (fun p_9 hF => ?_)
    refine w_let hF (fun x_10 hF => ?_)
    refine w_istore_n X [(2, .int x_10), (1, .int x_7), (0, .ref (ad 0))] dX12_readsBlock_55 rfl (by decide) rfl 56 rfl ?_
    refine w_aload_n X 2 dX12_readsBlock_56 rfl rfl 57 rfl ?_
    refine w_callVi (fun x => x.1) (fun x => x.2) X hZ hF [] 0 ml_0 mo_0 rfl rfl rfl kB_X12_wayHere kL_X12_290 (fun res h => ct_X12_wayHere l hZ fu p_9.2 res h) rfl rfl rfl ⟨Nat.le_of_ble_eq_true rfl, Nat.le_of_ble_eq_true rfl⟩ (Nat.le_of_ble_eq_true rfl) ⟨Nat.zero_le _, Nat.zero_le _⟩ dX12_readsBlock_57 60 rfl (fun p_11 hF => ?_)
    refine w_let hF (fun x_12 hF => ?_)
    refine w_istore_n X [(3, .int x_12), (2, .int x_10), (1, .int x_7), (0, .ref (ad 0))] dX12_readsBlock_60 rfl (by decide) rfl 61 rfl ?_
    refine w_aload_n X 3 dX12_readsBlock_61 rfl rfl 62 rfl ?_
    refine w_callVi (fun x => x) (fun _ => p_11.2) X hZ hF [] 0 ml_0 mo_0 rfl rfl rfl kB_X12_isGood kL_X12_143 (fun res h => ct_X12_isGood l hZ fu p_11.2 res h) rfl rfl rfl ⟨Nat.le_of_ble_eq_true rfl, Nat.le_of_ble_eq_true rfl⟩ (Nat.le_of_ble_eq_true rfl) ⟨Nat.zero_le _, Nat.zero_le _⟩ dX12_readsBlock_62 65 rfl (fun x_13 hF => ?_)
    refine w_if_eq X hF 82 68 dX12_readsBlock_65 (by decide) rfl (fun hF => ?_) (fun hF => ?_)
    · refine w_keep [3, 2, 1, 0] rfl ?_
      exact w_82 x_7 x_10 x_12 p_11.2 hF
    · refine w_aload_n X 3 dX12_readsBlock_68 rfl rfl 69 rfl ?_
      refine w_bipush X 59 dX12_readsBlock_69 rfl 71 rfl ?_
      refine w_callVi (fun x => x) (fun _ => p_11.2) X hZ hF [.int 59] 0 ml_0 mo_0 rfl rfl rfl kB_X12_isSign kL_X12_147 (fun res h => ct_X12_isSign l hZ fu 59 p_11.2 res h) rfl rfl rfl ⟨Nat.le_of_ble_eq_true rfl, Nat.le_of_ble_eq_true rfl⟩ (Nat.le_of_ble_eq_true rfl) ⟨Nat.zero_le _, Nat.zero_le _⟩ dX12_readsBlock_71 74 rfl (fun x_14 hF => ?_)
      refine w_if_ne X hF 82 77 dX12_readsBlock_74 (by decide) rfl (fun hF => ?_) (fun hF => ?_)
      · refine w_aload_n X 3 dX12_readsBlock_77 rfl rfl 78 rfl ?_
        refine w_iconst X 1 dX12_readsBlock_78 rfl 79 rfl ?_
        refine w_callVv (fun m => m) X hZ hF [.int 1] 0 ml_0 mo_0 rfl rfl rfl kB_X12_wrong kL_X12_150 (fun res h => ct_X12_wrong l hZ fu 1 p_11.2 res h) rfl rfl rfl ⟨Nat.le_of_ble_eq_true rfl, Nat.le_of_ble_eq_true rfl⟩ (Nat.le_of_ble_eq_true rfl) ⟨Nat.zero_le _, Nat.zero_le _⟩ dX12_readsBlock_79 82 rfl (fun m_15 hF => ?_)
        refine w_keep [3, 2, 1, 0] rfl ?_
        exact w_82 x_7 x_10 x_12 m_15 hF
      · refine w_keep [3, 2, 1, 0] rfl ?_
        exact w_82 x_7 x_10 x_12 p_11.2 hF
  have w_17 : ∀ (mem : Mem), K_X12_readsBlock_17 fu mem = some res → WW D 23 ad (cM ca ad) p l e rm_X12_readsBlock s m args below meth c 4 0 0 Q mem 17 [(0, .ref (ad 0))] [] := by
    intro mem hF
    rw [K_X12_readsBlock_17] at hF
    refine w_aload_n X 0 dX12_readsBlock_17 rfl rfl 18 rfl ?_
    refine w_callVi (fun x => x) (fun _ => mem) X hZ hF [] 0 ml_0 mo_0 rfl rfl rfl kB_X12_isGood kL_X12_143 (fun res h => ct_X12_isGood l hZ fu mem res h) rfl rfl rfl ⟨Nat.le_of_ble_eq_true rfl, Nat.le_of_ble_eq_true rfl⟩ (Nat.le_of_ble_eq_true rfl) ⟨Nat.zero_le _, Nat.zero_le _⟩ dX12_readsBlock_18 21 rfl (fun x_3 hF => ?_)
    refine w_if_eq X hF 28 24 dX12_readsBlock_21 (by decide) rfl (fun hF => ?_) (fun hF => ?_)
    · refine w_keep [0] rfl ?_
      exact w_28 mem hF
    · refine w_aload_n X 0 dX12_readsBlock_24 rfl rfl 25 rfl ?_
      refine w_callVv (fun m => m) X hZ hF [] 0 ml_0 mo_0 rfl rfl rfl kB_X12_goOn kL_X12_153 (fun res h => ct_X12_goOn l hZ fu mem res h) rfl rfl rfl ⟨Nat.le_of_ble_eq_true rfl, Nat.le_of_ble_eq_true rfl⟩ (Nat.le_of_ble_eq_true rfl) ⟨Nat.zero_le _, Nat.zero_le _⟩ dX12_readsBlock_25 28 rfl (fun m_4 hF => ?_)
      refine w_keep [0] rfl ?_
      exact w_28 m_4 hF
  intro hF
  refine w_aload_n X 0 dX12_readsBlock_0 rfl rfl 1 rfl ?_
  refine w_getV (v := .ref (ad 2)) X 0 ml_0 mo_0 (T := TX12) (N := 50) rfl in_X12 13 (by decide) kF_X12_20 rfl rfl dX12_readsBlock_1 4 rfl ?_
  refine w_iconst X 3 dX12_readsBlock_4 rfl 5 rfl ?_
  refine w_gi hF (fun h_1 hF => ?_)
  refine w_ial X 2 ml_2 mo_2 (t0 := 0) rfl h_1 dX12_readsBlock_5 6 rfl ?_
  refine w_bipush X 40 dX12_readsBlock_6 rfl 8 rfl ?_
  refine w_icmp_ne X hF 17 11 dX12_readsBlock_8 (by decide) rfl (fun hF => ?_) (fun hF => ?_)
  · refine w_aload_n X 0 dX12_readsBlock_11 rfl rfl 12 rfl ?_
    refine w_bipush X 6 dX12_readsBlock_12 rfl 14 rfl ?_
    refine w_callVv (fun m => m) X hZ hF [.int 6] 0 ml_0 mo_0 rfl rfl rfl kB_X12_wrong kL_X12_150 (fun res h => ct_X12_wrong l hZ fu 6 mem res h) rfl rfl rfl ⟨Nat.le_of_ble_eq_true rfl, Nat.le_of_ble_eq_true rfl⟩ (Nat.le_of_ble_eq_true rfl) ⟨Nat.zero_le _, Nat.zero_le _⟩ dX12_readsBlock_14 17 rfl (fun m_2 hF => ?_)
    refine w_keep [0] rfl ?_
    exact w_17 m_2 hF
  · refine w_keep [0] rfl ?_
    exact w_17 mem hF

def K_X12_statement_90 (fu : Nat) (mem : Mem) : Option Mem := bd (K_X12_mustSign fu 59 mem) (fun m_12 => some m_12)
def K_X12_statement (fu : Nat) (mem : Mem) : Option Mem := bd (K_X12_isWord fu 2590276 mem) (fun x_1 => (if x_1 = 0 then bd (K_X12_isWord fu 24162707 mem) (fun x_2 => (if x_2 = 0 then bd (K_X12_isWord fu 526062 mem) (fun x_3 => (if x_3 = 0 then bd (K_X12_isWord fu 2094 mem) (fun x_4 => (if x_4 = 0 then bd (K_X12_isWord fu 2505835 mem) (fun x_5 => (if x_5 = 0 then bd (K_X12_wrong fu 1 mem) (fun m_6 => (K_X12_statement_90 fu m_6)) else bd (K_X12_readsBlock fu mem) (fun m_7 => (K_X12_statement_90 fu m_7)))) else bd (K_X12_readsBan fu mem) (fun m_8 => (K_X12_statement_90 fu m_8)))) else bd (K_X12_readsPawn fu mem) (fun m_9 => (K_X12_statement_90 fu m_9)))) else bd (K_X12_readsWalls fu mem) (fun m_10 => (K_X12_statement_90 fu m_10)))) else bd (K_X12_readsBoard fu mem) (fun m_11 => (K_X12_statement_90 fu m_11))))
def rm_X12_statement : Room := { frames := 10, cells := 0, slots := 0, locals := 233 }
set_option maxHeartbeats 4000000 in
set_option maxRecDepth 100000 in
theorem ct_X12_statement (l : Launch) {D : va_G} {ca ad : Nat → Nat} {Z : (Nat → Prop) → State → Heap → Prop} (hZ : ZOK Z) (fu : Nat) (mem : Mem) (res : Mem) (hF : K_X12_statement fu mem = some res) : CV l D (tyL ca) 23 ad (cM ca ad) Z yX12_statement cX12_statement 1 rm_X12_statement [.ref (ad 0)] mem res := by
  refine start_v (own := RX12) rfl (by decide) (Nat.le_of_ble_eq_true rfl) ?_
  intro p e s m args below meth c Q hQ X
  rw [K_X12_statement] at hF
  revert hF
  have w_90 : ∀ (mem : Mem), K_X12_statement_90 fu mem = some res → WW D 23 ad (cM ca ad) p l e rm_X12_statement s m args below meth c 1 0 0 Q mem 90 [(0, .ref (ad 0))] [] := by
    intro mem hF
    rw [K_X12_statement_90] at hF
    refine w_aload_n X 0 dX12_statement_90 rfl rfl 91 rfl ?_
    refine w_bipush X 59 dX12_statement_91 rfl 93 rfl ?_
    refine w_callVv (fun m => m) X hZ hF [.int 59] 0 ml_0 mo_0 rfl rfl rfl kB_X12_mustSign kL_X12_319 (fun res h => ct_X12_mustSign l hZ fu 59 mem res h) rfl rfl rfl ⟨Nat.le_of_ble_eq_true rfl, Nat.le_of_ble_eq_true rfl⟩ (Nat.le_of_ble_eq_true rfl) ⟨Nat.zero_le _, Nat.zero_le _⟩ dX12_statement_93 96 rfl (fun m_12 hF => ?_)
    exact w_vret X hQ (o_inj hF) dX12_statement_96
  intro hF
  refine w_aload_n X 0 dX12_statement_0 rfl rfl 1 rfl ?_
  refine w_ldc2 X 2590276 kK_X12_296 dX12_statement_1 4 rfl ?_
  refine w_callVi (fun x => x) (fun _ => mem) X hZ hF [.long 2590276] 0 ml_0 mo_0 rfl rfl rfl kB_X12_isWord kL_X12_156 (fun res h => ct_X12_isWord l hZ fu 2590276 mem res h) rfl rfl rfl ⟨Nat.le_of_ble_eq_true rfl, Nat.le_of_ble_eq_true rfl⟩ (Nat.le_of_ble_eq_true rfl) ⟨Nat.zero_le _, Nat.zero_le _⟩ dX12_statement_4 7 rfl (fun x_1 hF => ?_)
  refine w_if_eq X hF 17 10 dX12_statement_7 (by decide) rfl (fun hF => ?_) (fun hF => ?_)
  · refine w_aload_n X 0 dX12_statement_17 rfl rfl 18 rfl ?_
    refine w_ldc2 X 24162707 kK_X12_265 dX12_statement_18 21 rfl ?_
    refine w_callVi (fun x => x) (fun _ => mem) X hZ hF [.long 24162707] 0 ml_0 mo_0 rfl rfl rfl kB_X12_isWord kL_X12_156 (fun res h => ct_X12_isWord l hZ fu 24162707 mem res h) rfl rfl rfl ⟨Nat.le_of_ble_eq_true rfl, Nat.le_of_ble_eq_true rfl⟩ (Nat.le_of_ble_eq_true rfl) ⟨Nat.zero_le _, Nat.zero_le _⟩ dX12_statement_21 24 rfl (fun x_2 hF => ?_)
    refine w_if_eq X hF 34 27 dX12_statement_24 (by decide) rfl (fun hF => ?_) (fun hF => ?_)
    · refine w_aload_n X 0 dX12_statement_34 rfl rfl 35 rfl ?_
      refine w_ldc2 X 526062 kK_X12_304 dX12_statement_35 38 rfl ?_
      refine w_callVi (fun x => x) (fun _ => mem) X hZ hF [.long 526062] 0 ml_0 mo_0 rfl rfl rfl kB_X12_isWord kL_X12_156 (fun res h => ct_X12_isWord l hZ fu 526062 mem res h) rfl rfl rfl ⟨Nat.le_of_ble_eq_true rfl, Nat.le_of_ble_eq_true rfl⟩ (Nat.le_of_ble_eq_true rfl) ⟨Nat.zero_le _, Nat.zero_le _⟩ dX12_statement_38 41 rfl (fun x_3 hF => ?_)
      refine w_if_eq X hF 51 44 dX12_statement_41 (by decide) rfl (fun hF => ?_) (fun hF => ?_)
      · refine w_aload_n X 0 dX12_statement_51 rfl rfl 52 rfl ?_
        refine w_ldc2 X 2094 kK_X12_309 dX12_statement_52 55 rfl ?_
        refine w_callVi (fun x => x) (fun _ => mem) X hZ hF [.long 2094] 0 ml_0 mo_0 rfl rfl rfl kB_X12_isWord kL_X12_156 (fun res h => ct_X12_isWord l hZ fu 2094 mem res h) rfl rfl rfl ⟨Nat.le_of_ble_eq_true rfl, Nat.le_of_ble_eq_true rfl⟩ (Nat.le_of_ble_eq_true rfl) ⟨Nat.zero_le _, Nat.zero_le _⟩ dX12_statement_55 58 rfl (fun x_4 hF => ?_)
        refine w_if_eq X hF 68 61 dX12_statement_58 (by decide) rfl (fun hF => ?_) (fun hF => ?_)
        · refine w_aload_n X 0 dX12_statement_68 rfl rfl 69 rfl ?_
          refine w_ldc2 X 2505835 kK_X12_314 dX12_statement_69 72 rfl ?_
          refine w_callVi (fun x => x) (fun _ => mem) X hZ hF [.long 2505835] 0 ml_0 mo_0 rfl rfl rfl kB_X12_isWord kL_X12_156 (fun res h => ct_X12_isWord l hZ fu 2505835 mem res h) rfl rfl rfl ⟨Nat.le_of_ble_eq_true rfl, Nat.le_of_ble_eq_true rfl⟩ (Nat.le_of_ble_eq_true rfl) ⟨Nat.zero_le _, Nat.zero_le _⟩ dX12_statement_72 75 rfl (fun x_5 hF => ?_)
          refine w_if_eq X hF 85 78 dX12_statement_75 (by decide) rfl (fun hF => ?_) (fun hF => ?_)
          · refine w_aload_n X 0 dX12_statement_85 rfl rfl 86 rfl ?_
            refine w_iconst X 1 dX12_statement_86 rfl 87 rfl ?_
            refine w_callVv (fun m => m) X hZ hF [.int 1] 0 ml_0 mo_0 rfl rfl rfl kB_X12_wrong kL_X12_150 (fun res h => ct_X12_wrong l hZ fu 1 mem res h) rfl rfl rfl ⟨Nat.le_of_ble_eq_true rfl, Nat.le_of_ble_eq_true rfl⟩ (Nat.le_of_ble_eq_true rfl) ⟨Nat.zero_le _, Nat.zero_le _⟩ dX12_statement_87 90 rfl (fun m_6 hF => ?_)
            refine w_keep [0] rfl ?_
            exact w_90 m_6 hF
          · refine w_aload_n X 0 dX12_statement_78 rfl rfl 79 rfl ?_
            refine w_callVv (fun m => m) X hZ hF [] 0 ml_0 mo_0 rfl rfl rfl kB_X12_readsBlock kL_X12_316 (fun res h => ct_X12_readsBlock l hZ fu mem res h) rfl rfl rfl ⟨Nat.le_of_ble_eq_true rfl, Nat.le_of_ble_eq_true rfl⟩ (Nat.le_of_ble_eq_true rfl) ⟨Nat.zero_le _, Nat.zero_le _⟩ dX12_statement_79 82 rfl (fun m_7 hF => ?_)
            refine w_goto X 90 dX12_statement_82 (by decide) ?_
            refine w_keep [0] rfl ?_
            exact w_90 m_7 hF
        · refine w_aload_n X 0 dX12_statement_61 rfl rfl 62 rfl ?_
          refine w_callVv (fun m => m) X hZ hF [] 0 ml_0 mo_0 rfl rfl rfl kB_X12_readsBan kL_X12_311 (fun res h => ct_X12_readsBan l hZ fu mem res h) rfl rfl rfl ⟨Nat.le_of_ble_eq_true rfl, Nat.le_of_ble_eq_true rfl⟩ (Nat.le_of_ble_eq_true rfl) ⟨Nat.zero_le _, Nat.zero_le _⟩ dX12_statement_62 65 rfl (fun m_8 hF => ?_)
          refine w_goto X 90 dX12_statement_65 (by decide) ?_
          refine w_keep [0] rfl ?_
          exact w_90 m_8 hF
      · refine w_aload_n X 0 dX12_statement_44 rfl rfl 45 rfl ?_
        refine w_callVv (fun m => m) X hZ hF [] 0 ml_0 mo_0 rfl rfl rfl kB_X12_readsPawn kL_X12_306 (fun res h => ct_X12_readsPawn l hZ fu mem res h) rfl rfl rfl ⟨Nat.le_of_ble_eq_true rfl, Nat.le_of_ble_eq_true rfl⟩ (Nat.le_of_ble_eq_true rfl) ⟨Nat.zero_le _, Nat.zero_le _⟩ dX12_statement_45 48 rfl (fun m_9 hF => ?_)
        refine w_goto X 90 dX12_statement_48 (by decide) ?_
        refine w_keep [0] rfl ?_
        exact w_90 m_9 hF
    · refine w_aload_n X 0 dX12_statement_27 rfl rfl 28 rfl ?_
      refine w_callVv (fun m => m) X hZ hF [] 0 ml_0 mo_0 rfl rfl rfl kB_X12_readsWalls kL_X12_301 (fun res h => ct_X12_readsWalls l hZ fu mem res h) rfl rfl rfl ⟨Nat.le_of_ble_eq_true rfl, Nat.le_of_ble_eq_true rfl⟩ (Nat.le_of_ble_eq_true rfl) ⟨Nat.zero_le _, Nat.zero_le _⟩ dX12_statement_28 31 rfl (fun m_10 hF => ?_)
      refine w_goto X 90 dX12_statement_31 (by decide) ?_
      refine w_keep [0] rfl ?_
      exact w_90 m_10 hF
  · refine w_aload_n X 0 dX12_statement_10 rfl rfl 11 rfl ?_
    refine w_callVv (fun m => m) X hZ hF [] 0 ml_0 mo_0 rfl rfl rfl kB_X12_readsBoard kL_X12_298 (fun res h => ct_X12_readsBoard l hZ fu mem res h) rfl rfl rfl ⟨Nat.le_of_ble_eq_true rfl, Nat.le_of_ble_eq_true rfl⟩ (Nat.le_of_ble_eq_true rfl) ⟨Nat.zero_le _, Nat.zero_le _⟩ dX12_statement_11 14 rfl (fun m_11 hF => ?_)
    refine w_goto X 90 dX12_statement_14 (by decide) ?_
    refine w_keep [0] rfl ?_
    exact w_90 m_11 hF

def K_X12_readText_48 (fu : Nat) (mem : Mem) : Option (Int32 × Mem) := bd (K_X12_endsText fu mem) (fun p_9 => (if p_9.1 = 0 then bd (K_X12_comesBack fu p_9.2) (fun m_10 => some (0, m_10)) else lt_ (mw p_9.2 0 18 0) (fun m_11 => gi 2 184 (some ((rd m_11 2 (Int32.toNatClampNeg 2)), m_11)))))
def K_X12_readText_27 (fu : Nat) : Nat → Mem → Option (Int32 × Mem)
  | 0, _ => none
  | n + 1, mem => bd (K_X12_isGood fu mem) (fun x_7 => (if x_7 = 0 then (K_X12_readText_48 fu mem) else (if (rd mem 0 6) = 0 then (K_X12_readText_48 fu mem) else bd (K_X12_statement fu mem) (fun m_8 => (K_X12_readText_27 fu n m_8)))))
def K_X12_readText (fu : Nat) (mem : Mem) : Option (Int32 × Mem) := bd (K_X12_beginsText fu mem) (fun m_1 => bd (K_X12_laysAside fu m_1) (fun m_2 => bd (K_X12_clears fu m_2) (fun m_3 => lt_ (mw m_3 0 24 5) (fun m_4 => lt_ (mw m_4 0 25 0) (fun m_5 => lt_ (mw m_5 0 26 0) (fun m_6 => (K_X12_readText_27 fu fu m_6)))))))
def rm_X12_readText : Room := { frames := 11, cells := 0, slots := 0, locals := 253 }
set_option maxHeartbeats 4000000 in
set_option maxRecDepth 100000 in
theorem ct_X12_readText (l : Launch) {D : va_G} {ca ad : Nat → Nat} {Z : (Nat → Prop) → State → Heap → Prop} (hZ : ZOK Z) (fu : Nat) (mem : Mem) (res : (Int32 × Mem)) (hF : K_X12_readText fu mem = some res) : CI l D (tyL ca) 23 ad (cM ca ad) Z yX12_readText cX12_readText 1 .int rm_X12_readText [.ref (ad 0)] mem res.1 res.2 := by
  refine start_i (own := RX12) rfl (by decide) (Nat.le_of_ble_eq_true rfl) ?_
  intro p e s m args below meth c Q hQ X
  rw [K_X12_readText] at hF
  revert hF
  have w_48 : ∀ (mem : Mem), K_X12_readText_48 fu mem = some res → WW D 23 ad (cM ca ad) p l e rm_X12_readText s m args below meth c 1 0 0 Q mem 48 [(0, .ref (ad 0))] [] := by
    intro mem hF
    rw [K_X12_readText_48] at hF
    refine w_aload_n X 0 dX12_readText_48 rfl rfl 49 rfl ?_
    refine w_callVi (fun x => x.1) (fun x => x.2) X hZ hF [] 0 ml_0 mo_0 rfl rfl rfl kB_X12_endsText kL_X12_331 (fun res h => ct_X12_endsText l hZ fu mem res h) rfl rfl rfl ⟨Nat.le_of_ble_eq_true rfl, Nat.le_of_ble_eq_true rfl⟩ (Nat.le_of_ble_eq_true rfl) ⟨Nat.zero_le _, Nat.zero_le _⟩ dX12_readText_49 52 rfl (fun p_9 hF => ?_)
    refine w_if_ne X hF 61 55 dX12_readText_52 (by decide) rfl (fun hF => ?_) (fun hF => ?_)
    · refine w_aload_n X 0 dX12_readText_55 rfl rfl 56 rfl ?_
      refine w_callVv (fun m => m) X hZ hF [] 0 ml_0 mo_0 rfl rfl rfl kB_X12_comesBack kL_X12_334 (fun res h => ct_X12_comesBack l hZ fu p_9.2 res h) rfl rfl rfl ⟨Nat.le_of_ble_eq_true rfl, Nat.le_of_ble_eq_true rfl⟩ (Nat.le_of_ble_eq_true rfl) ⟨Nat.zero_le _, Nat.zero_le _⟩ dX12_readText_56 59 rfl (fun m_10 hF => ?_)
      refine w_iconst X 0 dX12_readText_59 rfl 60 rfl ?_
      exact w_iret X hQ (o_inj1 hF) (o_inj2 hF) rfl dX12_readText_60
    · refine w_aload_n X 0 dX12_readText_61 rfl rfl 62 rfl ?_
      refine w_iconst X 0 dX12_readText_62 rfl 63 rfl ?_
      refine w_putI X 0 ml_0 mo_0 (T := TX12) (N := 50) rfl in_X12 tyX12 tyX12_ok nmX12 18 (by decide) kF_X12_167 rfl rfl rfl rfl (Nat.le_of_ble_eq_true rfl) rfl dX12_readText_63 66 rfl ?_
      refine w_letm hF (fun m_11 hF => ?_)
      refine w_aload_n X 0 dX12_readText_66 rfl rfl 67 rfl ?_
      refine w_getV (v := .ref (ad 2)) X 0 ml_0 mo_0 (T := TX12) (N := 50) rfl in_X12 13 (by decide) kF_X12_20 rfl rfl dX12_readText_67 70 rfl ?_
      refine w_iconst X 2 dX12_readText_70 rfl 71 rfl ?_
      refine w_gi hF (fun h_12 hF => ?_)
      refine w_ial X 2 ml_2 mo_2 (t0 := 0) rfl h_12 dX12_readText_71 72 rfl ?_
      exact w_iret X hQ (o_inj1 hF) (o_inj2 hF) rfl dX12_readText_72
  have w_27 : ∀ (n : Nat) (mem : Mem), K_X12_readText_27 fu n mem = some res → WW D 23 ad (cM ca ad) p l e rm_X12_readText s m args below meth c 1 0 0 Q mem 27 [(0, .ref (ad 0))] [] := by
    intro n
    induction n with
    | zero => intro mem hF; exact no_none (show (none : Option (Int32 × Mem)) = some res from hF)
    | succ n ih =>
      intro mem hF
      rw [K_X12_readText_27] at hF
      refine w_aload_n X 0 dX12_readText_27 rfl rfl 28 rfl ?_
      refine w_callVi (fun x => x) (fun _ => mem) X hZ hF [] 0 ml_0 mo_0 rfl rfl rfl kB_X12_isGood kL_X12_143 (fun res h => ct_X12_isGood l hZ fu mem res h) rfl rfl rfl ⟨Nat.le_of_ble_eq_true rfl, Nat.le_of_ble_eq_true rfl⟩ (Nat.le_of_ble_eq_true rfl) ⟨Nat.zero_le _, Nat.zero_le _⟩ dX12_readText_28 31 rfl (fun x_7 hF => ?_)
      refine w_if_eq X hF 48 34 dX12_readText_31 (by decide) rfl (fun hF => ?_) (fun hF => ?_)
      · refine w_keep [0] rfl ?_
        exact w_48 mem hF
      · refine w_aload_n X 0 dX12_readText_34 rfl rfl 35 rfl ?_
        refine w_getV (v := .int (rd mem 0 6)) X 0 ml_0 mo_0 (T := TX12) (N := 50) rfl in_X12 6 (by decide) kF_X12_130 rfl rfl dX12_readText_35 38 rfl ?_
        refine w_if_eq X hF 48 41 dX12_readText_38 (by decide) rfl (fun hF => ?_) (fun hF => ?_)
        · refine w_keep [0] rfl ?_
          exact w_48 mem hF
        · refine w_aload_n X 0 dX12_readText_41 rfl rfl 42 rfl ?_
          refine w_callVv (fun m => m) X hZ hF [] 0 ml_0 mo_0 rfl rfl rfl kB_X12_statement kL_X12_328 (fun res h => ct_X12_statement l hZ fu mem res h) rfl rfl rfl ⟨Nat.le_of_ble_eq_true rfl, Nat.le_of_ble_eq_true rfl⟩ (Nat.le_of_ble_eq_true rfl) ⟨Nat.zero_le _, Nat.zero_le _⟩ dX12_readText_42 45 rfl (fun m_8 hF => ?_)
          refine w_goto X 27 dX12_readText_45 (by decide) ?_
          refine w_keep [0] rfl ?_
          exact ih m_8 hF
  intro hF
  refine w_aload_n X 0 dX12_readText_0 rfl rfl 1 rfl ?_
  refine w_callVv (fun m => m) X hZ hF [] 0 ml_0 mo_0 rfl rfl rfl kB_X12_beginsText kL_X12_322 (fun res h => ct_X12_beginsText l hZ fu mem res h) rfl rfl rfl ⟨Nat.le_of_ble_eq_true rfl, Nat.le_of_ble_eq_true rfl⟩ (Nat.le_of_ble_eq_true rfl) ⟨Nat.zero_le _, Nat.zero_le _⟩ dX12_readText_1 4 rfl (fun m_1 hF => ?_)
  refine w_aload_n X 0 dX12_readText_4 rfl rfl 5 rfl ?_
  refine w_callVv (fun m => m) X hZ hF [] 0 ml_0 mo_0 rfl rfl rfl kB_X12_laysAside kL_X12_325 (fun res h => ct_X12_laysAside l hZ fu m_1 res h) rfl rfl rfl ⟨Nat.le_of_ble_eq_true rfl, Nat.le_of_ble_eq_true rfl⟩ (Nat.le_of_ble_eq_true rfl) ⟨Nat.zero_le _, Nat.zero_le _⟩ dX12_readText_5 8 rfl (fun m_2 hF => ?_)
  refine w_aload_n X 0 dX12_readText_8 rfl rfl 9 rfl ?_
  refine w_callVv (fun m => m) X hZ hF [] 0 ml_0 mo_0 rfl rfl rfl kB_X12_clears kL_X12_85 (fun res h => ct_X12_clears l hZ fu m_2 res h) rfl rfl rfl ⟨Nat.le_of_ble_eq_true rfl, Nat.le_of_ble_eq_true rfl⟩ (Nat.le_of_ble_eq_true rfl) ⟨Nat.zero_le _, Nat.zero_le _⟩ dX12_readText_9 12 rfl (fun m_3 hF => ?_)
  refine w_aload_n X 0 dX12_readText_12 rfl rfl 13 rfl ?_
  refine w_iconst X 5 dX12_readText_13 rfl 14 rfl ?_
  refine w_putI X 0 ml_0 mo_0 (T := TX12) (N := 50) rfl in_X12 tyX12 tyX12_ok nmX12 24 (by decide) kF_X12_252 rfl rfl rfl rfl (Nat.le_of_ble_eq_true rfl) rfl dX12_readText_14 17 rfl ?_
  refine w_letm hF (fun m_4 hF => ?_)
  refine w_aload_n X 0 dX12_readText_17 rfl rfl 18 rfl ?_
  refine w_iconst X 0 dX12_readText_18 rfl 19 rfl ?_
  refine w_putI X 0 ml_0 mo_0 (T := TX12) (N := 50) rfl in_X12 tyX12 tyX12_ok nmX12 25 (by decide) kF_X12_243 rfl rfl rfl rfl (Nat.le_of_ble_eq_true rfl) rfl dX12_readText_19 22 rfl ?_
  refine w_letm hF (fun m_5 hF => ?_)
  refine w_aload_n X 0 dX12_readText_22 rfl rfl 23 rfl ?_
  refine w_iconst X 0 dX12_readText_23 rfl 24 rfl ?_
  refine w_putI X 0 ml_0 mo_0 (T := TX12) (N := 50) rfl in_X12 tyX12 tyX12_ok nmX12 26 (by decide) kF_X12_249 rfl rfl rfl rfl (Nat.le_of_ble_eq_true rfl) rfl dX12_readText_24 27 rfl ?_
  refine w_letm hF (fun m_6 hF => ?_)
  refine w_keep [0] rfl ?_
  exact w_27 fu m_6 hF

def K_X12_regions_95 (fu : Nat) (k_35 : Int32 → Int32 → Mem → Option (Int32 × Mem)) (k_47 : Int32 → Int32 → Int32 → Mem → Option (Int32 × Mem)) : Nat → Int32 → Int32 → Int32 → Int32 → Mem → Option (Int32 × Mem)
  | 0, _, _, _, _, _ => none
  | n + 1, x1, x2, x3, x5, mem => (if x5 < (rd mem 0 22) then gi x5 81 (bd (K_X12_goesAround fu (rd mem 8 (Int32.toNatClampNeg x5)) mem) (fun m_11 => (K_X12_regions_95 fu k_35 k_47 n x1 x2 x3 (x5 + 1) m_11))) else (k_47 x1 x2 (x3 + 1) mem))
def K_X12_regions_47 (fu : Nat) (k_35 : Int32 → Int32 → Mem → Option (Int32 × Mem)) : Nat → Int32 → Int32 → Int32 → Mem → Option (Int32 × Mem)
  | 0, _, _, _, _ => none
  | n + 1, x1, x2, x3, mem => gi 0 184 ((if x3 < (rd mem 2 (Int32.toNatClampNeg 0)) then gi ((9 * x2) + x3) 81 ((if (rd mem 7 (Int32.toNatClampNeg ((9 * x2) + x3))) = (-1) then lt_ (rd mem 0 22) (fun x_8 => bd (K_X12_comesInto fu x3 x2 0 mem) (fun m_9 => (K_X12_regions_95 fu k_35 (K_X12_regions_47 fu k_35 n) fu (x1 + 1) x2 x3 x_8 m_9))) else (K_X12_regions_47 fu k_35 n x1 x2 (x3 + 1) mem))) else (k_35 x1 (x2 + 1) mem)))
def K_X12_regions_35 (fu : Nat) : Nat → Int32 → Int32 → Mem → Option (Int32 × Mem)
  | 0, _, _, _ => none
  | n + 1, x1, x2, mem => gi 1 184 ((if x2 < (rd mem 2 (Int32.toNatClampNeg 1)) then (K_X12_regions_47 fu (K_X12_regions_35 fu n) fu x1 x2 0 mem) else some (x1, mem)))
def K_X12_regions_14 (fu : Nat) : Nat → Int32 → Int32 → Mem → Option (Int32 × Mem)
  | 0, _, _, _ => none
  | n + 1, x1, x2, mem => (if x2 < 81 then gi x2 81 (lt_ (mw mem 7 (Int32.toNatClampNeg x2) (-1)) (fun m_4 => (K_X12_regions_14 fu n x1 (x2 + 1) m_4))) else (K_X12_regions_35 fu fu x1 0 mem))
def K_X12_regions (fu : Nat) (mem : Mem) : Option (Int32 × Mem) := lt_ (mw mem 0 0 0) (fun m_1 => lt_ (mw m_1 0 22 0) (fun m_2 => (K_X12_regions_14 fu fu 0 0 m_2)))
def rm_X12_regions : Room := { frames := 5, cells := 0, slots := 0, locals := 120 }
set_option maxHeartbeats 4000000 in
set_option maxRecDepth 100000 in
theorem ct_X12_regions (l : Launch) {D : va_G} {ca ad : Nat → Nat} {Z : (Nat → Prop) → State → Heap → Prop} (hZ : ZOK Z) (fu : Nat) (mem : Mem) (res : (Int32 × Mem)) (hF : K_X12_regions fu mem = some res) : CI l D (tyL ca) 23 ad (cM ca ad) Z yX12_regions cX12_regions 6 .int rm_X12_regions [.ref (ad 0)] mem res.1 res.2 := by
  refine start_i (own := RX12) rfl (by decide) (Nat.le_of_ble_eq_true rfl) ?_
  intro p e s m args below meth c Q hQ X
  rw [K_X12_regions] at hF
  revert hF
  have w_95 : ∀ (k_35 : Int32 → Int32 → Mem → Option (Int32 × Mem)) (hk_35 : ∀ (x1 : Int32) (x2 : Int32) (mem : Mem), k_35 x1 x2 mem = some res → WW D 23 ad (cM ca ad) p l e rm_X12_regions s m args below meth c 6 0 0 Q mem 35 [(0, .ref (ad 0)), (1, .int x1), (2, .int x2)] []) (k_47 : Int32 → Int32 → Int32 → Mem → Option (Int32 × Mem)) (hk_47 : ∀ (x1 : Int32) (x2 : Int32) (x3 : Int32) (mem : Mem), k_47 x1 x2 x3 mem = some res → WW D 23 ad (cM ca ad) p l e rm_X12_regions s m args below meth c 6 0 0 Q mem 47 [(0, .ref (ad 0)), (1, .int x1), (2, .int x2), (3, .int x3)] []) (n : Nat) (x1 : Int32) (x2 : Int32) (x3 : Int32) (x5 : Int32) (mem : Mem), K_X12_regions_95 fu k_35 k_47 n x1 x2 x3 x5 mem = some res → WW D 23 ad (cM ca ad) p l e rm_X12_regions s m args below meth c 6 0 0 Q mem 95 [(0, .ref (ad 0)), (1, .int x1), (2, .int x2), (3, .int x3), (5, .int x5)] [] := by
    intro k_35 hk_35 k_47 hk_47 n
    induction n with
    | zero => intro x1 x2 x3 x5 mem hF; exact no_none (show (none : Option (Int32 × Mem)) = some res from hF)
    | succ n ih =>
      intro x1 x2 x3 x5 mem hF
      rw [K_X12_regions_95] at hF
      refine w_iload X 4 dX12_regions_95 rfl 97 rfl ?_
      refine w_aload_n X 0 dX12_regions_97 rfl rfl 98 rfl ?_
      refine w_getV (v := .int (rd mem 0 22)) X 0 ml_0 mo_0 (T := TX12) (N := 50) rfl in_X12 22 (by decide) kF_X12_196 rfl rfl dX12_regions_98 101 rfl ?_
      refine w_icmp_ge X hF 121 104 dX12_regions_101 (by decide) rfl (fun hF => ?_) (fun hF => ?_)
      · refine w_aload_n X 0 dX12_regions_104 rfl rfl 105 rfl ?_
        refine w_aload_n X 0 dX12_regions_105 rfl rfl 106 rfl ?_
        refine w_getV (v := .ref (ad 8)) X 0 ml_0 mo_0 (T := TX12) (N := 50) rfl in_X12 21 (by decide) kF_X12_38 rfl rfl dX12_regions_106 109 rfl ?_
        refine w_iload X 4 dX12_regions_109 rfl 111 rfl ?_
        refine w_gi hF (fun h_10 hF => ?_)
        refine w_ial X 8 ml_8 mo_8 (t0 := 0) rfl h_10 dX12_regions_111 112 rfl ?_
        refine w_callVv (fun m => m) X hZ hF [.int (rd mem 8 (Int32.toNatClampNeg x5))] 0 ml_0 mo_0 rfl rfl rfl kB_X12_goesAround kL_X12_207 (fun res h => ct_X12_goesAround l hZ fu (rd mem 8 (Int32.toNatClampNeg x5)) mem res h) rfl rfl rfl ⟨Nat.le_of_ble_eq_true rfl, Nat.le_of_ble_eq_true rfl⟩ (Nat.le_of_ble_eq_true rfl) ⟨Nat.zero_le _, Nat.zero_le _⟩ dX12_regions_112 115 rfl (fun m_11 hF => ?_)
        refine w_iinc X 4 (x5 + 1) [(5, .int (x5 + 1)), (0, .ref (ad 0)), (1, .int x1), (2, .int x2), (3, .int x3)] dX12_regions_115 rfl rfl (by decide) rfl 118 rfl ?_
        refine w_goto X 95 dX12_regions_118 (by decide) ?_
        refine w_keep [1, 2, 3, 4, 0] rfl ?_
        exact ih x1 x2 x3 (x5 + 1) m_11 hF
      · refine w_iinc X 3 (x3 + 1) [(3, .int (x3 + 1)), (0, .ref (ad 0)), (1, .int x1), (2, .int x2), (5, .int x5)] dX12_regions_121 rfl rfl (by decide) rfl 124 rfl ?_
        refine w_goto X 47 dX12_regions_124 (by decide) ?_
        refine w_keep [1, 2, 3, 0] rfl ?_
        exact hk_47 x1 x2 (x3 + 1) mem hF
  have w_47 : ∀ (k_35 : Int32 → Int32 → Mem → Option (Int32 × Mem)) (hk_35 : ∀ (x1 : Int32) (x2 : Int32) (mem : Mem), k_35 x1 x2 mem = some res → WW D 23 ad (cM ca ad) p l e rm_X12_regions s m args below meth c 6 0 0 Q mem 35 [(0, .ref (ad 0)), (1, .int x1), (2, .int x2)] []) (n : Nat) (x1 : Int32) (x2 : Int32) (x3 : Int32) (mem : Mem), K_X12_regions_47 fu k_35 n x1 x2 x3 mem = some res → WW D 23 ad (cM ca ad) p l e rm_X12_regions s m args below meth c 6 0 0 Q mem 47 [(0, .ref (ad 0)), (1, .int x1), (2, .int x2), (3, .int x3)] [] := by
    intro k_35 hk_35 n
    induction n with
    | zero => intro x1 x2 x3 mem hF; exact no_none (show (none : Option (Int32 × Mem)) = some res from hF)
    | succ n ih =>
      intro x1 x2 x3 mem hF
      rw [K_X12_regions_47] at hF
      refine w_iload_n X 3 dX12_regions_47 rfl rfl 48 rfl ?_
      refine w_aload_n X 0 dX12_regions_48 rfl rfl 49 rfl ?_
      refine w_getV (v := .ref (ad 2)) X 0 ml_0 mo_0 (T := TX12) (N := 50) rfl in_X12 13 (by decide) kF_X12_20 rfl rfl dX12_regions_49 52 rfl ?_
      refine w_iconst X 0 dX12_regions_52 rfl 53 rfl ?_
      refine w_gi hF (fun h_6 hF => ?_)
      refine w_ial X 2 ml_2 mo_2 (t0 := 0) rfl h_6 dX12_regions_53 54 rfl ?_
      refine w_icmp_ge X hF 127 57 dX12_regions_54 (by decide) rfl (fun hF => ?_) (fun hF => ?_)
      · refine w_aload_n X 0 dX12_regions_57 rfl rfl 58 rfl ?_
        refine w_getV (v := .ref (ad 7)) X 0 ml_0 mo_0 (T := TX12) (N := 50) rfl in_X12 20 (by decide) kF_X12_35 rfl rfl dX12_regions_58 61 rfl ?_
        refine w_bipush X 9 dX12_regions_61 rfl 63 rfl ?_
        refine w_iload_n X 2 dX12_regions_63 rfl rfl 64 rfl ?_
        refine w_imul X dX12_regions_64 65 rfl ?_
        refine w_iload_n X 3 dX12_regions_65 rfl rfl 66 rfl ?_
        refine w_iadd X dX12_regions_66 67 rfl ?_
        refine w_gi hF (fun h_7 hF => ?_)
        refine w_ial X 7 ml_7 mo_7 (t0 := 0) rfl h_7 dX12_regions_67 68 rfl ?_
        refine w_iconst X (-1) dX12_regions_68 rfl 69 rfl ?_
        refine w_icmp_eq X hF 75 72 dX12_regions_69 (by decide) rfl (fun hF => ?_) (fun hF => ?_)
        · refine w_iinc X 1 (x1 + 1) [(1, .int (x1 + 1)), (0, .ref (ad 0)), (2, .int x2), (3, .int x3)] dX12_regions_75 rfl rfl (by decide) rfl 78 rfl ?_
          refine w_aload_n X 1 dX12_regions_78 rfl rfl 79 rfl ?_
          refine w_getV (v := .int (rd mem 0 22)) X 0 ml_0 mo_0 (T := TX12) (N := 50) rfl in_X12 22 (by decide) kF_X12_196 rfl rfl dX12_regions_79 82 rfl ?_
          refine w_let hF (fun x_8 hF => ?_)
          refine w_istore X [(4, .int x_8), (1, .int (x1 + 1)), (0, .ref (ad 0)), (2, .int x2), (3, .int x3)] dX12_regions_82 (by decide) rfl 84 rfl ?_
          refine w_aload_n X 2 dX12_regions_84 rfl rfl 85 rfl ?_
          refine w_iload_n X 4 dX12_regions_85 rfl rfl 86 rfl ?_
          refine w_iload_n X 3 dX12_regions_86 rfl rfl 87 rfl ?_
          refine w_iconst X 0 dX12_regions_87 rfl 88 rfl ?_
          refine w_callVv (fun m => m) X hZ hF [.int x3, .int x2, .int 0] 0 ml_0 mo_0 rfl rfl rfl kB_X12_comesInto kL_X12_203 (fun res h => ct_X12_comesInto l hZ fu x3 x2 0 mem res h) rfl rfl rfl ⟨Nat.le_of_ble_eq_true rfl, Nat.le_of_ble_eq_true rfl⟩ (Nat.le_of_ble_eq_true rfl) ⟨Nat.zero_le _, Nat.zero_le _⟩ dX12_regions_88 91 rfl (fun m_9 hF => ?_)
          refine w_iload X 0 dX12_regions_91 rfl 93 rfl ?_
          refine w_istore X [(5, .int x_8), (4, .int x_8), (1, .int (x1 + 1)), (0, .ref (ad 0)), (2, .int x2), (3, .int x3)] dX12_regions_93 (by decide) rfl 95 rfl ?_
          refine w_keep [3, 2, 4, 5, 0] rfl ?_
          exact w_95 k_35 hk_35 (K_X12_regions_47 fu k_35 n) ih fu (x1 + 1) x2 x3 x_8 m_9 hF
        · refine w_goto X 121 dX12_regions_72 (by decide) ?_
          refine w_iinc X 3 (x3 + 1) [(3, .int (x3 + 1)), (0, .ref (ad 0)), (1, .int x1), (2, .int x2)] dX12_regions_121 rfl rfl (by decide) rfl 124 rfl ?_
          refine w_goto X 47 dX12_regions_124 (by decide) ?_
          refine w_keep [1, 2, 3, 0] rfl ?_
          exact ih x1 x2 (x3 + 1) mem hF
      · refine w_iinc X 2 (x2 + 1) [(2, .int (x2 + 1)), (0, .ref (ad 0)), (1, .int x1), (3, .int x3)] dX12_regions_127 rfl rfl (by decide) rfl 130 rfl ?_
        refine w_goto X 35 dX12_regions_130 (by decide) ?_
        refine w_keep [1, 2, 0] rfl ?_
        exact hk_35 x1 (x2 + 1) mem hF
  have w_35 : ∀ (n : Nat) (x1 : Int32) (x2 : Int32) (mem : Mem), K_X12_regions_35 fu n x1 x2 mem = some res → WW D 23 ad (cM ca ad) p l e rm_X12_regions s m args below meth c 6 0 0 Q mem 35 [(0, .ref (ad 0)), (1, .int x1), (2, .int x2)] [] := by
    intro n
    induction n with
    | zero => intro x1 x2 mem hF; exact no_none (show (none : Option (Int32 × Mem)) = some res from hF)
    | succ n ih =>
      intro x1 x2 mem hF
      rw [K_X12_regions_35] at hF
      refine w_iload_n X 2 dX12_regions_35 rfl rfl 36 rfl ?_
      refine w_aload_n X 0 dX12_regions_36 rfl rfl 37 rfl ?_
      refine w_getV (v := .ref (ad 2)) X 0 ml_0 mo_0 (T := TX12) (N := 50) rfl in_X12 13 (by decide) kF_X12_20 rfl rfl dX12_regions_37 40 rfl ?_
      refine w_iconst X 1 dX12_regions_40 rfl 41 rfl ?_
      refine w_gi hF (fun h_5 hF => ?_)
      refine w_ial X 2 ml_2 mo_2 (t0 := 0) rfl h_5 dX12_regions_41 42 rfl ?_
      refine w_icmp_ge X hF 133 45 dX12_regions_42 (by decide) rfl (fun hF => ?_) (fun hF => ?_)
      · refine w_iconst X 0 dX12_regions_45 rfl 46 rfl ?_
        refine w_istore_n X [(3, .int 0), (0, .ref (ad 0)), (1, .int x1), (2, .int x2)] dX12_regions_46 rfl (by decide) rfl 47 rfl ?_
        refine w_keep [1, 2, 3, 0] rfl ?_
        exact w_47 (K_X12_regions_35 fu n) ih fu x1 x2 0 mem hF
      · refine w_iload_n X 1 dX12_regions_133 rfl rfl 134 rfl ?_
        exact w_iret X hQ (o_inj1 hF) (o_inj2 hF) rfl dX12_regions_134
  have w_14 : ∀ (n : Nat) (x1 : Int32) (x2 : Int32) (mem : Mem), K_X12_regions_14 fu n x1 x2 mem = some res → WW D 23 ad (cM ca ad) p l e rm_X12_regions s m args below meth c 6 0 0 Q mem 14 [(0, .ref (ad 0)), (1, .int x1), (2, .int x2)] [] := by
    intro n
    induction n with
    | zero => intro x1 x2 mem hF; exact no_none (show (none : Option (Int32 × Mem)) = some res from hF)
    | succ n ih =>
      intro x1 x2 mem hF
      rw [K_X12_regions_14] at hF
      refine w_iload_n X 2 dX12_regions_14 rfl rfl 15 rfl ?_
      refine w_bipush X 81 dX12_regions_15 rfl 17 rfl ?_
      refine w_icmp_ge X hF 33 20 dX12_regions_17 (by decide) rfl (fun hF => ?_) (fun hF => ?_)
      · refine w_aload_n X 0 dX12_regions_20 rfl rfl 21 rfl ?_
        refine w_getV (v := .ref (ad 7)) X 0 ml_0 mo_0 (T := TX12) (N := 50) rfl in_X12 20 (by decide) kF_X12_35 rfl rfl dX12_regions_21 24 rfl ?_
        refine w_iload_n X 2 dX12_regions_24 rfl rfl 25 rfl ?_
        refine w_iconst X (-1) dX12_regions_25 rfl 26 rfl ?_
        refine w_gi hF (fun h_3 hF => ?_)
        refine w_ias X 7 ml_7 mo_7 (t0 := 0) rfl h_3 dX12_regions_26 27 rfl ?_
        refine w_letm hF (fun m_4 hF => ?_)
        refine w_iinc X 2 (x2 + 1) [(2, .int (x2 + 1)), (0, .ref (ad 0)), (1, .int x1)] dX12_regions_27 rfl rfl (by decide) rfl 30 rfl ?_
        refine w_goto X 14 dX12_regions_30 (by decide) ?_
        refine w_keep [1, 2, 0] rfl ?_
        exact ih x1 (x2 + 1) m_4 hF
      · refine w_iconst X 0 dX12_regions_33 rfl 34 rfl ?_
        refine w_istore_n X [(2, .int 0), (0, .ref (ad 0)), (1, .int x1)] dX12_regions_34 rfl (by decide) rfl 35 rfl ?_
        refine w_keep [1, 2, 0] rfl ?_
        exact w_35 fu x1 0 mem hF
  intro hF
  refine w_aload_n X 0 dX12_regions_0 rfl rfl 1 rfl ?_
  refine w_iconst X 0 dX12_regions_1 rfl 2 rfl ?_
  refine w_putI X 0 ml_0 mo_0 (T := TX12) (N := 50) rfl in_X12 tyX12 tyX12_ok nmX12 0 (by decide) kF_X12_88 rfl rfl rfl rfl (Nat.le_of_ble_eq_true rfl) rfl dX12_regions_2 5 rfl ?_
  refine w_letm hF (fun m_1 hF => ?_)
  refine w_iconst X 0 dX12_regions_5 rfl 6 rfl ?_
  refine w_istore_n X [(1, .int 0), (0, .ref (ad 0))] dX12_regions_6 rfl (by decide) rfl 7 rfl ?_
  refine w_aload_n X 1 dX12_regions_7 rfl rfl 8 rfl ?_
  refine w_iconst X 0 dX12_regions_8 rfl 9 rfl ?_
  refine w_putI X 0 ml_0 mo_0 (T := TX12) (N := 50) rfl in_X12 tyX12 tyX12_ok nmX12 22 (by decide) kF_X12_196 rfl rfl rfl rfl (Nat.le_of_ble_eq_true rfl) rfl dX12_regions_9 12 rfl ?_
  refine w_letm hF (fun m_2 hF => ?_)
  refine w_iconst X 0 dX12_regions_12 rfl 13 rfl ?_
  refine w_istore_n X [(2, .int 0), (1, .int 0), (0, .ref (ad 0))] dX12_regions_13 rfl (by decide) rfl 14 rfl ?_
  refine w_keep [2, 1, 0] rfl ?_
  exact w_14 fu 0 0 m_2 hF

def K_X12_tell (fu : Nat) (x1 : Int32) (mem : Mem) : Option Mem := gi (rd mem 0 48) 400 (lt_ (mw mem 22 (Int32.toNatClampNeg (rd mem 0 48)) x1) (fun m_2 => lt_ (mw m_2 0 48 ((rd m_2 0 48) + 1)) (fun m_3 => some m_3)))
def rm_X12_tell : Room := { frames := 0, cells := 0, slots := 0, locals := 0 }
set_option maxHeartbeats 4000000 in
set_option maxRecDepth 100000 in
theorem ct_X12_tell (l : Launch) {D : va_G} {ca ad : Nat → Nat} {Z : (Nat → Prop) → State → Heap → Prop} (hZ : ZOK Z) (fu : Nat) (x1 : Int32) (mem : Mem) (res : Mem) (hF : K_X12_tell fu x1 mem = some res) : CV l D (tyL ca) 23 ad (cM ca ad) Z yX12_tell cX12_tell 2 rm_X12_tell [.ref (ad 0), .int x1] mem res := by
  refine start_v (own := RX12) rfl (by decide) (Nat.le_of_ble_eq_true rfl) ?_
  intro p e s m args below meth c Q hQ X
  rw [K_X12_tell] at hF
  revert hF
  intro hF
  refine w_aload_n X 0 dX12_tell_0 rfl rfl 1 rfl ?_
  refine w_getV (v := .ref (ad 22)) X 0 ml_0 mo_0 (T := TX12) (N := 50) rfl in_X12 47 (by decide) kF_X12_82 rfl rfl dX12_tell_1 4 rfl ?_
  refine w_aload_n X 0 dX12_tell_4 rfl rfl 5 rfl ?_
  refine w_getV (v := .int (rd mem 0 48)) X 0 ml_0 mo_0 (T := TX12) (N := 50) rfl in_X12 48 (by decide) kF_X12_513 rfl rfl dX12_tell_5 8 rfl ?_
  refine w_iload_n X 1 dX12_tell_8 rfl rfl 9 rfl ?_
  refine w_gi hF (fun h_1 hF => ?_)
  refine w_ias X 22 ml_22 mo_22 (t0 := 0) rfl h_1 dX12_tell_9 10 rfl ?_
  refine w_letm hF (fun m_2 hF => ?_)
  refine w_aload_n X 0 dX12_tell_10 rfl rfl 11 rfl ?_
  refine w_dup X dX12_tell_11 rfl 12 rfl ?_
  refine w_getV (v := .int (rd m_2 0 48)) X 0 ml_0 mo_0 (T := TX12) (N := 50) rfl in_X12 48 (by decide) kF_X12_513 rfl rfl dX12_tell_12 15 rfl ?_
  refine w_iconst X 1 dX12_tell_15 rfl 16 rfl ?_
  refine w_iadd X dX12_tell_16 17 rfl ?_
  refine w_putI X 0 ml_0 mo_0 (T := TX12) (N := 50) rfl in_X12 tyX12 tyX12_ok nmX12 48 (by decide) kF_X12_513 rfl rfl rfl rfl (Nat.le_of_ble_eq_true rfl) rfl dX12_tell_17 20 rfl ?_
  refine w_letm hF (fun m_3 hF => ?_)
  exact w_vret X hQ (o_inj hF) dX12_tell_20

def K_X12_report_124 (fu : Nat) (k_88 : Int32 → Mem → Option (Int32 × Mem)) (x1 : Int32) (xs0 : Int32) (mem : Mem) : Option (Int32 × Mem) := bd (K_X12_tell fu xs0 mem) (fun m_13 => lt_ (x1 - x1 / 8 * 8) (fun x_14 => bd (K_X12_tell fu (48 + x_14) m_13) (fun m_15 => lt_ (x1 / 8) (fun x_16 => bd (K_X12_tell fu (48 + x_16) m_15) (fun m_17 => (k_88 (x1 + 1) m_17))))))
def K_X12_report_88 (fu : Nat) : Nat → Int32 → Mem → Option (Int32 × Mem)
  | 0, _, _ => none
  | n + 1, x1, mem => (if x1 < 64 then gi (120 + x1) 184 (lt_ (rd mem 2 (Int32.toNatClampNeg (120 + x1))) (fun x_7 => (if x_7 = 0 then (K_X12_report_88 fu n (x1 + 1) mem) else (if x_7 = 1 then (K_X12_report_124 fu (K_X12_report_88 fu n) x1 45 mem) else (K_X12_report_124 fu (K_X12_report_88 fu n) x1 124 mem))))) else bd (K_X12_tell fu 10 mem) (fun m_8 => some ((rd m_8 0 48), m_8)))
def K_X12_report_65 (fu : Nat) (k_24 : Int32 → Mem → Option (Int32 × Mem)) (k_30 : Int32 → Int32 → Mem → Option (Int32 × Mem)) (x1 : Int32) (x2 : Int32) (xs0 : Int32) (mem : Mem) : Option (Int32 × Mem) := bd (K_X12_tell fu xs0 mem) (fun m_18 => (k_30 x1 (x2 + 1) m_18))
def K_X12_report_30 (fu : Nat) (k_24 : Int32 → Mem → Option (Int32 × Mem)) : Nat → Int32 → Int32 → Mem → Option (Int32 × Mem)
  | 0, _, _, _ => none
  | n + 1, x1, x2, mem => gi 0 184 ((if x2 < (rd mem 2 (Int32.toNatClampNeg 0)) then bd (K_X12_pawnIn fu x2 x1 mem) (fun x_10 => (if x_10 = (-1) then (K_X12_report_65 fu k_24 (K_X12_report_30 fu k_24 n) x1 x2 46 mem) else bd (K_X12_pawnIn fu x2 x1 mem) (fun x_11 => (K_X12_report_65 fu k_24 (K_X12_report_30 fu k_24 n) x1 x2 (48 + x_11) mem)))) else bd (K_X12_tell fu 10 mem) (fun m_12 => (k_24 (x1 + (-1)) m_12))))
def K_X12_report_24 (fu : Nat) : Nat → Int32 → Mem → Option (Int32 × Mem)
  | 0, _, _ => none
  | n + 1, x1, mem => (if x1 < 0 then (K_X12_report_88 fu fu 0 mem) else (K_X12_report_30 fu (K_X12_report_24 fu n) fu x1 0 mem))
def K_X12_report (fu : Nat) (mem : Mem) : Option (Int32 × Mem) := lt_ (mw mem 0 0 0) (fun m_1 => lt_ (mw m_1 0 48 0) (fun m_2 => lt_ (mw m_2 0 49 1) (fun m_3 => gi 1 184 (lt_ ((rd m_3 2 (Int32.toNatClampNeg 1)) - 1) (fun x_5 => (K_X12_report_24 fu fu x_5 m_3))))))
def rm_X12_report : Room := { frames := 3, cells := 0, slots := 0, locals := 67 }
set_option maxHeartbeats 4000000 in
set_option maxRecDepth 100000 in
theorem ct_X12_report (l : Launch) {D : va_G} {ca ad : Nat → Nat} {Z : (Nat → Prop) → State → Heap → Prop} (hZ : ZOK Z) (fu : Nat) (mem : Mem) (res : (Int32 × Mem)) (hF : K_X12_report fu mem = some res) : CI l D (tyL ca) 23 ad (cM ca ad) Z yX12_report cX12_report 3 .int rm_X12_report [.ref (ad 0)] mem res.1 res.2 := by
  refine start_i (own := RX12) rfl (by decide) (Nat.le_of_ble_eq_true rfl) ?_
  intro p e s m args below meth c Q hQ X
  rw [K_X12_report] at hF
  revert hF
  have w_124 : ∀ (k_88 : Int32 → Mem → Option (Int32 × Mem)) (hk_88 : ∀ (x1 : Int32) (mem : Mem), k_88 x1 mem = some res → WW D 23 ad (cM ca ad) p l e rm_X12_report s m args below meth c 3 0 0 Q mem 88 [(0, .ref (ad 0)), (1, .int x1)] []) (x1 : Int32) (xs0 : Int32) (mem : Mem), K_X12_report_124 fu k_88 x1 xs0 mem = some res → WW D 23 ad (cM ca ad) p l e rm_X12_report s m args below meth c 3 0 0 Q mem 124 [(0, .ref (ad 0)), (1, .int x1)] [.int xs0, .ref (ad 0)] := by
    intro k_88 hk_88 x1 xs0 mem hF
    rw [K_X12_report_124] at hF
    refine w_callVv (fun m => m) X hZ hF [.int xs0] 0 ml_0 mo_0 rfl rfl rfl kB_X12_tell kL_X12_519 (fun res h => ct_X12_tell l hZ fu xs0 mem res h) rfl rfl rfl ⟨Nat.le_of_ble_eq_true rfl, Nat.le_of_ble_eq_true rfl⟩ (Nat.le_of_ble_eq_true rfl) ⟨Nat.zero_le _, Nat.zero_le _⟩ dX12_report_124 127 rfl (fun m_13 hF => ?_)
    refine w_aload_n X 0 dX12_report_127 rfl rfl 128 rfl ?_
    refine w_bipush X 48 dX12_report_128 rfl 130 rfl ?_
    refine w_iload_n X 1 dX12_report_130 rfl rfl 131 rfl ?_
    refine w_bipush X 8 dX12_report_131 rfl 133 rfl ?_
    refine w_irem X (by decide) dX12_report_133 134 rfl ?_
    refine w_let hF (fun x_14 hF => ?_)
    refine w_iadd X dX12_report_134 135 rfl ?_
    refine w_callVv (fun m => m) X hZ hF [.int (48 + x_14)] 0 ml_0 mo_0 rfl rfl rfl kB_X12_tell kL_X12_519 (fun res h => ct_X12_tell l hZ fu (48 + x_14) m_13 res h) rfl rfl rfl ⟨Nat.le_of_ble_eq_true rfl, Nat.le_of_ble_eq_true rfl⟩ (Nat.le_of_ble_eq_true rfl) ⟨Nat.zero_le _, Nat.zero_le _⟩ dX12_report_135 138 rfl (fun m_15 hF => ?_)
    refine w_aload_n X 0 dX12_report_138 rfl rfl 139 rfl ?_
    refine w_bipush X 48 dX12_report_139 rfl 141 rfl ?_
    refine w_iload_n X 1 dX12_report_141 rfl rfl 142 rfl ?_
    refine w_bipush X 8 dX12_report_142 rfl 144 rfl ?_
    refine w_idiv X (by decide) dX12_report_144 145 rfl ?_
    refine w_let hF (fun x_16 hF => ?_)
    refine w_iadd X dX12_report_145 146 rfl ?_
    refine w_callVv (fun m => m) X hZ hF [.int (48 + x_16)] 0 ml_0 mo_0 rfl rfl rfl kB_X12_tell kL_X12_519 (fun res h => ct_X12_tell l hZ fu (48 + x_16) m_15 res h) rfl rfl rfl ⟨Nat.le_of_ble_eq_true rfl, Nat.le_of_ble_eq_true rfl⟩ (Nat.le_of_ble_eq_true rfl) ⟨Nat.zero_le _, Nat.zero_le _⟩ dX12_report_146 149 rfl (fun m_17 hF => ?_)
    refine w_iinc X 1 (x1 + 1) [(1, .int (x1 + 1)), (0, .ref (ad 0))] dX12_report_149 rfl rfl (by decide) rfl 152 rfl ?_
    refine w_goto X 88 dX12_report_152 (by decide) ?_
    refine w_keep [1, 0] rfl ?_
    exact hk_88 (x1 + 1) m_17 hF
  have w_88 : ∀ (n : Nat) (x1 : Int32) (mem : Mem), K_X12_report_88 fu n x1 mem = some res → WW D 23 ad (cM ca ad) p l e rm_X12_report s m args below meth c 3 0 0 Q mem 88 [(0, .ref (ad 0)), (1, .int x1)] [] := by
    intro n
    induction n with
    | zero => intro x1 mem hF; exact no_none (show (none : Option (Int32 × Mem)) = some res from hF)
    | succ n ih =>
      intro x1 mem hF
      rw [K_X12_report_88] at hF
      refine w_iload_n X 1 dX12_report_88 rfl rfl 89 rfl ?_
      refine w_bipush X 64 dX12_report_89 rfl 91 rfl ?_
      refine w_icmp_ge X hF 155 94 dX12_report_91 (by decide) rfl (fun hF => ?_) (fun hF => ?_)
      · refine w_aload_n X 0 dX12_report_94 rfl rfl 95 rfl ?_
        refine w_getV (v := .ref (ad 2)) X 0 ml_0 mo_0 (T := TX12) (N := 50) rfl in_X12 13 (by decide) kF_X12_20 rfl rfl dX12_report_95 98 rfl ?_
        refine w_bipush X 120 dX12_report_98 rfl 100 rfl ?_
        refine w_iload_n X 1 dX12_report_100 rfl rfl 101 rfl ?_
        refine w_iadd X dX12_report_101 102 rfl ?_
        refine w_gi hF (fun h_6 hF => ?_)
        refine w_ial X 2 ml_2 mo_2 (t0 := 0) rfl h_6 dX12_report_102 103 rfl ?_
        refine w_let hF (fun x_7 hF => ?_)
        refine w_istore_n X [(2, .int x_7), (0, .ref (ad 0)), (1, .int x1)] dX12_report_103 rfl (by decide) rfl 104 rfl ?_
        refine w_iload_n X 0 dX12_report_104 rfl rfl 105 rfl ?_
        refine w_if_ne X hF 111 108 dX12_report_105 (by decide) rfl (fun hF => ?_) (fun hF => ?_)
        · refine w_goto X 149 dX12_report_108 (by decide) ?_
          refine w_iinc X 2 (x1 + 1) [(1, .int (x1 + 1)), (2, .int x_7), (0, .ref (ad 0))] dX12_report_149 rfl rfl (by decide) rfl 152 rfl ?_
          refine w_goto X 88 dX12_report_152 (by decide) ?_
          refine w_keep [2, 0] rfl ?_
          exact ih (x1 + 1) mem hF
        · refine w_aload_n X 1 dX12_report_111 rfl rfl 112 rfl ?_
          refine w_iload_n X 0 dX12_report_112 rfl rfl 113 rfl ?_
          refine w_iconst X 1 dX12_report_113 rfl 114 rfl ?_
          refine w_icmp_ne X hF 122 117 dX12_report_114 (by decide) rfl (fun hF => ?_) (fun hF => ?_)
          · refine w_bipush X 45 dX12_report_117 rfl 119 rfl ?_
            refine w_goto X 124 dX12_report_119 (by decide) ?_
            refine w_keep [1, 2] rfl ?_
            exact w_124 (K_X12_report_88 fu n) ih x1 45 mem hF
          · refine w_bipush X 124 dX12_report_122 rfl 124 rfl ?_
            refine w_keep [1, 2] rfl ?_
            exact w_124 (K_X12_report_88 fu n) ih x1 124 mem hF
      · refine w_aload_n X 0 dX12_report_155 rfl rfl 156 rfl ?_
        refine w_bipush X 10 dX12_report_156 rfl 158 rfl ?_
        refine w_callVv (fun m => m) X hZ hF [.int 10] 0 ml_0 mo_0 rfl rfl rfl kB_X12_tell kL_X12_519 (fun res h => ct_X12_tell l hZ fu 10 mem res h) rfl rfl rfl ⟨Nat.le_of_ble_eq_true rfl, Nat.le_of_ble_eq_true rfl⟩ (Nat.le_of_ble_eq_true rfl) ⟨Nat.zero_le _, Nat.zero_le _⟩ dX12_report_158 161 rfl (fun m_8 hF => ?_)
        refine w_aload_n X 0 dX12_report_161 rfl rfl 162 rfl ?_
        refine w_getV (v := .int (rd m_8 0 48)) X 0 ml_0 mo_0 (T := TX12) (N := 50) rfl in_X12 48 (by decide) kF_X12_513 rfl rfl dX12_report_162 165 rfl ?_
        exact w_iret X hQ (o_inj1 hF) (o_inj2 hF) rfl dX12_report_165
  have w_65 : ∀ (k_24 : Int32 → Mem → Option (Int32 × Mem)) (hk_24 : ∀ (x1 : Int32) (mem : Mem), k_24 x1 mem = some res → WW D 23 ad (cM ca ad) p l e rm_X12_report s m args below meth c 3 0 0 Q mem 24 [(0, .ref (ad 0)), (1, .int x1)] []) (k_30 : Int32 → Int32 → Mem → Option (Int32 × Mem)) (hk_30 : ∀ (x1 : Int32) (x2 : Int32) (mem : Mem), k_30 x1 x2 mem = some res → WW D 23 ad (cM ca ad) p l e rm_X12_report s m args below meth c 3 0 0 Q mem 30 [(0, .ref (ad 0)), (1, .int x1), (2, .int x2)] []) (x1 : Int32) (x2 : Int32) (xs0 : Int32) (mem : Mem), K_X12_report_65 fu k_24 k_30 x1 x2 xs0 mem = some res → WW D 23 ad (cM ca ad) p l e rm_X12_report s m args below meth c 3 0 0 Q mem 65 [(0, .ref (ad 0)), (1, .int x1), (2, .int x2)] [.int xs0, .ref (ad 0)] := by
    intro k_24 hk_24 k_30 hk_30 x1 x2 xs0 mem hF
    rw [K_X12_report_65] at hF
    refine w_callVv (fun m => m) X hZ hF [.int xs0] 0 ml_0 mo_0 rfl rfl rfl kB_X12_tell kL_X12_519 (fun res h => ct_X12_tell l hZ fu xs0 mem res h) rfl rfl rfl ⟨Nat.le_of_ble_eq_true rfl, Nat.le_of_ble_eq_true rfl⟩ (Nat.le_of_ble_eq_true rfl) ⟨Nat.zero_le _, Nat.zero_le _⟩ dX12_report_65 68 rfl (fun m_18 hF => ?_)
    refine w_iinc X 2 (x2 + 1) [(2, .int (x2 + 1)), (0, .ref (ad 0)), (1, .int x1)] dX12_report_68 rfl rfl (by decide) rfl 71 rfl ?_
    refine w_goto X 30 dX12_report_71 (by decide) ?_
    refine w_keep [1, 2, 0] rfl ?_
    exact hk_30 x1 (x2 + 1) m_18 hF
  have w_30 : ∀ (k_24 : Int32 → Mem → Option (Int32 × Mem)) (hk_24 : ∀ (x1 : Int32) (mem : Mem), k_24 x1 mem = some res → WW D 23 ad (cM ca ad) p l e rm_X12_report s m args below meth c 3 0 0 Q mem 24 [(0, .ref (ad 0)), (1, .int x1)] []) (n : Nat) (x1 : Int32) (x2 : Int32) (mem : Mem), K_X12_report_30 fu k_24 n x1 x2 mem = some res → WW D 23 ad (cM ca ad) p l e rm_X12_report s m args below meth c 3 0 0 Q mem 30 [(0, .ref (ad 0)), (1, .int x1), (2, .int x2)] [] := by
    intro k_24 hk_24 n
    induction n with
    | zero => intro x1 x2 mem hF; exact no_none (show (none : Option (Int32 × Mem)) = some res from hF)
    | succ n ih =>
      intro x1 x2 mem hF
      rw [K_X12_report_30] at hF
      refine w_iload_n X 2 dX12_report_30 rfl rfl 31 rfl ?_
      refine w_aload_n X 0 dX12_report_31 rfl rfl 32 rfl ?_
      refine w_getV (v := .ref (ad 2)) X 0 ml_0 mo_0 (T := TX12) (N := 50) rfl in_X12 13 (by decide) kF_X12_20 rfl rfl dX12_report_32 35 rfl ?_
      refine w_iconst X 0 dX12_report_35 rfl 36 rfl ?_
      refine w_gi hF (fun h_9 hF => ?_)
      refine w_ial X 2 ml_2 mo_2 (t0 := 0) rfl h_9 dX12_report_36 37 rfl ?_
      refine w_icmp_ge X hF 74 40 dX12_report_37 (by decide) rfl (fun hF => ?_) (fun hF => ?_)
      · refine w_aload_n X 0 dX12_report_40 rfl rfl 41 rfl ?_
        refine w_aload_n X 0 dX12_report_41 rfl rfl 42 rfl ?_
        refine w_iload_n X 2 dX12_report_42 rfl rfl 43 rfl ?_
        refine w_iload_n X 1 dX12_report_43 rfl rfl 44 rfl ?_
        refine w_callVi (fun x => x) (fun _ => mem) X hZ hF [.int x2, .int x1] 0 ml_0 mo_0 rfl rfl rfl kB_X12_pawnIn kL_X12_259 (fun res h => ct_X12_pawnIn l hZ fu x2 x1 mem res h) rfl rfl rfl ⟨Nat.le_of_ble_eq_true rfl, Nat.le_of_ble_eq_true rfl⟩ (Nat.le_of_ble_eq_true rfl) ⟨Nat.zero_le _, Nat.zero_le _⟩ dX12_report_44 47 rfl (fun x_10 hF => ?_)
        refine w_iconst X (-1) dX12_report_47 rfl 48 rfl ?_
        refine w_icmp_ne X hF 56 51 dX12_report_48 (by decide) rfl (fun hF => ?_) (fun hF => ?_)
        · refine w_bipush X 46 dX12_report_51 rfl 53 rfl ?_
          refine w_goto X 65 dX12_report_53 (by decide) ?_
          refine w_keep [0, 1, 2] rfl ?_
          exact w_65 k_24 hk_24 (K_X12_report_30 fu k_24 n) ih x1 x2 46 mem hF
        · refine w_bipush X 48 dX12_report_56 rfl 58 rfl ?_
          refine w_aload_n X 0 dX12_report_58 rfl rfl 59 rfl ?_
          refine w_iload_n X 2 dX12_report_59 rfl rfl 60 rfl ?_
          refine w_iload_n X 1 dX12_report_60 rfl rfl 61 rfl ?_
          refine w_callVi (fun x => x) (fun _ => mem) X hZ hF [.int x2, .int x1] 0 ml_0 mo_0 rfl rfl rfl kB_X12_pawnIn kL_X12_259 (fun res h => ct_X12_pawnIn l hZ fu x2 x1 mem res h) rfl rfl rfl ⟨Nat.le_of_ble_eq_true rfl, Nat.le_of_ble_eq_true rfl⟩ (Nat.le_of_ble_eq_true rfl) ⟨Nat.zero_le _, Nat.zero_le _⟩ dX12_report_61 64 rfl (fun x_11 hF => ?_)
          refine w_iadd X dX12_report_64 65 rfl ?_
          refine w_keep [0, 1, 2] rfl ?_
          exact w_65 k_24 hk_24 (K_X12_report_30 fu k_24 n) ih x1 x2 (48 + x_11) mem hF
      · refine w_aload_n X 0 dX12_report_74 rfl rfl 75 rfl ?_
        refine w_bipush X 10 dX12_report_75 rfl 77 rfl ?_
        refine w_callVv (fun m => m) X hZ hF [.int 10] 0 ml_0 mo_0 rfl rfl rfl kB_X12_tell kL_X12_519 (fun res h => ct_X12_tell l hZ fu 10 mem res h) rfl rfl rfl ⟨Nat.le_of_ble_eq_true rfl, Nat.le_of_ble_eq_true rfl⟩ (Nat.le_of_ble_eq_true rfl) ⟨Nat.zero_le _, Nat.zero_le _⟩ dX12_report_77 80 rfl (fun m_12 hF => ?_)
        refine w_iinc X 1 (x1 + (-1)) [(1, .int (x1 + (-1))), (0, .ref (ad 0)), (2, .int x2)] dX12_report_80 rfl rfl (by decide) rfl 83 rfl ?_
        refine w_goto X 24 dX12_report_83 (by decide) ?_
        refine w_keep [1, 0] rfl ?_
        exact hk_24 (x1 + (-1)) m_12 hF
  have w_24 : ∀ (n : Nat) (x1 : Int32) (mem : Mem), K_X12_report_24 fu n x1 mem = some res → WW D 23 ad (cM ca ad) p l e rm_X12_report s m args below meth c 3 0 0 Q mem 24 [(0, .ref (ad 0)), (1, .int x1)] [] := by
    intro n
    induction n with
    | zero => intro x1 mem hF; exact no_none (show (none : Option (Int32 × Mem)) = some res from hF)
    | succ n ih =>
      intro x1 mem hF
      rw [K_X12_report_24] at hF
      refine w_iload_n X 1 dX12_report_24 rfl rfl 25 rfl ?_
      refine w_if_lt X hF 86 28 dX12_report_25 (by decide) rfl (fun hF => ?_) (fun hF => ?_)
      · refine w_iconst X 0 dX12_report_86 rfl 87 rfl ?_
        refine w_istore_n X [(1, .int 0), (0, .ref (ad 0))] dX12_report_87 rfl (by decide) rfl 88 rfl ?_
        refine w_keep [1, 0] rfl ?_
        exact w_88 fu 0 mem hF
      · refine w_iconst X 0 dX12_report_28 rfl 29 rfl ?_
        refine w_istore_n X [(2, .int 0), (0, .ref (ad 0)), (1, .int x1)] dX12_report_29 rfl (by decide) rfl 30 rfl ?_
        refine w_keep [1, 2, 0] rfl ?_
        exact w_30 (K_X12_report_24 fu n) ih fu x1 0 mem hF
  intro hF
  refine w_aload_n X 0 dX12_report_0 rfl rfl 1 rfl ?_
  refine w_iconst X 0 dX12_report_1 rfl 2 rfl ?_
  refine w_putI X 0 ml_0 mo_0 (T := TX12) (N := 50) rfl in_X12 tyX12 tyX12_ok nmX12 0 (by decide) kF_X12_88 rfl rfl rfl rfl (Nat.le_of_ble_eq_true rfl) rfl dX12_report_2 5 rfl ?_
  refine w_letm hF (fun m_1 hF => ?_)
  refine w_aload_n X 0 dX12_report_5 rfl rfl 6 rfl ?_
  refine w_iconst X 0 dX12_report_6 rfl 7 rfl ?_
  refine w_putI X 0 ml_0 mo_0 (T := TX12) (N := 50) rfl in_X12 tyX12 tyX12_ok nmX12 48 (by decide) kF_X12_513 rfl rfl rfl rfl (Nat.le_of_ble_eq_true rfl) rfl dX12_report_7 10 rfl ?_
  refine w_letm hF (fun m_2 hF => ?_)
  refine w_aload_n X 0 dX12_report_10 rfl rfl 11 rfl ?_
  refine w_iconst X 1 dX12_report_11 rfl 12 rfl ?_
  refine w_putI X 0 ml_0 mo_0 (T := TX12) (N := 50) rfl in_X12 tyX12 tyX12_ok nmX12 49 (by decide) kF_X12_516 rfl rfl rfl rfl (Nat.le_of_ble_eq_true rfl) rfl dX12_report_12 15 rfl ?_
  refine w_letm hF (fun m_3 hF => ?_)
  refine w_aload_n X 0 dX12_report_15 rfl rfl 16 rfl ?_
  refine w_getV (v := .ref (ad 2)) X 0 ml_0 mo_0 (T := TX12) (N := 50) rfl in_X12 13 (by decide) kF_X12_20 rfl rfl dX12_report_16 19 rfl ?_
  refine w_iconst X 1 dX12_report_19 rfl 20 rfl ?_
  refine w_gi hF (fun h_4 hF => ?_)
  refine w_ial X 2 ml_2 mo_2 (t0 := 0) rfl h_4 dX12_report_20 21 rfl ?_
  refine w_iconst X 1 dX12_report_21 rfl 22 rfl ?_
  refine w_isub X dX12_report_22 23 rfl ?_
  refine w_let hF (fun x_5 hF => ?_)
  refine w_istore_n X [(1, .int x_5), (0, .ref (ad 0))] dX12_report_23 rfl (by decide) rfl 24 rfl ?_
  refine w_keep [1, 0] rfl ?_
  exact w_24 fu x_5 m_3 hF

def K_X12_reportByte_29 (fu : Nat) (x1 : Int32) (xs0 : Int32) (mem : Mem) : Option (Int32 × Mem) := bd (K_X12_goes fu xs0 mem) (fun p_2 => (if p_2.1 = 0 then some (0, p_2.2) else gi x1 400 (some ((rd p_2.2 22 (Int32.toNatClampNeg x1)), p_2.2))))
def K_X12_reportByte_28 (fu : Nat) (x1 : Int32) (mem : Mem) : Option (Int32 × Mem) := (K_X12_reportByte_29 fu x1 0 mem)
def K_X12_reportByte (fu : Nat) (x1 : Int32) (mem : Mem) : Option (Int32 × Mem) := (if (rd mem 0 49) = 0 then (K_X12_reportByte_28 fu x1 mem) else bd (K_X12_isIn fu (Int32.toInt64 x1) 0 ((((rd mem 0 48) - 1)).toInt64) mem) (fun x_1 => (if x_1 = 0 then (K_X12_reportByte_28 fu x1 mem) else (K_X12_reportByte_29 fu x1 1 mem))))
def rm_X12_reportByte : Room := { frames := 2, cells := 0, slots := 0, locals := 41 }
set_option maxHeartbeats 4000000 in
set_option maxRecDepth 100000 in
theorem ct_X12_reportByte (l : Launch) {D : va_G} {ca ad : Nat → Nat} {Z : (Nat → Prop) → State → Heap → Prop} (hZ : ZOK Z) (fu : Nat) (x1 : Int32) (mem : Mem) (res : (Int32 × Mem)) (hF : K_X12_reportByte fu x1 mem = some res) : CI l D (tyL ca) 23 ad (cM ca ad) Z yX12_reportByte cX12_reportByte 2 .int rm_X12_reportByte [.ref (ad 0), .int x1] mem res.1 res.2 := by
  refine start_i (own := RX12) rfl (by decide) (Nat.le_of_ble_eq_true rfl) ?_
  intro p e s m args below meth c Q hQ X
  rw [K_X12_reportByte] at hF
  revert hF
  have w_29 : ∀ (x1 : Int32) (xs0 : Int32) (mem : Mem), K_X12_reportByte_29 fu x1 xs0 mem = some res → WW D 23 ad (cM ca ad) p l e rm_X12_reportByte s m args below meth c 2 0 0 Q mem 29 [(0, .ref (ad 0)), (1, .int x1)] [.int xs0, .ref (ad 0)] := by
    intro x1 xs0 mem hF
    rw [K_X12_reportByte_29] at hF
    refine w_callVi (fun x => x.1) (fun x => x.2) X hZ hF [.int xs0] 0 ml_0 mo_0 rfl rfl rfl kB_X12_goes kL_X12_98 (fun res h => ct_X12_goes l hZ fu xs0 mem res h) rfl rfl rfl ⟨Nat.le_of_ble_eq_true rfl, Nat.le_of_ble_eq_true rfl⟩ (Nat.le_of_ble_eq_true rfl) ⟨Nat.zero_le _, Nat.zero_le _⟩ dX12_reportByte_29 32 rfl (fun p_2 hF => ?_)
    refine w_if_eq X hF 44 35 dX12_reportByte_32 (by decide) rfl (fun hF => ?_) (fun hF => ?_)
    · refine w_iconst X 0 dX12_reportByte_44 rfl 45 rfl ?_
      exact w_iret X hQ (o_inj1 hF) (o_inj2 hF) rfl dX12_reportByte_45
    · refine w_aload_n X 0 dX12_reportByte_35 rfl rfl 36 rfl ?_
      refine w_getV (v := .ref (ad 22)) X 0 ml_0 mo_0 (T := TX12) (N := 50) rfl in_X12 47 (by decide) kF_X12_82 rfl rfl dX12_reportByte_36 39 rfl ?_
      refine w_iload_n X 1 dX12_reportByte_39 rfl rfl 40 rfl ?_
      refine w_gi hF (fun h_3 hF => ?_)
      refine w_ial X 22 ml_22 mo_22 (t0 := 0) rfl h_3 dX12_reportByte_40 41 rfl ?_
      refine w_goto X 45 dX12_reportByte_41 (by decide) ?_
      exact w_iret X hQ (o_inj1 hF) (o_inj2 hF) rfl dX12_reportByte_45
  have w_28 : ∀ (x1 : Int32) (mem : Mem), K_X12_reportByte_28 fu x1 mem = some res → WW D 23 ad (cM ca ad) p l e rm_X12_reportByte s m args below meth c 2 0 0 Q mem 28 [(0, .ref (ad 0)), (1, .int x1)] [.ref (ad 0)] := by
    intro x1 mem hF
    rw [K_X12_reportByte_28] at hF
    refine w_iconst X 0 dX12_reportByte_28 rfl 29 rfl ?_
    refine w_keep [0, 1] rfl ?_
    exact w_29 x1 0 mem hF
  intro hF
  refine w_aload_n X 0 dX12_reportByte_0 rfl rfl 1 rfl ?_
  refine w_aload_n X 0 dX12_reportByte_1 rfl rfl 2 rfl ?_
  refine w_getV (v := .int (rd mem 0 49)) X 0 ml_0 mo_0 (T := TX12) (N := 50) rfl in_X12 49 (by decide) kF_X12_516 rfl rfl dX12_reportByte_2 5 rfl ?_
  refine w_if_eq X hF 28 8 dX12_reportByte_5 (by decide) rfl (fun hF => ?_) (fun hF => ?_)
  · refine w_keep [0, 1] rfl ?_
    exact w_28 x1 mem hF
  · refine w_iload_n X 1 dX12_reportByte_8 rfl rfl 9 rfl ?_
    refine w_i2l X dX12_reportByte_9 10 rfl ?_
    refine w_lconst X 0 dX12_reportByte_10 rfl 11 rfl ?_
    refine w_aload_n X 0 dX12_reportByte_11 rfl rfl 12 rfl ?_
    refine w_getV (v := .int (rd mem 0 48)) X 0 ml_0 mo_0 (T := TX12) (N := 50) rfl in_X12 48 (by decide) kF_X12_513 rfl rfl dX12_reportByte_12 15 rfl ?_
    refine w_iconst X 1 dX12_reportByte_15 rfl 16 rfl ?_
    refine w_isub X dX12_reportByte_16 17 rfl ?_
    refine w_i2l X dX12_reportByte_17 18 rfl ?_
    refine w_callSi (fun x => x) (fun _ => mem) X hZ hF [.long (Int32.toInt64 x1), .long 0, .long ((((rd mem 0 48) - 1)).toInt64)] rfl kB_X12_isIn kL_X12_106 (fun res h => ct_X12_isIn l hZ fu (Int32.toInt64 x1) 0 ((((rd mem 0 48) - 1)).toInt64) mem res h) rfl rfl rfl ⟨Nat.le_of_ble_eq_true rfl, Nat.le_of_ble_eq_true rfl⟩ (Nat.le_of_ble_eq_true rfl) ⟨Nat.zero_le _, Nat.zero_le _⟩ dX12_reportByte_18 21 rfl (fun x_1 hF => ?_)
    refine w_if_eq X hF 28 24 dX12_reportByte_21 (by decide) rfl (fun hF => ?_) (fun hF => ?_)
    · refine w_keep [0, 1] rfl ?_
      exact w_28 x1 mem hF
    · refine w_iconst X 1 dX12_reportByte_24 rfl 25 rfl ?_
      refine w_goto X 29 dX12_reportByte_25 (by decide) ?_
      refine w_keep [0, 1] rfl ?_
      exact w_29 x1 1 mem hF

def K_X12_restore_15 (fu : Nat) : Nat → Int32 → Mem → Option (Int32 × Mem)
  | 0, _, _ => none
  | n + 1, x1, mem => (if x1 < 184 then gi x1 184 (gi x1 184 (lt_ (mw mem 2 (Int32.toNatClampNeg x1) (rd mem 3 (Int32.toNatClampNeg x1))) (fun m_4 => (K_X12_restore_15 fu n (x1 + 1) m_4)))) else lt_ (mw mem 0 18 0) (fun m_5 => gi 4 184 (some ((rd m_5 2 (Int32.toNatClampNeg 4)), m_5))))
def K_X12_restore (fu : Nat) (mem : Mem) : Option (Int32 × Mem) := bd (K_X12_goes fu (rd mem 0 19) mem) (fun p_1 => (if p_1.1 = 0 then some (0, p_1.2) else (K_X12_restore_15 fu fu 0 p_1.2)))
def rm_X12_restore : Room := { frames := 2, cells := 0, slots := 0, locals := 41 }
set_option maxHeartbeats 4000000 in
set_option maxRecDepth 100000 in
theorem ct_X12_restore (l : Launch) {D : va_G} {ca ad : Nat → Nat} {Z : (Nat → Prop) → State → Heap → Prop} (hZ : ZOK Z) (fu : Nat) (mem : Mem) (res : (Int32 × Mem)) (hF : K_X12_restore fu mem = some res) : CI l D (tyL ca) 23 ad (cM ca ad) Z yX12_restore cX12_restore 2 .int rm_X12_restore [.ref (ad 0)] mem res.1 res.2 := by
  refine start_i (own := RX12) rfl (by decide) (Nat.le_of_ble_eq_true rfl) ?_
  intro p e s m args below meth c Q hQ X
  rw [K_X12_restore] at hF
  revert hF
  have w_15 : ∀ (n : Nat) (x1 : Int32) (mem : Mem), K_X12_restore_15 fu n x1 mem = some res → WW D 23 ad (cM ca ad) p l e rm_X12_restore s m args below meth c 2 0 0 Q mem 15 [(0, .ref (ad 0)), (1, .int x1)] [] := by
    intro n
    induction n with
    | zero => intro x1 mem hF; exact no_none (show (none : Option (Int32 × Mem)) = some res from hF)
    | succ n ih =>
      intro x1 mem hF
      rw [K_X12_restore_15] at hF
      refine w_iload_n X 1 dX12_restore_15 rfl rfl 16 rfl ?_
      refine w_sipush X 184 dX12_restore_16 rfl 19 rfl ?_
      refine w_icmp_ge X hF 40 22 dX12_restore_19 (by decide) rfl (fun hF => ?_) (fun hF => ?_)
      · refine w_aload_n X 0 dX12_restore_22 rfl rfl 23 rfl ?_
        refine w_getV (v := .ref (ad 2)) X 0 ml_0 mo_0 (T := TX12) (N := 50) rfl in_X12 13 (by decide) kF_X12_20 rfl rfl dX12_restore_23 26 rfl ?_
        refine w_iload_n X 1 dX12_restore_26 rfl rfl 27 rfl ?_
        refine w_aload_n X 0 dX12_restore_27 rfl rfl 28 rfl ?_
        refine w_getV (v := .ref (ad 3)) X 0 ml_0 mo_0 (T := TX12) (N := 50) rfl in_X12 14 (by decide) kF_X12_23 rfl rfl dX12_restore_28 31 rfl ?_
        refine w_iload_n X 1 dX12_restore_31 rfl rfl 32 rfl ?_
        refine w_gi hF (fun h_2 hF => ?_)
        refine w_ial X 3 ml_3 mo_3 (t0 := 0) rfl h_2 dX12_restore_32 33 rfl ?_
        refine w_gi hF (fun h_3 hF => ?_)
        refine w_ias X 2 ml_2 mo_2 (t0 := 0) rfl h_3 dX12_restore_33 34 rfl ?_
        refine w_letm hF (fun m_4 hF => ?_)
        refine w_iinc X 1 (x1 + 1) [(1, .int (x1 + 1)), (0, .ref (ad 0))] dX12_restore_34 rfl rfl (by decide) rfl 37 rfl ?_
        refine w_goto X 15 dX12_restore_37 (by decide) ?_
        refine w_keep [1, 0] rfl ?_
        exact ih (x1 + 1) m_4 hF
      · refine w_aload_n X 0 dX12_restore_40 rfl rfl 41 rfl ?_
        refine w_iconst X 0 dX12_restore_41 rfl 42 rfl ?_
        refine w_putI X 0 ml_0 mo_0 (T := TX12) (N := 50) rfl in_X12 tyX12 tyX12_ok nmX12 18 (by decide) kF_X12_167 rfl rfl rfl rfl (Nat.le_of_ble_eq_true rfl) rfl dX12_restore_42 45 rfl ?_
        refine w_letm hF (fun m_5 hF => ?_)
        refine w_aload_n X 0 dX12_restore_45 rfl rfl 46 rfl ?_
        refine w_getV (v := .ref (ad 2)) X 0 ml_0 mo_0 (T := TX12) (N := 50) rfl in_X12 13 (by decide) kF_X12_20 rfl rfl dX12_restore_46 49 rfl ?_
        refine w_iconst X 4 dX12_restore_49 rfl 50 rfl ?_
        refine w_gi hF (fun h_6 hF => ?_)
        refine w_ial X 2 ml_2 mo_2 (t0 := 0) rfl h_6 dX12_restore_50 51 rfl ?_
        exact w_iret X hQ (o_inj1 hF) (o_inj2 hF) rfl dX12_restore_51
  intro hF
  refine w_aload_n X 0 dX12_restore_0 rfl rfl 1 rfl ?_
  refine w_aload_n X 0 dX12_restore_1 rfl rfl 2 rfl ?_
  refine w_getV (v := .int (rd mem 0 19)) X 0 ml_0 mo_0 (T := TX12) (N := 50) rfl in_X12 19 (by decide) kF_X12_170 rfl rfl dX12_restore_2 5 rfl ?_
  refine w_callVi (fun x => x.1) (fun x => x.2) X hZ hF [.int (rd mem 0 19)] 0 ml_0 mo_0 rfl rfl rfl kB_X12_goes kL_X12_98 (fun res h => ct_X12_goes l hZ fu (rd mem 0 19) mem res h) rfl rfl rfl ⟨Nat.le_of_ble_eq_true rfl, Nat.le_of_ble_eq_true rfl⟩ (Nat.le_of_ble_eq_true rfl) ⟨Nat.zero_le _, Nat.zero_le _⟩ dX12_restore_5 8 rfl (fun p_1 hF => ?_)
  refine w_if_ne X hF 13 11 dX12_restore_8 (by decide) rfl (fun hF => ?_) (fun hF => ?_)
  · refine w_iconst X 0 dX12_restore_11 rfl 12 rfl ?_
    exact w_iret X hQ (o_inj1 hF) (o_inj2 hF) rfl dX12_restore_12
  · refine w_iconst X 0 dX12_restore_13 rfl 14 rfl ?_
    refine w_istore_n X [(1, .int 0), (0, .ref (ad 0))] dX12_restore_14 rfl (by decide) rfl 15 rfl ?_
    refine w_keep [1, 0] rfl ?_
    exact w_15 fu 0 p_1.2 hF

def K_X12_runs_139 (fu : Nat) (k_9 : Int32 → Int32 → Int32 → Int32 → Mem → Option (Int32 × Mem)) (x1 : Int32) (x3 : Int32) (x4 : Int32) (xs0 : Int32) (xs1 : Int32) (mem : Mem) : Option (Int32 × Mem) := bd (K_X12_truth fu xs0 mem) (fun x_21 => lt_ (xs1 - x_21) (fun x_22 => (k_9 x1 x_22 x3 x4 mem)))
def K_X12_runs_127 (fu : Nat) (k_9 : Int32 → Int32 → Int32 → Int32 → Mem → Option (Int32 × Mem)) (x1 : Int32) (x2 : Int32) (x4 : Int32) (x5 : Int32) (xs0 : Int32) (mem : Mem) : Option (Int32 × Mem) := (if x5 = 0 then (K_X12_runs_139 fu k_9 x1 xs0 x4 1 x2 mem) else (K_X12_runs_139 fu k_9 x1 xs0 x4 0 x2 mem))
def K_X12_runs_104 (fu : Nat) (k_9 : Int32 → Int32 → Int32 → Int32 → Mem → Option (Int32 × Mem)) (x1 : Int32) (x2 : Int32) (x3 : Int32) (x4 : Int32) (xs0 : Int32) (mem : Mem) : Option (Int32 × Mem) := (if xs0 = 0 then (K_X12_runs_127 fu k_9 x1 x2 x4 xs0 (x3 + 1) mem) else gi (x2 - 1) 2 ((K_X12_runs_127 fu k_9 x1 x2 x4 xs0 ((rd mem 20 (Int32.toNatClampNeg (x2 - 1))) + 1) mem)))
def K_X12_runs_9 (fu : Nat) : Nat → Int32 → Int32 → Int32 → Int32 → Mem → Option (Int32 × Mem)
  | 0, _, _, _, _, _ => none
  | n + 1, x1, x2, x3, x4, mem => (if x4 = 0 then some (x1, mem) else (if x3 < (rd mem 0 43) then (if x1 < 40 then gi x3 60 ((if (rd mem 16 (Int32.toNatClampNeg x3)) = 4 then gi x2 2 (lt_ (mw mem 20 (Int32.toNatClampNeg x2) x3) (fun m_3 => gi x3 60 (gi x2 2 (lt_ (mw m_3 21 (Int32.toNatClampNeg x2) (rd m_3 17 (Int32.toNatClampNeg x3))) (fun m_6 => (K_X12_runs_9 fu n x1 (x2 + 1) (x3 + 1) x4 m_6)))))) else gi x3 60 ((if (rd mem 16 (Int32.toNatClampNeg x3)) = 5 then gi (x2 - 1) 2 (gi (x2 - 1) 2 (lt_ (mw mem 21 (Int32.toNatClampNeg (x2 - 1)) ((rd mem 21 (Int32.toNatClampNeg (x2 - 1))) - 1)) (fun m_10 => gi (x2 - 1) 2 ((if 0 < (rd m_10 21 (Int32.toNatClampNeg (x2 - 1))) then (K_X12_runs_104 fu (K_X12_runs_9 fu n) x1 x2 x3 x4 1 m_10) else (K_X12_runs_104 fu (K_X12_runs_9 fu n) x1 x2 x3 x4 0 m_10)))))) else gi x3 60 (gi x3 60 (gi x3 60 (gi x3 60 (bd (K_X12_does fu (rd mem 16 (Int32.toNatClampNeg x3)) (rd mem 17 (Int32.toNatClampNeg x3)) (rd mem 18 (Int32.toNatClampNeg x3)) (rd mem 19 (Int32.toNatClampNeg x3)) mem) (fun p_16 => lt_ p_16.1 (fun x_17 => bd (K_X12_truth fu x_17 p_16.2) (fun x_18 => lt_ (x1 + x_18) (fun x_19 => (K_X12_runs_9 fu n x_19 x2 (x3 + 1) x_17 p_16.2))))))))))))) else some (x1, mem)) else some (x1, mem)))
def K_X12_runs (fu : Nat) (mem : Mem) : Option (Int32 × Mem) := (K_X12_runs_9 fu fu 0 0 0 1 mem)
def rm_X12_runs : Room := { frames := 13, cells := 0, slots := 0, locals := 308 }
set_option maxHeartbeats 4000000 in
set_option maxRecDepth 100000 in
theorem ct_X12_runs (l : Launch) {D : va_G} {ca ad : Nat → Nat} {Z : (Nat → Prop) → State → Heap → Prop} (hZ : ZOK Z) (fu : Nat) (mem : Mem) (res : (Int32 × Mem)) (hF : K_X12_runs fu mem = some res) : CI l D (tyL ca) 23 ad (cM ca ad) Z yX12_runs cX12_runs 6 .int rm_X12_runs [.ref (ad 0)] mem res.1 res.2 := by
  refine start_i (own := RX12) rfl (by decide) (Nat.le_of_ble_eq_true rfl) ?_
  intro p e s m args below meth c Q hQ X
  rw [K_X12_runs] at hF
  revert hF
  have w_139 : ∀ (k_9 : Int32 → Int32 → Int32 → Int32 → Mem → Option (Int32 × Mem)) (hk_9 : ∀ (x1 : Int32) (x2 : Int32) (x3 : Int32) (x4 : Int32) (mem : Mem), k_9 x1 x2 x3 x4 mem = some res → WW D 23 ad (cM ca ad) p l e rm_X12_runs s m args below meth c 6 0 0 Q mem 9 [(0, .ref (ad 0)), (1, .int x1), (2, .int x2), (3, .int x3), (4, .int x4)] []) (x1 : Int32) (x3 : Int32) (x4 : Int32) (xs0 : Int32) (xs1 : Int32) (mem : Mem), K_X12_runs_139 fu k_9 x1 x3 x4 xs0 xs1 mem = some res → WW D 23 ad (cM ca ad) p l e rm_X12_runs s m args below meth c 6 0 0 Q mem 139 [(0, .ref (ad 0)), (1, .int x1), (3, .int x3), (4, .int x4)] [.int xs0, .int xs1] := by
    intro k_9 hk_9 x1 x3 x4 xs0 xs1 mem hF
    rw [K_X12_runs_139] at hF
    refine w_callSi (fun x => x) (fun _ => mem) X hZ hF [.int xs0] rfl kB_X12_truth kL_X12_91 (fun res h => ct_X12_truth l hZ fu xs0 mem res h) rfl rfl rfl ⟨Nat.le_of_ble_eq_true rfl, Nat.le_of_ble_eq_true rfl⟩ (Nat.le_of_ble_eq_true rfl) ⟨Nat.zero_le _, Nat.zero_le _⟩ dX12_runs_139 142 rfl (fun x_21 hF => ?_)
    refine w_isub X dX12_runs_142 143 rfl ?_
    refine w_let hF (fun x_22 hF => ?_)
    refine w_istore_n X [(2, .int x_22), (0, .ref (ad 0)), (1, .int x1), (3, .int x3), (4, .int x4)] dX12_runs_143 rfl (by decide) rfl 144 rfl ?_
    refine w_goto X 9 dX12_runs_144 (by decide) ?_
    refine w_keep [1, 2, 0, 3, 4] rfl ?_
    exact hk_9 x1 x_22 x3 x4 mem hF
  have w_127 : ∀ (k_9 : Int32 → Int32 → Int32 → Int32 → Mem → Option (Int32 × Mem)) (hk_9 : ∀ (x1 : Int32) (x2 : Int32) (x3 : Int32) (x4 : Int32) (mem : Mem), k_9 x1 x2 x3 x4 mem = some res → WW D 23 ad (cM ca ad) p l e rm_X12_runs s m args below meth c 6 0 0 Q mem 9 [(0, .ref (ad 0)), (1, .int x1), (2, .int x2), (3, .int x3), (4, .int x4)] []) (x1 : Int32) (x2 : Int32) (x4 : Int32) (x5 : Int32) (xs0 : Int32) (mem : Mem), K_X12_runs_127 fu k_9 x1 x2 x4 x5 xs0 mem = some res → WW D 23 ad (cM ca ad) p l e rm_X12_runs s m args below meth c 6 0 0 Q mem 127 [(0, .ref (ad 0)), (1, .int x1), (2, .int x2), (4, .int x4), (5, .int x5)] [.int xs0] := by
    intro k_9 hk_9 x1 x2 x4 x5 xs0 mem hF
    rw [K_X12_runs_127] at hF
    refine w_istore_n X [(3, .int xs0), (0, .ref (ad 0)), (1, .int x1), (2, .int x2), (4, .int x4), (5, .int x5)] dX12_runs_127 rfl (by decide) rfl 128 rfl ?_
    refine w_iload_n X 3 dX12_runs_128 rfl rfl 129 rfl ?_
    refine w_iload X 5 dX12_runs_129 rfl 131 rfl ?_
    refine w_if_ne X hF 138 134 dX12_runs_131 (by decide) rfl (fun hF => ?_) (fun hF => ?_)
    · refine w_iconst X 1 dX12_runs_134 rfl 135 rfl ?_
      refine w_goto X 139 dX12_runs_135 (by decide) ?_
      refine w_keep [1, 2, 0, 4] rfl ?_
      exact w_139 k_9 hk_9 x1 xs0 x4 1 x2 mem hF
    · refine w_iconst X 0 dX12_runs_138 rfl 139 rfl ?_
      refine w_keep [1, 2, 0, 4] rfl ?_
      exact w_139 k_9 hk_9 x1 xs0 x4 0 x2 mem hF
  have w_104 : ∀ (k_9 : Int32 → Int32 → Int32 → Int32 → Mem → Option (Int32 × Mem)) (hk_9 : ∀ (x1 : Int32) (x2 : Int32) (x3 : Int32) (x4 : Int32) (mem : Mem), k_9 x1 x2 x3 x4 mem = some res → WW D 23 ad (cM ca ad) p l e rm_X12_runs s m args below meth c 6 0 0 Q mem 9 [(0, .ref (ad 0)), (1, .int x1), (2, .int x2), (3, .int x3), (4, .int x4)] []) (x1 : Int32) (x2 : Int32) (x3 : Int32) (x4 : Int32) (xs0 : Int32) (mem : Mem), K_X12_runs_104 fu k_9 x1 x2 x3 x4 xs0 mem = some res → WW D 23 ad (cM ca ad) p l e rm_X12_runs s m args below meth c 6 0 0 Q mem 104 [(0, .ref (ad 0)), (1, .int x1), (2, .int x2), (3, .int x3), (4, .int x4)] [.int xs0] := by
    intro k_9 hk_9 x1 x2 x3 x4 xs0 mem hF
    rw [K_X12_runs_104] at hF
    refine w_istore X [(5, .int xs0), (0, .ref (ad 0)), (1, .int x1), (2, .int x2), (3, .int x3), (4, .int x4)] dX12_runs_104 (by decide) rfl 106 rfl ?_
    refine w_iload X 0 dX12_runs_106 rfl 108 rfl ?_
    refine w_if_eq X hF 124 111 dX12_runs_108 (by decide) rfl (fun hF => ?_) (fun hF => ?_)
    · refine w_iload_n X 4 dX12_runs_124 rfl rfl 125 rfl ?_
      refine w_iconst X 1 dX12_runs_125 rfl 126 rfl ?_
      refine w_iadd X dX12_runs_126 127 rfl ?_
      refine w_keep [1, 2, 3, 5, 0] rfl ?_
      exact w_127 k_9 hk_9 x1 x2 x4 xs0 (x3 + 1) mem hF
    · refine w_aload_n X 1 dX12_runs_111 rfl rfl 112 rfl ?_
      refine w_getV (v := .ref (ad 20)) X 0 ml_0 mo_0 (T := TX12) (N := 50) rfl in_X12 41 (by decide) kF_X12_76 rfl rfl dX12_runs_112 115 rfl ?_
      refine w_iload_n X 3 dX12_runs_115 rfl rfl 116 rfl ?_
      refine w_iconst X 1 dX12_runs_116 rfl 117 rfl ?_
      refine w_isub X dX12_runs_117 118 rfl ?_
      refine w_gi hF (fun h_20 hF => ?_)
      refine w_ial X 20 ml_20 mo_20 (t0 := 0) rfl h_20 dX12_runs_118 119 rfl ?_
      refine w_iconst X 1 dX12_runs_119 rfl 120 rfl ?_
      refine w_iadd X dX12_runs_120 121 rfl ?_
      refine w_goto X 127 dX12_runs_121 (by decide) ?_
      refine w_keep [1, 2, 3, 5, 0] rfl ?_
      exact w_127 k_9 hk_9 x1 x2 x4 xs0 ((rd mem 20 (Int32.toNatClampNeg (x2 - 1))) + 1) mem hF
  have w_9 : ∀ (n : Nat) (x1 : Int32) (x2 : Int32) (x3 : Int32) (x4 : Int32) (mem : Mem), K_X12_runs_9 fu n x1 x2 x3 x4 mem = some res → WW D 23 ad (cM ca ad) p l e rm_X12_runs s m args below meth c 6 0 0 Q mem 9 [(0, .ref (ad 0)), (1, .int x1), (2, .int x2), (3, .int x3), (4, .int x4)] [] := by
    intro n
    induction n with
    | zero => intro x1 x2 x3 x4 mem hF; exact no_none (show (none : Option (Int32 × Mem)) = some res from hF)
    | succ n ih =>
      intro x1 x2 x3 x4 mem hF
      rw [K_X12_runs_9] at hF
      refine w_iload X 4 dX12_runs_9 rfl 11 rfl ?_
      refine w_if_eq X hF 191 14 dX12_runs_11 (by decide) rfl (fun hF => ?_) (fun hF => ?_)
      · refine w_iload_n X 1 dX12_runs_191 rfl rfl 192 rfl ?_
        exact w_iret X hQ (o_inj1 hF) (o_inj2 hF) rfl dX12_runs_192
      · refine w_iload_n X 3 dX12_runs_14 rfl rfl 15 rfl ?_
        refine w_aload_n X 0 dX12_runs_15 rfl rfl 16 rfl ?_
        refine w_getV (v := .int (rd mem 0 43)) X 0 ml_0 mo_0 (T := TX12) (N := 50) rfl in_X12 43 (by decide) kF_X12_494 rfl rfl dX12_runs_16 19 rfl ?_
        refine w_icmp_ge X hF 191 22 dX12_runs_19 (by decide) rfl (fun hF => ?_) (fun hF => ?_)
        · refine w_iload_n X 1 dX12_runs_22 rfl rfl 23 rfl ?_
          refine w_bipush X 40 dX12_runs_23 rfl 25 rfl ?_
          refine w_icmp_ge X hF 191 28 dX12_runs_25 (by decide) rfl (fun hF => ?_) (fun hF => ?_)
          · refine w_aload_n X 0 dX12_runs_28 rfl rfl 29 rfl ?_
            refine w_getV (v := .ref (ad 16)) X 0 ml_0 mo_0 (T := TX12) (N := 50) rfl in_X12 37 (by decide) kF_X12_64 rfl rfl dX12_runs_29 32 rfl ?_
            refine w_iload_n X 3 dX12_runs_32 rfl rfl 33 rfl ?_
            refine w_gi hF (fun h_1 hF => ?_)
            refine w_ial X 16 ml_16 mo_16 (t0 := 0) rfl h_1 dX12_runs_33 34 rfl ?_
            refine w_iconst X 4 dX12_runs_34 rfl 35 rfl ?_
            refine w_icmp_ne X hF 66 38 dX12_runs_35 (by decide) rfl (fun hF => ?_) (fun hF => ?_)
            · refine w_aload_n X 0 dX12_runs_38 rfl rfl 39 rfl ?_
              refine w_getV (v := .ref (ad 20)) X 0 ml_0 mo_0 (T := TX12) (N := 50) rfl in_X12 41 (by decide) kF_X12_76 rfl rfl dX12_runs_39 42 rfl ?_
              refine w_iload_n X 2 dX12_runs_42 rfl rfl 43 rfl ?_
              refine w_iload_n X 3 dX12_runs_43 rfl rfl 44 rfl ?_
              refine w_gi hF (fun h_2 hF => ?_)
              refine w_ias X 20 ml_20 mo_20 (t0 := 0) rfl h_2 dX12_runs_44 45 rfl ?_
              refine w_letm hF (fun m_3 hF => ?_)
              refine w_aload_n X 0 dX12_runs_45 rfl rfl 46 rfl ?_
              refine w_getV (v := .ref (ad 21)) X 0 ml_0 mo_0 (T := TX12) (N := 50) rfl in_X12 42 (by decide) kF_X12_79 rfl rfl dX12_runs_46 49 rfl ?_
              refine w_iload_n X 2 dX12_runs_49 rfl rfl 50 rfl ?_
              refine w_aload_n X 0 dX12_runs_50 rfl rfl 51 rfl ?_
              refine w_getV (v := .ref (ad 17)) X 0 ml_0 mo_0 (T := TX12) (N := 50) rfl in_X12 38 (by decide) kF_X12_67 rfl rfl dX12_runs_51 54 rfl ?_
              refine w_iload_n X 3 dX12_runs_54 rfl rfl 55 rfl ?_
              refine w_gi hF (fun h_4 hF => ?_)
              refine w_ial X 17 ml_17 mo_17 (t0 := 0) rfl h_4 dX12_runs_55 56 rfl ?_
              refine w_gi hF (fun h_5 hF => ?_)
              refine w_ias X 21 ml_21 mo_21 (t0 := 0) rfl h_5 dX12_runs_56 57 rfl ?_
              refine w_letm hF (fun m_6 hF => ?_)
              refine w_iinc X 2 (x2 + 1) [(2, .int (x2 + 1)), (0, .ref (ad 0)), (1, .int x1), (3, .int x3), (4, .int x4)] dX12_runs_57 rfl rfl (by decide) rfl 60 rfl ?_
              refine w_iinc X 3 (x3 + 1) [(3, .int (x3 + 1)), (2, .int (x2 + 1)), (0, .ref (ad 0)), (1, .int x1), (4, .int x4)] dX12_runs_60 rfl rfl (by decide) rfl 63 rfl ?_
              refine w_goto X 9 dX12_runs_63 (by decide) ?_
              refine w_keep [2, 3, 1, 0, 4] rfl ?_
              exact ih x1 (x2 + 1) (x3 + 1) x4 m_6 hF
            · refine w_aload_n X 0 dX12_runs_66 rfl rfl 67 rfl ?_
              refine w_getV (v := .ref (ad 16)) X 0 ml_0 mo_0 (T := TX12) (N := 50) rfl in_X12 37 (by decide) kF_X12_64 rfl rfl dX12_runs_67 70 rfl ?_
              refine w_iload_n X 3 dX12_runs_70 rfl rfl 71 rfl ?_
              refine w_gi hF (fun h_7 hF => ?_)
              refine w_ial X 16 ml_16 mo_16 (t0 := 0) rfl h_7 dX12_runs_71 72 rfl ?_
              refine w_iconst X 5 dX12_runs_72 rfl 73 rfl ?_
              refine w_icmp_ne X hF 147 76 dX12_runs_73 (by decide) rfl (fun hF => ?_) (fun hF => ?_)
              · refine w_aload_n X 0 dX12_runs_76 rfl rfl 77 rfl ?_
                refine w_getV (v := .ref (ad 21)) X 0 ml_0 mo_0 (T := TX12) (N := 50) rfl in_X12 42 (by decide) kF_X12_79 rfl rfl dX12_runs_77 80 rfl ?_
                refine w_iload_n X 2 dX12_runs_80 rfl rfl 81 rfl ?_
                refine w_iconst X 1 dX12_runs_81 rfl 82 rfl ?_
                refine w_isub X dX12_runs_82 83 rfl ?_
                refine w_dup2 X dX12_runs_83 rfl rfl 84 rfl ?_
                refine w_gi hF (fun h_8 hF => ?_)
                refine w_ial X 21 ml_21 mo_21 (t0 := 0) rfl h_8 dX12_runs_84 85 rfl ?_
                refine w_iconst X 1 dX12_runs_85 rfl 86 rfl ?_
                refine w_isub X dX12_runs_86 87 rfl ?_
                refine w_gi hF (fun h_9 hF => ?_)
                refine w_ias X 21 ml_21 mo_21 (t0 := 0) rfl h_9 dX12_runs_87 88 rfl ?_
                refine w_letm hF (fun m_10 hF => ?_)
                refine w_aload_n X 0 dX12_runs_88 rfl rfl 89 rfl ?_
                refine w_getV (v := .ref (ad 21)) X 0 ml_0 mo_0 (T := TX12) (N := 50) rfl in_X12 42 (by decide) kF_X12_79 rfl rfl dX12_runs_89 92 rfl ?_
                refine w_iload_n X 2 dX12_runs_92 rfl rfl 93 rfl ?_
                refine w_iconst X 1 dX12_runs_93 rfl 94 rfl ?_
                refine w_isub X dX12_runs_94 95 rfl ?_
                refine w_gi hF (fun h_11 hF => ?_)
                refine w_ial X 21 ml_21 mo_21 (t0 := 0) rfl h_11 dX12_runs_95 96 rfl ?_
                refine w_if_le X hF 103 99 dX12_runs_96 (by decide) rfl (fun hF => ?_) (fun hF => ?_)
                · refine w_iconst X 1 dX12_runs_99 rfl 100 rfl ?_
                  refine w_goto X 104 dX12_runs_100 (by decide) ?_
                  refine w_keep [0, 1, 2, 3, 4] rfl ?_
                  exact w_104 (K_X12_runs_9 fu n) ih x1 x2 x3 x4 1 m_10 hF
                · refine w_iconst X 0 dX12_runs_103 rfl 104 rfl ?_
                  refine w_keep [0, 1, 2, 3, 4] rfl ?_
                  exact w_104 (K_X12_runs_9 fu n) ih x1 x2 x3 x4 0 m_10 hF
              · refine w_aload_n X 0 dX12_runs_147 rfl rfl 148 rfl ?_
                refine w_aload_n X 0 dX12_runs_148 rfl rfl 149 rfl ?_
                refine w_getV (v := .ref (ad 16)) X 0 ml_0 mo_0 (T := TX12) (N := 50) rfl in_X12 37 (by decide) kF_X12_64 rfl rfl dX12_runs_149 152 rfl ?_
                refine w_iload_n X 3 dX12_runs_152 rfl rfl 153 rfl ?_
                refine w_gi hF (fun h_12 hF => ?_)
                refine w_ial X 16 ml_16 mo_16 (t0 := 0) rfl h_12 dX12_runs_153 154 rfl ?_
                refine w_aload_n X 0 dX12_runs_154 rfl rfl 155 rfl ?_
                refine w_getV (v := .ref (ad 17)) X 0 ml_0 mo_0 (T := TX12) (N := 50) rfl in_X12 38 (by decide) kF_X12_67 rfl rfl dX12_runs_155 158 rfl ?_
                refine w_iload_n X 3 dX12_runs_158 rfl rfl 159 rfl ?_
                refine w_gi hF (fun h_13 hF => ?_)
                refine w_ial X 17 ml_17 mo_17 (t0 := 0) rfl h_13 dX12_runs_159 160 rfl ?_
                refine w_aload_n X 0 dX12_runs_160 rfl rfl 161 rfl ?_
                refine w_getV (v := .ref (ad 18)) X 0 ml_0 mo_0 (T := TX12) (N := 50) rfl in_X12 39 (by decide) kF_X12_70 rfl rfl dX12_runs_161 164 rfl ?_
                refine w_iload_n X 3 dX12_runs_164 rfl rfl 165 rfl ?_
                refine w_gi hF (fun h_14 hF => ?_)
                refine w_ial X 18 ml_18 mo_18 (t0 := 0) rfl h_14 dX12_runs_165 166 rfl ?_
                refine w_aload_n X 0 dX12_runs_166 rfl rfl 167 rfl ?_
                refine w_getV (v := .ref (ad 19)) X 0 ml_0 mo_0 (T := TX12) (N := 50) rfl in_X12 40 (by decide) kF_X12_73 rfl rfl dX12_runs_167 170 rfl ?_
                refine w_iload_n X 3 dX12_runs_170 rfl rfl 171 rfl ?_
                refine w_gi hF (fun h_15 hF => ?_)
                refine w_ial X 19 ml_19 mo_19 (t0 := 0) rfl h_15 dX12_runs_171 172 rfl ?_
                refine w_callVi (fun x => x.1) (fun x => x.2) X hZ hF [.int (rd mem 16 (Int32.toNatClampNeg x3)), .int (rd mem 17 (Int32.toNatClampNeg x3)), .int (rd mem 18 (Int32.toNatClampNeg x3)), .int (rd mem 19 (Int32.toNatClampNeg x3))] 0 ml_0 mo_0 rfl rfl rfl kB_X12_does kL_X12_509 (fun res h => ct_X12_does l hZ fu (rd mem 16 (Int32.toNatClampNeg x3)) (rd mem 17 (Int32.toNatClampNeg x3)) (rd mem 18 (Int32.toNatClampNeg x3)) (rd mem 19 (Int32.toNatClampNeg x3)) mem res h) rfl rfl rfl ⟨Nat.le_of_ble_eq_true rfl, Nat.le_of_ble_eq_true rfl⟩ (Nat.le_of_ble_eq_true rfl) ⟨Nat.zero_le _, Nat.zero_le _⟩ dX12_runs_172 175 rfl (fun p_16 hF => ?_)
                refine w_let hF (fun x_17 hF => ?_)
                refine w_istore X [(4, .int x_17), (0, .ref (ad 0)), (1, .int x1), (2, .int x2), (3, .int x3)] dX12_runs_175 (by decide) rfl 177 rfl ?_
                refine w_iload_n X 2 dX12_runs_177 rfl rfl 178 rfl ?_
                refine w_iload X 0 dX12_runs_178 rfl 180 rfl ?_
                refine w_callSi (fun x => x) (fun _ => p_16.2) X hZ hF [.int x_17] rfl kB_X12_truth kL_X12_91 (fun res h => ct_X12_truth l hZ fu x_17 p_16.2 res h) rfl rfl rfl ⟨Nat.le_of_ble_eq_true rfl, Nat.le_of_ble_eq_true rfl⟩ (Nat.le_of_ble_eq_true rfl) ⟨Nat.zero_le _, Nat.zero_le _⟩ dX12_runs_180 183 rfl (fun x_18 hF => ?_)
                refine w_iadd X dX12_runs_183 184 rfl ?_
                refine w_let hF (fun x_19 hF => ?_)
                refine w_istore_n X [(1, .int x_19), (4, .int x_17), (0, .ref (ad 0)), (2, .int x2), (3, .int x3)] dX12_runs_184 rfl (by decide) rfl 185 rfl ?_
                refine w_iinc X 4 (x3 + 1) [(3, .int (x3 + 1)), (1, .int x_19), (4, .int x_17), (0, .ref (ad 0)), (2, .int x2)] dX12_runs_185 rfl rfl (by decide) rfl 188 rfl ?_
                refine w_goto X 9 dX12_runs_188 (by decide) ?_
                refine w_keep [3, 1, 4, 0, 2] rfl ?_
                exact ih x_19 x2 (x3 + 1) x_17 p_16.2 hF
          · refine w_iload_n X 1 dX12_runs_191 rfl rfl 192 rfl ?_
            exact w_iret X hQ (o_inj1 hF) (o_inj2 hF) rfl dX12_runs_192
        · refine w_iload_n X 1 dX12_runs_191 rfl rfl 192 rfl ?_
          exact w_iret X hQ (o_inj1 hF) (o_inj2 hF) rfl dX12_runs_192
  intro hF
  refine w_iconst X 0 dX12_runs_0 rfl 1 rfl ?_
  refine w_istore_n X [(1, .int 0), (0, .ref (ad 0))] dX12_runs_1 rfl (by decide) rfl 2 rfl ?_
  refine w_iconst X 0 dX12_runs_2 rfl 3 rfl ?_
  refine w_istore_n X [(2, .int 0), (1, .int 0), (0, .ref (ad 0))] dX12_runs_3 rfl (by decide) rfl 4 rfl ?_
  refine w_iconst X 0 dX12_runs_4 rfl 5 rfl ?_
  refine w_istore_n X [(3, .int 0), (2, .int 0), (1, .int 0), (0, .ref (ad 0))] dX12_runs_5 rfl (by decide) rfl 6 rfl ?_
  refine w_iconst X 1 dX12_runs_6 rfl 7 rfl ?_
  refine w_istore X [(4, .int 1), (3, .int 0), (2, .int 0), (1, .int 0), (0, .ref (ad 0))] dX12_runs_7 (by decide) rfl 9 rfl ?_
  refine w_keep [4, 3, 2, 1, 0] rfl ?_
  exact w_9 fu 0 0 0 1 mem hF

def K_X12_runScript_82 (fu : Nat) (mem : Mem) : Option (Int32 × Mem) := bd (K_X12_endsText fu mem) (fun p_12 => (if p_12.1 = 0 then some (0, p_12.2) else bd (K_X12_laysAside fu p_12.2) (fun m_13 => bd (K_X12_runs fu m_13) (fun p_14 => lt_ p_14.1 (fun x_15 => bd (K_X12_keeps fu p_14.2) (fun m_16 => some (x_15, m_16)))))))
def K_X12_runScript_63 (fu : Nat) (mem : Mem) : Option (Int32 × Mem) := bd (K_X12_isGood fu mem) (fun x_9 => (if x_9 = 0 then (K_X12_runScript_82 fu mem) else (if 0 < (rd mem 0 45) then bd (K_X12_wrong fu 1 mem) (fun m_10 => (K_X12_runScript_82 fu m_10)) else (K_X12_runScript_82 fu mem))))
def K_X12_runScript_56 (fu : Nat) (k_19 : Mem → Option (Int32 × Mem)) (mem : Mem) : Option (Int32 × Mem) := bd (K_X12_ends fu mem) (fun m_11 => (k_19 m_11))
def K_X12_runScript_19 (fu : Nat) : Nat → Mem → Option (Int32 × Mem)
  | 0, _ => none
  | n + 1, mem => bd (K_X12_isGood fu mem) (fun x_5 => (if x_5 = 0 then (K_X12_runScript_63 fu mem) else (if (rd mem 0 6) = 0 then (K_X12_runScript_63 fu mem) else lt_ (rd mem 0 45) (fun x_6 => bd (K_X12_command fu mem) (fun m_7 => (if (rd m_7 0 45) = x_6 then bd (K_X12_mustSign fu 59 m_7) (fun m_8 => (K_X12_runScript_56 fu (K_X12_runScript_19 fu n) m_8)) else (K_X12_runScript_56 fu (K_X12_runScript_19 fu n) m_7)))))))
def K_X12_runScript (fu : Nat) (mem : Mem) : Option (Int32 × Mem) := bd (K_X12_beginsText fu mem) (fun m_1 => lt_ (mw m_1 0 43 0) (fun m_2 => lt_ (mw m_2 0 44 0) (fun m_3 => lt_ (mw m_3 0 45 0) (fun m_4 => (K_X12_runScript_19 fu fu m_4)))))
def rm_X12_runScript : Room := { frames := 14, cells := 0, slots := 0, locals := 333 }
set_option maxHeartbeats 4000000 in
set_option maxRecDepth 100000 in
theorem ct_X12_runScript (l : Launch) {D : va_G} {ca ad : Nat → Nat} {Z : (Nat → Prop) → State → Heap → Prop} (hZ : ZOK Z) (fu : Nat) (mem : Mem) (res : (Int32 × Mem)) (hF : K_X12_runScript fu mem = some res) : CI l D (tyL ca) 23 ad (cM ca ad) Z yX12_runScript cX12_runScript 2 .int rm_X12_runScript [.ref (ad 0)] mem res.1 res.2 := by
  refine start_i (own := RX12) rfl (by decide) (Nat.le_of_ble_eq_true rfl) ?_
  intro p e s m args below meth c Q hQ X
  rw [K_X12_runScript] at hF
  revert hF
  have w_82 : ∀ (mem : Mem), K_X12_runScript_82 fu mem = some res → WW D 23 ad (cM ca ad) p l e rm_X12_runScript s m args below meth c 2 0 0 Q mem 82 [(0, .ref (ad 0))] [] := by
    intro mem hF
    rw [K_X12_runScript_82] at hF
    refine w_aload_n X 0 dX12_runScript_82 rfl rfl 83 rfl ?_
    refine w_callVi (fun x => x.1) (fun x => x.2) X hZ hF [] 0 ml_0 mo_0 rfl rfl rfl kB_X12_endsText kL_X12_331 (fun res h => ct_X12_endsText l hZ fu mem res h) rfl rfl rfl ⟨Nat.le_of_ble_eq_true rfl, Nat.le_of_ble_eq_true rfl⟩ (Nat.le_of_ble_eq_true rfl) ⟨Nat.zero_le _, Nat.zero_le _⟩ dX12_runScript_83 86 rfl (fun p_12 hF => ?_)
    refine w_if_ne X hF 91 89 dX12_runScript_86 (by decide) rfl (fun hF => ?_) (fun hF => ?_)
    · refine w_iconst X 0 dX12_runScript_89 rfl 90 rfl ?_
      exact w_iret X hQ (o_inj1 hF) (o_inj2 hF) rfl dX12_runScript_90
    · refine w_aload_n X 0 dX12_runScript_91 rfl rfl 92 rfl ?_
      refine w_callVv (fun m => m) X hZ hF [] 0 ml_0 mo_0 rfl rfl rfl kB_X12_laysAside kL_X12_325 (fun res h => ct_X12_laysAside l hZ fu p_12.2 res h) rfl rfl rfl ⟨Nat.le_of_ble_eq_true rfl, Nat.le_of_ble_eq_true rfl⟩ (Nat.le_of_ble_eq_true rfl) ⟨Nat.zero_le _, Nat.zero_le _⟩ dX12_runScript_92 95 rfl (fun m_13 hF => ?_)
      refine w_aload_n X 0 dX12_runScript_95 rfl rfl 96 rfl ?_
      refine w_callVi (fun x => x.1) (fun x => x.2) X hZ hF [] 0 ml_0 mo_0 rfl rfl rfl kB_X12_runs kL_X12_506 (fun res h => ct_X12_runs l hZ fu m_13 res h) rfl rfl rfl ⟨Nat.le_of_ble_eq_true rfl, Nat.le_of_ble_eq_true rfl⟩ (Nat.le_of_ble_eq_true rfl) ⟨Nat.zero_le _, Nat.zero_le _⟩ dX12_runScript_96 99 rfl (fun p_14 hF => ?_)
      refine w_let hF (fun x_15 hF => ?_)
      refine w_istore_n X [(1, .int x_15), (0, .ref (ad 0))] dX12_runScript_99 rfl (by decide) rfl 100 rfl ?_
      refine w_aload_n X 1 dX12_runScript_100 rfl rfl 101 rfl ?_
      refine w_callVv (fun m => m) X hZ hF [] 0 ml_0 mo_0 rfl rfl rfl kB_X12_keeps kL_X12_456 (fun res h => ct_X12_keeps l hZ fu p_14.2 res h) rfl rfl rfl ⟨Nat.le_of_ble_eq_true rfl, Nat.le_of_ble_eq_true rfl⟩ (Nat.le_of_ble_eq_true rfl) ⟨Nat.zero_le _, Nat.zero_le _⟩ dX12_runScript_101 104 rfl (fun m_16 hF => ?_)
      refine w_iload_n X 0 dX12_runScript_104 rfl rfl 105 rfl ?_
      exact w_iret X hQ (o_inj1 hF) (o_inj2 hF) rfl dX12_runScript_105
  have w_63 : ∀ (mem : Mem), K_X12_runScript_63 fu mem = some res → WW D 23 ad (cM ca ad) p l e rm_X12_runScript s m args below meth c 2 0 0 Q mem 63 [(0, .ref (ad 0))] [] := by
    intro mem hF
    rw [K_X12_runScript_63] at hF
    refine w_aload_n X 0 dX12_runScript_63 rfl rfl 64 rfl ?_
    refine w_callVi (fun x => x) (fun _ => mem) X hZ hF [] 0 ml_0 mo_0 rfl rfl rfl kB_X12_isGood kL_X12_143 (fun res h => ct_X12_isGood l hZ fu mem res h) rfl rfl rfl ⟨Nat.le_of_ble_eq_true rfl, Nat.le_of_ble_eq_true rfl⟩ (Nat.le_of_ble_eq_true rfl) ⟨Nat.zero_le _, Nat.zero_le _⟩ dX12_runScript_64 67 rfl (fun x_9 hF => ?_)
    refine w_if_eq X hF 82 70 dX12_runScript_67 (by decide) rfl (fun hF => ?_) (fun hF => ?_)
    · refine w_keep [0] rfl ?_
      exact w_82 mem hF
    · refine w_aload_n X 0 dX12_runScript_70 rfl rfl 71 rfl ?_
      refine w_getV (v := .int (rd mem 0 45)) X 0 ml_0 mo_0 (T := TX12) (N := 50) rfl in_X12 45 (by decide) kF_X12_488 rfl rfl dX12_runScript_71 74 rfl ?_
      refine w_if_le X hF 82 77 dX12_runScript_74 (by decide) rfl (fun hF => ?_) (fun hF => ?_)
      · refine w_aload_n X 0 dX12_runScript_77 rfl rfl 78 rfl ?_
        refine w_iconst X 1 dX12_runScript_78 rfl 79 rfl ?_
        refine w_callVv (fun m => m) X hZ hF [.int 1] 0 ml_0 mo_0 rfl rfl rfl kB_X12_wrong kL_X12_150 (fun res h => ct_X12_wrong l hZ fu 1 mem res h) rfl rfl rfl ⟨Nat.le_of_ble_eq_true rfl, Nat.le_of_ble_eq_true rfl⟩ (Nat.le_of_ble_eq_true rfl) ⟨Nat.zero_le _, Nat.zero_le _⟩ dX12_runScript_79 82 rfl (fun m_10 hF => ?_)
        refine w_keep [0] rfl ?_
        exact w_82 m_10 hF
      · refine w_keep [0] rfl ?_
        exact w_82 mem hF
  have w_56 : ∀ (k_19 : Mem → Option (Int32 × Mem)) (hk_19 : ∀ (mem : Mem), k_19 mem = some res → WW D 23 ad (cM ca ad) p l e rm_X12_runScript s m args below meth c 2 0 0 Q mem 19 [(0, .ref (ad 0))] []) (mem : Mem), K_X12_runScript_56 fu k_19 mem = some res → WW D 23 ad (cM ca ad) p l e rm_X12_runScript s m args below meth c 2 0 0 Q mem 56 [(0, .ref (ad 0))] [] := by
    intro k_19 hk_19 mem hF
    rw [K_X12_runScript_56] at hF
    refine w_aload_n X 0 dX12_runScript_56 rfl rfl 57 rfl ?_
    refine w_callVv (fun m => m) X hZ hF [] 0 ml_0 mo_0 rfl rfl rfl kB_X12_ends kL_X12_503 (fun res h => ct_X12_ends l hZ fu mem res h) rfl rfl rfl ⟨Nat.le_of_ble_eq_true rfl, Nat.le_of_ble_eq_true rfl⟩ (Nat.le_of_ble_eq_true rfl) ⟨Nat.zero_le _, Nat.zero_le _⟩ dX12_runScript_57 60 rfl (fun m_11 hF => ?_)
    refine w_goto X 19 dX12_runScript_60 (by decide) ?_
    refine w_keep [0] rfl ?_
    exact hk_19 m_11 hF
  have w_19 : ∀ (n : Nat) (mem : Mem), K_X12_runScript_19 fu n mem = some res → WW D 23 ad (cM ca ad) p l e rm_X12_runScript s m args below meth c 2 0 0 Q mem 19 [(0, .ref (ad 0))] [] := by
    intro n
    induction n with
    | zero => intro mem hF; exact no_none (show (none : Option (Int32 × Mem)) = some res from hF)
    | succ n ih =>
      intro mem hF
      rw [K_X12_runScript_19] at hF
      refine w_aload_n X 0 dX12_runScript_19 rfl rfl 20 rfl ?_
      refine w_callVi (fun x => x) (fun _ => mem) X hZ hF [] 0 ml_0 mo_0 rfl rfl rfl kB_X12_isGood kL_X12_143 (fun res h => ct_X12_isGood l hZ fu mem res h) rfl rfl rfl ⟨Nat.le_of_ble_eq_true rfl, Nat.le_of_ble_eq_true rfl⟩ (Nat.le_of_ble_eq_true rfl) ⟨Nat.zero_le _, Nat.zero_le _⟩ dX12_runScript_20 23 rfl (fun x_5 hF => ?_)
      refine w_if_eq X hF 63 26 dX12_runScript_23 (by decide) rfl (fun hF => ?_) (fun hF => ?_)
      · refine w_keep [0] rfl ?_
        exact w_63 mem hF
      · refine w_aload_n X 0 dX12_runScript_26 rfl rfl 27 rfl ?_
        refine w_getV (v := .int (rd mem 0 6)) X 0 ml_0 mo_0 (T := TX12) (N := 50) rfl in_X12 6 (by decide) kF_X12_130 rfl rfl dX12_runScript_27 30 rfl ?_
        refine w_if_eq X hF 63 33 dX12_runScript_30 (by decide) rfl (fun hF => ?_) (fun hF => ?_)
        · refine w_keep [0] rfl ?_
          exact w_63 mem hF
        · refine w_aload_n X 0 dX12_runScript_33 rfl rfl 34 rfl ?_
          refine w_getV (v := .int (rd mem 0 45)) X 0 ml_0 mo_0 (T := TX12) (N := 50) rfl in_X12 45 (by decide) kF_X12_488 rfl rfl dX12_runScript_34 37 rfl ?_
          refine w_let hF (fun x_6 hF => ?_)
          refine w_istore_n X [(1, .int x_6), (0, .ref (ad 0))] dX12_runScript_37 rfl (by decide) rfl 38 rfl ?_
          refine w_aload_n X 1 dX12_runScript_38 rfl rfl 39 rfl ?_
          refine w_callVv (fun m => m) X hZ hF [] 0 ml_0 mo_0 rfl rfl rfl kB_X12_command kL_X12_500 (fun res h => ct_X12_command l hZ fu mem res h) rfl rfl rfl ⟨Nat.le_of_ble_eq_true rfl, Nat.le_of_ble_eq_true rfl⟩ (Nat.le_of_ble_eq_true rfl) ⟨Nat.zero_le _, Nat.zero_le _⟩ dX12_runScript_39 42 rfl (fun m_7 hF => ?_)
          refine w_aload_n X 1 dX12_runScript_42 rfl rfl 43 rfl ?_
          refine w_getV (v := .int (rd m_7 0 45)) X 0 ml_0 mo_0 (T := TX12) (N := 50) rfl in_X12 45 (by decide) kF_X12_488 rfl rfl dX12_runScript_43 46 rfl ?_
          refine w_iload_n X 0 dX12_runScript_46 rfl rfl 47 rfl ?_
          refine w_icmp_ne X hF 56 50 dX12_runScript_47 (by decide) rfl (fun hF => ?_) (fun hF => ?_)
          · refine w_aload_n X 1 dX12_runScript_50 rfl rfl 51 rfl ?_
            refine w_bipush X 59 dX12_runScript_51 rfl 53 rfl ?_
            refine w_callVv (fun m => m) X hZ hF [.int 59] 0 ml_0 mo_0 rfl rfl rfl kB_X12_mustSign kL_X12_319 (fun res h => ct_X12_mustSign l hZ fu 59 m_7 res h) rfl rfl rfl ⟨Nat.le_of_ble_eq_true rfl, Nat.le_of_ble_eq_true rfl⟩ (Nat.le_of_ble_eq_true rfl) ⟨Nat.zero_le _, Nat.zero_le _⟩ dX12_runScript_53 56 rfl (fun m_8 hF => ?_)
            refine w_keep [1] rfl ?_
            exact w_56 (K_X12_runScript_19 fu n) ih m_8 hF
          · refine w_keep [1] rfl ?_
            exact w_56 (K_X12_runScript_19 fu n) ih m_7 hF
  intro hF
  refine w_aload_n X 0 dX12_runScript_0 rfl rfl 1 rfl ?_
  refine w_callVv (fun m => m) X hZ hF [] 0 ml_0 mo_0 rfl rfl rfl kB_X12_beginsText kL_X12_322 (fun res h => ct_X12_beginsText l hZ fu mem res h) rfl rfl rfl ⟨Nat.le_of_ble_eq_true rfl, Nat.le_of_ble_eq_true rfl⟩ (Nat.le_of_ble_eq_true rfl) ⟨Nat.zero_le _, Nat.zero_le _⟩ dX12_runScript_1 4 rfl (fun m_1 hF => ?_)
  refine w_aload_n X 0 dX12_runScript_4 rfl rfl 5 rfl ?_
  refine w_iconst X 0 dX12_runScript_5 rfl 6 rfl ?_
  refine w_putI X 0 ml_0 mo_0 (T := TX12) (N := 50) rfl in_X12 tyX12 tyX12_ok nmX12 43 (by decide) kF_X12_494 rfl rfl rfl rfl (Nat.le_of_ble_eq_true rfl) rfl dX12_runScript_6 9 rfl ?_
  refine w_letm hF (fun m_2 hF => ?_)
  refine w_aload_n X 0 dX12_runScript_9 rfl rfl 10 rfl ?_
  refine w_iconst X 0 dX12_runScript_10 rfl 11 rfl ?_
  refine w_putI X 0 ml_0 mo_0 (T := TX12) (N := 50) rfl in_X12 tyX12 tyX12_ok nmX12 44 (by decide) kF_X12_491 rfl rfl rfl rfl (Nat.le_of_ble_eq_true rfl) rfl dX12_runScript_11 14 rfl ?_
  refine w_letm hF (fun m_3 hF => ?_)
  refine w_aload_n X 0 dX12_runScript_14 rfl rfl 15 rfl ?_
  refine w_iconst X 0 dX12_runScript_15 rfl 16 rfl ?_
  refine w_putI X 0 ml_0 mo_0 (T := TX12) (N := 50) rfl in_X12 tyX12 tyX12_ok nmX12 45 (by decide) kF_X12_488 rfl rfl rfl rfl (Nat.le_of_ble_eq_true rfl) rfl dX12_runScript_16 19 rfl ?_
  refine w_letm hF (fun m_4 hF => ?_)
  refine w_keep [0] rfl ?_
  exact w_19 fu m_4 hF

def K_X12_save_7 (fu : Nat) : Nat → Int32 → Mem → Option (Int32 × Mem)
  | 0, _, _ => none
  | n + 1, x1, mem => (if x1 < 184 then gi x1 184 (gi x1 184 (lt_ (mw mem 3 (Int32.toNatClampNeg x1) (rd mem 2 (Int32.toNatClampNeg x1))) (fun m_4 => (K_X12_save_7 fu n (x1 + 1) m_4)))) else lt_ (mw mem 0 19 1) (fun m_5 => gi 4 184 (some ((rd m_5 2 (Int32.toNatClampNeg 4)), m_5))))
def K_X12_save (fu : Nat) (mem : Mem) : Option (Int32 × Mem) := lt_ (mw mem 0 0 0) (fun m_1 => (K_X12_save_7 fu fu 0 m_1))
def rm_X12_save : Room := { frames := 0, cells := 0, slots := 0, locals := 0 }
set_option maxHeartbeats 4000000 in
set_option maxRecDepth 100000 in
theorem ct_X12_save (l : Launch) {D : va_G} {ca ad : Nat → Nat} {Z : (Nat → Prop) → State → Heap → Prop} (hZ : ZOK Z) (fu : Nat) (mem : Mem) (res : (Int32 × Mem)) (hF : K_X12_save fu mem = some res) : CI l D (tyL ca) 23 ad (cM ca ad) Z yX12_save cX12_save 2 .int rm_X12_save [.ref (ad 0)] mem res.1 res.2 := by
  refine start_i (own := RX12) rfl (by decide) (Nat.le_of_ble_eq_true rfl) ?_
  intro p e s m args below meth c Q hQ X
  rw [K_X12_save] at hF
  revert hF
  have w_7 : ∀ (n : Nat) (x1 : Int32) (mem : Mem), K_X12_save_7 fu n x1 mem = some res → WW D 23 ad (cM ca ad) p l e rm_X12_save s m args below meth c 2 0 0 Q mem 7 [(0, .ref (ad 0)), (1, .int x1)] [] := by
    intro n
    induction n with
    | zero => intro x1 mem hF; exact no_none (show (none : Option (Int32 × Mem)) = some res from hF)
    | succ n ih =>
      intro x1 mem hF
      rw [K_X12_save_7] at hF
      refine w_iload_n X 1 dX12_save_7 rfl rfl 8 rfl ?_
      refine w_sipush X 184 dX12_save_8 rfl 11 rfl ?_
      refine w_icmp_ge X hF 32 14 dX12_save_11 (by decide) rfl (fun hF => ?_) (fun hF => ?_)
      · refine w_aload_n X 0 dX12_save_14 rfl rfl 15 rfl ?_
        refine w_getV (v := .ref (ad 3)) X 0 ml_0 mo_0 (T := TX12) (N := 50) rfl in_X12 14 (by decide) kF_X12_23 rfl rfl dX12_save_15 18 rfl ?_
        refine w_iload_n X 1 dX12_save_18 rfl rfl 19 rfl ?_
        refine w_aload_n X 0 dX12_save_19 rfl rfl 20 rfl ?_
        refine w_getV (v := .ref (ad 2)) X 0 ml_0 mo_0 (T := TX12) (N := 50) rfl in_X12 13 (by decide) kF_X12_20 rfl rfl dX12_save_20 23 rfl ?_
        refine w_iload_n X 1 dX12_save_23 rfl rfl 24 rfl ?_
        refine w_gi hF (fun h_2 hF => ?_)
        refine w_ial X 2 ml_2 mo_2 (t0 := 0) rfl h_2 dX12_save_24 25 rfl ?_
        refine w_gi hF (fun h_3 hF => ?_)
        refine w_ias X 3 ml_3 mo_3 (t0 := 0) rfl h_3 dX12_save_25 26 rfl ?_
        refine w_letm hF (fun m_4 hF => ?_)
        refine w_iinc X 1 (x1 + 1) [(1, .int (x1 + 1)), (0, .ref (ad 0))] dX12_save_26 rfl rfl (by decide) rfl 29 rfl ?_
        refine w_goto X 7 dX12_save_29 (by decide) ?_
        refine w_keep [1, 0] rfl ?_
        exact ih (x1 + 1) m_4 hF
      · refine w_aload_n X 0 dX12_save_32 rfl rfl 33 rfl ?_
        refine w_iconst X 1 dX12_save_33 rfl 34 rfl ?_
        refine w_putI X 0 ml_0 mo_0 (T := TX12) (N := 50) rfl in_X12 tyX12 tyX12_ok nmX12 19 (by decide) kF_X12_170 rfl rfl rfl rfl (Nat.le_of_ble_eq_true rfl) rfl dX12_save_34 37 rfl ?_
        refine w_letm hF (fun m_5 hF => ?_)
        refine w_aload_n X 0 dX12_save_37 rfl rfl 38 rfl ?_
        refine w_getV (v := .ref (ad 2)) X 0 ml_0 mo_0 (T := TX12) (N := 50) rfl in_X12 13 (by decide) kF_X12_20 rfl rfl dX12_save_38 41 rfl ?_
        refine w_iconst X 4 dX12_save_41 rfl 42 rfl ?_
        refine w_gi hF (fun h_6 hF => ?_)
        refine w_ial X 2 ml_2 mo_2 (t0 := 0) rfl h_6 dX12_save_42 43 rfl ?_
        exact w_iret X hQ (o_inj1 hF) (o_inj2 hF) rfl dX12_save_43
  intro hF
  refine w_aload_n X 0 dX12_save_0 rfl rfl 1 rfl ?_
  refine w_iconst X 0 dX12_save_1 rfl 2 rfl ?_
  refine w_putI X 0 ml_0 mo_0 (T := TX12) (N := 50) rfl in_X12 tyX12 tyX12_ok nmX12 0 (by decide) kF_X12_88 rfl rfl rfl rfl (Nat.le_of_ble_eq_true rfl) rfl dX12_save_2 5 rfl ?_
  refine w_letm hF (fun m_1 hF => ?_)
  refine w_iconst X 0 dX12_save_5 rfl 6 rfl ?_
  refine w_istore_n X [(1, .int 0), (0, .ref (ad 0))] dX12_save_6 rfl (by decide) rfl 7 rfl ?_
  refine w_keep [1, 0] rfl ?_
  exact w_7 fu 0 m_1 hF

def K_X12_setting (fu : Nat) (x1 : Int32) (mem : Mem) : Option (Int32 × Mem) := bd (K_X12_isIn fu (Int32.toInt64 x1) 0 6 mem) (fun x_1 => bd (K_X12_goes fu x_1 mem) (fun p_2 => (if p_2.1 = 0 then some (0, p_2.2) else gi x1 184 (some ((rd p_2.2 2 (Int32.toNatClampNeg x1)), p_2.2)))))
def rm_X12_setting : Room := { frames := 2, cells := 0, slots := 0, locals := 41 }
set_option maxHeartbeats 4000000 in
set_option maxRecDepth 100000 in
theorem ct_X12_setting (l : Launch) {D : va_G} {ca ad : Nat → Nat} {Z : (Nat → Prop) → State → Heap → Prop} (hZ : ZOK Z) (fu : Nat) (x1 : Int32) (mem : Mem) (res : (Int32 × Mem)) (hF : K_X12_setting fu x1 mem = some res) : CI l D (tyL ca) 23 ad (cM ca ad) Z yX12_setting cX12_setting 2 .int rm_X12_setting [.ref (ad 0), .int x1] mem res.1 res.2 := by
  refine start_i (own := RX12) rfl (by decide) (Nat.le_of_ble_eq_true rfl) ?_
  intro p e s m args below meth c Q hQ X
  rw [K_X12_setting] at hF
  revert hF
  intro hF
  refine w_aload_n X 0 dX12_setting_0 rfl rfl 1 rfl ?_
  refine w_iload_n X 1 dX12_setting_1 rfl rfl 2 rfl ?_
  refine w_i2l X dX12_setting_2 3 rfl ?_
  refine w_lconst X 0 dX12_setting_3 rfl 4 rfl ?_
  refine w_ldc2 X 6 kK_X12_337 dX12_setting_4 7 rfl ?_
  refine w_callSi (fun x => x) (fun _ => mem) X hZ hF [.long (Int32.toInt64 x1), .long 0, .long 6] rfl kB_X12_isIn kL_X12_106 (fun res h => ct_X12_isIn l hZ fu (Int32.toInt64 x1) 0 6 mem res h) rfl rfl rfl ⟨Nat.le_of_ble_eq_true rfl, Nat.le_of_ble_eq_true rfl⟩ (Nat.le_of_ble_eq_true rfl) ⟨Nat.zero_le _, Nat.zero_le _⟩ dX12_setting_7 10 rfl (fun x_1 hF => ?_)
  refine w_callVi (fun x => x.1) (fun x => x.2) X hZ hF [.int x_1] 0 ml_0 mo_0 rfl rfl rfl kB_X12_goes kL_X12_98 (fun res h => ct_X12_goes l hZ fu x_1 mem res h) rfl rfl rfl ⟨Nat.le_of_ble_eq_true rfl, Nat.le_of_ble_eq_true rfl⟩ (Nat.le_of_ble_eq_true rfl) ⟨Nat.zero_le _, Nat.zero_le _⟩ dX12_setting_10 13 rfl (fun p_2 hF => ?_)
  refine w_if_eq X hF 25 16 dX12_setting_13 (by decide) rfl (fun hF => ?_) (fun hF => ?_)
  · refine w_iconst X 0 dX12_setting_25 rfl 26 rfl ?_
    exact w_iret X hQ (o_inj1 hF) (o_inj2 hF) rfl dX12_setting_26
  · refine w_aload_n X 0 dX12_setting_16 rfl rfl 17 rfl ?_
    refine w_getV (v := .ref (ad 2)) X 0 ml_0 mo_0 (T := TX12) (N := 50) rfl in_X12 13 (by decide) kF_X12_20 rfl rfl dX12_setting_17 20 rfl ?_
    refine w_iload_n X 1 dX12_setting_20 rfl rfl 21 rfl ?_
    refine w_gi hF (fun h_3 hF => ?_)
    refine w_ial X 2 ml_2 mo_2 (t0 := 0) rfl h_3 dX12_setting_21 22 rfl ?_
    refine w_goto X 26 dX12_setting_22 (by decide) ?_
    exact w_iret X hQ (o_inj1 hF) (o_inj2 hF) rfl dX12_setting_26

def K_X12_step_29 (fu : Nat) (x1 : Int32) (xs0 : Int32) (xs1 : Int32) (mem : Mem) : Option (Int32 × Mem) := bd (K_X12_goesBoth fu xs1 xs0 mem) (fun p_3 => (if p_3.1 = 0 then some (0, p_3.2) else bd (K_X12_laysAside fu p_3.2) (fun m_4 => bd (K_X12_stepsNow fu x1 m_4) (fun p_5 => lt_ p_5.1 (fun x_6 => bd (K_X12_keeps fu p_5.2) (fun m_7 => some (x_6, m_7)))))))
def K_X12_step_28 (fu : Nat) (x1 : Int32) (xs0 : Int32) (mem : Mem) : Option (Int32 × Mem) := (K_X12_step_29 fu x1 0 xs0 mem)
def K_X12_step (fu : Nat) (x1 : Int32) (mem : Mem) : Option (Int32 × Mem) := bd (K_X12_isIn fu (Int32.toInt64 x1) 0 3 mem) (fun x_1 => (if x_1 = 0 then (K_X12_step_28 fu x1 x_1 mem) else bd (K_X12_mayStep fu x1 mem) (fun p_2 => (if p_2.1 = 0 then (K_X12_step_28 fu x1 x_1 p_2.2) else (K_X12_step_29 fu x1 1 x_1 p_2.2)))))
def rm_X12_step : Room := { frames := 8, cells := 0, slots := 0, locals := 186 }
set_option maxHeartbeats 4000000 in
set_option maxRecDepth 100000 in
theorem ct_X12_step (l : Launch) {D : va_G} {ca ad : Nat → Nat} {Z : (Nat → Prop) → State → Heap → Prop} (hZ : ZOK Z) (fu : Nat) (x1 : Int32) (mem : Mem) (res : (Int32 × Mem)) (hF : K_X12_step fu x1 mem = some res) : CI l D (tyL ca) 23 ad (cM ca ad) Z yX12_step cX12_step 4 .int rm_X12_step [.ref (ad 0), .int x1] mem res.1 res.2 := by
  refine start_i (own := RX12) rfl (by decide) (Nat.le_of_ble_eq_true rfl) ?_
  intro p e s m args below meth c Q hQ X
  rw [K_X12_step] at hF
  revert hF
  have w_29 : ∀ (x1 : Int32) (xs0 : Int32) (xs1 : Int32) (mem : Mem), K_X12_step_29 fu x1 xs0 xs1 mem = some res → WW D 23 ad (cM ca ad) p l e rm_X12_step s m args below meth c 4 0 0 Q mem 29 [(0, .ref (ad 0)), (1, .int x1)] [.int xs0, .int xs1, .ref (ad 0)] := by
    intro x1 xs0 xs1 mem hF
    rw [K_X12_step_29] at hF
    refine w_callVi (fun x => x.1) (fun x => x.2) X hZ hF [.int xs1, .int xs0] 0 ml_0 mo_0 rfl rfl rfl kB_X12_goesBoth kL_X12_344 (fun res h => ct_X12_goesBoth l hZ fu xs1 xs0 mem res h) rfl rfl rfl ⟨Nat.le_of_ble_eq_true rfl, Nat.le_of_ble_eq_true rfl⟩ (Nat.le_of_ble_eq_true rfl) ⟨Nat.zero_le _, Nat.zero_le _⟩ dX12_step_29 32 rfl (fun p_3 hF => ?_)
    refine w_if_ne X hF 37 35 dX12_step_32 (by decide) rfl (fun hF => ?_) (fun hF => ?_)
    · refine w_iconst X 0 dX12_step_35 rfl 36 rfl ?_
      exact w_iret X hQ (o_inj1 hF) (o_inj2 hF) rfl dX12_step_36
    · refine w_aload_n X 0 dX12_step_37 rfl rfl 38 rfl ?_
      refine w_callVv (fun m => m) X hZ hF [] 0 ml_0 mo_0 rfl rfl rfl kB_X12_laysAside kL_X12_325 (fun res h => ct_X12_laysAside l hZ fu p_3.2 res h) rfl rfl rfl ⟨Nat.le_of_ble_eq_true rfl, Nat.le_of_ble_eq_true rfl⟩ (Nat.le_of_ble_eq_true rfl) ⟨Nat.zero_le _, Nat.zero_le _⟩ dX12_step_38 41 rfl (fun m_4 hF => ?_)
      refine w_aload_n X 0 dX12_step_41 rfl rfl 42 rfl ?_
      refine w_iload_n X 1 dX12_step_42 rfl rfl 43 rfl ?_
      refine w_callVi (fun x => x.1) (fun x => x.2) X hZ hF [.int x1] 0 ml_0 mo_0 rfl rfl rfl kB_X12_stepsNow kL_X12_453 (fun res h => ct_X12_stepsNow l hZ fu x1 m_4 res h) rfl rfl rfl ⟨Nat.le_of_ble_eq_true rfl, Nat.le_of_ble_eq_true rfl⟩ (Nat.le_of_ble_eq_true rfl) ⟨Nat.zero_le _, Nat.zero_le _⟩ dX12_step_43 46 rfl (fun p_5 hF => ?_)
      refine w_let hF (fun x_6 hF => ?_)
      refine w_istore_n X [(3, .int x_6), (0, .ref (ad 0)), (1, .int x1)] dX12_step_46 rfl (by decide) rfl 47 rfl ?_
      refine w_aload_n X 1 dX12_step_47 rfl rfl 48 rfl ?_
      refine w_callVv (fun m => m) X hZ hF [] 0 ml_0 mo_0 rfl rfl rfl kB_X12_keeps kL_X12_456 (fun res h => ct_X12_keeps l hZ fu p_5.2 res h) rfl rfl rfl ⟨Nat.le_of_ble_eq_true rfl, Nat.le_of_ble_eq_true rfl⟩ (Nat.le_of_ble_eq_true rfl) ⟨Nat.zero_le _, Nat.zero_le _⟩ dX12_step_48 51 rfl (fun m_7 hF => ?_)
      refine w_iload_n X 0 dX12_step_51 rfl rfl 52 rfl ?_
      exact w_iret X hQ (o_inj1 hF) (o_inj2 hF) rfl dX12_step_52
  have w_28 : ∀ (x1 : Int32) (xs0 : Int32) (mem : Mem), K_X12_step_28 fu x1 xs0 mem = some res → WW D 23 ad (cM ca ad) p l e rm_X12_step s m args below meth c 4 0 0 Q mem 28 [(0, .ref (ad 0)), (1, .int x1)] [.int xs0, .ref (ad 0)] := by
    intro x1 xs0 mem hF
    rw [K_X12_step_28] at hF
    refine w_iconst X 0 dX12_step_28 rfl 29 rfl ?_
    refine w_keep [0, 1] rfl ?_
    exact w_29 x1 0 xs0 mem hF
  intro hF
  refine w_iload_n X 1 dX12_step_0 rfl rfl 1 rfl ?_
  refine w_i2l X dX12_step_1 2 rfl ?_
  refine w_lconst X 0 dX12_step_2 rfl 3 rfl ?_
  refine w_ldc2 X 3 kK_X12_357 dX12_step_3 6 rfl ?_
  refine w_callSi (fun x => x) (fun _ => mem) X hZ hF [.long (Int32.toInt64 x1), .long 0, .long 3] rfl kB_X12_isIn kL_X12_106 (fun res h => ct_X12_isIn l hZ fu (Int32.toInt64 x1) 0 3 mem res h) rfl rfl rfl ⟨Nat.le_of_ble_eq_true rfl, Nat.le_of_ble_eq_true rfl⟩ (Nat.le_of_ble_eq_true rfl) ⟨Nat.zero_le _, Nat.zero_le _⟩ dX12_step_6 9 rfl (fun x_1 hF => ?_)
  refine w_istore_n X [(2, .int x_1), (0, .ref (ad 0)), (1, .int x1)] dX12_step_9 rfl (by decide) rfl 10 rfl ?_
  refine w_aload_n X 1 dX12_step_10 rfl rfl 11 rfl ?_
  refine w_iload_n X 0 dX12_step_11 rfl rfl 12 rfl ?_
  refine w_iload_n X 0 dX12_step_12 rfl rfl 13 rfl ?_
  refine w_if_eq X hF 28 16 dX12_step_13 (by decide) rfl (fun hF => ?_) (fun hF => ?_)
  · refine w_keep [1, 2] rfl ?_
    exact w_28 x1 x_1 mem hF
  · refine w_aload_n X 1 dX12_step_16 rfl rfl 17 rfl ?_
    refine w_iload_n X 2 dX12_step_17 rfl rfl 18 rfl ?_
    refine w_callVi (fun x => x.1) (fun x => x.2) X hZ hF [.int x1] 0 ml_0 mo_0 rfl rfl rfl kB_X12_mayStep kL_X12_450 (fun res h => ct_X12_mayStep l hZ fu x1 mem res h) rfl rfl rfl ⟨Nat.le_of_ble_eq_true rfl, Nat.le_of_ble_eq_true rfl⟩ (Nat.le_of_ble_eq_true rfl) ⟨Nat.zero_le _, Nat.zero_le _⟩ dX12_step_18 21 rfl (fun p_2 hF => ?_)
    refine w_if_eq X hF 28 24 dX12_step_21 (by decide) rfl (fun hF => ?_) (fun hF => ?_)
    · refine w_keep [1, 2] rfl ?_
      exact w_28 x1 x_1 p_2.2 hF
    · refine w_iconst X 1 dX12_step_24 rfl 25 rfl ?_
      refine w_goto X 29 dX12_step_25 (by decide) ?_
      refine w_keep [1, 2] rfl ?_
      exact w_29 x1 1 x_1 p_2.2 hF

def K_X12_steps (fu : Nat) (x1 : Int32) (mem : Mem) : Option (Int32 × Mem) := bd (K_X12_isPawn fu x1 mem) (fun x_1 => bd (K_X12_goes fu x_1 mem) (fun p_2 => (if p_2.1 = 0 then some (0, p_2.2) else bd (K_X12_stepsOf fu x1 p_2.2) (fun p_3 => some (p_3.1, p_3.2)))))
def rm_X12_steps : Room := { frames := 6, cells := 0, slots := 0, locals := 148 }
set_option maxHeartbeats 4000000 in
set_option maxRecDepth 100000 in
theorem ct_X12_steps (l : Launch) {D : va_G} {ca ad : Nat → Nat} {Z : (Nat → Prop) → State → Heap → Prop} (hZ : ZOK Z) (fu : Nat) (x1 : Int32) (mem : Mem) (res : (Int32 × Mem)) (hF : K_X12_steps fu x1 mem = some res) : CI l D (tyL ca) 23 ad (cM ca ad) Z yX12_steps cX12_steps 2 .int rm_X12_steps [.ref (ad 0), .int x1] mem res.1 res.2 := by
  refine start_i (own := RX12) rfl (by decide) (Nat.le_of_ble_eq_true rfl) ?_
  intro p e s m args below meth c Q hQ X
  rw [K_X12_steps] at hF
  revert hF
  intro hF
  refine w_aload_n X 0 dX12_steps_0 rfl rfl 1 rfl ?_
  refine w_aload_n X 0 dX12_steps_1 rfl rfl 2 rfl ?_
  refine w_iload_n X 1 dX12_steps_2 rfl rfl 3 rfl ?_
  refine w_callVi (fun x => x) (fun _ => mem) X hZ hF [.int x1] 0 ml_0 mo_0 rfl rfl rfl kB_X12_isPawn kL_X12_339 (fun res h => ct_X12_isPawn l hZ fu x1 mem res h) rfl rfl rfl ⟨Nat.le_of_ble_eq_true rfl, Nat.le_of_ble_eq_true rfl⟩ (Nat.le_of_ble_eq_true rfl) ⟨Nat.zero_le _, Nat.zero_le _⟩ dX12_steps_3 6 rfl (fun x_1 hF => ?_)
  refine w_callVi (fun x => x.1) (fun x => x.2) X hZ hF [.int x_1] 0 ml_0 mo_0 rfl rfl rfl kB_X12_goes kL_X12_98 (fun res h => ct_X12_goes l hZ fu x_1 mem res h) rfl rfl rfl ⟨Nat.le_of_ble_eq_true rfl, Nat.le_of_ble_eq_true rfl⟩ (Nat.le_of_ble_eq_true rfl) ⟨Nat.zero_le _, Nat.zero_le _⟩ dX12_steps_6 9 rfl (fun p_2 hF => ?_)
  refine w_if_eq X hF 20 12 dX12_steps_9 (by decide) rfl (fun hF => ?_) (fun hF => ?_)
  · refine w_iconst X 0 dX12_steps_20 rfl 21 rfl ?_
    exact w_iret X hQ (o_inj1 hF) (o_inj2 hF) rfl dX12_steps_21
  · refine w_aload_n X 0 dX12_steps_12 rfl rfl 13 rfl ?_
    refine w_iload_n X 1 dX12_steps_13 rfl rfl 14 rfl ?_
    refine w_callVi (fun x => x.1) (fun x => x.2) X hZ hF [.int x1] 0 ml_0 mo_0 rfl rfl rfl kB_X12_stepsOf kL_X12_382 (fun res h => ct_X12_stepsOf l hZ fu x1 p_2.2 res h) rfl rfl rfl ⟨Nat.le_of_ble_eq_true rfl, Nat.le_of_ble_eq_true rfl⟩ (Nat.le_of_ble_eq_true rfl) ⟨Nat.zero_le _, Nat.zero_le _⟩ dX12_steps_14 17 rfl (fun p_3 hF => ?_)
    refine w_goto X 21 dX12_steps_17 (by decide) ?_
    exact w_iret X hQ (o_inj1 hF) (o_inj2 hF) rfl dX12_steps_21

def K_X12_stepsWithBans (fu : Nat) (x1 : Int32) (mem : Mem) : Option (Int32 × Mem) := bd (K_X12_isPawn fu x1 mem) (fun x_1 => bd (K_X12_goes fu x_1 mem) (fun p_2 => (if p_2.1 = 0 then some (0, p_2.2) else bd (K_X12_leastWithBans fu x1 p_2.2) (fun p_3 => some (p_3.1, p_3.2)))))
def rm_X12_stepsWithBans : Room := { frames := 7, cells := 0, slots := 0, locals := 171 }
set_option maxHeartbeats 4000000 in
set_option maxRecDepth 100000 in
theorem ct_X12_stepsWithBans (l : Launch) {D : va_G} {ca ad : Nat → Nat} {Z : (Nat → Prop) → State → Heap → Prop} (hZ : ZOK Z) (fu : Nat) (x1 : Int32) (mem : Mem) (res : (Int32 × Mem)) (hF : K_X12_stepsWithBans fu x1 mem = some res) : CI l D (tyL ca) 23 ad (cM ca ad) Z yX12_stepsWithBans cX12_stepsWithBans 2 .int rm_X12_stepsWithBans [.ref (ad 0), .int x1] mem res.1 res.2 := by
  refine start_i (own := RX12) rfl (by decide) (Nat.le_of_ble_eq_true rfl) ?_
  intro p e s m args below meth c Q hQ X
  rw [K_X12_stepsWithBans] at hF
  revert hF
  intro hF
  refine w_aload_n X 0 dX12_stepsWithBans_0 rfl rfl 1 rfl ?_
  refine w_aload_n X 0 dX12_stepsWithBans_1 rfl rfl 2 rfl ?_
  refine w_iload_n X 1 dX12_stepsWithBans_2 rfl rfl 3 rfl ?_
  refine w_callVi (fun x => x) (fun _ => mem) X hZ hF [.int x1] 0 ml_0 mo_0 rfl rfl rfl kB_X12_isPawn kL_X12_339 (fun res h => ct_X12_isPawn l hZ fu x1 mem res h) rfl rfl rfl ⟨Nat.le_of_ble_eq_true rfl, Nat.le_of_ble_eq_true rfl⟩ (Nat.le_of_ble_eq_true rfl) ⟨Nat.zero_le _, Nat.zero_le _⟩ dX12_stepsWithBans_3 6 rfl (fun x_1 hF => ?_)
  refine w_callVi (fun x => x.1) (fun x => x.2) X hZ hF [.int x_1] 0 ml_0 mo_0 rfl rfl rfl kB_X12_goes kL_X12_98 (fun res h => ct_X12_goes l hZ fu x_1 mem res h) rfl rfl rfl ⟨Nat.le_of_ble_eq_true rfl, Nat.le_of_ble_eq_true rfl⟩ (Nat.le_of_ble_eq_true rfl) ⟨Nat.zero_le _, Nat.zero_le _⟩ dX12_stepsWithBans_6 9 rfl (fun p_2 hF => ?_)
  refine w_if_eq X hF 20 12 dX12_stepsWithBans_9 (by decide) rfl (fun hF => ?_) (fun hF => ?_)
  · refine w_iconst X 0 dX12_stepsWithBans_20 rfl 21 rfl ?_
    exact w_iret X hQ (o_inj1 hF) (o_inj2 hF) rfl dX12_stepsWithBans_21
  · refine w_aload_n X 0 dX12_stepsWithBans_12 rfl rfl 13 rfl ?_
    refine w_iload_n X 1 dX12_stepsWithBans_13 rfl rfl 14 rfl ?_
    refine w_callVi (fun x => x.1) (fun x => x.2) X hZ hF [.int x1] 0 ml_0 mo_0 rfl rfl rfl kB_X12_leastWithBans kL_X12_412 (fun res h => ct_X12_leastWithBans l hZ fu x1 p_2.2 res h) rfl rfl rfl ⟨Nat.le_of_ble_eq_true rfl, Nat.le_of_ble_eq_true rfl⟩ (Nat.le_of_ble_eq_true rfl) ⟨Nat.zero_le _, Nat.zero_le _⟩ dX12_stepsWithBans_14 17 rfl (fun p_3 hF => ?_)
    refine w_goto X 21 dX12_stepsWithBans_17 (by decide) ?_
    exact w_iret X hQ (o_inj1 hF) (o_inj2 hF) rfl dX12_stepsWithBans_21

def K_X12_thrown (fu : Nat) (mem : Mem) : Option Int32 := some (rd mem 0 0)
def rm_X12_thrown : Room := { frames := 0, cells := 0, slots := 0, locals := 0 }
set_option maxHeartbeats 4000000 in
set_option maxRecDepth 100000 in
theorem ct_X12_thrown (l : Launch) {D : va_G} {ca ad : Nat → Nat} {Z : (Nat → Prop) → State → Heap → Prop} (hZ : ZOK Z) (fu : Nat) (mem : Mem) (res : Int32) (hF : K_X12_thrown fu mem = some res) : CI l D (tyL ca) 23 ad (cM ca ad) Z yX12_thrown cX12_thrown 1 .int rm_X12_thrown [.ref (ad 0)] mem res mem := by
  refine start_i (own := RX12) rfl (by decide) (Nat.le_of_ble_eq_true rfl) ?_
  intro p e s m args below meth c Q hQ X
  rw [K_X12_thrown] at hF
  revert hF
  intro hF
  refine w_aload_n X 0 dX12_thrown_0 rfl rfl 1 rfl ?_
  refine w_getV (v := .int (rd mem 0 0)) X 0 ml_0 mo_0 (T := TX12) (N := 50) rfl in_X12 0 (by decide) kF_X12_88 rfl rfl dX12_thrown_1 4 rfl ?_
  exact w_iret X hQ (o_inj hF) rfl rfl dX12_thrown_4

def K_X12_truncate (fu : Nat) (x1 : Int32) (mem : Mem) : Option (Int32 × Mem) := bd (K_X12_isIn fu (Int32.toInt64 x1) 0 (((rd mem 0 2)).toInt64) mem) (fun x_1 => bd (K_X12_goes fu x_1 mem) (fun p_2 => (if p_2.1 = 0 then some (0, p_2.2) else lt_ (mw p_2.2 0 2 x1) (fun m_3 => some (x1, m_3)))))
def rm_X12_truncate : Room := { frames := 2, cells := 0, slots := 0, locals := 41 }
set_option maxHeartbeats 4000000 in
set_option maxRecDepth 100000 in
theorem ct_X12_truncate (l : Launch) {D : va_G} {ca ad : Nat → Nat} {Z : (Nat → Prop) → State → Heap → Prop} (hZ : ZOK Z) (fu : Nat) (x1 : Int32) (mem : Mem) (res : (Int32 × Mem)) (hF : K_X12_truncate fu x1 mem = some res) : CI l D (tyL ca) 23 ad (cM ca ad) Z yX12_truncate cX12_truncate 2 .int rm_X12_truncate [.ref (ad 0), .int x1] mem res.1 res.2 := by
  refine start_i (own := RX12) rfl (by decide) (Nat.le_of_ble_eq_true rfl) ?_
  intro p e s m args below meth c Q hQ X
  rw [K_X12_truncate] at hF
  revert hF
  intro hF
  refine w_aload_n X 0 dX12_truncate_0 rfl rfl 1 rfl ?_
  refine w_iload_n X 1 dX12_truncate_1 rfl rfl 2 rfl ?_
  refine w_i2l X dX12_truncate_2 3 rfl ?_
  refine w_lconst X 0 dX12_truncate_3 rfl 4 rfl ?_
  refine w_aload_n X 0 dX12_truncate_4 rfl rfl 5 rfl ?_
  refine w_getV (v := .int (rd mem 0 2)) X 0 ml_0 mo_0 (T := TX12) (N := 50) rfl in_X12 2 (by decide) kF_X12_95 rfl rfl dX12_truncate_5 8 rfl ?_
  refine w_i2l X dX12_truncate_8 9 rfl ?_
  refine w_callSi (fun x => x) (fun _ => mem) X hZ hF [.long (Int32.toInt64 x1), .long 0, .long (((rd mem 0 2)).toInt64)] rfl kB_X12_isIn kL_X12_106 (fun res h => ct_X12_isIn l hZ fu (Int32.toInt64 x1) 0 (((rd mem 0 2)).toInt64) mem res h) rfl rfl rfl ⟨Nat.le_of_ble_eq_true rfl, Nat.le_of_ble_eq_true rfl⟩ (Nat.le_of_ble_eq_true rfl) ⟨Nat.zero_le _, Nat.zero_le _⟩ dX12_truncate_9 12 rfl (fun x_1 hF => ?_)
  refine w_callVi (fun x => x.1) (fun x => x.2) X hZ hF [.int x_1] 0 ml_0 mo_0 rfl rfl rfl kB_X12_goes kL_X12_98 (fun res h => ct_X12_goes l hZ fu x_1 mem res h) rfl rfl rfl ⟨Nat.le_of_ble_eq_true rfl, Nat.le_of_ble_eq_true rfl⟩ (Nat.le_of_ble_eq_true rfl) ⟨Nat.zero_le _, Nat.zero_le _⟩ dX12_truncate_12 15 rfl (fun p_2 hF => ?_)
  refine w_if_ne X hF 20 18 dX12_truncate_15 (by decide) rfl (fun hF => ?_) (fun hF => ?_)
  · refine w_iconst X 0 dX12_truncate_18 rfl 19 rfl ?_
    exact w_iret X hQ (o_inj1 hF) (o_inj2 hF) rfl dX12_truncate_19
  · refine w_aload_n X 0 dX12_truncate_20 rfl rfl 21 rfl ?_
    refine w_iload_n X 1 dX12_truncate_21 rfl rfl 22 rfl ?_
    refine w_putI X 0 ml_0 mo_0 (T := TX12) (N := 50) rfl in_X12 tyX12 tyX12_ok nmX12 2 (by decide) kF_X12_95 rfl rfl rfl rfl (Nat.le_of_ble_eq_true rfl) rfl dX12_truncate_22 25 rfl ?_
    refine w_letm hF (fun m_3 hF => ?_)
    refine w_iload_n X 1 dX12_truncate_25 rfl rfl 26 rfl ?_
    exact w_iret X hQ (o_inj1 hF) (o_inj2 hF) rfl dX12_truncate_26

def K_X12_turnOf (fu : Nat) (mem : Mem) : Option (Int32 × Mem) := lt_ (mw mem 0 0 0) (fun m_1 => bd (K_X12_turnNow fu m_1) (fun x_2 => some (x_2, m_1)))
def rm_X12_turnOf : Room := { frames := 2, cells := 0, slots := 0, locals := 40 }
set_option maxHeartbeats 4000000 in
set_option maxRecDepth 100000 in
theorem ct_X12_turnOf (l : Launch) {D : va_G} {ca ad : Nat → Nat} {Z : (Nat → Prop) → State → Heap → Prop} (hZ : ZOK Z) (fu : Nat) (mem : Mem) (res : (Int32 × Mem)) (hF : K_X12_turnOf fu mem = some res) : CI l D (tyL ca) 23 ad (cM ca ad) Z yX12_turnOf cX12_turnOf 1 .int rm_X12_turnOf [.ref (ad 0)] mem res.1 res.2 := by
  refine start_i (own := RX12) rfl (by decide) (Nat.le_of_ble_eq_true rfl) ?_
  intro p e s m args below meth c Q hQ X
  rw [K_X12_turnOf] at hF
  revert hF
  intro hF
  refine w_aload_n X 0 dX12_turnOf_0 rfl rfl 1 rfl ?_
  refine w_iconst X 0 dX12_turnOf_1 rfl 2 rfl ?_
  refine w_putI X 0 ml_0 mo_0 (T := TX12) (N := 50) rfl in_X12 tyX12 tyX12_ok nmX12 0 (by decide) kF_X12_88 rfl rfl rfl rfl (Nat.le_of_ble_eq_true rfl) rfl dX12_turnOf_2 5 rfl ?_
  refine w_letm hF (fun m_1 hF => ?_)
  refine w_aload_n X 0 dX12_turnOf_5 rfl rfl 6 rfl ?_
  refine w_callVi (fun x => x) (fun _ => m_1) X hZ hF [] 0 ml_0 mo_0 rfl rfl rfl kB_X12_turnNow kL_X12_354 (fun res h => ct_X12_turnNow l hZ fu m_1 res h) rfl rfl rfl ⟨Nat.le_of_ble_eq_true rfl, Nat.le_of_ble_eq_true rfl⟩ (Nat.le_of_ble_eq_true rfl) ⟨Nat.zero_le _, Nat.zero_le _⟩ dX12_turnOf_6 9 rfl (fun x_2 hF => ?_)
  exact w_iret X hQ (o_inj1 hF) (o_inj2 hF) rfl dX12_turnOf_9

def K_X12_undo_26 (fu : Nat) : Nat → Int32 → Mem → Option (Int32 × Mem)
  | 0, _, _ => none
  | n + 1, x1, mem => (if x1 < 184 then gi ((184 * (rd mem 0 18)) + x1) 1104 (gi x1 184 (lt_ (mw mem 2 (Int32.toNatClampNeg x1) (rd mem 4 (Int32.toNatClampNeg ((184 * (rd mem 0 18)) + x1)))) (fun m_5 => (K_X12_undo_26 fu n (x1 + 1) m_5)))) else some ((rd mem 0 18), mem))
def K_X12_undo (fu : Nat) (mem : Mem) : Option (Int32 × Mem) := lt_ (mw mem 0 0 0) (fun m_1 => (if (rd m_1 0 18) = 0 then some ((-1), m_1) else lt_ (mw m_1 0 18 ((rd m_1 0 18) - 1)) (fun m_2 => (K_X12_undo_26 fu fu 0 m_2))))
def rm_X12_undo : Room := { frames := 0, cells := 0, slots := 0, locals := 0 }
set_option maxHeartbeats 4000000 in
set_option maxRecDepth 100000 in
theorem ct_X12_undo (l : Launch) {D : va_G} {ca ad : Nat → Nat} {Z : (Nat → Prop) → State → Heap → Prop} (hZ : ZOK Z) (fu : Nat) (mem : Mem) (res : (Int32 × Mem)) (hF : K_X12_undo fu mem = some res) : CI l D (tyL ca) 23 ad (cM ca ad) Z yX12_undo cX12_undo 2 .int rm_X12_undo [.ref (ad 0)] mem res.1 res.2 := by
  refine start_i (own := RX12) rfl (by decide) (Nat.le_of_ble_eq_true rfl) ?_
  intro p e s m args below meth c Q hQ X
  rw [K_X12_undo] at hF
  revert hF
  have w_26 : ∀ (n : Nat) (x1 : Int32) (mem : Mem), K_X12_undo_26 fu n x1 mem = some res → WW D 23 ad (cM ca ad) p l e rm_X12_undo s m args below meth c 2 0 0 Q mem 26 [(0, .ref (ad 0)), (1, .int x1)] [] := by
    intro n
    induction n with
    | zero => intro x1 mem hF; exact no_none (show (none : Option (Int32 × Mem)) = some res from hF)
    | succ n ih =>
      intro x1 mem hF
      rw [K_X12_undo_26] at hF
      refine w_iload_n X 1 dX12_undo_26 rfl rfl 27 rfl ?_
      refine w_sipush X 184 dX12_undo_27 rfl 30 rfl ?_
      refine w_icmp_ge X hF 60 33 dX12_undo_30 (by decide) rfl (fun hF => ?_) (fun hF => ?_)
      · refine w_aload_n X 0 dX12_undo_33 rfl rfl 34 rfl ?_
        refine w_getV (v := .ref (ad 2)) X 0 ml_0 mo_0 (T := TX12) (N := 50) rfl in_X12 13 (by decide) kF_X12_20 rfl rfl dX12_undo_34 37 rfl ?_
        refine w_iload_n X 1 dX12_undo_37 rfl rfl 38 rfl ?_
        refine w_aload_n X 0 dX12_undo_38 rfl rfl 39 rfl ?_
        refine w_getV (v := .ref (ad 4)) X 0 ml_0 mo_0 (T := TX12) (N := 50) rfl in_X12 15 (by decide) kF_X12_26 rfl rfl dX12_undo_39 42 rfl ?_
        refine w_sipush X 184 dX12_undo_42 rfl 45 rfl ?_
        refine w_aload_n X 0 dX12_undo_45 rfl rfl 46 rfl ?_
        refine w_getV (v := .int (rd mem 0 18)) X 0 ml_0 mo_0 (T := TX12) (N := 50) rfl in_X12 18 (by decide) kF_X12_167 rfl rfl dX12_undo_46 49 rfl ?_
        refine w_imul X dX12_undo_49 50 rfl ?_
        refine w_iload_n X 1 dX12_undo_50 rfl rfl 51 rfl ?_
        refine w_iadd X dX12_undo_51 52 rfl ?_
        refine w_gi hF (fun h_3 hF => ?_)
        refine w_ial X 4 ml_4 mo_4 (t0 := 0) rfl h_3 dX12_undo_52 53 rfl ?_
        refine w_gi hF (fun h_4 hF => ?_)
        refine w_ias X 2 ml_2 mo_2 (t0 := 0) rfl h_4 dX12_undo_53 54 rfl ?_
        refine w_letm hF (fun m_5 hF => ?_)
        refine w_iinc X 1 (x1 + 1) [(1, .int (x1 + 1)), (0, .ref (ad 0))] dX12_undo_54 rfl rfl (by decide) rfl 57 rfl ?_
        refine w_goto X 26 dX12_undo_57 (by decide) ?_
        refine w_keep [1, 0] rfl ?_
        exact ih (x1 + 1) m_5 hF
      · refine w_aload_n X 0 dX12_undo_60 rfl rfl 61 rfl ?_
        refine w_getV (v := .int (rd mem 0 18)) X 0 ml_0 mo_0 (T := TX12) (N := 50) rfl in_X12 18 (by decide) kF_X12_167 rfl rfl dX12_undo_61 64 rfl ?_
        exact w_iret X hQ (o_inj1 hF) (o_inj2 hF) rfl dX12_undo_64
  intro hF
  refine w_aload_n X 0 dX12_undo_0 rfl rfl 1 rfl ?_
  refine w_iconst X 0 dX12_undo_1 rfl 2 rfl ?_
  refine w_putI X 0 ml_0 mo_0 (T := TX12) (N := 50) rfl in_X12 tyX12 tyX12_ok nmX12 0 (by decide) kF_X12_88 rfl rfl rfl rfl (Nat.le_of_ble_eq_true rfl) rfl dX12_undo_2 5 rfl ?_
  refine w_letm hF (fun m_1 hF => ?_)
  refine w_aload_n X 0 dX12_undo_5 rfl rfl 6 rfl ?_
  refine w_getV (v := .int (rd m_1 0 18)) X 0 ml_0 mo_0 (T := TX12) (N := 50) rfl in_X12 18 (by decide) kF_X12_167 rfl rfl dX12_undo_6 9 rfl ?_
  refine w_if_ne X hF 14 12 dX12_undo_9 (by decide) rfl (fun hF => ?_) (fun hF => ?_)
  · refine w_iconst X (-1) dX12_undo_12 rfl 13 rfl ?_
    exact w_iret X hQ (o_inj1 hF) (o_inj2 hF) rfl dX12_undo_13
  · refine w_aload_n X 0 dX12_undo_14 rfl rfl 15 rfl ?_
    refine w_dup X dX12_undo_15 rfl 16 rfl ?_
    refine w_getV (v := .int (rd m_1 0 18)) X 0 ml_0 mo_0 (T := TX12) (N := 50) rfl in_X12 18 (by decide) kF_X12_167 rfl rfl dX12_undo_16 19 rfl ?_
    refine w_iconst X 1 dX12_undo_19 rfl 20 rfl ?_
    refine w_isub X dX12_undo_20 21 rfl ?_
    refine w_putI X 0 ml_0 mo_0 (T := TX12) (N := 50) rfl in_X12 tyX12 tyX12_ok nmX12 18 (by decide) kF_X12_167 rfl rfl rfl rfl (Nat.le_of_ble_eq_true rfl) rfl dX12_undo_21 24 rfl ?_
    refine w_letm hF (fun m_2 hF => ?_)
    refine w_iconst X 0 dX12_undo_24 rfl 25 rfl ?_
    refine w_istore_n X [(1, .int 0), (0, .ref (ad 0))] dX12_undo_25 rfl (by decide) rfl 26 rfl ?_
    refine w_keep [1, 0] rfl ?_
    exact w_26 fu 0 m_2 hF

def K_X12_wallAt (fu : Nat) (x1 : Int32) (x2 : Int32) (mem : Mem) : Option (Int32 × Mem) := bd (K_X12_isPlace fu x1 x2 mem) (fun x_1 => bd (K_X12_goes fu x_1 mem) (fun p_2 => (if p_2.1 = 0 then some (0, p_2.2) else bd (K_X12_wall fu x1 x2 p_2.2) (fun x_3 => some ((x_3 - 1), p_2.2)))))
def rm_X12_wallAt : Room := { frames := 3, cells := 0, slots := 0, locals := 69 }
set_option maxHeartbeats 4000000 in
set_option maxRecDepth 100000 in
theorem ct_X12_wallAt (l : Launch) {D : va_G} {ca ad : Nat → Nat} {Z : (Nat → Prop) → State → Heap → Prop} (hZ : ZOK Z) (fu : Nat) (x1 : Int32) (x2 : Int32) (mem : Mem) (res : (Int32 × Mem)) (hF : K_X12_wallAt fu x1 x2 mem = some res) : CI l D (tyL ca) 23 ad (cM ca ad) Z yX12_wallAt cX12_wallAt 3 .int rm_X12_wallAt [.ref (ad 0), .int x1, .int x2] mem res.1 res.2 := by
  refine start_i (own := RX12) rfl (by decide) (Nat.le_of_ble_eq_true rfl) ?_
  intro p e s m args below meth c Q hQ X
  rw [K_X12_wallAt] at hF
  revert hF
  intro hF
  refine w_aload_n X 0 dX12_wallAt_0 rfl rfl 1 rfl ?_
  refine w_aload_n X 0 dX12_wallAt_1 rfl rfl 2 rfl ?_
  refine w_iload_n X 1 dX12_wallAt_2 rfl rfl 3 rfl ?_
  refine w_iload_n X 2 dX12_wallAt_3 rfl rfl 4 rfl ?_
  refine w_callVi (fun x => x) (fun _ => mem) X hZ hF [.int x1, .int x2] 0 ml_0 mo_0 rfl rfl rfl kB_X12_isPlace kL_X12_177 (fun res h => ct_X12_isPlace l hZ fu x1 x2 mem res h) rfl rfl rfl ⟨Nat.le_of_ble_eq_true rfl, Nat.le_of_ble_eq_true rfl⟩ (Nat.le_of_ble_eq_true rfl) ⟨Nat.zero_le _, Nat.zero_le _⟩ dX12_wallAt_4 7 rfl (fun x_1 hF => ?_)
  refine w_callVi (fun x => x.1) (fun x => x.2) X hZ hF [.int x_1] 0 ml_0 mo_0 rfl rfl rfl kB_X12_goes kL_X12_98 (fun res h => ct_X12_goes l hZ fu x_1 mem res h) rfl rfl rfl ⟨Nat.le_of_ble_eq_true rfl, Nat.le_of_ble_eq_true rfl⟩ (Nat.le_of_ble_eq_true rfl) ⟨Nat.zero_le _, Nat.zero_le _⟩ dX12_wallAt_7 10 rfl (fun p_2 hF => ?_)
  refine w_if_eq X hF 24 13 dX12_wallAt_10 (by decide) rfl (fun hF => ?_) (fun hF => ?_)
  · refine w_iconst X 0 dX12_wallAt_24 rfl 25 rfl ?_
    exact w_iret X hQ (o_inj1 hF) (o_inj2 hF) rfl dX12_wallAt_25
  · refine w_aload_n X 0 dX12_wallAt_13 rfl rfl 14 rfl ?_
    refine w_iload_n X 1 dX12_wallAt_14 rfl rfl 15 rfl ?_
    refine w_iload_n X 2 dX12_wallAt_15 rfl rfl 16 rfl ?_
    refine w_callVi (fun x => x) (fun _ => p_2.2) X hZ hF [.int x1, .int x2] 0 ml_0 mo_0 rfl rfl rfl kB_X12_wall kL_X12_193 (fun res h => ct_X12_wall l hZ fu x1 x2 p_2.2 res h) rfl rfl rfl ⟨Nat.le_of_ble_eq_true rfl, Nat.le_of_ble_eq_true rfl⟩ (Nat.le_of_ble_eq_true rfl) ⟨Nat.zero_le _, Nat.zero_le _⟩ dX12_wallAt_16 19 rfl (fun x_3 hF => ?_)
    refine w_iconst X 1 dX12_wallAt_19 rfl 20 rfl ?_
    refine w_isub X dX12_wallAt_20 21 rfl ?_
    refine w_goto X 25 dX12_wallAt_21 (by decide) ?_
    exact w_iret X hQ (o_inj1 hF) (o_inj2 hF) rfl dX12_wallAt_25

def K_X12_ways_73 (fu : Nat) (k_36 : Int32 → Int32 → Mem → Option (Int32 × Mem)) : Nat → Int32 → Int32 → Int32 → Int32 → Int32 → Mem → Option (Int32 × Mem)
  | 0, _, _, _, _, _, _ => none
  | n + 1, x1, x2, x3, x4, x5, mem => (if x5 < 4 then bd (K_X12_isNearer fu x3 x5 mem) (fun x_12 => (if x_12 = 0 then (K_X12_ways_73 fu k_36 n x1 x2 x3 x4 (x5 + 1) mem) else bd (K_X12_up fu x5 mem) (fun x_13 => bd (K_X12_across fu x5 mem) (fun x_14 => gi ((x3 + (9 * x_13)) + x_14) 81 (lt_ (x4 + (rd mem 10 (Int32.toNatClampNeg ((x3 + (9 * x_13)) + x_14)))) (fun x_16 => (K_X12_ways_73 fu k_36 n x1 x2 x3 x_16 (x5 + 1) mem))))))) else lt_ (x4 - x4 / 1000003 * 1000003) (fun x_17 => gi x3 81 (lt_ (mw mem 10 (Int32.toNatClampNeg x3) x_17) (fun m_19 => (k_36 x1 (x2 + 1) m_19)))))
def K_X12_ways_65 (fu : Nat) (k_36 : Int32 → Int32 → Mem → Option (Int32 × Mem)) (x1 : Int32) (x2 : Int32) (x3 : Int32) (xs0 : Int32) (mem : Mem) : Option (Int32 × Mem) := bd (K_X12_truth fu xs0 mem) (fun x_11 => (K_X12_ways_73 fu k_36 fu x1 x2 x3 x_11 0 mem))
def K_X12_ways_36 (fu : Nat) : Nat → Int32 → Int32 → Mem → Option (Int32 × Mem)
  | 0, _, _, _ => none
  | n + 1, x1, x2, mem => (if x2 < (rd mem 0 22) then gi x2 81 (lt_ (rd mem 8 (Int32.toNatClampNeg x2)) (fun x_7 => gi x_7 81 ((if (rd mem 7 (Int32.toNatClampNeg x_7)) = 0 then (K_X12_ways_65 fu (K_X12_ways_36 fu n) x1 x2 x_7 1 mem) else (K_X12_ways_65 fu (K_X12_ways_36 fu n) x1 x2 x_7 0 mem))))) else bd (K_X12_cellOf fu x1 mem) (fun x_9 => gi x_9 81 (some ((rd mem 10 (Int32.toNatClampNeg x_9)), mem))))
def K_X12_ways (fu : Nat) (x1 : Int32) (mem : Mem) : Option (Int32 × Mem) := bd (K_X12_isPawn fu x1 mem) (fun x_1 => bd (K_X12_goes fu x_1 mem) (fun p_2 => (if p_2.1 = 0 then some (0, p_2.2) else bd (K_X12_hasFinished fu x1 p_2.2) (fun x_3 => (if x_3 = 0 then bd (K_X12_of fu x1 2 p_2.2) (fun x_4 => bd (K_X12_lays fu x_4 p_2.2) (fun m_5 => (K_X12_ways_36 fu fu x1 0 m_5))) else some (1, p_2.2))))))
def rm_X12_ways : Room := { frames := 6, cells := 0, slots := 0, locals := 143 }
set_option maxHeartbeats 4000000 in
set_option maxRecDepth 100000 in
theorem ct_X12_ways (l : Launch) {D : va_G} {ca ad : Nat → Nat} {Z : (Nat → Prop) → State → Heap → Prop} (hZ : ZOK Z) (fu : Nat) (x1 : Int32) (mem : Mem) (res : (Int32 × Mem)) (hF : K_X12_ways fu x1 mem = some res) : CI l D (tyL ca) 23 ad (cM ca ad) Z yX12_ways cX12_ways 6 .int rm_X12_ways [.ref (ad 0), .int x1] mem res.1 res.2 := by
  refine start_i (own := RX12) rfl (by decide) (Nat.le_of_ble_eq_true rfl) ?_
  intro p e s m args below meth c Q hQ X
  rw [K_X12_ways] at hF
  revert hF
  have w_73 : ∀ (k_36 : Int32 → Int32 → Mem → Option (Int32 × Mem)) (hk_36 : ∀ (x1 : Int32) (x2 : Int32) (mem : Mem), k_36 x1 x2 mem = some res → WW D 23 ad (cM ca ad) p l e rm_X12_ways s m args below meth c 6 0 0 Q mem 36 [(0, .ref (ad 0)), (1, .int x1), (2, .int x2)] []) (n : Nat) (x1 : Int32) (x2 : Int32) (x3 : Int32) (x4 : Int32) (x5 : Int32) (mem : Mem), K_X12_ways_73 fu k_36 n x1 x2 x3 x4 x5 mem = some res → WW D 23 ad (cM ca ad) p l e rm_X12_ways s m args below meth c 6 0 0 Q mem 73 [(0, .ref (ad 0)), (1, .int x1), (2, .int x2), (3, .int x3), (4, .int x4), (5, .int x5)] [] := by
    intro k_36 hk_36 n
    induction n with
    | zero => intro x1 x2 x3 x4 x5 mem hF; exact no_none (show (none : Option (Int32 × Mem)) = some res from hF)
    | succ n ih =>
      intro x1 x2 x3 x4 x5 mem hF
      rw [K_X12_ways_73] at hF
      refine w_iload X 5 dX12_ways_73 rfl 75 rfl ?_
      refine w_iconst X 4 dX12_ways_75 rfl 76 rfl ?_
      refine w_icmp_ge X hF 121 79 dX12_ways_76 (by decide) rfl (fun hF => ?_) (fun hF => ?_)
      · refine w_aload_n X 0 dX12_ways_79 rfl rfl 80 rfl ?_
        refine w_iload_n X 3 dX12_ways_80 rfl rfl 81 rfl ?_
        refine w_iload X 5 dX12_ways_81 rfl 83 rfl ?_
        refine w_callVi (fun x => x) (fun _ => mem) X hZ hF [.int x3, .int x5] 0 ml_0 mo_0 rfl rfl rfl kB_X12_isNearer kL_X12_385 (fun res h => ct_X12_isNearer l hZ fu x3 x5 mem res h) rfl rfl rfl ⟨Nat.le_of_ble_eq_true rfl, Nat.le_of_ble_eq_true rfl⟩ (Nat.le_of_ble_eq_true rfl) ⟨Nat.zero_le _, Nat.zero_le _⟩ dX12_ways_83 86 rfl (fun x_12 hF => ?_)
        refine w_if_eq X hF 115 89 dX12_ways_86 (by decide) rfl (fun hF => ?_) (fun hF => ?_)
        · refine w_iinc X 5 (x5 + 1) [(5, .int (x5 + 1)), (0, .ref (ad 0)), (1, .int x1), (2, .int x2), (3, .int x3), (4, .int x4)] dX12_ways_115 rfl rfl (by decide) rfl 118 rfl ?_
          refine w_goto X 73 dX12_ways_118 (by decide) ?_
          refine w_keep [1, 2, 3, 4, 5, 0] rfl ?_
          exact ih x1 x2 x3 x4 (x5 + 1) mem hF
        · refine w_iload X 4 dX12_ways_89 rfl 91 rfl ?_
          refine w_aload_n X 0 dX12_ways_91 rfl rfl 92 rfl ?_
          refine w_getV (v := .ref (ad 10)) X 0 ml_0 mo_0 (T := TX12) (N := 50) rfl in_X12 28 (by decide) kF_X12_45 rfl rfl dX12_ways_92 95 rfl ?_
          refine w_iload_n X 3 dX12_ways_95 rfl rfl 96 rfl ?_
          refine w_bipush X 9 dX12_ways_96 rfl 98 rfl ?_
          refine w_iload X 5 dX12_ways_98 rfl 100 rfl ?_
          refine w_callSi (fun x => x) (fun _ => mem) X hZ hF [.int x5] rfl kB_X12_up kL_X12_184 (fun res h => ct_X12_up l hZ fu x5 mem res h) rfl rfl rfl ⟨Nat.le_of_ble_eq_true rfl, Nat.le_of_ble_eq_true rfl⟩ (Nat.le_of_ble_eq_true rfl) ⟨Nat.zero_le _, Nat.zero_le _⟩ dX12_ways_100 103 rfl (fun x_13 hF => ?_)
          refine w_imul X dX12_ways_103 104 rfl ?_
          refine w_iadd X dX12_ways_104 105 rfl ?_
          refine w_iload X 5 dX12_ways_105 rfl 107 rfl ?_
          refine w_callSi (fun x => x) (fun _ => mem) X hZ hF [.int x5] rfl kB_X12_across kL_X12_181 (fun res h => ct_X12_across l hZ fu x5 mem res h) rfl rfl rfl ⟨Nat.le_of_ble_eq_true rfl, Nat.le_of_ble_eq_true rfl⟩ (Nat.le_of_ble_eq_true rfl) ⟨Nat.zero_le _, Nat.zero_le _⟩ dX12_ways_107 110 rfl (fun x_14 hF => ?_)
          refine w_iadd X dX12_ways_110 111 rfl ?_
          refine w_gi hF (fun h_15 hF => ?_)
          refine w_ial X 10 ml_10 mo_10 (t0 := 0) rfl h_15 dX12_ways_111 112 rfl ?_
          refine w_iadd X dX12_ways_112 113 rfl ?_
          refine w_let hF (fun x_16 hF => ?_)
          refine w_istore X [(4, .int x_16), (0, .ref (ad 0)), (1, .int x1), (2, .int x2), (3, .int x3), (5, .int x5)] dX12_ways_113 (by decide) rfl 115 rfl ?_
          refine w_iinc X 5 (x5 + 1) [(5, .int (x5 + 1)), (4, .int x_16), (0, .ref (ad 0)), (1, .int x1), (2, .int x2), (3, .int x3)] dX12_ways_115 rfl rfl (by decide) rfl 118 rfl ?_
          refine w_goto X 73 dX12_ways_118 (by decide) ?_
          refine w_keep [2, 3, 4, 5, 1, 0] rfl ?_
          exact ih x1 x2 x3 x_16 (x5 + 1) mem hF
      · refine w_aload_n X 0 dX12_ways_121 rfl rfl 122 rfl ?_
        refine w_getV (v := .ref (ad 10)) X 0 ml_0 mo_0 (T := TX12) (N := 50) rfl in_X12 28 (by decide) kF_X12_45 rfl rfl dX12_ways_122 125 rfl ?_
        refine w_iload_n X 3 dX12_ways_125 rfl rfl 126 rfl ?_
        refine w_iload X 4 dX12_ways_126 rfl 128 rfl ?_
        refine w_ldcw X 1000003 kK_X12_388 dX12_ways_128 131 rfl ?_
        refine w_irem X (by decide) dX12_ways_131 132 rfl ?_
        refine w_let hF (fun x_17 hF => ?_)
        refine w_gi hF (fun h_18 hF => ?_)
        refine w_ias X 10 ml_10 mo_10 (t0 := 0) rfl h_18 dX12_ways_132 133 rfl ?_
        refine w_letm hF (fun m_19 hF => ?_)
        refine w_iinc X 2 (x2 + 1) [(2, .int (x2 + 1)), (0, .ref (ad 0)), (1, .int x1), (3, .int x3), (4, .int x4), (5, .int x5)] dX12_ways_133 rfl rfl (by decide) rfl 136 rfl ?_
        refine w_goto X 36 dX12_ways_136 (by decide) ?_
        refine w_keep [1, 2, 0] rfl ?_
        exact hk_36 x1 (x2 + 1) m_19 hF
  have w_65 : ∀ (k_36 : Int32 → Int32 → Mem → Option (Int32 × Mem)) (hk_36 : ∀ (x1 : Int32) (x2 : Int32) (mem : Mem), k_36 x1 x2 mem = some res → WW D 23 ad (cM ca ad) p l e rm_X12_ways s m args below meth c 6 0 0 Q mem 36 [(0, .ref (ad 0)), (1, .int x1), (2, .int x2)] []) (x1 : Int32) (x2 : Int32) (x3 : Int32) (xs0 : Int32) (mem : Mem), K_X12_ways_65 fu k_36 x1 x2 x3 xs0 mem = some res → WW D 23 ad (cM ca ad) p l e rm_X12_ways s m args below meth c 6 0 0 Q mem 65 [(0, .ref (ad 0)), (1, .int x1), (2, .int x2), (3, .int x3)] [.int xs0] := by
    intro k_36 hk_36 x1 x2 x3 xs0 mem hF
    rw [K_X12_ways_65] at hF
    refine w_callSi (fun x => x) (fun _ => mem) X hZ hF [.int xs0] rfl kB_X12_truth kL_X12_91 (fun res h => ct_X12_truth l hZ fu xs0 mem res h) rfl rfl rfl ⟨Nat.le_of_ble_eq_true rfl, Nat.le_of_ble_eq_true rfl⟩ (Nat.le_of_ble_eq_true rfl) ⟨Nat.zero_le _, Nat.zero_le _⟩ dX12_ways_65 68 rfl (fun x_11 hF => ?_)
    refine w_istore X [(4, .int x_11), (0, .ref (ad 0)), (1, .int x1), (2, .int x2), (3, .int x3)] dX12_ways_68 (by decide) rfl 70 rfl ?_
    refine w_iconst X 0 dX12_ways_70 rfl 71 rfl ?_
    refine w_istore X [(5, .int 0), (4, .int x_11), (0, .ref (ad 0)), (1, .int x1), (2, .int x2), (3, .int x3)] dX12_ways_71 (by decide) rfl 73 rfl ?_
    refine w_keep [2, 3, 4, 5, 1, 0] rfl ?_
    exact w_73 k_36 hk_36 fu x1 x2 x3 x_11 0 mem hF
  have w_36 : ∀ (n : Nat) (x1 : Int32) (x2 : Int32) (mem : Mem), K_X12_ways_36 fu n x1 x2 mem = some res → WW D 23 ad (cM ca ad) p l e rm_X12_ways s m args below meth c 6 0 0 Q mem 36 [(0, .ref (ad 0)), (1, .int x1), (2, .int x2)] [] := by
    intro n
    induction n with
    | zero => intro x1 x2 mem hF; exact no_none (show (none : Option (Int32 × Mem)) = some res from hF)
    | succ n ih =>
      intro x1 x2 mem hF
      rw [K_X12_ways_36] at hF
      refine w_iload_n X 2 dX12_ways_36 rfl rfl 37 rfl ?_
      refine w_aload_n X 0 dX12_ways_37 rfl rfl 38 rfl ?_
      refine w_getV (v := .int (rd mem 0 22)) X 0 ml_0 mo_0 (T := TX12) (N := 50) rfl in_X12 22 (by decide) kF_X12_196 rfl rfl dX12_ways_38 41 rfl ?_
      refine w_icmp_ge X hF 139 44 dX12_ways_41 (by decide) rfl (fun hF => ?_) (fun hF => ?_)
      · refine w_aload_n X 0 dX12_ways_44 rfl rfl 45 rfl ?_
        refine w_getV (v := .ref (ad 8)) X 0 ml_0 mo_0 (T := TX12) (N := 50) rfl in_X12 21 (by decide) kF_X12_38 rfl rfl dX12_ways_45 48 rfl ?_
        refine w_iload_n X 2 dX12_ways_48 rfl rfl 49 rfl ?_
        refine w_gi hF (fun h_6 hF => ?_)
        refine w_ial X 8 ml_8 mo_8 (t0 := 0) rfl h_6 dX12_ways_49 50 rfl ?_
        refine w_let hF (fun x_7 hF => ?_)
        refine w_istore_n X [(3, .int x_7), (0, .ref (ad 0)), (1, .int x1), (2, .int x2)] dX12_ways_50 rfl (by decide) rfl 51 rfl ?_
        refine w_aload_n X 1 dX12_ways_51 rfl rfl 52 rfl ?_
        refine w_getV (v := .ref (ad 7)) X 0 ml_0 mo_0 (T := TX12) (N := 50) rfl in_X12 20 (by decide) kF_X12_35 rfl rfl dX12_ways_52 55 rfl ?_
        refine w_iload_n X 0 dX12_ways_55 rfl rfl 56 rfl ?_
        refine w_gi hF (fun h_8 hF => ?_)
        refine w_ial X 7 ml_7 mo_7 (t0 := 0) rfl h_8 dX12_ways_56 57 rfl ?_
        refine w_if_ne X hF 64 60 dX12_ways_57 (by decide) rfl (fun hF => ?_) (fun hF => ?_)
        · refine w_iconst X 1 dX12_ways_60 rfl 61 rfl ?_
          refine w_goto X 65 dX12_ways_61 (by decide) ?_
          refine w_keep [1, 2, 3, 0] rfl ?_
          exact w_65 (K_X12_ways_36 fu n) ih x1 x2 x_7 1 mem hF
        · refine w_iconst X 0 dX12_ways_64 rfl 65 rfl ?_
          refine w_keep [1, 2, 3, 0] rfl ?_
          exact w_65 (K_X12_ways_36 fu n) ih x1 x2 x_7 0 mem hF
      · refine w_aload_n X 0 dX12_ways_139 rfl rfl 140 rfl ?_
        refine w_getV (v := .ref (ad 10)) X 0 ml_0 mo_0 (T := TX12) (N := 50) rfl in_X12 28 (by decide) kF_X12_45 rfl rfl dX12_ways_140 143 rfl ?_
        refine w_aload_n X 0 dX12_ways_143 rfl rfl 144 rfl ?_
        refine w_iload_n X 1 dX12_ways_144 rfl rfl 145 rfl ?_
        refine w_callVi (fun x => x) (fun _ => mem) X hZ hF [.int x1] 0 ml_0 mo_0 rfl rfl rfl kB_X12_cellOf kL_X12_219 (fun res h => ct_X12_cellOf l hZ fu x1 mem res h) rfl rfl rfl ⟨Nat.le_of_ble_eq_true rfl, Nat.le_of_ble_eq_true rfl⟩ (Nat.le_of_ble_eq_true rfl) ⟨Nat.zero_le _, Nat.zero_le _⟩ dX12_ways_145 148 rfl (fun x_9 hF => ?_)
        refine w_gi hF (fun h_10 hF => ?_)
        refine w_ial X 10 ml_10 mo_10 (t0 := 0) rfl h_10 dX12_ways_148 149 rfl ?_
        exact w_iret X hQ (o_inj1 hF) (o_inj2 hF) rfl dX12_ways_149
  intro hF
  refine w_aload_n X 0 dX12_ways_0 rfl rfl 1 rfl ?_
  refine w_aload_n X 0 dX12_ways_1 rfl rfl 2 rfl ?_
  refine w_iload_n X 1 dX12_ways_2 rfl rfl 3 rfl ?_
  refine w_callVi (fun x => x) (fun _ => mem) X hZ hF [.int x1] 0 ml_0 mo_0 rfl rfl rfl kB_X12_isPawn kL_X12_339 (fun res h => ct_X12_isPawn l hZ fu x1 mem res h) rfl rfl rfl ⟨Nat.le_of_ble_eq_true rfl, Nat.le_of_ble_eq_true rfl⟩ (Nat.le_of_ble_eq_true rfl) ⟨Nat.zero_le _, Nat.zero_le _⟩ dX12_ways_3 6 rfl (fun x_1 hF => ?_)
  refine w_callVi (fun x => x.1) (fun x => x.2) X hZ hF [.int x_1] 0 ml_0 mo_0 rfl rfl rfl kB_X12_goes kL_X12_98 (fun res h => ct_X12_goes l hZ fu x_1 mem res h) rfl rfl rfl ⟨Nat.le_of_ble_eq_true rfl, Nat.le_of_ble_eq_true rfl⟩ (Nat.le_of_ble_eq_true rfl) ⟨Nat.zero_le _, Nat.zero_le _⟩ dX12_ways_6 9 rfl (fun p_2 hF => ?_)
  refine w_if_ne X hF 14 12 dX12_ways_9 (by decide) rfl (fun hF => ?_) (fun hF => ?_)
  · refine w_iconst X 0 dX12_ways_12 rfl 13 rfl ?_
    exact w_iret X hQ (o_inj1 hF) (o_inj2 hF) rfl dX12_ways_13
  · refine w_aload_n X 0 dX12_ways_14 rfl rfl 15 rfl ?_
    refine w_iload_n X 1 dX12_ways_15 rfl rfl 16 rfl ?_
    refine w_callVi (fun x => x) (fun _ => p_2.2) X hZ hF [.int x1] 0 ml_0 mo_0 rfl rfl rfl kB_X12_hasFinished kL_X12_213 (fun res h => ct_X12_hasFinished l hZ fu x1 p_2.2 res h) rfl rfl rfl ⟨Nat.le_of_ble_eq_true rfl, Nat.le_of_ble_eq_true rfl⟩ (Nat.le_of_ble_eq_true rfl) ⟨Nat.zero_le _, Nat.zero_le _⟩ dX12_ways_16 19 rfl (fun x_3 hF => ?_)
    refine w_if_eq X hF 24 22 dX12_ways_19 (by decide) rfl (fun hF => ?_) (fun hF => ?_)
    · refine w_aload_n X 0 dX12_ways_24 rfl rfl 25 rfl ?_
      refine w_aload_n X 0 dX12_ways_25 rfl rfl 26 rfl ?_
      refine w_iload_n X 1 dX12_ways_26 rfl rfl 27 rfl ?_
      refine w_iconst X 2 dX12_ways_27 rfl 28 rfl ?_
      refine w_callVi (fun x => x) (fun _ => p_2.2) X hZ hF [.int x1, .int 2] 0 ml_0 mo_0 rfl rfl rfl kB_X12_of kL_X12_174 (fun res h => ct_X12_of l hZ fu x1 2 p_2.2 res h) rfl rfl rfl ⟨Nat.le_of_ble_eq_true rfl, Nat.le_of_ble_eq_true rfl⟩ (Nat.le_of_ble_eq_true rfl) ⟨Nat.zero_le _, Nat.zero_le _⟩ dX12_ways_28 31 rfl (fun x_4 hF => ?_)
      refine w_callVv (fun m => m) X hZ hF [.int x_4] 0 ml_0 mo_0 rfl rfl rfl kB_X12_lays kL_X12_216 (fun res h => ct_X12_lays l hZ fu x_4 p_2.2 res h) rfl rfl rfl ⟨Nat.le_of_ble_eq_true rfl, Nat.le_of_ble_eq_true rfl⟩ (Nat.le_of_ble_eq_true rfl) ⟨Nat.zero_le _, Nat.zero_le _⟩ dX12_ways_31 34 rfl (fun m_5 hF => ?_)
      refine w_iconst X 0 dX12_ways_34 rfl 35 rfl ?_
      refine w_istore_n X [(2, .int 0), (0, .ref (ad 0)), (1, .int x1)] dX12_ways_35 rfl (by decide) rfl 36 rfl ?_
      refine w_keep [1, 2, 0] rfl ?_
      exact w_36 fu x1 0 m_5 hF
    · refine w_iconst X 1 dX12_ways_22 rfl 23 rfl ?_
      exact w_iret X hQ (o_inj1 hF) (o_inj2 hF) rfl dX12_ways_23
end Km4
