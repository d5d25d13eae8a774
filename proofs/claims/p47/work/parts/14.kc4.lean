section Kc4
def K_X7_readStatement (fu : Nat) (mem : Mem) : Option (Int32 × Mem) := bd (K_X9_isWord fu 0 mem) (fun p_1 => (if p_1.1 = 0 then bd (K_X9_isWord fu 1 p_1.2) (fun p_2 => (if p_2.1 = 0 then bd (K_X9_isWord fu 2 p_2.2) (fun p_3 => (if p_3.1 = 0 then bd (K_X9_isWord fu 7 p_3.2) (fun p_4 => (if p_4.1 = 0 then bd (K_X9_isWord fu 14 p_4.2) (fun p_5 => (if p_5.1 = 0 then bd (K_X9_fail fu 1 p_5.2) (fun p_6 => gb p_6.1 (some (p_6.1, p_6.2))) else bd (K_X7_readBlock fu p_5.2) (fun p_8 => gb p_8.1 (some (p_8.1, p_8.2))))) else bd (K_X7_readBan fu p_4.2) (fun p_10 => gb p_10.1 (some (p_10.1, p_10.2))))) else bd (K_X7_readPawn fu p_3.2) (fun p_12 => gb p_12.1 (some (p_12.1, p_12.2))))) else bd (K_X7_readWalls fu p_2.2) (fun p_14 => gb p_14.1 (some (p_14.1, p_14.2))))) else bd (K_X7_readBoard fu p_1.2) (fun p_16 => gb p_16.1 (some (p_16.1, p_16.2)))))
def rm_X7_readStatement : Room := { frames := 9, cells := 0, slots := 0, locals := 192 }
set_option maxHeartbeats 4000000 in
set_option maxRecDepth 100000 in
theorem ct_X7_readStatement (l : Launch) {D : va_G} {ca ad : Nat → Nat} {Z : (Nat → Prop) → State → Heap → Prop} (hZ : ZOK Z) {tO : Nat} {sK sV : Nat → Nat} (hO : ZO Z tO sK sV) (fu : Nat) (mem : Mem) (res : (Int32 × Mem)) (hF : K_X7_readStatement fu mem = some res) : CI l D (tyL ca) 255 ad (cC ca ad) Z yX7_readStatement cX7_readStatement 1 .boolean rm_X7_readStatement [.ref (ad 7)] mem res.1 res.2 := by
  refine start_i (own := RX7) rfl (by decide) (Nat.le_of_ble_eq_true rfl) ?_
  intro p e s m args below meth c Q hQ X
  rw [K_X7_readStatement] at hF
  revert hF
  intro hF
  refine w_aload_n X 0 dX7_readStatement_0 rfl rfl 1 rfl ?_
  refine w_getV (v := .ref (ad 2)) X 7 plt_7 ko_7 (T := TX7) (N := 9) rfl in_X7 0 (by decide) kF_X7_9 rfl rfl dX7_readStatement_1 4 rfl ?_
  refine w_ldcS X hO 0 rfl dX7_readStatement_4 6 rfl ?_
  refine w_callVi (fun x => x.1) (fun x => x.2) X hZ hF [.ref (sK 0)] 2 plt_2 ko_2 rfl rfl rfl kB_X9_isWord kL_X7_63 (fun res h => ct_X9_isWord l hZ hO fu (by decide) mem res h) rfl rfl rfl ⟨Nat.le_of_ble_eq_true rfl, Nat.le_of_ble_eq_true rfl⟩ (Nat.le_of_ble_eq_true rfl) ⟨Nat.zero_le _, Nat.zero_le _⟩ dX7_readStatement_6 9 rfl (fun p_1 hF => ?_)
  refine w_if_eq X hF 17 12 dX7_readStatement_9 (by decide) rfl (fun hF => ?_) (fun hF => ?_)
  · refine w_aload_n X 0 dX7_readStatement_17 rfl rfl 18 rfl ?_
    refine w_getV (v := .ref (ad 2)) X 7 plt_7 ko_7 (T := TX7) (N := 9) rfl in_X7 0 (by decide) kF_X7_9 rfl rfl dX7_readStatement_18 21 rfl ?_
    refine w_ldcS X hO 1 rfl dX7_readStatement_21 23 rfl ?_
    refine w_callVi (fun x => x.1) (fun x => x.2) X hZ hF [.ref (sK 1)] 2 plt_2 ko_2 rfl rfl rfl kB_X9_isWord kL_X7_63 (fun res h => ct_X9_isWord l hZ hO fu (by decide) p_1.2 res h) rfl rfl rfl ⟨Nat.le_of_ble_eq_true rfl, Nat.le_of_ble_eq_true rfl⟩ (Nat.le_of_ble_eq_true rfl) ⟨Nat.zero_le _, Nat.zero_le _⟩ dX7_readStatement_23 26 rfl (fun p_2 hF => ?_)
    refine w_if_eq X hF 34 29 dX7_readStatement_26 (by decide) rfl (fun hF => ?_) (fun hF => ?_)
    · refine w_aload_n X 0 dX7_readStatement_34 rfl rfl 35 rfl ?_
      refine w_getV (v := .ref (ad 2)) X 7 plt_7 ko_7 (T := TX7) (N := 9) rfl in_X7 0 (by decide) kF_X7_9 rfl rfl dX7_readStatement_35 38 rfl ?_
      refine w_ldcS X hO 2 rfl dX7_readStatement_38 40 rfl ?_
      refine w_callVi (fun x => x.1) (fun x => x.2) X hZ hF [.ref (sK 2)] 2 plt_2 ko_2 rfl rfl rfl kB_X9_isWord kL_X7_63 (fun res h => ct_X9_isWord l hZ hO fu (by decide) p_2.2 res h) rfl rfl rfl ⟨Nat.le_of_ble_eq_true rfl, Nat.le_of_ble_eq_true rfl⟩ (Nat.le_of_ble_eq_true rfl) ⟨Nat.zero_le _, Nat.zero_le _⟩ dX7_readStatement_40 43 rfl (fun p_3 hF => ?_)
      refine w_if_eq X hF 51 46 dX7_readStatement_43 (by decide) rfl (fun hF => ?_) (fun hF => ?_)
      · refine w_aload_n X 0 dX7_readStatement_51 rfl rfl 52 rfl ?_
        refine w_getV (v := .ref (ad 2)) X 7 plt_7 ko_7 (T := TX7) (N := 9) rfl in_X7 0 (by decide) kF_X7_9 rfl rfl dX7_readStatement_52 55 rfl ?_
        refine w_ldcS X hO 7 rfl dX7_readStatement_55 57 rfl ?_
        refine w_callVi (fun x => x.1) (fun x => x.2) X hZ hF [.ref (sK 7)] 2 plt_2 ko_2 rfl rfl rfl kB_X9_isWord kL_X7_63 (fun res h => ct_X9_isWord l hZ hO fu (by decide) p_3.2 res h) rfl rfl rfl ⟨Nat.le_of_ble_eq_true rfl, Nat.le_of_ble_eq_true rfl⟩ (Nat.le_of_ble_eq_true rfl) ⟨Nat.zero_le _, Nat.zero_le _⟩ dX7_readStatement_57 60 rfl (fun p_4 hF => ?_)
        refine w_if_eq X hF 68 63 dX7_readStatement_60 (by decide) rfl (fun hF => ?_) (fun hF => ?_)
        · refine w_aload_n X 0 dX7_readStatement_68 rfl rfl 69 rfl ?_
          refine w_getV (v := .ref (ad 2)) X 7 plt_7 ko_7 (T := TX7) (N := 9) rfl in_X7 0 (by decide) kF_X7_9 rfl rfl dX7_readStatement_69 72 rfl ?_
          refine w_ldcS X hO 14 rfl dX7_readStatement_72 74 rfl ?_
          refine w_callVi (fun x => x.1) (fun x => x.2) X hZ hF [.ref (sK 14)] 2 plt_2 ko_2 rfl rfl rfl kB_X9_isWord kL_X7_63 (fun res h => ct_X9_isWord l hZ hO fu (by decide) p_4.2 res h) rfl rfl rfl ⟨Nat.le_of_ble_eq_true rfl, Nat.le_of_ble_eq_true rfl⟩ (Nat.le_of_ble_eq_true rfl) ⟨Nat.zero_le _, Nat.zero_le _⟩ dX7_readStatement_74 77 rfl (fun p_5 hF => ?_)
          refine w_if_eq X hF 87 80 dX7_readStatement_77 (by decide) rfl (fun hF => ?_) (fun hF => ?_)
          · refine w_aload_n X 0 dX7_readStatement_87 rfl rfl 88 rfl ?_
            refine w_getV (v := .ref (ad 2)) X 7 plt_7 ko_7 (T := TX7) (N := 9) rfl in_X7 0 (by decide) kF_X7_9 rfl rfl dX7_readStatement_88 91 rfl ?_
            refine w_iconst X 1 dX7_readStatement_91 rfl 92 rfl ?_
            refine w_callVi (fun x => x.1) (fun x => x.2) X hZ hF [.int 1] 2 plt_2 ko_2 rfl rfl rfl kB_X9_fail kL_X7_90 (fun res h => ct_X9_fail l hZ hO fu 1 p_5.2 res h) rfl rfl rfl ⟨Nat.le_of_ble_eq_true rfl, Nat.le_of_ble_eq_true rfl⟩ (Nat.le_of_ble_eq_true rfl) ⟨Nat.zero_le _, Nat.zero_le _⟩ dX7_readStatement_92 95 rfl (fun p_6 hF => ?_)
            refine w_gb hF (fun h_7 hF => ?_)
            exact w_iret X hQ (o_inj1 hF) (o_inj2 hF) (bool_nar h_7) dX7_readStatement_95
          · refine w_aload_n X 0 dX7_readStatement_80 rfl rfl 81 rfl ?_
            refine w_callVi (fun x => x.1) (fun x => x.2) X hZ hF [] 7 plt_7 ko_7 rfl rfl rfl kB_X7_readBlock kL_X7_87 (fun res h => ct_X7_readBlock l hZ hO fu p_5.2 res h) rfl rfl rfl ⟨Nat.le_of_ble_eq_true rfl, Nat.le_of_ble_eq_true rfl⟩ (Nat.le_of_ble_eq_true rfl) ⟨Nat.zero_le _, Nat.zero_le _⟩ dX7_readStatement_81 84 rfl (fun p_8 hF => ?_)
            refine w_goto X 95 dX7_readStatement_84 (by decide) ?_
            refine w_gb hF (fun h_9 hF => ?_)
            exact w_iret X hQ (o_inj1 hF) (o_inj2 hF) (bool_nar h_9) dX7_readStatement_95
        · refine w_aload_n X 0 dX7_readStatement_63 rfl rfl 64 rfl ?_
          refine w_callVi (fun x => x.1) (fun x => x.2) X hZ hF [] 7 plt_7 ko_7 rfl rfl rfl kB_X7_readBan kL_X7_82 (fun res h => ct_X7_readBan l hZ hO fu p_4.2 res h) rfl rfl rfl ⟨Nat.le_of_ble_eq_true rfl, Nat.le_of_ble_eq_true rfl⟩ (Nat.le_of_ble_eq_true rfl) ⟨Nat.zero_le _, Nat.zero_le _⟩ dX7_readStatement_64 67 rfl (fun p_10 hF => ?_)
          refine w_gb hF (fun h_11 hF => ?_)
          exact w_iret X hQ (o_inj1 hF) (o_inj2 hF) (bool_nar h_11) dX7_readStatement_67
      · refine w_aload_n X 0 dX7_readStatement_46 rfl rfl 47 rfl ?_
        refine w_callVi (fun x => x.1) (fun x => x.2) X hZ hF [] 7 plt_7 ko_7 rfl rfl rfl kB_X7_readPawn kL_X7_77 (fun res h => ct_X7_readPawn l hZ hO fu p_3.2 res h) rfl rfl rfl ⟨Nat.le_of_ble_eq_true rfl, Nat.le_of_ble_eq_true rfl⟩ (Nat.le_of_ble_eq_true rfl) ⟨Nat.zero_le _, Nat.zero_le _⟩ dX7_readStatement_47 50 rfl (fun p_12 hF => ?_)
        refine w_gb hF (fun h_13 hF => ?_)
        exact w_iret X hQ (o_inj1 hF) (o_inj2 hF) (bool_nar h_13) dX7_readStatement_50
    · refine w_aload_n X 0 dX7_readStatement_29 rfl rfl 30 rfl ?_
      refine w_callVi (fun x => x.1) (fun x => x.2) X hZ hF [] 7 plt_7 ko_7 rfl rfl rfl kB_X7_readWalls kL_X7_72 (fun res h => ct_X7_readWalls l hZ hO fu p_2.2 res h) rfl rfl rfl ⟨Nat.le_of_ble_eq_true rfl, Nat.le_of_ble_eq_true rfl⟩ (Nat.le_of_ble_eq_true rfl) ⟨Nat.zero_le _, Nat.zero_le _⟩ dX7_readStatement_30 33 rfl (fun p_14 hF => ?_)
      refine w_gb hF (fun h_15 hF => ?_)
      exact w_iret X hQ (o_inj1 hF) (o_inj2 hF) (bool_nar h_15) dX7_readStatement_33
  · refine w_aload_n X 0 dX7_readStatement_12 rfl rfl 13 rfl ?_
    refine w_callVi (fun x => x.1) (fun x => x.2) X hZ hF [] 7 plt_7 ko_7 rfl rfl rfl kB_X7_readBoard kL_X7_67 (fun res h => ct_X7_readBoard l hZ hO fu p_1.2 res h) rfl rfl rfl ⟨Nat.le_of_ble_eq_true rfl, Nat.le_of_ble_eq_true rfl⟩ (Nat.le_of_ble_eq_true rfl) ⟨Nat.zero_le _, Nat.zero_le _⟩ dX7_readStatement_13 16 rfl (fun p_16 hF => ?_)
    refine w_gb hF (fun h_17 hF => ?_)
    exact w_iret X hQ (o_inj1 hF) (o_inj2 hF) (bool_nar h_17) dX7_readStatement_16

def K_X7_readRace_31 (fu : Nat) : Nat → Int32 → Mem → Option (Int32 × Mem)
  | 0, _, _ => none
  | n + 1, x1, mem => (if 700 < x1 then some (1, mem) else bd (K_X9_advance fu mem) (fun m_6 => (if (rd m_6 2 7) = 5 then some (1, m_6) else bd (K_X7_readStatement fu m_6) (fun p_7 => (if p_7.1 = 0 then some (0, p_7.2) else (K_X7_readRace_31 fu n (x1 + 1) p_7.2))))))
def K_X7_readRace (fu : Nat) (mem : Mem) : Option (Int32 × Mem) := bd (K_X6_clear fu 1 mem) (fun m_1 => lt_ (mw m_1 7 5 0) (fun m_2 => lt_ (mw m_2 7 6 0) (fun m_3 => lt_ (mw m_3 7 7 5) (fun m_4 => bd (K_X9_begin fu m_4) (fun m_5 => (K_X7_readRace_31 fu fu 0 m_5))))))
def rm_X7_readRace : Room := { frames := 10, cells := 0, slots := 0, locals := 212 }
set_option maxHeartbeats 4000000 in
set_option maxRecDepth 100000 in
theorem ct_X7_readRace (l : Launch) {D : va_G} {ca ad : Nat → Nat} {Z : (Nat → Prop) → State → Heap → Prop} (hZ : ZOK Z) {tO : Nat} {sK sV : Nat → Nat} (hO : ZO Z tO sK sV) (fu : Nat) (mem : Mem) (res : (Int32 × Mem)) (hF : K_X7_readRace fu mem = some res) : CI l D (tyL ca) 255 ad (cC ca ad) Z yX7_readRace cX7_readRace 2 .boolean rm_X7_readRace [.ref (ad 7)] mem res.1 res.2 := by
  refine start_i (own := RX7) rfl (by decide) (Nat.le_of_ble_eq_true rfl) ?_
  intro p e s m args below meth c Q hQ X
  rw [K_X7_readRace] at hF
  revert hF
  have w_31 : ∀ (n : Nat) (x1 : Int32) (mem : Mem), K_X7_readRace_31 fu n x1 mem = some res → WW D 255 ad (cC ca ad) p l e rm_X7_readRace s m args below meth c 2 0 0 Q mem 31 [(0, .ref (ad 7)), (1, .int x1)] [] := by
    intro n
    induction n with
    | zero => intro x1 mem hF; exact no_none (show (none : Option (Int32 × Mem)) = some res from hF)
    | succ n ih =>
      intro x1 mem hF
      rw [K_X7_readRace_31] at hF
      refine w_iload_n X 1 dX7_readRace_31 rfl rfl 32 rfl ?_
      refine w_sipush X 700 dX7_readRace_32 rfl 35 rfl ?_
      refine w_icmp_gt X hF 73 38 dX7_readRace_35 (by decide) rfl (fun hF => ?_) (fun hF => ?_)
      · refine w_iconst X 1 dX7_readRace_73 rfl 74 rfl ?_
        exact w_iret X hQ (o_inj1 hF) (o_inj2 hF) rfl dX7_readRace_74
      · refine w_aload_n X 0 dX7_readRace_38 rfl rfl 39 rfl ?_
        refine w_getV (v := .ref (ad 2)) X 7 plt_7 ko_7 (T := TX7) (N := 9) rfl in_X7 0 (by decide) kF_X7_9 rfl rfl dX7_readRace_39 42 rfl ?_
        refine w_callVv (fun m => m) X hZ hF [] 2 plt_2 ko_2 rfl rfl rfl kB_X9_advance kL_X7_51 (fun res h => ct_X9_advance l hZ hO fu mem res h) rfl rfl rfl ⟨Nat.le_of_ble_eq_true rfl, Nat.le_of_ble_eq_true rfl⟩ (Nat.le_of_ble_eq_true rfl) ⟨Nat.zero_le _, Nat.zero_le _⟩ dX7_readRace_42 45 rfl (fun m_6 hF => ?_)
        refine w_aload_n X 0 dX7_readRace_45 rfl rfl 46 rfl ?_
        refine w_getV (v := .ref (ad 2)) X 7 plt_7 ko_7 (T := TX7) (N := 9) rfl in_X7 0 (by decide) kF_X7_9 rfl rfl dX7_readRace_46 49 rfl ?_
        refine w_getV (v := .int (rd m_6 2 7)) X 2 plt_2 ko_2 (T := TX9) (N := 13) rfl in_X9 7 (by decide) kF_X7_54 rfl rfl dX7_readRace_49 52 rfl ?_
        refine w_iconst X 5 dX7_readRace_52 rfl 53 rfl ?_
        refine w_icmp_ne X hF 58 56 dX7_readRace_53 (by decide) rfl (fun hF => ?_) (fun hF => ?_)
        · refine w_iconst X 1 dX7_readRace_56 rfl 57 rfl ?_
          exact w_iret X hQ (o_inj1 hF) (o_inj2 hF) rfl dX7_readRace_57
        · refine w_aload_n X 0 dX7_readRace_58 rfl rfl 59 rfl ?_
          refine w_callVi (fun x => x.1) (fun x => x.2) X hZ hF [] 7 plt_7 ko_7 rfl rfl rfl kB_X7_readStatement kL_X7_57 (fun res h => ct_X7_readStatement l hZ hO fu m_6 res h) rfl rfl rfl ⟨Nat.le_of_ble_eq_true rfl, Nat.le_of_ble_eq_true rfl⟩ (Nat.le_of_ble_eq_true rfl) ⟨Nat.zero_le _, Nat.zero_le _⟩ dX7_readRace_59 62 rfl (fun p_7 hF => ?_)
          refine w_if_ne X hF 67 65 dX7_readRace_62 (by decide) rfl (fun hF => ?_) (fun hF => ?_)
          · refine w_iconst X 0 dX7_readRace_65 rfl 66 rfl ?_
            exact w_iret X hQ (o_inj1 hF) (o_inj2 hF) rfl dX7_readRace_66
          · refine w_iinc X 1 (x1 + 1) [(1, .int (x1 + 1)), (0, .ref (ad 7))] dX7_readRace_67 rfl rfl (by decide) rfl 70 rfl ?_
            refine w_goto X 31 dX7_readRace_70 (by decide) ?_
            refine w_keep [1, 0] rfl ?_
            exact ih (x1 + 1) p_7.2 hF
  intro hF
  refine w_aload_n X 0 dX7_readRace_0 rfl rfl 1 rfl ?_
  refine w_getV (v := .ref (ad (pRace 1))) X 7 plt_7 ko_7 (T := TX7) (N := 9) rfl in_X7 1 (by decide) kF_X7_15 rfl rfl dX7_readRace_1 4 rfl ?_
  refine w_callVv (fun m => m) X hZ hF [] (pRace 1) (lt_Race (by decide)) ko_Race rfl rfl rfl kB_X6_clear kL_X7_30 (fun res h => ct_X6_clear l hZ hO fu (by decide) mem res h) rfl rfl rfl ⟨Nat.le_of_ble_eq_true rfl, Nat.le_of_ble_eq_true rfl⟩ (Nat.le_of_ble_eq_true rfl) ⟨Nat.zero_le _, Nat.zero_le _⟩ dX7_readRace_4 7 rfl (fun m_1 hF => ?_)
  refine w_aload_n X 0 dX7_readRace_7 rfl rfl 8 rfl ?_
  refine w_iconst X 0 dX7_readRace_8 rfl 9 rfl ?_
  refine w_putI X 7 plt_7 ko_7 (T := TX7) (N := 9) rfl in_X7 tyX7 tyX7_ok nmX7 5 (by decide) kF_X7_35 rfl rfl rfl rfl (Nat.le_of_ble_eq_true rfl) rfl dX7_readRace_9 12 rfl ?_
  refine w_letm hF (fun m_2 hF => ?_)
  refine w_aload_n X 0 dX7_readRace_12 rfl rfl 13 rfl ?_
  refine w_iconst X 0 dX7_readRace_13 rfl 14 rfl ?_
  refine w_putI X 7 plt_7 ko_7 (T := TX7) (N := 9) rfl in_X7 tyX7 tyX7_ok nmX7 6 (by decide) kF_X7_39 rfl rfl rfl rfl (Nat.le_of_ble_eq_true rfl) rfl dX7_readRace_14 17 rfl ?_
  refine w_letm hF (fun m_3 hF => ?_)
  refine w_aload_n X 0 dX7_readRace_17 rfl rfl 18 rfl ?_
  refine w_iconst X 5 dX7_readRace_18 rfl 19 rfl ?_
  refine w_putI X 7 plt_7 ko_7 (T := TX7) (N := 9) rfl in_X7 tyX7 tyX7_ok nmX7 7 (by decide) kF_X7_42 rfl rfl rfl rfl (Nat.le_of_ble_eq_true rfl) rfl dX7_readRace_19 22 rfl ?_
  refine w_letm hF (fun m_4 hF => ?_)
  refine w_aload_n X 0 dX7_readRace_22 rfl rfl 23 rfl ?_
  refine w_getV (v := .ref (ad 2)) X 7 plt_7 ko_7 (T := TX7) (N := 9) rfl in_X7 0 (by decide) kF_X7_9 rfl rfl dX7_readRace_23 26 rfl ?_
  refine w_callVv (fun m => m) X hZ hF [] 2 plt_2 ko_2 rfl rfl rfl kB_X9_begin kL_X7_46 (fun res h => ct_X9_begin l hZ hO fu m_4 res h) rfl rfl rfl ⟨Nat.le_of_ble_eq_true rfl, Nat.le_of_ble_eq_true rfl⟩ (Nat.le_of_ble_eq_true rfl) ⟨Nat.zero_le _, Nat.zero_le _⟩ dX7_readRace_26 29 rfl (fun m_5 hF => ?_)
  refine w_iconst X 0 dX7_readRace_29 rfl 30 rfl ?_
  refine w_istore_n X [(1, .int 0), (0, .ref (ad 7))] dX7_readRace_30 rfl (by decide) rfl 31 rfl ?_
  refine w_keep [1, 0] rfl ?_
  exact w_31 fu 0 m_5 hF

def K_X3_forget (fu : Nat) (mem : Mem) : Option Mem := lt_ (mw mem 33 2 0) (fun m_1 => some m_1)
def rm_X3_forget : Room := { frames := 0, cells := 0, slots := 0, locals := 0 }
set_option maxHeartbeats 4000000 in
set_option maxRecDepth 100000 in
theorem ct_X3_forget (l : Launch) {D : va_G} {ca ad : Nat → Nat} {Z : (Nat → Prop) → State → Heap → Prop} (hZ : ZOK Z) {tO : Nat} {sK sV : Nat → Nat} (hO : ZO Z tO sK sV) (fu : Nat) (mem : Mem) (res : Mem) (hF : K_X3_forget fu mem = some res) : CV l D (tyL ca) 255 ad (cC ca ad) Z yX3_forget cX3_forget 1 rm_X3_forget [.ref (ad 33)] mem res := by
  refine start_v (own := RX3) rfl (by decide) (Nat.le_of_ble_eq_true rfl) ?_
  intro p e s m args below meth c Q hQ X
  rw [K_X3_forget] at hF
  revert hF
  intro hF
  refine w_aload_n X 0 dX3_forget_0 rfl rfl 1 rfl ?_
  refine w_iconst X 0 dX3_forget_1 rfl 2 rfl ?_
  refine w_putI X 33 plt_33 ko_33 (T := TX3) (N := 3) rfl in_X3 tyX3 tyX3_ok nmX3 2 (by decide) kF_X3_26 rfl rfl rfl rfl (Nat.le_of_ble_eq_true rfl) rfl dX3_forget_2 5 rfl ?_
  refine w_letm hF (fun m_1 hF => ?_)
  exact w_vret X hQ (o_inj hF) dX3_forget_5

def K_X11_regions (fu : Nat) (mem : Mem) : Option (Int32 × Mem) := bd (K_X10_countRegions fu 1 0 mem) (fun p_1 => some (p_1.1, p_1.2))
def K_X11_writeByte (fu : Nat) (x1 : Int32) (mem : Mem) : Option Mem := (if (rd mem 0 13) < 283 then gi (rd mem 0 13) 283 (lt_ (mw mem 1 (Int32.toNatClampNeg (rd mem 0 13)) (vp_nar .byte (Int8.toInt32 (Int32.toInt8 x1)))) (fun m_2 => lt_ (mw m_2 0 13 ((rd m_2 0 13) + 1)) (fun m_3 => some m_3))) else some mem)
def K_X11_writeWall_30 (fu : Nat) (x1 : Int32) (x2 : Int32) (xs0 : Int32) (mem : Mem) : Option Mem := bd (K_X11_writeByte fu xs0 mem) (fun m_2 => bd (K_X11_writeByte fu (48 + x1) m_2) (fun m_3 => bd (K_X11_writeByte fu (48 + x2) m_3) (fun m_4 => some m_4)))
def K_X11_writeWall (fu : Nat) (x1 : Int32) (x2 : Int32) (mem : Mem) : Option Mem := bd (K_X2_wallOn fu 0 x1 x2 mem) (fun x_1 => (if x_1 = (-1) then some mem else (if x_1 = 0 then (K_X11_writeWall_30 fu x1 x2 45 mem) else (K_X11_writeWall_30 fu x1 x2 124 mem))))
def K_X11_report_108 (fu : Nat) (k_90 : Int32 → Mem → Option (Int32 × Mem)) : Nat → Int32 → Int32 → Mem → Option (Int32 × Mem)
  | 0, _, _, _ => none
  | n + 1, x1, x2, mem => (if x2 < ((rd mem (pBoard 0) 0) - 1) then bd (K_X11_writeWall fu x2 x1 mem) (fun m_6 => (K_X11_report_108 fu k_90 n x1 (x2 + 1) m_6)) else (k_90 (x1 + 1) mem))
def K_X11_report_90 (fu : Nat) : Nat → Int32 → Mem → Option (Int32 × Mem)
  | 0, _, _ => none
  | n + 1, x1, mem => (if x1 < ((rd mem (pBoard 0) 1) - 1) then (K_X11_report_108 fu (K_X11_report_90 fu n) fu x1 0 mem) else bd (K_X11_writeByte fu 10 mem) (fun m_3 => some ((rd m_3 0 13), m_3)))
def K_X11_report_67 (fu : Nat) (k_18 : Int32 → Mem → Option (Int32 × Mem)) (k_24 : Int32 → Int32 → Mem → Option (Int32 × Mem)) (x1 : Int32) (x2 : Int32) (xs0 : Int32) (mem : Mem) : Option (Int32 × Mem) := bd (K_X11_writeByte fu xs0 mem) (fun m_7 => (k_24 x1 (x2 + 1) m_7))
def K_X11_report_24 (fu : Nat) (k_18 : Int32 → Mem → Option (Int32 × Mem)) : Nat → Int32 → Int32 → Mem → Option (Int32 × Mem)
  | 0, _, _, _ => none
  | n + 1, x1, x2, mem => (if x2 < (rd mem (pBoard 0) 0) then bd (K_X6_pawnOn fu 0 ((x1 * 9) + x2) mem) (fun x_4 => (if x_4 = (-1) then (K_X11_report_67 fu k_18 (K_X11_report_24 fu k_18 n) x1 x2 46 mem) else (K_X11_report_67 fu k_18 (K_X11_report_24 fu k_18 n) x1 x2 (48 + x_4) mem))) else bd (K_X11_writeByte fu 10 mem) (fun m_5 => (k_18 (x1 + (-1)) m_5)))
def K_X11_report_18 (fu : Nat) : Nat → Int32 → Mem → Option (Int32 × Mem)
  | 0, _, _ => none
  | n + 1, x1, mem => (if x1 < 0 then (K_X11_report_90 fu fu 0 mem) else (K_X11_report_24 fu (K_X11_report_18 fu n) fu x1 0 mem))
def K_X11_report (fu : Nat) (mem : Mem) : Option (Int32 × Mem) := lt_ (mw mem 0 13 0) (fun m_1 => lt_ ((rd m_1 (pBoard 0) 1) - 1) (fun x_2 => (K_X11_report_18 fu fu x_2 m_1)))
def K_X8_addRow (fu : Nat) (x1 : Int32) (x2 : Int32) (x3 : Int32) (x4 : Int32) (mem : Mem) : Option Mem := (if (rd mem 10 6) < 60 then gi (rd mem 10 6) 60 (lt_ (mw mem 11 (Int32.toNatClampNeg (rd mem 10 6)) x1) (fun m_2 => gi (rd m_2 10 6) 60 (lt_ (mw m_2 12 (Int32.toNatClampNeg (rd m_2 10 6)) x2) (fun m_4 => gi (rd m_4 10 6) 60 (lt_ (mw m_4 13 (Int32.toNatClampNeg (rd m_4 10 6)) x3) (fun m_6 => gi (rd m_6 10 6) 60 (lt_ (mw m_6 14 (Int32.toNatClampNeg (rd m_6 10 6)) x4) (fun m_8 => lt_ (mw m_8 10 6 ((rd m_8 10 6) + 1)) (fun m_9 => some m_9))))))))) else some mem)
def K_X8_closeRepeat_41 (fu : Nat) (mem : Mem) : Option (Int32 × Mem) := bd (K_X9_needSign fu 59 mem) (fun p_4 => gb p_4.1 (some (p_4.1, p_4.2)))
def K_X8_closeRepeat (fu : Nat) (mem : Mem) : Option (Int32 × Mem) := lt_ (mw mem 10 9 ((rd mem 10 9) - 1)) (fun m_1 => (if (rd m_1 10 9) < 0 then (K_X8_closeRepeat_41 fu m_1) else (if (rd m_1 10 9) < 2 then gi (rd m_1 10 9) 2 (bd (K_X8_addRow fu 5 (rd m_1 16 (Int32.toNatClampNeg (rd m_1 10 9))) 0 0 m_1) (fun m_3 => (K_X8_closeRepeat_41 fu m_3))) else (K_X8_closeRepeat_41 fu m_1))))
def K_X8_kindOfWord (fu : Nat) (mem : Mem) : Option (Int32 × Mem) := bd (K_X9_isWord fu 17 mem) (fun p_1 => (if p_1.1 = 0 then bd (K_X9_isWord fu 18 p_1.2) (fun p_2 => (if p_2.1 = 0 then bd (K_X9_isWord fu 19 p_2.2) (fun p_3 => (if p_3.1 = 0 then bd (K_X9_isWord fu 20 p_3.2) (fun p_4 => (if p_4.1 = 0 then bd (K_X9_isWord fu 21 p_4.2) (fun p_5 => (if p_5.1 = 0 then some ((-1), p_5.2) else some (4, p_5.2))) else some (3, p_4.2))) else some (2, p_3.2))) else some (1, p_2.2))) else some (0, p_1.2)))
def K_X8_readStep (fu : Nat) (mem : Mem) : Option (Int32 × Mem) := bd (K_X9_needSide fu mem) (fun p_1 => lt_ p_1.1 (fun x_2 => bd (K_X8_addRow fu 0 x_2 0 0 p_1.2) (fun m_3 => (if x_2 = (-1) then some (0, m_3) else bd (K_X9_needSign fu 59 m_3) (fun p_4 => (if p_4.1 = 0 then some (0, p_4.2) else some (1, p_4.2)))))))
def K_X8_readWall (fu : Nat) (mem : Mem) : Option (Int32 × Mem) := bd (K_X9_needNumber fu 0 99 mem) (fun p_1 => (if p_1.1 = 0 then some (0, p_1.2) else lt_ (rd p_1.2 2 10) (fun x_2 => bd (K_X9_needNumber fu 0 99 p_1.2) (fun p_3 => (if p_3.1 = 0 then some (0, p_3.2) else lt_ (rd p_3.2 2 10) (fun x_4 => bd (K_X9_needWay fu p_3.2) (fun p_5 => lt_ p_5.1 (fun x_6 => bd (K_X8_addRow fu 1 x_2 x_4 x_6 p_5.2) (fun m_7 => (if x_6 = (-1) then some (0, m_7) else bd (K_X9_needSign fu 59 m_7) (fun p_8 => (if p_8.1 = 0 then some (0, p_8.2) else some (1, p_8.2)))))))))))))
def K_X8_readPass (fu : Nat) (mem : Mem) : Option (Int32 × Mem) := bd (K_X8_addRow fu 2 0 0 0 mem) (fun m_1 => bd (K_X9_needSign fu 59 m_1) (fun p_2 => gb p_2.1 (some (p_2.1, p_2.2))))
def K_X8_readPlay (fu : Nat) (mem : Mem) : Option (Int32 × Mem) := bd (K_X9_needNumber fu 0 99 mem) (fun p_1 => (if p_1.1 = 0 then some (0, p_1.2) else lt_ (rd p_1.2 2 10) (fun x_2 => bd (K_X9_needNumber fu 0 99 p_1.2) (fun p_3 => (if p_3.1 = 0 then some (0, p_3.2) else bd (K_X8_addRow fu 3 x_2 (rd p_3.2 2 10) 0 p_3.2) (fun m_4 => bd (K_X9_needSign fu 59 m_4) (fun p_5 => gb p_5.1 (some (p_5.1, p_5.2)))))))))
def K_X8_readRepeat_53 (fu : Nat) (mem : Mem) : Option (Int32 × Mem) := bd (K_X8_addRow fu 4 (rd mem 2 10) 0 0 mem) (fun m_5 => bd (K_X9_needSign fu 40 m_5) (fun p_6 => gb p_6.1 (some (p_6.1, p_6.2))))
def K_X8_readRepeat (fu : Nat) (mem : Mem) : Option (Int32 × Mem) := bd (K_X9_needNumber fu 1 20 mem) (fun p_1 => (if p_1.1 = 0 then some (0, p_1.2) else (if (rd p_1.2 10 9) < 0 then (K_X8_readRepeat_53 fu p_1.2) else (if (rd p_1.2 10 9) < 2 then gi (rd p_1.2 10 9) 2 (lt_ (mw p_1.2 16 (Int32.toNatClampNeg (rd p_1.2 10 9)) (rd p_1.2 10 6)) (fun m_3 => lt_ (mw m_3 10 9 ((rd m_3 10 9) + 1)) (fun m_4 => (K_X8_readRepeat_53 fu m_4)))) else (K_X8_readRepeat_53 fu p_1.2)))))
def K_X8_readCommand_41 (fu : Nat) (x1 : Int32) (mem : Mem) : Option (Int32 × Mem) := (if (rd mem 10 7) < 30 then lt_ (mw mem 10 7 ((rd mem 10 7) + 1)) (fun m_7 => (if x1 = 0 then bd (K_X8_readStep fu m_7) (fun p_9 => gb p_9.1 (some (p_9.1, p_9.2))) else (if x1 = 1 then bd (K_X8_readWall fu m_7) (fun p_12 => gb p_12.1 (some (p_12.1, p_12.2))) else (if x1 = 2 then bd (K_X8_readPass fu m_7) (fun p_15 => gb p_15.1 (some (p_15.1, p_15.2))) else (if x1 = 3 then bd (K_X8_readPlay fu m_7) (fun p_18 => gb p_18.1 (some (p_18.1, p_18.2))) else bd (K_X8_readRepeat fu m_7) (fun p_20 => gb p_20.1 (some (p_20.1, p_20.2)))))))) else bd (K_X9_fail fu 6 mem) (fun p_22 => gb p_22.1 (some (p_22.1, p_22.2))))
def K_X8_readCommand (fu : Nat) (mem : Mem) : Option (Int32 × Mem) := bd (K_X8_kindOfWord fu mem) (fun p_1 => lt_ p_1.1 (fun x_2 => (if x_2 = (-1) then bd (K_X9_fail fu 1 p_1.2) (fun p_3 => gb p_3.1 (some (p_3.1, p_3.2))) else (if x_2 = 4 then (if (rd p_1.2 10 9) < 2 then (K_X8_readCommand_41 fu x_2 p_1.2) else bd (K_X9_fail fu 3 p_1.2) (fun p_5 => gb p_5.1 (some (p_5.1, p_5.2)))) else (K_X8_readCommand_41 fu x_2 p_1.2)))))
def K_X8_readCommands_82 (fu : Nat) (k_24 : Int32 → Mem → Option (Int32 × Mem)) (x1 : Int32) (xs0 : Int32) (mem : Mem) : Option (Int32 × Mem) := (if xs0 = 0 then bd (K_X8_readCommand fu mem) (fun p_7 => (if p_7.1 = 0 then some (0, p_7.2) else (k_24 (x1 + 1) p_7.2))) else bd (K_X8_closeRepeat fu mem) (fun p_8 => (if p_8.1 = 0 then some (0, p_8.2) else (k_24 (x1 + 1) p_8.2))))
def K_X8_readCommands_81 (fu : Nat) (k_24 : Int32 → Mem → Option (Int32 × Mem)) (x1 : Int32) (mem : Mem) : Option (Int32 × Mem) := (K_X8_readCommands_82 fu k_24 x1 0 mem)
def K_X8_readCommands_58 (fu : Nat) (k_24 : Int32 → Mem → Option (Int32 × Mem)) (x1 : Int32) (mem : Mem) : Option (Int32 × Mem) := (if 0 < (rd mem 10 9) then bd (K_X9_isSign fu 41 mem) (fun x_6 => (if x_6 = 0 then (K_X8_readCommands_81 fu k_24 x1 mem) else (K_X8_readCommands_82 fu k_24 x1 1 mem))) else (K_X8_readCommands_81 fu k_24 x1 mem))
def K_X8_readCommands_24 (fu : Nat) : Nat → Int32 → Mem → Option (Int32 × Mem)
  | 0, _, _ => none
  | n + 1, x1, mem => (if 700 < x1 then some (1, mem) else bd (K_X9_advance fu mem) (fun m_5 => (if (rd m_5 2 7) = 5 then (if (rd m_5 10 9) = 0 then some (1, m_5) else (K_X8_readCommands_58 fu (K_X8_readCommands_24 fu n) x1 m_5)) else (K_X8_readCommands_58 fu (K_X8_readCommands_24 fu n) x1 m_5))))
def K_X8_readCommands (fu : Nat) (mem : Mem) : Option (Int32 × Mem) := lt_ (mw mem 10 6 0) (fun m_1 => lt_ (mw m_1 10 7 0) (fun m_2 => lt_ (mw m_2 10 9 0) (fun m_3 => bd (K_X9_begin fu m_3) (fun m_4 => (K_X8_readCommands_24 fu fu 0 m_4)))))
def K_X8_rowBehind (fu : Nat) (x1 : Int32) (mem : Mem) : Option (Int32 × Mem) := gi x1 60 (lt_ (rd mem 12 (Int32.toNatClampNeg x1)) (fun x_2 => (if x_2 < 0 then some ((x1 + 1), mem) else (if x_2 < (rd mem 10 6) then gi x_2 60 (gi x_2 60 (lt_ (mw mem 15 (Int32.toNatClampNeg x_2) ((rd mem 15 (Int32.toNatClampNeg x_2)) - 1)) (fun m_5 => gi x_2 60 ((if 0 < (rd m_5 15 (Int32.toNatClampNeg x_2)) then some ((x_2 + 1), m_5) else some ((x1 + 1), m_5)))))) else some ((x1 + 1), mem)))))
def K_X6_mayMove (fu : Nat) (r : Nat) (x1 : Int32) (mem : Mem) : Option Int32 := bd (K_X6_hasEnded fu r mem) (fun x_1 => (if x_1 = 0 then bd (K_X6_landing fu r (rd mem (pRace r) 6) x1 mem) (fun x_2 => (if x_2 = (-1) then some 0 else some 1)) else some 0))
def rm_X6_mayMove : Room := { frames := 3, cells := 0, slots := 0, locals := 72 }
set_option maxHeartbeats 4000000 in
set_option maxRecDepth 100000 in
theorem ct_X6_mayMove (l : Launch) {D : va_G} {ca ad : Nat → Nat} {Z : (Nat → Prop) → State → Heap → Prop} (hZ : ZOK Z) {tO : Nat} {sK sV : Nat → Nat} (hO : ZO Z tO sK sV) (fu : Nat) {r : Nat} (hr : r < 10) (x1 : Int32) (mem : Mem) (res : Int32) (hF : K_X6_mayMove fu r x1 mem = some res) : CI l D (tyL ca) 255 ad (cC ca ad) Z yX6_mayMove cX6_mayMove 2 .boolean rm_X6_mayMove [.ref (ad (pRace r)), .int x1] mem res mem := by
  refine start_i (own := RX6) rfl (by decide) (Nat.le_of_ble_eq_true rfl) ?_
  intro p e s m args below meth c Q hQ X
  rw [K_X6_mayMove] at hF
  revert hF
  intro hF
  refine w_aload_n X 0 dX6_mayMove_0 rfl rfl 1 rfl ?_
  refine w_callVi (fun x => x) (fun _ => mem) X hZ hF [] (pRace r) (lt_Race hr) ko_Race rfl rfl rfl kB_X6_hasEnded kL_X6_80 (fun res h => ct_X6_hasEnded l hZ hO fu hr mem res h) rfl rfl rfl ⟨Nat.le_of_ble_eq_true rfl, Nat.le_of_ble_eq_true rfl⟩ (Nat.le_of_ble_eq_true rfl) ⟨Nat.zero_le _, Nat.zero_le _⟩ dX6_mayMove_1 4 rfl (fun x_1 hF => ?_)
  refine w_if_ne X hF 24 7 dX6_mayMove_4 (by decide) rfl (fun hF => ?_) (fun hF => ?_)
  · refine w_aload_n X 0 dX6_mayMove_7 rfl rfl 8 rfl ?_
    refine w_aload_n X 0 dX6_mayMove_8 rfl rfl 9 rfl ?_
    refine w_getV (v := .int (rd mem (pRace r) 6)) X (pRace r) (lt_Race hr) ko_Race (T := TX6) (N := 8) rfl in_X6 6 (by decide) kF_X6_46 rfl rfl dX6_mayMove_9 12 rfl ?_
    refine w_iload_n X 1 dX6_mayMove_12 rfl rfl 13 rfl ?_
    refine w_callVi (fun x => x) (fun _ => mem) X hZ hF [.int (rd mem (pRace r) 6), .int x1] (pRace r) (lt_Race hr) ko_Race rfl rfl rfl kB_X6_landing kL_X6_107 (fun res h => ct_X6_landing l hZ hO fu hr (rd mem (pRace r) 6) x1 mem res h) rfl rfl rfl ⟨Nat.le_of_ble_eq_true rfl, Nat.le_of_ble_eq_true rfl⟩ (Nat.le_of_ble_eq_true rfl) ⟨Nat.zero_le _, Nat.zero_le _⟩ dX6_mayMove_13 16 rfl (fun x_2 hF => ?_)
    refine w_iconst X (-1) dX6_mayMove_16 rfl 17 rfl ?_
    refine w_icmp_eq X hF 24 20 dX6_mayMove_17 (by decide) rfl (fun hF => ?_) (fun hF => ?_)
    · refine w_iconst X 0 dX6_mayMove_24 rfl 25 rfl ?_
      exact w_iret X hQ (o_inj hF) rfl rfl dX6_mayMove_25
    · refine w_iconst X 1 dX6_mayMove_20 rfl 21 rfl ?_
      refine w_goto X 25 dX6_mayMove_21 (by decide) ?_
      exact w_iret X hQ (o_inj hF) rfl rfl dX6_mayMove_25
  · refine w_iconst X 0 dX6_mayMove_24 rfl 25 rfl ?_
    exact w_iret X hQ (o_inj hF) rfl rfl dX6_mayMove_25

def K_X8_perform (fu : Nat) (r1 : Nat) (x3 : Int32) (mem : Mem) : Option (Int32 × Mem) := gi x3 60 (lt_ (rd mem 12 (Int32.toNatClampNeg x3)) (fun x_2 => gi x3 60 (lt_ (rd mem 13 (Int32.toNatClampNeg x3)) (fun x_4 => gi x3 60 (lt_ (rd mem 11 (Int32.toNatClampNeg x3)) (fun x_6 => (if x_6 = 0 then bd (K_X6_mayMove fu r1 x_2 mem) (fun x_8 => (if x_8 = 0 then some (0, mem) else bd (K_X6_move fu r1 x_2 mem) (fun m_9 => some (1, m_9)))) else (if x_6 = 1 then gi x3 60 (bd (K_X5_mayBuild fu r1 x_2 x_4 (rd mem 14 (Int32.toNatClampNeg x3)) mem) (fun p_12 => (if p_12.1 = 0 then some (0, p_12.2) else gi x3 60 (bd (K_X6_buildWall fu r1 x_2 x_4 (rd p_12.2 14 (Int32.toNatClampNeg x3)) p_12.2) (fun m_14 => some (1, m_14)))))) else (if x_6 = 2 then bd (K_X6_mayPass fu r1 mem) (fun x_16 => (if x_16 = 0 then some (0, mem) else bd (K_X6_endTurn fu r1 mem) (fun m_17 => some (1, m_17)))) else (if x_6 = 3 then bd (K_X11_mayPlay fu x_2 x_4 mem) (fun x_19 => (if x_19 = 0 then some (0, mem) else bd (K_X5_playTurns fu r1 x_2 x_4 mem) (fun p_20 => some (1, p_20.2)))) else bd (K_X6_mayPass fu r1 mem) (fun x_21 => (if x_21 = 0 then some (0, mem) else bd (K_X6_endTurn fu r1 mem) (fun m_22 => some (1, m_22))))))))))))))
def K_X8_run_8 (fu : Nat) (r1 : Nat) : Nat → Int32 → Int32 → Int32 → Mem → Option (Int32 × Mem)
  | 0, _, _, _, _ => none
  | n + 1, x3, x4, x5, mem => (if x5 < 1000000 then (if x4 < 0 then some (x3, mem) else (if x4 < (rd mem 10 6) then (if x3 < 40 then gi x4 60 ((if (rd mem 11 (Int32.toNatClampNeg x4)) = 4 then gi x4 60 (gi x4 60 (lt_ (mw mem 15 (Int32.toNatClampNeg x4) (rd mem 12 (Int32.toNatClampNeg x4))) (fun m_4 => (K_X8_run_8 fu r1 n x3 (x4 + 1) (x5 + 1) m_4)))) else gi x4 60 ((if (rd mem 11 (Int32.toNatClampNeg x4)) = 5 then bd (K_X8_rowBehind fu x4 mem) (fun p_6 => lt_ p_6.1 (fun x_7 => (K_X8_run_8 fu r1 n x3 x_7 (x5 + 1) p_6.2))) else bd (K_X8_perform fu r1 x4 mem) (fun p_8 => (if p_8.1 = 0 then some (x3, p_8.2) else (K_X8_run_8 fu r1 n (x3 + 1) (x4 + 1) (x5 + 1) p_8.2))))))) else some (x3, mem)) else some (x3, mem))) else some (x3, mem))
def K_X8_run (fu : Nat) (r1 : Nat) (mem : Mem) : Option (Int32 × Mem) := (K_X8_run_8 fu r1 fu 0 0 0 mem)
def K_X11_save (fu : Nat) (mem : Mem) : Option (Int32 × Mem) := bd (K_X6_copyFrom fu 3 0 mem) (fun m_1 => lt_ (mw m_1 0 10 1) (fun m_2 => some ((rd m_2 (pRace 3) 5), m_2)))
def K_X11_turnOf (fu : Nat) (mem : Mem) : Option Int32 := bd (K_X6_mover fu 0 mem) (fun x_1 => some x_1)
def rm_X11_turnOf : Room := { frames := 2, cells := 0, slots := 0, locals := 40 }
set_option maxHeartbeats 4000000 in
set_option maxRecDepth 100000 in
theorem ct_X11_turnOf (l : Launch) {D : va_G} {ca ad : Nat → Nat} {Z : (Nat → Prop) → State → Heap → Prop} (hZ : ZOK Z) {tO : Nat} {sK sV : Nat → Nat} (hO : ZO Z tO sK sV) (fu : Nat) (mem : Mem) (res : Int32) (hF : K_X11_turnOf fu mem = some res) : CI l D (tyL ca) 255 ad (cC ca ad) Z yX11_turnOf cX11_turnOf 1 .int rm_X11_turnOf [.ref (ad 0)] mem res mem := by
  refine start_i (own := RX11) rfl (by decide) (Nat.le_of_ble_eq_true rfl) ?_
  intro p e s m args below meth c Q hQ X
  rw [K_X11_turnOf] at hF
  revert hF
  intro hF
  refine w_aload_n X 0 dX11_turnOf_0 rfl rfl 1 rfl ?_
  refine w_getV (v := .ref (ad (pRace 0))) X 0 plt_0 ko_0 (T := TX11) (N := 14) rfl in_X11 6 (by decide) kF_X11_40 rfl rfl dX11_turnOf_1 4 rfl ?_
  refine w_callVi (fun x => x) (fun _ => mem) X hZ hF [] (pRace 0) (lt_Race (by decide)) ko_Race rfl rfl rfl kB_X6_mover kL_X11_200 (fun res h => ct_X6_mover l hZ hO fu (by decide) mem res h) rfl rfl rfl ⟨Nat.le_of_ble_eq_true rfl, Nat.le_of_ble_eq_true rfl⟩ (Nat.le_of_ble_eq_true rfl) ⟨Nat.zero_le _, Nat.zero_le _⟩ dX11_turnOf_4 7 rfl (fun x_1 hF => ?_)
  exact w_iret X hQ (o_inj hF) rfl rfl dX11_turnOf_7

def K_X3_takeBack_27 (fu : Nat) (r1 : Nat) (xs0 : Int32) (mem : Mem) : Option (Int32 × Mem) := lt_ (mw mem 33 1 xs0) (fun m_1 => gi (rd m_1 33 1) 6 (bd (K_X6_copyFrom fu r1 (4 + (Int32.toNatClampNeg (rd m_1 33 1))) m_1) (fun m_3 => lt_ (mw m_3 33 2 ((rd m_3 33 2) - 1)) (fun m_4 => some (1, m_4)))))
def K_X3_takeBack (fu : Nat) (r1 : Nat) (mem : Mem) : Option (Int32 × Mem) := (if (rd mem 33 2) = 0 then some (0, mem) else (if 0 < (rd mem 33 1) then (K_X3_takeBack_27 fu r1 ((rd mem 33 1) - 1) mem) else (K_X3_takeBack_27 fu r1 5 mem)))
def rm_X3_takeBack : Room := { frames := 3, cells := 0, slots := 0, locals := 83 }
set_option maxHeartbeats 4000000 in
set_option maxRecDepth 100000 in
theorem ct_X3_takeBack (l : Launch) {D : va_G} {ca ad : Nat → Nat} {Z : (Nat → Prop) → State → Heap → Prop} (hZ : ZOK Z) {tO : Nat} {sK sV : Nat → Nat} (hO : ZO Z tO sK sV) (fu : Nat) {r1 : Nat} (hr1 : r1 < 10) (mem : Mem) (res : (Int32 × Mem)) (hF : K_X3_takeBack fu r1 mem = some res) : CI l D (tyL ca) 255 ad (cC ca ad) Z yX3_takeBack cX3_takeBack 2 .boolean rm_X3_takeBack [.ref (ad 33), .ref (ad (pRace r1))] mem res.1 res.2 := by
  refine start_i (own := RX3) rfl (by decide) (Nat.le_of_ble_eq_true rfl) ?_
  intro p e s m args below meth c Q hQ X
  rw [K_X3_takeBack] at hF
  revert hF
  have w_27 : ∀ (xs0 : Int32) (mem : Mem), K_X3_takeBack_27 fu r1 xs0 mem = some res → WW D 255 ad (cC ca ad) p l e rm_X3_takeBack s m args below meth c 2 0 0 Q mem 27 [(0, .ref (ad 33)), (1, .ref (ad (pRace r1)))] [.int xs0, .ref (ad 33)] := by
    intro xs0 mem hF
    rw [K_X3_takeBack_27] at hF
    refine w_putI X 33 plt_33 ko_33 (T := TX3) (N := 3) rfl in_X3 tyX3 tyX3_ok nmX3 1 (by decide) kF_X3_18 rfl rfl rfl rfl (Nat.le_of_ble_eq_true rfl) rfl dX3_takeBack_27 30 rfl ?_
    refine w_letm hF (fun m_1 hF => ?_)
    refine w_aload_n X 1 dX3_takeBack_30 rfl rfl 31 rfl ?_
    refine w_aload_n X 0 dX3_takeBack_31 rfl rfl 32 rfl ?_
    refine w_getV (v := .ref (ad 34)) X 33 plt_33 ko_33 (T := TX3) (N := 3) rfl in_X3 0 (by decide) kF_X3_11 rfl rfl dX3_takeBack_32 35 rfl ?_
    refine w_aload_n X 0 dX3_takeBack_35 rfl rfl 36 rfl ?_
    refine w_getV (v := .int (rd m_1 33 1)) X 33 plt_33 ko_33 (T := TX3) (N := 3) rfl in_X3 1 (by decide) kF_X3_18 rfl rfl dX3_takeBack_36 39 rfl ?_
    refine w_gi hF (fun h_2 hF => ?_)
    refine w_aal X 34 plt_34 (pRace (4 + (Int32.toNatClampNeg (rd m_1 33 1)))) ko_34 (t0 := 4) rfl h_2 (el_Kept (vp_lt h_2)) dX3_takeBack_39 40 rfl ?_
    refine w_callVv (fun m => m) X hZ hF [.ref (ad (pRace (4 + (Int32.toNatClampNeg (rd m_1 33 1)))))] (pRace r1) (lt_Race hr1) ko_Race rfl rfl rfl kB_X6_copyFrom kL_X3_22 (fun res h => ct_X6_copyFrom l hZ hO fu hr1 (by have := vp_lt h_2; omega) m_1 res h) rfl rfl rfl ⟨Nat.le_of_ble_eq_true rfl, Nat.le_of_ble_eq_true rfl⟩ (Nat.le_of_ble_eq_true rfl) ⟨Nat.zero_le _, Nat.zero_le _⟩ dX3_takeBack_40 43 rfl (fun m_3 hF => ?_)
    refine w_aload_n X 0 dX3_takeBack_43 rfl rfl 44 rfl ?_
    refine w_dup X dX3_takeBack_44 rfl 45 rfl ?_
    refine w_getV (v := .int (rd m_3 33 2)) X 33 plt_33 ko_33 (T := TX3) (N := 3) rfl in_X3 2 (by decide) kF_X3_26 rfl rfl dX3_takeBack_45 48 rfl ?_
    refine w_iconst X 1 dX3_takeBack_48 rfl 49 rfl ?_
    refine w_isub X dX3_takeBack_49 50 rfl ?_
    refine w_putI X 33 plt_33 ko_33 (T := TX3) (N := 3) rfl in_X3 tyX3 tyX3_ok nmX3 2 (by decide) kF_X3_26 rfl rfl rfl rfl (Nat.le_of_ble_eq_true rfl) rfl dX3_takeBack_50 53 rfl ?_
    refine w_letm hF (fun m_4 hF => ?_)
    refine w_iconst X 1 dX3_takeBack_53 rfl 54 rfl ?_
    exact w_iret X hQ (o_inj1 hF) (o_inj2 hF) rfl dX3_takeBack_54
  intro hF
  refine w_aload_n X 0 dX3_takeBack_0 rfl rfl 1 rfl ?_
  refine w_getV (v := .int (rd mem 33 2)) X 33 plt_33 ko_33 (T := TX3) (N := 3) rfl in_X3 2 (by decide) kF_X3_26 rfl rfl dX3_takeBack_1 4 rfl ?_
  refine w_if_ne X hF 9 7 dX3_takeBack_4 (by decide) rfl (fun hF => ?_) (fun hF => ?_)
  · refine w_iconst X 0 dX3_takeBack_7 rfl 8 rfl ?_
    exact w_iret X hQ (o_inj1 hF) (o_inj2 hF) rfl dX3_takeBack_8
  · refine w_aload_n X 0 dX3_takeBack_9 rfl rfl 10 rfl ?_
    refine w_aload_n X 0 dX3_takeBack_10 rfl rfl 11 rfl ?_
    refine w_getV (v := .int (rd mem 33 1)) X 33 plt_33 ko_33 (T := TX3) (N := 3) rfl in_X3 1 (by decide) kF_X3_18 rfl rfl dX3_takeBack_11 14 rfl ?_
    refine w_if_le X hF 26 17 dX3_takeBack_14 (by decide) rfl (fun hF => ?_) (fun hF => ?_)
    · refine w_aload_n X 0 dX3_takeBack_17 rfl rfl 18 rfl ?_
      refine w_getV (v := .int (rd mem 33 1)) X 33 plt_33 ko_33 (T := TX3) (N := 3) rfl in_X3 1 (by decide) kF_X3_18 rfl rfl dX3_takeBack_18 21 rfl ?_
      refine w_iconst X 1 dX3_takeBack_21 rfl 22 rfl ?_
      refine w_isub X dX3_takeBack_22 23 rfl ?_
      refine w_goto X 27 dX3_takeBack_23 (by decide) ?_
      refine w_keep [0, 1] rfl ?_
      exact w_27 ((rd mem 33 1) - 1) mem hF
    · refine w_iconst X 5 dX3_takeBack_26 rfl 27 rfl ?_
      refine w_keep [0, 1] rfl ?_
      exact w_27 5 mem hF

def K_X11_undo (fu : Nat) (mem : Mem) : Option (Int32 × Mem) := bd (K_X3_takeBack fu 0 mem) (fun p_1 => (if p_1.1 = 0 then some ((-1), p_1.2) else some ((rd p_1.2 33 2), p_1.2)))
def rm_X11_undo : Room := { frames := 4, cells := 0, slots := 0, locals := 104 }
set_option maxHeartbeats 4000000 in
set_option maxRecDepth 100000 in
theorem ct_X11_undo (l : Launch) {D : va_G} {ca ad : Nat → Nat} {Z : (Nat → Prop) → State → Heap → Prop} (hZ : ZOK Z) {tO : Nat} {sK sV : Nat → Nat} (hO : ZO Z tO sK sV) (fu : Nat) (mem : Mem) (res : (Int32 × Mem)) (hF : K_X11_undo fu mem = some res) : CI l D (tyL ca) 255 ad (cC ca ad) Z yX11_undo cX11_undo 1 .int rm_X11_undo [.ref (ad 0)] mem res.1 res.2 := by
  refine start_i (own := RX11) rfl (by decide) (Nat.le_of_ble_eq_true rfl) ?_
  intro p e s m args below meth c Q hQ X
  rw [K_X11_undo] at hF
  revert hF
  intro hF
  refine w_aload_n X 0 dX11_undo_0 rfl rfl 1 rfl ?_
  refine w_getV (v := .ref (ad 33)) X 0 plt_0 ko_0 (T := TX11) (N := 14) rfl in_X11 11 (by decide) kF_X11_78 rfl rfl dX11_undo_1 4 rfl ?_
  refine w_aload_n X 0 dX11_undo_4 rfl rfl 5 rfl ?_
  refine w_getV (v := .ref (ad (pRace 0))) X 0 plt_0 ko_0 (T := TX11) (N := 14) rfl in_X11 6 (by decide) kF_X11_40 rfl rfl dX11_undo_5 8 rfl ?_
  refine w_callVi (fun x => x.1) (fun x => x.2) X hZ hF [.ref (ad (pRace 0))] 33 plt_33 ko_33 rfl rfl rfl kB_X3_takeBack kL_X11_355 (fun res h => ct_X3_takeBack l hZ hO fu (by decide) mem res h) rfl rfl rfl ⟨Nat.le_of_ble_eq_true rfl, Nat.le_of_ble_eq_true rfl⟩ (Nat.le_of_ble_eq_true rfl) ⟨Nat.zero_le _, Nat.zero_le _⟩ dX11_undo_8 11 rfl (fun p_1 hF => ?_)
  refine w_if_eq X hF 24 14 dX11_undo_11 (by decide) rfl (fun hF => ?_) (fun hF => ?_)
  · refine w_iconst X (-1) dX11_undo_24 rfl 25 rfl ?_
    exact w_iret X hQ (o_inj1 hF) (o_inj2 hF) rfl dX11_undo_25
  · refine w_aload_n X 0 dX11_undo_14 rfl rfl 15 rfl ?_
    refine w_getV (v := .ref (ad 33)) X 0 plt_0 ko_0 (T := TX11) (N := 14) rfl in_X11 11 (by decide) kF_X11_78 rfl rfl dX11_undo_15 18 rfl ?_
    refine w_getV (v := .int (rd p_1.2 33 2)) X 33 plt_33 ko_33 (T := TX3) (N := 3) rfl in_X3 2 (by decide) kF_X11_359 rfl rfl dX11_undo_18 21 rfl ?_
    refine w_goto X 25 dX11_undo_21 (by decide) ?_
    exact w_iret X hQ (o_inj1 hF) (o_inj2 hF) rfl dX11_undo_25

def K_X1_countWays_34 (fu : Nat) (r1 : Nat) : Nat → Int32 → Int32 → Int32 → Int32 → Mem → Option (Int32 × Mem)
  | 0, _, _, _, _, _ => none
  | n + 1, x2, x3, x4, x5, mem => (if x5 < x3 then bd (K_X1_goOn fu r1 x2 x5 mem) (fun p_3 => lt_ p_3.1 (fun x_4 => (K_X1_countWays_34 fu r1 n x2 x3 x_4 (x5 + 1) p_3.2))) else lt_ (x4 - x4 / 1000003 * 1000003) (fun x_5 => some (x_5, mem)))
def K_X1_countWays (fu : Nat) (r1 : Nat) (x2 : Int32) (x3 : Int32) (mem : Mem) : Option (Int32 × Mem) := gi x2 4 ((if (rd mem (pPawn r1 (Int32.toNatClampNeg x2)) 5) = 0 then bd (K_X1_begin fu r1 x2 mem) (fun m_2 => (K_X1_countWays_34 fu r1 fu x2 x3 0 0 m_2)) else (if x3 = 0 then some (1, mem) else some (0, mem))))
end Kc4
