section Kc4
def K_X7_readStatement (fu : Nat) (mem : Mem) : Option (Int32 × Mem) := bd (K_X9_isWord fu 0 mem) (fun p_1 => (if p_1.1 = 0 then bd (K_X9_isWord fu 1 p_1.2) (fun p_2 => (if p_2.1 = 0 then bd (K_X9_isWord fu 2 p_2.2) (fun p_3 => (if p_3.1 = 0 then bd (K_X9_isWord fu 7 p_3.2) (fun p_4 => (if p_4.1 = 0 then bd (K_X9_isWord fu 14 p_4.2) (fun p_5 => (if p_5.1 = 0 then bd (K_X9_fail fu 1 p_5.2) (fun p_6 => gb p_6.1 (some (p_6.1, p_6.2))) else bd (K_X7_readBlock fu p_5.2) (fun p_8 => gb p_8.1 (some (p_8.1, p_8.2))))) else bd (K_X7_readBan fu p_4.2) (fun p_10 => gb p_10.1 (some (p_10.1, p_10.2))))) else bd (K_X7_readPawn fu p_3.2) (fun p_12 => gb p_12.1 (some (p_12.1, p_12.2))))) else bd (K_X7_readWalls fu p_2.2) (fun p_14 => gb p_14.1 (some (p_14.1, p_14.2))))) else bd (K_X7_readBoard fu p_1.2) (fun p_16 => gb p_16.1 (some (p_16.1, p_16.2)))))
def rm_X7_readStatement : Room := { frames := 9, cells := 0, slots := 0, locals := 192 }
set_option maxHeartbeats 4000000 in
set_option maxRecDepth 100000 in
theorem ct_X7_readStatement (l : Launch) {D : va_G} {ca ad : Nat → Nat} {Z : (Nat → Prop) → State → Heap → Prop} (hZ : ZOK Z) {tO : Nat} {sK sV : Nat → Nat} (hO : ZO Z tO sK sV) (fu : Nat) (mem : Mem) (res : (Int32 × Mem)) (hF : K_X7_readStatement fu mem = some res) : CI l D (tyL ca) 255 ad (cC ca ad) Z yX7_readStatement cX7_readStatement 1 .boolean rm_X7_readStatement [.ref (ad 7)] mem res.1 res.2 := by
  refine start_i (own := RX7) rfl (by decide) (Nat.le_of_ble_eq_true rfl) ?_
  intro p e s m args below meth c Q hQ X
  rw [K_X7_readStatement] at hF
  revert hF
  intro hF
  refine w_aload_n X 0 dX7_readStatement_0 rfl rfl 1 rfl ?_
  refine w_getV (v := .ref (ad 2)) X 7 plt_7 ko_7 (T := TX7) (N := 9) rfl in_X7 0 (by decide) kF_X7_9 rfl rfl dX7_readStatement_1 4 rfl ?_
  refine w_ldcS X hO 0 rfl dX7_readStatement_4 6 rfl ?_
  refine w_callVi (fun x => x.1) (fun x => x.2) X hZ hF [.ref (sK 0)] 2 plt_2 ko_2 rfl rfl rfl kB_X9_isWord kL_X7_63 (fun res h => ct_X9_isWord l hZ hO fu (by decide) mem res h) rfl rfl rfl ⟨Nat.le_of_ble_eq_true rfl, Nat.le_of_ble_eq_true rfl⟩ (Nat.le_of_ble_eq_true rfl) ⟨Nat.zero_le _, Nat.zero_le _⟩ dX7_readStatement_6 9 rfl (fun p_1 hF => ?_)
  refine w_if_eq X hF 17 12 dX7_readStatement_9 (by decide) rfl (fun hF => ?_) (fun hF => ?_)
  · refine w_aload_n X 0 dX7_readStatement_17 rfl rfl 18 rfl ?_
    refine w_getV (v := .ref (ad 2)) X 7 plt_7 ko_7 (T := TX7) (N := 9) rfl in_X7 0 (by decide) kF_X7_9 rfl rfl dX7_readStatement_18 21 rfl ?_
    refine w_ldcS X hO 1 rfl dX7_readStatement_21 23 rfl ?_
    refine w_callVi (fun x => x.1) (fun x => x.2) X hZ hF [.ref (sK 1)] 2 plt_2 ko_2 rfl rfl rfl kB_X9_isWord kL_X7_63 (fun res h => ct_X9_isWord l hZ hO fu (by decide) p_1.2 res h) rfl rfl rfl ⟨Nat.le_of_ble_eq_true rfl, Nat.le_of_ble_eq_true rfl⟩ (Nat.le_of_ble_eq_true rfl) ⟨Nat.zero_le _, Nat.zero_le _⟩ dX7_readStatement_23 26 rfl (fun p_2 hF => ?_)
    refine w_if_eq X hF 34 29 dX7_readStatement_26 (by decide) rfl (fun hF => ?_) (fun hF => ?_)
    · refine w_aload_n X 0 dX7_readStatement_34 rfl rfl 35 rfl ?_
      refine w_getV (v := .ref (ad 2)) X 7 plt_7 ko_7 (T := TX7) (N := 9) rfl in_X7 0 (by decide) kF_X7_9 rfl rfl dX7_readStatement_35 38 rfl ?_
      refine w_ldcS X hO 2 rfl dX7_readStatement_38 40 rfl ?_
      refine w_callVi (fun x => x.1) (fun x => x.2) X hZ hF [.ref (sK 2)] 2 plt_2 ko_2 rfl rfl rfl kB_X9_isWord kL_X7_63 (fun res h => ct_X9_isWord l hZ hO fu (by decide) p_2.2 res h) rfl rfl rfl ⟨Nat.le_of_ble_eq_true rfl, Nat.le_of_ble_eq_true rfl⟩ (Nat.le_of_ble_eq_true rfl) ⟨Nat.zero_le _, Nat.zero_le _⟩ dX7_readStatement_40 43 rfl (fun p_3 hF => ?_)
      refine w_if_eq X hF 51 46 dX7_readStatement_43 (by decide) rfl (fun hF => ?_) (fun hF => ?_)
      · refine w_aload_n X 0 dX7_readStatement_51 rfl rfl 52 rfl ?_
        refine w_getV (v := .ref (ad 2)) X 7 plt_7 ko_7 (T := TX7) (N := 9) rfl in_X7 0 (by decide) kF_X7_9 rfl rfl dX7_readStatement_52 55 rfl ?_
        refine w_ldcS X hO 7 rfl dX7_readStatement_55 57 rfl ?_
        refine w_callVi (fun x => x.1) (fun x => x.2) X hZ hF [.ref (sK 7)] 2 plt_2 ko_2 rfl rfl rfl kB_X9_isWord kL_X7_63 (fun res h => ct_X9_isWord l hZ hO fu (by decide) p_3.2 res h) rfl rfl rfl ⟨Nat.le_of_ble_eq_true rfl, Nat.le_of_ble_eq_true rfl⟩ (Nat.le_of_ble_eq_true rfl) ⟨Nat.zero_le _, Nat.zero_le _⟩ dX7_readStatement_57 60 rfl (fun p_4 hF => ?_)
        refine w_if_eq X hF 68 63 dX7_readStatement_60 (by decide) rfl (fun hF => ?_) (fun hF => ?_)
        · refine w_aload_n X 0 dX7_readStatement_68 rfl rfl 69 rfl ?_
          refine w_getV (v := .ref (ad 2)) X 7 plt_7 ko_7 (T := TX7) (N := 9) rfl in_X7 0 (by decide) kF_X7_9 rfl rfl dX7_readStatement_69 72 rfl ?_
          refine w_ldcS X hO 14 rfl dX7_readStatement_72 74 rfl ?_
          refine w_callVi (fun x => x.1) (fun x => x.2) X hZ hF [.ref (sK 14)] 2 plt_2 ko_2 rfl rfl rfl kB_X9_isWord kL_X7_63 (fun res h => ct_X9_isWord l hZ hO fu (by decide) p_4.2 res h) rfl rfl rfl ⟨Nat.le_of_ble_eq_true rfl, Nat.le_of_ble_eq_true rfl⟩ (Nat.le_of_ble_eq_true rfl) ⟨Nat.zero_le _, Nat.zero_le _⟩ dX7_readStatement_74 77 rfl (fun p_5 hF => ?_)
          refine w_if_eq X hF 87 80 dX7_readStatement_77 (by decide) rfl (fun hF => ?_) (fun hF => ?_)
          · refine w_aload_n X 0 dX7_readStatement_87 rfl rfl 88 rfl ?_
            refine w_getV (v := .ref (ad 2)) X 7 plt_7 ko_7 (T := TX7) (N := 9) rfl in_X7 0 (by decide) kF_X7_9 rfl rfl dX7_readStatement_88 91 rfl ?_
            refine w_iconst X 1 dX7_readStatement_91 rfl 92 rfl ?_
            refine w_callVi (fun x => x.1) (fun x => x.2) X hZ hF [.int 1] 2 plt_2 ko_2 rfl rfl rfl kB_X9_fail kL_X7_90 (fun res h => ct_X9_fail l hZ hO fu 1 p_5.2 res h) rfl rfl rfl ⟨Nat.le_of_ble_eq_true rfl, Nat.le_of_ble_eq_true rfl⟩ (Nat.le_of_ble_eq_true rfl) ⟨Nat.zero_le _, Nat.zero_le _⟩ dX7_readStatement_92 95 rfl (fun p_6 hF => ?_)
            refine w_gb hF (fun h_7 hF => ?_)
            exact w_iret X hQ (o_inj1 hF) (o_inj2 hF) (bool_nar h_7) dX7_readStatement_95
          · refine w_aload_n X 0 dX7_readStatement_80 rfl rfl 81 rfl ?_
            refine w_callVi (fun x => x.1) (fun x => x.2) X hZ hF [] 7 plt_7 ko_7 rfl rfl rfl kB_X7_readBlock kL_X7_87 (fun res h => ct_X7_readBlock l hZ hO fu p_5.2 res h) rfl rfl rfl ⟨Nat.le_of_ble_eq_true rfl, Nat.le_of_ble_eq_true rfl⟩ (Nat.le_of_ble_eq_true rfl) ⟨Nat.zero_le _, Nat.zero_le _⟩ dX7_readStatement_81 84 rfl (fun p_8 hF => ?_)
            refine w_goto X 95 dX7_readStatement_84 (by decide) ?_
            refine w_gb hF (fun h_9 hF => ?_)
            exact w_iret X hQ (o_inj1 hF) (o_inj2 hF) (bool_nar h_9) dX7_readStatement_95
        · refine w_aload_n X 0 dX7_readStatement_63 rfl rfl 64 rfl ?_
          refine w_callVi (fun x => x.1) (fun x => x.2) X hZ hF [] 7 plt_7 ko_7 rfl rfl rfl kB_X7_readBan kL_X7_82 (fun res h => ct_X7_readBan l hZ hO fu p_4.2 res h) rfl rfl rfl ⟨Nat.le_of_ble_eq_true rfl, Nat.le_of_ble_eq_true rfl⟩ (Nat.le_of_ble_eq_true rfl) ⟨Nat.zero_le _, Nat.zero_le _⟩ dX7_readStatement_64 67 rfl (fun p_10 hF => ?_)
          refine w_gb hF (fun h_11 hF => ?_)
          exact w_iret X hQ (o_inj1 hF) (o_inj2 hF) (bool_nar h_11) dX7_readStatement_67
      · refine w_aload_n X 0 dX7_readStatement_46 rfl rfl 47 rfl ?_
        refine w_callVi (fun x => x.1) (fun x => x.2) X hZ hF [] 7 plt_7 ko_7 rfl rfl rfl kB_X7_readPawn kL_X7_77 (fun res h => ct_X7_readPawn l hZ hO fu p_3.2 res h) rfl rfl rfl ⟨Nat.le_of_ble_eq_true rfl, Nat.le_of_ble_eq_true rfl⟩ (Nat.le_of_ble_eq_true rfl) ⟨Nat.zero_le _, Nat.zero_le _⟩ dX7_readStatement_47 50 rfl (fun p_12 hF => ?_)
        refine w_gb hF (fun h_13 hF => ?_)
        exact w_iret X hQ (o_inj1 hF) (o_inj2 hF) (bool_nar h_13) dX7_readStatement_50
    · refine w_aload_n X 0 dX7_readStatement_29 rfl rfl 30 rfl ?_
      refine w_callVi (fun x => x.1) (fun x => x.2) X hZ hF [] 7 plt_7 ko_7 rfl rfl rfl kB_X7_readWalls kL_X7_72 (fun res h => ct_X7_readWalls l hZ hO fu p_2.2 res h) rfl rfl rfl ⟨Nat.le_of_ble_eq_true rfl, Nat.le_of_ble_eq_true rfl⟩ (Nat.le_of_ble_eq_true rfl) ⟨Nat.zero_le _, Nat.zero_le _⟩ dX7_readStatement_30 33 rfl (fun p_14 hF => ?_)
      refine w_gb hF (fun h_15 hF => ?_)
      exact w_iret X hQ (o_inj1 hF) (o_inj2 hF) (bool_nar h_15) dX7_readStatement_33
  · refine w_aload_n X 0 dX7_readStatement_12 rfl rfl 13 rfl ?_
    refine w_callVi (fun x => x.1) (fun x => x.2) X hZ hF [] 7 plt_7 ko_7 rfl rfl rfl kB_X7_readBoard kL_X7_67 (fun res h => ct_X7_readBoard l hZ hO fu p_1.2 res h) rfl rfl rfl ⟨Nat.le_of_ble_eq_true rfl, Nat.le_of_ble_eq_true rfl⟩ (Nat.le_of_ble_eq_true rfl) ⟨Nat.zero_le _, Nat.zero_le _⟩ dX7_readStatement_13 16 rfl (fun p_16 hF => ?_)
    refine w_gb hF (fun h_17 hF => ?_)
    exact w_iret X hQ (o_inj1 hF) (o_inj2 hF) (bool_nar h_17) dX7_readStatement_16

def K_X7_readRace_31 (fu : Nat) : Nat → Int32 → Mem → Option (Int32 × Mem)
  | 0, _, _ => none
  | n + 1, x1, mem => (if 700 < x1 then some (1, mem) else bd (K_X9_advance fu mem) (fun m_6 => (if (rd m_6 2 7) = 5 then some (1, m_6) else bd (K_X7_readStatement fu m_6) (fun p_7 => (if p_7.1 = 0 then some (0, p_7.2) else (K_X7_readRace_31 fu n (x1 + 1) p_7.2))))))
def K_X7_readRace (fu : Nat) (mem : Mem) : Option (Int32 × Mem) := bd (K_X6_clear fu 1 mem) (fun m_1 => lt_ (mw m_1 7 5 0) (fun m_2 => lt_ (mw m_2 7 6 0) (fun m_3 => lt_ (mw m_3 7 7 5) (fun m_4 => bd (K_X9_begin fu m_4) (fun m_5 => (K_X7_readRace_31 fu fu 0 m_5))))))
def rm_X7_readRace : Room := { frames := 10, cells := 0, slots := 0, locals := 212 }
set_option maxHeartbeats 4000000 in
set_option maxRecDepth 100000 in
theorem ct_X7_readRace (l : Launch) {D : va_G} {ca ad : Nat → Nat} {Z : (Nat → Prop) → State → Heap → Prop} (hZ : ZOK Z) {tO : Nat} {sK sV : Nat → Nat} (hO : ZO Z tO sK sV) (fu : Nat) (mem : Mem) (res : (Int32 × Mem)) (hF : K_X7_readRace fu mem = some res) : CI l D (tyL ca) 255 ad (cC ca ad) Z yX7_readRace cX7_readRace 2 .boolean rm_X7_readRace [.ref (ad 7)] mem res.1 res.2 := by
  refine start_i (own := RX7) rfl (by decide) (Nat.le_of_ble_eq_true rfl) ?_
  intro p e s m args below meth c Q hQ X
  rw [K_X7_readRace] at hF
  revert hF
  have w_31 : ∀ (n : Nat) (x1 : Int32) (mem : Mem), K_X7_readRace_31 fu n x1 mem = some res → WW D 255 ad (cC ca ad) p l e rm_X7_readRace s m args below meth c 2 0 0 Q mem 31 [(0, .ref (ad 7)), (1, .int x1)] [] := by
    intro n
    induction n with
    | zero => intro x1 mem hF; exact no_none (show (none : Option (Int32 × Mem)) = some res from hF)
    | succ n ih =>
      intro x1 mem hF
      rw [K_X7_readRace_31] at hF
      refine w_iload_n X 1 dX7_readRace_31 rfl rfl 32 rfl ?_
      refine w_sipush X 700 dX7_readRace_32 rfl 35 rfl ?_
      refine w_icmp_gt X hF 73 38 dX7_readRace_35 (by decide) rfl (fun hF => ?_) (fun hF => ?_)
      · refine w_iconst X 1 dX7_readRace_73 rfl 74 rfl ?_
        exact w_iret X hQ (o_inj1 hF) (o_inj2 hF) rfl dX7_readRace_74
      · refine w_aload_n X 0 dX7_readRace_38 rfl rfl 39 rfl ?_
        refine w_getV (v := .ref (ad 2)) X 7 plt_7 ko_7 (T := TX7) (N := 9) rfl in_X7 0 (by decide) kF_X7_9 rfl rfl dX7_readRace_39 42 rfl ?_
        refine w_callVv (fun m => m) X hZ hF [] 2 plt_2 ko_2 rfl rfl rfl kB_X9_advance kL_X7_51 (fun res h => ct_X9_advance l hZ hO fu mem res h) rfl rfl rfl ⟨Nat.le_of_ble_eq_true rfl, Nat.le_of_ble_eq_true rfl⟩ (Nat.le_of_ble_eq_true rfl) ⟨Nat.zero_le _, Nat.zero_le _⟩ dX7_readRace_42 45 rfl (fun m_6 hF => ?_)
        refine w_aload_n X 0 dX7_readRace_45 rfl rfl 46 rfl ?_
        refine w_getV (v := .ref (ad 2)) X 7 plt_7 ko_7 (T := TX7) (N := 9) rfl in_X7 0 (by decide) kF_X7_9 rfl rfl dX7_readRace_46 49 rfl ?_
        refine w_getV (v := .int (rd m_6 2 7)) X 2 plt_2 ko_2 (T := TX9) (N := 13) rfl in_X9 7 (by decide) kF_X7_54 rfl rfl dX7_readRace_49 52 rfl ?_
        refine w_iconst X 5 dX7_readRace_52 rfl 53 rfl ?_
        refine w_icmp_ne X hF 58 56 dX7_readRace_53 (by decide) rfl (fun hF => ?_) (fun hF => ?_)
        · refine w_iconst X 1 dX7_readRace_56 rfl 57 rfl ?_
          exact w_iret X hQ (o_inj1 hF) (o_inj2 hF) rfl dX7_readRace_57
        · refine w_aload_n X 0 dX7_readRace_58 rfl rfl 59 rfl ?_
          refine w_callVi (fun x => x.1) (fun x => x.2) X hZ hF [] 7 plt_7 ko_7 rfl rfl rfl kB_X7_readStatement kL_X7_57 (fun res h => ct_X7_readStatement l hZ hO fu m_6 res h) rfl rfl rfl ⟨Nat.le_of_ble_eq_true rfl, Nat.le_of_ble_eq_true rfl⟩ (Nat.le_of_ble_eq_true rfl) ⟨Nat.zero_le _, Nat.zero_le _⟩ dX7_readRace_59 62 rfl (fun p_7 hF => ?_)
          refine w_if_ne X hF 67 65 dX7_readRace_62 (by decide) rfl (fun hF => ?_) (fun hF => ?_)
          · refine w_iconst X 0 dX7_readRace_65 rfl 66 rfl ?_
            exact w_iret X hQ (o_inj1 hF) (o_inj2 hF) rfl dX7_readRace_66
          · refine w_iinc X 1 (x1 + 1) [(1, .int (x1 + 1)), (0, .ref (ad 7))] dX7_readRace_67 rfl rfl (by decide) rfl 70 rfl ?_
            refine w_goto X 31 dX7_readRace_70 (by decide) ?_
            refine w_keep [1, 0] rfl ?_
            exact ih (x1 + 1) p_7.2 hF
  intro hF
  refine w_aload_n X 0 dX7_readRace_0 rfl rfl 1 rfl ?_
  refine w_getV (v := .ref (ad (pRace 1))) X 7 plt_7 ko_7 (T := TX7) (N := 9) rfl in_X7 1 (by decide) kF_X7_15 rfl rfl dX7_readRace_1 4 rfl ?_
  refine w_callVv (fun m => m) X hZ hF [] (pRace 1) (lt_Race (by decide)) ko_Race rfl rfl rfl kB_X6_clear kL_X7_30 (fun res h => ct_X6_clear l hZ hO fu (by decide) mem res h) rfl rfl rfl ⟨Nat.le_of_ble_eq_true rfl, Nat.le_of_ble_eq_true rfl⟩ (Nat.le_of_ble_eq_true rfl) ⟨Nat.zero_le _, Nat.zero_le _⟩ dX7_readRace_4 7 rfl (fun m_1 hF => ?_)
  refine w_aload_n X 0 dX7_readRace_7 rfl rfl 8 rfl ?_
  refine w_iconst X 0 dX7_readRace_8 rfl 9 rfl ?_
  refine w_putI X 7 plt_7 ko_7 (T := TX7) (N := 9) rfl in_X7 tyX7 tyX7_ok nmX7 5 (by decide) kF_X7_35 rfl rfl rfl rfl (Nat.le_of_ble_eq_true rfl) rfl dX7_readRace_9 12 rfl ?_
  refine w_letm hF (fun m_2 hF => ?_)
  refine w_aload_n X 0 dX7_readRace_12 rfl rfl 13 rfl ?_
  refine w_iconst X 0 dX7_readRace_13 rfl 14 rfl ?_
  refine w_putI X 7 plt_7 ko_7 (T := TX7) (N := 9) rfl in_X7 tyX7 tyX7_ok nmX7 6 (by decide) kF_X7_39 rfl rfl rfl rfl (Nat.le_of_ble_eq_true rfl) rfl dX7_readRace_14 17 rfl ?_
  refine w_letm hF (fun m_3 hF => ?_)
  refine w_aload_n X 0 dX7_readRace_17 rfl rfl 18 rfl ?_
  refine w_iconst X 5 dX7_readRace_18 rfl 19 rfl ?_
  refine w_putI X 7 plt_7 ko_7 (T := TX7) (N := 9) rfl in_X7 tyX7 tyX7_ok nmX7 7 (by decide) kF_X7_42 rfl rfl rfl rfl (Nat.le_of_ble_eq_true rfl) rfl dX7_readRace_19 22 rfl ?_
  refine w_letm hF (fun m_4 hF => ?_)
  refine w_aload_n X 0 dX7_readRace_22 rfl rfl 23 rfl ?_
  refine w_getV (v := .ref (ad 2)) X 7 plt_7 ko_7 (T := TX7) (N := 9) rfl in_X7 0 (by decide) kF_X7_9 rfl rfl dX7_readRace_23 26 rfl ?_
  refine w_callVv (fun m => m) X hZ hF [] 2 plt_2 ko_2 rfl rfl rfl kB_X9_begin kL_X7_46 (fun res h => ct_X9_begin l hZ hO fu m_4 res h) rfl rfl rfl ⟨Nat.le_of_ble_eq_true rfl, Nat.le_of_ble_eq_true rfl⟩ (Nat.le_of_ble_eq_true rfl) ⟨Nat.zero_le _, Nat.zero_le _⟩ dX7_readRace_26 29 rfl (fun m_5 hF => ?_)
  refine w_iconst X 0 dX7_readRace_29 rfl 30 rfl ?_
  refine w_istore_n X [(1, .int 0), (0, .ref (ad 7))] dX7_readRace_30 rfl (by decide) rfl 31 rfl ?_
  refine w_keep [1, 0] rfl ?_
  exact w_31 fu 0 m_5 hF

def K_X3_forget (fu : Nat) (mem : Mem) : Option Mem := lt_ (mw mem 33 2 0) (fun m_1 => some m_1)
def rm_X3_forget : Room := { frames := 0, cells := 0, slots := 0, locals := 0 }
set_option maxHeartbeats 4000000 in
set_option maxRecDepth 100000 in
theorem ct_X3_forget (l : Launch) {D : va_G} {ca ad : Nat → Nat} {Z : (Nat → Prop) → State → Heap → Prop} (hZ : ZOK Z) {tO : Nat} {sK sV : Nat → Nat} (hO : ZO Z tO sK sV) (fu : Nat) (mem : Mem) (res : Mem) (hF : K_X3_forget fu mem = some res) : CV l D (tyL ca) 255 ad (cC ca ad) Z yX3_forget cX3_forget 1 rm_X3_forget [.ref (ad 33)] mem res := by
  refine start_v (own := RX3) rfl (by decide) (Nat.le_of_ble_eq_true rfl) ?_
  intro p e s m args below meth c Q hQ X
  rw [K_X3_forget] at hF
  revert hF
  intro hF
  refine w_aload_n X 0 dX3_forget_0 rfl rfl 1 rfl ?_
  refine w_iconst X 0 dX3_forget_1 rfl 2 rfl ?_
  refine w_putI X 33 plt_33 ko_33 (T := TX3) (N := 3) rfl in_X3 tyX3 tyX3_ok nmX3 2 (by decide) kF_X3_26 rfl rfl rfl rfl (Nat.le_of_ble_eq_true rfl) rfl dX3_forget_2 5 rfl ?_
  refine w_letm hF (fun m_1 hF => ?_)
  exact w_vret X hQ (o_inj hF) dX3_forget_5

def K_X11_regions (fu : Nat) (mem : Mem) : Option (Int32 × Mem) := bd (K_X10_countRegions fu 1 0 mem) (fun p_1 => some (p_1.1, p_1.2))
def rm_X11_regions : Room := { frames := 2, cells := 0, slots := 0, locals := 51 }
set_option maxHeartbeats 4000000 in
set_option maxRecDepth 100000 in
theorem ct_X11_regions (l : Launch) {D : va_G} {ca ad : Nat → Nat} {Z : (Nat → Prop) → State → Heap → Prop} (hZ : ZOK Z) {tO : Nat} {sK sV : Nat → Nat} (hO : ZO Z tO sK sV) (fu : Nat) (mem : Mem) (res : (Int32 × Mem)) (hF : K_X11_regions fu mem = some res) : CI l D (tyL ca) 255 ad (cC ca ad) Z yX11_regions cX11_regions 1 .int rm_X11_regions [.ref (ad 0)] mem res.1 res.2 := by
  refine start_i (own := RX11) rfl (by decide) (Nat.le_of_ble_eq_true rfl) ?_
  intro p e s m args below meth c Q hQ X
  rw [K_X11_regions] at hF
  revert hF
  intro hF
  refine w_aload_n X 0 dX11_regions_0 rfl rfl 1 rfl ?_
  refine w_getV (v := .ref (ad (pWays 1))) X 0 plt_0 ko_0 (T := TX11) (N := 14) rfl in_X11 4 (by decide) kF_X11_26 rfl rfl dX11_regions_1 4 rfl ?_
  refine w_aload_n X 0 dX11_regions_4 rfl rfl 5 rfl ?_
  refine w_getV (v := .ref (ad (pRace 0))) X 0 plt_0 ko_0 (T := TX11) (N := 14) rfl in_X11 6 (by decide) kF_X11_40 rfl rfl dX11_regions_5 8 rfl ?_
  refine w_getV (v := .ref (ad (pBoard 0))) X (pRace 0) (lt_Race (by decide)) ko_Race (T := TX6) (N := 8) rfl in_X6 0 (by decide) kF_X11_143 rfl rfl dX11_regions_8 11 rfl ?_
  refine w_callVi (fun x => x.1) (fun x => x.2) X hZ hF [.ref (ad (pBoard 0))] (pWays 1) (lt_Ways (by decide)) (ko_Ways (by decide)) rfl rfl rfl kB_X10_countRegions kL_X11_238 (fun res h => ct_X10_countRegions l hZ hO fu (by decide) (by decide) mem res h) rfl rfl rfl ⟨Nat.le_of_ble_eq_true rfl, Nat.le_of_ble_eq_true rfl⟩ (Nat.le_of_ble_eq_true rfl) ⟨Nat.zero_le _, Nat.zero_le _⟩ dX11_regions_11 14 rfl (fun p_1 hF => ?_)
  exact w_iret X hQ (o_inj1 hF) (o_inj2 hF) rfl dX11_regions_14

def K_X11_writeByte (fu : Nat) (x1 : Int32) (mem : Mem) : Option Mem := (if (rd mem 0 13) < 283 then gi (rd mem 0 13) 283 (lt_ (mw mem 1 (Int32.toNatClampNeg (rd mem 0 13)) (vp_nar .byte (Int8.toInt32 (Int32.toInt8 x1)))) (fun m_2 => lt_ (mw m_2 0 13 ((rd m_2 0 13) + 1)) (fun m_3 => some m_3))) else some mem)
def rm_X11_writeByte : Room := { frames := 0, cells := 0, slots := 0, locals := 0 }
set_option maxHeartbeats 4000000 in
set_option maxRecDepth 100000 in
theorem ct_X11_writeByte (l : Launch) {D : va_G} {ca ad : Nat → Nat} {Z : (Nat → Prop) → State → Heap → Prop} (hZ : ZOK Z) {tO : Nat} {sK sV : Nat → Nat} (hO : ZO Z tO sK sV) (fu : Nat) (x1 : Int32) (mem : Mem) (res : Mem) (hF : K_X11_writeByte fu x1 mem = some res) : CV l D (tyL ca) 255 ad (cC ca ad) Z yX11_writeByte cX11_writeByte 2 rm_X11_writeByte [.ref (ad 0), .int x1] mem res := by
  refine start_v (own := RX11) rfl (by decide) (Nat.le_of_ble_eq_true rfl) ?_
  intro p e s m args below meth c Q hQ X
  rw [K_X11_writeByte] at hF
  revert hF
  intro hF
  refine w_aload_n X 0 dX11_writeByte_0 rfl rfl 1 rfl ?_
  refine w_getV (v := .int (rd mem 0 13)) X 0 plt_0 ko_0 (T := TX11) (N := 14) rfl in_X11 13 (by decide) kF_X11_86 rfl rfl dX11_writeByte_1 4 rfl ?_
  refine w_aload_n X 0 dX11_writeByte_4 rfl rfl 5 rfl ?_
  refine w_getV (v := .ref (ad 1)) X 0 plt_0 ko_0 (T := TX11) (N := 14) rfl in_X11 12 (by decide) kF_X11_82 rfl rfl dX11_writeByte_5 8 rfl ?_
  refine w_alen X 1 plt_1 283 (ko_1 _) (t0 := 1) rfl rfl dX11_writeByte_8 9 rfl ?_
  refine w_icmp_ge X hF 33 12 dX11_writeByte_9 (by decide) rfl (fun hF => ?_) (fun hF => ?_)
  · refine w_aload_n X 0 dX11_writeByte_12 rfl rfl 13 rfl ?_
    refine w_getV (v := .ref (ad 1)) X 0 plt_0 ko_0 (T := TX11) (N := 14) rfl in_X11 12 (by decide) kF_X11_82 rfl rfl dX11_writeByte_13 16 rfl ?_
    refine w_aload_n X 0 dX11_writeByte_16 rfl rfl 17 rfl ?_
    refine w_getV (v := .int (rd mem 0 13)) X 0 plt_0 ko_0 (T := TX11) (N := 14) rfl in_X11 13 (by decide) kF_X11_86 rfl rfl dX11_writeByte_17 20 rfl ?_
    refine w_iload_n X 1 dX11_writeByte_20 rfl rfl 21 rfl ?_
    refine w_i2b X dX11_writeByte_21 22 rfl ?_
    refine w_gi hF (fun h_1 hF => ?_)
    refine w_bas X 1 plt_1 ko_1 (t0 := 1) rfl h_1 dX11_writeByte_22 23 rfl ?_
    refine w_letm hF (fun m_2 hF => ?_)
    refine w_aload_n X 0 dX11_writeByte_23 rfl rfl 24 rfl ?_
    refine w_dup X dX11_writeByte_24 rfl 25 rfl ?_
    refine w_getV (v := .int (rd m_2 0 13)) X 0 plt_0 ko_0 (T := TX11) (N := 14) rfl in_X11 13 (by decide) kF_X11_86 rfl rfl dX11_writeByte_25 28 rfl ?_
    refine w_iconst X 1 dX11_writeByte_28 rfl 29 rfl ?_
    refine w_iadd X dX11_writeByte_29 30 rfl ?_
    refine w_putI X 0 plt_0 ko_0 (T := TX11) (N := 14) rfl in_X11 tyX11 tyX11_ok nmX11 13 (by decide) kF_X11_86 rfl rfl rfl rfl (Nat.le_of_ble_eq_true rfl) rfl dX11_writeByte_30 33 rfl ?_
    refine w_letm hF (fun m_3 hF => ?_)
    exact w_vret X hQ (o_inj hF) dX11_writeByte_33
  · exact w_vret X hQ (o_inj hF) dX11_writeByte_33

def K_X11_writeWall_30 (fu : Nat) (x1 : Int32) (x2 : Int32) (xs0 : Int32) (mem : Mem) : Option Mem := bd (K_X11_writeByte fu xs0 mem) (fun m_2 => bd (K_X11_writeByte fu (48 + x1) m_2) (fun m_3 => bd (K_X11_writeByte fu (48 + x2) m_3) (fun m_4 => some m_4)))
def K_X11_writeWall (fu : Nat) (x1 : Int32) (x2 : Int32) (mem : Mem) : Option Mem := bd (K_X2_wallOn fu 0 x1 x2 mem) (fun x_1 => (if x_1 = (-1) then some mem else (if x_1 = 0 then (K_X11_writeWall_30 fu x1 x2 45 mem) else (K_X11_writeWall_30 fu x1 x2 124 mem))))
def rm_X11_writeWall : Room := { frames := 1, cells := 0, slots := 0, locals := 23 }
set_option maxHeartbeats 4000000 in
set_option maxRecDepth 100000 in
theorem ct_X11_writeWall (l : Launch) {D : va_G} {ca ad : Nat → Nat} {Z : (Nat → Prop) → State → Heap → Prop} (hZ : ZOK Z) {tO : Nat} {sK sV : Nat → Nat} (hO : ZO Z tO sK sV) (fu : Nat) (x1 : Int32) (x2 : Int32) (mem : Mem) (res : Mem) (hF : K_X11_writeWall fu x1 x2 mem = some res) : CV l D (tyL ca) 255 ad (cC ca ad) Z yX11_writeWall cX11_writeWall 4 rm_X11_writeWall [.ref (ad 0), .int x1, .int x2] mem res := by
  refine start_v (own := RX11) rfl (by decide) (Nat.le_of_ble_eq_true rfl) ?_
  intro p e s m args below meth c Q hQ X
  rw [K_X11_writeWall] at hF
  revert hF
  have w_30 : ∀ (x1 : Int32) (x2 : Int32) (xs0 : Int32) (mem : Mem), K_X11_writeWall_30 fu x1 x2 xs0 mem = some res → WW D 255 ad (cC ca ad) p l e rm_X11_writeWall s m args below meth c 4 0 0 Q mem 30 [(0, .ref (ad 0)), (1, .int x1), (2, .int x2)] [.int xs0, .ref (ad 0)] := by
    intro x1 x2 xs0 mem hF
    rw [K_X11_writeWall_30] at hF
    refine w_callVv (fun m => m) X hZ hF [.int xs0] 0 plt_0 ko_0 rfl rfl rfl kB_X11_writeByte kL_X11_344 (fun res h => ct_X11_writeByte l hZ hO fu xs0 mem res h) rfl rfl rfl ⟨Nat.le_of_ble_eq_true rfl, Nat.le_of_ble_eq_true rfl⟩ (Nat.le_of_ble_eq_true rfl) ⟨Nat.zero_le _, Nat.zero_le _⟩ dX11_writeWall_30 33 rfl (fun m_2 hF => ?_)
    refine w_aload_n X 0 dX11_writeWall_33 rfl rfl 34 rfl ?_
    refine w_bipush X 48 dX11_writeWall_34 rfl 36 rfl ?_
    refine w_iload_n X 1 dX11_writeWall_36 rfl rfl 37 rfl ?_
    refine w_iadd X dX11_writeWall_37 38 rfl ?_
    refine w_callVv (fun m => m) X hZ hF [.int (48 + x1)] 0 plt_0 ko_0 rfl rfl rfl kB_X11_writeByte kL_X11_344 (fun res h => ct_X11_writeByte l hZ hO fu (48 + x1) m_2 res h) rfl rfl rfl ⟨Nat.le_of_ble_eq_true rfl, Nat.le_of_ble_eq_true rfl⟩ (Nat.le_of_ble_eq_true rfl) ⟨Nat.zero_le _, Nat.zero_le _⟩ dX11_writeWall_38 41 rfl (fun m_3 hF => ?_)
    refine w_aload_n X 0 dX11_writeWall_41 rfl rfl 42 rfl ?_
    refine w_bipush X 48 dX11_writeWall_42 rfl 44 rfl ?_
    refine w_iload_n X 2 dX11_writeWall_44 rfl rfl 45 rfl ?_
    refine w_iadd X dX11_writeWall_45 46 rfl ?_
    refine w_callVv (fun m => m) X hZ hF [.int (48 + x2)] 0 plt_0 ko_0 rfl rfl rfl kB_X11_writeByte kL_X11_344 (fun res h => ct_X11_writeByte l hZ hO fu (48 + x2) m_3 res h) rfl rfl rfl ⟨Nat.le_of_ble_eq_true rfl, Nat.le_of_ble_eq_true rfl⟩ (Nat.le_of_ble_eq_true rfl) ⟨Nat.zero_le _, Nat.zero_le _⟩ dX11_writeWall_46 49 rfl (fun m_4 hF => ?_)
    exact w_vret X hQ (o_inj hF) dX11_writeWall_49
  intro hF
  refine w_aload_n X 0 dX11_writeWall_0 rfl rfl 1 rfl ?_
  refine w_getV (v := .ref (ad (pRace 0))) X 0 plt_0 ko_0 (T := TX11) (N := 14) rfl in_X11 6 (by decide) kF_X11_40 rfl rfl dX11_writeWall_1 4 rfl ?_
  refine w_getV (v := .ref (ad (pBoard 0))) X (pRace 0) (lt_Race (by decide)) ko_Race (T := TX6) (N := 8) rfl in_X6 0 (by decide) kF_X11_143 rfl rfl dX11_writeWall_4 7 rfl ?_
  refine w_iload_n X 1 dX11_writeWall_7 rfl rfl 8 rfl ?_
  refine w_iload_n X 2 dX11_writeWall_8 rfl rfl 9 rfl ?_
  refine w_callVi (fun x => x) (fun _ => mem) X hZ hF [.int x1, .int x2] (pBoard 0) (lt_Board (by decide)) ko_Board rfl rfl rfl kB_X2_wallOn kL_X11_220 (fun res h => ct_X2_wallOn l hZ hO fu (by decide) x1 x2 mem res h) rfl rfl rfl ⟨Nat.le_of_ble_eq_true rfl, Nat.le_of_ble_eq_true rfl⟩ (Nat.le_of_ble_eq_true rfl) ⟨Nat.zero_le _, Nat.zero_le _⟩ dX11_writeWall_9 12 rfl (fun x_1 hF => ?_)
  refine w_istore_n X [(3, .int x_1), (0, .ref (ad 0)), (1, .int x1), (2, .int x2)] dX11_writeWall_12 rfl (by decide) rfl 13 rfl ?_
  refine w_iload_n X 0 dX11_writeWall_13 rfl rfl 14 rfl ?_
  refine w_iconst X (-1) dX11_writeWall_14 rfl 15 rfl ?_
  refine w_icmp_eq X hF 49 18 dX11_writeWall_15 (by decide) rfl (fun hF => ?_) (fun hF => ?_)
  · exact w_vret X hQ (o_inj hF) dX11_writeWall_49
  · refine w_aload_n X 1 dX11_writeWall_18 rfl rfl 19 rfl ?_
    refine w_iload_n X 0 dX11_writeWall_19 rfl rfl 20 rfl ?_
    refine w_if_ne X hF 28 23 dX11_writeWall_20 (by decide) rfl (fun hF => ?_) (fun hF => ?_)
    · refine w_bipush X 45 dX11_writeWall_23 rfl 25 rfl ?_
      refine w_goto X 30 dX11_writeWall_25 (by decide) ?_
      refine w_keep [1, 2, 3] rfl ?_
      exact w_30 x1 x2 45 mem hF
    · refine w_bipush X 124 dX11_writeWall_28 rfl 30 rfl ?_
      refine w_keep [1, 2, 3] rfl ?_
      exact w_30 x1 x2 124 mem hF

def K_X11_report_108 (fu : Nat) (k_90 : Int32 → Mem → Option (Int32 × Mem)) : Nat → Int32 → Int32 → Mem → Option (Int32 × Mem)
  | 0, _, _, _ => none
  | n + 1, x1, x2, mem => (if x2 < ((rd mem (pBoard 0) 0) - 1) then bd (K_X11_writeWall fu x2 x1 mem) (fun m_6 => (K_X11_report_108 fu k_90 n x1 (x2 + 1) m_6)) else (k_90 (x1 + 1) mem))
def K_X11_report_90 (fu : Nat) : Nat → Int32 → Mem → Option (Int32 × Mem)
  | 0, _, _ => none
  | n + 1, x1, mem => (if x1 < ((rd mem (pBoard 0) 1) - 1) then (K_X11_report_108 fu (K_X11_report_90 fu n) fu x1 0 mem) else bd (K_X11_writeByte fu 10 mem) (fun m_3 => some ((rd m_3 0 13), m_3)))
def K_X11_report_67 (fu : Nat) (k_18 : Int32 → Mem → Option (Int32 × Mem)) (k_24 : Int32 → Int32 → Mem → Option (Int32 × Mem)) (x1 : Int32) (x2 : Int32) (xs0 : Int32) (mem : Mem) : Option (Int32 × Mem) := bd (K_X11_writeByte fu xs0 mem) (fun m_7 => (k_24 x1 (x2 + 1) m_7))
def K_X11_report_24 (fu : Nat) (k_18 : Int32 → Mem → Option (Int32 × Mem)) : Nat → Int32 → Int32 → Mem → Option (Int32 × Mem)
  | 0, _, _, _ => none
  | n + 1, x1, x2, mem => (if x2 < (rd mem (pBoard 0) 0) then bd (K_X6_pawnOn fu 0 ((x1 * 9) + x2) mem) (fun x_4 => (if x_4 = (-1) then (K_X11_report_67 fu k_18 (K_X11_report_24 fu k_18 n) x1 x2 46 mem) else (K_X11_report_67 fu k_18 (K_X11_report_24 fu k_18 n) x1 x2 (48 + x_4) mem))) else bd (K_X11_writeByte fu 10 mem) (fun m_5 => (k_18 (x1 + (-1)) m_5)))
def K_X11_report_18 (fu : Nat) : Nat → Int32 → Mem → Option (Int32 × Mem)
  | 0, _, _ => none
  | n + 1, x1, mem => (if x1 < 0 then (K_X11_report_90 fu fu 0 mem) else (K_X11_report_24 fu (K_X11_report_18 fu n) fu x1 0 mem))
def K_X11_report (fu : Nat) (mem : Mem) : Option (Int32 × Mem) := lt_ (mw mem 0 13 0) (fun m_1 => lt_ ((rd m_1 (pBoard 0) 1) - 1) (fun x_2 => (K_X11_report_18 fu fu x_2 m_1)))
def rm_X11_report : Room := { frames := 2, cells := 0, slots := 0, locals := 46 }
set_option maxHeartbeats 4000000 in
set_option maxRecDepth 100000 in
theorem ct_X11_report (l : Launch) {D : va_G} {ca ad : Nat → Nat} {Z : (Nat → Prop) → State → Heap → Prop} (hZ : ZOK Z) {tO : Nat} {sK sV : Nat → Nat} (hO : ZO Z tO sK sV) (fu : Nat) (mem : Mem) (res : (Int32 × Mem)) (hF : K_X11_report fu mem = some res) : CI l D (tyL ca) 255 ad (cC ca ad) Z yX11_report cX11_report 4 .int rm_X11_report [.ref (ad 0)] mem res.1 res.2 := by
  refine start_i (own := RX11) rfl (by decide) (Nat.le_of_ble_eq_true rfl) ?_
  intro p e s m args below meth c Q hQ X
  rw [K_X11_report] at hF
  revert hF
  have w_108 : ∀ (k_90 : Int32 → Mem → Option (Int32 × Mem)) (hk_90 : ∀ (x1 : Int32) (mem : Mem), k_90 x1 mem = some res → WW D 255 ad (cC ca ad) p l e rm_X11_report s m args below meth c 4 0 0 Q mem 90 [(0, .ref (ad 0)), (1, .int x1)] []) (n : Nat) (x1 : Int32) (x2 : Int32) (mem : Mem), K_X11_report_108 fu k_90 n x1 x2 mem = some res → WW D 255 ad (cC ca ad) p l e rm_X11_report s m args below meth c 4 0 0 Q mem 108 [(0, .ref (ad 0)), (1, .int x1), (2, .int x2)] [] := by
    intro k_90 hk_90 n
    induction n with
    | zero => intro x1 x2 mem hF; exact no_none (show (none : Option (Int32 × Mem)) = some res from hF)
    | succ n ih =>
      intro x1 x2 mem hF
      rw [K_X11_report_108] at hF
      refine w_iload_n X 2 dX11_report_108 rfl rfl 109 rfl ?_
      refine w_aload_n X 0 dX11_report_109 rfl rfl 110 rfl ?_
      refine w_getV (v := .ref (ad (pRace 0))) X 0 plt_0 ko_0 (T := TX11) (N := 14) rfl in_X11 6 (by decide) kF_X11_40 rfl rfl dX11_report_110 113 rfl ?_
      refine w_getV (v := .ref (ad (pBoard 0))) X (pRace 0) (lt_Race (by decide)) ko_Race (T := TX6) (N := 8) rfl in_X6 0 (by decide) kF_X11_143 rfl rfl dX11_report_113 116 rfl ?_
      refine w_getV (v := .int (rd mem (pBoard 0) 0)) X (pBoard 0) (lt_Board (by decide)) ko_Board (T := TX2) (N := 5) rfl in_X2 0 (by decide) kF_X11_147 rfl rfl dX11_report_116 119 rfl ?_
      refine w_iconst X 1 dX11_report_119 rfl 120 rfl ?_
      refine w_isub X dX11_report_120 121 rfl ?_
      refine w_icmp_ge X hF 136 124 dX11_report_121 (by decide) rfl (fun hF => ?_) (fun hF => ?_)
      · refine w_aload_n X 0 dX11_report_124 rfl rfl 125 rfl ?_
        refine w_iload_n X 2 dX11_report_125 rfl rfl 126 rfl ?_
        refine w_iload_n X 1 dX11_report_126 rfl rfl 127 rfl ?_
        refine w_callVv (fun m => m) X hZ hF [.int x2, .int x1] 0 plt_0 ko_0 rfl rfl rfl kB_X11_writeWall kL_X11_347 (fun res h => ct_X11_writeWall l hZ hO fu x2 x1 mem res h) rfl rfl rfl ⟨Nat.le_of_ble_eq_true rfl, Nat.le_of_ble_eq_true rfl⟩ (Nat.le_of_ble_eq_true rfl) ⟨Nat.zero_le _, Nat.zero_le _⟩ dX11_report_127 130 rfl (fun m_6 hF => ?_)
        refine w_iinc X 2 (x2 + 1) [(2, .int (x2 + 1)), (0, .ref (ad 0)), (1, .int x1)] dX11_report_130 rfl rfl (by decide) rfl 133 rfl ?_
        refine w_goto X 108 dX11_report_133 (by decide) ?_
        refine w_keep [1, 2, 0] rfl ?_
        exact ih x1 (x2 + 1) m_6 hF
      · refine w_iinc X 1 (x1 + 1) [(1, .int (x1 + 1)), (0, .ref (ad 0)), (2, .int x2)] dX11_report_136 rfl rfl (by decide) rfl 139 rfl ?_
        refine w_goto X 90 dX11_report_139 (by decide) ?_
        refine w_keep [1, 0] rfl ?_
        exact hk_90 (x1 + 1) mem hF
  have w_90 : ∀ (n : Nat) (x1 : Int32) (mem : Mem), K_X11_report_90 fu n x1 mem = some res → WW D 255 ad (cC ca ad) p l e rm_X11_report s m args below meth c 4 0 0 Q mem 90 [(0, .ref (ad 0)), (1, .int x1)] [] := by
    intro n
    induction n with
    | zero => intro x1 mem hF; exact no_none (show (none : Option (Int32 × Mem)) = some res from hF)
    | succ n ih =>
      intro x1 mem hF
      rw [K_X11_report_90] at hF
      refine w_iload_n X 1 dX11_report_90 rfl rfl 91 rfl ?_
      refine w_aload_n X 0 dX11_report_91 rfl rfl 92 rfl ?_
      refine w_getV (v := .ref (ad (pRace 0))) X 0 plt_0 ko_0 (T := TX11) (N := 14) rfl in_X11 6 (by decide) kF_X11_40 rfl rfl dX11_report_92 95 rfl ?_
      refine w_getV (v := .ref (ad (pBoard 0))) X (pRace 0) (lt_Race (by decide)) ko_Race (T := TX6) (N := 8) rfl in_X6 0 (by decide) kF_X11_143 rfl rfl dX11_report_95 98 rfl ?_
      refine w_getV (v := .int (rd mem (pBoard 0) 1)) X (pBoard 0) (lt_Board (by decide)) ko_Board (T := TX2) (N := 5) rfl in_X2 1 (by decide) kF_X11_152 rfl rfl dX11_report_98 101 rfl ?_
      refine w_iconst X 1 dX11_report_101 rfl 102 rfl ?_
      refine w_isub X dX11_report_102 103 rfl ?_
      refine w_icmp_ge X hF 142 106 dX11_report_103 (by decide) rfl (fun hF => ?_) (fun hF => ?_)
      · refine w_iconst X 0 dX11_report_106 rfl 107 rfl ?_
        refine w_istore_n X [(2, .int 0), (0, .ref (ad 0)), (1, .int x1)] dX11_report_107 rfl (by decide) rfl 108 rfl ?_
        refine w_keep [1, 2, 0] rfl ?_
        exact w_108 (K_X11_report_90 fu n) ih fu x1 0 mem hF
      · refine w_aload_n X 0 dX11_report_142 rfl rfl 143 rfl ?_
        refine w_bipush X 10 dX11_report_143 rfl 145 rfl ?_
        refine w_callVv (fun m => m) X hZ hF [.int 10] 0 plt_0 ko_0 rfl rfl rfl kB_X11_writeByte kL_X11_344 (fun res h => ct_X11_writeByte l hZ hO fu 10 mem res h) rfl rfl rfl ⟨Nat.le_of_ble_eq_true rfl, Nat.le_of_ble_eq_true rfl⟩ (Nat.le_of_ble_eq_true rfl) ⟨Nat.zero_le _, Nat.zero_le _⟩ dX11_report_145 148 rfl (fun m_3 hF => ?_)
        refine w_aload_n X 0 dX11_report_148 rfl rfl 149 rfl ?_
        refine w_getV (v := .int (rd m_3 0 13)) X 0 plt_0 ko_0 (T := TX11) (N := 14) rfl in_X11 13 (by decide) kF_X11_86 rfl rfl dX11_report_149 152 rfl ?_
        exact w_iret X hQ (o_inj1 hF) (o_inj2 hF) rfl dX11_report_152
  have w_67 : ∀ (k_18 : Int32 → Mem → Option (Int32 × Mem)) (hk_18 : ∀ (x1 : Int32) (mem : Mem), k_18 x1 mem = some res → WW D 255 ad (cC ca ad) p l e rm_X11_report s m args below meth c 4 0 0 Q mem 18 [(0, .ref (ad 0)), (1, .int x1)] []) (k_24 : Int32 → Int32 → Mem → Option (Int32 × Mem)) (hk_24 : ∀ (x1 : Int32) (x2 : Int32) (mem : Mem), k_24 x1 x2 mem = some res → WW D 255 ad (cC ca ad) p l e rm_X11_report s m args below meth c 4 0 0 Q mem 24 [(0, .ref (ad 0)), (1, .int x1), (2, .int x2)] []) (x1 : Int32) (x2 : Int32) (xs0 : Int32) (mem : Mem), K_X11_report_67 fu k_18 k_24 x1 x2 xs0 mem = some res → WW D 255 ad (cC ca ad) p l e rm_X11_report s m args below meth c 4 0 0 Q mem 67 [(0, .ref (ad 0)), (1, .int x1), (2, .int x2)] [.int xs0, .ref (ad 0)] := by
    intro k_18 hk_18 k_24 hk_24 x1 x2 xs0 mem hF
    rw [K_X11_report_67] at hF
    refine w_callVv (fun m => m) X hZ hF [.int xs0] 0 plt_0 ko_0 rfl rfl rfl kB_X11_writeByte kL_X11_344 (fun res h => ct_X11_writeByte l hZ hO fu xs0 mem res h) rfl rfl rfl ⟨Nat.le_of_ble_eq_true rfl, Nat.le_of_ble_eq_true rfl⟩ (Nat.le_of_ble_eq_true rfl) ⟨Nat.zero_le _, Nat.zero_le _⟩ dX11_report_67 70 rfl (fun m_7 hF => ?_)
    refine w_iinc X 2 (x2 + 1) [(2, .int (x2 + 1)), (0, .ref (ad 0)), (1, .int x1)] dX11_report_70 rfl rfl (by decide) rfl 73 rfl ?_
    refine w_goto X 24 dX11_report_73 (by decide) ?_
    refine w_keep [1, 2, 0] rfl ?_
    exact hk_24 x1 (x2 + 1) m_7 hF
  have w_24 : ∀ (k_18 : Int32 → Mem → Option (Int32 × Mem)) (hk_18 : ∀ (x1 : Int32) (mem : Mem), k_18 x1 mem = some res → WW D 255 ad (cC ca ad) p l e rm_X11_report s m args below meth c 4 0 0 Q mem 18 [(0, .ref (ad 0)), (1, .int x1)] []) (n : Nat) (x1 : Int32) (x2 : Int32) (mem : Mem), K_X11_report_24 fu k_18 n x1 x2 mem = some res → WW D 255 ad (cC ca ad) p l e rm_X11_report s m args below meth c 4 0 0 Q mem 24 [(0, .ref (ad 0)), (1, .int x1), (2, .int x2)] [] := by
    intro k_18 hk_18 n
    induction n with
    | zero => intro x1 x2 mem hF; exact no_none (show (none : Option (Int32 × Mem)) = some res from hF)
    | succ n ih =>
      intro x1 x2 mem hF
      rw [K_X11_report_24] at hF
      refine w_iload_n X 2 dX11_report_24 rfl rfl 25 rfl ?_
      refine w_aload_n X 0 dX11_report_25 rfl rfl 26 rfl ?_
      refine w_getV (v := .ref (ad (pRace 0))) X 0 plt_0 ko_0 (T := TX11) (N := 14) rfl in_X11 6 (by decide) kF_X11_40 rfl rfl dX11_report_26 29 rfl ?_
      refine w_getV (v := .ref (ad (pBoard 0))) X (pRace 0) (lt_Race (by decide)) ko_Race (T := TX6) (N := 8) rfl in_X6 0 (by decide) kF_X11_143 rfl rfl dX11_report_29 32 rfl ?_
      refine w_getV (v := .int (rd mem (pBoard 0) 0)) X (pBoard 0) (lt_Board (by decide)) ko_Board (T := TX2) (N := 5) rfl in_X2 0 (by decide) kF_X11_147 rfl rfl dX11_report_32 35 rfl ?_
      refine w_icmp_ge X hF 76 38 dX11_report_35 (by decide) rfl (fun hF => ?_) (fun hF => ?_)
      · refine w_aload_n X 0 dX11_report_38 rfl rfl 39 rfl ?_
        refine w_getV (v := .ref (ad (pRace 0))) X 0 plt_0 ko_0 (T := TX11) (N := 14) rfl in_X11 6 (by decide) kF_X11_40 rfl rfl dX11_report_39 42 rfl ?_
        refine w_iload_n X 1 dX11_report_42 rfl rfl 43 rfl ?_
        refine w_bipush X 9 dX11_report_43 rfl 45 rfl ?_
        refine w_imul X dX11_report_45 46 rfl ?_
        refine w_iload_n X 2 dX11_report_46 rfl rfl 47 rfl ?_
        refine w_iadd X dX11_report_47 48 rfl ?_
        refine w_callVi (fun x => x) (fun _ => mem) X hZ hF [.int ((x1 * 9) + x2)] (pRace 0) (lt_Race (by decide)) ko_Race rfl rfl rfl kB_X6_pawnOn kL_X11_211 (fun res h => ct_X6_pawnOn l hZ hO fu (by decide) ((x1 * 9) + x2) mem res h) rfl rfl rfl ⟨Nat.le_of_ble_eq_true rfl, Nat.le_of_ble_eq_true rfl⟩ (Nat.le_of_ble_eq_true rfl) ⟨Nat.zero_le _, Nat.zero_le _⟩ dX11_report_48 51 rfl (fun x_4 hF => ?_)
        refine w_istore_n X [(3, .int x_4), (0, .ref (ad 0)), (1, .int x1), (2, .int x2)] dX11_report_51 rfl (by decide) rfl 52 rfl ?_
        refine w_aload_n X 1 dX11_report_52 rfl rfl 53 rfl ?_
        refine w_iload_n X 0 dX11_report_53 rfl rfl 54 rfl ?_
        refine w_iconst X (-1) dX11_report_54 rfl 55 rfl ?_
        refine w_icmp_ne X hF 63 58 dX11_report_55 (by decide) rfl (fun hF => ?_) (fun hF => ?_)
        · refine w_bipush X 46 dX11_report_58 rfl 60 rfl ?_
          refine w_goto X 67 dX11_report_60 (by decide) ?_
          refine w_keep [1, 2, 3] rfl ?_
          exact w_67 k_18 hk_18 (K_X11_report_24 fu k_18 n) ih x1 x2 46 mem hF
        · refine w_bipush X 48 dX11_report_63 rfl 65 rfl ?_
          refine w_iload_n X 0 dX11_report_65 rfl rfl 66 rfl ?_
          refine w_iadd X dX11_report_66 67 rfl ?_
          refine w_keep [1, 2, 3] rfl ?_
          exact w_67 k_18 hk_18 (K_X11_report_24 fu k_18 n) ih x1 x2 (48 + x_4) mem hF
      · refine w_aload_n X 0 dX11_report_76 rfl rfl 77 rfl ?_
        refine w_bipush X 10 dX11_report_77 rfl 79 rfl ?_
        refine w_callVv (fun m => m) X hZ hF [.int 10] 0 plt_0 ko_0 rfl rfl rfl kB_X11_writeByte kL_X11_344 (fun res h => ct_X11_writeByte l hZ hO fu 10 mem res h) rfl rfl rfl ⟨Nat.le_of_ble_eq_true rfl, Nat.le_of_ble_eq_true rfl⟩ (Nat.le_of_ble_eq_true rfl) ⟨Nat.zero_le _, Nat.zero_le _⟩ dX11_report_79 82 rfl (fun m_5 hF => ?_)
        refine w_iinc X 1 (x1 + (-1)) [(1, .int (x1 + (-1))), (0, .ref (ad 0)), (2, .int x2)] dX11_report_82 rfl rfl (by decide) rfl 85 rfl ?_
        refine w_goto X 18 dX11_report_85 (by decide) ?_
        refine w_keep [1, 0] rfl ?_
        exact hk_18 (x1 + (-1)) m_5 hF
  have w_18 : ∀ (n : Nat) (x1 : Int32) (mem : Mem), K_X11_report_18 fu n x1 mem = some res → WW D 255 ad (cC ca ad) p l e rm_X11_report s m args below meth c 4 0 0 Q mem 18 [(0, .ref (ad 0)), (1, .int x1)] [] := by
    intro n
    induction n with
    | zero => intro x1 mem hF; exact no_none (show (none : Option (Int32 × Mem)) = some res from hF)
    | succ n ih =>
      intro x1 mem hF
      rw [K_X11_report_18] at hF
      refine w_iload_n X 1 dX11_report_18 rfl rfl 19 rfl ?_
      refine w_if_lt X hF 88 22 dX11_report_19 (by decide) rfl (fun hF => ?_) (fun hF => ?_)
      · refine w_iconst X 0 dX11_report_88 rfl 89 rfl ?_
        refine w_istore_n X [(1, .int 0), (0, .ref (ad 0))] dX11_report_89 rfl (by decide) rfl 90 rfl ?_
        refine w_keep [1, 0] rfl ?_
        exact w_90 fu 0 mem hF
      · refine w_iconst X 0 dX11_report_22 rfl 23 rfl ?_
        refine w_istore_n X [(2, .int 0), (0, .ref (ad 0)), (1, .int x1)] dX11_report_23 rfl (by decide) rfl 24 rfl ?_
        refine w_keep [1, 2, 0] rfl ?_
        exact w_24 (K_X11_report_18 fu n) ih fu x1 0 mem hF
  intro hF
  refine w_aload_n X 0 dX11_report_0 rfl rfl 1 rfl ?_
  refine w_iconst X 0 dX11_report_1 rfl 2 rfl ?_
  refine w_putI X 0 plt_0 ko_0 (T := TX11) (N := 14) rfl in_X11 tyX11 tyX11_ok nmX11 13 (by decide) kF_X11_86 rfl rfl rfl rfl (Nat.le_of_ble_eq_true rfl) rfl dX11_report_2 5 rfl ?_
  refine w_letm hF (fun m_1 hF => ?_)
  refine w_aload_n X 0 dX11_report_5 rfl rfl 6 rfl ?_
  refine w_getV (v := .ref (ad (pRace 0))) X 0 plt_0 ko_0 (T := TX11) (N := 14) rfl in_X11 6 (by decide) kF_X11_40 rfl rfl dX11_report_6 9 rfl ?_
  refine w_getV (v := .ref (ad (pBoard 0))) X (pRace 0) (lt_Race (by decide)) ko_Race (T := TX6) (N := 8) rfl in_X6 0 (by decide) kF_X11_143 rfl rfl dX11_report_9 12 rfl ?_
  refine w_getV (v := .int (rd m_1 (pBoard 0) 1)) X (pBoard 0) (lt_Board (by decide)) ko_Board (T := TX2) (N := 5) rfl in_X2 1 (by decide) kF_X11_152 rfl rfl dX11_report_12 15 rfl ?_
  refine w_iconst X 1 dX11_report_15 rfl 16 rfl ?_
  refine w_isub X dX11_report_16 17 rfl ?_
  refine w_let hF (fun x_2 hF => ?_)
  refine w_istore_n X [(1, .int x_2), (0, .ref (ad 0))] dX11_report_17 rfl (by decide) rfl 18 rfl ?_
  refine w_keep [1, 0] rfl ?_
  exact w_18 fu x_2 m_1 hF

def K_X8_addRow (fu : Nat) (x1 : Int32) (x2 : Int32) (x3 : Int32) (x4 : Int32) (mem : Mem) : Option Mem := (if (rd mem 10 6) < 60 then gi (rd mem 10 6) 60 (lt_ (mw mem 11 (Int32.toNatClampNeg (rd mem 10 6)) x1) (fun m_2 => gi (rd m_2 10 6) 60 (lt_ (mw m_2 12 (Int32.toNatClampNeg (rd m_2 10 6)) x2) (fun m_4 => gi (rd m_4 10 6) 60 (lt_ (mw m_4 13 (Int32.toNatClampNeg (rd m_4 10 6)) x3) (fun m_6 => gi (rd m_6 10 6) 60 (lt_ (mw m_6 14 (Int32.toNatClampNeg (rd m_6 10 6)) x4) (fun m_8 => lt_ (mw m_8 10 6 ((rd m_8 10 6) + 1)) (fun m_9 => some m_9))))))))) else some mem)
def rm_X8_addRow : Room := { frames := 0, cells := 0, slots := 0, locals := 0 }
set_option maxHeartbeats 4000000 in
set_option maxRecDepth 100000 in
theorem ct_X8_addRow (l : Launch) {D : va_G} {ca ad : Nat → Nat} {Z : (Nat → Prop) → State → Heap → Prop} (hZ : ZOK Z) {tO : Nat} {sK sV : Nat → Nat} (hO : ZO Z tO sK sV) (fu : Nat) (x1 : Int32) (x2 : Int32) (x3 : Int32) (x4 : Int32) (mem : Mem) (res : Mem) (hF : K_X8_addRow fu x1 x2 x3 x4 mem = some res) : CV l D (tyL ca) 255 ad (cC ca ad) Z yX8_addRow cX8_addRow 5 rm_X8_addRow [.ref (ad 10), .int x1, .int x2, .int x3, .int x4] mem res := by
  refine start_v (own := RX8) rfl (by decide) (Nat.le_of_ble_eq_true rfl) ?_
  intro p e s m args below meth c Q hQ X
  rw [K_X8_addRow] at hF
  revert hF
  intro hF
  refine w_aload_n X 0 dX8_addRow_0 rfl rfl 1 rfl ?_
  refine w_getV (v := .int (rd mem 10 6)) X 10 plt_10 ko_10 (T := TX8) (N := 10) rfl in_X8 6 (by decide) kF_X8_34 rfl rfl dX8_addRow_1 4 rfl ?_
  refine w_aload_n X 0 dX8_addRow_4 rfl rfl 5 rfl ?_
  refine w_getV (v := .ref (ad 11)) X 10 plt_10 ko_10 (T := TX8) (N := 10) rfl in_X8 1 (by decide) kF_X8_15 rfl rfl dX8_addRow_5 8 rfl ?_
  refine w_alen X 11 plt_11 60 (ko_11 _) (t0 := 0) rfl rfl dX8_addRow_8 9 rfl ?_
  refine w_icmp_ge X hF 63 12 dX8_addRow_9 (by decide) rfl (fun hF => ?_) (fun hF => ?_)
  · refine w_aload_n X 0 dX8_addRow_12 rfl rfl 13 rfl ?_
    refine w_getV (v := .ref (ad 11)) X 10 plt_10 ko_10 (T := TX8) (N := 10) rfl in_X8 1 (by decide) kF_X8_15 rfl rfl dX8_addRow_13 16 rfl ?_
    refine w_aload_n X 0 dX8_addRow_16 rfl rfl 17 rfl ?_
    refine w_getV (v := .int (rd mem 10 6)) X 10 plt_10 ko_10 (T := TX8) (N := 10) rfl in_X8 6 (by decide) kF_X8_34 rfl rfl dX8_addRow_17 20 rfl ?_
    refine w_iload_n X 1 dX8_addRow_20 rfl rfl 21 rfl ?_
    refine w_gi hF (fun h_1 hF => ?_)
    refine w_ias X 11 plt_11 ko_11 (t0 := 0) rfl h_1 dX8_addRow_21 22 rfl ?_
    refine w_letm hF (fun m_2 hF => ?_)
    refine w_aload_n X 0 dX8_addRow_22 rfl rfl 23 rfl ?_
    refine w_getV (v := .ref (ad 12)) X 10 plt_10 ko_10 (T := TX8) (N := 10) rfl in_X8 2 (by decide) kF_X8_19 rfl rfl dX8_addRow_23 26 rfl ?_
    refine w_aload_n X 0 dX8_addRow_26 rfl rfl 27 rfl ?_
    refine w_getV (v := .int (rd m_2 10 6)) X 10 plt_10 ko_10 (T := TX8) (N := 10) rfl in_X8 6 (by decide) kF_X8_34 rfl rfl dX8_addRow_27 30 rfl ?_
    refine w_iload_n X 2 dX8_addRow_30 rfl rfl 31 rfl ?_
    refine w_gi hF (fun h_3 hF => ?_)
    refine w_ias X 12 plt_12 ko_12 (t0 := 0) rfl h_3 dX8_addRow_31 32 rfl ?_
    refine w_letm hF (fun m_4 hF => ?_)
    refine w_aload_n X 0 dX8_addRow_32 rfl rfl 33 rfl ?_
    refine w_getV (v := .ref (ad 13)) X 10 plt_10 ko_10 (T := TX8) (N := 10) rfl in_X8 3 (by decide) kF_X8_22 rfl rfl dX8_addRow_33 36 rfl ?_
    refine w_aload_n X 0 dX8_addRow_36 rfl rfl 37 rfl ?_
    refine w_getV (v := .int (rd m_4 10 6)) X 10 plt_10 ko_10 (T := TX8) (N := 10) rfl in_X8 6 (by decide) kF_X8_34 rfl rfl dX8_addRow_37 40 rfl ?_
    refine w_iload_n X 3 dX8_addRow_40 rfl rfl 41 rfl ?_
    refine w_gi hF (fun h_5 hF => ?_)
    refine w_ias X 13 plt_13 ko_13 (t0 := 0) rfl h_5 dX8_addRow_41 42 rfl ?_
    refine w_letm hF (fun m_6 hF => ?_)
    refine w_aload_n X 0 dX8_addRow_42 rfl rfl 43 rfl ?_
    refine w_getV (v := .ref (ad 14)) X 10 plt_10 ko_10 (T := TX8) (N := 10) rfl in_X8 4 (by decide) kF_X8_25 rfl rfl dX8_addRow_43 46 rfl ?_
    refine w_aload_n X 0 dX8_addRow_46 rfl rfl 47 rfl ?_
    refine w_getV (v := .int (rd m_6 10 6)) X 10 plt_10 ko_10 (T := TX8) (N := 10) rfl in_X8 6 (by decide) kF_X8_34 rfl rfl dX8_addRow_47 50 rfl ?_
    refine w_iload X 4 dX8_addRow_50 rfl 52 rfl ?_
    refine w_gi hF (fun h_7 hF => ?_)
    refine w_ias X 14 plt_14 ko_14 (t0 := 0) rfl h_7 dX8_addRow_52 53 rfl ?_
    refine w_letm hF (fun m_8 hF => ?_)
    refine w_aload_n X 0 dX8_addRow_53 rfl rfl 54 rfl ?_
    refine w_dup X dX8_addRow_54 rfl 55 rfl ?_
    refine w_getV (v := .int (rd m_8 10 6)) X 10 plt_10 ko_10 (T := TX8) (N := 10) rfl in_X8 6 (by decide) kF_X8_34 rfl rfl dX8_addRow_55 58 rfl ?_
    refine w_iconst X 1 dX8_addRow_58 rfl 59 rfl ?_
    refine w_iadd X dX8_addRow_59 60 rfl ?_
    refine w_putI X 10 plt_10 ko_10 (T := TX8) (N := 10) rfl in_X8 tyX8 tyX8_ok nmX8 6 (by decide) kF_X8_34 rfl rfl rfl rfl (Nat.le_of_ble_eq_true rfl) rfl dX8_addRow_60 63 rfl ?_
    refine w_letm hF (fun m_9 hF => ?_)
    exact w_vret X hQ (o_inj hF) dX8_addRow_63
  · exact w_vret X hQ (o_inj hF) dX8_addRow_63

def K_X8_closeRepeat_41 (fu : Nat) (mem : Mem) : Option (Int32 × Mem) := bd (K_X9_needSign fu 59 mem) (fun p_4 => gb p_4.1 (some (p_4.1, p_4.2)))
def K_X8_closeRepeat (fu : Nat) (mem : Mem) : Option (Int32 × Mem) := lt_ (mw mem 10 9 ((rd mem 10 9) - 1)) (fun m_1 => (if (rd m_1 10 9) < 0 then (K_X8_closeRepeat_41 fu m_1) else (if (rd m_1 10 9) < 2 then gi (rd m_1 10 9) 2 (bd (K_X8_addRow fu 5 (rd m_1 16 (Int32.toNatClampNeg (rd m_1 10 9))) 0 0 m_1) (fun m_3 => (K_X8_closeRepeat_41 fu m_3))) else (K_X8_closeRepeat_41 fu m_1))))
def rm_X8_closeRepeat : Room := { frames := 3, cells := 0, slots := 0, locals := 63 }
set_option maxHeartbeats 4000000 in
set_option maxRecDepth 100000 in
theorem ct_X8_closeRepeat (l : Launch) {D : va_G} {ca ad : Nat → Nat} {Z : (Nat → Prop) → State → Heap → Prop} (hZ : ZOK Z) {tO : Nat} {sK sV : Nat → Nat} (hO : ZO Z tO sK sV) (fu : Nat) (mem : Mem) (res : (Int32 × Mem)) (hF : K_X8_closeRepeat fu mem = some res) : CI l D (tyL ca) 255 ad (cC ca ad) Z yX8_closeRepeat cX8_closeRepeat 1 .boolean rm_X8_closeRepeat [.ref (ad 10)] mem res.1 res.2 := by
  refine start_i (own := RX8) rfl (by decide) (Nat.le_of_ble_eq_true rfl) ?_
  intro p e s m args below meth c Q hQ X
  rw [K_X8_closeRepeat] at hF
  revert hF
  have w_41 : ∀ (mem : Mem), K_X8_closeRepeat_41 fu mem = some res → WW D 255 ad (cC ca ad) p l e rm_X8_closeRepeat s m args below meth c 1 0 0 Q mem 41 [(0, .ref (ad 10))] [] := by
    intro mem hF
    rw [K_X8_closeRepeat_41] at hF
    refine w_aload_n X 0 dX8_closeRepeat_41 rfl rfl 42 rfl ?_
    refine w_getV (v := .ref (ad 2)) X 10 plt_10 ko_10 (T := TX8) (N := 10) rfl in_X8 0 (by decide) kF_X8_9 rfl rfl dX8_closeRepeat_42 45 rfl ?_
    refine w_bipush X 59 dX8_closeRepeat_45 rfl 47 rfl ?_
    refine w_callVi (fun x => x.1) (fun x => x.2) X hZ hF [.int 59] 2 plt_2 ko_2 rfl rfl rfl kB_X9_needSign kL_X8_70 (fun res h => ct_X9_needSign l hZ hO fu 59 mem res h) rfl rfl rfl ⟨Nat.le_of_ble_eq_true rfl, Nat.le_of_ble_eq_true rfl⟩ (Nat.le_of_ble_eq_true rfl) ⟨Nat.zero_le _, Nat.zero_le _⟩ dX8_closeRepeat_47 50 rfl (fun p_4 hF => ?_)
    refine w_gb hF (fun h_5 hF => ?_)
    exact w_iret X hQ (o_inj1 hF) (o_inj2 hF) (bool_nar h_5) dX8_closeRepeat_50
  intro hF
  refine w_aload_n X 0 dX8_closeRepeat_0 rfl rfl 1 rfl ?_
  refine w_dup X dX8_closeRepeat_1 rfl 2 rfl ?_
  refine w_getV (v := .int (rd mem 10 9)) X 10 plt_10 ko_10 (T := TX8) (N := 10) rfl in_X8 9 (by decide) kF_X8_41 rfl rfl dX8_closeRepeat_2 5 rfl ?_
  refine w_iconst X 1 dX8_closeRepeat_5 rfl 6 rfl ?_
  refine w_isub X dX8_closeRepeat_6 7 rfl ?_
  refine w_putI X 10 plt_10 ko_10 (T := TX8) (N := 10) rfl in_X8 tyX8 tyX8_ok nmX8 9 (by decide) kF_X8_41 rfl rfl rfl rfl (Nat.le_of_ble_eq_true rfl) rfl dX8_closeRepeat_7 10 rfl ?_
  refine w_letm hF (fun m_1 hF => ?_)
  refine w_aload_n X 0 dX8_closeRepeat_10 rfl rfl 11 rfl ?_
  refine w_getV (v := .int (rd m_1 10 9)) X 10 plt_10 ko_10 (T := TX8) (N := 10) rfl in_X8 9 (by decide) kF_X8_41 rfl rfl dX8_closeRepeat_11 14 rfl ?_
  refine w_if_lt X hF 41 17 dX8_closeRepeat_14 (by decide) rfl (fun hF => ?_) (fun hF => ?_)
  · refine w_keep [0] rfl ?_
    exact w_41 m_1 hF
  · refine w_aload_n X 0 dX8_closeRepeat_17 rfl rfl 18 rfl ?_
    refine w_getV (v := .int (rd m_1 10 9)) X 10 plt_10 ko_10 (T := TX8) (N := 10) rfl in_X8 9 (by decide) kF_X8_41 rfl rfl dX8_closeRepeat_18 21 rfl ?_
    refine w_iconst X 2 dX8_closeRepeat_21 rfl 22 rfl ?_
    refine w_icmp_ge X hF 41 25 dX8_closeRepeat_22 (by decide) rfl (fun hF => ?_) (fun hF => ?_)
    · refine w_aload_n X 0 dX8_closeRepeat_25 rfl rfl 26 rfl ?_
      refine w_iconst X 5 dX8_closeRepeat_26 rfl 27 rfl ?_
      refine w_aload_n X 0 dX8_closeRepeat_27 rfl rfl 28 rfl ?_
      refine w_getV (v := .ref (ad 16)) X 10 plt_10 ko_10 (T := TX8) (N := 10) rfl in_X8 8 (by decide) kF_X8_31 rfl rfl dX8_closeRepeat_28 31 rfl ?_
      refine w_aload_n X 0 dX8_closeRepeat_31 rfl rfl 32 rfl ?_
      refine w_getV (v := .int (rd m_1 10 9)) X 10 plt_10 ko_10 (T := TX8) (N := 10) rfl in_X8 9 (by decide) kF_X8_41 rfl rfl dX8_closeRepeat_32 35 rfl ?_
      refine w_gi hF (fun h_2 hF => ?_)
      refine w_ial X 16 plt_16 ko_16 (t0 := 0) rfl h_2 dX8_closeRepeat_35 36 rfl ?_
      refine w_iconst X 0 dX8_closeRepeat_36 rfl 37 rfl ?_
      refine w_iconst X 0 dX8_closeRepeat_37 rfl 38 rfl ?_
      refine w_callVv (fun m => m) X hZ hF [.int 5, .int (rd m_1 16 (Int32.toNatClampNeg (rd m_1 10 9))), .int 0, .int 0] 10 plt_10 ko_10 rfl rfl rfl kB_X8_addRow kL_X8_66 (fun res h => ct_X8_addRow l hZ hO fu 5 (rd m_1 16 (Int32.toNatClampNeg (rd m_1 10 9))) 0 0 m_1 res h) rfl rfl rfl ⟨Nat.le_of_ble_eq_true rfl, Nat.le_of_ble_eq_true rfl⟩ (Nat.le_of_ble_eq_true rfl) ⟨Nat.zero_le _, Nat.zero_le _⟩ dX8_closeRepeat_38 41 rfl (fun m_3 hF => ?_)
      refine w_keep [0] rfl ?_
      exact w_41 m_3 hF
    · refine w_keep [0] rfl ?_
      exact w_41 m_1 hF

def K_X8_kindOfWord (fu : Nat) (mem : Mem) : Option (Int32 × Mem) := bd (K_X9_isWord fu 17 mem) (fun p_1 => (if p_1.1 = 0 then bd (K_X9_isWord fu 18 p_1.2) (fun p_2 => (if p_2.1 = 0 then bd (K_X9_isWord fu 19 p_2.2) (fun p_3 => (if p_3.1 = 0 then bd (K_X9_isWord fu 20 p_3.2) (fun p_4 => (if p_4.1 = 0 then bd (K_X9_isWord fu 21 p_4.2) (fun p_5 => (if p_5.1 = 0 then some ((-1), p_5.2) else some (4, p_5.2))) else some (3, p_4.2))) else some (2, p_3.2))) else some (1, p_2.2))) else some (0, p_1.2)))
def rm_X8_kindOfWord : Room := { frames := 6, cells := 0, slots := 0, locals := 129 }
set_option maxHeartbeats 4000000 in
set_option maxRecDepth 100000 in
theorem ct_X8_kindOfWord (l : Launch) {D : va_G} {ca ad : Nat → Nat} {Z : (Nat → Prop) → State → Heap → Prop} (hZ : ZOK Z) {tO : Nat} {sK sV : Nat → Nat} (hO : ZO Z tO sK sV) (fu : Nat) (mem : Mem) (res : (Int32 × Mem)) (hF : K_X8_kindOfWord fu mem = some res) : CI l D (tyL ca) 255 ad (cC ca ad) Z yX8_kindOfWord cX8_kindOfWord 1 .int rm_X8_kindOfWord [.ref (ad 10)] mem res.1 res.2 := by
  refine start_i (own := RX8) rfl (by decide) (Nat.le_of_ble_eq_true rfl) ?_
  intro p e s m args below meth c Q hQ X
  rw [K_X8_kindOfWord] at hF
  revert hF
  intro hF
  refine w_aload_n X 0 dX8_kindOfWord_0 rfl rfl 1 rfl ?_
  refine w_getV (v := .ref (ad 2)) X 10 plt_10 ko_10 (T := TX8) (N := 10) rfl in_X8 0 (by decide) kF_X8_9 rfl rfl dX8_kindOfWord_1 4 rfl ?_
  refine w_ldcS X hO 17 rfl dX8_kindOfWord_4 6 rfl ?_
  refine w_callVi (fun x => x.1) (fun x => x.2) X hZ hF [.ref (sK 17)] 2 plt_2 ko_2 rfl rfl rfl kB_X9_isWord kL_X8_97 (fun res h => ct_X9_isWord l hZ hO fu (by decide) mem res h) rfl rfl rfl ⟨Nat.le_of_ble_eq_true rfl, Nat.le_of_ble_eq_true rfl⟩ (Nat.le_of_ble_eq_true rfl) ⟨Nat.zero_le _, Nat.zero_le _⟩ dX8_kindOfWord_6 9 rfl (fun p_1 hF => ?_)
  refine w_if_eq X hF 14 12 dX8_kindOfWord_9 (by decide) rfl (fun hF => ?_) (fun hF => ?_)
  · refine w_aload_n X 0 dX8_kindOfWord_14 rfl rfl 15 rfl ?_
    refine w_getV (v := .ref (ad 2)) X 10 plt_10 ko_10 (T := TX8) (N := 10) rfl in_X8 0 (by decide) kF_X8_9 rfl rfl dX8_kindOfWord_15 18 rfl ?_
    refine w_ldcS X hO 18 rfl dX8_kindOfWord_18 20 rfl ?_
    refine w_callVi (fun x => x.1) (fun x => x.2) X hZ hF [.ref (sK 18)] 2 plt_2 ko_2 rfl rfl rfl kB_X9_isWord kL_X8_97 (fun res h => ct_X9_isWord l hZ hO fu (by decide) p_1.2 res h) rfl rfl rfl ⟨Nat.le_of_ble_eq_true rfl, Nat.le_of_ble_eq_true rfl⟩ (Nat.le_of_ble_eq_true rfl) ⟨Nat.zero_le _, Nat.zero_le _⟩ dX8_kindOfWord_20 23 rfl (fun p_2 hF => ?_)
    refine w_if_eq X hF 28 26 dX8_kindOfWord_23 (by decide) rfl (fun hF => ?_) (fun hF => ?_)
    · refine w_aload_n X 0 dX8_kindOfWord_28 rfl rfl 29 rfl ?_
      refine w_getV (v := .ref (ad 2)) X 10 plt_10 ko_10 (T := TX8) (N := 10) rfl in_X8 0 (by decide) kF_X8_9 rfl rfl dX8_kindOfWord_29 32 rfl ?_
      refine w_ldcS X hO 19 rfl dX8_kindOfWord_32 34 rfl ?_
      refine w_callVi (fun x => x.1) (fun x => x.2) X hZ hF [.ref (sK 19)] 2 plt_2 ko_2 rfl rfl rfl kB_X9_isWord kL_X8_97 (fun res h => ct_X9_isWord l hZ hO fu (by decide) p_2.2 res h) rfl rfl rfl ⟨Nat.le_of_ble_eq_true rfl, Nat.le_of_ble_eq_true rfl⟩ (Nat.le_of_ble_eq_true rfl) ⟨Nat.zero_le _, Nat.zero_le _⟩ dX8_kindOfWord_34 37 rfl (fun p_3 hF => ?_)
      refine w_if_eq X hF 42 40 dX8_kindOfWord_37 (by decide) rfl (fun hF => ?_) (fun hF => ?_)
      · refine w_aload_n X 0 dX8_kindOfWord_42 rfl rfl 43 rfl ?_
        refine w_getV (v := .ref (ad 2)) X 10 plt_10 ko_10 (T := TX8) (N := 10) rfl in_X8 0 (by decide) kF_X8_9 rfl rfl dX8_kindOfWord_43 46 rfl ?_
        refine w_ldcS X hO 20 rfl dX8_kindOfWord_46 48 rfl ?_
        refine w_callVi (fun x => x.1) (fun x => x.2) X hZ hF [.ref (sK 20)] 2 plt_2 ko_2 rfl rfl rfl kB_X9_isWord kL_X8_97 (fun res h => ct_X9_isWord l hZ hO fu (by decide) p_3.2 res h) rfl rfl rfl ⟨Nat.le_of_ble_eq_true rfl, Nat.le_of_ble_eq_true rfl⟩ (Nat.le_of_ble_eq_true rfl) ⟨Nat.zero_le _, Nat.zero_le _⟩ dX8_kindOfWord_48 51 rfl (fun p_4 hF => ?_)
        refine w_if_eq X hF 56 54 dX8_kindOfWord_51 (by decide) rfl (fun hF => ?_) (fun hF => ?_)
        · refine w_aload_n X 0 dX8_kindOfWord_56 rfl rfl 57 rfl ?_
          refine w_getV (v := .ref (ad 2)) X 10 plt_10 ko_10 (T := TX8) (N := 10) rfl in_X8 0 (by decide) kF_X8_9 rfl rfl dX8_kindOfWord_57 60 rfl ?_
          refine w_ldcS X hO 21 rfl dX8_kindOfWord_60 62 rfl ?_
          refine w_callVi (fun x => x.1) (fun x => x.2) X hZ hF [.ref (sK 21)] 2 plt_2 ko_2 rfl rfl rfl kB_X9_isWord kL_X8_97 (fun res h => ct_X9_isWord l hZ hO fu (by decide) p_4.2 res h) rfl rfl rfl ⟨Nat.le_of_ble_eq_true rfl, Nat.le_of_ble_eq_true rfl⟩ (Nat.le_of_ble_eq_true rfl) ⟨Nat.zero_le _, Nat.zero_le _⟩ dX8_kindOfWord_62 65 rfl (fun p_5 hF => ?_)
          refine w_if_eq X hF 72 68 dX8_kindOfWord_65 (by decide) rfl (fun hF => ?_) (fun hF => ?_)
          · refine w_iconst X (-1) dX8_kindOfWord_72 rfl 73 rfl ?_
            exact w_iret X hQ (o_inj1 hF) (o_inj2 hF) rfl dX8_kindOfWord_73
          · refine w_iconst X 4 dX8_kindOfWord_68 rfl 69 rfl ?_
            refine w_goto X 73 dX8_kindOfWord_69 (by decide) ?_
            exact w_iret X hQ (o_inj1 hF) (o_inj2 hF) rfl dX8_kindOfWord_73
        · refine w_iconst X 3 dX8_kindOfWord_54 rfl 55 rfl ?_
          exact w_iret X hQ (o_inj1 hF) (o_inj2 hF) rfl dX8_kindOfWord_55
      · refine w_iconst X 2 dX8_kindOfWord_40 rfl 41 rfl ?_
        exact w_iret X hQ (o_inj1 hF) (o_inj2 hF) rfl dX8_kindOfWord_41
    · refine w_iconst X 1 dX8_kindOfWord_26 rfl 27 rfl ?_
      exact w_iret X hQ (o_inj1 hF) (o_inj2 hF) rfl dX8_kindOfWord_27
  · refine w_iconst X 0 dX8_kindOfWord_12 rfl 13 rfl ?_
    exact w_iret X hQ (o_inj1 hF) (o_inj2 hF) rfl dX8_kindOfWord_13

def K_X8_readStep (fu : Nat) (mem : Mem) : Option (Int32 × Mem) := bd (K_X9_needSide fu mem) (fun p_1 => lt_ p_1.1 (fun x_2 => bd (K_X8_addRow fu 0 x_2 0 0 p_1.2) (fun m_3 => (if x_2 = (-1) then some (0, m_3) else bd (K_X9_needSign fu 59 m_3) (fun p_4 => (if p_4.1 = 0 then some (0, p_4.2) else some (1, p_4.2)))))))
def rm_X8_readStep : Room := { frames := 8, cells := 0, slots := 0, locals := 170 }
set_option maxHeartbeats 4000000 in
set_option maxRecDepth 100000 in
theorem ct_X8_readStep (l : Launch) {D : va_G} {ca ad : Nat → Nat} {Z : (Nat → Prop) → State → Heap → Prop} (hZ : ZOK Z) {tO : Nat} {sK sV : Nat → Nat} (hO : ZO Z tO sK sV) (fu : Nat) (mem : Mem) (res : (Int32 × Mem)) (hF : K_X8_readStep fu mem = some res) : CI l D (tyL ca) 255 ad (cC ca ad) Z yX8_readStep cX8_readStep 2 .boolean rm_X8_readStep [.ref (ad 10)] mem res.1 res.2 := by
  refine start_i (own := RX8) rfl (by decide) (Nat.le_of_ble_eq_true rfl) ?_
  intro p e s m args below meth c Q hQ X
  rw [K_X8_readStep] at hF
  revert hF
  intro hF
  refine w_aload_n X 0 dX8_readStep_0 rfl rfl 1 rfl ?_
  refine w_getV (v := .ref (ad 2)) X 10 plt_10 ko_10 (T := TX8) (N := 10) rfl in_X8 0 (by decide) kF_X8_9 rfl rfl dX8_readStep_1 4 rfl ?_
  refine w_callVi (fun x => x.1) (fun x => x.2) X hZ hF [] 2 plt_2 ko_2 rfl rfl rfl kB_X9_needSide kL_X8_116 (fun res h => ct_X9_needSide l hZ hO fu mem res h) rfl rfl rfl ⟨Nat.le_of_ble_eq_true rfl, Nat.le_of_ble_eq_true rfl⟩ (Nat.le_of_ble_eq_true rfl) ⟨Nat.zero_le _, Nat.zero_le _⟩ dX8_readStep_4 7 rfl (fun p_1 hF => ?_)
  refine w_let hF (fun x_2 hF => ?_)
  refine w_istore_n X [(1, .int x_2), (0, .ref (ad 10))] dX8_readStep_7 rfl (by decide) rfl 8 rfl ?_
  refine w_aload_n X 1 dX8_readStep_8 rfl rfl 9 rfl ?_
  refine w_iconst X 0 dX8_readStep_9 rfl 10 rfl ?_
  refine w_iload_n X 0 dX8_readStep_10 rfl rfl 11 rfl ?_
  refine w_iconst X 0 dX8_readStep_11 rfl 12 rfl ?_
  refine w_iconst X 0 dX8_readStep_12 rfl 13 rfl ?_
  refine w_callVv (fun m => m) X hZ hF [.int 0, .int x_2, .int 0, .int 0] 10 plt_10 ko_10 rfl rfl rfl kB_X8_addRow kL_X8_66 (fun res h => ct_X8_addRow l hZ hO fu 0 x_2 0 0 p_1.2 res h) rfl rfl rfl ⟨Nat.le_of_ble_eq_true rfl, Nat.le_of_ble_eq_true rfl⟩ (Nat.le_of_ble_eq_true rfl) ⟨Nat.zero_le _, Nat.zero_le _⟩ dX8_readStep_13 16 rfl (fun m_3 hF => ?_)
  refine w_iload_n X 0 dX8_readStep_16 rfl rfl 17 rfl ?_
  refine w_iconst X (-1) dX8_readStep_17 rfl 18 rfl ?_
  refine w_icmp_eq X hF 37 21 dX8_readStep_18 (by decide) rfl (fun hF => ?_) (fun hF => ?_)
  · refine w_iconst X 0 dX8_readStep_37 rfl 38 rfl ?_
    exact w_iret X hQ (o_inj1 hF) (o_inj2 hF) rfl dX8_readStep_38
  · refine w_aload_n X 1 dX8_readStep_21 rfl rfl 22 rfl ?_
    refine w_getV (v := .ref (ad 2)) X 10 plt_10 ko_10 (T := TX8) (N := 10) rfl in_X8 0 (by decide) kF_X8_9 rfl rfl dX8_readStep_22 25 rfl ?_
    refine w_bipush X 59 dX8_readStep_25 rfl 27 rfl ?_
    refine w_callVi (fun x => x.1) (fun x => x.2) X hZ hF [.int 59] 2 plt_2 ko_2 rfl rfl rfl kB_X9_needSign kL_X8_70 (fun res h => ct_X9_needSign l hZ hO fu 59 m_3 res h) rfl rfl rfl ⟨Nat.le_of_ble_eq_true rfl, Nat.le_of_ble_eq_true rfl⟩ (Nat.le_of_ble_eq_true rfl) ⟨Nat.zero_le _, Nat.zero_le _⟩ dX8_readStep_27 30 rfl (fun p_4 hF => ?_)
    refine w_if_eq X hF 37 33 dX8_readStep_30 (by decide) rfl (fun hF => ?_) (fun hF => ?_)
    · refine w_iconst X 0 dX8_readStep_37 rfl 38 rfl ?_
      exact w_iret X hQ (o_inj1 hF) (o_inj2 hF) rfl dX8_readStep_38
    · refine w_iconst X 1 dX8_readStep_33 rfl 34 rfl ?_
      refine w_goto X 38 dX8_readStep_34 (by decide) ?_
      exact w_iret X hQ (o_inj1 hF) (o_inj2 hF) rfl dX8_readStep_38

def K_X8_readWall (fu : Nat) (mem : Mem) : Option (Int32 × Mem) := bd (K_X9_needNumber fu 0 99 mem) (fun p_1 => (if p_1.1 = 0 then some (0, p_1.2) else lt_ (rd p_1.2 2 10) (fun x_2 => bd (K_X9_needNumber fu 0 99 p_1.2) (fun p_3 => (if p_3.1 = 0 then some (0, p_3.2) else lt_ (rd p_3.2 2 10) (fun x_4 => bd (K_X9_needWay fu p_3.2) (fun p_5 => lt_ p_5.1 (fun x_6 => bd (K_X8_addRow fu 1 x_2 x_4 x_6 p_5.2) (fun m_7 => (if x_6 = (-1) then some (0, m_7) else bd (K_X9_needSign fu 59 m_7) (fun p_8 => (if p_8.1 = 0 then some (0, p_8.2) else some (1, p_8.2)))))))))))))
def rm_X8_readWall : Room := { frames := 7, cells := 0, slots := 0, locals := 149 }
set_option maxHeartbeats 4000000 in
set_option maxRecDepth 100000 in
theorem ct_X8_readWall (l : Launch) {D : va_G} {ca ad : Nat → Nat} {Z : (Nat → Prop) → State → Heap → Prop} (hZ : ZOK Z) {tO : Nat} {sK sV : Nat → Nat} (hO : ZO Z tO sK sV) (fu : Nat) (mem : Mem) (res : (Int32 × Mem)) (hF : K_X8_readWall fu mem = some res) : CI l D (tyL ca) 255 ad (cC ca ad) Z yX8_readWall cX8_readWall 4 .boolean rm_X8_readWall [.ref (ad 10)] mem res.1 res.2 := by
  refine start_i (own := RX8) rfl (by decide) (Nat.le_of_ble_eq_true rfl) ?_
  intro p e s m args below meth c Q hQ X
  rw [K_X8_readWall] at hF
  revert hF
  intro hF
  refine w_aload_n X 0 dX8_readWall_0 rfl rfl 1 rfl ?_
  refine w_getV (v := .ref (ad 2)) X 10 plt_10 ko_10 (T := TX8) (N := 10) rfl in_X8 0 (by decide) kF_X8_9 rfl rfl dX8_readWall_1 4 rfl ?_
  refine w_iconst X 0 dX8_readWall_4 rfl 5 rfl ?_
  refine w_bipush X 99 dX8_readWall_5 rfl 7 rfl ?_
  refine w_callVi (fun x => x.1) (fun x => x.2) X hZ hF [.int 0, .int 99] 2 plt_2 ko_2 rfl rfl rfl kB_X9_needNumber kL_X8_109 (fun res h => ct_X9_needNumber l hZ hO fu 0 99 mem res h) rfl rfl rfl ⟨Nat.le_of_ble_eq_true rfl, Nat.le_of_ble_eq_true rfl⟩ (Nat.le_of_ble_eq_true rfl) ⟨Nat.zero_le _, Nat.zero_le _⟩ dX8_readWall_7 10 rfl (fun p_1 hF => ?_)
  refine w_if_ne X hF 15 13 dX8_readWall_10 (by decide) rfl (fun hF => ?_) (fun hF => ?_)
  · refine w_iconst X 0 dX8_readWall_13 rfl 14 rfl ?_
    exact w_iret X hQ (o_inj1 hF) (o_inj2 hF) rfl dX8_readWall_14
  · refine w_aload_n X 0 dX8_readWall_15 rfl rfl 16 rfl ?_
    refine w_getV (v := .ref (ad 2)) X 10 plt_10 ko_10 (T := TX8) (N := 10) rfl in_X8 0 (by decide) kF_X8_9 rfl rfl dX8_readWall_16 19 rfl ?_
    refine w_getV (v := .int (rd p_1.2 2 10)) X 2 plt_2 ko_2 (T := TX9) (N := 13) rfl in_X9 10 (by decide) kF_X8_113 rfl rfl dX8_readWall_19 22 rfl ?_
    refine w_let hF (fun x_2 hF => ?_)
    refine w_istore_n X [(1, .int x_2), (0, .ref (ad 10))] dX8_readWall_22 rfl (by decide) rfl 23 rfl ?_
    refine w_aload_n X 1 dX8_readWall_23 rfl rfl 24 rfl ?_
    refine w_getV (v := .ref (ad 2)) X 10 plt_10 ko_10 (T := TX8) (N := 10) rfl in_X8 0 (by decide) kF_X8_9 rfl rfl dX8_readWall_24 27 rfl ?_
    refine w_iconst X 0 dX8_readWall_27 rfl 28 rfl ?_
    refine w_bipush X 99 dX8_readWall_28 rfl 30 rfl ?_
    refine w_callVi (fun x => x.1) (fun x => x.2) X hZ hF [.int 0, .int 99] 2 plt_2 ko_2 rfl rfl rfl kB_X9_needNumber kL_X8_109 (fun res h => ct_X9_needNumber l hZ hO fu 0 99 p_1.2 res h) rfl rfl rfl ⟨Nat.le_of_ble_eq_true rfl, Nat.le_of_ble_eq_true rfl⟩ (Nat.le_of_ble_eq_true rfl) ⟨Nat.zero_le _, Nat.zero_le _⟩ dX8_readWall_30 33 rfl (fun p_3 hF => ?_)
    refine w_if_ne X hF 38 36 dX8_readWall_33 (by decide) rfl (fun hF => ?_) (fun hF => ?_)
    · refine w_iconst X 0 dX8_readWall_36 rfl 37 rfl ?_
      exact w_iret X hQ (o_inj1 hF) (o_inj2 hF) rfl dX8_readWall_37
    · refine w_aload_n X 1 dX8_readWall_38 rfl rfl 39 rfl ?_
      refine w_getV (v := .ref (ad 2)) X 10 plt_10 ko_10 (T := TX8) (N := 10) rfl in_X8 0 (by decide) kF_X8_9 rfl rfl dX8_readWall_39 42 rfl ?_
      refine w_getV (v := .int (rd p_3.2 2 10)) X 2 plt_2 ko_2 (T := TX9) (N := 13) rfl in_X9 10 (by decide) kF_X8_113 rfl rfl dX8_readWall_42 45 rfl ?_
      refine w_let hF (fun x_4 hF => ?_)
      refine w_istore_n X [(2, .int x_4), (1, .int x_2), (0, .ref (ad 10))] dX8_readWall_45 rfl (by decide) rfl 46 rfl ?_
      refine w_aload_n X 2 dX8_readWall_46 rfl rfl 47 rfl ?_
      refine w_getV (v := .ref (ad 2)) X 10 plt_10 ko_10 (T := TX8) (N := 10) rfl in_X8 0 (by decide) kF_X8_9 rfl rfl dX8_readWall_47 50 rfl ?_
      refine w_callVi (fun x => x.1) (fun x => x.2) X hZ hF [] 2 plt_2 ko_2 rfl rfl rfl kB_X9_needWay kL_X8_119 (fun res h => ct_X9_needWay l hZ hO fu p_3.2 res h) rfl rfl rfl ⟨Nat.le_of_ble_eq_true rfl, Nat.le_of_ble_eq_true rfl⟩ (Nat.le_of_ble_eq_true rfl) ⟨Nat.zero_le _, Nat.zero_le _⟩ dX8_readWall_50 53 rfl (fun p_5 hF => ?_)
      refine w_let hF (fun x_6 hF => ?_)
      refine w_istore_n X [(3, .int x_6), (2, .int x_4), (1, .int x_2), (0, .ref (ad 10))] dX8_readWall_53 rfl (by decide) rfl 54 rfl ?_
      refine w_aload_n X 3 dX8_readWall_54 rfl rfl 55 rfl ?_
      refine w_iconst X 1 dX8_readWall_55 rfl 56 rfl ?_
      refine w_iload_n X 2 dX8_readWall_56 rfl rfl 57 rfl ?_
      refine w_iload_n X 1 dX8_readWall_57 rfl rfl 58 rfl ?_
      refine w_iload_n X 0 dX8_readWall_58 rfl rfl 59 rfl ?_
      refine w_callVv (fun m => m) X hZ hF [.int 1, .int x_2, .int x_4, .int x_6] 10 plt_10 ko_10 rfl rfl rfl kB_X8_addRow kL_X8_66 (fun res h => ct_X8_addRow l hZ hO fu 1 x_2 x_4 x_6 p_5.2 res h) rfl rfl rfl ⟨Nat.le_of_ble_eq_true rfl, Nat.le_of_ble_eq_true rfl⟩ (Nat.le_of_ble_eq_true rfl) ⟨Nat.zero_le _, Nat.zero_le _⟩ dX8_readWall_59 62 rfl (fun m_7 hF => ?_)
      refine w_iload_n X 0 dX8_readWall_62 rfl rfl 63 rfl ?_
      refine w_iconst X (-1) dX8_readWall_63 rfl 64 rfl ?_
      refine w_icmp_eq X hF 83 67 dX8_readWall_64 (by decide) rfl (fun hF => ?_) (fun hF => ?_)
      · refine w_iconst X 0 dX8_readWall_83 rfl 84 rfl ?_
        exact w_iret X hQ (o_inj1 hF) (o_inj2 hF) rfl dX8_readWall_84
      · refine w_aload_n X 3 dX8_readWall_67 rfl rfl 68 rfl ?_
        refine w_getV (v := .ref (ad 2)) X 10 plt_10 ko_10 (T := TX8) (N := 10) rfl in_X8 0 (by decide) kF_X8_9 rfl rfl dX8_readWall_68 71 rfl ?_
        refine w_bipush X 59 dX8_readWall_71 rfl 73 rfl ?_
        refine w_callVi (fun x => x.1) (fun x => x.2) X hZ hF [.int 59] 2 plt_2 ko_2 rfl rfl rfl kB_X9_needSign kL_X8_70 (fun res h => ct_X9_needSign l hZ hO fu 59 m_7 res h) rfl rfl rfl ⟨Nat.le_of_ble_eq_true rfl, Nat.le_of_ble_eq_true rfl⟩ (Nat.le_of_ble_eq_true rfl) ⟨Nat.zero_le _, Nat.zero_le _⟩ dX8_readWall_73 76 rfl (fun p_8 hF => ?_)
        refine w_if_eq X hF 83 79 dX8_readWall_76 (by decide) rfl (fun hF => ?_) (fun hF => ?_)
        · refine w_iconst X 0 dX8_readWall_83 rfl 84 rfl ?_
          exact w_iret X hQ (o_inj1 hF) (o_inj2 hF) rfl dX8_readWall_84
        · refine w_iconst X 1 dX8_readWall_79 rfl 80 rfl ?_
          refine w_goto X 84 dX8_readWall_80 (by decide) ?_
          exact w_iret X hQ (o_inj1 hF) (o_inj2 hF) rfl dX8_readWall_84

def K_X8_readPass (fu : Nat) (mem : Mem) : Option (Int32 × Mem) := bd (K_X8_addRow fu 2 0 0 0 mem) (fun m_1 => bd (K_X9_needSign fu 59 m_1) (fun p_2 => gb p_2.1 (some (p_2.1, p_2.2))))
def rm_X8_readPass : Room := { frames := 3, cells := 0, slots := 0, locals := 63 }
set_option maxHeartbeats 4000000 in
set_option maxRecDepth 100000 in
theorem ct_X8_readPass (l : Launch) {D : va_G} {ca ad : Nat → Nat} {Z : (Nat → Prop) → State → Heap → Prop} (hZ : ZOK Z) {tO : Nat} {sK sV : Nat → Nat} (hO : ZO Z tO sK sV) (fu : Nat) (mem : Mem) (res : (Int32 × Mem)) (hF : K_X8_readPass fu mem = some res) : CI l D (tyL ca) 255 ad (cC ca ad) Z yX8_readPass cX8_readPass 1 .boolean rm_X8_readPass [.ref (ad 10)] mem res.1 res.2 := by
  refine start_i (own := RX8) rfl (by decide) (Nat.le_of_ble_eq_true rfl) ?_
  intro p e s m args below meth c Q hQ X
  rw [K_X8_readPass] at hF
  revert hF
  intro hF
  refine w_aload_n X 0 dX8_readPass_0 rfl rfl 1 rfl ?_
  refine w_iconst X 2 dX8_readPass_1 rfl 2 rfl ?_
  refine w_iconst X 0 dX8_readPass_2 rfl 3 rfl ?_
  refine w_iconst X 0 dX8_readPass_3 rfl 4 rfl ?_
  refine w_iconst X 0 dX8_readPass_4 rfl 5 rfl ?_
  refine w_callVv (fun m => m) X hZ hF [.int 2, .int 0, .int 0, .int 0] 10 plt_10 ko_10 rfl rfl rfl kB_X8_addRow kL_X8_66 (fun res h => ct_X8_addRow l hZ hO fu 2 0 0 0 mem res h) rfl rfl rfl ⟨Nat.le_of_ble_eq_true rfl, Nat.le_of_ble_eq_true rfl⟩ (Nat.le_of_ble_eq_true rfl) ⟨Nat.zero_le _, Nat.zero_le _⟩ dX8_readPass_5 8 rfl (fun m_1 hF => ?_)
  refine w_aload_n X 0 dX8_readPass_8 rfl rfl 9 rfl ?_
  refine w_getV (v := .ref (ad 2)) X 10 plt_10 ko_10 (T := TX8) (N := 10) rfl in_X8 0 (by decide) kF_X8_9 rfl rfl dX8_readPass_9 12 rfl ?_
  refine w_bipush X 59 dX8_readPass_12 rfl 14 rfl ?_
  refine w_callVi (fun x => x.1) (fun x => x.2) X hZ hF [.int 59] 2 plt_2 ko_2 rfl rfl rfl kB_X9_needSign kL_X8_70 (fun res h => ct_X9_needSign l hZ hO fu 59 m_1 res h) rfl rfl rfl ⟨Nat.le_of_ble_eq_true rfl, Nat.le_of_ble_eq_true rfl⟩ (Nat.le_of_ble_eq_true rfl) ⟨Nat.zero_le _, Nat.zero_le _⟩ dX8_readPass_14 17 rfl (fun p_2 hF => ?_)
  refine w_gb hF (fun h_3 hF => ?_)
  exact w_iret X hQ (o_inj1 hF) (o_inj2 hF) (bool_nar h_3) dX8_readPass_17

def K_X8_readPlay (fu : Nat) (mem : Mem) : Option (Int32 × Mem) := bd (K_X9_needNumber fu 0 99 mem) (fun p_1 => (if p_1.1 = 0 then some (0, p_1.2) else lt_ (rd p_1.2 2 10) (fun x_2 => bd (K_X9_needNumber fu 0 99 p_1.2) (fun p_3 => (if p_3.1 = 0 then some (0, p_3.2) else bd (K_X8_addRow fu 3 x_2 (rd p_3.2 2 10) 0 p_3.2) (fun m_4 => bd (K_X9_needSign fu 59 m_4) (fun p_5 => gb p_5.1 (some (p_5.1, p_5.2)))))))))
def rm_X8_readPlay : Room := { frames := 3, cells := 0, slots := 0, locals := 63 }
set_option maxHeartbeats 4000000 in
set_option maxRecDepth 100000 in
theorem ct_X8_readPlay (l : Launch) {D : va_G} {ca ad : Nat → Nat} {Z : (Nat → Prop) → State → Heap → Prop} (hZ : ZOK Z) {tO : Nat} {sK sV : Nat → Nat} (hO : ZO Z tO sK sV) (fu : Nat) (mem : Mem) (res : (Int32 × Mem)) (hF : K_X8_readPlay fu mem = some res) : CI l D (tyL ca) 255 ad (cC ca ad) Z yX8_readPlay cX8_readPlay 2 .boolean rm_X8_readPlay [.ref (ad 10)] mem res.1 res.2 := by
  refine start_i (own := RX8) rfl (by decide) (Nat.le_of_ble_eq_true rfl) ?_
  intro p e s m args below meth c Q hQ X
  rw [K_X8_readPlay] at hF
  revert hF
  intro hF
  refine w_aload_n X 0 dX8_readPlay_0 rfl rfl 1 rfl ?_
  refine w_getV (v := .ref (ad 2)) X 10 plt_10 ko_10 (T := TX8) (N := 10) rfl in_X8 0 (by decide) kF_X8_9 rfl rfl dX8_readPlay_1 4 rfl ?_
  refine w_iconst X 0 dX8_readPlay_4 rfl 5 rfl ?_
  refine w_bipush X 99 dX8_readPlay_5 rfl 7 rfl ?_
  refine w_callVi (fun x => x.1) (fun x => x.2) X hZ hF [.int 0, .int 99] 2 plt_2 ko_2 rfl rfl rfl kB_X9_needNumber kL_X8_109 (fun res h => ct_X9_needNumber l hZ hO fu 0 99 mem res h) rfl rfl rfl ⟨Nat.le_of_ble_eq_true rfl, Nat.le_of_ble_eq_true rfl⟩ (Nat.le_of_ble_eq_true rfl) ⟨Nat.zero_le _, Nat.zero_le _⟩ dX8_readPlay_7 10 rfl (fun p_1 hF => ?_)
  refine w_if_ne X hF 15 13 dX8_readPlay_10 (by decide) rfl (fun hF => ?_) (fun hF => ?_)
  · refine w_iconst X 0 dX8_readPlay_13 rfl 14 rfl ?_
    exact w_iret X hQ (o_inj1 hF) (o_inj2 hF) rfl dX8_readPlay_14
  · refine w_aload_n X 0 dX8_readPlay_15 rfl rfl 16 rfl ?_
    refine w_getV (v := .ref (ad 2)) X 10 plt_10 ko_10 (T := TX8) (N := 10) rfl in_X8 0 (by decide) kF_X8_9 rfl rfl dX8_readPlay_16 19 rfl ?_
    refine w_getV (v := .int (rd p_1.2 2 10)) X 2 plt_2 ko_2 (T := TX9) (N := 13) rfl in_X9 10 (by decide) kF_X8_113 rfl rfl dX8_readPlay_19 22 rfl ?_
    refine w_let hF (fun x_2 hF => ?_)
    refine w_istore_n X [(1, .int x_2), (0, .ref (ad 10))] dX8_readPlay_22 rfl (by decide) rfl 23 rfl ?_
    refine w_aload_n X 1 dX8_readPlay_23 rfl rfl 24 rfl ?_
    refine w_getV (v := .ref (ad 2)) X 10 plt_10 ko_10 (T := TX8) (N := 10) rfl in_X8 0 (by decide) kF_X8_9 rfl rfl dX8_readPlay_24 27 rfl ?_
    refine w_iconst X 0 dX8_readPlay_27 rfl 28 rfl ?_
    refine w_bipush X 99 dX8_readPlay_28 rfl 30 rfl ?_
    refine w_callVi (fun x => x.1) (fun x => x.2) X hZ hF [.int 0, .int 99] 2 plt_2 ko_2 rfl rfl rfl kB_X9_needNumber kL_X8_109 (fun res h => ct_X9_needNumber l hZ hO fu 0 99 p_1.2 res h) rfl rfl rfl ⟨Nat.le_of_ble_eq_true rfl, Nat.le_of_ble_eq_true rfl⟩ (Nat.le_of_ble_eq_true rfl) ⟨Nat.zero_le _, Nat.zero_le _⟩ dX8_readPlay_30 33 rfl (fun p_3 hF => ?_)
    refine w_if_ne X hF 38 36 dX8_readPlay_33 (by decide) rfl (fun hF => ?_) (fun hF => ?_)
    · refine w_iconst X 0 dX8_readPlay_36 rfl 37 rfl ?_
      exact w_iret X hQ (o_inj1 hF) (o_inj2 hF) rfl dX8_readPlay_37
    · refine w_aload_n X 1 dX8_readPlay_38 rfl rfl 39 rfl ?_
      refine w_iconst X 3 dX8_readPlay_39 rfl 40 rfl ?_
      refine w_iload_n X 0 dX8_readPlay_40 rfl rfl 41 rfl ?_
      refine w_aload_n X 1 dX8_readPlay_41 rfl rfl 42 rfl ?_
      refine w_getV (v := .ref (ad 2)) X 10 plt_10 ko_10 (T := TX8) (N := 10) rfl in_X8 0 (by decide) kF_X8_9 rfl rfl dX8_readPlay_42 45 rfl ?_
      refine w_getV (v := .int (rd p_3.2 2 10)) X 2 plt_2 ko_2 (T := TX9) (N := 13) rfl in_X9 10 (by decide) kF_X8_113 rfl rfl dX8_readPlay_45 48 rfl ?_
      refine w_iconst X 0 dX8_readPlay_48 rfl 49 rfl ?_
      refine w_callVv (fun m => m) X hZ hF [.int 3, .int x_2, .int (rd p_3.2 2 10), .int 0] 10 plt_10 ko_10 rfl rfl rfl kB_X8_addRow kL_X8_66 (fun res h => ct_X8_addRow l hZ hO fu 3 x_2 (rd p_3.2 2 10) 0 p_3.2 res h) rfl rfl rfl ⟨Nat.le_of_ble_eq_true rfl, Nat.le_of_ble_eq_true rfl⟩ (Nat.le_of_ble_eq_true rfl) ⟨Nat.zero_le _, Nat.zero_le _⟩ dX8_readPlay_49 52 rfl (fun m_4 hF => ?_)
      refine w_aload_n X 1 dX8_readPlay_52 rfl rfl 53 rfl ?_
      refine w_getV (v := .ref (ad 2)) X 10 plt_10 ko_10 (T := TX8) (N := 10) rfl in_X8 0 (by decide) kF_X8_9 rfl rfl dX8_readPlay_53 56 rfl ?_
      refine w_bipush X 59 dX8_readPlay_56 rfl 58 rfl ?_
      refine w_callVi (fun x => x.1) (fun x => x.2) X hZ hF [.int 59] 2 plt_2 ko_2 rfl rfl rfl kB_X9_needSign kL_X8_70 (fun res h => ct_X9_needSign l hZ hO fu 59 m_4 res h) rfl rfl rfl ⟨Nat.le_of_ble_eq_true rfl, Nat.le_of_ble_eq_true rfl⟩ (Nat.le_of_ble_eq_true rfl) ⟨Nat.zero_le _, Nat.zero_le _⟩ dX8_readPlay_58 61 rfl (fun p_5 hF => ?_)
      refine w_gb hF (fun h_6 hF => ?_)
      exact w_iret X hQ (o_inj1 hF) (o_inj2 hF) (bool_nar h_6) dX8_readPlay_61

def K_X8_readRepeat_53 (fu : Nat) (mem : Mem) : Option (Int32 × Mem) := bd (K_X8_addRow fu 4 (rd mem 2 10) 0 0 mem) (fun m_5 => bd (K_X9_needSign fu 40 m_5) (fun p_6 => gb p_6.1 (some (p_6.1, p_6.2))))
def K_X8_readRepeat (fu : Nat) (mem : Mem) : Option (Int32 × Mem) := bd (K_X9_needNumber fu 1 20 mem) (fun p_1 => (if p_1.1 = 0 then some (0, p_1.2) else (if (rd p_1.2 10 9) < 0 then (K_X8_readRepeat_53 fu p_1.2) else (if (rd p_1.2 10 9) < 2 then gi (rd p_1.2 10 9) 2 (lt_ (mw p_1.2 16 (Int32.toNatClampNeg (rd p_1.2 10 9)) (rd p_1.2 10 6)) (fun m_3 => lt_ (mw m_3 10 9 ((rd m_3 10 9) + 1)) (fun m_4 => (K_X8_readRepeat_53 fu m_4)))) else (K_X8_readRepeat_53 fu p_1.2)))))
def rm_X8_readRepeat : Room := { frames := 3, cells := 0, slots := 0, locals := 63 }
set_option maxHeartbeats 4000000 in
set_option maxRecDepth 100000 in
theorem ct_X8_readRepeat (l : Launch) {D : va_G} {ca ad : Nat → Nat} {Z : (Nat → Prop) → State → Heap → Prop} (hZ : ZOK Z) {tO : Nat} {sK sV : Nat → Nat} (hO : ZO Z tO sK sV) (fu : Nat) (mem : Mem) (res : (Int32 × Mem)) (hF : K_X8_readRepeat fu mem = some res) : CI l D (tyL ca) 255 ad (cC ca ad) Z yX8_readRepeat cX8_readRepeat 1 .boolean rm_X8_readRepeat [.ref (ad 10)] mem res.1 res.2 := by
  refine start_i (own := RX8) rfl (by decide) (Nat.le_of_ble_eq_true rfl) ?_
  intro p e s m args below meth c Q hQ X
  rw [K_X8_readRepeat] at hF
  revert hF
  have w_53 : ∀ (mem : Mem), K_X8_readRepeat_53 fu mem = some res → WW D 255 ad (cC ca ad) p l e rm_X8_readRepeat s m args below meth c 1 0 0 Q mem 53 [(0, .ref (ad 10))] [] := by
    intro mem hF
    rw [K_X8_readRepeat_53] at hF
    refine w_aload_n X 0 dX8_readRepeat_53 rfl rfl 54 rfl ?_
    refine w_iconst X 4 dX8_readRepeat_54 rfl 55 rfl ?_
    refine w_aload_n X 0 dX8_readRepeat_55 rfl rfl 56 rfl ?_
    refine w_getV (v := .ref (ad 2)) X 10 plt_10 ko_10 (T := TX8) (N := 10) rfl in_X8 0 (by decide) kF_X8_9 rfl rfl dX8_readRepeat_56 59 rfl ?_
    refine w_getV (v := .int (rd mem 2 10)) X 2 plt_2 ko_2 (T := TX9) (N := 13) rfl in_X9 10 (by decide) kF_X8_113 rfl rfl dX8_readRepeat_59 62 rfl ?_
    refine w_iconst X 0 dX8_readRepeat_62 rfl 63 rfl ?_
    refine w_iconst X 0 dX8_readRepeat_63 rfl 64 rfl ?_
    refine w_callVv (fun m => m) X hZ hF [.int 4, .int (rd mem 2 10), .int 0, .int 0] 10 plt_10 ko_10 rfl rfl rfl kB_X8_addRow kL_X8_66 (fun res h => ct_X8_addRow l hZ hO fu 4 (rd mem 2 10) 0 0 mem res h) rfl rfl rfl ⟨Nat.le_of_ble_eq_true rfl, Nat.le_of_ble_eq_true rfl⟩ (Nat.le_of_ble_eq_true rfl) ⟨Nat.zero_le _, Nat.zero_le _⟩ dX8_readRepeat_64 67 rfl (fun m_5 hF => ?_)
    refine w_aload_n X 0 dX8_readRepeat_67 rfl rfl 68 rfl ?_
    refine w_getV (v := .ref (ad 2)) X 10 plt_10 ko_10 (T := TX8) (N := 10) rfl in_X8 0 (by decide) kF_X8_9 rfl rfl dX8_readRepeat_68 71 rfl ?_
    refine w_bipush X 40 dX8_readRepeat_71 rfl 73 rfl ?_
    refine w_callVi (fun x => x.1) (fun x => x.2) X hZ hF [.int 40] 2 plt_2 ko_2 rfl rfl rfl kB_X9_needSign kL_X8_70 (fun res h => ct_X9_needSign l hZ hO fu 40 m_5 res h) rfl rfl rfl ⟨Nat.le_of_ble_eq_true rfl, Nat.le_of_ble_eq_true rfl⟩ (Nat.le_of_ble_eq_true rfl) ⟨Nat.zero_le _, Nat.zero_le _⟩ dX8_readRepeat_73 76 rfl (fun p_6 hF => ?_)
    refine w_gb hF (fun h_7 hF => ?_)
    exact w_iret X hQ (o_inj1 hF) (o_inj2 hF) (bool_nar h_7) dX8_readRepeat_76
  intro hF
  refine w_aload_n X 0 dX8_readRepeat_0 rfl rfl 1 rfl ?_
  refine w_getV (v := .ref (ad 2)) X 10 plt_10 ko_10 (T := TX8) (N := 10) rfl in_X8 0 (by decide) kF_X8_9 rfl rfl dX8_readRepeat_1 4 rfl ?_
  refine w_iconst X 1 dX8_readRepeat_4 rfl 5 rfl ?_
  refine w_bipush X 20 dX8_readRepeat_5 rfl 7 rfl ?_
  refine w_callVi (fun x => x.1) (fun x => x.2) X hZ hF [.int 1, .int 20] 2 plt_2 ko_2 rfl rfl rfl kB_X9_needNumber kL_X8_109 (fun res h => ct_X9_needNumber l hZ hO fu 1 20 mem res h) rfl rfl rfl ⟨Nat.le_of_ble_eq_true rfl, Nat.le_of_ble_eq_true rfl⟩ (Nat.le_of_ble_eq_true rfl) ⟨Nat.zero_le _, Nat.zero_le _⟩ dX8_readRepeat_7 10 rfl (fun p_1 hF => ?_)
  refine w_if_ne X hF 15 13 dX8_readRepeat_10 (by decide) rfl (fun hF => ?_) (fun hF => ?_)
  · refine w_iconst X 0 dX8_readRepeat_13 rfl 14 rfl ?_
    exact w_iret X hQ (o_inj1 hF) (o_inj2 hF) rfl dX8_readRepeat_14
  · refine w_aload_n X 0 dX8_readRepeat_15 rfl rfl 16 rfl ?_
    refine w_getV (v := .int (rd p_1.2 10 9)) X 10 plt_10 ko_10 (T := TX8) (N := 10) rfl in_X8 9 (by decide) kF_X8_41 rfl rfl dX8_readRepeat_16 19 rfl ?_
    refine w_if_lt X hF 53 22 dX8_readRepeat_19 (by decide) rfl (fun hF => ?_) (fun hF => ?_)
    · refine w_keep [0] rfl ?_
      exact w_53 p_1.2 hF
    · refine w_aload_n X 0 dX8_readRepeat_22 rfl rfl 23 rfl ?_
      refine w_getV (v := .int (rd p_1.2 10 9)) X 10 plt_10 ko_10 (T := TX8) (N := 10) rfl in_X8 9 (by decide) kF_X8_41 rfl rfl dX8_readRepeat_23 26 rfl ?_
      refine w_iconst X 2 dX8_readRepeat_26 rfl 27 rfl ?_
      refine w_icmp_ge X hF 53 30 dX8_readRepeat_27 (by decide) rfl (fun hF => ?_) (fun hF => ?_)
      · refine w_aload_n X 0 dX8_readRepeat_30 rfl rfl 31 rfl ?_
        refine w_getV (v := .ref (ad 16)) X 10 plt_10 ko_10 (T := TX8) (N := 10) rfl in_X8 8 (by decide) kF_X8_31 rfl rfl dX8_readRepeat_31 34 rfl ?_
        refine w_aload_n X 0 dX8_readRepeat_34 rfl rfl 35 rfl ?_
        refine w_getV (v := .int (rd p_1.2 10 9)) X 10 plt_10 ko_10 (T := TX8) (N := 10) rfl in_X8 9 (by decide) kF_X8_41 rfl rfl dX8_readRepeat_35 38 rfl ?_
        refine w_aload_n X 0 dX8_readRepeat_38 rfl rfl 39 rfl ?_
        refine w_getV (v := .int (rd p_1.2 10 6)) X 10 plt_10 ko_10 (T := TX8) (N := 10) rfl in_X8 6 (by decide) kF_X8_34 rfl rfl dX8_readRepeat_39 42 rfl ?_
        refine w_gi hF (fun h_2 hF => ?_)
        refine w_ias X 16 plt_16 ko_16 (t0 := 0) rfl h_2 dX8_readRepeat_42 43 rfl ?_
        refine w_letm hF (fun m_3 hF => ?_)
        refine w_aload_n X 0 dX8_readRepeat_43 rfl rfl 44 rfl ?_
        refine w_dup X dX8_readRepeat_44 rfl 45 rfl ?_
        refine w_getV (v := .int (rd m_3 10 9)) X 10 plt_10 ko_10 (T := TX8) (N := 10) rfl in_X8 9 (by decide) kF_X8_41 rfl rfl dX8_readRepeat_45 48 rfl ?_
        refine w_iconst X 1 dX8_readRepeat_48 rfl 49 rfl ?_
        refine w_iadd X dX8_readRepeat_49 50 rfl ?_
        refine w_putI X 10 plt_10 ko_10 (T := TX8) (N := 10) rfl in_X8 tyX8 tyX8_ok nmX8 9 (by decide) kF_X8_41 rfl rfl rfl rfl (Nat.le_of_ble_eq_true rfl) rfl dX8_readRepeat_50 53 rfl ?_
        refine w_letm hF (fun m_4 hF => ?_)
        refine w_keep [0] rfl ?_
        exact w_53 m_4 hF
      · refine w_keep [0] rfl ?_
        exact w_53 p_1.2 hF

def K_X8_readCommand_41 (fu : Nat) (x1 : Int32) (mem : Mem) : Option (Int32 × Mem) := (if (rd mem 10 7) < 30 then lt_ (mw mem 10 7 ((rd mem 10 7) + 1)) (fun m_7 => (if x1 = 0 then bd (K_X8_readStep fu m_7) (fun p_9 => gb p_9.1 (some (p_9.1, p_9.2))) else (if x1 = 1 then bd (K_X8_readWall fu m_7) (fun p_12 => gb p_12.1 (some (p_12.1, p_12.2))) else (if x1 = 2 then bd (K_X8_readPass fu m_7) (fun p_15 => gb p_15.1 (some (p_15.1, p_15.2))) else (if x1 = 3 then bd (K_X8_readPlay fu m_7) (fun p_18 => gb p_18.1 (some (p_18.1, p_18.2))) else bd (K_X8_readRepeat fu m_7) (fun p_20 => gb p_20.1 (some (p_20.1, p_20.2)))))))) else bd (K_X9_fail fu 6 mem) (fun p_22 => gb p_22.1 (some (p_22.1, p_22.2))))
def K_X8_readCommand (fu : Nat) (mem : Mem) : Option (Int32 × Mem) := bd (K_X8_kindOfWord fu mem) (fun p_1 => lt_ p_1.1 (fun x_2 => (if x_2 = (-1) then bd (K_X9_fail fu 1 p_1.2) (fun p_3 => gb p_3.1 (some (p_3.1, p_3.2))) else (if x_2 = 4 then (if (rd p_1.2 10 9) < 2 then (K_X8_readCommand_41 fu x_2 p_1.2) else bd (K_X9_fail fu 3 p_1.2) (fun p_5 => gb p_5.1 (some (p_5.1, p_5.2)))) else (K_X8_readCommand_41 fu x_2 p_1.2)))))
def rm_X8_readCommand : Room := { frames := 9, cells := 0, slots := 0, locals := 191 }
set_option maxHeartbeats 4000000 in
set_option maxRecDepth 100000 in
theorem ct_X8_readCommand (l : Launch) {D : va_G} {ca ad : Nat → Nat} {Z : (Nat → Prop) → State → Heap → Prop} (hZ : ZOK Z) {tO : Nat} {sK sV : Nat → Nat} (hO : ZO Z tO sK sV) (fu : Nat) (mem : Mem) (res : (Int32 × Mem)) (hF : K_X8_readCommand fu mem = some res) : CI l D (tyL ca) 255 ad (cC ca ad) Z yX8_readCommand cX8_readCommand 2 .boolean rm_X8_readCommand [.ref (ad 10)] mem res.1 res.2 := by
  refine start_i (own := RX8) rfl (by decide) (Nat.le_of_ble_eq_true rfl) ?_
  intro p e s m args below meth c Q hQ X
  rw [K_X8_readCommand] at hF
  revert hF
  have w_41 : ∀ (x1 : Int32) (mem : Mem), K_X8_readCommand_41 fu x1 mem = some res → WW D 255 ad (cC ca ad) p l e rm_X8_readCommand s m args below meth c 2 0 0 Q mem 41 [(0, .ref (ad 10)), (1, .int x1)] [] := by
    intro x1 mem hF
    rw [K_X8_readCommand_41] at hF
    refine w_aload_n X 0 dX8_readCommand_41 rfl rfl 42 rfl ?_
    refine w_getV (v := .int (rd mem 10 7)) X 10 plt_10 ko_10 (T := TX8) (N := 10) rfl in_X8 7 (by decide) kF_X8_38 rfl rfl dX8_readCommand_42 45 rfl ?_
    refine w_bipush X 30 dX8_readCommand_45 rfl 47 rfl ?_
    refine w_icmp_lt X hF 60 50 dX8_readCommand_47 (by decide) rfl (fun hF => ?_) (fun hF => ?_)
    · refine w_aload_n X 0 dX8_readCommand_60 rfl rfl 61 rfl ?_
      refine w_dup X dX8_readCommand_61 rfl 62 rfl ?_
      refine w_getV (v := .int (rd mem 10 7)) X 10 plt_10 ko_10 (T := TX8) (N := 10) rfl in_X8 7 (by decide) kF_X8_38 rfl rfl dX8_readCommand_62 65 rfl ?_
      refine w_iconst X 1 dX8_readCommand_65 rfl 66 rfl ?_
      refine w_iadd X dX8_readCommand_66 67 rfl ?_
      refine w_putI X 10 plt_10 ko_10 (T := TX8) (N := 10) rfl in_X8 tyX8 tyX8_ok nmX8 7 (by decide) kF_X8_38 rfl rfl rfl rfl (Nat.le_of_ble_eq_true rfl) rfl dX8_readCommand_67 70 rfl ?_
      refine w_letm hF (fun m_7 hF => ?_)
      refine w_iload_n X 1 dX8_readCommand_70 rfl rfl 71 rfl ?_
      refine w_case (v := 0) hF (fun h_8 hF => ?_) (fun h_8 hF => ?_)
      · refine w_tin X 100 dX8_readCommand_71 h_8 (by decide) (by decide) rfl (by decide) ?_
        refine w_aload_n X 0 dX8_readCommand_100 rfl rfl 101 rfl ?_
        refine w_callVi (fun x => x.1) (fun x => x.2) X hZ hF [] 10 plt_10 ko_10 rfl rfl rfl kB_X8_readStep kL_X8_80 (fun res h => ct_X8_readStep l hZ hO fu m_7 res h) rfl rfl rfl ⟨Nat.le_of_ble_eq_true rfl, Nat.le_of_ble_eq_true rfl⟩ (Nat.le_of_ble_eq_true rfl) ⟨Nat.zero_le _, Nat.zero_le _⟩ dX8_readCommand_101 104 rfl (fun p_9 hF => ?_)
        refine w_gb hF (fun h_10 hF => ?_)
        exact w_iret X hQ (o_inj1 hF) (o_inj2 hF) (bool_nar h_10) dX8_readCommand_104
      refine w_case (v := 1) hF (fun h_11 hF => ?_) (fun h_11 hF => ?_)
      · refine w_tin X 105 dX8_readCommand_71 h_11 (by decide) (by decide) rfl (by decide) ?_
        refine w_aload_n X 0 dX8_readCommand_105 rfl rfl 106 rfl ?_
        refine w_callVi (fun x => x.1) (fun x => x.2) X hZ hF [] 10 plt_10 ko_10 rfl rfl rfl kB_X8_readWall kL_X8_83 (fun res h => ct_X8_readWall l hZ hO fu m_7 res h) rfl rfl rfl ⟨Nat.le_of_ble_eq_true rfl, Nat.le_of_ble_eq_true rfl⟩ (Nat.le_of_ble_eq_true rfl) ⟨Nat.zero_le _, Nat.zero_le _⟩ dX8_readCommand_106 109 rfl (fun p_12 hF => ?_)
        refine w_gb hF (fun h_13 hF => ?_)
        exact w_iret X hQ (o_inj1 hF) (o_inj2 hF) (bool_nar h_13) dX8_readCommand_109
      refine w_case (v := 2) hF (fun h_14 hF => ?_) (fun h_14 hF => ?_)
      · refine w_tin X 110 dX8_readCommand_71 h_14 (by decide) (by decide) rfl (by decide) ?_
        refine w_aload_n X 0 dX8_readCommand_110 rfl rfl 111 rfl ?_
        refine w_callVi (fun x => x.1) (fun x => x.2) X hZ hF [] 10 plt_10 ko_10 rfl rfl rfl kB_X8_readPass kL_X8_86 (fun res h => ct_X8_readPass l hZ hO fu m_7 res h) rfl rfl rfl ⟨Nat.le_of_ble_eq_true rfl, Nat.le_of_ble_eq_true rfl⟩ (Nat.le_of_ble_eq_true rfl) ⟨Nat.zero_le _, Nat.zero_le _⟩ dX8_readCommand_111 114 rfl (fun p_15 hF => ?_)
        refine w_gb hF (fun h_16 hF => ?_)
        exact w_iret X hQ (o_inj1 hF) (o_inj2 hF) (bool_nar h_16) dX8_readCommand_114
      refine w_case (v := 3) hF (fun h_17 hF => ?_) (fun h_17 hF => ?_)
      · refine w_tin X 115 dX8_readCommand_71 h_17 (by decide) (by decide) rfl (by decide) ?_
        refine w_aload_n X 0 dX8_readCommand_115 rfl rfl 116 rfl ?_
        refine w_callVi (fun x => x.1) (fun x => x.2) X hZ hF [] 10 plt_10 ko_10 rfl rfl rfl kB_X8_readPlay kL_X8_89 (fun res h => ct_X8_readPlay l hZ hO fu m_7 res h) rfl rfl rfl ⟨Nat.le_of_ble_eq_true rfl, Nat.le_of_ble_eq_true rfl⟩ (Nat.le_of_ble_eq_true rfl) ⟨Nat.zero_le _, Nat.zero_le _⟩ dX8_readCommand_116 119 rfl (fun p_18 hF => ?_)
        refine w_gb hF (fun h_19 hF => ?_)
        exact w_iret X hQ (o_inj1 hF) (o_inj2 hF) (bool_nar h_19) dX8_readCommand_119
      refine w_tout X 120 dX8_readCommand_71 (by have := lv_neT h_8 (show (0 : Int32).toInt = 0 from rfl); have := lv_neT h_11 (show (1 : Int32).toInt = 1 from rfl); have := lv_neT h_14 (show (2 : Int32).toInt = 2 from rfl); have := lv_neT h_17 (show (3 : Int32).toInt = 3 from rfl); omega) (by decide) ?_
      refine w_aload_n X 0 dX8_readCommand_120 rfl rfl 121 rfl ?_
      refine w_callVi (fun x => x.1) (fun x => x.2) X hZ hF [] 10 plt_10 ko_10 rfl rfl rfl kB_X8_readRepeat kL_X8_92 (fun res h => ct_X8_readRepeat l hZ hO fu m_7 res h) rfl rfl rfl ⟨Nat.le_of_ble_eq_true rfl, Nat.le_of_ble_eq_true rfl⟩ (Nat.le_of_ble_eq_true rfl) ⟨Nat.zero_le _, Nat.zero_le _⟩ dX8_readCommand_121 124 rfl (fun p_20 hF => ?_)
      refine w_gb hF (fun h_21 hF => ?_)
      exact w_iret X hQ (o_inj1 hF) (o_inj2 hF) (bool_nar h_21) dX8_readCommand_124
    · refine w_aload_n X 0 dX8_readCommand_50 rfl rfl 51 rfl ?_
      refine w_getV (v := .ref (ad 2)) X 10 plt_10 ko_10 (T := TX8) (N := 10) rfl in_X8 0 (by decide) kF_X8_9 rfl rfl dX8_readCommand_51 54 rfl ?_
      refine w_bipush X 6 dX8_readCommand_54 rfl 56 rfl ?_
      refine w_callVi (fun x => x.1) (fun x => x.2) X hZ hF [.int 6] 2 plt_2 ko_2 rfl rfl rfl kB_X9_fail kL_X8_77 (fun res h => ct_X9_fail l hZ hO fu 6 mem res h) rfl rfl rfl ⟨Nat.le_of_ble_eq_true rfl, Nat.le_of_ble_eq_true rfl⟩ (Nat.le_of_ble_eq_true rfl) ⟨Nat.zero_le _, Nat.zero_le _⟩ dX8_readCommand_56 59 rfl (fun p_22 hF => ?_)
      refine w_gb hF (fun h_23 hF => ?_)
      exact w_iret X hQ (o_inj1 hF) (o_inj2 hF) (bool_nar h_23) dX8_readCommand_59
  intro hF
  refine w_aload_n X 0 dX8_readCommand_0 rfl rfl 1 rfl ?_
  refine w_callVi (fun x => x.1) (fun x => x.2) X hZ hF [] 10 plt_10 ko_10 rfl rfl rfl kB_X8_kindOfWord kL_X8_73 (fun res h => ct_X8_kindOfWord l hZ hO fu mem res h) rfl rfl rfl ⟨Nat.le_of_ble_eq_true rfl, Nat.le_of_ble_eq_true rfl⟩ (Nat.le_of_ble_eq_true rfl) ⟨Nat.zero_le _, Nat.zero_le _⟩ dX8_readCommand_1 4 rfl (fun p_1 hF => ?_)
  refine w_let hF (fun x_2 hF => ?_)
  refine w_istore_n X [(1, .int x_2), (0, .ref (ad 10))] dX8_readCommand_4 rfl (by decide) rfl 5 rfl ?_
  refine w_iload_n X 0 dX8_readCommand_5 rfl rfl 6 rfl ?_
  refine w_iconst X (-1) dX8_readCommand_6 rfl 7 rfl ?_
  refine w_icmp_ne X hF 19 10 dX8_readCommand_7 (by decide) rfl (fun hF => ?_) (fun hF => ?_)
  · refine w_aload_n X 1 dX8_readCommand_10 rfl rfl 11 rfl ?_
    refine w_getV (v := .ref (ad 2)) X 10 plt_10 ko_10 (T := TX8) (N := 10) rfl in_X8 0 (by decide) kF_X8_9 rfl rfl dX8_readCommand_11 14 rfl ?_
    refine w_iconst X 1 dX8_readCommand_14 rfl 15 rfl ?_
    refine w_callVi (fun x => x.1) (fun x => x.2) X hZ hF [.int 1] 2 plt_2 ko_2 rfl rfl rfl kB_X9_fail kL_X8_77 (fun res h => ct_X9_fail l hZ hO fu 1 p_1.2 res h) rfl rfl rfl ⟨Nat.le_of_ble_eq_true rfl, Nat.le_of_ble_eq_true rfl⟩ (Nat.le_of_ble_eq_true rfl) ⟨Nat.zero_le _, Nat.zero_le _⟩ dX8_readCommand_15 18 rfl (fun p_3 hF => ?_)
    refine w_gb hF (fun h_4 hF => ?_)
    exact w_iret X hQ (o_inj1 hF) (o_inj2 hF) (bool_nar h_4) dX8_readCommand_18
  · refine w_iload_n X 0 dX8_readCommand_19 rfl rfl 20 rfl ?_
    refine w_iconst X 4 dX8_readCommand_20 rfl 21 rfl ?_
    refine w_icmp_ne X hF 41 24 dX8_readCommand_21 (by decide) rfl (fun hF => ?_) (fun hF => ?_)
    · refine w_aload_n X 1 dX8_readCommand_24 rfl rfl 25 rfl ?_
      refine w_getV (v := .int (rd p_1.2 10 9)) X 10 plt_10 ko_10 (T := TX8) (N := 10) rfl in_X8 9 (by decide) kF_X8_41 rfl rfl dX8_readCommand_25 28 rfl ?_
      refine w_iconst X 2 dX8_readCommand_28 rfl 29 rfl ?_
      refine w_icmp_lt X hF 41 32 dX8_readCommand_29 (by decide) rfl (fun hF => ?_) (fun hF => ?_)
      · refine w_keep [1, 0] rfl ?_
        exact w_41 x_2 p_1.2 hF
      · refine w_aload_n X 1 dX8_readCommand_32 rfl rfl 33 rfl ?_
        refine w_getV (v := .ref (ad 2)) X 10 plt_10 ko_10 (T := TX8) (N := 10) rfl in_X8 0 (by decide) kF_X8_9 rfl rfl dX8_readCommand_33 36 rfl ?_
        refine w_iconst X 3 dX8_readCommand_36 rfl 37 rfl ?_
        refine w_callVi (fun x => x.1) (fun x => x.2) X hZ hF [.int 3] 2 plt_2 ko_2 rfl rfl rfl kB_X9_fail kL_X8_77 (fun res h => ct_X9_fail l hZ hO fu 3 p_1.2 res h) rfl rfl rfl ⟨Nat.le_of_ble_eq_true rfl, Nat.le_of_ble_eq_true rfl⟩ (Nat.le_of_ble_eq_true rfl) ⟨Nat.zero_le _, Nat.zero_le _⟩ dX8_readCommand_37 40 rfl (fun p_5 hF => ?_)
        refine w_gb hF (fun h_6 hF => ?_)
        exact w_iret X hQ (o_inj1 hF) (o_inj2 hF) (bool_nar h_6) dX8_readCommand_40
    · refine w_keep [1, 0] rfl ?_
      exact w_41 x_2 p_1.2 hF

def K_X8_readCommands_82 (fu : Nat) (k_24 : Int32 → Mem → Option (Int32 × Mem)) (x1 : Int32) (xs0 : Int32) (mem : Mem) : Option (Int32 × Mem) := (if xs0 = 0 then bd (K_X8_readCommand fu mem) (fun p_7 => (if p_7.1 = 0 then some (0, p_7.2) else (k_24 (x1 + 1) p_7.2))) else bd (K_X8_closeRepeat fu mem) (fun p_8 => (if p_8.1 = 0 then some (0, p_8.2) else (k_24 (x1 + 1) p_8.2))))
def K_X8_readCommands_81 (fu : Nat) (k_24 : Int32 → Mem → Option (Int32 × Mem)) (x1 : Int32) (mem : Mem) : Option (Int32 × Mem) := (K_X8_readCommands_82 fu k_24 x1 0 mem)
def K_X8_readCommands_58 (fu : Nat) (k_24 : Int32 → Mem → Option (Int32 × Mem)) (x1 : Int32) (mem : Mem) : Option (Int32 × Mem) := (if 0 < (rd mem 10 9) then bd (K_X9_isSign fu 41 mem) (fun x_6 => (if x_6 = 0 then (K_X8_readCommands_81 fu k_24 x1 mem) else (K_X8_readCommands_82 fu k_24 x1 1 mem))) else (K_X8_readCommands_81 fu k_24 x1 mem))
def K_X8_readCommands_24 (fu : Nat) : Nat → Int32 → Mem → Option (Int32 × Mem)
  | 0, _, _ => none
  | n + 1, x1, mem => (if 700 < x1 then some (1, mem) else bd (K_X9_advance fu mem) (fun m_5 => (if (rd m_5 2 7) = 5 then (if (rd m_5 10 9) = 0 then some (1, m_5) else (K_X8_readCommands_58 fu (K_X8_readCommands_24 fu n) x1 m_5)) else (K_X8_readCommands_58 fu (K_X8_readCommands_24 fu n) x1 m_5))))
def K_X8_readCommands (fu : Nat) (mem : Mem) : Option (Int32 × Mem) := lt_ (mw mem 10 6 0) (fun m_1 => lt_ (mw m_1 10 7 0) (fun m_2 => lt_ (mw m_2 10 9 0) (fun m_3 => bd (K_X9_begin fu m_3) (fun m_4 => (K_X8_readCommands_24 fu fu 0 m_4)))))
def rm_X8_readCommands : Room := { frames := 10, cells := 0, slots := 0, locals := 212 }
set_option maxHeartbeats 4000000 in
set_option maxRecDepth 100000 in
theorem ct_X8_readCommands (l : Launch) {D : va_G} {ca ad : Nat → Nat} {Z : (Nat → Prop) → State → Heap → Prop} (hZ : ZOK Z) {tO : Nat} {sK sV : Nat → Nat} (hO : ZO Z tO sK sV) (fu : Nat) (mem : Mem) (res : (Int32 × Mem)) (hF : K_X8_readCommands fu mem = some res) : CI l D (tyL ca) 255 ad (cC ca ad) Z yX8_readCommands cX8_readCommands 3 .boolean rm_X8_readCommands [.ref (ad 10)] mem res.1 res.2 := by
  refine start_i (own := RX8) rfl (by decide) (Nat.le_of_ble_eq_true rfl) ?_
  intro p e s m args below meth c Q hQ X
  rw [K_X8_readCommands] at hF
  revert hF
  have w_82 : ∀ (k_24 : Int32 → Mem → Option (Int32 × Mem)) (hk_24 : ∀ (x1 : Int32) (mem : Mem), k_24 x1 mem = some res → WW D 255 ad (cC ca ad) p l e rm_X8_readCommands s m args below meth c 3 0 0 Q mem 24 [(0, .ref (ad 10)), (1, .int x1)] []) (x1 : Int32) (xs0 : Int32) (mem : Mem), K_X8_readCommands_82 fu k_24 x1 xs0 mem = some res → WW D 255 ad (cC ca ad) p l e rm_X8_readCommands s m args below meth c 3 0 0 Q mem 82 [(0, .ref (ad 10)), (1, .int x1)] [.int xs0] := by
    intro k_24 hk_24 x1 xs0 mem hF
    rw [K_X8_readCommands_82] at hF
    refine w_istore_n X [(2, .int xs0), (0, .ref (ad 10)), (1, .int x1)] dX8_readCommands_82 rfl (by decide) rfl 83 rfl ?_
    refine w_iload_n X 0 dX8_readCommands_83 rfl rfl 84 rfl ?_
    refine w_if_eq X hF 97 87 dX8_readCommands_84 (by decide) rfl (fun hF => ?_) (fun hF => ?_)
    · refine w_aload_n X 1 dX8_readCommands_97 rfl rfl 98 rfl ?_
      refine w_callVi (fun x => x.1) (fun x => x.2) X hZ hF [] 10 plt_10 ko_10 rfl rfl rfl kB_X8_readCommand kL_X8_63 (fun res h => ct_X8_readCommand l hZ hO fu mem res h) rfl rfl rfl ⟨Nat.le_of_ble_eq_true rfl, Nat.le_of_ble_eq_true rfl⟩ (Nat.le_of_ble_eq_true rfl) ⟨Nat.zero_le _, Nat.zero_le _⟩ dX8_readCommands_98 101 rfl (fun p_7 hF => ?_)
      refine w_if_ne X hF 106 104 dX8_readCommands_101 (by decide) rfl (fun hF => ?_) (fun hF => ?_)
      · refine w_iconst X 0 dX8_readCommands_104 rfl 105 rfl ?_
        exact w_iret X hQ (o_inj1 hF) (o_inj2 hF) rfl dX8_readCommands_105
      · refine w_iinc X 2 (x1 + 1) [(1, .int (x1 + 1)), (2, .int xs0), (0, .ref (ad 10))] dX8_readCommands_106 rfl rfl (by decide) rfl 109 rfl ?_
        refine w_goto X 24 dX8_readCommands_109 (by decide) ?_
        refine w_keep [2, 0] rfl ?_
        exact hk_24 (x1 + 1) p_7.2 hF
    · refine w_aload_n X 1 dX8_readCommands_87 rfl rfl 88 rfl ?_
      refine w_callVi (fun x => x.1) (fun x => x.2) X hZ hF [] 10 plt_10 ko_10 rfl rfl rfl kB_X8_closeRepeat kL_X8_59 (fun res h => ct_X8_closeRepeat l hZ hO fu mem res h) rfl rfl rfl ⟨Nat.le_of_ble_eq_true rfl, Nat.le_of_ble_eq_true rfl⟩ (Nat.le_of_ble_eq_true rfl) ⟨Nat.zero_le _, Nat.zero_le _⟩ dX8_readCommands_88 91 rfl (fun p_8 hF => ?_)
      refine w_if_eq X hF 104 94 dX8_readCommands_91 (by decide) rfl (fun hF => ?_) (fun hF => ?_)
      · refine w_iconst X 0 dX8_readCommands_104 rfl 105 rfl ?_
        exact w_iret X hQ (o_inj1 hF) (o_inj2 hF) rfl dX8_readCommands_105
      · refine w_goto X 106 dX8_readCommands_94 (by decide) ?_
        refine w_iinc X 2 (x1 + 1) [(1, .int (x1 + 1)), (2, .int xs0), (0, .ref (ad 10))] dX8_readCommands_106 rfl rfl (by decide) rfl 109 rfl ?_
        refine w_goto X 24 dX8_readCommands_109 (by decide) ?_
        refine w_keep [2, 0] rfl ?_
        exact hk_24 (x1 + 1) p_8.2 hF
  have w_81 : ∀ (k_24 : Int32 → Mem → Option (Int32 × Mem)) (hk_24 : ∀ (x1 : Int32) (mem : Mem), k_24 x1 mem = some res → WW D 255 ad (cC ca ad) p l e rm_X8_readCommands s m args below meth c 3 0 0 Q mem 24 [(0, .ref (ad 10)), (1, .int x1)] []) (x1 : Int32) (mem : Mem), K_X8_readCommands_81 fu k_24 x1 mem = some res → WW D 255 ad (cC ca ad) p l e rm_X8_readCommands s m args below meth c 3 0 0 Q mem 81 [(0, .ref (ad 10)), (1, .int x1)] [] := by
    intro k_24 hk_24 x1 mem hF
    rw [K_X8_readCommands_81] at hF
    refine w_iconst X 0 dX8_readCommands_81 rfl 82 rfl ?_
    refine w_keep [0, 1] rfl ?_
    exact w_82 k_24 hk_24 x1 0 mem hF
  have w_58 : ∀ (k_24 : Int32 → Mem → Option (Int32 × Mem)) (hk_24 : ∀ (x1 : Int32) (mem : Mem), k_24 x1 mem = some res → WW D 255 ad (cC ca ad) p l e rm_X8_readCommands s m args below meth c 3 0 0 Q mem 24 [(0, .ref (ad 10)), (1, .int x1)] []) (x1 : Int32) (mem : Mem), K_X8_readCommands_58 fu k_24 x1 mem = some res → WW D 255 ad (cC ca ad) p l e rm_X8_readCommands s m args below meth c 3 0 0 Q mem 58 [(0, .ref (ad 10)), (1, .int x1)] [] := by
    intro k_24 hk_24 x1 mem hF
    rw [K_X8_readCommands_58] at hF
    refine w_aload_n X 0 dX8_readCommands_58 rfl rfl 59 rfl ?_
    refine w_getV (v := .int (rd mem 10 9)) X 10 plt_10 ko_10 (T := TX8) (N := 10) rfl in_X8 9 (by decide) kF_X8_41 rfl rfl dX8_readCommands_59 62 rfl ?_
    refine w_if_le X hF 81 65 dX8_readCommands_62 (by decide) rfl (fun hF => ?_) (fun hF => ?_)
    · refine w_aload_n X 0 dX8_readCommands_65 rfl rfl 66 rfl ?_
      refine w_getV (v := .ref (ad 2)) X 10 plt_10 ko_10 (T := TX8) (N := 10) rfl in_X8 0 (by decide) kF_X8_9 rfl rfl dX8_readCommands_66 69 rfl ?_
      refine w_bipush X 41 dX8_readCommands_69 rfl 71 rfl ?_
      refine w_callVi (fun x => x) (fun _ => mem) X hZ hF [.int 41] 2 plt_2 ko_2 rfl rfl rfl kB_X9_isSign kL_X8_55 (fun res h => ct_X9_isSign l hZ hO fu 41 mem res h) rfl rfl rfl ⟨Nat.le_of_ble_eq_true rfl, Nat.le_of_ble_eq_true rfl⟩ (Nat.le_of_ble_eq_true rfl) ⟨Nat.zero_le _, Nat.zero_le _⟩ dX8_readCommands_71 74 rfl (fun x_6 hF => ?_)
      refine w_if_eq X hF 81 77 dX8_readCommands_74 (by decide) rfl (fun hF => ?_) (fun hF => ?_)
      · refine w_keep [0, 1] rfl ?_
        exact w_81 k_24 hk_24 x1 mem hF
      · refine w_iconst X 1 dX8_readCommands_77 rfl 78 rfl ?_
        refine w_goto X 82 dX8_readCommands_78 (by decide) ?_
        refine w_keep [0, 1] rfl ?_
        exact w_82 k_24 hk_24 x1 1 mem hF
    · refine w_keep [0, 1] rfl ?_
      exact w_81 k_24 hk_24 x1 mem hF
  have w_24 : ∀ (n : Nat) (x1 : Int32) (mem : Mem), K_X8_readCommands_24 fu n x1 mem = some res → WW D 255 ad (cC ca ad) p l e rm_X8_readCommands s m args below meth c 3 0 0 Q mem 24 [(0, .ref (ad 10)), (1, .int x1)] [] := by
    intro n
    induction n with
    | zero => intro x1 mem hF; exact no_none (show (none : Option (Int32 × Mem)) = some res from hF)
    | succ n ih =>
      intro x1 mem hF
      rw [K_X8_readCommands_24] at hF
      refine w_iload_n X 1 dX8_readCommands_24 rfl rfl 25 rfl ?_
      refine w_sipush X 700 dX8_readCommands_25 rfl 28 rfl ?_
      refine w_icmp_gt X hF 112 31 dX8_readCommands_28 (by decide) rfl (fun hF => ?_) (fun hF => ?_)
      · refine w_iconst X 1 dX8_readCommands_112 rfl 113 rfl ?_
        exact w_iret X hQ (o_inj1 hF) (o_inj2 hF) rfl dX8_readCommands_113
      · refine w_aload_n X 0 dX8_readCommands_31 rfl rfl 32 rfl ?_
        refine w_getV (v := .ref (ad 2)) X 10 plt_10 ko_10 (T := TX8) (N := 10) rfl in_X8 0 (by decide) kF_X8_9 rfl rfl dX8_readCommands_32 35 rfl ?_
        refine w_callVv (fun m => m) X hZ hF [] 2 plt_2 ko_2 rfl rfl rfl kB_X9_advance kL_X8_49 (fun res h => ct_X9_advance l hZ hO fu mem res h) rfl rfl rfl ⟨Nat.le_of_ble_eq_true rfl, Nat.le_of_ble_eq_true rfl⟩ (Nat.le_of_ble_eq_true rfl) ⟨Nat.zero_le _, Nat.zero_le _⟩ dX8_readCommands_35 38 rfl (fun m_5 hF => ?_)
        refine w_aload_n X 0 dX8_readCommands_38 rfl rfl 39 rfl ?_
        refine w_getV (v := .ref (ad 2)) X 10 plt_10 ko_10 (T := TX8) (N := 10) rfl in_X8 0 (by decide) kF_X8_9 rfl rfl dX8_readCommands_39 42 rfl ?_
        refine w_getV (v := .int (rd m_5 2 7)) X 2 plt_2 ko_2 (T := TX9) (N := 13) rfl in_X9 7 (by decide) kF_X8_52 rfl rfl dX8_readCommands_42 45 rfl ?_
        refine w_iconst X 5 dX8_readCommands_45 rfl 46 rfl ?_
        refine w_icmp_ne X hF 58 49 dX8_readCommands_46 (by decide) rfl (fun hF => ?_) (fun hF => ?_)
        · refine w_aload_n X 0 dX8_readCommands_49 rfl rfl 50 rfl ?_
          refine w_getV (v := .int (rd m_5 10 9)) X 10 plt_10 ko_10 (T := TX8) (N := 10) rfl in_X8 9 (by decide) kF_X8_41 rfl rfl dX8_readCommands_50 53 rfl ?_
          refine w_if_ne X hF 58 56 dX8_readCommands_53 (by decide) rfl (fun hF => ?_) (fun hF => ?_)
          · refine w_iconst X 1 dX8_readCommands_56 rfl 57 rfl ?_
            exact w_iret X hQ (o_inj1 hF) (o_inj2 hF) rfl dX8_readCommands_57
          · refine w_keep [0, 1] rfl ?_
            exact w_58 (K_X8_readCommands_24 fu n) ih x1 m_5 hF
        · refine w_keep [0, 1] rfl ?_
          exact w_58 (K_X8_readCommands_24 fu n) ih x1 m_5 hF
  intro hF
  refine w_aload_n X 0 dX8_readCommands_0 rfl rfl 1 rfl ?_
  refine w_iconst X 0 dX8_readCommands_1 rfl 2 rfl ?_
  refine w_putI X 10 plt_10 ko_10 (T := TX8) (N := 10) rfl in_X8 tyX8 tyX8_ok nmX8 6 (by decide) kF_X8_34 rfl rfl rfl rfl (Nat.le_of_ble_eq_true rfl) rfl dX8_readCommands_2 5 rfl ?_
  refine w_letm hF (fun m_1 hF => ?_)
  refine w_aload_n X 0 dX8_readCommands_5 rfl rfl 6 rfl ?_
  refine w_iconst X 0 dX8_readCommands_6 rfl 7 rfl ?_
  refine w_putI X 10 plt_10 ko_10 (T := TX8) (N := 10) rfl in_X8 tyX8 tyX8_ok nmX8 7 (by decide) kF_X8_38 rfl rfl rfl rfl (Nat.le_of_ble_eq_true rfl) rfl dX8_readCommands_7 10 rfl ?_
  refine w_letm hF (fun m_2 hF => ?_)
  refine w_aload_n X 0 dX8_readCommands_10 rfl rfl 11 rfl ?_
  refine w_iconst X 0 dX8_readCommands_11 rfl 12 rfl ?_
  refine w_putI X 10 plt_10 ko_10 (T := TX8) (N := 10) rfl in_X8 tyX8 tyX8_ok nmX8 9 (by decide) kF_X8_41 rfl rfl rfl rfl (Nat.le_of_ble_eq_true rfl) rfl dX8_readCommands_12 15 rfl ?_
  refine w_letm hF (fun m_3 hF => ?_)
  refine w_aload_n X 0 dX8_readCommands_15 rfl rfl 16 rfl ?_
  refine w_getV (v := .ref (ad 2)) X 10 plt_10 ko_10 (T := TX8) (N := 10) rfl in_X8 0 (by decide) kF_X8_9 rfl rfl dX8_readCommands_16 19 rfl ?_
  refine w_callVv (fun m => m) X hZ hF [] 2 plt_2 ko_2 rfl rfl rfl kB_X9_begin kL_X8_44 (fun res h => ct_X9_begin l hZ hO fu m_3 res h) rfl rfl rfl ⟨Nat.le_of_ble_eq_true rfl, Nat.le_of_ble_eq_true rfl⟩ (Nat.le_of_ble_eq_true rfl) ⟨Nat.zero_le _, Nat.zero_le _⟩ dX8_readCommands_19 22 rfl (fun m_4 hF => ?_)
  refine w_iconst X 0 dX8_readCommands_22 rfl 23 rfl ?_
  refine w_istore_n X [(1, .int 0), (0, .ref (ad 10))] dX8_readCommands_23 rfl (by decide) rfl 24 rfl ?_
  refine w_keep [1, 0] rfl ?_
  exact w_24 fu 0 m_4 hF

def K_X8_rowBehind (fu : Nat) (x1 : Int32) (mem : Mem) : Option (Int32 × Mem) := gi x1 60 (lt_ (rd mem 12 (Int32.toNatClampNeg x1)) (fun x_2 => (if x_2 < 0 then some ((x1 + 1), mem) else (if x_2 < (rd mem 10 6) then gi x_2 60 (gi x_2 60 (lt_ (mw mem 15 (Int32.toNatClampNeg x_2) ((rd mem 15 (Int32.toNatClampNeg x_2)) - 1)) (fun m_5 => gi x_2 60 ((if 0 < (rd m_5 15 (Int32.toNatClampNeg x_2)) then some ((x_2 + 1), m_5) else some ((x1 + 1), m_5)))))) else some ((x1 + 1), mem)))))
def rm_X8_rowBehind : Room := { frames := 0, cells := 0, slots := 0, locals := 0 }
set_option maxHeartbeats 4000000 in
set_option maxRecDepth 100000 in
theorem ct_X8_rowBehind (l : Launch) {D : va_G} {ca ad : Nat → Nat} {Z : (Nat → Prop) → State → Heap → Prop} (hZ : ZOK Z) {tO : Nat} {sK sV : Nat → Nat} (hO : ZO Z tO sK sV) (fu : Nat) (x1 : Int32) (mem : Mem) (res : (Int32 × Mem)) (hF : K_X8_rowBehind fu x1 mem = some res) : CI l D (tyL ca) 255 ad (cC ca ad) Z yX8_rowBehind cX8_rowBehind 3 .int rm_X8_rowBehind [.ref (ad 10), .int x1] mem res.1 res.2 := by
  refine start_i (own := RX8) rfl (by decide) (Nat.le_of_ble_eq_true rfl) ?_
  intro p e s m args below meth c Q hQ X
  rw [K_X8_rowBehind] at hF
  revert hF
  intro hF
  refine w_aload_n X 0 dX8_rowBehind_0 rfl rfl 1 rfl ?_
  refine w_getV (v := .ref (ad 12)) X 10 plt_10 ko_10 (T := TX8) (N := 10) rfl in_X8 2 (by decide) kF_X8_19 rfl rfl dX8_rowBehind_1 4 rfl ?_
  refine w_iload_n X 1 dX8_rowBehind_4 rfl rfl 5 rfl ?_
  refine w_gi hF (fun h_1 hF => ?_)
  refine w_ial X 12 plt_12 ko_12 (t0 := 0) rfl h_1 dX8_rowBehind_5 6 rfl ?_
  refine w_let hF (fun x_2 hF => ?_)
  refine w_istore_n X [(2, .int x_2), (0, .ref (ad 10)), (1, .int x1)] dX8_rowBehind_6 rfl (by decide) rfl 7 rfl ?_
  refine w_iload_n X 0 dX8_rowBehind_7 rfl rfl 8 rfl ?_
  refine w_if_lt X hF 19 11 dX8_rowBehind_8 (by decide) rfl (fun hF => ?_) (fun hF => ?_)
  · refine w_iload_n X 2 dX8_rowBehind_19 rfl rfl 20 rfl ?_
    refine w_iconst X 1 dX8_rowBehind_20 rfl 21 rfl ?_
    refine w_iadd X dX8_rowBehind_21 22 rfl ?_
    exact w_iret X hQ (o_inj1 hF) (o_inj2 hF) rfl dX8_rowBehind_22
  · refine w_iload_n X 0 dX8_rowBehind_11 rfl rfl 12 rfl ?_
    refine w_aload_n X 1 dX8_rowBehind_12 rfl rfl 13 rfl ?_
    refine w_getV (v := .int (rd mem 10 6)) X 10 plt_10 ko_10 (T := TX8) (N := 10) rfl in_X8 6 (by decide) kF_X8_34 rfl rfl dX8_rowBehind_13 16 rfl ?_
    refine w_icmp_lt X hF 23 19 dX8_rowBehind_16 (by decide) rfl (fun hF => ?_) (fun hF => ?_)
    · refine w_aload_n X 1 dX8_rowBehind_23 rfl rfl 24 rfl ?_
      refine w_getV (v := .ref (ad 15)) X 10 plt_10 ko_10 (T := TX8) (N := 10) rfl in_X8 5 (by decide) kF_X8_28 rfl rfl dX8_rowBehind_24 27 rfl ?_
      refine w_iload_n X 0 dX8_rowBehind_27 rfl rfl 28 rfl ?_
      refine w_dup2 X dX8_rowBehind_28 rfl rfl 29 rfl ?_
      refine w_gi hF (fun h_3 hF => ?_)
      refine w_ial X 15 plt_15 ko_15 (t0 := 0) rfl h_3 dX8_rowBehind_29 30 rfl ?_
      refine w_iconst X 1 dX8_rowBehind_30 rfl 31 rfl ?_
      refine w_isub X dX8_rowBehind_31 32 rfl ?_
      refine w_gi hF (fun h_4 hF => ?_)
      refine w_ias X 15 plt_15 ko_15 (t0 := 0) rfl h_4 dX8_rowBehind_32 33 rfl ?_
      refine w_letm hF (fun m_5 hF => ?_)
      refine w_aload_n X 1 dX8_rowBehind_33 rfl rfl 34 rfl ?_
      refine w_getV (v := .ref (ad 15)) X 10 plt_10 ko_10 (T := TX8) (N := 10) rfl in_X8 5 (by decide) kF_X8_28 rfl rfl dX8_rowBehind_34 37 rfl ?_
      refine w_iload_n X 0 dX8_rowBehind_37 rfl rfl 38 rfl ?_
      refine w_gi hF (fun h_6 hF => ?_)
      refine w_ial X 15 plt_15 ko_15 (t0 := 0) rfl h_6 dX8_rowBehind_38 39 rfl ?_
      refine w_if_le X hF 48 42 dX8_rowBehind_39 (by decide) rfl (fun hF => ?_) (fun hF => ?_)
      · refine w_iload_n X 0 dX8_rowBehind_42 rfl rfl 43 rfl ?_
        refine w_iconst X 1 dX8_rowBehind_43 rfl 44 rfl ?_
        refine w_iadd X dX8_rowBehind_44 45 rfl ?_
        refine w_goto X 51 dX8_rowBehind_45 (by decide) ?_
        exact w_iret X hQ (o_inj1 hF) (o_inj2 hF) rfl dX8_rowBehind_51
      · refine w_iload_n X 2 dX8_rowBehind_48 rfl rfl 49 rfl ?_
        refine w_iconst X 1 dX8_rowBehind_49 rfl 50 rfl ?_
        refine w_iadd X dX8_rowBehind_50 51 rfl ?_
        exact w_iret X hQ (o_inj1 hF) (o_inj2 hF) rfl dX8_rowBehind_51
    · refine w_iload_n X 2 dX8_rowBehind_19 rfl rfl 20 rfl ?_
      refine w_iconst X 1 dX8_rowBehind_20 rfl 21 rfl ?_
      refine w_iadd X dX8_rowBehind_21 22 rfl ?_
      exact w_iret X hQ (o_inj1 hF) (o_inj2 hF) rfl dX8_rowBehind_22

def K_X6_mayMove (fu : Nat) (r : Nat) (x1 : Int32) (mem : Mem) : Option Int32 := bd (K_X6_hasEnded fu r mem) (fun x_1 => (if x_1 = 0 then bd (K_X6_landing fu r (rd mem (pRace r) 6) x1 mem) (fun x_2 => (if x_2 = (-1) then some 0 else some 1)) else some 0))
def rm_X6_mayMove : Room := { frames := 3, cells := 0, slots := 0, locals := 72 }
set_option maxHeartbeats 4000000 in
set_option maxRecDepth 100000 in
theorem ct_X6_mayMove (l : Launch) {D : va_G} {ca ad : Nat → Nat} {Z : (Nat → Prop) → State → Heap → Prop} (hZ : ZOK Z) {tO : Nat} {sK sV : Nat → Nat} (hO : ZO Z tO sK sV) (fu : Nat) {r : Nat} (hr : r < 10) (x1 : Int32) (mem : Mem) (res : Int32) (hF : K_X6_mayMove fu r x1 mem = some res) : CI l D (tyL ca) 255 ad (cC ca ad) Z yX6_mayMove cX6_mayMove 2 .boolean rm_X6_mayMove [.ref (ad (pRace r)), .int x1] mem res mem := by
  refine start_i (own := RX6) rfl (by decide) (Nat.le_of_ble_eq_true rfl) ?_
  intro p e s m args below meth c Q hQ X
  rw [K_X6_mayMove] at hF
  revert hF
  intro hF
  refine w_aload_n X 0 dX6_mayMove_0 rfl rfl 1 rfl ?_
  refine w_callVi (fun x => x) (fun _ => mem) X hZ hF [] (pRace r) (lt_Race hr) ko_Race rfl rfl rfl kB_X6_hasEnded kL_X6_80 (fun res h => ct_X6_hasEnded l hZ hO fu hr mem res h) rfl rfl rfl ⟨Nat.le_of_ble_eq_true rfl, Nat.le_of_ble_eq_true rfl⟩ (Nat.le_of_ble_eq_true rfl) ⟨Nat.zero_le _, Nat.zero_le _⟩ dX6_mayMove_1 4 rfl (fun x_1 hF => ?_)
  refine w_if_ne X hF 24 7 dX6_mayMove_4 (by decide) rfl (fun hF => ?_) (fun hF => ?_)
  · refine w_aload_n X 0 dX6_mayMove_7 rfl rfl 8 rfl ?_
    refine w_aload_n X 0 dX6_mayMove_8 rfl rfl 9 rfl ?_
    refine w_getV (v := .int (rd mem (pRace r) 6)) X (pRace r) (lt_Race hr) ko_Race (T := TX6) (N := 8) rfl in_X6 6 (by decide) kF_X6_46 rfl rfl dX6_mayMove_9 12 rfl ?_
    refine w_iload_n X 1 dX6_mayMove_12 rfl rfl 13 rfl ?_
    refine w_callVi (fun x => x) (fun _ => mem) X hZ hF [.int (rd mem (pRace r) 6), .int x1] (pRace r) (lt_Race hr) ko_Race rfl rfl rfl kB_X6_landing kL_X6_107 (fun res h => ct_X6_landing l hZ hO fu hr (rd mem (pRace r) 6) x1 mem res h) rfl rfl rfl ⟨Nat.le_of_ble_eq_true rfl, Nat.le_of_ble_eq_true rfl⟩ (Nat.le_of_ble_eq_true rfl) ⟨Nat.zero_le _, Nat.zero_le _⟩ dX6_mayMove_13 16 rfl (fun x_2 hF => ?_)
    refine w_iconst X (-1) dX6_mayMove_16 rfl 17 rfl ?_
    refine w_icmp_eq X hF 24 20 dX6_mayMove_17 (by decide) rfl (fun hF => ?_) (fun hF => ?_)
    · refine w_iconst X 0 dX6_mayMove_24 rfl 25 rfl ?_
      exact w_iret X hQ (o_inj hF) rfl rfl dX6_mayMove_25
    · refine w_iconst X 1 dX6_mayMove_20 rfl 21 rfl ?_
      refine w_goto X 25 dX6_mayMove_21 (by decide) ?_
      exact w_iret X hQ (o_inj hF) rfl rfl dX6_mayMove_25
  · refine w_iconst X 0 dX6_mayMove_24 rfl 25 rfl ?_
    exact w_iret X hQ (o_inj hF) rfl rfl dX6_mayMove_25

def K_X8_perform (fu : Nat) (r1 : Nat) (x3 : Int32) (mem : Mem) : Option (Int32 × Mem) := gi x3 60 (lt_ (rd mem 12 (Int32.toNatClampNeg x3)) (fun x_2 => gi x3 60 (lt_ (rd mem 13 (Int32.toNatClampNeg x3)) (fun x_4 => gi x3 60 (lt_ (rd mem 11 (Int32.toNatClampNeg x3)) (fun x_6 => (if x_6 = 0 then bd (K_X6_mayMove fu r1 x_2 mem) (fun x_8 => (if x_8 = 0 then some (0, mem) else bd (K_X6_move fu r1 x_2 mem) (fun m_9 => some (1, m_9)))) else (if x_6 = 1 then gi x3 60 (bd (K_X5_mayBuild fu r1 x_2 x_4 (rd mem 14 (Int32.toNatClampNeg x3)) mem) (fun p_12 => (if p_12.1 = 0 then some (0, p_12.2) else gi x3 60 (bd (K_X6_buildWall fu r1 x_2 x_4 (rd p_12.2 14 (Int32.toNatClampNeg x3)) p_12.2) (fun m_14 => some (1, m_14)))))) else (if x_6 = 2 then bd (K_X6_mayPass fu r1 mem) (fun x_16 => (if x_16 = 0 then some (0, mem) else bd (K_X6_endTurn fu r1 mem) (fun m_17 => some (1, m_17)))) else (if x_6 = 3 then bd (K_X11_mayPlay fu x_2 x_4 mem) (fun x_19 => (if x_19 = 0 then some (0, mem) else bd (K_X5_playTurns fu r1 x_2 x_4 mem) (fun p_20 => some (1, p_20.2)))) else bd (K_X6_mayPass fu r1 mem) (fun x_21 => (if x_21 = 0 then some (0, mem) else bd (K_X6_endTurn fu r1 mem) (fun m_22 => some (1, m_22))))))))))))))
def rm_X8_perform : Room := { frames := 5, cells := 0, slots := 0, locals := 133 }
set_option maxHeartbeats 4000000 in
set_option maxRecDepth 100000 in
theorem ct_X8_perform (l : Launch) {D : va_G} {ca ad : Nat → Nat} {Z : (Nat → Prop) → State → Heap → Prop} (hZ : ZOK Z) {tO : Nat} {sK sV : Nat → Nat} (hO : ZO Z tO sK sV) (fu : Nat) {r1 : Nat} (hr1 : r1 < 10) (x3 : Int32) (mem : Mem) (res : (Int32 × Mem)) (hF : K_X8_perform fu r1 x3 mem = some res) : CI l D (tyL ca) 255 ad (cC ca ad) Z yX8_perform cX8_perform 6 .boolean rm_X8_perform [.ref (ad 10), .ref (ad (pRace r1)), .ref (ad 17), .int x3] mem res.1 res.2 := by
  refine start_i (own := RX8) rfl (by decide) (Nat.le_of_ble_eq_true rfl) ?_
  intro p e s m args below meth c Q hQ X
  rw [K_X8_perform] at hF
  revert hF
  intro hF
  refine w_aload_n X 0 dX8_perform_0 rfl rfl 1 rfl ?_
  refine w_getV (v := .ref (ad 12)) X 10 plt_10 ko_10 (T := TX8) (N := 10) rfl in_X8 2 (by decide) kF_X8_19 rfl rfl dX8_perform_1 4 rfl ?_
  refine w_iload_n X 3 dX8_perform_4 rfl rfl 5 rfl ?_
  refine w_gi hF (fun h_1 hF => ?_)
  refine w_ial X 12 plt_12 ko_12 (t0 := 0) rfl h_1 dX8_perform_5 6 rfl ?_
  refine w_let hF (fun x_2 hF => ?_)
  refine w_istore X [(4, .int x_2), (0, .ref (ad 10)), (1, .ref (ad (pRace r1))), (2, .ref (ad 17)), (3, .int x3)] dX8_perform_6 (by decide) rfl 8 rfl ?_
  refine w_aload_n X 1 dX8_perform_8 rfl rfl 9 rfl ?_
  refine w_getV (v := .ref (ad 13)) X 10 plt_10 ko_10 (T := TX8) (N := 10) rfl in_X8 3 (by decide) kF_X8_22 rfl rfl dX8_perform_9 12 rfl ?_
  refine w_iload_n X 4 dX8_perform_12 rfl rfl 13 rfl ?_
  refine w_gi hF (fun h_3 hF => ?_)
  refine w_ial X 13 plt_13 ko_13 (t0 := 0) rfl h_3 dX8_perform_13 14 rfl ?_
  refine w_let hF (fun x_4 hF => ?_)
  refine w_istore X [(5, .int x_4), (4, .int x_2), (0, .ref (ad 10)), (1, .ref (ad (pRace r1))), (2, .ref (ad 17)), (3, .int x3)] dX8_perform_14 (by decide) rfl 16 rfl ?_
  refine w_aload_n X 2 dX8_perform_16 rfl rfl 17 rfl ?_
  refine w_getV (v := .ref (ad 11)) X 10 plt_10 ko_10 (T := TX8) (N := 10) rfl in_X8 1 (by decide) kF_X8_15 rfl rfl dX8_perform_17 20 rfl ?_
  refine w_iload_n X 5 dX8_perform_20 rfl rfl 21 rfl ?_
  refine w_gi hF (fun h_5 hF => ?_)
  refine w_ial X 11 plt_11 ko_11 (t0 := 0) rfl h_5 dX8_perform_21 22 rfl ?_
  refine w_let hF (fun x_6 hF => ?_)
  refine w_case (v := 0) hF (fun h_7 hF => ?_) (fun h_7 hF => ?_)
  · refine w_tin X 52 dX8_perform_22 h_7 (by decide) (by decide) rfl (by decide) ?_
    refine w_aload_n X 3 dX8_perform_52 rfl rfl 53 rfl ?_
    refine w_iload X 1 dX8_perform_53 rfl 55 rfl ?_
    refine w_callVi (fun x => x) (fun _ => mem) X hZ hF [.int x_2] (pRace r1) (lt_Race hr1) ko_Race rfl rfl rfl kB_X6_mayMove kL_X8_131 (fun res h => ct_X6_mayMove l hZ hO fu hr1 x_2 mem res h) rfl rfl rfl ⟨Nat.le_of_ble_eq_true rfl, Nat.le_of_ble_eq_true rfl⟩ (Nat.le_of_ble_eq_true rfl) ⟨Nat.zero_le _, Nat.zero_le _⟩ dX8_perform_55 58 rfl (fun x_8 hF => ?_)
    refine w_if_ne X hF 63 61 dX8_perform_58 (by decide) rfl (fun hF => ?_) (fun hF => ?_)
    · refine w_iconst X 0 dX8_perform_61 rfl 62 rfl ?_
      exact w_iret X hQ (o_inj1 hF) (o_inj2 hF) rfl dX8_perform_62
    · refine w_aload_n X 3 dX8_perform_63 rfl rfl 64 rfl ?_
      refine w_iload X 1 dX8_perform_64 rfl 66 rfl ?_
      refine w_callVv (fun m => m) X hZ hF [.int x_2] (pRace r1) (lt_Race hr1) ko_Race rfl rfl rfl kB_X6_move kL_X8_136 (fun res h => ct_X6_move l hZ hO fu hr1 x_2 mem res h) rfl rfl rfl ⟨Nat.le_of_ble_eq_true rfl, Nat.le_of_ble_eq_true rfl⟩ (Nat.le_of_ble_eq_true rfl) ⟨Nat.zero_le _, Nat.zero_le _⟩ dX8_perform_66 69 rfl (fun m_9 hF => ?_)
      refine w_iconst X 1 dX8_perform_69 rfl 70 rfl ?_
      exact w_iret X hQ (o_inj1 hF) (o_inj2 hF) rfl dX8_perform_70
  refine w_case (v := 1) hF (fun h_10 hF => ?_) (fun h_10 hF => ?_)
  · refine w_tin X 71 dX8_perform_22 h_10 (by decide) (by decide) rfl (by decide) ?_
    refine w_aload_n X 4 dX8_perform_71 rfl rfl 72 rfl ?_
    refine w_aload_n X 3 dX8_perform_72 rfl rfl 73 rfl ?_
    refine w_iload X 1 dX8_perform_73 rfl 75 rfl ?_
    refine w_iload X 0 dX8_perform_75 rfl 77 rfl ?_
    refine w_aload_n X 2 dX8_perform_77 rfl rfl 78 rfl ?_
    refine w_getV (v := .ref (ad 14)) X 10 plt_10 ko_10 (T := TX8) (N := 10) rfl in_X8 4 (by decide) kF_X8_25 rfl rfl dX8_perform_78 81 rfl ?_
    refine w_iload_n X 5 dX8_perform_81 rfl rfl 82 rfl ?_
    refine w_gi hF (fun h_11 hF => ?_)
    refine w_ial X 14 plt_14 ko_14 (t0 := 0) rfl h_11 dX8_perform_82 83 rfl ?_
    refine w_callVi (fun x => x.1) (fun x => x.2) X hZ hF [.ref (ad (pRace r1)), .int x_2, .int x_4, .int (rd mem 14 (Int32.toNatClampNeg x3))] 17 plt_17 ko_17 rfl rfl rfl kB_X5_mayBuild kL_X8_140 (fun res h => ct_X5_mayBuild l hZ hO fu hr1 x_2 x_4 (rd mem 14 (Int32.toNatClampNeg x3)) mem res h) rfl rfl rfl ⟨Nat.le_of_ble_eq_true rfl, Nat.le_of_ble_eq_true rfl⟩ (Nat.le_of_ble_eq_true rfl) ⟨Nat.zero_le _, Nat.zero_le _⟩ dX8_perform_83 86 rfl (fun p_12 hF => ?_)
    refine w_if_ne X hF 91 89 dX8_perform_86 (by decide) rfl (fun hF => ?_) (fun hF => ?_)
    · refine w_iconst X 0 dX8_perform_89 rfl 90 rfl ?_
      exact w_iret X hQ (o_inj1 hF) (o_inj2 hF) rfl dX8_perform_90
    · refine w_aload_n X 3 dX8_perform_91 rfl rfl 92 rfl ?_
      refine w_iload X 1 dX8_perform_92 rfl 94 rfl ?_
      refine w_iload X 0 dX8_perform_94 rfl 96 rfl ?_
      refine w_aload_n X 2 dX8_perform_96 rfl rfl 97 rfl ?_
      refine w_getV (v := .ref (ad 14)) X 10 plt_10 ko_10 (T := TX8) (N := 10) rfl in_X8 4 (by decide) kF_X8_25 rfl rfl dX8_perform_97 100 rfl ?_
      refine w_iload_n X 5 dX8_perform_100 rfl rfl 101 rfl ?_
      refine w_gi hF (fun h_13 hF => ?_)
      refine w_ial X 14 plt_14 ko_14 (t0 := 0) rfl h_13 dX8_perform_101 102 rfl ?_
      refine w_callVv (fun m => m) X hZ hF [.int x_2, .int x_4, .int (rd p_12.2 14 (Int32.toNatClampNeg x3))] (pRace r1) (lt_Race hr1) ko_Race rfl rfl rfl kB_X6_buildWall kL_X8_146 (fun res h => ct_X6_buildWall l hZ hO fu hr1 x_2 x_4 (rd p_12.2 14 (Int32.toNatClampNeg x3)) p_12.2 res h) rfl rfl rfl ⟨Nat.le_of_ble_eq_true rfl, Nat.le_of_ble_eq_true rfl⟩ (Nat.le_of_ble_eq_true rfl) ⟨Nat.zero_le _, Nat.zero_le _⟩ dX8_perform_102 105 rfl (fun m_14 hF => ?_)
      refine w_iconst X 1 dX8_perform_105 rfl 106 rfl ?_
      exact w_iret X hQ (o_inj1 hF) (o_inj2 hF) rfl dX8_perform_106
  refine w_case (v := 2) hF (fun h_15 hF => ?_) (fun h_15 hF => ?_)
  · refine w_tin X 131 dX8_perform_22 h_15 (by decide) (by decide) rfl (by decide) ?_
    refine w_aload_n X 3 dX8_perform_131 rfl rfl 132 rfl ?_
    refine w_callVi (fun x => x) (fun _ => mem) X hZ hF [] (pRace r1) (lt_Race hr1) ko_Race rfl rfl rfl kB_X6_mayPass kL_X8_157 (fun res h => ct_X6_mayPass l hZ hO fu hr1 mem res h) rfl rfl rfl ⟨Nat.le_of_ble_eq_true rfl, Nat.le_of_ble_eq_true rfl⟩ (Nat.le_of_ble_eq_true rfl) ⟨Nat.zero_le _, Nat.zero_le _⟩ dX8_perform_132 135 rfl (fun x_16 hF => ?_)
    refine w_if_ne X hF 140 138 dX8_perform_135 (by decide) rfl (fun hF => ?_) (fun hF => ?_)
    · refine w_iconst X 0 dX8_perform_138 rfl 139 rfl ?_
      exact w_iret X hQ (o_inj1 hF) (o_inj2 hF) rfl dX8_perform_139
    · refine w_aload_n X 3 dX8_perform_140 rfl rfl 141 rfl ?_
      refine w_callVv (fun m => m) X hZ hF [] (pRace r1) (lt_Race hr1) ko_Race rfl rfl rfl kB_X6_endTurn kL_X8_160 (fun res h => ct_X6_endTurn l hZ hO fu hr1 mem res h) rfl rfl rfl ⟨Nat.le_of_ble_eq_true rfl, Nat.le_of_ble_eq_true rfl⟩ (Nat.le_of_ble_eq_true rfl) ⟨Nat.zero_le _, Nat.zero_le _⟩ dX8_perform_141 144 rfl (fun m_17 hF => ?_)
      refine w_iconst X 1 dX8_perform_144 rfl 145 rfl ?_
      exact w_iret X hQ (o_inj1 hF) (o_inj2 hF) rfl dX8_perform_145
  refine w_case (v := 3) hF (fun h_18 hF => ?_) (fun h_18 hF => ?_)
  · refine w_tin X 107 dX8_perform_22 h_18 (by decide) (by decide) rfl (by decide) ?_
    refine w_iload X 1 dX8_perform_107 rfl 109 rfl ?_
    refine w_iload X 0 dX8_perform_109 rfl 111 rfl ?_
    refine w_callNi (fun x => x) (fun _ => mem) X hZ hF [.int x_2, .int x_4] rfl kB_X11_mayPlay (hO _ _ _ X.2.2.2.2.2).1.2.2.2.2.2.2 (fun res h => ct_X11_mayPlay l hZ hO fu x_2 x_4 mem res h) rfl rfl rfl ⟨Nat.le_of_ble_eq_true rfl, Nat.le_of_ble_eq_true rfl⟩ (Nat.le_of_ble_eq_true rfl) ⟨Nat.zero_le _, Nat.zero_le _⟩ dX8_perform_111 114 rfl (fun x_19 hF => ?_)
    refine w_if_ne X hF 119 117 dX8_perform_114 (by decide) rfl (fun hF => ?_) (fun hF => ?_)
    · refine w_iconst X 0 dX8_perform_117 rfl 118 rfl ?_
      exact w_iret X hQ (o_inj1 hF) (o_inj2 hF) rfl dX8_perform_118
    · refine w_aload_n X 4 dX8_perform_119 rfl rfl 120 rfl ?_
      refine w_aload_n X 3 dX8_perform_120 rfl rfl 121 rfl ?_
      refine w_iload X 1 dX8_perform_121 rfl 123 rfl ?_
      refine w_iload X 0 dX8_perform_123 rfl 125 rfl ?_
      refine w_callVi (fun x => x.1) (fun x => x.2) X hZ hF [.ref (ad (pRace r1)), .int x_2, .int x_4] 17 plt_17 ko_17 rfl rfl rfl kB_X5_playTurns kL_X8_153 (fun res h => ct_X5_playTurns l hZ hO fu hr1 x_2 x_4 mem res h) rfl rfl rfl ⟨Nat.le_of_ble_eq_true rfl, Nat.le_of_ble_eq_true rfl⟩ (Nat.le_of_ble_eq_true rfl) ⟨Nat.zero_le _, Nat.zero_le _⟩ dX8_perform_125 128 rfl (fun p_20 hF => ?_)
      refine w_pop X dX8_perform_128 rfl 129 rfl ?_
      refine w_iconst X 1 dX8_perform_129 rfl 130 rfl ?_
      exact w_iret X hQ (o_inj1 hF) (o_inj2 hF) rfl dX8_perform_130
  refine w_tout X 131 dX8_perform_22 (by have := lv_neT h_7 (show (0 : Int32).toInt = 0 from rfl); have := lv_neT h_10 (show (1 : Int32).toInt = 1 from rfl); have := lv_neT h_15 (show (2 : Int32).toInt = 2 from rfl); have := lv_neT h_18 (show (3 : Int32).toInt = 3 from rfl); omega) (by decide) ?_
  refine w_aload_n X 3 dX8_perform_131 rfl rfl 132 rfl ?_
  refine w_callVi (fun x => x) (fun _ => mem) X hZ hF [] (pRace r1) (lt_Race hr1) ko_Race rfl rfl rfl kB_X6_mayPass kL_X8_157 (fun res h => ct_X6_mayPass l hZ hO fu hr1 mem res h) rfl rfl rfl ⟨Nat.le_of_ble_eq_true rfl, Nat.le_of_ble_eq_true rfl⟩ (Nat.le_of_ble_eq_true rfl) ⟨Nat.zero_le _, Nat.zero_le _⟩ dX8_perform_132 135 rfl (fun x_21 hF => ?_)
  refine w_if_ne X hF 140 138 dX8_perform_135 (by decide) rfl (fun hF => ?_) (fun hF => ?_)
  · refine w_iconst X 0 dX8_perform_138 rfl 139 rfl ?_
    exact w_iret X hQ (o_inj1 hF) (o_inj2 hF) rfl dX8_perform_139
  · refine w_aload_n X 3 dX8_perform_140 rfl rfl 141 rfl ?_
    refine w_callVv (fun m => m) X hZ hF [] (pRace r1) (lt_Race hr1) ko_Race rfl rfl rfl kB_X6_endTurn kL_X8_160 (fun res h => ct_X6_endTurn l hZ hO fu hr1 mem res h) rfl rfl rfl ⟨Nat.le_of_ble_eq_true rfl, Nat.le_of_ble_eq_true rfl⟩ (Nat.le_of_ble_eq_true rfl) ⟨Nat.zero_le _, Nat.zero_le _⟩ dX8_perform_141 144 rfl (fun m_22 hF => ?_)
    refine w_iconst X 1 dX8_perform_144 rfl 145 rfl ?_
    exact w_iret X hQ (o_inj1 hF) (o_inj2 hF) rfl dX8_perform_145

def K_X8_run_8 (fu : Nat) (r1 : Nat) : Nat → Int32 → Int32 → Int32 → Mem → Option (Int32 × Mem)
  | 0, _, _, _, _ => none
  | n + 1, x3, x4, x5, mem => (if x5 < 1000000 then (if x4 < 0 then some (x3, mem) else (if x4 < (rd mem 10 6) then (if x3 < 40 then gi x4 60 ((if (rd mem 11 (Int32.toNatClampNeg x4)) = 4 then gi x4 60 (gi x4 60 (lt_ (mw mem 15 (Int32.toNatClampNeg x4) (rd mem 12 (Int32.toNatClampNeg x4))) (fun m_4 => (K_X8_run_8 fu r1 n x3 (x4 + 1) (x5 + 1) m_4)))) else gi x4 60 ((if (rd mem 11 (Int32.toNatClampNeg x4)) = 5 then bd (K_X8_rowBehind fu x4 mem) (fun p_6 => lt_ p_6.1 (fun x_7 => (K_X8_run_8 fu r1 n x3 x_7 (x5 + 1) p_6.2))) else bd (K_X8_perform fu r1 x4 mem) (fun p_8 => (if p_8.1 = 0 then some (x3, p_8.2) else (K_X8_run_8 fu r1 n (x3 + 1) (x4 + 1) (x5 + 1) p_8.2))))))) else some (x3, mem)) else some (x3, mem))) else some (x3, mem))
def K_X8_run (fu : Nat) (r1 : Nat) (mem : Mem) : Option (Int32 × Mem) := (K_X8_run_8 fu r1 fu 0 0 0 mem)
def rm_X8_run : Room := { frames := 6, cells := 0, slots := 0, locals := 158 }
set_option maxHeartbeats 4000000 in
set_option maxRecDepth 100000 in
theorem ct_X8_run (l : Launch) {D : va_G} {ca ad : Nat → Nat} {Z : (Nat → Prop) → State → Heap → Prop} (hZ : ZOK Z) {tO : Nat} {sK sV : Nat → Nat} (hO : ZO Z tO sK sV) (fu : Nat) {r1 : Nat} (hr1 : r1 < 10) (mem : Mem) (res : (Int32 × Mem)) (hF : K_X8_run fu r1 mem = some res) : CI l D (tyL ca) 255 ad (cC ca ad) Z yX8_run cX8_run 6 .int rm_X8_run [.ref (ad 10), .ref (ad (pRace r1)), .ref (ad 17)] mem res.1 res.2 := by
  refine start_i (own := RX8) rfl (by decide) (Nat.le_of_ble_eq_true rfl) ?_
  intro p e s m args below meth c Q hQ X
  rw [K_X8_run] at hF
  revert hF
  have w_8 : ∀ (n : Nat) (x3 : Int32) (x4 : Int32) (x5 : Int32) (mem : Mem), K_X8_run_8 fu r1 n x3 x4 x5 mem = some res → WW D 255 ad (cC ca ad) p l e rm_X8_run s m args below meth c 6 0 0 Q mem 8 [(0, .ref (ad 10)), (1, .ref (ad (pRace r1))), (2, .ref (ad 17)), (3, .int x3), (4, .int x4), (5, .int x5)] [] := by
    intro n
    induction n with
    | zero => intro x3 x4 x5 mem hF; exact no_none (show (none : Option (Int32 × Mem)) = some res from hF)
    | succ n ih =>
      intro x3 x4 x5 mem hF
      rw [K_X8_run_8] at hF
      refine w_iload X 5 dX8_run_8 rfl 10 rfl ?_
      refine w_ldc X 1000000 kK_X8_122 dX8_run_10 12 rfl ?_
      refine w_icmp_ge X hF 116 15 dX8_run_12 (by decide) rfl (fun hF => ?_) (fun hF => ?_)
      · refine w_iload X 4 dX8_run_15 rfl 17 rfl ?_
        refine w_if_lt X hF 116 20 dX8_run_17 (by decide) rfl (fun hF => ?_) (fun hF => ?_)
        · refine w_iload_n X 3 dX8_run_116 rfl rfl 117 rfl ?_
          exact w_iret X hQ (o_inj1 hF) (o_inj2 hF) rfl dX8_run_117
        · refine w_iload X 4 dX8_run_20 rfl 22 rfl ?_
          refine w_aload_n X 0 dX8_run_22 rfl rfl 23 rfl ?_
          refine w_getV (v := .int (rd mem 10 6)) X 10 plt_10 ko_10 (T := TX8) (N := 10) rfl in_X8 6 (by decide) kF_X8_34 rfl rfl dX8_run_23 26 rfl ?_
          refine w_icmp_ge X hF 116 29 dX8_run_26 (by decide) rfl (fun hF => ?_) (fun hF => ?_)
          · refine w_iload_n X 3 dX8_run_29 rfl rfl 30 rfl ?_
            refine w_bipush X 40 dX8_run_30 rfl 32 rfl ?_
            refine w_icmp_ge X hF 116 35 dX8_run_32 (by decide) rfl (fun hF => ?_) (fun hF => ?_)
            · refine w_aload_n X 0 dX8_run_35 rfl rfl 36 rfl ?_
              refine w_getV (v := .ref (ad 11)) X 10 plt_10 ko_10 (T := TX8) (N := 10) rfl in_X8 1 (by decide) kF_X8_15 rfl rfl dX8_run_36 39 rfl ?_
              refine w_iload X 4 dX8_run_39 rfl 41 rfl ?_
              refine w_gi hF (fun h_1 hF => ?_)
              refine w_ial X 11 plt_11 ko_11 (t0 := 0) rfl h_1 dX8_run_41 42 rfl ?_
              refine w_iconst X 4 dX8_run_42 rfl 43 rfl ?_
              refine w_icmp_ne X hF 66 46 dX8_run_43 (by decide) rfl (fun hF => ?_) (fun hF => ?_)
              · refine w_aload_n X 0 dX8_run_46 rfl rfl 47 rfl ?_
                refine w_getV (v := .ref (ad 15)) X 10 plt_10 ko_10 (T := TX8) (N := 10) rfl in_X8 5 (by decide) kF_X8_28 rfl rfl dX8_run_47 50 rfl ?_
                refine w_iload X 4 dX8_run_50 rfl 52 rfl ?_
                refine w_aload_n X 0 dX8_run_52 rfl rfl 53 rfl ?_
                refine w_getV (v := .ref (ad 12)) X 10 plt_10 ko_10 (T := TX8) (N := 10) rfl in_X8 2 (by decide) kF_X8_19 rfl rfl dX8_run_53 56 rfl ?_
                refine w_iload X 4 dX8_run_56 rfl 58 rfl ?_
                refine w_gi hF (fun h_2 hF => ?_)
                refine w_ial X 12 plt_12 ko_12 (t0 := 0) rfl h_2 dX8_run_58 59 rfl ?_
                refine w_gi hF (fun h_3 hF => ?_)
                refine w_ias X 15 plt_15 ko_15 (t0 := 0) rfl h_3 dX8_run_59 60 rfl ?_
                refine w_letm hF (fun m_4 hF => ?_)
                refine w_iinc X 4 (x4 + 1) [(4, .int (x4 + 1)), (0, .ref (ad 10)), (1, .ref (ad (pRace r1))), (2, .ref (ad 17)), (3, .int x3), (5, .int x5)] dX8_run_60 rfl rfl (by decide) rfl 63 rfl ?_
                refine w_goto X 110 dX8_run_63 (by decide) ?_
                refine w_iinc X 5 (x5 + 1) [(5, .int (x5 + 1)), (4, .int (x4 + 1)), (0, .ref (ad 10)), (1, .ref (ad (pRace r1))), (2, .ref (ad 17)), (3, .int x3)] dX8_run_110 rfl rfl (by decide) rfl 113 rfl ?_
                refine w_goto X 8 dX8_run_113 (by decide) ?_
                refine w_keep [2, 3, 4, 5, 1, 0] rfl ?_
                exact ih x3 (x4 + 1) (x5 + 1) m_4 hF
              · refine w_aload_n X 0 dX8_run_66 rfl rfl 67 rfl ?_
                refine w_getV (v := .ref (ad 11)) X 10 plt_10 ko_10 (T := TX8) (N := 10) rfl in_X8 1 (by decide) kF_X8_15 rfl rfl dX8_run_67 70 rfl ?_
                refine w_iload X 4 dX8_run_70 rfl 72 rfl ?_
                refine w_gi hF (fun h_5 hF => ?_)
                refine w_ial X 11 plt_11 ko_11 (t0 := 0) rfl h_5 dX8_run_72 73 rfl ?_
                refine w_iconst X 5 dX8_run_73 rfl 74 rfl ?_
                refine w_icmp_ne X hF 88 77 dX8_run_74 (by decide) rfl (fun hF => ?_) (fun hF => ?_)
                · refine w_aload_n X 0 dX8_run_77 rfl rfl 78 rfl ?_
                  refine w_iload X 4 dX8_run_78 rfl 80 rfl ?_
                  refine w_callVi (fun x => x.1) (fun x => x.2) X hZ hF [.int x4] 10 plt_10 ko_10 rfl rfl rfl kB_X8_rowBehind kL_X8_123 (fun res h => ct_X8_rowBehind l hZ hO fu x4 mem res h) rfl rfl rfl ⟨Nat.le_of_ble_eq_true rfl, Nat.le_of_ble_eq_true rfl⟩ (Nat.le_of_ble_eq_true rfl) ⟨Nat.zero_le _, Nat.zero_le _⟩ dX8_run_80 83 rfl (fun p_6 hF => ?_)
                  refine w_let hF (fun x_7 hF => ?_)
                  refine w_istore X [(4, .int x_7), (0, .ref (ad 10)), (1, .ref (ad (pRace r1))), (2, .ref (ad 17)), (3, .int x3), (5, .int x5)] dX8_run_83 (by decide) rfl 85 rfl ?_
                  refine w_goto X 110 dX8_run_85 (by decide) ?_
                  refine w_iinc X 5 (x5 + 1) [(5, .int (x5 + 1)), (4, .int x_7), (0, .ref (ad 10)), (1, .ref (ad (pRace r1))), (2, .ref (ad 17)), (3, .int x3)] dX8_run_110 rfl rfl (by decide) rfl 113 rfl ?_
                  refine w_goto X 8 dX8_run_113 (by decide) ?_
                  refine w_keep [2, 3, 4, 5, 1, 0] rfl ?_
                  exact ih x3 x_7 (x5 + 1) p_6.2 hF
                · refine w_aload_n X 0 dX8_run_88 rfl rfl 89 rfl ?_
                  refine w_aload_n X 1 dX8_run_89 rfl rfl 90 rfl ?_
                  refine w_aload_n X 2 dX8_run_90 rfl rfl 91 rfl ?_
                  refine w_iload X 4 dX8_run_91 rfl 93 rfl ?_
                  refine w_callVi (fun x => x.1) (fun x => x.2) X hZ hF [.ref (ad (pRace r1)), .ref (ad 17), .int x4] 10 plt_10 ko_10 rfl rfl rfl kB_X8_perform kL_X8_127 (fun res h => ct_X8_perform l hZ hO fu hr1 x4 mem res h) rfl rfl rfl ⟨Nat.le_of_ble_eq_true rfl, Nat.le_of_ble_eq_true rfl⟩ (Nat.le_of_ble_eq_true rfl) ⟨Nat.zero_le _, Nat.zero_le _⟩ dX8_run_93 96 rfl (fun p_8 hF => ?_)
                  refine w_if_eq X hF 108 99 dX8_run_96 (by decide) rfl (fun hF => ?_) (fun hF => ?_)
                  · refine w_iload_n X 3 dX8_run_108 rfl rfl 109 rfl ?_
                    exact w_iret X hQ (o_inj1 hF) (o_inj2 hF) rfl dX8_run_109
                  · refine w_iinc X 3 (x3 + 1) [(3, .int (x3 + 1)), (0, .ref (ad 10)), (1, .ref (ad (pRace r1))), (2, .ref (ad 17)), (4, .int x4), (5, .int x5)] dX8_run_99 rfl rfl (by decide) rfl 102 rfl ?_
                    refine w_iinc X 4 (x4 + 1) [(4, .int (x4 + 1)), (3, .int (x3 + 1)), (0, .ref (ad 10)), (1, .ref (ad (pRace r1))), (2, .ref (ad 17)), (5, .int x5)] dX8_run_102 rfl rfl (by decide) rfl 105 rfl ?_
                    refine w_goto X 110 dX8_run_105 (by decide) ?_
                    refine w_iinc X 5 (x5 + 1) [(5, .int (x5 + 1)), (4, .int (x4 + 1)), (3, .int (x3 + 1)), (0, .ref (ad 10)), (1, .ref (ad (pRace r1))), (2, .ref (ad 17))] dX8_run_110 rfl rfl (by decide) rfl 113 rfl ?_
                    refine w_goto X 8 dX8_run_113 (by decide) ?_
                    refine w_keep [3, 4, 5, 2, 1, 0] rfl ?_
                    exact ih (x3 + 1) (x4 + 1) (x5 + 1) p_8.2 hF
            · refine w_iload_n X 3 dX8_run_116 rfl rfl 117 rfl ?_
              exact w_iret X hQ (o_inj1 hF) (o_inj2 hF) rfl dX8_run_117
          · refine w_iload_n X 3 dX8_run_116 rfl rfl 117 rfl ?_
            exact w_iret X hQ (o_inj1 hF) (o_inj2 hF) rfl dX8_run_117
      · refine w_iload_n X 3 dX8_run_116 rfl rfl 117 rfl ?_
        exact w_iret X hQ (o_inj1 hF) (o_inj2 hF) rfl dX8_run_117
  intro hF
  refine w_iconst X 0 dX8_run_0 rfl 1 rfl ?_
  refine w_istore_n X [(3, .int 0), (0, .ref (ad 10)), (1, .ref (ad (pRace r1))), (2, .ref (ad 17))] dX8_run_1 rfl (by decide) rfl 2 rfl ?_
  refine w_iconst X 0 dX8_run_2 rfl 3 rfl ?_
  refine w_istore X [(4, .int 0), (3, .int 0), (0, .ref (ad 10)), (1, .ref (ad (pRace r1))), (2, .ref (ad 17))] dX8_run_3 (by decide) rfl 5 rfl ?_
  refine w_iconst X 0 dX8_run_5 rfl 6 rfl ?_
  refine w_istore X [(5, .int 0), (4, .int 0), (3, .int 0), (0, .ref (ad 10)), (1, .ref (ad (pRace r1))), (2, .ref (ad 17))] dX8_run_6 (by decide) rfl 8 rfl ?_
  refine w_keep [3, 4, 5, 2, 1, 0] rfl ?_
  exact w_8 fu 0 0 0 mem hF

def K_X11_save (fu : Nat) (mem : Mem) : Option (Int32 × Mem) := bd (K_X6_copyFrom fu 3 0 mem) (fun m_1 => lt_ (mw m_1 0 10 1) (fun m_2 => some ((rd m_2 (pRace 3) 5), m_2)))
def rm_X11_save : Room := { frames := 3, cells := 0, slots := 0, locals := 83 }
set_option maxHeartbeats 4000000 in
set_option maxRecDepth 100000 in
theorem ct_X11_save (l : Launch) {D : va_G} {ca ad : Nat → Nat} {Z : (Nat → Prop) → State → Heap → Prop} (hZ : ZOK Z) {tO : Nat} {sK sV : Nat → Nat} (hO : ZO Z tO sK sV) (fu : Nat) (mem : Mem) (res : (Int32 × Mem)) (hF : K_X11_save fu mem = some res) : CI l D (tyL ca) 255 ad (cC ca ad) Z yX11_save cX11_save 1 .int rm_X11_save [.ref (ad 0)] mem res.1 res.2 := by
  refine start_i (own := RX11) rfl (by decide) (Nat.le_of_ble_eq_true rfl) ?_
  intro p e s m args below meth c Q hQ X
  rw [K_X11_save] at hF
  revert hF
  intro hF
  refine w_aload_n X 0 dX11_save_0 rfl rfl 1 rfl ?_
  refine w_getV (v := .ref (ad (pRace 3))) X 0 plt_0 ko_0 (T := TX11) (N := 14) rfl in_X11 9 (by decide) kF_X11_68 rfl rfl dX11_save_1 4 rfl ?_
  refine w_aload_n X 0 dX11_save_4 rfl rfl 5 rfl ?_
  refine w_getV (v := .ref (ad (pRace 0))) X 0 plt_0 ko_0 (T := TX11) (N := 14) rfl in_X11 6 (by decide) kF_X11_40 rfl rfl dX11_save_5 8 rfl ?_
  refine w_callVv (fun m => m) X hZ hF [.ref (ad (pRace 0))] (pRace 3) (lt_Race (by decide)) ko_Race rfl rfl rfl kB_X6_copyFrom kL_X11_115 (fun res h => ct_X6_copyFrom l hZ hO fu (by decide) (by decide) mem res h) rfl rfl rfl ⟨Nat.le_of_ble_eq_true rfl, Nat.le_of_ble_eq_true rfl⟩ (Nat.le_of_ble_eq_true rfl) ⟨Nat.zero_le _, Nat.zero_le _⟩ dX11_save_8 11 rfl (fun m_1 hF => ?_)
  refine w_aload_n X 0 dX11_save_11 rfl rfl 12 rfl ?_
  refine w_iconst X 1 dX11_save_12 rfl 13 rfl ?_
  refine w_putI X 0 plt_0 ko_0 (T := TX11) (N := 14) rfl in_X11 tyX11 tyX11_ok nmX11 10 (by decide) kF_X11_71 rfl rfl rfl rfl (Nat.le_of_ble_eq_true rfl) rfl dX11_save_13 16 rfl ?_
  refine w_letm hF (fun m_2 hF => ?_)
  refine w_aload_n X 0 dX11_save_16 rfl rfl 17 rfl ?_
  refine w_getV (v := .ref (ad (pRace 3))) X 0 plt_0 ko_0 (T := TX11) (N := 14) rfl in_X11 9 (by decide) kF_X11_68 rfl rfl dX11_save_17 20 rfl ?_
  refine w_getV (v := .int (rd m_2 (pRace 3) 5)) X (pRace 3) (lt_Race (by decide)) ko_Race (T := TX6) (N := 8) rfl in_X6 5 (by decide) kF_X11_158 rfl rfl dX11_save_20 23 rfl ?_
  exact w_iret X hQ (o_inj1 hF) (o_inj2 hF) rfl dX11_save_23

def K_X11_turnOf (fu : Nat) (mem : Mem) : Option Int32 := bd (K_X6_mover fu 0 mem) (fun x_1 => some x_1)
def rm_X11_turnOf : Room := { frames := 2, cells := 0, slots := 0, locals := 40 }
set_option maxHeartbeats 4000000 in
set_option maxRecDepth 100000 in
theorem ct_X11_turnOf (l : Launch) {D : va_G} {ca ad : Nat → Nat} {Z : (Nat → Prop) → State → Heap → Prop} (hZ : ZOK Z) {tO : Nat} {sK sV : Nat → Nat} (hO : ZO Z tO sK sV) (fu : Nat) (mem : Mem) (res : Int32) (hF : K_X11_turnOf fu mem = some res) : CI l D (tyL ca) 255 ad (cC ca ad) Z yX11_turnOf cX11_turnOf 1 .int rm_X11_turnOf [.ref (ad 0)] mem res mem := by
  refine start_i (own := RX11) rfl (by decide) (Nat.le_of_ble_eq_true rfl) ?_
  intro p e s m args below meth c Q hQ X
  rw [K_X11_turnOf] at hF
  revert hF
  intro hF
  refine w_aload_n X 0 dX11_turnOf_0 rfl rfl 1 rfl ?_
  refine w_getV (v := .ref (ad (pRace 0))) X 0 plt_0 ko_0 (T := TX11) (N := 14) rfl in_X11 6 (by decide) kF_X11_40 rfl rfl dX11_turnOf_1 4 rfl ?_
  refine w_callVi (fun x => x) (fun _ => mem) X hZ hF [] (pRace 0) (lt_Race (by decide)) ko_Race rfl rfl rfl kB_X6_mover kL_X11_200 (fun res h => ct_X6_mover l hZ hO fu (by decide) mem res h) rfl rfl rfl ⟨Nat.le_of_ble_eq_true rfl, Nat.le_of_ble_eq_true rfl⟩ (Nat.le_of_ble_eq_true rfl) ⟨Nat.zero_le _, Nat.zero_le _⟩ dX11_turnOf_4 7 rfl (fun x_1 hF => ?_)
  exact w_iret X hQ (o_inj hF) rfl rfl dX11_turnOf_7

def K_X3_takeBack_27 (fu : Nat) (r1 : Nat) (xs0 : Int32) (mem : Mem) : Option (Int32 × Mem) := lt_ (mw mem 33 1 xs0) (fun m_1 => gi (rd m_1 33 1) 6 (bd (K_X6_copyFrom fu r1 (4 + (Int32.toNatClampNeg (rd m_1 33 1))) m_1) (fun m_3 => lt_ (mw m_3 33 2 ((rd m_3 33 2) - 1)) (fun m_4 => some (1, m_4)))))
def K_X3_takeBack (fu : Nat) (r1 : Nat) (mem : Mem) : Option (Int32 × Mem) := (if (rd mem 33 2) = 0 then some (0, mem) else (if 0 < (rd mem 33 1) then (K_X3_takeBack_27 fu r1 ((rd mem 33 1) - 1) mem) else (K_X3_takeBack_27 fu r1 5 mem)))
def rm_X3_takeBack : Room := { frames := 3, cells := 0, slots := 0, locals := 83 }
set_option maxHeartbeats 4000000 in
set_option maxRecDepth 100000 in
theorem ct_X3_takeBack (l : Launch) {D : va_G} {ca ad : Nat → Nat} {Z : (Nat → Prop) → State → Heap → Prop} (hZ : ZOK Z) {tO : Nat} {sK sV : Nat → Nat} (hO : ZO Z tO sK sV) (fu : Nat) {r1 : Nat} (hr1 : r1 < 10) (mem : Mem) (res : (Int32 × Mem)) (hF : K_X3_takeBack fu r1 mem = some res) : CI l D (tyL ca) 255 ad (cC ca ad) Z yX3_takeBack cX3_takeBack 2 .boolean rm_X3_takeBack [.ref (ad 33), .ref (ad (pRace r1))] mem res.1 res.2 := by
  refine start_i (own := RX3) rfl (by decide) (Nat.le_of_ble_eq_true rfl) ?_
  intro p e s m args below meth c Q hQ X
  rw [K_X3_takeBack] at hF
  revert hF
  have w_27 : ∀ (xs0 : Int32) (mem : Mem), K_X3_takeBack_27 fu r1 xs0 mem = some res → WW D 255 ad (cC ca ad) p l e rm_X3_takeBack s m args below meth c 2 0 0 Q mem 27 [(0, .ref (ad 33)), (1, .ref (ad (pRace r1)))] [.int xs0, .ref (ad 33)] := by
    intro xs0 mem hF
    rw [K_X3_takeBack_27] at hF
    refine w_putI X 33 plt_33 ko_33 (T := TX3) (N := 3) rfl in_X3 tyX3 tyX3_ok nmX3 1 (by decide) kF_X3_18 rfl rfl rfl rfl (Nat.le_of_ble_eq_true rfl) rfl dX3_takeBack_27 30 rfl ?_
    refine w_letm hF (fun m_1 hF => ?_)
    refine w_aload_n X 1 dX3_takeBack_30 rfl rfl 31 rfl ?_
    refine w_aload_n X 0 dX3_takeBack_31 rfl rfl 32 rfl ?_
    refine w_getV (v := .ref (ad 34)) X 33 plt_33 ko_33 (T := TX3) (N := 3) rfl in_X3 0 (by decide) kF_X3_11 rfl rfl dX3_takeBack_32 35 rfl ?_
    refine w_aload_n X 0 dX3_takeBack_35 rfl rfl 36 rfl ?_
    refine w_getV (v := .int (rd m_1 33 1)) X 33 plt_33 ko_33 (T := TX3) (N := 3) rfl in_X3 1 (by decide) kF_X3_18 rfl rfl dX3_takeBack_36 39 rfl ?_
    refine w_gi hF (fun h_2 hF => ?_)
    refine w_aal X 34 plt_34 (pRace (4 + (Int32.toNatClampNeg (rd m_1 33 1)))) ko_34 (t0 := 4) rfl h_2 (el_Kept (vp_lt h_2)) dX3_takeBack_39 40 rfl ?_
    refine w_callVv (fun m => m) X hZ hF [.ref (ad (pRace (4 + (Int32.toNatClampNeg (rd m_1 33 1)))))] (pRace r1) (lt_Race hr1) ko_Race rfl rfl rfl kB_X6_copyFrom kL_X3_22 (fun res h => ct_X6_copyFrom l hZ hO fu hr1 (by have := vp_lt h_2; omega) m_1 res h) rfl rfl rfl ⟨Nat.le_of_ble_eq_true rfl, Nat.le_of_ble_eq_true rfl⟩ (Nat.le_of_ble_eq_true rfl) ⟨Nat.zero_le _, Nat.zero_le _⟩ dX3_takeBack_40 43 rfl (fun m_3 hF => ?_)
    refine w_aload_n X 0 dX3_takeBack_43 rfl rfl 44 rfl ?_
    refine w_dup X dX3_takeBack_44 rfl 45 rfl ?_
    refine w_getV (v := .int (rd m_3 33 2)) X 33 plt_33 ko_33 (T := TX3) (N := 3) rfl in_X3 2 (by decide) kF_X3_26 rfl rfl dX3_takeBack_45 48 rfl ?_
    refine w_iconst X 1 dX3_takeBack_48 rfl 49 rfl ?_
    refine w_isub X dX3_takeBack_49 50 rfl ?_
    refine w_putI X 33 plt_33 ko_33 (T := TX3) (N := 3) rfl in_X3 tyX3 tyX3_ok nmX3 2 (by decide) kF_X3_26 rfl rfl rfl rfl (Nat.le_of_ble_eq_true rfl) rfl dX3_takeBack_50 53 rfl ?_
    refine w_letm hF (fun m_4 hF => ?_)
    refine w_iconst X 1 dX3_takeBack_53 rfl 54 rfl ?_
    exact w_iret X hQ (o_inj1 hF) (o_inj2 hF) rfl dX3_takeBack_54
  intro hF
  refine w_aload_n X 0 dX3_takeBack_0 rfl rfl 1 rfl ?_
  refine w_getV (v := .int (rd mem 33 2)) X 33 plt_33 ko_33 (T := TX3) (N := 3) rfl in_X3 2 (by decide) kF_X3_26 rfl rfl dX3_takeBack_1 4 rfl ?_
  refine w_if_ne X hF 9 7 dX3_takeBack_4 (by decide) rfl (fun hF => ?_) (fun hF => ?_)
  · refine w_iconst X 0 dX3_takeBack_7 rfl 8 rfl ?_
    exact w_iret X hQ (o_inj1 hF) (o_inj2 hF) rfl dX3_takeBack_8
  · refine w_aload_n X 0 dX3_takeBack_9 rfl rfl 10 rfl ?_
    refine w_aload_n X 0 dX3_takeBack_10 rfl rfl 11 rfl ?_
    refine w_getV (v := .int (rd mem 33 1)) X 33 plt_33 ko_33 (T := TX3) (N := 3) rfl in_X3 1 (by decide) kF_X3_18 rfl rfl dX3_takeBack_11 14 rfl ?_
    refine w_if_le X hF 26 17 dX3_takeBack_14 (by decide) rfl (fun hF => ?_) (fun hF => ?_)
    · refine w_aload_n X 0 dX3_takeBack_17 rfl rfl 18 rfl ?_
      refine w_getV (v := .int (rd mem 33 1)) X 33 plt_33 ko_33 (T := TX3) (N := 3) rfl in_X3 1 (by decide) kF_X3_18 rfl rfl dX3_takeBack_18 21 rfl ?_
      refine w_iconst X 1 dX3_takeBack_21 rfl 22 rfl ?_
      refine w_isub X dX3_takeBack_22 23 rfl ?_
      refine w_goto X 27 dX3_takeBack_23 (by decide) ?_
      refine w_keep [0, 1] rfl ?_
      exact w_27 ((rd mem 33 1) - 1) mem hF
    · refine w_iconst X 5 dX3_takeBack_26 rfl 27 rfl ?_
      refine w_keep [0, 1] rfl ?_
      exact w_27 5 mem hF

def K_X11_undo (fu : Nat) (mem : Mem) : Option (Int32 × Mem) := bd (K_X3_takeBack fu 0 mem) (fun p_1 => (if p_1.1 = 0 then some ((-1), p_1.2) else some ((rd p_1.2 33 2), p_1.2)))
def rm_X11_undo : Room := { frames := 4, cells := 0, slots := 0, locals := 104 }
set_option maxHeartbeats 4000000 in
set_option maxRecDepth 100000 in
theorem ct_X11_undo (l : Launch) {D : va_G} {ca ad : Nat → Nat} {Z : (Nat → Prop) → State → Heap → Prop} (hZ : ZOK Z) {tO : Nat} {sK sV : Nat → Nat} (hO : ZO Z tO sK sV) (fu : Nat) (mem : Mem) (res : (Int32 × Mem)) (hF : K_X11_undo fu mem = some res) : CI l D (tyL ca) 255 ad (cC ca ad) Z yX11_undo cX11_undo 1 .int rm_X11_undo [.ref (ad 0)] mem res.1 res.2 := by
  refine start_i (own := RX11) rfl (by decide) (Nat.le_of_ble_eq_true rfl) ?_
  intro p e s m args below meth c Q hQ X
  rw [K_X11_undo] at hF
  revert hF
  intro hF
  refine w_aload_n X 0 dX11_undo_0 rfl rfl 1 rfl ?_
  refine w_getV (v := .ref (ad 33)) X 0 plt_0 ko_0 (T := TX11) (N := 14) rfl in_X11 11 (by decide) kF_X11_78 rfl rfl dX11_undo_1 4 rfl ?_
  refine w_aload_n X 0 dX11_undo_4 rfl rfl 5 rfl ?_
  refine w_getV (v := .ref (ad (pRace 0))) X 0 plt_0 ko_0 (T := TX11) (N := 14) rfl in_X11 6 (by decide) kF_X11_40 rfl rfl dX11_undo_5 8 rfl ?_
  refine w_callVi (fun x => x.1) (fun x => x.2) X hZ hF [.ref (ad (pRace 0))] 33 plt_33 ko_33 rfl rfl rfl kB_X3_takeBack kL_X11_355 (fun res h => ct_X3_takeBack l hZ hO fu (by decide) mem res h) rfl rfl rfl ⟨Nat.le_of_ble_eq_true rfl, Nat.le_of_ble_eq_true rfl⟩ (Nat.le_of_ble_eq_true rfl) ⟨Nat.zero_le _, Nat.zero_le _⟩ dX11_undo_8 11 rfl (fun p_1 hF => ?_)
  refine w_if_eq X hF 24 14 dX11_undo_11 (by decide) rfl (fun hF => ?_) (fun hF => ?_)
  · refine w_iconst X (-1) dX11_undo_24 rfl 25 rfl ?_
    exact w_iret X hQ (o_inj1 hF) (o_inj2 hF) rfl dX11_undo_25
  · refine w_aload_n X 0 dX11_undo_14 rfl rfl 15 rfl ?_
    refine w_getV (v := .ref (ad 33)) X 0 plt_0 ko_0 (T := TX11) (N := 14) rfl in_X11 11 (by decide) kF_X11_78 rfl rfl dX11_undo_15 18 rfl ?_
    refine w_getV (v := .int (rd p_1.2 33 2)) X 33 plt_33 ko_33 (T := TX3) (N := 3) rfl in_X3 2 (by decide) kF_X11_359 rfl rfl dX11_undo_18 21 rfl ?_
    refine w_goto X 25 dX11_undo_21 (by decide) ?_
    exact w_iret X hQ (o_inj1 hF) (o_inj2 hF) rfl dX11_undo_25

def K_X1_countWays_34 (fu : Nat) (r1 : Nat) : Nat → Int32 → Int32 → Int32 → Int32 → Mem → Option (Int32 × Mem)
  | 0, _, _, _, _, _ => none
  | n + 1, x2, x3, x4, x5, mem => (if x5 < x3 then bd (K_X1_goOn fu r1 x2 x5 mem) (fun p_3 => lt_ p_3.1 (fun x_4 => (K_X1_countWays_34 fu r1 n x2 x3 x_4 (x5 + 1) p_3.2))) else lt_ (x4 - x4 / 1000003 * 1000003) (fun x_5 => some (x_5, mem)))
def K_X1_countWays (fu : Nat) (r1 : Nat) (x2 : Int32) (x3 : Int32) (mem : Mem) : Option (Int32 × Mem) := gi x2 4 ((if (rd mem (pPawn r1 (Int32.toNatClampNeg x2)) 5) = 0 then bd (K_X1_begin fu r1 x2 mem) (fun m_2 => (K_X1_countWays_34 fu r1 fu x2 x3 0 0 m_2)) else (if x3 = 0 then some (1, mem) else some (0, mem))))
def rm_X1_countWays : Room := { frames := 3, cells := 0, slots := 0, locals := 77 }
set_option maxHeartbeats 4000000 in
set_option maxRecDepth 100000 in
theorem ct_X1_countWays (l : Launch) {D : va_G} {ca ad : Nat → Nat} {Z : (Nat → Prop) → State → Heap → Prop} (hZ : ZOK Z) {tO : Nat} {sK sV : Nat → Nat} (hO : ZO Z tO sK sV) (fu : Nat) {r1 : Nat} (hr1 : r1 < 10) (x2 : Int32) (x3 : Int32) (mem : Mem) (res : (Int32 × Mem)) (hF : K_X1_countWays fu r1 x2 x3 mem = some res) : CI l D (tyL ca) 255 ad (cC ca ad) Z yX1_countWays cX1_countWays 6 .int rm_X1_countWays [.ref (ad 28), .ref (ad (pRace r1)), .int x2, .int x3] mem res.1 res.2 := by
  refine start_i (own := RX1) rfl (by decide) (Nat.le_of_ble_eq_true rfl) ?_
  intro p e s m args below meth c Q hQ X
  rw [K_X1_countWays] at hF
  revert hF
  have w_34 : ∀ (n : Nat) (x2 : Int32) (x3 : Int32) (x4 : Int32) (x5 : Int32) (mem : Mem), K_X1_countWays_34 fu r1 n x2 x3 x4 x5 mem = some res → WW D 255 ad (cC ca ad) p l e rm_X1_countWays s m args below meth c 6 0 0 Q mem 34 [(0, .ref (ad 28)), (1, .ref (ad (pRace r1))), (2, .int x2), (3, .int x3), (4, .int x4), (5, .int x5)] [] := by
    intro n
    induction n with
    | zero => intro x2 x3 x4 x5 mem hF; exact no_none (show (none : Option (Int32 × Mem)) = some res from hF)
    | succ n ih =>
      intro x2 x3 x4 x5 mem hF
      rw [K_X1_countWays_34] at hF
      refine w_iload X 5 dX1_countWays_34 rfl 36 rfl ?_
      refine w_iload_n X 3 dX1_countWays_36 rfl rfl 37 rfl ?_
      refine w_icmp_ge X hF 56 40 dX1_countWays_37 (by decide) rfl (fun hF => ?_) (fun hF => ?_)
      · refine w_aload_n X 0 dX1_countWays_40 rfl rfl 41 rfl ?_
        refine w_aload_n X 1 dX1_countWays_41 rfl rfl 42 rfl ?_
        refine w_iload_n X 2 dX1_countWays_42 rfl rfl 43 rfl ?_
        refine w_iload X 5 dX1_countWays_43 rfl 45 rfl ?_
        refine w_callVi (fun x => x.1) (fun x => x.2) X hZ hF [.ref (ad (pRace r1)), .int x2, .int x5] 28 plt_28 ko_28 rfl rfl rfl kB_X1_goOn kL_X1_40 (fun res h => ct_X1_goOn l hZ hO fu hr1 x2 x5 mem res h) rfl rfl rfl ⟨Nat.le_of_ble_eq_true rfl, Nat.le_of_ble_eq_true rfl⟩ (Nat.le_of_ble_eq_true rfl) ⟨Nat.zero_le _, Nat.zero_le _⟩ dX1_countWays_45 48 rfl (fun p_3 hF => ?_)
        refine w_let hF (fun x_4 hF => ?_)
        refine w_istore X [(4, .int x_4), (0, .ref (ad 28)), (1, .ref (ad (pRace r1))), (2, .int x2), (3, .int x3), (5, .int x5)] dX1_countWays_48 (by decide) rfl 50 rfl ?_
        refine w_iinc X 5 (x5 + 1) [(5, .int (x5 + 1)), (4, .int x_4), (0, .ref (ad 28)), (1, .ref (ad (pRace r1))), (2, .int x2), (3, .int x3)] dX1_countWays_50 rfl rfl (by decide) rfl 53 rfl ?_
        refine w_goto X 34 dX1_countWays_53 (by decide) ?_
        refine w_keep [2, 3, 4, 5, 1, 0] rfl ?_
        exact ih x2 x3 x_4 (x5 + 1) p_3.2 hF
      · refine w_iload X 4 dX1_countWays_56 rfl 58 rfl ?_
        refine w_ldc X 1000003 kK_X1_44 dX1_countWays_58 60 rfl ?_
        refine w_irem X (by decide) dX1_countWays_60 61 rfl ?_
        refine w_let hF (fun x_5 hF => ?_)
        exact w_iret X hQ (o_inj1 hF) (o_inj2 hF) rfl dX1_countWays_61
  intro hF
  refine w_aload_n X 1 dX1_countWays_0 rfl rfl 1 rfl ?_
  refine w_getV (v := .ref (ad (pPawns r1))) X (pRace r1) (lt_Race hr1) ko_Race (T := TX6) (N := 8) rfl in_X6 1 (by decide) kF_X1_24 rfl rfl dX1_countWays_1 4 rfl ?_
  refine w_iload_n X 2 dX1_countWays_4 rfl rfl 5 rfl ?_
  refine w_gi hF (fun h_1 hF => ?_)
  refine w_aal X (pPawns r1) (lt_Pawns hr1) (pPawn r1 (Int32.toNatClampNeg x2)) ko_Pawns (t0 := 2) rfl h_1 (el_Pawns (vp_lt h_1)) dX1_countWays_5 6 rfl ?_
  refine w_getV (v := .int (rd mem (pPawn r1 (Int32.toNatClampNeg x2)) 5)) X (pPawn r1 (Int32.toNatClampNeg x2)) (lt_Pawn hr1 (vp_lt h_1)) (ko_Pawn (vp_lt h_1)) (T := TX4) (N := 6) rfl in_X4 5 (by decide) kF_X1_30 rfl rfl dX1_countWays_6 9 rfl ?_
  refine w_if_eq X hF 22 12 dX1_countWays_9 (by decide) rfl (fun hF => ?_) (fun hF => ?_)
  · refine w_aload_n X 0 dX1_countWays_22 rfl rfl 23 rfl ?_
    refine w_aload_n X 1 dX1_countWays_23 rfl rfl 24 rfl ?_
    refine w_iload_n X 2 dX1_countWays_24 rfl rfl 25 rfl ?_
    refine w_callVv (fun m => m) X hZ hF [.ref (ad (pRace r1)), .int x2] 28 plt_28 ko_28 rfl rfl rfl kB_X1_begin kL_X1_36 (fun res h => ct_X1_begin l hZ hO fu hr1 x2 mem res h) rfl rfl rfl ⟨Nat.le_of_ble_eq_true rfl, Nat.le_of_ble_eq_true rfl⟩ (Nat.le_of_ble_eq_true rfl) ⟨Nat.zero_le _, Nat.zero_le _⟩ dX1_countWays_25 28 rfl (fun m_2 hF => ?_)
    refine w_iconst X 0 dX1_countWays_28 rfl 29 rfl ?_
    refine w_istore X [(4, .int 0), (0, .ref (ad 28)), (1, .ref (ad (pRace r1))), (2, .int x2), (3, .int x3)] dX1_countWays_29 (by decide) rfl 31 rfl ?_
    refine w_iconst X 0 dX1_countWays_31 rfl 32 rfl ?_
    refine w_istore X [(5, .int 0), (4, .int 0), (0, .ref (ad 28)), (1, .ref (ad (pRace r1))), (2, .int x2), (3, .int x3)] dX1_countWays_32 (by decide) rfl 34 rfl ?_
    refine w_keep [2, 3, 4, 5, 1, 0] rfl ?_
    exact w_34 fu x2 x3 0 0 m_2 hF
  · refine w_iload_n X 3 dX1_countWays_12 rfl rfl 13 rfl ?_
    refine w_if_ne X hF 20 16 dX1_countWays_13 (by decide) rfl (fun hF => ?_) (fun hF => ?_)
    · refine w_iconst X 1 dX1_countWays_16 rfl 17 rfl ?_
      refine w_goto X 21 dX1_countWays_17 (by decide) ?_
      exact w_iret X hQ (o_inj1 hF) (o_inj2 hF) rfl dX1_countWays_21
    · refine w_iconst X 0 dX1_countWays_20 rfl 21 rfl ?_
      exact w_iret X hQ (o_inj1 hF) (o_inj2 hF) rfl dX1_countWays_21
end Kc4
