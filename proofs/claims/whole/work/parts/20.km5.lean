section Km5
def K_X12_waysWithBans_56 (fu : Nat) : Nat → Int32 → Int32 → Int32 → Mem → Option (Int32 × Mem)
  | 0, _, _, _, _ => none
  | n + 1, x1, x2, x3, mem => (if x3 < x2 then bd (K_X12_of fu x1 4 mem) (fun x_7 => bd (K_X12_walks fu x1 (x_7 + x3) mem) (fun m_8 => (K_X12_waysWithBans_56 fu n x1 x2 (x3 + 1) m_8))) else some ((rd mem 0 34), mem))
def K_X12_waysWithBans_40 (fu : Nat) (xs0 : Int32) (mem : Mem) : Option (Int32 × Mem) := bd (K_X12_truth fu xs0 mem) (fun x_9 => some (x_9, mem))
def K_X12_waysWithBans (fu : Nat) (x1 : Int32) (x2 : Int32) (mem : Mem) : Option (Int32 × Mem) := bd (K_X12_isPawn fu x1 mem) (fun x_1 => bd (K_X12_isIn fu (Int32.toInt64 x2) 0 200 mem) (fun x_2 => bd (K_X12_goesBoth fu x_1 x_2 mem) (fun p_3 => (if p_3.1 = 0 then some (0, p_3.2) else bd (K_X12_hasFinished fu x1 p_3.2) (fun x_4 => (if x_4 = 0 then bd (K_X12_beginsWalk fu x1 p_3.2) (fun m_5 => lt_ (mw m_5 0 34 0) (fun m_6 => (K_X12_waysWithBans_56 fu fu x1 x2 0 m_6))) else (if x2 = 0 then (K_X12_waysWithBans_40 fu 1 p_3.2) else (K_X12_waysWithBans_40 fu 0 p_3.2))))))))
def rm_X12_waysWithBans : Room := { frames := 6, cells := 0, slots := 0, locals := 149 }
set_option maxHeartbeats 4000000 in
set_option maxRecDepth 100000 in
theorem ct_X12_waysWithBans (l : Launch) {D : va_G} {ca ad : Nat → Nat} {Z : (Nat → Prop) → State → Heap → Prop} (hZ : ZOK Z) (fu : Nat) (x1 : Int32) (x2 : Int32) (mem : Mem) (res : (Int32 × Mem)) (hF : K_X12_waysWithBans fu x1 x2 mem = some res) : CI l D (tyL ca) 23 ad (cM ca ad) Z yX12_waysWithBans cX12_waysWithBans 4 .int rm_X12_waysWithBans [.ref (ad 0), .int x1, .int x2] mem res.1 res.2 := by
  refine start_i (own := RX12) rfl (by decide) (Nat.le_of_ble_eq_true rfl) ?_
  intro p e s m args below meth c Q hQ X
  rw [K_X12_waysWithBans] at hF
  revert hF
  have w_56 : ∀ (n : Nat) (x1 : Int32) (x2 : Int32) (x3 : Int32) (mem : Mem), K_X12_waysWithBans_56 fu n x1 x2 x3 mem = some res → WW D 23 ad (cM ca ad) p l e rm_X12_waysWithBans s m args below meth c 4 0 0 Q mem 56 [(0, .ref (ad 0)), (1, .int x1), (2, .int x2), (3, .int x3)] [] := by
    intro n
    induction n with
    | zero => intro x1 x2 x3 mem hF; exact no_none (show (none : Option (Int32 × Mem)) = some res from hF)
    | succ n ih =>
      intro x1 x2 x3 mem hF
      rw [K_X12_waysWithBans_56] at hF
      refine w_iload_n X 3 dX12_waysWithBans_56 rfl rfl 57 rfl ?_
      refine w_iload_n X 2 dX12_waysWithBans_57 rfl rfl 58 rfl ?_
      refine w_icmp_ge X hF 80 61 dX12_waysWithBans_58 (by decide) rfl (fun hF => ?_) (fun hF => ?_)
      · refine w_aload_n X 0 dX12_waysWithBans_61 rfl rfl 62 rfl ?_
        refine w_iload_n X 1 dX12_waysWithBans_62 rfl rfl 63 rfl ?_
        refine w_aload_n X 0 dX12_waysWithBans_63 rfl rfl 64 rfl ?_
        refine w_iload_n X 1 dX12_waysWithBans_64 rfl rfl 65 rfl ?_
        refine w_iconst X 4 dX12_waysWithBans_65 rfl 66 rfl ?_
        refine w_callVi (fun x => x) (fun _ => mem) X hZ hF [.int x1, .int 4] 0 ml_0 mo_0 rfl rfl rfl kB_X12_of kL_X12_174 (fun res h => ct_X12_of l hZ fu x1 4 mem res h) rfl rfl rfl ⟨Nat.le_of_ble_eq_true rfl, Nat.le_of_ble_eq_true rfl⟩ (Nat.le_of_ble_eq_true rfl) ⟨Nat.zero_le _, Nat.zero_le _⟩ dX12_waysWithBans_66 69 rfl (fun x_7 hF => ?_)
        refine w_iload_n X 3 dX12_waysWithBans_69 rfl rfl 70 rfl ?_
        refine w_iadd X dX12_waysWithBans_70 71 rfl ?_
        refine w_callVv (fun m => m) X hZ hF [.int x1, .int (x_7 + x3)] 0 ml_0 mo_0 rfl rfl rfl kB_X12_walks kL_X12_408 (fun res h => ct_X12_walks l hZ fu x1 (x_7 + x3) mem res h) rfl rfl rfl ⟨Nat.le_of_ble_eq_true rfl, Nat.le_of_ble_eq_true rfl⟩ (Nat.le_of_ble_eq_true rfl) ⟨Nat.zero_le _, Nat.zero_le _⟩ dX12_waysWithBans_71 74 rfl (fun m_8 hF => ?_)
        refine w_iinc X 3 (x3 + 1) [(3, .int (x3 + 1)), (0, .ref (ad 0)), (1, .int x1), (2, .int x2)] dX12_waysWithBans_74 rfl rfl (by decide) rfl 77 rfl ?_
        refine w_goto X 56 dX12_waysWithBans_77 (by decide) ?_
        refine w_keep [1, 2, 3, 0] rfl ?_
        exact ih x1 x2 (x3 + 1) m_8 hF
      · refine w_aload_n X 0 dX12_waysWithBans_80 rfl rfl 81 rfl ?_
        refine w_getV (v := .int (rd mem 0 34)) X 0 ml_0 mo_0 (T := TX12) (N := 50) rfl in_X12 34 (by decide) kF_X12_395 rfl rfl dX12_waysWithBans_81 84 rfl ?_
        exact w_iret X hQ (o_inj1 hF) (o_inj2 hF) rfl dX12_waysWithBans_84
  have w_40 : ∀ (xs0 : Int32) (mem : Mem), K_X12_waysWithBans_40 fu xs0 mem = some res → WW D 23 ad (cM ca ad) p l e rm_X12_waysWithBans s m args below meth c 4 0 0 Q mem 40 [] [.int xs0] := by
    intro xs0 mem hF
    rw [K_X12_waysWithBans_40] at hF
    refine w_callSi (fun x => x) (fun _ => mem) X hZ hF [.int xs0] rfl kB_X12_truth kL_X12_91 (fun res h => ct_X12_truth l hZ fu xs0 mem res h) rfl rfl rfl ⟨Nat.le_of_ble_eq_true rfl, Nat.le_of_ble_eq_true rfl⟩ (Nat.le_of_ble_eq_true rfl) ⟨Nat.zero_le _, Nat.zero_le _⟩ dX12_waysWithBans_40 43 rfl (fun x_9 hF => ?_)
    exact w_iret X hQ (o_inj1 hF) (o_inj2 hF) rfl dX12_waysWithBans_43
  intro hF
  refine w_aload_n X 0 dX12_waysWithBans_0 rfl rfl 1 rfl ?_
  refine w_aload_n X 0 dX12_waysWithBans_1 rfl rfl 2 rfl ?_
  refine w_iload_n X 1 dX12_waysWithBans_2 rfl rfl 3 rfl ?_
  refine w_callVi (fun x => x) (fun _ => mem) X hZ hF [.int x1] 0 ml_0 mo_0 rfl rfl rfl kB_X12_isPawn kL_X12_339 (fun res h => ct_X12_isPawn l hZ fu x1 mem res h) rfl rfl rfl ⟨Nat.le_of_ble_eq_true rfl, Nat.le_of_ble_eq_true rfl⟩ (Nat.le_of_ble_eq_true rfl) ⟨Nat.zero_le _, Nat.zero_le _⟩ dX12_waysWithBans_3 6 rfl (fun x_1 hF => ?_)
  refine w_iload_n X 2 dX12_waysWithBans_6 rfl rfl 7 rfl ?_
  refine w_i2l X dX12_waysWithBans_7 8 rfl ?_
  refine w_lconst X 0 dX12_waysWithBans_8 rfl 9 rfl ?_
  refine w_ldc2 X 200 kK_X12_415 dX12_waysWithBans_9 12 rfl ?_
  refine w_callSi (fun x => x) (fun _ => mem) X hZ hF [.long (Int32.toInt64 x2), .long 0, .long 200] rfl kB_X12_isIn kL_X12_106 (fun res h => ct_X12_isIn l hZ fu (Int32.toInt64 x2) 0 200 mem res h) rfl rfl rfl ⟨Nat.le_of_ble_eq_true rfl, Nat.le_of_ble_eq_true rfl⟩ (Nat.le_of_ble_eq_true rfl) ⟨Nat.zero_le _, Nat.zero_le _⟩ dX12_waysWithBans_12 15 rfl (fun x_2 hF => ?_)
  refine w_callVi (fun x => x.1) (fun x => x.2) X hZ hF [.int x_1, .int x_2] 0 ml_0 mo_0 rfl rfl rfl kB_X12_goesBoth kL_X12_344 (fun res h => ct_X12_goesBoth l hZ fu x_1 x_2 mem res h) rfl rfl rfl ⟨Nat.le_of_ble_eq_true rfl, Nat.le_of_ble_eq_true rfl⟩ (Nat.le_of_ble_eq_true rfl) ⟨Nat.zero_le _, Nat.zero_le _⟩ dX12_waysWithBans_15 18 rfl (fun p_3 hF => ?_)
  refine w_if_ne X hF 23 21 dX12_waysWithBans_18 (by decide) rfl (fun hF => ?_) (fun hF => ?_)
  · refine w_iconst X 0 dX12_waysWithBans_21 rfl 22 rfl ?_
    exact w_iret X hQ (o_inj1 hF) (o_inj2 hF) rfl dX12_waysWithBans_22
  · refine w_aload_n X 0 dX12_waysWithBans_23 rfl rfl 24 rfl ?_
    refine w_iload_n X 1 dX12_waysWithBans_24 rfl rfl 25 rfl ?_
    refine w_callVi (fun x => x) (fun _ => p_3.2) X hZ hF [.int x1] 0 ml_0 mo_0 rfl rfl rfl kB_X12_hasFinished kL_X12_213 (fun res h => ct_X12_hasFinished l hZ fu x1 p_3.2 res h) rfl rfl rfl ⟨Nat.le_of_ble_eq_true rfl, Nat.le_of_ble_eq_true rfl⟩ (Nat.le_of_ble_eq_true rfl) ⟨Nat.zero_le _, Nat.zero_le _⟩ dX12_waysWithBans_25 28 rfl (fun x_4 hF => ?_)
    refine w_if_eq X hF 44 31 dX12_waysWithBans_28 (by decide) rfl (fun hF => ?_) (fun hF => ?_)
    · refine w_aload_n X 0 dX12_waysWithBans_44 rfl rfl 45 rfl ?_
      refine w_iload_n X 1 dX12_waysWithBans_45 rfl rfl 46 rfl ?_
      refine w_callVv (fun m => m) X hZ hF [.int x1] 0 ml_0 mo_0 rfl rfl rfl kB_X12_beginsWalk kL_X12_405 (fun res h => ct_X12_beginsWalk l hZ fu x1 p_3.2 res h) rfl rfl rfl ⟨Nat.le_of_ble_eq_true rfl, Nat.le_of_ble_eq_true rfl⟩ (Nat.le_of_ble_eq_true rfl) ⟨Nat.zero_le _, Nat.zero_le _⟩ dX12_waysWithBans_46 49 rfl (fun m_5 hF => ?_)
      refine w_aload_n X 0 dX12_waysWithBans_49 rfl rfl 50 rfl ?_
      refine w_iconst X 0 dX12_waysWithBans_50 rfl 51 rfl ?_
      refine w_putI X 0 ml_0 mo_0 (T := TX12) (N := 50) rfl in_X12 tyX12 tyX12_ok nmX12 34 (by decide) kF_X12_395 rfl rfl rfl rfl (Nat.le_of_ble_eq_true rfl) rfl dX12_waysWithBans_51 54 rfl ?_
      refine w_letm hF (fun m_6 hF => ?_)
      refine w_iconst X 0 dX12_waysWithBans_54 rfl 55 rfl ?_
      refine w_istore_n X [(3, .int 0), (0, .ref (ad 0)), (1, .int x1), (2, .int x2)] dX12_waysWithBans_55 rfl (by decide) rfl 56 rfl ?_
      refine w_keep [1, 2, 3, 0] rfl ?_
      exact w_56 fu x1 x2 0 m_6 hF
    · refine w_iload_n X 2 dX12_waysWithBans_31 rfl rfl 32 rfl ?_
      refine w_if_ne X hF 39 35 dX12_waysWithBans_32 (by decide) rfl (fun hF => ?_) (fun hF => ?_)
      · refine w_iconst X 1 dX12_waysWithBans_35 rfl 36 rfl ?_
        refine w_goto X 40 dX12_waysWithBans_36 (by decide) ?_
        refine w_keep [] rfl ?_
        exact w_40 1 p_3.2 hF
      · refine w_iconst X 0 dX12_waysWithBans_39 rfl 40 rfl ?_
        refine w_keep [] rfl ?_
        exact w_40 0 p_3.2 hF
end Km5
