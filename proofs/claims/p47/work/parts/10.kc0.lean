section Kc0
def K_J0_isLatin1_aae02 (fu : Nat) (t : Nat) (mem : Mem) : Option Int32 := (if (1 : Int32) = 0 then some 0 else (if (0 : Int32) = 0 then some 1 else some 0))
def rm_J0_isLatin1_aae02 : Room := { frames := 0, cells := 0, slots := 0, locals := 0 }
set_option maxHeartbeats 4000000 in
set_option maxRecDepth 100000 in
theorem ct_J0_isLatin1_aae02 (l : Launch) {D : va_G} {ca ad : Nat → Nat} {Z : (Nat → Prop) → State → Heap → Prop} (hZ : ZOK Z) {tO : Nat} {sK sV : Nat → Nat} (hO : ZO Z tO sK sV) (fu : Nat) {t : Nat} (ht : t < 17) (mem : Mem) (res : Int32) (hF : K_J0_isLatin1_aae02 fu t mem = some res) : CI l D (tyL ca) 255 ad (cC ca ad) Z yJ0_isLatin1_aae02 cJ0_isLatin1_aae02 1 .boolean rm_J0_isLatin1_aae02 [.ref (sK t)] mem res mem := by
  refine start_i (own := RJ0) rfl (by decide) (Nat.le_of_ble_eq_true rfl) ?_
  intro p e s m args below meth c Q hQ X
  rw [K_J0_isLatin1_aae02] at hF
  revert hF
  intro hF
  refine w_cmpS X hO kF_J0_38 dJ0_isLatin1_aae02_0 3 rfl ?_
  refine w_if_eq X hF 17 6 dJ0_isLatin1_aae02_3 (by decide) rfl (fun hF => ?_) (fun hF => ?_)
  · refine w_iconst X 0 dJ0_isLatin1_aae02_17 rfl 18 rfl ?_
    exact w_iret X hQ (o_inj hF) rfl rfl dJ0_isLatin1_aae02_18
  · refine w_aload_n X 0 dJ0_isLatin1_aae02_6 rfl rfl 7 rfl ?_
    refine w_strC X hO ht kF_J0_15 dJ0_isLatin1_aae02_7 10 rfl ?_
    refine w_if_ne X hF 17 13 dJ0_isLatin1_aae02_10 (by decide) rfl (fun hF => ?_) (fun hF => ?_)
    · refine w_iconst X 1 dJ0_isLatin1_aae02_13 rfl 14 rfl ?_
      refine w_goto X 18 dJ0_isLatin1_aae02_14 (by decide) ?_
      exact w_iret X hQ (o_inj hF) rfl rfl dJ0_isLatin1_aae02_18
    · refine w_iconst X 0 dJ0_isLatin1_aae02_17 rfl 18 rfl ?_
      exact w_iret X hQ (o_inj hF) rfl rfl dJ0_isLatin1_aae02_18

def K_J3_checkIndex_8e157_9 (fu : Nat) (mem : Mem) (x0 : Int32) (x1 : Int32) : Option Int32 := none
def K_J3_checkIndex_8e157 (fu : Nat) (x0 : Int32) (x1 : Int32) (mem : Mem) : Option Int32 := (if x0 < 0 then (K_J3_checkIndex_8e157_9 fu mem x0 x1 ) else (if x0 < x1 then some x0 else (K_J3_checkIndex_8e157_9 fu mem x0 x1 )))
def rm_J3_checkIndex_8e157 : Room := { frames := 0, cells := 0, slots := 0, locals := 0 }
set_option maxHeartbeats 4000000 in
set_option maxRecDepth 100000 in
theorem ct_J3_checkIndex_8e157 (l : Launch) {D : va_G} {ca ad : Nat → Nat} {Z : (Nat → Prop) → State → Heap → Prop} (hZ : ZOK Z) {tO : Nat} {sK sV : Nat → Nat} (hO : ZO Z tO sK sV) (fu : Nat) (o : Option Nat) (x0 : Int32) (x1 : Int32) (mem : Mem) (res : Int32) (hF : K_J3_checkIndex_8e157 fu x0 x1 mem = some res) : CI l D (tyL ca) 255 ad (cC ca ad) Z yJ3_checkIndex_8e157 cJ3_checkIndex_8e157 3 .int rm_J3_checkIndex_8e157 [.int x0, .int x1, va_rf o] mem res mem := by
  refine start_i (own := RJ3) rfl (by decide) (by cases o <;> exact Nat.le_of_ble_eq_true rfl) ?_
  intro p e s m args below meth c Q hQ X
  rw [K_J3_checkIndex_8e157] at hF
  revert hF
  have w_9 : ∀ (x0 : Int32) (x1 : Int32), K_J3_checkIndex_8e157_9 fu mem x0 x1 = some res → WW D 255 ad (cC ca ad) p l e rm_J3_checkIndex_8e157 s m args below meth c 3 0 0 Q mem 9 [(0, .int x0), (1, .int x1), (2, va_rf o)] [] := by
    intro x0 x1 hF
    rw [K_J3_checkIndex_8e157_9] at hF
    exact no_none hF
  intro hF
  refine w_iload_n X 0 dJ3_checkIndex_8e157_0 rfl rfl 1 rfl ?_
  refine w_if_lt X hF 9 4 dJ3_checkIndex_8e157_1 (by decide) rfl (fun hF => ?_) (fun hF => ?_)
  · refine w_keep [0, 1, 2] rfl ?_
    exact w_9 x0 x1  hF
  · refine w_iload_n X 0 dJ3_checkIndex_8e157_4 rfl rfl 5 rfl ?_
    refine w_iload_n X 1 dJ3_checkIndex_8e157_5 rfl rfl 6 rfl ?_
    refine w_icmp_lt X hF 16 9 dJ3_checkIndex_8e157_6 (by decide) rfl (fun hF => ?_) (fun hF => ?_)
    · refine w_iload_n X 0 dJ3_checkIndex_8e157_16 rfl rfl 17 rfl ?_
      exact w_iret X hQ (o_inj hF) rfl rfl dJ3_checkIndex_8e157_17
    · refine w_keep [0, 1, 2] rfl ?_
      exact w_9 x0 x1  hF

def K_J0_checkIndex_df160 (fu : Nat) (x0 : Int32) (x1 : Int32) (mem : Mem) : Option Unit := bd (K_J3_checkIndex_8e157 fu x0 x1 mem) (fun x_1 => some ())
def rm_J0_checkIndex_df160 : Room := { frames := 1, cells := 0, slots := 0, locals := 22 }
set_option maxHeartbeats 4000000 in
set_option maxRecDepth 100000 in
theorem ct_J0_checkIndex_df160 (l : Launch) {D : va_G} {ca ad : Nat → Nat} {Z : (Nat → Prop) → State → Heap → Prop} (hZ : ZOK Z) {tO : Nat} {sK sV : Nat → Nat} (hO : ZO Z tO sK sV) (fu : Nat) (x0 : Int32) (x1 : Int32) (mem : Mem) (res : Unit) (hF : K_J0_checkIndex_df160 fu x0 x1 mem = some res) : CV l D (tyL ca) 255 ad (cC ca ad) Z yJ0_checkIndex_df160 cJ0_checkIndex_df160 2 rm_J0_checkIndex_df160 [.int x0, .int x1] mem mem := by
  refine start_v (own := RJ0) rfl (by decide) (Nat.le_of_ble_eq_true rfl) ?_
  intro p e s m args below meth c Q hQ X
  rw [K_J0_checkIndex_df160] at hF
  revert hF
  intro hF
  refine w_iload_n X 0 dJ0_checkIndex_df160_0 rfl rfl 1 rfl ?_
  refine w_iload_n X 1 dJ0_checkIndex_df160_1 rfl rfl 2 rfl ?_
  refine w_fmtQ X hO kF_J0_1053 dJ0_checkIndex_df160_2 5 rfl (fun o => ?_)
  refine w_callSi (fun x => x) (fun _ => mem) X hZ hF [.int x0, .int x1, va_rf o] rfl kB_J3_checkIndex_8e157 kL_J0_1059 (fun res h => ct_J3_checkIndex_8e157 l hZ hO fu o x0 x1 mem res h) rfl rfl rfl ⟨Nat.le_of_ble_eq_true rfl, Nat.le_of_ble_eq_true rfl⟩ (Nat.le_of_ble_eq_true rfl) ⟨Nat.zero_le _, Nat.zero_le _⟩ dJ0_checkIndex_df160_5 8 rfl (fun x_1 hF => ?_)
  refine w_pop X dJ0_checkIndex_df160_8 rfl 9 rfl ?_
  exact w_vret X hQ rfl dJ0_checkIndex_df160_9

def K_J1_charAt_3b067 (fu : Nat) (t1 : Nat) (x1 : Int32) (mem : Mem) : Option Int32 := bd (K_J0_checkIndex_df160 fu x1 (Int32.ofNat (sLen t1)) mem) (fun u_1 => gi x1 (sLen t1) (gc (UInt32.toInt32 (Int32.toUInt32 ((sByt t1 (Int32.toNatClampNeg x1)) &&& 255) % 65536)) (some (UInt32.toInt32 (Int32.toUInt32 ((sByt t1 (Int32.toNatClampNeg x1)) &&& 255) % 65536)))))
def rm_J1_charAt_3b067 : Room := { frames := 2, cells := 0, slots := 0, locals := 43 }
set_option maxHeartbeats 4000000 in
set_option maxRecDepth 100000 in
theorem ct_J1_charAt_3b067 (l : Launch) {D : va_G} {ca ad : Nat → Nat} {Z : (Nat → Prop) → State → Heap → Prop} (hZ : ZOK Z) {tO : Nat} {sK sV : Nat → Nat} (hO : ZO Z tO sK sV) (fu : Nat) {t1 : Nat} (ht1 : t1 < 17) (x1 : Int32) (mem : Mem) (res : Int32) (hF : K_J1_charAt_3b067 fu t1 x1 mem = some res) : CI l D (tyL ca) 255 ad (cC ca ad) Z yJ1_charAt_3b067 cJ1_charAt_3b067 2 .char rm_J1_charAt_3b067 [.ref (sV t1), .int x1] mem res mem := by
  refine start_i (own := RJ1) rfl (by decide) (Nat.le_of_ble_eq_true rfl) ?_
  intro p e s m args below meth c Q hQ X
  rw [K_J1_charAt_3b067] at hF
  revert hF
  intro hF
  refine w_iload_n X 1 dJ1_charAt_3b067_0 rfl rfl 1 rfl ?_
  refine w_aload_n X 0 dJ1_charAt_3b067_1 rfl rfl 2 rfl ?_
  refine w_strL X hO ht1 dJ1_charAt_3b067_2 3 rfl ?_
  refine w_callSv (fun _ => mem) X hZ hF [.int x1, .int (Int32.ofNat (sLen t1))] rfl kB_J0_checkIndex_df160 kL_J1_9 (fun res h => ct_J0_checkIndex_df160 l hZ hO fu x1 (Int32.ofNat (sLen t1)) mem res h) rfl rfl rfl ⟨Nat.le_of_ble_eq_true rfl, Nat.le_of_ble_eq_true rfl⟩ (Nat.le_of_ble_eq_true rfl) ⟨Nat.zero_le _, Nat.zero_le _⟩ dJ1_charAt_3b067_3 6 rfl (fun u_1 hF => ?_)
  refine w_aload_n X 0 dJ1_charAt_3b067_6 rfl rfl 7 rfl ?_
  refine w_iload_n X 1 dJ1_charAt_3b067_7 rfl rfl 8 rfl ?_
  refine w_gi hF (fun h_2 hF => ?_)
  refine w_strB X hO ht1 h_2 dJ1_charAt_3b067_8 9 rfl ?_
  refine w_sipush X 255 dJ1_charAt_3b067_9 rfl 12 rfl ?_
  refine w_iand X dJ1_charAt_3b067_12 13 rfl ?_
  refine w_i2c X dJ1_charAt_3b067_13 14 rfl ?_
  refine w_gc hF (fun h_3 hF => ?_)
  exact w_iret X hQ (o_inj hF) rfl h_3 dJ1_charAt_3b067_14

def K_J0_charAt_5068e (fu : Nat) (t : Nat) (x1 : Int32) (mem : Mem) : Option (Int32 × Mem) := bd (K_J0_isLatin1_aae02 fu t mem) (fun x_1 => (if x_1 = 0 then none else bd (K_J1_charAt_3b067 fu t x1 mem) (fun x_2 => gc x_2 (some (x_2, mem)))))
def rm_J0_charAt_5068e : Room := { frames := 4, cells := 0, slots := 0, locals := 85 }
set_option maxHeartbeats 4000000 in
set_option maxRecDepth 100000 in
theorem ct_J0_charAt_5068e (l : Launch) {D : va_G} {ca ad : Nat → Nat} {Z : (Nat → Prop) → State → Heap → Prop} (hZ : ZOK Z) {tO : Nat} {sK sV : Nat → Nat} (hO : ZO Z tO sK sV) (fu : Nat) {t : Nat} (ht : t < 17) (x1 : Int32) (mem : Mem) (res : (Int32 × Mem)) (hF : K_J0_charAt_5068e fu t x1 mem = some res) : CI l D (tyL ca) 255 ad (cC ca ad) Z yJ0_charAt_5068e cJ0_charAt_5068e 2 .char rm_J0_charAt_5068e [.ref (sK t), .int x1] mem res.1 res.2 := by
  refine start_i (own := RJ0) rfl (by decide) (Nat.le_of_ble_eq_true rfl) ?_
  intro p e s m args below meth c Q hQ X
  rw [K_J0_charAt_5068e] at hF
  revert hF
  intro hF
  refine w_aload_n X 0 dJ0_charAt_5068e_0 rfl rfl 1 rfl ?_
  refine w_callTi (fun x => x) (fun _ => mem) X hZ hF [] hO ht rfl rfl kB_J0_isLatin1_aae02 kL_J0_492 (fun res h => ct_J0_isLatin1_aae02 l hZ hO fu ht mem res h) rfl rfl rfl ⟨Nat.le_of_ble_eq_true rfl, Nat.le_of_ble_eq_true rfl⟩ (Nat.le_of_ble_eq_true rfl) ⟨Nat.zero_le _, Nat.zero_le _⟩ dJ0_charAt_5068e_1 4 rfl (fun x_1 hF => ?_)
  refine w_if_eq X hF 16 7 dJ0_charAt_5068e_4 (by decide) rfl (fun hF => ?_) (fun hF => ?_)
  · refine w_aload_n X 0 dJ0_charAt_5068e_16 rfl rfl 17 rfl ?_
    refine w_strV X hO ht kF_J0_9 dJ0_charAt_5068e_17 20 rfl ?_
    refine w_iload_n X 1 dJ0_charAt_5068e_20 rfl rfl 21 rfl ?_
    exact no_none hF
  · refine w_aload_n X 0 dJ0_charAt_5068e_7 rfl rfl 8 rfl ?_
    refine w_strV X hO ht kF_J0_9 dJ0_charAt_5068e_8 11 rfl ?_
    refine w_iload_n X 1 dJ0_charAt_5068e_11 rfl rfl 12 rfl ?_
    refine w_callSi (fun x => x) (fun _ => mem) X hZ hF [.ref (sV t), .int x1] rfl kB_J1_charAt_3b067 kL_J0_495 (fun res h => ct_J1_charAt_3b067 l hZ hO fu ht x1 mem res h) rfl rfl rfl ⟨Nat.le_of_ble_eq_true rfl, Nat.le_of_ble_eq_true rfl⟩ (Nat.le_of_ble_eq_true rfl) ⟨Nat.zero_le _, Nat.zero_le _⟩ dJ0_charAt_5068e_12 15 rfl (fun x_2 hF => ?_)
    refine w_gc hF (fun h_3 hF => ?_)
    exact w_iret X hQ (o_inj1 hF) (o_inj2 hF) h_3 dJ0_charAt_5068e_15

def K_J0_coder_7d493 (fu : Nat) (t : Nat) (mem : Mem) : Option Int32 := (if (1 : Int32) = 0 then none else some 0)
def rm_J0_coder_7d493 : Room := { frames := 0, cells := 0, slots := 0, locals := 0 }
set_option maxHeartbeats 4000000 in
set_option maxRecDepth 100000 in
theorem ct_J0_coder_7d493 (l : Launch) {D : va_G} {ca ad : Nat → Nat} {Z : (Nat → Prop) → State → Heap → Prop} (hZ : ZOK Z) {tO : Nat} {sK sV : Nat → Nat} (hO : ZO Z tO sK sV) (fu : Nat) {t : Nat} (ht : t < 17) (mem : Mem) (res : Int32) (hF : K_J0_coder_7d493 fu t mem = some res) : CI l D (tyL ca) 255 ad (cC ca ad) Z yJ0_coder_7d493 cJ0_coder_7d493 1 .byte rm_J0_coder_7d493 [.ref (sK t)] mem res mem := by
  refine start_i (own := RJ0) rfl (by decide) (Nat.le_of_ble_eq_true rfl) ?_
  intro p e s m args below meth c Q hQ X
  rw [K_J0_coder_7d493] at hF
  revert hF
  intro hF
  refine w_cmpS X hO kF_J0_38 dJ0_coder_7d493_0 3 rfl ?_
  refine w_if_eq X hF 13 6 dJ0_coder_7d493_3 (by decide) rfl (fun hF => ?_) (fun hF => ?_)
  · refine w_iconst X 1 dJ0_coder_7d493_13 rfl 14 rfl ?_
    exact no_none hF
  · refine w_aload_n X 0 dJ0_coder_7d493_6 rfl rfl 7 rfl ?_
    refine w_strC X hO ht kF_J0_15 dJ0_coder_7d493_7 10 rfl ?_
    refine w_goto X 14 dJ0_coder_7d493_10 (by decide) ?_
    exact w_iret X hQ (o_inj hF) rfl rfl dJ0_coder_7d493_14

def K_J0_length_8abf5 (fu : Nat) (t : Nat) (mem : Mem) : Option Int32 := bd (K_J0_coder_7d493 fu t mem) (fun x_1 => some ((Int32.ofNat (sLen t)) >>> (x_1 &&& 31)))
def rm_J0_length_8abf5 : Room := { frames := 1, cells := 0, slots := 0, locals := 20 }
set_option maxHeartbeats 4000000 in
set_option maxRecDepth 100000 in
theorem ct_J0_length_8abf5 (l : Launch) {D : va_G} {ca ad : Nat → Nat} {Z : (Nat → Prop) → State → Heap → Prop} (hZ : ZOK Z) {tO : Nat} {sK sV : Nat → Nat} (hO : ZO Z tO sK sV) (fu : Nat) {t : Nat} (ht : t < 17) (mem : Mem) (res : Int32) (hF : K_J0_length_8abf5 fu t mem = some res) : CI l D (tyL ca) 255 ad (cC ca ad) Z yJ0_length_8abf5 cJ0_length_8abf5 1 .int rm_J0_length_8abf5 [.ref (sK t)] mem res mem := by
  refine start_i (own := RJ0) rfl (by decide) (Nat.le_of_ble_eq_true rfl) ?_
  intro p e s m args below meth c Q hQ X
  rw [K_J0_length_8abf5] at hF
  revert hF
  intro hF
  refine w_aload_n X 0 dJ0_length_8abf5_0 rfl rfl 1 rfl ?_
  refine w_strV X hO ht kF_J0_9 dJ0_length_8abf5_1 4 rfl ?_
  refine w_strL X hO ht dJ0_length_8abf5_4 5 rfl ?_
  refine w_aload_n X 0 dJ0_length_8abf5_5 rfl rfl 6 rfl ?_
  refine w_callTi (fun x => x) (fun _ => mem) X hZ hF [] hO ht rfl rfl kB_J0_coder_7d493 kL_J0_335 (fun res h => ct_J0_coder_7d493 l hZ hO fu ht mem res h) rfl rfl rfl ⟨Nat.le_of_ble_eq_true rfl, Nat.le_of_ble_eq_true rfl⟩ (Nat.le_of_ble_eq_true rfl) ⟨Nat.zero_le _, Nat.zero_le _⟩ dJ0_length_8abf5_6 9 rfl (fun x_1 hF => ?_)
  refine w_ishr X dJ0_length_8abf5_9 10 rfl ?_
  exact w_iret X hQ (o_inj hF) rfl rfl dJ0_length_8abf5_10

def K_J7_fill_53178_5 (fu : Nat) (a0 : Nat) (na0 : Nat) : Nat → Int32 → Int32 → Int32 → Mem → Option Mem
  | 0, _, _, _, _ => none
  | n + 1, x1, x2, x3, mem => (if x2 < x3 then gi x2 na0 (lt_ (mw mem a0 (Int32.toNatClampNeg x2) x1) (fun m_3 => (K_J7_fill_53178_5 fu a0 na0 n x1 (x2 + 1) x3 m_3))) else some mem)
def K_J7_fill_53178 (fu : Nat) (a0 : Nat) (na0 : Nat) (x1 : Int32) (mem : Mem) : Option Mem := lt_ (Int32.ofNat na0) (fun x_1 => (K_J7_fill_53178_5 fu a0 na0 fu x1 0 x_1 mem))
def rm_J7_fill_53178 : Room := { frames := 0, cells := 0, slots := 0, locals := 0 }
set_option maxHeartbeats 4000000 in
set_option maxRecDepth 100000 in
theorem ct_J7_fill_53178 (l : Launch) {D : va_G} {ca ad : Nat → Nat} {Z : (Nat → Prop) → State → Heap → Prop} (hZ : ZOK Z) {tO : Nat} {sK sV : Nat → Nat} (hO : ZO Z tO sK sV) (fu : Nat) {a0 na0 : Nat} (ha0 : a0 < 255) (ka0 : ∀ f : Row, (cC ca ad) a0 f = .inl (ca 0, na0, .inl f.1)) (x1 : Int32) (mem : Mem) (res : Mem) (hF : K_J7_fill_53178 fu a0 na0 x1 mem = some res) : CV l D (tyL ca) 255 ad (cC ca ad) Z yJ7_fill_53178 cJ7_fill_53178 4 rm_J7_fill_53178 [.ref (ad a0), .int x1] mem res := by
  refine start_v (own := RJ7) rfl (by decide) (Nat.le_of_ble_eq_true rfl) ?_
  intro p e s m args below meth c Q hQ X
  rw [K_J7_fill_53178] at hF
  revert hF
  have w_5 : ∀ (n : Nat) (x1 : Int32) (x2 : Int32) (x3 : Int32) (mem : Mem), K_J7_fill_53178_5 fu a0 na0 n x1 x2 x3 mem = some res → WW D 255 ad (cC ca ad) p l e rm_J7_fill_53178 s m args below meth c 4 0 0 Q mem 5 [(0, .ref (ad a0)), (1, .int x1), (2, .int x2), (3, .int x3)] [] := by
    intro n
    induction n with
    | zero => intro x1 x2 x3 mem hF; exact no_none (show (none : Option Mem) = some res from hF)
    | succ n ih =>
      intro x1 x2 x3 mem hF
      rw [K_J7_fill_53178_5] at hF
      refine w_iload_n X 2 dJ7_fill_53178_5 rfl rfl 6 rfl ?_
      refine w_iload_n X 3 dJ7_fill_53178_6 rfl rfl 7 rfl ?_
      refine w_icmp_ge X hF 20 10 dJ7_fill_53178_7 (by decide) rfl (fun hF => ?_) (fun hF => ?_)
      · refine w_aload_n X 0 dJ7_fill_53178_10 rfl rfl 11 rfl ?_
        refine w_iload_n X 2 dJ7_fill_53178_11 rfl rfl 12 rfl ?_
        refine w_iload_n X 1 dJ7_fill_53178_12 rfl rfl 13 rfl ?_
        refine w_gi hF (fun h_2 hF => ?_)
        refine w_ias X a0 ha0 ka0 (t0 := 0) rfl h_2 dJ7_fill_53178_13 14 rfl ?_
        refine w_letm hF (fun m_3 hF => ?_)
        refine w_iinc X 2 (x2 + 1) [(2, .int (x2 + 1)), (0, .ref (ad a0)), (1, .int x1), (3, .int x3)] dJ7_fill_53178_14 rfl rfl (by decide) rfl 17 rfl ?_
        refine w_goto X 5 dJ7_fill_53178_17 (by decide) ?_
        refine w_keep [1, 2, 0, 3] rfl ?_
        exact ih x1 (x2 + 1) x3 m_3 hF
      · exact w_vret X hQ (o_inj hF) dJ7_fill_53178_20
  intro hF
  refine w_iconst X 0 dJ7_fill_53178_0 rfl 1 rfl ?_
  refine w_istore_n X [(2, .int 0), (0, .ref (ad a0)), (1, .int x1)] dJ7_fill_53178_1 rfl (by decide) rfl 2 rfl ?_
  refine w_aload_n X 1 dJ7_fill_53178_2 rfl rfl 3 rfl ?_
  refine w_alen X a0 ha0 (Int32.ofNat na0) (ka0 _) (t0 := 0) rfl rfl dJ7_fill_53178_3 4 rfl ?_
  refine w_let hF (fun x_1 hF => ?_)
  refine w_istore_n X [(3, .int x_1), (2, .int 0), (0, .ref (ad a0)), (1, .int x1)] dJ7_fill_53178_4 rfl (by decide) rfl 5 rfl ?_
  refine w_keep [2, 3, 1, 0] rfl ?_
  exact w_5 fu x1 0 x_1 mem hF

def K_X0_byCell_55 (fu : Nat) (r : Nat) (i : Nat) (mem : Mem) (xs0 : Int32) : Option Int32 := (if xs0 = 0 then some 0 else some (1 <<< ((rd mem (pBan r i) 2) &&& 31)))
def K_X0_byCell_54 (fu : Nat) (r : Nat) (i : Nat) (mem : Mem) : Option Int32 := (K_X0_byCell_55 fu r i mem 0 )
def K_X0_byCell (fu : Nat) (r : Nat) (i : Nat) (x1 : Int32) (mem : Mem) : Option Int32 := lt_ (x1 - x1 / 9 * 9) (fun x_1 => lt_ (x1 / 9) (fun x_2 => (if (rd mem (pBan r i) 1) = 3 then (if x_1 < (rd mem (pBan r i) 5) then (K_X0_byCell_54 fu r i mem ) else (if (rd mem (pBan r i) 6) < x_1 then (K_X0_byCell_54 fu r i mem ) else (if x_2 < (rd mem (pBan r i) 7) then (K_X0_byCell_54 fu r i mem ) else (if (rd mem (pBan r i) 8) < x_2 then (K_X0_byCell_54 fu r i mem ) else (K_X0_byCell_55 fu r i mem 1 ))))) else (K_X0_byCell_54 fu r i mem ))))
def rm_X0_byCell : Room := { frames := 0, cells := 0, slots := 0, locals := 0 }
set_option maxHeartbeats 4000000 in
set_option maxRecDepth 100000 in
theorem ct_X0_byCell (l : Launch) {D : va_G} {ca ad : Nat → Nat} {Z : (Nat → Prop) → State → Heap → Prop} (hZ : ZOK Z) {tO : Nat} {sK sV : Nat → Nat} (hO : ZO Z tO sK sV) (fu : Nat) {r : Nat} (hr : r < 10) {i : Nat} (hi : i < 12) (x1 : Int32) (mem : Mem) (res : Int32) (hF : K_X0_byCell fu r i x1 mem = some res) : CI l D (tyL ca) 255 ad (cC ca ad) Z yX0_byCell cX0_byCell 5 .int rm_X0_byCell [.ref (ad (pBan r i)), .int x1] mem res mem := by
  refine start_i (own := RX0) rfl (by decide) (Nat.le_of_ble_eq_true rfl) ?_
  intro p e s m args below meth c Q hQ X
  rw [K_X0_byCell] at hF
  revert hF
  have w_55 : ∀ (xs0 : Int32), K_X0_byCell_55 fu r i mem xs0 = some res → WW D 255 ad (cC ca ad) p l e rm_X0_byCell s m args below meth c 5 0 0 Q mem 55 [(0, .ref (ad (pBan r i)))] [.int xs0] := by
    intro xs0 hF
    rw [K_X0_byCell_55] at hF
    refine w_istore X [(4, .int xs0), (0, .ref (ad (pBan r i)))] dX0_byCell_55 (by decide) rfl 57 rfl ?_
    refine w_iload X 0 dX0_byCell_57 rfl 59 rfl ?_
    refine w_if_eq X hF 71 62 dX0_byCell_59 (by decide) rfl (fun hF => ?_) (fun hF => ?_)
    · refine w_iconst X 0 dX0_byCell_71 rfl 72 rfl ?_
      exact w_iret X hQ (o_inj hF) rfl rfl dX0_byCell_72
    · refine w_iconst X 1 dX0_byCell_62 rfl 63 rfl ?_
      refine w_aload_n X 1 dX0_byCell_63 rfl rfl 64 rfl ?_
      refine w_getV (v := .int (rd mem (pBan r i) 2)) X (pBan r i) (lt_Ban hr hi) (ko_Ban hi) (T := TX0) (N := 9) rfl in_X0 2 (by decide) kF_X0_21 rfl rfl dX0_byCell_64 67 rfl ?_
      refine w_ishl X dX0_byCell_67 68 rfl ?_
      refine w_goto X 72 dX0_byCell_68 (by decide) ?_
      exact w_iret X hQ (o_inj hF) rfl rfl dX0_byCell_72
  have w_54 : K_X0_byCell_54 fu r i mem = some res → WW D 255 ad (cC ca ad) p l e rm_X0_byCell s m args below meth c 5 0 0 Q mem 54 [(0, .ref (ad (pBan r i)))] [] := by
    intro hF
    rw [K_X0_byCell_54] at hF
    refine w_iconst X 0 dX0_byCell_54 rfl 55 rfl ?_
    refine w_keep [0] rfl ?_
    exact w_55 0  hF
  intro hF
  refine w_iload_n X 1 dX0_byCell_0 rfl rfl 1 rfl ?_
  refine w_bipush X 9 dX0_byCell_1 rfl 3 rfl ?_
  refine w_irem X (by decide) dX0_byCell_3 4 rfl ?_
  refine w_let hF (fun x_1 hF => ?_)
  refine w_istore_n X [(2, .int x_1), (0, .ref (ad (pBan r i))), (1, .int x1)] dX0_byCell_4 rfl (by decide) rfl 5 rfl ?_
  refine w_iload_n X 2 dX0_byCell_5 rfl rfl 6 rfl ?_
  refine w_bipush X 9 dX0_byCell_6 rfl 8 rfl ?_
  refine w_idiv X (by decide) dX0_byCell_8 9 rfl ?_
  refine w_let hF (fun x_2 hF => ?_)
  refine w_istore_n X [(3, .int x_2), (2, .int x_1), (0, .ref (ad (pBan r i))), (1, .int x1)] dX0_byCell_9 rfl (by decide) rfl 10 rfl ?_
  refine w_aload_n X 2 dX0_byCell_10 rfl rfl 11 rfl ?_
  refine w_getV (v := .int (rd mem (pBan r i) 1)) X (pBan r i) (lt_Ban hr hi) (ko_Ban hi) (T := TX0) (N := 9) rfl in_X0 1 (by decide) kF_X0_18 rfl rfl dX0_byCell_11 14 rfl ?_
  refine w_iconst X 3 dX0_byCell_14 rfl 15 rfl ?_
  refine w_icmp_ne X hF 54 18 dX0_byCell_15 (by decide) rfl (fun hF => ?_) (fun hF => ?_)
  · refine w_iload_n X 1 dX0_byCell_18 rfl rfl 19 rfl ?_
    refine w_aload_n X 2 dX0_byCell_19 rfl rfl 20 rfl ?_
    refine w_getV (v := .int (rd mem (pBan r i) 5)) X (pBan r i) (lt_Ban hr hi) (ko_Ban hi) (T := TX0) (N := 9) rfl in_X0 5 (by decide) kF_X0_27 rfl rfl dX0_byCell_20 23 rfl ?_
    refine w_icmp_lt X hF 54 26 dX0_byCell_23 (by decide) rfl (fun hF => ?_) (fun hF => ?_)
    · refine w_keep [2] rfl ?_
      exact w_54  hF
    · refine w_iload_n X 1 dX0_byCell_26 rfl rfl 27 rfl ?_
      refine w_aload_n X 2 dX0_byCell_27 rfl rfl 28 rfl ?_
      refine w_getV (v := .int (rd mem (pBan r i) 6)) X (pBan r i) (lt_Ban hr hi) (ko_Ban hi) (T := TX0) (N := 9) rfl in_X0 6 (by decide) kF_X0_30 rfl rfl dX0_byCell_28 31 rfl ?_
      refine w_icmp_gt X hF 54 34 dX0_byCell_31 (by decide) rfl (fun hF => ?_) (fun hF => ?_)
      · refine w_keep [2] rfl ?_
        exact w_54  hF
      · refine w_iload_n X 0 dX0_byCell_34 rfl rfl 35 rfl ?_
        refine w_aload_n X 2 dX0_byCell_35 rfl rfl 36 rfl ?_
        refine w_getV (v := .int (rd mem (pBan r i) 7)) X (pBan r i) (lt_Ban hr hi) (ko_Ban hi) (T := TX0) (N := 9) rfl in_X0 7 (by decide) kF_X0_33 rfl rfl dX0_byCell_36 39 rfl ?_
        refine w_icmp_lt X hF 54 42 dX0_byCell_39 (by decide) rfl (fun hF => ?_) (fun hF => ?_)
        · refine w_keep [2] rfl ?_
          exact w_54  hF
        · refine w_iload_n X 0 dX0_byCell_42 rfl rfl 43 rfl ?_
          refine w_aload_n X 2 dX0_byCell_43 rfl rfl 44 rfl ?_
          refine w_getV (v := .int (rd mem (pBan r i) 8)) X (pBan r i) (lt_Ban hr hi) (ko_Ban hi) (T := TX0) (N := 9) rfl in_X0 8 (by decide) kF_X0_36 rfl rfl dX0_byCell_44 47 rfl ?_
          refine w_icmp_gt X hF 54 50 dX0_byCell_47 (by decide) rfl (fun hF => ?_) (fun hF => ?_)
          · refine w_keep [2] rfl ?_
            exact w_54  hF
          · refine w_iconst X 1 dX0_byCell_50 rfl 51 rfl ?_
            refine w_goto X 55 dX0_byCell_51 (by decide) ?_
            refine w_keep [2] rfl ?_
            exact w_55 1  hF
  · refine w_keep [2] rfl ?_
    exact w_54  hF

def K_X0_byLatest (fu : Nat) (r : Nat) (i : Nat) (x1 : Int32) (mem : Mem) : Option Int32 := (if x1 = (-1) then some 0 else (if (rd mem (pBan r i) 1) = 0 then some (1 <<< ((x1 ^^^ 2) &&& 31)) else (if (rd mem (pBan r i) 1) = 1 then some (1 <<< (x1 &&& 31)) else some 0)))
def rm_X0_byLatest : Room := { frames := 0, cells := 0, slots := 0, locals := 0 }
set_option maxHeartbeats 4000000 in
set_option maxRecDepth 100000 in
theorem ct_X0_byLatest (l : Launch) {D : va_G} {ca ad : Nat → Nat} {Z : (Nat → Prop) → State → Heap → Prop} (hZ : ZOK Z) {tO : Nat} {sK sV : Nat → Nat} (hO : ZO Z tO sK sV) (fu : Nat) {r : Nat} (hr : r < 10) {i : Nat} (hi : i < 12) (x1 : Int32) (mem : Mem) (res : Int32) (hF : K_X0_byLatest fu r i x1 mem = some res) : CI l D (tyL ca) 255 ad (cC ca ad) Z yX0_byLatest cX0_byLatest 2 .int rm_X0_byLatest [.ref (ad (pBan r i)), .int x1] mem res mem := by
  refine start_i (own := RX0) rfl (by decide) (Nat.le_of_ble_eq_true rfl) ?_
  intro p e s m args below meth c Q hQ X
  rw [K_X0_byLatest] at hF
  revert hF
  intro hF
  refine w_iload_n X 1 dX0_byLatest_0 rfl rfl 1 rfl ?_
  refine w_iconst X (-1) dX0_byLatest_1 rfl 2 rfl ?_
  refine w_icmp_ne X hF 7 5 dX0_byLatest_2 (by decide) rfl (fun hF => ?_) (fun hF => ?_)
  · refine w_iconst X 0 dX0_byLatest_5 rfl 6 rfl ?_
    exact w_iret X hQ (o_inj hF) rfl rfl dX0_byLatest_6
  · refine w_aload_n X 0 dX0_byLatest_7 rfl rfl 8 rfl ?_
    refine w_getV (v := .int (rd mem (pBan r i) 1)) X (pBan r i) (lt_Ban hr hi) (ko_Ban hi) (T := TX0) (N := 9) rfl in_X0 1 (by decide) kF_X0_18 rfl rfl dX0_byLatest_8 11 rfl ?_
    refine w_if_ne X hF 20 14 dX0_byLatest_11 (by decide) rfl (fun hF => ?_) (fun hF => ?_)
    · refine w_iconst X 1 dX0_byLatest_14 rfl 15 rfl ?_
      refine w_iload_n X 1 dX0_byLatest_15 rfl rfl 16 rfl ?_
      refine w_iconst X 2 dX0_byLatest_16 rfl 17 rfl ?_
      refine w_ixor X dX0_byLatest_17 18 rfl ?_
      refine w_ishl X dX0_byLatest_18 19 rfl ?_
      exact w_iret X hQ (o_inj hF) rfl rfl dX0_byLatest_19
    · refine w_aload_n X 0 dX0_byLatest_20 rfl rfl 21 rfl ?_
      refine w_getV (v := .int (rd mem (pBan r i) 1)) X (pBan r i) (lt_Ban hr hi) (ko_Ban hi) (T := TX0) (N := 9) rfl in_X0 1 (by decide) kF_X0_18 rfl rfl dX0_byLatest_21 24 rfl ?_
      refine w_iconst X 1 dX0_byLatest_24 rfl 25 rfl ?_
      refine w_icmp_ne X hF 34 28 dX0_byLatest_25 (by decide) rfl (fun hF => ?_) (fun hF => ?_)
      · refine w_iconst X 1 dX0_byLatest_28 rfl 29 rfl ?_
        refine w_iload_n X 1 dX0_byLatest_29 rfl rfl 30 rfl ?_
        refine w_ishl X dX0_byLatest_30 31 rfl ?_
        refine w_goto X 35 dX0_byLatest_31 (by decide) ?_
        exact w_iret X hQ (o_inj hF) rfl rfl dX0_byLatest_35
      · refine w_iconst X 0 dX0_byLatest_34 rfl 35 rfl ?_
        exact w_iret X hQ (o_inj hF) rfl rfl dX0_byLatest_35

def K_X0_byNumber_33 (fu : Nat) (r : Nat) (i : Nat) (mem : Mem) (xs0 : Int32) : Option Int32 := (if xs0 = 0 then some 0 else some (1 <<< ((rd mem (pBan r i) 2) &&& 31)))
def K_X0_byNumber_32 (fu : Nat) (r : Nat) (i : Nat) (mem : Mem) : Option Int32 := (K_X0_byNumber_33 fu r i mem 0 )
def K_X0_byNumber (fu : Nat) (r : Nat) (i : Nat) (x1 : Int32) (mem : Mem) : Option Int32 := (if (rd mem (pBan r i) 1) = 2 then (if 0 < (rd mem (pBan r i) 3) then gz (rd mem (pBan r i) 3) (lt_ (x1 - x1 / (rd mem (pBan r i) 3) * (rd mem (pBan r i) 3)) (fun x_2 => (if x_2 = (rd mem (pBan r i) 4) then (K_X0_byNumber_33 fu r i mem 1 ) else (K_X0_byNumber_32 fu r i mem )))) else (K_X0_byNumber_32 fu r i mem )) else (K_X0_byNumber_32 fu r i mem ))
def rm_X0_byNumber : Room := { frames := 0, cells := 0, slots := 0, locals := 0 }
set_option maxHeartbeats 4000000 in
set_option maxRecDepth 100000 in
theorem ct_X0_byNumber (l : Launch) {D : va_G} {ca ad : Nat → Nat} {Z : (Nat → Prop) → State → Heap → Prop} (hZ : ZOK Z) {tO : Nat} {sK sV : Nat → Nat} (hO : ZO Z tO sK sV) (fu : Nat) {r : Nat} (hr : r < 10) {i : Nat} (hi : i < 12) (x1 : Int32) (mem : Mem) (res : Int32) (hF : K_X0_byNumber fu r i x1 mem = some res) : CI l D (tyL ca) 255 ad (cC ca ad) Z yX0_byNumber cX0_byNumber 3 .int rm_X0_byNumber [.ref (ad (pBan r i)), .int x1] mem res mem := by
  refine start_i (own := RX0) rfl (by decide) (Nat.le_of_ble_eq_true rfl) ?_
  intro p e s m args below meth c Q hQ X
  rw [K_X0_byNumber] at hF
  revert hF
  have w_33 : ∀ (xs0 : Int32), K_X0_byNumber_33 fu r i mem xs0 = some res → WW D 255 ad (cC ca ad) p l e rm_X0_byNumber s m args below meth c 3 0 0 Q mem 33 [(0, .ref (ad (pBan r i)))] [.int xs0] := by
    intro xs0 hF
    rw [K_X0_byNumber_33] at hF
    refine w_istore_n X [(2, .int xs0), (0, .ref (ad (pBan r i)))] dX0_byNumber_33 rfl (by decide) rfl 34 rfl ?_
    refine w_iload_n X 0 dX0_byNumber_34 rfl rfl 35 rfl ?_
    refine w_if_eq X hF 47 38 dX0_byNumber_35 (by decide) rfl (fun hF => ?_) (fun hF => ?_)
    · refine w_iconst X 0 dX0_byNumber_47 rfl 48 rfl ?_
      exact w_iret X hQ (o_inj hF) rfl rfl dX0_byNumber_48
    · refine w_iconst X 1 dX0_byNumber_38 rfl 39 rfl ?_
      refine w_aload_n X 1 dX0_byNumber_39 rfl rfl 40 rfl ?_
      refine w_getV (v := .int (rd mem (pBan r i) 2)) X (pBan r i) (lt_Ban hr hi) (ko_Ban hi) (T := TX0) (N := 9) rfl in_X0 2 (by decide) kF_X0_21 rfl rfl dX0_byNumber_40 43 rfl ?_
      refine w_ishl X dX0_byNumber_43 44 rfl ?_
      refine w_goto X 48 dX0_byNumber_44 (by decide) ?_
      exact w_iret X hQ (o_inj hF) rfl rfl dX0_byNumber_48
  have w_32 : K_X0_byNumber_32 fu r i mem = some res → WW D 255 ad (cC ca ad) p l e rm_X0_byNumber s m args below meth c 3 0 0 Q mem 32 [(0, .ref (ad (pBan r i)))] [] := by
    intro hF
    rw [K_X0_byNumber_32] at hF
    refine w_iconst X 0 dX0_byNumber_32 rfl 33 rfl ?_
    refine w_keep [0] rfl ?_
    exact w_33 0  hF
  intro hF
  refine w_aload_n X 0 dX0_byNumber_0 rfl rfl 1 rfl ?_
  refine w_getV (v := .int (rd mem (pBan r i) 1)) X (pBan r i) (lt_Ban hr hi) (ko_Ban hi) (T := TX0) (N := 9) rfl in_X0 1 (by decide) kF_X0_18 rfl rfl dX0_byNumber_1 4 rfl ?_
  refine w_iconst X 2 dX0_byNumber_4 rfl 5 rfl ?_
  refine w_icmp_ne X hF 32 8 dX0_byNumber_5 (by decide) rfl (fun hF => ?_) (fun hF => ?_)
  · refine w_aload_n X 0 dX0_byNumber_8 rfl rfl 9 rfl ?_
    refine w_getV (v := .int (rd mem (pBan r i) 3)) X (pBan r i) (lt_Ban hr hi) (ko_Ban hi) (T := TX0) (N := 9) rfl in_X0 3 (by decide) kF_X0_9 rfl rfl dX0_byNumber_9 12 rfl ?_
    refine w_if_le X hF 32 15 dX0_byNumber_12 (by decide) rfl (fun hF => ?_) (fun hF => ?_)
    · refine w_iload_n X 1 dX0_byNumber_15 rfl rfl 16 rfl ?_
      refine w_aload_n X 0 dX0_byNumber_16 rfl rfl 17 rfl ?_
      refine w_getV (v := .int (rd mem (pBan r i) 3)) X (pBan r i) (lt_Ban hr hi) (ko_Ban hi) (T := TX0) (N := 9) rfl in_X0 3 (by decide) kF_X0_9 rfl rfl dX0_byNumber_17 20 rfl ?_
      refine w_gz hF (fun h_1 hF => ?_)
      refine w_irem X h_1 dX0_byNumber_20 21 rfl ?_
      refine w_let hF (fun x_2 hF => ?_)
      refine w_aload_n X 0 dX0_byNumber_21 rfl rfl 22 rfl ?_
      refine w_getV (v := .int (rd mem (pBan r i) 4)) X (pBan r i) (lt_Ban hr hi) (ko_Ban hi) (T := TX0) (N := 9) rfl in_X0 4 (by decide) kF_X0_24 rfl rfl dX0_byNumber_22 25 rfl ?_
      refine w_icmp_ne X hF 32 28 dX0_byNumber_25 (by decide) rfl (fun hF => ?_) (fun hF => ?_)
      · refine w_iconst X 1 dX0_byNumber_28 rfl 29 rfl ?_
        refine w_goto X 33 dX0_byNumber_29 (by decide) ?_
        refine w_keep [0] rfl ?_
        exact w_33 1  hF
      · refine w_keep [0] rfl ?_
        exact w_32  hF
    · refine w_keep [0] rfl ?_
      exact w_32  hF
  · refine w_keep [0] rfl ?_
    exact w_32  hF

def K_X0_copyFrom (fu : Nat) (r : Nat) (i : Nat) (r1 : Nat) (i1 : Nat) (mem : Mem) : Option Mem := lt_ (mw mem (pBan r i) 0 (rd mem (pBan r1 i1) 0)) (fun m_1 => lt_ (mw m_1 (pBan r i) 1 (rd m_1 (pBan r1 i1) 1)) (fun m_2 => lt_ (mw m_2 (pBan r i) 2 (rd m_2 (pBan r1 i1) 2)) (fun m_3 => lt_ (mw m_3 (pBan r i) 3 (rd m_3 (pBan r1 i1) 3)) (fun m_4 => lt_ (mw m_4 (pBan r i) 4 (rd m_4 (pBan r1 i1) 4)) (fun m_5 => lt_ (mw m_5 (pBan r i) 5 (rd m_5 (pBan r1 i1) 5)) (fun m_6 => lt_ (mw m_6 (pBan r i) 6 (rd m_6 (pBan r1 i1) 6)) (fun m_7 => lt_ (mw m_7 (pBan r i) 7 (rd m_7 (pBan r1 i1) 7)) (fun m_8 => lt_ (mw m_8 (pBan r i) 8 (rd m_8 (pBan r1 i1) 8)) (fun m_9 => some m_9)))))))))
def rm_X0_copyFrom : Room := { frames := 0, cells := 0, slots := 0, locals := 0 }
set_option maxHeartbeats 4000000 in
set_option maxRecDepth 100000 in
theorem ct_X0_copyFrom (l : Launch) {D : va_G} {ca ad : Nat → Nat} {Z : (Nat → Prop) → State → Heap → Prop} (hZ : ZOK Z) {tO : Nat} {sK sV : Nat → Nat} (hO : ZO Z tO sK sV) (fu : Nat) {r : Nat} (hr : r < 10) {i : Nat} (hi : i < 12) {r1 : Nat} (hr1 : r1 < 10) {i1 : Nat} (hi1 : i1 < 12) (mem : Mem) (res : Mem) (hF : K_X0_copyFrom fu r i r1 i1 mem = some res) : CV l D (tyL ca) 255 ad (cC ca ad) Z yX0_copyFrom cX0_copyFrom 2 rm_X0_copyFrom [.ref (ad (pBan r i)), .ref (ad (pBan r1 i1))] mem res := by
  refine start_v (own := RX0) rfl (by decide) (Nat.le_of_ble_eq_true rfl) ?_
  intro p e s m args below meth c Q hQ X
  rw [K_X0_copyFrom] at hF
  revert hF
  intro hF
  refine w_aload_n X 0 dX0_copyFrom_0 rfl rfl 1 rfl ?_
  refine w_aload_n X 1 dX0_copyFrom_1 rfl rfl 2 rfl ?_
  refine w_getV (v := .int (rd mem (pBan r1 i1) 0)) X (pBan r1 i1) (lt_Ban hr1 hi1) (ko_Ban hi1) (T := TX0) (N := 9) rfl in_X0 0 (by decide) kF_X0_15 rfl rfl dX0_copyFrom_2 5 rfl ?_
  refine w_putI X (pBan r i) (lt_Ban hr hi) (ko_Ban hi) (T := TX0) (N := 9) rfl in_X0 tyX0 tyX0_ok nmX0 0 (by decide) kF_X0_15 rfl rfl rfl rfl (Nat.le_of_ble_eq_true rfl) rfl dX0_copyFrom_5 8 rfl ?_
  refine w_letm hF (fun m_1 hF => ?_)
  refine w_aload_n X 0 dX0_copyFrom_8 rfl rfl 9 rfl ?_
  refine w_aload_n X 1 dX0_copyFrom_9 rfl rfl 10 rfl ?_
  refine w_getV (v := .int (rd m_1 (pBan r1 i1) 1)) X (pBan r1 i1) (lt_Ban hr1 hi1) (ko_Ban hi1) (T := TX0) (N := 9) rfl in_X0 1 (by decide) kF_X0_18 rfl rfl dX0_copyFrom_10 13 rfl ?_
  refine w_putI X (pBan r i) (lt_Ban hr hi) (ko_Ban hi) (T := TX0) (N := 9) rfl in_X0 tyX0 tyX0_ok nmX0 1 (by decide) kF_X0_18 rfl rfl rfl rfl (Nat.le_of_ble_eq_true rfl) rfl dX0_copyFrom_13 16 rfl ?_
  refine w_letm hF (fun m_2 hF => ?_)
  refine w_aload_n X 0 dX0_copyFrom_16 rfl rfl 17 rfl ?_
  refine w_aload_n X 1 dX0_copyFrom_17 rfl rfl 18 rfl ?_
  refine w_getV (v := .int (rd m_2 (pBan r1 i1) 2)) X (pBan r1 i1) (lt_Ban hr1 hi1) (ko_Ban hi1) (T := TX0) (N := 9) rfl in_X0 2 (by decide) kF_X0_21 rfl rfl dX0_copyFrom_18 21 rfl ?_
  refine w_putI X (pBan r i) (lt_Ban hr hi) (ko_Ban hi) (T := TX0) (N := 9) rfl in_X0 tyX0 tyX0_ok nmX0 2 (by decide) kF_X0_21 rfl rfl rfl rfl (Nat.le_of_ble_eq_true rfl) rfl dX0_copyFrom_21 24 rfl ?_
  refine w_letm hF (fun m_3 hF => ?_)
  refine w_aload_n X 0 dX0_copyFrom_24 rfl rfl 25 rfl ?_
  refine w_aload_n X 1 dX0_copyFrom_25 rfl rfl 26 rfl ?_
  refine w_getV (v := .int (rd m_3 (pBan r1 i1) 3)) X (pBan r1 i1) (lt_Ban hr1 hi1) (ko_Ban hi1) (T := TX0) (N := 9) rfl in_X0 3 (by decide) kF_X0_9 rfl rfl dX0_copyFrom_26 29 rfl ?_
  refine w_putI X (pBan r i) (lt_Ban hr hi) (ko_Ban hi) (T := TX0) (N := 9) rfl in_X0 tyX0 tyX0_ok nmX0 3 (by decide) kF_X0_9 rfl rfl rfl rfl (Nat.le_of_ble_eq_true rfl) rfl dX0_copyFrom_29 32 rfl ?_
  refine w_letm hF (fun m_4 hF => ?_)
  refine w_aload_n X 0 dX0_copyFrom_32 rfl rfl 33 rfl ?_
  refine w_aload_n X 1 dX0_copyFrom_33 rfl rfl 34 rfl ?_
  refine w_getV (v := .int (rd m_4 (pBan r1 i1) 4)) X (pBan r1 i1) (lt_Ban hr1 hi1) (ko_Ban hi1) (T := TX0) (N := 9) rfl in_X0 4 (by decide) kF_X0_24 rfl rfl dX0_copyFrom_34 37 rfl ?_
  refine w_putI X (pBan r i) (lt_Ban hr hi) (ko_Ban hi) (T := TX0) (N := 9) rfl in_X0 tyX0 tyX0_ok nmX0 4 (by decide) kF_X0_24 rfl rfl rfl rfl (Nat.le_of_ble_eq_true rfl) rfl dX0_copyFrom_37 40 rfl ?_
  refine w_letm hF (fun m_5 hF => ?_)
  refine w_aload_n X 0 dX0_copyFrom_40 rfl rfl 41 rfl ?_
  refine w_aload_n X 1 dX0_copyFrom_41 rfl rfl 42 rfl ?_
  refine w_getV (v := .int (rd m_5 (pBan r1 i1) 5)) X (pBan r1 i1) (lt_Ban hr1 hi1) (ko_Ban hi1) (T := TX0) (N := 9) rfl in_X0 5 (by decide) kF_X0_27 rfl rfl dX0_copyFrom_42 45 rfl ?_
  refine w_putI X (pBan r i) (lt_Ban hr hi) (ko_Ban hi) (T := TX0) (N := 9) rfl in_X0 tyX0 tyX0_ok nmX0 5 (by decide) kF_X0_27 rfl rfl rfl rfl (Nat.le_of_ble_eq_true rfl) rfl dX0_copyFrom_45 48 rfl ?_
  refine w_letm hF (fun m_6 hF => ?_)
  refine w_aload_n X 0 dX0_copyFrom_48 rfl rfl 49 rfl ?_
  refine w_aload_n X 1 dX0_copyFrom_49 rfl rfl 50 rfl ?_
  refine w_getV (v := .int (rd m_6 (pBan r1 i1) 6)) X (pBan r1 i1) (lt_Ban hr1 hi1) (ko_Ban hi1) (T := TX0) (N := 9) rfl in_X0 6 (by decide) kF_X0_30 rfl rfl dX0_copyFrom_50 53 rfl ?_
  refine w_putI X (pBan r i) (lt_Ban hr hi) (ko_Ban hi) (T := TX0) (N := 9) rfl in_X0 tyX0 tyX0_ok nmX0 6 (by decide) kF_X0_30 rfl rfl rfl rfl (Nat.le_of_ble_eq_true rfl) rfl dX0_copyFrom_53 56 rfl ?_
  refine w_letm hF (fun m_7 hF => ?_)
  refine w_aload_n X 0 dX0_copyFrom_56 rfl rfl 57 rfl ?_
  refine w_aload_n X 1 dX0_copyFrom_57 rfl rfl 58 rfl ?_
  refine w_getV (v := .int (rd m_7 (pBan r1 i1) 7)) X (pBan r1 i1) (lt_Ban hr1 hi1) (ko_Ban hi1) (T := TX0) (N := 9) rfl in_X0 7 (by decide) kF_X0_33 rfl rfl dX0_copyFrom_58 61 rfl ?_
  refine w_putI X (pBan r i) (lt_Ban hr hi) (ko_Ban hi) (T := TX0) (N := 9) rfl in_X0 tyX0 tyX0_ok nmX0 7 (by decide) kF_X0_33 rfl rfl rfl rfl (Nat.le_of_ble_eq_true rfl) rfl dX0_copyFrom_61 64 rfl ?_
  refine w_letm hF (fun m_8 hF => ?_)
  refine w_aload_n X 0 dX0_copyFrom_64 rfl rfl 65 rfl ?_
  refine w_aload_n X 1 dX0_copyFrom_65 rfl rfl 66 rfl ?_
  refine w_getV (v := .int (rd m_8 (pBan r1 i1) 8)) X (pBan r1 i1) (lt_Ban hr1 hi1) (ko_Ban hi1) (T := TX0) (N := 9) rfl in_X0 8 (by decide) kF_X0_36 rfl rfl dX0_copyFrom_66 69 rfl ?_
  refine w_putI X (pBan r i) (lt_Ban hr hi) (ko_Ban hi) (T := TX0) (N := 9) rfl in_X0 tyX0 tyX0_ok nmX0 8 (by decide) kF_X0_36 rfl rfl rfl rfl (Nat.le_of_ble_eq_true rfl) rfl dX0_copyFrom_69 72 rfl ?_
  refine w_letm hF (fun m_9 hF => ?_)
  exact w_vret X hQ (o_inj hF) dX0_copyFrom_72

def K_X0_setEvery (fu : Nat) (r : Nat) (i : Nat) (x1 : Int32) (x2 : Int32) (x3 : Int32) (mem : Mem) : Option Mem := lt_ (mw mem (pBan r i) 1 2) (fun m_1 => lt_ (mw m_1 (pBan r i) 2 x1) (fun m_2 => lt_ (mw m_2 (pBan r i) 3 x2) (fun m_3 => lt_ (mw m_3 (pBan r i) 4 x3) (fun m_4 => some m_4))))
def rm_X0_setEvery : Room := { frames := 0, cells := 0, slots := 0, locals := 0 }
set_option maxHeartbeats 4000000 in
set_option maxRecDepth 100000 in
theorem ct_X0_setEvery (l : Launch) {D : va_G} {ca ad : Nat → Nat} {Z : (Nat → Prop) → State → Heap → Prop} (hZ : ZOK Z) {tO : Nat} {sK sV : Nat → Nat} (hO : ZO Z tO sK sV) (fu : Nat) {r : Nat} (hr : r < 10) {i : Nat} (hi : i < 12) (x1 : Int32) (x2 : Int32) (x3 : Int32) (mem : Mem) (res : Mem) (hF : K_X0_setEvery fu r i x1 x2 x3 mem = some res) : CV l D (tyL ca) 255 ad (cC ca ad) Z yX0_setEvery cX0_setEvery 4 rm_X0_setEvery [.ref (ad (pBan r i)), .int x1, .int x2, .int x3] mem res := by
  refine start_v (own := RX0) rfl (by decide) (Nat.le_of_ble_eq_true rfl) ?_
  intro p e s m args below meth c Q hQ X
  rw [K_X0_setEvery] at hF
  revert hF
  intro hF
  refine w_aload_n X 0 dX0_setEvery_0 rfl rfl 1 rfl ?_
  refine w_iconst X 2 dX0_setEvery_1 rfl 2 rfl ?_
  refine w_putI X (pBan r i) (lt_Ban hr hi) (ko_Ban hi) (T := TX0) (N := 9) rfl in_X0 tyX0 tyX0_ok nmX0 1 (by decide) kF_X0_18 rfl rfl rfl rfl (Nat.le_of_ble_eq_true rfl) rfl dX0_setEvery_2 5 rfl ?_
  refine w_letm hF (fun m_1 hF => ?_)
  refine w_aload_n X 0 dX0_setEvery_5 rfl rfl 6 rfl ?_
  refine w_iload_n X 1 dX0_setEvery_6 rfl rfl 7 rfl ?_
  refine w_putI X (pBan r i) (lt_Ban hr hi) (ko_Ban hi) (T := TX0) (N := 9) rfl in_X0 tyX0 tyX0_ok nmX0 2 (by decide) kF_X0_21 rfl rfl rfl rfl (Nat.le_of_ble_eq_true rfl) rfl dX0_setEvery_7 10 rfl ?_
  refine w_letm hF (fun m_2 hF => ?_)
  refine w_aload_n X 0 dX0_setEvery_10 rfl rfl 11 rfl ?_
  refine w_iload_n X 2 dX0_setEvery_11 rfl rfl 12 rfl ?_
  refine w_putI X (pBan r i) (lt_Ban hr hi) (ko_Ban hi) (T := TX0) (N := 9) rfl in_X0 tyX0 tyX0_ok nmX0 3 (by decide) kF_X0_9 rfl rfl rfl rfl (Nat.le_of_ble_eq_true rfl) rfl dX0_setEvery_12 15 rfl ?_
  refine w_letm hF (fun m_3 hF => ?_)
  refine w_aload_n X 0 dX0_setEvery_15 rfl rfl 16 rfl ?_
  refine w_iload_n X 3 dX0_setEvery_16 rfl rfl 17 rfl ?_
  refine w_putI X (pBan r i) (lt_Ban hr hi) (ko_Ban hi) (T := TX0) (N := 9) rfl in_X0 tyX0 tyX0_ok nmX0 4 (by decide) kF_X0_24 rfl rfl rfl rfl (Nat.le_of_ble_eq_true rfl) rfl dX0_setEvery_17 20 rfl ?_
  refine w_letm hF (fun m_4 hF => ?_)
  exact w_vret X hQ (o_inj hF) dX0_setEvery_20

def K_X0_setWithin (fu : Nat) (r : Nat) (i : Nat) (x1 : Int32) (x2 : Int32) (x3 : Int32) (mem : Mem) : Option Mem := lt_ (mw mem (pBan r i) 1 3) (fun m_1 => lt_ (mw m_1 (pBan r i) 2 x1) (fun m_2 => lt_ (x2 - x2 / 9 * 9) (fun x_3 => lt_ (x3 - x3 / 9 * 9) (fun x_4 => bd (K_J9_min_7cf53 fu x_3 x_4 m_2) (fun x_5 => lt_ (mw m_2 (pBan r i) 5 x_5) (fun m_6 => lt_ (x2 - x2 / 9 * 9) (fun x_7 => lt_ (x3 - x3 / 9 * 9) (fun x_8 => bd (K_J9_max_7cf53 fu x_7 x_8 m_6) (fun x_9 => lt_ (mw m_6 (pBan r i) 6 x_9) (fun m_10 => lt_ (x2 / 9) (fun x_11 => lt_ (x3 / 9) (fun x_12 => bd (K_J9_min_7cf53 fu x_11 x_12 m_10) (fun x_13 => lt_ (mw m_10 (pBan r i) 7 x_13) (fun m_14 => lt_ (x2 / 9) (fun x_15 => lt_ (x3 / 9) (fun x_16 => bd (K_J9_max_7cf53 fu x_15 x_16 m_14) (fun x_17 => lt_ (mw m_14 (pBan r i) 8 x_17) (fun m_18 => some m_18))))))))))))))))))
def rm_X0_setWithin : Room := { frames := 1, cells := 0, slots := 0, locals := 21 }
set_option maxHeartbeats 4000000 in
set_option maxRecDepth 100000 in
theorem ct_X0_setWithin (l : Launch) {D : va_G} {ca ad : Nat → Nat} {Z : (Nat → Prop) → State → Heap → Prop} (hZ : ZOK Z) {tO : Nat} {sK sV : Nat → Nat} (hO : ZO Z tO sK sV) (fu : Nat) {r : Nat} (hr : r < 10) {i : Nat} (hi : i < 12) (x1 : Int32) (x2 : Int32) (x3 : Int32) (mem : Mem) (res : Mem) (hF : K_X0_setWithin fu r i x1 x2 x3 mem = some res) : CV l D (tyL ca) 255 ad (cC ca ad) Z yX0_setWithin cX0_setWithin 4 rm_X0_setWithin [.ref (ad (pBan r i)), .int x1, .int x2, .int x3] mem res := by
  refine start_v (own := RX0) rfl (by decide) (Nat.le_of_ble_eq_true rfl) ?_
  intro p e s m args below meth c Q hQ X
  rw [K_X0_setWithin] at hF
  revert hF
  intro hF
  refine w_aload_n X 0 dX0_setWithin_0 rfl rfl 1 rfl ?_
  refine w_iconst X 3 dX0_setWithin_1 rfl 2 rfl ?_
  refine w_putI X (pBan r i) (lt_Ban hr hi) (ko_Ban hi) (T := TX0) (N := 9) rfl in_X0 tyX0 tyX0_ok nmX0 1 (by decide) kF_X0_18 rfl rfl rfl rfl (Nat.le_of_ble_eq_true rfl) rfl dX0_setWithin_2 5 rfl ?_
  refine w_letm hF (fun m_1 hF => ?_)
  refine w_aload_n X 0 dX0_setWithin_5 rfl rfl 6 rfl ?_
  refine w_iload_n X 1 dX0_setWithin_6 rfl rfl 7 rfl ?_
  refine w_putI X (pBan r i) (lt_Ban hr hi) (ko_Ban hi) (T := TX0) (N := 9) rfl in_X0 tyX0 tyX0_ok nmX0 2 (by decide) kF_X0_21 rfl rfl rfl rfl (Nat.le_of_ble_eq_true rfl) rfl dX0_setWithin_7 10 rfl ?_
  refine w_letm hF (fun m_2 hF => ?_)
  refine w_aload_n X 0 dX0_setWithin_10 rfl rfl 11 rfl ?_
  refine w_iload_n X 2 dX0_setWithin_11 rfl rfl 12 rfl ?_
  refine w_bipush X 9 dX0_setWithin_12 rfl 14 rfl ?_
  refine w_irem X (by decide) dX0_setWithin_14 15 rfl ?_
  refine w_let hF (fun x_3 hF => ?_)
  refine w_iload_n X 3 dX0_setWithin_15 rfl rfl 16 rfl ?_
  refine w_bipush X 9 dX0_setWithin_16 rfl 18 rfl ?_
  refine w_irem X (by decide) dX0_setWithin_18 19 rfl ?_
  refine w_let hF (fun x_4 hF => ?_)
  refine w_mmin X hF kL_X0_39 ⟨Nat.le_of_ble_eq_true rfl, Nat.le_of_ble_eq_true rfl⟩ (Nat.le_of_ble_eq_true rfl) ⟨Nat.zero_le _, Nat.zero_le _⟩ dX0_setWithin_19 22 rfl (fun x_5 hF => ?_)
  refine w_putI X (pBan r i) (lt_Ban hr hi) (ko_Ban hi) (T := TX0) (N := 9) rfl in_X0 tyX0 tyX0_ok nmX0 5 (by decide) kF_X0_27 rfl rfl rfl rfl (Nat.le_of_ble_eq_true rfl) rfl dX0_setWithin_22 25 rfl ?_
  refine w_letm hF (fun m_6 hF => ?_)
  refine w_aload_n X 0 dX0_setWithin_25 rfl rfl 26 rfl ?_
  refine w_iload_n X 2 dX0_setWithin_26 rfl rfl 27 rfl ?_
  refine w_bipush X 9 dX0_setWithin_27 rfl 29 rfl ?_
  refine w_irem X (by decide) dX0_setWithin_29 30 rfl ?_
  refine w_let hF (fun x_7 hF => ?_)
  refine w_iload_n X 3 dX0_setWithin_30 rfl rfl 31 rfl ?_
  refine w_bipush X 9 dX0_setWithin_31 rfl 33 rfl ?_
  refine w_irem X (by decide) dX0_setWithin_33 34 rfl ?_
  refine w_let hF (fun x_8 hF => ?_)
  refine w_mmax X hF kL_X0_45 ⟨Nat.le_of_ble_eq_true rfl, Nat.le_of_ble_eq_true rfl⟩ (Nat.le_of_ble_eq_true rfl) ⟨Nat.zero_le _, Nat.zero_le _⟩ dX0_setWithin_34 37 rfl (fun x_9 hF => ?_)
  refine w_putI X (pBan r i) (lt_Ban hr hi) (ko_Ban hi) (T := TX0) (N := 9) rfl in_X0 tyX0 tyX0_ok nmX0 6 (by decide) kF_X0_30 rfl rfl rfl rfl (Nat.le_of_ble_eq_true rfl) rfl dX0_setWithin_37 40 rfl ?_
  refine w_letm hF (fun m_10 hF => ?_)
  refine w_aload_n X 0 dX0_setWithin_40 rfl rfl 41 rfl ?_
  refine w_iload_n X 2 dX0_setWithin_41 rfl rfl 42 rfl ?_
  refine w_bipush X 9 dX0_setWithin_42 rfl 44 rfl ?_
  refine w_idiv X (by decide) dX0_setWithin_44 45 rfl ?_
  refine w_let hF (fun x_11 hF => ?_)
  refine w_iload_n X 3 dX0_setWithin_45 rfl rfl 46 rfl ?_
  refine w_bipush X 9 dX0_setWithin_46 rfl 48 rfl ?_
  refine w_idiv X (by decide) dX0_setWithin_48 49 rfl ?_
  refine w_let hF (fun x_12 hF => ?_)
  refine w_mmin X hF kL_X0_39 ⟨Nat.le_of_ble_eq_true rfl, Nat.le_of_ble_eq_true rfl⟩ (Nat.le_of_ble_eq_true rfl) ⟨Nat.zero_le _, Nat.zero_le _⟩ dX0_setWithin_49 52 rfl (fun x_13 hF => ?_)
  refine w_putI X (pBan r i) (lt_Ban hr hi) (ko_Ban hi) (T := TX0) (N := 9) rfl in_X0 tyX0 tyX0_ok nmX0 7 (by decide) kF_X0_33 rfl rfl rfl rfl (Nat.le_of_ble_eq_true rfl) rfl dX0_setWithin_52 55 rfl ?_
  refine w_letm hF (fun m_14 hF => ?_)
  refine w_aload_n X 0 dX0_setWithin_55 rfl rfl 56 rfl ?_
  refine w_iload_n X 2 dX0_setWithin_56 rfl rfl 57 rfl ?_
  refine w_bipush X 9 dX0_setWithin_57 rfl 59 rfl ?_
  refine w_idiv X (by decide) dX0_setWithin_59 60 rfl ?_
  refine w_let hF (fun x_15 hF => ?_)
  refine w_iload_n X 3 dX0_setWithin_60 rfl rfl 61 rfl ?_
  refine w_bipush X 9 dX0_setWithin_61 rfl 63 rfl ?_
  refine w_idiv X (by decide) dX0_setWithin_63 64 rfl ?_
  refine w_let hF (fun x_16 hF => ?_)
  refine w_mmax X hF kL_X0_45 ⟨Nat.le_of_ble_eq_true rfl, Nat.le_of_ble_eq_true rfl⟩ (Nat.le_of_ble_eq_true rfl) ⟨Nat.zero_le _, Nat.zero_le _⟩ dX0_setWithin_64 67 rfl (fun x_17 hF => ?_)
  refine w_putI X (pBan r i) (lt_Ban hr hi) (ko_Ban hi) (T := TX0) (N := 9) rfl in_X0 tyX0 tyX0_ok nmX0 8 (by decide) kF_X0_36 rfl rfl rfl rfl (Nat.le_of_ble_eq_true rfl) rfl dX0_setWithin_67 70 rfl ?_
  refine w_letm hF (fun m_18 hF => ?_)
  exact w_vret X hQ (o_inj hF) dX0_setWithin_70

def K_X10_beginAt (fu : Nat) (w : Nat) (x1 : Int32) (mem : Mem) : Option Mem := (if x1 < 0 then some mem else (if x1 < 81 then (if (rd mem (pWays w) 2) < 81 then gi x1 81 (lt_ (mw mem (pDist w) (Int32.toNatClampNeg x1) 0) (fun m_2 => gi (rd m_2 (pWays w) 2) 81 (lt_ (mw m_2 (pQueue w) (Int32.toNatClampNeg (rd m_2 (pWays w) 2)) x1) (fun m_4 => lt_ (mw m_4 (pWays w) 2 ((rd m_4 (pWays w) 2) + 1)) (fun m_5 => some m_5))))) else some mem) else some mem))
def rm_X10_beginAt : Room := { frames := 0, cells := 0, slots := 0, locals := 0 }
set_option maxHeartbeats 4000000 in
set_option maxRecDepth 100000 in
theorem ct_X10_beginAt (l : Launch) {D : va_G} {ca ad : Nat → Nat} {Z : (Nat → Prop) → State → Heap → Prop} (hZ : ZOK Z) {tO : Nat} {sK sV : Nat → Nat} (hO : ZO Z tO sK sV) (fu : Nat) {w : Nat} (hw : w < 2) (x1 : Int32) (mem : Mem) (res : Mem) (hF : K_X10_beginAt fu w x1 mem = some res) : CV l D (tyL ca) 255 ad (cC ca ad) Z yX10_beginAt cX10_beginAt 2 rm_X10_beginAt [.ref (ad (pWays w)), .int x1] mem res := by
  refine start_v (own := RX10) rfl (by decide) (Nat.le_of_ble_eq_true rfl) ?_
  intro p e s m args below meth c Q hQ X
  rw [K_X10_beginAt] at hF
  revert hF
  intro hF
  refine w_iload_n X 1 dX10_beginAt_0 rfl rfl 1 rfl ?_
  refine w_if_lt X hF 46 4 dX10_beginAt_1 (by decide) rfl (fun hF => ?_) (fun hF => ?_)
  · exact w_vret X hQ (o_inj hF) dX10_beginAt_46
  · refine w_iload_n X 1 dX10_beginAt_4 rfl rfl 5 rfl ?_
    refine w_bipush X 81 dX10_beginAt_5 rfl 7 rfl ?_
    refine w_icmp_ge X hF 46 10 dX10_beginAt_7 (by decide) rfl (fun hF => ?_) (fun hF => ?_)
    · refine w_aload_n X 0 dX10_beginAt_10 rfl rfl 11 rfl ?_
      refine w_getV (v := .int (rd mem (pWays w) 2)) X (pWays w) (lt_Ways hw) (ko_Ways hw) (T := TX10) (N := 4) rfl in_X10 2 (by decide) kF_X10_27 rfl rfl dX10_beginAt_11 14 rfl ?_
      refine w_bipush X 81 dX10_beginAt_14 rfl 16 rfl ?_
      refine w_icmp_ge X hF 46 19 dX10_beginAt_16 (by decide) rfl (fun hF => ?_) (fun hF => ?_)
      · refine w_aload_n X 0 dX10_beginAt_19 rfl rfl 20 rfl ?_
        refine w_getV (v := .ref (ad (pDist w))) X (pWays w) (lt_Ways hw) (ko_Ways hw) (T := TX10) (N := 4) rfl in_X10 0 (by decide) kF_X10_9 rfl rfl dX10_beginAt_20 23 rfl ?_
        refine w_iload_n X 1 dX10_beginAt_23 rfl rfl 24 rfl ?_
        refine w_iconst X 0 dX10_beginAt_24 rfl 25 rfl ?_
        refine w_gi hF (fun h_1 hF => ?_)
        refine w_ias X (pDist w) (lt_Dist hw) (ko_Dist hw) (t0 := 0) rfl h_1 dX10_beginAt_25 26 rfl ?_
        refine w_letm hF (fun m_2 hF => ?_)
        refine w_aload_n X 0 dX10_beginAt_26 rfl rfl 27 rfl ?_
        refine w_getV (v := .ref (ad (pQueue w))) X (pWays w) (lt_Ways hw) (ko_Ways hw) (T := TX10) (N := 4) rfl in_X10 1 (by decide) kF_X10_15 rfl rfl dX10_beginAt_27 30 rfl ?_
        refine w_aload_n X 0 dX10_beginAt_30 rfl rfl 31 rfl ?_
        refine w_getV (v := .int (rd m_2 (pWays w) 2)) X (pWays w) (lt_Ways hw) (ko_Ways hw) (T := TX10) (N := 4) rfl in_X10 2 (by decide) kF_X10_27 rfl rfl dX10_beginAt_31 34 rfl ?_
        refine w_iload_n X 1 dX10_beginAt_34 rfl rfl 35 rfl ?_
        refine w_gi hF (fun h_3 hF => ?_)
        refine w_ias X (pQueue w) (lt_Queue hw) (ko_Queue hw) (t0 := 0) rfl h_3 dX10_beginAt_35 36 rfl ?_
        refine w_letm hF (fun m_4 hF => ?_)
        refine w_aload_n X 0 dX10_beginAt_36 rfl rfl 37 rfl ?_
        refine w_dup X dX10_beginAt_37 rfl 38 rfl ?_
        refine w_getV (v := .int (rd m_4 (pWays w) 2)) X (pWays w) (lt_Ways hw) (ko_Ways hw) (T := TX10) (N := 4) rfl in_X10 2 (by decide) kF_X10_27 rfl rfl dX10_beginAt_38 41 rfl ?_
        refine w_iconst X 1 dX10_beginAt_41 rfl 42 rfl ?_
        refine w_iadd X dX10_beginAt_42 43 rfl ?_
        refine w_putI X (pWays w) (lt_Ways hw) (ko_Ways hw) (T := TX10) (N := 4) rfl in_X10 tyX10 tyX10_ok nmX10 2 (by decide) kF_X10_27 rfl rfl rfl rfl (Nat.le_of_ble_eq_true rfl) rfl dX10_beginAt_43 46 rfl ?_
        refine w_letm hF (fun m_5 hF => ?_)
        exact w_vret X hQ (o_inj hF) dX10_beginAt_46
      · exact w_vret X hQ (o_inj hF) dX10_beginAt_46
    · exact w_vret X hQ (o_inj hF) dX10_beginAt_46

def K_X2_hasCell (fu : Nat) (r : Nat) (x1 : Int32) (x2 : Int32) (mem : Mem) : Option Int32 := (if x1 < 0 then some 0 else (if x1 < (rd mem (pBoard r) 0) then (if x2 < 0 then some 0 else (if x2 < (rd mem (pBoard r) 1) then some 1 else some 0)) else some 0))
def rm_X2_hasCell : Room := { frames := 0, cells := 0, slots := 0, locals := 0 }
set_option maxHeartbeats 4000000 in
set_option maxRecDepth 100000 in
theorem ct_X2_hasCell (l : Launch) {D : va_G} {ca ad : Nat → Nat} {Z : (Nat → Prop) → State → Heap → Prop} (hZ : ZOK Z) {tO : Nat} {sK sV : Nat → Nat} (hO : ZO Z tO sK sV) (fu : Nat) {r : Nat} (hr : r < 10) (x1 : Int32) (x2 : Int32) (mem : Mem) (res : Int32) (hF : K_X2_hasCell fu r x1 x2 mem = some res) : CI l D (tyL ca) 255 ad (cC ca ad) Z yX2_hasCell cX2_hasCell 3 .boolean rm_X2_hasCell [.ref (ad (pBoard r)), .int x1, .int x2] mem res mem := by
  refine start_i (own := RX2) rfl (by decide) (Nat.le_of_ble_eq_true rfl) ?_
  intro p e s m args below meth c Q hQ X
  rw [K_X2_hasCell] at hF
  revert hF
  intro hF
  refine w_iload_n X 1 dX2_hasCell_0 rfl rfl 1 rfl ?_
  refine w_if_lt X hF 28 4 dX2_hasCell_1 (by decide) rfl (fun hF => ?_) (fun hF => ?_)
  · refine w_iconst X 0 dX2_hasCell_28 rfl 29 rfl ?_
    exact w_iret X hQ (o_inj hF) rfl rfl dX2_hasCell_29
  · refine w_iload_n X 1 dX2_hasCell_4 rfl rfl 5 rfl ?_
    refine w_aload_n X 0 dX2_hasCell_5 rfl rfl 6 rfl ?_
    refine w_getV (v := .int (rd mem (pBoard r) 0)) X (pBoard r) (lt_Board hr) ko_Board (T := TX2) (N := 5) rfl in_X2 0 (by decide) kF_X2_22 rfl rfl dX2_hasCell_6 9 rfl ?_
    refine w_icmp_ge X hF 28 12 dX2_hasCell_9 (by decide) rfl (fun hF => ?_) (fun hF => ?_)
    · refine w_iload_n X 2 dX2_hasCell_12 rfl rfl 13 rfl ?_
      refine w_if_lt X hF 28 16 dX2_hasCell_13 (by decide) rfl (fun hF => ?_) (fun hF => ?_)
      · refine w_iconst X 0 dX2_hasCell_28 rfl 29 rfl ?_
        exact w_iret X hQ (o_inj hF) rfl rfl dX2_hasCell_29
      · refine w_iload_n X 2 dX2_hasCell_16 rfl rfl 17 rfl ?_
        refine w_aload_n X 0 dX2_hasCell_17 rfl rfl 18 rfl ?_
        refine w_getV (v := .int (rd mem (pBoard r) 1)) X (pBoard r) (lt_Board hr) ko_Board (T := TX2) (N := 5) rfl in_X2 1 (by decide) kF_X2_26 rfl rfl dX2_hasCell_18 21 rfl ?_
        refine w_icmp_ge X hF 28 24 dX2_hasCell_21 (by decide) rfl (fun hF => ?_) (fun hF => ?_)
        · refine w_iconst X 1 dX2_hasCell_24 rfl 25 rfl ?_
          refine w_goto X 29 dX2_hasCell_25 (by decide) ?_
          exact w_iret X hQ (o_inj hF) rfl rfl dX2_hasCell_29
        · refine w_iconst X 0 dX2_hasCell_28 rfl 29 rfl ?_
          exact w_iret X hQ (o_inj hF) rfl rfl dX2_hasCell_29
    · refine w_iconst X 0 dX2_hasCell_28 rfl 29 rfl ?_
      exact w_iret X hQ (o_inj hF) rfl rfl dX2_hasCell_29

def K_X2_sideLength_9 (fu : Nat) (r : Nat) (mem : Mem) : Option Int32 := some (rd mem (pBoard r) 0)
def K_X2_sideLength (fu : Nat) (r : Nat) (x1 : Int32) (mem : Mem) : Option Int32 := (if x1 = 0 then (K_X2_sideLength_9 fu r mem ) else (if x1 = 2 then (K_X2_sideLength_9 fu r mem ) else some (rd mem (pBoard r) 1)))
def rm_X2_sideLength : Room := { frames := 0, cells := 0, slots := 0, locals := 0 }
set_option maxHeartbeats 4000000 in
set_option maxRecDepth 100000 in
theorem ct_X2_sideLength (l : Launch) {D : va_G} {ca ad : Nat → Nat} {Z : (Nat → Prop) → State → Heap → Prop} (hZ : ZOK Z) {tO : Nat} {sK sV : Nat → Nat} (hO : ZO Z tO sK sV) (fu : Nat) {r : Nat} (hr : r < 10) (x1 : Int32) (mem : Mem) (res : Int32) (hF : K_X2_sideLength fu r x1 mem = some res) : CI l D (tyL ca) 255 ad (cC ca ad) Z yX2_sideLength cX2_sideLength 2 .int rm_X2_sideLength [.ref (ad (pBoard r)), .int x1] mem res mem := by
  refine start_i (own := RX2) rfl (by decide) (Nat.le_of_ble_eq_true rfl) ?_
  intro p e s m args below meth c Q hQ X
  rw [K_X2_sideLength] at hF
  revert hF
  have w_9 : K_X2_sideLength_9 fu r mem = some res → WW D 255 ad (cC ca ad) p l e rm_X2_sideLength s m args below meth c 2 0 0 Q mem 9 [(0, .ref (ad (pBoard r)))] [] := by
    intro hF
    rw [K_X2_sideLength_9] at hF
    refine w_aload_n X 0 dX2_sideLength_9 rfl rfl 10 rfl ?_
    refine w_getV (v := .int (rd mem (pBoard r) 0)) X (pBoard r) (lt_Board hr) ko_Board (T := TX2) (N := 5) rfl in_X2 0 (by decide) kF_X2_22 rfl rfl dX2_sideLength_10 13 rfl ?_
    refine w_goto X 20 dX2_sideLength_13 (by decide) ?_
    exact w_iret X hQ (o_inj hF) rfl rfl dX2_sideLength_20
  intro hF
  refine w_iload_n X 1 dX2_sideLength_0 rfl rfl 1 rfl ?_
  refine w_if_eq X hF 9 4 dX2_sideLength_1 (by decide) rfl (fun hF => ?_) (fun hF => ?_)
  · refine w_keep [0] rfl ?_
    exact w_9  hF
  · refine w_iload_n X 1 dX2_sideLength_4 rfl rfl 5 rfl ?_
    refine w_iconst X 2 dX2_sideLength_5 rfl 6 rfl ?_
    refine w_icmp_ne X hF 16 9 dX2_sideLength_6 (by decide) rfl (fun hF => ?_) (fun hF => ?_)
    · refine w_keep [0] rfl ?_
      exact w_9  hF
    · refine w_aload_n X 0 dX2_sideLength_16 rfl rfl 17 rfl ?_
      refine w_getV (v := .int (rd mem (pBoard r) 1)) X (pBoard r) (lt_Board hr) ko_Board (T := TX2) (N := 5) rfl in_X2 1 (by decide) kF_X2_26 rfl rfl dX2_sideLength_17 20 rfl ?_
      exact w_iret X hQ (o_inj hF) rfl rfl dX2_sideLength_20

def K_X2_sideCell (fu : Nat) (r : Nat) (x1 : Int32) (x2 : Int32) (mem : Mem) : Option Int32 := (if x1 = 0 then some ((((rd mem (pBoard r) 1) - 1) * 9) + x2) else (if x1 = 1 then some (((x2 * 9) + (rd mem (pBoard r) 0)) - 1) else (if x1 = 2 then some x2 else some (x2 * 9))))
def rm_X2_sideCell : Room := { frames := 0, cells := 0, slots := 0, locals := 0 }
set_option maxHeartbeats 4000000 in
set_option maxRecDepth 100000 in
theorem ct_X2_sideCell (l : Launch) {D : va_G} {ca ad : Nat → Nat} {Z : (Nat → Prop) → State → Heap → Prop} (hZ : ZOK Z) {tO : Nat} {sK sV : Nat → Nat} (hO : ZO Z tO sK sV) (fu : Nat) {r : Nat} (hr : r < 10) (x1 : Int32) (x2 : Int32) (mem : Mem) (res : Int32) (hF : K_X2_sideCell fu r x1 x2 mem = some res) : CI l D (tyL ca) 255 ad (cC ca ad) Z yX2_sideCell cX2_sideCell 3 .int rm_X2_sideCell [.ref (ad (pBoard r)), .int x1, .int x2] mem res mem := by
  refine start_i (own := RX2) rfl (by decide) (Nat.le_of_ble_eq_true rfl) ?_
  intro p e s m args below meth c Q hQ X
  rw [K_X2_sideCell] at hF
  revert hF
  intro hF
  refine w_iload_n X 1 dX2_sideCell_0 rfl rfl 1 rfl ?_
  refine w_case (v := 0) hF (fun h_1 hF => ?_) (fun h_1 hF => ?_)
  · refine w_tin X 28 dX2_sideCell_1 h_1 (by decide) (by decide) rfl (by decide) ?_
    refine w_aload_n X 0 dX2_sideCell_28 rfl rfl 29 rfl ?_
    refine w_getV (v := .int (rd mem (pBoard r) 1)) X (pBoard r) (lt_Board hr) ko_Board (T := TX2) (N := 5) rfl in_X2 1 (by decide) kF_X2_26 rfl rfl dX2_sideCell_29 32 rfl ?_
    refine w_iconst X 1 dX2_sideCell_32 rfl 33 rfl ?_
    refine w_isub X dX2_sideCell_33 34 rfl ?_
    refine w_bipush X 9 dX2_sideCell_34 rfl 36 rfl ?_
    refine w_imul X dX2_sideCell_36 37 rfl ?_
    refine w_iload_n X 2 dX2_sideCell_37 rfl rfl 38 rfl ?_
    refine w_iadd X dX2_sideCell_38 39 rfl ?_
    exact w_iret X hQ (o_inj hF) rfl rfl dX2_sideCell_39
  refine w_case (v := 1) hF (fun h_2 hF => ?_) (fun h_2 hF => ?_)
  · refine w_tin X 40 dX2_sideCell_1 h_2 (by decide) (by decide) rfl (by decide) ?_
    refine w_iload_n X 2 dX2_sideCell_40 rfl rfl 41 rfl ?_
    refine w_bipush X 9 dX2_sideCell_41 rfl 43 rfl ?_
    refine w_imul X dX2_sideCell_43 44 rfl ?_
    refine w_aload_n X 0 dX2_sideCell_44 rfl rfl 45 rfl ?_
    refine w_getV (v := .int (rd mem (pBoard r) 0)) X (pBoard r) (lt_Board hr) ko_Board (T := TX2) (N := 5) rfl in_X2 0 (by decide) kF_X2_22 rfl rfl dX2_sideCell_45 48 rfl ?_
    refine w_iadd X dX2_sideCell_48 49 rfl ?_
    refine w_iconst X 1 dX2_sideCell_49 rfl 50 rfl ?_
    refine w_isub X dX2_sideCell_50 51 rfl ?_
    exact w_iret X hQ (o_inj hF) rfl rfl dX2_sideCell_51
  refine w_case (v := 2) hF (fun h_3 hF => ?_) (fun h_3 hF => ?_)
  · refine w_tin X 52 dX2_sideCell_1 h_3 (by decide) (by decide) rfl (by decide) ?_
    refine w_iload_n X 2 dX2_sideCell_52 rfl rfl 53 rfl ?_
    exact w_iret X hQ (o_inj hF) rfl rfl dX2_sideCell_53
  refine w_tout X 54 dX2_sideCell_1 (by have := lv_neT h_1 (show (0 : Int32).toInt = 0 from rfl); have := lv_neT h_2 (show (1 : Int32).toInt = 1 from rfl); have := lv_neT h_3 (show (2 : Int32).toInt = 2 from rfl); omega) (by decide) ?_
  refine w_iload_n X 2 dX2_sideCell_54 rfl rfl 55 rfl ?_
  refine w_bipush X 9 dX2_sideCell_55 rfl 57 rfl ?_
  refine w_imul X dX2_sideCell_57 58 rfl ?_
  exact w_iret X hQ (o_inj hF) rfl rfl dX2_sideCell_58

def K_X10_flow_81 (fu : Nat) (w : Nat) (r1 : Nat) (k_3 : Int32 → Int32 → Int32 → Mem → Option Mem) (k_38 : Int32 → Int32 → Int32 → Int32 → Int32 → Mem → Option Mem) (x2 : Int32) (x3 : Int32) (x4 : Int32) (x5 : Int32) (x6 : Int32) (x7 : Int32) (xs0 : Int32) (mem : Mem) : Option Mem := (if xs0 = 0 then (k_38 x2 x3 x4 x5 (x6 + 1) mem) else (if x7 < 0 then (k_38 x2 x3 x4 x5 (x6 + 1) mem) else (if x7 < 81 then gi x7 81 ((if (rd mem (pDist w) (Int32.toNatClampNeg x7)) = (-1) then (if (rd mem (pWays w) 2) < 81 then gi x5 81 (gi x7 81 (lt_ (mw mem (pDist w) (Int32.toNatClampNeg x7) ((rd mem (pDist w) (Int32.toNatClampNeg x5)) + 1)) (fun m_9 => gi (rd m_9 (pWays w) 2) 81 (lt_ (mw m_9 (pQueue w) (Int32.toNatClampNeg (rd m_9 (pWays w) 2)) x7) (fun m_11 => lt_ (mw m_11 (pWays w) 2 ((rd m_11 (pWays w) 2) + 1)) (fun m_12 => (k_38 x2 x3 x4 x5 (x6 + 1) m_12))))))) else (k_38 x2 x3 x4 x5 (x6 + 1) mem)) else (k_38 x2 x3 x4 x5 (x6 + 1) mem))) else (k_38 x2 x3 x4 x5 (x6 + 1) mem))))
def K_X10_flow_80 (fu : Nat) (w : Nat) (r1 : Nat) (k_3 : Int32 → Int32 → Int32 → Mem → Option Mem) (k_38 : Int32 → Int32 → Int32 → Int32 → Int32 → Mem → Option Mem) (x2 : Int32) (x3 : Int32) (x4 : Int32) (x5 : Int32) (x6 : Int32) (x7 : Int32) (mem : Mem) : Option Mem := (K_X10_flow_81 fu w r1 k_3 k_38 x2 x3 x4 x5 x6 x7 0 mem)
def K_X10_flow_38 (fu : Nat) (w : Nat) (r1 : Nat) (k_3 : Int32 → Int32 → Int32 → Mem → Option Mem) : Nat → Int32 → Int32 → Int32 → Int32 → Int32 → Mem → Option Mem
  | 0, _, _, _, _, _, _ => none
  | n + 1, x2, x3, x4, x5, x6, mem => (if x6 < 4 then gi x6 4 (lt_ (x5 + (offV (Int32.toNatClampNeg x6))) (fun x_4 => gi x5 81 ((if (((rd mem (pOpen r1) (Int32.toNatClampNeg x5)) >>> (x6 &&& 31)) &&& 1) = 0 then (K_X10_flow_80 fu w r1 k_3 (K_X10_flow_38 fu w r1 k_3 n) x2 x3 x4 x5 x6 x_4 mem) else (if x_4 = x2 then (K_X10_flow_80 fu w r1 k_3 (K_X10_flow_38 fu w r1 k_3 n) x2 x3 x4 x5 x6 x_4 mem) else (K_X10_flow_81 fu w r1 k_3 (K_X10_flow_38 fu w r1 k_3 n) x2 x3 x4 x5 x6 x_4 1 mem)))))) else (k_3 x2 x3 (x4 + 1) mem))
def K_X10_flow_3 (fu : Nat) (w : Nat) (r1 : Nat) : Nat → Int32 → Int32 → Int32 → Mem → Option Mem
  | 0, _, _, _, _ => none
  | n + 1, x2, x3, x4, mem => (if x4 < (rd mem (pWays w) 2) then (if x4 < 81 then gi x4 81 (lt_ (rd mem (pQueue w) (Int32.toNatClampNeg x4)) (fun x_2 => (if x_2 = x3 then some mem else (K_X10_flow_38 fu w r1 (K_X10_flow_3 fu w r1 n) fu x2 x3 x4 x_2 0 mem)))) else some mem) else some mem)
def K_X10_flow (fu : Nat) (w : Nat) (r1 : Nat) (x2 : Int32) (x3 : Int32) (mem : Mem) : Option Mem := (K_X10_flow_3 fu w r1 fu x2 x3 0 mem)
def rm_X10_flow : Room := { frames := 0, cells := 0, slots := 0, locals := 0 }
set_option maxHeartbeats 4000000 in
set_option maxRecDepth 100000 in
theorem ct_X10_flow (l : Launch) {D : va_G} {ca ad : Nat → Nat} {Z : (Nat → Prop) → State → Heap → Prop} (hZ : ZOK Z) {tO : Nat} {sK sV : Nat → Nat} (hO : ZO Z tO sK sV) (fu : Nat) {w : Nat} (hw : w < 2) {r1 : Nat} (hr1 : r1 < 10) (x2 : Int32) (x3 : Int32) (mem : Mem) (res : Mem) (hF : K_X10_flow fu w r1 x2 x3 mem = some res) : CV l D (tyL ca) 255 ad (cC ca ad) Z yX10_flow cX10_flow 9 rm_X10_flow [.ref (ad (pWays w)), .ref (ad (pBoard r1)), .int x2, .int x3] mem res := by
  refine start_v (own := RX10) rfl (by decide) (Nat.le_of_ble_eq_true rfl) ?_
  intro p e s m args below meth c Q hQ X
  rw [K_X10_flow] at hF
  revert hF
  have w_81 : ∀ (k_3 : Int32 → Int32 → Int32 → Mem → Option Mem) (hk_3 : ∀ (x2 : Int32) (x3 : Int32) (x4 : Int32) (mem : Mem), k_3 x2 x3 x4 mem = some res → WW D 255 ad (cC ca ad) p l e rm_X10_flow s m args below meth c 9 0 0 Q mem 3 [(0, .ref (ad (pWays w))), (1, .ref (ad (pBoard r1))), (2, .int x2), (3, .int x3), (4, .int x4)] []) (k_38 : Int32 → Int32 → Int32 → Int32 → Int32 → Mem → Option Mem) (hk_38 : ∀ (x2 : Int32) (x3 : Int32) (x4 : Int32) (x5 : Int32) (x6 : Int32) (mem : Mem), k_38 x2 x3 x4 x5 x6 mem = some res → WW D 255 ad (cC ca ad) p l e rm_X10_flow s m args below meth c 9 0 0 Q mem 38 [(0, .ref (ad (pWays w))), (1, .ref (ad (pBoard r1))), (2, .int x2), (3, .int x3), (4, .int x4), (5, .int x5), (6, .int x6)] []) (x2 : Int32) (x3 : Int32) (x4 : Int32) (x5 : Int32) (x6 : Int32) (x7 : Int32) (xs0 : Int32) (mem : Mem), K_X10_flow_81 fu w r1 k_3 k_38 x2 x3 x4 x5 x6 x7 xs0 mem = some res → WW D 255 ad (cC ca ad) p l e rm_X10_flow s m args below meth c 9 0 0 Q mem 81 [(0, .ref (ad (pWays w))), (1, .ref (ad (pBoard r1))), (2, .int x2), (3, .int x3), (4, .int x4), (5, .int x5), (6, .int x6), (7, .int x7)] [.int xs0] := by
    intro k_3 hk_3 k_38 hk_38 x2 x3 x4 x5 x6 x7 xs0 mem hF
    rw [K_X10_flow_81] at hF
    refine w_istore X [(8, .int xs0), (0, .ref (ad (pWays w))), (1, .ref (ad (pBoard r1))), (2, .int x2), (3, .int x3), (4, .int x4), (5, .int x5), (6, .int x6), (7, .int x7)] dX10_flow_81 (by decide) rfl 83 rfl ?_
    refine w_iload X 0 dX10_flow_83 rfl 85 rfl ?_
    refine w_if_eq X hF 157 88 dX10_flow_85 (by decide) rfl (fun hF => ?_) (fun hF => ?_)
    · refine w_iinc X 7 (x6 + 1) [(6, .int (x6 + 1)), (8, .int xs0), (0, .ref (ad (pWays w))), (1, .ref (ad (pBoard r1))), (2, .int x2), (3, .int x3), (4, .int x4), (5, .int x5), (7, .int x7)] dX10_flow_157 rfl rfl (by decide) rfl 160 rfl ?_
      refine w_goto X 38 dX10_flow_160 (by decide) ?_
      refine w_keep [2, 3, 4, 5, 6, 7, 0] rfl ?_
      exact hk_38 x2 x3 x4 x5 (x6 + 1) mem hF
    · refine w_iload X 8 dX10_flow_88 rfl 90 rfl ?_
      refine w_if_lt X hF 157 93 dX10_flow_90 (by decide) rfl (fun hF => ?_) (fun hF => ?_)
      · refine w_iinc X 7 (x6 + 1) [(6, .int (x6 + 1)), (8, .int xs0), (0, .ref (ad (pWays w))), (1, .ref (ad (pBoard r1))), (2, .int x2), (3, .int x3), (4, .int x4), (5, .int x5), (7, .int x7)] dX10_flow_157 rfl rfl (by decide) rfl 160 rfl ?_
        refine w_goto X 38 dX10_flow_160 (by decide) ?_
        refine w_keep [2, 3, 4, 5, 6, 7, 0] rfl ?_
        exact hk_38 x2 x3 x4 x5 (x6 + 1) mem hF
      · refine w_iload X 8 dX10_flow_93 rfl 95 rfl ?_
        refine w_bipush X 81 dX10_flow_95 rfl 97 rfl ?_
        refine w_icmp_ge X hF 157 100 dX10_flow_97 (by decide) rfl (fun hF => ?_) (fun hF => ?_)
        · refine w_aload_n X 1 dX10_flow_100 rfl rfl 101 rfl ?_
          refine w_getV (v := .ref (ad (pDist w))) X (pWays w) (lt_Ways hw) (ko_Ways hw) (T := TX10) (N := 4) rfl in_X10 0 (by decide) kF_X10_9 rfl rfl dX10_flow_101 104 rfl ?_
          refine w_iload X 8 dX10_flow_104 rfl 106 rfl ?_
          refine w_gi hF (fun h_6 hF => ?_)
          refine w_ial X (pDist w) (lt_Dist hw) (ko_Dist hw) (t0 := 0) rfl h_6 dX10_flow_106 107 rfl ?_
          refine w_iconst X (-1) dX10_flow_107 rfl 108 rfl ?_
          refine w_icmp_ne X hF 157 111 dX10_flow_108 (by decide) rfl (fun hF => ?_) (fun hF => ?_)
          · refine w_aload_n X 1 dX10_flow_111 rfl rfl 112 rfl ?_
            refine w_getV (v := .int (rd mem (pWays w) 2)) X (pWays w) (lt_Ways hw) (ko_Ways hw) (T := TX10) (N := 4) rfl in_X10 2 (by decide) kF_X10_27 rfl rfl dX10_flow_112 115 rfl ?_
            refine w_bipush X 81 dX10_flow_115 rfl 117 rfl ?_
            refine w_icmp_ge X hF 157 120 dX10_flow_117 (by decide) rfl (fun hF => ?_) (fun hF => ?_)
            · refine w_aload_n X 1 dX10_flow_120 rfl rfl 121 rfl ?_
              refine w_getV (v := .ref (ad (pDist w))) X (pWays w) (lt_Ways hw) (ko_Ways hw) (T := TX10) (N := 4) rfl in_X10 0 (by decide) kF_X10_9 rfl rfl dX10_flow_121 124 rfl ?_
              refine w_iload X 8 dX10_flow_124 rfl 126 rfl ?_
              refine w_aload_n X 1 dX10_flow_126 rfl rfl 127 rfl ?_
              refine w_getV (v := .ref (ad (pDist w))) X (pWays w) (lt_Ways hw) (ko_Ways hw) (T := TX10) (N := 4) rfl in_X10 0 (by decide) kF_X10_9 rfl rfl dX10_flow_127 130 rfl ?_
              refine w_iload X 6 dX10_flow_130 rfl 132 rfl ?_
              refine w_gi hF (fun h_7 hF => ?_)
              refine w_ial X (pDist w) (lt_Dist hw) (ko_Dist hw) (t0 := 0) rfl h_7 dX10_flow_132 133 rfl ?_
              refine w_iconst X 1 dX10_flow_133 rfl 134 rfl ?_
              refine w_iadd X dX10_flow_134 135 rfl ?_
              refine w_gi hF (fun h_8 hF => ?_)
              refine w_ias X (pDist w) (lt_Dist hw) (ko_Dist hw) (t0 := 0) rfl h_8 dX10_flow_135 136 rfl ?_
              refine w_letm hF (fun m_9 hF => ?_)
              refine w_aload_n X 1 dX10_flow_136 rfl rfl 137 rfl ?_
              refine w_getV (v := .ref (ad (pQueue w))) X (pWays w) (lt_Ways hw) (ko_Ways hw) (T := TX10) (N := 4) rfl in_X10 1 (by decide) kF_X10_15 rfl rfl dX10_flow_137 140 rfl ?_
              refine w_aload_n X 1 dX10_flow_140 rfl rfl 141 rfl ?_
              refine w_getV (v := .int (rd m_9 (pWays w) 2)) X (pWays w) (lt_Ways hw) (ko_Ways hw) (T := TX10) (N := 4) rfl in_X10 2 (by decide) kF_X10_27 rfl rfl dX10_flow_141 144 rfl ?_
              refine w_iload X 8 dX10_flow_144 rfl 146 rfl ?_
              refine w_gi hF (fun h_10 hF => ?_)
              refine w_ias X (pQueue w) (lt_Queue hw) (ko_Queue hw) (t0 := 0) rfl h_10 dX10_flow_146 147 rfl ?_
              refine w_letm hF (fun m_11 hF => ?_)
              refine w_aload_n X 1 dX10_flow_147 rfl rfl 148 rfl ?_
              refine w_dup X dX10_flow_148 rfl 149 rfl ?_
              refine w_getV (v := .int (rd m_11 (pWays w) 2)) X (pWays w) (lt_Ways hw) (ko_Ways hw) (T := TX10) (N := 4) rfl in_X10 2 (by decide) kF_X10_27 rfl rfl dX10_flow_149 152 rfl ?_
              refine w_iconst X 1 dX10_flow_152 rfl 153 rfl ?_
              refine w_iadd X dX10_flow_153 154 rfl ?_
              refine w_putI X (pWays w) (lt_Ways hw) (ko_Ways hw) (T := TX10) (N := 4) rfl in_X10 tyX10 tyX10_ok nmX10 2 (by decide) kF_X10_27 rfl rfl rfl rfl (Nat.le_of_ble_eq_true rfl) rfl dX10_flow_154 157 rfl ?_
              refine w_letm hF (fun m_12 hF => ?_)
              refine w_iinc X 7 (x6 + 1) [(6, .int (x6 + 1)), (8, .int xs0), (0, .ref (ad (pWays w))), (1, .ref (ad (pBoard r1))), (2, .int x2), (3, .int x3), (4, .int x4), (5, .int x5), (7, .int x7)] dX10_flow_157 rfl rfl (by decide) rfl 160 rfl ?_
              refine w_goto X 38 dX10_flow_160 (by decide) ?_
              refine w_keep [2, 3, 4, 5, 6, 7, 0] rfl ?_
              exact hk_38 x2 x3 x4 x5 (x6 + 1) m_12 hF
            · refine w_iinc X 7 (x6 + 1) [(6, .int (x6 + 1)), (8, .int xs0), (0, .ref (ad (pWays w))), (1, .ref (ad (pBoard r1))), (2, .int x2), (3, .int x3), (4, .int x4), (5, .int x5), (7, .int x7)] dX10_flow_157 rfl rfl (by decide) rfl 160 rfl ?_
              refine w_goto X 38 dX10_flow_160 (by decide) ?_
              refine w_keep [2, 3, 4, 5, 6, 7, 0] rfl ?_
              exact hk_38 x2 x3 x4 x5 (x6 + 1) mem hF
          · refine w_iinc X 7 (x6 + 1) [(6, .int (x6 + 1)), (8, .int xs0), (0, .ref (ad (pWays w))), (1, .ref (ad (pBoard r1))), (2, .int x2), (3, .int x3), (4, .int x4), (5, .int x5), (7, .int x7)] dX10_flow_157 rfl rfl (by decide) rfl 160 rfl ?_
            refine w_goto X 38 dX10_flow_160 (by decide) ?_
            refine w_keep [2, 3, 4, 5, 6, 7, 0] rfl ?_
            exact hk_38 x2 x3 x4 x5 (x6 + 1) mem hF
        · refine w_iinc X 7 (x6 + 1) [(6, .int (x6 + 1)), (8, .int xs0), (0, .ref (ad (pWays w))), (1, .ref (ad (pBoard r1))), (2, .int x2), (3, .int x3), (4, .int x4), (5, .int x5), (7, .int x7)] dX10_flow_157 rfl rfl (by decide) rfl 160 rfl ?_
          refine w_goto X 38 dX10_flow_160 (by decide) ?_
          refine w_keep [2, 3, 4, 5, 6, 7, 0] rfl ?_
          exact hk_38 x2 x3 x4 x5 (x6 + 1) mem hF
  have w_80 : ∀ (k_3 : Int32 → Int32 → Int32 → Mem → Option Mem) (hk_3 : ∀ (x2 : Int32) (x3 : Int32) (x4 : Int32) (mem : Mem), k_3 x2 x3 x4 mem = some res → WW D 255 ad (cC ca ad) p l e rm_X10_flow s m args below meth c 9 0 0 Q mem 3 [(0, .ref (ad (pWays w))), (1, .ref (ad (pBoard r1))), (2, .int x2), (3, .int x3), (4, .int x4)] []) (k_38 : Int32 → Int32 → Int32 → Int32 → Int32 → Mem → Option Mem) (hk_38 : ∀ (x2 : Int32) (x3 : Int32) (x4 : Int32) (x5 : Int32) (x6 : Int32) (mem : Mem), k_38 x2 x3 x4 x5 x6 mem = some res → WW D 255 ad (cC ca ad) p l e rm_X10_flow s m args below meth c 9 0 0 Q mem 38 [(0, .ref (ad (pWays w))), (1, .ref (ad (pBoard r1))), (2, .int x2), (3, .int x3), (4, .int x4), (5, .int x5), (6, .int x6)] []) (x2 : Int32) (x3 : Int32) (x4 : Int32) (x5 : Int32) (x6 : Int32) (x7 : Int32) (mem : Mem), K_X10_flow_80 fu w r1 k_3 k_38 x2 x3 x4 x5 x6 x7 mem = some res → WW D 255 ad (cC ca ad) p l e rm_X10_flow s m args below meth c 9 0 0 Q mem 80 [(0, .ref (ad (pWays w))), (1, .ref (ad (pBoard r1))), (2, .int x2), (3, .int x3), (4, .int x4), (5, .int x5), (6, .int x6), (7, .int x7)] [] := by
    intro k_3 hk_3 k_38 hk_38 x2 x3 x4 x5 x6 x7 mem hF
    rw [K_X10_flow_80] at hF
    refine w_iconst X 0 dX10_flow_80 rfl 81 rfl ?_
    refine w_keep [0, 1, 2, 3, 4, 5, 6, 7] rfl ?_
    exact w_81 k_3 hk_3 k_38 hk_38 x2 x3 x4 x5 x6 x7 0 mem hF
  have w_38 : ∀ (k_3 : Int32 → Int32 → Int32 → Mem → Option Mem) (hk_3 : ∀ (x2 : Int32) (x3 : Int32) (x4 : Int32) (mem : Mem), k_3 x2 x3 x4 mem = some res → WW D 255 ad (cC ca ad) p l e rm_X10_flow s m args below meth c 9 0 0 Q mem 3 [(0, .ref (ad (pWays w))), (1, .ref (ad (pBoard r1))), (2, .int x2), (3, .int x3), (4, .int x4)] []) (n : Nat) (x2 : Int32) (x3 : Int32) (x4 : Int32) (x5 : Int32) (x6 : Int32) (mem : Mem), K_X10_flow_38 fu w r1 k_3 n x2 x3 x4 x5 x6 mem = some res → WW D 255 ad (cC ca ad) p l e rm_X10_flow s m args below meth c 9 0 0 Q mem 38 [(0, .ref (ad (pWays w))), (1, .ref (ad (pBoard r1))), (2, .int x2), (3, .int x3), (4, .int x4), (5, .int x5), (6, .int x6)] [] := by
    intro k_3 hk_3 n
    induction n with
    | zero => intro x2 x3 x4 x5 x6 mem hF; exact no_none (show (none : Option Mem) = some res from hF)
    | succ n ih =>
      intro x2 x3 x4 x5 x6 mem hF
      rw [K_X10_flow_38] at hF
      refine w_iload X 6 dX10_flow_38 rfl 40 rfl ?_
      refine w_iconst X 4 dX10_flow_40 rfl 41 rfl ?_
      refine w_icmp_ge X hF 163 44 dX10_flow_41 (by decide) rfl (fun hF => ?_) (fun hF => ?_)
      · refine w_iload X 5 dX10_flow_44 rfl 46 rfl ?_
        refine w_offs X hO (hO _ _ _ X.2.2.2.2.2).1.2.2.2.2.2.1 dX10_flow_46 49 rfl ?_
        refine w_iload X 6 dX10_flow_49 rfl 51 rfl ?_
        refine w_gi hF (fun h_3 hF => ?_)
        refine w_offl X hO h_3 dX10_flow_51 52 rfl ?_
        refine w_iadd X dX10_flow_52 53 rfl ?_
        refine w_let hF (fun x_4 hF => ?_)
        refine w_istore X [(7, .int x_4), (0, .ref (ad (pWays w))), (1, .ref (ad (pBoard r1))), (2, .int x2), (3, .int x3), (4, .int x4), (5, .int x5), (6, .int x6)] dX10_flow_53 (by decide) rfl 55 rfl ?_
        refine w_aload_n X 2 dX10_flow_55 rfl rfl 56 rfl ?_
        refine w_getV (v := .ref (ad (pOpen r1))) X (pBoard r1) (lt_Board hr1) ko_Board (T := TX2) (N := 5) rfl in_X2 4 (by decide) kF_X10_52 rfl rfl dX10_flow_56 59 rfl ?_
        refine w_iload X 6 dX10_flow_59 rfl 61 rfl ?_
        refine w_gi hF (fun h_5 hF => ?_)
        refine w_ial X (pOpen r1) (lt_Open hr1) ko_Open (t0 := 0) rfl h_5 dX10_flow_61 62 rfl ?_
        refine w_iload X 7 dX10_flow_62 rfl 64 rfl ?_
        refine w_ishr X dX10_flow_64 65 rfl ?_
        refine w_iconst X 1 dX10_flow_65 rfl 66 rfl ?_
        refine w_iand X dX10_flow_66 67 rfl ?_
        refine w_if_eq X hF 80 70 dX10_flow_67 (by decide) rfl (fun hF => ?_) (fun hF => ?_)
        · refine w_keep [1, 2, 3, 4, 5, 6, 7, 0] rfl ?_
          exact w_80 k_3 hk_3 (K_X10_flow_38 fu w r1 k_3 n) ih x2 x3 x4 x5 x6 x_4 mem hF
        · refine w_iload X 0 dX10_flow_70 rfl 72 rfl ?_
          refine w_iload_n X 3 dX10_flow_72 rfl rfl 73 rfl ?_
          refine w_icmp_eq X hF 80 76 dX10_flow_73 (by decide) rfl (fun hF => ?_) (fun hF => ?_)
          · refine w_keep [1, 2, 3, 4, 5, 6, 7, 0] rfl ?_
            exact w_80 k_3 hk_3 (K_X10_flow_38 fu w r1 k_3 n) ih x2 x3 x4 x5 x6 x_4 mem hF
          · refine w_iconst X 1 dX10_flow_76 rfl 77 rfl ?_
            refine w_goto X 81 dX10_flow_77 (by decide) ?_
            refine w_keep [1, 2, 3, 4, 5, 6, 7, 0] rfl ?_
            exact w_81 k_3 hk_3 (K_X10_flow_38 fu w r1 k_3 n) ih x2 x3 x4 x5 x6 x_4 1 mem hF
      · refine w_iinc X 4 (x4 + 1) [(4, .int (x4 + 1)), (0, .ref (ad (pWays w))), (1, .ref (ad (pBoard r1))), (2, .int x2), (3, .int x3), (5, .int x5), (6, .int x6)] dX10_flow_163 rfl rfl (by decide) rfl 166 rfl ?_
        refine w_goto X 3 dX10_flow_166 (by decide) ?_
        refine w_keep [1, 2, 3, 4, 0] rfl ?_
        exact hk_3 x2 x3 (x4 + 1) mem hF
  have w_3 : ∀ (n : Nat) (x2 : Int32) (x3 : Int32) (x4 : Int32) (mem : Mem), K_X10_flow_3 fu w r1 n x2 x3 x4 mem = some res → WW D 255 ad (cC ca ad) p l e rm_X10_flow s m args below meth c 9 0 0 Q mem 3 [(0, .ref (ad (pWays w))), (1, .ref (ad (pBoard r1))), (2, .int x2), (3, .int x3), (4, .int x4)] [] := by
    intro n
    induction n with
    | zero => intro x2 x3 x4 mem hF; exact no_none (show (none : Option Mem) = some res from hF)
    | succ n ih =>
      intro x2 x3 x4 mem hF
      rw [K_X10_flow_3] at hF
      refine w_iload X 4 dX10_flow_3 rfl 5 rfl ?_
      refine w_aload_n X 0 dX10_flow_5 rfl rfl 6 rfl ?_
      refine w_getV (v := .int (rd mem (pWays w) 2)) X (pWays w) (lt_Ways hw) (ko_Ways hw) (T := TX10) (N := 4) rfl in_X10 2 (by decide) kF_X10_27 rfl rfl dX10_flow_6 9 rfl ?_
      refine w_icmp_ge X hF 169 12 dX10_flow_9 (by decide) rfl (fun hF => ?_) (fun hF => ?_)
      · refine w_iload X 4 dX10_flow_12 rfl 14 rfl ?_
        refine w_bipush X 81 dX10_flow_14 rfl 16 rfl ?_
        refine w_icmp_ge X hF 169 19 dX10_flow_16 (by decide) rfl (fun hF => ?_) (fun hF => ?_)
        · refine w_aload_n X 0 dX10_flow_19 rfl rfl 20 rfl ?_
          refine w_getV (v := .ref (ad (pQueue w))) X (pWays w) (lt_Ways hw) (ko_Ways hw) (T := TX10) (N := 4) rfl in_X10 1 (by decide) kF_X10_15 rfl rfl dX10_flow_20 23 rfl ?_
          refine w_iload X 4 dX10_flow_23 rfl 25 rfl ?_
          refine w_gi hF (fun h_1 hF => ?_)
          refine w_ial X (pQueue w) (lt_Queue hw) (ko_Queue hw) (t0 := 0) rfl h_1 dX10_flow_25 26 rfl ?_
          refine w_let hF (fun x_2 hF => ?_)
          refine w_istore X [(5, .int x_2), (0, .ref (ad (pWays w))), (1, .ref (ad (pBoard r1))), (2, .int x2), (3, .int x3), (4, .int x4)] dX10_flow_26 (by decide) rfl 28 rfl ?_
          refine w_iload X 0 dX10_flow_28 rfl 30 rfl ?_
          refine w_iload_n X 4 dX10_flow_30 rfl rfl 31 rfl ?_
          refine w_icmp_ne X hF 35 34 dX10_flow_31 (by decide) rfl (fun hF => ?_) (fun hF => ?_)
          · exact w_vret X hQ (o_inj hF) dX10_flow_34
          · refine w_iconst X 0 dX10_flow_35 rfl 36 rfl ?_
            refine w_istore X [(6, .int 0), (5, .int x_2), (0, .ref (ad (pWays w))), (1, .ref (ad (pBoard r1))), (2, .int x2), (3, .int x3), (4, .int x4)] dX10_flow_36 (by decide) rfl 38 rfl ?_
            refine w_keep [2, 3, 4, 5, 6, 1, 0] rfl ?_
            exact w_38 (K_X10_flow_3 fu w r1 n) ih fu x2 x3 x4 x_2 0 mem hF
        · exact w_vret X hQ (o_inj hF) dX10_flow_169
      · exact w_vret X hQ (o_inj hF) dX10_flow_169
  intro hF
  refine w_iconst X 0 dX10_flow_0 rfl 1 rfl ?_
  refine w_istore X [(4, .int 0), (0, .ref (ad (pWays w))), (1, .ref (ad (pBoard r1))), (2, .int x2), (3, .int x3)] dX10_flow_1 (by decide) rfl 3 rfl ?_
  refine w_keep [1, 2, 3, 4, 0] rfl ?_
  exact w_3 fu x2 x3 0 mem hF

def K_X10_spread_23 (fu : Nat) (w : Nat) (r1 : Nat) : Nat → Int32 → Int32 → Int32 → Int32 → Int32 → Mem → Option (Int32 × Mem)
  | 0, _, _, _, _, _, _ => none
  | n + 1, x2, x3, x4, x5, x6, mem => (if x6 < x5 then bd (K_X2_sideCell fu r1 x2 x6 mem) (fun x_4 => (if x_4 = x3 then (K_X10_spread_23 fu w r1 n x2 x3 x4 x5 (x6 + 1) mem) else bd (K_X10_beginAt fu w x_4 mem) (fun m_5 => (K_X10_spread_23 fu w r1 n x2 x3 x4 x5 (x6 + 1) m_5)))) else bd (K_X10_flow fu w r1 x3 x4 mem) (fun m_6 => (if x4 < 0 then some ((-1), m_6) else (if x4 < 81 then gi x4 81 (some ((rd m_6 (pDist w) (Int32.toNatClampNeg x4)), m_6)) else some ((-1), m_6)))))
def K_X10_spread (fu : Nat) (w : Nat) (r1 : Nat) (x2 : Int32) (x3 : Int32) (x4 : Int32) (mem : Mem) : Option (Int32 × Mem) := bd (K_J7_fill_53178 fu (pDist w) 81 (-1) mem) (fun m_1 => lt_ (mw m_1 (pWays w) 2 0) (fun m_2 => bd (K_X2_sideLength fu r1 x2 m_2) (fun x_3 => (K_X10_spread_23 fu w r1 fu x2 x3 x4 x_3 0 m_2))))
def rm_X10_spread : Room := { frames := 1, cells := 0, slots := 0, locals := 28 }
set_option maxHeartbeats 4000000 in
set_option maxRecDepth 100000 in
theorem ct_X10_spread (l : Launch) {D : va_G} {ca ad : Nat → Nat} {Z : (Nat → Prop) → State → Heap → Prop} (hZ : ZOK Z) {tO : Nat} {sK sV : Nat → Nat} (hO : ZO Z tO sK sV) (fu : Nat) {w : Nat} (hw : w < 2) {r1 : Nat} (hr1 : r1 < 10) (x2 : Int32) (x3 : Int32) (x4 : Int32) (mem : Mem) (res : (Int32 × Mem)) (hF : K_X10_spread fu w r1 x2 x3 x4 mem = some res) : CI l D (tyL ca) 255 ad (cC ca ad) Z yX10_spread cX10_spread 8 .int rm_X10_spread [.ref (ad (pWays w)), .ref (ad (pBoard r1)), .int x2, .int x3, .int x4] mem res.1 res.2 := by
  refine start_i (own := RX10) rfl (by decide) (Nat.le_of_ble_eq_true rfl) ?_
  intro p e s m args below meth c Q hQ X
  rw [K_X10_spread] at hF
  revert hF
  have w_23 : ∀ (n : Nat) (x2 : Int32) (x3 : Int32) (x4 : Int32) (x5 : Int32) (x6 : Int32) (mem : Mem), K_X10_spread_23 fu w r1 n x2 x3 x4 x5 x6 mem = some res → WW D 255 ad (cC ca ad) p l e rm_X10_spread s m args below meth c 8 0 0 Q mem 23 [(0, .ref (ad (pWays w))), (1, .ref (ad (pBoard r1))), (2, .int x2), (3, .int x3), (4, .int x4), (5, .int x5), (6, .int x6)] [] := by
    intro n
    induction n with
    | zero => intro x2 x3 x4 x5 x6 mem hF; exact no_none (show (none : Option (Int32 × Mem)) = some res from hF)
    | succ n ih =>
      intro x2 x3 x4 x5 x6 mem hF
      rw [K_X10_spread_23] at hF
      refine w_iload X 6 dX10_spread_23 rfl 25 rfl ?_
      refine w_iload X 5 dX10_spread_25 rfl 27 rfl ?_
      refine w_icmp_ge X hF 57 30 dX10_spread_27 (by decide) rfl (fun hF => ?_) (fun hF => ?_)
      · refine w_aload_n X 1 dX10_spread_30 rfl rfl 31 rfl ?_
        refine w_iload_n X 2 dX10_spread_31 rfl rfl 32 rfl ?_
        refine w_iload X 6 dX10_spread_32 rfl 34 rfl ?_
        refine w_callVi (fun x => x) (fun _ => mem) X hZ hF [.int x2, .int x6] (pBoard r1) (lt_Board hr1) ko_Board rfl rfl rfl kB_X2_sideCell kL_X10_37 (fun res h => ct_X2_sideCell l hZ hO fu hr1 x2 x6 mem res h) rfl rfl rfl ⟨Nat.le_of_ble_eq_true rfl, Nat.le_of_ble_eq_true rfl⟩ (Nat.le_of_ble_eq_true rfl) ⟨Nat.zero_le _, Nat.zero_le _⟩ dX10_spread_34 37 rfl (fun x_4 hF => ?_)
        refine w_istore X [(7, .int x_4), (0, .ref (ad (pWays w))), (1, .ref (ad (pBoard r1))), (2, .int x2), (3, .int x3), (4, .int x4), (5, .int x5), (6, .int x6)] dX10_spread_37 (by decide) rfl 39 rfl ?_
        refine w_iload X 0 dX10_spread_39 rfl 41 rfl ?_
        refine w_iload_n X 4 dX10_spread_41 rfl rfl 42 rfl ?_
        refine w_icmp_eq X hF 51 45 dX10_spread_42 (by decide) rfl (fun hF => ?_) (fun hF => ?_)
        · refine w_iinc X 7 (x6 + 1) [(6, .int (x6 + 1)), (7, .int x_4), (0, .ref (ad (pWays w))), (1, .ref (ad (pBoard r1))), (2, .int x2), (3, .int x3), (4, .int x4), (5, .int x5)] dX10_spread_51 rfl rfl (by decide) rfl 54 rfl ?_
          refine w_goto X 23 dX10_spread_54 (by decide) ?_
          refine w_keep [2, 3, 4, 5, 6, 7, 0] rfl ?_
          exact ih x2 x3 x4 x5 (x6 + 1) mem hF
        · refine w_aload_n X 1 dX10_spread_45 rfl rfl 46 rfl ?_
          refine w_iload X 0 dX10_spread_46 rfl 48 rfl ?_
          refine w_callVv (fun m => m) X hZ hF [.int x_4] (pWays w) (lt_Ways hw) (ko_Ways hw) rfl rfl rfl kB_X10_beginAt kL_X10_41 (fun res h => ct_X10_beginAt l hZ hO fu hw x_4 mem res h) rfl rfl rfl ⟨Nat.le_of_ble_eq_true rfl, Nat.le_of_ble_eq_true rfl⟩ (Nat.le_of_ble_eq_true rfl) ⟨Nat.zero_le _, Nat.zero_le _⟩ dX10_spread_48 51 rfl (fun m_5 hF => ?_)
          refine w_iinc X 7 (x6 + 1) [(6, .int (x6 + 1)), (7, .int x_4), (0, .ref (ad (pWays w))), (1, .ref (ad (pBoard r1))), (2, .int x2), (3, .int x3), (4, .int x4), (5, .int x5)] dX10_spread_51 rfl rfl (by decide) rfl 54 rfl ?_
          refine w_goto X 23 dX10_spread_54 (by decide) ?_
          refine w_keep [2, 3, 4, 5, 6, 7, 0] rfl ?_
          exact ih x2 x3 x4 x5 (x6 + 1) m_5 hF
      · refine w_aload_n X 0 dX10_spread_57 rfl rfl 58 rfl ?_
        refine w_aload_n X 1 dX10_spread_58 rfl rfl 59 rfl ?_
        refine w_iload_n X 3 dX10_spread_59 rfl rfl 60 rfl ?_
        refine w_iload X 4 dX10_spread_60 rfl 62 rfl ?_
        refine w_callVv (fun m => m) X hZ hF [.ref (ad (pBoard r1)), .int x3, .int x4] (pWays w) (lt_Ways hw) (ko_Ways hw) rfl rfl rfl kB_X10_flow kL_X10_45 (fun res h => ct_X10_flow l hZ hO fu hw hr1 x3 x4 mem res h) rfl rfl rfl ⟨Nat.le_of_ble_eq_true rfl, Nat.le_of_ble_eq_true rfl⟩ (Nat.le_of_ble_eq_true rfl) ⟨Nat.zero_le _, Nat.zero_le _⟩ dX10_spread_62 65 rfl (fun m_6 hF => ?_)
        refine w_iload X 4 dX10_spread_65 rfl 67 rfl ?_
        refine w_if_lt X hF 87 70 dX10_spread_67 (by decide) rfl (fun hF => ?_) (fun hF => ?_)
        · refine w_iconst X (-1) dX10_spread_87 rfl 88 rfl ?_
          exact w_iret X hQ (o_inj1 hF) (o_inj2 hF) rfl dX10_spread_88
        · refine w_iload X 4 dX10_spread_70 rfl 72 rfl ?_
          refine w_bipush X 81 dX10_spread_72 rfl 74 rfl ?_
          refine w_icmp_ge X hF 87 77 dX10_spread_74 (by decide) rfl (fun hF => ?_) (fun hF => ?_)
          · refine w_aload_n X 0 dX10_spread_77 rfl rfl 78 rfl ?_
            refine w_getV (v := .ref (ad (pDist w))) X (pWays w) (lt_Ways hw) (ko_Ways hw) (T := TX10) (N := 4) rfl in_X10 0 (by decide) kF_X10_9 rfl rfl dX10_spread_78 81 rfl ?_
            refine w_iload X 4 dX10_spread_81 rfl 83 rfl ?_
            refine w_gi hF (fun h_7 hF => ?_)
            refine w_ial X (pDist w) (lt_Dist hw) (ko_Dist hw) (t0 := 0) rfl h_7 dX10_spread_83 84 rfl ?_
            refine w_goto X 88 dX10_spread_84 (by decide) ?_
            exact w_iret X hQ (o_inj1 hF) (o_inj2 hF) rfl dX10_spread_88
          · refine w_iconst X (-1) dX10_spread_87 rfl 88 rfl ?_
            exact w_iret X hQ (o_inj1 hF) (o_inj2 hF) rfl dX10_spread_88
  intro hF
  refine w_aload_n X 0 dX10_spread_0 rfl rfl 1 rfl ?_
  refine w_getV (v := .ref (ad (pDist w))) X (pWays w) (lt_Ways hw) (ko_Ways hw) (T := TX10) (N := 4) rfl in_X10 0 (by decide) kF_X10_9 rfl rfl dX10_spread_1 4 rfl ?_
  refine w_iconst X (-1) dX10_spread_4 rfl 5 rfl ?_
  refine w_callSv (fun m => m) X hZ hF [.ref (ad (pDist w)), .int (-1)] rfl kB_J7_fill_53178 kL_X10_21 (fun res h => ct_J7_fill_53178 l hZ hO fu (lt_Dist hw) (ko_Dist hw) (-1) mem res h) rfl rfl rfl ⟨Nat.le_of_ble_eq_true rfl, Nat.le_of_ble_eq_true rfl⟩ (Nat.le_of_ble_eq_true rfl) ⟨Nat.zero_le _, Nat.zero_le _⟩ dX10_spread_5 8 rfl (fun m_1 hF => ?_)
  refine w_aload_n X 0 dX10_spread_8 rfl rfl 9 rfl ?_
  refine w_iconst X 0 dX10_spread_9 rfl 10 rfl ?_
  refine w_putI X (pWays w) (lt_Ways hw) (ko_Ways hw) (T := TX10) (N := 4) rfl in_X10 tyX10 tyX10_ok nmX10 2 (by decide) kF_X10_27 rfl rfl rfl rfl (Nat.le_of_ble_eq_true rfl) rfl dX10_spread_10 13 rfl ?_
  refine w_letm hF (fun m_2 hF => ?_)
  refine w_aload_n X 1 dX10_spread_13 rfl rfl 14 rfl ?_
  refine w_iload_n X 2 dX10_spread_14 rfl rfl 15 rfl ?_
  refine w_callVi (fun x => x) (fun _ => m_2) X hZ hF [.int x2] (pBoard r1) (lt_Board hr1) ko_Board rfl rfl rfl kB_X2_sideLength kL_X10_31 (fun res h => ct_X2_sideLength l hZ hO fu hr1 x2 m_2 res h) rfl rfl rfl ⟨Nat.le_of_ble_eq_true rfl, Nat.le_of_ble_eq_true rfl⟩ (Nat.le_of_ble_eq_true rfl) ⟨Nat.zero_le _, Nat.zero_le _⟩ dX10_spread_15 18 rfl (fun x_3 hF => ?_)
  refine w_istore X [(5, .int x_3), (0, .ref (ad (pWays w))), (1, .ref (ad (pBoard r1))), (2, .int x2), (3, .int x3), (4, .int x4)] dX10_spread_18 (by decide) rfl 20 rfl ?_
  refine w_iconst X 0 dX10_spread_20 rfl 21 rfl ?_
  refine w_istore X [(6, .int 0), (5, .int x_3), (0, .ref (ad (pWays w))), (1, .ref (ad (pBoard r1))), (2, .int x2), (3, .int x3), (4, .int x4)] dX10_spread_21 (by decide) rfl 23 rfl ?_
  refine w_keep [2, 3, 4, 5, 6, 1, 0] rfl ?_
  exact w_23 fu x2 x3 x4 x_3 0 m_2 hF

def K_X10_closesAt (fu : Nat) (w : Nat) (r1 : Nat) (r2 : Nat) (i2 : Nat) (x3 : Int32) (mem : Mem) : Option (Int32 × Mem) := (if (rd mem (pPawn r2 i2) 5) = 0 then (if x3 = (rd mem (pPawn r2 i2) 0) then some (0, mem) else lt_ (x3 - x3 / 9 * 9) (fun x_1 => lt_ (x3 / 9) (fun x_2 => bd (K_X2_hasCell fu r1 x_1 x_2 mem) (fun x_3 => (if x_3 = 0 then some (0, mem) else bd (K_X10_spread fu w r1 (rd mem (pPawn r2 i2) 1) x3 (rd mem (pPawn r2 i2) 0) mem) (fun p_4 => (if p_4.1 = (-1) then some (1, p_4.2) else some (0, p_4.2)))))))) else some (0, mem))
def rm_X10_closesAt : Room := { frames := 2, cells := 0, slots := 0, locals := 55 }
set_option maxHeartbeats 4000000 in
set_option maxRecDepth 100000 in
theorem ct_X10_closesAt (l : Launch) {D : va_G} {ca ad : Nat → Nat} {Z : (Nat → Prop) → State → Heap → Prop} (hZ : ZOK Z) {tO : Nat} {sK sV : Nat → Nat} (hO : ZO Z tO sK sV) (fu : Nat) {w : Nat} (hw : w < 2) {r1 : Nat} (hr1 : r1 < 10) {r2 : Nat} (hr2 : r2 < 10) {i2 : Nat} (hi2 : i2 < 4) (x3 : Int32) (mem : Mem) (res : (Int32 × Mem)) (hF : K_X10_closesAt fu w r1 r2 i2 x3 mem = some res) : CI l D (tyL ca) 255 ad (cC ca ad) Z yX10_closesAt cX10_closesAt 4 .boolean rm_X10_closesAt [.ref (ad (pWays w)), .ref (ad (pBoard r1)), .ref (ad (pPawn r2 i2)), .int x3] mem res.1 res.2 := by
  refine start_i (own := RX10) rfl (by decide) (Nat.le_of_ble_eq_true rfl) ?_
  intro p e s m args below meth c Q hQ X
  rw [K_X10_closesAt] at hF
  revert hF
  intro hF
  refine w_aload_n X 2 dX10_closesAt_0 rfl rfl 1 rfl ?_
  refine w_getV (v := .int (rd mem (pPawn r2 i2) 5)) X (pPawn r2 i2) (lt_Pawn hr2 hi2) (ko_Pawn hi2) (T := TX4) (N := 6) rfl in_X4 5 (by decide) kF_X10_88 rfl rfl dX10_closesAt_1 4 rfl ?_
  refine w_if_ne X hF 30 7 dX10_closesAt_4 (by decide) rfl (fun hF => ?_) (fun hF => ?_)
  · refine w_iload_n X 3 dX10_closesAt_7 rfl rfl 8 rfl ?_
    refine w_aload_n X 2 dX10_closesAt_8 rfl rfl 9 rfl ?_
    refine w_getV (v := .int (rd mem (pPawn r2 i2) 0)) X (pPawn r2 i2) (lt_Pawn hr2 hi2) (ko_Pawn hi2) (T := TX4) (N := 6) rfl in_X4 0 (by decide) kF_X10_60 rfl rfl dX10_closesAt_9 12 rfl ?_
    refine w_icmp_eq X hF 30 15 dX10_closesAt_12 (by decide) rfl (fun hF => ?_) (fun hF => ?_)
    · refine w_iconst X 0 dX10_closesAt_30 rfl 31 rfl ?_
      exact w_iret X hQ (o_inj1 hF) (o_inj2 hF) rfl dX10_closesAt_31
    · refine w_aload_n X 1 dX10_closesAt_15 rfl rfl 16 rfl ?_
      refine w_iload_n X 3 dX10_closesAt_16 rfl rfl 17 rfl ?_
      refine w_bipush X 9 dX10_closesAt_17 rfl 19 rfl ?_
      refine w_irem X (by decide) dX10_closesAt_19 20 rfl ?_
      refine w_let hF (fun x_1 hF => ?_)
      refine w_iload_n X 3 dX10_closesAt_20 rfl rfl 21 rfl ?_
      refine w_bipush X 9 dX10_closesAt_21 rfl 23 rfl ?_
      refine w_idiv X (by decide) dX10_closesAt_23 24 rfl ?_
      refine w_let hF (fun x_2 hF => ?_)
      refine w_callVi (fun x => x) (fun _ => mem) X hZ hF [.int x_1, .int x_2] (pBoard r1) (lt_Board hr1) ko_Board rfl rfl rfl kB_X2_hasCell kL_X10_91 (fun res h => ct_X2_hasCell l hZ hO fu hr1 x_1 x_2 mem res h) rfl rfl rfl ⟨Nat.le_of_ble_eq_true rfl, Nat.le_of_ble_eq_true rfl⟩ (Nat.le_of_ble_eq_true rfl) ⟨Nat.zero_le _, Nat.zero_le _⟩ dX10_closesAt_24 27 rfl (fun x_3 hF => ?_)
      refine w_if_ne X hF 32 30 dX10_closesAt_27 (by decide) rfl (fun hF => ?_) (fun hF => ?_)
      · refine w_iconst X 0 dX10_closesAt_30 rfl 31 rfl ?_
        exact w_iret X hQ (o_inj1 hF) (o_inj2 hF) rfl dX10_closesAt_31
      · refine w_aload_n X 0 dX10_closesAt_32 rfl rfl 33 rfl ?_
        refine w_aload_n X 1 dX10_closesAt_33 rfl rfl 34 rfl ?_
        refine w_aload_n X 2 dX10_closesAt_34 rfl rfl 35 rfl ?_
        refine w_getV (v := .int (rd mem (pPawn r2 i2) 1)) X (pPawn r2 i2) (lt_Pawn hr2 hi2) (ko_Pawn hi2) (T := TX4) (N := 6) rfl in_X4 1 (by decide) kF_X10_55 rfl rfl dX10_closesAt_35 38 rfl ?_
        refine w_iload_n X 3 dX10_closesAt_38 rfl rfl 39 rfl ?_
        refine w_aload_n X 2 dX10_closesAt_39 rfl rfl 40 rfl ?_
        refine w_getV (v := .int (rd mem (pPawn r2 i2) 0)) X (pPawn r2 i2) (lt_Pawn hr2 hi2) (ko_Pawn hi2) (T := TX4) (N := 6) rfl in_X4 0 (by decide) kF_X10_60 rfl rfl dX10_closesAt_40 43 rfl ?_
        refine w_callVi (fun x => x.1) (fun x => x.2) X hZ hF [.ref (ad (pBoard r1)), .int (rd mem (pPawn r2 i2) 1), .int x3, .int (rd mem (pPawn r2 i2) 0)] (pWays w) (lt_Ways hw) (ko_Ways hw) rfl rfl rfl kB_X10_spread kL_X10_63 (fun res h => ct_X10_spread l hZ hO fu hw hr1 (rd mem (pPawn r2 i2) 1) x3 (rd mem (pPawn r2 i2) 0) mem res h) rfl rfl rfl ⟨Nat.le_of_ble_eq_true rfl, Nat.le_of_ble_eq_true rfl⟩ (Nat.le_of_ble_eq_true rfl) ⟨Nat.zero_le _, Nat.zero_le _⟩ dX10_closesAt_43 46 rfl (fun p_4 hF => ?_)
        refine w_iconst X (-1) dX10_closesAt_46 rfl 47 rfl ?_
        refine w_icmp_ne X hF 54 50 dX10_closesAt_47 (by decide) rfl (fun hF => ?_) (fun hF => ?_)
        · refine w_iconst X 1 dX10_closesAt_50 rfl 51 rfl ?_
          refine w_goto X 55 dX10_closesAt_51 (by decide) ?_
          exact w_iret X hQ (o_inj1 hF) (o_inj2 hF) rfl dX10_closesAt_55
        · refine w_iconst X 0 dX10_closesAt_54 rfl 55 rfl ?_
          exact w_iret X hQ (o_inj1 hF) (o_inj2 hF) rfl dX10_closesAt_55
  · refine w_iconst X 0 dX10_closesAt_30 rfl 31 rfl ?_
    exact w_iret X hQ (o_inj1 hF) (o_inj2 hF) rfl dX10_closesAt_31

def K_X10_measure (fu : Nat) (w : Nat) (r1 : Nat) (r2 : Nat) (i2 : Nat) (mem : Mem) : Option (Int32 × Mem) := bd (K_X10_spread fu w r1 (rd mem (pPawn r2 i2) 1) (-1) (rd mem (pPawn r2 i2) 0) mem) (fun p_1 => some (p_1.1, p_1.2))
def rm_X10_measure : Room := { frames := 2, cells := 0, slots := 0, locals := 55 }
set_option maxHeartbeats 4000000 in
set_option maxRecDepth 100000 in
theorem ct_X10_measure (l : Launch) {D : va_G} {ca ad : Nat → Nat} {Z : (Nat → Prop) → State → Heap → Prop} (hZ : ZOK Z) {tO : Nat} {sK sV : Nat → Nat} (hO : ZO Z tO sK sV) (fu : Nat) {w : Nat} (hw : w < 2) {r1 : Nat} (hr1 : r1 < 10) {r2 : Nat} (hr2 : r2 < 10) {i2 : Nat} (hi2 : i2 < 4) (mem : Mem) (res : (Int32 × Mem)) (hF : K_X10_measure fu w r1 r2 i2 mem = some res) : CI l D (tyL ca) 255 ad (cC ca ad) Z yX10_measure cX10_measure 3 .int rm_X10_measure [.ref (ad (pWays w)), .ref (ad (pBoard r1)), .ref (ad (pPawn r2 i2))] mem res.1 res.2 := by
  refine start_i (own := RX10) rfl (by decide) (Nat.le_of_ble_eq_true rfl) ?_
  intro p e s m args below meth c Q hQ X
  rw [K_X10_measure] at hF
  revert hF
  intro hF
  refine w_aload_n X 0 dX10_measure_0 rfl rfl 1 rfl ?_
  refine w_aload_n X 1 dX10_measure_1 rfl rfl 2 rfl ?_
  refine w_aload_n X 2 dX10_measure_2 rfl rfl 3 rfl ?_
  refine w_getV (v := .int (rd mem (pPawn r2 i2) 1)) X (pPawn r2 i2) (lt_Pawn hr2 hi2) (ko_Pawn hi2) (T := TX4) (N := 6) rfl in_X4 1 (by decide) kF_X10_55 rfl rfl dX10_measure_3 6 rfl ?_
  refine w_iconst X (-1) dX10_measure_6 rfl 7 rfl ?_
  refine w_aload_n X 2 dX10_measure_7 rfl rfl 8 rfl ?_
  refine w_getV (v := .int (rd mem (pPawn r2 i2) 0)) X (pPawn r2 i2) (lt_Pawn hr2 hi2) (ko_Pawn hi2) (T := TX4) (N := 6) rfl in_X4 0 (by decide) kF_X10_60 rfl rfl dX10_measure_8 11 rfl ?_
  refine w_callVi (fun x => x.1) (fun x => x.2) X hZ hF [.ref (ad (pBoard r1)), .int (rd mem (pPawn r2 i2) 1), .int (-1), .int (rd mem (pPawn r2 i2) 0)] (pWays w) (lt_Ways hw) (ko_Ways hw) rfl rfl rfl kB_X10_spread kL_X10_63 (fun res h => ct_X10_spread l hZ hO fu hw hr1 (rd mem (pPawn r2 i2) 1) (-1) (rd mem (pPawn r2 i2) 0) mem res h) rfl rfl rfl ⟨Nat.le_of_ble_eq_true rfl, Nat.le_of_ble_eq_true rfl⟩ (Nat.le_of_ble_eq_true rfl) ⟨Nat.zero_le _, Nat.zero_le _⟩ dX10_measure_11 14 rfl (fun p_1 hF => ?_)
  exact w_iret X hQ (o_inj1 hF) (o_inj2 hF) rfl dX10_measure_14

def K_X10_isNearer_39 (fu : Nat) (w : Nat) (r1 : Nat) (mem : Mem) (x2 : Int32) (x4 : Int32) (xs0 : Int32) : Option Int32 := (if xs0 = 0 then some 0 else gi x2 81 ((if 0 < (rd mem (pDist w) (Int32.toNatClampNeg x2)) then gi x4 81 (gi x2 81 ((if (rd mem (pDist w) (Int32.toNatClampNeg x4)) = ((rd mem (pDist w) (Int32.toNatClampNeg x2)) - 1) then some 1 else some 0))) else some 0)))
def K_X10_isNearer_38 (fu : Nat) (w : Nat) (r1 : Nat) (mem : Mem) (x2 : Int32) (x4 : Int32) : Option Int32 := (K_X10_isNearer_39 fu w r1 mem x2 x4 0 )
def K_X10_isNearer (fu : Nat) (w : Nat) (r1 : Nat) (x2 : Int32) (x3 : Int32) (mem : Mem) : Option Int32 := gi x3 4 (lt_ (x2 + (offV (Int32.toNatClampNeg x3))) (fun x_2 => gi x2 81 ((if (((rd mem (pOpen r1) (Int32.toNatClampNeg x2)) >>> (x3 &&& 31)) &&& 1) = 0 then (K_X10_isNearer_38 fu w r1 mem x2 x_2 ) else (if x_2 < 0 then (K_X10_isNearer_38 fu w r1 mem x2 x_2 ) else (if x_2 < 81 then (K_X10_isNearer_39 fu w r1 mem x2 x_2 1 ) else (K_X10_isNearer_38 fu w r1 mem x2 x_2 )))))))
def rm_X10_isNearer : Room := { frames := 0, cells := 0, slots := 0, locals := 0 }
set_option maxHeartbeats 4000000 in
set_option maxRecDepth 100000 in
theorem ct_X10_isNearer (l : Launch) {D : va_G} {ca ad : Nat → Nat} {Z : (Nat → Prop) → State → Heap → Prop} (hZ : ZOK Z) {tO : Nat} {sK sV : Nat → Nat} (hO : ZO Z tO sK sV) (fu : Nat) {w : Nat} (hw : w < 2) {r1 : Nat} (hr1 : r1 < 10) (x2 : Int32) (x3 : Int32) (mem : Mem) (res : Int32) (hF : K_X10_isNearer fu w r1 x2 x3 mem = some res) : CI l D (tyL ca) 255 ad (cC ca ad) Z yX10_isNearer cX10_isNearer 6 .boolean rm_X10_isNearer [.ref (ad (pWays w)), .ref (ad (pBoard r1)), .int x2, .int x3] mem res mem := by
  refine start_i (own := RX10) rfl (by decide) (Nat.le_of_ble_eq_true rfl) ?_
  intro p e s m args below meth c Q hQ X
  rw [K_X10_isNearer] at hF
  revert hF
  have w_39 : ∀ (x2 : Int32) (x4 : Int32) (xs0 : Int32), K_X10_isNearer_39 fu w r1 mem x2 x4 xs0 = some res → WW D 255 ad (cC ca ad) p l e rm_X10_isNearer s m args below meth c 6 0 0 Q mem 39 [(0, .ref (ad (pWays w))), (2, .int x2), (4, .int x4)] [.int xs0] := by
    intro x2 x4 xs0 hF
    rw [K_X10_isNearer_39] at hF
    refine w_istore X [(5, .int xs0), (0, .ref (ad (pWays w))), (2, .int x2), (4, .int x4)] dX10_isNearer_39 (by decide) rfl 41 rfl ?_
    refine w_iload X 0 dX10_isNearer_41 rfl 43 rfl ?_
    refine w_if_eq X hF 77 46 dX10_isNearer_43 (by decide) rfl (fun hF => ?_) (fun hF => ?_)
    · refine w_iconst X 0 dX10_isNearer_77 rfl 78 rfl ?_
      exact w_iret X hQ (o_inj hF) rfl rfl dX10_isNearer_78
    · refine w_aload_n X 1 dX10_isNearer_46 rfl rfl 47 rfl ?_
      refine w_getV (v := .ref (ad (pDist w))) X (pWays w) (lt_Ways hw) (ko_Ways hw) (T := TX10) (N := 4) rfl in_X10 0 (by decide) kF_X10_9 rfl rfl dX10_isNearer_47 50 rfl ?_
      refine w_iload_n X 2 dX10_isNearer_50 rfl rfl 51 rfl ?_
      refine w_gi hF (fun h_4 hF => ?_)
      refine w_ial X (pDist w) (lt_Dist hw) (ko_Dist hw) (t0 := 0) rfl h_4 dX10_isNearer_51 52 rfl ?_
      refine w_if_le X hF 77 55 dX10_isNearer_52 (by decide) rfl (fun hF => ?_) (fun hF => ?_)
      · refine w_aload_n X 1 dX10_isNearer_55 rfl rfl 56 rfl ?_
        refine w_getV (v := .ref (ad (pDist w))) X (pWays w) (lt_Ways hw) (ko_Ways hw) (T := TX10) (N := 4) rfl in_X10 0 (by decide) kF_X10_9 rfl rfl dX10_isNearer_56 59 rfl ?_
        refine w_iload X 3 dX10_isNearer_59 rfl 61 rfl ?_
        refine w_gi hF (fun h_5 hF => ?_)
        refine w_ial X (pDist w) (lt_Dist hw) (ko_Dist hw) (t0 := 0) rfl h_5 dX10_isNearer_61 62 rfl ?_
        refine w_aload_n X 1 dX10_isNearer_62 rfl rfl 63 rfl ?_
        refine w_getV (v := .ref (ad (pDist w))) X (pWays w) (lt_Ways hw) (ko_Ways hw) (T := TX10) (N := 4) rfl in_X10 0 (by decide) kF_X10_9 rfl rfl dX10_isNearer_63 66 rfl ?_
        refine w_iload_n X 2 dX10_isNearer_66 rfl rfl 67 rfl ?_
        refine w_gi hF (fun h_6 hF => ?_)
        refine w_ial X (pDist w) (lt_Dist hw) (ko_Dist hw) (t0 := 0) rfl h_6 dX10_isNearer_67 68 rfl ?_
        refine w_iconst X 1 dX10_isNearer_68 rfl 69 rfl ?_
        refine w_isub X dX10_isNearer_69 70 rfl ?_
        refine w_icmp_ne X hF 77 73 dX10_isNearer_70 (by decide) rfl (fun hF => ?_) (fun hF => ?_)
        · refine w_iconst X 1 dX10_isNearer_73 rfl 74 rfl ?_
          refine w_goto X 78 dX10_isNearer_74 (by decide) ?_
          exact w_iret X hQ (o_inj hF) rfl rfl dX10_isNearer_78
        · refine w_iconst X 0 dX10_isNearer_77 rfl 78 rfl ?_
          exact w_iret X hQ (o_inj hF) rfl rfl dX10_isNearer_78
      · refine w_iconst X 0 dX10_isNearer_77 rfl 78 rfl ?_
        exact w_iret X hQ (o_inj hF) rfl rfl dX10_isNearer_78
  have w_38 : ∀ (x2 : Int32) (x4 : Int32), K_X10_isNearer_38 fu w r1 mem x2 x4 = some res → WW D 255 ad (cC ca ad) p l e rm_X10_isNearer s m args below meth c 6 0 0 Q mem 38 [(0, .ref (ad (pWays w))), (2, .int x2), (4, .int x4)] [] := by
    intro x2 x4 hF
    rw [K_X10_isNearer_38] at hF
    refine w_iconst X 0 dX10_isNearer_38 rfl 39 rfl ?_
    refine w_keep [0, 1, 2] rfl ?_
    exact w_39 x2 x4 0  hF
  intro hF
  refine w_iload_n X 2 dX10_isNearer_0 rfl rfl 1 rfl ?_
  refine w_offs X hO (hO _ _ _ X.2.2.2.2.2).1.2.2.2.2.2.1 dX10_isNearer_1 4 rfl ?_
  refine w_iload_n X 3 dX10_isNearer_4 rfl rfl 5 rfl ?_
  refine w_gi hF (fun h_1 hF => ?_)
  refine w_offl X hO h_1 dX10_isNearer_5 6 rfl ?_
  refine w_iadd X dX10_isNearer_6 7 rfl ?_
  refine w_let hF (fun x_2 hF => ?_)
  refine w_istore X [(4, .int x_2), (0, .ref (ad (pWays w))), (1, .ref (ad (pBoard r1))), (2, .int x2), (3, .int x3)] dX10_isNearer_7 (by decide) rfl 9 rfl ?_
  refine w_aload_n X 2 dX10_isNearer_9 rfl rfl 10 rfl ?_
  refine w_getV (v := .ref (ad (pOpen r1))) X (pBoard r1) (lt_Board hr1) ko_Board (T := TX2) (N := 5) rfl in_X2 4 (by decide) kF_X10_52 rfl rfl dX10_isNearer_10 13 rfl ?_
  refine w_iload_n X 3 dX10_isNearer_13 rfl rfl 14 rfl ?_
  refine w_gi hF (fun h_3 hF => ?_)
  refine w_ial X (pOpen r1) (lt_Open hr1) ko_Open (t0 := 0) rfl h_3 dX10_isNearer_14 15 rfl ?_
  refine w_iload_n X 4 dX10_isNearer_15 rfl rfl 16 rfl ?_
  refine w_ishr X dX10_isNearer_16 17 rfl ?_
  refine w_iconst X 1 dX10_isNearer_17 rfl 18 rfl ?_
  refine w_iand X dX10_isNearer_18 19 rfl ?_
  refine w_if_eq X hF 38 22 dX10_isNearer_19 (by decide) rfl (fun hF => ?_) (fun hF => ?_)
  · refine w_keep [1, 3, 0] rfl ?_
    exact w_38 x2 x_2  hF
  · refine w_iload X 0 dX10_isNearer_22 rfl 24 rfl ?_
    refine w_if_lt X hF 38 27 dX10_isNearer_24 (by decide) rfl (fun hF => ?_) (fun hF => ?_)
    · refine w_keep [1, 3, 0] rfl ?_
      exact w_38 x2 x_2  hF
    · refine w_iload X 0 dX10_isNearer_27 rfl 29 rfl ?_
      refine w_bipush X 81 dX10_isNearer_29 rfl 31 rfl ?_
      refine w_icmp_ge X hF 38 34 dX10_isNearer_31 (by decide) rfl (fun hF => ?_) (fun hF => ?_)
      · refine w_iconst X 1 dX10_isNearer_34 rfl 35 rfl ?_
        refine w_goto X 39 dX10_isNearer_35 (by decide) ?_
        refine w_keep [1, 3, 0] rfl ?_
        exact w_39 x2 x_2 1  hF
      · refine w_keep [1, 3, 0] rfl ?_
        exact w_38 x2 x_2  hF

def K_X10_markNearer_2 (fu : Nat) (w : Nat) (r1 : Nat) : Nat → Int32 → Int32 → Mem → Option Mem
  | 0, _, _, _ => none
  | n + 1, x2, x3, mem => (if x3 < 4 then bd (K_X10_isNearer fu w r1 x2 x3 mem) (fun x_1 => (if x_1 = 0 then (K_X10_markNearer_2 fu w r1 n x2 (x3 + 1) mem) else gi x3 4 (gi (x2 + (offV (Int32.toNatClampNeg x3))) 81 (lt_ (mw mem (pNumb w) (Int32.toNatClampNeg (x2 + (offV (Int32.toNatClampNeg x3)))) 1) (fun m_4 => (K_X10_markNearer_2 fu w r1 n x2 (x3 + 1) m_4)))))) else some mem)
def K_X10_markNearer (fu : Nat) (w : Nat) (r1 : Nat) (x2 : Int32) (mem : Mem) : Option Mem := (K_X10_markNearer_2 fu w r1 fu x2 0 mem)
def rm_X10_markNearer : Room := { frames := 1, cells := 0, slots := 0, locals := 25 }
set_option maxHeartbeats 4000000 in
set_option maxRecDepth 100000 in
theorem ct_X10_markNearer (l : Launch) {D : va_G} {ca ad : Nat → Nat} {Z : (Nat → Prop) → State → Heap → Prop} (hZ : ZOK Z) {tO : Nat} {sK sV : Nat → Nat} (hO : ZO Z tO sK sV) (fu : Nat) {w : Nat} (hw : w < 2) {r1 : Nat} (hr1 : r1 < 10) (x2 : Int32) (mem : Mem) (res : Mem) (hF : K_X10_markNearer fu w r1 x2 mem = some res) : CV l D (tyL ca) 255 ad (cC ca ad) Z yX10_markNearer cX10_markNearer 4 rm_X10_markNearer [.ref (ad (pWays w)), .ref (ad (pBoard r1)), .int x2] mem res := by
  refine start_v (own := RX10) rfl (by decide) (Nat.le_of_ble_eq_true rfl) ?_
  intro p e s m args below meth c Q hQ X
  rw [K_X10_markNearer] at hF
  revert hF
  have w_2 : ∀ (n : Nat) (x2 : Int32) (x3 : Int32) (mem : Mem), K_X10_markNearer_2 fu w r1 n x2 x3 mem = some res → WW D 255 ad (cC ca ad) p l e rm_X10_markNearer s m args below meth c 4 0 0 Q mem 2 [(0, .ref (ad (pWays w))), (1, .ref (ad (pBoard r1))), (2, .int x2), (3, .int x3)] [] := by
    intro n
    induction n with
    | zero => intro x2 x3 mem hF; exact no_none (show (none : Option Mem) = some res from hF)
    | succ n ih =>
      intro x2 x3 mem hF
      rw [K_X10_markNearer_2] at hF
      refine w_iload_n X 3 dX10_markNearer_2 rfl rfl 3 rfl ?_
      refine w_iconst X 4 dX10_markNearer_3 rfl 4 rfl ?_
      refine w_icmp_ge X hF 36 7 dX10_markNearer_4 (by decide) rfl (fun hF => ?_) (fun hF => ?_)
      · refine w_aload_n X 0 dX10_markNearer_7 rfl rfl 8 rfl ?_
        refine w_aload_n X 1 dX10_markNearer_8 rfl rfl 9 rfl ?_
        refine w_iload_n X 2 dX10_markNearer_9 rfl rfl 10 rfl ?_
        refine w_iload_n X 3 dX10_markNearer_10 rfl rfl 11 rfl ?_
        refine w_callVi (fun x => x) (fun _ => mem) X hZ hF [.ref (ad (pBoard r1)), .int x2, .int x3] (pWays w) (lt_Ways hw) (ko_Ways hw) rfl rfl rfl kB_X10_isNearer kL_X10_75 (fun res h => ct_X10_isNearer l hZ hO fu hw hr1 x2 x3 mem res h) rfl rfl rfl ⟨Nat.le_of_ble_eq_true rfl, Nat.le_of_ble_eq_true rfl⟩ (Nat.le_of_ble_eq_true rfl) ⟨Nat.zero_le _, Nat.zero_le _⟩ dX10_markNearer_11 14 rfl (fun x_1 hF => ?_)
        refine w_if_eq X hF 30 17 dX10_markNearer_14 (by decide) rfl (fun hF => ?_) (fun hF => ?_)
        · refine w_iinc X 3 (x3 + 1) [(3, .int (x3 + 1)), (0, .ref (ad (pWays w))), (1, .ref (ad (pBoard r1))), (2, .int x2)] dX10_markNearer_30 rfl rfl (by decide) rfl 33 rfl ?_
          refine w_goto X 2 dX10_markNearer_33 (by decide) ?_
          refine w_keep [1, 2, 3, 0] rfl ?_
          exact ih x2 (x3 + 1) mem hF
        · refine w_aload_n X 0 dX10_markNearer_17 rfl rfl 18 rfl ?_
          refine w_getV (v := .ref (ad (pNumb w))) X (pWays w) (lt_Ways hw) (ko_Ways hw) (T := TX10) (N := 4) rfl in_X10 3 (by decide) kF_X10_18 rfl rfl dX10_markNearer_18 21 rfl ?_
          refine w_iload_n X 2 dX10_markNearer_21 rfl rfl 22 rfl ?_
          refine w_offs X hO (hO _ _ _ X.2.2.2.2.2).1.2.2.2.2.2.1 dX10_markNearer_22 25 rfl ?_
          refine w_iload_n X 3 dX10_markNearer_25 rfl rfl 26 rfl ?_
          refine w_gi hF (fun h_2 hF => ?_)
          refine w_offl X hO h_2 dX10_markNearer_26 27 rfl ?_
          refine w_iadd X dX10_markNearer_27 28 rfl ?_
          refine w_iconst X 1 dX10_markNearer_28 rfl 29 rfl ?_
          refine w_gi hF (fun h_3 hF => ?_)
          refine w_ias X (pNumb w) (lt_Numb hw) (ko_Numb hw) (t0 := 0) rfl h_3 dX10_markNearer_29 30 rfl ?_
          refine w_letm hF (fun m_4 hF => ?_)
          refine w_iinc X 3 (x3 + 1) [(3, .int (x3 + 1)), (0, .ref (ad (pWays w))), (1, .ref (ad (pBoard r1))), (2, .int x2)] dX10_markNearer_30 rfl rfl (by decide) rfl 33 rfl ?_
          refine w_goto X 2 dX10_markNearer_33 (by decide) ?_
          refine w_keep [1, 2, 3, 0] rfl ?_
          exact ih x2 (x3 + 1) m_4 hF
      · exact w_vret X hQ (o_inj hF) dX10_markNearer_36
  intro hF
  refine w_iconst X 0 dX10_markNearer_0 rfl 1 rfl ?_
  refine w_istore_n X [(3, .int 0), (0, .ref (ad (pWays w))), (1, .ref (ad (pBoard r1))), (2, .int x2)] dX10_markNearer_1 rfl (by decide) rfl 2 rfl ?_
  refine w_keep [1, 2, 3, 0] rfl ?_
  exact w_2 fu x2 0 mem hF

def K_X10_countCellsOnWays_35 (fu : Nat) (w : Nat) (r1 : Nat) (r2 : Nat) (i2 : Nat) : Nat → Int32 → Int32 → Mem → Option (Int32 × Mem)
  | 0, _, _, _ => none
  | n + 1, x3, x4, mem => (if x4 < 0 then some (x3, mem) else gi x4 81 (lt_ (rd mem (pQueue w) (Int32.toNatClampNeg x4)) (fun x_7 => gi x_7 81 ((if (rd mem (pNumb w) (Int32.toNatClampNeg x_7)) = 0 then (K_X10_countCellsOnWays_35 fu w r1 r2 i2 n x3 (x4 + (-1)) mem) else bd (K_X10_markNearer fu w r1 x_7 mem) (fun m_9 => (K_X10_countCellsOnWays_35 fu w r1 r2 i2 n (x3 + 1) (x4 + (-1)) m_9)))))))
def K_X10_countCellsOnWays (fu : Nat) (w : Nat) (r1 : Nat) (r2 : Nat) (i2 : Nat) (mem : Mem) : Option (Int32 × Mem) := bd (K_X10_measure fu w r1 r2 i2 mem) (fun p_1 => bd (K_J7_fill_53178 fu (pNumb w) 81 0 p_1.2) (fun m_2 => gi (rd m_2 (pPawn r2 i2) 0) 81 (lt_ (mw m_2 (pNumb w) (Int32.toNatClampNeg (rd m_2 (pPawn r2 i2) 0)) 1) (fun m_4 => lt_ ((rd m_4 (pWays w) 2) - 1) (fun x_5 => (K_X10_countCellsOnWays_35 fu w r1 r2 i2 fu 0 x_5 m_4))))))
def rm_X10_countCellsOnWays : Room := { frames := 3, cells := 0, slots := 0, locals := 77 }
set_option maxHeartbeats 4000000 in
set_option maxRecDepth 100000 in
theorem ct_X10_countCellsOnWays (l : Launch) {D : va_G} {ca ad : Nat → Nat} {Z : (Nat → Prop) → State → Heap → Prop} (hZ : ZOK Z) {tO : Nat} {sK sV : Nat → Nat} (hO : ZO Z tO sK sV) (fu : Nat) {w : Nat} (hw : w < 2) {r1 : Nat} (hr1 : r1 < 10) {r2 : Nat} (hr2 : r2 < 10) {i2 : Nat} (hi2 : i2 < 4) (mem : Mem) (res : (Int32 × Mem)) (hF : K_X10_countCellsOnWays fu w r1 r2 i2 mem = some res) : CI l D (tyL ca) 255 ad (cC ca ad) Z yX10_countCellsOnWays cX10_countCellsOnWays 6 .int rm_X10_countCellsOnWays [.ref (ad (pWays w)), .ref (ad (pBoard r1)), .ref (ad (pPawn r2 i2))] mem res.1 res.2 := by
  refine start_i (own := RX10) rfl (by decide) (Nat.le_of_ble_eq_true rfl) ?_
  intro p e s m args below meth c Q hQ X
  rw [K_X10_countCellsOnWays] at hF
  revert hF
  have w_35 : ∀ (n : Nat) (x3 : Int32) (x4 : Int32) (mem : Mem), K_X10_countCellsOnWays_35 fu w r1 r2 i2 n x3 x4 mem = some res → WW D 255 ad (cC ca ad) p l e rm_X10_countCellsOnWays s m args below meth c 6 0 0 Q mem 35 [(0, .ref (ad (pWays w))), (1, .ref (ad (pBoard r1))), (3, .int x3), (4, .int x4)] [] := by
    intro n
    induction n with
    | zero => intro x3 x4 mem hF; exact no_none (show (none : Option (Int32 × Mem)) = some res from hF)
    | succ n ih =>
      intro x3 x4 mem hF
      rw [K_X10_countCellsOnWays_35] at hF
      refine w_iload X 3 dX10_countCellsOnWays_35 rfl 37 rfl ?_
      refine w_if_lt X hF 75 40 dX10_countCellsOnWays_37 (by decide) rfl (fun hF => ?_) (fun hF => ?_)
      · refine w_iload_n X 2 dX10_countCellsOnWays_75 rfl rfl 76 rfl ?_
        exact w_iret X hQ (o_inj1 hF) (o_inj2 hF) rfl dX10_countCellsOnWays_76
      · refine w_aload_n X 0 dX10_countCellsOnWays_40 rfl rfl 41 rfl ?_
        refine w_getV (v := .ref (ad (pQueue w))) X (pWays w) (lt_Ways hw) (ko_Ways hw) (T := TX10) (N := 4) rfl in_X10 1 (by decide) kF_X10_15 rfl rfl dX10_countCellsOnWays_41 44 rfl ?_
        refine w_iload X 3 dX10_countCellsOnWays_44 rfl 46 rfl ?_
        refine w_gi hF (fun h_6 hF => ?_)
        refine w_ial X (pQueue w) (lt_Queue hw) (ko_Queue hw) (t0 := 0) rfl h_6 dX10_countCellsOnWays_46 47 rfl ?_
        refine w_let hF (fun x_7 hF => ?_)
        refine w_istore X [(5, .int x_7), (0, .ref (ad (pWays w))), (1, .ref (ad (pBoard r1))), (3, .int x3), (4, .int x4)] dX10_countCellsOnWays_47 (by decide) rfl 49 rfl ?_
        refine w_aload_n X 1 dX10_countCellsOnWays_49 rfl rfl 50 rfl ?_
        refine w_getV (v := .ref (ad (pNumb w))) X (pWays w) (lt_Ways hw) (ko_Ways hw) (T := TX10) (N := 4) rfl in_X10 3 (by decide) kF_X10_18 rfl rfl dX10_countCellsOnWays_50 53 rfl ?_
        refine w_iload X 0 dX10_countCellsOnWays_53 rfl 55 rfl ?_
        refine w_gi hF (fun h_8 hF => ?_)
        refine w_ial X (pNumb w) (lt_Numb hw) (ko_Numb hw) (t0 := 0) rfl h_8 dX10_countCellsOnWays_55 56 rfl ?_
        refine w_if_eq X hF 69 59 dX10_countCellsOnWays_56 (by decide) rfl (fun hF => ?_) (fun hF => ?_)
        · refine w_iinc X 4 (x4 + (-1)) [(4, .int (x4 + (-1))), (5, .int x_7), (0, .ref (ad (pWays w))), (1, .ref (ad (pBoard r1))), (3, .int x3)] dX10_countCellsOnWays_69 rfl rfl (by decide) rfl 72 rfl ?_
          refine w_goto X 35 dX10_countCellsOnWays_72 (by decide) ?_
          refine w_keep [2, 3, 4, 0] rfl ?_
          exact ih x3 (x4 + (-1)) mem hF
        · refine w_iinc X 3 (x3 + 1) [(3, .int (x3 + 1)), (5, .int x_7), (0, .ref (ad (pWays w))), (1, .ref (ad (pBoard r1))), (4, .int x4)] dX10_countCellsOnWays_59 rfl rfl (by decide) rfl 62 rfl ?_
          refine w_aload_n X 2 dX10_countCellsOnWays_62 rfl rfl 63 rfl ?_
          refine w_aload_n X 3 dX10_countCellsOnWays_63 rfl rfl 64 rfl ?_
          refine w_iload X 1 dX10_countCellsOnWays_64 rfl 66 rfl ?_
          refine w_callVv (fun m => m) X hZ hF [.ref (ad (pBoard r1)), .int x_7] (pWays w) (lt_Ways hw) (ko_Ways hw) rfl rfl rfl kB_X10_markNearer kL_X10_80 (fun res h => ct_X10_markNearer l hZ hO fu hw hr1 x_7 mem res h) rfl rfl rfl ⟨Nat.le_of_ble_eq_true rfl, Nat.le_of_ble_eq_true rfl⟩ (Nat.le_of_ble_eq_true rfl) ⟨Nat.zero_le _, Nat.zero_le _⟩ dX10_countCellsOnWays_66 69 rfl (fun m_9 hF => ?_)
          refine w_iinc X 4 (x4 + (-1)) [(4, .int (x4 + (-1))), (3, .int (x3 + 1)), (5, .int x_7), (0, .ref (ad (pWays w))), (1, .ref (ad (pBoard r1)))] dX10_countCellsOnWays_69 rfl rfl (by decide) rfl 72 rfl ?_
          refine w_goto X 35 dX10_countCellsOnWays_72 (by decide) ?_
          refine w_keep [3, 4, 1, 0] rfl ?_
          exact ih (x3 + 1) (x4 + (-1)) m_9 hF
  intro hF
  refine w_aload_n X 0 dX10_countCellsOnWays_0 rfl rfl 1 rfl ?_
  refine w_aload_n X 1 dX10_countCellsOnWays_1 rfl rfl 2 rfl ?_
  refine w_aload_n X 2 dX10_countCellsOnWays_2 rfl rfl 3 rfl ?_
  refine w_callVi (fun x => x.1) (fun x => x.2) X hZ hF [.ref (ad (pBoard r1)), .ref (ad (pPawn r2 i2))] (pWays w) (lt_Ways hw) (ko_Ways hw) rfl rfl rfl kB_X10_measure kL_X10_67 (fun res h => ct_X10_measure l hZ hO fu hw hr1 hr2 hi2 mem res h) rfl rfl rfl ⟨Nat.le_of_ble_eq_true rfl, Nat.le_of_ble_eq_true rfl⟩ (Nat.le_of_ble_eq_true rfl) ⟨Nat.zero_le _, Nat.zero_le _⟩ dX10_countCellsOnWays_3 6 rfl (fun p_1 hF => ?_)
  refine w_pop X dX10_countCellsOnWays_6 rfl 7 rfl ?_
  refine w_aload_n X 0 dX10_countCellsOnWays_7 rfl rfl 8 rfl ?_
  refine w_getV (v := .ref (ad (pNumb w))) X (pWays w) (lt_Ways hw) (ko_Ways hw) (T := TX10) (N := 4) rfl in_X10 3 (by decide) kF_X10_18 rfl rfl dX10_countCellsOnWays_8 11 rfl ?_
  refine w_iconst X 0 dX10_countCellsOnWays_11 rfl 12 rfl ?_
  refine w_callSv (fun m => m) X hZ hF [.ref (ad (pNumb w)), .int 0] rfl kB_J7_fill_53178 kL_X10_21 (fun res h => ct_J7_fill_53178 l hZ hO fu (lt_Numb hw) (ko_Numb hw) 0 p_1.2 res h) rfl rfl rfl ⟨Nat.le_of_ble_eq_true rfl, Nat.le_of_ble_eq_true rfl⟩ (Nat.le_of_ble_eq_true rfl) ⟨Nat.zero_le _, Nat.zero_le _⟩ dX10_countCellsOnWays_12 15 rfl (fun m_2 hF => ?_)
  refine w_aload_n X 0 dX10_countCellsOnWays_15 rfl rfl 16 rfl ?_
  refine w_getV (v := .ref (ad (pNumb w))) X (pWays w) (lt_Ways hw) (ko_Ways hw) (T := TX10) (N := 4) rfl in_X10 3 (by decide) kF_X10_18 rfl rfl dX10_countCellsOnWays_16 19 rfl ?_
  refine w_aload_n X 2 dX10_countCellsOnWays_19 rfl rfl 20 rfl ?_
  refine w_getV (v := .int (rd m_2 (pPawn r2 i2) 0)) X (pPawn r2 i2) (lt_Pawn hr2 hi2) (ko_Pawn hi2) (T := TX4) (N := 6) rfl in_X4 0 (by decide) kF_X10_60 rfl rfl dX10_countCellsOnWays_20 23 rfl ?_
  refine w_iconst X 1 dX10_countCellsOnWays_23 rfl 24 rfl ?_
  refine w_gi hF (fun h_3 hF => ?_)
  refine w_ias X (pNumb w) (lt_Numb hw) (ko_Numb hw) (t0 := 0) rfl h_3 dX10_countCellsOnWays_24 25 rfl ?_
  refine w_letm hF (fun m_4 hF => ?_)
  refine w_iconst X 0 dX10_countCellsOnWays_25 rfl 26 rfl ?_
  refine w_istore_n X [(3, .int 0), (0, .ref (ad (pWays w))), (1, .ref (ad (pBoard r1))), (2, .ref (ad (pPawn r2 i2)))] dX10_countCellsOnWays_26 rfl (by decide) rfl 27 rfl ?_
  refine w_aload_n X 1 dX10_countCellsOnWays_27 rfl rfl 28 rfl ?_
  refine w_getV (v := .int (rd m_4 (pWays w) 2)) X (pWays w) (lt_Ways hw) (ko_Ways hw) (T := TX10) (N := 4) rfl in_X10 2 (by decide) kF_X10_27 rfl rfl dX10_countCellsOnWays_28 31 rfl ?_
  refine w_iconst X 1 dX10_countCellsOnWays_31 rfl 32 rfl ?_
  refine w_isub X dX10_countCellsOnWays_32 33 rfl ?_
  refine w_let hF (fun x_5 hF => ?_)
  refine w_istore X [(4, .int x_5), (3, .int 0), (0, .ref (ad (pWays w))), (1, .ref (ad (pBoard r1))), (2, .ref (ad (pPawn r2 i2)))] dX10_countCellsOnWays_33 (by decide) rfl 35 rfl ?_
  refine w_keep [2, 3, 1, 0] rfl ?_
  exact w_35 fu 0 x_5 m_4 hF

def K_X10_countGates_5 (fu : Nat) (w : Nat) (r1 : Nat) (r2 : Nat) (i2 : Nat) : Nat → Int32 → Int32 → Mem → Option (Int32 × Mem)
  | 0, _, _, _ => none
  | n + 1, x3, x4, mem => (if x4 < 81 then bd (K_X10_closesAt fu w r1 r2 i2 x4 mem) (fun p_1 => (if p_1.1 = 0 then (K_X10_countGates_5 fu w r1 r2 i2 n x3 (x4 + 1) p_1.2) else (K_X10_countGates_5 fu w r1 r2 i2 n (x3 + 1) (x4 + 1) p_1.2))) else some (x3, mem))
def K_X10_countGates (fu : Nat) (w : Nat) (r1 : Nat) (r2 : Nat) (i2 : Nat) (mem : Mem) : Option (Int32 × Mem) := (K_X10_countGates_5 fu w r1 r2 i2 fu 0 0 mem)
def rm_X10_countGates : Room := { frames := 3, cells := 0, slots := 0, locals := 78 }
set_option maxHeartbeats 4000000 in
set_option maxRecDepth 100000 in
theorem ct_X10_countGates (l : Launch) {D : va_G} {ca ad : Nat → Nat} {Z : (Nat → Prop) → State → Heap → Prop} (hZ : ZOK Z) {tO : Nat} {sK sV : Nat → Nat} (hO : ZO Z tO sK sV) (fu : Nat) {w : Nat} (hw : w < 2) {r1 : Nat} (hr1 : r1 < 10) {r2 : Nat} (hr2 : r2 < 10) {i2 : Nat} (hi2 : i2 < 4) (mem : Mem) (res : (Int32 × Mem)) (hF : K_X10_countGates fu w r1 r2 i2 mem = some res) : CI l D (tyL ca) 255 ad (cC ca ad) Z yX10_countGates cX10_countGates 5 .int rm_X10_countGates [.ref (ad (pWays w)), .ref (ad (pBoard r1)), .ref (ad (pPawn r2 i2))] mem res.1 res.2 := by
  refine start_i (own := RX10) rfl (by decide) (Nat.le_of_ble_eq_true rfl) ?_
  intro p e s m args below meth c Q hQ X
  rw [K_X10_countGates] at hF
  revert hF
  have w_5 : ∀ (n : Nat) (x3 : Int32) (x4 : Int32) (mem : Mem), K_X10_countGates_5 fu w r1 r2 i2 n x3 x4 mem = some res → WW D 255 ad (cC ca ad) p l e rm_X10_countGates s m args below meth c 5 0 0 Q mem 5 [(0, .ref (ad (pWays w))), (1, .ref (ad (pBoard r1))), (2, .ref (ad (pPawn r2 i2))), (3, .int x3), (4, .int x4)] [] := by
    intro n
    induction n with
    | zero => intro x3 x4 mem hF; exact no_none (show (none : Option (Int32 × Mem)) = some res from hF)
    | succ n ih =>
      intro x3 x4 mem hF
      rw [K_X10_countGates_5] at hF
      refine w_iload X 4 dX10_countGates_5 rfl 7 rfl ?_
      refine w_bipush X 81 dX10_countGates_7 rfl 9 rfl ?_
      refine w_icmp_ge X hF 32 12 dX10_countGates_9 (by decide) rfl (fun hF => ?_) (fun hF => ?_)
      · refine w_aload_n X 0 dX10_countGates_12 rfl rfl 13 rfl ?_
        refine w_aload_n X 1 dX10_countGates_13 rfl rfl 14 rfl ?_
        refine w_aload_n X 2 dX10_countGates_14 rfl rfl 15 rfl ?_
        refine w_iload X 4 dX10_countGates_15 rfl 17 rfl ?_
        refine w_callVi (fun x => x.1) (fun x => x.2) X hZ hF [.ref (ad (pBoard r1)), .ref (ad (pPawn r2 i2)), .int x4] (pWays w) (lt_Ways hw) (ko_Ways hw) rfl rfl rfl kB_X10_closesAt kL_X10_84 (fun res h => ct_X10_closesAt l hZ hO fu hw hr1 hr2 hi2 x4 mem res h) rfl rfl rfl ⟨Nat.le_of_ble_eq_true rfl, Nat.le_of_ble_eq_true rfl⟩ (Nat.le_of_ble_eq_true rfl) ⟨Nat.zero_le _, Nat.zero_le _⟩ dX10_countGates_17 20 rfl (fun p_1 hF => ?_)
        refine w_if_eq X hF 26 23 dX10_countGates_20 (by decide) rfl (fun hF => ?_) (fun hF => ?_)
        · refine w_iinc X 4 (x4 + 1) [(4, .int (x4 + 1)), (0, .ref (ad (pWays w))), (1, .ref (ad (pBoard r1))), (2, .ref (ad (pPawn r2 i2))), (3, .int x3)] dX10_countGates_26 rfl rfl (by decide) rfl 29 rfl ?_
          refine w_goto X 5 dX10_countGates_29 (by decide) ?_
          refine w_keep [1, 2, 3, 4, 0] rfl ?_
          exact ih x3 (x4 + 1) p_1.2 hF
        · refine w_iinc X 3 (x3 + 1) [(3, .int (x3 + 1)), (0, .ref (ad (pWays w))), (1, .ref (ad (pBoard r1))), (2, .ref (ad (pPawn r2 i2))), (4, .int x4)] dX10_countGates_23 rfl rfl (by decide) rfl 26 rfl ?_
          refine w_iinc X 4 (x4 + 1) [(4, .int (x4 + 1)), (3, .int (x3 + 1)), (0, .ref (ad (pWays w))), (1, .ref (ad (pBoard r1))), (2, .ref (ad (pPawn r2 i2)))] dX10_countGates_26 rfl rfl (by decide) rfl 29 rfl ?_
          refine w_goto X 5 dX10_countGates_29 (by decide) ?_
          refine w_keep [2, 3, 4, 1, 0] rfl ?_
          exact ih (x3 + 1) (x4 + 1) p_1.2 hF
      · refine w_iload_n X 3 dX10_countGates_32 rfl rfl 33 rfl ?_
        exact w_iret X hQ (o_inj1 hF) (o_inj2 hF) rfl dX10_countGates_33
  intro hF
  refine w_iconst X 0 dX10_countGates_0 rfl 1 rfl ?_
  refine w_istore_n X [(3, .int 0), (0, .ref (ad (pWays w))), (1, .ref (ad (pBoard r1))), (2, .ref (ad (pPawn r2 i2)))] dX10_countGates_1 rfl (by decide) rfl 2 rfl ?_
  refine w_iconst X 0 dX10_countGates_2 rfl 3 rfl ?_
  refine w_istore X [(4, .int 0), (3, .int 0), (0, .ref (ad (pWays w))), (1, .ref (ad (pBoard r1))), (2, .ref (ad (pPawn r2 i2)))] dX10_countGates_3 (by decide) rfl 5 rfl ?_
  refine w_keep [2, 3, 4, 1, 0] rfl ?_
  exact w_5 fu 0 0 mem hF

def K_X10_countRegions_17 (fu : Nat) (w : Nat) (r1 : Nat) : Nat → Int32 → Int32 → Mem → Option (Int32 × Mem)
  | 0, _, _, _ => none
  | n + 1, x2, x3, mem => (if x3 < 81 then lt_ (x3 - x3 / 9 * 9) (fun x_3 => lt_ (x3 / 9) (fun x_4 => bd (K_X2_hasCell fu r1 x_3 x_4 mem) (fun x_5 => (if x_5 = 0 then (K_X10_countRegions_17 fu w r1 n x2 (x3 + 1) mem) else gi x3 81 ((if (rd mem (pDist w) (Int32.toNatClampNeg x3)) = (-1) then lt_ (mw mem (pWays w) 2 0) (fun m_7 => bd (K_X10_beginAt fu w x3 m_7) (fun m_8 => bd (K_X10_flow fu w r1 (-1) (-1) m_8) (fun m_9 => (K_X10_countRegions_17 fu w r1 n (x2 + 1) (x3 + 1) m_9)))) else (K_X10_countRegions_17 fu w r1 n x2 (x3 + 1) mem))))))) else some (x2, mem))
def K_X10_countRegions (fu : Nat) (w : Nat) (r1 : Nat) (mem : Mem) : Option (Int32 × Mem) := bd (K_J7_fill_53178 fu (pDist w) 81 (-1) mem) (fun m_1 => lt_ (mw m_1 (pWays w) 2 0) (fun m_2 => (K_X10_countRegions_17 fu w r1 fu 0 0 m_2)))
def K_X10_sumOfNearer_5 (fu : Nat) (w : Nat) (r1 : Nat) (mem : Mem) : Nat → Int32 → Int32 → Int32 → Option Int32
  | 0, _, _, _ => none
  | n + 1, x2, x3, x4 => (if x4 < 4 then bd (K_X10_isNearer fu w r1 x2 x4 mem) (fun x_1 => (if x_1 = 0 then (K_X10_sumOfNearer_5 fu w r1 mem n x2 x3 (x4 + 1) ) else gi x4 4 (gi (x2 + (offV (Int32.toNatClampNeg x4))) 81 (lt_ (x3 + (rd mem (pNumb w) (Int32.toNatClampNeg (x2 + (offV (Int32.toNatClampNeg x4)))))) (fun x_4 => (K_X10_sumOfNearer_5 fu w r1 mem n x2 x_4 (x4 + 1) )))))) else lt_ (x3 - x3 / 1000003 * 1000003) (fun x_5 => some x_5))
def K_X10_sumOfNearer (fu : Nat) (w : Nat) (r1 : Nat) (x2 : Int32) (mem : Mem) : Option Int32 := (K_X10_sumOfNearer_5 fu w r1 mem fu x2 0 0 )
def rm_X10_sumOfNearer : Room := { frames := 1, cells := 0, slots := 0, locals := 25 }
set_option maxHeartbeats 4000000 in
set_option maxRecDepth 100000 in
theorem ct_X10_sumOfNearer (l : Launch) {D : va_G} {ca ad : Nat → Nat} {Z : (Nat → Prop) → State → Heap → Prop} (hZ : ZOK Z) {tO : Nat} {sK sV : Nat → Nat} (hO : ZO Z tO sK sV) (fu : Nat) {w : Nat} (hw : w < 2) {r1 : Nat} (hr1 : r1 < 10) (x2 : Int32) (mem : Mem) (res : Int32) (hF : K_X10_sumOfNearer fu w r1 x2 mem = some res) : CI l D (tyL ca) 255 ad (cC ca ad) Z yX10_sumOfNearer cX10_sumOfNearer 5 .int rm_X10_sumOfNearer [.ref (ad (pWays w)), .ref (ad (pBoard r1)), .int x2] mem res mem := by
  refine start_i (own := RX10) rfl (by decide) (Nat.le_of_ble_eq_true rfl) ?_
  intro p e s m args below meth c Q hQ X
  rw [K_X10_sumOfNearer] at hF
  revert hF
  have w_5 : ∀ (n : Nat) (x2 : Int32) (x3 : Int32) (x4 : Int32), K_X10_sumOfNearer_5 fu w r1 mem n x2 x3 x4 = some res → WW D 255 ad (cC ca ad) p l e rm_X10_sumOfNearer s m args below meth c 5 0 0 Q mem 5 [(0, .ref (ad (pWays w))), (1, .ref (ad (pBoard r1))), (2, .int x2), (3, .int x3), (4, .int x4)] [] := by
    intro n
    induction n with
    | zero => intro x2 x3 x4 hF; exact no_none (show (none : Option Int32) = some res from hF)
    | succ n ih =>
      intro x2 x3 x4 hF
      rw [K_X10_sumOfNearer_5] at hF
      refine w_iload X 4 dX10_sumOfNearer_5 rfl 7 rfl ?_
      refine w_iconst X 4 dX10_sumOfNearer_7 rfl 8 rfl ?_
      refine w_icmp_ge X hF 44 11 dX10_sumOfNearer_8 (by decide) rfl (fun hF => ?_) (fun hF => ?_)
      · refine w_aload_n X 0 dX10_sumOfNearer_11 rfl rfl 12 rfl ?_
        refine w_aload_n X 1 dX10_sumOfNearer_12 rfl rfl 13 rfl ?_
        refine w_iload_n X 2 dX10_sumOfNearer_13 rfl rfl 14 rfl ?_
        refine w_iload X 4 dX10_sumOfNearer_14 rfl 16 rfl ?_
        refine w_callVi (fun x => x) (fun _ => mem) X hZ hF [.ref (ad (pBoard r1)), .int x2, .int x4] (pWays w) (lt_Ways hw) (ko_Ways hw) rfl rfl rfl kB_X10_isNearer kL_X10_75 (fun res h => ct_X10_isNearer l hZ hO fu hw hr1 x2 x4 mem res h) rfl rfl rfl ⟨Nat.le_of_ble_eq_true rfl, Nat.le_of_ble_eq_true rfl⟩ (Nat.le_of_ble_eq_true rfl) ⟨Nat.zero_le _, Nat.zero_le _⟩ dX10_sumOfNearer_16 19 rfl (fun x_1 hF => ?_)
        refine w_if_eq X hF 38 22 dX10_sumOfNearer_19 (by decide) rfl (fun hF => ?_) (fun hF => ?_)
        · refine w_iinc X 4 (x4 + 1) [(4, .int (x4 + 1)), (0, .ref (ad (pWays w))), (1, .ref (ad (pBoard r1))), (2, .int x2), (3, .int x3)] dX10_sumOfNearer_38 rfl rfl (by decide) rfl 41 rfl ?_
          refine w_goto X 5 dX10_sumOfNearer_41 (by decide) ?_
          refine w_keep [1, 2, 3, 4, 0] rfl ?_
          exact ih x2 x3 (x4 + 1)  hF
        · refine w_iload_n X 3 dX10_sumOfNearer_22 rfl rfl 23 rfl ?_
          refine w_aload_n X 0 dX10_sumOfNearer_23 rfl rfl 24 rfl ?_
          refine w_getV (v := .ref (ad (pNumb w))) X (pWays w) (lt_Ways hw) (ko_Ways hw) (T := TX10) (N := 4) rfl in_X10 3 (by decide) kF_X10_18 rfl rfl dX10_sumOfNearer_24 27 rfl ?_
          refine w_iload_n X 2 dX10_sumOfNearer_27 rfl rfl 28 rfl ?_
          refine w_offs X hO (hO _ _ _ X.2.2.2.2.2).1.2.2.2.2.2.1 dX10_sumOfNearer_28 31 rfl ?_
          refine w_iload X 4 dX10_sumOfNearer_31 rfl 33 rfl ?_
          refine w_gi hF (fun h_2 hF => ?_)
          refine w_offl X hO h_2 dX10_sumOfNearer_33 34 rfl ?_
          refine w_iadd X dX10_sumOfNearer_34 35 rfl ?_
          refine w_gi hF (fun h_3 hF => ?_)
          refine w_ial X (pNumb w) (lt_Numb hw) (ko_Numb hw) (t0 := 0) rfl h_3 dX10_sumOfNearer_35 36 rfl ?_
          refine w_iadd X dX10_sumOfNearer_36 37 rfl ?_
          refine w_let hF (fun x_4 hF => ?_)
          refine w_istore_n X [(3, .int x_4), (0, .ref (ad (pWays w))), (1, .ref (ad (pBoard r1))), (2, .int x2), (4, .int x4)] dX10_sumOfNearer_37 rfl (by decide) rfl 38 rfl ?_
          refine w_iinc X 4 (x4 + 1) [(4, .int (x4 + 1)), (3, .int x_4), (0, .ref (ad (pWays w))), (1, .ref (ad (pBoard r1))), (2, .int x2)] dX10_sumOfNearer_38 rfl rfl (by decide) rfl 41 rfl ?_
          refine w_goto X 5 dX10_sumOfNearer_41 (by decide) ?_
          refine w_keep [2, 3, 4, 1, 0] rfl ?_
          exact ih x2 x_4 (x4 + 1)  hF
      · refine w_iload_n X 3 dX10_sumOfNearer_44 rfl rfl 45 rfl ?_
        refine w_ldc X 1000003 kK_X10_79 dX10_sumOfNearer_45 47 rfl ?_
        refine w_irem X (by decide) dX10_sumOfNearer_47 48 rfl ?_
        refine w_let hF (fun x_5 hF => ?_)
        exact w_iret X hQ (o_inj hF) rfl rfl dX10_sumOfNearer_48
  intro hF
  refine w_iconst X 0 dX10_sumOfNearer_0 rfl 1 rfl ?_
  refine w_istore_n X [(3, .int 0), (0, .ref (ad (pWays w))), (1, .ref (ad (pBoard r1))), (2, .int x2)] dX10_sumOfNearer_1 rfl (by decide) rfl 2 rfl ?_
  refine w_iconst X 0 dX10_sumOfNearer_2 rfl 3 rfl ?_
  refine w_istore X [(4, .int 0), (3, .int 0), (0, .ref (ad (pWays w))), (1, .ref (ad (pBoard r1))), (2, .int x2)] dX10_sumOfNearer_3 (by decide) rfl 5 rfl ?_
  refine w_keep [2, 3, 4, 1, 0] rfl ?_
  exact w_5 fu x2 0 0  hF

def K_X10_countWays_52 (fu : Nat) (w : Nat) (r1 : Nat) (r2 : Nat) (i2 : Nat) (k_9 : Int32 → Mem → Option (Int32 × Mem)) (x3 : Int32) (xs0 : Int32) (xs1 : Int32) (mem : Mem) : Option (Int32 × Mem) := gi xs1 81 (lt_ (mw mem (pNumb w) (Int32.toNatClampNeg xs1) xs0) (fun m_9 => (k_9 (x3 + 1) m_9)))
def K_X10_countWays_9 (fu : Nat) (w : Nat) (r1 : Nat) (r2 : Nat) (i2 : Nat) : Nat → Int32 → Mem → Option (Int32 × Mem)
  | 0, _, _ => none
  | n + 1, x3, mem => (if x3 < (rd mem (pWays w) 2) then gi x3 81 (lt_ (rd mem (pQueue w) (Int32.toNatClampNeg x3)) (fun x_3 => gi x_3 81 ((if (rd mem (pDist w) (Int32.toNatClampNeg x_3)) = 0 then (K_X10_countWays_52 fu w r1 r2 i2 (K_X10_countWays_9 fu w r1 r2 i2 n) x3 1 x_3 mem) else bd (K_X10_sumOfNearer fu w r1 x_3 mem) (fun x_5 => (K_X10_countWays_52 fu w r1 r2 i2 (K_X10_countWays_9 fu w r1 r2 i2 n) x3 x_5 x_3 mem)))))) else gi (rd mem (pPawn r2 i2) 0) 81 ((if (rd mem (pDist w) (Int32.toNatClampNeg (rd mem (pPawn r2 i2) 0))) = (-1) then some (0, mem) else gi (rd mem (pPawn r2 i2) 0) 81 (some ((rd mem (pNumb w) (Int32.toNatClampNeg (rd mem (pPawn r2 i2) 0))), mem)))))
def K_X10_countWays (fu : Nat) (w : Nat) (r1 : Nat) (r2 : Nat) (i2 : Nat) (mem : Mem) : Option (Int32 × Mem) := bd (K_X10_measure fu w r1 r2 i2 mem) (fun p_1 => (K_X10_countWays_9 fu w r1 r2 i2 fu 0 p_1.2))
def rm_X10_countWays : Room := { frames := 3, cells := 0, slots := 0, locals := 77 }
set_option maxHeartbeats 4000000 in
set_option maxRecDepth 100000 in
theorem ct_X10_countWays (l : Launch) {D : va_G} {ca ad : Nat → Nat} {Z : (Nat → Prop) → State → Heap → Prop} (hZ : ZOK Z) {tO : Nat} {sK sV : Nat → Nat} (hO : ZO Z tO sK sV) (fu : Nat) {w : Nat} (hw : w < 2) {r1 : Nat} (hr1 : r1 < 10) {r2 : Nat} (hr2 : r2 < 10) {i2 : Nat} (hi2 : i2 < 4) (mem : Mem) (res : (Int32 × Mem)) (hF : K_X10_countWays fu w r1 r2 i2 mem = some res) : CI l D (tyL ca) 255 ad (cC ca ad) Z yX10_countWays cX10_countWays 5 .int rm_X10_countWays [.ref (ad (pWays w)), .ref (ad (pBoard r1)), .ref (ad (pPawn r2 i2))] mem res.1 res.2 := by
  refine start_i (own := RX10) rfl (by decide) (Nat.le_of_ble_eq_true rfl) ?_
  intro p e s m args below meth c Q hQ X
  rw [K_X10_countWays] at hF
  revert hF
  have w_52 : ∀ (k_9 : Int32 → Mem → Option (Int32 × Mem)) (hk_9 : ∀ (x3 : Int32) (mem : Mem), k_9 x3 mem = some res → WW D 255 ad (cC ca ad) p l e rm_X10_countWays s m args below meth c 5 0 0 Q mem 9 [(0, .ref (ad (pWays w))), (1, .ref (ad (pBoard r1))), (2, .ref (ad (pPawn r2 i2))), (3, .int x3)] []) (x3 : Int32) (xs0 : Int32) (xs1 : Int32) (mem : Mem), K_X10_countWays_52 fu w r1 r2 i2 k_9 x3 xs0 xs1 mem = some res → WW D 255 ad (cC ca ad) p l e rm_X10_countWays s m args below meth c 5 0 0 Q mem 52 [(0, .ref (ad (pWays w))), (1, .ref (ad (pBoard r1))), (2, .ref (ad (pPawn r2 i2))), (3, .int x3)] [.int xs0, .int xs1, .ref (ad (pNumb w))] := by
    intro k_9 hk_9 x3 xs0 xs1 mem hF
    rw [K_X10_countWays_52] at hF
    refine w_gi hF (fun h_8 hF => ?_)
    refine w_ias X (pNumb w) (lt_Numb hw) (ko_Numb hw) (t0 := 0) rfl h_8 dX10_countWays_52 53 rfl ?_
    refine w_letm hF (fun m_9 hF => ?_)
    refine w_iinc X 3 (x3 + 1) [(3, .int (x3 + 1)), (0, .ref (ad (pWays w))), (1, .ref (ad (pBoard r1))), (2, .ref (ad (pPawn r2 i2)))] dX10_countWays_53 rfl rfl (by decide) rfl 56 rfl ?_
    refine w_goto X 9 dX10_countWays_56 (by decide) ?_
    refine w_keep [1, 2, 3, 0] rfl ?_
    exact hk_9 (x3 + 1) m_9 hF
  have w_9 : ∀ (n : Nat) (x3 : Int32) (mem : Mem), K_X10_countWays_9 fu w r1 r2 i2 n x3 mem = some res → WW D 255 ad (cC ca ad) p l e rm_X10_countWays s m args below meth c 5 0 0 Q mem 9 [(0, .ref (ad (pWays w))), (1, .ref (ad (pBoard r1))), (2, .ref (ad (pPawn r2 i2))), (3, .int x3)] [] := by
    intro n
    induction n with
    | zero => intro x3 mem hF; exact no_none (show (none : Option (Int32 × Mem)) = some res from hF)
    | succ n ih =>
      intro x3 mem hF
      rw [K_X10_countWays_9] at hF
      refine w_iload_n X 3 dX10_countWays_9 rfl rfl 10 rfl ?_
      refine w_aload_n X 0 dX10_countWays_10 rfl rfl 11 rfl ?_
      refine w_getV (v := .int (rd mem (pWays w) 2)) X (pWays w) (lt_Ways hw) (ko_Ways hw) (T := TX10) (N := 4) rfl in_X10 2 (by decide) kF_X10_27 rfl rfl dX10_countWays_11 14 rfl ?_
      refine w_icmp_ge X hF 59 17 dX10_countWays_14 (by decide) rfl (fun hF => ?_) (fun hF => ?_)
      · refine w_aload_n X 0 dX10_countWays_17 rfl rfl 18 rfl ?_
        refine w_getV (v := .ref (ad (pQueue w))) X (pWays w) (lt_Ways hw) (ko_Ways hw) (T := TX10) (N := 4) rfl in_X10 1 (by decide) kF_X10_15 rfl rfl dX10_countWays_18 21 rfl ?_
        refine w_iload_n X 3 dX10_countWays_21 rfl rfl 22 rfl ?_
        refine w_gi hF (fun h_2 hF => ?_)
        refine w_ial X (pQueue w) (lt_Queue hw) (ko_Queue hw) (t0 := 0) rfl h_2 dX10_countWays_22 23 rfl ?_
        refine w_let hF (fun x_3 hF => ?_)
        refine w_istore X [(4, .int x_3), (0, .ref (ad (pWays w))), (1, .ref (ad (pBoard r1))), (2, .ref (ad (pPawn r2 i2))), (3, .int x3)] dX10_countWays_23 (by decide) rfl 25 rfl ?_
        refine w_aload_n X 1 dX10_countWays_25 rfl rfl 26 rfl ?_
        refine w_getV (v := .ref (ad (pNumb w))) X (pWays w) (lt_Ways hw) (ko_Ways hw) (T := TX10) (N := 4) rfl in_X10 3 (by decide) kF_X10_18 rfl rfl dX10_countWays_26 29 rfl ?_
        refine w_iload X 0 dX10_countWays_29 rfl 31 rfl ?_
        refine w_aload_n X 1 dX10_countWays_31 rfl rfl 32 rfl ?_
        refine w_getV (v := .ref (ad (pDist w))) X (pWays w) (lt_Ways hw) (ko_Ways hw) (T := TX10) (N := 4) rfl in_X10 0 (by decide) kF_X10_9 rfl rfl dX10_countWays_32 35 rfl ?_
        refine w_iload X 0 dX10_countWays_35 rfl 37 rfl ?_
        refine w_gi hF (fun h_4 hF => ?_)
        refine w_ial X (pDist w) (lt_Dist hw) (ko_Dist hw) (t0 := 0) rfl h_4 dX10_countWays_37 38 rfl ?_
        refine w_if_ne X hF 45 41 dX10_countWays_38 (by decide) rfl (fun hF => ?_) (fun hF => ?_)
        · refine w_iconst X 1 dX10_countWays_41 rfl 42 rfl ?_
          refine w_goto X 52 dX10_countWays_42 (by decide) ?_
          refine w_keep [1, 2, 3, 4] rfl ?_
          exact w_52 (K_X10_countWays_9 fu w r1 r2 i2 n) ih x3 1 x_3 mem hF
        · refine w_aload_n X 1 dX10_countWays_45 rfl rfl 46 rfl ?_
          refine w_aload_n X 2 dX10_countWays_46 rfl rfl 47 rfl ?_
          refine w_iload X 0 dX10_countWays_47 rfl 49 rfl ?_
          refine w_callVi (fun x => x) (fun _ => mem) X hZ hF [.ref (ad (pBoard r1)), .int x_3] (pWays w) (lt_Ways hw) (ko_Ways hw) rfl rfl rfl kB_X10_sumOfNearer kL_X10_71 (fun res h => ct_X10_sumOfNearer l hZ hO fu hw hr1 x_3 mem res h) rfl rfl rfl ⟨Nat.le_of_ble_eq_true rfl, Nat.le_of_ble_eq_true rfl⟩ (Nat.le_of_ble_eq_true rfl) ⟨Nat.zero_le _, Nat.zero_le _⟩ dX10_countWays_49 52 rfl (fun x_5 hF => ?_)
          refine w_keep [1, 2, 3, 4] rfl ?_
          exact w_52 (K_X10_countWays_9 fu w r1 r2 i2 n) ih x3 x_5 x_3 mem hF
      · refine w_aload_n X 0 dX10_countWays_59 rfl rfl 60 rfl ?_
        refine w_getV (v := .ref (ad (pDist w))) X (pWays w) (lt_Ways hw) (ko_Ways hw) (T := TX10) (N := 4) rfl in_X10 0 (by decide) kF_X10_9 rfl rfl dX10_countWays_60 63 rfl ?_
        refine w_aload_n X 2 dX10_countWays_63 rfl rfl 64 rfl ?_
        refine w_getV (v := .int (rd mem (pPawn r2 i2) 0)) X (pPawn r2 i2) (lt_Pawn hr2 hi2) (ko_Pawn hi2) (T := TX4) (N := 6) rfl in_X4 0 (by decide) kF_X10_60 rfl rfl dX10_countWays_64 67 rfl ?_
        refine w_gi hF (fun h_6 hF => ?_)
        refine w_ial X (pDist w) (lt_Dist hw) (ko_Dist hw) (t0 := 0) rfl h_6 dX10_countWays_67 68 rfl ?_
        refine w_iconst X (-1) dX10_countWays_68 rfl 69 rfl ?_
        refine w_icmp_ne X hF 76 72 dX10_countWays_69 (by decide) rfl (fun hF => ?_) (fun hF => ?_)
        · refine w_iconst X 0 dX10_countWays_72 rfl 73 rfl ?_
          refine w_goto X 85 dX10_countWays_73 (by decide) ?_
          exact w_iret X hQ (o_inj1 hF) (o_inj2 hF) rfl dX10_countWays_85
        · refine w_aload_n X 0 dX10_countWays_76 rfl rfl 77 rfl ?_
          refine w_getV (v := .ref (ad (pNumb w))) X (pWays w) (lt_Ways hw) (ko_Ways hw) (T := TX10) (N := 4) rfl in_X10 3 (by decide) kF_X10_18 rfl rfl dX10_countWays_77 80 rfl ?_
          refine w_aload_n X 2 dX10_countWays_80 rfl rfl 81 rfl ?_
          refine w_getV (v := .int (rd mem (pPawn r2 i2) 0)) X (pPawn r2 i2) (lt_Pawn hr2 hi2) (ko_Pawn hi2) (T := TX4) (N := 6) rfl in_X4 0 (by decide) kF_X10_60 rfl rfl dX10_countWays_81 84 rfl ?_
          refine w_gi hF (fun h_7 hF => ?_)
          refine w_ial X (pNumb w) (lt_Numb hw) (ko_Numb hw) (t0 := 0) rfl h_7 dX10_countWays_84 85 rfl ?_
          exact w_iret X hQ (o_inj1 hF) (o_inj2 hF) rfl dX10_countWays_85
  intro hF
  refine w_aload_n X 0 dX10_countWays_0 rfl rfl 1 rfl ?_
  refine w_aload_n X 1 dX10_countWays_1 rfl rfl 2 rfl ?_
  refine w_aload_n X 2 dX10_countWays_2 rfl rfl 3 rfl ?_
  refine w_callVi (fun x => x.1) (fun x => x.2) X hZ hF [.ref (ad (pBoard r1)), .ref (ad (pPawn r2 i2))] (pWays w) (lt_Ways hw) (ko_Ways hw) rfl rfl rfl kB_X10_measure kL_X10_67 (fun res h => ct_X10_measure l hZ hO fu hw hr1 hr2 hi2 mem res h) rfl rfl rfl ⟨Nat.le_of_ble_eq_true rfl, Nat.le_of_ble_eq_true rfl⟩ (Nat.le_of_ble_eq_true rfl) ⟨Nat.zero_le _, Nat.zero_le _⟩ dX10_countWays_3 6 rfl (fun p_1 hF => ?_)
  refine w_pop X dX10_countWays_6 rfl 7 rfl ?_
  refine w_iconst X 0 dX10_countWays_7 rfl 8 rfl ?_
  refine w_istore_n X [(3, .int 0), (0, .ref (ad (pWays w))), (1, .ref (ad (pBoard r1))), (2, .ref (ad (pPawn r2 i2)))] dX10_countWays_8 rfl (by decide) rfl 9 rfl ?_
  refine w_keep [1, 2, 3, 0] rfl ?_
  exact w_9 fu 0 p_1.2 hF

def K_X5_markTrail_55 (fu : Nat) (r1 : Nat) (k_18 : Int32 → Int32 → Int32 → Mem → Option Mem) (x2 : Int32) (x3 : Int32) (x4 : Int32) (x5 : Int32) (mem : Mem) : Option Mem := (if x5 = 4 then some mem else gi ((x2 * 81) + x3) 324 (gi ((x2 * 81) + x3) 324 (lt_ (mw mem 18 (Int32.toNatClampNeg ((x2 * 81) + x3)) ((rd mem 18 (Int32.toNatClampNeg ((x2 * 81) + x3))) ||| (1 <<< (x5 &&& 31)))) (fun m_8 => gi x5 4 (lt_ (x3 + (offV (Int32.toNatClampNeg x5))) (fun x_10 => gi ((x2 * 81) + x_10) 324 (gi ((x2 * 81) + x_10) 324 (lt_ (mw m_8 18 (Int32.toNatClampNeg ((x2 * 81) + x_10)) ((rd m_8 18 (Int32.toNatClampNeg ((x2 * 81) + x_10))) ||| (1 <<< ((x5 ^^^ 2) &&& 31)))) (fun m_13 => (k_18 x2 x_10 (x4 + (-1)) m_13))))))))))
def K_X5_markTrail_26 (fu : Nat) (r1 : Nat) (k_18 : Int32 → Int32 → Int32 → Mem → Option Mem) : Nat → Int32 → Int32 → Int32 → Int32 → Mem → Option Mem
  | 0, _, _, _, _, _ => none
  | n + 1, x2, x3, x4, x5, mem => (if x5 < 4 then bd (K_X10_isNearer fu 0 r1 x3 x5 mem) (fun x_5 => (if x_5 = 0 then (K_X5_markTrail_26 fu r1 k_18 n x2 x3 x4 (x5 + 1) mem) else (K_X5_markTrail_55 fu r1 k_18 x2 x3 x4 x5 mem))) else (K_X5_markTrail_55 fu r1 k_18 x2 x3 x4 x5 mem))
def K_X5_markTrail_18 (fu : Nat) (r1 : Nat) : Nat → Int32 → Int32 → Int32 → Mem → Option Mem
  | 0, _, _, _, _ => none
  | n + 1, x2, x3, x4, mem => (if 0 < x4 then (K_X5_markTrail_26 fu r1 (K_X5_markTrail_18 fu r1 n) fu x2 x3 x4 0 mem) else some mem)
def K_X5_markTrail (fu : Nat) (r1 : Nat) (x2 : Int32) (mem : Mem) : Option Mem := gi x2 4 (lt_ (rd mem (pPawn r1 (Int32.toNatClampNeg x2)) 0) (fun x_2 => gi x2 4 (lt_ (rd mem 19 (Int32.toNatClampNeg x2)) (fun x_4 => (K_X5_markTrail_18 fu r1 fu x2 x_2 x_4 mem)))))
def rm_X5_markTrail : Room := { frames := 1, cells := 0, slots := 0, locals := 25 }
set_option maxHeartbeats 4000000 in
set_option maxRecDepth 100000 in
theorem ct_X5_markTrail (l : Launch) {D : va_G} {ca ad : Nat → Nat} {Z : (Nat → Prop) → State → Heap → Prop} (hZ : ZOK Z) {tO : Nat} {sK sV : Nat → Nat} (hO : ZO Z tO sK sV) (fu : Nat) {r1 : Nat} (hr1 : r1 < 10) (x2 : Int32) (mem : Mem) (res : Mem) (hF : K_X5_markTrail fu r1 x2 mem = some res) : CV l D (tyL ca) 255 ad (cC ca ad) Z yX5_markTrail cX5_markTrail 6 rm_X5_markTrail [.ref (ad 17), .ref (ad (pRace r1)), .int x2] mem res := by
  refine start_v (own := RX5) rfl (by decide) (Nat.le_of_ble_eq_true rfl) ?_
  intro p e s m args below meth c Q hQ X
  rw [K_X5_markTrail] at hF
  revert hF
  have w_55 : ∀ (k_18 : Int32 → Int32 → Int32 → Mem → Option Mem) (hk_18 : ∀ (x2 : Int32) (x3 : Int32) (x4 : Int32) (mem : Mem), k_18 x2 x3 x4 mem = some res → WW D 255 ad (cC ca ad) p l e rm_X5_markTrail s m args below meth c 6 0 0 Q mem 18 [(0, .ref (ad 17)), (1, .ref (ad (pRace r1))), (2, .int x2), (3, .int x3), (4, .int x4)] []) (x2 : Int32) (x3 : Int32) (x4 : Int32) (x5 : Int32) (mem : Mem), K_X5_markTrail_55 fu r1 k_18 x2 x3 x4 x5 mem = some res → WW D 255 ad (cC ca ad) p l e rm_X5_markTrail s m args below meth c 6 0 0 Q mem 55 [(0, .ref (ad 17)), (1, .ref (ad (pRace r1))), (2, .int x2), (3, .int x3), (4, .int x4), (5, .int x5)] [] := by
    intro k_18 hk_18 x2 x3 x4 x5 mem hF
    rw [K_X5_markTrail_55] at hF
    refine w_iload X 5 dX5_markTrail_55 rfl 57 rfl ?_
    refine w_iconst X 4 dX5_markTrail_57 rfl 58 rfl ?_
    refine w_icmp_ne X hF 62 61 dX5_markTrail_58 (by decide) rfl (fun hF => ?_) (fun hF => ?_)
    · exact w_vret X hQ (o_inj hF) dX5_markTrail_61
    · refine w_aload_n X 0 dX5_markTrail_62 rfl rfl 63 rfl ?_
      refine w_getV (v := .ref (ad 18)) X 17 plt_17 ko_17 (T := TX5) (N := 7) rfl in_X5 1 (by decide) kF_X5_18 rfl rfl dX5_markTrail_63 66 rfl ?_
      refine w_iload_n X 2 dX5_markTrail_66 rfl rfl 67 rfl ?_
      refine w_bipush X 81 dX5_markTrail_67 rfl 69 rfl ?_
      refine w_imul X dX5_markTrail_69 70 rfl ?_
      refine w_iload_n X 3 dX5_markTrail_70 rfl rfl 71 rfl ?_
      refine w_iadd X dX5_markTrail_71 72 rfl ?_
      refine w_dup2 X dX5_markTrail_72 rfl rfl 73 rfl ?_
      refine w_gi hF (fun h_6 hF => ?_)
      refine w_ial X 18 plt_18 ko_18 (t0 := 0) rfl h_6 dX5_markTrail_73 74 rfl ?_
      refine w_iconst X 1 dX5_markTrail_74 rfl 75 rfl ?_
      refine w_iload X 5 dX5_markTrail_75 rfl 77 rfl ?_
      refine w_ishl X dX5_markTrail_77 78 rfl ?_
      refine w_ior X dX5_markTrail_78 79 rfl ?_
      refine w_gi hF (fun h_7 hF => ?_)
      refine w_ias X 18 plt_18 ko_18 (t0 := 0) rfl h_7 dX5_markTrail_79 80 rfl ?_
      refine w_letm hF (fun m_8 hF => ?_)
      refine w_iload_n X 3 dX5_markTrail_80 rfl rfl 81 rfl ?_
      refine w_offs X hO (hO _ _ _ X.2.2.2.2.2).1.2.2.2.2.1 dX5_markTrail_81 84 rfl ?_
      refine w_iload X 5 dX5_markTrail_84 rfl 86 rfl ?_
      refine w_gi hF (fun h_9 hF => ?_)
      refine w_offl X hO h_9 dX5_markTrail_86 87 rfl ?_
      refine w_iadd X dX5_markTrail_87 88 rfl ?_
      refine w_let hF (fun x_10 hF => ?_)
      refine w_istore_n X [(3, .int x_10), (0, .ref (ad 17)), (1, .ref (ad (pRace r1))), (2, .int x2), (4, .int x4), (5, .int x5)] dX5_markTrail_88 rfl (by decide) rfl 89 rfl ?_
      refine w_aload_n X 1 dX5_markTrail_89 rfl rfl 90 rfl ?_
      refine w_getV (v := .ref (ad 18)) X 17 plt_17 ko_17 (T := TX5) (N := 7) rfl in_X5 1 (by decide) kF_X5_18 rfl rfl dX5_markTrail_90 93 rfl ?_
      refine w_iload_n X 3 dX5_markTrail_93 rfl rfl 94 rfl ?_
      refine w_bipush X 81 dX5_markTrail_94 rfl 96 rfl ?_
      refine w_imul X dX5_markTrail_96 97 rfl ?_
      refine w_iload_n X 0 dX5_markTrail_97 rfl rfl 98 rfl ?_
      refine w_iadd X dX5_markTrail_98 99 rfl ?_
      refine w_dup2 X dX5_markTrail_99 rfl rfl 100 rfl ?_
      refine w_gi hF (fun h_11 hF => ?_)
      refine w_ial X 18 plt_18 ko_18 (t0 := 0) rfl h_11 dX5_markTrail_100 101 rfl ?_
      refine w_iconst X 1 dX5_markTrail_101 rfl 102 rfl ?_
      refine w_iload X 5 dX5_markTrail_102 rfl 104 rfl ?_
      refine w_iconst X 2 dX5_markTrail_104 rfl 105 rfl ?_
      refine w_ixor X dX5_markTrail_105 106 rfl ?_
      refine w_ishl X dX5_markTrail_106 107 rfl ?_
      refine w_ior X dX5_markTrail_107 108 rfl ?_
      refine w_gi hF (fun h_12 hF => ?_)
      refine w_ias X 18 plt_18 ko_18 (t0 := 0) rfl h_12 dX5_markTrail_108 109 rfl ?_
      refine w_letm hF (fun m_13 hF => ?_)
      refine w_iinc X 4 (x4 + (-1)) [(4, .int (x4 + (-1))), (3, .int x_10), (0, .ref (ad 17)), (1, .ref (ad (pRace r1))), (2, .int x2), (5, .int x5)] dX5_markTrail_109 rfl rfl (by decide) rfl 112 rfl ?_
      refine w_goto X 18 dX5_markTrail_112 (by decide) ?_
      refine w_keep [2, 3, 4, 1, 0] rfl ?_
      exact hk_18 x2 x_10 (x4 + (-1)) m_13 hF
  have w_26 : ∀ (k_18 : Int32 → Int32 → Int32 → Mem → Option Mem) (hk_18 : ∀ (x2 : Int32) (x3 : Int32) (x4 : Int32) (mem : Mem), k_18 x2 x3 x4 mem = some res → WW D 255 ad (cC ca ad) p l e rm_X5_markTrail s m args below meth c 6 0 0 Q mem 18 [(0, .ref (ad 17)), (1, .ref (ad (pRace r1))), (2, .int x2), (3, .int x3), (4, .int x4)] []) (n : Nat) (x2 : Int32) (x3 : Int32) (x4 : Int32) (x5 : Int32) (mem : Mem), K_X5_markTrail_26 fu r1 k_18 n x2 x3 x4 x5 mem = some res → WW D 255 ad (cC ca ad) p l e rm_X5_markTrail s m args below meth c 6 0 0 Q mem 26 [(0, .ref (ad 17)), (1, .ref (ad (pRace r1))), (2, .int x2), (3, .int x3), (4, .int x4), (5, .int x5)] [] := by
    intro k_18 hk_18 n
    induction n with
    | zero => intro x2 x3 x4 x5 mem hF; exact no_none (show (none : Option Mem) = some res from hF)
    | succ n ih =>
      intro x2 x3 x4 x5 mem hF
      rw [K_X5_markTrail_26] at hF
      refine w_iload X 5 dX5_markTrail_26 rfl 28 rfl ?_
      refine w_iconst X 4 dX5_markTrail_28 rfl 29 rfl ?_
      refine w_icmp_ge X hF 55 32 dX5_markTrail_29 (by decide) rfl (fun hF => ?_) (fun hF => ?_)
      · refine w_aload_n X 0 dX5_markTrail_32 rfl rfl 33 rfl ?_
        refine w_getV (v := .ref (ad (pWays 0))) X 17 plt_17 ko_17 (T := TX5) (N := 7) rfl in_X5 0 (by decide) kF_X5_12 rfl rfl dX5_markTrail_33 36 rfl ?_
        refine w_aload_n X 1 dX5_markTrail_36 rfl rfl 37 rfl ?_
        refine w_getV (v := .ref (ad (pBoard r1))) X (pRace r1) (lt_Race hr1) ko_Race (T := TX6) (N := 8) rfl in_X6 0 (by decide) kF_X5_31 rfl rfl dX5_markTrail_37 40 rfl ?_
        refine w_iload_n X 3 dX5_markTrail_40 rfl rfl 41 rfl ?_
        refine w_iload X 5 dX5_markTrail_41 rfl 43 rfl ?_
        refine w_callVi (fun x => x) (fun _ => mem) X hZ hF [.ref (ad (pBoard r1)), .int x3, .int x5] (pWays 0) (lt_Ways (by decide)) (ko_Ways (by decide)) rfl rfl rfl kB_X10_isNearer kL_X5_94 (fun res h => ct_X10_isNearer l hZ hO fu (by decide) hr1 x3 x5 mem res h) rfl rfl rfl ⟨Nat.le_of_ble_eq_true rfl, Nat.le_of_ble_eq_true rfl⟩ (Nat.le_of_ble_eq_true rfl) ⟨Nat.zero_le _, Nat.zero_le _⟩ dX5_markTrail_43 46 rfl (fun x_5 hF => ?_)
        refine w_if_ne X hF 55 49 dX5_markTrail_46 (by decide) rfl (fun hF => ?_) (fun hF => ?_)
        · refine w_iinc X 5 (x5 + 1) [(5, .int (x5 + 1)), (0, .ref (ad 17)), (1, .ref (ad (pRace r1))), (2, .int x2), (3, .int x3), (4, .int x4)] dX5_markTrail_49 rfl rfl (by decide) rfl 52 rfl ?_
          refine w_goto X 26 dX5_markTrail_52 (by decide) ?_
          refine w_keep [1, 2, 3, 4, 5, 0] rfl ?_
          exact ih x2 x3 x4 (x5 + 1) mem hF
        · refine w_keep [0, 1, 2, 3, 4, 5] rfl ?_
          exact w_55 k_18 hk_18 x2 x3 x4 x5 mem hF
      · refine w_keep [0, 1, 2, 3, 4, 5] rfl ?_
        exact w_55 k_18 hk_18 x2 x3 x4 x5 mem hF
  have w_18 : ∀ (n : Nat) (x2 : Int32) (x3 : Int32) (x4 : Int32) (mem : Mem), K_X5_markTrail_18 fu r1 n x2 x3 x4 mem = some res → WW D 255 ad (cC ca ad) p l e rm_X5_markTrail s m args below meth c 6 0 0 Q mem 18 [(0, .ref (ad 17)), (1, .ref (ad (pRace r1))), (2, .int x2), (3, .int x3), (4, .int x4)] [] := by
    intro n
    induction n with
    | zero => intro x2 x3 x4 mem hF; exact no_none (show (none : Option Mem) = some res from hF)
    | succ n ih =>
      intro x2 x3 x4 mem hF
      rw [K_X5_markTrail_18] at hF
      refine w_iload X 4 dX5_markTrail_18 rfl 20 rfl ?_
      refine w_if_le X hF 115 23 dX5_markTrail_20 (by decide) rfl (fun hF => ?_) (fun hF => ?_)
      · refine w_iconst X 0 dX5_markTrail_23 rfl 24 rfl ?_
        refine w_istore X [(5, .int 0), (0, .ref (ad 17)), (1, .ref (ad (pRace r1))), (2, .int x2), (3, .int x3), (4, .int x4)] dX5_markTrail_24 (by decide) rfl 26 rfl ?_
        refine w_keep [1, 2, 3, 4, 5, 0] rfl ?_
        exact w_26 (K_X5_markTrail_18 fu r1 n) ih fu x2 x3 x4 0 mem hF
      · exact w_vret X hQ (o_inj hF) dX5_markTrail_115
  intro hF
  refine w_aload_n X 1 dX5_markTrail_0 rfl rfl 1 rfl ?_
  refine w_getV (v := .ref (ad (pPawns r1))) X (pRace r1) (lt_Race hr1) ko_Race (T := TX6) (N := 8) rfl in_X6 1 (by decide) kF_X5_35 rfl rfl dX5_markTrail_1 4 rfl ?_
  refine w_iload_n X 2 dX5_markTrail_4 rfl rfl 5 rfl ?_
  refine w_gi hF (fun h_1 hF => ?_)
  refine w_aal X (pPawns r1) (lt_Pawns hr1) (pPawn r1 (Int32.toNatClampNeg x2)) ko_Pawns (t0 := 2) rfl h_1 (el_Pawns (vp_lt h_1)) dX5_markTrail_5 6 rfl ?_
  refine w_getV (v := .int (rd mem (pPawn r1 (Int32.toNatClampNeg x2)) 0)) X (pPawn r1 (Int32.toNatClampNeg x2)) (lt_Pawn hr1 (vp_lt h_1)) (ko_Pawn (vp_lt h_1)) (T := TX4) (N := 6) rfl in_X4 0 (by decide) kF_X5_83 rfl rfl dX5_markTrail_6 9 rfl ?_
  refine w_let hF (fun x_2 hF => ?_)
  refine w_istore_n X [(3, .int x_2), (0, .ref (ad 17)), (1, .ref (ad (pRace r1))), (2, .int x2)] dX5_markTrail_9 rfl (by decide) rfl 10 rfl ?_
  refine w_aload_n X 1 dX5_markTrail_10 rfl rfl 11 rfl ?_
  refine w_getV (v := .ref (ad 19)) X 17 plt_17 ko_17 (T := TX5) (N := 7) rfl in_X5 2 (by decide) kF_X5_22 rfl rfl dX5_markTrail_11 14 rfl ?_
  refine w_iload_n X 3 dX5_markTrail_14 rfl rfl 15 rfl ?_
  refine w_gi hF (fun h_3 hF => ?_)
  refine w_ial X 19 plt_19 ko_19 (t0 := 0) rfl h_3 dX5_markTrail_15 16 rfl ?_
  refine w_let hF (fun x_4 hF => ?_)
  refine w_istore X [(4, .int x_4), (3, .int x_2), (0, .ref (ad 17)), (1, .ref (ad (pRace r1))), (2, .int x2)] dX5_markTrail_16 (by decide) rfl 18 rfl ?_
  refine w_keep [2, 3, 4, 1, 0] rfl ?_
  exact w_18 fu x2 x_2 x_4 mem hF

def K_X5_markTrails_10 (fu : Nat) (r1 : Nat) : Nat → Int32 → Mem → Option Mem
  | 0, _, _ => none
  | n + 1, x2, mem => (if x2 < (rd mem (pRace r1) 2) then gi x2 4 (gi x2 4 (bd (K_X10_spread fu 0 r1 (rd mem (pPawn r1 (Int32.toNatClampNeg x2)) 1) (-1) (rd mem (pPawn r1 (Int32.toNatClampNeg x2)) 0) mem) (fun p_4 => gi x2 4 (lt_ (mw p_4.2 19 (Int32.toNatClampNeg x2) p_4.1) (fun m_6 => bd (K_X5_markTrail fu r1 x2 m_6) (fun m_7 => (K_X5_markTrails_10 fu r1 n (x2 + 1) m_7))))))) else some mem)
def K_X5_markTrails (fu : Nat) (r1 : Nat) (mem : Mem) : Option Mem := bd (K_J7_fill_53178 fu 18 324 0 mem) (fun m_1 => (K_X5_markTrails_10 fu r1 fu 0 m_1))
def rm_X5_markTrails : Room := { frames := 2, cells := 0, slots := 0, locals := 55 }
set_option maxHeartbeats 4000000 in
set_option maxRecDepth 100000 in
theorem ct_X5_markTrails (l : Launch) {D : va_G} {ca ad : Nat → Nat} {Z : (Nat → Prop) → State → Heap → Prop} (hZ : ZOK Z) {tO : Nat} {sK sV : Nat → Nat} (hO : ZO Z tO sK sV) (fu : Nat) {r1 : Nat} (hr1 : r1 < 10) (mem : Mem) (res : Mem) (hF : K_X5_markTrails fu r1 mem = some res) : CV l D (tyL ca) 255 ad (cC ca ad) Z yX5_markTrails cX5_markTrails 3 rm_X5_markTrails [.ref (ad 17), .ref (ad (pRace r1))] mem res := by
  refine start_v (own := RX5) rfl (by decide) (Nat.le_of_ble_eq_true rfl) ?_
  intro p e s m args below meth c Q hQ X
  rw [K_X5_markTrails] at hF
  revert hF
  have w_10 : ∀ (n : Nat) (x2 : Int32) (mem : Mem), K_X5_markTrails_10 fu r1 n x2 mem = some res → WW D 255 ad (cC ca ad) p l e rm_X5_markTrails s m args below meth c 3 0 0 Q mem 10 [(0, .ref (ad 17)), (1, .ref (ad (pRace r1))), (2, .int x2)] [] := by
    intro n
    induction n with
    | zero => intro x2 mem hF; exact no_none (show (none : Option Mem) = some res from hF)
    | succ n ih =>
      intro x2 mem hF
      rw [K_X5_markTrails_10] at hF
      refine w_iload_n X 2 dX5_markTrails_10 rfl rfl 11 rfl ?_
      refine w_aload_n X 1 dX5_markTrails_11 rfl rfl 12 rfl ?_
      refine w_getV (v := .int (rd mem (pRace r1) 2)) X (pRace r1) (lt_Race hr1) ko_Race (T := TX6) (N := 8) rfl in_X6 2 (by decide) kF_X5_25 rfl rfl dX5_markTrails_12 15 rfl ?_
      refine w_icmp_ge X hF 66 18 dX5_markTrails_15 (by decide) rfl (fun hF => ?_) (fun hF => ?_)
      · refine w_aload_n X 0 dX5_markTrails_18 rfl rfl 19 rfl ?_
        refine w_getV (v := .ref (ad 19)) X 17 plt_17 ko_17 (T := TX5) (N := 7) rfl in_X5 2 (by decide) kF_X5_22 rfl rfl dX5_markTrails_19 22 rfl ?_
        refine w_iload_n X 2 dX5_markTrails_22 rfl rfl 23 rfl ?_
        refine w_aload_n X 0 dX5_markTrails_23 rfl rfl 24 rfl ?_
        refine w_getV (v := .ref (ad (pWays 0))) X 17 plt_17 ko_17 (T := TX5) (N := 7) rfl in_X5 0 (by decide) kF_X5_12 rfl rfl dX5_markTrails_24 27 rfl ?_
        refine w_aload_n X 1 dX5_markTrails_27 rfl rfl 28 rfl ?_
        refine w_getV (v := .ref (ad (pBoard r1))) X (pRace r1) (lt_Race hr1) ko_Race (T := TX6) (N := 8) rfl in_X6 0 (by decide) kF_X5_31 rfl rfl dX5_markTrails_28 31 rfl ?_
        refine w_aload_n X 1 dX5_markTrails_31 rfl rfl 32 rfl ?_
        refine w_getV (v := .ref (ad (pPawns r1))) X (pRace r1) (lt_Race hr1) ko_Race (T := TX6) (N := 8) rfl in_X6 1 (by decide) kF_X5_35 rfl rfl dX5_markTrails_32 35 rfl ?_
        refine w_iload_n X 2 dX5_markTrails_35 rfl rfl 36 rfl ?_
        refine w_gi hF (fun h_2 hF => ?_)
        refine w_aal X (pPawns r1) (lt_Pawns hr1) (pPawn r1 (Int32.toNatClampNeg x2)) ko_Pawns (t0 := 2) rfl h_2 (el_Pawns (vp_lt h_2)) dX5_markTrails_36 37 rfl ?_
        refine w_getV (v := .int (rd mem (pPawn r1 (Int32.toNatClampNeg x2)) 1)) X (pPawn r1 (Int32.toNatClampNeg x2)) (lt_Pawn hr1 (vp_lt h_2)) (ko_Pawn (vp_lt h_2)) (T := TX4) (N := 6) rfl in_X4 1 (by decide) kF_X5_80 rfl rfl dX5_markTrails_37 40 rfl ?_
        refine w_iconst X (-1) dX5_markTrails_40 rfl 41 rfl ?_
        refine w_aload_n X 1 dX5_markTrails_41 rfl rfl 42 rfl ?_
        refine w_getV (v := .ref (ad (pPawns r1))) X (pRace r1) (lt_Race hr1) ko_Race (T := TX6) (N := 8) rfl in_X6 1 (by decide) kF_X5_35 rfl rfl dX5_markTrails_42 45 rfl ?_
        refine w_iload_n X 2 dX5_markTrails_45 rfl rfl 46 rfl ?_
        refine w_gi hF (fun h_3 hF => ?_)
        refine w_aal X (pPawns r1) (lt_Pawns hr1) (pPawn r1 (Int32.toNatClampNeg x2)) ko_Pawns (t0 := 2) rfl h_3 (el_Pawns (vp_lt h_3)) dX5_markTrails_46 47 rfl ?_
        refine w_getV (v := .int (rd mem (pPawn r1 (Int32.toNatClampNeg x2)) 0)) X (pPawn r1 (Int32.toNatClampNeg x2)) (lt_Pawn hr1 (vp_lt h_3)) (ko_Pawn (vp_lt h_3)) (T := TX4) (N := 6) rfl in_X4 0 (by decide) kF_X5_83 rfl rfl dX5_markTrails_47 50 rfl ?_
        refine w_callVi (fun x => x.1) (fun x => x.2) X hZ hF [.ref (ad (pBoard r1)), .int (rd mem (pPawn r1 (Int32.toNatClampNeg x2)) 1), .int (-1), .int (rd mem (pPawn r1 (Int32.toNatClampNeg x2)) 0)] (pWays 0) (lt_Ways (by decide)) (ko_Ways (by decide)) rfl rfl rfl kB_X10_spread kL_X5_86 (fun res h => ct_X10_spread l hZ hO fu (by decide) hr1 (rd mem (pPawn r1 (Int32.toNatClampNeg x2)) 1) (-1) (rd mem (pPawn r1 (Int32.toNatClampNeg x2)) 0) mem res h) rfl rfl rfl ⟨Nat.le_of_ble_eq_true rfl, Nat.le_of_ble_eq_true rfl⟩ (Nat.le_of_ble_eq_true rfl) ⟨Nat.zero_le _, Nat.zero_le _⟩ dX5_markTrails_50 53 rfl (fun p_4 hF => ?_)
        refine w_gi hF (fun h_5 hF => ?_)
        refine w_ias X 19 plt_19 ko_19 (t0 := 0) rfl h_5 dX5_markTrails_53 54 rfl ?_
        refine w_letm hF (fun m_6 hF => ?_)
        refine w_aload_n X 0 dX5_markTrails_54 rfl rfl 55 rfl ?_
        refine w_aload_n X 1 dX5_markTrails_55 rfl rfl 56 rfl ?_
        refine w_iload_n X 2 dX5_markTrails_56 rfl rfl 57 rfl ?_
        refine w_callVv (fun m => m) X hZ hF [.ref (ad (pRace r1)), .int x2] 17 plt_17 ko_17 rfl rfl rfl kB_X5_markTrail kL_X5_90 (fun res h => ct_X5_markTrail l hZ hO fu hr1 x2 m_6 res h) rfl rfl rfl ⟨Nat.le_of_ble_eq_true rfl, Nat.le_of_ble_eq_true rfl⟩ (Nat.le_of_ble_eq_true rfl) ⟨Nat.zero_le _, Nat.zero_le _⟩ dX5_markTrails_57 60 rfl (fun m_7 hF => ?_)
        refine w_iinc X 2 (x2 + 1) [(2, .int (x2 + 1)), (0, .ref (ad 17)), (1, .ref (ad (pRace r1)))] dX5_markTrails_60 rfl rfl (by decide) rfl 63 rfl ?_
        refine w_goto X 10 dX5_markTrails_63 (by decide) ?_
        refine w_keep [1, 2, 0] rfl ?_
        exact ih (x2 + 1) m_7 hF
      · exact w_vret X hQ (o_inj hF) dX5_markTrails_66
  intro hF
  refine w_aload_n X 0 dX5_markTrails_0 rfl rfl 1 rfl ?_
  refine w_getV (v := .ref (ad 18)) X 17 plt_17 ko_17 (T := TX5) (N := 7) rfl in_X5 1 (by decide) kF_X5_18 rfl rfl dX5_markTrails_1 4 rfl ?_
  refine w_iconst X 0 dX5_markTrails_4 rfl 5 rfl ?_
  refine w_callSv (fun m => m) X hZ hF [.ref (ad 18), .int 0] rfl kB_J7_fill_53178 kL_X5_74 (fun res h => ct_J7_fill_53178 l hZ hO fu plt_18 ko_18 0 mem res h) rfl rfl rfl ⟨Nat.le_of_ble_eq_true rfl, Nat.le_of_ble_eq_true rfl⟩ (Nat.le_of_ble_eq_true rfl) ⟨Nat.zero_le _, Nat.zero_le _⟩ dX5_markTrails_5 8 rfl (fun m_1 hF => ?_)
  refine w_iconst X 0 dX5_markTrails_8 rfl 9 rfl ?_
  refine w_istore_n X [(2, .int 0), (0, .ref (ad 17)), (1, .ref (ad (pRace r1)))] dX5_markTrails_9 rfl (by decide) rfl 10 rfl ?_
  refine w_keep [1, 2, 0] rfl ?_
  exact w_10 fu 0 m_1 hF
end Kc0
