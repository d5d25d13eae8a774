section Km1
def K_X12_here (fu : Nat) (x1 : Int32) (mem : Mem) : Option Int32 := (if ((rd mem 0 4) + x1) < (rd mem 0 3) then gi ((rd mem 0 4) + x1) 700 (some (rd mem 1 (Int32.toNatClampNeg ((rd mem 0 4) + x1)))) else some (-1))
def rm_X12_here : Room := { frames := 0, cells := 0, slots := 0, locals := 0 }
set_option maxHeartbeats 4000000 in
set_option maxRecDepth 100000 in
theorem ct_X12_here (l : Launch) {D : va_G} {ca ad : Nat → Nat} {Z : (Nat → Prop) → State → Heap → Prop} (hZ : ZOK Z) (fu : Nat) (x1 : Int32) (mem : Mem) (res : Int32) (hF : K_X12_here fu x1 mem = some res) : CI l D (tyL ca) 23 ad (cM ca ad) Z yX12_here cX12_here 2 .int rm_X12_here [.ref (ad 0), .int x1] mem res mem := by
  refine start_i (own := RX12) rfl (by decide) (Nat.le_of_ble_eq_true rfl) ?_
  intro p e s m args below meth c Q hQ X
  rw [K_X12_here] at hF
  revert hF
  intro hF
  refine w_aload_n X 0 dX12_here_0 rfl rfl 1 rfl ?_
  refine w_getV (v := .int (rd mem 0 4)) X 0 ml_0 mo_0 (T := TX12) (N := 50) rfl in_X12 4 (by decide) kF_X12_110 rfl rfl dX12_here_1 4 rfl ?_
  refine w_iload_n X 1 dX12_here_4 rfl rfl 5 rfl ?_
  refine w_iadd X dX12_here_5 6 rfl ?_
  refine w_aload_n X 0 dX12_here_6 rfl rfl 7 rfl ?_
  refine w_getV (v := .int (rd mem 0 3)) X 0 ml_0 mo_0 (T := TX12) (N := 50) rfl in_X12 3 (by decide) kF_X12_113 rfl rfl dX12_here_7 10 rfl ?_
  refine w_icmp_ge X hF 27 13 dX12_here_10 (by decide) rfl (fun hF => ?_) (fun hF => ?_)
  · refine w_aload_n X 0 dX12_here_13 rfl rfl 14 rfl ?_
    refine w_getV (v := .ref (ad 1)) X 0 ml_0 mo_0 (T := TX12) (N := 50) rfl in_X12 1 (by decide) kF_X12_7 rfl rfl dX12_here_14 17 rfl ?_
    refine w_aload_n X 0 dX12_here_17 rfl rfl 18 rfl ?_
    refine w_getV (v := .int (rd mem 0 4)) X 0 ml_0 mo_0 (T := TX12) (N := 50) rfl in_X12 4 (by decide) kF_X12_110 rfl rfl dX12_here_18 21 rfl ?_
    refine w_iload_n X 1 dX12_here_21 rfl rfl 22 rfl ?_
    refine w_iadd X dX12_here_22 23 rfl ?_
    refine w_gi hF (fun h_1 hF => ?_)
    refine w_ial X 1 ml_1 mo_1 (t0 := 0) rfl h_1 dX12_here_23 24 rfl ?_
    refine w_goto X 28 dX12_here_24 (by decide) ?_
    exact w_iret X hQ (o_inj hF) rfl rfl dX12_here_28
  · refine w_iconst X (-1) dX12_here_27 rfl 28 rfl ?_
    exact w_iret X hQ (o_inj hF) rfl rfl dX12_here_28

def K_X12_isLetter (fu : Nat) (x0 : Int32) (mem : Mem) : Option Int32 := (if x0 < 97 then some 0 else (if 122 < x0 then some 0 else some 1))
def rm_X12_isLetter : Room := { frames := 0, cells := 0, slots := 0, locals := 0 }
set_option maxHeartbeats 4000000 in
set_option maxRecDepth 100000 in
theorem ct_X12_isLetter (l : Launch) {D : va_G} {ca ad : Nat → Nat} {Z : (Nat → Prop) → State → Heap → Prop} (hZ : ZOK Z) (fu : Nat) (x0 : Int32) (mem : Mem) (res : Int32) (hF : K_X12_isLetter fu x0 mem = some res) : CI l D (tyL ca) 23 ad (cM ca ad) Z yX12_isLetter cX12_isLetter 1 .boolean rm_X12_isLetter [.int x0] mem res mem := by
  refine start_i (own := RX12) rfl (by decide) (Nat.le_of_ble_eq_true rfl) ?_
  intro p e s m args below meth c Q hQ X
  rw [K_X12_isLetter] at hF
  revert hF
  intro hF
  refine w_iload_n X 0 dX12_isLetter_0 rfl rfl 1 rfl ?_
  refine w_bipush X 97 dX12_isLetter_1 rfl 3 rfl ?_
  refine w_icmp_lt X hF 16 6 dX12_isLetter_3 (by decide) rfl (fun hF => ?_) (fun hF => ?_)
  · refine w_iconst X 0 dX12_isLetter_16 rfl 17 rfl ?_
    exact w_iret X hQ (o_inj hF) rfl rfl dX12_isLetter_17
  · refine w_iload_n X 0 dX12_isLetter_6 rfl rfl 7 rfl ?_
    refine w_bipush X 122 dX12_isLetter_7 rfl 9 rfl ?_
    refine w_icmp_gt X hF 16 12 dX12_isLetter_9 (by decide) rfl (fun hF => ?_) (fun hF => ?_)
    · refine w_iconst X 0 dX12_isLetter_16 rfl 17 rfl ?_
      exact w_iret X hQ (o_inj hF) rfl rfl dX12_isLetter_17
    · refine w_iconst X 1 dX12_isLetter_12 rfl 13 rfl ?_
      refine w_goto X 17 dX12_isLetter_13 (by decide) ?_
      exact w_iret X hQ (o_inj hF) rfl rfl dX12_isLetter_17

def K_X12_isDigit (fu : Nat) (x0 : Int32) (mem : Mem) : Option Int32 := (if x0 < 48 then some 0 else (if 57 < x0 then some 0 else some 1))
def rm_X12_isDigit : Room := { frames := 0, cells := 0, slots := 0, locals := 0 }
set_option maxHeartbeats 4000000 in
set_option maxRecDepth 100000 in
theorem ct_X12_isDigit (l : Launch) {D : va_G} {ca ad : Nat → Nat} {Z : (Nat → Prop) → State → Heap → Prop} (hZ : ZOK Z) (fu : Nat) (x0 : Int32) (mem : Mem) (res : Int32) (hF : K_X12_isDigit fu x0 mem = some res) : CI l D (tyL ca) 23 ad (cM ca ad) Z yX12_isDigit cX12_isDigit 1 .boolean rm_X12_isDigit [.int x0] mem res mem := by
  refine start_i (own := RX12) rfl (by decide) (Nat.le_of_ble_eq_true rfl) ?_
  intro p e s m args below meth c Q hQ X
  rw [K_X12_isDigit] at hF
  revert hF
  intro hF
  refine w_iload_n X 0 dX12_isDigit_0 rfl rfl 1 rfl ?_
  refine w_bipush X 48 dX12_isDigit_1 rfl 3 rfl ?_
  refine w_icmp_lt X hF 16 6 dX12_isDigit_3 (by decide) rfl (fun hF => ?_) (fun hF => ?_)
  · refine w_iconst X 0 dX12_isDigit_16 rfl 17 rfl ?_
    exact w_iret X hQ (o_inj hF) rfl rfl dX12_isDigit_17
  · refine w_iload_n X 0 dX12_isDigit_6 rfl rfl 7 rfl ?_
    refine w_bipush X 57 dX12_isDigit_7 rfl 9 rfl ?_
    refine w_icmp_gt X hF 16 12 dX12_isDigit_9 (by decide) rfl (fun hF => ?_) (fun hF => ?_)
    · refine w_iconst X 0 dX12_isDigit_16 rfl 17 rfl ?_
      exact w_iret X hQ (o_inj hF) rfl rfl dX12_isDigit_17
    · refine w_iconst X 1 dX12_isDigit_12 rfl 13 rfl ?_
      refine w_goto X 17 dX12_isDigit_13 (by decide) ?_
      exact w_iret X hQ (o_inj hF) rfl rfl dX12_isDigit_17

def K_X12_goOn_239 (fu : Nat) (x2 : Int32) (mem : Mem) : Option Mem := lt_ (mw mem 0 4 ((rd mem 0 4) + x2)) (fun m_21 => some m_21)
def K_X12_goOn_229 (fu : Nat) (x1 : Int32) (xs0 : Int32) (mem : Mem) : Option Mem := lt_ (mw mem 0 6 xs0) (fun m_11 => lt_ (mw m_11 0 7 x1) (fun m_12 => (K_X12_goOn_239 fu 1 m_12)))
def K_X12_goOn_224 (fu : Nat) (x1 : Int32) (mem : Mem) : Option Mem := (K_X12_goOn_229 fu x1 3 mem)
def K_X12_goOn_199 (fu : Nat) (x2 : Int32) (xs0 : Int32) (mem : Mem) : Option Mem := lt_ (mw mem 0 6 xs0) (fun m_22 => (K_X12_goOn_239 fu x2 m_22))
def K_X12_goOn_146 (fu : Nat) : Nat → Int32 → Mem → Option Mem
  | 0, _, _ => none
  | n + 1, x2, mem => bd (K_X12_here fu x2 mem) (fun x_13 => bd (K_X12_isDigit fu x_13 mem) (fun x_14 => (if x_14 = 0 then (if 3 < x2 then (K_X12_goOn_199 fu x2 4 mem) else (K_X12_goOn_199 fu x2 2 mem)) else (if x2 < 3 then bd (K_X12_here fu x2 mem) (fun x_15 => lt_ (mw mem 0 7 (((10 * (rd mem 0 7)) + x_15) - 48)) (fun m_16 => (K_X12_goOn_146 fu n (x2 + 1) m_16))) else (K_X12_goOn_146 fu n (x2 + 1) mem)))))
def K_X12_goOn_133 (fu : Nat) (x2 : Int32) (xs0 : Int32) (mem : Mem) : Option Mem := lt_ (mw mem 0 6 xs0) (fun m_23 => (K_X12_goOn_239 fu x2 m_23))
def K_X12_goOn_76 (fu : Nat) : Nat → Int32 → Mem → Option Mem
  | 0, _, _ => none
  | n + 1, x2, mem => bd (K_X12_here fu x2 mem) (fun x_17 => bd (K_X12_isLetter fu x_17 mem) (fun x_18 => (if x_18 = 0 then (if 8 < x2 then (K_X12_goOn_133 fu x2 4 mem) else (K_X12_goOn_133 fu x2 1 mem)) else (if x2 < 8 then bd (K_X12_here fu x2 mem) (fun x_19 => lt_ (ml mem 0 12 (((rl mem 0 12) <<< (Int32.toInt64 5 &&& 63)) ||| ((((x_19 - 97) + 1)).toInt64))) (fun m_20 => (K_X12_goOn_76 fu n (x2 + 1) m_20))) else (K_X12_goOn_76 fu n (x2 + 1) mem)))))
def K_X12_goOn_20 (fu : Nat) (k_0 : Mem → Option Mem) (mem : Mem) : Option Mem := lt_ (mw mem 0 4 ((rd mem 0 4) + 1)) (fun m_10 => (k_0 m_10))
def K_X12_goOn_0 (fu : Nat) : Nat → Mem → Option Mem
  | 0, _ => none
  | n + 1, mem => bd (K_X12_here fu 0 mem) (fun x_1 => (if x_1 = 32 then (K_X12_goOn_20 fu (K_X12_goOn_0 fu n) mem) else bd (K_X12_here fu 0 mem) (fun x_2 => (if x_2 = 10 then (K_X12_goOn_20 fu (K_X12_goOn_0 fu n) mem) else lt_ (mw mem 0 5 (rd mem 0 4)) (fun m_3 => lt_ (ml m_3 0 12 0) (fun m_4 => lt_ (mw m_4 0 7 0) (fun m_5 => bd (K_X12_here fu 0 m_5) (fun x_6 => (if x_6 < 0 then lt_ (mw m_5 0 6 0) (fun m_7 => some m_7) else bd (K_X12_isLetter fu x_6 m_5) (fun x_8 => (if x_8 = 0 then bd (K_X12_isDigit fu x_6 m_5) (fun x_9 => (if x_9 = 0 then (if x_6 = 59 then (K_X12_goOn_224 fu x_6 m_5) else (if x_6 = 40 then (K_X12_goOn_224 fu x_6 m_5) else (if x_6 = 41 then (K_X12_goOn_224 fu x_6 m_5) else (K_X12_goOn_229 fu x_6 4 m_5)))) else (K_X12_goOn_146 fu fu 0 m_5))) else (K_X12_goOn_76 fu fu 0 m_5))))))))))))
def K_X12_goOn (fu : Nat) (mem : Mem) : Option Mem := (K_X12_goOn_0 fu fu mem)
def rm_X12_goOn : Room := { frames := 1, cells := 0, slots := 0, locals := 21 }
set_option maxHeartbeats 4000000 in
set_option maxRecDepth 100000 in
theorem ct_X12_goOn (l : Launch) {D : va_G} {ca ad : Nat → Nat} {Z : (Nat → Prop) → State → Heap → Prop} (hZ : ZOK Z) (fu : Nat) (mem : Mem) (res : Mem) (hF : K_X12_goOn fu mem = some res) : CV l D (tyL ca) 23 ad (cM ca ad) Z yX12_goOn cX12_goOn 3 rm_X12_goOn [.ref (ad 0)] mem res := by
  refine start_v (own := RX12) rfl (by decide) (Nat.le_of_ble_eq_true rfl) ?_
  intro p e s m args below meth c Q hQ X
  rw [K_X12_goOn] at hF
  revert hF
  have w_239 : ∀ (x2 : Int32) (mem : Mem), K_X12_goOn_239 fu x2 mem = some res → WW D 23 ad (cM ca ad) p l e rm_X12_goOn s m args below meth c 3 0 0 Q mem 239 [(0, .ref (ad 0)), (2, .int x2)] [] := by
    intro x2 mem hF
    rw [K_X12_goOn_239] at hF
    refine w_aload_n X 0 dX12_goOn_239 rfl rfl 240 rfl ?_
    refine w_dup X dX12_goOn_240 rfl 241 rfl ?_
    refine w_getV (v := .int (rd mem 0 4)) X 0 ml_0 mo_0 (T := TX12) (N := 50) rfl in_X12 4 (by decide) kF_X12_110 rfl rfl dX12_goOn_241 244 rfl ?_
    refine w_iload_n X 1 dX12_goOn_244 rfl rfl 245 rfl ?_
    refine w_iadd X dX12_goOn_245 246 rfl ?_
    refine w_putI X 0 ml_0 mo_0 (T := TX12) (N := 50) rfl in_X12 tyX12 tyX12_ok nmX12 4 (by decide) kF_X12_110 rfl rfl rfl rfl (Nat.le_of_ble_eq_true rfl) rfl dX12_goOn_246 249 rfl ?_
    refine w_letm hF (fun m_21 hF => ?_)
    exact w_vret X hQ (o_inj hF) dX12_goOn_249
  have w_229 : ∀ (x1 : Int32) (xs0 : Int32) (mem : Mem), K_X12_goOn_229 fu x1 xs0 mem = some res → WW D 23 ad (cM ca ad) p l e rm_X12_goOn s m args below meth c 3 0 0 Q mem 229 [(0, .ref (ad 0)), (1, .int x1)] [.int xs0, .ref (ad 0)] := by
    intro x1 xs0 mem hF
    rw [K_X12_goOn_229] at hF
    refine w_putI X 0 ml_0 mo_0 (T := TX12) (N := 50) rfl in_X12 tyX12 tyX12_ok nmX12 6 (by decide) kF_X12_130 rfl rfl rfl rfl (Nat.le_of_ble_eq_true rfl) rfl dX12_goOn_229 232 rfl ?_
    refine w_letm hF (fun m_11 hF => ?_)
    refine w_aload_n X 0 dX12_goOn_232 rfl rfl 233 rfl ?_
    refine w_iload_n X 1 dX12_goOn_233 rfl rfl 234 rfl ?_
    refine w_putI X 0 ml_0 mo_0 (T := TX12) (N := 50) rfl in_X12 tyX12 tyX12_ok nmX12 7 (by decide) kF_X12_127 rfl rfl rfl rfl (Nat.le_of_ble_eq_true rfl) rfl dX12_goOn_234 237 rfl ?_
    refine w_letm hF (fun m_12 hF => ?_)
    refine w_iconst X 1 dX12_goOn_237 rfl 238 rfl ?_
    refine w_istore_n X [(2, .int 1), (0, .ref (ad 0)), (1, .int x1)] dX12_goOn_238 rfl (by decide) rfl 239 rfl ?_
    refine w_keep [1, 0] rfl ?_
    exact w_239 1 m_12 hF
  have w_224 : ∀ (x1 : Int32) (mem : Mem), K_X12_goOn_224 fu x1 mem = some res → WW D 23 ad (cM ca ad) p l e rm_X12_goOn s m args below meth c 3 0 0 Q mem 224 [(0, .ref (ad 0)), (1, .int x1)] [.ref (ad 0)] := by
    intro x1 mem hF
    rw [K_X12_goOn_224] at hF
    refine w_iconst X 3 dX12_goOn_224 rfl 225 rfl ?_
    refine w_goto X 229 dX12_goOn_225 (by decide) ?_
    refine w_keep [0, 1] rfl ?_
    exact w_229 x1 3 mem hF
  have w_199 : ∀ (x2 : Int32) (xs0 : Int32) (mem : Mem), K_X12_goOn_199 fu x2 xs0 mem = some res → WW D 23 ad (cM ca ad) p l e rm_X12_goOn s m args below meth c 3 0 0 Q mem 199 [(0, .ref (ad 0)), (2, .int x2)] [.int xs0, .ref (ad 0)] := by
    intro x2 xs0 mem hF
    rw [K_X12_goOn_199] at hF
    refine w_putI X 0 ml_0 mo_0 (T := TX12) (N := 50) rfl in_X12 tyX12 tyX12_ok nmX12 6 (by decide) kF_X12_130 rfl rfl rfl rfl (Nat.le_of_ble_eq_true rfl) rfl dX12_goOn_199 202 rfl ?_
    refine w_letm hF (fun m_22 hF => ?_)
    refine w_goto X 239 dX12_goOn_202 (by decide) ?_
    refine w_keep [0, 1] rfl ?_
    exact w_239 x2 m_22 hF
  have w_146 : ∀ (n : Nat) (x2 : Int32) (mem : Mem), K_X12_goOn_146 fu n x2 mem = some res → WW D 23 ad (cM ca ad) p l e rm_X12_goOn s m args below meth c 3 0 0 Q mem 146 [(0, .ref (ad 0)), (2, .int x2)] [] := by
    intro n
    induction n with
    | zero => intro x2 mem hF; exact no_none (show (none : Option Mem) = some res from hF)
    | succ n ih =>
      intro x2 mem hF
      rw [K_X12_goOn_146] at hF
      refine w_aload_n X 0 dX12_goOn_146 rfl rfl 147 rfl ?_
      refine w_iload_n X 1 dX12_goOn_147 rfl rfl 148 rfl ?_
      refine w_callVi (fun x => x) (fun _ => mem) X hZ hF [.int x2] 0 ml_0 mo_0 rfl rfl rfl kB_X12_here kL_X12_116 (fun res h => ct_X12_here l hZ fu x2 mem res h) rfl rfl rfl ⟨Nat.le_of_ble_eq_true rfl, Nat.le_of_ble_eq_true rfl⟩ (Nat.le_of_ble_eq_true rfl) ⟨Nat.zero_le _, Nat.zero_le _⟩ dX12_goOn_148 151 rfl (fun x_13 hF => ?_)
      refine w_callSi (fun x => x) (fun _ => mem) X hZ hF [.int x_13] rfl kB_X12_isDigit kL_X12_137 (fun res h => ct_X12_isDigit l hZ fu x_13 mem res h) rfl rfl rfl ⟨Nat.le_of_ble_eq_true rfl, Nat.le_of_ble_eq_true rfl⟩ (Nat.le_of_ble_eq_true rfl) ⟨Nat.zero_le _, Nat.zero_le _⟩ dX12_goOn_151 154 rfl (fun x_14 hF => ?_)
      refine w_if_eq X hF 188 157 dX12_goOn_154 (by decide) rfl (fun hF => ?_) (fun hF => ?_)
      · refine w_aload_n X 0 dX12_goOn_188 rfl rfl 189 rfl ?_
        refine w_iload_n X 1 dX12_goOn_189 rfl rfl 190 rfl ?_
        refine w_iconst X 3 dX12_goOn_190 rfl 191 rfl ?_
        refine w_icmp_le X hF 198 194 dX12_goOn_191 (by decide) rfl (fun hF => ?_) (fun hF => ?_)
        · refine w_iconst X 4 dX12_goOn_194 rfl 195 rfl ?_
          refine w_goto X 199 dX12_goOn_195 (by decide) ?_
          refine w_keep [0, 1] rfl ?_
          exact w_199 x2 4 mem hF
        · refine w_iconst X 2 dX12_goOn_198 rfl 199 rfl ?_
          refine w_keep [0, 1] rfl ?_
          exact w_199 x2 2 mem hF
      · refine w_iload_n X 1 dX12_goOn_157 rfl rfl 158 rfl ?_
        refine w_iconst X 3 dX12_goOn_158 rfl 159 rfl ?_
        refine w_icmp_ge X hF 182 162 dX12_goOn_159 (by decide) rfl (fun hF => ?_) (fun hF => ?_)
        · refine w_aload_n X 0 dX12_goOn_162 rfl rfl 163 rfl ?_
          refine w_bipush X 10 dX12_goOn_163 rfl 165 rfl ?_
          refine w_aload_n X 0 dX12_goOn_165 rfl rfl 166 rfl ?_
          refine w_getV (v := .int (rd mem 0 7)) X 0 ml_0 mo_0 (T := TX12) (N := 50) rfl in_X12 7 (by decide) kF_X12_127 rfl rfl dX12_goOn_166 169 rfl ?_
          refine w_imul X dX12_goOn_169 170 rfl ?_
          refine w_aload_n X 0 dX12_goOn_170 rfl rfl 171 rfl ?_
          refine w_iload_n X 1 dX12_goOn_171 rfl rfl 172 rfl ?_
          refine w_callVi (fun x => x) (fun _ => mem) X hZ hF [.int x2] 0 ml_0 mo_0 rfl rfl rfl kB_X12_here kL_X12_116 (fun res h => ct_X12_here l hZ fu x2 mem res h) rfl rfl rfl ⟨Nat.le_of_ble_eq_true rfl, Nat.le_of_ble_eq_true rfl⟩ (Nat.le_of_ble_eq_true rfl) ⟨Nat.zero_le _, Nat.zero_le _⟩ dX12_goOn_172 175 rfl (fun x_15 hF => ?_)
          refine w_iadd X dX12_goOn_175 176 rfl ?_
          refine w_bipush X 48 dX12_goOn_176 rfl 178 rfl ?_
          refine w_isub X dX12_goOn_178 179 rfl ?_
          refine w_putI X 0 ml_0 mo_0 (T := TX12) (N := 50) rfl in_X12 tyX12 tyX12_ok nmX12 7 (by decide) kF_X12_127 rfl rfl rfl rfl (Nat.le_of_ble_eq_true rfl) rfl dX12_goOn_179 182 rfl ?_
          refine w_letm hF (fun m_16 hF => ?_)
          refine w_iinc X 1 (x2 + 1) [(2, .int (x2 + 1)), (0, .ref (ad 0))] dX12_goOn_182 rfl rfl (by decide) rfl 185 rfl ?_
          refine w_goto X 146 dX12_goOn_185 (by decide) ?_
          refine w_keep [1, 0] rfl ?_
          exact ih (x2 + 1) m_16 hF
        · refine w_iinc X 1 (x2 + 1) [(2, .int (x2 + 1)), (0, .ref (ad 0))] dX12_goOn_182 rfl rfl (by decide) rfl 185 rfl ?_
          refine w_goto X 146 dX12_goOn_185 (by decide) ?_
          refine w_keep [1, 0] rfl ?_
          exact ih (x2 + 1) mem hF
  have w_133 : ∀ (x2 : Int32) (xs0 : Int32) (mem : Mem), K_X12_goOn_133 fu x2 xs0 mem = some res → WW D 23 ad (cM ca ad) p l e rm_X12_goOn s m args below meth c 3 0 0 Q mem 133 [(0, .ref (ad 0)), (2, .int x2)] [.int xs0, .ref (ad 0)] := by
    intro x2 xs0 mem hF
    rw [K_X12_goOn_133] at hF
    refine w_putI X 0 ml_0 mo_0 (T := TX12) (N := 50) rfl in_X12 tyX12 tyX12_ok nmX12 6 (by decide) kF_X12_130 rfl rfl rfl rfl (Nat.le_of_ble_eq_true rfl) rfl dX12_goOn_133 136 rfl ?_
    refine w_letm hF (fun m_23 hF => ?_)
    refine w_goto X 239 dX12_goOn_136 (by decide) ?_
    refine w_keep [0, 1] rfl ?_
    exact w_239 x2 m_23 hF
  have w_76 : ∀ (n : Nat) (x2 : Int32) (mem : Mem), K_X12_goOn_76 fu n x2 mem = some res → WW D 23 ad (cM ca ad) p l e rm_X12_goOn s m args below meth c 3 0 0 Q mem 76 [(0, .ref (ad 0)), (2, .int x2)] [] := by
    intro n
    induction n with
    | zero => intro x2 mem hF; exact no_none (show (none : Option Mem) = some res from hF)
    | succ n ih =>
      intro x2 mem hF
      rw [K_X12_goOn_76] at hF
      refine w_aload_n X 0 dX12_goOn_76 rfl rfl 77 rfl ?_
      refine w_iload_n X 1 dX12_goOn_77 rfl rfl 78 rfl ?_
      refine w_callVi (fun x => x) (fun _ => mem) X hZ hF [.int x2] 0 ml_0 mo_0 rfl rfl rfl kB_X12_here kL_X12_116 (fun res h => ct_X12_here l hZ fu x2 mem res h) rfl rfl rfl ⟨Nat.le_of_ble_eq_true rfl, Nat.le_of_ble_eq_true rfl⟩ (Nat.le_of_ble_eq_true rfl) ⟨Nat.zero_le _, Nat.zero_le _⟩ dX12_goOn_78 81 rfl (fun x_17 hF => ?_)
      refine w_callSi (fun x => x) (fun _ => mem) X hZ hF [.int x_17] rfl kB_X12_isLetter kL_X12_133 (fun res h => ct_X12_isLetter l hZ fu x_17 mem res h) rfl rfl rfl ⟨Nat.le_of_ble_eq_true rfl, Nat.le_of_ble_eq_true rfl⟩ (Nat.le_of_ble_eq_true rfl) ⟨Nat.zero_le _, Nat.zero_le _⟩ dX12_goOn_81 84 rfl (fun x_18 hF => ?_)
      refine w_if_eq X hF 121 87 dX12_goOn_84 (by decide) rfl (fun hF => ?_) (fun hF => ?_)
      · refine w_aload_n X 0 dX12_goOn_121 rfl rfl 122 rfl ?_
        refine w_iload_n X 1 dX12_goOn_122 rfl rfl 123 rfl ?_
        refine w_bipush X 8 dX12_goOn_123 rfl 125 rfl ?_
        refine w_icmp_le X hF 132 128 dX12_goOn_125 (by decide) rfl (fun hF => ?_) (fun hF => ?_)
        · refine w_iconst X 4 dX12_goOn_128 rfl 129 rfl ?_
          refine w_goto X 133 dX12_goOn_129 (by decide) ?_
          refine w_keep [0, 1] rfl ?_
          exact w_133 x2 4 mem hF
        · refine w_iconst X 1 dX12_goOn_132 rfl 133 rfl ?_
          refine w_keep [0, 1] rfl ?_
          exact w_133 x2 1 mem hF
      · refine w_iload_n X 1 dX12_goOn_87 rfl rfl 88 rfl ?_
        refine w_bipush X 8 dX12_goOn_88 rfl 90 rfl ?_
        refine w_icmp_ge X hF 115 93 dX12_goOn_90 (by decide) rfl (fun hF => ?_) (fun hF => ?_)
        · refine w_aload_n X 0 dX12_goOn_93 rfl rfl 94 rfl ?_
          refine w_aload_n X 0 dX12_goOn_94 rfl rfl 95 rfl ?_
          refine w_getV (v := .long (rl mem 0 12)) X 0 ml_0 mo_0 (T := TX12) (N := 50) rfl in_X12 12 (by decide) kF_X12_123 rfl rfl dX12_goOn_95 98 rfl ?_
          refine w_iconst X 5 dX12_goOn_98 rfl 99 rfl ?_
          refine w_lshl X dX12_goOn_99 100 rfl ?_
          refine w_aload_n X 0 dX12_goOn_100 rfl rfl 101 rfl ?_
          refine w_iload_n X 1 dX12_goOn_101 rfl rfl 102 rfl ?_
          refine w_callVi (fun x => x) (fun _ => mem) X hZ hF [.int x2] 0 ml_0 mo_0 rfl rfl rfl kB_X12_here kL_X12_116 (fun res h => ct_X12_here l hZ fu x2 mem res h) rfl rfl rfl ⟨Nat.le_of_ble_eq_true rfl, Nat.le_of_ble_eq_true rfl⟩ (Nat.le_of_ble_eq_true rfl) ⟨Nat.zero_le _, Nat.zero_le _⟩ dX12_goOn_102 105 rfl (fun x_19 hF => ?_)
          refine w_bipush X 97 dX12_goOn_105 rfl 107 rfl ?_
          refine w_isub X dX12_goOn_107 108 rfl ?_
          refine w_iconst X 1 dX12_goOn_108 rfl 109 rfl ?_
          refine w_iadd X dX12_goOn_109 110 rfl ?_
          refine w_i2l X dX12_goOn_110 111 rfl ?_
          refine w_lor X dX12_goOn_111 112 rfl ?_
          refine w_putJ X 0 ml_0 mo_0 (T := TX12) (N := 50) rfl in_X12 tyX12 tyX12_ok nmX12 12 (by decide) kF_X12_123 rfl rfl rfl rfl (Nat.le_of_ble_eq_true rfl) rfl dX12_goOn_112 115 rfl ?_
          refine w_letm hF (fun m_20 hF => ?_)
          refine w_iinc X 1 (x2 + 1) [(2, .int (x2 + 1)), (0, .ref (ad 0))] dX12_goOn_115 rfl rfl (by decide) rfl 118 rfl ?_
          refine w_goto X 76 dX12_goOn_118 (by decide) ?_
          refine w_keep [1, 0] rfl ?_
          exact ih (x2 + 1) m_20 hF
        · refine w_iinc X 1 (x2 + 1) [(2, .int (x2 + 1)), (0, .ref (ad 0))] dX12_goOn_115 rfl rfl (by decide) rfl 118 rfl ?_
          refine w_goto X 76 dX12_goOn_118 (by decide) ?_
          refine w_keep [1, 0] rfl ?_
          exact ih (x2 + 1) mem hF
  have w_20 : ∀ (k_0 : Mem → Option Mem) (hk_0 : ∀ (mem : Mem), k_0 mem = some res → WW D 23 ad (cM ca ad) p l e rm_X12_goOn s m args below meth c 3 0 0 Q mem 0 [(0, .ref (ad 0))] []) (mem : Mem), K_X12_goOn_20 fu k_0 mem = some res → WW D 23 ad (cM ca ad) p l e rm_X12_goOn s m args below meth c 3 0 0 Q mem 20 [(0, .ref (ad 0))] [] := by
    intro k_0 hk_0 mem hF
    rw [K_X12_goOn_20] at hF
    refine w_aload_n X 0 dX12_goOn_20 rfl rfl 21 rfl ?_
    refine w_dup X dX12_goOn_21 rfl 22 rfl ?_
    refine w_getV (v := .int (rd mem 0 4)) X 0 ml_0 mo_0 (T := TX12) (N := 50) rfl in_X12 4 (by decide) kF_X12_110 rfl rfl dX12_goOn_22 25 rfl ?_
    refine w_iconst X 1 dX12_goOn_25 rfl 26 rfl ?_
    refine w_iadd X dX12_goOn_26 27 rfl ?_
    refine w_putI X 0 ml_0 mo_0 (T := TX12) (N := 50) rfl in_X12 tyX12 tyX12_ok nmX12 4 (by decide) kF_X12_110 rfl rfl rfl rfl (Nat.le_of_ble_eq_true rfl) rfl dX12_goOn_27 30 rfl ?_
    refine w_letm hF (fun m_10 hF => ?_)
    refine w_goto X 0 dX12_goOn_30 (by decide) ?_
    refine w_keep [0] rfl ?_
    exact hk_0 m_10 hF
  have w_0 : ∀ (n : Nat) (mem : Mem), K_X12_goOn_0 fu n mem = some res → WW D 23 ad (cM ca ad) p l e rm_X12_goOn s m args below meth c 3 0 0 Q mem 0 [(0, .ref (ad 0))] [] := by
    intro n
    induction n with
    | zero => intro mem hF; exact no_none (show (none : Option Mem) = some res from hF)
    | succ n ih =>
      intro mem hF
      rw [K_X12_goOn_0] at hF
      refine w_aload_n X 0 dX12_goOn_0 rfl rfl 1 rfl ?_
      refine w_iconst X 0 dX12_goOn_1 rfl 2 rfl ?_
      refine w_callVi (fun x => x) (fun _ => mem) X hZ hF [.int 0] 0 ml_0 mo_0 rfl rfl rfl kB_X12_here kL_X12_116 (fun res h => ct_X12_here l hZ fu 0 mem res h) rfl rfl rfl ⟨Nat.le_of_ble_eq_true rfl, Nat.le_of_ble_eq_true rfl⟩ (Nat.le_of_ble_eq_true rfl) ⟨Nat.zero_le _, Nat.zero_le _⟩ dX12_goOn_2 5 rfl (fun x_1 hF => ?_)
      refine w_bipush X 32 dX12_goOn_5 rfl 7 rfl ?_
      refine w_icmp_eq X hF 20 10 dX12_goOn_7 (by decide) rfl (fun hF => ?_) (fun hF => ?_)
      · refine w_keep [0] rfl ?_
        exact w_20 (K_X12_goOn_0 fu n) ih mem hF
      · refine w_aload_n X 0 dX12_goOn_10 rfl rfl 11 rfl ?_
        refine w_iconst X 0 dX12_goOn_11 rfl 12 rfl ?_
        refine w_callVi (fun x => x) (fun _ => mem) X hZ hF [.int 0] 0 ml_0 mo_0 rfl rfl rfl kB_X12_here kL_X12_116 (fun res h => ct_X12_here l hZ fu 0 mem res h) rfl rfl rfl ⟨Nat.le_of_ble_eq_true rfl, Nat.le_of_ble_eq_true rfl⟩ (Nat.le_of_ble_eq_true rfl) ⟨Nat.zero_le _, Nat.zero_le _⟩ dX12_goOn_12 15 rfl (fun x_2 hF => ?_)
        refine w_bipush X 10 dX12_goOn_15 rfl 17 rfl ?_
        refine w_icmp_ne X hF 33 20 dX12_goOn_17 (by decide) rfl (fun hF => ?_) (fun hF => ?_)
        · refine w_keep [0] rfl ?_
          exact w_20 (K_X12_goOn_0 fu n) ih mem hF
        · refine w_aload_n X 0 dX12_goOn_33 rfl rfl 34 rfl ?_
          refine w_aload_n X 0 dX12_goOn_34 rfl rfl 35 rfl ?_
          refine w_getV (v := .int (rd mem 0 4)) X 0 ml_0 mo_0 (T := TX12) (N := 50) rfl in_X12 4 (by decide) kF_X12_110 rfl rfl dX12_goOn_35 38 rfl ?_
          refine w_putI X 0 ml_0 mo_0 (T := TX12) (N := 50) rfl in_X12 tyX12 tyX12_ok nmX12 5 (by decide) kF_X12_120 rfl rfl rfl rfl (Nat.le_of_ble_eq_true rfl) rfl dX12_goOn_38 41 rfl ?_
          refine w_letm hF (fun m_3 hF => ?_)
          refine w_aload_n X 0 dX12_goOn_41 rfl rfl 42 rfl ?_
          refine w_lconst X 0 dX12_goOn_42 rfl 43 rfl ?_
          refine w_putJ X 0 ml_0 mo_0 (T := TX12) (N := 50) rfl in_X12 tyX12 tyX12_ok nmX12 12 (by decide) kF_X12_123 rfl rfl rfl rfl (Nat.le_of_ble_eq_true rfl) rfl dX12_goOn_43 46 rfl ?_
          refine w_letm hF (fun m_4 hF => ?_)
          refine w_aload_n X 0 dX12_goOn_46 rfl rfl 47 rfl ?_
          refine w_iconst X 0 dX12_goOn_47 rfl 48 rfl ?_
          refine w_putI X 0 ml_0 mo_0 (T := TX12) (N := 50) rfl in_X12 tyX12 tyX12_ok nmX12 7 (by decide) kF_X12_127 rfl rfl rfl rfl (Nat.le_of_ble_eq_true rfl) rfl dX12_goOn_48 51 rfl ?_
          refine w_letm hF (fun m_5 hF => ?_)
          refine w_aload_n X 0 dX12_goOn_51 rfl rfl 52 rfl ?_
          refine w_iconst X 0 dX12_goOn_52 rfl 53 rfl ?_
          refine w_callVi (fun x => x) (fun _ => m_5) X hZ hF [.int 0] 0 ml_0 mo_0 rfl rfl rfl kB_X12_here kL_X12_116 (fun res h => ct_X12_here l hZ fu 0 m_5 res h) rfl rfl rfl ⟨Nat.le_of_ble_eq_true rfl, Nat.le_of_ble_eq_true rfl⟩ (Nat.le_of_ble_eq_true rfl) ⟨Nat.zero_le _, Nat.zero_le _⟩ dX12_goOn_53 56 rfl (fun x_6 hF => ?_)
          refine w_istore_n X [(1, .int x_6), (0, .ref (ad 0))] dX12_goOn_56 rfl (by decide) rfl 57 rfl ?_
          refine w_iconst X 0 dX12_goOn_57 rfl 58 rfl ?_
          refine w_istore_n X [(2, .int 0), (1, .int x_6), (0, .ref (ad 0))] dX12_goOn_58 rfl (by decide) rfl 59 rfl ?_
          refine w_iload_n X 1 dX12_goOn_59 rfl rfl 60 rfl ?_
          refine w_if_ge X hF 69 63 dX12_goOn_60 (by decide) rfl (fun hF => ?_) (fun hF => ?_)
          · refine w_aload_n X 2 dX12_goOn_63 rfl rfl 64 rfl ?_
            refine w_iconst X 0 dX12_goOn_64 rfl 65 rfl ?_
            refine w_putI X 0 ml_0 mo_0 (T := TX12) (N := 50) rfl in_X12 tyX12 tyX12_ok nmX12 6 (by decide) kF_X12_130 rfl rfl rfl rfl (Nat.le_of_ble_eq_true rfl) rfl dX12_goOn_65 68 rfl ?_
            refine w_letm hF (fun m_7 hF => ?_)
            exact w_vret X hQ (o_inj hF) dX12_goOn_68
          · refine w_iload_n X 1 dX12_goOn_69 rfl rfl 70 rfl ?_
            refine w_callSi (fun x => x) (fun _ => m_5) X hZ hF [.int x_6] rfl kB_X12_isLetter kL_X12_133 (fun res h => ct_X12_isLetter l hZ fu x_6 m_5 res h) rfl rfl rfl ⟨Nat.le_of_ble_eq_true rfl, Nat.le_of_ble_eq_true rfl⟩ (Nat.le_of_ble_eq_true rfl) ⟨Nat.zero_le _, Nat.zero_le _⟩ dX12_goOn_70 73 rfl (fun x_8 hF => ?_)
            refine w_if_eq X hF 139 76 dX12_goOn_73 (by decide) rfl (fun hF => ?_) (fun hF => ?_)
            · refine w_iload_n X 1 dX12_goOn_139 rfl rfl 140 rfl ?_
              refine w_callSi (fun x => x) (fun _ => m_5) X hZ hF [.int x_6] rfl kB_X12_isDigit kL_X12_137 (fun res h => ct_X12_isDigit l hZ fu x_6 m_5 res h) rfl rfl rfl ⟨Nat.le_of_ble_eq_true rfl, Nat.le_of_ble_eq_true rfl⟩ (Nat.le_of_ble_eq_true rfl) ⟨Nat.zero_le _, Nat.zero_le _⟩ dX12_goOn_140 143 rfl (fun x_9 hF => ?_)
              refine w_if_eq X hF 205 146 dX12_goOn_143 (by decide) rfl (fun hF => ?_) (fun hF => ?_)
              · refine w_aload_n X 2 dX12_goOn_205 rfl rfl 206 rfl ?_
                refine w_iload_n X 1 dX12_goOn_206 rfl rfl 207 rfl ?_
                refine w_bipush X 59 dX12_goOn_207 rfl 209 rfl ?_
                refine w_icmp_eq X hF 224 212 dX12_goOn_209 (by decide) rfl (fun hF => ?_) (fun hF => ?_)
                · refine w_keep [2, 1] rfl ?_
                  exact w_224 x_6 m_5 hF
                · refine w_iload_n X 1 dX12_goOn_212 rfl rfl 213 rfl ?_
                  refine w_bipush X 40 dX12_goOn_213 rfl 215 rfl ?_
                  refine w_icmp_eq X hF 224 218 dX12_goOn_215 (by decide) rfl (fun hF => ?_) (fun hF => ?_)
                  · refine w_keep [2, 1] rfl ?_
                    exact w_224 x_6 m_5 hF
                  · refine w_iload_n X 1 dX12_goOn_218 rfl rfl 219 rfl ?_
                    refine w_bipush X 41 dX12_goOn_219 rfl 221 rfl ?_
                    refine w_icmp_ne X hF 228 224 dX12_goOn_221 (by decide) rfl (fun hF => ?_) (fun hF => ?_)
                    · refine w_keep [2, 1] rfl ?_
                      exact w_224 x_6 m_5 hF
                    · refine w_iconst X 4 dX12_goOn_228 rfl 229 rfl ?_
                      refine w_keep [2, 1] rfl ?_
                      exact w_229 x_6 4 m_5 hF
              · refine w_keep [2, 0] rfl ?_
                exact w_146 fu 0 m_5 hF
            · refine w_keep [2, 0] rfl ?_
              exact w_76 fu 0 m_5 hF
  intro hF
  refine w_keep [0] rfl ?_
  exact w_0 fu mem hF

def K_X12_beginsText (fu : Nat) (mem : Mem) : Option Mem := lt_ (mw mem 0 3 (rd mem 0 2)) (fun m_1 => lt_ (mw m_1 0 2 0) (fun m_2 => lt_ (mw m_2 0 4 0) (fun m_3 => lt_ (mw m_3 0 8 0) (fun m_4 => lt_ (mw m_4 0 9 (-1)) (fun m_5 => bd (K_X12_goOn fu m_5) (fun m_6 => some m_6))))))
def rm_X12_beginsText : Room := { frames := 2, cells := 0, slots := 0, locals := 43 }
set_option maxHeartbeats 4000000 in
set_option maxRecDepth 100000 in
theorem ct_X12_beginsText (l : Launch) {D : va_G} {ca ad : Nat → Nat} {Z : (Nat → Prop) → State → Heap → Prop} (hZ : ZOK Z) (fu : Nat) (mem : Mem) (res : Mem) (hF : K_X12_beginsText fu mem = some res) : CV l D (tyL ca) 23 ad (cM ca ad) Z yX12_beginsText cX12_beginsText 1 rm_X12_beginsText [.ref (ad 0)] mem res := by
  refine start_v (own := RX12) rfl (by decide) (Nat.le_of_ble_eq_true rfl) ?_
  intro p e s m args below meth c Q hQ X
  rw [K_X12_beginsText] at hF
  revert hF
  intro hF
  refine w_aload_n X 0 dX12_beginsText_0 rfl rfl 1 rfl ?_
  refine w_aload_n X 0 dX12_beginsText_1 rfl rfl 2 rfl ?_
  refine w_getV (v := .int (rd mem 0 2)) X 0 ml_0 mo_0 (T := TX12) (N := 50) rfl in_X12 2 (by decide) kF_X12_95 rfl rfl dX12_beginsText_2 5 rfl ?_
  refine w_putI X 0 ml_0 mo_0 (T := TX12) (N := 50) rfl in_X12 tyX12 tyX12_ok nmX12 3 (by decide) kF_X12_113 rfl rfl rfl rfl (Nat.le_of_ble_eq_true rfl) rfl dX12_beginsText_5 8 rfl ?_
  refine w_letm hF (fun m_1 hF => ?_)
  refine w_aload_n X 0 dX12_beginsText_8 rfl rfl 9 rfl ?_
  refine w_iconst X 0 dX12_beginsText_9 rfl 10 rfl ?_
  refine w_putI X 0 ml_0 mo_0 (T := TX12) (N := 50) rfl in_X12 tyX12 tyX12_ok nmX12 2 (by decide) kF_X12_95 rfl rfl rfl rfl (Nat.le_of_ble_eq_true rfl) rfl dX12_beginsText_10 13 rfl ?_
  refine w_letm hF (fun m_2 hF => ?_)
  refine w_aload_n X 0 dX12_beginsText_13 rfl rfl 14 rfl ?_
  refine w_iconst X 0 dX12_beginsText_14 rfl 15 rfl ?_
  refine w_putI X 0 ml_0 mo_0 (T := TX12) (N := 50) rfl in_X12 tyX12 tyX12_ok nmX12 4 (by decide) kF_X12_110 rfl rfl rfl rfl (Nat.le_of_ble_eq_true rfl) rfl dX12_beginsText_15 18 rfl ?_
  refine w_letm hF (fun m_3 hF => ?_)
  refine w_aload_n X 0 dX12_beginsText_18 rfl rfl 19 rfl ?_
  refine w_iconst X 0 dX12_beginsText_19 rfl 20 rfl ?_
  refine w_putI X 0 ml_0 mo_0 (T := TX12) (N := 50) rfl in_X12 tyX12 tyX12_ok nmX12 8 (by decide) kF_X12_140 rfl rfl rfl rfl (Nat.le_of_ble_eq_true rfl) rfl dX12_beginsText_20 23 rfl ?_
  refine w_letm hF (fun m_4 hF => ?_)
  refine w_aload_n X 0 dX12_beginsText_23 rfl rfl 24 rfl ?_
  refine w_iconst X (-1) dX12_beginsText_24 rfl 25 rfl ?_
  refine w_putI X 0 ml_0 mo_0 (T := TX12) (N := 50) rfl in_X12 tyX12 tyX12_ok nmX12 9 (by decide) kF_X12_13 rfl rfl rfl rfl (Nat.le_of_ble_eq_true rfl) rfl dX12_beginsText_25 28 rfl ?_
  refine w_letm hF (fun m_5 hF => ?_)
  refine w_aload_n X 0 dX12_beginsText_28 rfl rfl 29 rfl ?_
  refine w_callVv (fun m => m) X hZ hF [] 0 ml_0 mo_0 rfl rfl rfl kB_X12_goOn kL_X12_153 (fun res h => ct_X12_goOn l hZ fu m_5 res h) rfl rfl rfl ⟨Nat.le_of_ble_eq_true rfl, Nat.le_of_ble_eq_true rfl⟩ (Nat.le_of_ble_eq_true rfl) ⟨Nat.zero_le _, Nat.zero_le _⟩ dX12_beginsText_29 32 rfl (fun m_6 hF => ?_)
  exact w_vret X hQ (o_inj hF) dX12_beginsText_32

def K_X12_beginsWalk_53 (fu : Nat) (k_14 : Int32 → Int32 → Int32 → Mem → Option Mem) (x1 : Int32) (x2 : Int32) (x3 : Int32) (xs0 : Int32) (xs1 : Int32) (mem : Mem) : Option Mem := gi xs1 405 (lt_ (mw mem 14 (Int32.toNatClampNeg xs1) (vp_nar .boolean xs0)) (fun m_5 => gi x3 405 (bd (K_X12_truth fu (rd m_5 14 (Int32.toNatClampNeg x3)) m_5) (fun x_7 => gi x3 405 (lt_ (mw m_5 12 (Int32.toNatClampNeg x3) x_7) (fun m_9 => (k_14 x1 x2 (x3 + 1) m_9)))))))
def K_X12_beginsWalk_44 (fu : Nat) (k_14 : Int32 → Int32 → Int32 → Mem → Option Mem) (x1 : Int32) (x2 : Int32) (x3 : Int32) (xs0 : Int32) (xs1 : Int32) (xs2 : Int32) (xs3 : Int32) (mem : Mem) : Option Mem := (if xs2 = (xs1 + xs0) then (K_X12_beginsWalk_53 fu k_14 x1 x2 x3 1 xs3 mem) else (K_X12_beginsWalk_53 fu k_14 x1 x2 x3 0 xs3 mem))
def K_X12_beginsWalk_14 (fu : Nat) : Nat → Int32 → Int32 → Int32 → Mem → Option Mem
  | 0, _, _, _, _ => none
  | n + 1, x1, x2, x3, mem => (if x3 < 405 then bd (K_X12_cellOf fu x1 mem) (fun x_3 => (if x2 = (-1) then (K_X12_beginsWalk_44 fu (K_X12_beginsWalk_14 fu n) x1 x2 x3 4 (5 * x_3) x3 x3 mem) else (K_X12_beginsWalk_44 fu (K_X12_beginsWalk_14 fu n) x1 x2 x3 x2 (5 * x_3) x3 x3 mem))) else some mem)
def K_X12_beginsWalk (fu : Nat) (x1 : Int32) (mem : Mem) : Option Mem := lt_ (mw mem 0 27 x1) (fun m_1 => bd (K_X12_of fu x1 5 m_1) (fun x_2 => (K_X12_beginsWalk_14 fu fu x1 x_2 0 m_1)))
def rm_X12_beginsWalk : Room := { frames := 2, cells := 0, slots := 0, locals := 43 }
set_option maxHeartbeats 4000000 in
set_option maxRecDepth 100000 in
theorem ct_X12_beginsWalk (l : Launch) {D : va_G} {ca ad : Nat → Nat} {Z : (Nat → Prop) → State → Heap → Prop} (hZ : ZOK Z) (fu : Nat) (x1 : Int32) (mem : Mem) (res : Mem) (hF : K_X12_beginsWalk fu x1 mem = some res) : CV l D (tyL ca) 23 ad (cM ca ad) Z yX12_beginsWalk cX12_beginsWalk 4 rm_X12_beginsWalk [.ref (ad 0), .int x1] mem res := by
  refine start_v (own := RX12) rfl (by decide) (Nat.le_of_ble_eq_true rfl) ?_
  intro p e s m args below meth c Q hQ X
  rw [K_X12_beginsWalk] at hF
  revert hF
  have w_53 : ∀ (k_14 : Int32 → Int32 → Int32 → Mem → Option Mem) (hk_14 : ∀ (x1 : Int32) (x2 : Int32) (x3 : Int32) (mem : Mem), k_14 x1 x2 x3 mem = some res → WW D 23 ad (cM ca ad) p l e rm_X12_beginsWalk s m args below meth c 4 0 0 Q mem 14 [(0, .ref (ad 0)), (1, .int x1), (2, .int x2), (3, .int x3)] []) (x1 : Int32) (x2 : Int32) (x3 : Int32) (xs0 : Int32) (xs1 : Int32) (mem : Mem), K_X12_beginsWalk_53 fu k_14 x1 x2 x3 xs0 xs1 mem = some res → WW D 23 ad (cM ca ad) p l e rm_X12_beginsWalk s m args below meth c 4 0 0 Q mem 53 [(0, .ref (ad 0)), (1, .int x1), (2, .int x2), (3, .int x3)] [.int xs0, .int xs1, .ref (ad 14)] := by
    intro k_14 hk_14 x1 x2 x3 xs0 xs1 mem hF
    rw [K_X12_beginsWalk_53] at hF
    refine w_gi hF (fun h_4 hF => ?_)
    refine w_zas X 14 ml_14 mo_14 (t0 := 6) rfl h_4 dX12_beginsWalk_53 54 rfl ?_
    refine w_letm hF (fun m_5 hF => ?_)
    refine w_aload_n X 0 dX12_beginsWalk_54 rfl rfl 55 rfl ?_
    refine w_getV (v := .ref (ad 12)) X 0 ml_0 mo_0 (T := TX12) (N := 50) rfl in_X12 30 (by decide) kF_X12_52 rfl rfl dX12_beginsWalk_55 58 rfl ?_
    refine w_iload_n X 3 dX12_beginsWalk_58 rfl rfl 59 rfl ?_
    refine w_aload_n X 0 dX12_beginsWalk_59 rfl rfl 60 rfl ?_
    refine w_getV (v := .ref (ad 14)) X 0 ml_0 mo_0 (T := TX12) (N := 50) rfl in_X12 32 (by decide) kF_X12_58 rfl rfl dX12_beginsWalk_60 63 rfl ?_
    refine w_iload_n X 3 dX12_beginsWalk_63 rfl rfl 64 rfl ?_
    refine w_gi hF (fun h_6 hF => ?_)
    refine w_zal X 14 ml_14 mo_14 (t0 := 6) rfl h_6 dX12_beginsWalk_64 65 rfl ?_
    refine w_callSi (fun x => x) (fun _ => m_5) X hZ hF [.int (rd m_5 14 (Int32.toNatClampNeg x3))] rfl kB_X12_truth kL_X12_91 (fun res h => ct_X12_truth l hZ fu (rd m_5 14 (Int32.toNatClampNeg x3)) m_5 res h) rfl rfl rfl ⟨Nat.le_of_ble_eq_true rfl, Nat.le_of_ble_eq_true rfl⟩ (Nat.le_of_ble_eq_true rfl) ⟨Nat.zero_le _, Nat.zero_le _⟩ dX12_beginsWalk_65 68 rfl (fun x_7 hF => ?_)
    refine w_gi hF (fun h_8 hF => ?_)
    refine w_ias X 12 ml_12 mo_12 (t0 := 0) rfl h_8 dX12_beginsWalk_68 69 rfl ?_
    refine w_letm hF (fun m_9 hF => ?_)
    refine w_iinc X 3 (x3 + 1) [(3, .int (x3 + 1)), (0, .ref (ad 0)), (1, .int x1), (2, .int x2)] dX12_beginsWalk_69 rfl rfl (by decide) rfl 72 rfl ?_
    refine w_goto X 14 dX12_beginsWalk_72 (by decide) ?_
    refine w_keep [1, 2, 3, 0] rfl ?_
    exact hk_14 x1 x2 (x3 + 1) m_9 hF
  have w_44 : ∀ (k_14 : Int32 → Int32 → Int32 → Mem → Option Mem) (hk_14 : ∀ (x1 : Int32) (x2 : Int32) (x3 : Int32) (mem : Mem), k_14 x1 x2 x3 mem = some res → WW D 23 ad (cM ca ad) p l e rm_X12_beginsWalk s m args below meth c 4 0 0 Q mem 14 [(0, .ref (ad 0)), (1, .int x1), (2, .int x2), (3, .int x3)] []) (x1 : Int32) (x2 : Int32) (x3 : Int32) (xs0 : Int32) (xs1 : Int32) (xs2 : Int32) (xs3 : Int32) (mem : Mem), K_X12_beginsWalk_44 fu k_14 x1 x2 x3 xs0 xs1 xs2 xs3 mem = some res → WW D 23 ad (cM ca ad) p l e rm_X12_beginsWalk s m args below meth c 4 0 0 Q mem 44 [(0, .ref (ad 0)), (1, .int x1), (2, .int x2), (3, .int x3)] [.int xs0, .int xs1, .int xs2, .int xs3, .ref (ad 14)] := by
    intro k_14 hk_14 x1 x2 x3 xs0 xs1 xs2 xs3 mem hF
    rw [K_X12_beginsWalk_44] at hF
    refine w_iadd X dX12_beginsWalk_44 45 rfl ?_
    refine w_icmp_ne X hF 52 48 dX12_beginsWalk_45 (by decide) rfl (fun hF => ?_) (fun hF => ?_)
    · refine w_iconst X 1 dX12_beginsWalk_48 rfl 49 rfl ?_
      refine w_goto X 53 dX12_beginsWalk_49 (by decide) ?_
      refine w_keep [0, 1, 2, 3] rfl ?_
      exact w_53 k_14 hk_14 x1 x2 x3 1 xs3 mem hF
    · refine w_iconst X 0 dX12_beginsWalk_52 rfl 53 rfl ?_
      refine w_keep [0, 1, 2, 3] rfl ?_
      exact w_53 k_14 hk_14 x1 x2 x3 0 xs3 mem hF
  have w_14 : ∀ (n : Nat) (x1 : Int32) (x2 : Int32) (x3 : Int32) (mem : Mem), K_X12_beginsWalk_14 fu n x1 x2 x3 mem = some res → WW D 23 ad (cM ca ad) p l e rm_X12_beginsWalk s m args below meth c 4 0 0 Q mem 14 [(0, .ref (ad 0)), (1, .int x1), (2, .int x2), (3, .int x3)] [] := by
    intro n
    induction n with
    | zero => intro x1 x2 x3 mem hF; exact no_none (show (none : Option Mem) = some res from hF)
    | succ n ih =>
      intro x1 x2 x3 mem hF
      rw [K_X12_beginsWalk_14] at hF
      refine w_iload_n X 3 dX12_beginsWalk_14 rfl rfl 15 rfl ?_
      refine w_sipush X 405 dX12_beginsWalk_15 rfl 18 rfl ?_
      refine w_icmp_ge X hF 75 21 dX12_beginsWalk_18 (by decide) rfl (fun hF => ?_) (fun hF => ?_)
      · refine w_aload_n X 0 dX12_beginsWalk_21 rfl rfl 22 rfl ?_
        refine w_getV (v := .ref (ad 14)) X 0 ml_0 mo_0 (T := TX12) (N := 50) rfl in_X12 32 (by decide) kF_X12_58 rfl rfl dX12_beginsWalk_22 25 rfl ?_
        refine w_iload_n X 3 dX12_beginsWalk_25 rfl rfl 26 rfl ?_
        refine w_iload_n X 3 dX12_beginsWalk_26 rfl rfl 27 rfl ?_
        refine w_iconst X 5 dX12_beginsWalk_27 rfl 28 rfl ?_
        refine w_aload_n X 0 dX12_beginsWalk_28 rfl rfl 29 rfl ?_
        refine w_iload_n X 1 dX12_beginsWalk_29 rfl rfl 30 rfl ?_
        refine w_callVi (fun x => x) (fun _ => mem) X hZ hF [.int x1] 0 ml_0 mo_0 rfl rfl rfl kB_X12_cellOf kL_X12_219 (fun res h => ct_X12_cellOf l hZ fu x1 mem res h) rfl rfl rfl ⟨Nat.le_of_ble_eq_true rfl, Nat.le_of_ble_eq_true rfl⟩ (Nat.le_of_ble_eq_true rfl) ⟨Nat.zero_le _, Nat.zero_le _⟩ dX12_beginsWalk_30 33 rfl (fun x_3 hF => ?_)
        refine w_imul X dX12_beginsWalk_33 34 rfl ?_
        refine w_iload_n X 2 dX12_beginsWalk_34 rfl rfl 35 rfl ?_
        refine w_iconst X (-1) dX12_beginsWalk_35 rfl 36 rfl ?_
        refine w_icmp_ne X hF 43 39 dX12_beginsWalk_36 (by decide) rfl (fun hF => ?_) (fun hF => ?_)
        · refine w_iconst X 4 dX12_beginsWalk_39 rfl 40 rfl ?_
          refine w_goto X 44 dX12_beginsWalk_40 (by decide) ?_
          refine w_keep [0, 1, 2, 3] rfl ?_
          exact w_44 (K_X12_beginsWalk_14 fu n) ih x1 x2 x3 4 (5 * x_3) x3 x3 mem hF
        · refine w_iload_n X 2 dX12_beginsWalk_43 rfl rfl 44 rfl ?_
          refine w_keep [0, 1, 2, 3] rfl ?_
          exact w_44 (K_X12_beginsWalk_14 fu n) ih x1 x2 x3 x2 (5 * x_3) x3 x3 mem hF
      · exact w_vret X hQ (o_inj hF) dX12_beginsWalk_75
  intro hF
  refine w_aload_n X 0 dX12_beginsWalk_0 rfl rfl 1 rfl ?_
  refine w_iload_n X 1 dX12_beginsWalk_1 rfl rfl 2 rfl ?_
  refine w_putI X 0 ml_0 mo_0 (T := TX12) (N := 50) rfl in_X12 tyX12 tyX12_ok nmX12 27 (by decide) kF_X12_365 rfl rfl rfl rfl (Nat.le_of_ble_eq_true rfl) rfl dX12_beginsWalk_2 5 rfl ?_
  refine w_letm hF (fun m_1 hF => ?_)
  refine w_aload_n X 0 dX12_beginsWalk_5 rfl rfl 6 rfl ?_
  refine w_iload_n X 1 dX12_beginsWalk_6 rfl rfl 7 rfl ?_
  refine w_iconst X 5 dX12_beginsWalk_7 rfl 8 rfl ?_
  refine w_callVi (fun x => x) (fun _ => m_1) X hZ hF [.int x1, .int 5] 0 ml_0 mo_0 rfl rfl rfl kB_X12_of kL_X12_174 (fun res h => ct_X12_of l hZ fu x1 5 m_1 res h) rfl rfl rfl ⟨Nat.le_of_ble_eq_true rfl, Nat.le_of_ble_eq_true rfl⟩ (Nat.le_of_ble_eq_true rfl) ⟨Nat.zero_le _, Nat.zero_le _⟩ dX12_beginsWalk_8 11 rfl (fun x_2 hF => ?_)
  refine w_istore_n X [(2, .int x_2), (0, .ref (ad 0)), (1, .int x1)] dX12_beginsWalk_11 rfl (by decide) rfl 12 rfl ?_
  refine w_iconst X 0 dX12_beginsWalk_12 rfl 13 rfl ?_
  refine w_istore_n X [(3, .int 0), (2, .int x_2), (0, .ref (ad 0)), (1, .int x1)] dX12_beginsWalk_13 rfl (by decide) rfl 14 rfl ?_
  refine w_keep [2, 3, 1, 0] rfl ?_
  exact w_14 fu x1 x_2 0 m_1 hF

def K_X12_behind (fu : Nat) (x1 : Int32) (x2 : Int32) (x3 : Int32) (x4 : Int32) (mem : Mem) : Option (Int32 × Mem) := gi ((120 + (8 * x3)) + x2) 184 (lt_ (mw mem 2 (Int32.toNatClampNeg ((120 + (8 * x3)) + x2)) x4) (fun m_2 => bd (K_X12_distanceOf fu x1 m_2) (fun p_3 => lt_ p_3.1 (fun x_4 => gi ((120 + (8 * x3)) + x2) 184 (lt_ (mw p_3.2 2 (Int32.toNatClampNeg ((120 + (8 * x3)) + x2)) 0) (fun m_6 => some (x_4, m_6)))))))
def rm_X12_behind : Room := { frames := 7, cells := 0, slots := 0, locals := 164 }
set_option maxHeartbeats 4000000 in
set_option maxRecDepth 100000 in
theorem ct_X12_behind (l : Launch) {D : va_G} {ca ad : Nat → Nat} {Z : (Nat → Prop) → State → Heap → Prop} (hZ : ZOK Z) (fu : Nat) (x1 : Int32) (x2 : Int32) (x3 : Int32) (x4 : Int32) (mem : Mem) (res : (Int32 × Mem)) (hF : K_X12_behind fu x1 x2 x3 x4 mem = some res) : CI l D (tyL ca) 23 ad (cM ca ad) Z yX12_behind cX12_behind 6 .int rm_X12_behind [.ref (ad 0), .int x1, .int x2, .int x3, .int x4] mem res.1 res.2 := by
  refine start_i (own := RX12) rfl (by decide) (Nat.le_of_ble_eq_true rfl) ?_
  intro p e s m args below meth c Q hQ X
  rw [K_X12_behind] at hF
  revert hF
  intro hF
  refine w_aload_n X 0 dX12_behind_0 rfl rfl 1 rfl ?_
  refine w_getV (v := .ref (ad 2)) X 0 ml_0 mo_0 (T := TX12) (N := 50) rfl in_X12 13 (by decide) kF_X12_20 rfl rfl dX12_behind_1 4 rfl ?_
  refine w_bipush X 120 dX12_behind_4 rfl 6 rfl ?_
  refine w_bipush X 8 dX12_behind_6 rfl 8 rfl ?_
  refine w_iload_n X 3 dX12_behind_8 rfl rfl 9 rfl ?_
  refine w_imul X dX12_behind_9 10 rfl ?_
  refine w_iadd X dX12_behind_10 11 rfl ?_
  refine w_iload_n X 2 dX12_behind_11 rfl rfl 12 rfl ?_
  refine w_iadd X dX12_behind_12 13 rfl ?_
  refine w_iload X 4 dX12_behind_13 rfl 15 rfl ?_
  refine w_gi hF (fun h_1 hF => ?_)
  refine w_ias X 2 ml_2 mo_2 (t0 := 0) rfl h_1 dX12_behind_15 16 rfl ?_
  refine w_letm hF (fun m_2 hF => ?_)
  refine w_aload_n X 0 dX12_behind_16 rfl rfl 17 rfl ?_
  refine w_iload_n X 1 dX12_behind_17 rfl rfl 18 rfl ?_
  refine w_callVi (fun x => x.1) (fun x => x.2) X hZ hF [.int x1] 0 ml_0 mo_0 rfl rfl rfl kB_X12_distanceOf kL_X12_222 (fun res h => ct_X12_distanceOf l hZ fu x1 m_2 res h) rfl rfl rfl ⟨Nat.le_of_ble_eq_true rfl, Nat.le_of_ble_eq_true rfl⟩ (Nat.le_of_ble_eq_true rfl) ⟨Nat.zero_le _, Nat.zero_le _⟩ dX12_behind_18 21 rfl (fun p_3 hF => ?_)
  refine w_let hF (fun x_4 hF => ?_)
  refine w_istore X [(5, .int x_4), (0, .ref (ad 0)), (1, .int x1), (2, .int x2), (3, .int x3), (4, .int x4)] dX12_behind_21 (by decide) rfl 23 rfl ?_
  refine w_aload_n X 1 dX12_behind_23 rfl rfl 24 rfl ?_
  refine w_getV (v := .ref (ad 2)) X 0 ml_0 mo_0 (T := TX12) (N := 50) rfl in_X12 13 (by decide) kF_X12_20 rfl rfl dX12_behind_24 27 rfl ?_
  refine w_bipush X 120 dX12_behind_27 rfl 29 rfl ?_
  refine w_bipush X 8 dX12_behind_29 rfl 31 rfl ?_
  refine w_iload_n X 4 dX12_behind_31 rfl rfl 32 rfl ?_
  refine w_imul X dX12_behind_32 33 rfl ?_
  refine w_iadd X dX12_behind_33 34 rfl ?_
  refine w_iload_n X 3 dX12_behind_34 rfl rfl 35 rfl ?_
  refine w_iadd X dX12_behind_35 36 rfl ?_
  refine w_iconst X 0 dX12_behind_36 rfl 37 rfl ?_
  refine w_gi hF (fun h_5 hF => ?_)
  refine w_ias X 2 ml_2 mo_2 (t0 := 0) rfl h_5 dX12_behind_37 38 rfl ?_
  refine w_letm hF (fun m_6 hF => ?_)
  refine w_iload X 0 dX12_behind_38 rfl 40 rfl ?_
  exact w_iret X hQ (o_inj1 hF) (o_inj2 hF) rfl dX12_behind_40

def K_X12_seeks_98 (fu : Nat) (k_9 : Int32 → Int32 → Int32 → Mem → Option (Int32 × Mem)) (k_32 : Int32 → Int32 → Int32 → Int32 → Mem → Option (Int32 × Mem)) (k_48 : Int32 → Int32 → Int32 → Int32 → Int32 → Mem → Option (Int32 × Mem)) (x1 : Int32) (x3 : Int32) (x4 : Int32) (x5 : Int32) (x6 : Int32) (mem : Mem) : Option (Int32 × Mem) := lt_ (((100 * (x5 - 1)) + (10 * x3)) + x4) (fun x_8 => lt_ (mw mem 0 36 x6) (fun m_9 => (k_48 x1 x_8 x3 x4 (x5 + 1) m_9)))
def K_X12_seeks_48 (fu : Nat) (k_9 : Int32 → Int32 → Int32 → Mem → Option (Int32 × Mem)) (k_32 : Int32 → Int32 → Int32 → Int32 → Mem → Option (Int32 × Mem)) : Nat → Int32 → Int32 → Int32 → Int32 → Int32 → Mem → Option (Int32 × Mem)
  | 0, _, _, _, _, _, _ => none
  | n + 1, x1, x2, x3, x4, x5, mem => (if 2 < x5 then (k_32 x1 x2 x3 (x4 + 1) mem) else bd (K_X12_admits fu x4 x3 x5 mem) (fun p_5 => (if p_5.1 = 0 then (K_X12_seeks_48 fu k_9 k_32 n x1 x2 x3 x4 (x5 + 1) p_5.2) else bd (K_X12_behind fu x1 x4 x3 x5 p_5.2) (fun p_6 => lt_ p_6.1 (fun x_7 => (if x2 = (-1) then (K_X12_seeks_98 fu k_9 k_32 (K_X12_seeks_48 fu k_9 k_32 n) x1 x3 x4 x5 x_7 p_6.2) else (if (rd p_6.2 0 36) < x_7 then (K_X12_seeks_98 fu k_9 k_32 (K_X12_seeks_48 fu k_9 k_32 n) x1 x3 x4 x5 x_7 p_6.2) else (K_X12_seeks_48 fu k_9 k_32 n x1 x2 x3 x4 (x5 + 1) p_6.2))))))))
def K_X12_seeks_32 (fu : Nat) (k_9 : Int32 → Int32 → Int32 → Mem → Option (Int32 × Mem)) : Nat → Int32 → Int32 → Int32 → Int32 → Mem → Option (Int32 × Mem)
  | 0, _, _, _, _, _ => none
  | n + 1, x1, x2, x3, x4, mem => gi 0 184 ((if x4 < ((rd mem 2 (Int32.toNatClampNeg 0)) - 1) then (K_X12_seeks_48 fu k_9 (K_X12_seeks_32 fu k_9 n) fu x1 x2 x3 x4 1 mem) else (k_9 x1 x2 (x3 + 1) mem)))
def K_X12_seeks_9 (fu : Nat) : Nat → Int32 → Int32 → Int32 → Mem → Option (Int32 × Mem)
  | 0, _, _, _, _ => none
  | n + 1, x1, x2, x3, mem => gi 1 184 ((if x3 < ((rd mem 2 (Int32.toNatClampNeg 1)) - 1) then bd (K_X12_hasFinished fu x1 mem) (fun x_3 => (if x_3 = 0 then (K_X12_seeks_32 fu (K_X12_seeks_9 fu n) fu x1 x2 x3 0 mem) else some (x2, mem))) else some (x2, mem)))
def K_X12_seeks (fu : Nat) (x1 : Int32) (mem : Mem) : Option (Int32 × Mem) := lt_ (mw mem 0 36 0) (fun m_1 => (K_X12_seeks_9 fu fu x1 (-1) 0 m_1))
def rm_X12_seeks : Room := { frames := 9, cells := 0, slots := 0, locals := 210 }
set_option maxHeartbeats 4000000 in
set_option maxRecDepth 100000 in
theorem ct_X12_seeks (l : Launch) {D : va_G} {ca ad : Nat → Nat} {Z : (Nat → Prop) → State → Heap → Prop} (hZ : ZOK Z) (fu : Nat) (x1 : Int32) (mem : Mem) (res : (Int32 × Mem)) (hF : K_X12_seeks fu x1 mem = some res) : CI l D (tyL ca) 23 ad (cM ca ad) Z yX12_seeks cX12_seeks 7 .int rm_X12_seeks [.ref (ad 0), .int x1] mem res.1 res.2 := by
  refine start_i (own := RX12) rfl (by decide) (Nat.le_of_ble_eq_true rfl) ?_
  intro p e s m args below meth c Q hQ X
  rw [K_X12_seeks] at hF
  revert hF
  have w_98 : ∀ (k_9 : Int32 → Int32 → Int32 → Mem → Option (Int32 × Mem)) (hk_9 : ∀ (x1 : Int32) (x2 : Int32) (x3 : Int32) (mem : Mem), k_9 x1 x2 x3 mem = some res → WW D 23 ad (cM ca ad) p l e rm_X12_seeks s m args below meth c 7 0 0 Q mem 9 [(0, .ref (ad 0)), (1, .int x1), (2, .int x2), (3, .int x3)] []) (k_32 : Int32 → Int32 → Int32 → Int32 → Mem → Option (Int32 × Mem)) (hk_32 : ∀ (x1 : Int32) (x2 : Int32) (x3 : Int32) (x4 : Int32) (mem : Mem), k_32 x1 x2 x3 x4 mem = some res → WW D 23 ad (cM ca ad) p l e rm_X12_seeks s m args below meth c 7 0 0 Q mem 32 [(0, .ref (ad 0)), (1, .int x1), (2, .int x2), (3, .int x3), (4, .int x4)] []) (k_48 : Int32 → Int32 → Int32 → Int32 → Int32 → Mem → Option (Int32 × Mem)) (hk_48 : ∀ (x1 : Int32) (x2 : Int32) (x3 : Int32) (x4 : Int32) (x5 : Int32) (mem : Mem), k_48 x1 x2 x3 x4 x5 mem = some res → WW D 23 ad (cM ca ad) p l e rm_X12_seeks s m args below meth c 7 0 0 Q mem 48 [(0, .ref (ad 0)), (1, .int x1), (2, .int x2), (3, .int x3), (4, .int x4), (5, .int x5)] []) (x1 : Int32) (x3 : Int32) (x4 : Int32) (x5 : Int32) (x6 : Int32) (mem : Mem), K_X12_seeks_98 fu k_9 k_32 k_48 x1 x3 x4 x5 x6 mem = some res → WW D 23 ad (cM ca ad) p l e rm_X12_seeks s m args below meth c 7 0 0 Q mem 98 [(0, .ref (ad 0)), (1, .int x1), (3, .int x3), (4, .int x4), (5, .int x5), (6, .int x6)] [] := by
    intro k_9 hk_9 k_32 hk_32 k_48 hk_48 x1 x3 x4 x5 x6 mem hF
    rw [K_X12_seeks_98] at hF
    refine w_bipush X 100 dX12_seeks_98 rfl 100 rfl ?_
    refine w_iload X 4 dX12_seeks_100 rfl 102 rfl ?_
    refine w_iconst X 1 dX12_seeks_102 rfl 103 rfl ?_
    refine w_isub X dX12_seeks_103 104 rfl ?_
    refine w_imul X dX12_seeks_104 105 rfl ?_
    refine w_bipush X 10 dX12_seeks_105 rfl 107 rfl ?_
    refine w_iload_n X 2 dX12_seeks_107 rfl rfl 108 rfl ?_
    refine w_imul X dX12_seeks_108 109 rfl ?_
    refine w_iadd X dX12_seeks_109 110 rfl ?_
    refine w_iload X 3 dX12_seeks_110 rfl 112 rfl ?_
    refine w_iadd X dX12_seeks_112 113 rfl ?_
    refine w_let hF (fun x_8 hF => ?_)
    refine w_istore_n X [(2, .int x_8), (0, .ref (ad 0)), (1, .int x1), (3, .int x3), (4, .int x4), (5, .int x5), (6, .int x6)] dX12_seeks_113 rfl (by decide) rfl 114 rfl ?_
    refine w_aload_n X 1 dX12_seeks_114 rfl rfl 115 rfl ?_
    refine w_iload X 6 dX12_seeks_115 rfl 117 rfl ?_
    refine w_putI X 0 ml_0 mo_0 (T := TX12) (N := 50) rfl in_X12 tyX12 tyX12_ok nmX12 36 (by decide) kF_X12_423 rfl rfl rfl rfl (Nat.le_of_ble_eq_true rfl) rfl dX12_seeks_117 120 rfl ?_
    refine w_letm hF (fun m_9 hF => ?_)
    refine w_iinc X 5 (x5 + 1) [(5, .int (x5 + 1)), (2, .int x_8), (0, .ref (ad 0)), (1, .int x1), (3, .int x3), (4, .int x4), (6, .int x6)] dX12_seeks_120 rfl rfl (by decide) rfl 123 rfl ?_
    refine w_goto X 48 dX12_seeks_123 (by decide) ?_
    refine w_keep [2, 3, 1, 4, 5, 0] rfl ?_
    exact hk_48 x1 x_8 x3 x4 (x5 + 1) m_9 hF
  have w_48 : ∀ (k_9 : Int32 → Int32 → Int32 → Mem → Option (Int32 × Mem)) (hk_9 : ∀ (x1 : Int32) (x2 : Int32) (x3 : Int32) (mem : Mem), k_9 x1 x2 x3 mem = some res → WW D 23 ad (cM ca ad) p l e rm_X12_seeks s m args below meth c 7 0 0 Q mem 9 [(0, .ref (ad 0)), (1, .int x1), (2, .int x2), (3, .int x3)] []) (k_32 : Int32 → Int32 → Int32 → Int32 → Mem → Option (Int32 × Mem)) (hk_32 : ∀ (x1 : Int32) (x2 : Int32) (x3 : Int32) (x4 : Int32) (mem : Mem), k_32 x1 x2 x3 x4 mem = some res → WW D 23 ad (cM ca ad) p l e rm_X12_seeks s m args below meth c 7 0 0 Q mem 32 [(0, .ref (ad 0)), (1, .int x1), (2, .int x2), (3, .int x3), (4, .int x4)] []) (n : Nat) (x1 : Int32) (x2 : Int32) (x3 : Int32) (x4 : Int32) (x5 : Int32) (mem : Mem), K_X12_seeks_48 fu k_9 k_32 n x1 x2 x3 x4 x5 mem = some res → WW D 23 ad (cM ca ad) p l e rm_X12_seeks s m args below meth c 7 0 0 Q mem 48 [(0, .ref (ad 0)), (1, .int x1), (2, .int x2), (3, .int x3), (4, .int x4), (5, .int x5)] [] := by
    intro k_9 hk_9 k_32 hk_32 n
    induction n with
    | zero => intro x1 x2 x3 x4 x5 mem hF; exact no_none (show (none : Option (Int32 × Mem)) = some res from hF)
    | succ n ih =>
      intro x1 x2 x3 x4 x5 mem hF
      rw [K_X12_seeks_48] at hF
      refine w_iload X 5 dX12_seeks_48 rfl 50 rfl ?_
      refine w_iconst X 2 dX12_seeks_50 rfl 51 rfl ?_
      refine w_icmp_gt X hF 126 54 dX12_seeks_51 (by decide) rfl (fun hF => ?_) (fun hF => ?_)
      · refine w_iinc X 4 (x4 + 1) [(4, .int (x4 + 1)), (0, .ref (ad 0)), (1, .int x1), (2, .int x2), (3, .int x3), (5, .int x5)] dX12_seeks_126 rfl rfl (by decide) rfl 129 rfl ?_
        refine w_goto X 32 dX12_seeks_129 (by decide) ?_
        refine w_keep [1, 2, 3, 4, 0] rfl ?_
        exact hk_32 x1 x2 x3 (x4 + 1) mem hF
      · refine w_aload_n X 0 dX12_seeks_54 rfl rfl 55 rfl ?_
        refine w_iload X 4 dX12_seeks_55 rfl 57 rfl ?_
        refine w_iload_n X 3 dX12_seeks_57 rfl rfl 58 rfl ?_
        refine w_iload X 5 dX12_seeks_58 rfl 60 rfl ?_
        refine w_callVi (fun x => x.1) (fun x => x.2) X hZ hF [.int x4, .int x3, .int x5] 0 ml_0 mo_0 rfl rfl rfl kB_X12_admits kL_X12_293 (fun res h => ct_X12_admits l hZ fu x4 x3 x5 mem res h) rfl rfl rfl ⟨Nat.le_of_ble_eq_true rfl, Nat.le_of_ble_eq_true rfl⟩ (Nat.le_of_ble_eq_true rfl) ⟨Nat.zero_le _, Nat.zero_le _⟩ dX12_seeks_60 63 rfl (fun p_5 hF => ?_)
        refine w_if_ne X hF 69 66 dX12_seeks_63 (by decide) rfl (fun hF => ?_) (fun hF => ?_)
        · refine w_goto X 120 dX12_seeks_66 (by decide) ?_
          refine w_iinc X 5 (x5 + 1) [(5, .int (x5 + 1)), (0, .ref (ad 0)), (1, .int x1), (2, .int x2), (3, .int x3), (4, .int x4)] dX12_seeks_120 rfl rfl (by decide) rfl 123 rfl ?_
          refine w_goto X 48 dX12_seeks_123 (by decide) ?_
          refine w_keep [1, 2, 3, 4, 5, 0] rfl ?_
          exact ih x1 x2 x3 x4 (x5 + 1) p_5.2 hF
        · refine w_aload_n X 0 dX12_seeks_69 rfl rfl 70 rfl ?_
          refine w_iload_n X 1 dX12_seeks_70 rfl rfl 71 rfl ?_
          refine w_iload X 4 dX12_seeks_71 rfl 73 rfl ?_
          refine w_iload_n X 3 dX12_seeks_73 rfl rfl 74 rfl ?_
          refine w_iload X 5 dX12_seeks_74 rfl 76 rfl ?_
          refine w_callVi (fun x => x.1) (fun x => x.2) X hZ hF [.int x1, .int x4, .int x3, .int x5] 0 ml_0 mo_0 rfl rfl rfl kB_X12_behind kL_X12_426 (fun res h => ct_X12_behind l hZ fu x1 x4 x3 x5 p_5.2 res h) rfl rfl rfl ⟨Nat.le_of_ble_eq_true rfl, Nat.le_of_ble_eq_true rfl⟩ (Nat.le_of_ble_eq_true rfl) ⟨Nat.zero_le _, Nat.zero_le _⟩ dX12_seeks_76 79 rfl (fun p_6 hF => ?_)
          refine w_let hF (fun x_7 hF => ?_)
          refine w_istore X [(6, .int x_7), (0, .ref (ad 0)), (1, .int x1), (2, .int x2), (3, .int x3), (4, .int x4), (5, .int x5)] dX12_seeks_79 (by decide) rfl 81 rfl ?_
          refine w_iload_n X 3 dX12_seeks_81 rfl rfl 82 rfl ?_
          refine w_iconst X (-1) dX12_seeks_82 rfl 83 rfl ?_
          refine w_icmp_eq X hF 98 86 dX12_seeks_83 (by decide) rfl (fun hF => ?_) (fun hF => ?_)
          · refine w_keep [1, 2, 4, 5, 6, 0] rfl ?_
            exact w_98 k_9 hk_9 k_32 hk_32 (K_X12_seeks_48 fu k_9 k_32 n) ih x1 x3 x4 x5 x_7 p_6.2 hF
          · refine w_iload X 0 dX12_seeks_86 rfl 88 rfl ?_
            refine w_aload_n X 1 dX12_seeks_88 rfl rfl 89 rfl ?_
            refine w_getV (v := .int (rd p_6.2 0 36)) X 0 ml_0 mo_0 (T := TX12) (N := 50) rfl in_X12 36 (by decide) kF_X12_423 rfl rfl dX12_seeks_89 92 rfl ?_
            refine w_icmp_gt X hF 98 95 dX12_seeks_92 (by decide) rfl (fun hF => ?_) (fun hF => ?_)
            · refine w_keep [1, 2, 4, 5, 6, 0] rfl ?_
              exact w_98 k_9 hk_9 k_32 hk_32 (K_X12_seeks_48 fu k_9 k_32 n) ih x1 x3 x4 x5 x_7 p_6.2 hF
            · refine w_goto X 120 dX12_seeks_95 (by decide) ?_
              refine w_iinc X 6 (x5 + 1) [(5, .int (x5 + 1)), (6, .int x_7), (0, .ref (ad 0)), (1, .int x1), (2, .int x2), (3, .int x3), (4, .int x4)] dX12_seeks_120 rfl rfl (by decide) rfl 123 rfl ?_
              refine w_goto X 48 dX12_seeks_123 (by decide) ?_
              refine w_keep [2, 3, 4, 5, 6, 0] rfl ?_
              exact ih x1 x2 x3 x4 (x5 + 1) p_6.2 hF
  have w_32 : ∀ (k_9 : Int32 → Int32 → Int32 → Mem → Option (Int32 × Mem)) (hk_9 : ∀ (x1 : Int32) (x2 : Int32) (x3 : Int32) (mem : Mem), k_9 x1 x2 x3 mem = some res → WW D 23 ad (cM ca ad) p l e rm_X12_seeks s m args below meth c 7 0 0 Q mem 9 [(0, .ref (ad 0)), (1, .int x1), (2, .int x2), (3, .int x3)] []) (n : Nat) (x1 : Int32) (x2 : Int32) (x3 : Int32) (x4 : Int32) (mem : Mem), K_X12_seeks_32 fu k_9 n x1 x2 x3 x4 mem = some res → WW D 23 ad (cM ca ad) p l e rm_X12_seeks s m args below meth c 7 0 0 Q mem 32 [(0, .ref (ad 0)), (1, .int x1), (2, .int x2), (3, .int x3), (4, .int x4)] [] := by
    intro k_9 hk_9 n
    induction n with
    | zero => intro x1 x2 x3 x4 mem hF; exact no_none (show (none : Option (Int32 × Mem)) = some res from hF)
    | succ n ih =>
      intro x1 x2 x3 x4 mem hF
      rw [K_X12_seeks_32] at hF
      refine w_iload X 4 dX12_seeks_32 rfl 34 rfl ?_
      refine w_aload_n X 0 dX12_seeks_34 rfl rfl 35 rfl ?_
      refine w_getV (v := .ref (ad 2)) X 0 ml_0 mo_0 (T := TX12) (N := 50) rfl in_X12 13 (by decide) kF_X12_20 rfl rfl dX12_seeks_35 38 rfl ?_
      refine w_iconst X 0 dX12_seeks_38 rfl 39 rfl ?_
      refine w_gi hF (fun h_4 hF => ?_)
      refine w_ial X 2 ml_2 mo_2 (t0 := 0) rfl h_4 dX12_seeks_39 40 rfl ?_
      refine w_iconst X 1 dX12_seeks_40 rfl 41 rfl ?_
      refine w_isub X dX12_seeks_41 42 rfl ?_
      refine w_icmp_ge X hF 132 45 dX12_seeks_42 (by decide) rfl (fun hF => ?_) (fun hF => ?_)
      · refine w_iconst X 1 dX12_seeks_45 rfl 46 rfl ?_
        refine w_istore X [(5, .int 1), (0, .ref (ad 0)), (1, .int x1), (2, .int x2), (3, .int x3), (4, .int x4)] dX12_seeks_46 (by decide) rfl 48 rfl ?_
        refine w_keep [1, 2, 3, 4, 5, 0] rfl ?_
        exact w_48 k_9 hk_9 (K_X12_seeks_32 fu k_9 n) ih fu x1 x2 x3 x4 1 mem hF
      · refine w_iinc X 3 (x3 + 1) [(3, .int (x3 + 1)), (0, .ref (ad 0)), (1, .int x1), (2, .int x2), (4, .int x4)] dX12_seeks_132 rfl rfl (by decide) rfl 135 rfl ?_
        refine w_goto X 9 dX12_seeks_135 (by decide) ?_
        refine w_keep [1, 2, 3, 0] rfl ?_
        exact hk_9 x1 x2 (x3 + 1) mem hF
  have w_9 : ∀ (n : Nat) (x1 : Int32) (x2 : Int32) (x3 : Int32) (mem : Mem), K_X12_seeks_9 fu n x1 x2 x3 mem = some res → WW D 23 ad (cM ca ad) p l e rm_X12_seeks s m args below meth c 7 0 0 Q mem 9 [(0, .ref (ad 0)), (1, .int x1), (2, .int x2), (3, .int x3)] [] := by
    intro n
    induction n with
    | zero => intro x1 x2 x3 mem hF; exact no_none (show (none : Option (Int32 × Mem)) = some res from hF)
    | succ n ih =>
      intro x1 x2 x3 mem hF
      rw [K_X12_seeks_9] at hF
      refine w_iload_n X 3 dX12_seeks_9 rfl rfl 10 rfl ?_
      refine w_aload_n X 0 dX12_seeks_10 rfl rfl 11 rfl ?_
      refine w_getV (v := .ref (ad 2)) X 0 ml_0 mo_0 (T := TX12) (N := 50) rfl in_X12 13 (by decide) kF_X12_20 rfl rfl dX12_seeks_11 14 rfl ?_
      refine w_iconst X 1 dX12_seeks_14 rfl 15 rfl ?_
      refine w_gi hF (fun h_2 hF => ?_)
      refine w_ial X 2 ml_2 mo_2 (t0 := 0) rfl h_2 dX12_seeks_15 16 rfl ?_
      refine w_iconst X 1 dX12_seeks_16 rfl 17 rfl ?_
      refine w_isub X dX12_seeks_17 18 rfl ?_
      refine w_icmp_ge X hF 138 21 dX12_seeks_18 (by decide) rfl (fun hF => ?_) (fun hF => ?_)
      · refine w_aload_n X 0 dX12_seeks_21 rfl rfl 22 rfl ?_
        refine w_iload_n X 1 dX12_seeks_22 rfl rfl 23 rfl ?_
        refine w_callVi (fun x => x) (fun _ => mem) X hZ hF [.int x1] 0 ml_0 mo_0 rfl rfl rfl kB_X12_hasFinished kL_X12_213 (fun res h => ct_X12_hasFinished l hZ fu x1 mem res h) rfl rfl rfl ⟨Nat.le_of_ble_eq_true rfl, Nat.le_of_ble_eq_true rfl⟩ (Nat.le_of_ble_eq_true rfl) ⟨Nat.zero_le _, Nat.zero_le _⟩ dX12_seeks_23 26 rfl (fun x_3 hF => ?_)
        refine w_if_ne X hF 138 29 dX12_seeks_26 (by decide) rfl (fun hF => ?_) (fun hF => ?_)
        · refine w_iconst X 0 dX12_seeks_29 rfl 30 rfl ?_
          refine w_istore X [(4, .int 0), (0, .ref (ad 0)), (1, .int x1), (2, .int x2), (3, .int x3)] dX12_seeks_30 (by decide) rfl 32 rfl ?_
          refine w_keep [1, 2, 3, 4, 0] rfl ?_
          exact w_32 (K_X12_seeks_9 fu n) ih fu x1 x2 x3 0 mem hF
        · refine w_iload_n X 2 dX12_seeks_138 rfl rfl 139 rfl ?_
          exact w_iret X hQ (o_inj1 hF) (o_inj2 hF) rfl dX12_seeks_139
      · refine w_iload_n X 2 dX12_seeks_138 rfl rfl 139 rfl ?_
        exact w_iret X hQ (o_inj1 hF) (o_inj2 hF) rfl dX12_seeks_139
  intro hF
  refine w_iconst X (-1) dX12_seeks_0 rfl 1 rfl ?_
  refine w_istore_n X [(2, .int (-1)), (0, .ref (ad 0)), (1, .int x1)] dX12_seeks_1 rfl (by decide) rfl 2 rfl ?_
  refine w_aload_n X 1 dX12_seeks_2 rfl rfl 3 rfl ?_
  refine w_iconst X 0 dX12_seeks_3 rfl 4 rfl ?_
  refine w_putI X 0 ml_0 mo_0 (T := TX12) (N := 50) rfl in_X12 tyX12 tyX12_ok nmX12 36 (by decide) kF_X12_423 rfl rfl rfl rfl (Nat.le_of_ble_eq_true rfl) rfl dX12_seeks_4 7 rfl ?_
  refine w_letm hF (fun m_1 hF => ?_)
  refine w_iconst X 0 dX12_seeks_7 rfl 8 rfl ?_
  refine w_istore_n X [(3, .int 0), (2, .int (-1)), (0, .ref (ad 0)), (1, .int x1)] dX12_seeks_8 rfl (by decide) rfl 9 rfl ?_
  refine w_keep [2, 3, 1, 0] rfl ?_
  exact w_9 fu x1 (-1) 0 m_1 hF

def K_X12_bestWall (fu : Nat) (x1 : Int32) (mem : Mem) : Option (Int32 × Mem) := bd (K_X12_isPawn fu x1 mem) (fun x_1 => bd (K_X12_goes fu x_1 mem) (fun p_2 => (if p_2.1 = 0 then some (0, p_2.2) else bd (K_X12_seeks fu x1 p_2.2) (fun p_3 => some (p_3.1, p_3.2)))))
def rm_X12_bestWall : Room := { frames := 10, cells := 0, slots := 0, locals := 236 }
set_option maxHeartbeats 4000000 in
set_option maxRecDepth 100000 in
theorem ct_X12_bestWall (l : Launch) {D : va_G} {ca ad : Nat → Nat} {Z : (Nat → Prop) → State → Heap → Prop} (hZ : ZOK Z) (fu : Nat) (x1 : Int32) (mem : Mem) (res : (Int32 × Mem)) (hF : K_X12_bestWall fu x1 mem = some res) : CI l D (tyL ca) 23 ad (cM ca ad) Z yX12_bestWall cX12_bestWall 2 .int rm_X12_bestWall [.ref (ad 0), .int x1] mem res.1 res.2 := by
  refine start_i (own := RX12) rfl (by decide) (Nat.le_of_ble_eq_true rfl) ?_
  intro p e s m args below meth c Q hQ X
  rw [K_X12_bestWall] at hF
  revert hF
  intro hF
  refine w_aload_n X 0 dX12_bestWall_0 rfl rfl 1 rfl ?_
  refine w_aload_n X 0 dX12_bestWall_1 rfl rfl 2 rfl ?_
  refine w_iload_n X 1 dX12_bestWall_2 rfl rfl 3 rfl ?_
  refine w_callVi (fun x => x) (fun _ => mem) X hZ hF [.int x1] 0 ml_0 mo_0 rfl rfl rfl kB_X12_isPawn kL_X12_339 (fun res h => ct_X12_isPawn l hZ fu x1 mem res h) rfl rfl rfl ⟨Nat.le_of_ble_eq_true rfl, Nat.le_of_ble_eq_true rfl⟩ (Nat.le_of_ble_eq_true rfl) ⟨Nat.zero_le _, Nat.zero_le _⟩ dX12_bestWall_3 6 rfl (fun x_1 hF => ?_)
  refine w_callVi (fun x => x.1) (fun x => x.2) X hZ hF [.int x_1] 0 ml_0 mo_0 rfl rfl rfl kB_X12_goes kL_X12_98 (fun res h => ct_X12_goes l hZ fu x_1 mem res h) rfl rfl rfl ⟨Nat.le_of_ble_eq_true rfl, Nat.le_of_ble_eq_true rfl⟩ (Nat.le_of_ble_eq_true rfl) ⟨Nat.zero_le _, Nat.zero_le _⟩ dX12_bestWall_6 9 rfl (fun p_2 hF => ?_)
  refine w_if_eq X hF 20 12 dX12_bestWall_9 (by decide) rfl (fun hF => ?_) (fun hF => ?_)
  · refine w_iconst X 0 dX12_bestWall_20 rfl 21 rfl ?_
    exact w_iret X hQ (o_inj1 hF) (o_inj2 hF) rfl dX12_bestWall_21
  · refine w_aload_n X 0 dX12_bestWall_12 rfl rfl 13 rfl ?_
    refine w_iload_n X 1 dX12_bestWall_13 rfl rfl 14 rfl ?_
    refine w_callVi (fun x => x.1) (fun x => x.2) X hZ hF [.int x1] 0 ml_0 mo_0 rfl rfl rfl kB_X12_seeks kL_X12_430 (fun res h => ct_X12_seeks l hZ fu x1 p_2.2 res h) rfl rfl rfl ⟨Nat.le_of_ble_eq_true rfl, Nat.le_of_ble_eq_true rfl⟩ (Nat.le_of_ble_eq_true rfl) ⟨Nat.zero_le _, Nat.zero_le _⟩ dX12_bestWall_14 17 rfl (fun p_3 hF => ?_)
    refine w_goto X 21 dX12_bestWall_17 (by decide) ?_
    exact w_iret X hQ (o_inj1 hF) (o_inj2 hF) rfl dX12_bestWall_21

def K_X12_wayOf (fu : Nat) (x0 : Int32) (mem : Mem) : Option Int32 := (if x0 = 0 then some 1 else some 2)
def rm_X12_wayOf : Room := { frames := 0, cells := 0, slots := 0, locals := 0 }
set_option maxHeartbeats 4000000 in
set_option maxRecDepth 100000 in
theorem ct_X12_wayOf (l : Launch) {D : va_G} {ca ad : Nat → Nat} {Z : (Nat → Prop) → State → Heap → Prop} (hZ : ZOK Z) (fu : Nat) (x0 : Int32) (mem : Mem) (res : Int32) (hF : K_X12_wayOf fu x0 mem = some res) : CI l D (tyL ca) 23 ad (cM ca ad) Z yX12_wayOf cX12_wayOf 1 .int rm_X12_wayOf [.int x0] mem res mem := by
  refine start_i (own := RX12) rfl (by decide) (Nat.le_of_ble_eq_true rfl) ?_
  intro p e s m args below meth c Q hQ X
  rw [K_X12_wayOf] at hF
  revert hF
  intro hF
  refine w_iload_n X 0 dX12_wayOf_0 rfl rfl 1 rfl ?_
  refine w_if_eq X hF 8 4 dX12_wayOf_1 (by decide) rfl (fun hF => ?_) (fun hF => ?_)
  · refine w_iconst X 1 dX12_wayOf_8 rfl 9 rfl ?_
    exact w_iret X hQ (o_inj hF) rfl rfl dX12_wayOf_9
  · refine w_iconst X 2 dX12_wayOf_4 rfl 5 rfl ?_
    refine w_goto X 9 dX12_wayOf_5 (by decide) ?_
    exact w_iret X hQ (o_inj hF) rfl rfl dX12_wayOf_9

def K_X12_mayBuild (fu : Nat) (x1 : Int32) (x2 : Int32) (x3 : Int32) (mem : Mem) : Option (Int32 × Mem) := bd (K_X12_over fu mem) (fun x_1 => (if x_1 = 0 then gi 7 184 (bd (K_X12_of fu (rd mem 2 (Int32.toNatClampNeg 7)) 3 mem) (fun x_3 => (if 0 < x_3 then bd (K_X12_admits fu x1 x2 x3 mem) (fun p_4 => (if p_4.1 = 0 then some (0, p_4.2) else some (1, p_4.2))) else some (0, mem)))) else some (0, mem)))
def rm_X12_mayBuild : Room := { frames := 9, cells := 0, slots := 0, locals := 210 }
set_option maxHeartbeats 4000000 in
set_option maxRecDepth 100000 in
theorem ct_X12_mayBuild (l : Launch) {D : va_G} {ca ad : Nat → Nat} {Z : (Nat → Prop) → State → Heap → Prop} (hZ : ZOK Z) (fu : Nat) (x1 : Int32) (x2 : Int32) (x3 : Int32) (mem : Mem) (res : (Int32 × Mem)) (hF : K_X12_mayBuild fu x1 x2 x3 mem = some res) : CI l D (tyL ca) 23 ad (cM ca ad) Z yX12_mayBuild cX12_mayBuild 4 .boolean rm_X12_mayBuild [.ref (ad 0), .int x1, .int x2, .int x3] mem res.1 res.2 := by
  refine start_i (own := RX12) rfl (by decide) (Nat.le_of_ble_eq_true rfl) ?_
  intro p e s m args below meth c Q hQ X
  rw [K_X12_mayBuild] at hF
  revert hF
  intro hF
  refine w_aload_n X 0 dX12_mayBuild_0 rfl rfl 1 rfl ?_
  refine w_callVi (fun x => x) (fun _ => mem) X hZ hF [] 0 ml_0 mo_0 rfl rfl rfl kB_X12_over kL_X12_351 (fun res h => ct_X12_over l hZ fu mem res h) rfl rfl rfl ⟨Nat.le_of_ble_eq_true rfl, Nat.le_of_ble_eq_true rfl⟩ (Nat.le_of_ble_eq_true rfl) ⟨Nat.zero_le _, Nat.zero_le _⟩ dX12_mayBuild_1 4 rfl (fun x_1 hF => ?_)
  refine w_if_ne X hF 36 7 dX12_mayBuild_4 (by decide) rfl (fun hF => ?_) (fun hF => ?_)
  · refine w_aload_n X 0 dX12_mayBuild_7 rfl rfl 8 rfl ?_
    refine w_aload_n X 0 dX12_mayBuild_8 rfl rfl 9 rfl ?_
    refine w_getV (v := .ref (ad 2)) X 0 ml_0 mo_0 (T := TX12) (N := 50) rfl in_X12 13 (by decide) kF_X12_20 rfl rfl dX12_mayBuild_9 12 rfl ?_
    refine w_bipush X 7 dX12_mayBuild_12 rfl 14 rfl ?_
    refine w_gi hF (fun h_2 hF => ?_)
    refine w_ial X 2 ml_2 mo_2 (t0 := 0) rfl h_2 dX12_mayBuild_14 15 rfl ?_
    refine w_iconst X 3 dX12_mayBuild_15 rfl 16 rfl ?_
    refine w_callVi (fun x => x) (fun _ => mem) X hZ hF [.int (rd mem 2 (Int32.toNatClampNeg 7)), .int 3] 0 ml_0 mo_0 rfl rfl rfl kB_X12_of kL_X12_174 (fun res h => ct_X12_of l hZ fu (rd mem 2 (Int32.toNatClampNeg 7)) 3 mem res h) rfl rfl rfl ⟨Nat.le_of_ble_eq_true rfl, Nat.le_of_ble_eq_true rfl⟩ (Nat.le_of_ble_eq_true rfl) ⟨Nat.zero_le _, Nat.zero_le _⟩ dX12_mayBuild_16 19 rfl (fun x_3 hF => ?_)
    refine w_if_le X hF 36 22 dX12_mayBuild_19 (by decide) rfl (fun hF => ?_) (fun hF => ?_)
    · refine w_aload_n X 0 dX12_mayBuild_22 rfl rfl 23 rfl ?_
      refine w_iload_n X 1 dX12_mayBuild_23 rfl rfl 24 rfl ?_
      refine w_iload_n X 2 dX12_mayBuild_24 rfl rfl 25 rfl ?_
      refine w_iload_n X 3 dX12_mayBuild_25 rfl rfl 26 rfl ?_
      refine w_callVi (fun x => x.1) (fun x => x.2) X hZ hF [.int x1, .int x2, .int x3] 0 ml_0 mo_0 rfl rfl rfl kB_X12_admits kL_X12_293 (fun res h => ct_X12_admits l hZ fu x1 x2 x3 mem res h) rfl rfl rfl ⟨Nat.le_of_ble_eq_true rfl, Nat.le_of_ble_eq_true rfl⟩ (Nat.le_of_ble_eq_true rfl) ⟨Nat.zero_le _, Nat.zero_le _⟩ dX12_mayBuild_26 29 rfl (fun p_4 hF => ?_)
      refine w_if_eq X hF 36 32 dX12_mayBuild_29 (by decide) rfl (fun hF => ?_) (fun hF => ?_)
      · refine w_iconst X 0 dX12_mayBuild_36 rfl 37 rfl ?_
        exact w_iret X hQ (o_inj1 hF) (o_inj2 hF) rfl dX12_mayBuild_37
      · refine w_iconst X 1 dX12_mayBuild_32 rfl 33 rfl ?_
        refine w_goto X 37 dX12_mayBuild_33 (by decide) ?_
        exact w_iret X hQ (o_inj1 hF) (o_inj2 hF) rfl dX12_mayBuild_37
    · refine w_iconst X 0 dX12_mayBuild_36 rfl 37 rfl ?_
      exact w_iret X hQ (o_inj1 hF) (o_inj2 hF) rfl dX12_mayBuild_37
  · refine w_iconst X 0 dX12_mayBuild_36 rfl 37 rfl ?_
    exact w_iret X hQ (o_inj1 hF) (o_inj2 hF) rfl dX12_mayBuild_37

def K_X12_goesBoth_18 (fu : Nat) (xs0 : Int32) (mem : Mem) : Option (Int32 × Mem) := lt_ (mw mem 0 0 xs0) (fun m_1 => (if (rd m_1 0 0) = 0 then some (1, m_1) else some (0, m_1)))
def K_X12_goesBoth (fu : Nat) (x1 : Int32) (x2 : Int32) (mem : Mem) : Option (Int32 × Mem) := (if x1 = 0 then (K_X12_goesBoth_18 fu 1 mem) else (if x2 = 0 then (K_X12_goesBoth_18 fu 2 mem) else (K_X12_goesBoth_18 fu 0 mem)))
def rm_X12_goesBoth : Room := { frames := 0, cells := 0, slots := 0, locals := 0 }
set_option maxHeartbeats 4000000 in
set_option maxRecDepth 100000 in
theorem ct_X12_goesBoth (l : Launch) {D : va_G} {ca ad : Nat → Nat} {Z : (Nat → Prop) → State → Heap → Prop} (hZ : ZOK Z) (fu : Nat) (x1 : Int32) (x2 : Int32) (mem : Mem) (res : (Int32 × Mem)) (hF : K_X12_goesBoth fu x1 x2 mem = some res) : CI l D (tyL ca) 23 ad (cM ca ad) Z yX12_goesBoth cX12_goesBoth 3 .boolean rm_X12_goesBoth [.ref (ad 0), .int x1, .int x2] mem res.1 res.2 := by
  refine start_i (own := RX12) rfl (by decide) (Nat.le_of_ble_eq_true rfl) ?_
  intro p e s m args below meth c Q hQ X
  rw [K_X12_goesBoth] at hF
  revert hF
  have w_18 : ∀ (xs0 : Int32) (mem : Mem), K_X12_goesBoth_18 fu xs0 mem = some res → WW D 23 ad (cM ca ad) p l e rm_X12_goesBoth s m args below meth c 3 0 0 Q mem 18 [(0, .ref (ad 0))] [.int xs0, .ref (ad 0)] := by
    intro xs0 mem hF
    rw [K_X12_goesBoth_18] at hF
    refine w_putI X 0 ml_0 mo_0 (T := TX12) (N := 50) rfl in_X12 tyX12 tyX12_ok nmX12 0 (by decide) kF_X12_88 rfl rfl rfl rfl (Nat.le_of_ble_eq_true rfl) rfl dX12_goesBoth_18 21 rfl ?_
    refine w_letm hF (fun m_1 hF => ?_)
    refine w_aload_n X 0 dX12_goesBoth_21 rfl rfl 22 rfl ?_
    refine w_getV (v := .int (rd m_1 0 0)) X 0 ml_0 mo_0 (T := TX12) (N := 50) rfl in_X12 0 (by decide) kF_X12_88 rfl rfl dX12_goesBoth_22 25 rfl ?_
    refine w_if_ne X hF 32 28 dX12_goesBoth_25 (by decide) rfl (fun hF => ?_) (fun hF => ?_)
    · refine w_iconst X 1 dX12_goesBoth_28 rfl 29 rfl ?_
      refine w_goto X 33 dX12_goesBoth_29 (by decide) ?_
      exact w_iret X hQ (o_inj1 hF) (o_inj2 hF) rfl dX12_goesBoth_33
    · refine w_iconst X 0 dX12_goesBoth_32 rfl 33 rfl ?_
      exact w_iret X hQ (o_inj1 hF) (o_inj2 hF) rfl dX12_goesBoth_33
  intro hF
  refine w_aload_n X 0 dX12_goesBoth_0 rfl rfl 1 rfl ?_
  refine w_iload_n X 1 dX12_goesBoth_1 rfl rfl 2 rfl ?_
  refine w_if_ne X hF 9 5 dX12_goesBoth_2 (by decide) rfl (fun hF => ?_) (fun hF => ?_)
  · refine w_iconst X 1 dX12_goesBoth_5 rfl 6 rfl ?_
    refine w_goto X 18 dX12_goesBoth_6 (by decide) ?_
    refine w_keep [0] rfl ?_
    exact w_18 1 mem hF
  · refine w_iload_n X 2 dX12_goesBoth_9 rfl rfl 10 rfl ?_
    refine w_if_ne X hF 17 13 dX12_goesBoth_10 (by decide) rfl (fun hF => ?_) (fun hF => ?_)
    · refine w_iconst X 2 dX12_goesBoth_13 rfl 14 rfl ?_
      refine w_goto X 18 dX12_goesBoth_14 (by decide) ?_
      refine w_keep [0] rfl ?_
      exact w_18 2 mem hF
    · refine w_iconst X 0 dX12_goesBoth_17 rfl 18 rfl ?_
      refine w_keep [0] rfl ?_
      exact w_18 0 mem hF

def K_X12_laysAside_2 (fu : Nat) : Nat → Int32 → Mem → Option Mem
  | 0, _, _ => none
  | n + 1, x1, mem => (if x1 < 184 then gi x1 184 (gi x1 184 (lt_ (mw mem 5 (Int32.toNatClampNeg x1) (rd mem 2 (Int32.toNatClampNeg x1))) (fun m_3 => (K_X12_laysAside_2 fu n (x1 + 1) m_3)))) else some mem)
def K_X12_laysAside (fu : Nat) (mem : Mem) : Option Mem := (K_X12_laysAside_2 fu fu 0 mem)
def rm_X12_laysAside : Room := { frames := 0, cells := 0, slots := 0, locals := 0 }
set_option maxHeartbeats 4000000 in
set_option maxRecDepth 100000 in
theorem ct_X12_laysAside (l : Launch) {D : va_G} {ca ad : Nat → Nat} {Z : (Nat → Prop) → State → Heap → Prop} (hZ : ZOK Z) (fu : Nat) (mem : Mem) (res : Mem) (hF : K_X12_laysAside fu mem = some res) : CV l D (tyL ca) 23 ad (cM ca ad) Z yX12_laysAside cX12_laysAside 2 rm_X12_laysAside [.ref (ad 0)] mem res := by
  refine start_v (own := RX12) rfl (by decide) (Nat.le_of_ble_eq_true rfl) ?_
  intro p e s m args below meth c Q hQ X
  rw [K_X12_laysAside] at hF
  revert hF
  have w_2 : ∀ (n : Nat) (x1 : Int32) (mem : Mem), K_X12_laysAside_2 fu n x1 mem = some res → WW D 23 ad (cM ca ad) p l e rm_X12_laysAside s m args below meth c 2 0 0 Q mem 2 [(0, .ref (ad 0)), (1, .int x1)] [] := by
    intro n
    induction n with
    | zero => intro x1 mem hF; exact no_none (show (none : Option Mem) = some res from hF)
    | succ n ih =>
      intro x1 mem hF
      rw [K_X12_laysAside_2] at hF
      refine w_iload_n X 1 dX12_laysAside_2 rfl rfl 3 rfl ?_
      refine w_sipush X 184 dX12_laysAside_3 rfl 6 rfl ?_
      refine w_icmp_ge X hF 27 9 dX12_laysAside_6 (by decide) rfl (fun hF => ?_) (fun hF => ?_)
      · refine w_aload_n X 0 dX12_laysAside_9 rfl rfl 10 rfl ?_
        refine w_getV (v := .ref (ad 5)) X 0 ml_0 mo_0 (T := TX12) (N := 50) rfl in_X12 16 (by decide) kF_X12_29 rfl rfl dX12_laysAside_10 13 rfl ?_
        refine w_iload_n X 1 dX12_laysAside_13 rfl rfl 14 rfl ?_
        refine w_aload_n X 0 dX12_laysAside_14 rfl rfl 15 rfl ?_
        refine w_getV (v := .ref (ad 2)) X 0 ml_0 mo_0 (T := TX12) (N := 50) rfl in_X12 13 (by decide) kF_X12_20 rfl rfl dX12_laysAside_15 18 rfl ?_
        refine w_iload_n X 1 dX12_laysAside_18 rfl rfl 19 rfl ?_
        refine w_gi hF (fun h_1 hF => ?_)
        refine w_ial X 2 ml_2 mo_2 (t0 := 0) rfl h_1 dX12_laysAside_19 20 rfl ?_
        refine w_gi hF (fun h_2 hF => ?_)
        refine w_ias X 5 ml_5 mo_5 (t0 := 0) rfl h_2 dX12_laysAside_20 21 rfl ?_
        refine w_letm hF (fun m_3 hF => ?_)
        refine w_iinc X 1 (x1 + 1) [(1, .int (x1 + 1)), (0, .ref (ad 0))] dX12_laysAside_21 rfl rfl (by decide) rfl 24 rfl ?_
        refine w_goto X 2 dX12_laysAside_24 (by decide) ?_
        refine w_keep [1, 0] rfl ?_
        exact ih (x1 + 1) m_3 hF
      · exact w_vret X hQ (o_inj hF) dX12_laysAside_27
  intro hF
  refine w_iconst X 0 dX12_laysAside_0 rfl 1 rfl ?_
  refine w_istore_n X [(1, .int 0), (0, .ref (ad 0))] dX12_laysAside_1 rfl (by decide) rfl 2 rfl ?_
  refine w_keep [1, 0] rfl ?_
  exact w_2 fu 0 mem hF

def K_X12_endsTurn_69 (fu : Nat) (x1 : Int32) (mem : Mem) : Option Mem := gi 7 184 (lt_ (mw mem 2 (Int32.toNatClampNeg 7) x1) (fun m_14 => some m_14))
def K_X12_endsTurn_20 (fu : Nat) : Nat → Int32 → Int32 → Mem → Option Mem
  | 0, _, _, _ => none
  | n + 1, x1, x2, mem => gi 2 184 ((if (rd mem 2 (Int32.toNatClampNeg 2)) < x2 then (K_X12_endsTurn_69 fu x1 mem) else gi 7 184 (gi 2 184 (gz (rd mem 2 (Int32.toNatClampNeg 2)) (lt_ (((rd mem 2 (Int32.toNatClampNeg 7)) + x2) - ((rd mem 2 (Int32.toNatClampNeg 7)) + x2) / (rd mem 2 (Int32.toNatClampNeg 2)) * (rd mem 2 (Int32.toNatClampNeg 2))) (fun x_11 => bd (K_X12_hasFinished fu x_11 mem) (fun x_12 => (if x_12 = 0 then (K_X12_endsTurn_69 fu x_11 mem) else (K_X12_endsTurn_20 fu n x1 (x2 + 1) mem)))))))))
def K_X12_endsTurn (fu : Nat) (mem : Mem) : Option Mem := gi 4 184 (gi 4 184 (lt_ (mw mem 2 (Int32.toNatClampNeg 4) ((rd mem 2 (Int32.toNatClampNeg 4)) + 1)) (fun m_3 => gi 7 184 (lt_ (rd m_3 2 (Int32.toNatClampNeg 7)) (fun x_5 => (K_X12_endsTurn_20 fu fu x_5 1 m_3))))))
def rm_X12_endsTurn : Room := { frames := 2, cells := 0, slots := 0, locals := 43 }
set_option maxHeartbeats 4000000 in
set_option maxRecDepth 100000 in
theorem ct_X12_endsTurn (l : Launch) {D : va_G} {ca ad : Nat → Nat} {Z : (Nat → Prop) → State → Heap → Prop} (hZ : ZOK Z) (fu : Nat) (mem : Mem) (res : Mem) (hF : K_X12_endsTurn fu mem = some res) : CV l D (tyL ca) 23 ad (cM ca ad) Z yX12_endsTurn cX12_endsTurn 4 rm_X12_endsTurn [.ref (ad 0)] mem res := by
  refine start_v (own := RX12) rfl (by decide) (Nat.le_of_ble_eq_true rfl) ?_
  intro p e s m args below meth c Q hQ X
  rw [K_X12_endsTurn] at hF
  revert hF
  have w_69 : ∀ (x1 : Int32) (mem : Mem), K_X12_endsTurn_69 fu x1 mem = some res → WW D 23 ad (cM ca ad) p l e rm_X12_endsTurn s m args below meth c 4 0 0 Q mem 69 [(0, .ref (ad 0)), (1, .int x1)] [] := by
    intro x1 mem hF
    rw [K_X12_endsTurn_69] at hF
    refine w_aload_n X 0 dX12_endsTurn_69 rfl rfl 70 rfl ?_
    refine w_getV (v := .ref (ad 2)) X 0 ml_0 mo_0 (T := TX12) (N := 50) rfl in_X12 13 (by decide) kF_X12_20 rfl rfl dX12_endsTurn_70 73 rfl ?_
    refine w_bipush X 7 dX12_endsTurn_73 rfl 75 rfl ?_
    refine w_iload_n X 1 dX12_endsTurn_75 rfl rfl 76 rfl ?_
    refine w_gi hF (fun h_13 hF => ?_)
    refine w_ias X 2 ml_2 mo_2 (t0 := 0) rfl h_13 dX12_endsTurn_76 77 rfl ?_
    refine w_letm hF (fun m_14 hF => ?_)
    exact w_vret X hQ (o_inj hF) dX12_endsTurn_77
  have w_20 : ∀ (n : Nat) (x1 : Int32) (x2 : Int32) (mem : Mem), K_X12_endsTurn_20 fu n x1 x2 mem = some res → WW D 23 ad (cM ca ad) p l e rm_X12_endsTurn s m args below meth c 4 0 0 Q mem 20 [(0, .ref (ad 0)), (1, .int x1), (2, .int x2)] [] := by
    intro n
    induction n with
    | zero => intro x1 x2 mem hF; exact no_none (show (none : Option Mem) = some res from hF)
    | succ n ih =>
      intro x1 x2 mem hF
      rw [K_X12_endsTurn_20] at hF
      refine w_iload_n X 2 dX12_endsTurn_20 rfl rfl 21 rfl ?_
      refine w_aload_n X 0 dX12_endsTurn_21 rfl rfl 22 rfl ?_
      refine w_getV (v := .ref (ad 2)) X 0 ml_0 mo_0 (T := TX12) (N := 50) rfl in_X12 13 (by decide) kF_X12_20 rfl rfl dX12_endsTurn_22 25 rfl ?_
      refine w_iconst X 2 dX12_endsTurn_25 rfl 26 rfl ?_
      refine w_gi hF (fun h_6 hF => ?_)
      refine w_ial X 2 ml_2 mo_2 (t0 := 0) rfl h_6 dX12_endsTurn_26 27 rfl ?_
      refine w_icmp_gt X hF 69 30 dX12_endsTurn_27 (by decide) rfl (fun hF => ?_) (fun hF => ?_)
      · refine w_keep [0, 1] rfl ?_
        exact w_69 x1 mem hF
      · refine w_aload_n X 0 dX12_endsTurn_30 rfl rfl 31 rfl ?_
        refine w_getV (v := .ref (ad 2)) X 0 ml_0 mo_0 (T := TX12) (N := 50) rfl in_X12 13 (by decide) kF_X12_20 rfl rfl dX12_endsTurn_31 34 rfl ?_
        refine w_bipush X 7 dX12_endsTurn_34 rfl 36 rfl ?_
        refine w_gi hF (fun h_7 hF => ?_)
        refine w_ial X 2 ml_2 mo_2 (t0 := 0) rfl h_7 dX12_endsTurn_36 37 rfl ?_
        refine w_iload_n X 2 dX12_endsTurn_37 rfl rfl 38 rfl ?_
        refine w_iadd X dX12_endsTurn_38 39 rfl ?_
        refine w_aload_n X 0 dX12_endsTurn_39 rfl rfl 40 rfl ?_
        refine w_getV (v := .ref (ad 2)) X 0 ml_0 mo_0 (T := TX12) (N := 50) rfl in_X12 13 (by decide) kF_X12_20 rfl rfl dX12_endsTurn_40 43 rfl ?_
        refine w_iconst X 2 dX12_endsTurn_43 rfl 44 rfl ?_
        refine w_gi hF (fun h_8 hF => ?_)
        refine w_ial X 2 ml_2 mo_2 (t0 := 0) rfl h_8 dX12_endsTurn_44 45 rfl ?_
        refine w_gz hF (fun h_9 hF => ?_)
        refine w_irem X h_9 dX12_endsTurn_45 46 rfl ?_
        refine w_let hF (fun x_11 hF => ?_)
        refine w_istore_n X [(3, .int x_11), (0, .ref (ad 0)), (1, .int x1), (2, .int x2)] dX12_endsTurn_46 rfl (by decide) rfl 47 rfl ?_
        refine w_aload_n X 1 dX12_endsTurn_47 rfl rfl 48 rfl ?_
        refine w_iload_n X 0 dX12_endsTurn_48 rfl rfl 49 rfl ?_
        refine w_callVi (fun x => x) (fun _ => mem) X hZ hF [.int x_11] 0 ml_0 mo_0 rfl rfl rfl kB_X12_hasFinished kL_X12_213 (fun res h => ct_X12_hasFinished l hZ fu x_11 mem res h) rfl rfl rfl ⟨Nat.le_of_ble_eq_true rfl, Nat.le_of_ble_eq_true rfl⟩ (Nat.le_of_ble_eq_true rfl) ⟨Nat.zero_le _, Nat.zero_le _⟩ dX12_endsTurn_49 52 rfl (fun x_12 hF => ?_)
        refine w_if_eq X hF 58 55 dX12_endsTurn_52 (by decide) rfl (fun hF => ?_) (fun hF => ?_)
        · refine w_iload_n X 0 dX12_endsTurn_58 rfl rfl 59 rfl ?_
          refine w_istore_n X [(1, .int x_11), (3, .int x_11), (0, .ref (ad 0)), (2, .int x2)] dX12_endsTurn_59 rfl (by decide) rfl 60 rfl ?_
          refine w_goto X 69 dX12_endsTurn_60 (by decide) ?_
          refine w_keep [2, 0] rfl ?_
          exact w_69 x_11 mem hF
        · refine w_goto X 63 dX12_endsTurn_55 (by decide) ?_
          refine w_iinc X 3 (x2 + 1) [(2, .int (x2 + 1)), (3, .int x_11), (0, .ref (ad 0)), (1, .int x1)] dX12_endsTurn_63 rfl rfl (by decide) rfl 66 rfl ?_
          refine w_goto X 20 dX12_endsTurn_66 (by decide) ?_
          refine w_keep [2, 3, 0] rfl ?_
          exact ih x1 (x2 + 1) mem hF
  intro hF
  refine w_aload_n X 0 dX12_endsTurn_0 rfl rfl 1 rfl ?_
  refine w_getV (v := .ref (ad 2)) X 0 ml_0 mo_0 (T := TX12) (N := 50) rfl in_X12 13 (by decide) kF_X12_20 rfl rfl dX12_endsTurn_1 4 rfl ?_
  refine w_iconst X 4 dX12_endsTurn_4 rfl 5 rfl ?_
  refine w_dup2 X dX12_endsTurn_5 rfl rfl 6 rfl ?_
  refine w_gi hF (fun h_1 hF => ?_)
  refine w_ial X 2 ml_2 mo_2 (t0 := 0) rfl h_1 dX12_endsTurn_6 7 rfl ?_
  refine w_iconst X 1 dX12_endsTurn_7 rfl 8 rfl ?_
  refine w_iadd X dX12_endsTurn_8 9 rfl ?_
  refine w_gi hF (fun h_2 hF => ?_)
  refine w_ias X 2 ml_2 mo_2 (t0 := 0) rfl h_2 dX12_endsTurn_9 10 rfl ?_
  refine w_letm hF (fun m_3 hF => ?_)
  refine w_aload_n X 0 dX12_endsTurn_10 rfl rfl 11 rfl ?_
  refine w_getV (v := .ref (ad 2)) X 0 ml_0 mo_0 (T := TX12) (N := 50) rfl in_X12 13 (by decide) kF_X12_20 rfl rfl dX12_endsTurn_11 14 rfl ?_
  refine w_bipush X 7 dX12_endsTurn_14 rfl 16 rfl ?_
  refine w_gi hF (fun h_4 hF => ?_)
  refine w_ial X 2 ml_2 mo_2 (t0 := 0) rfl h_4 dX12_endsTurn_16 17 rfl ?_
  refine w_let hF (fun x_5 hF => ?_)
  refine w_istore_n X [(1, .int x_5), (0, .ref (ad 0))] dX12_endsTurn_17 rfl (by decide) rfl 18 rfl ?_
  refine w_iconst X 1 dX12_endsTurn_18 rfl 19 rfl ?_
  refine w_istore_n X [(2, .int 1), (1, .int x_5), (0, .ref (ad 0))] dX12_endsTurn_19 rfl (by decide) rfl 20 rfl ?_
  refine w_keep [2, 1, 0] rfl ?_
  exact w_20 fu x_5 1 m_3 hF

def K_X12_builds (fu : Nat) (x1 : Int32) (x2 : Int32) (x3 : Int32) (mem : Mem) : Option (Int32 × Mem) := gi 7 184 (lt_ ((8 + (7 * (rd mem 2 (Int32.toNatClampNeg 7)))) + 3) (fun x_2 => gi ((120 + (8 * x2)) + x1) 184 (lt_ (mw mem 2 (Int32.toNatClampNeg ((120 + (8 * x2)) + x1)) x3) (fun m_4 => gi 3 184 (gi 3 184 (lt_ (mw m_4 2 (Int32.toNatClampNeg 3) ((rd m_4 2 (Int32.toNatClampNeg 3)) + 1)) (fun m_7 => gi x_2 184 (gi x_2 184 (lt_ (mw m_7 2 (Int32.toNatClampNeg x_2) ((rd m_7 2 (Int32.toNatClampNeg x_2)) - 1)) (fun m_10 => bd (K_X12_endsTurn fu m_10) (fun m_11 => gi x_2 184 (some ((rd m_11 2 (Int32.toNatClampNeg x_2)), m_11)))))))))))))
def rm_X12_builds : Room := { frames := 3, cells := 0, slots := 0, locals := 66 }
set_option maxHeartbeats 4000000 in
set_option maxRecDepth 100000 in
theorem ct_X12_builds (l : Launch) {D : va_G} {ca ad : Nat → Nat} {Z : (Nat → Prop) → State → Heap → Prop} (hZ : ZOK Z) (fu : Nat) (x1 : Int32) (x2 : Int32) (x3 : Int32) (mem : Mem) (res : (Int32 × Mem)) (hF : K_X12_builds fu x1 x2 x3 mem = some res) : CI l D (tyL ca) 23 ad (cM ca ad) Z yX12_builds cX12_builds 5 .int rm_X12_builds [.ref (ad 0), .int x1, .int x2, .int x3] mem res.1 res.2 := by
  refine start_i (own := RX12) rfl (by decide) (Nat.le_of_ble_eq_true rfl) ?_
  intro p e s m args below meth c Q hQ X
  rw [K_X12_builds] at hF
  revert hF
  intro hF
  refine w_bipush X 8 dX12_builds_0 rfl 2 rfl ?_
  refine w_bipush X 7 dX12_builds_2 rfl 4 rfl ?_
  refine w_aload_n X 0 dX12_builds_4 rfl rfl 5 rfl ?_
  refine w_getV (v := .ref (ad 2)) X 0 ml_0 mo_0 (T := TX12) (N := 50) rfl in_X12 13 (by decide) kF_X12_20 rfl rfl dX12_builds_5 8 rfl ?_
  refine w_bipush X 7 dX12_builds_8 rfl 10 rfl ?_
  refine w_gi hF (fun h_1 hF => ?_)
  refine w_ial X 2 ml_2 mo_2 (t0 := 0) rfl h_1 dX12_builds_10 11 rfl ?_
  refine w_imul X dX12_builds_11 12 rfl ?_
  refine w_iadd X dX12_builds_12 13 rfl ?_
  refine w_iconst X 3 dX12_builds_13 rfl 14 rfl ?_
  refine w_iadd X dX12_builds_14 15 rfl ?_
  refine w_let hF (fun x_2 hF => ?_)
  refine w_istore X [(4, .int x_2), (0, .ref (ad 0)), (1, .int x1), (2, .int x2), (3, .int x3)] dX12_builds_15 (by decide) rfl 17 rfl ?_
  refine w_aload_n X 1 dX12_builds_17 rfl rfl 18 rfl ?_
  refine w_getV (v := .ref (ad 2)) X 0 ml_0 mo_0 (T := TX12) (N := 50) rfl in_X12 13 (by decide) kF_X12_20 rfl rfl dX12_builds_18 21 rfl ?_
  refine w_bipush X 120 dX12_builds_21 rfl 23 rfl ?_
  refine w_bipush X 8 dX12_builds_23 rfl 25 rfl ?_
  refine w_iload_n X 3 dX12_builds_25 rfl rfl 26 rfl ?_
  refine w_imul X dX12_builds_26 27 rfl ?_
  refine w_iadd X dX12_builds_27 28 rfl ?_
  refine w_iload_n X 2 dX12_builds_28 rfl rfl 29 rfl ?_
  refine w_iadd X dX12_builds_29 30 rfl ?_
  refine w_iload_n X 4 dX12_builds_30 rfl rfl 31 rfl ?_
  refine w_gi hF (fun h_3 hF => ?_)
  refine w_ias X 2 ml_2 mo_2 (t0 := 0) rfl h_3 dX12_builds_31 32 rfl ?_
  refine w_letm hF (fun m_4 hF => ?_)
  refine w_aload_n X 1 dX12_builds_32 rfl rfl 33 rfl ?_
  refine w_getV (v := .ref (ad 2)) X 0 ml_0 mo_0 (T := TX12) (N := 50) rfl in_X12 13 (by decide) kF_X12_20 rfl rfl dX12_builds_33 36 rfl ?_
  refine w_iconst X 3 dX12_builds_36 rfl 37 rfl ?_
  refine w_dup2 X dX12_builds_37 rfl rfl 38 rfl ?_
  refine w_gi hF (fun h_5 hF => ?_)
  refine w_ial X 2 ml_2 mo_2 (t0 := 0) rfl h_5 dX12_builds_38 39 rfl ?_
  refine w_iconst X 1 dX12_builds_39 rfl 40 rfl ?_
  refine w_iadd X dX12_builds_40 41 rfl ?_
  refine w_gi hF (fun h_6 hF => ?_)
  refine w_ias X 2 ml_2 mo_2 (t0 := 0) rfl h_6 dX12_builds_41 42 rfl ?_
  refine w_letm hF (fun m_7 hF => ?_)
  refine w_aload_n X 1 dX12_builds_42 rfl rfl 43 rfl ?_
  refine w_getV (v := .ref (ad 2)) X 0 ml_0 mo_0 (T := TX12) (N := 50) rfl in_X12 13 (by decide) kF_X12_20 rfl rfl dX12_builds_43 46 rfl ?_
  refine w_iload X 0 dX12_builds_46 rfl 48 rfl ?_
  refine w_dup2 X dX12_builds_48 rfl rfl 49 rfl ?_
  refine w_gi hF (fun h_8 hF => ?_)
  refine w_ial X 2 ml_2 mo_2 (t0 := 0) rfl h_8 dX12_builds_49 50 rfl ?_
  refine w_iconst X 1 dX12_builds_50 rfl 51 rfl ?_
  refine w_isub X dX12_builds_51 52 rfl ?_
  refine w_gi hF (fun h_9 hF => ?_)
  refine w_ias X 2 ml_2 mo_2 (t0 := 0) rfl h_9 dX12_builds_52 53 rfl ?_
  refine w_letm hF (fun m_10 hF => ?_)
  refine w_aload_n X 1 dX12_builds_53 rfl rfl 54 rfl ?_
  refine w_callVv (fun m => m) X hZ hF [] 0 ml_0 mo_0 rfl rfl rfl kB_X12_endsTurn kL_X12_444 (fun res h => ct_X12_endsTurn l hZ fu m_10 res h) rfl rfl rfl ⟨Nat.le_of_ble_eq_true rfl, Nat.le_of_ble_eq_true rfl⟩ (Nat.le_of_ble_eq_true rfl) ⟨Nat.zero_le _, Nat.zero_le _⟩ dX12_builds_54 57 rfl (fun m_11 hF => ?_)
  refine w_aload_n X 1 dX12_builds_57 rfl rfl 58 rfl ?_
  refine w_getV (v := .ref (ad 2)) X 0 ml_0 mo_0 (T := TX12) (N := 50) rfl in_X12 13 (by decide) kF_X12_20 rfl rfl dX12_builds_58 61 rfl ?_
  refine w_iload X 0 dX12_builds_61 rfl 63 rfl ?_
  refine w_gi hF (fun h_12 hF => ?_)
  refine w_ial X 2 ml_2 mo_2 (t0 := 0) rfl h_12 dX12_builds_63 64 rfl ?_
  exact w_iret X hQ (o_inj1 hF) (o_inj2 hF) rfl dX12_builds_64

def K_X12_keeps_57 (fu : Nat) : Nat → Int32 → Mem → Option Mem
  | 0, _, _ => none
  | n + 1, x1, mem => (if x1 < 184 then gi x1 184 (gi ((184 * (rd mem 0 18)) + x1) 1104 (lt_ (mw mem 4 (Int32.toNatClampNeg ((184 * (rd mem 0 18)) + x1)) (rd mem 5 (Int32.toNatClampNeg x1))) (fun m_7 => (K_X12_keeps_57 fu n (x1 + 1) m_7)))) else lt_ (mw mem 0 18 ((rd mem 0 18) + 1)) (fun m_8 => some m_8))
def K_X12_keeps_55 (fu : Nat) (mem : Mem) : Option Mem := (K_X12_keeps_57 fu fu 0 mem)
def K_X12_keeps_21 (fu : Nat) : Nat → Int32 → Mem → Option Mem
  | 0, _, _ => none
  | n + 1, x1, mem => (if x1 < (184 * (rd mem 0 18)) then gi (x1 + 184) 1104 (gi x1 1104 (lt_ (mw mem 4 (Int32.toNatClampNeg x1) (rd mem 4 (Int32.toNatClampNeg (x1 + 184)))) (fun m_4 => (K_X12_keeps_21 fu n (x1 + 1) m_4)))) else (K_X12_keeps_55 fu mem))
def K_X12_keeps (fu : Nat) (mem : Mem) : Option Mem := (if (rd mem 0 18) = 6 then lt_ (mw mem 0 18 ((rd mem 0 18) - 1)) (fun m_1 => (K_X12_keeps_21 fu fu 0 m_1)) else (K_X12_keeps_55 fu mem))
def rm_X12_keeps : Room := { frames := 0, cells := 0, slots := 0, locals := 0 }
set_option maxHeartbeats 4000000 in
set_option maxRecDepth 100000 in
theorem ct_X12_keeps (l : Launch) {D : va_G} {ca ad : Nat → Nat} {Z : (Nat → Prop) → State → Heap → Prop} (hZ : ZOK Z) (fu : Nat) (mem : Mem) (res : Mem) (hF : K_X12_keeps fu mem = some res) : CV l D (tyL ca) 23 ad (cM ca ad) Z yX12_keeps cX12_keeps 2 rm_X12_keeps [.ref (ad 0)] mem res := by
  refine start_v (own := RX12) rfl (by decide) (Nat.le_of_ble_eq_true rfl) ?_
  intro p e s m args below meth c Q hQ X
  rw [K_X12_keeps] at hF
  revert hF
  have w_57 : ∀ (n : Nat) (x1 : Int32) (mem : Mem), K_X12_keeps_57 fu n x1 mem = some res → WW D 23 ad (cM ca ad) p l e rm_X12_keeps s m args below meth c 2 0 0 Q mem 57 [(0, .ref (ad 0)), (1, .int x1)] [] := by
    intro n
    induction n with
    | zero => intro x1 mem hF; exact no_none (show (none : Option Mem) = some res from hF)
    | succ n ih =>
      intro x1 mem hF
      rw [K_X12_keeps_57] at hF
      refine w_iload_n X 1 dX12_keeps_57 rfl rfl 58 rfl ?_
      refine w_sipush X 184 dX12_keeps_58 rfl 61 rfl ?_
      refine w_icmp_ge X hF 91 64 dX12_keeps_61 (by decide) rfl (fun hF => ?_) (fun hF => ?_)
      · refine w_aload_n X 0 dX12_keeps_64 rfl rfl 65 rfl ?_
        refine w_getV (v := .ref (ad 4)) X 0 ml_0 mo_0 (T := TX12) (N := 50) rfl in_X12 15 (by decide) kF_X12_26 rfl rfl dX12_keeps_65 68 rfl ?_
        refine w_sipush X 184 dX12_keeps_68 rfl 71 rfl ?_
        refine w_aload_n X 0 dX12_keeps_71 rfl rfl 72 rfl ?_
        refine w_getV (v := .int (rd mem 0 18)) X 0 ml_0 mo_0 (T := TX12) (N := 50) rfl in_X12 18 (by decide) kF_X12_167 rfl rfl dX12_keeps_72 75 rfl ?_
        refine w_imul X dX12_keeps_75 76 rfl ?_
        refine w_iload_n X 1 dX12_keeps_76 rfl rfl 77 rfl ?_
        refine w_iadd X dX12_keeps_77 78 rfl ?_
        refine w_aload_n X 0 dX12_keeps_78 rfl rfl 79 rfl ?_
        refine w_getV (v := .ref (ad 5)) X 0 ml_0 mo_0 (T := TX12) (N := 50) rfl in_X12 16 (by decide) kF_X12_29 rfl rfl dX12_keeps_79 82 rfl ?_
        refine w_iload_n X 1 dX12_keeps_82 rfl rfl 83 rfl ?_
        refine w_gi hF (fun h_5 hF => ?_)
        refine w_ial X 5 ml_5 mo_5 (t0 := 0) rfl h_5 dX12_keeps_83 84 rfl ?_
        refine w_gi hF (fun h_6 hF => ?_)
        refine w_ias X 4 ml_4 mo_4 (t0 := 0) rfl h_6 dX12_keeps_84 85 rfl ?_
        refine w_letm hF (fun m_7 hF => ?_)
        refine w_iinc X 1 (x1 + 1) [(1, .int (x1 + 1)), (0, .ref (ad 0))] dX12_keeps_85 rfl rfl (by decide) rfl 88 rfl ?_
        refine w_goto X 57 dX12_keeps_88 (by decide) ?_
        refine w_keep [1, 0] rfl ?_
        exact ih (x1 + 1) m_7 hF
      · refine w_aload_n X 0 dX12_keeps_91 rfl rfl 92 rfl ?_
        refine w_dup X dX12_keeps_92 rfl 93 rfl ?_
        refine w_getV (v := .int (rd mem 0 18)) X 0 ml_0 mo_0 (T := TX12) (N := 50) rfl in_X12 18 (by decide) kF_X12_167 rfl rfl dX12_keeps_93 96 rfl ?_
        refine w_iconst X 1 dX12_keeps_96 rfl 97 rfl ?_
        refine w_iadd X dX12_keeps_97 98 rfl ?_
        refine w_putI X 0 ml_0 mo_0 (T := TX12) (N := 50) rfl in_X12 tyX12 tyX12_ok nmX12 18 (by decide) kF_X12_167 rfl rfl rfl rfl (Nat.le_of_ble_eq_true rfl) rfl dX12_keeps_98 101 rfl ?_
        refine w_letm hF (fun m_8 hF => ?_)
        exact w_vret X hQ (o_inj hF) dX12_keeps_101
  have w_55 : ∀ (mem : Mem), K_X12_keeps_55 fu mem = some res → WW D 23 ad (cM ca ad) p l e rm_X12_keeps s m args below meth c 2 0 0 Q mem 55 [(0, .ref (ad 0))] [] := by
    intro mem hF
    rw [K_X12_keeps_55] at hF
    refine w_iconst X 0 dX12_keeps_55 rfl 56 rfl ?_
    refine w_istore_n X [(1, .int 0), (0, .ref (ad 0))] dX12_keeps_56 rfl (by decide) rfl 57 rfl ?_
    refine w_keep [1, 0] rfl ?_
    exact w_57 fu 0 mem hF
  have w_21 : ∀ (n : Nat) (x1 : Int32) (mem : Mem), K_X12_keeps_21 fu n x1 mem = some res → WW D 23 ad (cM ca ad) p l e rm_X12_keeps s m args below meth c 2 0 0 Q mem 21 [(0, .ref (ad 0)), (1, .int x1)] [] := by
    intro n
    induction n with
    | zero => intro x1 mem hF; exact no_none (show (none : Option Mem) = some res from hF)
    | succ n ih =>
      intro x1 mem hF
      rw [K_X12_keeps_21] at hF
      refine w_iload_n X 1 dX12_keeps_21 rfl rfl 22 rfl ?_
      refine w_sipush X 184 dX12_keeps_22 rfl 25 rfl ?_
      refine w_aload_n X 0 dX12_keeps_25 rfl rfl 26 rfl ?_
      refine w_getV (v := .int (rd mem 0 18)) X 0 ml_0 mo_0 (T := TX12) (N := 50) rfl in_X12 18 (by decide) kF_X12_167 rfl rfl dX12_keeps_26 29 rfl ?_
      refine w_imul X dX12_keeps_29 30 rfl ?_
      refine w_icmp_ge X hF 55 33 dX12_keeps_30 (by decide) rfl (fun hF => ?_) (fun hF => ?_)
      · refine w_aload_n X 0 dX12_keeps_33 rfl rfl 34 rfl ?_
        refine w_getV (v := .ref (ad 4)) X 0 ml_0 mo_0 (T := TX12) (N := 50) rfl in_X12 15 (by decide) kF_X12_26 rfl rfl dX12_keeps_34 37 rfl ?_
        refine w_iload_n X 1 dX12_keeps_37 rfl rfl 38 rfl ?_
        refine w_aload_n X 0 dX12_keeps_38 rfl rfl 39 rfl ?_
        refine w_getV (v := .ref (ad 4)) X 0 ml_0 mo_0 (T := TX12) (N := 50) rfl in_X12 15 (by decide) kF_X12_26 rfl rfl dX12_keeps_39 42 rfl ?_
        refine w_iload_n X 1 dX12_keeps_42 rfl rfl 43 rfl ?_
        refine w_sipush X 184 dX12_keeps_43 rfl 46 rfl ?_
        refine w_iadd X dX12_keeps_46 47 rfl ?_
        refine w_gi hF (fun h_2 hF => ?_)
        refine w_ial X 4 ml_4 mo_4 (t0 := 0) rfl h_2 dX12_keeps_47 48 rfl ?_
        refine w_gi hF (fun h_3 hF => ?_)
        refine w_ias X 4 ml_4 mo_4 (t0 := 0) rfl h_3 dX12_keeps_48 49 rfl ?_
        refine w_letm hF (fun m_4 hF => ?_)
        refine w_iinc X 1 (x1 + 1) [(1, .int (x1 + 1)), (0, .ref (ad 0))] dX12_keeps_49 rfl rfl (by decide) rfl 52 rfl ?_
        refine w_goto X 21 dX12_keeps_52 (by decide) ?_
        refine w_keep [1, 0] rfl ?_
        exact ih (x1 + 1) m_4 hF
      · refine w_keep [0] rfl ?_
        exact w_55 mem hF
  intro hF
  refine w_aload_n X 0 dX12_keeps_0 rfl rfl 1 rfl ?_
  refine w_getV (v := .int (rd mem 0 18)) X 0 ml_0 mo_0 (T := TX12) (N := 50) rfl in_X12 18 (by decide) kF_X12_167 rfl rfl dX12_keeps_1 4 rfl ?_
  refine w_bipush X 6 dX12_keeps_4 rfl 6 rfl ?_
  refine w_icmp_ne X hF 55 9 dX12_keeps_6 (by decide) rfl (fun hF => ?_) (fun hF => ?_)
  · refine w_aload_n X 0 dX12_keeps_9 rfl rfl 10 rfl ?_
    refine w_dup X dX12_keeps_10 rfl 11 rfl ?_
    refine w_getV (v := .int (rd mem 0 18)) X 0 ml_0 mo_0 (T := TX12) (N := 50) rfl in_X12 18 (by decide) kF_X12_167 rfl rfl dX12_keeps_11 14 rfl ?_
    refine w_iconst X 1 dX12_keeps_14 rfl 15 rfl ?_
    refine w_isub X dX12_keeps_15 16 rfl ?_
    refine w_putI X 0 ml_0 mo_0 (T := TX12) (N := 50) rfl in_X12 tyX12 tyX12_ok nmX12 18 (by decide) kF_X12_167 rfl rfl rfl rfl (Nat.le_of_ble_eq_true rfl) rfl dX12_keeps_16 19 rfl ?_
    refine w_letm hF (fun m_1 hF => ?_)
    refine w_iconst X 0 dX12_keeps_19 rfl 20 rfl ?_
    refine w_istore_n X [(1, .int 0), (0, .ref (ad 0))] dX12_keeps_20 rfl (by decide) rfl 21 rfl ?_
    refine w_keep [1, 0] rfl ?_
    exact w_21 fu 0 m_1 hF
  · refine w_keep [0] rfl ?_
    exact w_55 mem hF

def K_X12_build_34 (fu : Nat) (x1 : Int32) (x2 : Int32) (x3 : Int32) (xs0 : Int32) (xs1 : Int32) (mem : Mem) : Option (Int32 × Mem) := bd (K_X12_goesBoth fu xs1 xs0 mem) (fun p_4 => (if p_4.1 = 0 then some (0, p_4.2) else bd (K_X12_laysAside fu p_4.2) (fun m_5 => bd (K_X12_wayOf fu x3 m_5) (fun x_6 => bd (K_X12_builds fu x1 x2 x_6 m_5) (fun p_7 => lt_ p_7.1 (fun x_8 => bd (K_X12_keeps fu p_7.2) (fun m_9 => some (x_8, m_9))))))))
def K_X12_build_33 (fu : Nat) (x1 : Int32) (x2 : Int32) (x3 : Int32) (xs0 : Int32) (mem : Mem) : Option (Int32 × Mem) := (K_X12_build_34 fu x1 x2 x3 0 xs0 mem)
def K_X12_build (fu : Nat) (x1 : Int32) (x2 : Int32) (x3 : Int32) (mem : Mem) : Option (Int32 × Mem) := bd (K_X12_isPlace fu x1 x2 mem) (fun x_1 => (if x_1 = 0 then (K_X12_build_33 fu x1 x2 x3 x_1 mem) else bd (K_X12_wayOf fu x3 mem) (fun x_2 => bd (K_X12_mayBuild fu x1 x2 x_2 mem) (fun p_3 => (if p_3.1 = 0 then (K_X12_build_33 fu x1 x2 x3 x_1 p_3.2) else (K_X12_build_34 fu x1 x2 x3 1 x_1 p_3.2))))))
def rm_X12_build : Room := { frames := 10, cells := 0, slots := 0, locals := 233 }
set_option maxHeartbeats 4000000 in
set_option maxRecDepth 100000 in
theorem ct_X12_build (l : Launch) {D : va_G} {ca ad : Nat → Nat} {Z : (Nat → Prop) → State → Heap → Prop} (hZ : ZOK Z) (fu : Nat) (x1 : Int32) (x2 : Int32) (x3 : Int32) (mem : Mem) (res : (Int32 × Mem)) (hF : K_X12_build fu x1 x2 x3 mem = some res) : CI l D (tyL ca) 23 ad (cM ca ad) Z yX12_build cX12_build 6 .int rm_X12_build [.ref (ad 0), .int x1, .int x2, .int x3] mem res.1 res.2 := by
  refine start_i (own := RX12) rfl (by decide) (Nat.le_of_ble_eq_true rfl) ?_
  intro p e s m args below meth c Q hQ X
  rw [K_X12_build] at hF
  revert hF
  have w_34 : ∀ (x1 : Int32) (x2 : Int32) (x3 : Int32) (xs0 : Int32) (xs1 : Int32) (mem : Mem), K_X12_build_34 fu x1 x2 x3 xs0 xs1 mem = some res → WW D 23 ad (cM ca ad) p l e rm_X12_build s m args below meth c 6 0 0 Q mem 34 [(0, .ref (ad 0)), (1, .int x1), (2, .int x2), (3, .int x3)] [.int xs0, .int xs1, .ref (ad 0)] := by
    intro x1 x2 x3 xs0 xs1 mem hF
    rw [K_X12_build_34] at hF
    refine w_callVi (fun x => x.1) (fun x => x.2) X hZ hF [.int xs1, .int xs0] 0 ml_0 mo_0 rfl rfl rfl kB_X12_goesBoth kL_X12_344 (fun res h => ct_X12_goesBoth l hZ fu xs1 xs0 mem res h) rfl rfl rfl ⟨Nat.le_of_ble_eq_true rfl, Nat.le_of_ble_eq_true rfl⟩ (Nat.le_of_ble_eq_true rfl) ⟨Nat.zero_le _, Nat.zero_le _⟩ dX12_build_34 37 rfl (fun p_4 hF => ?_)
    refine w_if_ne X hF 42 40 dX12_build_37 (by decide) rfl (fun hF => ?_) (fun hF => ?_)
    · refine w_iconst X 0 dX12_build_40 rfl 41 rfl ?_
      exact w_iret X hQ (o_inj1 hF) (o_inj2 hF) rfl dX12_build_41
    · refine w_aload_n X 0 dX12_build_42 rfl rfl 43 rfl ?_
      refine w_callVv (fun m => m) X hZ hF [] 0 ml_0 mo_0 rfl rfl rfl kB_X12_laysAside kL_X12_325 (fun res h => ct_X12_laysAside l hZ fu p_4.2 res h) rfl rfl rfl ⟨Nat.le_of_ble_eq_true rfl, Nat.le_of_ble_eq_true rfl⟩ (Nat.le_of_ble_eq_true rfl) ⟨Nat.zero_le _, Nat.zero_le _⟩ dX12_build_43 46 rfl (fun m_5 hF => ?_)
      refine w_aload_n X 0 dX12_build_46 rfl rfl 47 rfl ?_
      refine w_iload_n X 1 dX12_build_47 rfl rfl 48 rfl ?_
      refine w_iload_n X 2 dX12_build_48 rfl rfl 49 rfl ?_
      refine w_iload_n X 3 dX12_build_49 rfl rfl 50 rfl ?_
      refine w_callSi (fun x => x) (fun _ => m_5) X hZ hF [.int x3] rfl kB_X12_wayOf kL_X12_359 (fun res h => ct_X12_wayOf l hZ fu x3 m_5 res h) rfl rfl rfl ⟨Nat.le_of_ble_eq_true rfl, Nat.le_of_ble_eq_true rfl⟩ (Nat.le_of_ble_eq_true rfl) ⟨Nat.zero_le _, Nat.zero_le _⟩ dX12_build_50 53 rfl (fun x_6 hF => ?_)
      refine w_callVi (fun x => x.1) (fun x => x.2) X hZ hF [.int x1, .int x2, .int x_6] 0 ml_0 mo_0 rfl rfl rfl kB_X12_builds kL_X12_462 (fun res h => ct_X12_builds l hZ fu x1 x2 x_6 m_5 res h) rfl rfl rfl ⟨Nat.le_of_ble_eq_true rfl, Nat.le_of_ble_eq_true rfl⟩ (Nat.le_of_ble_eq_true rfl) ⟨Nat.zero_le _, Nat.zero_le _⟩ dX12_build_53 56 rfl (fun p_7 hF => ?_)
      refine w_let hF (fun x_8 hF => ?_)
      refine w_istore X [(5, .int x_8), (0, .ref (ad 0)), (1, .int x1), (2, .int x2), (3, .int x3)] dX12_build_56 (by decide) rfl 58 rfl ?_
      refine w_aload_n X 1 dX12_build_58 rfl rfl 59 rfl ?_
      refine w_callVv (fun m => m) X hZ hF [] 0 ml_0 mo_0 rfl rfl rfl kB_X12_keeps kL_X12_456 (fun res h => ct_X12_keeps l hZ fu p_7.2 res h) rfl rfl rfl ⟨Nat.le_of_ble_eq_true rfl, Nat.le_of_ble_eq_true rfl⟩ (Nat.le_of_ble_eq_true rfl) ⟨Nat.zero_le _, Nat.zero_le _⟩ dX12_build_59 62 rfl (fun m_9 hF => ?_)
      refine w_iload X 0 dX12_build_62 rfl 64 rfl ?_
      exact w_iret X hQ (o_inj1 hF) (o_inj2 hF) rfl dX12_build_64
  have w_33 : ∀ (x1 : Int32) (x2 : Int32) (x3 : Int32) (xs0 : Int32) (mem : Mem), K_X12_build_33 fu x1 x2 x3 xs0 mem = some res → WW D 23 ad (cM ca ad) p l e rm_X12_build s m args below meth c 6 0 0 Q mem 33 [(0, .ref (ad 0)), (1, .int x1), (2, .int x2), (3, .int x3)] [.int xs0, .ref (ad 0)] := by
    intro x1 x2 x3 xs0 mem hF
    rw [K_X12_build_33] at hF
    refine w_iconst X 0 dX12_build_33 rfl 34 rfl ?_
    refine w_keep [0, 1, 2, 3] rfl ?_
    exact w_34 x1 x2 x3 0 xs0 mem hF
  intro hF
  refine w_aload_n X 0 dX12_build_0 rfl rfl 1 rfl ?_
  refine w_iload_n X 1 dX12_build_1 rfl rfl 2 rfl ?_
  refine w_iload_n X 2 dX12_build_2 rfl rfl 3 rfl ?_
  refine w_callVi (fun x => x) (fun _ => mem) X hZ hF [.int x1, .int x2] 0 ml_0 mo_0 rfl rfl rfl kB_X12_isPlace kL_X12_177 (fun res h => ct_X12_isPlace l hZ fu x1 x2 mem res h) rfl rfl rfl ⟨Nat.le_of_ble_eq_true rfl, Nat.le_of_ble_eq_true rfl⟩ (Nat.le_of_ble_eq_true rfl) ⟨Nat.zero_le _, Nat.zero_le _⟩ dX12_build_3 6 rfl (fun x_1 hF => ?_)
  refine w_istore X [(4, .int x_1), (0, .ref (ad 0)), (1, .int x1), (2, .int x2), (3, .int x3)] dX12_build_6 (by decide) rfl 8 rfl ?_
  refine w_aload_n X 1 dX12_build_8 rfl rfl 9 rfl ?_
  refine w_iload X 0 dX12_build_9 rfl 11 rfl ?_
  refine w_iload X 0 dX12_build_11 rfl 13 rfl ?_
  refine w_if_eq X hF 33 16 dX12_build_13 (by decide) rfl (fun hF => ?_) (fun hF => ?_)
  · refine w_keep [1, 2, 3, 4] rfl ?_
    exact w_33 x1 x2 x3 x_1 mem hF
  · refine w_aload_n X 1 dX12_build_16 rfl rfl 17 rfl ?_
    refine w_iload_n X 2 dX12_build_17 rfl rfl 18 rfl ?_
    refine w_iload_n X 3 dX12_build_18 rfl rfl 19 rfl ?_
    refine w_iload_n X 4 dX12_build_19 rfl rfl 20 rfl ?_
    refine w_callSi (fun x => x) (fun _ => mem) X hZ hF [.int x3] rfl kB_X12_wayOf kL_X12_359 (fun res h => ct_X12_wayOf l hZ fu x3 mem res h) rfl rfl rfl ⟨Nat.le_of_ble_eq_true rfl, Nat.le_of_ble_eq_true rfl⟩ (Nat.le_of_ble_eq_true rfl) ⟨Nat.zero_le _, Nat.zero_le _⟩ dX12_build_20 23 rfl (fun x_2 hF => ?_)
    refine w_callVi (fun x => x.1) (fun x => x.2) X hZ hF [.int x1, .int x2, .int x_2] 0 ml_0 mo_0 rfl rfl rfl kB_X12_mayBuild kL_X12_459 (fun res h => ct_X12_mayBuild l hZ fu x1 x2 x_2 mem res h) rfl rfl rfl ⟨Nat.le_of_ble_eq_true rfl, Nat.le_of_ble_eq_true rfl⟩ (Nat.le_of_ble_eq_true rfl) ⟨Nat.zero_le _, Nat.zero_le _⟩ dX12_build_23 26 rfl (fun p_3 hF => ?_)
    refine w_if_eq X hF 33 29 dX12_build_26 (by decide) rfl (fun hF => ?_) (fun hF => ?_)
    · refine w_keep [1, 2, 3, 4] rfl ?_
      exact w_33 x1 x2 x3 x_1 p_3.2 hF
    · refine w_iconst X 1 dX12_build_29 rfl 30 rfl ?_
      refine w_goto X 34 dX12_build_30 (by decide) ?_
      refine w_keep [1, 2, 3, 4] rfl ?_
      exact w_34 x1 x2 x3 1 x_1 p_3.2 hF

def K_X12_canStep (fu : Nat) (x1 : Int32) (x2 : Int32) (mem : Mem) : Option (Int32 × Mem) := bd (K_X12_isPawn fu x1 mem) (fun x_1 => bd (K_X12_isIn fu (Int32.toInt64 x2) 0 3 mem) (fun x_2 => bd (K_X12_goesBoth fu x_1 x_2 mem) (fun p_3 => (if p_3.1 = 0 then some (0, p_3.2) else bd (K_X12_goesBy fu x1 x2 p_3.2) (fun p_4 => (if 0 < p_4.1 then some (1, p_4.2) else some (0, p_4.2)))))))
def rm_X12_canStep : Room := { frames := 5, cells := 0, slots := 0, locals := 125 }
set_option maxHeartbeats 4000000 in
set_option maxRecDepth 100000 in
theorem ct_X12_canStep (l : Launch) {D : va_G} {ca ad : Nat → Nat} {Z : (Nat → Prop) → State → Heap → Prop} (hZ : ZOK Z) (fu : Nat) (x1 : Int32) (x2 : Int32) (mem : Mem) (res : (Int32 × Mem)) (hF : K_X12_canStep fu x1 x2 mem = some res) : CI l D (tyL ca) 23 ad (cM ca ad) Z yX12_canStep cX12_canStep 3 .boolean rm_X12_canStep [.ref (ad 0), .int x1, .int x2] mem res.1 res.2 := by
  refine start_i (own := RX12) rfl (by decide) (Nat.le_of_ble_eq_true rfl) ?_
  intro p e s m args below meth c Q hQ X
  rw [K_X12_canStep] at hF
  revert hF
  intro hF
  refine w_aload_n X 0 dX12_canStep_0 rfl rfl 1 rfl ?_
  refine w_aload_n X 0 dX12_canStep_1 rfl rfl 2 rfl ?_
  refine w_iload_n X 1 dX12_canStep_2 rfl rfl 3 rfl ?_
  refine w_callVi (fun x => x) (fun _ => mem) X hZ hF [.int x1] 0 ml_0 mo_0 rfl rfl rfl kB_X12_isPawn kL_X12_339 (fun res h => ct_X12_isPawn l hZ fu x1 mem res h) rfl rfl rfl ⟨Nat.le_of_ble_eq_true rfl, Nat.le_of_ble_eq_true rfl⟩ (Nat.le_of_ble_eq_true rfl) ⟨Nat.zero_le _, Nat.zero_le _⟩ dX12_canStep_3 6 rfl (fun x_1 hF => ?_)
  refine w_iload_n X 2 dX12_canStep_6 rfl rfl 7 rfl ?_
  refine w_i2l X dX12_canStep_7 8 rfl ?_
  refine w_lconst X 0 dX12_canStep_8 rfl 9 rfl ?_
  refine w_ldc2 X 3 kK_X12_357 dX12_canStep_9 12 rfl ?_
  refine w_callSi (fun x => x) (fun _ => mem) X hZ hF [.long (Int32.toInt64 x2), .long 0, .long 3] rfl kB_X12_isIn kL_X12_106 (fun res h => ct_X12_isIn l hZ fu (Int32.toInt64 x2) 0 3 mem res h) rfl rfl rfl ⟨Nat.le_of_ble_eq_true rfl, Nat.le_of_ble_eq_true rfl⟩ (Nat.le_of_ble_eq_true rfl) ⟨Nat.zero_le _, Nat.zero_le _⟩ dX12_canStep_12 15 rfl (fun x_2 hF => ?_)
  refine w_callVi (fun x => x.1) (fun x => x.2) X hZ hF [.int x_1, .int x_2] 0 ml_0 mo_0 rfl rfl rfl kB_X12_goesBoth kL_X12_344 (fun res h => ct_X12_goesBoth l hZ fu x_1 x_2 mem res h) rfl rfl rfl ⟨Nat.le_of_ble_eq_true rfl, Nat.le_of_ble_eq_true rfl⟩ (Nat.le_of_ble_eq_true rfl) ⟨Nat.zero_le _, Nat.zero_le _⟩ dX12_canStep_15 18 rfl (fun p_3 hF => ?_)
  refine w_if_eq X hF 34 21 dX12_canStep_18 (by decide) rfl (fun hF => ?_) (fun hF => ?_)
  · refine w_iconst X 0 dX12_canStep_34 rfl 35 rfl ?_
    exact w_iret X hQ (o_inj1 hF) (o_inj2 hF) rfl dX12_canStep_35
  · refine w_aload_n X 0 dX12_canStep_21 rfl rfl 22 rfl ?_
    refine w_iload_n X 1 dX12_canStep_22 rfl rfl 23 rfl ?_
    refine w_iload_n X 2 dX12_canStep_23 rfl rfl 24 rfl ?_
    refine w_callVi (fun x => x.1) (fun x => x.2) X hZ hF [.int x1, .int x2] 0 ml_0 mo_0 rfl rfl rfl kB_X12_goesBy kL_X12_379 (fun res h => ct_X12_goesBy l hZ fu x1 x2 p_3.2 res h) rfl rfl rfl ⟨Nat.le_of_ble_eq_true rfl, Nat.le_of_ble_eq_true rfl⟩ (Nat.le_of_ble_eq_true rfl) ⟨Nat.zero_le _, Nat.zero_le _⟩ dX12_canStep_24 27 rfl (fun p_4 hF => ?_)
    refine w_if_le X hF 34 30 dX12_canStep_27 (by decide) rfl (fun hF => ?_) (fun hF => ?_)
    · refine w_iconst X 1 dX12_canStep_30 rfl 31 rfl ?_
      refine w_goto X 35 dX12_canStep_31 (by decide) ?_
      exact w_iret X hQ (o_inj1 hF) (o_inj2 hF) rfl dX12_canStep_35
    · refine w_iconst X 0 dX12_canStep_34 rfl 35 rfl ?_
      exact w_iret X hQ (o_inj1 hF) (o_inj2 hF) rfl dX12_canStep_35

def K_X12_clears_2 (fu : Nat) : Nat → Int32 → Mem → Option Mem
  | 0, _, _ => none
  | n + 1, x1, mem => (if x1 < 184 then gi x1 184 (lt_ (mw mem 2 (Int32.toNatClampNeg x1) 0) (fun m_2 => (K_X12_clears_2 fu n (x1 + 1) m_2))) else gi 0 184 (lt_ (mw mem 2 (Int32.toNatClampNeg 0) 5) (fun m_4 => gi 1 184 (lt_ (mw m_4 2 (Int32.toNatClampNeg 1) 5) (fun m_6 => some m_6)))))
def K_X12_clears (fu : Nat) (mem : Mem) : Option Mem := (K_X12_clears_2 fu fu 0 mem)
def rm_X12_clears : Room := { frames := 0, cells := 0, slots := 0, locals := 0 }
set_option maxHeartbeats 4000000 in
set_option maxRecDepth 100000 in
theorem ct_X12_clears (l : Launch) {D : va_G} {ca ad : Nat → Nat} {Z : (Nat → Prop) → State → Heap → Prop} (hZ : ZOK Z) (fu : Nat) (mem : Mem) (res : Mem) (hF : K_X12_clears fu mem = some res) : CV l D (tyL ca) 23 ad (cM ca ad) Z yX12_clears cX12_clears 2 rm_X12_clears [.ref (ad 0)] mem res := by
  refine start_v (own := RX12) rfl (by decide) (Nat.le_of_ble_eq_true rfl) ?_
  intro p e s m args below meth c Q hQ X
  rw [K_X12_clears] at hF
  revert hF
  have w_2 : ∀ (n : Nat) (x1 : Int32) (mem : Mem), K_X12_clears_2 fu n x1 mem = some res → WW D 23 ad (cM ca ad) p l e rm_X12_clears s m args below meth c 2 0 0 Q mem 2 [(0, .ref (ad 0)), (1, .int x1)] [] := by
    intro n
    induction n with
    | zero => intro x1 mem hF; exact no_none (show (none : Option Mem) = some res from hF)
    | succ n ih =>
      intro x1 mem hF
      rw [K_X12_clears_2] at hF
      refine w_iload_n X 1 dX12_clears_2 rfl rfl 3 rfl ?_
      refine w_sipush X 184 dX12_clears_3 rfl 6 rfl ?_
      refine w_icmp_ge X hF 22 9 dX12_clears_6 (by decide) rfl (fun hF => ?_) (fun hF => ?_)
      · refine w_aload_n X 0 dX12_clears_9 rfl rfl 10 rfl ?_
        refine w_getV (v := .ref (ad 2)) X 0 ml_0 mo_0 (T := TX12) (N := 50) rfl in_X12 13 (by decide) kF_X12_20 rfl rfl dX12_clears_10 13 rfl ?_
        refine w_iload_n X 1 dX12_clears_13 rfl rfl 14 rfl ?_
        refine w_iconst X 0 dX12_clears_14 rfl 15 rfl ?_
        refine w_gi hF (fun h_1 hF => ?_)
        refine w_ias X 2 ml_2 mo_2 (t0 := 0) rfl h_1 dX12_clears_15 16 rfl ?_
        refine w_letm hF (fun m_2 hF => ?_)
        refine w_iinc X 1 (x1 + 1) [(1, .int (x1 + 1)), (0, .ref (ad 0))] dX12_clears_16 rfl rfl (by decide) rfl 19 rfl ?_
        refine w_goto X 2 dX12_clears_19 (by decide) ?_
        refine w_keep [1, 0] rfl ?_
        exact ih (x1 + 1) m_2 hF
      · refine w_aload_n X 0 dX12_clears_22 rfl rfl 23 rfl ?_
        refine w_getV (v := .ref (ad 2)) X 0 ml_0 mo_0 (T := TX12) (N := 50) rfl in_X12 13 (by decide) kF_X12_20 rfl rfl dX12_clears_23 26 rfl ?_
        refine w_iconst X 0 dX12_clears_26 rfl 27 rfl ?_
        refine w_iconst X 5 dX12_clears_27 rfl 28 rfl ?_
        refine w_gi hF (fun h_3 hF => ?_)
        refine w_ias X 2 ml_2 mo_2 (t0 := 0) rfl h_3 dX12_clears_28 29 rfl ?_
        refine w_letm hF (fun m_4 hF => ?_)
        refine w_aload_n X 0 dX12_clears_29 rfl rfl 30 rfl ?_
        refine w_getV (v := .ref (ad 2)) X 0 ml_0 mo_0 (T := TX12) (N := 50) rfl in_X12 13 (by decide) kF_X12_20 rfl rfl dX12_clears_30 33 rfl ?_
        refine w_iconst X 1 dX12_clears_33 rfl 34 rfl ?_
        refine w_iconst X 5 dX12_clears_34 rfl 35 rfl ?_
        refine w_gi hF (fun h_5 hF => ?_)
        refine w_ias X 2 ml_2 mo_2 (t0 := 0) rfl h_5 dX12_clears_35 36 rfl ?_
        refine w_letm hF (fun m_6 hF => ?_)
        exact w_vret X hQ (o_inj hF) dX12_clears_36
  intro hF
  refine w_iconst X 0 dX12_clears_0 rfl 1 rfl ?_
  refine w_istore_n X [(1, .int 0), (0, .ref (ad 0))] dX12_clears_1 rfl (by decide) rfl 2 rfl ?_
  refine w_keep [1, 0] rfl ?_
  exact w_2 fu 0 mem hF

def K_X12_comesBack_2 (fu : Nat) : Nat → Int32 → Mem → Option Mem
  | 0, _, _ => none
  | n + 1, x1, mem => (if x1 < 184 then gi x1 184 (gi x1 184 (lt_ (mw mem 2 (Int32.toNatClampNeg x1) (rd mem 5 (Int32.toNatClampNeg x1))) (fun m_3 => (K_X12_comesBack_2 fu n (x1 + 1) m_3)))) else some mem)
def K_X12_comesBack (fu : Nat) (mem : Mem) : Option Mem := (K_X12_comesBack_2 fu fu 0 mem)
def rm_X12_comesBack : Room := { frames := 0, cells := 0, slots := 0, locals := 0 }
set_option maxHeartbeats 4000000 in
set_option maxRecDepth 100000 in
theorem ct_X12_comesBack (l : Launch) {D : va_G} {ca ad : Nat → Nat} {Z : (Nat → Prop) → State → Heap → Prop} (hZ : ZOK Z) (fu : Nat) (mem : Mem) (res : Mem) (hF : K_X12_comesBack fu mem = some res) : CV l D (tyL ca) 23 ad (cM ca ad) Z yX12_comesBack cX12_comesBack 2 rm_X12_comesBack [.ref (ad 0)] mem res := by
  refine start_v (own := RX12) rfl (by decide) (Nat.le_of_ble_eq_true rfl) ?_
  intro p e s m args below meth c Q hQ X
  rw [K_X12_comesBack] at hF
  revert hF
  have w_2 : ∀ (n : Nat) (x1 : Int32) (mem : Mem), K_X12_comesBack_2 fu n x1 mem = some res → WW D 23 ad (cM ca ad) p l e rm_X12_comesBack s m args below meth c 2 0 0 Q mem 2 [(0, .ref (ad 0)), (1, .int x1)] [] := by
    intro n
    induction n with
    | zero => intro x1 mem hF; exact no_none (show (none : Option Mem) = some res from hF)
    | succ n ih =>
      intro x1 mem hF
      rw [K_X12_comesBack_2] at hF
      refine w_iload_n X 1 dX12_comesBack_2 rfl rfl 3 rfl ?_
      refine w_sipush X 184 dX12_comesBack_3 rfl 6 rfl ?_
      refine w_icmp_ge X hF 27 9 dX12_comesBack_6 (by decide) rfl (fun hF => ?_) (fun hF => ?_)
      · refine w_aload_n X 0 dX12_comesBack_9 rfl rfl 10 rfl ?_
        refine w_getV (v := .ref (ad 2)) X 0 ml_0 mo_0 (T := TX12) (N := 50) rfl in_X12 13 (by decide) kF_X12_20 rfl rfl dX12_comesBack_10 13 rfl ?_
        refine w_iload_n X 1 dX12_comesBack_13 rfl rfl 14 rfl ?_
        refine w_aload_n X 0 dX12_comesBack_14 rfl rfl 15 rfl ?_
        refine w_getV (v := .ref (ad 5)) X 0 ml_0 mo_0 (T := TX12) (N := 50) rfl in_X12 16 (by decide) kF_X12_29 rfl rfl dX12_comesBack_15 18 rfl ?_
        refine w_iload_n X 1 dX12_comesBack_18 rfl rfl 19 rfl ?_
        refine w_gi hF (fun h_1 hF => ?_)
        refine w_ial X 5 ml_5 mo_5 (t0 := 0) rfl h_1 dX12_comesBack_19 20 rfl ?_
        refine w_gi hF (fun h_2 hF => ?_)
        refine w_ias X 2 ml_2 mo_2 (t0 := 0) rfl h_2 dX12_comesBack_20 21 rfl ?_
        refine w_letm hF (fun m_3 hF => ?_)
        refine w_iinc X 1 (x1 + 1) [(1, .int (x1 + 1)), (0, .ref (ad 0))] dX12_comesBack_21 rfl rfl (by decide) rfl 24 rfl ?_
        refine w_goto X 2 dX12_comesBack_24 (by decide) ?_
        refine w_keep [1, 0] rfl ?_
        exact ih (x1 + 1) m_3 hF
      · exact w_vret X hQ (o_inj hF) dX12_comesBack_27
  intro hF
  refine w_iconst X 0 dX12_comesBack_0 rfl 1 rfl ?_
  refine w_istore_n X [(1, .int 0), (0, .ref (ad 0))] dX12_comesBack_1 rfl (by decide) rfl 2 rfl ?_
  refine w_keep [1, 0] rfl ?_
  exact w_2 fu 0 mem hF

def K_X12_comesPawn (fu : Nat) (x1 : Int64) (x3 : Int32) (x4 : Int32) (x5 : Int32) (x6 : Int32) (mem : Mem) : Option Mem := gi 2 184 (lt_ (8 + (7 * (rd mem 2 (Int32.toNatClampNeg 2)))) (fun x_2 => gi 2 184 (gi (rd mem 2 (Int32.toNatClampNeg 2)) 4 (lt_ (ml mem 9 (Int32.toNatClampNeg (rd mem 2 (Int32.toNatClampNeg 2))) x1) (fun m_5 => gi x_2 184 (lt_ (mw m_5 2 (Int32.toNatClampNeg x_2) x3) (fun m_7 => gi (x_2 + 1) 184 (lt_ (mw m_7 2 (Int32.toNatClampNeg (x_2 + 1)) x4) (fun m_9 => gi (x_2 + 2) 184 (lt_ (mw m_9 2 (Int32.toNatClampNeg (x_2 + 2)) x5) (fun m_11 => gi (x_2 + 3) 184 (lt_ (mw m_11 2 (Int32.toNatClampNeg (x_2 + 3)) x6) (fun m_13 => gi (x_2 + 4) 184 (lt_ (mw m_13 2 (Int32.toNatClampNeg (x_2 + 4)) 0) (fun m_15 => gi (x_2 + 5) 184 (lt_ (mw m_15 2 (Int32.toNatClampNeg (x_2 + 5)) (-1)) (fun m_17 => gi (x_2 + 6) 184 (lt_ (mw m_17 2 (Int32.toNatClampNeg (x_2 + 6)) 0) (fun m_19 => gi 2 184 (gi 2 184 (lt_ (mw m_19 2 (Int32.toNatClampNeg 2) ((rd m_19 2 (Int32.toNatClampNeg 2)) + 1)) (fun m_22 => some m_22))))))))))))))))))))))
def rm_X12_comesPawn : Room := { frames := 0, cells := 0, slots := 0, locals := 0 }
set_option maxHeartbeats 4000000 in
set_option maxRecDepth 100000 in
theorem ct_X12_comesPawn (l : Launch) {D : va_G} {ca ad : Nat → Nat} {Z : (Nat → Prop) → State → Heap → Prop} (hZ : ZOK Z) (fu : Nat) (x1 : Int64) (x3 : Int32) (x4 : Int32) (x5 : Int32) (x6 : Int32) (mem : Mem) (res : Mem) (hF : K_X12_comesPawn fu x1 x3 x4 x5 x6 mem = some res) : CV l D (tyL ca) 23 ad (cM ca ad) Z yX12_comesPawn cX12_comesPawn 8 rm_X12_comesPawn [.ref (ad 0), .long x1, .int x3, .int x4, .int x5, .int x6] mem res := by
  refine start_v (own := RX12) rfl (by decide) (Nat.le_of_ble_eq_true rfl) ?_
  intro p e s m args below meth c Q hQ X
  rw [K_X12_comesPawn] at hF
  revert hF
  intro hF
  refine w_bipush X 8 dX12_comesPawn_0 rfl 2 rfl ?_
  refine w_bipush X 7 dX12_comesPawn_2 rfl 4 rfl ?_
  refine w_aload_n X 0 dX12_comesPawn_4 rfl rfl 5 rfl ?_
  refine w_getV (v := .ref (ad 2)) X 0 ml_0 mo_0 (T := TX12) (N := 50) rfl in_X12 13 (by decide) kF_X12_20 rfl rfl dX12_comesPawn_5 8 rfl ?_
  refine w_iconst X 2 dX12_comesPawn_8 rfl 9 rfl ?_
  refine w_gi hF (fun h_1 hF => ?_)
  refine w_ial X 2 ml_2 mo_2 (t0 := 0) rfl h_1 dX12_comesPawn_9 10 rfl ?_
  refine w_imul X dX12_comesPawn_10 11 rfl ?_
  refine w_iadd X dX12_comesPawn_11 12 rfl ?_
  refine w_let hF (fun x_2 hF => ?_)
  refine w_istore X [(7, .int x_2), (0, .ref (ad 0)), (1, .long x1), (3, .int x3), (4, .int x4), (5, .int x5), (6, .int x6)] dX12_comesPawn_12 (by decide) rfl 14 rfl ?_
  refine w_aload_n X 1 dX12_comesPawn_14 rfl rfl 15 rfl ?_
  refine w_getV (v := .ref (ad 9)) X 0 ml_0 mo_0 (T := TX12) (N := 50) rfl in_X12 23 (by decide) kF_X12_41 rfl rfl dX12_comesPawn_15 18 rfl ?_
  refine w_aload_n X 1 dX12_comesPawn_18 rfl rfl 19 rfl ?_
  refine w_getV (v := .ref (ad 2)) X 0 ml_0 mo_0 (T := TX12) (N := 50) rfl in_X12 13 (by decide) kF_X12_20 rfl rfl dX12_comesPawn_19 22 rfl ?_
  refine w_iconst X 2 dX12_comesPawn_22 rfl 23 rfl ?_
  refine w_gi hF (fun h_3 hF => ?_)
  refine w_ial X 2 ml_2 mo_2 (t0 := 0) rfl h_3 dX12_comesPawn_23 24 rfl ?_
  refine w_lload_n X 2 dX12_comesPawn_24 rfl rfl 25 rfl ?_
  refine w_gi hF (fun h_4 hF => ?_)
  refine w_las X 9 ml_9 mo_9 (t0 := 5) rfl h_4 dX12_comesPawn_25 26 rfl ?_
  refine w_letm hF (fun m_5 hF => ?_)
  refine w_aload_n X 1 dX12_comesPawn_26 rfl rfl 27 rfl ?_
  refine w_getV (v := .ref (ad 2)) X 0 ml_0 mo_0 (T := TX12) (N := 50) rfl in_X12 13 (by decide) kF_X12_20 rfl rfl dX12_comesPawn_27 30 rfl ?_
  refine w_iload X 0 dX12_comesPawn_30 rfl 32 rfl ?_
  refine w_iload_n X 3 dX12_comesPawn_32 rfl rfl 33 rfl ?_
  refine w_gi hF (fun h_6 hF => ?_)
  refine w_ias X 2 ml_2 mo_2 (t0 := 0) rfl h_6 dX12_comesPawn_33 34 rfl ?_
  refine w_letm hF (fun m_7 hF => ?_)
  refine w_aload_n X 1 dX12_comesPawn_34 rfl rfl 35 rfl ?_
  refine w_getV (v := .ref (ad 2)) X 0 ml_0 mo_0 (T := TX12) (N := 50) rfl in_X12 13 (by decide) kF_X12_20 rfl rfl dX12_comesPawn_35 38 rfl ?_
  refine w_iload X 0 dX12_comesPawn_38 rfl 40 rfl ?_
  refine w_iconst X 1 dX12_comesPawn_40 rfl 41 rfl ?_
  refine w_iadd X dX12_comesPawn_41 42 rfl ?_
  refine w_iload X 4 dX12_comesPawn_42 rfl 44 rfl ?_
  refine w_gi hF (fun h_8 hF => ?_)
  refine w_ias X 2 ml_2 mo_2 (t0 := 0) rfl h_8 dX12_comesPawn_44 45 rfl ?_
  refine w_letm hF (fun m_9 hF => ?_)
  refine w_aload_n X 1 dX12_comesPawn_45 rfl rfl 46 rfl ?_
  refine w_getV (v := .ref (ad 2)) X 0 ml_0 mo_0 (T := TX12) (N := 50) rfl in_X12 13 (by decide) kF_X12_20 rfl rfl dX12_comesPawn_46 49 rfl ?_
  refine w_iload X 0 dX12_comesPawn_49 rfl 51 rfl ?_
  refine w_iconst X 2 dX12_comesPawn_51 rfl 52 rfl ?_
  refine w_iadd X dX12_comesPawn_52 53 rfl ?_
  refine w_iload X 5 dX12_comesPawn_53 rfl 55 rfl ?_
  refine w_gi hF (fun h_10 hF => ?_)
  refine w_ias X 2 ml_2 mo_2 (t0 := 0) rfl h_10 dX12_comesPawn_55 56 rfl ?_
  refine w_letm hF (fun m_11 hF => ?_)
  refine w_aload_n X 1 dX12_comesPawn_56 rfl rfl 57 rfl ?_
  refine w_getV (v := .ref (ad 2)) X 0 ml_0 mo_0 (T := TX12) (N := 50) rfl in_X12 13 (by decide) kF_X12_20 rfl rfl dX12_comesPawn_57 60 rfl ?_
  refine w_iload X 0 dX12_comesPawn_60 rfl 62 rfl ?_
  refine w_iconst X 3 dX12_comesPawn_62 rfl 63 rfl ?_
  refine w_iadd X dX12_comesPawn_63 64 rfl ?_
  refine w_iload X 6 dX12_comesPawn_64 rfl 66 rfl ?_
  refine w_gi hF (fun h_12 hF => ?_)
  refine w_ias X 2 ml_2 mo_2 (t0 := 0) rfl h_12 dX12_comesPawn_66 67 rfl ?_
  refine w_letm hF (fun m_13 hF => ?_)
  refine w_aload_n X 1 dX12_comesPawn_67 rfl rfl 68 rfl ?_
  refine w_getV (v := .ref (ad 2)) X 0 ml_0 mo_0 (T := TX12) (N := 50) rfl in_X12 13 (by decide) kF_X12_20 rfl rfl dX12_comesPawn_68 71 rfl ?_
  refine w_iload X 0 dX12_comesPawn_71 rfl 73 rfl ?_
  refine w_iconst X 4 dX12_comesPawn_73 rfl 74 rfl ?_
  refine w_iadd X dX12_comesPawn_74 75 rfl ?_
  refine w_iconst X 0 dX12_comesPawn_75 rfl 76 rfl ?_
  refine w_gi hF (fun h_14 hF => ?_)
  refine w_ias X 2 ml_2 mo_2 (t0 := 0) rfl h_14 dX12_comesPawn_76 77 rfl ?_
  refine w_letm hF (fun m_15 hF => ?_)
  refine w_aload_n X 1 dX12_comesPawn_77 rfl rfl 78 rfl ?_
  refine w_getV (v := .ref (ad 2)) X 0 ml_0 mo_0 (T := TX12) (N := 50) rfl in_X12 13 (by decide) kF_X12_20 rfl rfl dX12_comesPawn_78 81 rfl ?_
  refine w_iload X 0 dX12_comesPawn_81 rfl 83 rfl ?_
  refine w_iconst X 5 dX12_comesPawn_83 rfl 84 rfl ?_
  refine w_iadd X dX12_comesPawn_84 85 rfl ?_
  refine w_iconst X (-1) dX12_comesPawn_85 rfl 86 rfl ?_
  refine w_gi hF (fun h_16 hF => ?_)
  refine w_ias X 2 ml_2 mo_2 (t0 := 0) rfl h_16 dX12_comesPawn_86 87 rfl ?_
  refine w_letm hF (fun m_17 hF => ?_)
  refine w_aload_n X 1 dX12_comesPawn_87 rfl rfl 88 rfl ?_
  refine w_getV (v := .ref (ad 2)) X 0 ml_0 mo_0 (T := TX12) (N := 50) rfl in_X12 13 (by decide) kF_X12_20 rfl rfl dX12_comesPawn_88 91 rfl ?_
  refine w_iload X 0 dX12_comesPawn_91 rfl 93 rfl ?_
  refine w_bipush X 6 dX12_comesPawn_93 rfl 95 rfl ?_
  refine w_iadd X dX12_comesPawn_95 96 rfl ?_
  refine w_iconst X 0 dX12_comesPawn_96 rfl 97 rfl ?_
  refine w_gi hF (fun h_18 hF => ?_)
  refine w_ias X 2 ml_2 mo_2 (t0 := 0) rfl h_18 dX12_comesPawn_97 98 rfl ?_
  refine w_letm hF (fun m_19 hF => ?_)
  refine w_aload_n X 1 dX12_comesPawn_98 rfl rfl 99 rfl ?_
  refine w_getV (v := .ref (ad 2)) X 0 ml_0 mo_0 (T := TX12) (N := 50) rfl in_X12 13 (by decide) kF_X12_20 rfl rfl dX12_comesPawn_99 102 rfl ?_
  refine w_iconst X 2 dX12_comesPawn_102 rfl 103 rfl ?_
  refine w_dup2 X dX12_comesPawn_103 rfl rfl 104 rfl ?_
  refine w_gi hF (fun h_20 hF => ?_)
  refine w_ial X 2 ml_2 mo_2 (t0 := 0) rfl h_20 dX12_comesPawn_104 105 rfl ?_
  refine w_iconst X 1 dX12_comesPawn_105 rfl 106 rfl ?_
  refine w_iadd X dX12_comesPawn_106 107 rfl ?_
  refine w_gi hF (fun h_21 hF => ?_)
  refine w_ias X 2 ml_2 mo_2 (t0 := 0) rfl h_21 dX12_comesPawn_107 108 rfl ?_
  refine w_letm hF (fun m_22 hF => ?_)
  exact w_vret X hQ (o_inj hF) dX12_comesPawn_108

def K_X12_comesWithout_106 (fu : Nat) (k_55 : Int32 → Int32 → Int32 → Mem → Option (Int32 × Mem)) (x1 : Int32) (x4 : Int32) (xs0 : Int32) (mem : Mem) : Option (Int32 × Mem) := gi x4 81 (bd (K_X12_goesAround fu (rd mem 8 (Int32.toNatClampNeg x4)) mem) (fun m_19 => (k_55 x1 xs0 (x4 + 1) m_19)))
def K_X12_comesWithout_101 (fu : Nat) (k_55 : Int32 → Int32 → Int32 → Mem → Option (Int32 × Mem)) (x1 : Int32) (x4 : Int32) (mem : Mem) : Option (Int32 × Mem) := (K_X12_comesWithout_106 fu k_55 x1 x4 1 mem)
def K_X12_comesWithout_55 (fu : Nat) : Nat → Int32 → Int32 → Int32 → Mem → Option (Int32 × Mem)
  | 0, _, _, _, _ => none
  | n + 1, x1, x3, x4, mem => (if x4 < (rd mem 0 22) then (if x3 = 0 then gi x4 81 (lt_ ((rd mem 8 (Int32.toNatClampNeg x4)) - (rd mem 8 (Int32.toNatClampNeg x4)) / 9 * 9) (fun x_11 => gi x4 81 (lt_ ((rd mem 8 (Int32.toNatClampNeg x4)) / 9) (fun x_14 => bd (K_X12_of fu x1 2 mem) (fun x_15 => bd (K_X12_isAtSide fu x_11 x_14 x_15 mem) (fun x_16 => (if x_16 = 0 then (K_X12_comesWithout_106 fu (K_X12_comesWithout_55 fu n) x1 x4 0 mem) else (K_X12_comesWithout_101 fu (K_X12_comesWithout_55 fu n) x1 x4 mem)))))))) else (K_X12_comesWithout_101 fu (K_X12_comesWithout_55 fu n) x1 x4 mem)) else gb x3 (some (x3, mem)))
def K_X12_comesWithout_7 (fu : Nat) : Nat → Int32 → Int32 → Int32 → Mem → Option (Int32 × Mem)
  | 0, _, _, _, _ => none
  | n + 1, x1, x2, x3, mem => (if x3 < 81 then gi x3 81 (lt_ (mw mem 7 (Int32.toNatClampNeg x3) (-1)) (fun m_3 => (K_X12_comesWithout_7 fu n x1 x2 (x3 + 1) m_3))) else gi x2 81 (lt_ (mw mem 7 (Int32.toNatClampNeg x2) 0) (fun m_5 => bd (K_X12_of fu x1 0 m_5) (fun x_6 => bd (K_X12_of fu x1 1 m_5) (fun x_7 => bd (K_X12_comesInto fu x_6 x_7 0 m_5) (fun m_8 => (K_X12_comesWithout_55 fu fu x1 0 0 m_8)))))))
def K_X12_comesWithout (fu : Nat) (x1 : Int32) (x2 : Int32) (mem : Mem) : Option (Int32 × Mem) := lt_ (mw mem 0 22 0) (fun m_1 => (K_X12_comesWithout_7 fu fu x1 x2 0 m_1))
def rm_X12_comesWithout : Room := { frames := 5, cells := 0, slots := 0, locals := 120 }
set_option maxHeartbeats 4000000 in
set_option maxRecDepth 100000 in
theorem ct_X12_comesWithout (l : Launch) {D : va_G} {ca ad : Nat → Nat} {Z : (Nat → Prop) → State → Heap → Prop} (hZ : ZOK Z) (fu : Nat) (x1 : Int32) (x2 : Int32) (mem : Mem) (res : (Int32 × Mem)) (hF : K_X12_comesWithout fu x1 x2 mem = some res) : CI l D (tyL ca) 23 ad (cM ca ad) Z yX12_comesWithout cX12_comesWithout 5 .boolean rm_X12_comesWithout [.ref (ad 0), .int x1, .int x2] mem res.1 res.2 := by
  refine start_i (own := RX12) rfl (by decide) (Nat.le_of_ble_eq_true rfl) ?_
  intro p e s m args below meth c Q hQ X
  rw [K_X12_comesWithout] at hF
  revert hF
  have w_106 : ∀ (k_55 : Int32 → Int32 → Int32 → Mem → Option (Int32 × Mem)) (hk_55 : ∀ (x1 : Int32) (x3 : Int32) (x4 : Int32) (mem : Mem), k_55 x1 x3 x4 mem = some res → WW D 23 ad (cM ca ad) p l e rm_X12_comesWithout s m args below meth c 5 0 0 Q mem 55 [(0, .ref (ad 0)), (1, .int x1), (3, .int x3), (4, .int x4)] []) (x1 : Int32) (x4 : Int32) (xs0 : Int32) (mem : Mem), K_X12_comesWithout_106 fu k_55 x1 x4 xs0 mem = some res → WW D 23 ad (cM ca ad) p l e rm_X12_comesWithout s m args below meth c 5 0 0 Q mem 106 [(0, .ref (ad 0)), (1, .int x1), (4, .int x4)] [.int xs0] := by
    intro k_55 hk_55 x1 x4 xs0 mem hF
    rw [K_X12_comesWithout_106] at hF
    refine w_istore_n X [(3, .int xs0), (0, .ref (ad 0)), (1, .int x1), (4, .int x4)] dX12_comesWithout_106 rfl (by decide) rfl 107 rfl ?_
    refine w_aload_n X 1 dX12_comesWithout_107 rfl rfl 108 rfl ?_
    refine w_aload_n X 1 dX12_comesWithout_108 rfl rfl 109 rfl ?_
    refine w_getV (v := .ref (ad 8)) X 0 ml_0 mo_0 (T := TX12) (N := 50) rfl in_X12 21 (by decide) kF_X12_38 rfl rfl dX12_comesWithout_109 112 rfl ?_
    refine w_iload X 3 dX12_comesWithout_112 rfl 114 rfl ?_
    refine w_gi hF (fun h_18 hF => ?_)
    refine w_ial X 8 ml_8 mo_8 (t0 := 0) rfl h_18 dX12_comesWithout_114 115 rfl ?_
    refine w_callVv (fun m => m) X hZ hF [.int (rd mem 8 (Int32.toNatClampNeg x4))] 0 ml_0 mo_0 rfl rfl rfl kB_X12_goesAround kL_X12_207 (fun res h => ct_X12_goesAround l hZ fu (rd mem 8 (Int32.toNatClampNeg x4)) mem res h) rfl rfl rfl ⟨Nat.le_of_ble_eq_true rfl, Nat.le_of_ble_eq_true rfl⟩ (Nat.le_of_ble_eq_true rfl) ⟨Nat.zero_le _, Nat.zero_le _⟩ dX12_comesWithout_115 118 rfl (fun m_19 hF => ?_)
    refine w_iinc X 3 (x4 + 1) [(4, .int (x4 + 1)), (3, .int xs0), (0, .ref (ad 0)), (1, .int x1)] dX12_comesWithout_118 rfl rfl (by decide) rfl 121 rfl ?_
    refine w_goto X 55 dX12_comesWithout_121 (by decide) ?_
    refine w_keep [2, 3, 1, 0] rfl ?_
    exact hk_55 x1 xs0 (x4 + 1) m_19 hF
  have w_101 : ∀ (k_55 : Int32 → Int32 → Int32 → Mem → Option (Int32 × Mem)) (hk_55 : ∀ (x1 : Int32) (x3 : Int32) (x4 : Int32) (mem : Mem), k_55 x1 x3 x4 mem = some res → WW D 23 ad (cM ca ad) p l e rm_X12_comesWithout s m args below meth c 5 0 0 Q mem 55 [(0, .ref (ad 0)), (1, .int x1), (3, .int x3), (4, .int x4)] []) (x1 : Int32) (x4 : Int32) (mem : Mem), K_X12_comesWithout_101 fu k_55 x1 x4 mem = some res → WW D 23 ad (cM ca ad) p l e rm_X12_comesWithout s m args below meth c 5 0 0 Q mem 101 [(0, .ref (ad 0)), (1, .int x1), (4, .int x4)] [] := by
    intro k_55 hk_55 x1 x4 mem hF
    rw [K_X12_comesWithout_101] at hF
    refine w_iconst X 1 dX12_comesWithout_101 rfl 102 rfl ?_
    refine w_goto X 106 dX12_comesWithout_102 (by decide) ?_
    refine w_keep [0, 1, 2] rfl ?_
    exact w_106 k_55 hk_55 x1 x4 1 mem hF
  have w_55 : ∀ (n : Nat) (x1 : Int32) (x3 : Int32) (x4 : Int32) (mem : Mem), K_X12_comesWithout_55 fu n x1 x3 x4 mem = some res → WW D 23 ad (cM ca ad) p l e rm_X12_comesWithout s m args below meth c 5 0 0 Q mem 55 [(0, .ref (ad 0)), (1, .int x1), (3, .int x3), (4, .int x4)] [] := by
    intro n
    induction n with
    | zero => intro x1 x3 x4 mem hF; exact no_none (show (none : Option (Int32 × Mem)) = some res from hF)
    | succ n ih =>
      intro x1 x3 x4 mem hF
      rw [K_X12_comesWithout_55] at hF
      refine w_iload X 3 dX12_comesWithout_55 rfl 57 rfl ?_
      refine w_aload_n X 0 dX12_comesWithout_57 rfl rfl 58 rfl ?_
      refine w_getV (v := .int (rd mem 0 22)) X 0 ml_0 mo_0 (T := TX12) (N := 50) rfl in_X12 22 (by decide) kF_X12_196 rfl rfl dX12_comesWithout_58 61 rfl ?_
      refine w_icmp_ge X hF 124 64 dX12_comesWithout_61 (by decide) rfl (fun hF => ?_) (fun hF => ?_)
      · refine w_iload_n X 2 dX12_comesWithout_64 rfl rfl 65 rfl ?_
        refine w_if_ne X hF 101 68 dX12_comesWithout_65 (by decide) rfl (fun hF => ?_) (fun hF => ?_)
        · refine w_aload_n X 0 dX12_comesWithout_68 rfl rfl 69 rfl ?_
          refine w_aload_n X 0 dX12_comesWithout_69 rfl rfl 70 rfl ?_
          refine w_getV (v := .ref (ad 8)) X 0 ml_0 mo_0 (T := TX12) (N := 50) rfl in_X12 21 (by decide) kF_X12_38 rfl rfl dX12_comesWithout_70 73 rfl ?_
          refine w_iload X 3 dX12_comesWithout_73 rfl 75 rfl ?_
          refine w_gi hF (fun h_9 hF => ?_)
          refine w_ial X 8 ml_8 mo_8 (t0 := 0) rfl h_9 dX12_comesWithout_75 76 rfl ?_
          refine w_bipush X 9 dX12_comesWithout_76 rfl 78 rfl ?_
          refine w_irem X (by decide) dX12_comesWithout_78 79 rfl ?_
          refine w_let hF (fun x_11 hF => ?_)
          refine w_aload_n X 0 dX12_comesWithout_79 rfl rfl 80 rfl ?_
          refine w_getV (v := .ref (ad 8)) X 0 ml_0 mo_0 (T := TX12) (N := 50) rfl in_X12 21 (by decide) kF_X12_38 rfl rfl dX12_comesWithout_80 83 rfl ?_
          refine w_iload X 3 dX12_comesWithout_83 rfl 85 rfl ?_
          refine w_gi hF (fun h_12 hF => ?_)
          refine w_ial X 8 ml_8 mo_8 (t0 := 0) rfl h_12 dX12_comesWithout_85 86 rfl ?_
          refine w_bipush X 9 dX12_comesWithout_86 rfl 88 rfl ?_
          refine w_idiv X (by decide) dX12_comesWithout_88 89 rfl ?_
          refine w_let hF (fun x_14 hF => ?_)
          refine w_aload_n X 0 dX12_comesWithout_89 rfl rfl 90 rfl ?_
          refine w_iload_n X 1 dX12_comesWithout_90 rfl rfl 91 rfl ?_
          refine w_iconst X 2 dX12_comesWithout_91 rfl 92 rfl ?_
          refine w_callVi (fun x => x) (fun _ => mem) X hZ hF [.int x1, .int 2] 0 ml_0 mo_0 rfl rfl rfl kB_X12_of kL_X12_174 (fun res h => ct_X12_of l hZ fu x1 2 mem res h) rfl rfl rfl ⟨Nat.le_of_ble_eq_true rfl, Nat.le_of_ble_eq_true rfl⟩ (Nat.le_of_ble_eq_true rfl) ⟨Nat.zero_le _, Nat.zero_le _⟩ dX12_comesWithout_92 95 rfl (fun x_15 hF => ?_)
          refine w_callVi (fun x => x) (fun _ => mem) X hZ hF [.int x_11, .int x_14, .int x_15] 0 ml_0 mo_0 rfl rfl rfl kB_X12_isAtSide kL_X12_199 (fun res h => ct_X12_isAtSide l hZ fu x_11 x_14 x_15 mem res h) rfl rfl rfl ⟨Nat.le_of_ble_eq_true rfl, Nat.le_of_ble_eq_true rfl⟩ (Nat.le_of_ble_eq_true rfl) ⟨Nat.zero_le _, Nat.zero_le _⟩ dX12_comesWithout_95 98 rfl (fun x_16 hF => ?_)
          refine w_if_eq X hF 105 101 dX12_comesWithout_98 (by decide) rfl (fun hF => ?_) (fun hF => ?_)
          · refine w_iconst X 0 dX12_comesWithout_105 rfl 106 rfl ?_
            refine w_keep [0, 1, 3] rfl ?_
            exact w_106 (K_X12_comesWithout_55 fu n) ih x1 x4 0 mem hF
          · refine w_keep [0, 1, 3] rfl ?_
            exact w_101 (K_X12_comesWithout_55 fu n) ih x1 x4 mem hF
        · refine w_keep [0, 1, 3] rfl ?_
          exact w_101 (K_X12_comesWithout_55 fu n) ih x1 x4 mem hF
      · refine w_iload_n X 2 dX12_comesWithout_124 rfl rfl 125 rfl ?_
        refine w_gb hF (fun h_17 hF => ?_)
        exact w_iret X hQ (o_inj1 hF) (o_inj2 hF) (bool_nar h_17) dX12_comesWithout_125
  have w_7 : ∀ (n : Nat) (x1 : Int32) (x2 : Int32) (x3 : Int32) (mem : Mem), K_X12_comesWithout_7 fu n x1 x2 x3 mem = some res → WW D 23 ad (cM ca ad) p l e rm_X12_comesWithout s m args below meth c 5 0 0 Q mem 7 [(0, .ref (ad 0)), (1, .int x1), (2, .int x2), (3, .int x3)] [] := by
    intro n
    induction n with
    | zero => intro x1 x2 x3 mem hF; exact no_none (show (none : Option (Int32 × Mem)) = some res from hF)
    | succ n ih =>
      intro x1 x2 x3 mem hF
      rw [K_X12_comesWithout_7] at hF
      refine w_iload_n X 3 dX12_comesWithout_7 rfl rfl 8 rfl ?_
      refine w_bipush X 81 dX12_comesWithout_8 rfl 10 rfl ?_
      refine w_icmp_ge X hF 26 13 dX12_comesWithout_10 (by decide) rfl (fun hF => ?_) (fun hF => ?_)
      · refine w_aload_n X 0 dX12_comesWithout_13 rfl rfl 14 rfl ?_
        refine w_getV (v := .ref (ad 7)) X 0 ml_0 mo_0 (T := TX12) (N := 50) rfl in_X12 20 (by decide) kF_X12_35 rfl rfl dX12_comesWithout_14 17 rfl ?_
        refine w_iload_n X 3 dX12_comesWithout_17 rfl rfl 18 rfl ?_
        refine w_iconst X (-1) dX12_comesWithout_18 rfl 19 rfl ?_
        refine w_gi hF (fun h_2 hF => ?_)
        refine w_ias X 7 ml_7 mo_7 (t0 := 0) rfl h_2 dX12_comesWithout_19 20 rfl ?_
        refine w_letm hF (fun m_3 hF => ?_)
        refine w_iinc X 3 (x3 + 1) [(3, .int (x3 + 1)), (0, .ref (ad 0)), (1, .int x1), (2, .int x2)] dX12_comesWithout_20 rfl rfl (by decide) rfl 23 rfl ?_
        refine w_goto X 7 dX12_comesWithout_23 (by decide) ?_
        refine w_keep [1, 2, 3, 0] rfl ?_
        exact ih x1 x2 (x3 + 1) m_3 hF
      · refine w_aload_n X 0 dX12_comesWithout_26 rfl rfl 27 rfl ?_
        refine w_getV (v := .ref (ad 7)) X 0 ml_0 mo_0 (T := TX12) (N := 50) rfl in_X12 20 (by decide) kF_X12_35 rfl rfl dX12_comesWithout_27 30 rfl ?_
        refine w_iload_n X 2 dX12_comesWithout_30 rfl rfl 31 rfl ?_
        refine w_iconst X 0 dX12_comesWithout_31 rfl 32 rfl ?_
        refine w_gi hF (fun h_4 hF => ?_)
        refine w_ias X 7 ml_7 mo_7 (t0 := 0) rfl h_4 dX12_comesWithout_32 33 rfl ?_
        refine w_letm hF (fun m_5 hF => ?_)
        refine w_aload_n X 0 dX12_comesWithout_33 rfl rfl 34 rfl ?_
        refine w_aload_n X 0 dX12_comesWithout_34 rfl rfl 35 rfl ?_
        refine w_iload_n X 1 dX12_comesWithout_35 rfl rfl 36 rfl ?_
        refine w_iconst X 0 dX12_comesWithout_36 rfl 37 rfl ?_
        refine w_callVi (fun x => x) (fun _ => m_5) X hZ hF [.int x1, .int 0] 0 ml_0 mo_0 rfl rfl rfl kB_X12_of kL_X12_174 (fun res h => ct_X12_of l hZ fu x1 0 m_5 res h) rfl rfl rfl ⟨Nat.le_of_ble_eq_true rfl, Nat.le_of_ble_eq_true rfl⟩ (Nat.le_of_ble_eq_true rfl) ⟨Nat.zero_le _, Nat.zero_le _⟩ dX12_comesWithout_37 40 rfl (fun x_6 hF => ?_)
        refine w_aload_n X 0 dX12_comesWithout_40 rfl rfl 41 rfl ?_
        refine w_iload_n X 1 dX12_comesWithout_41 rfl rfl 42 rfl ?_
        refine w_iconst X 1 dX12_comesWithout_42 rfl 43 rfl ?_
        refine w_callVi (fun x => x) (fun _ => m_5) X hZ hF [.int x1, .int 1] 0 ml_0 mo_0 rfl rfl rfl kB_X12_of kL_X12_174 (fun res h => ct_X12_of l hZ fu x1 1 m_5 res h) rfl rfl rfl ⟨Nat.le_of_ble_eq_true rfl, Nat.le_of_ble_eq_true rfl⟩ (Nat.le_of_ble_eq_true rfl) ⟨Nat.zero_le _, Nat.zero_le _⟩ dX12_comesWithout_43 46 rfl (fun x_7 hF => ?_)
        refine w_iconst X 0 dX12_comesWithout_46 rfl 47 rfl ?_
        refine w_callVv (fun m => m) X hZ hF [.int x_6, .int x_7, .int 0] 0 ml_0 mo_0 rfl rfl rfl kB_X12_comesInto kL_X12_203 (fun res h => ct_X12_comesInto l hZ fu x_6 x_7 0 m_5 res h) rfl rfl rfl ⟨Nat.le_of_ble_eq_true rfl, Nat.le_of_ble_eq_true rfl⟩ (Nat.le_of_ble_eq_true rfl) ⟨Nat.zero_le _, Nat.zero_le _⟩ dX12_comesWithout_47 50 rfl (fun m_8 hF => ?_)
        refine w_iconst X 0 dX12_comesWithout_50 rfl 51 rfl ?_
        refine w_istore_n X [(3, .int 0), (0, .ref (ad 0)), (1, .int x1), (2, .int x2)] dX12_comesWithout_51 rfl (by decide) rfl 52 rfl ?_
        refine w_iconst X 0 dX12_comesWithout_52 rfl 53 rfl ?_
        refine w_istore X [(4, .int 0), (3, .int 0), (0, .ref (ad 0)), (1, .int x1), (2, .int x2)] dX12_comesWithout_53 (by decide) rfl 55 rfl ?_
        refine w_keep [2, 3, 1, 0] rfl ?_
        exact w_55 fu x1 0 0 m_8 hF
  intro hF
  refine w_aload_n X 0 dX12_comesWithout_0 rfl rfl 1 rfl ?_
  refine w_iconst X 0 dX12_comesWithout_1 rfl 2 rfl ?_
  refine w_putI X 0 ml_0 mo_0 (T := TX12) (N := 50) rfl in_X12 tyX12 tyX12_ok nmX12 22 (by decide) kF_X12_196 rfl rfl rfl rfl (Nat.le_of_ble_eq_true rfl) rfl dX12_comesWithout_2 5 rfl ?_
  refine w_letm hF (fun m_1 hF => ?_)
  refine w_iconst X 0 dX12_comesWithout_5 rfl 6 rfl ?_
  refine w_istore_n X [(3, .int 0), (0, .ref (ad 0)), (1, .int x1), (2, .int x2)] dX12_comesWithout_6 rfl (by decide) rfl 7 rfl ?_
  refine w_keep [1, 2, 3, 0] rfl ?_
  exact w_7 fu x1 x2 0 m_1 hF

def K_X12_isWord (fu : Nat) (x1 : Int64) (mem : Mem) : Option Int32 := (if (rd mem 0 8) = 0 then (if (rd mem 0 6) = 1 then (if (lg_cmp (rl mem 0 12) x1) = 0 then some 1 else some 0) else some 0) else some 0)
def rm_X12_isWord : Room := { frames := 0, cells := 0, slots := 0, locals := 0 }
set_option maxHeartbeats 4000000 in
set_option maxRecDepth 100000 in
theorem ct_X12_isWord (l : Launch) {D : va_G} {ca ad : Nat → Nat} {Z : (Nat → Prop) → State → Heap → Prop} (hZ : ZOK Z) (fu : Nat) (x1 : Int64) (mem : Mem) (res : Int32) (hF : K_X12_isWord fu x1 mem = some res) : CI l D (tyL ca) 23 ad (cM ca ad) Z yX12_isWord cX12_isWord 3 .boolean rm_X12_isWord [.ref (ad 0), .long x1] mem res mem := by
  refine start_i (own := RX12) rfl (by decide) (Nat.le_of_ble_eq_true rfl) ?_
  intro p e s m args below meth c Q hQ X
  rw [K_X12_isWord] at hF
  revert hF
  intro hF
  refine w_aload_n X 0 dX12_isWord_0 rfl rfl 1 rfl ?_
  refine w_getV (v := .int (rd mem 0 8)) X 0 ml_0 mo_0 (T := TX12) (N := 50) rfl in_X12 8 (by decide) kF_X12_140 rfl rfl dX12_isWord_1 4 rfl ?_
  refine w_if_ne X hF 28 7 dX12_isWord_4 (by decide) rfl (fun hF => ?_) (fun hF => ?_)
  · refine w_aload_n X 0 dX12_isWord_7 rfl rfl 8 rfl ?_
    refine w_getV (v := .int (rd mem 0 6)) X 0 ml_0 mo_0 (T := TX12) (N := 50) rfl in_X12 6 (by decide) kF_X12_130 rfl rfl dX12_isWord_8 11 rfl ?_
    refine w_iconst X 1 dX12_isWord_11 rfl 12 rfl ?_
    refine w_icmp_ne X hF 28 15 dX12_isWord_12 (by decide) rfl (fun hF => ?_) (fun hF => ?_)
    · refine w_aload_n X 0 dX12_isWord_15 rfl rfl 16 rfl ?_
      refine w_getV (v := .long (rl mem 0 12)) X 0 ml_0 mo_0 (T := TX12) (N := 50) rfl in_X12 12 (by decide) kF_X12_123 rfl rfl dX12_isWord_16 19 rfl ?_
      refine w_lload_n X 1 dX12_isWord_19 rfl rfl 20 rfl ?_
      refine w_lcmp X dX12_isWord_20 21 rfl ?_
      refine w_if_ne X hF 28 24 dX12_isWord_21 (by decide) rfl (fun hF => ?_) (fun hF => ?_)
      · refine w_iconst X 1 dX12_isWord_24 rfl 25 rfl ?_
        refine w_goto X 29 dX12_isWord_25 (by decide) ?_
        exact w_iret X hQ (o_inj hF) rfl rfl dX12_isWord_29
      · refine w_iconst X 0 dX12_isWord_28 rfl 29 rfl ?_
        exact w_iret X hQ (o_inj hF) rfl rfl dX12_isWord_29
    · refine w_iconst X 0 dX12_isWord_28 rfl 29 rfl ?_
      exact w_iret X hQ (o_inj hF) rfl rfl dX12_isWord_29
  · refine w_iconst X 0 dX12_isWord_28 rfl 29 rfl ?_
    exact w_iret X hQ (o_inj hF) rfl rfl dX12_isWord_29

def K_X12_commandHere (fu : Nat) (mem : Mem) : Option Int32 := bd (K_X12_isWord fu 643248 mem) (fun x_1 => (if x_1 = 0 then bd (K_X12_isWord fu 755084 mem) (fun x_2 => (if x_2 = 0 then bd (K_X12_isWord fu 525939 mem) (fun x_3 => (if x_3 = 0 then bd (K_X12_isWord fu 536633 mem) (fun x_4 => (if x_4 = 0 then bd (K_X12_isWord fu 609752116 mem) (fun x_5 => (if x_5 = 0 then some (-1) else some 4)) else some 3)) else some 2)) else some 1)) else some 0))
def rm_X12_commandHere : Room := { frames := 1, cells := 0, slots := 0, locals := 22 }
set_option maxHeartbeats 4000000 in
set_option maxRecDepth 100000 in
theorem ct_X12_commandHere (l : Launch) {D : va_G} {ca ad : Nat → Nat} {Z : (Nat → Prop) → State → Heap → Prop} (hZ : ZOK Z) (fu : Nat) (mem : Mem) (res : Int32) (hF : K_X12_commandHere fu mem = some res) : CI l D (tyL ca) 23 ad (cM ca ad) Z yX12_commandHere cX12_commandHere 1 .int rm_X12_commandHere [.ref (ad 0)] mem res mem := by
  refine start_i (own := RX12) rfl (by decide) (Nat.le_of_ble_eq_true rfl) ?_
  intro p e s m args below meth c Q hQ X
  rw [K_X12_commandHere] at hF
  revert hF
  intro hF
  refine w_aload_n X 0 dX12_commandHere_0 rfl rfl 1 rfl ?_
  refine w_ldc2 X 643248 kK_X12_475 dX12_commandHere_1 4 rfl ?_
  refine w_callVi (fun x => x) (fun _ => mem) X hZ hF [.long 643248] 0 ml_0 mo_0 rfl rfl rfl kB_X12_isWord kL_X12_156 (fun res h => ct_X12_isWord l hZ fu 643248 mem res h) rfl rfl rfl ⟨Nat.le_of_ble_eq_true rfl, Nat.le_of_ble_eq_true rfl⟩ (Nat.le_of_ble_eq_true rfl) ⟨Nat.zero_le _, Nat.zero_le _⟩ dX12_commandHere_4 7 rfl (fun x_1 hF => ?_)
  refine w_if_eq X hF 12 10 dX12_commandHere_7 (by decide) rfl (fun hF => ?_) (fun hF => ?_)
  · refine w_aload_n X 0 dX12_commandHere_12 rfl rfl 13 rfl ?_
    refine w_ldc2 X 755084 kK_X12_477 dX12_commandHere_13 16 rfl ?_
    refine w_callVi (fun x => x) (fun _ => mem) X hZ hF [.long 755084] 0 ml_0 mo_0 rfl rfl rfl kB_X12_isWord kL_X12_156 (fun res h => ct_X12_isWord l hZ fu 755084 mem res h) rfl rfl rfl ⟨Nat.le_of_ble_eq_true rfl, Nat.le_of_ble_eq_true rfl⟩ (Nat.le_of_ble_eq_true rfl) ⟨Nat.zero_le _, Nat.zero_le _⟩ dX12_commandHere_16 19 rfl (fun x_2 hF => ?_)
    refine w_if_eq X hF 24 22 dX12_commandHere_19 (by decide) rfl (fun hF => ?_) (fun hF => ?_)
    · refine w_aload_n X 0 dX12_commandHere_24 rfl rfl 25 rfl ?_
      refine w_ldc2 X 525939 kK_X12_479 dX12_commandHere_25 28 rfl ?_
      refine w_callVi (fun x => x) (fun _ => mem) X hZ hF [.long 525939] 0 ml_0 mo_0 rfl rfl rfl kB_X12_isWord kL_X12_156 (fun res h => ct_X12_isWord l hZ fu 525939 mem res h) rfl rfl rfl ⟨Nat.le_of_ble_eq_true rfl, Nat.le_of_ble_eq_true rfl⟩ (Nat.le_of_ble_eq_true rfl) ⟨Nat.zero_le _, Nat.zero_le _⟩ dX12_commandHere_28 31 rfl (fun x_3 hF => ?_)
      refine w_if_eq X hF 36 34 dX12_commandHere_31 (by decide) rfl (fun hF => ?_) (fun hF => ?_)
      · refine w_aload_n X 0 dX12_commandHere_36 rfl rfl 37 rfl ?_
        refine w_ldc2 X 536633 kK_X12_481 dX12_commandHere_37 40 rfl ?_
        refine w_callVi (fun x => x) (fun _ => mem) X hZ hF [.long 536633] 0 ml_0 mo_0 rfl rfl rfl kB_X12_isWord kL_X12_156 (fun res h => ct_X12_isWord l hZ fu 536633 mem res h) rfl rfl rfl ⟨Nat.le_of_ble_eq_true rfl, Nat.le_of_ble_eq_true rfl⟩ (Nat.le_of_ble_eq_true rfl) ⟨Nat.zero_le _, Nat.zero_le _⟩ dX12_commandHere_40 43 rfl (fun x_4 hF => ?_)
        refine w_if_eq X hF 48 46 dX12_commandHere_43 (by decide) rfl (fun hF => ?_) (fun hF => ?_)
        · refine w_aload_n X 0 dX12_commandHere_48 rfl rfl 49 rfl ?_
          refine w_ldc2 X 609752116 kK_X12_483 dX12_commandHere_49 52 rfl ?_
          refine w_callVi (fun x => x) (fun _ => mem) X hZ hF [.long 609752116] 0 ml_0 mo_0 rfl rfl rfl kB_X12_isWord kL_X12_156 (fun res h => ct_X12_isWord l hZ fu 609752116 mem res h) rfl rfl rfl ⟨Nat.le_of_ble_eq_true rfl, Nat.le_of_ble_eq_true rfl⟩ (Nat.le_of_ble_eq_true rfl) ⟨Nat.zero_le _, Nat.zero_le _⟩ dX12_commandHere_52 55 rfl (fun x_5 hF => ?_)
          refine w_if_eq X hF 62 58 dX12_commandHere_55 (by decide) rfl (fun hF => ?_) (fun hF => ?_)
          · refine w_iconst X (-1) dX12_commandHere_62 rfl 63 rfl ?_
            exact w_iret X hQ (o_inj hF) rfl rfl dX12_commandHere_63
          · refine w_iconst X 4 dX12_commandHere_58 rfl 59 rfl ?_
            refine w_goto X 63 dX12_commandHere_59 (by decide) ?_
            exact w_iret X hQ (o_inj hF) rfl rfl dX12_commandHere_63
        · refine w_iconst X 3 dX12_commandHere_46 rfl 47 rfl ?_
          exact w_iret X hQ (o_inj hF) rfl rfl dX12_commandHere_47
      · refine w_iconst X 2 dX12_commandHere_34 rfl 35 rfl ?_
        exact w_iret X hQ (o_inj hF) rfl rfl dX12_commandHere_35
    · refine w_iconst X 1 dX12_commandHere_22 rfl 23 rfl ?_
      exact w_iret X hQ (o_inj hF) rfl rfl dX12_commandHere_23
  · refine w_iconst X 0 dX12_commandHere_10 rfl 11 rfl ?_
    exact w_iret X hQ (o_inj hF) rfl rfl dX12_commandHere_11

def K_X12_wrong_22 (fu : Nat) (xs0 : Int32) (mem : Mem) : Option Mem := lt_ (mw mem 0 8 xs0) (fun m_1 => lt_ (mw m_1 0 9 (rd m_1 0 5)) (fun m_2 => some m_2))
def K_X12_wrong (fu : Nat) (x1 : Int32) (mem : Mem) : Option Mem := (if 0 < (rd mem 0 8) then some mem else (if (rd mem 0 6) = 4 then (K_X12_wrong_22 fu 1 mem) else (K_X12_wrong_22 fu x1 mem)))
def rm_X12_wrong : Room := { frames := 0, cells := 0, slots := 0, locals := 0 }
set_option maxHeartbeats 4000000 in
set_option maxRecDepth 100000 in
theorem ct_X12_wrong (l : Launch) {D : va_G} {ca ad : Nat → Nat} {Z : (Nat → Prop) → State → Heap → Prop} (hZ : ZOK Z) (fu : Nat) (x1 : Int32) (mem : Mem) (res : Mem) (hF : K_X12_wrong fu x1 mem = some res) : CV l D (tyL ca) 23 ad (cM ca ad) Z yX12_wrong cX12_wrong 2 rm_X12_wrong [.ref (ad 0), .int x1] mem res := by
  refine start_v (own := RX12) rfl (by decide) (Nat.le_of_ble_eq_true rfl) ?_
  intro p e s m args below meth c Q hQ X
  rw [K_X12_wrong] at hF
  revert hF
  have w_22 : ∀ (xs0 : Int32) (mem : Mem), K_X12_wrong_22 fu xs0 mem = some res → WW D 23 ad (cM ca ad) p l e rm_X12_wrong s m args below meth c 2 0 0 Q mem 22 [(0, .ref (ad 0))] [.int xs0, .ref (ad 0)] := by
    intro xs0 mem hF
    rw [K_X12_wrong_22] at hF
    refine w_putI X 0 ml_0 mo_0 (T := TX12) (N := 50) rfl in_X12 tyX12 tyX12_ok nmX12 8 (by decide) kF_X12_140 rfl rfl rfl rfl (Nat.le_of_ble_eq_true rfl) rfl dX12_wrong_22 25 rfl ?_
    refine w_letm hF (fun m_1 hF => ?_)
    refine w_aload_n X 0 dX12_wrong_25 rfl rfl 26 rfl ?_
    refine w_aload_n X 0 dX12_wrong_26 rfl rfl 27 rfl ?_
    refine w_getV (v := .int (rd m_1 0 5)) X 0 ml_0 mo_0 (T := TX12) (N := 50) rfl in_X12 5 (by decide) kF_X12_120 rfl rfl dX12_wrong_27 30 rfl ?_
    refine w_putI X 0 ml_0 mo_0 (T := TX12) (N := 50) rfl in_X12 tyX12 tyX12_ok nmX12 9 (by decide) kF_X12_13 rfl rfl rfl rfl (Nat.le_of_ble_eq_true rfl) rfl dX12_wrong_30 33 rfl ?_
    refine w_letm hF (fun m_2 hF => ?_)
    exact w_vret X hQ (o_inj hF) dX12_wrong_33
  intro hF
  refine w_aload_n X 0 dX12_wrong_0 rfl rfl 1 rfl ?_
  refine w_getV (v := .int (rd mem 0 8)) X 0 ml_0 mo_0 (T := TX12) (N := 50) rfl in_X12 8 (by decide) kF_X12_140 rfl rfl dX12_wrong_1 4 rfl ?_
  refine w_if_le X hF 8 7 dX12_wrong_4 (by decide) rfl (fun hF => ?_) (fun hF => ?_)
  · exact w_vret X hQ (o_inj hF) dX12_wrong_7
  · refine w_aload_n X 0 dX12_wrong_8 rfl rfl 9 rfl ?_
    refine w_aload_n X 0 dX12_wrong_9 rfl rfl 10 rfl ?_
    refine w_getV (v := .int (rd mem 0 6)) X 0 ml_0 mo_0 (T := TX12) (N := 50) rfl in_X12 6 (by decide) kF_X12_130 rfl rfl dX12_wrong_10 13 rfl ?_
    refine w_iconst X 4 dX12_wrong_13 rfl 14 rfl ?_
    refine w_icmp_ne X hF 21 17 dX12_wrong_14 (by decide) rfl (fun hF => ?_) (fun hF => ?_)
    · refine w_iconst X 1 dX12_wrong_17 rfl 18 rfl ?_
      refine w_goto X 22 dX12_wrong_18 (by decide) ?_
      refine w_keep [0] rfl ?_
      exact w_22 1 mem hF
    · refine w_iload_n X 1 dX12_wrong_21 rfl rfl 22 rfl ?_
      refine w_keep [0] rfl ?_
      exact w_22 x1 mem hF

def K_X12_isGood (fu : Nat) (mem : Mem) : Option Int32 := (if (rd mem 0 8) = 0 then some 1 else some 0)
def rm_X12_isGood : Room := { frames := 0, cells := 0, slots := 0, locals := 0 }
set_option maxHeartbeats 4000000 in
set_option maxRecDepth 100000 in
theorem ct_X12_isGood (l : Launch) {D : va_G} {ca ad : Nat → Nat} {Z : (Nat → Prop) → State → Heap → Prop} (hZ : ZOK Z) (fu : Nat) (mem : Mem) (res : Int32) (hF : K_X12_isGood fu mem = some res) : CI l D (tyL ca) 23 ad (cM ca ad) Z yX12_isGood cX12_isGood 1 .boolean rm_X12_isGood [.ref (ad 0)] mem res mem := by
  refine start_i (own := RX12) rfl (by decide) (Nat.le_of_ble_eq_true rfl) ?_
  intro p e s m args below meth c Q hQ X
  rw [K_X12_isGood] at hF
  revert hF
  intro hF
  refine w_aload_n X 0 dX12_isGood_0 rfl rfl 1 rfl ?_
  refine w_getV (v := .int (rd mem 0 8)) X 0 ml_0 mo_0 (T := TX12) (N := 50) rfl in_X12 8 (by decide) kF_X12_140 rfl rfl dX12_isGood_1 4 rfl ?_
  refine w_if_ne X hF 11 7 dX12_isGood_4 (by decide) rfl (fun hF => ?_) (fun hF => ?_)
  · refine w_iconst X 1 dX12_isGood_7 rfl 8 rfl ?_
    refine w_goto X 12 dX12_isGood_8 (by decide) ?_
    exact w_iret X hQ (o_inj hF) rfl rfl dX12_isGood_12
  · refine w_iconst X 0 dX12_isGood_11 rfl 12 rfl ?_
    exact w_iret X hQ (o_inj hF) rfl rfl dX12_isGood_12

def K_X12_sideHere (fu : Nat) (mem : Mem) : Option Int32 := bd (K_X12_isWord fu 15190664 mem) (fun x_1 => (if x_1 = 0 then bd (K_X12_isWord fu 165492 mem) (fun x_2 => (if x_2 = 0 then bd (K_X12_isWord fu 20436616 mem) (fun x_3 => (if x_3 = 0 then bd (K_X12_isWord fu 759412 mem) (fun x_4 => (if x_4 = 0 then some (-1) else some 3)) else some 2)) else some 1)) else some 0))
def rm_X12_sideHere : Room := { frames := 1, cells := 0, slots := 0, locals := 22 }
set_option maxHeartbeats 4000000 in
set_option maxRecDepth 100000 in
theorem ct_X12_sideHere (l : Launch) {D : va_G} {ca ad : Nat → Nat} {Z : (Nat → Prop) → State → Heap → Prop} (hZ : ZOK Z) (fu : Nat) (mem : Mem) (res : Int32) (hF : K_X12_sideHere fu mem = some res) : CI l D (tyL ca) 23 ad (cM ca ad) Z yX12_sideHere cX12_sideHere 1 .int rm_X12_sideHere [.ref (ad 0)] mem res mem := by
  refine start_i (own := RX12) rfl (by decide) (Nat.le_of_ble_eq_true rfl) ?_
  intro p e s m args below meth c Q hQ X
  rw [K_X12_sideHere] at hF
  revert hF
  intro hF
  refine w_aload_n X 0 dX12_sideHere_0 rfl rfl 1 rfl ?_
  refine w_ldc2 X 15190664 kK_X12_231 dX12_sideHere_1 4 rfl ?_
  refine w_callVi (fun x => x) (fun _ => mem) X hZ hF [.long 15190664] 0 ml_0 mo_0 rfl rfl rfl kB_X12_isWord kL_X12_156 (fun res h => ct_X12_isWord l hZ fu 15190664 mem res h) rfl rfl rfl ⟨Nat.le_of_ble_eq_true rfl, Nat.le_of_ble_eq_true rfl⟩ (Nat.le_of_ble_eq_true rfl) ⟨Nat.zero_le _, Nat.zero_le _⟩ dX12_sideHere_4 7 rfl (fun x_1 hF => ?_)
  refine w_if_eq X hF 14 10 dX12_sideHere_7 (by decide) rfl (fun hF => ?_) (fun hF => ?_)
  · refine w_aload_n X 0 dX12_sideHere_14 rfl rfl 15 rfl ?_
    refine w_ldc2 X 165492 kK_X12_233 dX12_sideHere_15 18 rfl ?_
    refine w_callVi (fun x => x) (fun _ => mem) X hZ hF [.long 165492] 0 ml_0 mo_0 rfl rfl rfl kB_X12_isWord kL_X12_156 (fun res h => ct_X12_isWord l hZ fu 165492 mem res h) rfl rfl rfl ⟨Nat.le_of_ble_eq_true rfl, Nat.le_of_ble_eq_true rfl⟩ (Nat.le_of_ble_eq_true rfl) ⟨Nat.zero_le _, Nat.zero_le _⟩ dX12_sideHere_18 21 rfl (fun x_2 hF => ?_)
    refine w_if_eq X hF 28 24 dX12_sideHere_21 (by decide) rfl (fun hF => ?_) (fun hF => ?_)
    · refine w_aload_n X 0 dX12_sideHere_28 rfl rfl 29 rfl ?_
      refine w_ldc2 X 20436616 kK_X12_235 dX12_sideHere_29 32 rfl ?_
      refine w_callVi (fun x => x) (fun _ => mem) X hZ hF [.long 20436616] 0 ml_0 mo_0 rfl rfl rfl kB_X12_isWord kL_X12_156 (fun res h => ct_X12_isWord l hZ fu 20436616 mem res h) rfl rfl rfl ⟨Nat.le_of_ble_eq_true rfl, Nat.le_of_ble_eq_true rfl⟩ (Nat.le_of_ble_eq_true rfl) ⟨Nat.zero_le _, Nat.zero_le _⟩ dX12_sideHere_32 35 rfl (fun x_3 hF => ?_)
      refine w_if_eq X hF 42 38 dX12_sideHere_35 (by decide) rfl (fun hF => ?_) (fun hF => ?_)
      · refine w_aload_n X 0 dX12_sideHere_42 rfl rfl 43 rfl ?_
        refine w_ldc2 X 759412 kK_X12_237 dX12_sideHere_43 46 rfl ?_
        refine w_callVi (fun x => x) (fun _ => mem) X hZ hF [.long 759412] 0 ml_0 mo_0 rfl rfl rfl kB_X12_isWord kL_X12_156 (fun res h => ct_X12_isWord l hZ fu 759412 mem res h) rfl rfl rfl ⟨Nat.le_of_ble_eq_true rfl, Nat.le_of_ble_eq_true rfl⟩ (Nat.le_of_ble_eq_true rfl) ⟨Nat.zero_le _, Nat.zero_le _⟩ dX12_sideHere_46 49 rfl (fun x_4 hF => ?_)
        refine w_if_eq X hF 56 52 dX12_sideHere_49 (by decide) rfl (fun hF => ?_) (fun hF => ?_)
        · refine w_iconst X (-1) dX12_sideHere_56 rfl 57 rfl ?_
          exact w_iret X hQ (o_inj hF) rfl rfl dX12_sideHere_57
        · refine w_iconst X 3 dX12_sideHere_52 rfl 53 rfl ?_
          refine w_goto X 57 dX12_sideHere_53 (by decide) ?_
          exact w_iret X hQ (o_inj hF) rfl rfl dX12_sideHere_57
      · refine w_iconst X 2 dX12_sideHere_38 rfl 39 rfl ?_
        refine w_goto X 57 dX12_sideHere_39 (by decide) ?_
        exact w_iret X hQ (o_inj hF) rfl rfl dX12_sideHere_57
    · refine w_iconst X 1 dX12_sideHere_24 rfl 25 rfl ?_
      refine w_goto X 57 dX12_sideHere_25 (by decide) ?_
      exact w_iret X hQ (o_inj hF) rfl rfl dX12_sideHere_57
  · refine w_iconst X 0 dX12_sideHere_10 rfl 11 rfl ?_
    refine w_goto X 57 dX12_sideHere_11 (by decide) ?_
    exact w_iret X hQ (o_inj hF) rfl rfl dX12_sideHere_57

def K_X12_sideTold_22 (fu : Nat) (x1 : Int32) (mem : Mem) : Option (Int32 × Mem) := bd (K_X12_isGood fu mem) (fun x_4 => (if x_4 = 0 then some (x1, mem) else bd (K_X12_goOn fu mem) (fun m_5 => some (x1, m_5))))
def K_X12_sideTold (fu : Nat) (mem : Mem) : Option (Int32 × Mem) := bd (K_X12_sideHere fu mem) (fun x_1 => bd (K_X12_isGood fu mem) (fun x_2 => (if x_2 = 0 then (K_X12_sideTold_22 fu x_1 mem) else (if x_1 = (-1) then bd (K_X12_wrong fu 1 mem) (fun m_3 => (K_X12_sideTold_22 fu x_1 m_3)) else (K_X12_sideTold_22 fu x_1 mem)))))
def rm_X12_sideTold : Room := { frames := 2, cells := 0, slots := 0, locals := 43 }
set_option maxHeartbeats 4000000 in
set_option maxRecDepth 100000 in
theorem ct_X12_sideTold (l : Launch) {D : va_G} {ca ad : Nat → Nat} {Z : (Nat → Prop) → State → Heap → Prop} (hZ : ZOK Z) (fu : Nat) (mem : Mem) (res : (Int32 × Mem)) (hF : K_X12_sideTold fu mem = some res) : CI l D (tyL ca) 23 ad (cM ca ad) Z yX12_sideTold cX12_sideTold 2 .int rm_X12_sideTold [.ref (ad 0)] mem res.1 res.2 := by
  refine start_i (own := RX12) rfl (by decide) (Nat.le_of_ble_eq_true rfl) ?_
  intro p e s m args below meth c Q hQ X
  rw [K_X12_sideTold] at hF
  revert hF
  have w_22 : ∀ (x1 : Int32) (mem : Mem), K_X12_sideTold_22 fu x1 mem = some res → WW D 23 ad (cM ca ad) p l e rm_X12_sideTold s m args below meth c 2 0 0 Q mem 22 [(0, .ref (ad 0)), (1, .int x1)] [] := by
    intro x1 mem hF
    rw [K_X12_sideTold_22] at hF
    refine w_aload_n X 0 dX12_sideTold_22 rfl rfl 23 rfl ?_
    refine w_callVi (fun x => x) (fun _ => mem) X hZ hF [] 0 ml_0 mo_0 rfl rfl rfl kB_X12_isGood kL_X12_143 (fun res h => ct_X12_isGood l hZ fu mem res h) rfl rfl rfl ⟨Nat.le_of_ble_eq_true rfl, Nat.le_of_ble_eq_true rfl⟩ (Nat.le_of_ble_eq_true rfl) ⟨Nat.zero_le _, Nat.zero_le _⟩ dX12_sideTold_23 26 rfl (fun x_4 hF => ?_)
    refine w_if_eq X hF 33 29 dX12_sideTold_26 (by decide) rfl (fun hF => ?_) (fun hF => ?_)
    · refine w_iload_n X 1 dX12_sideTold_33 rfl rfl 34 rfl ?_
      exact w_iret X hQ (o_inj1 hF) (o_inj2 hF) rfl dX12_sideTold_34
    · refine w_aload_n X 0 dX12_sideTold_29 rfl rfl 30 rfl ?_
      refine w_callVv (fun m => m) X hZ hF [] 0 ml_0 mo_0 rfl rfl rfl kB_X12_goOn kL_X12_153 (fun res h => ct_X12_goOn l hZ fu mem res h) rfl rfl rfl ⟨Nat.le_of_ble_eq_true rfl, Nat.le_of_ble_eq_true rfl⟩ (Nat.le_of_ble_eq_true rfl) ⟨Nat.zero_le _, Nat.zero_le _⟩ dX12_sideTold_30 33 rfl (fun m_5 hF => ?_)
      refine w_iload_n X 1 dX12_sideTold_33 rfl rfl 34 rfl ?_
      exact w_iret X hQ (o_inj1 hF) (o_inj2 hF) rfl dX12_sideTold_34
  intro hF
  refine w_aload_n X 0 dX12_sideTold_0 rfl rfl 1 rfl ?_
  refine w_callVi (fun x => x) (fun _ => mem) X hZ hF [] 0 ml_0 mo_0 rfl rfl rfl kB_X12_sideHere kL_X12_262 (fun res h => ct_X12_sideHere l hZ fu mem res h) rfl rfl rfl ⟨Nat.le_of_ble_eq_true rfl, Nat.le_of_ble_eq_true rfl⟩ (Nat.le_of_ble_eq_true rfl) ⟨Nat.zero_le _, Nat.zero_le _⟩ dX12_sideTold_1 4 rfl (fun x_1 hF => ?_)
  refine w_istore_n X [(1, .int x_1), (0, .ref (ad 0))] dX12_sideTold_4 rfl (by decide) rfl 5 rfl ?_
  refine w_aload_n X 1 dX12_sideTold_5 rfl rfl 6 rfl ?_
  refine w_callVi (fun x => x) (fun _ => mem) X hZ hF [] 0 ml_0 mo_0 rfl rfl rfl kB_X12_isGood kL_X12_143 (fun res h => ct_X12_isGood l hZ fu mem res h) rfl rfl rfl ⟨Nat.le_of_ble_eq_true rfl, Nat.le_of_ble_eq_true rfl⟩ (Nat.le_of_ble_eq_true rfl) ⟨Nat.zero_le _, Nat.zero_le _⟩ dX12_sideTold_6 9 rfl (fun x_2 hF => ?_)
  refine w_if_eq X hF 22 12 dX12_sideTold_9 (by decide) rfl (fun hF => ?_) (fun hF => ?_)
  · refine w_keep [1, 0] rfl ?_
    exact w_22 x_1 mem hF
  · refine w_iload_n X 0 dX12_sideTold_12 rfl rfl 13 rfl ?_
    refine w_iconst X (-1) dX12_sideTold_13 rfl 14 rfl ?_
    refine w_icmp_ne X hF 22 17 dX12_sideTold_14 (by decide) rfl (fun hF => ?_) (fun hF => ?_)
    · refine w_aload_n X 1 dX12_sideTold_17 rfl rfl 18 rfl ?_
      refine w_iconst X 1 dX12_sideTold_18 rfl 19 rfl ?_
      refine w_callVv (fun m => m) X hZ hF [.int 1] 0 ml_0 mo_0 rfl rfl rfl kB_X12_wrong kL_X12_150 (fun res h => ct_X12_wrong l hZ fu 1 mem res h) rfl rfl rfl ⟨Nat.le_of_ble_eq_true rfl, Nat.le_of_ble_eq_true rfl⟩ (Nat.le_of_ble_eq_true rfl) ⟨Nat.zero_le _, Nat.zero_le _⟩ dX12_sideTold_19 22 rfl (fun m_3 hF => ?_)
      refine w_keep [1, 0] rfl ?_
      exact w_22 x_1 m_3 hF
    · refine w_keep [1, 0] rfl ?_
      exact w_22 x_1 mem hF

def K_X12_seen_20 (fu : Nat) (x1 : Int32) (x2 : Int32) (mem : Mem) : Option (Int32 × Mem) := bd (K_X12_isGood fu mem) (fun x_3 => (if x_3 = 0 then some ((rd mem 0 7), mem) else bd (K_X12_isIn fu (((rd mem 0 7)).toInt64) (Int32.toInt64 x1) (Int32.toInt64 x2) mem) (fun x_4 => (if x_4 = 0 then bd (K_X12_wrong fu 2 mem) (fun m_5 => some ((rd m_5 0 7), m_5)) else some ((rd mem 0 7), mem)))))
def K_X12_seen (fu : Nat) (x1 : Int32) (x2 : Int32) (mem : Mem) : Option (Int32 × Mem) := bd (K_X12_isGood fu mem) (fun x_1 => (if x_1 = 0 then (K_X12_seen_20 fu x1 x2 mem) else (if (rd mem 0 6) = 2 then (K_X12_seen_20 fu x1 x2 mem) else bd (K_X12_wrong fu 1 mem) (fun m_2 => (K_X12_seen_20 fu x1 x2 m_2)))))
def rm_X12_seen : Room := { frames := 1, cells := 0, slots := 0, locals := 25 }
set_option maxHeartbeats 4000000 in
set_option maxRecDepth 100000 in
theorem ct_X12_seen (l : Launch) {D : va_G} {ca ad : Nat → Nat} {Z : (Nat → Prop) → State → Heap → Prop} (hZ : ZOK Z) (fu : Nat) (x1 : Int32) (x2 : Int32) (mem : Mem) (res : (Int32 × Mem)) (hF : K_X12_seen fu x1 x2 mem = some res) : CI l D (tyL ca) 23 ad (cM ca ad) Z yX12_seen cX12_seen 3 .int rm_X12_seen [.ref (ad 0), .int x1, .int x2] mem res.1 res.2 := by
  refine start_i (own := RX12) rfl (by decide) (Nat.le_of_ble_eq_true rfl) ?_
  intro p e s m args below meth c Q hQ X
  rw [K_X12_seen] at hF
  revert hF
  have w_20 : ∀ (x1 : Int32) (x2 : Int32) (mem : Mem), K_X12_seen_20 fu x1 x2 mem = some res → WW D 23 ad (cM ca ad) p l e rm_X12_seen s m args below meth c 3 0 0 Q mem 20 [(0, .ref (ad 0)), (1, .int x1), (2, .int x2)] [] := by
    intro x1 x2 mem hF
    rw [K_X12_seen_20] at hF
    refine w_aload_n X 0 dX12_seen_20 rfl rfl 21 rfl ?_
    refine w_callVi (fun x => x) (fun _ => mem) X hZ hF [] 0 ml_0 mo_0 rfl rfl rfl kB_X12_isGood kL_X12_143 (fun res h => ct_X12_isGood l hZ fu mem res h) rfl rfl rfl ⟨Nat.le_of_ble_eq_true rfl, Nat.le_of_ble_eq_true rfl⟩ (Nat.le_of_ble_eq_true rfl) ⟨Nat.zero_le _, Nat.zero_le _⟩ dX12_seen_21 24 rfl (fun x_3 hF => ?_)
    refine w_if_eq X hF 47 27 dX12_seen_24 (by decide) rfl (fun hF => ?_) (fun hF => ?_)
    · refine w_aload_n X 0 dX12_seen_47 rfl rfl 48 rfl ?_
      refine w_getV (v := .int (rd mem 0 7)) X 0 ml_0 mo_0 (T := TX12) (N := 50) rfl in_X12 7 (by decide) kF_X12_127 rfl rfl dX12_seen_48 51 rfl ?_
      exact w_iret X hQ (o_inj1 hF) (o_inj2 hF) rfl dX12_seen_51
    · refine w_aload_n X 0 dX12_seen_27 rfl rfl 28 rfl ?_
      refine w_getV (v := .int (rd mem 0 7)) X 0 ml_0 mo_0 (T := TX12) (N := 50) rfl in_X12 7 (by decide) kF_X12_127 rfl rfl dX12_seen_28 31 rfl ?_
      refine w_i2l X dX12_seen_31 32 rfl ?_
      refine w_iload_n X 1 dX12_seen_32 rfl rfl 33 rfl ?_
      refine w_i2l X dX12_seen_33 34 rfl ?_
      refine w_iload_n X 2 dX12_seen_34 rfl rfl 35 rfl ?_
      refine w_i2l X dX12_seen_35 36 rfl ?_
      refine w_callSi (fun x => x) (fun _ => mem) X hZ hF [.long (((rd mem 0 7)).toInt64), .long (Int32.toInt64 x1), .long (Int32.toInt64 x2)] rfl kB_X12_isIn kL_X12_106 (fun res h => ct_X12_isIn l hZ fu (((rd mem 0 7)).toInt64) (Int32.toInt64 x1) (Int32.toInt64 x2) mem res h) rfl rfl rfl ⟨Nat.le_of_ble_eq_true rfl, Nat.le_of_ble_eq_true rfl⟩ (Nat.le_of_ble_eq_true rfl) ⟨Nat.zero_le _, Nat.zero_le _⟩ dX12_seen_36 39 rfl (fun x_4 hF => ?_)
      refine w_if_ne X hF 47 42 dX12_seen_39 (by decide) rfl (fun hF => ?_) (fun hF => ?_)
      · refine w_aload_n X 0 dX12_seen_42 rfl rfl 43 rfl ?_
        refine w_iconst X 2 dX12_seen_43 rfl 44 rfl ?_
        refine w_callVv (fun m => m) X hZ hF [.int 2] 0 ml_0 mo_0 rfl rfl rfl kB_X12_wrong kL_X12_150 (fun res h => ct_X12_wrong l hZ fu 2 mem res h) rfl rfl rfl ⟨Nat.le_of_ble_eq_true rfl, Nat.le_of_ble_eq_true rfl⟩ (Nat.le_of_ble_eq_true rfl) ⟨Nat.zero_le _, Nat.zero_le _⟩ dX12_seen_44 47 rfl (fun m_5 hF => ?_)
        refine w_aload_n X 0 dX12_seen_47 rfl rfl 48 rfl ?_
        refine w_getV (v := .int (rd m_5 0 7)) X 0 ml_0 mo_0 (T := TX12) (N := 50) rfl in_X12 7 (by decide) kF_X12_127 rfl rfl dX12_seen_48 51 rfl ?_
        exact w_iret X hQ (o_inj1 hF) (o_inj2 hF) rfl dX12_seen_51
      · refine w_aload_n X 0 dX12_seen_47 rfl rfl 48 rfl ?_
        refine w_getV (v := .int (rd mem 0 7)) X 0 ml_0 mo_0 (T := TX12) (N := 50) rfl in_X12 7 (by decide) kF_X12_127 rfl rfl dX12_seen_48 51 rfl ?_
        exact w_iret X hQ (o_inj1 hF) (o_inj2 hF) rfl dX12_seen_51
  intro hF
  refine w_aload_n X 0 dX12_seen_0 rfl rfl 1 rfl ?_
  refine w_callVi (fun x => x) (fun _ => mem) X hZ hF [] 0 ml_0 mo_0 rfl rfl rfl kB_X12_isGood kL_X12_143 (fun res h => ct_X12_isGood l hZ fu mem res h) rfl rfl rfl ⟨Nat.le_of_ble_eq_true rfl, Nat.le_of_ble_eq_true rfl⟩ (Nat.le_of_ble_eq_true rfl) ⟨Nat.zero_le _, Nat.zero_le _⟩ dX12_seen_1 4 rfl (fun x_1 hF => ?_)
  refine w_if_eq X hF 20 7 dX12_seen_4 (by decide) rfl (fun hF => ?_) (fun hF => ?_)
  · refine w_keep [0, 1, 2] rfl ?_
    exact w_20 x1 x2 mem hF
  · refine w_aload_n X 0 dX12_seen_7 rfl rfl 8 rfl ?_
    refine w_getV (v := .int (rd mem 0 6)) X 0 ml_0 mo_0 (T := TX12) (N := 50) rfl in_X12 6 (by decide) kF_X12_130 rfl rfl dX12_seen_8 11 rfl ?_
    refine w_iconst X 2 dX12_seen_11 rfl 12 rfl ?_
    refine w_icmp_eq X hF 20 15 dX12_seen_12 (by decide) rfl (fun hF => ?_) (fun hF => ?_)
    · refine w_keep [0, 1, 2] rfl ?_
      exact w_20 x1 x2 mem hF
    · refine w_aload_n X 0 dX12_seen_15 rfl rfl 16 rfl ?_
      refine w_iconst X 1 dX12_seen_16 rfl 17 rfl ?_
      refine w_callVv (fun m => m) X hZ hF [.int 1] 0 ml_0 mo_0 rfl rfl rfl kB_X12_wrong kL_X12_150 (fun res h => ct_X12_wrong l hZ fu 1 mem res h) rfl rfl rfl ⟨Nat.le_of_ble_eq_true rfl, Nat.le_of_ble_eq_true rfl⟩ (Nat.le_of_ble_eq_true rfl) ⟨Nat.zero_le _, Nat.zero_le _⟩ dX12_seen_17 20 rfl (fun m_2 hF => ?_)
      refine w_keep [0, 1, 2] rfl ?_
      exact w_20 x1 x2 m_2 hF

def K_X12_number (fu : Nat) (x1 : Int32) (x2 : Int32) (mem : Mem) : Option (Int32 × Mem) := bd (K_X12_seen fu x1 x2 mem) (fun p_1 => lt_ p_1.1 (fun x_2 => bd (K_X12_isGood fu p_1.2) (fun x_3 => (if x_3 = 0 then some (x_2, p_1.2) else bd (K_X12_goOn fu p_1.2) (fun m_4 => some (x_2, m_4))))))
def rm_X12_number : Room := { frames := 2, cells := 0, slots := 0, locals := 47 }
set_option maxHeartbeats 4000000 in
set_option maxRecDepth 100000 in
theorem ct_X12_number (l : Launch) {D : va_G} {ca ad : Nat → Nat} {Z : (Nat → Prop) → State → Heap → Prop} (hZ : ZOK Z) (fu : Nat) (x1 : Int32) (x2 : Int32) (mem : Mem) (res : (Int32 × Mem)) (hF : K_X12_number fu x1 x2 mem = some res) : CI l D (tyL ca) 23 ad (cM ca ad) Z yX12_number cX12_number 4 .int rm_X12_number [.ref (ad 0), .int x1, .int x2] mem res.1 res.2 := by
  refine start_i (own := RX12) rfl (by decide) (Nat.le_of_ble_eq_true rfl) ?_
  intro p e s m args below meth c Q hQ X
  rw [K_X12_number] at hF
  revert hF
  intro hF
  refine w_aload_n X 0 dX12_number_0 rfl rfl 1 rfl ?_
  refine w_iload_n X 1 dX12_number_1 rfl rfl 2 rfl ?_
  refine w_iload_n X 2 dX12_number_2 rfl rfl 3 rfl ?_
  refine w_callVi (fun x => x.1) (fun x => x.2) X hZ hF [.int x1, .int x2] 0 ml_0 mo_0 rfl rfl rfl kB_X12_seen kL_X12_160 (fun res h => ct_X12_seen l hZ fu x1 x2 mem res h) rfl rfl rfl ⟨Nat.le_of_ble_eq_true rfl, Nat.le_of_ble_eq_true rfl⟩ (Nat.le_of_ble_eq_true rfl) ⟨Nat.zero_le _, Nat.zero_le _⟩ dX12_number_3 6 rfl (fun p_1 hF => ?_)
  refine w_let hF (fun x_2 hF => ?_)
  refine w_istore_n X [(3, .int x_2), (0, .ref (ad 0)), (1, .int x1), (2, .int x2)] dX12_number_6 rfl (by decide) rfl 7 rfl ?_
  refine w_aload_n X 1 dX12_number_7 rfl rfl 8 rfl ?_
  refine w_callVi (fun x => x) (fun _ => p_1.2) X hZ hF [] 0 ml_0 mo_0 rfl rfl rfl kB_X12_isGood kL_X12_143 (fun res h => ct_X12_isGood l hZ fu p_1.2 res h) rfl rfl rfl ⟨Nat.le_of_ble_eq_true rfl, Nat.le_of_ble_eq_true rfl⟩ (Nat.le_of_ble_eq_true rfl) ⟨Nat.zero_le _, Nat.zero_le _⟩ dX12_number_8 11 rfl (fun x_3 hF => ?_)
  refine w_if_eq X hF 18 14 dX12_number_11 (by decide) rfl (fun hF => ?_) (fun hF => ?_)
  · refine w_iload_n X 0 dX12_number_18 rfl rfl 19 rfl ?_
    exact w_iret X hQ (o_inj1 hF) (o_inj2 hF) rfl dX12_number_19
  · refine w_aload_n X 1 dX12_number_14 rfl rfl 15 rfl ?_
    refine w_callVv (fun m => m) X hZ hF [] 0 ml_0 mo_0 rfl rfl rfl kB_X12_goOn kL_X12_153 (fun res h => ct_X12_goOn l hZ fu p_1.2 res h) rfl rfl rfl ⟨Nat.le_of_ble_eq_true rfl, Nat.le_of_ble_eq_true rfl⟩ (Nat.le_of_ble_eq_true rfl) ⟨Nat.zero_le _, Nat.zero_le _⟩ dX12_number_15 18 rfl (fun m_4 hF => ?_)
    refine w_iload_n X 0 dX12_number_18 rfl rfl 19 rfl ?_
    exact w_iret X hQ (o_inj1 hF) (o_inj2 hF) rfl dX12_number_19
end Km1
