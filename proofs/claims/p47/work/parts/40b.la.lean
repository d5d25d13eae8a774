section LA
def KL_alike_76 (L : Nat) (xs : Nat → Int32) (np nb : Nat) (fu : Nat) (k_61 : Int32 → Mem → Option (Int32 × Mem)) : Nat → Int32 → Int32 → Mem → Option (Int32 × Mem)
  | 0, _, _, _ => none
  | n + 1, x2, x3, mem => (if x3 < 7 then bdT (K_X11_pawn fu x2 x3 mem) (fun x_1 m_1 => lt_ (mset 0 255 mem m_1) (fun m_2 => gi x2 np (gi x3 7 ((if x_1 = (rd m_2 (255 + (13 + (Int32.toNatClampNeg x2))) (Int32.toNatClampNeg x3)) then (KL_alike_76 L xs np nb fu k_61 n x2 (x3 + 1) m_2) else some (0, m_2)))))) else (k_61 (x2 + 1) mem))
def KL_alike_137 (L : Nat) (xs : Nat → Int32) (np nb : Nat) (fu : Nat) (k_124 : Int32 → Int32 → Mem → Option (Int32 × Mem)) : Nat → Int32 → Int32 → Int32 → Mem → Option (Int32 × Mem)
  | 0, _, _, _, _ => none
  | n + 1, x2, x3, x4, mem => (if x4 < ((rd mem (255 + 0) 0) - 1) then bdT (K_X11_wallAt fu x4 x3 mem) (fun x_5 m_5 => lt_ (mset 0 255 mem m_5) (fun m_6 => gi x3 8 (gi x4 8 ((if x_5 = ((rd m_6 (255 + (4 + (Int32.toNatClampNeg x3))) (Int32.toNatClampNeg x4)) - 1) then gi x3 8 (gi x4 8 ((if 0 < (rd m_6 (255 + (4 + (Int32.toNatClampNeg x3))) (Int32.toNatClampNeg x4)) then (KL_alike_137 L xs np nb fu k_124 n (x2 + 1) x3 (x4 + 1) m_6) else (KL_alike_137 L xs np nb fu k_124 n (x2 + 0) x3 (x4 + 1) m_6)))) else some (0, m_6)))))) else (k_124 x2 (x3 + 1) mem))
def KL_alike_124 (L : Nat) (xs : Nat → Int32) (np nb : Nat) (fu : Nat)  : Nat → Int32 → Int32 → Mem → Option (Int32 × Mem)
  | 0, _, _, _ => none
  | n + 1, x2, x3, mem => (if x3 < ((rd mem (255 + 0) 1) - 1) then (KL_alike_137 L xs np nb fu (KL_alike_124 L xs np nb fu  n) 6 x2 x3 0 mem) else bdT (K_X11_setting fu 3 mem) (fun x_11 m_11 => lt_ (mset 0 255 mem m_11) (fun m_12 => (if x_11 = x2 then some (1, m_12) else some (0, m_12)))))
def KL_alike_61 (L : Nat) (xs : Nat → Int32) (np nb : Nat) (fu : Nat)  : Nat → Int32 → Mem → Option (Int32 × Mem)
  | 0, _, _ => none
  | n + 1, x2, mem => (if x2 < (Int32.ofNat np) then (KL_alike_76 L xs np nb fu (KL_alike_61 L xs np nb fu  n) 8 x2 0 mem) else (KL_alike_124 L xs np nb fu  6 0 0 mem))
def KL_alike (L : Nat) (xs : Nat → Int32) (np nb : Nat) (fu : Nat)  (mem : Mem) : Option (Int32 × Mem) := bdT (K_X11_setting fu 4 mem) (fun x_13 m_13 => lt_ (mset 0 255 mem m_13) (fun m_14 => (if x_13 = (rd m_14 (255 + 0) 2) then bdT (K_X11_setting fu 5 m_14) (fun x_15 m_15 => lt_ (mset 0 255 m_14 m_15) (fun m_16 => (if x_15 = (rd m_16 (255 + 0) 3) then bd (K_X11_isOver fu  m_16) (fun x_17 => bd (KW_isOver np nb fu  (fun j => m_16 (255 + j))) (fun x_18 => (if x_17 = x_18 then bd (K_X11_turnOf fu  m_16) (fun x_19 => bd (KW_isOver np nb fu  (fun j => m_16 (255 + j))) (fun x_20 => (if x_20 = 0 then (if x_19 = (rd m_16 (255 + 0) 4) then (KL_alike_61 L xs np nb fu  5 0 m_16) else some (0, m_16)) else (if x_19 = (-1) then (KL_alike_61 L xs np nb fu  5 0 m_16) else some (0, m_16))))) else some (0, m_16)))) else some (0, m_16)))) else some (0, m_14))))
def rl_alike : Room := { frames := 8, cells := 234, slots := 1404, locals := 126 }
theorem rlc_alike : rl_alike.cells = 234 ∧ rl_alike.slots = 1404 := ⟨rfl, rfl⟩
set_option maxHeartbeats 4000000 in
set_option maxRecDepth 100000 in
theorem cl_alike (l : Launch) (hl : l.stackTraces = false) {D : va_G} {ca ad : Nat → Nat} {np nb eD tS sB : Nat} {Z : (Nat → Prop) → State → Heap → Prop} (hZ : ZOK Z) (hX : ZX Z) {tO : Nat} {sK sV : Nat → Nat} (hO : ZO Z tO sK sV) {tA tU L : Nat} {xs : Nat → Int32} (hW : ZWO Z tA tU sB L xs) (hg : np ≤ 4 ∧ nb ≤ 4 ∧ (np = 0 → nb = 0)) (fu : Nat)  (mem : Mem) (res : (Int32 × Mem)) (hF : KL_alike L xs np nb fu  mem = some res) : CJ l D (tyL ca) (255 + nW np nb) ad (cJ ca ad np nb eD tS sB) Z yL_alike cL_alike 5 .boolean rl_alike [.ref (ad 0), .ref (ad (255 + 0))] mem res.1 res.2 := by
  refine xstart_i (own := RL) rfl (by decide) (Nat.le_of_ble_eq_true rfl) ?_
  intro p e s m args below meth c Q hQ X
  have ei_rm_X11_isOver : rm_X11_isOver.cells = 0 ∧ rm_X11_isOver.slots = 0 := ⟨rfl, rfl⟩
  have ei_rm_X11_turnOf : rm_X11_turnOf.cells = 0 ∧ rm_X11_turnOf.slots = 0 := ⟨rfl, rfl⟩
  have ew_isOver := rwc_isOver
  rw [KL_alike] at hF
  revert hF
  have w_76 : ∀ (n_61 : Nat) (hn_61 : n_61 + 1 ≤ 5) (k_61 : Int32 → Mem → Option (Int32 × Mem)) (hk_61 : ∀ (x2 : Int32) (mem : Mem), k_61 x2 mem = some res → XX D (255 + nW np nb) ad (cJ ca ad np nb eD tS sB) p l e rl_alike s m args below meth c 5 (6 + (5 - n_61) * 24) (36 + (5 - n_61) * 144) Q mem [] 61 [(0, .ref (ad 0)), (1, .ref (ad (255 + 0))), (2, .int x2)] []) (n : Nat) (hn : n ≤ 8) (x2 : Int32) (x3 : Int32) (mem : Mem), KL_alike_76 L xs np nb fu k_61 n x2 x3 mem = some res → XX D (255 + nW np nb) ad (cJ ca ad np nb eD tS sB) p l e rl_alike s m args below meth c 5 (6 + (5 - (n_61 + 1)) * 24 + (8 - n) * 3) (36 + (5 - (n_61 + 1)) * 144 + (8 - n) * 18) Q mem [] 76 [(0, .ref (ad 0)), (1, .ref (ad (255 + 0))), (2, .int x2), (3, .int x3)] [] := by
    intro n_61 hn_61 k_61 hk_61 n
    induction n with
    | zero => intro hn x2 x3 mem hF; exact no_none (show (none : Option (Int32 × Mem)) = some res from hF)
    | succ n ih =>
      intro hn x2 x3 mem hF
      rw [KL_alike_76] at hF
      refine x_iload_n X 3 dL_alike_76 rfl rfl 77 rfl ?_
      refine x_bipush X 7 dL_alike_77 rfl 79 rfl ?_
      refine x_icmp_ge X hF 114 82 dL_alike_79 (by decide) rfl (fun hF => ?_) (fun hF => ?_)
      · refine x_aload_n X 0 dL_alike_82 rfl rfl 83 rfl ?_
        refine x_iload_n X 2 dL_alike_83 rfl rfl 84 rfl ?_
        refine x_iload_n X 3 dL_alike_84 rfl rfl 85 rfl ?_
        refine j_callT (cf1 := cC ca ad) hb_C (fun j f h => cJ_C j f h) X hZ hF [.int x2, .int x3] 0 lj_c kj_c rfl rfl rfl kB_X11_pawn kL_L_70 (fun r h => by rw [ad_0, mem_0]; exact ct_X11_pawn l hl hZ hX hO fu x2 x3 mem r h) rfl rfl rfl ⟨Nat.le_of_ble_eq_true rfl, Nat.le_of_ble_eq_true rfl⟩ (Nat.le_of_ble_eq_true rfl) ⟨by show _ ≤ 234; omega, by show _ ≤ 1404; omega⟩ dL_alike_85 88 rfl (fun x_1 m_1 hF => ?_)
        refine x_letm hF (fun m_2 hF => ?_)
        refine x_aload_n X 1 dL_alike_88 rfl rfl 89 rfl ?_
        refine x_getV (v := .ref (ad (255 + 1))) X (255 + 0) (lj nw_0) kj_0 (T := TX12) (N := 11) rfl in_X12 5 (by decide) kF_L_61 rfl rfl dL_alike_89 92 rfl ?_
        refine x_iload_n X 2 dL_alike_92 rfl rfl 93 rfl ?_
        refine x_gi hF (fun h_3 hF => ?_)
        refine xj_get X hZ hW hg.1 h_3 kL_L_74 kCl_L_78 ⟨Nat.le_of_ble_eq_true rfl, Nat.le_of_ble_eq_true rfl⟩ (Nat.le_of_ble_eq_true rfl) ⟨by show _ ≤ 234; omega, by show _ ≤ 1404; omega⟩ dL_alike_93 98 rfl dL_alike_98 101 rfl ?_
        refine x_iload_n X 3 dL_alike_101 rfl rfl 102 rfl ?_
        refine x_gi hF (fun h_4 hF => ?_)
        refine x_ial X (255 + (13 + (Int32.toNatClampNeg x2))) (lj (nw_p (vp_lt h_3))) (kj_p (vp_lt h_3)) (t0 := 0) rfl h_4 dL_alike_102 103 rfl ?_
        refine x_icmp_eq X hF 108 106 dL_alike_103 (by decide) rfl (fun hF => ?_) (fun hF => ?_)
        · refine x_iinc X 3 (x3 + 1) [(3, .int (x3 + 1)), (0, .ref (ad 0)), (1, .ref (ad (255 + 0))), (2, .int x2)] dL_alike_108 rfl rfl (by decide) rfl 111 rfl ?_
          refine x_goto X 76 dL_alike_111 (by decide) ?_
          refine x_keep [1, 2, 3, 0] rfl ?_
          refine x_widen (k := (6 + (5 - (n_61 + 1)) * 24 + (8 - n) * 3)) (k2 := (36 + (5 - (n_61 + 1)) * 144 + (8 - n) * 18)) (by omega) (by omega) ?_
          exact ih (by omega) x2 (x3 + 1) m_2 hF
        · refine x_iconst X 0 dL_alike_106 rfl 107 rfl ?_
          exact x_iret X hQ (o_inj1 hF) (o_inj2 hF) rfl (by show _ ≤ 234; omega) (by show _ ≤ 1404; omega) dL_alike_107
      · refine x_iinc X 2 (x2 + 1) [(2, .int (x2 + 1)), (0, .ref (ad 0)), (1, .ref (ad (255 + 0))), (3, .int x3)] dL_alike_114 rfl rfl (by decide) rfl 117 rfl ?_
        refine x_goto X 61 dL_alike_117 (by decide) ?_
        refine x_keep [1, 2, 0] rfl ?_
        refine x_widen (k := (6 + (5 - n_61) * 24)) (k2 := (36 + (5 - n_61) * 144)) (by omega) (by omega) ?_
        exact hk_61 (x2 + 1) mem hF
  have w_137 : ∀ (n_124 : Nat) (hn_124 : n_124 + 1 ≤ 6) (k_124 : Int32 → Int32 → Mem → Option (Int32 × Mem)) (hk_124 : ∀ (x2 : Int32) (x3 : Int32) (mem : Mem), k_124 x2 x3 mem = some res → XX D (255 + nW np nb) ad (cJ ca ad np nb eD tS sB) p l e rl_alike s m args below meth c 5 (126 + (6 - n_124) * 18) (756 + (6 - n_124) * 108) Q mem [] 124 [(0, .ref (ad 0)), (1, .ref (ad (255 + 0))), (2, .int x2), (3, .int x3)] []) (n : Nat) (hn : n ≤ 6) (x2 : Int32) (x3 : Int32) (x4 : Int32) (mem : Mem), KL_alike_137 L xs np nb fu k_124 n x2 x3 x4 mem = some res → XX D (255 + nW np nb) ad (cJ ca ad np nb eD tS sB) p l e rl_alike s m args below meth c 5 (126 + (6 - (n_124 + 1)) * 18 + (6 - n) * 3) (756 + (6 - (n_124 + 1)) * 108 + (6 - n) * 18) Q mem [] 137 [(0, .ref (ad 0)), (1, .ref (ad (255 + 0))), (2, .int x2), (3, .int x3), (4, .int x4)] [] := by
    intro n_124 hn_124 k_124 hk_124 n
    induction n with
    | zero => intro hn x2 x3 x4 mem hF; exact no_none (show (none : Option (Int32 × Mem)) = some res from hF)
    | succ n ih =>
      intro hn x2 x3 x4 mem hF
      rw [KL_alike_137] at hF
      refine x_iload X 4 dL_alike_137 rfl 139 rfl ?_
      refine x_aload_n X 1 dL_alike_139 rfl rfl 140 rfl ?_
      refine x_getV (v := .int (rd mem (255 + 0) 0)) X (255 + 0) (lj nw_0) kj_0 (T := TX12) (N := 11) rfl in_X12 0 (by decide) kF_L_83 rfl rfl dL_alike_140 143 rfl ?_
      refine x_iconst X 1 dL_alike_143 rfl 144 rfl ?_
      refine x_isub X dL_alike_144 145 rfl ?_
      refine x_icmp_ge X hF 197 148 dL_alike_145 (by decide) rfl (fun hF => ?_) (fun hF => ?_)
      · refine x_aload_n X 0 dL_alike_148 rfl rfl 149 rfl ?_
        refine x_iload X 4 dL_alike_149 rfl 151 rfl ?_
        refine x_iload_n X 3 dL_alike_151 rfl rfl 152 rfl ?_
        refine j_callT (cf1 := cC ca ad) hb_C (fun j f h => cJ_C j f h) X hZ hF [.int x4, .int x3] 0 lj_c kj_c rfl rfl rfl kB_X11_wallAt kL_L_86 (fun r h => by rw [ad_0, mem_0]; exact ct_X11_wallAt l hl hZ hX hO fu x4 x3 mem r h) rfl rfl rfl ⟨Nat.le_of_ble_eq_true rfl, Nat.le_of_ble_eq_true rfl⟩ (Nat.le_of_ble_eq_true rfl) ⟨by show _ ≤ 234; omega, by show _ ≤ 1404; omega⟩ dL_alike_152 155 rfl (fun x_5 m_5 hF => ?_)
        refine x_letm hF (fun m_6 hF => ?_)
        refine x_aload_n X 1 dL_alike_155 rfl rfl 156 rfl ?_
        refine x_getV (v := .ref (ad (255 + 3))) X (255 + 0) (lj nw_0) kj_0 (T := TX12) (N := 11) rfl in_X12 7 (by decide) kF_L_89 rfl rfl dL_alike_156 159 rfl ?_
        refine x_iload_n X 3 dL_alike_159 rfl rfl 160 rfl ?_
        refine x_gi hF (fun h_7 hF => ?_)
        refine x_aar X (255 + 3) (lj nw_3) (255 + (4 + (Int32.toNatClampNeg x3))) kj_3 (t0 := 6) rfl h_7 (ej_rows (vp_lt h_7)) dL_alike_160 161 rfl ?_
        refine x_iload X 4 dL_alike_161 rfl 163 rfl ?_
        refine x_gi hF (fun h_8 hF => ?_)
        refine x_ial X (255 + (4 + (Int32.toNatClampNeg x3))) (lj (nw_r (vp_lt h_7))) (kj_r (vp_lt h_7)) (t0 := 0) rfl h_8 dL_alike_163 164 rfl ?_
        refine x_iconst X 1 dL_alike_164 rfl 165 rfl ?_
        refine x_isub X dL_alike_165 166 rfl ?_
        refine x_icmp_eq X hF 171 169 dL_alike_166 (by decide) rfl (fun hF => ?_) (fun hF => ?_)
        · refine x_iload_n X 2 dL_alike_171 rfl rfl 172 rfl ?_
          refine x_aload_n X 1 dL_alike_172 rfl rfl 173 rfl ?_
          refine x_getV (v := .ref (ad (255 + 3))) X (255 + 0) (lj nw_0) kj_0 (T := TX12) (N := 11) rfl in_X12 7 (by decide) kF_L_89 rfl rfl dL_alike_173 176 rfl ?_
          refine x_iload_n X 3 dL_alike_176 rfl rfl 177 rfl ?_
          refine x_gi hF (fun h_9 hF => ?_)
          refine x_aar X (255 + 3) (lj nw_3) (255 + (4 + (Int32.toNatClampNeg x3))) kj_3 (t0 := 6) rfl h_9 (ej_rows (vp_lt h_9)) dL_alike_177 178 rfl ?_
          refine x_iload X 4 dL_alike_178 rfl 180 rfl ?_
          refine x_gi hF (fun h_10 hF => ?_)
          refine x_ial X (255 + (4 + (Int32.toNatClampNeg x3))) (lj (nw_r (vp_lt h_9))) (kj_r (vp_lt h_9)) (t0 := 0) rfl h_10 dL_alike_180 181 rfl ?_
          refine x_if_le X hF 188 184 dL_alike_181 (by decide) rfl (fun hF => ?_) (fun hF => ?_)
          · refine x_iconst X 1 dL_alike_184 rfl 185 rfl ?_
            refine x_goto X 189 dL_alike_185 (by decide) ?_
            refine x_iadd X dL_alike_189 190 rfl ?_
            refine x_istore_n X [(2, .int (x2 + 1)), (0, .ref (ad 0)), (1, .ref (ad (255 + 0))), (3, .int x3), (4, .int x4)] dL_alike_190 rfl (by decide) rfl 191 rfl ?_
            refine x_iinc X 4 (x4 + 1) [(4, .int (x4 + 1)), (2, .int (x2 + 1)), (0, .ref (ad 0)), (1, .ref (ad (255 + 0))), (3, .int x3)] dL_alike_191 rfl rfl (by decide) rfl 194 rfl ?_
            refine x_goto X 137 dL_alike_194 (by decide) ?_
            refine x_keep [2, 3, 1, 4, 0] rfl ?_
            refine x_widen (k := (126 + (6 - (n_124 + 1)) * 18 + (6 - n) * 3)) (k2 := (756 + (6 - (n_124 + 1)) * 108 + (6 - n) * 18)) (by omega) (by omega) ?_
            exact ih (by omega) (x2 + 1) x3 (x4 + 1) m_6 hF
          · refine x_iconst X 0 dL_alike_188 rfl 189 rfl ?_
            refine x_iadd X dL_alike_189 190 rfl ?_
            refine x_istore_n X [(2, .int (x2 + 0)), (0, .ref (ad 0)), (1, .ref (ad (255 + 0))), (3, .int x3), (4, .int x4)] dL_alike_190 rfl (by decide) rfl 191 rfl ?_
            refine x_iinc X 4 (x4 + 1) [(4, .int (x4 + 1)), (2, .int (x2 + 0)), (0, .ref (ad 0)), (1, .ref (ad (255 + 0))), (3, .int x3)] dL_alike_191 rfl rfl (by decide) rfl 194 rfl ?_
            refine x_goto X 137 dL_alike_194 (by decide) ?_
            refine x_keep [2, 3, 1, 4, 0] rfl ?_
            refine x_widen (k := (126 + (6 - (n_124 + 1)) * 18 + (6 - n) * 3)) (k2 := (756 + (6 - (n_124 + 1)) * 108 + (6 - n) * 18)) (by omega) (by omega) ?_
            exact ih (by omega) (x2 + 0) x3 (x4 + 1) m_6 hF
        · refine x_iconst X 0 dL_alike_169 rfl 170 rfl ?_
          exact x_iret X hQ (o_inj1 hF) (o_inj2 hF) rfl (by show _ ≤ 234; omega) (by show _ ≤ 1404; omega) dL_alike_170
      · refine x_iinc X 3 (x3 + 1) [(3, .int (x3 + 1)), (0, .ref (ad 0)), (1, .ref (ad (255 + 0))), (2, .int x2), (4, .int x4)] dL_alike_197 rfl rfl (by decide) rfl 200 rfl ?_
        refine x_goto X 124 dL_alike_200 (by decide) ?_
        refine x_keep [1, 2, 3, 0] rfl ?_
        refine x_widen (k := (126 + (6 - n_124) * 18)) (k2 := (756 + (6 - n_124) * 108)) (by omega) (by omega) ?_
        exact hk_124 x2 (x3 + 1) mem hF
  have w_124 : ∀  (n : Nat) (hn : n ≤ 6) (x2 : Int32) (x3 : Int32) (mem : Mem), KL_alike_124 L xs np nb fu  n x2 x3 mem = some res → XX D (255 + nW np nb) ad (cJ ca ad np nb eD tS sB) p l e rl_alike s m args below meth c 5 (126 + (6 - n) * 18) (756 + (6 - n) * 108) Q mem [] 124 [(0, .ref (ad 0)), (1, .ref (ad (255 + 0))), (2, .int x2), (3, .int x3)] [] := by
    intro  n
    induction n with
    | zero => intro hn x2 x3 mem hF; exact no_none (show (none : Option (Int32 × Mem)) = some res from hF)
    | succ n ih =>
      intro hn x2 x3 mem hF
      rw [KL_alike_124] at hF
      refine x_iload_n X 3 dL_alike_124 rfl rfl 125 rfl ?_
      refine x_aload_n X 1 dL_alike_125 rfl rfl 126 rfl ?_
      refine x_getV (v := .int (rd mem (255 + 0) 1)) X (255 + 0) (lj nw_0) kj_0 (T := TX12) (N := 11) rfl in_X12 1 (by decide) kF_L_80 rfl rfl dL_alike_126 129 rfl ?_
      refine x_iconst X 1 dL_alike_129 rfl 130 rfl ?_
      refine x_isub X dL_alike_130 131 rfl ?_
      refine x_icmp_ge X hF 203 134 dL_alike_131 (by decide) rfl (fun hF => ?_) (fun hF => ?_)
      · refine x_iconst X 0 dL_alike_134 rfl 135 rfl ?_
        refine x_istore X [(4, .int 0), (0, .ref (ad 0)), (1, .ref (ad (255 + 0))), (2, .int x2), (3, .int x3)] dL_alike_135 (by decide) rfl 137 rfl ?_
        refine x_keep [1, 2, 3, 4, 0] rfl ?_
        refine x_widen (k := (126 + (6 - (n + 1)) * 18 + (6 - 6) * 3)) (k2 := (756 + (6 - (n + 1)) * 108 + (6 - 6) * 18)) (by omega) (by omega) ?_
        exact w_137 n (by omega) (KL_alike_124 L xs np nb fu  n) (fun x2 x3 mem => ih (by omega) x2 x3 mem) 6 (by omega) x2 x3 0 mem hF
      · refine x_aload_n X 0 dL_alike_203 rfl rfl 204 rfl ?_
        refine x_iconst X 3 dL_alike_204 rfl 205 rfl ?_
        refine j_callT (cf1 := cC ca ad) hb_C (fun j f h => cJ_C j f h) X hZ hF [.int 3] 0 lj_c kj_c rfl rfl rfl kB_X11_setting kL_L_39 (fun r h => by rw [ad_0, mem_0]; exact ct_X11_setting l hl hZ hX hO fu 3 mem r h) rfl rfl rfl ⟨Nat.le_of_ble_eq_true rfl, Nat.le_of_ble_eq_true rfl⟩ (Nat.le_of_ble_eq_true rfl) ⟨by show _ ≤ 234; omega, by show _ ≤ 1404; omega⟩ dL_alike_205 208 rfl (fun x_11 m_11 hF => ?_)
        refine x_letm hF (fun m_12 hF => ?_)
        refine x_iload_n X 2 dL_alike_208 rfl rfl 209 rfl ?_
        refine x_icmp_ne X hF 216 212 dL_alike_209 (by decide) rfl (fun hF => ?_) (fun hF => ?_)
        · refine x_iconst X 1 dL_alike_212 rfl 213 rfl ?_
          refine x_goto X 217 dL_alike_213 (by decide) ?_
          exact x_iret X hQ (o_inj1 hF) (o_inj2 hF) rfl (by show _ ≤ 234; omega) (by show _ ≤ 1404; omega) dL_alike_217
        · refine x_iconst X 0 dL_alike_216 rfl 217 rfl ?_
          exact x_iret X hQ (o_inj1 hF) (o_inj2 hF) rfl (by show _ ≤ 234; omega) (by show _ ≤ 1404; omega) dL_alike_217
  have w_61 : ∀  (n : Nat) (hn : n ≤ 5) (x2 : Int32) (mem : Mem), KL_alike_61 L xs np nb fu  n x2 mem = some res → XX D (255 + nW np nb) ad (cJ ca ad np nb eD tS sB) p l e rl_alike s m args below meth c 5 (6 + (5 - n) * 24) (36 + (5 - n) * 144) Q mem [] 61 [(0, .ref (ad 0)), (1, .ref (ad (255 + 0))), (2, .int x2)] [] := by
    intro  n
    induction n with
    | zero => intro hn x2 mem hF; exact no_none (show (none : Option (Int32 × Mem)) = some res from hF)
    | succ n ih =>
      intro hn x2 mem hF
      rw [KL_alike_61] at hF
      refine x_iload_n X 2 dL_alike_61 rfl rfl 62 rfl ?_
      refine x_aload_n X 1 dL_alike_62 rfl rfl 63 rfl ?_
      refine x_getV (v := .ref (ad (255 + 1))) X (255 + 0) (lj nw_0) kj_0 (T := TX12) (N := 11) rfl in_X12 5 (by decide) kF_L_61 rfl rfl dL_alike_63 66 rfl ?_
      refine xj_size X hZ hW kL_L_65 ⟨Nat.le_of_ble_eq_true rfl, Nat.le_of_ble_eq_true rfl⟩ (Nat.le_of_ble_eq_true rfl) ⟨by show _ ≤ 234; omega, by show _ ≤ 1404; omega⟩ dL_alike_66 71 rfl ?_
      refine x_icmp_ge X hF 120 74 dL_alike_71 (by decide) rfl (fun hF => ?_) (fun hF => ?_)
      · refine x_iconst X 0 dL_alike_74 rfl 75 rfl ?_
        refine x_istore_n X [(3, .int 0), (0, .ref (ad 0)), (1, .ref (ad (255 + 0))), (2, .int x2)] dL_alike_75 rfl (by decide) rfl 76 rfl ?_
        refine x_keep [1, 2, 3, 0] rfl ?_
        refine x_widen (k := (6 + (5 - (n + 1)) * 24 + (8 - 8) * 3)) (k2 := (36 + (5 - (n + 1)) * 144 + (8 - 8) * 18)) (by omega) (by omega) ?_
        exact w_76 n (by omega) (KL_alike_61 L xs np nb fu  n) (fun x2 mem => ih (by omega) x2 mem) 8 (by omega) x2 0 mem hF
      · refine x_iconst X 0 dL_alike_120 rfl 121 rfl ?_
        refine x_istore_n X [(2, .int 0), (0, .ref (ad 0)), (1, .ref (ad (255 + 0)))] dL_alike_121 rfl (by decide) rfl 122 rfl ?_
        refine x_iconst X 0 dL_alike_122 rfl 123 rfl ?_
        refine x_istore_n X [(3, .int 0), (2, .int 0), (0, .ref (ad 0)), (1, .ref (ad (255 + 0)))] dL_alike_123 rfl (by decide) rfl 124 rfl ?_
        refine x_keep [2, 3, 1, 0] rfl ?_
        refine x_widen (k := (126 + (6 - 6) * 18)) (k2 := (756 + (6 - 6) * 108)) (by omega) (by omega) ?_
        exact w_124  6 (by omega) 0 0 mem hF
  intro hF
  refine x_aload_n X 0 dL_alike_0 rfl rfl 1 rfl ?_
  refine x_iconst X 4 dL_alike_1 rfl 2 rfl ?_
  refine j_callT (cf1 := cC ca ad) hb_C (fun j f h => cJ_C j f h) X hZ hF [.int 4] 0 lj_c kj_c rfl rfl rfl kB_X11_setting kL_L_39 (fun r h => by rw [ad_0, mem_0]; exact ct_X11_setting l hl hZ hX hO fu 4 mem r h) rfl rfl rfl ⟨Nat.le_of_ble_eq_true rfl, Nat.le_of_ble_eq_true rfl⟩ (Nat.le_of_ble_eq_true rfl) ⟨Nat.le_of_ble_eq_true rfl, Nat.le_of_ble_eq_true rfl⟩ dL_alike_2 5 rfl (fun x_13 m_13 hF => ?_)
  refine x_letm hF (fun m_14 hF => ?_)
  refine x_aload_n X 1 dL_alike_5 rfl rfl 6 rfl ?_
  refine x_getV (v := .int (rd m_14 (255 + 0) 2)) X (255 + 0) (lj nw_0) kj_0 (T := TX12) (N := 11) rfl in_X12 2 (by decide) kF_L_42 rfl rfl dL_alike_6 9 rfl ?_
  refine x_icmp_ne X hF 57 12 dL_alike_9 (by decide) rfl (fun hF => ?_) (fun hF => ?_)
  · refine x_aload_n X 0 dL_alike_12 rfl rfl 13 rfl ?_
    refine x_iconst X 5 dL_alike_13 rfl 14 rfl ?_
    refine j_callT (cf1 := cC ca ad) hb_C (fun j f h => cJ_C j f h) X hZ hF [.int 5] 0 lj_c kj_c rfl rfl rfl kB_X11_setting kL_L_39 (fun r h => by rw [ad_0, mem_0]; exact ct_X11_setting l hl hZ hX hO fu 5 m_14 r h) rfl rfl rfl ⟨Nat.le_of_ble_eq_true rfl, Nat.le_of_ble_eq_true rfl⟩ (Nat.le_of_ble_eq_true rfl) ⟨Nat.le_of_ble_eq_true rfl, Nat.le_of_ble_eq_true rfl⟩ dL_alike_14 17 rfl (fun x_15 m_15 hF => ?_)
    refine x_letm hF (fun m_16 hF => ?_)
    refine x_aload_n X 1 dL_alike_17 rfl rfl 18 rfl ?_
    refine x_getV (v := .int (rd m_16 (255 + 0) 3)) X (255 + 0) (lj nw_0) kj_0 (T := TX12) (N := 11) rfl in_X12 3 (by decide) kF_L_48 rfl rfl dL_alike_18 21 rfl ?_
    refine x_icmp_ne X hF 57 24 dL_alike_21 (by decide) rfl (fun hF => ?_) (fun hF => ?_)
    · refine x_aload_n X 0 dL_alike_24 rfl rfl 25 rfl ?_
      refine j_callVi (fun x => x) (fun _ => (fun j => m_16 (0 + j))) (cf1 := cC ca ad) hb_C (fun j f h => cJ_C j f h) X hZ hF [] 0 lj_c kj_c rfl rfl rfl kB_X11_isOver kL_L_51 (fun r h => by rw [ad_0, mem_0]; exact ct_X11_isOver l hZ hO fu  m_16 r h) rfl ⟨Nat.le_of_ble_eq_true rfl, Nat.le_of_ble_eq_true rfl⟩ (Nat.le_of_ble_eq_true rfl) ⟨Nat.le_of_ble_eq_true rfl, Nat.le_of_ble_eq_true rfl⟩ dL_alike_25 28 rfl (fun x_17 hF => ?_)
      rw [mset_id]
      refine x_aload_n X 1 dL_alike_28 rfl rfl 29 rfl ?_
      refine j_callVi (fun x => x) (fun _ => (fun j => m_16 (255 + j))) hb_W (fun j f _ => cJ_W j f) X hZ hF [] (255 + 0) (lj nw_0) kj_0 rfl rfl rfl kB_X12_isOver kL_L_54 (fun res h => cw_isOver l hZ hW hg fu  (fun j => m_16 (255 + j)) res h) rfl ⟨Nat.le_of_ble_eq_true rfl, Nat.le_of_ble_eq_true rfl⟩ (Nat.le_of_ble_eq_true rfl) ⟨Nat.le_of_ble_eq_true rfl, Nat.le_of_ble_eq_true rfl⟩ dL_alike_29 32 rfl (fun x_18 hF => ?_)
      rw [mset_id]
      refine x_icmp_ne X hF 57 35 dL_alike_32 (by decide) rfl (fun hF => ?_) (fun hF => ?_)
      · refine x_aload_n X 0 dL_alike_35 rfl rfl 36 rfl ?_
        refine j_callVi (fun x => x) (fun _ => (fun j => m_16 (0 + j))) (cf1 := cC ca ad) hb_C (fun j f h => cJ_C j f h) X hZ hF [] 0 lj_c kj_c rfl rfl rfl kB_X11_turnOf kL_L_55 (fun r h => by rw [ad_0, mem_0]; exact ct_X11_turnOf l hZ hO fu  m_16 r h) rfl ⟨Nat.le_of_ble_eq_true rfl, Nat.le_of_ble_eq_true rfl⟩ (Nat.le_of_ble_eq_true rfl) ⟨Nat.le_of_ble_eq_true rfl, Nat.le_of_ble_eq_true rfl⟩ dL_alike_36 39 rfl (fun x_19 hF => ?_)
        rw [mset_id]
        refine x_aload_n X 1 dL_alike_39 rfl rfl 40 rfl ?_
        refine j_callVi (fun x => x) (fun _ => (fun j => m_16 (255 + j))) hb_W (fun j f _ => cJ_W j f) X hZ hF [] (255 + 0) (lj nw_0) kj_0 rfl rfl rfl kB_X12_isOver kL_L_54 (fun res h => cw_isOver l hZ hW hg fu  (fun j => m_16 (255 + j)) res h) rfl ⟨Nat.le_of_ble_eq_true rfl, Nat.le_of_ble_eq_true rfl⟩ (Nat.le_of_ble_eq_true rfl) ⟨Nat.le_of_ble_eq_true rfl, Nat.le_of_ble_eq_true rfl⟩ dL_alike_40 43 rfl (fun x_20 hF => ?_)
        rw [mset_id]
        refine x_if_eq X hF 50 46 dL_alike_43 (by decide) rfl (fun hF => ?_) (fun hF => ?_)
        · refine x_aload_n X 1 dL_alike_50 rfl rfl 51 rfl ?_
          refine x_getV (v := .int (rd m_16 (255 + 0) 4)) X (255 + 0) (lj nw_0) kj_0 (T := TX12) (N := 11) rfl in_X12 4 (by decide) kF_L_58 rfl rfl dL_alike_51 54 rfl ?_
          refine x_icmp_eq X hF 59 57 dL_alike_54 (by decide) rfl (fun hF => ?_) (fun hF => ?_)
          · refine x_iconst X 0 dL_alike_59 rfl 60 rfl ?_
            refine x_istore_n X [(2, .int 0), (0, .ref (ad 0)), (1, .ref (ad (255 + 0)))] dL_alike_60 rfl (by decide) rfl 61 rfl ?_
            refine x_keep [1, 2, 0] rfl ?_
            refine x_widen (k := (6 + (5 - 5) * 24)) (k2 := (36 + (5 - 5) * 144)) (by omega) (by omega) ?_
            exact w_61  5 (by omega) 0 m_16 hF
          · refine x_iconst X 0 dL_alike_57 rfl 58 rfl ?_
            exact x_iret X hQ (o_inj1 hF) (o_inj2 hF) rfl (Nat.le_of_ble_eq_true rfl) (Nat.le_of_ble_eq_true rfl) dL_alike_58
        · refine x_iconst X (-1) dL_alike_46 rfl 47 rfl ?_
          refine x_goto X 54 dL_alike_47 (by decide) ?_
          refine x_icmp_eq X hF 59 57 dL_alike_54 (by decide) rfl (fun hF => ?_) (fun hF => ?_)
          · refine x_iconst X 0 dL_alike_59 rfl 60 rfl ?_
            refine x_istore_n X [(2, .int 0), (0, .ref (ad 0)), (1, .ref (ad (255 + 0)))] dL_alike_60 rfl (by decide) rfl 61 rfl ?_
            refine x_keep [1, 2, 0] rfl ?_
            refine x_widen (k := (6 + (5 - 5) * 24)) (k2 := (36 + (5 - 5) * 144)) (by omega) (by omega) ?_
            exact w_61  5 (by omega) 0 m_16 hF
          · refine x_iconst X 0 dL_alike_57 rfl 58 rfl ?_
            exact x_iret X hQ (o_inj1 hF) (o_inj2 hF) rfl (Nat.le_of_ble_eq_true rfl) (Nat.le_of_ble_eq_true rfl) dL_alike_58
      · refine x_iconst X 0 dL_alike_57 rfl 58 rfl ?_
        exact x_iret X hQ (o_inj1 hF) (o_inj2 hF) rfl (Nat.le_of_ble_eq_true rfl) (Nat.le_of_ble_eq_true rfl) dL_alike_58
    · refine x_iconst X 0 dL_alike_57 rfl 58 rfl ?_
      exact x_iret X hQ (o_inj1 hF) (o_inj2 hF) rfl (Nat.le_of_ble_eq_true rfl) (Nat.le_of_ble_eq_true rfl) dL_alike_58
  · refine x_iconst X 0 dL_alike_57 rfl 58 rfl ?_
    exact x_iret X hQ (o_inj1 hF) (o_inj2 hF) rfl (Nat.le_of_ble_eq_true rfl) (Nat.le_of_ble_eq_true rfl) dL_alike_58

def KL_acts_91 (L : Nat) (xs : Nat → Int32) (np nb : Nat) (fu : Nat)  : Nat → Int32 → Int32 → Mem → Option (Int32 × Mem)
  | 0, _, _, _ => none
  | n + 1, x4, x5, mem => (if x5 < 4 then bdT (K_X11_canStep fu (rd mem (255 + 0) 4) ((x4 + x5) - (x4 + x5) / 4 * 4) mem) (fun x_1 m_1 => lt_ (mset 0 255 mem m_1) (fun m_2 => bd (KW_landing np nb fu (rd m_2 (255 + 0) 4) ((x4 + x5) - (x4 + x5) / 4 * 4) (fun j => m_2 (255 + j))) (fun x_3 => (if x_3 < 0 then (if x_1 = 0 then bd (KW_landing np nb fu (rd m_2 (255 + 0) 4) ((x4 + x5) - (x4 + x5) / 4 * 4) (fun j => m_2 (255 + j))) (fun x_4 => (if x_4 < 0 then (KL_acts_91 L xs np nb fu  n x4 (x5 + 1) m_2) else bdT (K_X11_step fu ((x4 + x5) - (x4 + x5) / 4 * 4) m_2) (fun x_5 m_5 => lt_ (mset 0 255 m_2 m_5) (fun m_6 => bd (KW_step np nb fu ((x4 + x5) - (x4 + x5) / 4 * 4) (fun j => m_6 (255 + j))) (fun p_7 => lt_ (mset 255 (nW np nb) m_6 p_7.2) (fun m_8 => (if x_5 = p_7.1 then some (1, m_8) else some (0, m_8)))))))) else some (0, m_2)) else (if x_1 = 1 then bd (KW_landing np nb fu (rd m_2 (255 + 0) 4) ((x4 + x5) - (x4 + x5) / 4 * 4) (fun j => m_2 (255 + j))) (fun x_9 => (if x_9 < 0 then (KL_acts_91 L xs np nb fu  n x4 (x5 + 1) m_2) else bdT (K_X11_step fu ((x4 + x5) - (x4 + x5) / 4 * 4) m_2) (fun x_10 m_10 => lt_ (mset 0 255 m_2 m_10) (fun m_11 => bd (KW_step np nb fu ((x4 + x5) - (x4 + x5) / 4 * 4) (fun j => m_11 (255 + j))) (fun p_12 => lt_ (mset 255 (nW np nb) m_11 p_12.2) (fun m_13 => (if x_10 = p_12.1 then some (1, m_13) else some (0, m_13)))))))) else some (0, m_2)))))) else bd (KW_endTurn np nb fu  (fun j => mem (255 + j))) (fun m_14 => lt_ (mset 255 (nW np nb) mem m_14) (fun m_15 => bdT (K_X11_pass fu  m_15) (fun x_16 m_16 => lt_ (mset 0 255 m_15 m_16) (fun m_17 => bd (KW_isOver np nb fu  (fun j => m_17 (255 + j))) (fun x_18 => (if x_18 = 0 then (if x_16 = (rd m_17 (255 + 0) 4) then some (1, m_17) else some (0, m_17)) else (if x_16 = (-1) then some (1, m_17) else some (0, m_17)))))))))
def KL_acts_211 (L : Nat) (xs : Nat → Int32) (np nb : Nat) (fu : Nat)  (x4 : Int32) (mem : Mem) : Option (Int32 × Mem) := gz ((rd mem (255 + 0) 0) - 1) (lt_ (x4 - x4 / ((rd mem (255 + 0) 0) - 1) * ((rd mem (255 + 0) 0) - 1)) (fun x_20 => gz ((rd mem (255 + 0) 1) - 1) (lt_ ((x4 / 9) - (x4 / 9) / ((rd mem (255 + 0) 1) - 1) * ((rd mem (255 + 0) 1) - 1)) (fun x_22 => bd (KW_isAdmissible np nb fu x_20 x_22 (1 + ((x4 / 99) - (x4 / 99) / 2 * 2)) (fun j => mem (255 + j))) (fun p_23 => lt_ (mset 255 (nW np nb) mem p_23.2) (fun m_24 => (if (1 + ((x4 / 99) - (x4 / 99) / 2 * 2)) = 2 then bdT (K_X11_isAdmissible fu x_20 x_22 1 m_24) (fun x_25 m_25 => lt_ (mset 0 255 m_24 m_25) (fun m_26 => (if x_25 = p_23.1 then (if p_23.1 = 0 then some (1, m_26) else gi (rd m_26 (255 + 0) 4) np ((if (rd m_26 (255 + (13 + (Int32.toNatClampNeg (rd m_26 (255 + 0) 4)))) 3) = 0 then some (1, m_26) else (if (1 + ((x4 / 99) - (x4 / 99) / 2 * 2)) = 2 then bdT (K_X11_build fu x_20 x_22 1 m_26) (fun x_28 m_28 => lt_ (mset 0 255 m_26 m_28) (fun m_29 => bd (KW_build np nb fu x_20 x_22 (1 + ((x4 / 99) - (x4 / 99) / 2 * 2)) (fun j => m_29 (255 + j))) (fun p_30 => lt_ (mset 255 (nW np nb) m_29 p_30.2) (fun m_31 => (if x_28 = p_30.1 then some (1, m_31) else some (0, m_31)))))) else bdT (K_X11_build fu x_20 x_22 0 m_26) (fun x_32 m_32 => lt_ (mset 0 255 m_26 m_32) (fun m_33 => bd (KW_build np nb fu x_20 x_22 (1 + ((x4 / 99) - (x4 / 99) / 2 * 2)) (fun j => m_33 (255 + j))) (fun p_34 => lt_ (mset 255 (nW np nb) m_33 p_34.2) (fun m_35 => (if x_32 = p_34.1 then some (1, m_35) else some (0, m_35)))))))))) else some (0, m_26)))) else bdT (K_X11_isAdmissible fu x_20 x_22 0 m_24) (fun x_36 m_36 => lt_ (mset 0 255 m_24 m_36) (fun m_37 => (if x_36 = p_23.1 then (if p_23.1 = 0 then some (1, m_37) else gi (rd m_37 (255 + 0) 4) np ((if (rd m_37 (255 + (13 + (Int32.toNatClampNeg (rd m_37 (255 + 0) 4)))) 3) = 0 then some (1, m_37) else (if (1 + ((x4 / 99) - (x4 / 99) / 2 * 2)) = 2 then bdT (K_X11_build fu x_20 x_22 1 m_37) (fun x_39 m_39 => lt_ (mset 0 255 m_37 m_39) (fun m_40 => bd (KW_build np nb fu x_20 x_22 (1 + ((x4 / 99) - (x4 / 99) / 2 * 2)) (fun j => m_40 (255 + j))) (fun p_41 => lt_ (mset 255 (nW np nb) m_40 p_41.2) (fun m_42 => (if x_39 = p_41.1 then some (1, m_42) else some (0, m_42)))))) else bdT (K_X11_build fu x_20 x_22 0 m_37) (fun x_43 m_43 => lt_ (mset 0 255 m_37 m_43) (fun m_44 => bd (KW_build np nb fu x_20 x_22 (1 + ((x4 / 99) - (x4 / 99) / 2 * 2)) (fun j => m_44 (255 + j))) (fun p_45 => lt_ (mset 255 (nW np nb) m_44 p_45.2) (fun m_46 => (if x_43 = p_45.1 then some (1, m_46) else some (0, m_46)))))))))) else some (0, m_37)))))))))))
def KL_acts_386 (L : Nat) (xs : Nat → Int32) (np nb : Nat) (fu : Nat)  (x4 : Int32) (x5 : Int32) (mem : Mem) : Option (Int32 × Mem) := bdT (K_X11_play fu ((x4 / 3) - (x4 / 3) / 2 * 2) (1 + (x4 - x4 / 3 * 3)) mem) (fun x_47 m_47 => lt_ (mset 0 255 mem m_47) (fun m_48 => (if x_47 = x5 then some (1, m_48) else some (0, m_48))))
def KL_acts_352 (L : Nat) (xs : Nat → Int32) (np nb : Nat) (fu : Nat)  : Nat → Int32 → Int32 → Mem → Option (Int32 × Mem)
  | 0, _, _, _ => none
  | n + 1, x4, x5, mem => (if x5 < (1 + (x4 - x4 / 3 * 3)) then bd (KW_isOver np nb fu  (fun j => mem (255 + j))) (fun x_49 => (if x_49 = 0 then bd (KW_play np nb fu ((x4 / 3) - (x4 / 3) / 2 * 2) (fun j => mem (255 + j))) (fun m_50 => lt_ (mset 255 (nW np nb) mem m_50) (fun m_51 => (KL_acts_352 L xs np nb fu  n x4 (x5 + 1) m_51))) else (KL_acts_386 L xs np nb fu   x4 x5 mem))) else (KL_acts_386 L xs np nb fu   x4 x5 mem))
def KL_acts (L : Nat) (xs : Nat → Int32) (np nb : Nat) (fu : Nat) (x3 : Int32) (mem : Mem) : Option (Int32 × Mem) := bd (KL_pick L xs fu (340 + x3) 4000) (fun x_52 => bd (KW_isOver np nb fu  (fun j => mem (255 + j))) (fun x_53 => (if x_53 = 0 then bd (KL_pick L xs fu (300 + x3) 7) (fun x_54 => (if x_54 = 0 then (KL_acts_91 L xs np nb fu  5 x_52 0 mem) else (if x_54 = 1 then (KL_acts_91 L xs np nb fu  5 x_52 0 mem) else (if x_54 = 2 then (KL_acts_91 L xs np nb fu  5 x_52 0 mem) else (if x_54 = 3 then (KL_acts_211 L xs np nb fu   x_52 mem) else (if x_54 = 4 then (KL_acts_211 L xs np nb fu   x_52 mem) else (KL_acts_352 L xs np nb fu  4 x_52 0 mem))))))) else bd (K_X11_isOver fu  mem) (fun x_60 => (if x_60 = 0 then some (0, mem) else bdT (K_X11_play fu 0 3 mem) (fun x_61 m_61 => lt_ (mset 0 255 mem m_61) (fun m_62 => (if x_61 = 0 then some (1, m_62) else some (0, m_62)))))))))
def rl_acts : Room := { frames := 8, cells := 29299, slots := 232690, locals := 192 }
theorem rlc_acts : rl_acts.cells = 29299 ∧ rl_acts.slots = 232690 := ⟨rfl, rfl⟩
set_option maxHeartbeats 4000000 in
set_option maxRecDepth 100000 in
theorem cl_acts (l : Launch) (hl : l.stackTraces = false) {D : va_G} {ca ad : Nat → Nat} {np nb eD tS sB : Nat} {Z : (Nat → Prop) → State → Heap → Prop} (hZ : ZOK Z) (hX : ZX Z) {tO : Nat} {sK sV : Nat → Nat} (hO : ZO Z tO sK sV) {tA tU L : Nat} {xs : Nat → Int32} (hW : ZWO Z tA tU sB L xs) (hg : np ≤ 4 ∧ nb ≤ 4 ∧ (np = 0 → nb = 0)) (fu : Nat) (x3 : Int32) (mem : Mem) (res : (Int32 × Mem)) (hF : KL_acts L xs np nb fu x3 mem = some res) : CJ l D (tyL ca) (255 + nW np nb) ad (cJ ca ad np nb eD tS sB) Z yL_acts cL_acts 9 .boolean rl_acts [.ref (ad 0), .ref (ad (255 + 0)), .ref sB, .int x3] mem res.1 res.2 := by
  refine xstart_i (own := RL) rfl (by decide) (Nat.le_of_ble_eq_true rfl) ?_
  intro p e s m args below meth c Q hQ X
  have ei_rmA1 : rmA1.cells = 0 ∧ rmA1.slots = 0 := ⟨rfl, rfl⟩
  have ei_rm_X11_isOver : rm_X11_isOver.cells = 0 ∧ rm_X11_isOver.slots = 0 := ⟨rfl, rfl⟩
  have ew_build := rwc_build
  have ew_endTurn := rwc_endTurn
  have ew_isAdmissible := rwc_isAdmissible
  have ew_isOver := rwc_isOver
  have ew_landing := rwc_landing
  have ew_play := rwc_play
  have ew_step := rwc_step
  rw [KL_acts] at hF
  revert hF
  have w_91 : ∀  (n : Nat) (hn : n ≤ 5) (x4 : Int32) (x5 : Int32) (mem : Mem), KL_acts_91 L xs np nb fu  n x4 x5 mem = some res → XX D (255 + nW np nb) ad (cJ ca ad np nb eD tS sB) p l e rl_acts s m args below meth c 9 (0 + (5 - n) * 5) (0 + (5 - n) * 26) Q mem [] 91 [(0, .ref (ad 0)), (1, .ref (ad (255 + 0))), (4, .int x4), (5, .int x5)] [] := by
    intro  n
    induction n with
    | zero => intro hn x4 x5 mem hF; exact no_none (show (none : Option (Int32 × Mem)) = some res from hF)
    | succ n ih =>
      intro hn x4 x5 mem hF
      rw [KL_acts_91] at hF
      refine x_iload X 3 dL_acts_91 rfl 93 rfl ?_
      refine x_iconst X 4 dL_acts_93 rfl 94 rfl ?_
      refine x_icmp_ge X hF 179 97 dL_acts_94 (by decide) rfl (fun hF => ?_) (fun hF => ?_)
      · refine x_iload X 2 dL_acts_97 rfl 99 rfl ?_
        refine x_iload X 3 dL_acts_99 rfl 101 rfl ?_
        refine x_iadd X dL_acts_101 102 rfl ?_
        refine x_iconst X 4 dL_acts_102 rfl 103 rfl ?_
        refine x_irem X (by decide) dL_acts_103 104 rfl ?_
        refine x_istore X [(6, .int ((x4 + x5) - (x4 + x5) / 4 * 4)), (0, .ref (ad 0)), (1, .ref (ad (255 + 0))), (4, .int x4), (5, .int x5)] dL_acts_104 (by decide) rfl 106 rfl ?_
        refine x_aload_n X 1 dL_acts_106 rfl rfl 107 rfl ?_
        refine x_aload_n X 2 dL_acts_107 rfl rfl 108 rfl ?_
        refine x_getV (v := .int (rd mem (255 + 0) 4)) X (255 + 0) (lj nw_0) kj_0 (T := TX12) (N := 11) rfl in_X12 4 (by decide) kF_L_58 rfl rfl dL_acts_108 111 rfl ?_
        refine x_iload X 0 dL_acts_111 rfl 113 rfl ?_
        refine j_callT (cf1 := cC ca ad) hb_C (fun j f h => cJ_C j f h) X hZ hF [.int (rd mem (255 + 0) 4), .int ((x4 + x5) - (x4 + x5) / 4 * 4)] 0 lj_c kj_c rfl rfl rfl kB_X11_canStep kL_L_100 (fun r h => by rw [ad_0, mem_0]; exact ct_X11_canStep l hl hZ hX hO fu (rd mem (255 + 0) 4) ((x4 + x5) - (x4 + x5) / 4 * 4) mem r h) rfl rfl rfl ⟨Nat.le_of_ble_eq_true rfl, Nat.le_of_ble_eq_true rfl⟩ (Nat.le_of_ble_eq_true rfl) ⟨by show _ ≤ 29299; omega, by show _ ≤ 232690; omega⟩ dL_acts_113 116 rfl (fun x_1 m_1 hF => ?_)
        refine x_letm hF (fun m_2 hF => ?_)
        refine x_aload_n X 2 dL_acts_116 rfl rfl 117 rfl ?_
        refine x_aload_n X 2 dL_acts_117 rfl rfl 118 rfl ?_
        refine x_getV (v := .int (rd m_2 (255 + 0) 4)) X (255 + 0) (lj nw_0) kj_0 (T := TX12) (N := 11) rfl in_X12 4 (by decide) kF_L_58 rfl rfl dL_acts_118 121 rfl ?_
        refine x_iload X 0 dL_acts_121 rfl 123 rfl ?_
        refine j_callVi (fun x => x) (fun _ => (fun j => m_2 (255 + j))) hb_W (fun j f _ => cJ_W j f) X hZ hF [.int (rd m_2 (255 + 0) 4), .int ((x4 + x5) - (x4 + x5) / 4 * 4)] (255 + 0) (lj nw_0) kj_0 rfl rfl rfl kB_X12_landing kL_L_104 (fun res h => cw_landing l hZ hW hg fu (rd m_2 (255 + 0) 4) ((x4 + x5) - (x4 + x5) / 4 * 4) (fun j => m_2 (255 + j)) res h) rfl ⟨Nat.le_of_ble_eq_true rfl, Nat.le_of_ble_eq_true rfl⟩ (Nat.le_of_ble_eq_true rfl) ⟨by show _ ≤ 29299; omega, by show _ ≤ 232690; omega⟩ dL_acts_123 126 rfl (fun x_3 hF => ?_)
        rw [mset_id]
        refine x_if_lt X hF 133 129 dL_acts_126 (by decide) rfl (fun hF => ?_) (fun hF => ?_)
        · refine x_iconst X 0 dL_acts_133 rfl 134 rfl ?_
          refine x_icmp_eq X hF 139 137 dL_acts_134 (by decide) rfl (fun hF => ?_) (fun hF => ?_)
          · refine x_aload_n X 2 dL_acts_139 rfl rfl 140 rfl ?_
            refine x_aload_n X 2 dL_acts_140 rfl rfl 141 rfl ?_
            refine x_getV (v := .int (rd m_2 (255 + 0) 4)) X (255 + 0) (lj nw_0) kj_0 (T := TX12) (N := 11) rfl in_X12 4 (by decide) kF_L_58 rfl rfl dL_acts_141 144 rfl ?_
            refine x_iload X 0 dL_acts_144 rfl 146 rfl ?_
            refine j_callVi (fun x => x) (fun _ => (fun j => m_2 (255 + j))) hb_W (fun j f _ => cJ_W j f) X hZ hF [.int (rd m_2 (255 + 0) 4), .int ((x4 + x5) - (x4 + x5) / 4 * 4)] (255 + 0) (lj nw_0) kj_0 rfl rfl rfl kB_X12_landing kL_L_104 (fun res h => cw_landing l hZ hW hg fu (rd m_2 (255 + 0) 4) ((x4 + x5) - (x4 + x5) / 4 * 4) (fun j => m_2 (255 + j)) res h) rfl ⟨Nat.le_of_ble_eq_true rfl, Nat.le_of_ble_eq_true rfl⟩ (Nat.le_of_ble_eq_true rfl) ⟨by show _ ≤ 29299; omega, by show _ ≤ 232690; omega⟩ dL_acts_146 149 rfl (fun x_4 hF => ?_)
            rw [mset_id]
            refine x_if_lt X hF 173 152 dL_acts_149 (by decide) rfl (fun hF => ?_) (fun hF => ?_)
            · refine x_iinc X 4 (x5 + 1) [(5, .int (x5 + 1)), (6, .int ((x4 + x5) - (x4 + x5) / 4 * 4)), (0, .ref (ad 0)), (1, .ref (ad (255 + 0))), (4, .int x4)] dL_acts_173 rfl rfl (by decide) rfl 176 rfl ?_
              refine x_goto X 91 dL_acts_176 (by decide) ?_
              refine x_keep [2, 3, 4, 0] rfl ?_
              refine x_widen (k := (0 + (5 - n) * 5)) (k2 := (0 + (5 - n) * 26)) (by omega) (by omega) ?_
              exact ih (by omega) x4 (x5 + 1) m_2 hF
            · refine x_aload_n X 1 dL_acts_152 rfl rfl 153 rfl ?_
              refine x_iload X 0 dL_acts_153 rfl 155 rfl ?_
              refine j_callT (cf1 := cC ca ad) hb_C (fun j f h => cJ_C j f h) X hZ hF [.int ((x4 + x5) - (x4 + x5) / 4 * 4)] 0 lj_c kj_c rfl rfl rfl kB_X11_step kL_L_107 (fun r h => by rw [ad_0, mem_0]; exact ct_X11_step l hl hZ hX hO fu ((x4 + x5) - (x4 + x5) / 4 * 4) m_2 r h) rfl rfl rfl ⟨Nat.le_of_ble_eq_true rfl, Nat.le_of_ble_eq_true rfl⟩ (Nat.le_of_ble_eq_true rfl) ⟨by show _ ≤ 29299; omega, by show _ ≤ 232690; omega⟩ dL_acts_155 158 rfl (fun x_5 m_5 hF => ?_)
              refine x_letm hF (fun m_6 hF => ?_)
              refine x_aload_n X 2 dL_acts_158 rfl rfl 159 rfl ?_
              refine x_iload X 0 dL_acts_159 rfl 161 rfl ?_
              refine j_callVi (fun x => x.1) (fun x => x.2) hb_W (fun j f _ => cJ_W j f) X hZ hF [.int ((x4 + x5) - (x4 + x5) / 4 * 4)] (255 + 0) (lj nw_0) kj_0 rfl rfl rfl kB_X12_step kL_L_110 (fun res h => cw_step l hZ hW hg fu ((x4 + x5) - (x4 + x5) / 4 * 4) (fun j => m_6 (255 + j)) res h) rfl ⟨Nat.le_of_ble_eq_true rfl, Nat.le_of_ble_eq_true rfl⟩ (Nat.le_of_ble_eq_true rfl) ⟨by show _ ≤ 29299; omega, by show _ ≤ 232690; omega⟩ dL_acts_161 164 rfl (fun p_7 hF => ?_)
              refine x_letm hF (fun m_8 hF => ?_)
              refine x_icmp_ne X hF 171 167 dL_acts_164 (by decide) rfl (fun hF => ?_) (fun hF => ?_)
              · refine x_iconst X 1 dL_acts_167 rfl 168 rfl ?_
                refine x_goto X 172 dL_acts_168 (by decide) ?_
                exact x_iret X hQ (o_inj1 hF) (o_inj2 hF) rfl (by show _ ≤ 29299; omega) (by show _ ≤ 232690; omega) dL_acts_172
              · refine x_iconst X 0 dL_acts_171 rfl 172 rfl ?_
                exact x_iret X hQ (o_inj1 hF) (o_inj2 hF) rfl (by show _ ≤ 29299; omega) (by show _ ≤ 232690; omega) dL_acts_172
          · refine x_iconst X 0 dL_acts_137 rfl 138 rfl ?_
            exact x_iret X hQ (o_inj1 hF) (o_inj2 hF) rfl (by show _ ≤ 29299; omega) (by show _ ≤ 232690; omega) dL_acts_138
        · refine x_iconst X 1 dL_acts_129 rfl 130 rfl ?_
          refine x_goto X 134 dL_acts_130 (by decide) ?_
          refine x_icmp_eq X hF 139 137 dL_acts_134 (by decide) rfl (fun hF => ?_) (fun hF => ?_)
          · refine x_aload_n X 2 dL_acts_139 rfl rfl 140 rfl ?_
            refine x_aload_n X 2 dL_acts_140 rfl rfl 141 rfl ?_
            refine x_getV (v := .int (rd m_2 (255 + 0) 4)) X (255 + 0) (lj nw_0) kj_0 (T := TX12) (N := 11) rfl in_X12 4 (by decide) kF_L_58 rfl rfl dL_acts_141 144 rfl ?_
            refine x_iload X 0 dL_acts_144 rfl 146 rfl ?_
            refine j_callVi (fun x => x) (fun _ => (fun j => m_2 (255 + j))) hb_W (fun j f _ => cJ_W j f) X hZ hF [.int (rd m_2 (255 + 0) 4), .int ((x4 + x5) - (x4 + x5) / 4 * 4)] (255 + 0) (lj nw_0) kj_0 rfl rfl rfl kB_X12_landing kL_L_104 (fun res h => cw_landing l hZ hW hg fu (rd m_2 (255 + 0) 4) ((x4 + x5) - (x4 + x5) / 4 * 4) (fun j => m_2 (255 + j)) res h) rfl ⟨Nat.le_of_ble_eq_true rfl, Nat.le_of_ble_eq_true rfl⟩ (Nat.le_of_ble_eq_true rfl) ⟨by show _ ≤ 29299; omega, by show _ ≤ 232690; omega⟩ dL_acts_146 149 rfl (fun x_9 hF => ?_)
            rw [mset_id]
            refine x_if_lt X hF 173 152 dL_acts_149 (by decide) rfl (fun hF => ?_) (fun hF => ?_)
            · refine x_iinc X 4 (x5 + 1) [(5, .int (x5 + 1)), (6, .int ((x4 + x5) - (x4 + x5) / 4 * 4)), (0, .ref (ad 0)), (1, .ref (ad (255 + 0))), (4, .int x4)] dL_acts_173 rfl rfl (by decide) rfl 176 rfl ?_
              refine x_goto X 91 dL_acts_176 (by decide) ?_
              refine x_keep [2, 3, 4, 0] rfl ?_
              refine x_widen (k := (0 + (5 - n) * 5)) (k2 := (0 + (5 - n) * 26)) (by omega) (by omega) ?_
              exact ih (by omega) x4 (x5 + 1) m_2 hF
            · refine x_aload_n X 1 dL_acts_152 rfl rfl 153 rfl ?_
              refine x_iload X 0 dL_acts_153 rfl 155 rfl ?_
              refine j_callT (cf1 := cC ca ad) hb_C (fun j f h => cJ_C j f h) X hZ hF [.int ((x4 + x5) - (x4 + x5) / 4 * 4)] 0 lj_c kj_c rfl rfl rfl kB_X11_step kL_L_107 (fun r h => by rw [ad_0, mem_0]; exact ct_X11_step l hl hZ hX hO fu ((x4 + x5) - (x4 + x5) / 4 * 4) m_2 r h) rfl rfl rfl ⟨Nat.le_of_ble_eq_true rfl, Nat.le_of_ble_eq_true rfl⟩ (Nat.le_of_ble_eq_true rfl) ⟨by show _ ≤ 29299; omega, by show _ ≤ 232690; omega⟩ dL_acts_155 158 rfl (fun x_10 m_10 hF => ?_)
              refine x_letm hF (fun m_11 hF => ?_)
              refine x_aload_n X 2 dL_acts_158 rfl rfl 159 rfl ?_
              refine x_iload X 0 dL_acts_159 rfl 161 rfl ?_
              refine j_callVi (fun x => x.1) (fun x => x.2) hb_W (fun j f _ => cJ_W j f) X hZ hF [.int ((x4 + x5) - (x4 + x5) / 4 * 4)] (255 + 0) (lj nw_0) kj_0 rfl rfl rfl kB_X12_step kL_L_110 (fun res h => cw_step l hZ hW hg fu ((x4 + x5) - (x4 + x5) / 4 * 4) (fun j => m_11 (255 + j)) res h) rfl ⟨Nat.le_of_ble_eq_true rfl, Nat.le_of_ble_eq_true rfl⟩ (Nat.le_of_ble_eq_true rfl) ⟨by show _ ≤ 29299; omega, by show _ ≤ 232690; omega⟩ dL_acts_161 164 rfl (fun p_12 hF => ?_)
              refine x_letm hF (fun m_13 hF => ?_)
              refine x_icmp_ne X hF 171 167 dL_acts_164 (by decide) rfl (fun hF => ?_) (fun hF => ?_)
              · refine x_iconst X 1 dL_acts_167 rfl 168 rfl ?_
                refine x_goto X 172 dL_acts_168 (by decide) ?_
                exact x_iret X hQ (o_inj1 hF) (o_inj2 hF) rfl (by show _ ≤ 29299; omega) (by show _ ≤ 232690; omega) dL_acts_172
              · refine x_iconst X 0 dL_acts_171 rfl 172 rfl ?_
                exact x_iret X hQ (o_inj1 hF) (o_inj2 hF) rfl (by show _ ≤ 29299; omega) (by show _ ≤ 232690; omega) dL_acts_172
          · refine x_iconst X 0 dL_acts_137 rfl 138 rfl ?_
            exact x_iret X hQ (o_inj1 hF) (o_inj2 hF) rfl (by show _ ≤ 29299; omega) (by show _ ≤ 232690; omega) dL_acts_138
      · refine x_aload_n X 1 dL_acts_179 rfl rfl 180 rfl ?_
        refine j_callNv (fun m => m) hb_W (fun j f _ => cJ_W j f) X hZ hF [] (255 + 0) (lj nw_0) kj_0 rfl rfl rfl kB_X12_endTurn ((hW _ _ _ X.2.2.2.2.2).2.2.2.1 _ (List.mem_of_getElem? (i := 4) rfl)) (fun res h => cw_endTurn l hZ hW hg fu  (fun j => mem (255 + j)) res h) rfl ⟨Nat.le_of_ble_eq_true rfl, Nat.le_of_ble_eq_true rfl⟩ (Nat.le_of_ble_eq_true rfl) ⟨by show _ ≤ 29299; omega, by show _ ≤ 232690; omega⟩ dL_acts_180 183 rfl (fun m_14 hF => ?_)
        refine x_letm hF (fun m_15 hF => ?_)
        refine x_aload_n X 0 dL_acts_183 rfl rfl 184 rfl ?_
        refine j_callT (cf1 := cC ca ad) hb_C (fun j f h => cJ_C j f h) X hZ hF [] 0 lj_c kj_c rfl rfl rfl kB_X11_pass kL_L_114 (fun r h => by rw [ad_0, mem_0]; exact ct_X11_pass l hl hZ hX hO fu  m_15 r h) rfl rfl rfl ⟨Nat.le_of_ble_eq_true rfl, Nat.le_of_ble_eq_true rfl⟩ (Nat.le_of_ble_eq_true rfl) ⟨by show _ ≤ 29299; omega, by show _ ≤ 232690; omega⟩ dL_acts_184 187 rfl (fun x_16 m_16 hF => ?_)
        refine x_letm hF (fun m_17 hF => ?_)
        refine x_aload_n X 1 dL_acts_187 rfl rfl 188 rfl ?_
        refine j_callVi (fun x => x) (fun _ => (fun j => m_17 (255 + j))) hb_W (fun j f _ => cJ_W j f) X hZ hF [] (255 + 0) (lj nw_0) kj_0 rfl rfl rfl kB_X12_isOver kL_L_54 (fun res h => cw_isOver l hZ hW hg fu  (fun j => m_17 (255 + j)) res h) rfl ⟨Nat.le_of_ble_eq_true rfl, Nat.le_of_ble_eq_true rfl⟩ (Nat.le_of_ble_eq_true rfl) ⟨by show _ ≤ 29299; omega, by show _ ≤ 232690; omega⟩ dL_acts_188 191 rfl (fun x_18 hF => ?_)
        rw [mset_id]
        refine x_if_eq X hF 198 194 dL_acts_191 (by decide) rfl (fun hF => ?_) (fun hF => ?_)
        · refine x_aload_n X 1 dL_acts_198 rfl rfl 199 rfl ?_
          refine x_getV (v := .int (rd m_17 (255 + 0) 4)) X (255 + 0) (lj nw_0) kj_0 (T := TX12) (N := 11) rfl in_X12 4 (by decide) kF_L_58 rfl rfl dL_acts_199 202 rfl ?_
          refine x_icmp_ne X hF 209 205 dL_acts_202 (by decide) rfl (fun hF => ?_) (fun hF => ?_)
          · refine x_iconst X 1 dL_acts_205 rfl 206 rfl ?_
            refine x_goto X 210 dL_acts_206 (by decide) ?_
            exact x_iret X hQ (o_inj1 hF) (o_inj2 hF) rfl (by show _ ≤ 29299; omega) (by show _ ≤ 232690; omega) dL_acts_210
          · refine x_iconst X 0 dL_acts_209 rfl 210 rfl ?_
            exact x_iret X hQ (o_inj1 hF) (o_inj2 hF) rfl (by show _ ≤ 29299; omega) (by show _ ≤ 232690; omega) dL_acts_210
        · refine x_iconst X (-1) dL_acts_194 rfl 195 rfl ?_
          refine x_goto X 202 dL_acts_195 (by decide) ?_
          refine x_icmp_ne X hF 209 205 dL_acts_202 (by decide) rfl (fun hF => ?_) (fun hF => ?_)
          · refine x_iconst X 1 dL_acts_205 rfl 206 rfl ?_
            refine x_goto X 210 dL_acts_206 (by decide) ?_
            exact x_iret X hQ (o_inj1 hF) (o_inj2 hF) rfl (by show _ ≤ 29299; omega) (by show _ ≤ 232690; omega) dL_acts_210
          · refine x_iconst X 0 dL_acts_209 rfl 210 rfl ?_
            exact x_iret X hQ (o_inj1 hF) (o_inj2 hF) rfl (by show _ ≤ 29299; omega) (by show _ ≤ 232690; omega) dL_acts_210
  have w_211 : ∀  (x4 : Int32) (mem : Mem), KL_acts_211 L xs np nb fu  x4 mem = some res → XX D (255 + nW np nb) ad (cJ ca ad np nb eD tS sB) p l e rl_acts s m args below meth c 9 0 0 Q mem [] 211 [(0, .ref (ad 0)), (1, .ref (ad (255 + 0))), (4, .int x4)] [] := by
    intro  x4 mem hF
    rw [KL_acts_211] at hF
    refine x_iload X 2 dL_acts_211 rfl 213 rfl ?_
    refine x_aload_n X 1 dL_acts_213 rfl rfl 214 rfl ?_
    refine x_getV (v := .int (rd mem (255 + 0) 0)) X (255 + 0) (lj nw_0) kj_0 (T := TX12) (N := 11) rfl in_X12 0 (by decide) kF_L_83 rfl rfl dL_acts_214 217 rfl ?_
    refine x_iconst X 1 dL_acts_217 rfl 218 rfl ?_
    refine x_isub X dL_acts_218 219 rfl ?_
    refine x_gz hF (fun h_19 hF => ?_)
    refine x_irem X h_19 dL_acts_219 220 rfl ?_
    refine x_let hF (fun x_20 hF => ?_)
    refine x_istore X [(5, .int x_20), (0, .ref (ad 0)), (1, .ref (ad (255 + 0))), (4, .int x4)] dL_acts_220 (by decide) rfl 222 rfl ?_
    refine x_iload X 3 dL_acts_222 rfl 224 rfl ?_
    refine x_bipush X 9 dL_acts_224 rfl 226 rfl ?_
    refine x_idiv X (by decide) dL_acts_226 227 rfl ?_
    refine x_aload_n X 2 dL_acts_227 rfl rfl 228 rfl ?_
    refine x_getV (v := .int (rd mem (255 + 0) 1)) X (255 + 0) (lj nw_0) kj_0 (T := TX12) (N := 11) rfl in_X12 1 (by decide) kF_L_80 rfl rfl dL_acts_228 231 rfl ?_
    refine x_iconst X 1 dL_acts_231 rfl 232 rfl ?_
    refine x_isub X dL_acts_232 233 rfl ?_
    refine x_gz hF (fun h_21 hF => ?_)
    refine x_irem X h_21 dL_acts_233 234 rfl ?_
    refine x_let hF (fun x_22 hF => ?_)
    refine x_istore X [(6, .int x_22), (5, .int x_20), (0, .ref (ad 0)), (1, .ref (ad (255 + 0))), (4, .int x4)] dL_acts_234 (by decide) rfl 236 rfl ?_
    refine x_iconst X 1 dL_acts_236 rfl 237 rfl ?_
    refine x_iload X 4 dL_acts_237 rfl 239 rfl ?_
    refine x_bipush X 99 dL_acts_239 rfl 241 rfl ?_
    refine x_idiv X (by decide) dL_acts_241 242 rfl ?_
    refine x_iconst X 2 dL_acts_242 rfl 243 rfl ?_
    refine x_irem X (by decide) dL_acts_243 244 rfl ?_
    refine x_iadd X dL_acts_244 245 rfl ?_
    refine x_istore X [(7, .int (1 + ((x4 / 99) - (x4 / 99) / 2 * 2))), (6, .int x_22), (5, .int x_20), (0, .ref (ad 0)), (1, .ref (ad (255 + 0))), (4, .int x4)] dL_acts_245 (by decide) rfl 247 rfl ?_
    refine x_aload_n X 4 dL_acts_247 rfl rfl 248 rfl ?_
    refine x_iload X 2 dL_acts_248 rfl 250 rfl ?_
    refine x_iload X 1 dL_acts_250 rfl 252 rfl ?_
    refine x_iload X 0 dL_acts_252 rfl 254 rfl ?_
    refine j_callVi (fun x => x.1) (fun x => x.2) hb_W (fun j f _ => cJ_W j f) X hZ hF [.int x_20, .int x_22, .int (1 + ((x4 / 99) - (x4 / 99) / 2 * 2))] (255 + 0) (lj nw_0) kj_0 rfl rfl rfl kB_X12_isAdmissible kL_L_117 (fun res h => cw_isAdmissible l hZ hW hg fu x_20 x_22 (1 + ((x4 / 99) - (x4 / 99) / 2 * 2)) (fun j => mem (255 + j)) res h) rfl ⟨Nat.le_of_ble_eq_true rfl, Nat.le_of_ble_eq_true rfl⟩ (Nat.le_of_ble_eq_true rfl) ⟨Nat.le_of_ble_eq_true rfl, Nat.le_of_ble_eq_true rfl⟩ dL_acts_254 257 rfl (fun p_23 hF => ?_)
    refine x_letm hF (fun m_24 hF => ?_)
    refine x_istore X [(8, .int p_23.1), (7, .int (1 + ((x4 / 99) - (x4 / 99) / 2 * 2))), (6, .int x_22), (5, .int x_20), (0, .ref (ad 0)), (1, .ref (ad (255 + 0))), (4, .int x4)] dL_acts_257 (by decide) rfl 259 rfl ?_
    refine x_aload_n X 4 dL_acts_259 rfl rfl 260 rfl ?_
    refine x_iload X 3 dL_acts_260 rfl 262 rfl ?_
    refine x_iload X 2 dL_acts_262 rfl 264 rfl ?_
    refine x_iload X 1 dL_acts_264 rfl 266 rfl ?_
    refine x_iconst X 2 dL_acts_266 rfl 267 rfl ?_
    refine x_icmp_ne X hF 274 270 dL_acts_267 (by decide) rfl (fun hF => ?_) (fun hF => ?_)
    · refine x_iconst X 1 dL_acts_270 rfl 271 rfl ?_
      refine x_goto X 275 dL_acts_271 (by decide) ?_
      refine j_callT (cf1 := cC ca ad) hb_C (fun j f h => cJ_C j f h) X hZ hF [.int x_20, .int x_22, .int 1] 0 lj_c kj_c rfl rfl rfl kB_X11_isAdmissible kL_L_121 (fun r h => by rw [ad_0, mem_0]; exact ct_X11_isAdmissible l hl hZ hX hO fu x_20 x_22 1 m_24 r h) rfl rfl rfl ⟨Nat.le_of_ble_eq_true rfl, Nat.le_of_ble_eq_true rfl⟩ (Nat.le_of_ble_eq_true rfl) ⟨Nat.le_of_ble_eq_true rfl, Nat.le_of_ble_eq_true rfl⟩ dL_acts_275 278 rfl (fun x_25 m_25 hF => ?_)
      refine x_letm hF (fun m_26 hF => ?_)
      refine x_iload X 0 dL_acts_278 rfl 280 rfl ?_
      refine x_icmp_eq X hF 285 283 dL_acts_280 (by decide) rfl (fun hF => ?_) (fun hF => ?_)
      · refine x_iload X 0 dL_acts_285 rfl 287 rfl ?_
        refine x_if_eq X hF 343 290 dL_acts_287 (by decide) rfl (fun hF => ?_) (fun hF => ?_)
        · refine x_iconst X 1 dL_acts_343 rfl 344 rfl ?_
          refine x_goto X 348 dL_acts_344 (by decide) ?_
          exact x_iret X hQ (o_inj1 hF) (o_inj2 hF) rfl (Nat.le_of_ble_eq_true rfl) (Nat.le_of_ble_eq_true rfl) dL_acts_348
        · refine x_aload_n X 5 dL_acts_290 rfl rfl 291 rfl ?_
          refine x_getV (v := .ref (ad (255 + 1))) X (255 + 0) (lj nw_0) kj_0 (T := TX12) (N := 11) rfl in_X12 5 (by decide) kF_L_61 rfl rfl dL_acts_291 294 rfl ?_
          refine x_aload_n X 5 dL_acts_294 rfl rfl 295 rfl ?_
          refine x_getV (v := .int (rd m_26 (255 + 0) 4)) X (255 + 0) (lj nw_0) kj_0 (T := TX12) (N := 11) rfl in_X12 4 (by decide) kF_L_58 rfl rfl dL_acts_295 298 rfl ?_
          refine x_gi hF (fun h_27 hF => ?_)
          refine xj_get X hZ hW hg.1 h_27 kL_L_74 kCl_L_78 ⟨Nat.le_of_ble_eq_true rfl, Nat.le_of_ble_eq_true rfl⟩ (Nat.le_of_ble_eq_true rfl) ⟨Nat.le_of_ble_eq_true rfl, Nat.le_of_ble_eq_true rfl⟩ dL_acts_298 303 rfl dL_acts_303 306 rfl ?_
          refine x_iconst X 3 dL_acts_306 rfl 307 rfl ?_
          refine x_ial X (255 + (13 + (Int32.toNatClampNeg (rd m_26 (255 + 0) 4)))) (lj (nw_p (vp_lt h_27))) (kj_p (vp_lt h_27)) (t0 := 0) rfl (by unfold vp_in; decide +kernel) dL_acts_307 308 rfl ?_
          refine x_if_eq X hF 343 311 dL_acts_308 (by decide) rfl (fun hF => ?_) (fun hF => ?_)
          · refine x_iconst X 1 dL_acts_343 rfl 344 rfl ?_
            refine x_goto X 348 dL_acts_344 (by decide) ?_
            exact x_iret X hQ (o_inj1 hF) (o_inj2 hF) rfl (Nat.le_of_ble_eq_true rfl) (Nat.le_of_ble_eq_true rfl) dL_acts_348
          · refine x_aload_n X 4 dL_acts_311 rfl rfl 312 rfl ?_
            refine x_iload X 3 dL_acts_312 rfl 314 rfl ?_
            refine x_iload X 2 dL_acts_314 rfl 316 rfl ?_
            refine x_iload X 1 dL_acts_316 rfl 318 rfl ?_
            refine x_iconst X 2 dL_acts_318 rfl 319 rfl ?_
            refine x_icmp_ne X hF 326 322 dL_acts_319 (by decide) rfl (fun hF => ?_) (fun hF => ?_)
            · refine x_iconst X 1 dL_acts_322 rfl 323 rfl ?_
              refine x_goto X 327 dL_acts_323 (by decide) ?_
              refine j_callT (cf1 := cC ca ad) hb_C (fun j f h => cJ_C j f h) X hZ hF [.int x_20, .int x_22, .int 1] 0 lj_c kj_c rfl rfl rfl kB_X11_build kL_L_124 (fun r h => by rw [ad_0, mem_0]; exact ct_X11_build l hl hZ hX hO fu x_20 x_22 1 m_26 r h) rfl rfl rfl ⟨Nat.le_of_ble_eq_true rfl, Nat.le_of_ble_eq_true rfl⟩ (Nat.le_of_ble_eq_true rfl) ⟨Nat.le_of_ble_eq_true rfl, Nat.le_of_ble_eq_true rfl⟩ dL_acts_327 330 rfl (fun x_28 m_28 hF => ?_)
              refine x_letm hF (fun m_29 hF => ?_)
              refine x_aload_n X 5 dL_acts_330 rfl rfl 331 rfl ?_
              refine x_iload X 3 dL_acts_331 rfl 333 rfl ?_
              refine x_iload X 2 dL_acts_333 rfl 335 rfl ?_
              refine x_iload X 1 dL_acts_335 rfl 337 rfl ?_
              refine j_callVi (fun x => x.1) (fun x => x.2) hb_W (fun j f _ => cJ_W j f) X hZ hF [.int x_20, .int x_22, .int (1 + ((x4 / 99) - (x4 / 99) / 2 * 2))] (255 + 0) (lj nw_0) kj_0 rfl rfl rfl kB_X12_build kL_L_128 (fun res h => cw_build l hZ hW hg fu x_20 x_22 (1 + ((x4 / 99) - (x4 / 99) / 2 * 2)) (fun j => m_29 (255 + j)) res h) rfl ⟨Nat.le_of_ble_eq_true rfl, Nat.le_of_ble_eq_true rfl⟩ (Nat.le_of_ble_eq_true rfl) ⟨Nat.le_of_ble_eq_true rfl, Nat.le_of_ble_eq_true rfl⟩ dL_acts_337 340 rfl (fun p_30 hF => ?_)
              refine x_letm hF (fun m_31 hF => ?_)
              refine x_icmp_ne X hF 347 343 dL_acts_340 (by decide) rfl (fun hF => ?_) (fun hF => ?_)
              · refine x_iconst X 1 dL_acts_343 rfl 344 rfl ?_
                refine x_goto X 348 dL_acts_344 (by decide) ?_
                exact x_iret X hQ (o_inj1 hF) (o_inj2 hF) rfl (Nat.le_of_ble_eq_true rfl) (Nat.le_of_ble_eq_true rfl) dL_acts_348
              · refine x_iconst X 0 dL_acts_347 rfl 348 rfl ?_
                exact x_iret X hQ (o_inj1 hF) (o_inj2 hF) rfl (Nat.le_of_ble_eq_true rfl) (Nat.le_of_ble_eq_true rfl) dL_acts_348
            · refine x_iconst X 0 dL_acts_326 rfl 327 rfl ?_
              refine j_callT (cf1 := cC ca ad) hb_C (fun j f h => cJ_C j f h) X hZ hF [.int x_20, .int x_22, .int 0] 0 lj_c kj_c rfl rfl rfl kB_X11_build kL_L_124 (fun r h => by rw [ad_0, mem_0]; exact ct_X11_build l hl hZ hX hO fu x_20 x_22 0 m_26 r h) rfl rfl rfl ⟨Nat.le_of_ble_eq_true rfl, Nat.le_of_ble_eq_true rfl⟩ (Nat.le_of_ble_eq_true rfl) ⟨Nat.le_of_ble_eq_true rfl, Nat.le_of_ble_eq_true rfl⟩ dL_acts_327 330 rfl (fun x_32 m_32 hF => ?_)
              refine x_letm hF (fun m_33 hF => ?_)
              refine x_aload_n X 5 dL_acts_330 rfl rfl 331 rfl ?_
              refine x_iload X 3 dL_acts_331 rfl 333 rfl ?_
              refine x_iload X 2 dL_acts_333 rfl 335 rfl ?_
              refine x_iload X 1 dL_acts_335 rfl 337 rfl ?_
              refine j_callVi (fun x => x.1) (fun x => x.2) hb_W (fun j f _ => cJ_W j f) X hZ hF [.int x_20, .int x_22, .int (1 + ((x4 / 99) - (x4 / 99) / 2 * 2))] (255 + 0) (lj nw_0) kj_0 rfl rfl rfl kB_X12_build kL_L_128 (fun res h => cw_build l hZ hW hg fu x_20 x_22 (1 + ((x4 / 99) - (x4 / 99) / 2 * 2)) (fun j => m_33 (255 + j)) res h) rfl ⟨Nat.le_of_ble_eq_true rfl, Nat.le_of_ble_eq_true rfl⟩ (Nat.le_of_ble_eq_true rfl) ⟨Nat.le_of_ble_eq_true rfl, Nat.le_of_ble_eq_true rfl⟩ dL_acts_337 340 rfl (fun p_34 hF => ?_)
              refine x_letm hF (fun m_35 hF => ?_)
              refine x_icmp_ne X hF 347 343 dL_acts_340 (by decide) rfl (fun hF => ?_) (fun hF => ?_)
              · refine x_iconst X 1 dL_acts_343 rfl 344 rfl ?_
                refine x_goto X 348 dL_acts_344 (by decide) ?_
                exact x_iret X hQ (o_inj1 hF) (o_inj2 hF) rfl (Nat.le_of_ble_eq_true rfl) (Nat.le_of_ble_eq_true rfl) dL_acts_348
              · refine x_iconst X 0 dL_acts_347 rfl 348 rfl ?_
                exact x_iret X hQ (o_inj1 hF) (o_inj2 hF) rfl (Nat.le_of_ble_eq_true rfl) (Nat.le_of_ble_eq_true rfl) dL_acts_348
      · refine x_iconst X 0 dL_acts_283 rfl 284 rfl ?_
        exact x_iret X hQ (o_inj1 hF) (o_inj2 hF) rfl (Nat.le_of_ble_eq_true rfl) (Nat.le_of_ble_eq_true rfl) dL_acts_284
    · refine x_iconst X 0 dL_acts_274 rfl 275 rfl ?_
      refine j_callT (cf1 := cC ca ad) hb_C (fun j f h => cJ_C j f h) X hZ hF [.int x_20, .int x_22, .int 0] 0 lj_c kj_c rfl rfl rfl kB_X11_isAdmissible kL_L_121 (fun r h => by rw [ad_0, mem_0]; exact ct_X11_isAdmissible l hl hZ hX hO fu x_20 x_22 0 m_24 r h) rfl rfl rfl ⟨Nat.le_of_ble_eq_true rfl, Nat.le_of_ble_eq_true rfl⟩ (Nat.le_of_ble_eq_true rfl) ⟨Nat.le_of_ble_eq_true rfl, Nat.le_of_ble_eq_true rfl⟩ dL_acts_275 278 rfl (fun x_36 m_36 hF => ?_)
      refine x_letm hF (fun m_37 hF => ?_)
      refine x_iload X 0 dL_acts_278 rfl 280 rfl ?_
      refine x_icmp_eq X hF 285 283 dL_acts_280 (by decide) rfl (fun hF => ?_) (fun hF => ?_)
      · refine x_iload X 0 dL_acts_285 rfl 287 rfl ?_
        refine x_if_eq X hF 343 290 dL_acts_287 (by decide) rfl (fun hF => ?_) (fun hF => ?_)
        · refine x_iconst X 1 dL_acts_343 rfl 344 rfl ?_
          refine x_goto X 348 dL_acts_344 (by decide) ?_
          exact x_iret X hQ (o_inj1 hF) (o_inj2 hF) rfl (Nat.le_of_ble_eq_true rfl) (Nat.le_of_ble_eq_true rfl) dL_acts_348
        · refine x_aload_n X 5 dL_acts_290 rfl rfl 291 rfl ?_
          refine x_getV (v := .ref (ad (255 + 1))) X (255 + 0) (lj nw_0) kj_0 (T := TX12) (N := 11) rfl in_X12 5 (by decide) kF_L_61 rfl rfl dL_acts_291 294 rfl ?_
          refine x_aload_n X 5 dL_acts_294 rfl rfl 295 rfl ?_
          refine x_getV (v := .int (rd m_37 (255 + 0) 4)) X (255 + 0) (lj nw_0) kj_0 (T := TX12) (N := 11) rfl in_X12 4 (by decide) kF_L_58 rfl rfl dL_acts_295 298 rfl ?_
          refine x_gi hF (fun h_38 hF => ?_)
          refine xj_get X hZ hW hg.1 h_38 kL_L_74 kCl_L_78 ⟨Nat.le_of_ble_eq_true rfl, Nat.le_of_ble_eq_true rfl⟩ (Nat.le_of_ble_eq_true rfl) ⟨Nat.le_of_ble_eq_true rfl, Nat.le_of_ble_eq_true rfl⟩ dL_acts_298 303 rfl dL_acts_303 306 rfl ?_
          refine x_iconst X 3 dL_acts_306 rfl 307 rfl ?_
          refine x_ial X (255 + (13 + (Int32.toNatClampNeg (rd m_37 (255 + 0) 4)))) (lj (nw_p (vp_lt h_38))) (kj_p (vp_lt h_38)) (t0 := 0) rfl (by unfold vp_in; decide +kernel) dL_acts_307 308 rfl ?_
          refine x_if_eq X hF 343 311 dL_acts_308 (by decide) rfl (fun hF => ?_) (fun hF => ?_)
          · refine x_iconst X 1 dL_acts_343 rfl 344 rfl ?_
            refine x_goto X 348 dL_acts_344 (by decide) ?_
            exact x_iret X hQ (o_inj1 hF) (o_inj2 hF) rfl (Nat.le_of_ble_eq_true rfl) (Nat.le_of_ble_eq_true rfl) dL_acts_348
          · refine x_aload_n X 4 dL_acts_311 rfl rfl 312 rfl ?_
            refine x_iload X 3 dL_acts_312 rfl 314 rfl ?_
            refine x_iload X 2 dL_acts_314 rfl 316 rfl ?_
            refine x_iload X 1 dL_acts_316 rfl 318 rfl ?_
            refine x_iconst X 2 dL_acts_318 rfl 319 rfl ?_
            refine x_icmp_ne X hF 326 322 dL_acts_319 (by decide) rfl (fun hF => ?_) (fun hF => ?_)
            · refine x_iconst X 1 dL_acts_322 rfl 323 rfl ?_
              refine x_goto X 327 dL_acts_323 (by decide) ?_
              refine j_callT (cf1 := cC ca ad) hb_C (fun j f h => cJ_C j f h) X hZ hF [.int x_20, .int x_22, .int 1] 0 lj_c kj_c rfl rfl rfl kB_X11_build kL_L_124 (fun r h => by rw [ad_0, mem_0]; exact ct_X11_build l hl hZ hX hO fu x_20 x_22 1 m_37 r h) rfl rfl rfl ⟨Nat.le_of_ble_eq_true rfl, Nat.le_of_ble_eq_true rfl⟩ (Nat.le_of_ble_eq_true rfl) ⟨Nat.le_of_ble_eq_true rfl, Nat.le_of_ble_eq_true rfl⟩ dL_acts_327 330 rfl (fun x_39 m_39 hF => ?_)
              refine x_letm hF (fun m_40 hF => ?_)
              refine x_aload_n X 5 dL_acts_330 rfl rfl 331 rfl ?_
              refine x_iload X 3 dL_acts_331 rfl 333 rfl ?_
              refine x_iload X 2 dL_acts_333 rfl 335 rfl ?_
              refine x_iload X 1 dL_acts_335 rfl 337 rfl ?_
              refine j_callVi (fun x => x.1) (fun x => x.2) hb_W (fun j f _ => cJ_W j f) X hZ hF [.int x_20, .int x_22, .int (1 + ((x4 / 99) - (x4 / 99) / 2 * 2))] (255 + 0) (lj nw_0) kj_0 rfl rfl rfl kB_X12_build kL_L_128 (fun res h => cw_build l hZ hW hg fu x_20 x_22 (1 + ((x4 / 99) - (x4 / 99) / 2 * 2)) (fun j => m_40 (255 + j)) res h) rfl ⟨Nat.le_of_ble_eq_true rfl, Nat.le_of_ble_eq_true rfl⟩ (Nat.le_of_ble_eq_true rfl) ⟨Nat.le_of_ble_eq_true rfl, Nat.le_of_ble_eq_true rfl⟩ dL_acts_337 340 rfl (fun p_41 hF => ?_)
              refine x_letm hF (fun m_42 hF => ?_)
              refine x_icmp_ne X hF 347 343 dL_acts_340 (by decide) rfl (fun hF => ?_) (fun hF => ?_)
              · refine x_iconst X 1 dL_acts_343 rfl 344 rfl ?_
                refine x_goto X 348 dL_acts_344 (by decide) ?_
                exact x_iret X hQ (o_inj1 hF) (o_inj2 hF) rfl (Nat.le_of_ble_eq_true rfl) (Nat.le_of_ble_eq_true rfl) dL_acts_348
              · refine x_iconst X 0 dL_acts_347 rfl 348 rfl ?_
                exact x_iret X hQ (o_inj1 hF) (o_inj2 hF) rfl (Nat.le_of_ble_eq_true rfl) (Nat.le_of_ble_eq_true rfl) dL_acts_348
            · refine x_iconst X 0 dL_acts_326 rfl 327 rfl ?_
              refine j_callT (cf1 := cC ca ad) hb_C (fun j f h => cJ_C j f h) X hZ hF [.int x_20, .int x_22, .int 0] 0 lj_c kj_c rfl rfl rfl kB_X11_build kL_L_124 (fun r h => by rw [ad_0, mem_0]; exact ct_X11_build l hl hZ hX hO fu x_20 x_22 0 m_37 r h) rfl rfl rfl ⟨Nat.le_of_ble_eq_true rfl, Nat.le_of_ble_eq_true rfl⟩ (Nat.le_of_ble_eq_true rfl) ⟨Nat.le_of_ble_eq_true rfl, Nat.le_of_ble_eq_true rfl⟩ dL_acts_327 330 rfl (fun x_43 m_43 hF => ?_)
              refine x_letm hF (fun m_44 hF => ?_)
              refine x_aload_n X 5 dL_acts_330 rfl rfl 331 rfl ?_
              refine x_iload X 3 dL_acts_331 rfl 333 rfl ?_
              refine x_iload X 2 dL_acts_333 rfl 335 rfl ?_
              refine x_iload X 1 dL_acts_335 rfl 337 rfl ?_
              refine j_callVi (fun x => x.1) (fun x => x.2) hb_W (fun j f _ => cJ_W j f) X hZ hF [.int x_20, .int x_22, .int (1 + ((x4 / 99) - (x4 / 99) / 2 * 2))] (255 + 0) (lj nw_0) kj_0 rfl rfl rfl kB_X12_build kL_L_128 (fun res h => cw_build l hZ hW hg fu x_20 x_22 (1 + ((x4 / 99) - (x4 / 99) / 2 * 2)) (fun j => m_44 (255 + j)) res h) rfl ⟨Nat.le_of_ble_eq_true rfl, Nat.le_of_ble_eq_true rfl⟩ (Nat.le_of_ble_eq_true rfl) ⟨Nat.le_of_ble_eq_true rfl, Nat.le_of_ble_eq_true rfl⟩ dL_acts_337 340 rfl (fun p_45 hF => ?_)
              refine x_letm hF (fun m_46 hF => ?_)
              refine x_icmp_ne X hF 347 343 dL_acts_340 (by decide) rfl (fun hF => ?_) (fun hF => ?_)
              · refine x_iconst X 1 dL_acts_343 rfl 344 rfl ?_
                refine x_goto X 348 dL_acts_344 (by decide) ?_
                exact x_iret X hQ (o_inj1 hF) (o_inj2 hF) rfl (Nat.le_of_ble_eq_true rfl) (Nat.le_of_ble_eq_true rfl) dL_acts_348
              · refine x_iconst X 0 dL_acts_347 rfl 348 rfl ?_
                exact x_iret X hQ (o_inj1 hF) (o_inj2 hF) rfl (Nat.le_of_ble_eq_true rfl) (Nat.le_of_ble_eq_true rfl) dL_acts_348
      · refine x_iconst X 0 dL_acts_283 rfl 284 rfl ?_
        exact x_iret X hQ (o_inj1 hF) (o_inj2 hF) rfl (Nat.le_of_ble_eq_true rfl) (Nat.le_of_ble_eq_true rfl) dL_acts_284
  have w_386 : ∀  (x4 : Int32) (x5 : Int32) (mem : Mem), KL_acts_386 L xs np nb fu  x4 x5 mem = some res → XX D (255 + nW np nb) ad (cJ ca ad np nb eD tS sB) p l e rl_acts s m args below meth c 9 29296 232672 Q mem [] 386 [(0, .ref (ad 0)), (4, .int x4), (5, .int x5)] [] := by
    intro  x4 x5 mem hF
    rw [KL_acts_386] at hF
    refine x_aload_n X 0 dL_acts_386 rfl rfl 387 rfl ?_
    refine x_iload X 1 dL_acts_387 rfl 389 rfl ?_
    refine x_iconst X 3 dL_acts_389 rfl 390 rfl ?_
    refine x_idiv X (by decide) dL_acts_390 391 rfl ?_
    refine x_iconst X 2 dL_acts_391 rfl 392 rfl ?_
    refine x_irem X (by decide) dL_acts_392 393 rfl ?_
    refine x_iconst X 1 dL_acts_393 rfl 394 rfl ?_
    refine x_iload X 1 dL_acts_394 rfl 396 rfl ?_
    refine x_iconst X 3 dL_acts_396 rfl 397 rfl ?_
    refine x_irem X (by decide) dL_acts_397 398 rfl ?_
    refine x_iadd X dL_acts_398 399 rfl ?_
    refine j_callT (cf1 := cC ca ad) hb_C (fun j f h => cJ_C j f h) X hZ hF [.int ((x4 / 3) - (x4 / 3) / 2 * 2), .int (1 + (x4 - x4 / 3 * 3))] 0 lj_c kj_c rfl rfl rfl kB_X11_play kL_L_97 (fun r h => by rw [ad_0, mem_0]; exact ct_X11_play l hl hZ hX hO fu ((x4 / 3) - (x4 / 3) / 2 * 2) (1 + (x4 - x4 / 3 * 3)) mem r h) rfl rfl rfl ⟨Nat.le_of_ble_eq_true rfl, Nat.le_of_ble_eq_true rfl⟩ (Nat.le_of_ble_eq_true rfl) ⟨Nat.le_of_ble_eq_true rfl, Nat.le_of_ble_eq_true rfl⟩ dL_acts_399 402 rfl (fun x_47 m_47 hF => ?_)
    refine x_letm hF (fun m_48 hF => ?_)
    refine x_iload X 2 dL_acts_402 rfl 404 rfl ?_
    refine x_icmp_ne X hF 411 407 dL_acts_404 (by decide) rfl (fun hF => ?_) (fun hF => ?_)
    · refine x_iconst X 1 dL_acts_407 rfl 408 rfl ?_
      refine x_goto X 412 dL_acts_408 (by decide) ?_
      exact x_iret X hQ (o_inj1 hF) (o_inj2 hF) rfl (Nat.le_of_ble_eq_true rfl) (Nat.le_of_ble_eq_true rfl) dL_acts_412
    · refine x_iconst X 0 dL_acts_411 rfl 412 rfl ?_
      exact x_iret X hQ (o_inj1 hF) (o_inj2 hF) rfl (Nat.le_of_ble_eq_true rfl) (Nat.le_of_ble_eq_true rfl) dL_acts_412
  have w_352 : ∀  (n : Nat) (hn : n ≤ 4) (x4 : Int32) (x5 : Int32) (mem : Mem), KL_acts_352 L xs np nb fu  n x4 x5 mem = some res → XX D (255 + nW np nb) ad (cJ ca ad np nb eD tS sB) p l e rl_acts s m args below meth c 9 (0 + (4 - n) * 7324) (0 + (4 - n) * 58168) Q mem [] 352 [(0, .ref (ad 0)), (1, .ref (ad (255 + 0))), (4, .int x4), (5, .int x5)] [] := by
    intro  n
    induction n with
    | zero => intro hn x4 x5 mem hF; exact no_none (show (none : Option (Int32 × Mem)) = some res from hF)
    | succ n ih =>
      intro hn x4 x5 mem hF
      rw [KL_acts_352] at hF
      refine x_iload X 3 dL_acts_352 rfl 354 rfl ?_
      refine x_iconst X 1 dL_acts_354 rfl 355 rfl ?_
      refine x_iload X 2 dL_acts_355 rfl 357 rfl ?_
      refine x_iconst X 3 dL_acts_357 rfl 358 rfl ?_
      refine x_irem X (by decide) dL_acts_358 359 rfl ?_
      refine x_iadd X dL_acts_359 360 rfl ?_
      refine x_icmp_ge X hF 386 363 dL_acts_360 (by decide) rfl (fun hF => ?_) (fun hF => ?_)
      · refine x_aload_n X 1 dL_acts_363 rfl rfl 364 rfl ?_
        refine j_callVi (fun x => x) (fun _ => (fun j => mem (255 + j))) hb_W (fun j f _ => cJ_W j f) X hZ hF [] (255 + 0) (lj nw_0) kj_0 rfl rfl rfl kB_X12_isOver kL_L_54 (fun res h => cw_isOver l hZ hW hg fu  (fun j => mem (255 + j)) res h) rfl ⟨Nat.le_of_ble_eq_true rfl, Nat.le_of_ble_eq_true rfl⟩ (Nat.le_of_ble_eq_true rfl) ⟨by show _ ≤ 29299; omega, by show _ ≤ 232690; omega⟩ dL_acts_364 367 rfl (fun x_49 hF => ?_)
        rw [mset_id]
        refine x_if_ne X hF 386 370 dL_acts_367 (by decide) rfl (fun hF => ?_) (fun hF => ?_)
        · refine x_aload_n X 1 dL_acts_370 rfl rfl 371 rfl ?_
          refine x_iload X 2 dL_acts_371 rfl 373 rfl ?_
          refine x_iconst X 3 dL_acts_373 rfl 374 rfl ?_
          refine x_idiv X (by decide) dL_acts_374 375 rfl ?_
          refine x_iconst X 2 dL_acts_375 rfl 376 rfl ?_
          refine x_irem X (by decide) dL_acts_376 377 rfl ?_
          refine j_callVv (fun m => m) hb_W (fun j f _ => cJ_W j f) X hZ hF [.int ((x4 / 3) - (x4 / 3) / 2 * 2)] (255 + 0) (lj nw_0) kj_0 rfl rfl rfl kB_X12_play kL_L_131 (fun res h => cw_play l hZ hW hg fu ((x4 / 3) - (x4 / 3) / 2 * 2) (fun j => mem (255 + j)) res h) rfl ⟨Nat.le_of_ble_eq_true rfl, Nat.le_of_ble_eq_true rfl⟩ (Nat.le_of_ble_eq_true rfl) ⟨by show _ ≤ 29299; omega, by show _ ≤ 232690; omega⟩ dL_acts_377 380 rfl (fun m_50 hF => ?_)
          refine x_letm hF (fun m_51 hF => ?_)
          refine x_iinc X 3 (x5 + 1) [(5, .int (x5 + 1)), (0, .ref (ad 0)), (1, .ref (ad (255 + 0))), (4, .int x4)] dL_acts_380 rfl rfl (by decide) rfl 383 rfl ?_
          refine x_goto X 352 dL_acts_383 (by decide) ?_
          refine x_keep [1, 2, 3, 0] rfl ?_
          refine x_widen (k := (0 + (4 - n) * 7324)) (k2 := (0 + (4 - n) * 58168)) (by omega) (by omega) ?_
          exact ih (by omega) x4 (x5 + 1) m_51 hF
        · refine x_keep [0, 2, 3] rfl ?_
          refine x_widen (k := 29296) (k2 := 232672) (by omega) (by omega) ?_
          exact w_386   x4 x5 mem hF
      · refine x_keep [0, 2, 3] rfl ?_
        refine x_widen (k := 29296) (k2 := 232672) (by omega) (by omega) ?_
        exact w_386   x4 x5 mem hF
  intro hF
  refine x_aload_n X 2 dL_acts_0 rfl rfl 1 rfl ?_
  refine x_sipush X 340 dL_acts_1 rfl 4 rfl ?_
  refine x_iload_n X 3 dL_acts_4 rfl rfl 5 rfl ?_
  refine x_iadd X dL_acts_5 6 rfl ?_
  refine x_sipush X 4000 dL_acts_6 rfl 9 rfl ?_
  refine x_callSi (fun x => x) (fun _ => mem) X hZ hF [.ref sB, .int (340 + x3), .int 4000] rfl kB_L_pick kL_L_93 (fun res h => cl_pick l hZ hW fu (340 + x3) 4000 res h) rfl ⟨Nat.le_of_ble_eq_true rfl, Nat.le_of_ble_eq_true rfl⟩ (Nat.le_of_ble_eq_true rfl) ⟨Nat.le_of_ble_eq_true rfl, Nat.le_of_ble_eq_true rfl⟩ dL_acts_9 12 rfl (fun x_52 hF => ?_)
  refine x_istore X [(4, .int x_52), (0, .ref (ad 0)), (1, .ref (ad (255 + 0))), (2, .ref sB), (3, .int x3)] dL_acts_12 (by decide) rfl 14 rfl ?_
  refine x_aload_n X 2 dL_acts_14 rfl rfl 15 rfl ?_
  refine j_callVi (fun x => x) (fun _ => (fun j => mem (255 + j))) hb_W (fun j f _ => cJ_W j f) X hZ hF [] (255 + 0) (lj nw_0) kj_0 rfl rfl rfl kB_X12_isOver kL_L_54 (fun res h => cw_isOver l hZ hW hg fu  (fun j => mem (255 + j)) res h) rfl ⟨Nat.le_of_ble_eq_true rfl, Nat.le_of_ble_eq_true rfl⟩ (Nat.le_of_ble_eq_true rfl) ⟨Nat.le_of_ble_eq_true rfl, Nat.le_of_ble_eq_true rfl⟩ dL_acts_15 18 rfl (fun x_53 hF => ?_)
  rw [mset_id]
  refine x_if_eq X hF 43 21 dL_acts_18 (by decide) rfl (fun hF => ?_) (fun hF => ?_)
  · refine x_aload_n X 3 dL_acts_43 rfl rfl 44 rfl ?_
    refine x_sipush X 300 dL_acts_44 rfl 47 rfl ?_
    refine x_iload_n X 4 dL_acts_47 rfl rfl 48 rfl ?_
    refine x_iadd X dL_acts_48 49 rfl ?_
    refine x_bipush X 7 dL_acts_49 rfl 51 rfl ?_
    refine x_callSi (fun x => x) (fun _ => mem) X hZ hF [.ref sB, .int (300 + x3), .int 7] rfl kB_L_pick kL_L_93 (fun res h => cl_pick l hZ hW fu (300 + x3) 7 res h) rfl ⟨Nat.le_of_ble_eq_true rfl, Nat.le_of_ble_eq_true rfl⟩ (Nat.le_of_ble_eq_true rfl) ⟨Nat.le_of_ble_eq_true rfl, Nat.le_of_ble_eq_true rfl⟩ dL_acts_51 54 rfl (fun x_54 hF => ?_)
    refine x_case (v := 0) hF (fun h_55 hF => ?_) (fun h_55 hF => ?_)
    · refine x_tin X 88 dL_acts_54 h_55 (by decide) (by decide) rfl (by decide) ?_
      refine x_iconst X 0 dL_acts_88 rfl 89 rfl ?_
      refine x_istore X [(5, .int 0), (4, .int x_52), (0, .ref (ad 0)), (1, .ref (ad (255 + 0))), (2, .ref sB), (3, .int x3)] dL_acts_89 (by decide) rfl 91 rfl ?_
      refine x_keep [2, 3, 1, 0] rfl ?_
      refine x_widen (k := (0 + (5 - 5) * 5)) (k2 := (0 + (5 - 5) * 26)) (by omega) (by omega) ?_
      exact w_91  5 (by omega) x_52 0 mem hF
    · skip
      refine x_case (v := 1) hF (fun h_56 hF => ?_) (fun h_56 hF => ?_)
      · refine x_tin X 88 dL_acts_54 h_56 (by decide) (by decide) rfl (by decide) ?_
        refine x_iconst X 0 dL_acts_88 rfl 89 rfl ?_
        refine x_istore X [(5, .int 0), (4, .int x_52), (0, .ref (ad 0)), (1, .ref (ad (255 + 0))), (2, .ref sB), (3, .int x3)] dL_acts_89 (by decide) rfl 91 rfl ?_
        refine x_keep [2, 3, 1, 0] rfl ?_
        refine x_widen (k := (0 + (5 - 5) * 5)) (k2 := (0 + (5 - 5) * 26)) (by omega) (by omega) ?_
        exact w_91  5 (by omega) x_52 0 mem hF
      · skip
        refine x_case (v := 2) hF (fun h_57 hF => ?_) (fun h_57 hF => ?_)
        · refine x_tin X 88 dL_acts_54 h_57 (by decide) (by decide) rfl (by decide) ?_
          refine x_iconst X 0 dL_acts_88 rfl 89 rfl ?_
          refine x_istore X [(5, .int 0), (4, .int x_52), (0, .ref (ad 0)), (1, .ref (ad (255 + 0))), (2, .ref sB), (3, .int x3)] dL_acts_89 (by decide) rfl 91 rfl ?_
          refine x_keep [2, 3, 1, 0] rfl ?_
          refine x_widen (k := (0 + (5 - 5) * 5)) (k2 := (0 + (5 - 5) * 26)) (by omega) (by omega) ?_
          exact w_91  5 (by omega) x_52 0 mem hF
        · skip
          refine x_case (v := 3) hF (fun h_58 hF => ?_) (fun h_58 hF => ?_)
          · refine x_tin X 211 dL_acts_54 h_58 (by decide) (by decide) rfl (by decide) ?_
            refine x_keep [1, 2, 0] rfl ?_
            exact w_211   x_52 mem hF
          · skip
            refine x_case (v := 4) hF (fun h_59 hF => ?_) (fun h_59 hF => ?_)
            · refine x_tin X 211 dL_acts_54 h_59 (by decide) (by decide) rfl (by decide) ?_
              refine x_keep [1, 2, 0] rfl ?_
              exact w_211   x_52 mem hF
            · skip
              refine x_tout X 349 dL_acts_54 (by have := lv_neT h_55 (show (0 : Int32).toInt = 0 from rfl); have := lv_neT h_56 (show (1 : Int32).toInt = 1 from rfl); have := lv_neT h_57 (show (2 : Int32).toInt = 2 from rfl); have := lv_neT h_58 (show (3 : Int32).toInt = 3 from rfl); have := lv_neT h_59 (show (4 : Int32).toInt = 4 from rfl); omega) (by decide) ?_
              refine x_iconst X 0 dL_acts_349 rfl 350 rfl ?_
              refine x_istore X [(5, .int 0), (4, .int x_52), (0, .ref (ad 0)), (1, .ref (ad (255 + 0))), (2, .ref sB), (3, .int x3)] dL_acts_350 (by decide) rfl 352 rfl ?_
              refine x_keep [2, 3, 1, 0] rfl ?_
              refine x_widen (k := (0 + (4 - 4) * 7324)) (k2 := (0 + (4 - 4) * 58168)) (by omega) (by omega) ?_
              exact w_352  4 (by omega) x_52 0 mem hF
  · refine x_aload_n X 1 dL_acts_21 rfl rfl 22 rfl ?_
    refine j_callVi (fun x => x) (fun _ => (fun j => mem (0 + j))) (cf1 := cC ca ad) hb_C (fun j f h => cJ_C j f h) X hZ hF [] 0 lj_c kj_c rfl rfl rfl kB_X11_isOver kL_L_51 (fun r h => by rw [ad_0, mem_0]; exact ct_X11_isOver l hZ hO fu  mem r h) rfl ⟨Nat.le_of_ble_eq_true rfl, Nat.le_of_ble_eq_true rfl⟩ (Nat.le_of_ble_eq_true rfl) ⟨Nat.le_of_ble_eq_true rfl, Nat.le_of_ble_eq_true rfl⟩ dL_acts_22 25 rfl (fun x_60 hF => ?_)
    rw [mset_id]
    refine x_if_eq X hF 41 28 dL_acts_25 (by decide) rfl (fun hF => ?_) (fun hF => ?_)
    · refine x_iconst X 0 dL_acts_41 rfl 42 rfl ?_
      exact x_iret X hQ (o_inj1 hF) (o_inj2 hF) rfl (Nat.le_of_ble_eq_true rfl) (Nat.le_of_ble_eq_true rfl) dL_acts_42
    · refine x_aload_n X 1 dL_acts_28 rfl rfl 29 rfl ?_
      refine x_iconst X 0 dL_acts_29 rfl 30 rfl ?_
      refine x_iconst X 3 dL_acts_30 rfl 31 rfl ?_
      refine j_callT (cf1 := cC ca ad) hb_C (fun j f h => cJ_C j f h) X hZ hF [.int 0, .int 3] 0 lj_c kj_c rfl rfl rfl kB_X11_play kL_L_97 (fun r h => by rw [ad_0, mem_0]; exact ct_X11_play l hl hZ hX hO fu 0 3 mem r h) rfl rfl rfl ⟨Nat.le_of_ble_eq_true rfl, Nat.le_of_ble_eq_true rfl⟩ (Nat.le_of_ble_eq_true rfl) ⟨Nat.le_of_ble_eq_true rfl, Nat.le_of_ble_eq_true rfl⟩ dL_acts_31 34 rfl (fun x_61 m_61 hF => ?_)
      refine x_letm hF (fun m_62 hF => ?_)
      refine x_if_ne X hF 41 37 dL_acts_34 (by decide) rfl (fun hF => ?_) (fun hF => ?_)
      · refine x_iconst X 1 dL_acts_37 rfl 38 rfl ?_
        refine x_goto X 42 dL_acts_38 (by decide) ?_
        exact x_iret X hQ (o_inj1 hF) (o_inj2 hF) rfl (Nat.le_of_ble_eq_true rfl) (Nat.le_of_ble_eq_true rfl) dL_acts_42
      · refine x_iconst X 0 dL_acts_41 rfl 42 rfl ?_
        exact x_iret X hQ (o_inj1 hF) (o_inj2 hF) rfl (Nat.le_of_ble_eq_true rfl) (Nat.le_of_ble_eq_true rfl) dL_acts_42

end LA
