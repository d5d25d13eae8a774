section LB
def KL_fields_81 (L : Nat) (xs : Nat → Int32) (np nb : Nat) (fu : Nat) (k_2 : Int32 → Mem → Option (Int32 × Mem)) (k_58 : Int32 → Int32 → Mem → Option (Int32 × Mem)) (k_69 : Int32 → Int32 → Int32 → Mem → Option (Int32 × Mem)) : Nat → Int32 → Int32 → Int32 → Int32 → Mem → Option (Int32 × Mem)
  | 0, _, _, _, _, _ => none
  | n + 1, x2, x3, x4, x5, mem => (if x5 < 2 then bdT (K_X11_isBlocked fu x3 x4 x5 mem) (fun x_1 m_1 => lt_ (mset 0 255 mem m_1) (fun m_2 => (if x_1 = 0 then bdT (K_X11_distanceFrom fu x2 x3 x4 m_2) (fun x_3 m_3 => lt_ (mset 0 255 m_2 m_3) (fun m_4 => gi x5 4 (gi x5 4 (bdT (K_X11_distanceFrom fu x2 (x3 + (dxV (Int32.toNatClampNeg x5))) (x4 + (dyV (Int32.toNatClampNeg x5))) m_4) (fun x_7 m_7 => lt_ (mset 0 255 m_4 m_7) (fun m_8 => (if x_3 < 0 then (if x_7 < 0 then (if (1 : Int32) = 1 then bd (KJ_abs (x_3 - x_7)) (fun x_9 => (if 1 < x_9 then some (0, m_8) else gi x5 4 (gi x5 4 (bdT (K_X11_isBlocked fu (x3 + (dxV (Int32.toNatClampNeg x5))) (x4 + (dyV (Int32.toNatClampNeg x5))) (x5 + 2) m_8) (fun x_12 m_12 => lt_ (mset 0 255 m_8 m_12) (fun m_13 => (if x_12 = 0 then (KL_fields_81 L xs np nb fu k_2 k_58 k_69 n x2 x3 x4 (x5 + 1) m_13) else some (0, m_13)))))))) else some (0, m_8)) else (if (1 : Int32) = 0 then bd (KJ_abs (x_3 - x_7)) (fun x_14 => (if 1 < x_14 then some (0, m_8) else gi x5 4 (gi x5 4 (bdT (K_X11_isBlocked fu (x3 + (dxV (Int32.toNatClampNeg x5))) (x4 + (dyV (Int32.toNatClampNeg x5))) (x5 + 2) m_8) (fun x_17 m_17 => lt_ (mset 0 255 m_8 m_17) (fun m_18 => (if x_17 = 0 then (KL_fields_81 L xs np nb fu k_2 k_58 k_69 n x2 x3 x4 (x5 + 1) m_18) else some (0, m_18)))))))) else some (0, m_8))) else (if x_7 < 0 then (if (0 : Int32) = 1 then bd (KJ_abs (x_3 - x_7)) (fun x_19 => (if 1 < x_19 then some (0, m_8) else gi x5 4 (gi x5 4 (bdT (K_X11_isBlocked fu (x3 + (dxV (Int32.toNatClampNeg x5))) (x4 + (dyV (Int32.toNatClampNeg x5))) (x5 + 2) m_8) (fun x_22 m_22 => lt_ (mset 0 255 m_8 m_22) (fun m_23 => (if x_22 = 0 then (KL_fields_81 L xs np nb fu k_2 k_58 k_69 n x2 x3 x4 (x5 + 1) m_23) else some (0, m_23)))))))) else some (0, m_8)) else (if (0 : Int32) = 0 then bd (KJ_abs (x_3 - x_7)) (fun x_24 => (if 1 < x_24 then some (0, m_8) else gi x5 4 (gi x5 4 (bdT (K_X11_isBlocked fu (x3 + (dxV (Int32.toNatClampNeg x5))) (x4 + (dyV (Int32.toNatClampNeg x5))) (x5 + 2) m_8) (fun x_27 m_27 => lt_ (mset 0 255 m_8 m_27) (fun m_28 => (if x_27 = 0 then (KL_fields_81 L xs np nb fu k_2 k_58 k_69 n x2 x3 x4 (x5 + 1) m_28) else some (0, m_28)))))))) else some (0, m_8)))))))))) else (KL_fields_81 L xs np nb fu k_2 k_58 k_69 n x2 x3 x4 (x5 + 1) m_2)))) else (k_69 x2 x3 (x4 + 1) mem))
def KL_fields_69 (L : Nat) (xs : Nat → Int32) (np nb : Nat) (fu : Nat) (k_2 : Int32 → Mem → Option (Int32 × Mem)) (k_58 : Int32 → Int32 → Mem → Option (Int32 × Mem)) : Nat → Int32 → Int32 → Int32 → Mem → Option (Int32 × Mem)
  | 0, _, _, _, _ => none
  | n + 1, x2, x3, x4, mem => (if x4 < (rd mem (255 + 0) 1) then (KL_fields_81 L xs np nb fu k_2 k_58 (KL_fields_69 L xs np nb fu k_2 k_58 n) 3 x2 x3 x4 0 mem) else (k_58 x2 (x3 + 1) mem))
def KL_fields_58 (L : Nat) (xs : Nat → Int32) (np nb : Nat) (fu : Nat) (k_2 : Int32 → Mem → Option (Int32 × Mem)) : Nat → Int32 → Int32 → Mem → Option (Int32 × Mem)
  | 0, _, _, _ => none
  | n + 1, x2, x3, mem => (if x3 < (rd mem (255 + 0) 0) then (KL_fields_69 L xs np nb fu k_2 (KL_fields_58 L xs np nb fu k_2 n) 7 x2 x3 0 mem) else bdT (K_X11_stepsWithBans fu x2 mem) (fun x_29 m_29 => lt_ (mset 0 255 mem m_29) (fun m_30 => (if x_29 < 0 then (k_2 (x2 + 1) m_30) else bdT (K_X11_distance fu x2 m_30) (fun x_31 m_31 => lt_ (mset 0 255 m_30 m_31) (fun m_32 => (if x_29 < x_31 then some (0, m_32) else bdT (K_X11_detour fu x2 m_32) (fun x_33 m_33 => lt_ (mset 0 255 m_32 m_33) (fun m_34 => bdT (K_X11_distance fu x2 m_34) (fun x_35 m_35 => lt_ (mset 0 255 m_34 m_35) (fun m_36 => (if x_33 = (x_29 - x_35) then (k_2 (x2 + 1) m_36) else some (0, m_36)))))))))))))
def KL_fields_2 (L : Nat) (xs : Nat → Int32) (np nb : Nat) (fu : Nat)  : Nat → Int32 → Mem → Option (Int32 × Mem)
  | 0, _, _ => none
  | n + 1, x2, mem => (if x2 < (Int32.ofNat np) then bdT (K_X11_distance fu x2 mem) (fun x_37 m_37 => lt_ (mset 0 255 mem m_37) (fun m_38 => (if x_37 < 0 then some (0, m_38) else bdT (K_X11_distance fu x2 m_38) (fun x_39 m_39 => lt_ (mset 0 255 m_38 m_39) (fun m_40 => (if x_39 = 0 then bdT (K_X11_pawn fu x2 6 m_40) (fun x_41 m_41 => lt_ (mset 0 255 m_40 m_41) (fun m_42 => (if 0 < x_41 then (if (1 : Int32) = 1 then (KL_fields_58 L xs np nb fu (KL_fields_2 L xs np nb fu  n) 7 x2 0 m_42) else some (0, m_42)) else (if (1 : Int32) = 0 then (KL_fields_58 L xs np nb fu (KL_fields_2 L xs np nb fu  n) 7 x2 0 m_42) else some (0, m_42))))) else bdT (K_X11_pawn fu x2 6 m_40) (fun x_43 m_43 => lt_ (mset 0 255 m_40 m_43) (fun m_44 => (if 0 < x_43 then (if (0 : Int32) = 1 then (KL_fields_58 L xs np nb fu (KL_fields_2 L xs np nb fu  n) 7 x2 0 m_44) else some (0, m_44)) else (if (0 : Int32) = 0 then (KL_fields_58 L xs np nb fu (KL_fields_2 L xs np nb fu  n) 7 x2 0 m_44) else some (0, m_44))))))))))) else some (1, mem))
def KL_fields (L : Nat) (xs : Nat → Int32) (np nb : Nat) (fu : Nat)  (mem : Mem) : Option (Int32 × Mem) := (KL_fields_2 L xs np nb fu  5 0 mem)
def rl_fields : Room := { frames := 8, cells := 8913, slots := 53478, locals := 128 }
theorem rlc_fields : rl_fields.cells = 8913 ∧ rl_fields.slots = 53478 := ⟨rfl, rfl⟩
set_option maxHeartbeats 4000000 in
set_option maxRecDepth 100000 in
theorem cl_fields (l : Launch) (hl : l.stackTraces = false) {D : va_G} {ca ad : Nat → Nat} {np nb eD tS sB : Nat} {Z : (Nat → Prop) → State → Heap → Prop} (hZ : ZOK Z) (hX : ZX Z) {tO : Nat} {sK sV : Nat → Nat} (hO : ZO Z tO sK sV) {tA tU L : Nat} {xs : Nat → Int32} (hW : ZWO Z tA tU sB L xs) (hg : np ≤ 4 ∧ nb ≤ 4 ∧ (np = 0 → nb = 0)) (fu : Nat)  (mem : Mem) (res : (Int32 × Mem)) (hF : KL_fields L xs np nb fu  mem = some res) : CJ l D (tyL ca) (255 + nW np nb) ad (cJ ca ad np nb eD tS sB) Z yL_fields cL_fields 8 .boolean rl_fields [.ref (ad 0), .ref (ad (255 + 0))] mem res.1 res.2 := by
  refine xstart_i (own := RL) rfl (by decide) (Nat.le_of_ble_eq_true rfl) ?_
  intro p e s m args below meth c Q hQ X
  rw [KL_fields] at hF
  revert hF
  have w_81 : ∀ (n_2 : Nat) (hn_2 : n_2 + 1 ≤ 5) (k_2 : Int32 → Mem → Option (Int32 × Mem)) (hk_2 : ∀ (x2 : Int32) (mem : Mem), k_2 x2 mem = some res → XX D (255 + nW np nb) ad (cJ ca ad np nb eD tS sB) p l e rl_fields s m args below meth c 8 (0 + (5 - n_2) * 1785) (0 + (5 - n_2) * 10710) Q mem [] 2 [(0, .ref (ad 0)), (1, .ref (ad (255 + 0))), (2, .int x2)] []) (n_58 : Nat) (hn_58 : n_58 + 1 ≤ 7) (k_58 : Int32 → Int32 → Mem → Option (Int32 × Mem)) (hk_58 : ∀ (x2 : Int32) (x3 : Int32) (mem : Mem), k_58 x2 x3 mem = some res → XX D (255 + nW np nb) ad (cJ ca ad np nb eD tS sB) p l e rl_fields s m args below meth c 8 (9 + (5 - (n_2 + 1)) * 1785 + (7 - n_58) * 252) (54 + (5 - (n_2 + 1)) * 10710 + (7 - n_58) * 1512) Q mem [] 58 [(0, .ref (ad 0)), (1, .ref (ad (255 + 0))), (2, .int x2), (3, .int x3)] []) (n_69 : Nat) (hn_69 : n_69 + 1 ≤ 7) (k_69 : Int32 → Int32 → Int32 → Mem → Option (Int32 × Mem)) (hk_69 : ∀ (x2 : Int32) (x3 : Int32) (x4 : Int32) (mem : Mem), k_69 x2 x3 x4 mem = some res → XX D (255 + nW np nb) ad (cJ ca ad np nb eD tS sB) p l e rl_fields s m args below meth c 8 (9 + (5 - (n_2 + 1)) * 1785 + (7 - (n_58 + 1)) * 252 + (7 - n_69) * 36) (54 + (5 - (n_2 + 1)) * 10710 + (7 - (n_58 + 1)) * 1512 + (7 - n_69) * 216) Q mem [] 69 [(0, .ref (ad 0)), (1, .ref (ad (255 + 0))), (2, .int x2), (3, .int x3), (4, .int x4)] []) (n : Nat) (hn : n ≤ 3) (x2 : Int32) (x3 : Int32) (x4 : Int32) (x5 : Int32) (mem : Mem), KL_fields_81 L xs np nb fu k_2 k_58 k_69 n x2 x3 x4 x5 mem = some res → XX D (255 + nW np nb) ad (cJ ca ad np nb eD tS sB) p l e rl_fields s m args below meth c 8 (9 + (5 - (n_2 + 1)) * 1785 + (7 - (n_58 + 1)) * 252 + (7 - (n_69 + 1)) * 36 + (3 - n) * 12) (54 + (5 - (n_2 + 1)) * 10710 + (7 - (n_58 + 1)) * 1512 + (7 - (n_69 + 1)) * 216 + (3 - n) * 72) Q mem [] 81 [(0, .ref (ad 0)), (1, .ref (ad (255 + 0))), (2, .int x2), (3, .int x3), (4, .int x4), (5, .int x5)] [] := by
    intro n_2 hn_2 k_2 hk_2 n_58 hn_58 k_58 hk_58 n_69 hn_69 k_69 hk_69 n
    induction n with
    | zero => intro hn x2 x3 x4 x5 mem hF; exact no_none (show (none : Option (Int32 × Mem)) = some res from hF)
    | succ n ih =>
      intro hn x2 x3 x4 x5 mem hF
      rw [KL_fields_81] at hF
      refine x_iload X 5 dL_fields_81 rfl 83 rfl ?_
      refine x_iconst X 2 dL_fields_83 rfl 84 rfl ?_
      refine x_icmp_ge X hF 207 87 dL_fields_84 (by decide) rfl (fun hF => ?_) (fun hF => ?_)
      · refine x_aload_n X 0 dL_fields_87 rfl rfl 88 rfl ?_
        refine x_iload_n X 3 dL_fields_88 rfl rfl 89 rfl ?_
        refine x_iload X 4 dL_fields_89 rfl 91 rfl ?_
        refine x_iload X 5 dL_fields_91 rfl 93 rfl ?_
        refine j_callT (cf1 := cC ca ad) hb_C (fun j f h => cJ_C j f h) X hZ hF [.int x3, .int x4, .int x5] 0 lj_c kj_c rfl rfl rfl kB_X11_isBlocked kL_L_170 (fun r h => by rw [ad_0, mem_0]; exact ct_X11_isBlocked l hl hZ hX hO fu x3 x4 x5 mem r h) rfl rfl rfl ⟨Nat.le_of_ble_eq_true rfl, Nat.le_of_ble_eq_true rfl⟩ (Nat.le_of_ble_eq_true rfl) ⟨by show _ ≤ 8913; omega, by show _ ≤ 53478; omega⟩ dL_fields_93 96 rfl (fun x_1 m_1 hF => ?_)
        refine x_letm hF (fun m_2 hF => ?_)
        refine x_if_eq X hF 102 99 dL_fields_96 (by decide) rfl (fun hF => ?_) (fun hF => ?_)
        · refine x_aload_n X 0 dL_fields_102 rfl rfl 103 rfl ?_
          refine x_iload_n X 2 dL_fields_103 rfl rfl 104 rfl ?_
          refine x_iload_n X 3 dL_fields_104 rfl rfl 105 rfl ?_
          refine x_iload X 4 dL_fields_105 rfl 107 rfl ?_
          refine j_callT (cf1 := cC ca ad) hb_C (fun j f h => cJ_C j f h) X hZ hF [.int x2, .int x3, .int x4] 0 lj_c kj_c rfl rfl rfl kB_X11_distanceFrom kL_L_173 (fun r h => by rw [ad_0, mem_0]; exact ct_X11_distanceFrom l hl hZ hX hO fu x2 x3 x4 m_2 r h) rfl rfl rfl ⟨Nat.le_of_ble_eq_true rfl, Nat.le_of_ble_eq_true rfl⟩ (Nat.le_of_ble_eq_true rfl) ⟨by show _ ≤ 8913; omega, by show _ ≤ 53478; omega⟩ dL_fields_107 110 rfl (fun x_3 m_3 hF => ?_)
          refine x_letm hF (fun m_4 hF => ?_)
          refine x_istore X [(6, .int x_3), (0, .ref (ad 0)), (1, .ref (ad (255 + 0))), (2, .int x2), (3, .int x3), (4, .int x4), (5, .int x5)] dL_fields_110 (by decide) rfl 112 rfl ?_
          refine x_aload_n X 1 dL_fields_112 rfl rfl 113 rfl ?_
          refine x_iload_n X 3 dL_fields_113 rfl rfl 114 rfl ?_
          refine x_iload_n X 4 dL_fields_114 rfl rfl 115 rfl ?_
          refine x_acs X hW kF_L_176 dL_fields_115 118 rfl ?_
          refine x_iload X 6 dL_fields_118 rfl 120 rfl ?_
          refine x_gi hF (fun h_5 hF => ?_)
          refine x_acl X hW h_5 dL_fields_120 121 rfl ?_
          refine x_iadd X dL_fields_121 122 rfl ?_
          refine x_iload X 5 dL_fields_122 rfl 124 rfl ?_
          refine x_ups2 X hW kF_L_179 dL_fields_124 127 rfl ?_
          refine x_iload X 6 dL_fields_127 rfl 129 rfl ?_
          refine x_gi hF (fun h_6 hF => ?_)
          refine x_upl X hW h_6 dL_fields_129 130 rfl ?_
          refine x_iadd X dL_fields_130 131 rfl ?_
          refine j_callT (cf1 := cC ca ad) hb_C (fun j f h => cJ_C j f h) X hZ hF [.int x2, .int (x3 + (dxV (Int32.toNatClampNeg x5))), .int (x4 + (dyV (Int32.toNatClampNeg x5)))] 0 lj_c kj_c rfl rfl rfl kB_X11_distanceFrom kL_L_173 (fun r h => by rw [ad_0, mem_0]; exact ct_X11_distanceFrom l hl hZ hX hO fu x2 (x3 + (dxV (Int32.toNatClampNeg x5))) (x4 + (dyV (Int32.toNatClampNeg x5))) m_4 r h) rfl rfl rfl ⟨Nat.le_of_ble_eq_true rfl, Nat.le_of_ble_eq_true rfl⟩ (Nat.le_of_ble_eq_true rfl) ⟨by show _ ≤ 8913; omega, by show _ ≤ 53478; omega⟩ dL_fields_131 134 rfl (fun x_7 m_7 hF => ?_)
          refine x_letm hF (fun m_8 hF => ?_)
          refine x_istore X [(7, .int x_7), (6, .int x_3), (0, .ref (ad 0)), (1, .ref (ad (255 + 0))), (2, .int x2), (3, .int x3), (4, .int x4), (5, .int x5)] dL_fields_134 (by decide) rfl 136 rfl ?_
          refine x_iload X 1 dL_fields_136 rfl 138 rfl ?_
          refine x_if_ge X hF 145 141 dL_fields_138 (by decide) rfl (fun hF => ?_) (fun hF => ?_)
          · refine x_iconst X 1 dL_fields_141 rfl 142 rfl ?_
            refine x_goto X 146 dL_fields_142 (by decide) ?_
            refine x_iload X 0 dL_fields_146 rfl 148 rfl ?_
            refine x_if_ge X hF 155 151 dL_fields_148 (by decide) rfl (fun hF => ?_) (fun hF => ?_)
            · refine x_iconst X 1 dL_fields_151 rfl 152 rfl ?_
              refine x_goto X 156 dL_fields_152 (by decide) ?_
              refine x_icmp_ne X hF 199 159 dL_fields_156 (by decide) rfl (fun hF => ?_) (fun hF => ?_)
              · refine x_iload X 1 dL_fields_159 rfl 161 rfl ?_
                refine x_iload X 0 dL_fields_161 rfl 163 rfl ?_
                refine x_isub X dL_fields_163 164 rfl ?_
                refine x_mabs X hF kL_L_182 ⟨Nat.le_of_ble_eq_true rfl, Nat.le_of_ble_eq_true rfl⟩ (Nat.le_of_ble_eq_true rfl) ⟨by show _ ≤ 8913; omega, by show _ ≤ 53478; omega⟩ dL_fields_164 167 rfl (fun x_9 hF => ?_)
                refine x_iconst X 1 dL_fields_167 rfl 168 rfl ?_
                refine x_icmp_gt X hF 199 171 dL_fields_168 (by decide) rfl (fun hF => ?_) (fun hF => ?_)
                · refine x_iconst X 0 dL_fields_199 rfl 200 rfl ?_
                  exact x_iret X hQ (o_inj1 hF) (o_inj2 hF) rfl (by show _ ≤ 8913; omega) (by show _ ≤ 53478; omega) dL_fields_200
                · refine x_aload_n X 2 dL_fields_171 rfl rfl 172 rfl ?_
                  refine x_iload_n X 5 dL_fields_172 rfl rfl 173 rfl ?_
                  refine x_acs X hW kF_L_176 dL_fields_173 176 rfl ?_
                  refine x_iload X 7 dL_fields_176 rfl 178 rfl ?_
                  refine x_gi hF (fun h_10 hF => ?_)
                  refine x_acl X hW h_10 dL_fields_178 179 rfl ?_
                  refine x_iadd X dL_fields_179 180 rfl ?_
                  refine x_iload X 6 dL_fields_180 rfl 182 rfl ?_
                  refine x_ups2 X hW kF_L_179 dL_fields_182 185 rfl ?_
                  refine x_iload X 7 dL_fields_185 rfl 187 rfl ?_
                  refine x_gi hF (fun h_11 hF => ?_)
                  refine x_upl X hW h_11 dL_fields_187 188 rfl ?_
                  refine x_iadd X dL_fields_188 189 rfl ?_
                  refine x_iload X 7 dL_fields_189 rfl 191 rfl ?_
                  refine x_iconst X 2 dL_fields_191 rfl 192 rfl ?_
                  refine x_iadd X dL_fields_192 193 rfl ?_
                  refine j_callT (cf1 := cC ca ad) hb_C (fun j f h => cJ_C j f h) X hZ hF [.int (x3 + (dxV (Int32.toNatClampNeg x5))), .int (x4 + (dyV (Int32.toNatClampNeg x5))), .int (x5 + 2)] 0 lj_c kj_c rfl rfl rfl kB_X11_isBlocked kL_L_170 (fun r h => by rw [ad_0, mem_0]; exact ct_X11_isBlocked l hl hZ hX hO fu (x3 + (dxV (Int32.toNatClampNeg x5))) (x4 + (dyV (Int32.toNatClampNeg x5))) (x5 + 2) m_8 r h) rfl rfl rfl ⟨Nat.le_of_ble_eq_true rfl, Nat.le_of_ble_eq_true rfl⟩ (Nat.le_of_ble_eq_true rfl) ⟨by show _ ≤ 8913; omega, by show _ ≤ 53478; omega⟩ dL_fields_193 196 rfl (fun x_12 m_12 hF => ?_)
                  refine x_letm hF (fun m_13 hF => ?_)
                  refine x_if_eq X hF 201 199 dL_fields_196 (by decide) rfl (fun hF => ?_) (fun hF => ?_)
                  · refine x_iinc X 7 (x5 + 1) [(5, .int (x5 + 1)), (7, .int x_7), (6, .int x_3), (0, .ref (ad 0)), (1, .ref (ad (255 + 0))), (2, .int x2), (3, .int x3), (4, .int x4)] dL_fields_201 rfl rfl (by decide) rfl 204 rfl ?_
                    refine x_goto X 81 dL_fields_204 (by decide) ?_
                    refine x_keep [3, 4, 5, 6, 7, 0] rfl ?_
                    refine x_widen (k := (9 + (5 - (n_2 + 1)) * 1785 + (7 - (n_58 + 1)) * 252 + (7 - (n_69 + 1)) * 36 + (3 - n) * 12)) (k2 := (54 + (5 - (n_2 + 1)) * 10710 + (7 - (n_58 + 1)) * 1512 + (7 - (n_69 + 1)) * 216 + (3 - n) * 72)) (by omega) (by omega) ?_
                    exact ih (by omega) x2 x3 x4 (x5 + 1) m_13 hF
                  · refine x_iconst X 0 dL_fields_199 rfl 200 rfl ?_
                    exact x_iret X hQ (o_inj1 hF) (o_inj2 hF) rfl (by show _ ≤ 8913; omega) (by show _ ≤ 53478; omega) dL_fields_200
              · refine x_iconst X 0 dL_fields_199 rfl 200 rfl ?_
                exact x_iret X hQ (o_inj1 hF) (o_inj2 hF) rfl (by show _ ≤ 8913; omega) (by show _ ≤ 53478; omega) dL_fields_200
            · refine x_iconst X 0 dL_fields_155 rfl 156 rfl ?_
              refine x_icmp_ne X hF 199 159 dL_fields_156 (by decide) rfl (fun hF => ?_) (fun hF => ?_)
              · refine x_iload X 1 dL_fields_159 rfl 161 rfl ?_
                refine x_iload X 0 dL_fields_161 rfl 163 rfl ?_
                refine x_isub X dL_fields_163 164 rfl ?_
                refine x_mabs X hF kL_L_182 ⟨Nat.le_of_ble_eq_true rfl, Nat.le_of_ble_eq_true rfl⟩ (Nat.le_of_ble_eq_true rfl) ⟨by show _ ≤ 8913; omega, by show _ ≤ 53478; omega⟩ dL_fields_164 167 rfl (fun x_14 hF => ?_)
                refine x_iconst X 1 dL_fields_167 rfl 168 rfl ?_
                refine x_icmp_gt X hF 199 171 dL_fields_168 (by decide) rfl (fun hF => ?_) (fun hF => ?_)
                · refine x_iconst X 0 dL_fields_199 rfl 200 rfl ?_
                  exact x_iret X hQ (o_inj1 hF) (o_inj2 hF) rfl (by show _ ≤ 8913; omega) (by show _ ≤ 53478; omega) dL_fields_200
                · refine x_aload_n X 2 dL_fields_171 rfl rfl 172 rfl ?_
                  refine x_iload_n X 5 dL_fields_172 rfl rfl 173 rfl ?_
                  refine x_acs X hW kF_L_176 dL_fields_173 176 rfl ?_
                  refine x_iload X 7 dL_fields_176 rfl 178 rfl ?_
                  refine x_gi hF (fun h_15 hF => ?_)
                  refine x_acl X hW h_15 dL_fields_178 179 rfl ?_
                  refine x_iadd X dL_fields_179 180 rfl ?_
                  refine x_iload X 6 dL_fields_180 rfl 182 rfl ?_
                  refine x_ups2 X hW kF_L_179 dL_fields_182 185 rfl ?_
                  refine x_iload X 7 dL_fields_185 rfl 187 rfl ?_
                  refine x_gi hF (fun h_16 hF => ?_)
                  refine x_upl X hW h_16 dL_fields_187 188 rfl ?_
                  refine x_iadd X dL_fields_188 189 rfl ?_
                  refine x_iload X 7 dL_fields_189 rfl 191 rfl ?_
                  refine x_iconst X 2 dL_fields_191 rfl 192 rfl ?_
                  refine x_iadd X dL_fields_192 193 rfl ?_
                  refine j_callT (cf1 := cC ca ad) hb_C (fun j f h => cJ_C j f h) X hZ hF [.int (x3 + (dxV (Int32.toNatClampNeg x5))), .int (x4 + (dyV (Int32.toNatClampNeg x5))), .int (x5 + 2)] 0 lj_c kj_c rfl rfl rfl kB_X11_isBlocked kL_L_170 (fun r h => by rw [ad_0, mem_0]; exact ct_X11_isBlocked l hl hZ hX hO fu (x3 + (dxV (Int32.toNatClampNeg x5))) (x4 + (dyV (Int32.toNatClampNeg x5))) (x5 + 2) m_8 r h) rfl rfl rfl ⟨Nat.le_of_ble_eq_true rfl, Nat.le_of_ble_eq_true rfl⟩ (Nat.le_of_ble_eq_true rfl) ⟨by show _ ≤ 8913; omega, by show _ ≤ 53478; omega⟩ dL_fields_193 196 rfl (fun x_17 m_17 hF => ?_)
                  refine x_letm hF (fun m_18 hF => ?_)
                  refine x_if_eq X hF 201 199 dL_fields_196 (by decide) rfl (fun hF => ?_) (fun hF => ?_)
                  · refine x_iinc X 7 (x5 + 1) [(5, .int (x5 + 1)), (7, .int x_7), (6, .int x_3), (0, .ref (ad 0)), (1, .ref (ad (255 + 0))), (2, .int x2), (3, .int x3), (4, .int x4)] dL_fields_201 rfl rfl (by decide) rfl 204 rfl ?_
                    refine x_goto X 81 dL_fields_204 (by decide) ?_
                    refine x_keep [3, 4, 5, 6, 7, 0] rfl ?_
                    refine x_widen (k := (9 + (5 - (n_2 + 1)) * 1785 + (7 - (n_58 + 1)) * 252 + (7 - (n_69 + 1)) * 36 + (3 - n) * 12)) (k2 := (54 + (5 - (n_2 + 1)) * 10710 + (7 - (n_58 + 1)) * 1512 + (7 - (n_69 + 1)) * 216 + (3 - n) * 72)) (by omega) (by omega) ?_
                    exact ih (by omega) x2 x3 x4 (x5 + 1) m_18 hF
                  · refine x_iconst X 0 dL_fields_199 rfl 200 rfl ?_
                    exact x_iret X hQ (o_inj1 hF) (o_inj2 hF) rfl (by show _ ≤ 8913; omega) (by show _ ≤ 53478; omega) dL_fields_200
              · refine x_iconst X 0 dL_fields_199 rfl 200 rfl ?_
                exact x_iret X hQ (o_inj1 hF) (o_inj2 hF) rfl (by show _ ≤ 8913; omega) (by show _ ≤ 53478; omega) dL_fields_200
          · refine x_iconst X 0 dL_fields_145 rfl 146 rfl ?_
            refine x_iload X 0 dL_fields_146 rfl 148 rfl ?_
            refine x_if_ge X hF 155 151 dL_fields_148 (by decide) rfl (fun hF => ?_) (fun hF => ?_)
            · refine x_iconst X 1 dL_fields_151 rfl 152 rfl ?_
              refine x_goto X 156 dL_fields_152 (by decide) ?_
              refine x_icmp_ne X hF 199 159 dL_fields_156 (by decide) rfl (fun hF => ?_) (fun hF => ?_)
              · refine x_iload X 1 dL_fields_159 rfl 161 rfl ?_
                refine x_iload X 0 dL_fields_161 rfl 163 rfl ?_
                refine x_isub X dL_fields_163 164 rfl ?_
                refine x_mabs X hF kL_L_182 ⟨Nat.le_of_ble_eq_true rfl, Nat.le_of_ble_eq_true rfl⟩ (Nat.le_of_ble_eq_true rfl) ⟨by show _ ≤ 8913; omega, by show _ ≤ 53478; omega⟩ dL_fields_164 167 rfl (fun x_19 hF => ?_)
                refine x_iconst X 1 dL_fields_167 rfl 168 rfl ?_
                refine x_icmp_gt X hF 199 171 dL_fields_168 (by decide) rfl (fun hF => ?_) (fun hF => ?_)
                · refine x_iconst X 0 dL_fields_199 rfl 200 rfl ?_
                  exact x_iret X hQ (o_inj1 hF) (o_inj2 hF) rfl (by show _ ≤ 8913; omega) (by show _ ≤ 53478; omega) dL_fields_200
                · refine x_aload_n X 2 dL_fields_171 rfl rfl 172 rfl ?_
                  refine x_iload_n X 5 dL_fields_172 rfl rfl 173 rfl ?_
                  refine x_acs X hW kF_L_176 dL_fields_173 176 rfl ?_
                  refine x_iload X 7 dL_fields_176 rfl 178 rfl ?_
                  refine x_gi hF (fun h_20 hF => ?_)
                  refine x_acl X hW h_20 dL_fields_178 179 rfl ?_
                  refine x_iadd X dL_fields_179 180 rfl ?_
                  refine x_iload X 6 dL_fields_180 rfl 182 rfl ?_
                  refine x_ups2 X hW kF_L_179 dL_fields_182 185 rfl ?_
                  refine x_iload X 7 dL_fields_185 rfl 187 rfl ?_
                  refine x_gi hF (fun h_21 hF => ?_)
                  refine x_upl X hW h_21 dL_fields_187 188 rfl ?_
                  refine x_iadd X dL_fields_188 189 rfl ?_
                  refine x_iload X 7 dL_fields_189 rfl 191 rfl ?_
                  refine x_iconst X 2 dL_fields_191 rfl 192 rfl ?_
                  refine x_iadd X dL_fields_192 193 rfl ?_
                  refine j_callT (cf1 := cC ca ad) hb_C (fun j f h => cJ_C j f h) X hZ hF [.int (x3 + (dxV (Int32.toNatClampNeg x5))), .int (x4 + (dyV (Int32.toNatClampNeg x5))), .int (x5 + 2)] 0 lj_c kj_c rfl rfl rfl kB_X11_isBlocked kL_L_170 (fun r h => by rw [ad_0, mem_0]; exact ct_X11_isBlocked l hl hZ hX hO fu (x3 + (dxV (Int32.toNatClampNeg x5))) (x4 + (dyV (Int32.toNatClampNeg x5))) (x5 + 2) m_8 r h) rfl rfl rfl ⟨Nat.le_of_ble_eq_true rfl, Nat.le_of_ble_eq_true rfl⟩ (Nat.le_of_ble_eq_true rfl) ⟨by show _ ≤ 8913; omega, by show _ ≤ 53478; omega⟩ dL_fields_193 196 rfl (fun x_22 m_22 hF => ?_)
                  refine x_letm hF (fun m_23 hF => ?_)
                  refine x_if_eq X hF 201 199 dL_fields_196 (by decide) rfl (fun hF => ?_) (fun hF => ?_)
                  · refine x_iinc X 7 (x5 + 1) [(5, .int (x5 + 1)), (7, .int x_7), (6, .int x_3), (0, .ref (ad 0)), (1, .ref (ad (255 + 0))), (2, .int x2), (3, .int x3), (4, .int x4)] dL_fields_201 rfl rfl (by decide) rfl 204 rfl ?_
                    refine x_goto X 81 dL_fields_204 (by decide) ?_
                    refine x_keep [3, 4, 5, 6, 7, 0] rfl ?_
                    refine x_widen (k := (9 + (5 - (n_2 + 1)) * 1785 + (7 - (n_58 + 1)) * 252 + (7 - (n_69 + 1)) * 36 + (3 - n) * 12)) (k2 := (54 + (5 - (n_2 + 1)) * 10710 + (7 - (n_58 + 1)) * 1512 + (7 - (n_69 + 1)) * 216 + (3 - n) * 72)) (by omega) (by omega) ?_
                    exact ih (by omega) x2 x3 x4 (x5 + 1) m_23 hF
                  · refine x_iconst X 0 dL_fields_199 rfl 200 rfl ?_
                    exact x_iret X hQ (o_inj1 hF) (o_inj2 hF) rfl (by show _ ≤ 8913; omega) (by show _ ≤ 53478; omega) dL_fields_200
              · refine x_iconst X 0 dL_fields_199 rfl 200 rfl ?_
                exact x_iret X hQ (o_inj1 hF) (o_inj2 hF) rfl (by show _ ≤ 8913; omega) (by show _ ≤ 53478; omega) dL_fields_200
            · refine x_iconst X 0 dL_fields_155 rfl 156 rfl ?_
              refine x_icmp_ne X hF 199 159 dL_fields_156 (by decide) rfl (fun hF => ?_) (fun hF => ?_)
              · refine x_iload X 1 dL_fields_159 rfl 161 rfl ?_
                refine x_iload X 0 dL_fields_161 rfl 163 rfl ?_
                refine x_isub X dL_fields_163 164 rfl ?_
                refine x_mabs X hF kL_L_182 ⟨Nat.le_of_ble_eq_true rfl, Nat.le_of_ble_eq_true rfl⟩ (Nat.le_of_ble_eq_true rfl) ⟨by show _ ≤ 8913; omega, by show _ ≤ 53478; omega⟩ dL_fields_164 167 rfl (fun x_24 hF => ?_)
                refine x_iconst X 1 dL_fields_167 rfl 168 rfl ?_
                refine x_icmp_gt X hF 199 171 dL_fields_168 (by decide) rfl (fun hF => ?_) (fun hF => ?_)
                · refine x_iconst X 0 dL_fields_199 rfl 200 rfl ?_
                  exact x_iret X hQ (o_inj1 hF) (o_inj2 hF) rfl (by show _ ≤ 8913; omega) (by show _ ≤ 53478; omega) dL_fields_200
                · refine x_aload_n X 2 dL_fields_171 rfl rfl 172 rfl ?_
                  refine x_iload_n X 5 dL_fields_172 rfl rfl 173 rfl ?_
                  refine x_acs X hW kF_L_176 dL_fields_173 176 rfl ?_
                  refine x_iload X 7 dL_fields_176 rfl 178 rfl ?_
                  refine x_gi hF (fun h_25 hF => ?_)
                  refine x_acl X hW h_25 dL_fields_178 179 rfl ?_
                  refine x_iadd X dL_fields_179 180 rfl ?_
                  refine x_iload X 6 dL_fields_180 rfl 182 rfl ?_
                  refine x_ups2 X hW kF_L_179 dL_fields_182 185 rfl ?_
                  refine x_iload X 7 dL_fields_185 rfl 187 rfl ?_
                  refine x_gi hF (fun h_26 hF => ?_)
                  refine x_upl X hW h_26 dL_fields_187 188 rfl ?_
                  refine x_iadd X dL_fields_188 189 rfl ?_
                  refine x_iload X 7 dL_fields_189 rfl 191 rfl ?_
                  refine x_iconst X 2 dL_fields_191 rfl 192 rfl ?_
                  refine x_iadd X dL_fields_192 193 rfl ?_
                  refine j_callT (cf1 := cC ca ad) hb_C (fun j f h => cJ_C j f h) X hZ hF [.int (x3 + (dxV (Int32.toNatClampNeg x5))), .int (x4 + (dyV (Int32.toNatClampNeg x5))), .int (x5 + 2)] 0 lj_c kj_c rfl rfl rfl kB_X11_isBlocked kL_L_170 (fun r h => by rw [ad_0, mem_0]; exact ct_X11_isBlocked l hl hZ hX hO fu (x3 + (dxV (Int32.toNatClampNeg x5))) (x4 + (dyV (Int32.toNatClampNeg x5))) (x5 + 2) m_8 r h) rfl rfl rfl ⟨Nat.le_of_ble_eq_true rfl, Nat.le_of_ble_eq_true rfl⟩ (Nat.le_of_ble_eq_true rfl) ⟨by show _ ≤ 8913; omega, by show _ ≤ 53478; omega⟩ dL_fields_193 196 rfl (fun x_27 m_27 hF => ?_)
                  refine x_letm hF (fun m_28 hF => ?_)
                  refine x_if_eq X hF 201 199 dL_fields_196 (by decide) rfl (fun hF => ?_) (fun hF => ?_)
                  · refine x_iinc X 7 (x5 + 1) [(5, .int (x5 + 1)), (7, .int x_7), (6, .int x_3), (0, .ref (ad 0)), (1, .ref (ad (255 + 0))), (2, .int x2), (3, .int x3), (4, .int x4)] dL_fields_201 rfl rfl (by decide) rfl 204 rfl ?_
                    refine x_goto X 81 dL_fields_204 (by decide) ?_
                    refine x_keep [3, 4, 5, 6, 7, 0] rfl ?_
                    refine x_widen (k := (9 + (5 - (n_2 + 1)) * 1785 + (7 - (n_58 + 1)) * 252 + (7 - (n_69 + 1)) * 36 + (3 - n) * 12)) (k2 := (54 + (5 - (n_2 + 1)) * 10710 + (7 - (n_58 + 1)) * 1512 + (7 - (n_69 + 1)) * 216 + (3 - n) * 72)) (by omega) (by omega) ?_
                    exact ih (by omega) x2 x3 x4 (x5 + 1) m_28 hF
                  · refine x_iconst X 0 dL_fields_199 rfl 200 rfl ?_
                    exact x_iret X hQ (o_inj1 hF) (o_inj2 hF) rfl (by show _ ≤ 8913; omega) (by show _ ≤ 53478; omega) dL_fields_200
              · refine x_iconst X 0 dL_fields_199 rfl 200 rfl ?_
                exact x_iret X hQ (o_inj1 hF) (o_inj2 hF) rfl (by show _ ≤ 8913; omega) (by show _ ≤ 53478; omega) dL_fields_200
        · refine x_goto X 201 dL_fields_99 (by decide) ?_
          refine x_iinc X 5 (x5 + 1) [(5, .int (x5 + 1)), (0, .ref (ad 0)), (1, .ref (ad (255 + 0))), (2, .int x2), (3, .int x3), (4, .int x4)] dL_fields_201 rfl rfl (by decide) rfl 204 rfl ?_
          refine x_goto X 81 dL_fields_204 (by decide) ?_
          refine x_keep [1, 2, 3, 4, 5, 0] rfl ?_
          refine x_widen (k := (9 + (5 - (n_2 + 1)) * 1785 + (7 - (n_58 + 1)) * 252 + (7 - (n_69 + 1)) * 36 + (3 - n) * 12)) (k2 := (54 + (5 - (n_2 + 1)) * 10710 + (7 - (n_58 + 1)) * 1512 + (7 - (n_69 + 1)) * 216 + (3 - n) * 72)) (by omega) (by omega) ?_
          exact ih (by omega) x2 x3 x4 (x5 + 1) m_2 hF
      · refine x_iinc X 4 (x4 + 1) [(4, .int (x4 + 1)), (0, .ref (ad 0)), (1, .ref (ad (255 + 0))), (2, .int x2), (3, .int x3), (5, .int x5)] dL_fields_207 rfl rfl (by decide) rfl 210 rfl ?_
        refine x_goto X 69 dL_fields_210 (by decide) ?_
        refine x_keep [1, 2, 3, 4, 0] rfl ?_
        refine x_widen (k := (9 + (5 - (n_2 + 1)) * 1785 + (7 - (n_58 + 1)) * 252 + (7 - n_69) * 36)) (k2 := (54 + (5 - (n_2 + 1)) * 10710 + (7 - (n_58 + 1)) * 1512 + (7 - n_69) * 216)) (by omega) (by omega) ?_
        exact hk_69 x2 x3 (x4 + 1) mem hF
  have w_69 : ∀ (n_2 : Nat) (hn_2 : n_2 + 1 ≤ 5) (k_2 : Int32 → Mem → Option (Int32 × Mem)) (hk_2 : ∀ (x2 : Int32) (mem : Mem), k_2 x2 mem = some res → XX D (255 + nW np nb) ad (cJ ca ad np nb eD tS sB) p l e rl_fields s m args below meth c 8 (0 + (5 - n_2) * 1785) (0 + (5 - n_2) * 10710) Q mem [] 2 [(0, .ref (ad 0)), (1, .ref (ad (255 + 0))), (2, .int x2)] []) (n_58 : Nat) (hn_58 : n_58 + 1 ≤ 7) (k_58 : Int32 → Int32 → Mem → Option (Int32 × Mem)) (hk_58 : ∀ (x2 : Int32) (x3 : Int32) (mem : Mem), k_58 x2 x3 mem = some res → XX D (255 + nW np nb) ad (cJ ca ad np nb eD tS sB) p l e rl_fields s m args below meth c 8 (9 + (5 - (n_2 + 1)) * 1785 + (7 - n_58) * 252) (54 + (5 - (n_2 + 1)) * 10710 + (7 - n_58) * 1512) Q mem [] 58 [(0, .ref (ad 0)), (1, .ref (ad (255 + 0))), (2, .int x2), (3, .int x3)] []) (n : Nat) (hn : n ≤ 7) (x2 : Int32) (x3 : Int32) (x4 : Int32) (mem : Mem), KL_fields_69 L xs np nb fu k_2 k_58 n x2 x3 x4 mem = some res → XX D (255 + nW np nb) ad (cJ ca ad np nb eD tS sB) p l e rl_fields s m args below meth c 8 (9 + (5 - (n_2 + 1)) * 1785 + (7 - (n_58 + 1)) * 252 + (7 - n) * 36) (54 + (5 - (n_2 + 1)) * 10710 + (7 - (n_58 + 1)) * 1512 + (7 - n) * 216) Q mem [] 69 [(0, .ref (ad 0)), (1, .ref (ad (255 + 0))), (2, .int x2), (3, .int x3), (4, .int x4)] [] := by
    intro n_2 hn_2 k_2 hk_2 n_58 hn_58 k_58 hk_58 n
    induction n with
    | zero => intro hn x2 x3 x4 mem hF; exact no_none (show (none : Option (Int32 × Mem)) = some res from hF)
    | succ n ih =>
      intro hn x2 x3 x4 mem hF
      rw [KL_fields_69] at hF
      refine x_iload X 4 dL_fields_69 rfl 71 rfl ?_
      refine x_aload_n X 1 dL_fields_71 rfl rfl 72 rfl ?_
      refine x_getV (v := .int (rd mem (255 + 0) 1)) X (255 + 0) (lj nw_0) kj_0 (T := TX12) (N := 11) rfl in_X12 1 (by decide) kF_L_80 rfl rfl dL_fields_72 75 rfl ?_
      refine x_icmp_ge X hF 213 78 dL_fields_75 (by decide) rfl (fun hF => ?_) (fun hF => ?_)
      · refine x_iconst X 0 dL_fields_78 rfl 79 rfl ?_
        refine x_istore X [(5, .int 0), (0, .ref (ad 0)), (1, .ref (ad (255 + 0))), (2, .int x2), (3, .int x3), (4, .int x4)] dL_fields_79 (by decide) rfl 81 rfl ?_
        refine x_keep [1, 2, 3, 4, 5, 0] rfl ?_
        refine x_widen (k := (9 + (5 - (n_2 + 1)) * 1785 + (7 - (n_58 + 1)) * 252 + (7 - (n + 1)) * 36 + (3 - 3) * 12)) (k2 := (54 + (5 - (n_2 + 1)) * 10710 + (7 - (n_58 + 1)) * 1512 + (7 - (n + 1)) * 216 + (3 - 3) * 72)) (by omega) (by omega) ?_
        exact w_81 n_2 hn_2 k_2 hk_2 n_58 hn_58 k_58 hk_58 n (by omega) (KL_fields_69 L xs np nb fu k_2 k_58 n) (fun x2 x3 x4 mem => ih (by omega) x2 x3 x4 mem) 3 (by omega) x2 x3 x4 0 mem hF
      · refine x_iinc X 3 (x3 + 1) [(3, .int (x3 + 1)), (0, .ref (ad 0)), (1, .ref (ad (255 + 0))), (2, .int x2), (4, .int x4)] dL_fields_213 rfl rfl (by decide) rfl 216 rfl ?_
        refine x_goto X 58 dL_fields_216 (by decide) ?_
        refine x_keep [1, 2, 3, 0] rfl ?_
        refine x_widen (k := (9 + (5 - (n_2 + 1)) * 1785 + (7 - n_58) * 252)) (k2 := (54 + (5 - (n_2 + 1)) * 10710 + (7 - n_58) * 1512)) (by omega) (by omega) ?_
        exact hk_58 x2 (x3 + 1) mem hF
  have w_58 : ∀ (n_2 : Nat) (hn_2 : n_2 + 1 ≤ 5) (k_2 : Int32 → Mem → Option (Int32 × Mem)) (hk_2 : ∀ (x2 : Int32) (mem : Mem), k_2 x2 mem = some res → XX D (255 + nW np nb) ad (cJ ca ad np nb eD tS sB) p l e rl_fields s m args below meth c 8 (0 + (5 - n_2) * 1785) (0 + (5 - n_2) * 10710) Q mem [] 2 [(0, .ref (ad 0)), (1, .ref (ad (255 + 0))), (2, .int x2)] []) (n : Nat) (hn : n ≤ 7) (x2 : Int32) (x3 : Int32) (mem : Mem), KL_fields_58 L xs np nb fu k_2 n x2 x3 mem = some res → XX D (255 + nW np nb) ad (cJ ca ad np nb eD tS sB) p l e rl_fields s m args below meth c 8 (9 + (5 - (n_2 + 1)) * 1785 + (7 - n) * 252) (54 + (5 - (n_2 + 1)) * 10710 + (7 - n) * 1512) Q mem [] 58 [(0, .ref (ad 0)), (1, .ref (ad (255 + 0))), (2, .int x2), (3, .int x3)] [] := by
    intro n_2 hn_2 k_2 hk_2 n
    induction n with
    | zero => intro hn x2 x3 mem hF; exact no_none (show (none : Option (Int32 × Mem)) = some res from hF)
    | succ n ih =>
      intro hn x2 x3 mem hF
      rw [KL_fields_58] at hF
      refine x_iload_n X 3 dL_fields_58 rfl rfl 59 rfl ?_
      refine x_aload_n X 1 dL_fields_59 rfl rfl 60 rfl ?_
      refine x_getV (v := .int (rd mem (255 + 0) 0)) X (255 + 0) (lj nw_0) kj_0 (T := TX12) (N := 11) rfl in_X12 0 (by decide) kF_L_83 rfl rfl dL_fields_60 63 rfl ?_
      refine x_icmp_ge X hF 219 66 dL_fields_63 (by decide) rfl (fun hF => ?_) (fun hF => ?_)
      · refine x_iconst X 0 dL_fields_66 rfl 67 rfl ?_
        refine x_istore X [(4, .int 0), (0, .ref (ad 0)), (1, .ref (ad (255 + 0))), (2, .int x2), (3, .int x3)] dL_fields_67 (by decide) rfl 69 rfl ?_
        refine x_keep [1, 2, 3, 4, 0] rfl ?_
        refine x_widen (k := (9 + (5 - (n_2 + 1)) * 1785 + (7 - (n + 1)) * 252 + (7 - 7) * 36)) (k2 := (54 + (5 - (n_2 + 1)) * 10710 + (7 - (n + 1)) * 1512 + (7 - 7) * 216)) (by omega) (by omega) ?_
        exact w_69 n_2 hn_2 k_2 hk_2 n (by omega) (KL_fields_58 L xs np nb fu k_2 n) (fun x2 x3 mem => ih (by omega) x2 x3 mem) 7 (by omega) x2 x3 0 mem hF
      · refine x_aload_n X 0 dL_fields_219 rfl rfl 220 rfl ?_
        refine x_iload_n X 2 dL_fields_220 rfl rfl 221 rfl ?_
        refine j_callT (cf1 := cC ca ad) hb_C (fun j f h => cJ_C j f h) X hZ hF [.int x2] 0 lj_c kj_c rfl rfl rfl kB_X11_stepsWithBans kL_L_187 (fun r h => by rw [ad_0, mem_0]; exact ct_X11_stepsWithBans l hl hZ hX hO fu x2 mem r h) rfl rfl rfl ⟨Nat.le_of_ble_eq_true rfl, Nat.le_of_ble_eq_true rfl⟩ (Nat.le_of_ble_eq_true rfl) ⟨by show _ ≤ 8913; omega, by show _ ≤ 53478; omega⟩ dL_fields_221 224 rfl (fun x_29 m_29 hF => ?_)
        refine x_letm hF (fun m_30 hF => ?_)
        refine x_istore_n X [(3, .int x_29), (0, .ref (ad 0)), (1, .ref (ad (255 + 0))), (2, .int x2)] dL_fields_224 rfl (by decide) rfl 225 rfl ?_
        refine x_iload_n X 0 dL_fields_225 rfl rfl 226 rfl ?_
        refine x_if_lt X hF 255 229 dL_fields_226 (by decide) rfl (fun hF => ?_) (fun hF => ?_)
        · refine x_iinc X 3 (x2 + 1) [(2, .int (x2 + 1)), (3, .int x_29), (0, .ref (ad 0)), (1, .ref (ad (255 + 0)))] dL_fields_255 rfl rfl (by decide) rfl 258 rfl ?_
          refine x_goto X 2 dL_fields_258 (by decide) ?_
          refine x_keep [2, 3, 0] rfl ?_
          refine x_widen (k := (0 + (5 - n_2) * 1785)) (k2 := (0 + (5 - n_2) * 10710)) (by omega) (by omega) ?_
          exact hk_2 (x2 + 1) m_30 hF
        · refine x_iload_n X 0 dL_fields_229 rfl rfl 230 rfl ?_
          refine x_aload_n X 1 dL_fields_230 rfl rfl 231 rfl ?_
          refine x_iload_n X 3 dL_fields_231 rfl rfl 232 rfl ?_
          refine j_callT (cf1 := cC ca ad) hb_C (fun j f h => cJ_C j f h) X hZ hF [.int x2] 0 lj_c kj_c rfl rfl rfl kB_X11_distance kL_L_167 (fun r h => by rw [ad_0, mem_0]; exact ct_X11_distance l hl hZ hX hO fu x2 m_30 r h) rfl rfl rfl ⟨Nat.le_of_ble_eq_true rfl, Nat.le_of_ble_eq_true rfl⟩ (Nat.le_of_ble_eq_true rfl) ⟨by show _ ≤ 8913; omega, by show _ ≤ 53478; omega⟩ dL_fields_232 235 rfl (fun x_31 m_31 hF => ?_)
          refine x_letm hF (fun m_32 hF => ?_)
          refine x_icmp_lt X hF 253 238 dL_fields_235 (by decide) rfl (fun hF => ?_) (fun hF => ?_)
          · refine x_iconst X 0 dL_fields_253 rfl 254 rfl ?_
            exact x_iret X hQ (o_inj1 hF) (o_inj2 hF) rfl (by show _ ≤ 8913; omega) (by show _ ≤ 53478; omega) dL_fields_254
          · refine x_aload_n X 1 dL_fields_238 rfl rfl 239 rfl ?_
            refine x_iload_n X 3 dL_fields_239 rfl rfl 240 rfl ?_
            refine j_callT (cf1 := cC ca ad) hb_C (fun j f h => cJ_C j f h) X hZ hF [.int x2] 0 lj_c kj_c rfl rfl rfl kB_X11_detour kL_L_190 (fun r h => by rw [ad_0, mem_0]; exact ct_X11_detour l hl hZ hX hO fu x2 m_32 r h) rfl rfl rfl ⟨Nat.le_of_ble_eq_true rfl, Nat.le_of_ble_eq_true rfl⟩ (Nat.le_of_ble_eq_true rfl) ⟨by show _ ≤ 8913; omega, by show _ ≤ 53478; omega⟩ dL_fields_240 243 rfl (fun x_33 m_33 hF => ?_)
            refine x_letm hF (fun m_34 hF => ?_)
            refine x_iload_n X 0 dL_fields_243 rfl rfl 244 rfl ?_
            refine x_aload_n X 1 dL_fields_244 rfl rfl 245 rfl ?_
            refine x_iload_n X 3 dL_fields_245 rfl rfl 246 rfl ?_
            refine j_callT (cf1 := cC ca ad) hb_C (fun j f h => cJ_C j f h) X hZ hF [.int x2] 0 lj_c kj_c rfl rfl rfl kB_X11_distance kL_L_167 (fun r h => by rw [ad_0, mem_0]; exact ct_X11_distance l hl hZ hX hO fu x2 m_34 r h) rfl rfl rfl ⟨Nat.le_of_ble_eq_true rfl, Nat.le_of_ble_eq_true rfl⟩ (Nat.le_of_ble_eq_true rfl) ⟨by show _ ≤ 8913; omega, by show _ ≤ 53478; omega⟩ dL_fields_246 249 rfl (fun x_35 m_35 hF => ?_)
            refine x_letm hF (fun m_36 hF => ?_)
            refine x_isub X dL_fields_249 250 rfl ?_
            refine x_icmp_eq X hF 255 253 dL_fields_250 (by decide) rfl (fun hF => ?_) (fun hF => ?_)
            · refine x_iinc X 3 (x2 + 1) [(2, .int (x2 + 1)), (3, .int x_29), (0, .ref (ad 0)), (1, .ref (ad (255 + 0)))] dL_fields_255 rfl rfl (by decide) rfl 258 rfl ?_
              refine x_goto X 2 dL_fields_258 (by decide) ?_
              refine x_keep [2, 3, 0] rfl ?_
              refine x_widen (k := (0 + (5 - n_2) * 1785)) (k2 := (0 + (5 - n_2) * 10710)) (by omega) (by omega) ?_
              exact hk_2 (x2 + 1) m_36 hF
            · refine x_iconst X 0 dL_fields_253 rfl 254 rfl ?_
              exact x_iret X hQ (o_inj1 hF) (o_inj2 hF) rfl (by show _ ≤ 8913; omega) (by show _ ≤ 53478; omega) dL_fields_254
  have w_2 : ∀  (n : Nat) (hn : n ≤ 5) (x2 : Int32) (mem : Mem), KL_fields_2 L xs np nb fu  n x2 mem = some res → XX D (255 + nW np nb) ad (cJ ca ad np nb eD tS sB) p l e rl_fields s m args below meth c 8 (0 + (5 - n) * 1785) (0 + (5 - n) * 10710) Q mem [] 2 [(0, .ref (ad 0)), (1, .ref (ad (255 + 0))), (2, .int x2)] [] := by
    intro  n
    induction n with
    | zero => intro hn x2 mem hF; exact no_none (show (none : Option (Int32 × Mem)) = some res from hF)
    | succ n ih =>
      intro hn x2 mem hF
      rw [KL_fields_2] at hF
      refine x_iload_n X 2 dL_fields_2 rfl rfl 3 rfl ?_
      refine x_aload_n X 1 dL_fields_3 rfl rfl 4 rfl ?_
      refine x_getV (v := .ref (ad (255 + 1))) X (255 + 0) (lj nw_0) kj_0 (T := TX12) (N := 11) rfl in_X12 5 (by decide) kF_L_61 rfl rfl dL_fields_4 7 rfl ?_
      refine xj_size X hZ hW kL_L_65 ⟨Nat.le_of_ble_eq_true rfl, Nat.le_of_ble_eq_true rfl⟩ (Nat.le_of_ble_eq_true rfl) ⟨by show _ ≤ 8913; omega, by show _ ≤ 53478; omega⟩ dL_fields_7 12 rfl ?_
      refine x_icmp_ge X hF 261 15 dL_fields_12 (by decide) rfl (fun hF => ?_) (fun hF => ?_)
      · refine x_aload_n X 0 dL_fields_15 rfl rfl 16 rfl ?_
        refine x_iload_n X 2 dL_fields_16 rfl rfl 17 rfl ?_
        refine j_callT (cf1 := cC ca ad) hb_C (fun j f h => cJ_C j f h) X hZ hF [.int x2] 0 lj_c kj_c rfl rfl rfl kB_X11_distance kL_L_167 (fun r h => by rw [ad_0, mem_0]; exact ct_X11_distance l hl hZ hX hO fu x2 mem r h) rfl rfl rfl ⟨Nat.le_of_ble_eq_true rfl, Nat.le_of_ble_eq_true rfl⟩ (Nat.le_of_ble_eq_true rfl) ⟨by show _ ≤ 8913; omega, by show _ ≤ 53478; omega⟩ dL_fields_17 20 rfl (fun x_37 m_37 hF => ?_)
        refine x_letm hF (fun m_38 hF => ?_)
        refine x_if_lt X hF 54 23 dL_fields_20 (by decide) rfl (fun hF => ?_) (fun hF => ?_)
        · refine x_iconst X 0 dL_fields_54 rfl 55 rfl ?_
          exact x_iret X hQ (o_inj1 hF) (o_inj2 hF) rfl (by show _ ≤ 8913; omega) (by show _ ≤ 53478; omega) dL_fields_55
        · refine x_aload_n X 0 dL_fields_23 rfl rfl 24 rfl ?_
          refine x_iload_n X 2 dL_fields_24 rfl rfl 25 rfl ?_
          refine j_callT (cf1 := cC ca ad) hb_C (fun j f h => cJ_C j f h) X hZ hF [.int x2] 0 lj_c kj_c rfl rfl rfl kB_X11_distance kL_L_167 (fun r h => by rw [ad_0, mem_0]; exact ct_X11_distance l hl hZ hX hO fu x2 m_38 r h) rfl rfl rfl ⟨Nat.le_of_ble_eq_true rfl, Nat.le_of_ble_eq_true rfl⟩ (Nat.le_of_ble_eq_true rfl) ⟨by show _ ≤ 8913; omega, by show _ ≤ 53478; omega⟩ dL_fields_25 28 rfl (fun x_39 m_39 hF => ?_)
          refine x_letm hF (fun m_40 hF => ?_)
          refine x_if_ne X hF 35 31 dL_fields_28 (by decide) rfl (fun hF => ?_) (fun hF => ?_)
          · refine x_iconst X 1 dL_fields_31 rfl 32 rfl ?_
            refine x_goto X 36 dL_fields_32 (by decide) ?_
            refine x_aload_n X 0 dL_fields_36 rfl rfl 37 rfl ?_
            refine x_iload_n X 2 dL_fields_37 rfl rfl 38 rfl ?_
            refine x_bipush X 6 dL_fields_38 rfl 40 rfl ?_
            refine j_callT (cf1 := cC ca ad) hb_C (fun j f h => cJ_C j f h) X hZ hF [.int x2, .int 6] 0 lj_c kj_c rfl rfl rfl kB_X11_pawn kL_L_70 (fun r h => by rw [ad_0, mem_0]; exact ct_X11_pawn l hl hZ hX hO fu x2 6 m_40 r h) rfl rfl rfl ⟨Nat.le_of_ble_eq_true rfl, Nat.le_of_ble_eq_true rfl⟩ (Nat.le_of_ble_eq_true rfl) ⟨by show _ ≤ 8913; omega, by show _ ≤ 53478; omega⟩ dL_fields_40 43 rfl (fun x_41 m_41 hF => ?_)
            refine x_letm hF (fun m_42 hF => ?_)
            refine x_if_le X hF 50 46 dL_fields_43 (by decide) rfl (fun hF => ?_) (fun hF => ?_)
            · refine x_iconst X 1 dL_fields_46 rfl 47 rfl ?_
              refine x_goto X 51 dL_fields_47 (by decide) ?_
              refine x_icmp_eq X hF 56 54 dL_fields_51 (by decide) rfl (fun hF => ?_) (fun hF => ?_)
              · refine x_iconst X 0 dL_fields_56 rfl 57 rfl ?_
                refine x_istore_n X [(3, .int 0), (0, .ref (ad 0)), (1, .ref (ad (255 + 0))), (2, .int x2)] dL_fields_57 rfl (by decide) rfl 58 rfl ?_
                refine x_keep [1, 2, 3, 0] rfl ?_
                refine x_widen (k := (9 + (5 - (n + 1)) * 1785 + (7 - 7) * 252)) (k2 := (54 + (5 - (n + 1)) * 10710 + (7 - 7) * 1512)) (by omega) (by omega) ?_
                exact w_58 n (by omega) (KL_fields_2 L xs np nb fu  n) (fun x2 mem => ih (by omega) x2 mem) 7 (by omega) x2 0 m_42 hF
              · refine x_iconst X 0 dL_fields_54 rfl 55 rfl ?_
                exact x_iret X hQ (o_inj1 hF) (o_inj2 hF) rfl (by show _ ≤ 8913; omega) (by show _ ≤ 53478; omega) dL_fields_55
            · refine x_iconst X 0 dL_fields_50 rfl 51 rfl ?_
              refine x_icmp_eq X hF 56 54 dL_fields_51 (by decide) rfl (fun hF => ?_) (fun hF => ?_)
              · refine x_iconst X 0 dL_fields_56 rfl 57 rfl ?_
                refine x_istore_n X [(3, .int 0), (0, .ref (ad 0)), (1, .ref (ad (255 + 0))), (2, .int x2)] dL_fields_57 rfl (by decide) rfl 58 rfl ?_
                refine x_keep [1, 2, 3, 0] rfl ?_
                refine x_widen (k := (9 + (5 - (n + 1)) * 1785 + (7 - 7) * 252)) (k2 := (54 + (5 - (n + 1)) * 10710 + (7 - 7) * 1512)) (by omega) (by omega) ?_
                exact w_58 n (by omega) (KL_fields_2 L xs np nb fu  n) (fun x2 mem => ih (by omega) x2 mem) 7 (by omega) x2 0 m_42 hF
              · refine x_iconst X 0 dL_fields_54 rfl 55 rfl ?_
                exact x_iret X hQ (o_inj1 hF) (o_inj2 hF) rfl (by show _ ≤ 8913; omega) (by show _ ≤ 53478; omega) dL_fields_55
          · refine x_iconst X 0 dL_fields_35 rfl 36 rfl ?_
            refine x_aload_n X 0 dL_fields_36 rfl rfl 37 rfl ?_
            refine x_iload_n X 2 dL_fields_37 rfl rfl 38 rfl ?_
            refine x_bipush X 6 dL_fields_38 rfl 40 rfl ?_
            refine j_callT (cf1 := cC ca ad) hb_C (fun j f h => cJ_C j f h) X hZ hF [.int x2, .int 6] 0 lj_c kj_c rfl rfl rfl kB_X11_pawn kL_L_70 (fun r h => by rw [ad_0, mem_0]; exact ct_X11_pawn l hl hZ hX hO fu x2 6 m_40 r h) rfl rfl rfl ⟨Nat.le_of_ble_eq_true rfl, Nat.le_of_ble_eq_true rfl⟩ (Nat.le_of_ble_eq_true rfl) ⟨by show _ ≤ 8913; omega, by show _ ≤ 53478; omega⟩ dL_fields_40 43 rfl (fun x_43 m_43 hF => ?_)
            refine x_letm hF (fun m_44 hF => ?_)
            refine x_if_le X hF 50 46 dL_fields_43 (by decide) rfl (fun hF => ?_) (fun hF => ?_)
            · refine x_iconst X 1 dL_fields_46 rfl 47 rfl ?_
              refine x_goto X 51 dL_fields_47 (by decide) ?_
              refine x_icmp_eq X hF 56 54 dL_fields_51 (by decide) rfl (fun hF => ?_) (fun hF => ?_)
              · refine x_iconst X 0 dL_fields_56 rfl 57 rfl ?_
                refine x_istore_n X [(3, .int 0), (0, .ref (ad 0)), (1, .ref (ad (255 + 0))), (2, .int x2)] dL_fields_57 rfl (by decide) rfl 58 rfl ?_
                refine x_keep [1, 2, 3, 0] rfl ?_
                refine x_widen (k := (9 + (5 - (n + 1)) * 1785 + (7 - 7) * 252)) (k2 := (54 + (5 - (n + 1)) * 10710 + (7 - 7) * 1512)) (by omega) (by omega) ?_
                exact w_58 n (by omega) (KL_fields_2 L xs np nb fu  n) (fun x2 mem => ih (by omega) x2 mem) 7 (by omega) x2 0 m_44 hF
              · refine x_iconst X 0 dL_fields_54 rfl 55 rfl ?_
                exact x_iret X hQ (o_inj1 hF) (o_inj2 hF) rfl (by show _ ≤ 8913; omega) (by show _ ≤ 53478; omega) dL_fields_55
            · refine x_iconst X 0 dL_fields_50 rfl 51 rfl ?_
              refine x_icmp_eq X hF 56 54 dL_fields_51 (by decide) rfl (fun hF => ?_) (fun hF => ?_)
              · refine x_iconst X 0 dL_fields_56 rfl 57 rfl ?_
                refine x_istore_n X [(3, .int 0), (0, .ref (ad 0)), (1, .ref (ad (255 + 0))), (2, .int x2)] dL_fields_57 rfl (by decide) rfl 58 rfl ?_
                refine x_keep [1, 2, 3, 0] rfl ?_
                refine x_widen (k := (9 + (5 - (n + 1)) * 1785 + (7 - 7) * 252)) (k2 := (54 + (5 - (n + 1)) * 10710 + (7 - 7) * 1512)) (by omega) (by omega) ?_
                exact w_58 n (by omega) (KL_fields_2 L xs np nb fu  n) (fun x2 mem => ih (by omega) x2 mem) 7 (by omega) x2 0 m_44 hF
              · refine x_iconst X 0 dL_fields_54 rfl 55 rfl ?_
                exact x_iret X hQ (o_inj1 hF) (o_inj2 hF) rfl (by show _ ≤ 8913; omega) (by show _ ≤ 53478; omega) dL_fields_55
      · refine x_iconst X 1 dL_fields_261 rfl 262 rfl ?_
        exact x_iret X hQ (o_inj1 hF) (o_inj2 hF) rfl (by show _ ≤ 8913; omega) (by show _ ≤ 53478; omega) dL_fields_262
  intro hF
  refine x_iconst X 0 dL_fields_0 rfl 1 rfl ?_
  refine x_istore_n X [(2, .int 0), (0, .ref (ad 0)), (1, .ref (ad (255 + 0)))] dL_fields_1 rfl (by decide) rfl 2 rfl ?_
  refine x_keep [1, 2, 0] rfl ?_
  refine x_widen (k := (0 + (5 - 5) * 1785)) (k2 := (0 + (5 - 5) * 10710)) (by omega) (by omega) ?_
  exact w_2  5 (by omega) 0 mem hF

def KL_gates_32 (L : Nat) (xs : Nat → Int32) (np nb : Nat) (fu : Nat) (k_2 : Int32 → Mem → Option (Int32 × Mem)) (k_20 : Int32 → Int32 → Int32 → Mem → Option (Int32 × Mem)) : Nat → Int32 → Int32 → Int32 → Int32 → Mem → Option (Int32 × Mem)
  | 0, _, _, _, _, _ => none
  | n + 1, x2, x3, x4, x5, mem => (if x5 < (rd mem (255 + 0) 1) then bdT (K_X11_isGate fu x2 x4 x5 mem) (fun x_1 m_1 => lt_ (mset 0 255 mem m_1) (fun m_2 => (if x_1 = 0 then (KL_gates_32 L xs np nb fu k_2 k_20 n x2 (x3 + 0) x4 (x5 + 1) m_2) else (KL_gates_32 L xs np nb fu k_2 k_20 n x2 (x3 + 1) x4 (x5 + 1) m_2)))) else (k_20 x2 x3 (x4 + 1) mem))
def KL_gates_20 (L : Nat) (xs : Nat → Int32) (np nb : Nat) (fu : Nat) (k_2 : Int32 → Mem → Option (Int32 × Mem)) : Nat → Int32 → Int32 → Int32 → Mem → Option (Int32 × Mem)
  | 0, _, _, _, _ => none
  | n + 1, x2, x3, x4, mem => (if x4 < (rd mem (255 + 0) 0) then (KL_gates_32 L xs np nb fu k_2 (KL_gates_20 L xs np nb fu k_2 n) 7 x2 x3 x4 0 mem) else bdT (K_X11_gates fu x2 mem) (fun x_3 m_3 => lt_ (mset 0 255 mem m_3) (fun m_4 => (if x3 = x_3 then bdT (K_X11_distance fu x2 m_4) (fun x_5 m_5 => lt_ (mset 0 255 m_4 m_5) (fun m_6 => (if x_5 < x3 then some (0, m_6) else bdT (K_X11_onWays fu x2 m_6) (fun x_7 m_7 => lt_ (mset 0 255 m_6 m_7) (fun m_8 => bdT (K_X11_distance fu x2 m_8) (fun x_9 m_9 => lt_ (mset 0 255 m_8 m_9) (fun m_10 => (if x_7 < (x_9 + 1) then some (0, m_10) else bdT (K_X11_onWays fu x2 m_10) (fun x_11 m_11 => lt_ (mset 0 255 m_10 m_11) (fun m_12 => bdT (K_X11_distance fu x2 m_12) (fun x_13 m_13 => lt_ (mset 0 255 m_12 m_13) (fun m_14 => (if x_11 = (x_13 + 1) then bdT (K_X11_ways fu x2 m_14) (fun x_15 m_15 => lt_ (mset 0 255 m_14 m_15) (fun m_16 => (if x_15 = 1 then (if (1 : Int32) = 1 then (k_2 (x2 + 1) m_16) else bdT (K_X11_distance fu x2 m_16) (fun x_17 m_17 => lt_ (mset 0 255 m_16 m_17) (fun m_18 => (if x_17 < 20 then some (0, m_18) else (k_2 (x2 + 1) m_18))))) else (if (1 : Int32) = 0 then (k_2 (x2 + 1) m_16) else bdT (K_X11_distance fu x2 m_16) (fun x_19 m_19 => lt_ (mset 0 255 m_16 m_19) (fun m_20 => (if x_19 < 20 then some (0, m_20) else (k_2 (x2 + 1) m_20)))))))) else bdT (K_X11_ways fu x2 m_14) (fun x_21 m_21 => lt_ (mset 0 255 m_14 m_21) (fun m_22 => (if x_21 = 1 then (if (0 : Int32) = 1 then (k_2 (x2 + 1) m_22) else bdT (K_X11_distance fu x2 m_22) (fun x_23 m_23 => lt_ (mset 0 255 m_22 m_23) (fun m_24 => (if x_23 < 20 then some (0, m_24) else (k_2 (x2 + 1) m_24))))) else (if (0 : Int32) = 0 then (k_2 (x2 + 1) m_22) else bdT (K_X11_distance fu x2 m_22) (fun x_25 m_25 => lt_ (mset 0 255 m_22 m_25) (fun m_26 => (if x_25 < 20 then some (0, m_26) else (k_2 (x2 + 1) m_26))))))))))))))))))))) else some (0, m_4)))))
def KL_gates_2 (L : Nat) (xs : Nat → Int32) (np nb : Nat) (fu : Nat)  : Nat → Int32 → Mem → Option (Int32 × Mem)
  | 0, _, _ => none
  | n + 1, x2, mem => (if x2 < (Int32.ofNat np) then (KL_gates_20 L xs np nb fu (KL_gates_2 L xs np nb fu  n) 7 x2 0 0 mem) else some (1, mem))
def KL_gates (L : Nat) (xs : Nat → Int32) (np nb : Nat) (fu : Nat)  (mem : Mem) : Option (Int32 × Mem) := (KL_gates_2 L xs np nb fu  5 0 mem)
def rl_gates : Room := { frames := 8, cells := 834, slots := 5004, locals := 127 }
theorem rlc_gates : rl_gates.cells = 834 ∧ rl_gates.slots = 5004 := ⟨rfl, rfl⟩
set_option maxHeartbeats 4000000 in
set_option maxRecDepth 100000 in
theorem cl_gates (l : Launch) (hl : l.stackTraces = false) {D : va_G} {ca ad : Nat → Nat} {np nb eD tS sB : Nat} {Z : (Nat → Prop) → State → Heap → Prop} (hZ : ZOK Z) (hX : ZX Z) {tO : Nat} {sK sV : Nat → Nat} (hO : ZO Z tO sK sV) {tA tU L : Nat} {xs : Nat → Int32} (hW : ZWO Z tA tU sB L xs) (hg : np ≤ 4 ∧ nb ≤ 4 ∧ (np = 0 → nb = 0)) (fu : Nat)  (mem : Mem) (res : (Int32 × Mem)) (hF : KL_gates L xs np nb fu  mem = some res) : CJ l D (tyL ca) (255 + nW np nb) ad (cJ ca ad np nb eD tS sB) Z yL_gates cL_gates 6 .boolean rl_gates [.ref (ad 0), .ref (ad (255 + 0))] mem res.1 res.2 := by
  refine xstart_i (own := RL) rfl (by decide) (Nat.le_of_ble_eq_true rfl) ?_
  intro p e s m args below meth c Q hQ X
  rw [KL_gates] at hF
  revert hF
  have w_32 : ∀ (n_2 : Nat) (hn_2 : n_2 + 1 ≤ 5) (k_2 : Int32 → Mem → Option (Int32 × Mem)) (hk_2 : ∀ (x2 : Int32) (mem : Mem), k_2 x2 mem = some res → XX D (255 + nW np nb) ad (cJ ca ad np nb eD tS sB) p l e rl_gates s m args below meth c 6 (0 + (5 - n_2) * 171) (0 + (5 - n_2) * 1026) Q mem [] 2 [(0, .ref (ad 0)), (1, .ref (ad (255 + 0))), (2, .int x2)] []) (n_20 : Nat) (hn_20 : n_20 + 1 ≤ 7) (k_20 : Int32 → Int32 → Int32 → Mem → Option (Int32 × Mem)) (hk_20 : ∀ (x2 : Int32) (x3 : Int32) (x4 : Int32) (mem : Mem), k_20 x2 x3 x4 mem = some res → XX D (255 + nW np nb) ad (cJ ca ad np nb eD tS sB) p l e rl_gates s m args below meth c 6 (0 + (5 - (n_2 + 1)) * 171 + (7 - n_20) * 21) (0 + (5 - (n_2 + 1)) * 1026 + (7 - n_20) * 126) Q mem [] 20 [(0, .ref (ad 0)), (1, .ref (ad (255 + 0))), (2, .int x2), (3, .int x3), (4, .int x4)] []) (n : Nat) (hn : n ≤ 7) (x2 : Int32) (x3 : Int32) (x4 : Int32) (x5 : Int32) (mem : Mem), KL_gates_32 L xs np nb fu k_2 k_20 n x2 x3 x4 x5 mem = some res → XX D (255 + nW np nb) ad (cJ ca ad np nb eD tS sB) p l e rl_gates s m args below meth c 6 (0 + (5 - (n_2 + 1)) * 171 + (7 - (n_20 + 1)) * 21 + (7 - n) * 3) (0 + (5 - (n_2 + 1)) * 1026 + (7 - (n_20 + 1)) * 126 + (7 - n) * 18) Q mem [] 32 [(0, .ref (ad 0)), (1, .ref (ad (255 + 0))), (2, .int x2), (3, .int x3), (4, .int x4), (5, .int x5)] [] := by
    intro n_2 hn_2 k_2 hk_2 n_20 hn_20 k_20 hk_20 n
    induction n with
    | zero => intro hn x2 x3 x4 x5 mem hF; exact no_none (show (none : Option (Int32 × Mem)) = some res from hF)
    | succ n ih =>
      intro hn x2 x3 x4 x5 mem hF
      rw [KL_gates_32] at hF
      refine x_iload X 5 dL_gates_32 rfl 34 rfl ?_
      refine x_aload_n X 1 dL_gates_34 rfl rfl 35 rfl ?_
      refine x_getV (v := .int (rd mem (255 + 0) 1)) X (255 + 0) (lj nw_0) kj_0 (T := TX12) (N := 11) rfl in_X12 1 (by decide) kF_L_80 rfl rfl dL_gates_35 38 rfl ?_
      refine x_icmp_ge X hF 67 41 dL_gates_38 (by decide) rfl (fun hF => ?_) (fun hF => ?_)
      · refine x_iload_n X 3 dL_gates_41 rfl rfl 42 rfl ?_
        refine x_aload_n X 0 dL_gates_42 rfl rfl 43 rfl ?_
        refine x_iload_n X 2 dL_gates_43 rfl rfl 44 rfl ?_
        refine x_iload X 4 dL_gates_44 rfl 46 rfl ?_
        refine x_iload X 5 dL_gates_46 rfl 48 rfl ?_
        refine j_callT (cf1 := cC ca ad) hb_C (fun j f h => cJ_C j f h) X hZ hF [.int x2, .int x4, .int x5] 0 lj_c kj_c rfl rfl rfl kB_X11_isGate kL_L_193 (fun r h => by rw [ad_0, mem_0]; exact ct_X11_isGate l hl hZ hX hO fu x2 x4 x5 mem r h) rfl rfl rfl ⟨Nat.le_of_ble_eq_true rfl, Nat.le_of_ble_eq_true rfl⟩ (Nat.le_of_ble_eq_true rfl) ⟨by show _ ≤ 834; omega, by show _ ≤ 5004; omega⟩ dL_gates_48 51 rfl (fun x_1 m_1 hF => ?_)
        refine x_letm hF (fun m_2 hF => ?_)
        refine x_if_eq X hF 58 54 dL_gates_51 (by decide) rfl (fun hF => ?_) (fun hF => ?_)
        · refine x_iconst X 0 dL_gates_58 rfl 59 rfl ?_
          refine x_iadd X dL_gates_59 60 rfl ?_
          refine x_istore_n X [(3, .int (x3 + 0)), (0, .ref (ad 0)), (1, .ref (ad (255 + 0))), (2, .int x2), (4, .int x4), (5, .int x5)] dL_gates_60 rfl (by decide) rfl 61 rfl ?_
          refine x_iinc X 5 (x5 + 1) [(5, .int (x5 + 1)), (3, .int (x3 + 0)), (0, .ref (ad 0)), (1, .ref (ad (255 + 0))), (2, .int x2), (4, .int x4)] dL_gates_61 rfl rfl (by decide) rfl 64 rfl ?_
          refine x_goto X 32 dL_gates_64 (by decide) ?_
          refine x_keep [2, 3, 4, 1, 5, 0] rfl ?_
          refine x_widen (k := (0 + (5 - (n_2 + 1)) * 171 + (7 - (n_20 + 1)) * 21 + (7 - n) * 3)) (k2 := (0 + (5 - (n_2 + 1)) * 1026 + (7 - (n_20 + 1)) * 126 + (7 - n) * 18)) (by omega) (by omega) ?_
          exact ih (by omega) x2 (x3 + 0) x4 (x5 + 1) m_2 hF
        · refine x_iconst X 1 dL_gates_54 rfl 55 rfl ?_
          refine x_goto X 59 dL_gates_55 (by decide) ?_
          refine x_iadd X dL_gates_59 60 rfl ?_
          refine x_istore_n X [(3, .int (x3 + 1)), (0, .ref (ad 0)), (1, .ref (ad (255 + 0))), (2, .int x2), (4, .int x4), (5, .int x5)] dL_gates_60 rfl (by decide) rfl 61 rfl ?_
          refine x_iinc X 5 (x5 + 1) [(5, .int (x5 + 1)), (3, .int (x3 + 1)), (0, .ref (ad 0)), (1, .ref (ad (255 + 0))), (2, .int x2), (4, .int x4)] dL_gates_61 rfl rfl (by decide) rfl 64 rfl ?_
          refine x_goto X 32 dL_gates_64 (by decide) ?_
          refine x_keep [2, 3, 4, 1, 5, 0] rfl ?_
          refine x_widen (k := (0 + (5 - (n_2 + 1)) * 171 + (7 - (n_20 + 1)) * 21 + (7 - n) * 3)) (k2 := (0 + (5 - (n_2 + 1)) * 1026 + (7 - (n_20 + 1)) * 126 + (7 - n) * 18)) (by omega) (by omega) ?_
          exact ih (by omega) x2 (x3 + 1) x4 (x5 + 1) m_2 hF
      · refine x_iinc X 4 (x4 + 1) [(4, .int (x4 + 1)), (0, .ref (ad 0)), (1, .ref (ad (255 + 0))), (2, .int x2), (3, .int x3), (5, .int x5)] dL_gates_67 rfl rfl (by decide) rfl 70 rfl ?_
        refine x_goto X 20 dL_gates_70 (by decide) ?_
        refine x_keep [1, 2, 3, 4, 0] rfl ?_
        refine x_widen (k := (0 + (5 - (n_2 + 1)) * 171 + (7 - n_20) * 21)) (k2 := (0 + (5 - (n_2 + 1)) * 1026 + (7 - n_20) * 126)) (by omega) (by omega) ?_
        exact hk_20 x2 x3 (x4 + 1) mem hF
  have w_20 : ∀ (n_2 : Nat) (hn_2 : n_2 + 1 ≤ 5) (k_2 : Int32 → Mem → Option (Int32 × Mem)) (hk_2 : ∀ (x2 : Int32) (mem : Mem), k_2 x2 mem = some res → XX D (255 + nW np nb) ad (cJ ca ad np nb eD tS sB) p l e rl_gates s m args below meth c 6 (0 + (5 - n_2) * 171) (0 + (5 - n_2) * 1026) Q mem [] 2 [(0, .ref (ad 0)), (1, .ref (ad (255 + 0))), (2, .int x2)] []) (n : Nat) (hn : n ≤ 7) (x2 : Int32) (x3 : Int32) (x4 : Int32) (mem : Mem), KL_gates_20 L xs np nb fu k_2 n x2 x3 x4 mem = some res → XX D (255 + nW np nb) ad (cJ ca ad np nb eD tS sB) p l e rl_gates s m args below meth c 6 (0 + (5 - (n_2 + 1)) * 171 + (7 - n) * 21) (0 + (5 - (n_2 + 1)) * 1026 + (7 - n) * 126) Q mem [] 20 [(0, .ref (ad 0)), (1, .ref (ad (255 + 0))), (2, .int x2), (3, .int x3), (4, .int x4)] [] := by
    intro n_2 hn_2 k_2 hk_2 n
    induction n with
    | zero => intro hn x2 x3 x4 mem hF; exact no_none (show (none : Option (Int32 × Mem)) = some res from hF)
    | succ n ih =>
      intro hn x2 x3 x4 mem hF
      rw [KL_gates_20] at hF
      refine x_iload X 4 dL_gates_20 rfl 22 rfl ?_
      refine x_aload_n X 1 dL_gates_22 rfl rfl 23 rfl ?_
      refine x_getV (v := .int (rd mem (255 + 0) 0)) X (255 + 0) (lj nw_0) kj_0 (T := TX12) (N := 11) rfl in_X12 0 (by decide) kF_L_83 rfl rfl dL_gates_23 26 rfl ?_
      refine x_icmp_ge X hF 73 29 dL_gates_26 (by decide) rfl (fun hF => ?_) (fun hF => ?_)
      · refine x_iconst X 0 dL_gates_29 rfl 30 rfl ?_
        refine x_istore X [(5, .int 0), (0, .ref (ad 0)), (1, .ref (ad (255 + 0))), (2, .int x2), (3, .int x3), (4, .int x4)] dL_gates_30 (by decide) rfl 32 rfl ?_
        refine x_keep [1, 2, 3, 4, 5, 0] rfl ?_
        refine x_widen (k := (0 + (5 - (n_2 + 1)) * 171 + (7 - (n + 1)) * 21 + (7 - 7) * 3)) (k2 := (0 + (5 - (n_2 + 1)) * 1026 + (7 - (n + 1)) * 126 + (7 - 7) * 18)) (by omega) (by omega) ?_
        exact w_32 n_2 hn_2 k_2 hk_2 n (by omega) (KL_gates_20 L xs np nb fu k_2 n) (fun x2 x3 x4 mem => ih (by omega) x2 x3 x4 mem) 7 (by omega) x2 x3 x4 0 mem hF
      · refine x_iload_n X 3 dL_gates_73 rfl rfl 74 rfl ?_
        refine x_aload_n X 0 dL_gates_74 rfl rfl 75 rfl ?_
        refine x_iload_n X 2 dL_gates_75 rfl rfl 76 rfl ?_
        refine j_callT (cf1 := cC ca ad) hb_C (fun j f h => cJ_C j f h) X hZ hF [.int x2] 0 lj_c kj_c rfl rfl rfl kB_X11_gates kL_L_196 (fun r h => by rw [ad_0, mem_0]; exact ct_X11_gates l hl hZ hX hO fu x2 mem r h) rfl rfl rfl ⟨Nat.le_of_ble_eq_true rfl, Nat.le_of_ble_eq_true rfl⟩ (Nat.le_of_ble_eq_true rfl) ⟨by show _ ≤ 834; omega, by show _ ≤ 5004; omega⟩ dL_gates_76 79 rfl (fun x_3 m_3 hF => ?_)
        refine x_letm hF (fun m_4 hF => ?_)
        refine x_icmp_ne X hF 106 82 dL_gates_79 (by decide) rfl (fun hF => ?_) (fun hF => ?_)
        · refine x_iload_n X 3 dL_gates_82 rfl rfl 83 rfl ?_
          refine x_aload_n X 0 dL_gates_83 rfl rfl 84 rfl ?_
          refine x_iload_n X 2 dL_gates_84 rfl rfl 85 rfl ?_
          refine j_callT (cf1 := cC ca ad) hb_C (fun j f h => cJ_C j f h) X hZ hF [.int x2] 0 lj_c kj_c rfl rfl rfl kB_X11_distance kL_L_167 (fun r h => by rw [ad_0, mem_0]; exact ct_X11_distance l hl hZ hX hO fu x2 m_4 r h) rfl rfl rfl ⟨Nat.le_of_ble_eq_true rfl, Nat.le_of_ble_eq_true rfl⟩ (Nat.le_of_ble_eq_true rfl) ⟨by show _ ≤ 834; omega, by show _ ≤ 5004; omega⟩ dL_gates_85 88 rfl (fun x_5 m_5 hF => ?_)
          refine x_letm hF (fun m_6 hF => ?_)
          refine x_icmp_gt X hF 106 91 dL_gates_88 (by decide) rfl (fun hF => ?_) (fun hF => ?_)
          · refine x_iconst X 0 dL_gates_106 rfl 107 rfl ?_
            exact x_iret X hQ (o_inj1 hF) (o_inj2 hF) rfl (by show _ ≤ 834; omega) (by show _ ≤ 5004; omega) dL_gates_107
          · refine x_aload_n X 0 dL_gates_91 rfl rfl 92 rfl ?_
            refine x_iload_n X 2 dL_gates_92 rfl rfl 93 rfl ?_
            refine j_callT (cf1 := cC ca ad) hb_C (fun j f h => cJ_C j f h) X hZ hF [.int x2] 0 lj_c kj_c rfl rfl rfl kB_X11_onWays kL_L_198 (fun r h => by rw [ad_0, mem_0]; exact ct_X11_onWays l hl hZ hX hO fu x2 m_6 r h) rfl rfl rfl ⟨Nat.le_of_ble_eq_true rfl, Nat.le_of_ble_eq_true rfl⟩ (Nat.le_of_ble_eq_true rfl) ⟨by show _ ≤ 834; omega, by show _ ≤ 5004; omega⟩ dL_gates_93 96 rfl (fun x_7 m_7 hF => ?_)
            refine x_letm hF (fun m_8 hF => ?_)
            refine x_aload_n X 0 dL_gates_96 rfl rfl 97 rfl ?_
            refine x_iload_n X 2 dL_gates_97 rfl rfl 98 rfl ?_
            refine j_callT (cf1 := cC ca ad) hb_C (fun j f h => cJ_C j f h) X hZ hF [.int x2] 0 lj_c kj_c rfl rfl rfl kB_X11_distance kL_L_167 (fun r h => by rw [ad_0, mem_0]; exact ct_X11_distance l hl hZ hX hO fu x2 m_8 r h) rfl rfl rfl ⟨Nat.le_of_ble_eq_true rfl, Nat.le_of_ble_eq_true rfl⟩ (Nat.le_of_ble_eq_true rfl) ⟨by show _ ≤ 834; omega, by show _ ≤ 5004; omega⟩ dL_gates_98 101 rfl (fun x_9 m_9 hF => ?_)
            refine x_letm hF (fun m_10 hF => ?_)
            refine x_iconst X 1 dL_gates_101 rfl 102 rfl ?_
            refine x_iadd X dL_gates_102 103 rfl ?_
            refine x_icmp_ge X hF 108 106 dL_gates_103 (by decide) rfl (fun hF => ?_) (fun hF => ?_)
            · refine x_iconst X 0 dL_gates_106 rfl 107 rfl ?_
              exact x_iret X hQ (o_inj1 hF) (o_inj2 hF) rfl (by show _ ≤ 834; omega) (by show _ ≤ 5004; omega) dL_gates_107
            · refine x_aload_n X 0 dL_gates_108 rfl rfl 109 rfl ?_
              refine x_iload_n X 2 dL_gates_109 rfl rfl 110 rfl ?_
              refine j_callT (cf1 := cC ca ad) hb_C (fun j f h => cJ_C j f h) X hZ hF [.int x2] 0 lj_c kj_c rfl rfl rfl kB_X11_onWays kL_L_198 (fun r h => by rw [ad_0, mem_0]; exact ct_X11_onWays l hl hZ hX hO fu x2 m_10 r h) rfl rfl rfl ⟨Nat.le_of_ble_eq_true rfl, Nat.le_of_ble_eq_true rfl⟩ (Nat.le_of_ble_eq_true rfl) ⟨by show _ ≤ 834; omega, by show _ ≤ 5004; omega⟩ dL_gates_110 113 rfl (fun x_11 m_11 hF => ?_)
              refine x_letm hF (fun m_12 hF => ?_)
              refine x_aload_n X 0 dL_gates_113 rfl rfl 114 rfl ?_
              refine x_iload_n X 2 dL_gates_114 rfl rfl 115 rfl ?_
              refine j_callT (cf1 := cC ca ad) hb_C (fun j f h => cJ_C j f h) X hZ hF [.int x2] 0 lj_c kj_c rfl rfl rfl kB_X11_distance kL_L_167 (fun r h => by rw [ad_0, mem_0]; exact ct_X11_distance l hl hZ hX hO fu x2 m_12 r h) rfl rfl rfl ⟨Nat.le_of_ble_eq_true rfl, Nat.le_of_ble_eq_true rfl⟩ (Nat.le_of_ble_eq_true rfl) ⟨by show _ ≤ 834; omega, by show _ ≤ 5004; omega⟩ dL_gates_115 118 rfl (fun x_13 m_13 hF => ?_)
              refine x_letm hF (fun m_14 hF => ?_)
              refine x_iconst X 1 dL_gates_118 rfl 119 rfl ?_
              refine x_iadd X dL_gates_119 120 rfl ?_
              refine x_icmp_ne X hF 127 123 dL_gates_120 (by decide) rfl (fun hF => ?_) (fun hF => ?_)
              · refine x_iconst X 1 dL_gates_123 rfl 124 rfl ?_
                refine x_goto X 128 dL_gates_124 (by decide) ?_
                refine x_aload_n X 0 dL_gates_128 rfl rfl 129 rfl ?_
                refine x_iload_n X 2 dL_gates_129 rfl rfl 130 rfl ?_
                refine j_callT (cf1 := cC ca ad) hb_C (fun j f h => cJ_C j f h) X hZ hF [.int x2] 0 lj_c kj_c rfl rfl rfl kB_X11_ways kL_L_201 (fun r h => by rw [ad_0, mem_0]; exact ct_X11_ways l hl hZ hX hO fu x2 m_14 r h) rfl rfl rfl ⟨Nat.le_of_ble_eq_true rfl, Nat.le_of_ble_eq_true rfl⟩ (Nat.le_of_ble_eq_true rfl) ⟨by show _ ≤ 834; omega, by show _ ≤ 5004; omega⟩ dL_gates_130 133 rfl (fun x_15 m_15 hF => ?_)
                refine x_letm hF (fun m_16 hF => ?_)
                refine x_iconst X 1 dL_gates_133 rfl 134 rfl ?_
                refine x_icmp_ne X hF 141 137 dL_gates_134 (by decide) rfl (fun hF => ?_) (fun hF => ?_)
                · refine x_iconst X 1 dL_gates_137 rfl 138 rfl ?_
                  refine x_goto X 142 dL_gates_138 (by decide) ?_
                  refine x_icmp_eq X hF 157 145 dL_gates_142 (by decide) rfl (fun hF => ?_) (fun hF => ?_)
                  · refine x_iinc X 2 (x2 + 1) [(2, .int (x2 + 1)), (0, .ref (ad 0)), (1, .ref (ad (255 + 0))), (3, .int x3), (4, .int x4)] dL_gates_157 rfl rfl (by decide) rfl 160 rfl ?_
                    refine x_goto X 2 dL_gates_160 (by decide) ?_
                    refine x_keep [1, 2, 0] rfl ?_
                    refine x_widen (k := (0 + (5 - n_2) * 171)) (k2 := (0 + (5 - n_2) * 1026)) (by omega) (by omega) ?_
                    exact hk_2 (x2 + 1) m_16 hF
                  · refine x_aload_n X 0 dL_gates_145 rfl rfl 146 rfl ?_
                    refine x_iload_n X 2 dL_gates_146 rfl rfl 147 rfl ?_
                    refine j_callT (cf1 := cC ca ad) hb_C (fun j f h => cJ_C j f h) X hZ hF [.int x2] 0 lj_c kj_c rfl rfl rfl kB_X11_distance kL_L_167 (fun r h => by rw [ad_0, mem_0]; exact ct_X11_distance l hl hZ hX hO fu x2 m_16 r h) rfl rfl rfl ⟨Nat.le_of_ble_eq_true rfl, Nat.le_of_ble_eq_true rfl⟩ (Nat.le_of_ble_eq_true rfl) ⟨by show _ ≤ 834; omega, by show _ ≤ 5004; omega⟩ dL_gates_147 150 rfl (fun x_17 m_17 hF => ?_)
                    refine x_letm hF (fun m_18 hF => ?_)
                    refine x_bipush X 20 dL_gates_150 rfl 152 rfl ?_
                    refine x_icmp_ge X hF 157 155 dL_gates_152 (by decide) rfl (fun hF => ?_) (fun hF => ?_)
                    · refine x_iconst X 0 dL_gates_155 rfl 156 rfl ?_
                      exact x_iret X hQ (o_inj1 hF) (o_inj2 hF) rfl (by show _ ≤ 834; omega) (by show _ ≤ 5004; omega) dL_gates_156
                    · refine x_iinc X 2 (x2 + 1) [(2, .int (x2 + 1)), (0, .ref (ad 0)), (1, .ref (ad (255 + 0))), (3, .int x3), (4, .int x4)] dL_gates_157 rfl rfl (by decide) rfl 160 rfl ?_
                      refine x_goto X 2 dL_gates_160 (by decide) ?_
                      refine x_keep [1, 2, 0] rfl ?_
                      refine x_widen (k := (0 + (5 - n_2) * 171)) (k2 := (0 + (5 - n_2) * 1026)) (by omega) (by omega) ?_
                      exact hk_2 (x2 + 1) m_18 hF
                · refine x_iconst X 0 dL_gates_141 rfl 142 rfl ?_
                  refine x_icmp_eq X hF 157 145 dL_gates_142 (by decide) rfl (fun hF => ?_) (fun hF => ?_)
                  · refine x_iinc X 2 (x2 + 1) [(2, .int (x2 + 1)), (0, .ref (ad 0)), (1, .ref (ad (255 + 0))), (3, .int x3), (4, .int x4)] dL_gates_157 rfl rfl (by decide) rfl 160 rfl ?_
                    refine x_goto X 2 dL_gates_160 (by decide) ?_
                    refine x_keep [1, 2, 0] rfl ?_
                    refine x_widen (k := (0 + (5 - n_2) * 171)) (k2 := (0 + (5 - n_2) * 1026)) (by omega) (by omega) ?_
                    exact hk_2 (x2 + 1) m_16 hF
                  · refine x_aload_n X 0 dL_gates_145 rfl rfl 146 rfl ?_
                    refine x_iload_n X 2 dL_gates_146 rfl rfl 147 rfl ?_
                    refine j_callT (cf1 := cC ca ad) hb_C (fun j f h => cJ_C j f h) X hZ hF [.int x2] 0 lj_c kj_c rfl rfl rfl kB_X11_distance kL_L_167 (fun r h => by rw [ad_0, mem_0]; exact ct_X11_distance l hl hZ hX hO fu x2 m_16 r h) rfl rfl rfl ⟨Nat.le_of_ble_eq_true rfl, Nat.le_of_ble_eq_true rfl⟩ (Nat.le_of_ble_eq_true rfl) ⟨by show _ ≤ 834; omega, by show _ ≤ 5004; omega⟩ dL_gates_147 150 rfl (fun x_19 m_19 hF => ?_)
                    refine x_letm hF (fun m_20 hF => ?_)
                    refine x_bipush X 20 dL_gates_150 rfl 152 rfl ?_
                    refine x_icmp_ge X hF 157 155 dL_gates_152 (by decide) rfl (fun hF => ?_) (fun hF => ?_)
                    · refine x_iconst X 0 dL_gates_155 rfl 156 rfl ?_
                      exact x_iret X hQ (o_inj1 hF) (o_inj2 hF) rfl (by show _ ≤ 834; omega) (by show _ ≤ 5004; omega) dL_gates_156
                    · refine x_iinc X 2 (x2 + 1) [(2, .int (x2 + 1)), (0, .ref (ad 0)), (1, .ref (ad (255 + 0))), (3, .int x3), (4, .int x4)] dL_gates_157 rfl rfl (by decide) rfl 160 rfl ?_
                      refine x_goto X 2 dL_gates_160 (by decide) ?_
                      refine x_keep [1, 2, 0] rfl ?_
                      refine x_widen (k := (0 + (5 - n_2) * 171)) (k2 := (0 + (5 - n_2) * 1026)) (by omega) (by omega) ?_
                      exact hk_2 (x2 + 1) m_20 hF
              · refine x_iconst X 0 dL_gates_127 rfl 128 rfl ?_
                refine x_aload_n X 0 dL_gates_128 rfl rfl 129 rfl ?_
                refine x_iload_n X 2 dL_gates_129 rfl rfl 130 rfl ?_
                refine j_callT (cf1 := cC ca ad) hb_C (fun j f h => cJ_C j f h) X hZ hF [.int x2] 0 lj_c kj_c rfl rfl rfl kB_X11_ways kL_L_201 (fun r h => by rw [ad_0, mem_0]; exact ct_X11_ways l hl hZ hX hO fu x2 m_14 r h) rfl rfl rfl ⟨Nat.le_of_ble_eq_true rfl, Nat.le_of_ble_eq_true rfl⟩ (Nat.le_of_ble_eq_true rfl) ⟨by show _ ≤ 834; omega, by show _ ≤ 5004; omega⟩ dL_gates_130 133 rfl (fun x_21 m_21 hF => ?_)
                refine x_letm hF (fun m_22 hF => ?_)
                refine x_iconst X 1 dL_gates_133 rfl 134 rfl ?_
                refine x_icmp_ne X hF 141 137 dL_gates_134 (by decide) rfl (fun hF => ?_) (fun hF => ?_)
                · refine x_iconst X 1 dL_gates_137 rfl 138 rfl ?_
                  refine x_goto X 142 dL_gates_138 (by decide) ?_
                  refine x_icmp_eq X hF 157 145 dL_gates_142 (by decide) rfl (fun hF => ?_) (fun hF => ?_)
                  · refine x_iinc X 2 (x2 + 1) [(2, .int (x2 + 1)), (0, .ref (ad 0)), (1, .ref (ad (255 + 0))), (3, .int x3), (4, .int x4)] dL_gates_157 rfl rfl (by decide) rfl 160 rfl ?_
                    refine x_goto X 2 dL_gates_160 (by decide) ?_
                    refine x_keep [1, 2, 0] rfl ?_
                    refine x_widen (k := (0 + (5 - n_2) * 171)) (k2 := (0 + (5 - n_2) * 1026)) (by omega) (by omega) ?_
                    exact hk_2 (x2 + 1) m_22 hF
                  · refine x_aload_n X 0 dL_gates_145 rfl rfl 146 rfl ?_
                    refine x_iload_n X 2 dL_gates_146 rfl rfl 147 rfl ?_
                    refine j_callT (cf1 := cC ca ad) hb_C (fun j f h => cJ_C j f h) X hZ hF [.int x2] 0 lj_c kj_c rfl rfl rfl kB_X11_distance kL_L_167 (fun r h => by rw [ad_0, mem_0]; exact ct_X11_distance l hl hZ hX hO fu x2 m_22 r h) rfl rfl rfl ⟨Nat.le_of_ble_eq_true rfl, Nat.le_of_ble_eq_true rfl⟩ (Nat.le_of_ble_eq_true rfl) ⟨by show _ ≤ 834; omega, by show _ ≤ 5004; omega⟩ dL_gates_147 150 rfl (fun x_23 m_23 hF => ?_)
                    refine x_letm hF (fun m_24 hF => ?_)
                    refine x_bipush X 20 dL_gates_150 rfl 152 rfl ?_
                    refine x_icmp_ge X hF 157 155 dL_gates_152 (by decide) rfl (fun hF => ?_) (fun hF => ?_)
                    · refine x_iconst X 0 dL_gates_155 rfl 156 rfl ?_
                      exact x_iret X hQ (o_inj1 hF) (o_inj2 hF) rfl (by show _ ≤ 834; omega) (by show _ ≤ 5004; omega) dL_gates_156
                    · refine x_iinc X 2 (x2 + 1) [(2, .int (x2 + 1)), (0, .ref (ad 0)), (1, .ref (ad (255 + 0))), (3, .int x3), (4, .int x4)] dL_gates_157 rfl rfl (by decide) rfl 160 rfl ?_
                      refine x_goto X 2 dL_gates_160 (by decide) ?_
                      refine x_keep [1, 2, 0] rfl ?_
                      refine x_widen (k := (0 + (5 - n_2) * 171)) (k2 := (0 + (5 - n_2) * 1026)) (by omega) (by omega) ?_
                      exact hk_2 (x2 + 1) m_24 hF
                · refine x_iconst X 0 dL_gates_141 rfl 142 rfl ?_
                  refine x_icmp_eq X hF 157 145 dL_gates_142 (by decide) rfl (fun hF => ?_) (fun hF => ?_)
                  · refine x_iinc X 2 (x2 + 1) [(2, .int (x2 + 1)), (0, .ref (ad 0)), (1, .ref (ad (255 + 0))), (3, .int x3), (4, .int x4)] dL_gates_157 rfl rfl (by decide) rfl 160 rfl ?_
                    refine x_goto X 2 dL_gates_160 (by decide) ?_
                    refine x_keep [1, 2, 0] rfl ?_
                    refine x_widen (k := (0 + (5 - n_2) * 171)) (k2 := (0 + (5 - n_2) * 1026)) (by omega) (by omega) ?_
                    exact hk_2 (x2 + 1) m_22 hF
                  · refine x_aload_n X 0 dL_gates_145 rfl rfl 146 rfl ?_
                    refine x_iload_n X 2 dL_gates_146 rfl rfl 147 rfl ?_
                    refine j_callT (cf1 := cC ca ad) hb_C (fun j f h => cJ_C j f h) X hZ hF [.int x2] 0 lj_c kj_c rfl rfl rfl kB_X11_distance kL_L_167 (fun r h => by rw [ad_0, mem_0]; exact ct_X11_distance l hl hZ hX hO fu x2 m_22 r h) rfl rfl rfl ⟨Nat.le_of_ble_eq_true rfl, Nat.le_of_ble_eq_true rfl⟩ (Nat.le_of_ble_eq_true rfl) ⟨by show _ ≤ 834; omega, by show _ ≤ 5004; omega⟩ dL_gates_147 150 rfl (fun x_25 m_25 hF => ?_)
                    refine x_letm hF (fun m_26 hF => ?_)
                    refine x_bipush X 20 dL_gates_150 rfl 152 rfl ?_
                    refine x_icmp_ge X hF 157 155 dL_gates_152 (by decide) rfl (fun hF => ?_) (fun hF => ?_)
                    · refine x_iconst X 0 dL_gates_155 rfl 156 rfl ?_
                      exact x_iret X hQ (o_inj1 hF) (o_inj2 hF) rfl (by show _ ≤ 834; omega) (by show _ ≤ 5004; omega) dL_gates_156
                    · refine x_iinc X 2 (x2 + 1) [(2, .int (x2 + 1)), (0, .ref (ad 0)), (1, .ref (ad (255 + 0))), (3, .int x3), (4, .int x4)] dL_gates_157 rfl rfl (by decide) rfl 160 rfl ?_
                      refine x_goto X 2 dL_gates_160 (by decide) ?_
                      refine x_keep [1, 2, 0] rfl ?_
                      refine x_widen (k := (0 + (5 - n_2) * 171)) (k2 := (0 + (5 - n_2) * 1026)) (by omega) (by omega) ?_
                      exact hk_2 (x2 + 1) m_26 hF
        · refine x_iconst X 0 dL_gates_106 rfl 107 rfl ?_
          exact x_iret X hQ (o_inj1 hF) (o_inj2 hF) rfl (by show _ ≤ 834; omega) (by show _ ≤ 5004; omega) dL_gates_107
  have w_2 : ∀  (n : Nat) (hn : n ≤ 5) (x2 : Int32) (mem : Mem), KL_gates_2 L xs np nb fu  n x2 mem = some res → XX D (255 + nW np nb) ad (cJ ca ad np nb eD tS sB) p l e rl_gates s m args below meth c 6 (0 + (5 - n) * 171) (0 + (5 - n) * 1026) Q mem [] 2 [(0, .ref (ad 0)), (1, .ref (ad (255 + 0))), (2, .int x2)] [] := by
    intro  n
    induction n with
    | zero => intro hn x2 mem hF; exact no_none (show (none : Option (Int32 × Mem)) = some res from hF)
    | succ n ih =>
      intro hn x2 mem hF
      rw [KL_gates_2] at hF
      refine x_iload_n X 2 dL_gates_2 rfl rfl 3 rfl ?_
      refine x_aload_n X 1 dL_gates_3 rfl rfl 4 rfl ?_
      refine x_getV (v := .ref (ad (255 + 1))) X (255 + 0) (lj nw_0) kj_0 (T := TX12) (N := 11) rfl in_X12 5 (by decide) kF_L_61 rfl rfl dL_gates_4 7 rfl ?_
      refine xj_size X hZ hW kL_L_65 ⟨Nat.le_of_ble_eq_true rfl, Nat.le_of_ble_eq_true rfl⟩ (Nat.le_of_ble_eq_true rfl) ⟨by show _ ≤ 834; omega, by show _ ≤ 5004; omega⟩ dL_gates_7 12 rfl ?_
      refine x_icmp_ge X hF 163 15 dL_gates_12 (by decide) rfl (fun hF => ?_) (fun hF => ?_)
      · refine x_iconst X 0 dL_gates_15 rfl 16 rfl ?_
        refine x_istore_n X [(3, .int 0), (0, .ref (ad 0)), (1, .ref (ad (255 + 0))), (2, .int x2)] dL_gates_16 rfl (by decide) rfl 17 rfl ?_
        refine x_iconst X 0 dL_gates_17 rfl 18 rfl ?_
        refine x_istore X [(4, .int 0), (3, .int 0), (0, .ref (ad 0)), (1, .ref (ad (255 + 0))), (2, .int x2)] dL_gates_18 (by decide) rfl 20 rfl ?_
        refine x_keep [2, 3, 4, 1, 0] rfl ?_
        refine x_widen (k := (0 + (5 - (n + 1)) * 171 + (7 - 7) * 21)) (k2 := (0 + (5 - (n + 1)) * 1026 + (7 - 7) * 126)) (by omega) (by omega) ?_
        exact w_20 n (by omega) (KL_gates_2 L xs np nb fu  n) (fun x2 mem => ih (by omega) x2 mem) 7 (by omega) x2 0 0 mem hF
      · refine x_iconst X 1 dL_gates_163 rfl 164 rfl ?_
        exact x_iret X hQ (o_inj1 hF) (o_inj2 hF) rfl (by show _ ≤ 834; omega) (by show _ ≤ 5004; omega) dL_gates_164
  intro hF
  refine x_iconst X 0 dL_gates_0 rfl 1 rfl ?_
  refine x_istore_n X [(2, .int 0), (0, .ref (ad 0)), (1, .ref (ad (255 + 0)))] dL_gates_1 rfl (by decide) rfl 2 rfl ?_
  refine x_keep [1, 2, 0] rfl ?_
  refine x_widen (k := (0 + (5 - 5) * 171)) (k2 := (0 + (5 - 5) * 1026)) (by omega) (by omega) ?_
  exact w_2  5 (by omega) 0 mem hF

def KL_plays_147 (L : Nat) (xs : Nat → Int32) (np nb : Nat) (fu : Nat) (k_113 : Int32 → Int32 → Mem → Option (Int32 × Mem)) (x4 : Int32) (x5 : Int32) (x6 : Int32) (mem : Mem) : Option (Int32 × Mem) := (if x6 < 0 then (k_113 (x4 + 0) (x5 + 1) mem) else (k_113 (x4 + 1) (x5 + 1) mem))
def KL_plays_113 (L : Nat) (xs : Nat → Int32) (np nb : Nat) (fu : Nat)  : Nat → Int32 → Int32 → Mem → Option (Int32 × Mem)
  | 0, _, _, _ => none
  | n + 1, x4, x5, mem => (if 4 < x5 then bdT (K_X11_setting fu 5 mem) (fun x_1 m_1 => lt_ (mset 0 255 mem m_1) (fun m_2 => (if x4 = x_1 then bd (K_X11_undo fu  m_2) (fun p_3 => lt_ (mset 0 255 m_2 p_3.2) (fun m_4 => (if p_3.1 < 0 then some (0, m_4) else bd (KL_alike L xs np nb fu  m_4) (fun p_5 => (if p_5.1 = 0 then some (0, p_5.2) else some (1, p_5.2)))))) else some (0, m_2)))) else bd (K_X11_ranked fu x5 mem) (fun x_6 => (if x_6 < 0 then (KL_plays_147 L xs np nb fu (KL_plays_113 L xs np nb fu  n)  x4 x5 x_6 mem) else bdT (K_X11_pawn fu x_6 6 mem) (fun x_7 m_7 => lt_ (mset 0 255 mem m_7) (fun m_8 => (if x_7 = x5 then (KL_plays_147 L xs np nb fu (KL_plays_113 L xs np nb fu  n)  x4 x5 x_6 m_8) else some (0, m_8)))))))
def KL_plays_91 (L : Nat) (xs : Nat → Int32) (np nb : Nat) (fu : Nat)  (x3 : Int32) (mem : Mem) : Option (Int32 × Mem) := bdT (K_X11_setting fu 4 mem) (fun x_9 m_9 => lt_ (mset 0 255 mem m_9) (fun m_10 => (if x_9 = ((rd m_10 (255 + 0) 2) + x3) then (KL_plays_113 L xs np nb fu  5 0 1 m_10) else some (0, m_10))))
def KL_plays_48 (L : Nat) (xs : Nat → Int32) (np nb : Nat) (fu : Nat)  : Nat → (Nat → Int32) → Int32 → Int32 → Mem → Option (Int32 × Mem)
  | 0, _, _, _, _ => none
  | n + 1, fo, x3, x4, mem => (if x4 < (Int32.ofNat np) then bdT (K_X11_pawn fu x4 6 mem) (fun x_11 m_11 => lt_ (mset 0 255 mem m_11) (fun m_12 => gi x4 np ((if x_11 = (fo (Int32.toNatClampNeg x4)) then (KL_plays_48 L xs np nb fu  n fo x3 (x4 + 1) m_12) else some (0, m_12))))) else (if x3 < 99 then bd (K_X11_isOver fu  mem) (fun x_14 => (if x_14 = 0 then some (0, mem) else (KL_plays_91 L xs np nb fu   x3 mem))) else (KL_plays_91 L xs np nb fu   x3 mem)))
def KL_plays_14 (L : Nat) (xs : Nat → Int32) (np nb : Nat) (fu : Nat)  : Nat → (Nat → Int32) → Int32 → Mem → Option (Int32 × Mem)
  | 0, _, _, _ => none
  | n + 1, fo, x3, mem => (if x3 < (Int32.ofNat np) then bdT (K_X11_foreseen fu 0 99 x3 mem) (fun x_15 m_15 => lt_ (mset 0 255 mem m_15) (fun m_16 => gi x3 np (lt_ (upd fo (Int32.toNatClampNeg x3) x_15) (fun fo_18 => (KL_plays_14 L xs np nb fu  n fo_18 (x3 + 1) m_16))))) else bdT (K_X11_play fu 0 99 mem) (fun x_19 m_19 => lt_ (mset 0 255 mem m_19) (fun m_20 => (KL_plays_48 L xs np nb fu  5 fo x_19 0 m_20))))
def KL_plays (L : Nat) (xs : Nat → Int32) (np nb : Nat) (fu : Nat)  (mem : Mem) : Option (Int32 × Mem) := (KL_plays_14 L xs np nb fu  5 (fun _ => 0) 0 mem)
def rl_plays : Room := { frames := 9, cells := 286, slots := 1714, locals := 156 }
theorem rlc_plays : rl_plays.cells = 286 ∧ rl_plays.slots = 1714 := ⟨rfl, rfl⟩
set_option maxHeartbeats 4000000 in
set_option maxRecDepth 100000 in
theorem cl_plays (l : Launch) (hl : l.stackTraces = false) {D : va_G} {ca ad : Nat → Nat} {np nb eD tS sB : Nat} {Z : (Nat → Prop) → State → Heap → Prop} (hZ : ZOK Z) (hX : ZX Z) {tO : Nat} {sK sV : Nat → Nat} (hO : ZO Z tO sK sV) {tA tU L : Nat} {xs : Nat → Int32} (hW : ZWO Z tA tU sB L xs) (hg : np ≤ 4 ∧ nb ≤ 4 ∧ (np = 0 → nb = 0)) (fu : Nat)  (mem : Mem) (res : (Int32 × Mem)) (hF : KL_plays L xs np nb fu  mem = some res) : CJ l D (tyL ca) (255 + nW np nb) ad (cJ ca ad np nb eD tS sB) Z yL_plays cL_plays 7 .boolean rl_plays [.ref (ad 0), .ref (ad (255 + 0))] mem res.1 res.2 := by
  refine xstart_i (own := RL) rfl (by decide) (Nat.le_of_ble_eq_true rfl) ?_
  intro p e s m args below meth c Q hQ X
  have ec_alike := rlc_alike
  have ei_rm_X11_isOver : rm_X11_isOver.cells = 0 ∧ rm_X11_isOver.slots = 0 := ⟨rfl, rfl⟩
  have ei_rm_X11_ranked : rm_X11_ranked.cells = 0 ∧ rm_X11_ranked.slots = 0 := ⟨rfl, rfl⟩
  have ei_rm_X11_undo : rm_X11_undo.cells = 0 ∧ rm_X11_undo.slots = 0 := ⟨rfl, rfl⟩
  rw [KL_plays] at hF
  revert hF
  have w_147 : ∀ (n_113 : Nat) (hn_113 : n_113 + 1 ≤ 5) (k_113 : Int32 → Int32 → Mem → Option (Int32 × Mem)) (hk_113 : ∀ (x4 : Int32) (x5 : Int32) (mem : Mem), k_113 x4 x5 mem = some res → XX D (255 + nW np nb) ad (cJ ca ad np nb eD tS sB) p l e rl_plays s m args below meth c 7 (37 + (5 - n_113) * 3) (220 + (5 - n_113) * 18) Q mem [] 113 [(0, .ref (ad 0)), (1, .ref (ad (255 + 0))), (4, .int x4), (5, .int x5)] []) (x4 : Int32) (x5 : Int32) (x6 : Int32) (mem : Mem), KL_plays_147 L xs np nb fu k_113 x4 x5 x6 mem = some res → XX D (255 + nW np nb) ad (cJ ca ad np nb eD tS sB) p l e rl_plays s m args below meth c 7 (40 + (5 - (n_113 + 1)) * 3) (238 + (5 - (n_113 + 1)) * 18) Q mem [] 147 [(0, .ref (ad 0)), (1, .ref (ad (255 + 0))), (4, .int x4), (5, .int x5), (6, .int x6)] [] := by
    intro n_113 hn_113 k_113 hk_113 x4 x5 x6 mem hF
    rw [KL_plays_147] at hF
    refine x_iload X 2 dL_plays_147 rfl 149 rfl ?_
    refine x_iload X 4 dL_plays_149 rfl 151 rfl ?_
    refine x_if_lt X hF 158 154 dL_plays_151 (by decide) rfl (fun hF => ?_) (fun hF => ?_)
    · refine x_iconst X 0 dL_plays_158 rfl 159 rfl ?_
      refine x_iadd X dL_plays_159 160 rfl ?_
      refine x_istore X [(4, .int (x4 + 0)), (0, .ref (ad 0)), (1, .ref (ad (255 + 0))), (5, .int x5), (6, .int x6)] dL_plays_160 (by decide) rfl 162 rfl ?_
      refine x_iinc X 3 (x5 + 1) [(5, .int (x5 + 1)), (4, .int (x4 + 0)), (0, .ref (ad 0)), (1, .ref (ad (255 + 0))), (6, .int x6)] dL_plays_162 rfl rfl (by decide) rfl 165 rfl ?_
      refine x_goto X 113 dL_plays_165 (by decide) ?_
      refine x_keep [2, 3, 1, 0] rfl ?_
      refine x_widen (k := (37 + (5 - n_113) * 3)) (k2 := (220 + (5 - n_113) * 18)) (by omega) (by omega) ?_
      exact hk_113 (x4 + 0) (x5 + 1) mem hF
    · refine x_iconst X 1 dL_plays_154 rfl 155 rfl ?_
      refine x_goto X 159 dL_plays_155 (by decide) ?_
      refine x_iadd X dL_plays_159 160 rfl ?_
      refine x_istore X [(4, .int (x4 + 1)), (0, .ref (ad 0)), (1, .ref (ad (255 + 0))), (5, .int x5), (6, .int x6)] dL_plays_160 (by decide) rfl 162 rfl ?_
      refine x_iinc X 3 (x5 + 1) [(5, .int (x5 + 1)), (4, .int (x4 + 1)), (0, .ref (ad 0)), (1, .ref (ad (255 + 0))), (6, .int x6)] dL_plays_162 rfl rfl (by decide) rfl 165 rfl ?_
      refine x_goto X 113 dL_plays_165 (by decide) ?_
      refine x_keep [2, 3, 1, 0] rfl ?_
      refine x_widen (k := (37 + (5 - n_113) * 3)) (k2 := (220 + (5 - n_113) * 18)) (by omega) (by omega) ?_
      exact hk_113 (x4 + 1) (x5 + 1) mem hF
  have w_113 : ∀  (n : Nat) (hn : n ≤ 5) (x4 : Int32) (x5 : Int32) (mem : Mem), KL_plays_113 L xs np nb fu  n x4 x5 mem = some res → XX D (255 + nW np nb) ad (cJ ca ad np nb eD tS sB) p l e rl_plays s m args below meth c 7 (37 + (5 - n) * 3) (220 + (5 - n) * 18) Q mem [] 113 [(0, .ref (ad 0)), (1, .ref (ad (255 + 0))), (4, .int x4), (5, .int x5)] [] := by
    intro  n
    induction n with
    | zero => intro hn x4 x5 mem hF; exact no_none (show (none : Option (Int32 × Mem)) = some res from hF)
    | succ n ih =>
      intro hn x4 x5 mem hF
      rw [KL_plays_113] at hF
      refine x_iload X 3 dL_plays_113 rfl 115 rfl ?_
      refine x_iconst X 4 dL_plays_115 rfl 116 rfl ?_
      refine x_icmp_gt X hF 168 119 dL_plays_116 (by decide) rfl (fun hF => ?_) (fun hF => ?_)
      · refine x_iload X 2 dL_plays_168 rfl 170 rfl ?_
        refine x_aload_n X 0 dL_plays_170 rfl rfl 171 rfl ?_
        refine x_iconst X 5 dL_plays_171 rfl 172 rfl ?_
        refine j_callT (cf1 := cC ca ad) hb_C (fun j f h => cJ_C j f h) X hZ hF [.int 5] 0 lj_c kj_c rfl rfl rfl kB_X11_setting kL_L_39 (fun r h => by rw [ad_0, mem_0]; exact ct_X11_setting l hl hZ hX hO fu 5 mem r h) rfl rfl rfl ⟨Nat.le_of_ble_eq_true rfl, Nat.le_of_ble_eq_true rfl⟩ (Nat.le_of_ble_eq_true rfl) ⟨by show _ ≤ 286; omega, by show _ ≤ 1714; omega⟩ dL_plays_172 175 rfl (fun x_1 m_1 hF => ?_)
        refine x_letm hF (fun m_2 hF => ?_)
        refine x_icmp_ne X hF 197 178 dL_plays_175 (by decide) rfl (fun hF => ?_) (fun hF => ?_)
        · refine x_aload_n X 0 dL_plays_178 rfl rfl 179 rfl ?_
          refine j_callVi (fun x => x.1) (fun x => x.2) (cf1 := cC ca ad) hb_C (fun j f h => cJ_C j f h) X hZ hF [] 0 lj_c kj_c rfl rfl rfl kB_X11_undo kL_L_211 (fun r h => by rw [ad_0, mem_0]; exact ct_X11_undo l hZ hO fu  m_2 r h) rfl ⟨Nat.le_of_ble_eq_true rfl, Nat.le_of_ble_eq_true rfl⟩ (Nat.le_of_ble_eq_true rfl) ⟨by show _ ≤ 286; omega, by show _ ≤ 1714; omega⟩ dL_plays_179 182 rfl (fun p_3 hF => ?_)
          refine x_letm hF (fun m_4 hF => ?_)
          refine x_if_lt X hF 197 185 dL_plays_182 (by decide) rfl (fun hF => ?_) (fun hF => ?_)
          · refine x_iconst X 0 dL_plays_197 rfl 198 rfl ?_
            exact x_iret X hQ (o_inj1 hF) (o_inj2 hF) rfl (by show _ ≤ 286; omega) (by show _ ≤ 1714; omega) dL_plays_198
          · refine x_aload_n X 0 dL_plays_185 rfl rfl 186 rfl ?_
            refine x_aload_n X 1 dL_plays_186 rfl rfl 187 rfl ?_
            refine x_callSi (fun x => x.1) (fun x => x.2) X hZ hF [.ref (ad 0), .ref (ad (255 + 0))] rfl kB_L_alike kL_L_214 (fun res h => cl_alike l hl hZ hX hO hW hg fu  m_4 res h) rfl ⟨Nat.le_of_ble_eq_true rfl, Nat.le_of_ble_eq_true rfl⟩ (Nat.le_of_ble_eq_true rfl) ⟨by show _ ≤ 286; omega, by show _ ≤ 1714; omega⟩ dL_plays_187 190 rfl (fun p_5 hF => ?_)
            refine x_if_eq X hF 197 193 dL_plays_190 (by decide) rfl (fun hF => ?_) (fun hF => ?_)
            · refine x_iconst X 0 dL_plays_197 rfl 198 rfl ?_
              exact x_iret X hQ (o_inj1 hF) (o_inj2 hF) rfl (by show _ ≤ 286; omega) (by show _ ≤ 1714; omega) dL_plays_198
            · refine x_iconst X 1 dL_plays_193 rfl 194 rfl ?_
              refine x_goto X 198 dL_plays_194 (by decide) ?_
              exact x_iret X hQ (o_inj1 hF) (o_inj2 hF) rfl (by show _ ≤ 286; omega) (by show _ ≤ 1714; omega) dL_plays_198
        · refine x_iconst X 0 dL_plays_197 rfl 198 rfl ?_
          exact x_iret X hQ (o_inj1 hF) (o_inj2 hF) rfl (by show _ ≤ 286; omega) (by show _ ≤ 1714; omega) dL_plays_198
      · refine x_aload_n X 0 dL_plays_119 rfl rfl 120 rfl ?_
        refine x_iload X 3 dL_plays_120 rfl 122 rfl ?_
        refine j_callVi (fun x => x) (fun _ => (fun j => mem (0 + j))) (cf1 := cC ca ad) hb_C (fun j f h => cJ_C j f h) X hZ hF [.int x5] 0 lj_c kj_c rfl rfl rfl kB_X11_ranked kL_L_222 (fun r h => by rw [ad_0, mem_0]; exact ct_X11_ranked l hZ hO fu x5 mem r h) rfl ⟨Nat.le_of_ble_eq_true rfl, Nat.le_of_ble_eq_true rfl⟩ (Nat.le_of_ble_eq_true rfl) ⟨by show _ ≤ 286; omega, by show _ ≤ 1714; omega⟩ dL_plays_122 125 rfl (fun x_6 hF => ?_)
        rw [mset_id]
        refine x_istore X [(6, .int x_6), (0, .ref (ad 0)), (1, .ref (ad (255 + 0))), (4, .int x4), (5, .int x5)] dL_plays_125 (by decide) rfl 127 rfl ?_
        refine x_iload X 0 dL_plays_127 rfl 129 rfl ?_
        refine x_if_lt X hF 147 132 dL_plays_129 (by decide) rfl (fun hF => ?_) (fun hF => ?_)
        · refine x_keep [1, 2, 3, 4, 0] rfl ?_
          refine x_widen (k := (40 + (5 - (n + 1)) * 3)) (k2 := (238 + (5 - (n + 1)) * 18)) (by omega) (by omega) ?_
          exact w_147 n (by omega) (KL_plays_113 L xs np nb fu  n) (fun x4 x5 mem => ih (by omega) x4 x5 mem)  x4 x5 x_6 mem hF
        · refine x_aload_n X 1 dL_plays_132 rfl rfl 133 rfl ?_
          refine x_iload X 0 dL_plays_133 rfl 135 rfl ?_
          refine x_bipush X 6 dL_plays_135 rfl 137 rfl ?_
          refine j_callT (cf1 := cC ca ad) hb_C (fun j f h => cJ_C j f h) X hZ hF [.int x_6, .int 6] 0 lj_c kj_c rfl rfl rfl kB_X11_pawn kL_L_70 (fun r h => by rw [ad_0, mem_0]; exact ct_X11_pawn l hl hZ hX hO fu x_6 6 mem r h) rfl rfl rfl ⟨Nat.le_of_ble_eq_true rfl, Nat.le_of_ble_eq_true rfl⟩ (Nat.le_of_ble_eq_true rfl) ⟨by show _ ≤ 286; omega, by show _ ≤ 1714; omega⟩ dL_plays_137 140 rfl (fun x_7 m_7 hF => ?_)
          refine x_letm hF (fun m_8 hF => ?_)
          refine x_iload X 4 dL_plays_140 rfl 142 rfl ?_
          refine x_icmp_eq X hF 147 145 dL_plays_142 (by decide) rfl (fun hF => ?_) (fun hF => ?_)
          · refine x_keep [1, 2, 3, 4, 0] rfl ?_
            refine x_widen (k := (40 + (5 - (n + 1)) * 3)) (k2 := (238 + (5 - (n + 1)) * 18)) (by omega) (by omega) ?_
            exact w_147 n (by omega) (KL_plays_113 L xs np nb fu  n) (fun x4 x5 mem => ih (by omega) x4 x5 mem)  x4 x5 x_6 m_8 hF
          · refine x_iconst X 0 dL_plays_145 rfl 146 rfl ?_
            exact x_iret X hQ (o_inj1 hF) (o_inj2 hF) rfl (by show _ ≤ 286; omega) (by show _ ≤ 1714; omega) dL_plays_146
  have w_91 : ∀  (x3 : Int32) (mem : Mem), KL_plays_91 L xs np nb fu  x3 mem = some res → XX D (255 + nW np nb) ad (cJ ca ad np nb eD tS sB) p l e rl_plays s m args below meth c 7 34 202 Q mem [] 91 [(0, .ref (ad 0)), (1, .ref (ad (255 + 0))), (3, .int x3)] [] := by
    intro  x3 mem hF
    rw [KL_plays_91] at hF
    refine x_aload_n X 0 dL_plays_91 rfl rfl 92 rfl ?_
    refine x_iconst X 4 dL_plays_92 rfl 93 rfl ?_
    refine j_callT (cf1 := cC ca ad) hb_C (fun j f h => cJ_C j f h) X hZ hF [.int 4] 0 lj_c kj_c rfl rfl rfl kB_X11_setting kL_L_39 (fun r h => by rw [ad_0, mem_0]; exact ct_X11_setting l hl hZ hX hO fu 4 mem r h) rfl rfl rfl ⟨Nat.le_of_ble_eq_true rfl, Nat.le_of_ble_eq_true rfl⟩ (Nat.le_of_ble_eq_true rfl) ⟨Nat.le_of_ble_eq_true rfl, Nat.le_of_ble_eq_true rfl⟩ dL_plays_93 96 rfl (fun x_9 m_9 hF => ?_)
    refine x_letm hF (fun m_10 hF => ?_)
    refine x_aload_n X 1 dL_plays_96 rfl rfl 97 rfl ?_
    refine x_getV (v := .int (rd m_10 (255 + 0) 2)) X (255 + 0) (lj nw_0) kj_0 (T := TX12) (N := 11) rfl in_X12 2 (by decide) kF_L_42 rfl rfl dL_plays_97 100 rfl ?_
    refine x_iload_n X 2 dL_plays_100 rfl rfl 101 rfl ?_
    refine x_iadd X dL_plays_101 102 rfl ?_
    refine x_icmp_eq X hF 107 105 dL_plays_102 (by decide) rfl (fun hF => ?_) (fun hF => ?_)
    · refine x_iconst X 0 dL_plays_107 rfl 108 rfl ?_
      refine x_istore X [(4, .int 0), (0, .ref (ad 0)), (1, .ref (ad (255 + 0))), (3, .int x3)] dL_plays_108 (by decide) rfl 110 rfl ?_
      refine x_iconst X 1 dL_plays_110 rfl 111 rfl ?_
      refine x_istore X [(5, .int 1), (4, .int 0), (0, .ref (ad 0)), (1, .ref (ad (255 + 0))), (3, .int x3)] dL_plays_111 (by decide) rfl 113 rfl ?_
      refine x_keep [2, 3, 1, 0] rfl ?_
      refine x_widen (k := (37 + (5 - 5) * 3)) (k2 := (220 + (5 - 5) * 18)) (by omega) (by omega) ?_
      exact w_113  5 (by omega) 0 1 m_10 hF
    · refine x_iconst X 0 dL_plays_105 rfl 106 rfl ?_
      exact x_iret X hQ (o_inj1 hF) (o_inj2 hF) rfl (Nat.le_of_ble_eq_true rfl) (Nat.le_of_ble_eq_true rfl) dL_plays_106
  have w_48 : ∀ (q : Nat)  (n : Nat) (hn : n ≤ 5) (fo : Nat → Int32) (x3 : Int32) (x4 : Int32) (mem : Mem), KL_plays_48 L xs np nb fu  n fo x3 x4 mem = some res → XX D (255 + nW np nb) ad (cJ ca ad np nb eD tS sB) p l e rl_plays s m args below meth c 7 (19 + (5 - n) * 3) (112 + (5 - n) * 18) Q mem [(q, .inl (ca 0, np, .inl fo))] 48 [(0, .ref (ad 0)), (1, .ref (ad (255 + 0))), (2, .ref q), (3, .int x3), (4, .int x4)] [] := by
    intro q  n
    induction n with
    | zero => intro hn fo x3 x4 mem hF; exact no_none (show (none : Option (Int32 × Mem)) = some res from hF)
    | succ n ih =>
      intro hn fo x3 x4 mem hF
      rw [KL_plays_48] at hF
      refine x_iload X 4 dL_plays_48 rfl 50 rfl ?_
      refine x_aload_n X 2 dL_plays_50 rfl rfl 51 rfl ?_
      refine e_alen X 0 (Int32.ofNat np) rfl (t0 := 0) rfl rfl dL_plays_51 52 rfl ?_
      refine x_icmp_ge X hF 78 55 dL_plays_52 (by decide) rfl (fun hF => ?_) (fun hF => ?_)
      · refine x_aload_n X 0 dL_plays_55 rfl rfl 56 rfl ?_
        refine x_iload X 4 dL_plays_56 rfl 58 rfl ?_
        refine x_bipush X 6 dL_plays_58 rfl 60 rfl ?_
        refine j_callT (cf1 := cC ca ad) hb_C (fun j f h => cJ_C j f h) X hZ hF [.int x4, .int 6] 0 lj_c kj_c rfl rfl rfl kB_X11_pawn kL_L_70 (fun r h => by rw [ad_0, mem_0]; exact ct_X11_pawn l hl hZ hX hO fu x4 6 mem r h) rfl rfl rfl ⟨Nat.le_of_ble_eq_true rfl, Nat.le_of_ble_eq_true rfl⟩ (Nat.le_of_ble_eq_true rfl) ⟨by show _ ≤ 286; omega, by show _ ≤ 1714; omega⟩ dL_plays_60 63 rfl (fun x_11 m_11 hF => ?_)
        refine x_letm hF (fun m_12 hF => ?_)
        refine x_aload_n X 2 dL_plays_63 rfl rfl 64 rfl ?_
        refine x_iload X 4 dL_plays_64 rfl 66 rfl ?_
        refine x_gi hF (fun h_13 hF => ?_)
        refine e_ial X 0 rfl (t0 := 0) rfl h_13 dL_plays_66 67 rfl ?_
        refine x_icmp_eq X hF 72 70 dL_plays_67 (by decide) rfl (fun hF => ?_) (fun hF => ?_)
        · refine x_iinc X 4 (x4 + 1) [(4, .int (x4 + 1)), (0, .ref (ad 0)), (1, .ref (ad (255 + 0))), (2, .ref q), (3, .int x3)] dL_plays_72 rfl rfl (by decide) rfl 75 rfl ?_
          refine x_goto X 48 dL_plays_75 (by decide) ?_
          refine x_keep [1, 2, 3, 4, 0] rfl ?_
          refine x_widen (k := (19 + (5 - n) * 3)) (k2 := (112 + (5 - n) * 18)) (by omega) (by omega) ?_
          exact ih (by omega) fo x3 (x4 + 1) m_12 hF
        · refine x_iconst X 0 dL_plays_70 rfl 71 rfl ?_
          exact x_iret X hQ (o_inj1 hF) (o_inj2 hF) rfl (by show _ ≤ 286; omega) (by show _ ≤ 1714; omega) dL_plays_71
      · refine x_iload_n X 3 dL_plays_78 rfl rfl 79 rfl ?_
        refine x_bipush X 99 dL_plays_79 rfl 81 rfl ?_
        refine x_icmp_ge X hF 91 84 dL_plays_81 (by decide) rfl (fun hF => ?_) (fun hF => ?_)
        · refine x_aload_n X 0 dL_plays_84 rfl rfl 85 rfl ?_
          refine j_callVi (fun x => x) (fun _ => (fun j => mem (0 + j))) (cf1 := cC ca ad) hb_C (fun j f h => cJ_C j f h) X hZ hF [] 0 lj_c kj_c rfl rfl rfl kB_X11_isOver kL_L_51 (fun r h => by rw [ad_0, mem_0]; exact ct_X11_isOver l hZ hO fu  mem r h) rfl ⟨Nat.le_of_ble_eq_true rfl, Nat.le_of_ble_eq_true rfl⟩ (Nat.le_of_ble_eq_true rfl) ⟨by show _ ≤ 286; omega, by show _ ≤ 1714; omega⟩ dL_plays_85 88 rfl (fun x_14 hF => ?_)
          rw [mset_id]
          refine x_if_eq X hF 105 91 dL_plays_88 (by decide) rfl (fun hF => ?_) (fun hF => ?_)
          · refine x_iconst X 0 dL_plays_105 rfl 106 rfl ?_
            exact x_iret X hQ (o_inj1 hF) (o_inj2 hF) rfl (by show _ ≤ 286; omega) (by show _ ≤ 1714; omega) dL_plays_106
          · refine x_keep [0, 1, 3] rfl ?_
            refine x_widen (k := 34) (k2 := 202) (by omega) (by omega) ?_
            refine x_drop ?_
            exact w_91   x3 mem hF
        · refine x_keep [0, 1, 3] rfl ?_
          refine x_widen (k := 34) (k2 := 202) (by omega) (by omega) ?_
          refine x_drop ?_
          exact w_91   x3 mem hF
  have w_14 : ∀ (q : Nat)  (n : Nat) (hn : n ≤ 5) (fo : Nat → Int32) (x3 : Int32) (mem : Mem), KL_plays_14 L xs np nb fu  n fo x3 mem = some res → XX D (255 + nW np nb) ad (cJ ca ad np nb eD tS sB) p l e rl_plays s m args below meth c 7 (1 + (5 - n) * 3) (4 + (5 - n) * 18) Q mem [(q, .inl (ca 0, np, .inl fo))] 14 [(0, .ref (ad 0)), (1, .ref (ad (255 + 0))), (2, .ref q), (3, .int x3)] [] := by
    intro q  n
    induction n with
    | zero => intro hn fo x3 mem hF; exact no_none (show (none : Option (Int32 × Mem)) = some res from hF)
    | succ n ih =>
      intro hn fo x3 mem hF
      rw [KL_plays_14] at hF
      refine x_iload_n X 3 dL_plays_14 rfl rfl 15 rfl ?_
      refine x_aload_n X 2 dL_plays_15 rfl rfl 16 rfl ?_
      refine e_alen X 0 (Int32.ofNat np) rfl (t0 := 0) rfl rfl dL_plays_16 17 rfl ?_
      refine x_icmp_ge X hF 37 20 dL_plays_17 (by decide) rfl (fun hF => ?_) (fun hF => ?_)
      · refine x_aload_n X 2 dL_plays_20 rfl rfl 21 rfl ?_
        refine x_iload_n X 3 dL_plays_21 rfl rfl 22 rfl ?_
        refine x_aload_n X 0 dL_plays_22 rfl rfl 23 rfl ?_
        refine x_iconst X 0 dL_plays_23 rfl 24 rfl ?_
        refine x_bipush X 99 dL_plays_24 rfl 26 rfl ?_
        refine x_iload_n X 3 dL_plays_26 rfl rfl 27 rfl ?_
        refine j_callT (cf1 := cC ca ad) hb_C (fun j f h => cJ_C j f h) X hZ hF [.int 0, .int 99, .int x3] 0 lj_c kj_c rfl rfl rfl kB_X11_foreseen kL_L_219 (fun r h => by rw [ad_0, mem_0]; exact ct_X11_foreseen l hl hZ hX hO fu 0 99 x3 mem r h) rfl rfl rfl ⟨Nat.le_of_ble_eq_true rfl, Nat.le_of_ble_eq_true rfl⟩ (Nat.le_of_ble_eq_true rfl) ⟨by show _ ≤ 286; omega, by show _ ≤ 1714; omega⟩ dL_plays_27 30 rfl (fun x_15 m_15 hF => ?_)
        refine x_letm hF (fun m_16 hF => ?_)
        refine x_gi hF (fun h_17 hF => ?_)
        refine e_ias X 0 [(q, .inl (ca 0, np, .inl (upd fo (Int32.toNatClampNeg x3) x_15)))] rfl (t0 := 0) rfl h_17 rfl dL_plays_30 31 rfl ?_
        refine x_letf hF (fun fo_18 hF => ?_)
        refine x_iinc X 3 (x3 + 1) [(3, .int (x3 + 1)), (0, .ref (ad 0)), (1, .ref (ad (255 + 0))), (2, .ref q)] dL_plays_31 rfl rfl (by decide) rfl 34 rfl ?_
        refine x_goto X 14 dL_plays_34 (by decide) ?_
        refine x_keep [1, 2, 3, 0] rfl ?_
        refine x_widen (k := (1 + (5 - n) * 3)) (k2 := (4 + (5 - n) * 18)) (by omega) (by omega) ?_
        exact ih (by omega) fo_18 (x3 + 1) m_16 hF
      · refine x_aload_n X 0 dL_plays_37 rfl rfl 38 rfl ?_
        refine x_iconst X 0 dL_plays_38 rfl 39 rfl ?_
        refine x_bipush X 99 dL_plays_39 rfl 41 rfl ?_
        refine j_callT (cf1 := cC ca ad) hb_C (fun j f h => cJ_C j f h) X hZ hF [.int 0, .int 99] 0 lj_c kj_c rfl rfl rfl kB_X11_play kL_L_97 (fun r h => by rw [ad_0, mem_0]; exact ct_X11_play l hl hZ hX hO fu 0 99 mem r h) rfl rfl rfl ⟨Nat.le_of_ble_eq_true rfl, Nat.le_of_ble_eq_true rfl⟩ (Nat.le_of_ble_eq_true rfl) ⟨by show _ ≤ 286; omega, by show _ ≤ 1714; omega⟩ dL_plays_41 44 rfl (fun x_19 m_19 hF => ?_)
        refine x_letm hF (fun m_20 hF => ?_)
        refine x_istore_n X [(3, .int x_19), (0, .ref (ad 0)), (1, .ref (ad (255 + 0))), (2, .ref q)] dL_plays_44 rfl (by decide) rfl 45 rfl ?_
        refine x_iconst X 0 dL_plays_45 rfl 46 rfl ?_
        refine x_istore X [(4, .int 0), (3, .int x_19), (0, .ref (ad 0)), (1, .ref (ad (255 + 0))), (2, .ref q)] dL_plays_46 (by decide) rfl 48 rfl ?_
        refine x_keep [2, 3, 4, 1, 0] rfl ?_
        refine x_widen (k := (19 + (5 - 5) * 3)) (k2 := (112 + (5 - 5) * 18)) (by omega) (by omega) ?_
        exact w_48 q  5 (by omega) fo x_19 0 m_20 hF
  intro hF
  refine x_aload_n X 1 dL_plays_0 rfl rfl 1 rfl ?_
  refine x_getV (v := .ref (ad (255 + 1))) X (255 + 0) (lj nw_0) kj_0 (T := TX12) (N := 11) rfl in_X12 5 (by decide) kF_L_61 rfl rfl dL_plays_1 4 rfl ?_
  refine xj_size X hZ hW kL_L_65 ⟨Nat.le_of_ble_eq_true rfl, Nat.le_of_ble_eq_true rfl⟩ (Nat.le_of_ble_eq_true rfl) ⟨Nat.le_of_ble_eq_true rfl, Nat.le_of_ble_eq_true rfl⟩ dL_plays_4 9 rfl ?_
  refine x_newa (atype := .int) (ty := .int) (N' := np) (cT := ca 0) (t0 := 0) (np, .inl (fun _ => 0)) X rfl kA_int rfl (fun _ => rfl) (nI_pos (by have := hg.1; omega)) (nI_clamp (by have := hg.1; omega)) (by have := hg.1; show np * 4 ≤ _; omega) ⟨by show _ ≤ 286; omega, by show _ ≤ 1714; have := hg.1; omega⟩ dL_plays_9 11 rfl (fun q _ => ?_)
  rw [List.nil_append]
  refine x_widen (k := 1) (k2 := 4) (by omega) (by have := hg.1; omega) ?_
  refine x_astore_n X [(2, .ref q), (0, .ref (ad 0)), (1, .ref (ad (255 + 0)))] dL_plays_11 rfl (by decide) rfl 12 rfl ?_
  refine x_iconst X 0 dL_plays_12 rfl 13 rfl ?_
  refine x_istore_n X [(3, .int 0), (2, .ref q), (0, .ref (ad 0)), (1, .ref (ad (255 + 0)))] dL_plays_13 rfl (by decide) rfl 14 rfl ?_
  refine x_keep [2, 3, 1, 0] rfl ?_
  refine x_widen (k := (1 + (5 - 5) * 3)) (k2 := (4 + (5 - 5) * 18)) (by omega) (by omega) ?_
  exact w_14 q  5 (by omega) (fun _ => 0) 0 mem hF

end LB
