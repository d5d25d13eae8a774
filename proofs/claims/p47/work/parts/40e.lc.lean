section LC
def KL_builds_222 (L : Nat) (xs : Nat → Int32) (np nb : Nat) (fu : Nat)  : Nat → Int32 → Mem → Option (Int32 × Mem)
  | 0, _, _ => none
  | n + 1, x10, mem => (if x10 < (Int32.ofNat np) then bdT (K_X11_distance fu x10 mem) (fun x_1 m_1 => lt_ (mset 0 255 mem m_1) (fun m_2 => (if x_1 < 0 then some (0, m_2) else (KL_builds_222 L xs np nb fu  n (x10 + 1) m_2)))) else bd (K_X11_undo fu  mem) (fun p_3 => lt_ (mset 0 255 mem p_3.2) (fun m_4 => (if p_3.1 < 0 then some (0, m_4) else bd (KL_alike L xs np nb fu  m_4) (fun p_5 => (if p_5.1 = 0 then some (0, p_5.2) else some (1, p_5.2)))))))
def KL_builds_70 (L : Nat) (xs : Nat → Int32) (np nb : Nat) (fu : Nat)  : Nat → Int32 → Int32 → Int32 → Int32 → Int32 → Mem → Option (Int32 × Mem)
  | 0, _, _, _, _, _, _ => none
  | n + 1, x4, x5, x6, x7, x8, mem => (if x8 < (Int32.ofNat np) then (if x7 = 0 then (KL_builds_70 L xs np nb fu  n x4 x5 x6 x7 (x8 + 1) mem) else bdT (K_X11_harm fu x8 x4 x5 x6 mem) (fun x_6 m_6 => lt_ (mset 0 255 mem m_6) (fun m_7 => (if x_6 < 0 then some (0, m_7) else bdT (K_X11_pawn fu x8 6 m_7) (fun x_8 m_8 => lt_ (mset 0 255 m_7 m_8) (fun m_9 => (if x_8 = 0 then bdT (K_X11_harm fu x8 x4 x5 x6 m_9) (fun x_10 m_10 => lt_ (mset 0 255 m_9 m_10) (fun m_11 => bdT (K_X11_gain fu x8 m_11) (fun x_12 m_12 => lt_ (mset 0 255 m_11 m_12) (fun m_13 => (if x_12 < x_10 then some (0, m_13) else (KL_builds_70 L xs np nb fu  n x4 x5 x6 x7 (x8 + 1) m_13)))))) else (KL_builds_70 L xs np nb fu  n x4 x5 x6 x7 (x8 + 1) m_9)))))))) else bd (K_X11_turnOf fu  mem) (fun x_14 => (if x_14 < 0 then some (1, mem) else bdT (K_X11_pawn fu x_14 3 mem) (fun x_15 m_15 => lt_ (mset 0 255 mem m_15) (fun m_16 => (if x_15 = 0 then some (1, m_16) else (bdc (K_X11_build fu x4 x5 x6 m_16) (fun x_17 m_17 => lt_ (mset 0 255 m_16 m_17) (fun m_20 => (if x7 = 0 then some (0, m_20) else bdT (K_X11_wallAt fu x4 x5 m_20) (fun x_21 m_21 => lt_ (mset 0 255 m_20 m_21) (fun m_22 => (if x6 = 0 then (if x_21 = 0 then bdT (K_X11_pawn fu x_14 3 m_22) (fun x_23 m_23 => lt_ (mset 0 255 m_22 m_23) (fun m_24 => (if x_17 = x_23 then (KL_builds_222 L xs np nb fu  5 0 m_24) else some (0, m_24)))) else some (0, m_22)) else (if x_21 = 1 then bdT (K_X11_pawn fu x_14 3 m_22) (fun x_25 m_25 => lt_ (mset 0 255 m_22 m_25) (fun m_26 => (if x_17 = x_25 then (KL_builds_222 L xs np nb fu  5 0 m_26) else some (0, m_26)))) else some (0, m_22)))))))) (fun k m1 => if k = 2 then lt_ (mset 0 255 m_16 m1) (fun m_18 => (if x7 = 0 then bd (KL_alike L xs np nb fu  m_18) (fun p_19 => (if p_19.1 = 0 then some (0, p_19.2) else some (1, p_19.2))) else some (0, m_18))) else none))))))))
def KL_builds (L : Nat) (xs : Nat → Int32) (np nb : Nat) (fu : Nat) (x3 : Int32) (mem : Mem) : Option (Int32 × Mem) := bd (KL_pick L xs fu (500 + x3) ((rd mem (255 + 0) 0) - 1)) (fun x_27 => bd (KL_pick L xs fu (520 + x3) ((rd mem (255 + 0) 1) - 1)) (fun x_28 => bd (KL_pick L xs fu (540 + x3) 2) (fun x_29 => (if x_29 = 1 then bdT (K_X11_isAdmissible fu x_27 x_28 1 mem) (fun x_30 m_30 => lt_ (mset 0 255 mem m_30) (fun m_31 => (KL_builds_70 L xs np nb fu  5 x_27 x_28 1 x_30 0 m_31))) else bdT (K_X11_isAdmissible fu x_27 x_28 0 mem) (fun x_32 m_32 => lt_ (mset 0 255 mem m_32) (fun m_33 => (KL_builds_70 L xs np nb fu  5 x_27 x_28 0 x_32 0 m_33)))))))
def rl_builds : Room := { frames := 9, cells := 321, slots := 1926, locals := 155 }
def hhB : List (Nat × Nat × Nat × Nat) := [(167, 218, 274, 217), (219, 246, 274, 217), (247, 273, 274, 217)]
theorem rlc_builds : rl_builds.cells = 321 ∧ rl_builds.slots = 1926 := ⟨rfl, rfl⟩
set_option maxHeartbeats 4000000 in
set_option maxRecDepth 100000 in
theorem cl_builds (l : Launch) (hl : l.stackTraces = false) {D : va_G} {ca ad : Nat → Nat} {np nb eD tS sB : Nat} {Z : (Nat → Prop) → State → Heap → Prop} (hZ : ZOK Z) (hX : ZX Z) {tO : Nat} {sK sV : Nat → Nat} (hO : ZO Z tO sK sV) {tA tU L : Nat} {xs : Nat → Int32} (hW : ZWO Z tA tU sB L xs) (hg : np ≤ 4 ∧ nb ≤ 4 ∧ (np = 0 → nb = 0)) (fu : Nat) (x3 : Int32) (mem : Mem) (res : (Int32 × Mem)) (hF : KL_builds L xs np nb fu x3 mem = some res) : CJw l D (tyL ca) (255 + nW np nb) ad (cJ ca ad np nb eD tS sB) Z yL_builds cL_builds 11 .boolean hhB rl_builds [.ref (ad 0), .ref (ad (255 + 0)), .ref sB, .int x3] mem res.1 res.2 := by
  refine xstart_w (own := RL) rfl (by decide) (Nat.le_of_ble_eq_true rfl) ?_
  intro p e s m args below meth c Q hQ htb X
  have ec_alike := rlc_alike
  have ei_rmA1 : rmA1.cells = 0 ∧ rmA1.slots = 0 := ⟨rfl, rfl⟩
  have ei_rm_X11_turnOf : rm_X11_turnOf.cells = 0 ∧ rm_X11_turnOf.slots = 0 := ⟨rfl, rfl⟩
  have ei_rm_X11_undo : rm_X11_undo.cells = 0 ∧ rm_X11_undo.slots = 0 := ⟨rfl, rfl⟩
  rw [KL_builds] at hF
  revert hF
  have w_222 : ∀  (n : Nat) (hn : n ≤ 5) (x10 : Int32) (mem : Mem), KL_builds_222 L xs np nb fu  n x10 mem = some res → XX D (255 + nW np nb) ad (cJ ca ad np nb eD tS sB) p l e rl_builds s m args below meth c 11 (75 + (5 - n) * 3) (450 + (5 - n) * 18) Q mem [] 222 [(0, .ref (ad 0)), (1, .ref (ad (255 + 0))), (10, .int x10)] [] := by
    intro  n
    induction n with
    | zero => intro hn x10 mem hF; exact no_none (show (none : Option (Int32 × Mem)) = some res from hF)
    | succ n ih =>
      intro hn x10 mem hF
      rw [KL_builds_222] at hF
      refine x_iload X 2 dL_builds_222 rfl 224 rfl ?_
      refine x_aload_n X 1 dL_builds_224 rfl rfl 225 rfl ?_
      refine x_getV (v := .ref (ad (255 + 1))) X (255 + 0) (lj nw_0) kj_0 (T := TX12) (N := 11) rfl in_X12 5 (by decide) kF_L_61 rfl rfl dL_builds_225 228 rfl ?_
      refine xj_size X hZ hW kL_L_65 ⟨Nat.le_of_ble_eq_true rfl, Nat.le_of_ble_eq_true rfl⟩ (Nat.le_of_ble_eq_true rfl) ⟨by show _ ≤ 321; omega, by show _ ≤ 1926; omega⟩ dL_builds_228 233 rfl ?_
      refine x_icmp_ge X hF 253 236 dL_builds_233 (by decide) rfl (fun hF => ?_) (fun hF => ?_)
      · refine x_aload_n X 0 dL_builds_236 rfl rfl 237 rfl ?_
        refine x_iload X 2 dL_builds_237 rfl 239 rfl ?_
        refine j_callT (cf1 := cC ca ad) hb_C (fun j f h => cJ_C j f h) X hZ hF [.int x10] 0 lj_c kj_c rfl rfl rfl kB_X11_distance kL_L_167 (fun r h => by rw [ad_0, mem_0]; exact ct_X11_distance l hl hZ hX hO fu x10 mem r h) rfl rfl rfl ⟨Nat.le_of_ble_eq_true rfl, Nat.le_of_ble_eq_true rfl⟩ (Nat.le_of_ble_eq_true rfl) ⟨by show _ ≤ 321; omega, by show _ ≤ 1926; omega⟩ dL_builds_239 242 rfl (fun x_1 m_1 hF => ?_)
        refine x_letm hF (fun m_2 hF => ?_)
        refine x_if_ge X hF 247 245 dL_builds_242 (by decide) rfl (fun hF => ?_) (fun hF => ?_)
        · refine x_iconst X 0 dL_builds_245 rfl 246 rfl ?_
          exact x_iret X hQ (o_inj1 hF) (o_inj2 hF) rfl (by show _ ≤ 321; omega) (by show _ ≤ 1926; omega) dL_builds_246
        · refine x_iinc X 2 (x10 + 1) [(10, .int (x10 + 1)), (0, .ref (ad 0)), (1, .ref (ad (255 + 0)))] dL_builds_247 rfl rfl (by decide) rfl 250 rfl ?_
          refine x_goto X 222 dL_builds_250 (by decide) ?_
          refine x_keep [1, 2, 0] rfl ?_
          refine x_widen (k := (75 + (5 - n) * 3)) (k2 := (450 + (5 - n) * 18)) (by omega) (by omega) ?_
          exact ih (by omega) (x10 + 1) m_2 hF
      · refine x_aload_n X 0 dL_builds_253 rfl rfl 254 rfl ?_
        refine j_callVi (fun x => x.1) (fun x => x.2) (cf1 := cC ca ad) hb_C (fun j f h => cJ_C j f h) X hZ hF [] 0 lj_c kj_c rfl rfl rfl kB_X11_undo kL_L_211 (fun r h => by rw [ad_0, mem_0]; exact ct_X11_undo l hZ hO fu  mem r h) rfl ⟨Nat.le_of_ble_eq_true rfl, Nat.le_of_ble_eq_true rfl⟩ (Nat.le_of_ble_eq_true rfl) ⟨by show _ ≤ 321; omega, by show _ ≤ 1926; omega⟩ dL_builds_254 257 rfl (fun p_3 hF => ?_)
        refine x_letm hF (fun m_4 hF => ?_)
        refine x_if_lt X hF 272 260 dL_builds_257 (by decide) rfl (fun hF => ?_) (fun hF => ?_)
        · refine x_iconst X 0 dL_builds_272 rfl 273 rfl ?_
          exact x_iret X hQ (o_inj1 hF) (o_inj2 hF) rfl (by show _ ≤ 321; omega) (by show _ ≤ 1926; omega) dL_builds_273
        · refine x_aload_n X 0 dL_builds_260 rfl rfl 261 rfl ?_
          refine x_aload_n X 1 dL_builds_261 rfl rfl 262 rfl ?_
          refine x_callSi (fun x => x.1) (fun x => x.2) X hZ hF [.ref (ad 0), .ref (ad (255 + 0))] rfl kB_L_alike kL_L_214 (fun res h => cl_alike l hl hZ hX hO hW hg fu  m_4 res h) rfl ⟨Nat.le_of_ble_eq_true rfl, Nat.le_of_ble_eq_true rfl⟩ (Nat.le_of_ble_eq_true rfl) ⟨by show _ ≤ 321; omega, by show _ ≤ 1926; omega⟩ dL_builds_262 265 rfl (fun p_5 hF => ?_)
          refine x_if_eq X hF 272 268 dL_builds_265 (by decide) rfl (fun hF => ?_) (fun hF => ?_)
          · refine x_iconst X 0 dL_builds_272 rfl 273 rfl ?_
            exact x_iret X hQ (o_inj1 hF) (o_inj2 hF) rfl (by show _ ≤ 321; omega) (by show _ ≤ 1926; omega) dL_builds_273
          · refine x_iconst X 1 dL_builds_268 rfl 269 rfl ?_
            refine x_goto X 273 dL_builds_269 (by decide) ?_
            exact x_iret X hQ (o_inj1 hF) (o_inj2 hF) rfl (by show _ ≤ 321; omega) (by show _ ≤ 1926; omega) dL_builds_273
  have w_70 : ∀  (n : Nat) (hn : n ≤ 5) (x4 : Int32) (x5 : Int32) (x6 : Int32) (x7 : Int32) (x8 : Int32) (mem : Mem), KL_builds_70 L xs np nb fu  n x4 x5 x6 x7 x8 mem = some res → XX D (255 + nW np nb) ad (cJ ca ad np nb eD tS sB) p l e rl_builds s m args below meth c 11 (3 + (5 - n) * 12) (18 + (5 - n) * 72) Q mem [] 70 [(0, .ref (ad 0)), (1, .ref (ad (255 + 0))), (4, .int x4), (5, .int x5), (6, .int x6), (7, .int x7), (8, .int x8)] [] := by
    intro  n
    induction n with
    | zero => intro hn x4 x5 x6 x7 x8 mem hF; exact no_none (show (none : Option (Int32 × Mem)) = some res from hF)
    | succ n ih =>
      intro hn x4 x5 x6 x7 x8 mem hF
      rw [KL_builds_70] at hF
      refine x_iload X 6 dL_builds_70 rfl 72 rfl ?_
      refine x_aload_n X 1 dL_builds_72 rfl rfl 73 rfl ?_
      refine x_getV (v := .ref (ad (255 + 1))) X (255 + 0) (lj nw_0) kj_0 (T := TX12) (N := 11) rfl in_X12 5 (by decide) kF_L_61 rfl rfl dL_builds_73 76 rfl ?_
      refine xj_size X hZ hW kL_L_65 ⟨Nat.le_of_ble_eq_true rfl, Nat.le_of_ble_eq_true rfl⟩ (Nat.le_of_ble_eq_true rfl) ⟨by show _ ≤ 321; omega, by show _ ≤ 1926; omega⟩ dL_builds_76 81 rfl ?_
      refine x_icmp_ge X hF 144 84 dL_builds_81 (by decide) rfl (fun hF => ?_) (fun hF => ?_)
      · refine x_iload X 5 dL_builds_84 rfl 86 rfl ?_
        refine x_if_eq X hF 138 89 dL_builds_86 (by decide) rfl (fun hF => ?_) (fun hF => ?_)
        · refine x_iinc X 6 (x8 + 1) [(8, .int (x8 + 1)), (0, .ref (ad 0)), (1, .ref (ad (255 + 0))), (4, .int x4), (5, .int x5), (6, .int x6), (7, .int x7)] dL_builds_138 rfl rfl (by decide) rfl 141 rfl ?_
          refine x_goto X 70 dL_builds_141 (by decide) ?_
          refine x_keep [1, 2, 3, 4, 5, 6, 0] rfl ?_
          refine x_widen (k := (3 + (5 - n) * 12)) (k2 := (18 + (5 - n) * 72)) (by omega) (by omega) ?_
          exact ih (by omega) x4 x5 x6 x7 (x8 + 1) mem hF
        · refine x_aload_n X 0 dL_builds_89 rfl rfl 90 rfl ?_
          refine x_iload X 6 dL_builds_90 rfl 92 rfl ?_
          refine x_iload X 2 dL_builds_92 rfl 94 rfl ?_
          refine x_iload X 3 dL_builds_94 rfl 96 rfl ?_
          refine x_iload X 4 dL_builds_96 rfl 98 rfl ?_
          refine j_callT (cf1 := cC ca ad) hb_C (fun j f h => cJ_C j f h) X hZ hF [.int x8, .int x4, .int x5, .int x6] 0 lj_c kj_c rfl rfl rfl kB_X11_harm kL_L_204 (fun r h => by rw [ad_0, mem_0]; exact ct_X11_harm l hl hZ hX hO fu x8 x4 x5 x6 mem r h) rfl rfl rfl ⟨Nat.le_of_ble_eq_true rfl, Nat.le_of_ble_eq_true rfl⟩ (Nat.le_of_ble_eq_true rfl) ⟨by show _ ≤ 321; omega, by show _ ≤ 1926; omega⟩ dL_builds_98 101 rfl (fun x_6 m_6 hF => ?_)
          refine x_letm hF (fun m_7 hF => ?_)
          refine x_if_lt X hF 136 104 dL_builds_101 (by decide) rfl (fun hF => ?_) (fun hF => ?_)
          · refine x_iconst X 0 dL_builds_136 rfl 137 rfl ?_
            exact x_iret X hQ (o_inj1 hF) (o_inj2 hF) rfl (by show _ ≤ 321; omega) (by show _ ≤ 1926; omega) dL_builds_137
          · refine x_aload_n X 0 dL_builds_104 rfl rfl 105 rfl ?_
            refine x_iload X 6 dL_builds_105 rfl 107 rfl ?_
            refine x_bipush X 6 dL_builds_107 rfl 109 rfl ?_
            refine j_callT (cf1 := cC ca ad) hb_C (fun j f h => cJ_C j f h) X hZ hF [.int x8, .int 6] 0 lj_c kj_c rfl rfl rfl kB_X11_pawn kL_L_70 (fun r h => by rw [ad_0, mem_0]; exact ct_X11_pawn l hl hZ hX hO fu x8 6 m_7 r h) rfl rfl rfl ⟨Nat.le_of_ble_eq_true rfl, Nat.le_of_ble_eq_true rfl⟩ (Nat.le_of_ble_eq_true rfl) ⟨by show _ ≤ 321; omega, by show _ ≤ 1926; omega⟩ dL_builds_109 112 rfl (fun x_8 m_8 hF => ?_)
            refine x_letm hF (fun m_9 hF => ?_)
            refine x_if_ne X hF 138 115 dL_builds_112 (by decide) rfl (fun hF => ?_) (fun hF => ?_)
            · refine x_aload_n X 0 dL_builds_115 rfl rfl 116 rfl ?_
              refine x_iload X 6 dL_builds_116 rfl 118 rfl ?_
              refine x_iload X 2 dL_builds_118 rfl 120 rfl ?_
              refine x_iload X 3 dL_builds_120 rfl 122 rfl ?_
              refine x_iload X 4 dL_builds_122 rfl 124 rfl ?_
              refine j_callT (cf1 := cC ca ad) hb_C (fun j f h => cJ_C j f h) X hZ hF [.int x8, .int x4, .int x5, .int x6] 0 lj_c kj_c rfl rfl rfl kB_X11_harm kL_L_204 (fun r h => by rw [ad_0, mem_0]; exact ct_X11_harm l hl hZ hX hO fu x8 x4 x5 x6 m_9 r h) rfl rfl rfl ⟨Nat.le_of_ble_eq_true rfl, Nat.le_of_ble_eq_true rfl⟩ (Nat.le_of_ble_eq_true rfl) ⟨by show _ ≤ 321; omega, by show _ ≤ 1926; omega⟩ dL_builds_124 127 rfl (fun x_10 m_10 hF => ?_)
              refine x_letm hF (fun m_11 hF => ?_)
              refine x_aload_n X 0 dL_builds_127 rfl rfl 128 rfl ?_
              refine x_iload X 6 dL_builds_128 rfl 130 rfl ?_
              refine j_callT (cf1 := cC ca ad) hb_C (fun j f h => cJ_C j f h) X hZ hF [.int x8] 0 lj_c kj_c rfl rfl rfl kB_X11_gain kL_L_208 (fun r h => by rw [ad_0, mem_0]; exact ct_X11_gain l hl hZ hX hO fu x8 m_11 r h) rfl rfl rfl ⟨Nat.le_of_ble_eq_true rfl, Nat.le_of_ble_eq_true rfl⟩ (Nat.le_of_ble_eq_true rfl) ⟨by show _ ≤ 321; omega, by show _ ≤ 1926; omega⟩ dL_builds_130 133 rfl (fun x_12 m_12 hF => ?_)
              refine x_letm hF (fun m_13 hF => ?_)
              refine x_icmp_le X hF 138 136 dL_builds_133 (by decide) rfl (fun hF => ?_) (fun hF => ?_)
              · refine x_iconst X 0 dL_builds_136 rfl 137 rfl ?_
                exact x_iret X hQ (o_inj1 hF) (o_inj2 hF) rfl (by show _ ≤ 321; omega) (by show _ ≤ 1926; omega) dL_builds_137
              · refine x_iinc X 6 (x8 + 1) [(8, .int (x8 + 1)), (0, .ref (ad 0)), (1, .ref (ad (255 + 0))), (4, .int x4), (5, .int x5), (6, .int x6), (7, .int x7)] dL_builds_138 rfl rfl (by decide) rfl 141 rfl ?_
                refine x_goto X 70 dL_builds_141 (by decide) ?_
                refine x_keep [1, 2, 3, 4, 5, 6, 0] rfl ?_
                refine x_widen (k := (3 + (5 - n) * 12)) (k2 := (18 + (5 - n) * 72)) (by omega) (by omega) ?_
                exact ih (by omega) x4 x5 x6 x7 (x8 + 1) m_13 hF
            · refine x_iinc X 6 (x8 + 1) [(8, .int (x8 + 1)), (0, .ref (ad 0)), (1, .ref (ad (255 + 0))), (4, .int x4), (5, .int x5), (6, .int x6), (7, .int x7)] dL_builds_138 rfl rfl (by decide) rfl 141 rfl ?_
              refine x_goto X 70 dL_builds_141 (by decide) ?_
              refine x_keep [1, 2, 3, 4, 5, 6, 0] rfl ?_
              refine x_widen (k := (3 + (5 - n) * 12)) (k2 := (18 + (5 - n) * 72)) (by omega) (by omega) ?_
              exact ih (by omega) x4 x5 x6 x7 (x8 + 1) m_9 hF
      · refine x_aload_n X 0 dL_builds_144 rfl rfl 145 rfl ?_
        refine j_callVi (fun x => x) (fun _ => (fun j => mem (0 + j))) (cf1 := cC ca ad) hb_C (fun j f h => cJ_C j f h) X hZ hF [] 0 lj_c kj_c rfl rfl rfl kB_X11_turnOf kL_L_55 (fun r h => by rw [ad_0, mem_0]; exact ct_X11_turnOf l hZ hO fu  mem r h) rfl ⟨Nat.le_of_ble_eq_true rfl, Nat.le_of_ble_eq_true rfl⟩ (Nat.le_of_ble_eq_true rfl) ⟨by show _ ≤ 321; omega, by show _ ≤ 1926; omega⟩ dL_builds_145 148 rfl (fun x_14 hF => ?_)
        rw [mset_id]
        refine x_istore X [(8, .int x_14), (0, .ref (ad 0)), (1, .ref (ad (255 + 0))), (4, .int x4), (5, .int x5), (6, .int x6), (7, .int x7)] dL_builds_148 (by decide) rfl 150 rfl ?_
        refine x_iload X 0 dL_builds_150 rfl 152 rfl ?_
        refine x_if_lt X hF 165 155 dL_builds_152 (by decide) rfl (fun hF => ?_) (fun hF => ?_)
        · refine x_iconst X 1 dL_builds_165 rfl 166 rfl ?_
          exact x_iret X hQ (o_inj1 hF) (o_inj2 hF) rfl (by show _ ≤ 321; omega) (by show _ ≤ 1926; omega) dL_builds_166
        · refine x_aload_n X 1 dL_builds_155 rfl rfl 156 rfl ?_
          refine x_iload X 0 dL_builds_156 rfl 158 rfl ?_
          refine x_iconst X 3 dL_builds_158 rfl 159 rfl ?_
          refine j_callT (cf1 := cC ca ad) hb_C (fun j f h => cJ_C j f h) X hZ hF [.int x_14, .int 3] 0 lj_c kj_c rfl rfl rfl kB_X11_pawn kL_L_70 (fun r h => by rw [ad_0, mem_0]; exact ct_X11_pawn l hl hZ hX hO fu x_14 3 mem r h) rfl rfl rfl ⟨Nat.le_of_ble_eq_true rfl, Nat.le_of_ble_eq_true rfl⟩ (Nat.le_of_ble_eq_true rfl) ⟨by show _ ≤ 321; omega, by show _ ≤ 1926; omega⟩ dL_builds_159 162 rfl (fun x_15 m_15 hF => ?_)
          refine x_letm hF (fun m_16 hF => ?_)
          refine x_if_ne X hF 167 165 dL_builds_162 (by decide) rfl (fun hF => ?_) (fun hF => ?_)
          · refine x_iconst X 1 dL_builds_165 rfl 166 rfl ?_
            exact x_iret X hQ (o_inj1 hF) (o_inj2 hF) rfl (by show _ ≤ 321; omega) (by show _ ≤ 1926; omega) dL_builds_166
          · refine x_aload_n X 1 dL_builds_167 rfl rfl 168 rfl ?_
            refine x_iload X 3 dL_builds_168 rfl 170 rfl ?_
            refine x_iload X 4 dL_builds_170 rfl 172 rfl ?_
            refine x_iload X 5 dL_builds_172 rfl 174 rfl ?_
            refine j_callX (hh := hhB) hb_C (fun j f h => cJ_C j f h) X hZ hX htb hF [.int x4, .int x5, .int x6] rfl rfl kB_X11_build kL_L_124 (fun r h => ct_X11_build l hl hZ hX hO fu x4 x5 x6 m_16 r h) rfl rfl rfl ⟨Nat.le_of_ble_eq_true rfl, Nat.le_of_ble_eq_true rfl⟩ (Nat.le_of_ble_eq_true rfl) ⟨by show _ ≤ 321; omega, by show _ ≤ 1926; omega⟩ dL_builds_174 177 rfl (fun k m1 hk1 hk3 hF => ?_) (fun x_17 m_17 hF => ?_)
            · by_cases hk2 : k = 2
              · rw [if_pos hk2] at hF
                subst hk2
                refine ⟨_, _, rfl, by decide, by decide, kCl_L_217, fun a9 => ?_⟩
                refine x_letm hF (fun m_18 hF => ?_)
                refine x_astore X [(9, .ref a9), (8, .int x_14), (0, .ref (ad 0)), (1, .ref (ad (255 + 0))), (4, .int x4), (5, .int x5), (6, .int x6), (7, .int x7)] dL_builds_274 (by decide) rfl 276 rfl ?_
                refine x_iload X 7 dL_builds_276 rfl 278 rfl ?_
                refine x_if_ne X hF 293 281 dL_builds_278 (by decide) rfl (fun hF => ?_) (fun hF => ?_)
                · refine x_aload_n X 2 dL_builds_281 rfl rfl 282 rfl ?_
                  refine x_aload_n X 3 dL_builds_282 rfl rfl 283 rfl ?_
                  refine x_callSi (fun x => x.1) (fun x => x.2) X hZ hF [.ref (ad 0), .ref (ad (255 + 0))] rfl kB_L_alike kL_L_214 (fun res h => cl_alike l hl hZ hX hO hW hg fu  m_18 res h) rfl ⟨Nat.le_of_ble_eq_true rfl, Nat.le_of_ble_eq_true rfl⟩ (Nat.le_of_ble_eq_true rfl) ⟨by show _ ≤ 321; omega, by show _ ≤ 1926; omega⟩ dL_builds_283 286 rfl (fun p_19 hF => ?_)
                  refine x_if_eq X hF 293 289 dL_builds_286 (by decide) rfl (fun hF => ?_) (fun hF => ?_)
                  · refine x_iconst X 0 dL_builds_293 rfl 294 rfl ?_
                    exact x_iret X hQ (o_inj1 hF) (o_inj2 hF) rfl (by show _ ≤ 321; omega) (by show _ ≤ 1926; omega) dL_builds_294
                  · refine x_iconst X 1 dL_builds_289 rfl 290 rfl ?_
                    refine x_goto X 294 dL_builds_290 (by decide) ?_
                    exact x_iret X hQ (o_inj1 hF) (o_inj2 hF) rfl (by show _ ≤ 321; omega) (by show _ ≤ 1926; omega) dL_builds_294
                · refine x_iconst X 0 dL_builds_293 rfl 294 rfl ?_
                  exact x_iret X hQ (o_inj1 hF) (o_inj2 hF) rfl (by show _ ≤ 321; omega) (by show _ ≤ 1926; omega) dL_builds_294
              · rw [if_neg hk2] at hF
                exact no_none hF
            · refine x_letm hF (fun m_20 hF => ?_)
              refine x_istore X [(9, .int x_17), (8, .int x_14), (0, .ref (ad 0)), (1, .ref (ad (255 + 0))), (4, .int x4), (5, .int x5), (6, .int x6), (7, .int x7)] dL_builds_177 (by decide) rfl 179 rfl ?_
              refine x_iload X 7 dL_builds_179 rfl 181 rfl ?_
              refine x_if_eq X hF 217 184 dL_builds_181 (by decide) rfl (fun hF => ?_) (fun hF => ?_)
              · refine x_iconst X 0 dL_builds_217 rfl 218 rfl ?_
                exact x_iret X hQ (o_inj1 hF) (o_inj2 hF) rfl (by show _ ≤ 321; omega) (by show _ ≤ 1926; omega) dL_builds_218
              · refine x_aload_n X 2 dL_builds_184 rfl rfl 185 rfl ?_
                refine x_iload X 4 dL_builds_185 rfl 187 rfl ?_
                refine x_iload X 5 dL_builds_187 rfl 189 rfl ?_
                refine j_callT (cf1 := cC ca ad) hb_C (fun j f h => cJ_C j f h) X hZ hF [.int x4, .int x5] 0 lj_c kj_c rfl rfl rfl kB_X11_wallAt kL_L_86 (fun r h => by rw [ad_0, mem_0]; exact ct_X11_wallAt l hl hZ hX hO fu x4 x5 m_20 r h) rfl rfl rfl ⟨Nat.le_of_ble_eq_true rfl, Nat.le_of_ble_eq_true rfl⟩ (Nat.le_of_ble_eq_true rfl) ⟨by show _ ≤ 321; omega, by show _ ≤ 1926; omega⟩ dL_builds_189 192 rfl (fun x_21 m_21 hF => ?_)
                refine x_letm hF (fun m_22 hF => ?_)
                refine x_iload X 6 dL_builds_192 rfl 194 rfl ?_
                refine x_if_eq X hF 201 197 dL_builds_194 (by decide) rfl (fun hF => ?_) (fun hF => ?_)
                · refine x_iconst X 0 dL_builds_201 rfl 202 rfl ?_
                  refine x_icmp_ne X hF 217 205 dL_builds_202 (by decide) rfl (fun hF => ?_) (fun hF => ?_)
                  · refine x_iload X 0 dL_builds_205 rfl 207 rfl ?_
                    refine x_aload_n X 2 dL_builds_207 rfl rfl 208 rfl ?_
                    refine x_iload X 1 dL_builds_208 rfl 210 rfl ?_
                    refine x_iconst X 3 dL_builds_210 rfl 211 rfl ?_
                    refine j_callT (cf1 := cC ca ad) hb_C (fun j f h => cJ_C j f h) X hZ hF [.int x_14, .int 3] 0 lj_c kj_c rfl rfl rfl kB_X11_pawn kL_L_70 (fun r h => by rw [ad_0, mem_0]; exact ct_X11_pawn l hl hZ hX hO fu x_14 3 m_22 r h) rfl rfl rfl ⟨Nat.le_of_ble_eq_true rfl, Nat.le_of_ble_eq_true rfl⟩ (Nat.le_of_ble_eq_true rfl) ⟨by show _ ≤ 321; omega, by show _ ≤ 1926; omega⟩ dL_builds_211 214 rfl (fun x_23 m_23 hF => ?_)
                    refine x_letm hF (fun m_24 hF => ?_)
                    refine x_icmp_eq X hF 219 217 dL_builds_214 (by decide) rfl (fun hF => ?_) (fun hF => ?_)
                    · refine x_iconst X 0 dL_builds_219 rfl 220 rfl ?_
                      refine x_istore X [(10, .int 0), (9, .int x_17), (8, .int x_14), (0, .ref (ad 0)), (1, .ref (ad (255 + 0))), (4, .int x4), (5, .int x5), (6, .int x6), (7, .int x7)] dL_builds_220 (by decide) rfl 222 rfl ?_
                      refine x_keep [3, 4, 0] rfl ?_
                      refine x_widen (k := (75 + (5 - 5) * 3)) (k2 := (450 + (5 - 5) * 18)) (by omega) (by omega) ?_
                      exact w_222  5 (by omega) 0 m_24 hF
                    · refine x_iconst X 0 dL_builds_217 rfl 218 rfl ?_
                      exact x_iret X hQ (o_inj1 hF) (o_inj2 hF) rfl (by show _ ≤ 321; omega) (by show _ ≤ 1926; omega) dL_builds_218
                  · refine x_iconst X 0 dL_builds_217 rfl 218 rfl ?_
                    exact x_iret X hQ (o_inj1 hF) (o_inj2 hF) rfl (by show _ ≤ 321; omega) (by show _ ≤ 1926; omega) dL_builds_218
                · refine x_iconst X 1 dL_builds_197 rfl 198 rfl ?_
                  refine x_goto X 202 dL_builds_198 (by decide) ?_
                  refine x_icmp_ne X hF 217 205 dL_builds_202 (by decide) rfl (fun hF => ?_) (fun hF => ?_)
                  · refine x_iload X 0 dL_builds_205 rfl 207 rfl ?_
                    refine x_aload_n X 2 dL_builds_207 rfl rfl 208 rfl ?_
                    refine x_iload X 1 dL_builds_208 rfl 210 rfl ?_
                    refine x_iconst X 3 dL_builds_210 rfl 211 rfl ?_
                    refine j_callT (cf1 := cC ca ad) hb_C (fun j f h => cJ_C j f h) X hZ hF [.int x_14, .int 3] 0 lj_c kj_c rfl rfl rfl kB_X11_pawn kL_L_70 (fun r h => by rw [ad_0, mem_0]; exact ct_X11_pawn l hl hZ hX hO fu x_14 3 m_22 r h) rfl rfl rfl ⟨Nat.le_of_ble_eq_true rfl, Nat.le_of_ble_eq_true rfl⟩ (Nat.le_of_ble_eq_true rfl) ⟨by show _ ≤ 321; omega, by show _ ≤ 1926; omega⟩ dL_builds_211 214 rfl (fun x_25 m_25 hF => ?_)
                    refine x_letm hF (fun m_26 hF => ?_)
                    refine x_icmp_eq X hF 219 217 dL_builds_214 (by decide) rfl (fun hF => ?_) (fun hF => ?_)
                    · refine x_iconst X 0 dL_builds_219 rfl 220 rfl ?_
                      refine x_istore X [(10, .int 0), (9, .int x_17), (8, .int x_14), (0, .ref (ad 0)), (1, .ref (ad (255 + 0))), (4, .int x4), (5, .int x5), (6, .int x6), (7, .int x7)] dL_builds_220 (by decide) rfl 222 rfl ?_
                      refine x_keep [3, 4, 0] rfl ?_
                      refine x_widen (k := (75 + (5 - 5) * 3)) (k2 := (450 + (5 - 5) * 18)) (by omega) (by omega) ?_
                      exact w_222  5 (by omega) 0 m_26 hF
                    · refine x_iconst X 0 dL_builds_217 rfl 218 rfl ?_
                      exact x_iret X hQ (o_inj1 hF) (o_inj2 hF) rfl (by show _ ≤ 321; omega) (by show _ ≤ 1926; omega) dL_builds_218
                  · refine x_iconst X 0 dL_builds_217 rfl 218 rfl ?_
                    exact x_iret X hQ (o_inj1 hF) (o_inj2 hF) rfl (by show _ ≤ 321; omega) (by show _ ≤ 1926; omega) dL_builds_218
  intro hF
  refine x_aload_n X 2 dL_builds_0 rfl rfl 1 rfl ?_
  refine x_sipush X 500 dL_builds_1 rfl 4 rfl ?_
  refine x_iload_n X 3 dL_builds_4 rfl rfl 5 rfl ?_
  refine x_iadd X dL_builds_5 6 rfl ?_
  refine x_aload_n X 1 dL_builds_6 rfl rfl 7 rfl ?_
  refine x_getV (v := .int (rd mem (255 + 0) 0)) X (255 + 0) (lj nw_0) kj_0 (T := TX12) (N := 11) rfl in_X12 0 (by decide) kF_L_83 rfl rfl dL_builds_7 10 rfl ?_
  refine x_iconst X 1 dL_builds_10 rfl 11 rfl ?_
  refine x_isub X dL_builds_11 12 rfl ?_
  refine x_callSi (fun x => x) (fun _ => mem) X hZ hF [.ref sB, .int (500 + x3), .int ((rd mem (255 + 0) 0) - 1)] rfl kB_L_pick kL_L_93 (fun res h => cl_pick l hZ hW fu (500 + x3) ((rd mem (255 + 0) 0) - 1) res h) rfl ⟨Nat.le_of_ble_eq_true rfl, Nat.le_of_ble_eq_true rfl⟩ (Nat.le_of_ble_eq_true rfl) ⟨Nat.le_of_ble_eq_true rfl, Nat.le_of_ble_eq_true rfl⟩ dL_builds_12 15 rfl (fun x_27 hF => ?_)
  refine x_istore X [(4, .int x_27), (0, .ref (ad 0)), (1, .ref (ad (255 + 0))), (2, .ref sB), (3, .int x3)] dL_builds_15 (by decide) rfl 17 rfl ?_
  refine x_aload_n X 3 dL_builds_17 rfl rfl 18 rfl ?_
  refine x_sipush X 520 dL_builds_18 rfl 21 rfl ?_
  refine x_iload_n X 4 dL_builds_21 rfl rfl 22 rfl ?_
  refine x_iadd X dL_builds_22 23 rfl ?_
  refine x_aload_n X 2 dL_builds_23 rfl rfl 24 rfl ?_
  refine x_getV (v := .int (rd mem (255 + 0) 1)) X (255 + 0) (lj nw_0) kj_0 (T := TX12) (N := 11) rfl in_X12 1 (by decide) kF_L_80 rfl rfl dL_builds_24 27 rfl ?_
  refine x_iconst X 1 dL_builds_27 rfl 28 rfl ?_
  refine x_isub X dL_builds_28 29 rfl ?_
  refine x_callSi (fun x => x) (fun _ => mem) X hZ hF [.ref sB, .int (520 + x3), .int ((rd mem (255 + 0) 1) - 1)] rfl kB_L_pick kL_L_93 (fun res h => cl_pick l hZ hW fu (520 + x3) ((rd mem (255 + 0) 1) - 1) res h) rfl ⟨Nat.le_of_ble_eq_true rfl, Nat.le_of_ble_eq_true rfl⟩ (Nat.le_of_ble_eq_true rfl) ⟨Nat.le_of_ble_eq_true rfl, Nat.le_of_ble_eq_true rfl⟩ dL_builds_29 32 rfl (fun x_28 hF => ?_)
  refine x_istore X [(5, .int x_28), (4, .int x_27), (0, .ref (ad 0)), (1, .ref (ad (255 + 0))), (2, .ref sB), (3, .int x3)] dL_builds_32 (by decide) rfl 34 rfl ?_
  refine x_aload_n X 4 dL_builds_34 rfl rfl 35 rfl ?_
  refine x_sipush X 540 dL_builds_35 rfl 38 rfl ?_
  refine x_iload_n X 5 dL_builds_38 rfl rfl 39 rfl ?_
  refine x_iadd X dL_builds_39 40 rfl ?_
  refine x_iconst X 2 dL_builds_40 rfl 41 rfl ?_
  refine x_callSi (fun x => x) (fun _ => mem) X hZ hF [.ref sB, .int (540 + x3), .int 2] rfl kB_L_pick kL_L_93 (fun res h => cl_pick l hZ hW fu (540 + x3) 2 res h) rfl ⟨Nat.le_of_ble_eq_true rfl, Nat.le_of_ble_eq_true rfl⟩ (Nat.le_of_ble_eq_true rfl) ⟨Nat.le_of_ble_eq_true rfl, Nat.le_of_ble_eq_true rfl⟩ dL_builds_41 44 rfl (fun x_29 hF => ?_)
  refine x_iconst X 1 dL_builds_44 rfl 45 rfl ?_
  refine x_icmp_ne X hF 52 48 dL_builds_45 (by decide) rfl (fun hF => ?_) (fun hF => ?_)
  · refine x_iconst X 1 dL_builds_48 rfl 49 rfl ?_
    refine x_goto X 53 dL_builds_49 (by decide) ?_
    refine x_istore X [(6, .int 1), (5, .int x_28), (4, .int x_27), (0, .ref (ad 0)), (1, .ref (ad (255 + 0))), (2, .ref sB), (3, .int x3)] dL_builds_53 (by decide) rfl 55 rfl ?_
    refine x_aload_n X 3 dL_builds_55 rfl rfl 56 rfl ?_
    refine x_iload X 2 dL_builds_56 rfl 58 rfl ?_
    refine x_iload X 1 dL_builds_58 rfl 60 rfl ?_
    refine x_iload X 0 dL_builds_60 rfl 62 rfl ?_
    refine j_callT (cf1 := cC ca ad) hb_C (fun j f h => cJ_C j f h) X hZ hF [.int x_27, .int x_28, .int 1] 0 lj_c kj_c rfl rfl rfl kB_X11_isAdmissible kL_L_121 (fun r h => by rw [ad_0, mem_0]; exact ct_X11_isAdmissible l hl hZ hX hO fu x_27 x_28 1 mem r h) rfl rfl rfl ⟨Nat.le_of_ble_eq_true rfl, Nat.le_of_ble_eq_true rfl⟩ (Nat.le_of_ble_eq_true rfl) ⟨Nat.le_of_ble_eq_true rfl, Nat.le_of_ble_eq_true rfl⟩ dL_builds_62 65 rfl (fun x_30 m_30 hF => ?_)
    refine x_letm hF (fun m_31 hF => ?_)
    refine x_istore X [(7, .int x_30), (6, .int 1), (5, .int x_28), (4, .int x_27), (0, .ref (ad 0)), (1, .ref (ad (255 + 0))), (2, .ref sB), (3, .int x3)] dL_builds_65 (by decide) rfl 67 rfl ?_
    refine x_iconst X 0 dL_builds_67 rfl 68 rfl ?_
    refine x_istore X [(8, .int 0), (7, .int x_30), (6, .int 1), (5, .int x_28), (4, .int x_27), (0, .ref (ad 0)), (1, .ref (ad (255 + 0))), (2, .ref sB), (3, .int x3)] dL_builds_68 (by decide) rfl 70 rfl ?_
    refine x_keep [5, 6, 4, 3, 2, 1, 0] rfl ?_
    refine x_widen (k := (3 + (5 - 5) * 12)) (k2 := (18 + (5 - 5) * 72)) (by omega) (by omega) ?_
    exact w_70  5 (by omega) x_27 x_28 1 x_30 0 m_31 hF
  · refine x_iconst X 0 dL_builds_52 rfl 53 rfl ?_
    refine x_istore X [(6, .int 0), (5, .int x_28), (4, .int x_27), (0, .ref (ad 0)), (1, .ref (ad (255 + 0))), (2, .ref sB), (3, .int x3)] dL_builds_53 (by decide) rfl 55 rfl ?_
    refine x_aload_n X 3 dL_builds_55 rfl rfl 56 rfl ?_
    refine x_iload X 2 dL_builds_56 rfl 58 rfl ?_
    refine x_iload X 1 dL_builds_58 rfl 60 rfl ?_
    refine x_iload X 0 dL_builds_60 rfl 62 rfl ?_
    refine j_callT (cf1 := cC ca ad) hb_C (fun j f h => cJ_C j f h) X hZ hF [.int x_27, .int x_28, .int 0] 0 lj_c kj_c rfl rfl rfl kB_X11_isAdmissible kL_L_121 (fun r h => by rw [ad_0, mem_0]; exact ct_X11_isAdmissible l hl hZ hX hO fu x_27 x_28 0 mem r h) rfl rfl rfl ⟨Nat.le_of_ble_eq_true rfl, Nat.le_of_ble_eq_true rfl⟩ (Nat.le_of_ble_eq_true rfl) ⟨Nat.le_of_ble_eq_true rfl, Nat.le_of_ble_eq_true rfl⟩ dL_builds_62 65 rfl (fun x_32 m_32 hF => ?_)
    refine x_letm hF (fun m_33 hF => ?_)
    refine x_istore X [(7, .int x_32), (6, .int 0), (5, .int x_28), (4, .int x_27), (0, .ref (ad 0)), (1, .ref (ad (255 + 0))), (2, .ref sB), (3, .int x3)] dL_builds_65 (by decide) rfl 67 rfl ?_
    refine x_iconst X 0 dL_builds_67 rfl 68 rfl ?_
    refine x_istore X [(8, .int 0), (7, .int x_32), (6, .int 0), (5, .int x_28), (4, .int x_27), (0, .ref (ad 0)), (1, .ref (ad (255 + 0))), (2, .ref sB), (3, .int x3)] dL_builds_68 (by decide) rfl 70 rfl ?_
    refine x_keep [5, 6, 4, 3, 2, 1, 0] rfl ?_
    refine x_widen (k := (3 + (5 - 5) * 12)) (k2 := (18 + (5 - 5) * 72)) (by omega) (by omega) ?_
    exact w_70  5 (by omega) x_27 x_28 0 x_32 0 m_33 hF

end LC
