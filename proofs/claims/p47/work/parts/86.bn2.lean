section BN2M
theorem xk (b k : Nat) : zi ((36 + 7 * b : Nat) : Int) + zi ((k : Nat) : Int) = zi ((36 + 7 * b + k : Nat) : Int) := by
  rw [zi_add]
  exact congrArg zi (by omega)
theorem xk1 (b : Nat) : zi ((36 + 7 * b : Nat) : Int) + 1 = zi ((36 + 7 * b + 1 : Nat) : Int) := xk b 1
theorem xk2 (b : Nat) : zi ((36 + 7 * b : Nat) : Int) + 2 = zi ((36 + 7 * b + 2 : Nat) : Int) := xk b 2
theorem xk3 (b : Nat) : zi ((36 + 7 * b : Nat) : Int) + 3 = zi ((36 + 7 * b + 3 : Nat) : Int) := xk b 3
theorem xk4 (b : Nat) : zi ((36 + 7 * b : Nat) : Int) + 4 = zi ((36 + 7 * b + 4 : Nat) : Int) := xk b 4
theorem xk5 (b : Nat) : zi ((36 + 7 * b : Nat) : Int) + 5 = zi ((36 + 7 * b + 5 : Nat) : Int) := xk b 5
theorem xk6 (b : Nat) : zi ((36 + 7 * b : Nat) : Int) + 6 = zi ((36 + 7 * b + 6 : Nat) : Int) := xk b 6
theorem xkc {b k : Nat} (hb : b < 12) (hk : k < 7) : (zi ((36 + 7 * b + k : Nat) : Int)).toNatClampNeg = 36 + 7 * b + k := by
  rw [zi_clamp (by omega) (by omega)]
  exact Int.toNat_natCast _
theorem xkg {b k : Nat} (hb : b < 12) (hk : k < 7) (o : Option Mem) : gi (zi ((36 + 7 * b + k : Nat) : Int)) 184 o = o := gi_zi (by omega) (by omega) (by decide)
theorem bo_f {b : Bool} (h : ¬ b = true) : b = false := by
  cases b
  · rfl
  · exact absurd rfl h
theorem m_mustWord_no (fu : Nat) {m m2 : Mem} {T : Nat → Int} {L n W : Nat} {e p : Int} (hG : GMr m T L n) (hW : W < 1125899906842624) (h : wB T L (tpo T L n) W = false) (hw : K_X12_wrong fu (zi 1) m = some m2) (hD : BDr m2 e p) : K_X12_mustWord fu (zl (W : Int)) m = some m2 := by
  have hw' : K_X12_wrong fu 1 m = some m2 := hw
  unfold K_X12_mustWord K_X12_mustWord_20
  rw [g_isGood fu hG.2.1, bd_s, if_neg z10, m_isWord fu hG hW, bd_s, h, if_pos (show zi (bi false) = 0 from rfl), hw', bd_s, b_isGood fu hD, bd_s, if_pos z00]
def kWi (fu : Nat) (x1 : Int32) (m : Mem) : Option Mem := kCl fu (x1 + 3) (x1 + 4) (fun m_27 => bd (K_X12_mustWord fu 655 m_27) (fun m_28 => kCl fu (x1 + 5) (x1 + 6) (fun m_36 => some m_36) m_28)) m
theorem b_kWi2 (fu : Nat) {m : Mem} {e p : Int} (h : BDr m e p) {b : Nat} (hb : b < 12) : ∃ m2, bd (K_X12_mustWord fu 655 m) (fun m_28 => kCl fu (zi ((36 + 7 * b : Nat) : Int) + 5) (zi ((36 + 7 * b : Nat) : Int) + 6) (fun m_36 => some m_36) m_28) = some m2 ∧ BDr m2 e p ∧ Fr PMn m m2 := by
  rw [b_mustWord fu h, bd_s]
  obtain ⟨m2, a1, a2, a3⟩ := b_kCl fu h hb (k1 := 5) (k2 := 6) (by decide) (by decide) (xk5 b) (xk6 b) (fun m_36 => some m_36)
  exact ⟨m2, a1, a2, a3⟩
theorem b_kWi (fu : Nat) {m : Mem} {e p : Int} (h : BDr m e p) {b : Nat} (hb : b < 12) : ∃ m2, kWi fu (zi ((36 + 7 * b : Nat) : Int)) m = some m2 ∧ BDr m2 e p ∧ Fr PMn m m2 := by
  unfold kWi
  obtain ⟨m2, a1, a2, a3⟩ := b_kCl fu h hb (k1 := 3) (k2 := 4) (by decide) (by decide) (xk3 b) (xk4 b) (fun m_27 => bd (K_X12_mustWord fu 655 m_27) (fun m_28 => kCl fu (zi ((36 + 7 * b : Nat) : Int) + 5) (zi ((36 + 7 * b : Nat) : Int) + 6) (fun m_36 => some m_36) m_28))
  obtain ⟨m3, b1, b2, b3⟩ := b_kWi2 fu a2 hb
  exact ⟨m3, a1.trans b1, b2, Fr_tr a3 b3⟩
/-- all that a ban's reading stands on -/
def BSt (c1 m1 c0 m0 : Mem) (T : Nat → Int) (L : Nat) (s : Nat → Int) (nm : Nat → Nat) (b : Nat) : Prop := RDs c1 m1 T L s nm ∧ b < 12 ∧ s 6 = b ∧ Fr PSc c0 c1 ∧ Fr PSm m0 m1
theorem OUT_bn {c1 m1 c0 m0 c2 m2 : Mem} {T : Nat → Int} {L N n0 : Nat} {s : Nat → Int} {nm : Nat → Nat} {b : Nat} {x : Option (Int32 × Mem)} {y : Option Mem} (hS : BSt c1 m1 c0 m0 T L s nm b) (hx : x = some (zi 0, c2)) (hy : y = some m2) (hE : EBr c2 m2) (f : Fr (PBn b) c1 c2) (g : Fr PMn m1 m2) : OUTr x y c0 m0 T L N n0 := ⟨c2, m2, Fr_tr hS.2.2.2.1 (Fr_mono f (fun k j h => Bn_Sc hS.2.1 h)), Fr_tr hS.2.2.2.2 (Fr_mono g (fun k j h => Mn_Sm h)), hy, Or.inr ⟨hx, hE⟩⟩
theorem p_within (fu : Nat) (hfu : 1000 ≤ fu) {c1 m1 c m c0 m0 : Mem} {T : Nat → Int} {L N n n0 : Nat} {s : Nat → Int} {nm : Nat → Nat} {b : Nat} {g : Nat → Int} {side : Int} (hA : CAr c T L N n) (hG : GMr m T L n) (hn : n ≤ 800) (hS : BSt c1 m1 c0 m0 T L s nm b) (hBN : BNr c1 m1 c m s b g) (h0 : n0 ≤ n) (hg0 : 0 ≤ g 0 ∧ g 0 < s 2) (hg1 : g 1 = 3) (hg2 : g 2 = side) (hsd : 0 ≤ side ∧ side ≤ 3) : OUTr (K_X7_readWithin fu 1 b (zi side) c) (bd (bd (kWi fu (zi ((36 + 7 * b : Nat) : Int)) m) (fun m_18 => tlI fu m_18)) (fun m_8 => K_X12_statement_90 fu m_8)) c0 m0 T L N n0 := by
  obtain ⟨hR, hb, h6, hc, hm⟩ := hS
  have hS : BSt c1 m1 c0 m0 T L s nm b := ⟨hR, hb, h6, hc, hm⟩
  have hz := hR.2.2.1.1.1.1
  obtain ⟨⟨w0, w1, w2, w3, w4, w5, w6, w7⟩, w8, w9, w10, w11, w12, w13, w14, w15, w16⟩ := Wt_all
  unfold K_X7_readWithin kWi
  rcases p_cellB fu hfu hA hG (by omega) hR.1 hz hb hBN (k1 := 3) (k2 := 4) (by decide) (by decide) (by decide) (by decide) (xk3 b) (xk4 b) (fun m_27 => bd (K_X12_mustWord fu 655 m_27) (fun m_28 => kCl fu (zi ((36 + 7 * b : Nat) : Int) + 5) (zi ((36 + 7 * b : Nat) : Int) + 6) (fun m_36 => some m_36) m_28)) with ⟨c2, m2, x, y, a1, a2, a3, a4, a5, a6, a7, a8⟩ | ⟨c2, m2, a1, a2, a3, a4, a5⟩
  · obtain ⟨c3, b1, hB3, b3⟩ := p_adv fu (CB_A a3) (by omega)
    have cw := c_isWord fu hfu hB3.1 hB3.2.1 (t := 13) (by decide) w13
    rw [a1, bd_s, if_neg z10, ltf, a6, b1, bd_s, cw, bd_s, a2]
    by_cases q : wB T L (tpo T L (n + 1 + 1)) 655 = true
    · obtain ⟨m3, d1, d2, d3⟩ := m_mustWord fu hfu a4 (W := 655) (by decide) q
      have d1' : K_X12_mustWord fu 655 m2 = some m3 := d1
      rw [q, if_neg (show ¬ zi (bi true) = 0 by decide), d1', bd_s]
      have hBN3 := BN_fr a5 b3 d3
      rcases p_cellB fu hfu (CB_A hB3) d2 (by omega) hR.1 hz hb hBN3 (k1 := 5) (k2 := 6) (by decide) (by decide) (by decide) (by decide) (xk5 b) (xk6 b) (fun m_36 => some m_36) with ⟨c4, m4, x2, y2, e1, e2, e3, e4, e5, e6, e7, e8⟩ | ⟨c4, m4, e1, e2, e3, e4, e5⟩
      · obtain ⟨⟨z1, z2⟩, z3, z4⟩ := id hz
        obtain ⟨c5, f1, ⟨f2, f3, f4, f5, f6, f7⟩, f8⟩ := c_setWithin fu b c4 (side := side) (A := 9 * y + x) (B := 9 * y2 + x2) rfl rfl (by omega) (by omega) (by omega) (by omega)
        rw [e1, bd_s, if_neg z10, e6, f1, bd_s, e2, bd_s]
        have g5 := BN_c e5 f8
        have b0 : rd c5 (pBan 1 b) 0 = zi (g 0) := g5.2.2.2.2
        have v0 : bg (rwB s b (upG (upG (upG (upG g 3 x) 4 y) 5 x2) 6 y2)) (b : Int) 0 = g 0 := rw_bg (k := 0) (by decide)
        have v1 : bg (rwB s b (upG (upG (upG (upG g 3 x) 4 y) 5 x2) 6 y2)) (b : Int) 1 = g 1 := rw_bg (k := 1) (by decide)
        have v2 : bg (rwB s b (upG (upG (upG (upG g 3 x) 4 y) 5 x2) 6 y2)) (b : Int) 2 = g 2 := rw_bg (k := 2) (by decide)
        have v3 : bg (rwB s b (upG (upG (upG (upG g 3 x) 4 y) 5 x2) 6 y2)) (b : Int) 3 = x := rw_bg (k := 3) (by decide)
        have v4 : bg (rwB s b (upG (upG (upG (upG g 3 x) 4 y) 5 x2) 6 y2)) (b : Int) 4 = y := rw_bg (k := 4) (by decide)
        have v5 : bg (rwB s b (upG (upG (upG (upG g 3 x) 4 y) 5 x2) 6 y2)) (b : Int) 5 = x2 := rw_bg (k := 5) (by decide)
        have v6 : bg (rwB s b (upG (upG (upG (upG g 3 x) 4 y) 5 x2) 6 y2)) (b : Int) 6 = y2 := rw_bg (k := 6) (by decide)
        have s0 : rwB s b (upG (upG (upG (upG g 3 x) 4 y) 5 x2) 6 y2) 0 = s 0 := rw_ne (by omega)
        have s1 : rwB s b (upG (upG (upG (upG g 3 x) 4 y) 5 x2) 6 y2) 1 = s 1 := rw_ne (by omega)
        have s2 : rwB s b (upG (upG (upG (upG g 3 x) 4 y) 5 x2) 6 y2) 2 = s 2 := rw_ne (by omega)
        refine p_banEnd fu hfu (CA_ban (CB_A e3) f8) e4 (by omega) hR hb h6 g5 ?_ ?_ hc hm (by omega)
        · unfold RN
          rw [v0, v1, v2, v3, v4, v5, v6, hg1, hg2]
          exact ⟨b0, f2, fun h => absurd h (by decide), fun _ => ⟨f3, f4, f5, f6, f7⟩⟩
        · unfold bnO
          rw [v0, v1, v2, v3, v4, v5, v6, hg1, hg2, s2]
          exact ⟨hg0, by decide, fun h => absurd h (by decide), fun _ => ⟨hsd, isCl_iff.mpr ⟨by rw [s0]; omega, by rw [s1]; omega⟩, isCl_iff.mpr ⟨by rw [s0]; omega, by rw [s1]; omega⟩⟩⟩
      · obtain ⟨e, p, hp, hE, hD⟩ := e3
        rw [e1, bd_s, if_pos z00, e2, bd_s, b_tlI fu hD, bd_s]
        exact OUT_bn hS rfl (b_st90 fu hD) ⟨e, p, hp, hE, hD⟩ e4 e5
    · have q' := bo_f q
      obtain ⟨c4, m4, f1, f2, f3, f4, f5⟩ := p_fail fu hB3 a4 (e := 1) ⟨by decide, by decide⟩ (fun _ => rfl)
      have f1' : K_X9_fail fu 1 c3 = some (zi 0, c4) := f1
      obtain ⟨e, p, hp, hE, hD⟩ := f3
      have d1' : K_X12_mustWord fu 655 m2 = some m4 := m_mustWord_no fu a4 (W := 655) (by decide) q' f2 hD
      obtain ⟨m5, k1, k2, k3⟩ := b_kCl fu hD hb (k1 := 5) (k2 := 6) (by decide) (by decide) (xk5 b) (xk6 b) (fun m_36 => some m_36)
      rw [q', if_pos (show zi (bi false) = 0 from rfl), f1', bd_s, d1', bd_s, k1, bd_s, b_tlI fu k2, bd_s]
      exact OUT_bn hS (gb_zi _ (Or.inl rfl)) (b_st90 fu k2) ⟨e, p, hp, hE, k2⟩ (Fr_tr (Fr_tr a5.1 (Fr_mono b3 (fun _ _ => P2_Bn))) (Fr_mono f4 (fun _ _ => P2_Bn))) (Fr_tr (Fr_tr a5.2.1 (Fr_mono f5 (fun _ _ => PGe_Mn))) k3)
  · obtain ⟨e, p, hp, hE, hD⟩ := a3
    obtain ⟨m5, k1, k2, k3⟩ := b_kWi2 fu hD hb
    rw [a1, bd_s, if_pos z00, a2, k1, bd_s, b_tlI fu k2, bd_s]
    exact OUT_bn hS rfl (b_st90 fu k2) ⟨e, p, hp, hE, k2⟩ a4 (Fr_tr a5 k3)
def kE2 (fu : Nat) (x1 : Int32) (m_41 : Mem) : Option Mem := gi (x1 + 3) 184 (bd (K_X12_number fu 0 ((rd m_41 2 (Int32.toNatClampNeg (x1 + 3))) - 1) m_41) (fun p_43 => gi (x1 + 4) 184 (lt_ (mw p_43.2 2 (Int32.toNatClampNeg (x1 + 4)) p_43.1) (fun m_45 => some m_45))))
def kE1 (fu : Nat) (x1 : Int32) (m_37 : Mem) : Option Mem := bd (K_X12_number fu 2 5 m_37) (fun p_38 => gi (x1 + 3) 184 (lt_ (mw p_38.2 2 (Int32.toNatClampNeg (x1 + 3)) p_38.1) (fun m_40 => bd (K_X12_mustWord fu 52 m_40) (fun m_41 => kE2 fu x1 m_41))))
theorem b_kE2 (fu : Nat) {m : Mem} {e p : Int} (h : BDr m e p) {b : Nat} (hb : b < 12) : ∃ m2, kE2 fu (zi ((36 + 7 * b : Nat) : Int)) m = some m2 ∧ BDr m2 e p ∧ Fr PMn m m2 := by
  unfold kE2
  rw [xk3, xk4, xkg hb (by decide), b_number fu h, bd_s, xkg hb (by decide), ltf, xkc hb (by decide)]
  exact ⟨_, rfl, BD_w h _ _, FMn hb (by decide) _⟩
theorem p_every (fu : Nat) (hfu : 1000 ≤ fu) {c1 m1 c m c0 m0 : Mem} {T : Nat → Int} {L N n n0 : Nat} {s : Nat → Int} {nm : Nat → Nat} {b : Nat} {g : Nat → Int} {side : Int} (hA : CAr c T L N n) (hG : GMr m T L n) (hn : n ≤ 800) (hS : BSt c1 m1 c0 m0 T L s nm b) (hBN : BNr c1 m1 c m s b g) (h0 : n0 ≤ n) (hg0 : 0 ≤ g 0 ∧ g 0 < s 2) (hg1 : g 1 = 2) (hg2 : g 2 = side) (hsd : 0 ≤ side ∧ side ≤ 3) : OUTr (K_X7_readEvery fu 1 b (zi side) c) (bd (bd (kE1 fu (zi ((36 + 7 * b : Nat) : Int)) m) (fun m_18 => tlI fu m_18)) (fun m_8 => K_X12_statement_90 fu m_8)) c0 m0 T L N n0 := by
  obtain ⟨hR, hb, h6, hc, hm⟩ := hS
  have hS : BSt c1 m1 c0 m0 T L s nm b := ⟨hR, hb, h6, hc, hm⟩
  obtain ⟨⟨w0, w1, w2, w3, w4, w5, w6, w7⟩, w8, w9, w10, w11, w12, w13, w14, w15, w16⟩ := Wt_all
  unfold K_X7_readEvery kE1
  rw [xk3]
  rcases p_num fu hfu hA hG (by omega) (a := 2) (b := 5) (by decide) with ⟨c3, m3, v, u1, u2, u3, u4, u5, u6, u7, u8⟩ | ⟨c3, m3, v, u1, u5, u6, u7, u8⟩
  · have u1' : K_X9_needNumber fu 2 5 c = some (zi 1, c3) := u1
    have u5' : K_X12_number fu 2 5 m = some (zi v, m3) := u5
    have hBN3 := BN_w hb (BN_fr hBN u7 u8) (k := 3) (by decide) (by decide) v
    have hG3 : GMr (mw m3 2 (36 + 7 * b + 3) (zi v)) T L (n + 1) := GM_fr u6 (P := fun k _ => k == 2) (Fr_mw _ _ rfl) (fun _ _ => rfl) (fun _ => rfl)
    obtain ⟨c4, a1, hB4, a3⟩ := p_adv fu (CB_A u2) (by omega)
    have cw := c_isWord fu hfu hB4.1 hB4.2.1 (t := 11) (by decide) w11
    rw [u1', bd_s, if_neg z10, ltf, u3, a1, bd_s, cw, bd_s, u5', bd_s, xkg hb (by decide), ltf, xkc hb (by decide)]
    by_cases q : wB T L (tpo T L (n + 1)) 52 = true
    · obtain ⟨m4, d1, d2, d3⟩ := m_mustWord fu hfu hG3 (W := 52) (by decide) q
      have d1' : K_X12_mustWord fu 52 (mw m3 2 (36 + 7 * b + 3) (zi v)) = some m4 := d1
      rw [q, if_neg (show ¬ zi (bi true) = 0 by decide), d1', bd_s]
      have hBN4 := BN_fr hBN3 a3 d3
      unfold kE2
      have rv : rd m4 2 (36 + 7 * b + 3) - 1 = zi (v - 1) := by
        have : rd m4 2 (36 + 7 * b + 3) = zi v := by
          rw [hBN4.2.2.1]
          unfold rwB upG
          rw [if_pos (by omega), if_pos (by omega)]
        rw [this, show (1 : Int32) = zi 1 from rfl, zi_sub]
      have rc : zi v - 1 = zi (v - 1) := by rw [show (1 : Int32) = zi 1 from rfl, zi_sub]
      rw [xk3, xk4, xkg hb (by decide), xkc hb (by decide), rv, rc]
      rcases p_num fu hfu (CB_A hB4) d2 (by omega) (a := 0) (b := v - 1) (by omega) with ⟨c5, m5, k, e1, e2, e3, e4, e5, e6, e7, e8⟩ | ⟨c5, m5, k, e1, e5, e6, e7, e8⟩
      · have e1' : K_X9_needNumber fu 0 (zi (v - 1)) c4 = some (zi 1, c5) := e1
        have e5' : K_X12_number fu 0 (zi (v - 1)) m4 = some (zi k, m5) := e5
        have hBN5 := BN_w hb (BN_fr hBN4 e7 e8) (k := 4) (by decide) (by decide) k
        have hG5 : GMr (mw m5 2 (36 + 7 * b + 4) (zi k)) T L (n + 1 + 1 + 1) := GM_fr e6 (P := fun k _ => k == 2) (Fr_mw _ _ rfl) (fun _ _ => rfl) (fun _ => rfl)
        obtain ⟨c6, f1, ⟨f2, f3, f4, f5⟩, f6⟩ := c_setEvery fu b c5 side v k
        rw [e1', bd_s, if_neg z10, e3, f1, bd_s, e5', bd_s, xkg hb (by decide), ltf, xkc hb (by decide), bd_s]
        have g5 := BN_c hBN5 f6
        have b0 : rd c6 (pBan 1 b) 0 = zi (g 0) := g5.2.2.2.2
        have v0 : bg (rwB s b (upG (upG g 3 v) 4 k)) (b : Int) 0 = g 0 := rw_bg (k := 0) (by decide)
        have v1 : bg (rwB s b (upG (upG g 3 v) 4 k)) (b : Int) 1 = g 1 := rw_bg (k := 1) (by decide)
        have v2 : bg (rwB s b (upG (upG g 3 v) 4 k)) (b : Int) 2 = g 2 := rw_bg (k := 2) (by decide)
        have v3 : bg (rwB s b (upG (upG g 3 v) 4 k)) (b : Int) 3 = v := rw_bg (k := 3) (by decide)
        have v4 : bg (rwB s b (upG (upG g 3 v) 4 k)) (b : Int) 4 = k := rw_bg (k := 4) (by decide)
        have s2 : rwB s b (upG (upG g 3 v) 4 k) 2 = s 2 := rw_ne (by omega)
        refine p_banEnd fu hfu (CA_ban (CB_A e2) f6) hG5 (by omega) hR hb h6 g5 ?_ ?_ hc hm (by omega)
        · unfold RN
          rw [v0, v1, v2, v3, v4, hg1, hg2]
          exact ⟨b0, f2, fun _ => ⟨f3, f4, f5⟩, fun h => absurd h (by decide)⟩
        · unfold bnO
          rw [v0, v1, v2, v3, v4, hg1, hg2, s2]
          exact ⟨hg0, by decide, fun _ => ⟨hsd, by omega, by omega, by omega⟩, fun h => absurd h (by decide)⟩
      · have e1' : K_X9_needNumber fu 0 (zi (v - 1)) c4 = some (zi 0, c5) := e1
        have e5' : K_X12_number fu 0 (zi (v - 1)) m4 = some (k, m5) := e5
        obtain ⟨e, p, hp, hE, hD⟩ := e6
        have hD2 := BD_w hD (36 + 7 * b + 4) k
        rw [e1', bd_s, if_pos z00, e5', bd_s, xkg hb (by decide), ltf, xkc hb (by decide), bd_s, b_tlI fu hD2, bd_s]
        exact OUT_bn hS rfl (b_st90 fu hD2) ⟨e, p, hp, hE, hD2⟩ (Fr_tr hBN4.1 (Fr_mono e7 (fun _ _ => P2_Bn))) (Fr_tr (Fr_tr hBN4.2.1 (Fr_mono e8 (fun _ _ => PGe_Mn))) (FMn hb (by decide) _))
    · have q' := bo_f q
      obtain ⟨c5, m5, f1, f2, f3, f4, f5⟩ := p_fail fu hB4 hG3 (e := 1) ⟨by decide, by decide⟩ (fun _ => rfl)
      have f1' : K_X9_fail fu 1 c4 = some (zi 0, c5) := f1
      obtain ⟨e, p, hp, hE, hD⟩ := f3
      have d1' : K_X12_mustWord fu 52 (mw m3 2 (36 + 7 * b + 3) (zi v)) = some m5 := m_mustWord_no fu hG3 (W := 52) (by decide) q' f2 hD
      obtain ⟨m6, k1, k2, k3⟩ := b_kE2 fu hD hb
      rw [q', if_pos (show zi (bi false) = 0 from rfl), f1', bd_s, d1', bd_s, k1, bd_s, b_tlI fu k2, bd_s]
      exact OUT_bn hS (gb_zi _ (Or.inl rfl)) (b_st90 fu k2) ⟨e, p, hp, hE, k2⟩ (Fr_tr (Fr_tr hBN3.1 (Fr_mono a3 (fun _ _ => P2_Bn))) (Fr_mono f4 (fun _ _ => P2_Bn))) (Fr_tr (Fr_tr hBN3.2.1 (Fr_mono f5 (fun _ _ => PGe_Mn))) k3)
  · have u1' : K_X9_needNumber fu 2 5 c = some (zi 0, c3) := u1
    have u5' : K_X12_number fu 2 5 m = some (v, m3) := u5
    obtain ⟨e, p, hp, hE, hD⟩ := u6
    have hD2 := BD_w hD (36 + 7 * b + 3) v
    have d1' : K_X12_mustWord fu 52 (mw m3 2 (36 + 7 * b + 3) v) = some (mw m3 2 (36 + 7 * b + 3) v) := b_mustWord fu hD2 _
    obtain ⟨m6, k1, k2, k3⟩ := b_kE2 fu hD2 hb
    rw [u1', bd_s, if_pos z00, u5', bd_s, xkg hb (by decide), ltf, xkc hb (by decide), d1', bd_s, k1, bd_s, b_tlI fu k2, bd_s]
    exact OUT_bn hS rfl (b_st90 fu k2) ⟨e, p, hp, hE, k2⟩ (Fr_tr hBN.1 (Fr_mono u7 (fun _ _ => P2_Bn))) (Fr_tr (Fr_tr (Fr_tr hBN.2.1 (Fr_mono u8 (fun _ _ => PGe_Mn))) (FMn hb (by decide) _)) k3)
end BN2M
