section PW2M
theorem wB_k {T : Nat → Int} {L p W : Nat} (h : wB T L p W = true) : kkP T L p = 1 := (of_decide_eq_true h).1
theorem p_pawnWalls (fu : Nat) (hfu : 1000 ≤ fu) {c m c0 m0 : Mem} {T : Nat → Int} {L N n n0 : Nat} {s : Nat → Int} {nm : Nat → Nat} {u a : Nat} {x y d : Int} (hB : CBr c T L N n) (hG : GMr m T L n) (hn : n ≤ 900) (hW : PWs c m T L s nm u a x y) (hd : 0 ≤ d ∧ d ≤ 3) (hpI : pI s x y = -1) (hc : Fr PSc c0 c) (hm : Fr PSm m0 m) (h0 : n0 ≤ n) : OUTr (bd (K_X7_readWallsOfPawn fu (zi d) c) (tlA fu (zi (u : Int)))) (bd (K_X12_readsPawn_194 fu (zl (nmW T L a : Int)) (zi x) (zi y) (zi d) m) (fun m_9 => K_X12_statement_90 fu m_9)) c0 m0 T L N n0 := by
  obtain ⟨b1, b2, ww, y1, y2, y3, y4⟩ := hW.1.1.2.2.2.1
  obtain ⟨c1, a1, hB1, a3⟩ := p_adv fu (CB_A hB) (by omega)
  obtain ⟨m1, g1, hG1, g3⟩ := p_go fu hfu hG
  have hW1 := PWs_fr hW a3 g3 P2_rd PGe_rd
  obtain ⟨⟨w0, w1, w2, w3, w4, w5, w6, w7⟩, w8⟩ := Wt_all
  have v1 : K_X12_isWord fu 24162707 m1 = _ := m_isWord fu hG1 (W := 24162707) (by decide)
  have cw := c_isWord fu hfu hB1.1 hB1.2.1 (t := 1) (by decide) w1
  unfold K_X7_readWallsOfPawn K_X12_readsPawn_194 K_X12_readsPawn_205
  rw [ltf, y4.1, a1, bd_s, cw, bd_s, g_isGood fu hG.2.1, bd_s, if_neg z10, g1, bd_s, v1, bd_s]
  by_cases q : wB T L (tpo T L (n + 1)) 24162707 = true
  · rw [q, if_neg (show ¬ zi (bi true) = 0 by decide), if_neg (show ¬ zi (bi true) = 0 by decide)]
    obtain ⟨m2, k1, hG2, k3⟩ := p_go fu hfu hG1
    rw [k1, bd_s]
    unfold K_X12_readsPawn_223
    rw [if_neg (show ¬ zi (bi true) = 0 by decide)]
    rcases p_num fu hfu (CB_A hB1) hG2 (by omega) (a := 0) (b := 20) (by decide) with ⟨c3, m3, v, u1, u2, u3, u4, u5, u6, u7, u8⟩ | ⟨c3, m3, v, u1, u5, u6, u7, u8⟩
    · have u1' : K_X9_needNumber fu 0 20 c1 = some (zi 1, c3) := u1
      have u5' : K_X12_number fu 0 20 m2 = some (zi v, m3) := u5
      obtain ⟨c4, l1, hB4, l3⟩ := p_adv fu (CB_A u2) (by omega)
      rw [u1', bd_s, if_neg z10, ltf, u3, l1, bd_s, u5', bd_s]
      have hW4 := PWs_fr (PWs_fr (PWs_fr hW1 u7 k3 P2_rd PGe_rd) l3 (Fr_rf PGe _) P2_rd PGe_rd) (Fr_rf P2t _) u8 P2_rd PGe_rd
      exact p_pawnEnd fu hfu hB4 u6 hW4 hd u4 hpI (Fr_tr (Fr_tr (Fr_tr hc (FSc a3)) (FSc u7)) (FSc l3)) (Fr_tr (Fr_tr (Fr_tr hm (FSm g3)) (FSm k3)) (FSm u8)) (by omega)
    · have u1' : K_X9_needNumber fu 0 20 c1 = some (zi 0, c3) := u1
      have u5' : K_X12_number fu 0 20 m2 = some (v, m3) := u5
      obtain ⟨e, p, hp, hE, hD⟩ := u6
      rw [u1', bd_s, if_pos z00, u5', bd_s, bd_s, b_242 fu hD, bd_s, b_st90 fu hD]
      exact ⟨c3, m3, Fr_tr (Fr_tr hc (FSc a3)) (FSc u7), Fr_tr (Fr_tr (Fr_tr hm (FSm g3)) (FSm k3)) (FSm u8), rfl, Or.inr ⟨tlA_0 fu _ c3, e, p, hp, hE, hD⟩⟩
  · have q' : wB T L (tpo T L (n + 1)) 24162707 = false := by
      cases hh : wB T L (tpo T L (n + 1)) 24162707 with
      | true => exact absurd hh q
      | false => rfl
    rw [q', if_pos (show zi (bi false) = 0 from rfl), if_pos (show zi (bi false) = 0 from rfl)]
    unfold K_X12_readsPawn_223
    have e24 : rd m1 0 24 = zi ww := (g3.1 _ _ rfl).trans y4.2
    rw [if_pos (show zi (bi false) = 0 from rfl), e24]
    exact p_pawnEnd fu hfu hB1 hG1 hW1 hd y1 hpI (Fr_tr hc (FSc a3)) (Fr_tr hm (FSm g3)) (by omega)
/-- the class's readPawn behind the cell -/
def tlB (fu : Nat) (x_1 : Int32) (mem : Mem) : Option (Int32 × Mem) := bd (K_X6_pawnOn fu 1 (rd mem 7 8) mem) (fun x_8 => (if x_8 = (-1) then bd (K_X9_needSide fu mem) (fun p_9 => lt_ p_9.1 (fun x_10 => (if x_10 = (-1) then some (0, p_9.2) else bd (K_X2_liesAt fu 1 (rd p_9.2 7 8) x_10 p_9.2) (fun x_11 => (if x_11 = 0 then bd (K_X7_readWallsOfPawn fu x_10 p_9.2) (tlA fu x_1) else bd (K_X9_fail fu 4 p_9.2) (fun p_15 => gb p_15.1 (some (p_15.1, p_15.2)))))))) else bd (K_X9_fail fu 4 mem) (fun p_17 => gb p_17.1 (some (p_17.1, p_17.2)))))
def tlBm (fu : Nat) (x1 : Int64) (x_15 x_18 : Int32) (mem : Mem) : Option Mem := bd (K_X12_isGood fu mem) (fun x_19 => (if x_19 = 0 then (K_X12_readsPawn_135 fu x1 x_15 x_18 mem) else bd (K_X12_pawnIn fu x_15 x_18 mem) (fun x_20 => (if x_20 = (-1) then (K_X12_readsPawn_135 fu x1 x_15 x_18 mem) else bd (K_X12_wrong fu 4 mem) (fun m_21 => (K_X12_readsPawn_135 fu x1 x_15 x_18 m_21))))))
theorem p_pawnCell (fu : Nat) (hfu : 1000 ≤ fu) {c m c0 m0 : Mem} {T : Nat → Int} {L N n n0 : Nat} {s : Nat → Int} {nm : Nat → Nat} {u a : Nat} {x y : Int} (hB : CBr c T L N n) (hG : GMr m T L n) (hn : n ≤ 800) (hk : kkP T L (tpo T L n) = 2) (hW : PWs c m T L s nm u a x y) (hc : Fr PSc c0 c) (hm : Fr PSm m0 m) (h0 : n0 ≤ n) : OUTr (tlB fu (zi (u : Int)) c) (bd (tlBm fu (zl (nmW T L a : Int)) (zi x) (zi y) m) (fun m_9 => K_X12_statement_90 fu m_9)) c0 m0 T L N n0 := by
  obtain ⟨⟨hR, hu, h2, hka, ha7⟩, hr8, hr9, hdif, hr78, hxy⟩ := hW
  have hI := hR.2.2.1.1.1
  obtain ⟨iz, ic, iW, ip, ib, iwp, ids, irk, iwy⟩ := hI
  have i0 := hR.2.2.1.2.1
  have cl := isCl_iff.mp hxy
  have z := iz
  obtain ⟨⟨z1, z2⟩, z3, z4⟩ := z
  have hN : ((9 * y + x).toNat : Int) = 9 * y + x := by omega
  have hN81 : (9 * y + x).toNat < 81 := by omega
  have ex : xo (9 * y + x).toNat = x := by
    unfold xo
    omega
  have ey : yo (9 * y + x).toNat = y := by
    unfold yo
    omega
  have hon := c_pawnOn fu 1 hfu iz (s := s) (by omega) (by omega) (by omega) ip ids ⟨hR.1.2.1.1, hR.1.2.2.1⟩ hN81
  rw [hN, ex, ey] at hon
  have hin := m_pawnIn fu hfu hR.2.1 iz (by omega) (by omega) (by omega) ip (x := x) (y := y) (by omega) (by omega)
  have hpl := pI_sp (s := s) (by omega) x y
  have hple : -1 ≤ pI s x y ∧ pI s x y ≤ 3 := by
    rcases hpl with h | h <;> omega
  have ei : (zi (pI s x y) = (-1 : Int32)) = (pI s x y = -1) := zi_inj (b_ := -1) (by omega) (by omega) (by decide) (by decide)
  unfold tlB tlBm
  rw [hr78, hon, bd_s, g_isGood fu hG.2.1, bd_s, if_neg z10, hin, bd_s]
  by_cases q : pI s x y = -1
  · rw [if_pos (ei.mpr q), if_pos (ei.mpr q)]
    obtain ⟨m1, g1, hG1, g3⟩ := p_go fu hfu hG
    unfold K_X12_readsPawn_135
    rw [g_isGood fu hG.2.1, bd_s, if_neg z10, g1, bd_s]
    unfold K_X12_readsPawn_146
    rcases p_side fu hfu (CB_A hB) hG1 (by omega) with ⟨c2, d, u1, u2, u3, u4, u5, u6⟩ | ⟨c2, m2, u1, u2, u3, u4, u5, u6⟩
    · have hd1 : ¬ (zi d = (-1 : Int32)) := by
        have : (zi d = (-1 : Int32)) = (d = -1) := zi_inj (b_ := -1) (by omega) (by omega) (by decide) (by decide)
        rw [this]
        omega
      have hW' : PWs c m T L s nm u a x y := ⟨⟨hR, hu, h2, hka, ha7⟩, hr8, hr9, hdif, hr78, hxy⟩
      have hW2 := PWs_fr hW' u6 g3 P2_rd PGe_rd
      have hla := c_liesAt fu 1 hW2.1.1.1.1 iz hN81 (d := d) (by omega) (by omega)
      rw [hN, ex, ey] at hla
      have hla2 := k_isAtSide fu hW2.1.1.2.1 iz (x := x) (y := y) (d := d) (by omega) (by omega) (by omega) (by omega) (by omega) (by omega)
      rw [u1, bd_s, ltf, if_neg hd1, hW2.2.2.2.2.1, hla, bd_s, u4, bd_s, g_isGood fu hG1.2.1, bd_s, if_neg z10, if_neg hd1]
      unfold K_X12_readsPawn_170
      rw [g_isGood fu hG1.2.1, bd_s, if_neg z10, hla2, bd_s]
      have fc := Fr_tr hc (FSc u6)
      have fm := Fr_tr hm (FSm g3)
      by_cases r : atS s x y d = true
      · rw [r, if_neg (show ¬ zi (bi true) = 0 by decide), if_neg (show ¬ zi (bi true) = 0 by decide)]
        obtain ⟨c4, m4, v1, v2, v3, v4, v5⟩ := p_fail fu u3 hG1 (e := 4) ⟨by decide, by decide⟩ (fun h => by omega)
        have v1' : K_X9_fail fu 4 c2 = some (zi 0, c4) := v1
        have v2' : K_X12_wrong fu 4 m1 = some m4 := v2
        obtain ⟨e, p, hp, hE, hD⟩ := v3
        rw [v1', bd_s, v2', bd_s, b_194 fu hD, bd_s, b_st90 fu hD]
        exact ⟨c4, m4, Fr_tr fc (FSc v4), Fr_tr fm (FSm v5), rfl, Or.inr ⟨gb_zi _ (Or.inl rfl), e, p, hp, hE, hD⟩⟩
      · have r' : atS s x y d = false := by
          cases hh : atS s x y d with
          | true => exact absurd hh r
          | false => rfl
        rw [r', if_pos (show zi (bi false) = 0 from rfl), if_pos (show zi (bi false) = 0 from rfl)]
        exact p_pawnWalls fu hfu u3 hG1 (by omega) hW2 u2 q fc fm (by omega)
    · obtain ⟨e, p, hp, hE, hD⟩ := u4
      have u3' : K_X12_wrong fu 1 m1 = some m2 := u3
      rw [u1, bd_s, ltf, if_pos (show zi (-1) = -1 from rfl), u2, bd_s, g_isGood fu hG1.2.1, bd_s, if_neg z10, if_pos (show zi (-1) = -1 from rfl), u3', bd_s, b_170 fu hD, bd_s, b_st90 fu hD]
      exact ⟨c2, m2, Fr_tr hc (FSc u5), Fr_tr (Fr_tr hm (FSm g3)) (FSm u6), rfl, Or.inr ⟨rfl, e, p, hp, hE, hD⟩⟩
  · rw [if_neg (fun h => q (ei.mp h)), if_neg (fun h => q (ei.mp h))]
    obtain ⟨c4, m4, v1, v2, v3, v4, v5⟩ := p_fail fu hB hG (e := 4) ⟨by decide, by decide⟩ (fun h => by omega)
    have v1' : K_X9_fail fu 4 c = some (zi 0, c4) := v1
    have v2' : K_X12_wrong fu 4 m = some m4 := v2
    obtain ⟨e, p, hp, hE, hD⟩ := v3
    rw [v1', bd_s, v2', bd_s, b_135 fu hD, bd_s, b_st90 fu hD]
    exact ⟨c4, m4, Fr_tr hc (FSc v4), Fr_tr hm (FSm v5), rfl, Or.inr ⟨gb_zi _ (Or.inl rfl), e, p, hp, hE, hD⟩⟩
/-- a pawn -/
theorem p_pawn (fu : Nat) (hfu : 1000 ≤ fu) {c m : Mem} {T : Nat → Int} {L N n : Nat} {s : Nat → Int} {nm : Nat → Nat} (hB : CBr c T L N n) (hG : GMr m T L n) (hn : n ≤ 700) (hk : kkP T L (tpo T L n) = 1) (hR : RDs c m T L s nm) : OUTr (K_X7_readPawn fu c) (bd (K_X12_readsPawn fu m) (fun m_9 => K_X12_statement_90 fu m_9)) c m T L N n := by
  obtain ⟨⟨a2, a3⟩, ⟨b2, b3⟩, q2, q3⟩ := RD_cn hR
  have h700 := GM_700 hG
  have b2' : rd m 2 (Int32.toNatClampNeg 2) = zi (s 2) := b2
  have i0 : (zi (s 2) < (0 : Int32)) = (s 2 < 0) := zi_lt (b_ := 0) (by omega) (by omega) (by decide) (by decide)
  have i4 : (zi (s 2) < (4 : Int32)) = (s 2 < 4) := zi_lt (b_ := 4) (by omega) (by omega) (by decide) (by decide)
  have j4 : (zi (s 2) = (4 : Int32)) = (s 2 = 4) := zi_inj (b_ := 4) (by omega) (by omega) (by decide) (by decide)
  unfold K_X7_readPawn K_X12_readsPawn
  rw [ltf, a2, gi2m, b2', if_neg (fun h => absurd (i0.mp h) (by omega))]
  by_cases q : s 2 = 4
  · rw [if_neg (fun h => absurd (i4.mp h) (by omega)), if_pos (j4.mpr q)]
    obtain ⟨c4, m4, v1, v2, v3, v4, v5⟩ := p_fail fu hB hG (e := 6) ⟨by decide, by decide⟩ (fun h => by omega)
    have v1' : K_X9_fail fu 6 c = some (zi 0, c4) := v1
    have v2' : K_X12_wrong fu 6 m = some m4 := v2
    obtain ⟨e, p, hp, hE, hD⟩ := v3
    unfold K_X7_readPawn_17
    rw [v1', bd_s, v2', bd_s, b_16 fu hD, bd_s, b_st90 fu hD]
    exact ⟨c4, m4, FSc v4, FSm v5, rfl, Or.inr ⟨gb_zi _ (Or.inl rfl), e, p, hp, hE, hD⟩⟩
  · rw [if_pos (i4.mpr (by omega)), if_neg (fun h => q (j4.mp h))]
    obtain ⟨u, hu⟩ : ∃ u : Nat, s 2 = u := ⟨(s 2).toNat, by omega⟩
    have hu4 : u < 4 := by omega
    obtain ⟨c1, e1, hB1, e3⟩ := p_adv fu (CB_A hB) (by omega)
    obtain ⟨m1, g1, hG1, g3⟩ := p_go fu hfu hG
    have hR1 := RDs_fr hR e3 g3 P2_rd PGe_rd
    have hkk := kk_n T L (n + 1)
    unfold K_X7_readName K_X12_readsPawn_16
    rw [e1, bd_s, g_isGood fu hG.2.1, bd_s, if_neg z10, g1, bd_s]
    unfold K_X12_readsPawn_27
    have kz1 : (zi (if kkP T L (tpo T L (n + 1)) = 5 then 0 else (kkP T L (tpo T L (n + 1)) : Int)) = (1 : Int32)) = ((kkP T L (tpo T L (n + 1)) : Int) = 1) := kz_eq (v := 1) hkk ⟨by decide, by decide⟩
    have h7 : (zi (kkP T L (tpo T L (n + 1)) : Int) = (1 : Int32)) = ((kkP T L (tpo T L (n + 1)) : Int) = 1) := zi_inj (b_ := 1) (by omega) (by omega) (by decide) (by decide)
    rw [g_isGood fu hG1.2.1, bd_s, if_neg z10, hG1.1.2.2.2.1, hB1.2.1.2.1]
    by_cases r : kkP T L (tpo T L (n + 1)) = 1
    · rw [if_pos (h7.mpr (by omega)), if_pos (kz1.mpr (by omega))]
      have hU0 : (s 2).toNat = u := by omega
      have hN1 := hR1.2.2.2.2
      rw [hU0] at hN1
      obtain ⟨⟨a2', _⟩, ⟨b2'', _⟩, _, _⟩ := RD_cn hR1
      rw [hu] at a2' b2''
      obtain ⟨v, v1, v2, v3⟩ := p_named fu hfu hB1 hG1 r hN1 (by omega) a2' b2''
      have hvl := IX_le v3
      have ev : (zi v = (-1 : Int32)) = (v = -1) := zi_inj (b_ := -1) (by omega) (by omega) (by decide) (by decide)
      unfold K_X12_readsPawn_47
      rw [v1, bd_s, g_isGood fu hG1.2.1, bd_s, if_neg z10, v2, bd_s]
      unfold K_X7_readName_41
      by_cases w : v = -1
      · rw [if_pos (ev.mpr w), if_pos (ev.mpr w), if_pos (show (0 : Int32) = 0 from rfl)]
        have hnone : ∀ i, i < u → nmW T L (nm i) ≠ nmW T L (tpo T L (n + 1)) := by
          rcases v3 with ⟨_, k⟩ | ⟨i, k1, k2, _⟩
          · exact k
          · omega
        unfold K_X7_readName_55
        obtain ⟨kk1, kk2, kk3, kk4, kk5, kk6, kk7⟩ := kk_1 r
        rw [bd_s, if_neg (show ¬ (1 : Int32) = 0 by decide), hu, gi_zi (by omega) (by omega) (by decide), ltf, gi_zi (by omega) (by omega) (by decide), ltf]
        have iu : (zi (u : Int)).toNatClampNeg = u := by
          rw [zi_clamp (by omega) (by omega)]
          exact Int.toNat_natCast u
        have r8 : rd c1 2 8 = zi (tpo T L (n + 1) : Int) := hB1.2.1.2.2.1
        have r9 : rd (mw c1 8 u (zi (tpo T L (n + 1) : Int))) 2 9 = zi (tzi T L (tpo T L (n + 1)) : Int) := by
          rw [rd_mw, if_neg (fun h => absurd h.1 (by decide)), ← kk4]
          exact hB1.2.1.2.2.2
        rw [iu, r8, r9]
        obtain ⟨c2, hc2⟩ : ∃ c2, c2 = mw (mw c1 8 u (zi (tpo T L (n + 1) : Int))) 9 u (zi (tzi T L (tpo T L (n + 1)) : Int)) := ⟨_, rfl⟩
        rw [← hc2]
        have f2 : Fr (fun k j => (k == 8 || k == 9) && j == u) c1 c2 := by
          rw [hc2]
          exact Fr_tr (Fr_mw _ _ (by simp)) (Fr_mw _ _ (by simp))
        have f2n : ∀ k j, k ≠ 8 → k ≠ 9 → (fun k j => (k == 8 || k == 9) && j == u : Nat → Nat → Bool) k j = false := fun k j h8 h9 => by
          have e8 : (k == 8) = false := by simp [h8]
          have e9 : (k == 9) = false := by simp [h9]
          simp only [e8, e9]
          rfl
        have fS2 : Fr PSc c1 c2 := Fr_mono f2 (fun k j h => f2n k j (by have := PSc_ne h; omega) (by have := PSc_ne h; omega))
        have hB2 : CBr c2 T L N (n + 1) := CB_fr hB1 f2 (fun k j h1 h2 => f2n k j (by omega) (by omega))
        -- the pawn's walls and all that is before it in the class, at c2
        have hR2 : RDs c2 m1 T L s nm := by
          obtain ⟨x1, x2, x3, ⟨b1, bb2, ww, y1, y2, y3, y4⟩, x5, x6⟩ := hR1
          have g7 : ∀ j, rd c2 7 j = rd c1 7 j := fun j => f2.1 _ _ (f2n 7 j (by decide) (by decide))
          refine ⟨RC_fr2 f2 (fun k j h1 h2 => f2n k j (by omega) (by omega)) x1, x2, x3, ⟨b1, bb2, ww, y1, ⟨(g7 _).trans y2.1, y2.2⟩, ⟨(g7 _).trans y3.1, y3.2⟩, (g7 _).trans y4.1, y4.2⟩, fun i hi => ?_, x6⟩
          obtain ⟨t1, t2, t3, t4, t5⟩ := x5 i hi
          have hiu : i ≠ u := by omega
          exact ⟨t1, t2, (f2.1 _ _ (by simp [hiu])).trans t3, (f2.1 _ _ (by simp [hiu])).trans t4, t5⟩
        have c8 : rd c2 8 u = zi (tpo T L (n + 1) : Int) := by
          rw [hc2, rd_mw, if_neg (fun h => absurd h.1 (by decide)), rd_mw, if_pos ⟨rfl, rfl⟩]
        have c9 : rd c2 9 u = zi (tzi T L (tpo T L (n + 1)) : Int) := by rw [hc2, rd_mw, if_pos ⟨rfl, rfl⟩]
        have fcA : Fr PSc c c2 := Fr_tr (FSc e3) fS2
        have fmA : Fr PSm m m1 := FSm g3
        -- the cell
        unfold K_X12_readsPawn_67
        have hnm12 : rl m1 0 12 = zl (nmW T L (tpo T L (n + 1)) : Int) := hG1.1.2.2.2.2.1 r
        obtain ⟨m2, k1, hG2, k3⟩ := p_go fu hfu hG1
        rw [ltf, hnm12, g_isGood fu hG1.2.1, bd_s, if_neg z10, k1, bd_s]
        have hR3 := RDs_fr hR2 (Fr_rf P2t _) k3 P2_rd PGe_rd
        have hz := hR3.2.2.1.1.1.1
        obtain ⟨⟨z1, z2⟩, z3, z4⟩ := hz
        unfold K_X12_readsPawn_83 K_X7_readCell
        have w0 : rd c2 (pBoard 1) 0 - 1 = zi (s 0 - 1) := by rw [hR2.1.1.1, show (1 : Int32) = zi 1 from rfl, zi_sub]
        have w0m : rd m2 2 (Int32.toNatClampNeg 0) - 1 = zi (s 0 - 1) := by
          have : rd m2 2 (Int32.toNatClampNeg 0) = zi (s 0) := hR3.2.1 0
          rw [this, show (1 : Int32) = zi 1 from rfl, zi_sub]
        rw [gi0m, w0, w0m]
        rcases p_num fu hfu (CB_A hB2) hG2 (by omega) (a := 0) (b := s 0 - 1) (by omega) with ⟨c3, m3, x, u1, u2, u3, u4, u5, u6, u7, u8⟩ | ⟨c3, m3, x, u1, u5, u6, u7, u8⟩
        · have u1' : K_X9_needNumber fu 0 (zi (s 0 - 1)) c2 = some (zi 1, c3) := u1
          have u5' : K_X12_number fu 0 (zi (s 0 - 1)) m2 = some (zi x, m3) := u5
          have hR4 := RDs_fr hR3 u7 u8 P2_rd PGe_rd
          have w1 : rd c3 (pBoard 1) 1 - 1 = zi (s 1 - 1) := by rw [hR4.1.1.2.1, show (1 : Int32) = zi 1 from rfl, zi_sub]
          have w1m : rd m3 2 (Int32.toNatClampNeg 1) - 1 = zi (s 1 - 1) := by
            have : rd m3 2 (Int32.toNatClampNeg 1) = zi (s 1) := hR4.2.1 1
            rw [this, show (1 : Int32) = zi 1 from rfl, zi_sub]
          rw [u1', bd_s, if_neg z10, ltf, u3, u5', bd_s, ltf, gi1m, w1, w1m]
          rcases p_seen fu hfu (CB_A u2) u6 (by omega) (a := 0) (b := s 1 - 1) (by omega) with ⟨c4, y, v1, v2, v3, v4, v5, v6, v7⟩ | ⟨c4, m4, y, v1, v5, v6, v7, v8⟩
          · have v1' : K_X9_needNumber fu 0 (zi (s 1 - 1)) c3 = some (zi 1, c4) := v1
            have v5' : K_X12_seen fu 0 (zi (s 1 - 1)) m3 = some (zi y, m3) := v5
            have hR5 := RDs_fr hR4 v7 (Fr_rf PGe _) P2_rd PGe_rd
            have e9 : rd c4 2 10 * 9 + zi x = zi (9 * y + x) := by
              rw [v3, show (9 : Int32) = zi 9 from rfl, zi_mul, zi_add]
              exact congrArg zi (by omega)
            rw [v1', bd_s, if_neg z10, ltf, e9, bd_s, if_neg (show ¬ (1 : Int32) = 0 by decide), v5', bd_s, ltf]
            have f7 : Fr (fun k j => k == 7 && j == 8) c4 (mw c4 7 8 (zi (9 * y + x))) := Fr_mw _ _ rfl
            have f7n : ∀ k j, k ≠ 7 ∨ j ≠ 8 → (fun k j => k == 7 && j == 8 : Nat → Nat → Bool) k j = false := fun k j h => by
              simp only [Bool.and_eq_false_iff, beq_eq_false_iff_ne, ne_eq]
              omega
            have fS7 : Fr PSc c4 (mw c4 7 8 (zi (9 * y + x))) := Fr_mw _ _ rfl
            refine p_pawnCell fu hfu (c := mw c4 7 8 (zi (9 * y + x))) (m := m3) (n := n + 1 + 1 + 1) (s := s) (nm := nm) (u := u) (a := tpo T L (n + 1)) (x := x) (y := y) (CB_fr v2 f7 (fun k j h1 h2 => f7n k j (Or.inl (by omega)))) u6 (by omega) v6 ⟨⟨?_, hu4, hu, r, by omega⟩, ?_, ?_, hnone, by rw [rd_mw, if_pos ⟨rfl, rfl⟩], isCl_iff.mpr ⟨by omega, by omega⟩⟩ (Fr_tr (Fr_tr (Fr_tr fcA (FSc u7)) (FSc v7)) fS7) (Fr_tr (Fr_tr fmA (FSm k3)) (FSm u8)) (by omega)
            · obtain ⟨x1, x2, x3, ⟨b1, bb2, ww, y1, y2, y3, y4⟩, x5, x6⟩ := hR5
              have g7 : ∀ j, j ≠ 8 → rd (mw c4 7 8 (zi (9 * y + x))) 7 j = rd c4 7 j := fun j hj => f7.1 _ _ (f7n 7 j (Or.inr hj))
              refine ⟨RC_fr2 f7 (fun k j h1 h2 => f7n k j (Or.inl (by omega))) x1, x2, x3, ⟨b1, bb2, ww, y1, ⟨(g7 _ (by decide)).trans y2.1, y2.2⟩, ⟨(g7 _ (by decide)).trans y3.1, y3.2⟩, (g7 _ (by decide)).trans y4.1, y4.2⟩, fun i hi => ?_, x6⟩
              obtain ⟨t1, t2, t3, t4, t5⟩ := x5 i hi
              exact ⟨t1, t2, (f7.1 _ _ (f7n _ _ (Or.inl (by decide)))).trans t3, (f7.1 _ _ (f7n _ _ (Or.inl (by decide)))).trans t4, t5⟩
            · rw [rd_mw, if_neg (fun h => absurd h.1 (by decide)), v7.1 _ _ rfl, u7.1 _ _ rfl]
              exact c8
            · rw [rd_mw, if_neg (fun h => absurd h.1 (by decide)), v7.1 _ _ rfl, u7.1 _ _ rfl]
              exact c9
          · have v1' : K_X9_needNumber fu 0 (zi (s 1 - 1)) c3 = some (zi 0, c4) := v1
            have v5' : K_X12_seen fu 0 (zi (s 1 - 1)) m3 = some (y, m4) := v5
            obtain ⟨e, p, hp, hE, hD⟩ := v6
            rw [v1', bd_s, if_pos z00, bd_s, if_pos (show (0 : Int32) = 0 from rfl), v5', bd_s, ltf, b_isGood fu hD, bd_s, if_pos z00, b_135 fu hD, bd_s, b_st90 fu hD]
            exact ⟨c4, m4, Fr_tr (Fr_tr fcA (FSc u7)) (FSc v7), Fr_tr (Fr_tr (Fr_tr fmA (FSm k3)) (FSm u8)) (FSm v8), rfl, Or.inr ⟨rfl, e, p, hp, hE, hD⟩⟩
        · have u1' : K_X9_needNumber fu 0 (zi (s 0 - 1)) c2 = some (zi 0, c3) := u1
          have u5' : K_X12_number fu 0 (zi (s 0 - 1)) m2 = some (x, m3) := u5
          obtain ⟨e, p, hp, hE, hD⟩ := u6
          rw [u1', bd_s, if_pos z00, bd_s, if_pos (show (0 : Int32) = 0 from rfl), u5', bd_s, ltf, gi1m, b_seen fu hD, bd_s, ltf, b_isGood fu hD, bd_s, if_pos z00, b_135 fu hD, bd_s, b_st90 fu hD]
          exact ⟨c3, m3, Fr_tr fcA (FSc u7), Fr_tr (Fr_tr fmA (FSm k3)) (FSm u8), rfl, Or.inr ⟨rfl, e, p, hp, hE, hD⟩⟩
      · rw [if_neg (fun h => w (ev.mp h)), if_neg (fun h => w (ev.mp h)), if_neg (show ¬ (0 : Int32) = 1 by decide)]
        obtain ⟨c4, m4, f1, f2, f3, f4, f5⟩ := p_fail fu hB1 hG1 (e := 4) ⟨by decide, by decide⟩ (fun h => by omega)
        have f1' : K_X9_fail fu 4 c1 = some (zi 0, c4) := f1
        have f2' : K_X12_wrong fu 4 m1 = some m4 := f2
        obtain ⟨e, p, hp, hE, hD⟩ := f3
        rw [f1', bd_s, if_pos z00, bd_s, if_pos (show (0 : Int32) = 0 from rfl), f2', bd_s, b_67 fu hD, bd_s, b_st90 fu hD]
        exact ⟨c4, m4, Fr_tr (FSc e3) (FSc f4), Fr_tr (FSm g3) (FSm f5), rfl, Or.inr ⟨rfl, e, p, hp, hE, hD⟩⟩
    · rw [if_neg (fun h => r (by have := h7.mp h; omega)), if_neg (fun h => r (by have := kz1.mp h; omega))]
      obtain ⟨c4, m4, f1, f2, f3, f4, f5⟩ := p_fail fu hB1 hG1 (e := 1) ⟨by decide, by decide⟩ (fun _ => rfl)
      have f1' : K_X9_fail fu 1 c1 = some (zi 0, c4) := f1
      have f2' : K_X12_wrong fu 1 m1 = some m4 := f2
      obtain ⟨e, p, hp, hE, hD⟩ := f3
      rw [f1', bd_s, gb_zi _ (Or.inl rfl), bd_s, if_pos z00, f2', bd_s, b_47 fu hD, bd_s, b_st90 fu hD]
      exact ⟨c4, m4, Fr_tr (FSc e3) (FSc f4), Fr_tr (FSm g3) (FSm f5), rfl, Or.inr ⟨rfl, e, p, hp, hE, hD⟩⟩
end PW2M
