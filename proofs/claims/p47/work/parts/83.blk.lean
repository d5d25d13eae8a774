section BLKM
theorem RC_brd {c c2 : Mem} {r : Nat} {s s2 : Nat → Int} {P : Nat → Nat → Bool} (hR : RC c r s) (f : Fr P c c2) (hB : RB c2 r s2) (hs : ∀ j, j ≠ 3 → j < 120 → s2 j = s j) (h1 : ∀ j, P (pRace r) j = false) (h2 : ∀ i j, i < 4 → P (pPawn r i) j = false) (h3 : ∀ i j, i < 12 → P (pBan r i) j = false) (hc : s 2 ≤ 4 ∧ s 6 ≤ 12) : RC c2 r s2 := by
  obtain ⟨_, ⟨b1, b2, b3, b4, b5⟩, p1, p2⟩ := hR
  refine ⟨hB, ⟨?_, ?_, ?_, ?_, ?_⟩, fun i hi hi2 => ?_, fun b hb hb2 => ?_⟩
  · rw [hs 2 (by decide) (by decide)]
    exact (f.1 _ _ (h1 _)).trans b1
  · rw [hs 6 (by decide) (by decide)]
    exact (f.1 _ _ (h1 _)).trans b2
  · rw [hs 4 (by decide) (by decide)]
    exact (f.1 _ _ (h1 _)).trans b3
  · rw [hs 7 (by decide) (by decide)]
    exact (f.1 _ _ (h1 _)).trans b4
  · rw [hs 5 (by decide) (by decide)]
    exact (f.1 _ _ (h1 _)).trans b5
  · rw [hs 2 (by decide) (by decide)] at hi2
    exact RP_cg (s1 := s) (fun k k0 k6 => (hs _ (by omega) (by omega)).symm) (RP_fr2 f (fun j => h2 i j hi) (p1 i hi hi2))
  · rw [hs 6 (by decide) (by decide)] at hb2
    exact RN_cg (s1 := s) (fun k k0 k6 => (hs _ (by omega) (by omega)).symm) (RN_fr2 f (fun j => h3 b j hb) (p2 b hb hb2))
theorem InvR_sw3 {s : Nat → Int} (hI : InvR s) {x y v : Int} (hpl : isPl s x y = true) (hv : v = 1 ∨ v = 2) (had : adB s x y v = true) (h3 : s 3 < 40) : InvR (sw3 s x y v) ∧ ∀ j, j ≠ 3 → j < 120 → sw3 s x y v j = s j := by
  obtain ⟨⟨⟨hz, hc, hW, hp, hb, hwp, hds, hrk, hwy⟩, h184⟩, ⟨h4, h5, h7⟩, hw0, h40⟩ := hI
  obtain ⟨⟨x0, x1⟩, y0, y1⟩ := isPl_iff.mp hpl
  obtain ⟨c1, c2, c3, c4, c5, c6, c7⟩ := hc
  have hz2 := hz
  obtain ⟨⟨w1, w2⟩, w3, w4⟩ := hz2
  have E : ∀ j, j ≠ 3 → j < 120 → sw3 s x y v j = s j := fun j a b => (sw3_ne a).trans (sw_lt x0 y0 b)
  have E0 := E 0 (by decide) (by decide)
  have E1 := E 1 (by decide) (by decide)
  have E2 := E 2 (by decide) (by decide)
  have E3 : sw3 s x y v 3 = s 3 + 1 := if_pos rfl
  have E4 := E 4 (by decide) (by decide)
  have E5 := E 5 (by decide) (by decide)
  have E6 := E 6 (by decide) (by decide)
  have E7 := E 7 (by decide) (by decide)
  have EH : ∀ j, 120 ≤ j → sw3 s x y v j = sw s x y v j := fun j hj => sw3_ne (by omega)
  have EP : ∀ q k : Int, 0 ≤ q → q ≤ 3 → 0 ≤ k → k ≤ 6 → pg (sw3 s x y v) q k = pg s q k := fun q k a b c d => E _ (by omega) (by omega)
  have EB : ∀ q k : Int, 0 ≤ q → q ≤ 11 → 0 ≤ k → k ≤ 6 → bg (sw3 s x y v) q k = bg s q k := fun q k a b c d => E _ (by omega) (by omega)
  unfold adB at had
  rw [Bool.and_eq_true] at had
  have hwb := hwB_t.mp had.2
  refine ⟨⟨⟨⟨?_, ?_, fun j h1 h2 => ?_, fun q q0 q1 => ?_, ?_, fun a b a0 a1 b0 b1 hpl2 => ?_, fun q1 q2 a0 a1 b0 b1 hq f1 f2 => ?_, fun q1 q2 a0 a1 b0 b1 hq f1 => ?_, fun q q0 q1 => ?_⟩, fun j hj => ?_⟩, ⟨by rw [E4]; exact h4, by rw [E5]; exact h5, by rw [E7]; exact h7⟩, fun h j hj => ?_, by rw [E3]; omega⟩, E⟩
  · unfold szO
    rw [E0, E1]
    exact hz
  · unfold cnO
    rw [E2, E3, E4, E5, E6, E7]
    exact ⟨c1, c2, by omega, c4, c5, c6, c7⟩
  · rw [EH j h1]
    exact sw_wl (by omega) hW j h1 h2
  · rw [E2] at q1
    have := hp q q0 q1
    unfold pnO at this ⊢
    rw [EP q 0 q0 (by omega) (by decide) (by decide), EP q 1 q0 (by omega) (by decide) (by decide), EP q 2 q0 (by omega) (by decide) (by decide), EP q 3 q0 (by omega) (by decide) (by decide), EP q 4 q0 (by omega) (by decide) (by decide), EP q 5 q0 (by omega) (by decide) (by decide), EP q 6 q0 (by omega) (by decide) (by decide), isCl_cg E0 E1, atS_cg E0 E1, E4, E5]
    exact this
  · exact bas_cg E0 E1 E2 E6 c2.2 EB hb
  · rw [isPl_cg E0 E1] at hpl2
    rw [EH _ (by omega)]
    unfold sw
    rw [if_neg (fun h => by
      have e1 : a = x := by omega
      have e2 : b = y := by omega
      rw [e1, e2, hpl] at hpl2
      exact absurd hpl2 (by decide))]
    exact hwp a b a0 a1 b0 b1 hpl2
  · rw [E2] at a1 b1
    rw [EP _ _ a0 (by omega) (by decide) (by decide)] at f1
    rw [EP _ _ b0 (by omega) (by decide) (by decide)] at f2
    rw [EP _ _ a0 (by omega) (by decide) (by decide), EP _ _ a0 (by omega) (by decide) (by decide), EP _ _ b0 (by omega) (by decide) (by decide), EP _ _ b0 (by omega) (by decide) (by decide)]
    exact hds q1 q2 a0 a1 b0 b1 hq f1 f2
  · rw [E2] at a1 b1
    rw [EP _ _ a0 (by omega) (by decide) (by decide)] at f1 ⊢
    rw [EP _ _ b0 (by omega) (by decide) (by decide)]
    exact hrk q1 q2 a0 a1 b0 b1 hq f1
  · rw [E2] at q1
    have e2 : sw s x y v 2 = s 2 := sw_lt x0 y0 (by decide)
    have := hwb q q0 (by rw [e2]; exact q1)
    rw [dst_cg (s1 := sw3 s x y v) (s2 := sw s x y v) (sw3_ne (by decide)) (sw3_ne (by decide)) EH (sw3_ne (by omega)) (sw3_ne (by omega)) (sw3_ne (by omega)) (by
      have e6 : pg (sw3 s x y v) q 6 = pg (sw s x y v) q 6 := sw3_ne (by omega)
      rw [e6])]
    exact this
  · rw [EH j (by omega)]
    unfold sw
    rw [if_neg (by omega)]
    exact h184 j hj
  · rw [E3] at h
    omega
theorem b_b104 (fu : Nat) {m : Mem} {e p : Int} (h : BDr m e p) (x y w : Int32) : K_X12_readsBlock_104 fu x y w m = some m := by
  unfold K_X12_readsBlock_104
  rw [b_isGood fu h, bd_s, if_pos z00]
theorem b_b82 (fu : Nat) {m : Mem} {e p : Int} (h : BDr m e p) (x y w : Int32) : K_X12_readsBlock_82 fu x y w m = some m := by
  unfold K_X12_readsBlock_82
  rw [b_isGood fu h, bd_s, if_pos z00, b_b104 fu h]
theorem b_b28 (fu : Nat) {m : Mem} {e p : Int} (h : BDr m e p) : K_X12_readsBlock_28 fu m = some m := by
  unfold K_X12_readsBlock_28
  rw [gi0m, b_number fu h, bd_s, ltf, gi1m, b_number fu h, bd_s, ltf, b_wayHere fu h, bd_s, ltf, b_isGood fu h, bd_s, if_pos z00, b_b82 fu h]
theorem b_b17 (fu : Nat) {m : Mem} {e p : Int} (h : BDr m e p) : K_X12_readsBlock_17 fu m = some m := by
  unfold K_X12_readsBlock_17
  rw [b_isGood fu h, bd_s, if_pos z00, b_b28 fu h]
theorem p_block (fu : Nat) (hfu : 1000 ≤ fu) {c m : Mem} {T : Nat → Int} {L N n : Nat} {s : Nat → Int} {nm : Nat → Nat} (hB : CBr c T L N n) (hG : GMr m T L n) (hn : n ≤ 700) (hk : kkP T L (tpo T L n) = 1) (hR : RDs c m T L s nm) : OUTr (K_X7_readBlock fu c) (bd (K_X12_readsBlock fu m) (fun m_9 => K_X12_statement_90 fu m_9)) c m T L N n := by
  obtain ⟨⟨a2, a3⟩, ⟨b2, b3⟩, q2, q3⟩ := RD_cn hR
  have b3' : rd m 2 (Int32.toNatClampNeg 3) = zi (s 3) := b3
  have i40 : (zi (s 3) < (40 : Int32)) = (s 3 < 40) := zi_lt (b_ := 40) (by omega) (by omega) (by decide) (by decide)
  have j40 : (zi (s 3) = (40 : Int32)) = (s 3 = 40) := zi_inj (b_ := 40) (by omega) (by omega) (by decide) (by decide)
  unfold K_X7_readBlock K_X12_readsBlock
  rw [a3, gi3m, b3']
  by_cases q : s 3 = 40
  · rw [if_neg (fun h => absurd (i40.mp h) (by omega)), if_pos (j40.mpr q)]
    obtain ⟨c4, m4, v1, v2, v3, v4, v5⟩ := p_fail fu hB hG (e := 6) ⟨by decide, by decide⟩ (fun h => by omega)
    have v1' : K_X9_fail fu 6 c = some (zi 0, c4) := v1
    have v2' : K_X12_wrong fu 6 m = some m4 := v2
    obtain ⟨e, p, hp, hE, hD⟩ := v3
    rw [v1', bd_s, v2', bd_s, b_b17 fu hD, bd_s, b_st90 fu hD]
    exact ⟨c4, m4, FSc v4, FSm v5, rfl, Or.inr ⟨gb_zi _ (Or.inl rfl), e, p, hp, hE, hD⟩⟩
  · rw [if_pos (i40.mpr (by omega)), if_neg (fun h => q (j40.mp h))]
    obtain ⟨m1, g1, hG1, g3⟩ := p_go fu hfu hG
    have hR1 := RDs_fr hR (Fr_rf P2t _) g3 P2_rd PGe_rd
    have fm1 : Fr PSm m m1 := FSm g3
    unfold K_X12_readsBlock_17 K_X12_readsBlock_28
    rw [g_isGood fu hG.2.1, bd_s, if_neg z10, g1, bd_s]
    obtain ⟨⟨z1, z2⟩, z3, z4⟩ := hR.2.2.1.1.1.1
    have w0 : rd c (pBoard 1) 0 - 2 = zi (s 0 - 2) := by rw [hR.1.1.1, show (2 : Int32) = zi 2 from rfl, zi_sub]
    have w0m : rd m1 2 (Int32.toNatClampNeg 0) - 2 = zi (s 0 - 2) := by
      have : rd m1 2 (Int32.toNatClampNeg 0) = zi (s 0) := hR1.2.1 0
      rw [this, show (2 : Int32) = zi 2 from rfl, zi_sub]
    rw [gi0m, w0, w0m]
    rcases p_num fu hfu (CB_A hB) hG1 (by omega) (a := 0) (b := s 0 - 2) (by omega) with ⟨c3, m3, x, u1, u2, u3, u4, u5, u6, u7, u8⟩ | ⟨c3, m3, x, u1, u5, u6, u7, u8⟩
    · have u1' : K_X9_needNumber fu 0 (zi (s 0 - 2)) c = some (zi 1, c3) := u1
      have u5' : K_X12_number fu 0 (zi (s 0 - 2)) m1 = some (zi x, m3) := u5
      have hR3 := RDs_fr hR1 u7 u8 P2_rd PGe_rd
      have fc3 : Fr PSc c c3 := FSc u7
      have fm3 : Fr PSm m m3 := Fr_tr fm1 (FSm u8)
      have w1 : rd c3 (pBoard 1) 1 - 2 = zi (s 1 - 2) := by rw [hR3.1.1.2.1, show (2 : Int32) = zi 2 from rfl, zi_sub]
      have w1m : rd m3 2 (Int32.toNatClampNeg 1) - 2 = zi (s 1 - 2) := by
        have : rd m3 2 (Int32.toNatClampNeg 1) = zi (s 1) := hR3.2.1 1
        rw [this, show (2 : Int32) = zi 2 from rfl, zi_sub]
      rw [u1', bd_s, if_neg z10, ltf, u3, u5', bd_s, ltf, gi1m, w1, w1m]
      rcases p_num fu hfu (CB_A u2) u6 (by omega) (a := 0) (b := s 1 - 2) (by omega) with ⟨c4, m4, y, v1, v2, v3, v4, v5, v6, v7, v8⟩ | ⟨c4, m4, y, v1, v5, v6, v7, v8⟩
      · have v1' : K_X9_needNumber fu 0 (zi (s 1 - 2)) c3 = some (zi 1, c4) := v1
        have v5' : K_X12_number fu 0 (zi (s 1 - 2)) m3 = some (zi y, m4) := v5
        have hR4 := RDs_fr hR3 v7 v8 P2_rd PGe_rd
        have fc4 : Fr PSc c c4 := Fr_tr fc3 (FSc v7)
        have fm4 : Fr PSm m m4 := Fr_tr fm3 (FSm v8)
        rw [v1', bd_s, if_neg z10, ltf, v3, v5', bd_s, ltf]
        rcases p_way fu hfu (CB_A v2) v6 (by omega) with ⟨c5, m5, w, t1, t2, t3, t4, t5, t6, t7⟩ | ⟨c5, m5, t1, t4, t5, t6, t7⟩
        · have hR5 := RDs_fr hR4 t6 t7 P2_rd PGe_rd
          have fc5 : Fr PSc c c5 := Fr_tr fc4 (FSc t6)
          have fm5 : Fr PSm m m5 := Fr_tr fm4 (FSm t7)
          have hw1 : ¬ (zi w = (-1 : Int32)) := by
            have : (zi w = (-1 : Int32)) = (w = -1) := zi_inj (b_ := -1) (by omega) (by omega) (by decide) (by decide)
            rw [this]
            omega
          rw [t1, bd_s, ltf, if_neg hw1, t4, bd_s, ltf, g_isGood fu t5.2.1, bd_s, if_neg z10]
          rcases p_sign fu hfu (CB_A t3) t5 (by omega) (x := 59) ⟨by decide, by decide⟩ with ⟨c6, m6, r1, r2, r3, r4, r5, r6, r7, r8⟩ | ⟨c6, m6, r1, r2, r3, r4, r5, r6, r7⟩
          · have r1' : K_X9_needSign fu 59 c5 = some (zi 1, c6) := r1
            have r4' : K_X12_isSign fu 59 m5 = some (zi 1) := r4
            have hR6 := RDs_fr hR5 r7 (Fr_rf PGe _) P2_rd PGe_rd
            have fc6 : Fr PSc c c6 := Fr_tr fc5 (FSc r7)
            rw [r1', bd_s, if_neg z10, r4', bd_s, if_neg z10]
            obtain ⟨hRC, hMS, hIR, hFL, hNM⟩ := hR6
            obtain ⟨iz, ic, iW, ip, ib, iwp, ids, irk, iwy⟩ := hIR.1.1
            have hpl : isPl s x y = true := isPl_iff.mpr ⟨by omega, by omega⟩
            obtain ⟨c7, e1, e2, e3⟩ := c_markTrails fu 1 hfu iz ic iW ip iwy hRC.1 ⟨hRC.2.1.1, hRC.2.2.1⟩
            have nFT : ∀ k j, k < 18 ∨ 35 ≤ k → FT k j = false := fun k j h => by
              rcases h with h | h
              · unfold FT PC pDist pQueue pWays
                simp only [Bool.or_eq_false_iff, Bool.and_eq_false_iff, beq_eq_false_iff_ne, ne_eq]
                omega
              · exact FT_lo k j h
            have hRC7 : RC c7 1 s := RC_fr2 e3 (fun k j h1 h2 => nFT k j (by omega)) hRC
            obtain ⟨c8, d1, d2, d3⟩ := c_admits fu 1 hfu iz ic iW ip iwy (mem := c7) ⟨hRC7.1, ⟨hRC7.2.1.1, hRC7.2.2.1⟩, e2⟩ (x := x) (y := y) (w := w) (by omega) (by omega) (by omega) (by omega) t2
            obtain ⟨m7, k1, k2⟩ := m_admits fu hfu hMS iz iW ic ip hpl (w := w + 1) (by omega)
            have nPA : ∀ k j, (k < 20 ∨ 23 ≤ k) → k ≠ pOpen 1 → k ≠ pBuilt 1 → k ≠ pBoard 1 → PA 1 k j = false := fun k j h h1 h2 h3 => by
              unfold PA PWl PC pDist pQueue pWays
              simp only [Bool.or_eq_false_iff, Bool.and_eq_false_iff, beq_eq_false_iff_ne, ne_eq]
              exact ⟨by omega, ⟨h1, h2⟩, Or.inl h3⟩
            have fSFT : Fr PSc c6 c7 := Fr_mono e3 (fun k j h => by
              have := PSc_ne h
              unfold FT PC pDist pQueue pWays
              simp only [Bool.or_eq_false_iff, Bool.and_eq_false_iff, beq_eq_false_iff_ne, ne_eq]
              omega)
            have fSPA : Fr PSc c7 c8 := Fr_mono d3 (fun k j h => by
              have := PSc_ne h
              exact nPA k j (by omega) (by unfold pOpen; omega) (by unfold pBuilt; omega) (by unfold pBoard; omega))
            have lo : ∀ k j, k < 18 → PA 1 k j = false := fun k j h => nPA k j (by omega) (by unfold pOpen; omega) (by unfold pBuilt; omega) (by unfold pBoard; omega)
            have hB8 : CBr c8 T L N (n + 1 + 1 + 1 + 1) := CB_fr (CB_fr r2 e3 (fun k j h1 h2 => nFT k j (by omega))) d3 (fun k j h1 h2 => lo k j (by omega))
            have hG7 : GMr m7 T L (n + 1 + 1 + 1 + 1) := GM_fr t5 k2 PB_0 (fun _ => rfl)
            have fc8 : Fr PSc c c8 := Fr_tr (Fr_tr fc6 fSFT) fSPA
            have fm7 : Fr PSm m m7 := Fr_tr fm5 (Fr_mono k2 (fun k j h => PB_Sm h))
            rw [hpl, Bool.true_and] at d1
            unfold K_X12_readsBlock_82
            rw [e1, bd_s, d1, bd_s, g_isGood fu t5.2.1, bd_s, if_neg z10, k1, bd_s]
            by_cases had : adB s x y (w + 1) = true
            · rw [had, if_neg (show ¬ zi (bi true) = 0 by decide), if_neg (show ¬ zi (bi true) = 0 by decide)]
              obtain ⟨c9, o1, o2, o3⟩ := c_raise fu 1 hfu d2.1 iz hpl t2 (ad_hr had)
              obtain ⟨hI', hE'⟩ := InvR_sw3 hIR hpl (v := w + 1) (by omega) had (by omega)
              have nPW : ∀ k j, k ≠ pOpen 1 → k ≠ pBuilt 1 → k ≠ pBoard 1 → PWl 1 k j = false := fun k j h1 h2 h3 => by
                unfold PWl
                simp only [Bool.or_eq_false_iff, Bool.and_eq_false_iff, beq_eq_false_iff_ne, ne_eq]
                exact ⟨⟨h1, h2⟩, Or.inl h3⟩
              have lo2 : ∀ k j, k < 57 → PWl 1 k j = false := fun k j h => nPW k j (by unfold pOpen; omega) (by unfold pBuilt; omega) (by unfold pBoard; omega)
              have hRC9 : RC c9 1 (sw3 s x y (w + 1)) := by
                refine RC_brd (P := fun k j => PA 1 k j || PWl 1 k j) hRC7 (Fr_tr (Fr_mono d3 (fun k j h => (Bool.or_eq_false_iff.mp h).1)) (Fr_mono o3 (fun k j h => (Bool.or_eq_false_iff.mp h).2))) o2 hE' (fun j => ?_) (fun i j hi => ?_) (fun i j hi => ?_) ⟨by omega, ic.2.1.2⟩
                · rw [nPA _ _ (by unfold pRace; omega) (by unfold pRace pOpen; omega) (by unfold pRace pBuilt; omega) (by unfold pRace pBoard; omega), nPW _ _ (by unfold pRace pOpen; omega) (by unfold pRace pBuilt; omega) (by unfold pRace pBoard; omega)]
                  rfl
                · rw [nPA _ _ (by unfold pPawn; omega) (by unfold pPawn pOpen; omega) (by unfold pPawn pBuilt; omega) (by unfold pPawn pBoard; omega), nPW _ _ (by unfold pPawn pOpen; omega) (by unfold pPawn pBuilt; omega) (by unfold pPawn pBoard; omega)]
                  rfl
                · rw [nPA _ _ (by unfold pBan; omega) (by unfold pBan pOpen; omega) (by unfold pBan pBuilt; omega) (by unfold pBan pBoard; omega), nPW _ _ (by unfold pBan pOpen; omega) (by unfold pBan pBuilt; omega) (by unfold pBan pBoard; omega)]
                  rfl
              have hB9 : CBr c9 T L N (n + 1 + 1 + 1 + 1) := CB_fr hB8 o3 (fun k j h1 h2 => lo2 k j (by omega))
              have hMS7 : MS m7 s := fun j => (k2.1 _ _ rfl).trans (hMS j)
              obtain ⟨m8, hm8⟩ : ∃ m8, m8 = mw m7 2 (120 + 8 * y + x).toNat (zi (w + 1)) := ⟨_, rfl⟩
              have hMS8 : MS m8 (sw s x y (w + 1)) := by
                rw [hm8]
                exact MS_sw hMS7 x y (w + 1)
              have r38 : rd m8 2 3 = zi (s 3) := (hMS8 3).trans (congrArg zi (sw_lt (by omega) (by omega) (by decide)))
              have hMS9 : MS (mw m8 2 3 (zi (s 3 + 1))) (sw3 s x y (w + 1)) := fun j => by
                rw [rd_mw]
                unfold sw3
                by_cases e : j = 3
                · rw [if_pos ⟨rfl, e⟩, if_pos e]
                · rw [if_neg (fun h => e h.2), if_neg e]
                  exact hMS8 j
              have h104 : K_X12_readsBlock_104 fu (zi x) (zi y) (zi (w + 1)) m7 = some (mw m8 2 3 (zi (s 3 + 1))) := by
                have ia : ((120 : Int) + 8 * y + x).toNat = (120 + 8 * y + x).toNat := rfl
                unfold K_X12_readsBlock_104
                rw [g_isGood fu hG7.2.1, bd_s, if_neg z10]
                simp (disch := omega) only [zi_lit, zl_lit, zi_add, zi_sub, zi_mul, zi_neg, zi_lt, zi_inj, zi_clamp, zl_of, gi_zi, bd_s, ltf, bi_0, bi_1, gb_bi, Int.reduceToNat, Int.reduceNeg, Int.toNat_natCast, ← hm8, r38]
              have fP2 : Fr (fun k j => k == 2 && decide (j < 184)) m7 (mw m8 2 3 (zi (s 3 + 1))) := by
                rw [hm8]
                exact Fr_tr (Fr_mw _ _ (by rw [decide_eq_true (by omega)]; rfl)) (Fr_mw _ _ rfl)
              have hG9 : GMr (mw m8 2 3 (zi (s 3 + 1))) T L (n + 1 + 1 + 1 + 1) := GM_fr hG7 fP2 (fun _ _ => rfl) (fun _ => rfl)
              rw [o1, bd_s, h104, bd_s]
              obtain ⟨m10, x1, x2, x3⟩ := m_mustSign fu hfu hG9 (x := 59) ⟨by decide, by decide⟩ r3
              have x1' : K_X12_mustSign fu 59 (mw m8 2 3 (zi (s 3 + 1))) = some m10 := x1
              have ht := tok_700 hB9.1 (by rw [sg_k r3]; decide)
              refine ⟨c9, m10, Fr_tr fc8 (Fr_mono o3 (fun k j h => ?_)), Fr_tr (Fr_tr fm7 (Fr_mono fP2 (fun k j h => ?_))) (FSm x3), ?_, Or.inl ⟨rfl, n + 1 + 1 + 1 + 1 + 1, sw3 s x y (w + 1), nm, by omega, by omega, CB_A hB9, x2, ?_⟩⟩
              · have := PSc_ne h
                exact nPW k j (by unfold pOpen; omega) (by unfold pBuilt; omega) (by unfold pBoard; omega)
              · have := (PSm_ne h).2.1
                simp only [Bool.and_eq_false_iff, beq_eq_false_iff_ne, ne_eq, decide_eq_false_iff_not]
                omega
              · unfold K_X12_statement_90
                rw [x1']
                rfl
              · obtain ⟨b1, bb2, ww, y1, y2, y3, y4⟩ := hFL
                have gc : ∀ k j, 7 ≤ k → k ≤ 9 → rd c9 k j = rd c6 k j := fun k j a b => ((o3.1 _ _ (lo2 k j (by omega))).trans (d3.1 _ _ (lo k j (by omega)))).trans (e3.1 _ _ (nFT k j (by omega)))
                have gm : ∀ j, 24 ≤ j → j ≤ 26 → rd m10 0 j = rd m5 0 j := fun j a b => ((x3.1 _ _ ((PGe_rd j).2.2 a b)).trans (fP2.1 _ _ rfl)).trans (k2.1 _ _ ((PB_rd j).2.2 a b))
                refine ⟨hRC9, fun j => (x3.1 _ _ rfl).trans (hMS9 j), hI', ⟨b1, bb2, ww, y1, ⟨(gc _ _ (by decide) (by decide)).trans y2.1, (gm _ (by decide) (by decide)).trans y2.2⟩, ⟨(gc _ _ (by decide) (by decide)).trans y3.1, (gm _ (by decide) (by decide)).trans y3.2⟩, (gc _ _ (by decide) (by decide)).trans y4.1, (gm _ (by decide) (by decide)).trans y4.2⟩, ?_⟩
                rw [hE' 2 (by decide) (by decide)]
                refine ⟨fun i hi => ?_, hNM.2⟩
                obtain ⟨f1, f2, f3, f4, f5⟩ := hNM.1 i hi
                exact ⟨f1, f2, (gc _ _ (by decide) (by decide)).trans f3, (gc _ _ (by decide) (by decide)).trans f4, ((x3.2 _ _ rfl).trans ((fP2.2 _ _ rfl).trans (k2.2 _ _ rfl))).trans f5⟩
            · have had' : adB s x y (w + 1) = false := by
                cases hh : adB s x y (w + 1) with
                | true => exact absurd hh had
                | false => rfl
              rw [had', if_pos (show zi (bi false) = 0 from rfl), if_pos (show zi (bi false) = 0 from rfl)]
              obtain ⟨c9, m9, x1, x2, x3, x4, x5⟩ := p_fail fu hB8 hG7 (e := 5) ⟨by decide, by decide⟩ (fun h => by rw [sg_k r3] at h; omega)
              have x1' : K_X9_fail fu 5 c8 = some (zi 0, c9) := x1
              have x2' : K_X12_wrong fu 5 m7 = some m9 := x2
              obtain ⟨e, p, hp, hE, hD⟩ := x3
              rw [x1', bd_s, x2', bd_s, b_b104 fu hD, bd_s, b_st90 fu hD]
              exact ⟨c9, m9, Fr_tr fc8 (FSc x4), Fr_tr fm7 (FSm x5), rfl, Or.inr ⟨gb_zi _ (Or.inl rfl), e, p, hp, hE, hD⟩⟩
          · have r1' : K_X9_needSign fu 59 c5 = some (zi 0, c6) := r1
            have r2' : K_X12_isSign fu 59 m5 = some (zi 0) := r2
            have r3' : K_X12_wrong fu 1 m5 = some m6 := r3
            obtain ⟨e, p, hp, hE, hD⟩ := r5
            rw [r1', bd_s, if_pos z00, r2', bd_s, if_pos z00, r3', bd_s, b_b82 fu hD, bd_s, b_st90 fu hD]
            exact ⟨c6, m6, Fr_tr fc5 (FSc r6), Fr_tr fm5 (FSm r7), rfl, Or.inr ⟨rfl, e, p, hp, hE, hD⟩⟩
        · obtain ⟨e, p, hp, hE, hD⟩ := t5
          rw [t1, bd_s, ltf, if_pos (show zi (-1) = -1 from rfl), t4, bd_s, ltf, b_isGood fu hD, bd_s, if_pos z00, b_b82 fu hD, bd_s, b_st90 fu hD]
          exact ⟨c5, m5, Fr_tr fc4 (FSc t6), Fr_tr fm4 (FSm t7), rfl, Or.inr ⟨rfl, e, p, hp, hE, hD⟩⟩
      · have v1' : K_X9_needNumber fu 0 (zi (s 1 - 2)) c3 = some (zi 0, c4) := v1
        have v5' : K_X12_number fu 0 (zi (s 1 - 2)) m3 = some (y, m4) := v5
        obtain ⟨e, p, hp, hE, hD⟩ := v6
        rw [v1', bd_s, if_pos z00, v5', bd_s, ltf, b_wayHere fu hD, bd_s, ltf, b_isGood fu hD, bd_s, if_pos z00, b_b82 fu hD, bd_s, b_st90 fu hD]
        exact ⟨c4, m4, Fr_tr fc3 (FSc v7), Fr_tr fm3 (FSm v8), rfl, Or.inr ⟨rfl, e, p, hp, hE, hD⟩⟩
    · have u1' : K_X9_needNumber fu 0 (zi (s 0 - 2)) c = some (zi 0, c3) := u1
      have u5' : K_X12_number fu 0 (zi (s 0 - 2)) m1 = some (x, m3) := u5
      obtain ⟨e, p, hp, hE, hD⟩ := u6
      rw [u1', bd_s, if_pos z00, u5', bd_s, ltf, gi1m, b_number fu hD, bd_s, ltf, b_wayHere fu hD, bd_s, ltf, b_isGood fu hD, bd_s, if_pos z00, b_b82 fu hD, bd_s, b_st90 fu hD]
      exact ⟨c3, m3, FSc u7, Fr_tr fm1 (FSm u8), rfl, Or.inr ⟨rfl, e, p, hp, hE, hD⟩⟩
end BLKM
