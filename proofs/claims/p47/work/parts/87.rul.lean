section RULM
theorem b_r96 (fu : Nat) {m : Mem} {e p : Int} (h : BDr m e p) (x1 : Int32) : K_X12_readsRule_96 fu x1 m = some m := by
  unfold K_X12_readsRule_96
  rw [b_isGood fu h, bd_s, if_pos z00]
theorem b_r85 (fu : Nat) {m : Mem} {e p : Int} (h : BDr m e p) (x1 : Int32) : K_X12_readsRule_85 fu x1 m = some m := by
  unfold K_X12_readsRule_85
  rw [b_isGood fu h, bd_s, if_pos z00, b_r96 fu h]
theorem b_n69 (fu : Nat) {m : Mem} {e p : Int} (h : BDr m e p) (hx : ∃ a : Int, rd m 2 6 = zi a ∧ 0 ≤ a ∧ a ≤ 1000) : K_X12_readsBan_69 fu m = some m := by
  obtain ⟨a, ha, h0, h1⟩ := hx
  have ha' : rd m 2 (Int32.toNatClampNeg 6) = zi a := ha
  have hl : K_X12_less fu (zi a) 11 m = some (zi (lsI a 11)) := k_less fu m (by omega) (by omega) (b := 11) (by decide) (by decide)
  unfold K_X12_readsBan_69
  rw [gi6m, ha', hl, bd_s, ltf, b_isGood fu h, bd_s, if_pos z00]
theorem b_n49 (fu : Nat) {m : Mem} {e p : Int} (h : BDr m e p) (hx : ∃ a : Int, rd m 2 6 = zi a ∧ 0 ≤ a ∧ a ≤ 1000) : K_X12_readsBan_49 fu m = some m := by
  unfold K_X12_readsBan_49
  rw [b_isGood fu h, bd_s, if_pos z00, b_n69 fu h hx]
theorem b_n29 (fu : Nat) {m : Mem} {e p : Int} (h : BDr m e p) (hx : ∃ a : Int, rd m 2 6 = zi a ∧ 0 ≤ a ∧ a ≤ 1000) : K_X12_readsBan_29 fu m = some m := by
  unfold K_X12_readsBan_29
  rw [b_isGood fu h, bd_s, if_pos z00, b_n49 fu h hx]
theorem b_n18 (fu : Nat) {m : Mem} {e p : Int} (h : BDr m e p) (hx : ∃ a : Int, rd m 2 6 = zi a ∧ 0 ≤ a ∧ a ≤ 1000) : K_X12_readsBan_18 fu m = some m := by
  unfold K_X12_readsBan_18
  rw [b_isGood fu h, bd_s, if_pos z00, b_n29 fu h hx]
/-- the class's readBan behind the name -/
def tlN (fu : Nat) (i : Nat) (m_5 : Mem) : Option (Int32 × Mem) := bd (K_X9_advance fu m_5) (fun m_6 => bd (K_X9_isWord fu 8 m_6) (fun p_7 => (if p_7.1 = 0 then bd (K_X9_isWord fu 9 p_7.2) (fun p_8 => (if p_8.1 = 0 then bd (K_X9_side fu p_8.2) (fun p_9 => lt_ p_9.1 (fun x_10 => (if x_10 = (-1) then bd (K_X9_fail fu 1 p_9.2) (fun p_11 => gb p_11.1 (some (p_11.1, p_11.2))) else bd (K_X9_advance fu p_9.2) (fun m_13 => bd (K_X9_isWord fu 10 m_13) (fun p_14 => (if p_14.1 = 0 then bd (K_X9_isWord fu 12 p_14.2) (fun p_15 => (if p_15.1 = 0 then bd (K_X9_fail fu 1 p_15.2) (fun p_16 => gb p_16.1 (some (p_16.1, p_16.2))) else bd (K_X7_readWithin fu 1 i x_10 p_15.2) (fun p_18 => gb p_18.1 (some (p_18.1, p_18.2))))) else bd (K_X7_readEvery fu 1 i x_10 p_14.2) (fun p_20 => gb p_20.1 (some (p_20.1, p_20.2))))))))) else lt_ (mw p_8.2 (pBan 1 i) 1 1) (fun m_22 => bd (K_X9_needSign fu 59 m_22) (fun p_23 => gb p_23.1 (some (p_23.1, p_23.2)))))) else lt_ (mw p_7.2 (pBan 1 i) 1 0) (fun m_25 => bd (K_X9_needSign fu 59 m_25) (fun p_26 => gb p_26.1 (some (p_26.1, p_26.2)))))))
theorem p_rule (fu : Nat) (hfu : 1000 ≤ fu) {c1 m1 c m c0 m0 : Mem} {T : Nat → Int} {L N n n0 : Nat} {s : Nat → Int} {nm : Nat → Nat} {b : Nat} {g : Nat → Int} (hA : CAr c T L N n) (hG : GMr m T L n) (hn : n ≤ 750) (hS : BSt c1 m1 c0 m0 T L s nm b) (hBN : BNr c1 m1 c m s b g) (h0 : n0 ≤ n) (hg0 : 0 ≤ g 0 ∧ g 0 < s 2) : OUTr (tlN fu b c) (bd (bd (K_X12_readsRule fu (zi ((36 + 7 * b : Nat) : Int)) m) (fun m_18 => tlI fu m_18)) (fun m_8 => K_X12_statement_90 fu m_8)) c0 m0 T L N n0 := by
  obtain ⟨hR, hb, h6, hc, hm⟩ := hS
  have hS : BSt c1 m1 c0 m0 T L s nm b := ⟨hR, hb, h6, hc, hm⟩
  obtain ⟨⟨w0, w1, w2, w3, w4, w5, w6, w7⟩, w8, w9, w10, w11, w12, w13, w14, w15, w16⟩ := Wt_all
  obtain ⟨c2, a1, hB2, a3⟩ := p_adv fu hA (by omega)
  have cw8 := c_isWord fu hfu hB2.1 hB2.2.1 (t := 8) (by decide) w8
  have cw9 := c_isWord fu hfu hB2.1 hB2.2.1 (t := 9) (by decide) w9
  have mw8 : K_X12_isWord fu 66667 m = _ := m_isWord fu hG (W := 66667) (by decide)
  have mw9 : K_X12_isWord fu 1279278 m = _ := m_isWord fu hG (W := 1279278) (by decide)
  have hsd := sd_le T L (tpo T L n)
  have t1 : ∀ (v : Int32), Fr (PB1 b) c2 (mw c2 (pBan 1 b) 1 v) := fun v => Fr_mw _ _ (by unfold PB1; simp)
  -- what the reference has written, for kind k
  have two : ∀ k : Int, 0 ≤ k → k ≤ 3 → K_X12_readsRule_36 fu (zi ((36 + 7 * b : Nat) : Int)) (zi k) (zi ((36 + 7 * b : Nat) : Int) + 1) m = (if k = 2 ∧ sdV T L (tpo T L n) = -1 then bd (K_X12_wrong fu 1 (mw (mw m 2 (36 + 7 * b + 1) (zi k)) 2 (36 + 7 * b + 2) (zi (sdV T L (tpo T L n))))) (fun m_11 => K_X12_readsRule_85 fu (zi ((36 + 7 * b : Nat) : Int)) m_11) else K_X12_readsRule_85 fu (zi ((36 + 7 * b : Nat) : Int)) (mw (mw m 2 (36 + 7 * b + 1) (zi k)) 2 (36 + 7 * b + 2) (zi (sdV T L (tpo T L n))))) := fun k k0 k3 => by
    have hG1 : GMr (mw m 2 (36 + 7 * b + 1) (zi k)) T L n := GM_fr hG (P := fun k _ => k == 2) (Fr_mw _ _ rfl) (fun _ _ => rfl) (fun _ => rfl)
    have hG2 : GMr (mw (mw m 2 (36 + 7 * b + 1) (zi k)) 2 (36 + 7 * b + 2) (zi (sdV T L (tpo T L n)))) T L n := GM_fr hG1 (P := fun k _ => k == 2) (Fr_mw _ _ rfl) (fun _ _ => rfl) (fun _ => rfl)
    have r1 : rd (mw (mw m 2 (36 + 7 * b + 1) (zi k)) 2 (36 + 7 * b + 2) (zi (sdV T L (tpo T L n)))) 2 (36 + 7 * b + 1) = zi k := by rw [rd_mw, if_neg (by omega), rd_mw, if_pos ⟨rfl, rfl⟩]
    have r2 : rd (mw (mw m 2 (36 + 7 * b + 1) (zi k)) 2 (36 + 7 * b + 2) (zi (sdV T L (tpo T L n)))) 2 (36 + 7 * b + 2) = zi (sdV T L (tpo T L n)) := by rw [rd_mw, if_pos ⟨rfl, rfl⟩]
    have i1 : (zi k = (2 : Int32)) = (k = 2) := zi_inj (b_ := 2) (by omega) (by omega) (by decide) (by decide)
    have i2 : (zi (sdV T L (tpo T L n)) = (-1 : Int32)) = (sdV T L (tpo T L n) = -1) := zi_inj (b_ := -1) (by omega) (by omega) (by decide) (by decide)
    unfold K_X12_readsRule_36
    rw [xk1, xk2, xkg hb (by decide), ltf, xkc hb (by decide), m_sideHere fu hG1, bd_s, xkg hb (by decide), ltf, xkc hb (by decide), g_isGood fu hG2.2.1, bd_s, if_neg z10, xkg hb (by decide), r1, xkg hb (by decide), r2]
    by_cases q1 : k = 2
    · rw [if_pos (i1.mpr q1)]
      by_cases q2 : sdV T L (tpo T L n) = -1
      · rw [if_pos (i2.mpr q2), if_pos ⟨q1, q2⟩]
      · rw [if_neg (fun h => q2 (i2.mp h)), if_neg (fun h => q2 h.2)]
    · rw [if_neg (fun h => q1 (i1.mp h)), if_neg (fun h => q1 h.1)]
  -- a short rule
  have short : ∀ k : Int, k = 0 ∨ k = 1 → kkP T L (tpo T L n) = 1 → OUTr (bd (K_X9_needSign fu 59 (mw c2 (pBan 1 b) 1 (zi k))) (fun p_6 => gb p_6.1 (some (p_6.1, p_6.2)))) (bd (bd (K_X12_readsRule_36 fu (zi ((36 + 7 * b : Nat) : Int)) (zi k) (zi ((36 + 7 * b : Nat) : Int) + 1) m) (fun m_18 => tlI fu m_18)) (fun m_8 => K_X12_statement_90 fu m_8)) c0 m0 T L N n0 := fun k hk kk => by
    have hBN2 := BN_w hb (BN_w hb (BN_fr hBN a3 (Fr_rf PGe m)) (k := 1) (by decide) (by decide) k) (k := 2) (by decide) (by decide) (sdV T L (tpo T L n))
    have hG2 : GMr (mw (mw m 2 (36 + 7 * b + 1) (zi k)) 2 (36 + 7 * b + 2) (zi (sdV T L (tpo T L n)))) T L n := GM_fr hG (P := fun k _ => k == 2) (Fr_tr (Fr_mw _ _ rfl) (Fr_mw _ _ rfl)) (fun _ _ => rfl) (fun _ => rfl)
    obtain ⟨m3, g1, hG3, g3⟩ := p_go fu hfu hG2
    have hBN3 := BN_c (BN_fr hBN2 (Fr_rf P2t _) g3) (t1 (zi k))
    have rk : rd m3 2 (36 + 7 * b + 1) = zi k := by
      rw [g3.1 _ _ rfl, rd_mw, if_neg (by omega), rd_mw, if_pos ⟨rfl, rfl⟩]
    have ik : zi k < 2 := by
      have : (zi k < (2 : Int32)) = (k < 2) := zi_lt (b_ := 2) (by omega) (by omega) (by decide) (by decide)
      exact this.mpr (by omega)
    rw [two k (by omega) (by omega), if_neg (fun h => by omega)]
    unfold K_X12_readsRule_85 K_X12_readsRule_96
    rw [g_isGood fu hG2.2.1, bd_s, if_neg z10, g1, bd_s, g_isGood fu hG3.2.1, bd_s, if_neg z10, xk1, xkg hb (by decide), xkc hb (by decide), rk, if_pos ik, bd_s]
    have b0 : rd (mw c2 (pBan 1 b) 1 (zi k)) (pBan 1 b) 0 = zi (g 0) := hBN3.2.2.2.2
    have v0 : bg (rwB s b (upG (upG g 1 k) 2 (sdV T L (tpo T L n)))) (b : Int) 0 = g 0 := rw_bg (k := 0) (by decide)
    have v1 : bg (rwB s b (upG (upG g 1 k) 2 (sdV T L (tpo T L n)))) (b : Int) 1 = k := rw_bg (k := 1) (by decide)
    have s2 : rwB s b (upG (upG g 1 k) 2 (sdV T L (tpo T L n))) 2 = s 2 := rw_ne (by omega)
    refine p_banEnd fu hfu (CA_ban (CB_A hB2) (t1 (zi k))) hG3 (by omega) hR hb h6 hBN3 ?_ ?_ hc hm (by omega)
    · unfold RN
      rw [v0, v1]
      exact ⟨b0, by rw [rd_mw, if_pos ⟨rfl, rfl⟩], fun h => by omega, fun h => by omega⟩
    · unfold bnO
      rw [v0, v1, s2]
      exact ⟨hg0, by omega, fun h => by omega, fun h => by omega⟩
  unfold tlN K_X12_readsRule
  rw [a1, bd_s, cw8, bd_s, mw8, bd_s]
  by_cases q8 : wB T L (tpo T L n) 66667 = true
  · rw [q8, if_neg (show ¬ zi (bi true) = 0 by decide), if_neg (show ¬ zi (bi true) = 0 by decide), ltf]
    exact short 0 (Or.inl rfl) (wB_k q8)
  · rw [bo_f q8, if_pos (show zi (bi false) = 0 from rfl), if_pos (show zi (bi false) = 0 from rfl), cw9, bd_s, mw9, bd_s]
    by_cases q9 : wB T L (tpo T L n) 1279278 = true
    · rw [q9, if_neg (show ¬ zi (bi true) = 0 by decide), if_neg (show ¬ zi (bi true) = 0 by decide), ltf]
      exact short 1 (Or.inr rfl) (wB_k q9)
    · rw [bo_f q9, if_pos (show zi (bi false) = 0 from rfl), if_pos (show zi (bi false) = 0 from rfl), c_side fu hfu hB2, bd_s, ltf]
      have two2 := two 2 (by decide) (by decide)
      have two2' : K_X12_readsRule_36 fu (zi ((36 + 7 * b : Nat) : Int)) 2 (zi ((36 + 7 * b : Nat) : Int) + 1) m = _ := two2
      have i2 : (zi (sdV T L (tpo T L n)) = (-1 : Int32)) = (sdV T L (tpo T L n) = -1) := zi_inj (b_ := -1) (by omega) (by omega) (by decide) (by decide)
      have hG2 : GMr (mw (mw m 2 (36 + 7 * b + 1) (zi 2)) 2 (36 + 7 * b + 2) (zi (sdV T L (tpo T L n)))) T L n := GM_fr hG (P := fun k _ => k == 2) (Fr_tr (Fr_mw _ _ rfl) (Fr_mw _ _ rfl)) (fun _ _ => rfl) (fun _ => rfl)
      have hBN2 := BN_w hb (BN_w hb (BN_fr hBN a3 (Fr_rf PGe m)) (k := 1) (by decide) (by decide) 2) (k := 2) (by decide) (by decide) (sdV T L (tpo T L n))
      rw [two2']
      by_cases qs : sdV T L (tpo T L n) = -1
      · rw [if_pos (i2.mpr qs), if_pos ⟨rfl, qs⟩]
        obtain ⟨c4, m4, f1, f2, f3, f4, f5⟩ := p_fail fu hB2 hG2 (e := 1) ⟨by decide, by decide⟩ (fun _ => rfl)
        have f1' : K_X9_fail fu 1 c2 = some (zi 0, c4) := f1
        have f2' : K_X12_wrong fu 1 (mw (mw m 2 (36 + 7 * b + 1) (zi 2)) 2 (36 + 7 * b + 2) (zi (sdV T L (tpo T L n)))) = some m4 := f2
        obtain ⟨e, p, hp, hE, hD⟩ := f3
        rw [f1', bd_s, f2', bd_s, b_r85 fu hD, bd_s, b_tlI fu hD, bd_s]
        exact OUT_bn hS (gb_zi _ (Or.inl rfl)) (b_st90 fu hD) ⟨e, p, hp, hE, hD⟩ (Fr_tr hBN2.1 (Fr_mono f4 (fun _ _ => P2_Bn))) (Fr_tr hBN2.2.1 (Fr_mono f5 (fun _ _ => PGe_Mn)))
      · rw [if_neg (fun h => qs (i2.mp h)), if_neg (fun h => qs h.2)]
        obtain ⟨c3, d1, hB3, d3⟩ := p_adv fu (CB_A hB2) (by omega)
        obtain ⟨m3, g1, hG3, g3⟩ := p_go fu hfu hG2
        have hBN3 := BN_fr hBN2 d3 g3
        have cw10 := c_isWord fu hfu hB3.1 hB3.2.1 (t := 10) (by decide) w10
        have cw12 := c_isWord fu hfu hB3.1 hB3.2.1 (t := 12) (by decide) w12
        have mw10 : K_X12_isWord fu 5969497 m3 = _ := m_isWord fu hG3 (W := 5969497) (by decide)
        have rk : rd m3 2 (36 + 7 * b + 1) = zi 2 := by
          rw [g3.1 _ _ rfl, rd_mw, if_neg (by omega), rd_mw, if_pos ⟨rfl, rfl⟩]
        unfold K_X12_readsRule_85 K_X12_readsRule_96
        rw [d1, bd_s, cw10, bd_s, g_isGood fu hG2.2.1, bd_s, if_neg z10, g1, bd_s, g_isGood fu hG3.2.1, bd_s, if_neg z10, xk1, xkg hb (by decide), xkc hb (by decide), rk, if_neg (show ¬ (zi 2 : Int32) < 2 by decide), mw10, bd_s]
        by_cases q10 : wB T L (tpo T L (n + 1)) 5969497 = true
        · rw [q10, if_neg (show ¬ zi (bi true) = 0 by decide), if_neg (show ¬ zi (bi true) = 0 by decide)]
          obtain ⟨m4, k1, hG4, k3⟩ := p_go fu hfu hG3
          rw [k1, bd_s]
          exact OUT_gb (p_every fu hfu (CB_A hB3) hG4 (by omega) hS (BN_fr hBN3 (Fr_rf P2t _) k3) (by omega) hg0 rfl rfl (by omega))
        · rw [bo_f q10, if_pos (show zi (bi false) = 0 from rfl), if_pos (show zi (bi false) = 0 from rfl), cw12, bd_s, xkg hb (by decide), ltf]
          have hBN4 := BN_w hb hBN3 (k := 1) (by decide) (by decide) 3
          have hG4 : GMr (mw m3 2 (36 + 7 * b + 1) (zi 3)) T L (n + 1) := GM_fr hG3 (P := fun k _ => k == 2) (Fr_mw _ _ rfl) (fun _ _ => rfl) (fun _ => rfl)
          by_cases q12 : wB T L (tpo T L (n + 1)) 215533 = true
          · obtain ⟨m5, k1, hG5, k3⟩ := m_mustWord fu hfu hG4 (W := 215533) (by decide) q12
            have k1' : K_X12_mustWord fu 215533 (mw m3 2 (36 + 7 * b + 1) 3) = some m5 := k1
            rw [q12, if_neg (show ¬ zi (bi true) = 0 by decide), k1', bd_s]
            exact OUT_gb (p_within fu hfu (CB_A hB3) hG5 (by omega) hS (BN_fr hBN4 (Fr_rf P2t _) k3) (by omega) hg0 rfl rfl (by omega))
          · obtain ⟨c4, m4, f1, f2, f3, f4, f5⟩ := p_fail fu hB3 hG4 (e := 1) ⟨by decide, by decide⟩ (fun _ => rfl)
            have f1' : K_X9_fail fu 1 c3 = some (zi 0, c4) := f1
            obtain ⟨e, p, hp, hE, hD⟩ := f3
            have k1' : K_X12_mustWord fu 215533 (mw m3 2 (36 + 7 * b + 1) 3) = some m4 := m_mustWord_no fu hG4 (W := 215533) (by decide) (bo_f q12) f2 hD
            obtain ⟨m5, l1, l2, l3⟩ := b_kWi fu hD hb
            rw [bo_f q12, if_pos (show zi (bi false) = 0 from rfl), f1', bd_s, k1', bd_s]
            have l1' := l1
            unfold kWi kCl at l1'
            refine OUT_bn hS (gb_zi _ (Or.inl rfl)) (y := bd (bd (kWi fu (zi ((36 + 7 * b : Nat) : Int)) m4) (fun m_18 => tlI fu m_18)) (fun m_8 => K_X12_statement_90 fu m_8)) (m2 := m5) ?_ ⟨e, p, hp, hE, l2⟩ (Fr_tr hBN4.1 (Fr_mono f4 (fun _ _ => P2_Bn))) (Fr_tr (Fr_tr hBN4.2.1 (Fr_mono f5 (fun _ _ => PGe_Mn))) l3)
            rw [l1, bd_s, b_tlI fu l2, bd_s]
            exact b_st90 fu l2
/-- a ban -/
theorem p_ban (fu : Nat) (hfu : 1000 ≤ fu) {c m : Mem} {T : Nat → Int} {L N n : Nat} {s : Nat → Int} {nm : Nat → Nat} (hB : CBr c T L N n) (hG : GMr m T L n) (hn : n ≤ 700) (hk : kkP T L (tpo T L n) = 1) (hR : RDs c m T L s nm) : OUTr (K_X7_readBan fu c) (bd (K_X12_readsBan fu m) (fun m_9 => K_X12_statement_90 fu m_9)) c m T L N n := by
  have hc6 := hR.2.2.1.1.1.2.1.2.1
  have hc2 := hR.2.2.1.1.1.2.1.1
  have r6 : rd c (pRace 1) 4 = zi (s 6) := hR.1.2.1.2.1
  have r6m : rd m 2 (Int32.toNatClampNeg 6) = zi (s 6) := hR.2.1 6
  have i0 : (zi (s 6) < (0 : Int32)) = (s 6 < 0) := zi_lt (b_ := 0) (by omega) (by omega) (by decide) (by decide)
  have i12 : (zi (s 6) < (12 : Int32)) = (s 6 < 12) := zi_lt (b_ := 12) (by omega) (by omega) (by decide) (by decide)
  have j12 : (zi (s 6) = (12 : Int32)) = (s 6 = 12) := zi_inj (b_ := 12) (by omega) (by omega) (by decide) (by decide)
  have bx : ∀ m2 : Mem, Fr PGe m m2 → ∃ a : Int, rd m2 2 6 = zi a ∧ 0 ≤ a ∧ a ≤ 1000 := fun m2 f => ⟨s 6, (f.1 _ _ rfl).trans r6m, by omega, by omega⟩
  unfold K_X7_readBan K_X12_readsBan
  rw [r6, gi6m, r6m, if_neg (fun h => absurd (i0.mp h) (by omega))]
  by_cases q : s 6 = 12
  · rw [if_neg (fun h => absurd (i12.mp h) (by omega)), if_pos (j12.mpr q)]
    obtain ⟨c4, m4, v1, v2, v3, v4, v5⟩ := p_fail fu hB hG (e := 6) ⟨by decide, by decide⟩ (fun h => by omega)
    have v1' : K_X9_fail fu 6 c = some (zi 0, c4) := v1
    have v2' : K_X12_wrong fu 6 m = some m4 := v2
    obtain ⟨e, p, hp, hE, hD⟩ := v3
    unfold K_X7_readBan_22
    rw [v1', bd_s, v2', bd_s, b_n18 fu hD (bx m4 v5), bd_s, b_st90 fu hD]
    exact ⟨c4, m4, FSc v4, FSm v5, rfl, Or.inr ⟨gb_zi _ (Or.inl rfl), e, p, hp, hE, hD⟩⟩
  · rw [if_pos (i12.mpr (by omega)), if_neg (fun h => q (j12.mp h))]
    obtain ⟨b, hb⟩ : ∃ b : Nat, s 6 = b := ⟨(s 6).toNat, by omega⟩
    have hb12 : b < 12 := by omega
    obtain ⟨u, hu⟩ : ∃ u : Nat, s 2 = u := ⟨(s 2).toNat, by omega⟩
    have hU0 : (s 2).toNat = u := by omega
    obtain ⟨c1, e1, hB1, e3⟩ := p_adv fu (CB_A hB) (by omega)
    obtain ⟨m1, g1, hG1, g3⟩ := p_go fu hfu hG
    have hR1 := RDs_fr hR e3 g3 P2_rd PGe_rd
    have hkk := kk_n T L (n + 1)
    unfold K_X7_readName K_X12_readsBan_18
    rw [e1, bd_s, g_isGood fu hG.2.1, bd_s, if_neg z10, g1, bd_s]
    unfold K_X12_readsBan_29
    have kz1 : (zi (if kkP T L (tpo T L (n + 1)) = 5 then 0 else (kkP T L (tpo T L (n + 1)) : Int)) = (1 : Int32)) = ((kkP T L (tpo T L (n + 1)) : Int) = 1) := kz_eq (v := 1) hkk ⟨by decide, by decide⟩
    have h7 : (zi (kkP T L (tpo T L (n + 1)) : Int) = (1 : Int32)) = ((kkP T L (tpo T L (n + 1)) : Int) = 1) := zi_inj (b_ := 1) (by omega) (by omega) (by decide) (by decide)
    rw [g_isGood fu hG1.2.1, bd_s, if_neg z10, hG1.1.2.2.2.1, hB1.2.1.2.1]
    by_cases r : kkP T L (tpo T L (n + 1)) = 1
    · rw [if_pos (h7.mpr (by omega)), if_pos (kz1.mpr (by omega))]
      have hN1 := hR1.2.2.2.2
      rw [hU0] at hN1
      obtain ⟨⟨a2', _⟩, ⟨b2'', _⟩, _, _⟩ := RD_cn hR1
      rw [hu] at a2' b2''
      obtain ⟨v, v1, v2, v3⟩ := p_named fu hfu hB1 hG1 r hN1 (by omega) a2' b2''
      have hvl := IX_le v3
      have ev : (zi v = (-1 : Int32)) = (v = -1) := zi_inj (b_ := -1) (by omega) (by omega) (by decide) (by decide)
      unfold K_X12_readsBan_49
      rw [v1, bd_s, g_isGood fu hG1.2.1, bd_s, if_neg z10, v2, bd_s]
      unfold K_X7_readName_41
      by_cases w : v = -1
      · rw [if_pos (ev.mpr w), if_pos (ev.mpr w), if_neg (show ¬ (1 : Int32) = 0 by decide)]
        obtain ⟨c4, m4, f1, f2, f3, f4, f5⟩ := p_fail fu hB1 hG1 (e := 4) ⟨by decide, by decide⟩ (fun h => by omega)
        have f1' : K_X9_fail fu 4 c1 = some (zi 0, c4) := f1
        have f2' : K_X12_wrong fu 4 m1 = some m4 := f2
        obtain ⟨e, p, hp, hE, hD⟩ := f3
        rw [f1', bd_s, if_pos z00, bd_s, if_pos (show (0 : Int32) = 0 from rfl), f2', bd_s, b_n69 fu hD (bx m4 (Fr_tr g3 f5)), bd_s, b_st90 fu hD]
        exact ⟨c4, m4, Fr_tr (FSc e3) (FSc f4), Fr_tr (FSm g3) (FSm f5), rfl, Or.inr ⟨rfl, e, p, hp, hE, hD⟩⟩
      · rw [if_neg (fun h => w (ev.mp h)), if_neg (fun h => w (ev.mp h)), if_pos (show (1 : Int32) = 1 from rfl)]
        unfold K_X7_readName_55
        have r61 : rd c1 (pRace 1) 4 = zi (b : Int) := by rw [hR1.1.2.1.2.1, hb]
        have ib : (zi (b : Int)).toNatClampNeg = b := by
          rw [zi_clamp (by omega) (by omega)]
          exact Int.toNat_natCast b
        rw [bd_s, if_neg (show ¬ (1 : Int32) = 0 by decide), r61, gi_zi (by omega) (by omega) (by decide), ltf, ib, show zi (b : Int) + 1 = zi (s 6 + 1) by rw [hb]; exact zi_add (b : Int) 1]
        have f2 : Fr (PBn b) c1 (mw c1 (pRace 1) 4 (zi (s 6 + 1))) := Fr_mw _ _ (by unfold PBn; simp)
        have f2n : ∀ k j, 2 ≤ k → k ≤ 6 → (fun k j => k == pRace 1 && j == 4 : Nat → Nat → Bool) k j = false := fun k j h1 h2 => by
          simp only [Bool.and_eq_false_iff, beq_eq_false_iff_ne, ne_eq]
          unfold pRace
          omega
        have hB2 : CBr (mw c1 (pRace 1) 4 (zi (s 6 + 1))) T L N (n + 1) := CB_fr hB1 (P := fun k j => k == pRace 1 && j == 4) (Fr_mw _ _ (by simp)) f2n
        have hN2 : NMr (mw c1 (pRace 1) 4 (zi (s 6 + 1))) m1 T L u nm := by
          refine ⟨fun i hi => ?_, hN1.2⟩
          obtain ⟨t1, t2, t3, t4, t5⟩ := hN1.1 i hi
          exact ⟨t1, t2, by rw [rd_mw, if_neg (fun h => absurd h.1 (by unfold pRace; omega))]; exact t3, by rw [rd_mw, if_neg (fun h => absurd h.1 (by unfold pRace; omega))]; exact t4, t5⟩
        obtain ⟨v', y1, y2, y3⟩ := p_named fu hfu hB2 hG1 r hN2 (by omega) (by rw [rd_mw, if_neg (fun h => absurd h.2 (by decide))]; exact a2') b2''
        have evv : v' = v := by
          have e8 : zi v' = zi v := Option.some.inj (y2.symm.trans v2)
          have hvl' := IX_le y3
          rw [zi_inj (by omega) (by omega) (by omega) (by omega)] at e8
          exact e8
        rw [y1, bd_s, evv, ltf]
        have f3 : Fr (PBn b) (mw c1 (pRace 1) 4 (zi (s 6 + 1))) (mw (mw c1 (pRace 1) 4 (zi (s 6 + 1))) (pBan 1 b) 0 (zi v)) := Fr_mw _ _ (by unfold PBn; simp)
        have hl : K_X12_less fu (zi (s 6)) 11 m1 = some (zi (b : Int)) := by
          have := k_less fu m1 (a := s 6) (b := 11) (by omega) (by omega) (by decide) (by decide)
          rw [show lsI (s 6) 11 = (b : Int) by unfold lsI; split <;> omega] at this
          exact this
        have r6m1 : rd m1 2 (Int32.toNatClampNeg 6) = zi (s 6) := (g3.1 _ _ rfl).trans r6m
        have eX : (36 : Int32) + 7 * zi (b : Int) = zi ((36 + 7 * b + 0 : Nat) : Int) := by
          rw [show (36 : Int32) = zi 36 from rfl, show (7 : Int32) = zi 7 from rfl, zi_mul, zi_add]
          exact congrArg zi (by omega)
        have eX0 : zi ((36 + 7 * b + 0 : Nat) : Int) = zi ((36 + 7 * b : Nat) : Int) := rfl
        have hRC := hR1.1
        have hMS0 : MS m1 (rwB s b (fun k => s (36 + 7 * b + k))) := by
          rw [rw_0]
          exact hR1.2.1
        have hMS1 := MS_rw hMS0 (k := 0) (by decide) v
        have hG2 : GMr (mw m1 2 (36 + 7 * b + 0) (zi v)) T L (n + 1) := GM_fr hG1 (P := fun k _ => k == 2) (Fr_mw _ _ rfl) (fun _ _ => rfl) (fun _ => rfl)
        obtain ⟨m3, k1, hG3, k3⟩ := p_go fu hfu hG2
        unfold K_X12_readsBan_69
        rw [gi6m, r6m1, hl, bd_s, ltf, g_isGood fu hG1.2.1, bd_s, if_neg z10, v2, bd_s, eX, xkg hb12 (by decide), ltf, xkc hb12 (by decide), k1, bd_s, eX0]
        have hA3 : CAr (mw (mw c1 (pRace 1) 4 (zi (s 6 + 1))) (pBan 1 b) 0 (zi v)) T L N (n + 1 + 1) := CA_fr (CB_A hB2) (P := fun k _ => k == pBan 1 b) (Fr_mw _ _ (by simp)) (fun k j h1 h2 => by simp only [beq_eq_false_iff_ne, ne_eq]; unfold pBan; omega)
        have hBN : BNr c1 m1 (mw (mw c1 (pRace 1) 4 (zi (s 6 + 1))) (pBan 1 b) 0 (zi v)) m3 s b (upG (fun k => s (36 + 7 * b + k)) 0 v) := by
          refine ⟨Fr_tr f2 f3, Fr_tr (FMn hb12 (by decide) _) (Fr_mono k3 (fun _ _ => PGe_Mn)), fun j => (k3.1 _ _ rfl).trans (hMS1 j), ?_, ?_⟩
          · rw [rd_mw, if_neg (fun h => absurd h.1 (by unfold pRace pBan; omega)), rd_mw, if_pos ⟨rfl, rfl⟩]
          · rw [rd_mw, if_pos ⟨rfl, rfl⟩]
            rfl
        exact p_rule fu hfu hA3 hG3 (by omega) ⟨hR1, hb12, hb, FSc e3, FSm g3⟩ hBN (by omega) (by
          have : upG (fun k => s (36 + 7 * b + k)) 0 v 0 = v := if_pos rfl
          rw [this]
          omega)
    · rw [if_neg (fun h => r (by have := h7.mp h; omega)), if_neg (fun h => r (by have := kz1.mp h; omega))]
      obtain ⟨c4, m4, f1, f2, f3, f4, f5⟩ := p_fail fu hB1 hG1 (e := 1) ⟨by decide, by decide⟩ (fun _ => rfl)
      have f1' : K_X9_fail fu 1 c1 = some (zi 0, c4) := f1
      have f2' : K_X12_wrong fu 1 m1 = some m4 := f2
      obtain ⟨e, p, hp, hE, hD⟩ := f3
      rw [f1', bd_s, gb_zi _ (Or.inl rfl), bd_s, if_pos z00, f2', bd_s, b_n49 fu hD (bx m4 (Fr_tr g3 f5)), bd_s, b_st90 fu hD]
      exact ⟨c4, m4, Fr_tr (FSc e3) (FSc f4), Fr_tr (FSm g3) (FSm f5), rfl, Or.inr ⟨rfl, e, p, hp, hE, hD⟩⟩
end RULM
