section QDD
theorem g_way {fu : Nat} (hfu : 1000 ≤ fu) {c : Mem} {T : Nat → Int} {L N n w : Nat} (hA : CAr c T L N n) (hn : n ≤ 5000) (hk : kkP T L (tpo T L n) = 1) (hw : (w = 0 ∧ pkN T (tpo T L n) (tzi T L (tpo T L n)) = 12769452) ∨ (w = 1 ∧ pkN T (tpo T L n) (tzi T L (tpo T L n)) = 23104625940)) : ∃ c2, K_X9_needWay fu c = some (zi (w : Int), c2) ∧ CBr c2 T L N n ∧ Fr P2t c c2 := by
  obtain ⟨⟨w0, w1, w2, w3, w4, w5, w6, w7⟩, w8, w9, w10, w11, w12, w13, w14, w15, w16⟩ := Wt_all
  obtain ⟨c1, a1, hB, a3⟩ := p_adv fu hA hn
  refine ⟨c1, ?_, hB, a3⟩
  unfold K_X9_needWay
  rw [a1, bd_s, c_isWord fu hfu hB.1 hB.2.1 (t := 15) (by decide) w15, bd_s, c_isWord fu hfu hB.1 hB.2.1 (t := 16) (by decide) w16, bd_s]
  rcases hw with ⟨rfl, e⟩ | ⟨rfl, e⟩
  · rw [wB_of hk e]
    rfl
  · rw [wB_of hk e, wB_of hk e]
    rfl
def stBk (x y : Nat) (w : Nat) : List Nat := tcs 16 ++ [48 + x] ++ tcs 2 ++ [48 + y] ++ tcs (if w = 0 then 17 else 18)
theorem r_block {fu : Nat} (hfu : 1000 ≤ fu) {c : Mem} {T : Nat → Int} {L N n j : Nat} {s : Nat → Int} {u : Nat} {b1 b2 : Bool} {w0 : Int} {nm : Nat → Nat} (hR : RSx c T L N n j s u b1 b2 w0 nm) (hI : InvR s) (h3 : s 3 < 40) {x y w : Nat} (hw : w = 0 ∨ w = 1) (hpl : isPl s (x : Int) (y : Int) = true) (hx9 : x < 10) (hy9 : y < 10) (had : adB s (x : Int) (y : Int) ((w : Int) + 1) = true) (hT : TXl T j (stBk x y w)) (hl : j + (stBk x y w).length ≤ L) {f k : Nat} (hk : k ≤ 600) : ∃ c2 n2, K_X7_readRace_31 fu (f + 1) (zi (k : Int)) c = K_X7_readRace_31 fu f (zi ((k + 1 : Nat) : Int)) c2 ∧ RSx c2 T L N n2 (j + (stBk x y w).length) (sw3 s (x : Int) (y : Int) ((w : Int) + 1)) u b1 b2 w0 nm ∧ InvR (sw3 s (x : Int) (y : Int) ((w : Int) + 1)) ∧ Fr PSc c c2 := by
  obtain ⟨⟨hA, hE, hnj, hjL, hL⟩, hRC, hF, hN, hu⟩ := hR
  have hp := isPl_iff.mp hpl
  have hwI : (w : Int) = 0 ∨ (w : Int) = 1 := by
    rcases hw with rfl | rfl
    · exact Or.inl rfl
    · exact Or.inr rfl
  have hz := hI.1.1.1
  obtain ⟨⟨z1, z2⟩, z3, z4⟩ := hz
  have tok : ∃ e, (kkP T L (tpo T L n) = 1 ∧ pkN T (tpo T L n) (tzi T L (tpo T L n)) = 2505835) ∧ (kkP T L (tpo T L (n + 1)) = 2 ∧ vlI T (tpo T L (n + 1)) (tzi T L (tpo T L (n + 1))) = (x : Int)) ∧ (kkP T L (tpo T L (n + 1 + 1)) = 2 ∧ vlI T (tpo T L (n + 1 + 1)) (tzi T L (tpo T L (n + 1 + 1))) = (y : Int)) ∧ (kkP T L (tpo T L (n + 1 + 1 + 1)) = 1 ∧ ((w = 0 ∧ pkN T (tpo T L (n + 1 + 1 + 1)) (tzi T L (tpo T L (n + 1 + 1 + 1))) = 12769452) ∨ (w = 1 ∧ pkN T (tpo T L (n + 1 + 1 + 1)) (tzi T L (tpo T L (n + 1 + 1 + 1))) = 23104625940))) ∧ sgB T L (tpo T L (n + 1 + 1 + 1 + 1)) 59 = true ∧ Epo T L (n + 1 + 1 + 1 + 1 + 1) e ∧ e = j + (stBk x y w).length ∧ j + 5 ≤ e := by
    rcases hw with rfl | rfl
    · have hl' : j + 16 ≤ L := hl
      have hT' : TXl T j ([98, 108, 111, 99, 107] ++ ([32, 48 + x, 32, 48 + y, 32] ++ ([108, 101, 118, 101, 108] ++ [59]))) := hT
      have T1 := (TXl_app _ _ _).mp hT'
      have T2 := (TXl_app _ _ _).mp T1.2
      have T3 := (TXl_app _ _ _).mp T2.2
      obtain ⟨k1, k2, k3, k4, k5⟩ := tk_w hE T1.1 T2.1.1 (by decide) (by decide) (by decide) (by show j + 5 < L; omega)
      have k5' : Epo T L (n + 1) (j + 5 + 1) := Epo_ws k5 (ws := [32]) ⟨T2.1.1, trivial⟩ (by decide) (by show j + 5 + 1 ≤ L; omega)
      obtain ⟨m1, m2, m3, m4, m5⟩ := tk_d k5' T2.1.2.1 hx9 T2.1.2.2.1 (by decide) (by omega)
      have m5' : Epo T L (n + 1 + 1) (j + 5 + 1 + 1 + 1) := Epo_ws m5 (ws := [32]) ⟨T2.1.2.2.1, trivial⟩ (by decide) (by show j + 5 + 1 + 1 + 1 ≤ L; omega)
      obtain ⟨p1, p2, p3, p4, p5⟩ := tk_d m5' T2.1.2.2.2.1 hy9 T2.1.2.2.2.2.1 (by decide) (by omega)
      have p5' : Epo T L (n + 1 + 1 + 1) (j + 5 + 5) := Epo_ws p5 (ws := [32]) ⟨T2.1.2.2.2.2.1, trivial⟩ (by decide) (by show j + 5 + 5 ≤ L; omega)
      obtain ⟨d1, d2, d3, d4, d5⟩ := tk_w p5' T3.1 T3.2.1 (by decide) (by decide) (by decide) (by show j + 5 + 5 + 5 < L; omega)
      have d5' : Epo T L (n + 1 + 1 + 1 + 1) (j + 5 + 5 + 5) := d5
      obtain ⟨q1, q2, q3⟩ := tk_s d5' T3.2.1 (by omega)
      rw [← k1] at k2 k4
      rw [← m1] at m2 m4
      rw [← p1] at p2 p4
      rw [← d1] at d2 d4
      rw [← q1] at q2
      exact ⟨_, ⟨k2, by rw [k4]; decide⟩, ⟨m2, m4⟩, ⟨p2, p4⟩, ⟨d2, Or.inl ⟨rfl, by rw [d4]; decide⟩⟩, q2, q3, rfl, by omega⟩
    · have hl' : j + 19 ≤ L := hl
      have hT' : TXl T j ([98, 108, 111, 99, 107] ++ ([32, 48 + x, 32, 48 + y, 32] ++ ([117, 112, 114, 105, 103, 104, 116] ++ [32, 59]))) := hT
      have T1 := (TXl_app _ _ _).mp hT'
      have T2 := (TXl_app _ _ _).mp T1.2
      have T3 := (TXl_app _ _ _).mp T2.2
      obtain ⟨k1, k2, k3, k4, k5⟩ := tk_w hE T1.1 T2.1.1 (by decide) (by decide) (by decide) (by show j + 5 < L; omega)
      have k5' : Epo T L (n + 1) (j + 5 + 1) := Epo_ws k5 (ws := [32]) ⟨T2.1.1, trivial⟩ (by decide) (by show j + 5 + 1 ≤ L; omega)
      obtain ⟨m1, m2, m3, m4, m5⟩ := tk_d k5' T2.1.2.1 hx9 T2.1.2.2.1 (by decide) (by omega)
      have m5' : Epo T L (n + 1 + 1) (j + 5 + 1 + 1 + 1) := Epo_ws m5 (ws := [32]) ⟨T2.1.2.2.1, trivial⟩ (by decide) (by show j + 5 + 1 + 1 + 1 ≤ L; omega)
      obtain ⟨p1, p2, p3, p4, p5⟩ := tk_d m5' T2.1.2.2.2.1 hy9 T2.1.2.2.2.2.1 (by decide) (by omega)
      have p5' : Epo T L (n + 1 + 1 + 1) (j + 5 + 5) := Epo_ws p5 (ws := [32]) ⟨T2.1.2.2.2.2.1, trivial⟩ (by decide) (by show j + 5 + 5 ≤ L; omega)
      obtain ⟨d1, d2, d3, d4, d5⟩ := tk_w p5' T3.1 T3.2.1 (by decide) (by decide) (by decide) (by show j + 5 + 5 + 7 < L; omega)
      have d5' : Epo T L (n + 1 + 1 + 1 + 1) (j + 5 + 5 + 7 + 1) := Epo_ws d5 (ws := [32]) ⟨T3.2.1, trivial⟩ (by decide) (by show j + 5 + 5 + 7 + 1 ≤ L; omega)
      obtain ⟨q1, q2, q3⟩ := tk_s d5' T3.2.2.1 (by omega)
      rw [← k1] at k2 k4
      rw [← m1] at m2 m4
      rw [← p1] at p2 p4
      rw [← d1] at d2 d4
      rw [← q1] at q2
      exact ⟨_, ⟨k2, by rw [k4]; decide⟩, ⟨m2, m4⟩, ⟨p2, p4⟩, ⟨d2, Or.inr ⟨rfl, by rw [d4]; decide⟩⟩, q2, q3, rfl, by omega⟩
  obtain ⟨e, ⟨k2, k4⟩, ⟨m2, m4⟩, ⟨p2, p4⟩, ⟨d2, d4⟩, q2, q3, he, hej⟩ := tok
  obtain ⟨c1, a1, hB, a3⟩ := r_open (fu := fu) hA (by omega) (f := f) (k := k) (by omega) k2
  have hd := r_disp hfu hB k2 k4
  rw [if_neg (by decide), if_neg (by decide), if_neg (by decide), if_neg (by decide), if_pos rfl] at hd
  have n2 : ∀ k j, 57 ≤ k → k < 79 → P2t k j = false := fun k j h1 h2 => P2_no (by omega)
  have n7 : ∀ j, 5 ≤ j → j ≤ 7 → P2t 7 j = false := fun j _ _ => P2_no (by decide)
  have n8 : ∀ j, P2t 8 j = false ∧ P2t 9 j = false := fun j => ⟨P2_no (by decide), P2_no (by decide)⟩
  have hR1 : RC c1 1 s := RC_1 hRC a3 n2
  have w0' : rd c1 (pBoard 1) 0 - 2 = zi (s 0 - 2) := by rw [hR1.1.1, show (2 : Int32) = zi 2 from rfl, zi_sub]
  obtain ⟨c3, u1, u2, u3, u4⟩ := g_num hfu (CB_A hB) (by omega) (a := 0) (b := s 0 - 2) (v := (x : Int)) (by omega) m2 m4 (by omega)
  have hR3 : RC c3 1 s := RC_1 hR1 u4 n2
  have w1' : rd c3 (pBoard 1) 1 - 2 = zi (s 1 - 2) := by rw [hR3.1.2.1, show (2 : Int32) = zi 2 from rfl, zi_sub]
  obtain ⟨c4, v1, v2, v3, v4⟩ := g_num hfu (CB_A u2) (by omega) (a := 0) (b := s 1 - 2) (v := (y : Int)) (by omega) p2 p4 (by omega)
  obtain ⟨c5, t1, t2, t3⟩ := g_way hfu (CB_A v2) (by omega) d2 d4
  obtain ⟨c6, r1, r2, r3⟩ := g_sign (fu := fu) (CB_A t2) (by omega) q2
  have f16 : Fr P2t c c6 := Fr_tr (Fr_tr (Fr_tr (Fr_tr a3 u4) v4) t3) r3
  have hRC6 : RC c6 1 s := RC_1 hRC f16 n2
  obtain ⟨iz, ic, iW, ip, ib, iwp, ids, irk, iwy⟩ := hI.1.1
  obtain ⟨c7, e1, e2, e3⟩ := c_markTrails fu 1 hfu iz ic iW ip iwy hRC6.1 ⟨hRC6.2.1.1, hRC6.2.2.1⟩
  have nFT : ∀ k j, k < 18 ∨ 35 ≤ k → FT k j = false := fun k j h => by
    rcases h with h | h
    · unfold FT PC pDist pQueue pWays
      simp only [Bool.or_eq_false_iff, Bool.and_eq_false_iff, beq_eq_false_iff_ne, ne_eq]
      omega
    · exact FT_lo k j h
  have hRC7 : RC c7 1 s := RC_fr2 e3 (fun k j h1 h2 => nFT k j (by omega)) hRC6
  obtain ⟨c8, g1, g2, g3⟩ := c_admits fu 1 hfu iz ic iW ip iwy (mem := c7) ⟨hRC7.1, ⟨hRC7.2.1.1, hRC7.2.2.1⟩, e2⟩ (x := (x : Int)) (y := (y : Int)) (w := (w : Int)) (by omega) (by omega) (by omega) (by omega) hwI
  rw [hpl, Bool.true_and, had] at g1
  have nPA : ∀ k j, (k < 20 ∨ 23 ≤ k) → k ≠ pOpen 1 → k ≠ pBuilt 1 → k ≠ pBoard 1 → PA 1 k j = false := fun k j h h1 h2 h3 => by
    unfold PA PWl PC pDist pQueue pWays
    simp only [Bool.or_eq_false_iff, Bool.and_eq_false_iff, beq_eq_false_iff_ne, ne_eq]
    exact ⟨by omega, ⟨h1, h2⟩, Or.inl h3⟩
  have fSFT : Fr PSc c6 c7 := Fr_mono e3 (fun k j h => by
    have := PSc_ne h
    unfold FT PC pDist pQueue pWays
    simp only [Bool.or_eq_false_iff, Bool.and_eq_false_iff, beq_eq_false_iff_ne, ne_eq]
    omega)
  have fSPA : Fr PSc c7 c8 := Fr_mono g3 (fun k j h => by
    have := PSc_ne h
    exact nPA k j (by omega) (by unfold pOpen; omega) (by unfold pBuilt; omega) (by unfold pBoard; omega))
  have lo : ∀ k j, k < 18 → PA 1 k j = false := fun k j h => nPA k j (by omega) (by unfold pOpen; omega) (by unfold pBuilt; omega) (by unfold pBoard; omega)
  have hB8 : CBr c8 T L N (n + 1 + 1 + 1 + 1) := CB_fr (CB_fr r2 e3 (fun k j h1 h2 => nFT k j (by omega))) g3 (fun k j h1 h2 => lo k j (by omega))
  obtain ⟨c9, o1, o2, o3⟩ := c_raise fu 1 hfu g2.1 iz hpl (w := (w : Int)) (by omega) (ad_hr had)
  obtain ⟨hI', hE'⟩ := InvR_sw3 hI hpl (v := (w : Int) + 1) (by omega) had h3
  have nPW : ∀ k j, k ≠ pOpen 1 → k ≠ pBuilt 1 → k ≠ pBoard 1 → PWl 1 k j = false := fun k j h1 h2 h3 => by
    unfold PWl
    simp only [Bool.or_eq_false_iff, Bool.and_eq_false_iff, beq_eq_false_iff_ne, ne_eq]
    exact ⟨⟨h1, h2⟩, Or.inl h3⟩
  have lo2 : ∀ k j, k < 57 → PWl 1 k j = false := fun k j h => nPW k j (by unfold pOpen; omega) (by unfold pBuilt; omega) (by unfold pBoard; omega)
  have hRC9 : RC c9 1 (sw3 s (x : Int) (y : Int) ((w : Int) + 1)) := by
    refine RC_brd (P := fun k j => PA 1 k j || PWl 1 k j) hRC7 (Fr_tr (Fr_mono g3 (fun k j h => (Bool.or_eq_false_iff.mp h).1)) (Fr_mono o3 (fun k j h => (Bool.or_eq_false_iff.mp h).2))) o2 hE' (fun j => ?_) (fun i j hi => ?_) (fun i j hi => ?_) ⟨ic.1.2, ic.2.1.2⟩
    · rw [nPA _ _ (by unfold pRace; omega) (by unfold pRace pOpen; omega) (by unfold pRace pBuilt; omega) (by unfold pRace pBoard; omega), nPW _ _ (by unfold pRace pOpen; omega) (by unfold pRace pBuilt; omega) (by unfold pRace pBoard; omega)]
      rfl
    · rw [nPA _ _ (by unfold pPawn; omega) (by unfold pPawn pOpen; omega) (by unfold pPawn pBuilt; omega) (by unfold pPawn pBoard; omega), nPW _ _ (by unfold pPawn pOpen; omega) (by unfold pPawn pBuilt; omega) (by unfold pPawn pBoard; omega)]
      rfl
    · rw [nPA _ _ (by unfold pBan; omega) (by unfold pBan pOpen; omega) (by unfold pBan pBuilt; omega) (by unfold pBan pBoard; omega), nPW _ _ (by unfold pBan pOpen; omega) (by unfold pBan pBuilt; omega) (by unfold pBan pBoard; omega)]
      rfl
  have hB9 : CBr c9 T L N (n + 1 + 1 + 1 + 1) := CB_fr hB8 o3 (fun k j h1 h2 => lo2 k j (by omega))
  have i40 : (zi (s 3) < (40 : Int32)) = (s 3 < 40) := zi_lt (b_ := 40) (by have := ic.2.2.1; omega) (by omega) (by decide) (by decide)
  have u1' : K_X9_needNumber fu 0 (zi (s 0 - 2)) c1 = some (zi 1, c3) := u1
  have v1' : K_X9_needNumber fu 0 (zi (s 1 - 2)) c3 = some (zi 1, c4) := v1
  have wn : (zi (w : Int) = (-1 : Int32)) = ((w : Int) = -1) := zi_inj (b_ := -1) (by omega) (by omega) (by decide) (by decide)
  have hbd : K_X7_readBlock fu c1 = some (zi 1, c9) := by
    unfold K_X7_readBlock
    rw [hR1.1.2.2.1, if_pos (i40.mpr h3), w0', u1', bd_s, if_neg z10, ltf, u3, w1', v1', bd_s, if_neg z10, ltf, v3, t1, bd_s, ltf, if_neg (fun q => by have := wn.mp q; omega), r1, bd_s, if_neg z10, e1, bd_s, g1, bd_s, if_neg (show ¬ zi (bi true) = 0 by decide), o1, bd_s]
    rfl
  have f69 : ∀ k j, 7 ≤ k → k ≤ 9 → rd c9 k j = rd c6 k j := fun k j a b => ((o3.1 _ _ (lo2 k j (by omega))).trans (g3.1 _ _ (lo k j (by omega)))).trans (e3.1 _ _ (nFT k j (by omega)))
  have hF6 := FLc_fr hF f16 n7
  have hN6 := NMc_fr hN f16 n8
  rw [he] at q3 hej
  refine ⟨c9, n + 1 + 1 + 1 + 1 + 1, ?_, ⟨⟨CB_A hB9, q3, by omega, hl, hL⟩, hRC9, ⟨(f69 7 5 (by decide) (by decide)).trans hF6.1, (f69 7 6 (by decide) (by decide)).trans hF6.2.1, (f69 7 7 (by decide) (by decide)).trans hF6.2.2⟩, fun i hi => ?_, by rw [hE' 2 (by decide) (by decide)]; exact hu⟩, hI', ?_⟩
  · rw [a1, hd]
    exact r_fin hbd f k
  · obtain ⟨y1, y2, y3, y4, y5⟩ := hN6 i hi
    exact ⟨y1, y2, (f69 8 i (by decide) (by decide)).trans y3, (f69 9 i (by decide) (by decide)).trans y4, y5⟩
  · refine Fr_tr (Fr_tr (Fr_tr (FSc f16) fSFT) fSPA) (Fr_mono o3 (fun k j h => ?_))
    have := PSc_ne h
    exact nPW k j (by unfold pOpen; omega) (by unfold pBuilt; omega) (by unfold pBoard; omega)
end QDD
