section QFF
theorem g_rule2 {fu : Nat} (hfu : 1000 ≤ fu) {c : Mem} {T : Nat → Int} {L N n j b p d : Nat} {q : Nat → Nat} {s : Nat → Int} (hA : CAr c T L N n) (hE : Epo T L n j) (hnj : n ≤ j) (hL : L ≤ 500) (hp0 : rd c (pBan 1 b) 0 = zi (p : Int)) (hd : d < 4) (h3 : 2 ≤ q 3 ∧ q 3 ≤ 5) (h4 : q 4 < q 3) (hT : TXl T j (stBr 2 d q)) (hl : j + (stBr 2 d q).length ≤ L) : ∃ c2 n2, tlN fu b c = some (zi 1, c2) ∧ CAr c2 T L N n2 ∧ Epo T L n2 (j + (stBr 2 d q).length) ∧ n2 ≤ j + (stBr 2 d q).length ∧ Fr (PBr b) c c2 ∧ RN c2 1 (rwB s b (gBr p 2 d q)) b := by
  obtain ⟨⟨w0, w1, w2, w3, w4, w5, w6, w7⟩, w8, w9, w10, w11, w12, w13, w14, w15, w16⟩ := Wt_all
  obtain ⟨s1, ⟨s2, s2'⟩, s3⟩ := sd_w d hd
  have hT' : TXl T j (tcs (19 + d) ++ ([32] ++ ([101, 118, 101, 114, 121] ++ ([32, 48 + q 3, 32] ++ ([97, 116] ++ [32, 48 + q 4, 59]))))) := hT
  have len : (stBr 2 d q).length = (tcs (19 + d)).length + 14 := by
    show (tcs (19 + d) ++ ([32] ++ ([101, 118, 101, 114, 121] ++ ([32, 48 + q 3, 32] ++ ([97, 116] ++ [32, 48 + q 4, 59]))))).length = _
    rw [List.length_append]
    rfl
  rw [len] at hl ⊢
  have T1 := (TXl_app _ _ _).mp hT'
  have T2 := (TXl_app _ _ _).mp T1.2
  have T3 := (TXl_app _ _ _).mp T2.2
  have T4 := (TXl_app _ _ _).mp T3.2
  have T5 := (TXl_app _ _ _).mp T4.2
  obtain ⟨i, hi⟩ : ∃ i, i = j + (tcs (19 + d)).length := ⟨_, rfl⟩
  rw [← hi] at T2 T3 T4 T5
  obtain ⟨d1, d2, d3, d4, d5⟩ := tk_w hE T1.1 (by rw [← hi]; exact T2.1.1) s1 ⟨s2, s2'⟩ (by decide) (by omega)
  rw [← hi] at d5
  have d5' : Epo T L (n + 1) (i + 1) := Epo_ws d5 (ws := [32]) T2.1 (by decide) (by show i + 1 ≤ L; omega)
  obtain ⟨e1, e2, e3, e4, e5⟩ := tk_w d5' T3.1 T4.1.1 (by decide) (by decide) (by decide) (by show i + 1 + 5 < L; omega)
  have e5' : Epo T L (n + 1 + 1) (i + 1 + 5 + 1) := Epo_ws e5 (ws := [32]) ⟨T4.1.1, trivial⟩ (by decide) (by show i + 1 + 5 + 1 ≤ L; omega)
  obtain ⟨m1, m2, m3, m4, m5⟩ := tk_d e5' T4.1.2.1 (by omega) T4.1.2.2.1 (by decide) (by omega)
  have m5' : Epo T L (n + 1 + 1 + 1) (i + 1 + 5 + 3) := Epo_ws m5 (ws := [32]) ⟨T4.1.2.2.1, trivial⟩ (by decide) (by show i + 1 + 5 + 3 ≤ L; omega)
  obtain ⟨a1, a2, a3, a4, a5⟩ := tk_w m5' T5.1 T5.2.1 (by decide) (by decide) (by decide) (by show i + 1 + 5 + 3 + 2 < L; omega)
  have a5' : Epo T L (n + 1 + 1 + 1 + 1) (i + 1 + 5 + 3 + 2 + 1) := Epo_ws a5 (ws := [32]) ⟨T5.2.1, trivial⟩ (by decide) (by show i + 1 + 5 + 3 + 2 + 1 ≤ L; omega)
  obtain ⟨p1, p2, p3, p4, p5⟩ := tk_d a5' T5.2.2.1 (by omega) T5.2.2.2.1 (by decide) (by omega)
  obtain ⟨q1, q2, q3⟩ := tk_s p5 T5.2.2.2.1 (by omega)
  rw [← d1] at d2 d4
  rw [← e1] at e2 e4
  rw [← m1] at m2 m4
  rw [← a1] at a2 a4
  rw [← p1] at p2 p4
  rw [← q1] at q2
  have hsV := sd_of hd d2 d4
  -- the class
  obtain ⟨c2, f1, hB2, f3⟩ := p_adv fu hA (by omega)
  have cw8 := c_isWord fu hfu hB2.1 hB2.2.1 (t := 8) (by decide) w8
  have cw9 := c_isWord fu hfu hB2.1 hB2.2.1 (t := 9) (by decide) w9
  have n8 : wB T L (tpo T L n) 66667 = false := by
    rw [wB_of d2 d4, s3]
    rcases (show d = 0 ∨ d = 1 ∨ d = 2 ∨ d = 3 by omega) with rfl | rfl | rfl | rfl <;> decide
  have n9 : wB T L (tpo T L n) 1279278 = false := by
    rw [wB_of d2 d4, s3]
    rcases (show d = 0 ∨ d = 1 ∨ d = 2 ∨ d = 3 by omega) with rfl | rfl | rfl | rfl <;> decide
  rw [n8] at cw8
  rw [n9] at cw9
  have cs := c_side fu hfu hB2
  rw [hsV] at cs
  have sdn : (zi (d : Int) = (-1 : Int32)) = ((d : Int) = -1) := zi_inj (b_ := -1) (by omega) (by omega) (by decide) (by decide)
  obtain ⟨c3, g1, hB3, g3⟩ := p_adv fu (CB_A hB2) (by omega)
  have cw10 := c_isWord fu hfu hB3.1 hB3.2.1 (t := 10) (by decide) w10
  have y10 : wB T L (tpo T L (n + 1)) 5969497 = true := by
    rw [wB_of e2 e4]
    decide
  rw [y10] at cw10
  obtain ⟨c4, u1, u2, u3, u4⟩ := g_num hfu (CB_A hB3) (by omega) (a := 2) (b := 5) (v := (q 3 : Int)) (by decide) m2 m4 (by omega)
  have u1' : K_X9_needNumber fu 2 5 c3 = some (zi 1, c4) := u1
  obtain ⟨c5, k1, hB5, k3⟩ := p_adv fu (CB_A u2) (by omega)
  have cw11 := c_isWord fu hfu hB5.1 hB5.2.1 (t := 11) (by decide) w11
  have y11 : wB T L (tpo T L (n + 1 + 1 + 1)) 52 = true := by
    rw [wB_of a2 a4]
    decide
  rw [y11] at cw11
  have rc : zi (q 3 : Int) - 1 = zi ((q 3 : Int) - 1) := by rw [show (1 : Int32) = zi 1 from rfl, zi_sub]
  obtain ⟨c6, v1, v2, v3, v4⟩ := g_num hfu (CB_A hB5) (by omega) (a := 0) (b := (q 3 : Int) - 1) (v := (q 4 : Int)) (by omega) p2 p4 (by omega)
  have v1' : K_X9_needNumber fu 0 (zi ((q 3 : Int) - 1)) c5 = some (zi 1, c6) := v1
  obtain ⟨c7, x1, ⟨x2, x3, x4, x5⟩, x6⟩ := c_setEvery fu b c6 (d : Int) (q 3 : Int) (q 4 : Int)
  obtain ⟨c8, y1, y2, y3⟩ := g_sign (fu := fu) (CA_ban (CB_A v2) x6) (by omega) q2
  have fG : Fr (PBr b) c c8 := Fr_tr (Fr_tr (Fr_tr (Fr_tr (Fr_tr (Fr_tr (Fr_tr (Br_2 f3) (Br_2 g3)) (Br_2 u4)) (Br_2 k3)) (Br_2 v4)) (Br_1 x6)) (Br_2 y3)) (Fr_rf _ _)
  have q3' : Epo T L (n + 1 + 1 + 1 + 1 + 1 + 1) (j + ((tcs (19 + d)).length + 14)) := by
    have e : i + 1 + 5 + 3 + 2 + 1 + 1 + 1 = j + ((tcs (19 + d)).length + 14) := by omega
    rw [← e]
    exact q3
  have y1' : K_X9_needSign fu 59 c7 = some (zi 1, c8) := y1
  refine ⟨c8, n + 1 + 1 + 1 + 1 + 1 + 1, ?_, CB_A y2, q3', by omega, fG, ?_⟩
  · have hev : K_X7_readEvery fu 1 b (zi (d : Int)) c3 = some (zi 1, c8) := by
      unfold K_X7_readEvery
      rw [u1', bd_s, if_neg z10, ltf, u3, k1, bd_s, cw11, bd_s]
      dsimp only
      rw [if_neg (show ¬ zi (bi true) = 0 by decide), rc, v1', bd_s, if_neg z10, v3, x1, bd_s, y1', bd_s]
      rfl
    unfold tlN
    rw [f1, bd_s, cw8, bd_s]
    dsimp only
    rw [if_pos (show zi (bi false) = 0 from rfl), cw9, bd_s]
    dsimp only
    rw [if_pos (show zi (bi false) = 0 from rfl), cs, bd_s, ltf]
    dsimp only
    rw [if_neg (fun h => by have := sdn.mp h; omega), g1, bd_s, cw10, bd_s]
    dsimp only
    rw [if_neg (show ¬ zi (bi true) = 0 by decide), hev, bd_s]
    rfl
  · unfold RN
    have t0 : bg (rwB s b (gBr p 2 d q)) (b : Int) 0 = (p : Int) := rw_bg (k := 0) (by decide)
    have t1 : bg (rwB s b (gBr p 2 d q)) (b : Int) 1 = 2 := rw_bg (k := 1) (by decide)
    have t2 : bg (rwB s b (gBr p 2 d q)) (b : Int) 2 = (d : Int) := rw_bg (k := 2) (by decide)
    have t3 : bg (rwB s b (gBr p 2 d q)) (b : Int) 3 = (q 3 : Int) := rw_bg (k := 3) (by decide)
    have t4 : bg (rwB s b (gBr p 2 d q)) (b : Int) 4 = (q 4 : Int) := rw_bg (k := 4) (by decide)
    rw [t0, t1, t2, t3, t4]
    have gg : ∀ j, rd c8 (pBan 1 b) j = rd c7 (pBan 1 b) j := fun j => y3.1 _ _ (P2_no (by unfold pBan; omega))
    refine ⟨?_, (gg 1).trans x2, fun _ => ⟨(gg 2).trans x3, (gg 3).trans x4, (gg 4).trans x5⟩, fun h => absurd h (by decide)⟩
    rw [fG.1 _ _ (PBr_no (by unfold pBan; omega) (by unfold pBan; omega) (Or.inr rfl))]
    exact hp0
theorem g_rule3 {fu : Nat} (hfu : 1000 ≤ fu) {c : Mem} {T : Nat → Int} {L N n j b p d : Nat} {q : Nat → Nat} {s : Nat → Int} (hA : CAr c T L N n) (hE : Epo T L n j) (hnj : n ≤ j) (hL : L ≤ 500) (hz : szO s) (hB0 : rd c (pBoard 1) 0 = zi (s 0)) (hB1 : rd c (pBoard 1) 1 = zi (s 1)) (hp0 : rd c (pBan 1 b) 0 = zi (p : Int)) (hd : d < 4) (h3 : (q 3 : Int) < s 0 ∧ q 3 < 10) (h4 : (q 4 : Int) < s 1 ∧ q 4 < 10) (h5 : (q 5 : Int) < s 0 ∧ q 5 < 10) (h6 : (q 6 : Int) < s 1 ∧ q 6 < 10) (hT : TXl T j (stBr 3 d q)) (hl : j + (stBr 3 d q).length ≤ L) : ∃ c2 n2, tlN fu b c = some (zi 1, c2) ∧ CAr c2 T L N n2 ∧ Epo T L n2 (j + (stBr 3 d q).length) ∧ n2 ≤ j + (stBr 3 d q).length ∧ Fr (PBr b) c c2 ∧ RN c2 1 (rwB s b (gBr p 3 d q)) b := by
  obtain ⟨⟨w0, w1, w2, w3, w4, w5, w6, w7⟩, w8, w9, w10, w11, w12, w13, w14, w15, w16⟩ := Wt_all
  obtain ⟨s1, ⟨s2, s2'⟩, s3⟩ := sd_w d hd
  have hz2 := hz
  obtain ⟨⟨z1, z2⟩, z3, z4⟩ := hz2
  have hT' : TXl T j (tcs (19 + d) ++ ([32] ++ ([102, 114, 111, 109] ++ ([32, 48 + q 3, 32, 48 + q 4, 32] ++ ([116, 111] ++ [32, 48 + q 5, 32, 48 + q 6, 59]))))) := hT
  have len : (stBr 3 d q).length = (tcs (19 + d)).length + 17 := by
    show (tcs (19 + d) ++ ([32] ++ ([102, 114, 111, 109] ++ ([32, 48 + q 3, 32, 48 + q 4, 32] ++ ([116, 111] ++ [32, 48 + q 5, 32, 48 + q 6, 59]))))).length = _
    rw [List.length_append]
    rfl
  rw [len] at hl ⊢
  have T1 := (TXl_app _ _ _).mp hT'
  have T2 := (TXl_app _ _ _).mp T1.2
  have T3 := (TXl_app _ _ _).mp T2.2
  have T4 := (TXl_app _ _ _).mp T3.2
  have T5 := (TXl_app _ _ _).mp T4.2
  obtain ⟨i, hi⟩ : ∃ i, i = j + (tcs (19 + d)).length := ⟨_, rfl⟩
  rw [← hi] at T2 T3 T4 T5
  obtain ⟨d1, d2, d3, d4, d5⟩ := tk_w hE T1.1 (by rw [← hi]; exact T2.1.1) s1 ⟨s2, s2'⟩ (by decide) (by omega)
  rw [← hi] at d5
  have d5' : Epo T L (n + 1) (i + 1) := Epo_ws d5 (ws := [32]) T2.1 (by decide) (by show i + 1 ≤ L; omega)
  obtain ⟨e1, e2, e3, e4, e5⟩ := tk_w d5' T3.1 T4.1.1 (by decide) (by decide) (by decide) (by show i + 1 + 4 < L; omega)
  have e5' : Epo T L (n + 1 + 1) (i + 1 + 4 + 1) := Epo_ws e5 (ws := [32]) ⟨T4.1.1, trivial⟩ (by decide) (by show i + 1 + 4 + 1 ≤ L; omega)
  obtain ⟨m1, m2, m3, m4, m5⟩ := tk_d e5' T4.1.2.1 (by omega) T4.1.2.2.1 (by decide) (by omega)
  have m5' : Epo T L (n + 1 + 1 + 1) (i + 1 + 4 + 3) := Epo_ws m5 (ws := [32]) ⟨T4.1.2.2.1, trivial⟩ (by decide) (by show i + 1 + 4 + 3 ≤ L; omega)
  obtain ⟨r1, r2, r3, r4, r5⟩ := tk_d m5' T4.1.2.2.2.1 (by omega) T4.1.2.2.2.2.1 (by decide) (by omega)
  have r5' : Epo T L (n + 1 + 1 + 1 + 1) (i + 1 + 4 + 5) := Epo_ws r5 (ws := [32]) ⟨T4.1.2.2.2.2.1, trivial⟩ (by decide) (by show i + 1 + 4 + 5 ≤ L; omega)
  obtain ⟨a1, a2, a3, a4, a5⟩ := tk_w r5' T5.1 T5.2.1 (by decide) (by decide) (by decide) (by show i + 1 + 4 + 5 + 2 < L; omega)
  have a5' : Epo T L (n + 1 + 1 + 1 + 1 + 1) (i + 1 + 4 + 5 + 2 + 1) := Epo_ws a5 (ws := [32]) ⟨T5.2.1, trivial⟩ (by decide) (by show i + 1 + 4 + 5 + 2 + 1 ≤ L; omega)
  obtain ⟨o1, o2, o3, o4, o5⟩ := tk_d a5' T5.2.2.1 (by omega) T5.2.2.2.1 (by decide) (by omega)
  have o5' : Epo T L (n + 1 + 1 + 1 + 1 + 1 + 1) (i + 1 + 4 + 5 + 2 + 3) := Epo_ws o5 (ws := [32]) ⟨T5.2.2.2.1, trivial⟩ (by decide) (by show i + 1 + 4 + 5 + 2 + 3 ≤ L; omega)
  obtain ⟨p1, p2, p3, p4, p5⟩ := tk_d o5' T5.2.2.2.2.1 (by omega) T5.2.2.2.2.2.1 (by decide) (by omega)
  obtain ⟨q1, q2, q3⟩ := tk_s p5 T5.2.2.2.2.2.1 (by omega)
  rw [← d1] at d2 d4
  rw [← e1] at e2 e4
  rw [← m1] at m2 m4
  rw [← r1] at r2 r4
  rw [← a1] at a2 a4
  rw [← o1] at o2 o4
  rw [← p1] at p2 p4
  rw [← q1] at q2
  have hsV := sd_of hd d2 d4
  -- the class
  obtain ⟨c2, f1, hB2, f3⟩ := p_adv fu hA (by omega)
  have cw8 := c_isWord fu hfu hB2.1 hB2.2.1 (t := 8) (by decide) w8
  have cw9 := c_isWord fu hfu hB2.1 hB2.2.1 (t := 9) (by decide) w9
  have n8 : wB T L (tpo T L n) 66667 = false := by
    rw [wB_of d2 d4, s3]
    rcases (show d = 0 ∨ d = 1 ∨ d = 2 ∨ d = 3 by omega) with rfl | rfl | rfl | rfl <;> decide
  have n9 : wB T L (tpo T L n) 1279278 = false := by
    rw [wB_of d2 d4, s3]
    rcases (show d = 0 ∨ d = 1 ∨ d = 2 ∨ d = 3 by omega) with rfl | rfl | rfl | rfl <;> decide
  rw [n8] at cw8
  rw [n9] at cw9
  have cs := c_side fu hfu hB2
  rw [hsV] at cs
  have sdn : (zi (d : Int) = (-1 : Int32)) = ((d : Int) = -1) := zi_inj (b_ := -1) (by omega) (by omega) (by decide) (by decide)
  obtain ⟨c3, g1, hB3, g3⟩ := p_adv fu (CB_A hB2) (by omega)
  have cw10 := c_isWord fu hfu hB3.1 hB3.2.1 (t := 10) (by decide) w10
  have cw12 := c_isWord fu hfu hB3.1 hB3.2.1 (t := 12) (by decide) w12
  have y10 : wB T L (tpo T L (n + 1)) 5969497 = false := by
    rw [wB_of e2 e4]
    decide
  have y12 : wB T L (tpo T L (n + 1)) 215533 = true := by
    rw [wB_of e2 e4]
    decide
  rw [y10] at cw10
  rw [y12] at cw12
  have f13 : Fr P2t c c3 := Fr_tr f3 g3
  obtain ⟨c4, u1, u2, u3, u4⟩ := g_cellB hfu (CB_A hB3) (by omega) ((f13.1 _ _ (P2_no (by unfold pBoard; omega))).trans hB0) ((f13.1 _ _ (P2_no (by unfold pBoard; omega))).trans hB1) hz h3.1 h4.1 m2 m4 r2 r4
  obtain ⟨c5, k1, hB5, k3⟩ := p_adv fu (CB_A u2) (by omega)
  have cw13 := c_isWord fu hfu hB5.1 hB5.2.1 (t := 13) (by decide) w13
  have y13 : wB T L (tpo T L (n + 1 + 1 + 1 + 1)) 655 = true := by
    rw [wB_of a2 a4]
    decide
  rw [y13] at cw13
  have f15 : Fr (PBr b) c c5 := Fr_tr (Fr_tr (Br_2 f13) (Br_7 u4)) (Br_2 k3)
  have bnd : ∀ j, PBr b (pBoard 1) j = false := fun j => PBr_no (by unfold pBoard; omega) (by unfold pBoard; omega) (Or.inl (by unfold pBoard pBan; omega))
  obtain ⟨c6, v1, v2, v3, v4⟩ := g_cellB hfu (CB_A hB5) (by omega) ((f15.1 _ _ (bnd 0)).trans hB0) ((f15.1 _ _ (bnd 1)).trans hB1) hz h5.1 h6.1 o2 o4 p2 p4
  obtain ⟨c7, x1, ⟨x2, x3, x4, x5, x6, x7⟩, x8⟩ := c_setWithin fu b c6 (side := (d : Int)) (A := 9 * (q 4 : Int) + (q 3 : Int)) (B := 9 * (q 6 : Int) + (q 5 : Int)) rfl rfl (by omega) (by omega) (by omega) (by omega)
  obtain ⟨c8, y1, y2, y3⟩ := g_sign (fu := fu) (CA_ban (CB_A v2) x8) (by omega) q2
  have fG : Fr (PBr b) c c8 := Fr_tr (Fr_tr (Fr_tr f15 (Br_7 v4)) (Br_1 x8)) (Br_2 y3)
  have q3' : Epo T L (n + 1 + 1 + 1 + 1 + 1 + 1 + 1 + 1) (j + ((tcs (19 + d)).length + 17)) := by
    have e : i + 1 + 4 + 5 + 2 + 3 + 1 + 1 = j + ((tcs (19 + d)).length + 17) := by omega
    rw [← e]
    exact q3
  have y1' : K_X9_needSign fu 59 c7 = some (zi 1, c8) := y1
  refine ⟨c8, n + 1 + 1 + 1 + 1 + 1 + 1 + 1 + 1, ?_, CB_A y2, q3', by omega, fG, ?_⟩
  · have hev : K_X7_readWithin fu 1 b (zi (d : Int)) c3 = some (zi 1, c8) := by
      unfold K_X7_readWithin
      rw [u1, bd_s]
      dsimp only
      rw [if_neg (show ¬ (1 : Int32) = 0 by decide), ltf, u3, k1, bd_s, cw13, bd_s]
      dsimp only
      rw [if_neg (show ¬ zi (bi true) = 0 by decide), v1, bd_s]
      dsimp only
      rw [if_neg (show ¬ (1 : Int32) = 0 by decide), v3, x1, bd_s, y1', bd_s]
      rfl
    unfold tlN
    rw [f1, bd_s, cw8, bd_s]
    dsimp only
    rw [if_pos (show zi (bi false) = 0 from rfl), cw9, bd_s]
    dsimp only
    rw [if_pos (show zi (bi false) = 0 from rfl), cs, bd_s, ltf]
    dsimp only
    rw [if_neg (fun h => by have := sdn.mp h; omega), g1, bd_s, cw10, bd_s]
    dsimp only
    rw [if_pos (show zi (bi false) = 0 from rfl), cw12, bd_s]
    dsimp only
    rw [if_neg (show ¬ zi (bi true) = 0 by decide), hev, bd_s]
    rfl
  · unfold RN
    have t0 : bg (rwB s b (gBr p 3 d q)) (b : Int) 0 = (p : Int) := rw_bg (k := 0) (by decide)
    have t1 : bg (rwB s b (gBr p 3 d q)) (b : Int) 1 = 3 := rw_bg (k := 1) (by decide)
    have t2 : bg (rwB s b (gBr p 3 d q)) (b : Int) 2 = (d : Int) := rw_bg (k := 2) (by decide)
    have t3 : bg (rwB s b (gBr p 3 d q)) (b : Int) 3 = (q 3 : Int) := rw_bg (k := 3) (by decide)
    have t4 : bg (rwB s b (gBr p 3 d q)) (b : Int) 4 = (q 4 : Int) := rw_bg (k := 4) (by decide)
    have t5 : bg (rwB s b (gBr p 3 d q)) (b : Int) 5 = (q 5 : Int) := rw_bg (k := 5) (by decide)
    have t6 : bg (rwB s b (gBr p 3 d q)) (b : Int) 6 = (q 6 : Int) := rw_bg (k := 6) (by decide)
    rw [t0, t1, t2, t3, t4, t5, t6]
    have gg : ∀ j, rd c8 (pBan 1 b) j = rd c7 (pBan 1 b) j := fun j => y3.1 _ _ (P2_no (by unfold pBan; omega))
    refine ⟨?_, (gg 1).trans x2, fun h => absurd h (by decide), fun _ => ⟨(gg 2).trans x3, (gg 5).trans x4, (gg 6).trans x5, (gg 7).trans x6, (gg 8).trans x7⟩⟩
    rw [fG.1 _ _ (PBr_no (by unfold pBan; omega) (by unfold pBan; omega) (Or.inr rfl))]
    exact hp0
end QFF
