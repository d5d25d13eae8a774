section PWNM
theorem z00 : (zi 0 = (0 : Int32)) := rfl
theorem z10 : ¬ (zi 1 = (0 : Int32)) := by decide
theorem gi0m (o : Option Mem) : gi 0 184 o = o := gi_zi (a_ := 0) (by decide) (by decide) (by decide)
theorem gi1m (o : Option Mem) : gi 1 184 o = o := gi_zi (a_ := 1) (by decide) (by decide) (by decide)
theorem gi2m (o : Option Mem) : gi 2 184 o = o := gi_zi (a_ := 2) (by decide) (by decide) (by decide)
theorem gi3m (o : Option Mem) : gi 3 184 o = o := gi_zi (a_ := 3) (by decide) (by decide) (by decide)
theorem gi6m (o : Option Mem) : gi 6 184 o = o := gi_zi (a_ := 6) (by decide) (by decide) (by decide)
theorem b_265 (fu : Nat) {m : Mem} {e p : Int} (h : BDr m e p) (x1 : Int64) (x3 x4 x5 x7 : Int32) : K_X12_readsPawn_265 fu x1 x3 x4 x5 x7 m = some m := by
  unfold K_X12_readsPawn_265
  rw [b_isGood fu h, bd_s, if_pos z00]
theorem b_242 (fu : Nat) {m : Mem} {e p : Int} (h : BDr m e p) (x1 : Int64) (x3 x4 x5 x7 : Int32) : K_X12_readsPawn_242 fu x1 x3 x4 x5 x7 m = some m := by
  unfold K_X12_readsPawn_242
  rw [b_isGood fu h, bd_s, if_pos z00, b_265 fu h]
theorem b_223 (fu : Nat) {m : Mem} {e p : Int} (h : BDr m e p) (x1 : Int64) (x3 x4 x5 x6 : Int32) : K_X12_readsPawn_223 fu x1 x3 x4 x5 x6 m = some m := by
  unfold K_X12_readsPawn_223
  by_cases q : x6 = 0
  · rw [if_pos q, b_242 fu h]
  · rw [if_neg q, b_number fu h, bd_s, b_242 fu h]
theorem b_205 (fu : Nat) {m : Mem} {e p : Int} (h : BDr m e p) (x1 : Int64) (x3 x4 x5 : Int32) : K_X12_readsPawn_205 fu x1 x3 x4 x5 m = some m := by
  unfold K_X12_readsPawn_205
  rw [b_isWord fu h, bd_s, if_pos z00, b_223 fu h]
theorem b_194 (fu : Nat) {m : Mem} {e p : Int} (h : BDr m e p) (x1 : Int64) (x3 x4 x5 : Int32) : K_X12_readsPawn_194 fu x1 x3 x4 x5 m = some m := by
  unfold K_X12_readsPawn_194
  rw [b_isGood fu h, bd_s, if_pos z00, b_205 fu h]
theorem b_170 (fu : Nat) {m : Mem} {e p : Int} (h : BDr m e p) (x1 : Int64) (x3 x4 x5 : Int32) : K_X12_readsPawn_170 fu x1 x3 x4 x5 m = some m := by
  unfold K_X12_readsPawn_170
  rw [b_isGood fu h, bd_s, if_pos z00, b_194 fu h]
theorem b_146 (fu : Nat) {m : Mem} {e p : Int} (h : BDr m e p) (x1 : Int64) (x3 x4 : Int32) : K_X12_readsPawn_146 fu x1 x3 x4 m = some m := by
  unfold K_X12_readsPawn_146
  rw [b_sideHere fu h, bd_s, b_isGood fu h, bd_s, if_pos z00, b_170 fu h]
theorem b_135 (fu : Nat) {m : Mem} {e p : Int} (h : BDr m e p) (x1 : Int64) (x3 x4 : Int32) : K_X12_readsPawn_135 fu x1 x3 x4 m = some m := by
  unfold K_X12_readsPawn_135
  rw [b_isGood fu h, bd_s, if_pos z00, b_146 fu h]
theorem b_83 (fu : Nat) {m : Mem} {e p : Int} (h : BDr m e p) (x1 : Int64) : K_X12_readsPawn_83 fu x1 m = some m := by
  unfold K_X12_readsPawn_83
  rw [gi0m, b_number fu h, bd_s, ltf, gi1m, b_seen fu h, bd_s, ltf, b_isGood fu h, bd_s, if_pos z00, b_135 fu h]
theorem b_67 (fu : Nat) {m : Mem} {e p : Int} (h : BDr m e p) : K_X12_readsPawn_67 fu m = some m := by
  unfold K_X12_readsPawn_67
  rw [ltf, b_isGood fu h, bd_s, if_pos z00, b_83 fu h]
theorem b_47 (fu : Nat) {m : Mem} {e p : Int} (h : BDr m e p) : K_X12_readsPawn_47 fu m = some m := by
  unfold K_X12_readsPawn_47
  rw [b_isGood fu h, bd_s, if_pos z00, b_67 fu h]
theorem b_27 (fu : Nat) {m : Mem} {e p : Int} (h : BDr m e p) : K_X12_readsPawn_27 fu m = some m := by
  unfold K_X12_readsPawn_27
  rw [b_isGood fu h, bd_s, if_pos z00, b_47 fu h]
theorem b_16 (fu : Nat) {m : Mem} {e p : Int} (h : BDr m e p) : K_X12_readsPawn_16 fu m = some m := by
  unfold K_X12_readsPawn_16
  rw [b_isGood fu h, bd_s, if_pos z00, b_27 fu h]
theorem c_addPawn (fu : Nat) {c : Mem} {s : Nat → Int} (hR : RC c 1 s) {u : Nat} (hu : u < 4) (h2 : s 2 = u) (x y d w : Int) : ∃ c2, K_X6_addPawn fu 1 (zi (9 * y + x)) (zi d) (zi w) c = some c2 ∧ RC c2 1 (npS s u x y d w) ∧ Fr (fun k j => k == pPawn 1 u || (k == pRace 1 && j == 2)) c c2 := by
  have r2 : rd c (pRace 1) 2 = zi (u : Int) := by rw [← h2]; exact hR.2.1.1
  obtain ⟨c7, hc7⟩ : ∃ c7, c7 = mw (mw (mw (mw (mw (mw c (pPawn 1 u) 0 (zi (9 * y + x))) (pPawn 1 u) 1 (zi d)) (pPawn 1 u) 2 (zi w)) (pPawn 1 u) 3 (zi 0)) (pPawn 1 u) 4 (zi (-1))) (pPawn 1 u) 5 (zi 0) := ⟨_, rfl⟩
  have t1 : ∀ (m : Mem) (j : Nat) (v : Int32), Fr (fun k j => k == pPawn 1 u || (k == pRace 1 && j == 2)) m (mw m (pPawn 1 u) j v) := fun m j v => Fr_mw _ _ (by simp)
  have f7 : Fr (fun k j => k == pPawn 1 u || (k == pRace 1 && j == 2)) c c7 := by
    rw [hc7]
    exact Fr_tr (Fr_tr (Fr_tr (Fr_tr (Fr_tr (t1 _ _ _) (t1 _ _ _)) (t1 _ _ _)) (t1 _ _ _)) (t1 _ _ _)) (t1 _ _ _)
  have hne : ¬ pRace 1 = pPawn 1 u := by
    unfold pRace pPawn
    omega
  have r7 : rd c7 (pRace 1) 2 = zi (u : Int) := by
    rw [hc7, rd_mw, if_neg (fun h => hne h.1), rd_mw, if_neg (fun h => hne h.1), rd_mw, if_neg (fun h => hne h.1), rd_mw, if_neg (fun h => hne h.1), rd_mw, if_neg (fun h => hne h.1), rd_mw, if_neg (fun h => hne h.1)]
    exact r2
  have f8 : Fr (fun k j => k == pPawn 1 u || (k == pRace 1 && j == 2)) c (mw c7 (pRace 1) 2 (zi ((u : Int) + 1))) := Fr_tr f7 (Fr_mw _ _ (by simp))
  have g : ∀ j, rd (mw c7 (pRace 1) 2 (zi ((u : Int) + 1))) (pPawn 1 u) j = rd c7 (pPawn 1 u) j := fun j => by rw [rd_mw, if_neg (fun h => hne h.1.symm)]
  refine ⟨mw c7 (pRace 1) 2 (zi ((u : Int) + 1)), ?_, RC_np hR hu h2 f8 ⟨?_, ?_, ?_, ?_, ?_, ?_⟩ (by rw [rd_mw, if_pos ⟨rfl, rfl⟩]), f8⟩
  · unfold K_X6_addPawn
    simp (disch := omega) only [zi_lit, zl_lit, zi_add, zi_sub, zi_mul, zi_neg, zi_lt, zi_inj, zi_clamp, zl_of, gi_zi, bd_s, ltf, bi_0, bi_1, gb_bi, Int.reduceToNat, Int.reduceNeg, Int.toNat_natCast, r2]
    rw [if_pos (by omega), ← hc7, r7, zi_add]
  · rw [g, hc7, rd_mw, if_neg (fun h => absurd h.2 (by decide)), rd_mw, if_neg (fun h => absurd h.2 (by decide)), rd_mw, if_neg (fun h => absurd h.2 (by decide)), rd_mw, if_neg (fun h => absurd h.2 (by decide)), rd_mw, if_neg (fun h => absurd h.2 (by decide)), rd_mw, if_pos ⟨rfl, rfl⟩]
  · rw [g, hc7, rd_mw, if_neg (fun h => absurd h.2 (by decide)), rd_mw, if_neg (fun h => absurd h.2 (by decide)), rd_mw, if_neg (fun h => absurd h.2 (by decide)), rd_mw, if_neg (fun h => absurd h.2 (by decide)), rd_mw, if_pos ⟨rfl, rfl⟩]
  · rw [g, hc7, rd_mw, if_neg (fun h => absurd h.2 (by decide)), rd_mw, if_neg (fun h => absurd h.2 (by decide)), rd_mw, if_neg (fun h => absurd h.2 (by decide)), rd_mw, if_pos ⟨rfl, rfl⟩]
  · rw [g, hc7, rd_mw, if_neg (fun h => absurd h.2 (by decide)), rd_mw, if_neg (fun h => absurd h.2 (by decide)), rd_mw, if_pos ⟨rfl, rfl⟩]
  · rw [g, hc7, rd_mw, if_neg (fun h => absurd h.2 (by decide)), rd_mw, if_pos ⟨rfl, rfl⟩]
  · rw [g, hc7, rd_mw, if_pos ⟨rfl, rfl⟩]
def PCp (k j : Nat) : Bool := (k == 2 && decide (j < 184)) || k == 9
theorem PCp_t {j : Nat} (h : j < 184) : PCp 2 j = true := by
  unfold PCp
  rw [decide_eq_true h]
  rfl
theorem m_comesPawn (fu : Nat) {m : Mem} {s : Nat → Int} (hS : MS m s) {u : Nat} (hu : u < 4) (h2 : s 2 = u) (x1 : Int64) (x y d w : Int) : ∃ m2, K_X12_comesPawn fu x1 (zi x) (zi y) (zi d) (zi w) m = some m2 ∧ MS m2 (npS s u x y d w) ∧ rl m2 9 u = x1 ∧ (∀ j, j ≠ u → rl m2 9 j = rl m 9 j) ∧ Fr PCp m m2 := by
  have r2 : rd m 2 2 = zi (u : Int) := by rw [← h2]; exact hS 2
  obtain ⟨m9, hm9⟩ : ∃ m9, m9 = mw (mw (mw (mw (mw (mw (mw (ml m 9 u x1) 2 (8 + 7 * u) (zi x)) 2 (8 + 7 * u + 1) (zi y)) 2 (8 + 7 * u + 2) (zi d)) 2 (8 + 7 * u + 3) (zi w)) 2 (8 + 7 * u + 4) (zi 0)) 2 (8 + 7 * u + 5) (zi (-1))) 2 (8 + 7 * u + 6) (zi 0) := ⟨_, rfl⟩
  have q : ∀ k : Nat, ¬ (2 = 8 + 7 * u + k) := fun k => by omega
  have r9 : rd m9 2 2 = zi (u : Int) := by
    rw [hm9, rd_mw, if_neg (fun h => q 6 h.2), rd_mw, if_neg (fun h => q 5 h.2), rd_mw, if_neg (fun h => q 4 h.2), rd_mw, if_neg (fun h => q 3 h.2), rd_mw, if_neg (fun h => q 2 h.2), rd_mw, if_neg (fun h => q 1 h.2), rd_mw, if_neg (fun h => q 0 h.2), rd_ml]
    exact r2
  have i0 : ((8 : Int) + 7 * (u : Int)).toNat = 8 + 7 * u := by omega
  have i1 : ((8 : Int) + 7 * (u : Int) + 1).toNat = 8 + 7 * u + 1 := by omega
  have i2 : ((8 : Int) + 7 * (u : Int) + 2).toNat = 8 + 7 * u + 2 := by omega
  have i3 : ((8 : Int) + 7 * (u : Int) + 3).toNat = 8 + 7 * u + 3 := by omega
  have i4 : ((8 : Int) + 7 * (u : Int) + 4).toNat = 8 + 7 * u + 4 := by omega
  have i5 : ((8 : Int) + 7 * (u : Int) + 5).toNat = 8 + 7 * u + 5 := by omega
  have i6 : ((8 : Int) + 7 * (u : Int) + 6).toNat = 8 + 7 * u + 6 := by omega
  refine ⟨mw m9 2 2 (zi ((u : Int) + 1)), ?_, ?_, ?_, fun j hj => ?_, ?_⟩
  · unfold K_X12_comesPawn
    simp (disch := omega) only [zi_lit, zl_lit, zi_add, zi_sub, zi_mul, zi_neg, zi_lt, zi_inj, zi_clamp, zl_of, gi_zi, bd_s, ltf, bi_0, bi_1, gb_bi, Int.reduceToNat, Int.reduceNeg, Int.toNat_natCast, r2, i0, i1, i2, i3, i4, i5, i6, ← hm9, r9]
  · rw [hm9]
    exact MS_np (m := ml m 9 u x1) (fun j => by rw [rd_ml]; exact hS j) hu h2 x y d w
  · rw [rl_mw, hm9, rl_mw, rl_mw, rl_mw, rl_mw, rl_mw, rl_mw, rl_mw, rl_ml, if_pos ⟨rfl, rfl⟩]
  · rw [rl_mw, hm9, rl_mw, rl_mw, rl_mw, rl_mw, rl_mw, rl_mw, rl_mw, rl_ml, if_neg (fun h => hj h.2)]
  · refine Fr_tr (m2 := m9) ?_ (Fr_mw _ _ rfl)
    rw [hm9]
    exact Fr_tr (Fr_tr (Fr_tr (Fr_tr (Fr_tr (Fr_tr (Fr_tr (Fr_ml _ _ rfl) (Fr_mw _ _ (PCp_t (by omega)))) (Fr_mw _ _ (PCp_t (by omega)))) (Fr_mw _ _ (PCp_t (by omega)))) (Fr_mw _ _ (PCp_t (by omega)))) (Fr_mw _ _ (PCp_t (by omega)))) (Fr_mw _ _ (PCp_t (by omega)))) (Fr_mw _ _ (PCp_t (by omega)))
/-- the class's readPawn behind the walls of the pawn -/
def tlA (fu : Nat) (u : Int32) (p_12 : Int32 × Mem) : Option (Int32 × Mem) := (if p_12.1 = 0 then some (0, p_12.2) else bd (K_X5_hasWay fu 1 u p_12.2) (fun p_13 => (if p_13.1 = 0 then bd (K_X9_fail fu 5 p_13.2) (fun p_14 => (if p_14.1 = 0 then some (0, p_14.2) else (K_X7_readPawn_174 fu p_14.2))) else (K_X7_readPawn_174 fu p_13.2))))
theorem tlA_0 (fu : Nat) (u : Int32) (c : Mem) : tlA fu u (zi 0, c) = some (zi 0, c) := if_pos z00
/-- what the class holds of a pawn that is being read -/
def PWs (c m : Mem) (T : Nat → Int) (L : Nat) (s : Nat → Int) (nm : Nat → Nat) (u a : Nat) (x y : Int) : Prop := (RDs c m T L s nm ∧ u < 4 ∧ s 2 = u ∧ kkP T L a = 1 ∧ a ≤ 700) ∧ rd c 8 u = zi (a : Int) ∧ rd c 9 u = zi (tzi T L a : Int) ∧ (∀ i, i < u → nmW T L (nm i) ≠ nmW T L a) ∧ rd c 7 8 = zi (9 * y + x) ∧ isCl s x y = true
theorem PWs_fr {c c2 m m2 : Mem} {T : Nat → Int} {L : Nat} {s : Nat → Int} {nm : Nat → Nat} {u a : Nat} {x y : Int} {P Q : Nat → Nat → Bool} (h : PWs c m T L s nm u a x y) (f : Fr P c c2) (g : Fr Q m m2) (hP : ∀ k j, (7 ≤ k ∧ k ≤ 9) ∨ (57 ≤ k ∧ k < 79) → P k j = false) (hQ : ∀ j, Q 2 j = false ∧ Q 9 j = false ∧ (24 ≤ j → j ≤ 26 → Q 0 j = false)) : PWs c2 m2 T L s nm u a x y := by
  obtain ⟨⟨h1, h2, h3, h4, h5⟩, h6, h7, h8, h9, h10⟩ := h
  exact ⟨⟨RDs_fr h1 f g hP hQ, h2, h3, h4, h5⟩, (f.1 _ _ (hP _ _ (Or.inl ⟨by decide, by decide⟩))).trans h6, (f.1 _ _ (hP _ _ (Or.inl ⟨by decide, by decide⟩))).trans h7, h8, (f.1 _ _ (hP _ _ (Or.inl ⟨by decide, by decide⟩))).trans h9, h10⟩
theorem p_pawnEnd (fu : Nat) (hfu : 1000 ≤ fu) {c m c0 m0 : Mem} {T : Nat → Int} {L N n n0 : Nat} {s : Nat → Int} {nm : Nat → Nat} {u a : Nat} {x y d w : Int} (hB : CBr c T L N n) (hG : GMr m T L n) (hW : PWs c m T L s nm u a x y) (hd : 0 ≤ d ∧ d ≤ 3) (hw : 0 ≤ w ∧ w ≤ 20) (hpI : pI s x y = -1) (hc : Fr PSc c0 c) (hm : Fr PSm m0 m) (h0 : n0 ≤ n) : OUTr (bd (K_X7_readWallsOfPawn_54 fu (zi d) (zi w) c) (tlA fu (zi (u : Int)))) (bd (K_X12_readsPawn_242 fu (zl (nmW T L a : Int)) (zi x) (zi y) (zi d) (zi w) m) (fun m_9 => K_X12_statement_90 fu m_9)) c0 m0 T L N n0 := by
  have hs := c_isSign fu hB (x := 59) ⟨by decide, by decide⟩
  have hs' : K_X9_isSign fu 59 c = _ := hs
  have hs2 := m_isSign fu hG (x := 59) ⟨by decide, by decide⟩
  have hs2' : K_X12_isSign fu 59 m = _ := hs2
  obtain ⟨⟨hR, hu, h2, hka, ha7⟩, hr8, hr9, hdif, hr78, hxy⟩ := hW
  unfold K_X7_readWallsOfPawn_54 K_X12_readsPawn_242
  rw [hs', bd_s, g_isGood fu hG.2.1, bd_s, if_neg z10, hs2', bd_s]
  by_cases q : sgB T L (tpo T L n) 59 = true
  · rw [q, if_neg (show ¬ zi (bi true) = 0 by decide), if_neg (show ¬ zi (bi true) = 0 by decide), hr78]
    obtain ⟨c2, d1, d2, d3⟩ := c_addPawn fu hR.1 hu h2 x y d w
    obtain ⟨m2, e1, e2, e3, e4, e5⟩ := m_comesPawn fu hR.2.1 hu h2 (zl (nmW T L a : Int)) x y d w
    obtain ⟨⟨i1, i2, i3, i4⟩, i5⟩ := Inv_np hR.2.2.1 hu h2 hxy hd hw hpI
    have hus : (u : Int) < npS s u x y d w 2 := by
      rw [np_2, h2]
      omega
    have hpn := i4 u (by omega) hus
    obtain ⟨c3, j1, j2⟩ := c_measure fu 0 1 hfu (by decide) i1 i2 i4 d2 hus
    obtain ⟨m3, k1, k2⟩ := m_dist fu hfu e2 i1 i3 i2 (p := (u : Int)) (by omega) hus hpn
    have f2 : Fr PSc c c2 := Fr_mono d3 (fun k j h => by
      have := PSc_ne h
      unfold pPawn pRace
      simp only [Bool.or_eq_false_iff, Bool.and_eq_false_iff, beq_eq_false_iff_ne, ne_eq]
      omega)
    have f3 : Fr PSc c2 c3 := Fr_mono j2 (fun k j h => by
      have := PSc_ne h
      unfold PC pDist pQueue pWays
      simp only [Bool.or_eq_false_iff, Bool.and_eq_false_iff, beq_eq_false_iff_ne, ne_eq]
      omega)
    have g2 : Fr PSm m m2 := Fr_mono e5 (fun k j h => by
      obtain ⟨_, h2, _, _, h9⟩ := PSm_ne h
      unfold PCp
      rw [Bool.or_eq_false_iff, Bool.and_eq_false_iff, beq_eq_false_iff_ne, beq_eq_false_iff_ne, decide_eq_false_iff_not]
      refine ⟨?_, h9⟩
      by_cases q : k = 2
      · exact Or.inr (fun hj => h2 ⟨q, hj⟩)
      · exact Or.inl q)
    have g3 : Fr PSm m2 m3 := Fr_mono k2 (fun k j h => PB_Sm h)
    have lo2 : ∀ k j, k < 57 → (fun k j => k == pPawn 1 u || (k == pRace 1 && j == 2) : Nat → Nat → Bool) k j = false := fun k j h => by
      unfold pPawn pRace
      simp only [Bool.or_eq_false_iff, Bool.and_eq_false_iff, beq_eq_false_iff_ne, ne_eq]
      omega
    have loC : ∀ k j, k < 20 ∨ 23 ≤ k → PC 0 k j = false := fun k j h => by
      unfold PC pDist pQueue pWays
      simp only [Bool.or_eq_false_iff, Bool.and_eq_false_iff, beq_eq_false_iff_ne, ne_eq]
      omega
    have hB3 : CBr c3 T L N n := CB_fr (CB_fr hB d3 (fun k j a b => lo2 k j (by omega))) j2 (fun k j a b => loC k j (by omega))
    have hG3 : GMr m3 T L n := GM_fr (GM_fr hG e5 (fun _ _ => rfl) (fun _ => rfl)) k2 PB_0 (fun _ => rfl)
    have r2c : rd c2 (pRace 1) 2 = zi ((u : Int) + 1) := by
      have := d2.2.1.1
      rw [np_2, h2] at this
      exact this
    have r2m : rd m2 2 2 = zi ((u : Int) + 1) := by
      have := e2 2
      rw [np_2, h2] at this
      exact this
    have hhas : K_X5_hasWay fu 1 (zi (u : Int)) c2 = some (zi (if dst (npS s u x y d w) (u : Int) = -1 then 0 else 1), c3) := by
      have hdl := dst_le i1 i3 hpn
      unfold K_X5_hasWay
      simp (disch := omega) only [zi_lit, zl_lit, zi_add, zi_sub, zi_mul, zi_neg, zi_lt, zi_inj, zi_clamp, zl_of, gi_zi, bd_s, ltf, bi_0, bi_1, gb_bi, Int.reduceToNat, Int.reduceNeg, Int.toNat_natCast, r2c, j1]
      rw [if_neg (by omega), if_pos (by omega)]
      by_cases qq : dst (npS s u x y d w) (u : Int) = -1
      · rw [if_pos qq, if_pos qq]
      · rw [if_neg qq, if_neg qq]
    have hdist : K_X12_distanceOf fu (rd m2 2 (Int32.toNatClampNeg 2) - 1) m2 = some (zi (dst (npS s u x y d w) (u : Int)), m3) := by
      have r2m' : rd m2 2 (Int32.toNatClampNeg 2) = zi ((u : Int) + 1) := r2m
      rw [r2m', show (1 : Int32) = zi 1 from rfl, zi_sub, show (u : Int) + 1 - 1 = (u : Int) by omega]
      exact k1
    unfold K_X12_readsPawn_265
    rw [d1, bd_s, bd_s, g_isGood fu hG.2.1, bd_s, if_neg z10, e1, bd_s, gi2m, hdist, bd_s]
    unfold tlA
    rw [if_neg (show ¬ (1 : Int32) = 0 by decide), hhas, bd_s]
    have hdl := dst_le i1 i3 hpn
    by_cases qq : dst (npS s u x y d w) (u : Int) = -1
    · obtain ⟨c4, m4, v1, v2, v3, v4, v5⟩ := p_fail fu hB3 hG3 (e := 5) ⟨by decide, by decide⟩ (fun h => by rw [sg_k q] at h; omega)
      have v1' : K_X9_fail fu 5 c3 = some (zi 0, c4) := v1
      have v2' : K_X12_wrong fu 5 m3 = some m4 := v2
      obtain ⟨e, p, hp, hE, hD⟩ := v3
      rw [qq, if_pos rfl, if_pos z00, v1', bd_s, if_pos z00, if_pos (show zi (-1) = -1 from rfl), v2', bd_s, bd_s, b_st90 fu hD]
      exact ⟨c4, m4, Fr_tr (Fr_tr (Fr_tr hc f2) f3) (FSc v4), Fr_tr (Fr_tr (Fr_tr hm g2) g3) (FSm v5), rfl, Or.inr ⟨rfl, e, p, hp, hE, hD⟩⟩
    · have hne : ¬ (zi (dst (npS s u x y d w) (u : Int)) = -1) := by
        have : (zi (dst (npS s u x y d w) (u : Int)) = zi (-1)) = (dst (npS s u x y d w) (u : Int) = -1) := zi_inj (by omega) (by omega) (by decide) (by decide)
        exact fun h => qq (this.mp h)
      rw [if_neg qq, if_neg z10, if_neg hne, bd_s]
      obtain ⟨m4, v1, v2, v3⟩ := m_mustSign fu hfu hG3 (x := 59) ⟨by decide, by decide⟩ q
      have v1' : K_X12_mustSign fu 59 m3 = some m4 := v1
      have ht := tok_700 hB3.1 (by rw [sg_k q]; decide)
      have hI := i5 qq
      refine ⟨c3, m4, Fr_tr (Fr_tr hc f2) f3, Fr_tr (Fr_tr (Fr_tr hm g2) g3) (FSm v3), ?_, Or.inl ⟨rfl, n + 1, npS s u x y d w, fun i => if i = u then a else nm i, by omega, by omega, CB_A hB3, v2, ?_⟩⟩
      · unfold K_X12_statement_90
        rw [v1']
        rfl
      · obtain ⟨z1, z2, z3, ⟨b1, b2, ww, y1, y2, y3, y4⟩, z5, z6⟩ := hR
        have hlo : ∀ k j, 7 ≤ k → k ≤ 9 → rd c3 k j = rd c k j := fun k j a1 a2 => (j2.1 _ _ (loC k j (by omega))).trans (d3.1 _ _ (lo2 k j (by omega)))
        have hm0 : ∀ j, 24 ≤ j → j ≤ 26 → rd m4 0 j = rd m 0 j := fun j a1 a2 => ((v3.1 _ _ ((PGe_rd j).2.2 a1 a2)).trans (k2.1 _ _ ((PB_rd j).2.2 a1 a2))).trans (e5.1 _ _ rfl)
        have hm9 : ∀ j, rl m4 9 j = rl m2 9 j := fun j => (v3.2 _ _ rfl).trans (k2.2 _ _ rfl)
        refine ⟨RC_fr2 j2 (fun k j a1 a2 => loC k j (by omega)) d2, fun j => ((v3.1 _ _ rfl).trans (k2.1 _ _ rfl)).trans (e2 j), hI, ⟨b1, b2, ww, y1, ⟨(hlo _ _ (by decide) (by decide)).trans y2.1, (hm0 _ (by decide) (by decide)).trans y2.2⟩, ⟨(hlo _ _ (by decide) (by decide)).trans y3.1, (hm0 _ (by decide) (by decide)).trans y3.2⟩, (hlo _ _ (by decide) (by decide)).trans y4.1, (hm0 _ (by decide) (by decide)).trans y4.2⟩, ?_⟩
        have hU : (npS s u x y d w 2).toNat = u + 1 := by
          rw [np_2, h2]
          omega
        have hU0 : (s 2).toNat = u := by
          rw [h2]
          omega
        rw [hU]
        rw [hU0] at z5 z6
        refine ⟨fun i hi => ?_, fun i j hi hj hij => ?_⟩
        · by_cases qi : i = u
          · have hv : (fun i => if i = u then a else nm i : Nat → Nat) i = a := if_pos qi
            rw [hv, qi]
            exact ⟨hka, ha7, (hlo _ _ (by decide) (by decide)).trans hr8, (hlo _ _ (by decide) (by decide)).trans hr9, (hm9 u).trans e3⟩
          · have hv : (fun i => if i = u then a else nm i : Nat → Nat) i = nm i := if_neg qi
            rw [hv]
            obtain ⟨t1, t2, t3, t4, t5⟩ := z5 i (by omega)
            exact ⟨t1, t2, (hlo _ _ (by decide) (by decide)).trans t3, (hlo _ _ (by decide) (by decide)).trans t4, (hm9 i).trans ((e4 i qi).trans t5)⟩
        · show nmW T L (if i = u then a else nm i) ≠ nmW T L (if j = u then a else nm j)
          by_cases qi : i = u
          · rw [if_pos qi, if_neg (by omega)]
            exact (hdif j (by omega)).symm
          · rw [if_neg qi]
            by_cases qj : j = u
            · rw [if_pos qj]
              exact hdif i (by omega)
            · rw [if_neg qj]
              exact z6 i j (by omega) (by omega) hij
  · have q' : sgB T L (tpo T L n) 59 = false := by
      cases hh : sgB T L (tpo T L n) 59 with
      | true => exact absurd hh q
      | false => rfl
    obtain ⟨c4, m4, v1, v2, v3, v4, v5⟩ := p_fail fu hB hG (e := 1) ⟨by decide, by decide⟩ (fun _ => rfl)
    have v1' : K_X9_fail fu 1 c = some (zi 0, c4) := v1
    have v2' : K_X12_wrong fu 1 m = some m4 := v2
    obtain ⟨e, p, hp, hE, hD⟩ := v3
    rw [q', if_pos (show zi (bi false) = 0 from rfl), if_pos (show zi (bi false) = 0 from rfl), v1', bd_s, v2', bd_s, b_265 fu hD, bd_s, b_st90 fu hD]
    refine ⟨c4, m4, Fr_tr hc (FSc v4), Fr_tr hm (FSm v5), rfl, Or.inr ⟨?_, e, p, hp, hE, hD⟩⟩
    rw [show gb (zi 0, c4).1 (some ((zi 0, c4).1, (zi 0, c4).2)) = some (zi 0, c4) from gb_zi _ (Or.inl rfl), bd_s]
    exact tlA_0 fu _ c4
end PWNM
