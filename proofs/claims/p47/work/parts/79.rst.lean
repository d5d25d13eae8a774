section RSTM
def PSc (k j : Nat) : Bool := (k == 2 && (decide (6 ≤ j) && decide (j ≤ 12))) || ((decide (7 ≤ k) && decide (k ≤ 9)) || ((decide (18 ≤ k) && decide (k ≤ 22)) || ZR 1 k j))
def PSm (k j : Nat) : Bool := (k == 0 && (((decide (4 ≤ j) && decide (j ≤ 9)) || j == 12) || (j == 22 || (decide (24 ≤ j) && decide (j ≤ 27))))) || ((k == 2 && decide (j < 184)) || (k == 7 || (k == 8 || k == 9)))
theorem PSc_ne {k j : Nat} (h : PSc k j = false) : ¬ (k = 2 ∧ 6 ≤ j ∧ j ≤ 12) ∧ ¬ (7 ≤ k ∧ k ≤ 9) ∧ ¬ (18 ≤ k ∧ k ≤ 22) ∧ ¬ (57 ≤ k ∧ k < 79) := by
  unfold PSc ZR at h
  simp only [Bool.or_eq_false_iff, Bool.and_eq_false_iff, beq_eq_false_iff_ne, ne_eq, decide_eq_false_iff_not] at h
  omega
theorem PSm_ne {k j : Nat} (h : PSm k j = false) : ¬ (k = 0 ∧ ((4 ≤ j ∧ j ≤ 9) ∨ j = 12 ∨ j = 22 ∨ (24 ≤ j ∧ j ≤ 27))) ∧ ¬ (k = 2 ∧ j < 184) ∧ k ≠ 7 ∧ k ≠ 8 ∧ k ≠ 9 := by
  unfold PSm at h
  simp only [Bool.or_eq_false_iff, Bool.and_eq_false_iff, beq_eq_false_iff_ne, ne_eq, decide_eq_false_iff_not] at h
  omega
theorem F_t (k j : Nat) (b : Bool) (h : ¬ (b = false)) : b = true := by
  cases b
  · exact absurd rfl h
  · rfl
theorem P2_Sc {k j : Nat} (h : PSc k j = false) : P2t k j = false := by
  have := PSc_ne h
  unfold P2t
  simp only [Bool.and_eq_false_iff, beq_eq_false_iff_ne, ne_eq, decide_eq_false_iff_not]
  omega
theorem PGe_Sm {k j : Nat} (h : PSm k j = false) : PGe k j = false := by
  have := PSm_ne h
  unfold PGe
  simp only [Bool.or_eq_false_iff, Bool.and_eq_false_iff, beq_eq_false_iff_ne, ne_eq, decide_eq_false_iff_not]
  omega
theorem PB_Sm {k j : Nat} (h : PSm k j = false) : PB k j = false := by
  have := PSm_ne h
  unfold PB
  simp only [Bool.or_eq_false_iff, Bool.and_eq_false_iff, beq_eq_false_iff_ne, ne_eq]
  omega
theorem FSc {c c2 : Mem} (f : Fr P2t c c2) : Fr PSc c c2 := Fr_mono f (fun _ _ => P2_Sc)
theorem FSm {m m2 : Mem} (f : Fr PGe m m2) : Fr PSm m m2 := Fr_mono f (fun _ _ => PGe_Sm)
/-- the race as it is read so far -/
def InvR (s : Nat → Int) : Prop := InvH s ∧ (s 4 = 0 ∧ s 5 = 0 ∧ s 7 = 0) ∧ (s 3 = 0 → ∀ j, 120 ≤ j → s j = 0) ∧ s 3 ≤ 40
def FLr (c m : Mem) : Prop := ∃ b1 b2 : Bool, ∃ w : Int, (0 ≤ w ∧ w ≤ 20) ∧ (rd c 7 5 = zi (bi b1) ∧ rd m 0 25 = zi (bi b1)) ∧ (rd c 7 6 = zi (bi b2) ∧ rd m 0 26 = zi (bi b2)) ∧ rd c 7 7 = zi w ∧ rd m 0 24 = zi w
def RDs (c m : Mem) (T : Nat → Int) (L : Nat) (s : Nat → Int) (nm : Nat → Nat) : Prop := RC c 1 s ∧ MS m s ∧ InvR s ∧ FLr c m ∧ NMr c m T L (s 2).toNat nm
theorem RDs_fr {c c2 m m2 : Mem} {T : Nat → Int} {L : Nat} {s : Nat → Int} {nm : Nat → Nat} {P Q : Nat → Nat → Bool} (h : RDs c m T L s nm) (f : Fr P c c2) (g : Fr Q m m2) (hP : ∀ k j, (7 ≤ k ∧ k ≤ 9) ∨ (57 ≤ k ∧ k < 79) → P k j = false) (hQ : ∀ j, Q 2 j = false ∧ Q 9 j = false ∧ (24 ≤ j → j ≤ 26 → Q 0 j = false)) : RDs c2 m2 T L s nm := by
  obtain ⟨a1, a2, a3, ⟨b1, b2, w, e1, e2, e3, e4⟩, n1, n2⟩ := h
  have gc : ∀ k j, 7 ≤ k → k ≤ 9 → rd c2 k j = rd c k j := fun k j x y => f.1 _ _ (hP k j (Or.inl ⟨x, y⟩))
  have gm : ∀ j, 24 ≤ j → j ≤ 26 → rd m2 0 j = rd m 0 j := fun j x y => g.1 _ _ ((hQ j).2.2 x y)
  refine ⟨RC_fr2 f (fun k j x y => hP k j (Or.inr ⟨by omega, by omega⟩)) a1, fun j => (g.1 _ _ (hQ j).1).trans (a2 j), a3, ⟨b1, b2, w, e1, ⟨(gc _ _ (by decide) (by decide)).trans e2.1, (gm _ (by decide) (by decide)).trans e2.2⟩, ⟨(gc _ _ (by decide) (by decide)).trans e3.1, (gm _ (by decide) (by decide)).trans e3.2⟩, (gc _ _ (by decide) (by decide)).trans e4.1, (gm _ (by decide) (by decide)).trans e4.2⟩, fun i hi => ?_, n2⟩
  obtain ⟨k1, k2, k3, k4, k5⟩ := n1 i hi
  exact ⟨k1, k2, (gc _ _ (by decide) (by decide)).trans k3, (gc _ _ (by decide) (by decide)).trans k4, (g.2 _ _ (hQ i).2.1).trans k5⟩
theorem P2_rd : ∀ k j, (7 ≤ k ∧ k ≤ 9) ∨ (57 ≤ k ∧ k < 79) → P2t k j = false := fun k j h => by
  unfold P2t
  simp only [Bool.and_eq_false_iff, beq_eq_false_iff_ne, ne_eq]
  omega
theorem PGe_rd : ∀ j, PGe 2 j = false ∧ PGe 9 j = false ∧ (24 ≤ j → j ≤ 26 → PGe 0 j = false) := fun j => by
  refine ⟨rfl, rfl, fun h1 h2 => ?_⟩
  unfold PGe
  simp only [Bool.or_eq_false_iff, Bool.and_eq_false_iff, beq_eq_false_iff_ne, ne_eq, decide_eq_false_iff_not]
  omega
theorem PB_rd : ∀ j, PB 2 j = false ∧ PB 9 j = false ∧ (24 ≤ j → j ≤ 26 → PB 0 j = false) := fun j => by
  refine ⟨rfl, rfl, fun h1 h2 => ?_⟩
  unfold PB
  simp only [Bool.or_eq_false_iff, Bool.and_eq_false_iff, beq_eq_false_iff_ne, ne_eq]
  omega
/-- frames of the class that leave its text and its tokens alone -/
theorem PB_0 : ∀ j, j ≤ 12 → PB 0 j = false := fun j h => by
  unfold PB
  simp only [Bool.or_eq_false_iff, Bool.and_eq_false_iff, beq_eq_false_iff_ne, ne_eq]
  omega
/-- how a statement ends, in both -/
def OUTr (x : Option (Int32 × Mem)) (y : Option Mem) (c m : Mem) (T : Nat → Int) (L N n : Nat) : Prop := ∃ c2 m2, Fr PSc c c2 ∧ Fr PSm m m2 ∧ y = some m2 ∧ ((x = some (zi 1, c2) ∧ ∃ n' s' nm', n < n' ∧ n' ≤ 700 ∧ CAr c2 T L N n' ∧ GMr m2 T L n' ∧ RDs c2 m2 T L s' nm') ∨ (x = some (zi 0, c2) ∧ EBr c2 m2))
theorem tok_700 {c : Mem} {T : Nat → Int} {L N n : Nat} (h : TSc c T L N) (hk : kkP T L (tpo T L n) ≠ 5) : n < N ∧ N ≤ 700 := by
  obtain ⟨h1, h2, h3, h4, h5, h6⟩ := h
  refine ⟨?_, h2⟩
  by_cases q : n < N
  · exact q
  · exfalso
    apply hk
    unfold kkP
    rw [tp_Lk h5 n (by omega), if_neg (by omega)]
theorem sg_k {T : Nat → Int} {L p : Nat} {x : Int} (h : sgB T L p x = true) : kkP T L p = 3 := (of_decide_eq_true h).1
/-- the reference, where something has been wrong, to the end of its statement -/
theorem b_st90 (fu : Nat) {m : Mem} {e p : Int} (h : BDr m e p) : K_X12_statement_90 fu m = some m := by
  unfold K_X12_statement_90
  have e59 : K_X12_mustSign fu 59 m = some m := b_mustSign fu h _
  rw [e59]
  rfl
/-- the sign at the end of a statement -/
theorem p_end (fu : Nat) (hfu : 1000 ≤ fu) {c m c0 m0 : Mem} {T : Nat → Int} {L N n n0 : Nat} {s : Nat → Int} {nm : Nat → Nat} (hA : CAr c T L N n) (hG : GMr m T L n) (hn : n ≤ 5000) (hR : RDs c m T L s nm) (hc : Fr PSc c0 c) (hm : Fr PSm m0 m) (h0 : n0 ≤ n) : OUTr (bd (K_X9_needSign fu 59 c) (fun p_6 => gb p_6.1 (some (p_6.1, p_6.2)))) (K_X12_statement_90 fu m) c0 m0 T L N n0 := by
  rcases p_sign fu hfu hA hG hn (x := 59) ⟨by decide, by decide⟩ with ⟨c2, m2, h1, h2, h3, h4, h5, h6, h7, h8⟩ | ⟨c2, m2, h1, h2, h3, h4, h5, h6, h7⟩
  · have h1' : K_X9_needSign fu 59 c = some (zi 1, c2) := h1
    have h5' : K_X12_mustSign fu 59 m = some m2 := h5
    have ht := tok_700 h2.1 (by rw [sg_k h3]; decide)
    refine ⟨c2, m2, Fr_tr hc (FSc h7), Fr_tr hm (FSm h8), ?_, Or.inl ⟨?_, n + 1, s, nm, by omega, by omega, CB_A h2, h6, RDs_fr hR h7 h8 P2_rd PGe_rd⟩⟩
    · unfold K_X12_statement_90
      rw [h5']
      rfl
    · rw [h1', bd_s]
      exact gb_zi _ (Or.inr rfl)
  · have h1' : K_X9_needSign fu 59 c = some (zi 0, c2) := h1
    have h4' : K_X12_mustSign fu 59 m = some m2 := h4
    refine ⟨c2, m2, Fr_tr hc (FSc h6), Fr_tr hm (FSm h7), ?_, Or.inr ⟨?_, h5⟩⟩
    · unfold K_X12_statement_90
      rw [h4']
      rfl
    · rw [h1', bd_s]
      exact gb_zi _ (Or.inl rfl)
/-- an error, in both, is how a statement ends -/
theorem OUT_bad (fu : Nat) {x : Option (Int32 × Mem)} {y : Option Mem} {c m c1 m1 c0 m0 : Mem} {T : Nat → Int} {L N n0 : Nat} (hx : x = some (zi 0, c)) (hy : y = some m) (hE : EBr c m) (hc : Fr PSc c0 c) (hm : Fr PSm m0 m) : OUTr x y c0 m0 T L N n0 := ⟨c, m, hc, hm, hy, Or.inr ⟨hx, hE⟩⟩
theorem b_rBoard30 (fu : Nat) {m : Mem} {e p : Int} (h : BDr m e p) : K_X12_readsBoard_30 fu m = some (mw m 0 25 1) := by
  have h2 : BDr (mw m 0 25 1) e p := ⟨h.1, by rw [rd_mw, if_neg (by decide)]; exact h.2.1, by rw [rd_mw, if_neg (by decide)]; exact h.2.2⟩
  unfold K_X12_readsBoard_30 K_X12_readsBoard_46
  simp only [ltf, b_isGood fu h2, bd_s, b_number fu h2, if_pos (show zi 0 = 0 from rfl)]
theorem EB_fr {c m m2 : Mem} {P : Nat → Nat → Bool} (h : EBr c m) (f : Fr P m m2) (hP : P 0 8 = false ∧ P 0 9 = false) : EBr c m2 := by
  obtain ⟨e, p, h1, h2, h3, h4, h5⟩ := h
  exact ⟨e, p, h1, h2, h3, (f.1 _ _ hP.1).trans h4, (f.1 _ _ hP.2).trans h5⟩
theorem s_board {s : Nat → Int} (h : InvR s) (h2 : s 2 = 0) (h3 : s 3 = 0) {x y : Int} (hx : 3 ≤ x ∧ x ≤ 9) (hy : 3 ≤ y ∧ y ≤ 9) : InvR (up1 (up1 s 0 x) 1 y) ∧ ∀ j, 2 ≤ j → up1 (up1 s 0 x) 1 y j = s j := by
  obtain ⟨⟨⟨hz, hc, hW, hp, hb, hwp, hds, hrk, hwy⟩, h184⟩, ⟨h4, h5, h7⟩, hw, h40⟩ := h
  have E : ∀ j, 2 ≤ j → up1 (up1 s 0 x) 1 y j = s j := fun j hj => (up1_ne (by omega)).trans (up1_ne (by omega))
  have e0 : up1 (up1 s 0 x) 1 y 0 = x := (up1_ne (by decide)).trans (up1_eq _ _ _)
  have e1 : up1 (up1 s 0 x) 1 y 1 = y := up1_eq _ _ _
  obtain ⟨c1, c2, c3, c4, c5, c6, c7⟩ := hc
  have w0 := hw h3
  have c2' : s 6 = 0 := by
    by_cases q : 0 < s 6
    · have := (hb 0 (by decide) q).1
      omega
    · omega
  refine ⟨⟨⟨⟨?_, ?_, fun j h1 h2 => ?_, fun p h1 h2 => ?_, fun b h1 h2 => ?_, fun a b h1 h2 h3 h4 _ => ?_, fun p q h1 h2 => ?_, fun p q h1 h2 => ?_, fun p h1 h2 => ?_⟩, fun j hj => ?_⟩, ⟨?_, ?_, ?_⟩, fun _ j hj => ?_, ?_⟩, E⟩
  · exact ⟨by rw [e0]; exact hx, by rw [e1]; exact hy⟩
  · unfold cnO
    rw [E 2 (by decide), E 3 (by decide), E 4 (by decide), E 5 (by decide), E 6 (by decide), E 7 (by decide)]
    exact ⟨c1, c2, c3, c4, c5, c6, c7⟩
  · rw [E j (by omega)]
    exact hW j h1 h2
  · rw [E 2 (by decide)] at h2
    omega
  · rw [E 6 (by decide)] at h2
    omega
  · rw [E _ (by omega)]
    exact w0 _ (by omega)
  · rw [E 2 (by decide)] at h2
    omega
  · rw [E 2 (by decide)] at h2
    omega
  · rw [E 2 (by decide)] at h2
    omega
  · rw [E j (by omega)]
    exact h184 j hj
  · rw [E 4 (by decide)]
    exact h4
  · rw [E 5 (by decide)]
    exact h5
  · rw [E 7 (by decide)]
    exact h7
  · rw [E j (by omega)]
    exact w0 j hj
  · rw [E 3 (by decide)]
    exact h40
theorem RD_cn {c m : Mem} {T : Nat → Int} {L : Nat} {s : Nat → Int} {nm : Nat → Nat} (h : RDs c m T L s nm) : (rd c (pRace 1) 2 = zi (s 2) ∧ rd c (pBoard 1) 2 = zi (s 3)) ∧ (rd m 2 2 = zi (s 2) ∧ rd m 2 3 = zi (s 3)) ∧ (0 ≤ s 2 ∧ s 2 ≤ 4) ∧ 0 ≤ s 3 ∧ s 3 ≤ 40 := by
  obtain ⟨h1, h2, h3, h4⟩ := h
  have hc := h3.1.1.2.1
  have h4 := h3.2.1.1
  exact ⟨⟨h1.2.1.1, h1.1.2.2.1⟩, ⟨h2 2, h2 3⟩, hc.1, by have := hc.2.2.1; omega⟩
theorem P1_rd : ∀ k j, 2 ≤ k → k ≤ 6 → (fun k2 _ => k2 == 7 : Nat → Nat → Bool) k j = false := fun k j h1 h2 => by
  simp only [beq_eq_false_iff_ne, ne_eq]
  omega
/-- the board's size -/
theorem p_board (fu : Nat) (hfu : 1000 ≤ fu) {c m : Mem} {T : Nat → Int} {L N n : Nat} {s : Nat → Int} {nm : Nat → Nat} (hB : CBr c T L N n) (hG : GMr m T L n) (hn : n ≤ 700) (hk : kkP T L (tpo T L n) = 1) (hR : RDs c m T L s nm) : OUTr (K_X7_readBoard fu c) (bd (K_X12_readsBoard fu m) (fun m_11 => K_X12_statement_90 fu m_11)) c m T L N n := by
  obtain ⟨⟨a2, a3⟩, ⟨b2, b3⟩, q2, q3⟩ := RD_cn hR
  obtain ⟨g1, g2, w, e1, e2, e3, e4⟩ := hR.2.2.2.1
  have bad : OUTr (K_X7_readBoard_30 fu c) (bd (K_X12_readsBoard_25 fu m) (fun m_11 => K_X12_statement_90 fu m_11)) c m T L N n := by
    obtain ⟨c4, m2, d1, d2, d3, d4, d5⟩ := p_fail fu hB hG (e := 3) ⟨by decide, by decide⟩ (fun x => by omega)
    have d1' : K_X9_fail fu 3 c = some (zi 0, c4) := d1
    have d2' : K_X12_wrong fu 3 m = some m2 := d2
    obtain ⟨e, p, hp, hE, hD⟩ := d3
    have f2 : Fr PSm m2 (mw m2 0 25 1) := Fr_mw _ _ rfl
    have hE2 : EBr c4 (mw m2 0 25 1) := ⟨e, p, hp, hE, hD.1, by rw [rd_mw, if_neg (by decide)]; exact hD.2.1, by rw [rd_mw, if_neg (by decide)]; exact hD.2.2⟩
    refine ⟨c4, mw m2 0 25 1, FSc d4, Fr_tr (FSm d5) f2, ?_, Or.inr ⟨?_, hE2⟩⟩
    · unfold K_X12_readsBoard_25
      rw [d2', bd_s, b_rBoard30 fu hD, bd_s]
      obtain ⟨e', p', _, _, hD'⟩ := hE2
      exact b_st90 fu hD'
    · unfold K_X7_readBoard_30
      rw [d1', bd_s]
      exact gb_zi _ (Or.inl rfl)
  unfold K_X7_readBoard K_X12_readsBoard
  rw [e2.1, e2.2]
  cases g1 with
  | true => rw [if_neg (by decide), if_neg (by decide)]; exact bad
  | false =>
    rw [if_pos (show zi (bi false) = 0 from rfl), if_pos (show zi (bi false) = 0 from rfl)]
    have i2 : ((0 : Int32) < rd c (pRace 1) 2) = (0 < s 2) := by
      rw [a2]
      exact zi_lt (a_ := 0) (by decide) (by decide) (by omega) (by omega)
    have i3 : ((0 : Int32) < rd c (pBoard 1) 2) = (0 < s 3) := by
      rw [a3]
      exact zi_lt (a_ := 0) (by decide) (by decide) (by omega) (by omega)
    have j2 : ((0 : Int32) < rd m 2 (Int32.toNatClampNeg 2)) = (0 < s 2) := by
      have b2' : rd m 2 (Int32.toNatClampNeg 2) = zi (s 2) := b2
      rw [b2']
      exact zi_lt (a_ := 0) (by decide) (by decide) (by omega) (by omega)
    have j3 : ((0 : Int32) < rd m 2 (Int32.toNatClampNeg 3)) = (0 < s 3) := by
      have b3' : rd m 2 (Int32.toNatClampNeg 3) = zi (s 3) := b3
      rw [b3']
      exact zi_lt (a_ := 0) (by decide) (by decide) (by omega) (by omega)
    have gg2 : ∀ o : Option Mem, gi 2 184 o = o := fun o => gi_zi (a_ := 2) (by decide) (by decide) (by decide)
    have gg3 : ∀ o : Option Mem, gi 3 184 o = o := fun o => gi_zi (a_ := 3) (by decide) (by decide) (by decide)
    simp only [i2, i3, j2, j3, gg2, gg3]
    by_cases c2 : 0 < s 2
    · rw [if_pos c2, if_pos c2]
      exact bad
    · rw [if_neg c2, if_neg c2]
      by_cases c3 : 0 < s 3
      · rw [if_pos c3, if_pos c3]
        exact bad
      · rw [if_neg c3, if_neg c3]
        -- both go on
        have f1 : Fr PSc c (mw c 7 5 1) := Fr_mw _ _ rfl
        have f1m : Fr PSm m (mw m 0 25 1) := Fr_mw _ _ rfl
        have hA1 : CAr (mw c 7 5 1) T L N (n + 1) := CA_fr (CB_A hB) (P := fun k2 _ => k2 == 7) (Fr_mw _ _ rfl) P1_rd
        have hG1 : GMr (mw m 0 25 1) T L n := GM_fr hG (P := fun k j => k == 0 && j == 25) (Fr_mw _ _ rfl) (fun j hj => by simp only [Bool.and_eq_false_iff, beq_eq_false_iff_ne, ne_eq]; omega) (fun j => rfl)
        have hR1 : RDs (mw c 7 5 1) (mw m 0 25 1) T L s nm := by
          obtain ⟨r1, r2, r3, r4, r5⟩ := hR
          refine ⟨RC_fr2 (P := fun k2 _ => k2 == 7) (Fr_mw _ _ rfl) (fun k j h1 h2 => by simp only [beq_eq_false_iff_ne, ne_eq]; omega) r1, fun j => by rw [rd_mw, if_neg (fun h => absurd h.1 (by decide))]; exact r2 j, r3, ⟨true, g2, w, e1, ⟨by rw [rd_mw, if_pos ⟨rfl, rfl⟩]; rfl, by rw [rd_mw, if_pos ⟨rfl, rfl⟩]; rfl⟩, ⟨by rw [rd_mw, if_neg (by decide)]; exact e3.1, by rw [rd_mw, if_neg (by decide)]; exact e3.2⟩, by rw [rd_mw, if_neg (by decide)]; exact e4.1, by rw [rd_mw, if_neg (by decide)]; exact e4.2⟩, fun i hi => ?_, r5.2⟩
          obtain ⟨k1, k2, k3, k4, k5⟩ := r5.1 i hi
          exact ⟨k1, k2, by rw [rd_mw, if_neg (fun h => absurd h.1 (by decide))]; exact k3, by rw [rd_mw, if_neg (fun h => absurd h.1 (by decide))]; exact k4, by rw [rl_mw]; exact k5⟩
        obtain ⟨m2, u1, u2, u3⟩ := p_go fu hfu hG1
        have hR2 := RDs_fr hR1 (Fr_rf P2t _) u3 P2_rd PGe_rd
        have fm2 := Fr_tr f1m (FSm u3)
        unfold K_X12_readsBoard_30
        rw [ltf, ltf, g_isGood fu hG1.2.1, bd_s, if_neg (show ¬ zi 1 = 0 by decide), u1, bd_s]
        unfold K_X12_readsBoard_46
        rcases p_num fu hfu hA1 u2 (by omega) (a := 3) (b := 9) (by decide) with ⟨c5, m3, x, v1, v2, v3, v4, v5, v6, v7, v8⟩ | ⟨c5, m3, x, v1, v5, v6, v7, v8⟩
        · have v1' : K_X9_needNumber fu 3 9 (mw c 7 5 1) = some (zi 1, c5) := v1
          have v5' : K_X12_number fu 3 9 m2 = some (zi x, m3) := v5
          rw [v1', bd_s, if_neg (show ¬ zi 1 = 0 by decide), ltf, v5', bd_s, ltf, v3]
          have hR3 := RDs_fr hR2 v7 v8 P2_rd PGe_rd
          rcases p_num fu hfu (CB_A v2) v6 (by omega) (a := 3) (b := 9) (by decide) with ⟨c6, m4, y, w1, w2, w3, w4, w5, w6, w7, w8⟩ | ⟨c6, m4, y, w1, w5, w6, w7, w8⟩
          · have w1' : K_X9_needNumber fu 3 9 c5 = some (zi 1, c6) := w1
            have w5' : K_X12_number fu 3 9 m3 = some (zi y, m4) := w5
            rw [w1', bd_s, if_neg (show ¬ zi 1 = 0 by decide), w5', bd_s, ltf, g_isGood fu w6.2.1, bd_s, if_neg (show ¬ zi 1 = 0 by decide), w3]
            have hR4 := RDs_fr hR3 w7 w8 P2_rd PGe_rd
            obtain ⟨hI, hE⟩ := s_board hR4.2.2.1 (by omega) (by omega) v4 w4
            obtain ⟨s', hs'⟩ : ∃ s', up1 (up1 s 0 x) 1 y = s' := ⟨_, rfl⟩
            rw [hs'] at hI hE
            have es0 : s' 0 = x := by rw [← hs']; exact (up1_ne (by decide)).trans (up1_eq _ _ _)
            have es1 : s' 1 = y := by rw [← hs']; exact up1_eq _ _ _
            have hs3 : s' 3 = 0 := by rw [hE 3 (by decide)]; omega
            obtain ⟨c7, x1, x2, x3⟩ := c_clear fu 1 hfu (s := s') hI.1.1.1 (fun j hj => hI.2.2.1 hs3 j hj) hs3 c6
            rw [es0, es1] at x1
            have x3' : Fr PSc c6 c7 := Fr_mono x3 (fun k j h => by
              have := PSc_ne h
              unfold PCl pBoard pBuilt pOpen
              simp only [Bool.or_eq_false_iff, beq_eq_false_iff_ne, ne_eq]
              omega)
            rw [x1, bd_s]
            have eb : bd (some (mw (mw m4 2 0 (zi x)) 2 1 (zi y))) (fun m_11 => K_X12_statement_90 fu m_11) = K_X12_statement_90 fu (mw (mw m4 2 0 (zi x)) 2 1 (zi y)) := rfl
            have eM : (gi 0 184 (lt_ (mw m4 2 (Int32.toNatClampNeg 0) (zi x)) (fun m_13 => gi 1 184 (lt_ (mw m_13 2 (Int32.toNatClampNeg 1) (zi y)) (fun m_15 => some m_15)))) : Option Mem) = some (mw (mw m4 2 0 (zi x)) 2 1 (zi y)) := rfl
            rw [eM, eb]
            have hMS : MS (mw (mw m4 2 0 (zi x)) 2 1 (zi y)) s' := by
              rw [← hs']
              exact MS_up (MS_up hR4.2.1 0 x) 1 y
            have fm : Fr PSm m (mw (mw m4 2 0 (zi x)) 2 1 (zi y)) := Fr_tr (Fr_tr (Fr_tr (Fr_tr fm2 (FSm v8)) (FSm w8)) (Fr_mw _ _ rfl)) (Fr_mw _ _ rfl)
            have fc : Fr PSc c c7 := Fr_tr (Fr_tr (Fr_tr f1 (FSc v7)) (FSc w7)) x3'
            have nPC : ∀ k j, k < 57 → PCl 1 k j = false := fun k j h => by
              unfold PCl pBoard pBuilt pOpen
              simp only [Bool.or_eq_false_iff, beq_eq_false_iff_ne, ne_eq]
              omega
            have hA7 : CAr c7 T L N (n + 1 + 1 + 1) := CA_fr (CB_A w2) x3 (fun k j h1 h2 => nPC k j (by omega))
            have hG7 : GMr (mw (mw m4 2 0 (zi x)) 2 1 (zi y)) T L (n + 1 + 1 + 1) := GM_fr w6 (P := fun k _ => k == 2) (Fr_tr (Fr_mw _ _ rfl) (Fr_mw _ _ rfl)) (fun _ _ => rfl) (fun _ => rfl)
            refine p_end fu hfu hA7 hG7 (by omega) (s := s') (nm := nm) ⟨⟨x2, ?_, fun i hi hi2 => ?_, fun i hi hi2 => ?_⟩, hMS, hI, ?_, ?_⟩ fc fm (by omega)
            · obtain ⟨y1, y2, y3, y4, y5⟩ := hR4.1.2.1
              have gR : ∀ j, rd c7 (pRace 1) j = rd c6 (pRace 1) j := fun j => x3.1 _ _ (by unfold PCl pRace pBoard pBuilt pOpen; rfl)
              exact ⟨by rw [gR, y1, hE 2 (by decide)], by rw [gR, y2, hE 6 (by decide)], by rw [gR, y3, hE 4 (by decide)], by rw [gR, y4, hE 7 (by decide)], by rw [gR, y5, hE 5 (by decide)]⟩
            · rw [hE 2 (by decide)] at hi2
              omega
            · rw [hE 6 (by decide)] at hi2
              have hb6 := hI.1.1.2.2.2.2.1 i (by omega) (by rw [hE 6 (by decide)]; exact hi2)
              have := hb6.1
              rw [hE 2 (by decide)] at this
              omega
            · obtain ⟨z1, z2, z3, z4, z5, z6, z7, z8⟩ := hR4.2.2.2.1
              refine ⟨z1, z2, z3, z4, ⟨(x3.1 _ _ (nPC _ _ (by decide))).trans z5.1, z5.2⟩, ⟨(x3.1 _ _ (nPC _ _ (by decide))).trans z6.1, z6.2⟩, (x3.1 _ _ (nPC _ _ (by decide))).trans z7, z8⟩
            · have hu0 : (s' 2).toNat = 0 := by
                rw [hE 2 (by decide)]
                omega
              rw [hu0]
              exact ⟨fun i hi => absurd hi (Nat.not_lt_zero i), fun i j hi => absurd hi (Nat.not_lt_zero i)⟩
          · have w1' : K_X9_needNumber fu 3 9 c5 = some (zi 0, c6) := w1
            have w5' : K_X12_number fu 3 9 m3 = some (y, m4) := w5
            obtain ⟨e, p, hp, hE, hD⟩ := w6
            rw [w1', bd_s, if_pos (show zi 0 = 0 from rfl), w5', bd_s, ltf, b_isGood fu hD, bd_s, if_pos (show zi 0 = 0 from rfl), bd_s, b_st90 fu hD]
            exact ⟨c6, m4, Fr_tr (Fr_tr f1 (FSc v7)) (FSc w7), Fr_tr (Fr_tr fm2 (FSm v8)) (FSm w8), rfl, Or.inr ⟨rfl, e, p, hp, hE, hD⟩⟩
        · have v1' : K_X9_needNumber fu 3 9 (mw c 7 5 1) = some (zi 0, c5) := v1
          have v5' : K_X12_number fu 3 9 m2 = some (x, m3) := v5
          obtain ⟨e, p, hp, hE, hD⟩ := v6
          have v9 : K_X12_number fu 3 9 m3 = some (rd m3 0 7, m3) := b_number fu hD _ _
          rw [v1', bd_s, if_pos (show zi 0 = 0 from rfl), v5', bd_s, ltf, v9, bd_s, ltf, b_isGood fu hD, bd_s, if_pos (show zi 0 = 0 from rfl), bd_s, b_st90 fu hD]
          exact ⟨c5, m3, Fr_tr f1 (FSc v7), Fr_tr fm2 (FSm v8), rfl, Or.inr ⟨rfl, e, p, hp, hE, hD⟩⟩
/-- how many walls a pawn has -/
theorem b_rWalls12 (fu : Nat) {m : Mem} {e p : Int} (h : BDr m e p) : ∃ m2, K_X12_readsWalls_12 fu m = some m2 ∧ BDr m2 e p ∧ Fr PSm m m2 := by
  have h2 : BDr (mw m 0 26 1) e p := ⟨h.1, by rw [rd_mw, if_neg (by decide)]; exact h.2.1, by rw [rd_mw, if_neg (by decide)]; exact h.2.2⟩
  refine ⟨mw (mw m 0 26 1) 0 24 (rd (mw m 0 26 1) 0 7), ?_, ⟨h.1, by rw [rd_mw, if_neg (by decide)]; exact h2.2.1, by rw [rd_mw, if_neg (by decide)]; exact h2.2.2⟩, Fr_tr (Fr_mw _ _ rfl) (Fr_mw _ _ rfl)⟩
  unfold K_X12_readsWalls_12 K_X12_readsWalls_28
  simp only [ltf, b_isGood fu h2, bd_s, b_number fu h2, if_pos (show zi 0 = 0 from rfl)]
theorem p_walls (fu : Nat) (hfu : 1000 ≤ fu) {c m : Mem} {T : Nat → Int} {L N n : Nat} {s : Nat → Int} {nm : Nat → Nat} (hB : CBr c T L N n) (hG : GMr m T L n) (hn : n ≤ 700) (hk : kkP T L (tpo T L n) = 1) (hR : RDs c m T L s nm) : OUTr (K_X7_readWalls fu c) (bd (K_X12_readsWalls fu m) (fun m_11 => K_X12_statement_90 fu m_11)) c m T L N n := by
  obtain ⟨g1, g2, w, e1, e2, e3, e4⟩ := hR.2.2.2.1
  unfold K_X7_readWalls K_X12_readsWalls
  rw [e3.1, e3.2]
  cases g2 with
  | true =>
    rw [if_neg (by decide), if_neg (by decide)]
    obtain ⟨c4, m2, d1, d2, d3, d4, d5⟩ := p_fail fu hB hG (e := 3) ⟨by decide, by decide⟩ (fun x => by omega)
    have d1' : K_X9_fail fu 3 c = some (zi 0, c4) := d1
    have d2' : K_X12_wrong fu 3 m = some m2 := d2
    obtain ⟨e, p, hp, hE, hD⟩ := d3
    obtain ⟨m3, k1, k2, k3⟩ := b_rWalls12 fu hD
    rw [d1', bd_s, d2', bd_s, k1, bd_s, b_st90 fu k2]
    exact ⟨c4, m3, FSc d4, Fr_tr (FSm d5) k3, rfl, Or.inr ⟨gb_zi _ (Or.inl rfl), e, p, hp, hE, k2⟩⟩
  | false =>
    rw [if_pos (show zi (bi false) = 0 from rfl), if_pos (show zi (bi false) = 0 from rfl)]
    have f1 : Fr PSc c (mw c 7 6 1) := Fr_mw _ _ rfl
    have f1m : Fr PSm m (mw m 0 26 1) := Fr_mw _ _ rfl
    have hA1 : CAr (mw c 7 6 1) T L N (n + 1) := CA_fr (CB_A hB) (P := fun k2 _ => k2 == 7) (Fr_mw _ _ rfl) P1_rd
    have hG1 : GMr (mw m 0 26 1) T L n := GM_fr hG (P := fun k j => k == 0 && j == 26) (Fr_mw _ _ rfl) (fun j hj => by simp only [Bool.and_eq_false_iff, beq_eq_false_iff_ne, ne_eq]; omega) (fun j => rfl)
    obtain ⟨m2, u1, u2, u3⟩ := p_go fu hfu hG1
    have fm2 := Fr_tr f1m (FSm u3)
    unfold K_X12_readsWalls_12 K_X12_readsWalls_28
    rw [ltf, ltf, g_isGood fu hG1.2.1, bd_s, if_neg (show ¬ zi 1 = 0 by decide), u1, bd_s]
    rcases p_num fu hfu hA1 u2 (by omega) (a := 0) (b := 20) (by decide) with ⟨c5, m3, x, v1, v2, v3, v4, v5, v6, v7, v8⟩ | ⟨c5, m3, x, v1, v5, v6, v7, v8⟩
    · have v1' : K_X9_needNumber fu 0 20 (mw c 7 6 1) = some (zi 1, c5) := v1
      have v5' : K_X12_number fu 0 20 m2 = some (zi x, m3) := v5
      rw [v1', bd_s, if_neg (show ¬ zi 1 = 0 by decide), ltf, v5', bd_s, ltf, v3, bd_s]
      have fc : Fr PSc c (mw c5 7 7 (zi x)) := Fr_tr (Fr_tr f1 (FSc v7)) (Fr_mw _ _ rfl)
      have fm : Fr PSm m (mw m3 0 24 (zi x)) := Fr_tr (Fr_tr fm2 (FSm v8)) (Fr_mw _ _ rfl)
      have hA2 : CAr (mw c5 7 7 (zi x)) T L N (n + 1 + 1) := CA_fr (CB_A v2) (P := fun k2 _ => k2 == 7) (Fr_mw _ _ rfl) P1_rd
      have hG2 : GMr (mw m3 0 24 (zi x)) T L (n + 1 + 1) := GM_fr v6 (P := fun k j => k == 0 && j == 24) (Fr_mw _ _ rfl) (fun j hj => by simp only [Bool.and_eq_false_iff, beq_eq_false_iff_ne, ne_eq]; omega) (fun j => rfl)
      refine p_end fu hfu hA2 hG2 (by omega) (s := s) (nm := nm) ?_ fc fm (by omega)
      obtain ⟨r1, r2, r3, r4, r5⟩ := hR
      have q1 : Fr (fun k j => (k == 7 && (j == 6 || j == 7)) || P2t k j) c (mw c5 7 7 (zi x)) := Fr_tr (Fr_tr (Fr_mw _ _ rfl) (Fr_mono v7 (fun k j h => (Bool.or_eq_false_iff.mp h).2))) (Fr_mw _ _ rfl)
      have q2 : Fr (fun k j => (k == 0 && (j == 26 || j == 24)) || PGe k j) m (mw m3 0 24 (zi x)) := Fr_tr (Fr_tr (Fr_tr (Fr_mw _ _ rfl) (Fr_mono u3 (fun k j h => (Bool.or_eq_false_iff.mp h).2))) (Fr_mono v8 (fun k j h => (Bool.or_eq_false_iff.mp h).2))) (Fr_mw _ _ rfl)
      refine ⟨RC_fr2 q1 (fun k j h1 h2 => ?_) r1, fun j => (q2.1 _ _ rfl).trans (r2 j), r3, ⟨g1, true, x, v4, ⟨(q1.1 _ _ rfl).trans e2.1, (q2.1 _ _ rfl).trans e2.2⟩, ⟨?_, ?_⟩, by rw [rd_mw, if_pos ⟨rfl, rfl⟩], by rw [rd_mw, if_pos ⟨rfl, rfl⟩]⟩, fun i hi => ?_, r5.2⟩
      · have e7 : (k == 7) = false := by simp only [beq_eq_false_iff_ne, ne_eq]; omega
        have e2' : (k == 2) = false := by simp only [beq_eq_false_iff_ne, ne_eq]; omega
        unfold P2t
        rw [e7, e2']
        rfl
      · rw [rd_mw, if_neg (by decide), v7.1 _ _ rfl, rd_mw, if_pos ⟨rfl, rfl⟩]
        rfl
      · rw [rd_mw, if_neg (by decide), v8.1 _ _ rfl, u3.1 _ _ rfl, rd_mw, if_pos ⟨rfl, rfl⟩]
        rfl
      · obtain ⟨k1, k2, k3, k4, k5⟩ := r5.1 i hi
        exact ⟨k1, k2, (q1.1 _ _ rfl).trans k3, (q1.1 _ _ rfl).trans k4, (q2.2 _ _ rfl).trans k5⟩
    · have v1' : K_X9_needNumber fu 0 20 (mw c 7 6 1) = some (zi 0, c5) := v1
      have v5' : K_X12_number fu 0 20 m2 = some (x, m3) := v5
      obtain ⟨e, p, hp, hE, hD⟩ := v6
      have hD2 : BDr (mw m3 0 24 x) e p := ⟨hD.1, by rw [rd_mw, if_neg (by decide)]; exact hD.2.1, by rw [rd_mw, if_neg (by decide)]; exact hD.2.2⟩
      rw [v1', bd_s, if_pos (show zi 0 = 0 from rfl), v5', bd_s, ltf, bd_s, b_st90 fu hD2]
      exact ⟨c5, _, Fr_tr f1 (FSc v7), Fr_tr (Fr_tr fm2 (FSm v8)) (Fr_mw _ _ rfl), rfl, Or.inr ⟨rfl, e, p, hp, hE, hD2⟩⟩
end RSTM
