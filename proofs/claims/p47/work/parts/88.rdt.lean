section RDTM
/-- a statement -/
theorem p_stat (fu : Nat) (hfu : 1000 ≤ fu) {c m : Mem} {T : Nat → Int} {L N n : Nat} {s : Nat → Int} {nm : Nat → Nat} (hB : CBr c T L N n) (hG : GMr m T L n) (hn : n ≤ 700) (hR : RDs c m T L s nm) : OUTr (K_X7_readStatement fu c) (K_X12_statement fu m) c m T L N n := by
  obtain ⟨⟨w0, w1, w2, w3, w4, w5, w6, w7⟩, w8, w9, w10, w11, w12, w13, w14, w15, w16⟩ := Wt_all
  have c0 := c_isWord fu hfu hB.1 hB.2.1 (t := 0) (by decide) w0
  have c1 := c_isWord fu hfu hB.1 hB.2.1 (t := 1) (by decide) w1
  have c2 := c_isWord fu hfu hB.1 hB.2.1 (t := 2) (by decide) w2
  have c7 := c_isWord fu hfu hB.1 hB.2.1 (t := 7) (by decide) w7
  have c14 := c_isWord fu hfu hB.1 hB.2.1 (t := 14) (by decide) w14
  have m0 : K_X12_isWord fu 2590276 m = _ := m_isWord fu hG (W := 2590276) (by decide)
  have m1 : K_X12_isWord fu 24162707 m = _ := m_isWord fu hG (W := 24162707) (by decide)
  have m2 : K_X12_isWord fu 526062 m = _ := m_isWord fu hG (W := 526062) (by decide)
  have m7 : K_X12_isWord fu 2094 m = _ := m_isWord fu hG (W := 2094) (by decide)
  have m14 : K_X12_isWord fu 2505835 m = _ := m_isWord fu hG (W := 2505835) (by decide)
  unfold K_X7_readStatement K_X12_statement
  rw [c0, bd_s, m0, bd_s]
  by_cases q0 : wB T L (tpo T L n) 2590276 = true
  · rw [q0, if_neg (show ¬ zi (bi true) = 0 by decide), if_neg (show ¬ zi (bi true) = 0 by decide)]
    exact OUT_gb (p_board fu hfu hB hG hn (wB_k q0) hR)
  · rw [bo_f q0, if_pos (show zi (bi false) = 0 from rfl), if_pos (show zi (bi false) = 0 from rfl), c1, bd_s, m1, bd_s]
    by_cases q1 : wB T L (tpo T L n) 24162707 = true
    · rw [q1, if_neg (show ¬ zi (bi true) = 0 by decide), if_neg (show ¬ zi (bi true) = 0 by decide)]
      exact OUT_gb (p_walls fu hfu hB hG hn (wB_k q1) hR)
    · rw [bo_f q1, if_pos (show zi (bi false) = 0 from rfl), if_pos (show zi (bi false) = 0 from rfl), c2, bd_s, m2, bd_s]
      by_cases q2 : wB T L (tpo T L n) 526062 = true
      · rw [q2, if_neg (show ¬ zi (bi true) = 0 by decide), if_neg (show ¬ zi (bi true) = 0 by decide)]
        exact OUT_gb (p_pawn fu hfu hB hG hn (wB_k q2) hR)
      · rw [bo_f q2, if_pos (show zi (bi false) = 0 from rfl), if_pos (show zi (bi false) = 0 from rfl), c7, bd_s, m7, bd_s]
        by_cases q7 : wB T L (tpo T L n) 2094 = true
        · rw [q7, if_neg (show ¬ zi (bi true) = 0 by decide), if_neg (show ¬ zi (bi true) = 0 by decide)]
          exact OUT_gb (p_ban fu hfu hB hG hn (wB_k q7) hR)
        · rw [bo_f q7, if_pos (show zi (bi false) = 0 from rfl), if_pos (show zi (bi false) = 0 from rfl), c14, bd_s, m14, bd_s]
          by_cases q14 : wB T L (tpo T L n) 2505835 = true
          · rw [q14, if_neg (show ¬ zi (bi true) = 0 by decide), if_neg (show ¬ zi (bi true) = 0 by decide)]
            exact OUT_gb (p_block fu hfu hB hG hn (wB_k q14) hR)
          · rw [bo_f q14, if_pos (show zi (bi false) = 0 from rfl), if_pos (show zi (bi false) = 0 from rfl)]
            obtain ⟨c4, m4, f1, f2, f3, f4, f5⟩ := p_fail fu hB hG (e := 1) ⟨by decide, by decide⟩ (fun _ => rfl)
            have f1' : K_X9_fail fu 1 c = some (zi 0, c4) := f1
            have f2' : K_X12_wrong fu 1 m = some m4 := f2
            obtain ⟨e, p, hp, hE, hD⟩ := f3
            rw [f1', bd_s, f2', bd_s]
            exact ⟨c4, m4, FSc f4, FSm f5, b_st90 fu hD, Or.inr ⟨gb_zi _ (Or.inl rfl), e, p, hp, hE, hD⟩⟩
/-- where both come to the end of the text -/
def ENDr (c m : Mem) : Prop := ECc c 0 (-1) ∧ rd m 0 8 = zi 0 ∧ rd m 0 9 = zi (-1)
theorem p_loop (fu : Nat) (hfu : 1000 ≤ fu) {T : Nat → Int} {L N : Nat} : ∀ (r f g x1 n : Nat) (c m : Mem) (s : Nat → Int) (nm : Nat → Nat), n ≤ 700 → 701 ≤ n + r → r + 1 < f → r + 1 < g → x1 ≤ n → CAr c T L N n → GMr m T L n → RDs c m T L s nm → ∃ c2 m2, K_X12_readText_27 fu g m = K_X12_readText_48 fu m2 ∧ Fr PSc c c2 ∧ Fr PSm m m2 ∧ ((K_X7_readRace_31 fu f (zi (x1 : Int)) c = some (zi 1, c2) ∧ ENDr c2 m2 ∧ ∃ s' nm', RDs c2 m2 T L s' nm') ∨ (K_X7_readRace_31 fu f (zi (x1 : Int)) c = some (zi 0, c2) ∧ EBr c2 m2)) := by
  intro r
  induction r with
  | zero =>
    intro f g x1 n c m s nm h700 hn hf hg hx hA hG hR
    exact absurd hn (by omega)
  | succ r ih =>
    intro f g x1 n c m s nm h700 hn hf hg hx hA hG hR
    obtain ⟨f, rfl⟩ : ∃ k, f = k + 1 := ⟨f - 1, by omega⟩
    obtain ⟨g, rfl⟩ : ∃ k, g = k + 1 := ⟨g - 1, by omega⟩
    obtain ⟨c1, a1, hB, a3⟩ := p_adv fu hA (by omega)
    have hR1 := RDs_fr hR a3 (Fr_rf PGe m) P2_rd PGe_rd
    have hkk := kk_n T L n
    have i7 : ¬ ((700 : Int32) < zi (x1 : Int)) := by
      have : (zi 700 < zi (x1 : Int)) = ((700 : Int) < (x1 : Int)) := zi_lt (by decide) (by decide) (by omega) (by omega)
      exact fun h => absurd (this.mp h) (by omega)
    have h7 : (zi (kkP T L (tpo T L n) : Int) = (5 : Int32)) = ((kkP T L (tpo T L n) : Int) = 5) := zi_inj (b_ := 5) (by omega) (by omega) (by decide) (by decide)
    rw [K_X7_readRace_31, if_neg i7, a1, bd_s, hB.2.1.2.1, K_X12_readText_27, g_isGood fu hG.2.1, bd_s, if_neg z10, hG.1.2.2.2.1]
    by_cases q : kkP T L (tpo T L n) = 5
    · rw [if_pos (h7.mpr (by omega)), if_pos q, if_pos (show zi 0 = 0 from rfl)]
      exact ⟨c1, m, rfl, FSc a3, Fr_rf _ _, Or.inl ⟨rfl, ⟨hB.2.2, hG.2⟩, s, nm, hR1⟩⟩
    · rw [if_neg (show ¬ (zi (kkP T L (tpo T L n) : Int) = (5 : Int32)) from fun h => q (by have := h7.mp h; omega)), if_neg q]
      have hne : ¬ (zi (kkP T L (tpo T L n) : Int) = 0) := by
        have : (zi (kkP T L (tpo T L n) : Int) = (0 : Int32)) = ((kkP T L (tpo T L n) : Int) = 0) := zi_inj (b_ := 0) (by omega) (by omega) (by decide) (by decide)
        exact fun h => absurd (this.mp h) (by omega)
      rw [if_neg hne]
      obtain ⟨c2, m2, b1, b2, b3, b4⟩ := p_stat fu hfu hB hG (by omega) hR1
      rw [b3, bd_s]
      rcases b4 with ⟨d1, n', s', nm', d2, d3, d4, d5, d6⟩ | ⟨d1, d2⟩
      · rw [d1, bd_s, if_neg z10]
        have e1 : zi (x1 : Int) + 1 = zi ((x1 + 1 : Nat) : Int) := zi_add (x1 : Int) 1
        rw [e1]
        obtain ⟨c3, m3, g1, g2, g3, g4⟩ := ih f g (x1 + 1) n' c2 m2 s' nm' d3 (by omega) (by omega) (by omega) (by omega) d4 d5 d6
        exact ⟨c3, m3, g1, Fr_tr (Fr_tr (FSc a3) b1) g2, Fr_tr b2 g3, g4⟩
      · rw [d1, bd_s, if_pos z00]
        obtain ⟨e, p, hp, hE, hD⟩ := d2
        obtain ⟨g, rfl⟩ : ∃ k, g = k + 1 := ⟨g - 1, by omega⟩
        rw [K_X12_readText_27, b_isGood fu hD, bd_s, if_pos z00]
        exact ⟨c2, m2, rfl, Fr_tr (FSc a3) b1, b2, Or.inr ⟨rfl, e, p, hp, hE, hD⟩⟩
def PXc (k j : Nat) : Bool := PSc k j || PTk k j
def PXm (k j : Nat) : Bool := PSm k j || ((k == 1 || k == 5) || (k == 0 && (decide (j ≤ 3) || (j == 10 || (j == 11 || j == 18)))))
theorem gi2i (o : Option (Int32 × Mem)) : gi 2 184 o = o := gi_zi (a_ := 2) (by decide) (by decide) (by decide)
theorem PXc_1 {k j : Nat} (h : PXc k j = false) : PSc k j = false := (Bool.or_eq_false_iff.mp h).1
theorem PXc_2 {k j : Nat} (h : PXc k j = false) : PTk k j = false := (Bool.or_eq_false_iff.mp h).2
theorem PXm_1 {k j : Nat} (h : PXm k j = false) : PSm k j = false := (Bool.or_eq_false_iff.mp h).1
/-- the class's draft, and what it is read into -/
theorem p_readC (fu : Nat) (hfu : 1000 ≤ fu) {c : Mem} {T : Nat → Int} {L : Nat} (hX : TXc c T L) : ∃ c2 N, K_X7_readRace fu c = K_X7_readRace_31 fu fu 0 c2 ∧ CAr c2 T L N 0 ∧ RC c2 1 s00 ∧ (rd c2 7 5 = zi 0 ∧ rd c2 7 6 = zi 0 ∧ rd c2 7 7 = zi 5) ∧ Fr PXc c c2 := by
  obtain ⟨c1, a1, a2, a3⟩ := c_clear6 fu 1 hfu c
  obtain ⟨c2, hc2⟩ : ∃ c2, c2 = mw (mw (mw c1 7 5 0) 7 6 0) 7 7 5 := ⟨_, rfl⟩
  have f2 : Fr (fun k j => k == 7 && (decide (5 ≤ j) && decide (j ≤ 7))) c1 c2 := by
    rw [hc2]
    exact Fr_tr (Fr_tr (Fr_mw _ _ rfl) (Fr_mw _ _ rfl)) (Fr_mw _ _ rfl)
  have n7 : ∀ k j, k ≠ 7 → (fun k j => k == 7 && (decide (5 ≤ j) && decide (j ≤ 7)) : Nat → Nat → Bool) k j = false := fun k j h => by
    have e7 : (k == 7) = false := by simp [h]
    simp only [e7]
    rfl
  have hX2 : TXc c2 T L := by
    obtain ⟨x1, x2, x3, x4⟩ := hX
    have g : ∀ k j, k < 7 → rd c2 k j = rd c k j := fun k j h => (f2.1 _ _ (n7 k j (by omega))).trans (a3.1 _ _ (ZR_lo (by omega)))
    exact ⟨x1, x2, (g _ _ (by decide)).trans x3, fun i hi => (g _ _ (by decide)).trans (x4 i hi)⟩
  obtain ⟨c3, N, b1, b2, b3, b4, b5, b6, b7⟩ := c_beginT fu hfu hX2
  have nT : ∀ k j, 7 ≤ k → PTk k j = false := fun k j h => by
    unfold PTk
    simp only [Bool.or_eq_false_iff, beq_eq_false_iff_ne, ne_eq]
    omega
  refine ⟨c3, N, ?_, ⟨⟨b2, b3⟩, ?_, b5, b6⟩, RC_fr2 b7 (fun k j h1 h2 => nT k j (by omega)) (RC_fr2 f2 (fun k j h1 h2 => n7 k j (by omega)) a2), ⟨?_, ?_, ?_⟩, ?_⟩
  · unfold K_X7_readRace
    rw [a1, bd_s, ltf, ltf, ltf, ← hc2, b1, bd_s]
  · unfold PcA
    rw [b4, if_pos (Nat.zero_le _)]
    rfl
  · rw [b7.1 _ _ (nT _ _ (by decide)), hc2, rd_mw, if_neg (by decide), rd_mw, if_neg (by decide), rd_mw, if_pos ⟨rfl, rfl⟩]
    rfl
  · rw [b7.1 _ _ (nT _ _ (by decide)), hc2, rd_mw, if_neg (by decide), rd_mw, if_pos ⟨rfl, rfl⟩]
    rfl
  · rw [b7.1 _ _ (nT _ _ (by decide)), hc2, rd_mw, if_pos ⟨rfl, rfl⟩]
    rfl
  · refine Fr_tr (Fr_tr (Fr_mono a3 (fun k j h => ?_)) (Fr_mono f2 (fun k j h => ?_))) (Fr_mono b7 (fun k j h => PXc_2 h))
    · have := PSc_ne (PXc_1 h)
      unfold ZR
      simp only [Bool.and_eq_false_iff, decide_eq_false_iff_not]
      omega
    · have := PSc_ne (PXc_1 h)
      exact n7 k j (by omega)
/-- the text that is to be read, in the reference -/
def TXr (m : Mem) (T : Nat → Int) (L : Nat) : Prop := (∀ i, 0 ≤ T i ∧ T i ≤ 255) ∧ L ≤ 700 ∧ rd m 0 2 = zi (L : Int) ∧ ∀ i, i < L → rd m 1 i = zi (T i)
theorem m_beginsText (fu : Nat) (hfu : 1000 ≤ fu) {m : Mem} {T : Nat → Int} {L : Nat} (h : TXr m T L) : ∃ m2, K_X12_beginsText fu m = some m2 ∧ GMr m2 T L 0 ∧ rd m2 0 2 = zi 0 ∧ Fr (fun k j => PGe k j || (k == 0 && (j == 2 || j == 3))) m m2 := by
  obtain ⟨x1, x2, x3, x4⟩ := h
  obtain ⟨m1, hm1⟩ : ∃ m1, m1 = mw (mw (mw (mw (mw m 0 3 (zi (L : Int))) 0 2 0) 0 4 0) 0 8 0) 0 9 (zi (-1)) := ⟨_, rfl⟩
  have f1 : Fr (fun k j => PGe k j || (k == 0 && (j == 2 || j == 3))) m m1 := by
    rw [hm1]
    exact Fr_tr (Fr_tr (Fr_tr (Fr_tr (Fr_mw _ _ rfl) (Fr_mw _ _ rfl)) (Fr_mw _ _ rfl)) (Fr_mw _ _ rfl)) (Fr_mw _ _ rfl)
  have hT : TXm m1 T L := ⟨x1, x2, by rw [hm1, rd_mw, if_neg (by decide), rd_mw, if_neg (by decide), rd_mw, if_neg (by decide), rd_mw, if_neg (by decide), rd_mw, if_pos ⟨rfl, rfl⟩], fun i hi => (f1.1 _ _ rfl).trans (x4 i hi)⟩
  obtain ⟨m2, a1, a2, a3⟩ := m_goOn0 fu hfu hT (by rw [hm1, rd_mw, if_neg (by decide), rd_mw, if_neg (by decide), rd_mw, if_pos ⟨rfl, rfl⟩]; rfl)
  refine ⟨m2, ?_, ⟨a2, (a3.1 _ _ rfl).trans (by rw [hm1, rd_mw, if_neg (by decide), rd_mw, if_pos ⟨rfl, rfl⟩]; rfl), (a3.1 _ _ rfl).trans (by rw [hm1, rd_mw, if_pos ⟨rfl, rfl⟩])⟩, (a3.1 _ _ rfl).trans (by rw [hm1, rd_mw, if_neg (by decide), rd_mw, if_neg (by decide), rd_mw, if_neg (by decide), rd_mw, if_pos ⟨rfl, rfl⟩]; rfl), Fr_tr f1 (Fr_mono a3 (fun k j h => PGo_PGe (Bool.or_eq_false_iff.mp h).1))⟩
  unfold K_X12_beginsText
  simp only [ltf, x3]
  have e1 : mw (mw (mw (mw (mw m 0 3 (zi (L : Int))) 0 2 0) 0 4 0) 0 8 0) 0 9 (-1) = m1 := hm1.symm
  rw [e1, a1, bd_s]
/-- the reference tells how the text ended -/
theorem m_endsText (fu : Nat) {m : Mem} {e p : Int} (h8 : rd m 0 8 = zi e) (h9 : rd m 0 9 = zi p) (he : 0 ≤ e ∧ e ≤ 6) : ∃ m2, K_X12_endsText fu m = some (zi (bi (decide (e = 0))), m2) ∧ rd m2 0 10 = zi e ∧ rd m2 0 11 = zi p ∧ rd m2 0 0 = zi (bi (!decide (e = 0))) ∧ Fr (fun k j => k == 0 && (j == 0 || (j == 10 || j == 11))) m m2 := by
  obtain ⟨m1, hm1⟩ : ∃ m1, m1 = mw (mw m 0 10 (zi e)) 0 11 (zi p) := ⟨_, rfl⟩
  have r8 : rd m1 0 8 = zi e := by
    rw [hm1, rd_mw, if_neg (by decide), rd_mw, if_neg (by decide)]
    exact h8
  have r9 : rd (mw m 0 10 (zi e)) 0 9 = zi p := by
    rw [rd_mw, if_neg (by decide)]
    exact h9
  have f1 : Fr (fun k j => k == 0 && (j == 0 || (j == 10 || j == 11))) m m1 := by
    rw [hm1]
    exact Fr_tr (Fr_mw _ _ rfl) (Fr_mw _ _ rfl)
  have r10 : rd m1 0 10 = zi e := by rw [hm1, rd_mw, if_neg (by decide), rd_mw, if_pos ⟨rfl, rfl⟩]
  have r11 : rd m1 0 11 = zi p := by rw [hm1, rd_mw, if_pos ⟨rfl, rfl⟩]
  have ie : (zi e = (0 : Int32)) = (e = 0) := zi_inj (b_ := 0) (by omega) (by omega) (by decide) (by decide)
  unfold K_X12_endsText K_X12_endsText_29 K_X12_goes K_X12_goes_10
  rw [h8, ltf, r9, ltf, ← hm1, r8]
  by_cases q : e = 0
  · rw [if_pos (ie.mpr q), if_neg (show ¬ (1 : Int32) = 0 by decide)]
    refine ⟨mw m1 0 0 (zi 0), ?_, ?_, ?_, ?_, Fr_tr f1 (Fr_mw _ _ rfl)⟩
    · rw [show K_X12_truth fu 0 m1 = some (zi 0) from rfl, bd_s, ltf, decide_eq_true q]
      rfl
    · rw [rd_mw, if_neg (by decide)]
      exact r10
    · rw [rd_mw, if_neg (by decide)]
      exact r11
    · rw [rd_mw, if_pos ⟨rfl, rfl⟩, decide_eq_true q]
      rfl
  · rw [if_neg (fun h => q (ie.mp h)), if_pos (show (0 : Int32) = 0 from rfl)]
    refine ⟨mw m1 0 0 (zi 1), ?_, ?_, ?_, ?_, Fr_tr f1 (Fr_mw _ _ rfl)⟩
    · rw [show K_X12_truth fu 1 m1 = some (zi 1) from rfl, bd_s, ltf, decide_eq_false q]
      rfl
    · rw [rd_mw, if_neg (by decide)]
      exact r10
    · rw [rd_mw, if_neg (by decide)]
      exact r11
    · rw [rd_mw, if_pos ⟨rfl, rfl⟩, decide_eq_false q]
      rfl
/-- a text is read, in both -/
theorem p_read (fu : Nat) (hfu : 1000 ≤ fu) {c m : Mem} {T : Nat → Int} {L : Nat} {so : Nat → Int} (hX : TXc c T L) (hM : TXr m T L) (hS : MS m so) (h0 : hi0 so) : ∃ c2 m2, Fr PXc c c2 ∧ Fr PXm m m2 ∧ rd m2 0 2 = zi 0 ∧ ((K_X7_readRace fu c = some (zi 1, c2) ∧ ∃ s, K_X12_readText fu m = some (zi (s 2), m2) ∧ RC c2 1 s ∧ InvR s ∧ MS m2 s ∧ ECc c2 0 (-1) ∧ rd m2 0 10 = zi 0 ∧ rd m2 0 11 = zi (-1) ∧ rd m2 0 0 = zi 0 ∧ rd m2 0 18 = zi 0) ∨ (K_X7_readRace fu c = some (zi 0, c2) ∧ K_X12_readText fu m = some (zi 0, m2) ∧ rd m2 0 0 = zi 1 ∧ MS m2 so ∧ rd m2 0 18 = rd m 0 18 ∧ ∃ e : Int, ∃ p : Nat, (1 ≤ e ∧ e ≤ 6) ∧ p ≤ 700 ∧ ECc c2 e p ∧ rd m2 0 10 = zi e ∧ rd m2 0 11 = zi (p : Int))) := by
  obtain ⟨c1, N, a1, a2, a3, ⟨a4, a5, a6⟩, a7⟩ := p_readC fu hfu hX
  obtain ⟨m1, b1, b2, b3, b4⟩ := m_beginsText fu hfu hM
  obtain ⟨m2, d1, d2, d3⟩ := m_la2 fu 184 fu 0 m1 (by omega) (by omega) (fun j hj => absurd hj (Nat.not_lt_zero j))
  have d1' : K_X12_laysAside fu m1 = some m2 := d1
  have hS1 : MS m1 so := fun j => (b4.1 _ _ rfl).trans (hS j)
  have h184 : ∀ mm : Mem, (∀ j, rd mm 2 j = rd m1 2 j) → ∀ j, 184 ≤ j → rd mm 2 j = zi 0 := fun mm h j hj => (h j).trans ((hS1 j).trans (congrArg zi (h0 j hj)))
  obtain ⟨m3, e1, e2, e3⟩ := m_clears fu hfu (m := m2) (h184 m2 (fun j => d3.1 _ _ rfl))
  obtain ⟨m4, hm4⟩ : ∃ m4, m4 = mw (mw (mw m3 0 24 5) 0 25 0) 0 26 0 := ⟨_, rfl⟩
  have f4 : Fr (fun k j => k == 0 && (decide (24 ≤ j) && decide (j ≤ 26))) m3 m4 := by
    rw [hm4]
    exact Fr_tr (Fr_tr (Fr_mw _ _ rfl) (Fr_mw _ _ rfl)) (Fr_mw _ _ rfl)
  have f4n : ∀ k j, k ≠ 0 ∨ j < 24 → (fun k j => k == 0 && (decide (24 ≤ j) && decide (j ≤ 26)) : Nat → Nat → Bool) k j = false := fun k j h => by
    simp only [Bool.and_eq_false_iff, beq_eq_false_iff_ne, ne_eq, decide_eq_false_iff_not]
    omega
  have p5 : ∀ j, PR1 5 0 j = false := fun j => rfl
  have p2 : ∀ j, PR1 2 0 j = false := fun j => rfl
  have hG4 : GMr m4 T L 0 := GM_fr (GM_fr (GM_fr b2 d3 (fun j _ => p5 j) (fun _ => rfl)) e3 (fun j _ => p2 j) (fun _ => rfl)) f4 (fun j hj => f4n 0 j (Or.inr (by omega))) (fun j => f4n 1 j (Or.inl (by decide)))
  have hR : RDs c1 m4 T L s00 (fun _ => 0) := by
    refine ⟨a3, fun j => (f4.1 _ _ (f4n 2 j (Or.inl (by decide)))).trans (e2 j), ⟨s00_inv, ⟨rfl, rfl, rfl⟩, fun _ j hj => if_neg (by omega), by decide⟩, ⟨false, false, 5, by decide, ⟨a4, ?_⟩, ⟨a5, ?_⟩, a6, ?_⟩, fun i hi => absurd hi (Nat.not_lt_zero i), fun i j hi => absurd hi (Nat.not_lt_zero i)⟩
    · rw [hm4, rd_mw, if_neg (by decide), rd_mw, if_pos ⟨rfl, rfl⟩]
      rfl
    · rw [hm4, rd_mw, if_pos ⟨rfl, rfl⟩]
      rfl
    · rw [hm4, rd_mw, if_neg (by decide), rd_mw, if_neg (by decide), rd_mw, if_pos ⟨rfl, rfl⟩]
      rfl
  have r5 : ∀ j, j < 184 → rd m4 5 j = zi (so j) := fun j hj => ((f4.1 _ _ (f4n 5 j (Or.inl (by decide)))).trans (e3.1 _ _ rfl)).trans ((d2 j hj).trans (hS1 j))
  have fm4 : Fr PXm m m4 := by
    refine Fr_tr (Fr_tr (Fr_tr (Fr_mono b4 (fun k j h => ?_)) (Fr_mono d3 (fun k j h => ?_))) (Fr_mono e3 (fun k j h => ?_))) (Fr_mono f4 (fun k j h => ?_))
    · have h1 := PGe_Sm (PXm_1 h)
      have h2 := (Bool.or_eq_false_iff.mp h).2
      rw [h1, Bool.false_or]
      simp only [Bool.or_eq_false_iff, Bool.and_eq_false_iff, beq_eq_false_iff_ne, ne_eq, decide_eq_false_iff_not] at h2 ⊢
      omega
    · have h2 := (Bool.or_eq_false_iff.mp h).2
      unfold PR1
      simp only [Bool.or_eq_false_iff, Bool.and_eq_false_iff, beq_eq_false_iff_ne, ne_eq, decide_eq_false_iff_not] at h2 ⊢
      omega
    · have h2 := PSm_ne (PXm_1 h)
      unfold PR1
      simp only [Bool.and_eq_false_iff, beq_eq_false_iff_ne, ne_eq, decide_eq_false_iff_not]
      omega
    · have h2 := PSm_ne (PXm_1 h)
      simp only [Bool.and_eq_false_iff, beq_eq_false_iff_ne, ne_eq, decide_eq_false_iff_not]
      omega
  have hm0 : ∀ mm, Fr PSm m4 mm → rd mm 0 2 = zi 0 ∧ rd mm 0 18 = rd m 0 18 ∧ ∀ j, j < 184 → rd mm 5 j = zi (so j) := fun mm f => by
    refine ⟨(f.1 _ _ rfl).trans (((f4.1 _ _ (f4n 0 2 (Or.inr (by decide)))).trans (e3.1 _ _ rfl)).trans ((d3.1 _ _ rfl).trans b3)), (f.1 _ _ rfl).trans (((f4.1 _ _ (f4n 0 18 (Or.inr (by decide)))).trans (e3.1 _ _ rfl)).trans ((d3.1 _ _ rfl).trans (b4.1 _ _ rfl))), fun j hj => (f.1 _ _ rfl).trans (r5 j hj)⟩
  obtain ⟨c2, m5, g1, g2, g3, g4⟩ := p_loop fu hfu (T := T) (L := L) (N := N) 701 fu fu 0 0 c1 m4 s00 (fun _ => 0) (by decide) (by decide) (by omega) (by omega) (Nat.le_refl 0) a2 hG4 hR
  obtain ⟨t1, t2, t3⟩ := hm0 m5 g3
  have hread : K_X12_readText fu m = K_X12_readText_48 fu m5 := by
    unfold K_X12_readText
    rw [b1, bd_s, d1', bd_s, e1, bd_s, ltf, ltf, ltf, ← hm4]
    exact g1
  have fend : ∀ mm mm2, Fr (fun k j => k == 0 && (j == 0 || (j == 10 || j == 11)) : Nat → Nat → Bool) mm mm2 → Fr PXm mm mm2 := fun mm mm2 f => Fr_mono f (fun k j h => by
    have h2 := (Bool.or_eq_false_iff.mp h).2
    simp only [Bool.or_eq_false_iff, Bool.and_eq_false_iff, beq_eq_false_iff_ne, ne_eq, decide_eq_false_iff_not] at h2 ⊢
    omega)
  have fm5 : Fr PXm m m5 := Fr_tr fm4 (Fr_mono g3 (fun k j h => PXm_1 h))
  have fc2 : Fr PXc c c2 := Fr_tr a7 (Fr_mono g2 (fun k j h => PXc_1 h))
  have g1' : K_X7_readRace fu c = K_X7_readRace_31 fu fu (zi ((0 : Nat) : Int)) c1 := a1
  rcases g4 with ⟨k1, ⟨k2, k3, k4⟩, s, nm, k5⟩ | ⟨k1, e, p, hp, hE, hD⟩
  · obtain ⟨m6, l1, l2, l3, l4, l5⟩ := m_endsText fu k3 k4 ⟨by decide, by decide⟩
    have hz : (zi (bi (decide ((0 : Int) = 0)))) = zi 1 := rfl
    rw [hz] at l1
    refine ⟨c2, mw m6 0 18 0, fc2, Fr_tr (Fr_tr fm5 (fend _ _ l5)) (Fr_mw _ _ rfl), ?_, Or.inl ⟨g1'.trans k1, s, ?_, k5.1, k5.2.2.1, fun j => ?_, k2, ?_, ?_, ?_, ?_⟩⟩
    · rw [rd_mw, if_neg (by decide), l5.1 _ _ rfl]
      exact t1
    · rw [hread]
      unfold K_X12_readText_48
      rw [l1, bd_s, if_neg z10, ltf, gi2i]
      have e22 : rd (mw m6 0 18 0) 2 (Int32.toNatClampNeg 2) = zi (s 2) := by
        have : rd (mw m6 0 18 0) 2 2 = zi (s 2) := by
          rw [rd_mw, if_neg (by decide), l5.1 _ _ rfl]
          exact k5.2.1 2
        exact this
      rw [e22]
    · rw [rd_mw, if_neg (fun h => absurd h.1 (by decide)), l5.1 _ _ rfl]
      exact k5.2.1 j
    · rw [rd_mw, if_neg (by decide)]
      exact l2
    · rw [rd_mw, if_neg (by decide)]
      exact l3
    · rw [rd_mw, if_neg (by decide)]
      exact l4
    · rw [rd_mw, if_pos ⟨rfl, rfl⟩]
      rfl
  · obtain ⟨m6, l1, l2, l3, l4, l5⟩ := m_endsText fu hD.2.1 hD.2.2 ⟨by have := hD.1; omega, by have := hD.1; omega⟩
    have he0 : ¬ e = 0 := by
      have := hD.1
      omega
    rw [decide_eq_false he0] at l1 l4
    obtain ⟨m7, n1, n2, n3⟩ := m_cb2 fu 184 fu 0 m6 (by omega) (by omega) (fun j hj => absurd hj (Nat.not_lt_zero j))
    have n1' : K_X12_comesBack fu m6 = some m7 := n1
    have fcb : Fr PXm m6 m7 := Fr_mono n3 (fun k j h => by
      have h2 := PSm_ne (PXm_1 h)
      unfold PR1
      simp only [Bool.and_eq_false_iff, beq_eq_false_iff_ne, ne_eq, decide_eq_false_iff_not]
      omega)
    refine ⟨c2, m7, fc2, Fr_tr (Fr_tr fm5 (fend _ _ l5)) fcb, ?_, Or.inr ⟨g1'.trans k1, ?_, ?_, ?_, ?_, e, p, hD.1, hp, hE, ?_, ?_⟩⟩
    · rw [n3.1 _ _ rfl, l5.1 _ _ rfl]
      exact t1
    · rw [hread]
      unfold K_X12_readText_48
      rw [l1, bd_s, if_pos (show zi (bi false) = 0 from rfl), n1', bd_s]
      rfl
    · rw [n3.1 _ _ rfl, l4]
      rfl
    · refine MS_row (fun j hj => ?_) (fun j hj => ?_) h0
      · rw [n2 j hj, l5.1 _ _ rfl]
        exact t3 j hj
      · rw [n3.1 2 j (by unfold PR1; rw [decide_eq_false (by omega)]; rfl), l5.1 _ _ rfl]
        rw [fm5.1 2 j (by unfold PXm PSm; rw [decide_eq_false (show ¬ j < 184 by omega)]; rfl)]
        exact (hS j).trans (congrArg zi (h0 j hj))
    · rw [n3.1 _ _ rfl, l5.1 _ _ rfl]
      exact t2
    · rw [n3.1 _ _ rfl]
      exact l2
    · rw [n3.1 _ _ rfl]
      exact l3
end RDTM
