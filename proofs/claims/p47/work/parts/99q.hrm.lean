section HRMM
theorem hrm_w (fu : Nat) (hfu : 40000 ≤ fu) (x1 x2 x3 x4 : Int32) (w : Int) (h4 : (x4 = 0 ∧ w = 0) ∨ (x4 = 1 ∧ w = 1)) {mem : Mem} (h : JJ mem (mMp mem)) : ∃ mem2, rowA fu (K_L_harm fu x1 x2 x3 x4 mem) (K_X12_harm fu x1 x2 x3 x4) mem = some mem2 ∧ JJ mem2 (mMp mem2) := by
  refine askH fu h (fun s hI hR hS hB => ?_)
  obtain ⟨v, hv1, hv2, ev⟩ := zi_ex x1
  obtain ⟨x, hx1, hx2, ex⟩ := zi_ex x2
  obtain ⟨y, hy1, hy2, ey⟩ := zi_ex x3
  obtain ⟨iz, ic, iW, ip, ib, iwp, ids, irk, iwy⟩ := hI.1
  have c2 := ic.1
  have hc := c_chkP fu hR c2 hv1 hv2
  have hm := m_isPawn fu hS c2 hv1 hv2
  have hcL := c_chkL fu hR.1 iz hx1 hx2 hy1 hy2
  have hmL := k_isPlace fu hS iz hx1 hx2 hy1 hy2
  have hX : K_X11_harm fu x1 x2 x3 x4 mem = bdt (K_X11_checkPawn fu x1 mem) mem (bdt (K_X11_checkPlace fu x2 x3 mem) mem (bd (K_X5_admitsNow fu 0 x2 x3 (zi w) mem) (fun p_1 => (if p_1.1 = 0 then some (2, 0, p_1.2) else bd (K_X5_loss fu 0 x1 x2 x3 (zi w) p_1.2) (fun p_2 => some (0, p_2.1, p_2.2)))))) := by
    unfold K_X11_harm
    rcases h4 with ⟨e1, e2⟩ | ⟨e1, e2⟩
    · rw [if_pos e1, e2]
      rfl
    · rw [if_neg (fun z => by rw [e1] at z; exact absurd z (by decide)), e2]
      rfl
  have hw : ∀ m, K_X12_wayOf fu x4 m = some (zi (w + 1)) := fun m => by
    unfold K_X12_wayOf
    rcases h4 with ⟨e1, e2⟩ | ⟨e1, e2⟩
    · rw [if_pos e1, e2]
      rfl
    · rw [if_neg (fun z => by rw [e1] at z; exact absurd z (by decide)), e2]
      rfl
  have hw01 : w = 0 ∨ w = 1 := by omega
  have h21 : ∀ m, K_X12_harm_21 fu x1 x2 x3 x4 m = K_X12_harm_51 fu x1 x2 x3 x4 0 0 m := fun m => by
    unfold K_X12_harm_21 K_X12_harm_22 K_X12_harm_50
    rw [if_pos (show (0 : Int32) = 0 from rfl)]
  by_cases qb : (pB s v && isPl s x y) = true
  · rw [Bool.and_eq_true] at qb
    obtain ⟨q1, q2⟩ := qb
    have qv := of_decide_eq_true q1
    have qp := q2
    unfold isPl at qp
    rw [Bool.and_eq_true, decide_eq_true_iff, decide_eq_true_iff] at qp
    have iz' := iz
    obtain ⟨⟨z1, z2⟩, z3, z4⟩ := iz'
    obtain ⟨u, hu⟩ : ∃ u : Nat, v = u := ⟨v.toNat, by omega⟩
    have hus : (u : Int) < s 2 := by omega
    have hpu := ip u (by omega) hus
    obtain ⟨c3, k1, k2, k3⟩ := c_admNow fu 0 (by omega) iz ic iW ip iwy hR.1 ⟨hR.2.1.1, hR.2.2.1⟩ (x := x) (y := y) (by omega) (by omega) (by omega) (by omega) hw01
    rw [q2, Bool.true_and] at k1
    obtain ⟨mg, n1, n2⟩ := m_admits fu (by omega) hS iz iW ic ip q2 (w := w + 1) (by omega)
    have k4 : Fr (PL 0) mem c3 := Fr_mono k3 (fun _ _ z => PQ_PL z)
    have hR3 : RC c3 0 s := RC_PL k4 k2.1 hR
    have hSg := MS_P hS n2 (fun _ => rfl)
    refine ⟨true, adB s x y (w + 1), fun m => bd (K_X12_wayOf fu x4 m) (fun x_6 => bd (K_X12_behind fu x1 x2 x3 x_6 m) (fun p_7 => bd (K_X12_distanceOf fu x1 p_7.2) (fun p_8 => some ((p_7.1 - p_8.1), p_8.2)))), mg, hSg, Fn_P n2 (fun _ _ z => So_B (PSo_n z)), ?_, fun q => absurd q (by decide), fun _ q => ⟨c3, ?_, AS_g k4 (fun k j z => PL_o0 (by omega)) hR3 (BW_P k4 (fun j => PL_o0 (by omega)) hB)⟩, fun _ q m1 hS1 => ?_⟩
    · unfold K_X12_harm
      have hm' : K_X12_isPawn fu x1 (mMp mem) = some (zi (bi true)) := by rw [ev, hm, q1]
      have hmL' : K_X12_isPlace fu x2 x3 (mMp mem) = some (zi (bi true)) := by rw [ex, ey, hmL, q2]
      have n1' : K_X12_admits fu x2 x3 (zi (w + 1)) (mMp mem) = some (zi (bi (adB s x y (w + 1))), mg) := by rw [ex, ey, n1]
      rw [hm', bd_s, if_neg (show ¬ zi (bi true) = 0 by decide), hmL', bd_s, if_neg (show ¬ zi (bi true) = 0 by decide)]
      unfold K_X12_harm_22 K_X12_harm_50 K_X12_harm_51
      rw [if_neg (show ¬ (1 : Int32) = 0 by decide), hw, bd_s, n1', bd_s]
      cases adB s x y (w + 1) with
      | true =>
        rw [if_neg (show ¬ zi (bi true) = 0 by decide)]
        rfl
      | false =>
        rw [if_pos (show zi (bi false) = 0 from rfl)]
        rfl
    · unfold K_L_harm
      rw [hX, ev, ex, ey, hc.1 q1, hcL.1 q2, k1, q, bd_s, if_pos (show zi (bi false) = 0 from rfl)]
      rfl
    · obtain ⟨c4, d1, d2, d3⟩ := c_loss fu 0 (by omega) iz ic iW ip iwy k2 q2 hw01 (ad_hr q) hus
      obtain ⟨m2, o1, o2⟩ := m_behind fu (by omega) hS1 iz iW ic (p := (u : Int)) (by omega) hus hpu q2 (w := w + 1) (by omega) (hr_0 q2 (ad_hr q))
      obtain ⟨m3, r1, r2⟩ := m_dist fu (by omega) (MS_P hS1 o2 (fun _ => rfl)) iz iW ic (p := (u : Int)) (by omega) hus hpu
      have k5 : Fr (PL 0) mem c4 := Fr_tr k4 (Fr_mono d3 (fun _ _ z => PA_PQ (PQ_PL z)))
      refine ⟨zi (dst (sw s x y (w + 1)) u - dst s u), c4, m3, ?_, ?_, AS_g k5 (fun k j z => PL_o0 (by omega)) (RC_PL k5 d2.1 hR) (BW_P k5 (fun j => PL_o0 (by omega)) hB), Fo_tr (Fo_P o2 (fun _ _ z => So_B z)) (Fo_P r2 (fun _ _ z => So_B z))⟩
      · unfold K_L_harm
        rw [hX, ev, ex, ey, hc.1 q1, hcL.1 q2, k1, q, bd_s, if_neg (show ¬ zi (bi true) = 0 by decide), hu, d1, bd_s]
        rfl
      · show bd (K_X12_wayOf fu x4 m1) _ = _
        rw [hw, bd_s, ev, ex, ey, hu, o1, bd_s, r1, bd_s, zi_sub]
  · refine ⟨false, false, fun m => bd (K_X12_wayOf fu x4 m) (fun x_6 => bd (K_X12_behind fu x1 x2 x3 x_6 m) (fun p_7 => bd (K_X12_distanceOf fu x1 p_7.2) (fun p_8 => some ((p_7.1 - p_8.1), p_8.2)))), mMp mem, hS, fun _ _ _ => rfl, ?_, fun _ => ?_, fun q => absurd q (by decide), fun q => absurd q (by decide)⟩
    · unfold K_X12_harm
      have hm' : K_X12_isPawn fu x1 (mMp mem) = some (zi (bi (pB s v))) := by rw [ev, hm]
      have hmL' : K_X12_isPlace fu x2 x3 (mMp mem) = some (zi (bi (isPl s x y))) := by rw [ex, ey, hmL]
      rw [hm', bd_s, hmL', bd_s, h21]
      cases z1 : pB s v with
      | false =>
        rw [if_pos (show zi (bi false) = 0 from rfl)]
        rfl
      | true =>
        rw [z1, Bool.true_and] at qb
        rw [if_neg (show ¬ zi (bi true) = 0 by decide), bo_f qb, if_pos (show zi (bi false) = 0 from rfl)]
        rfl
    · unfold K_L_harm
      rw [hX, ev, ex, ey]
      cases z1 : pB s v with
      | false =>
        rw [hc.2 z1]
        rfl
      | true =>
        rw [z1, Bool.true_and] at qb
        rw [hc.1 z1, hcL.2 (bo_f qb)]
        rfl
theorem case33 (fu : Nat) (hfu : 40000 ≤ fu) (a : Nat → Int32) {mem : Mem} (h : JJ mem (mMp mem)) : ∃ mem2, K_case_33 fu a mem = some mem2 ∧ JJ mem2 (mMp mem2) := by
  unfold K_case_33
  by_cases q : a 4 = 0
  · have := hrm_w fu hfu (a 1) (a 2) (a 3) 0 0 (Or.inl ⟨rfl, rfl⟩) h
    simp only [if_pos q]
    exact this
  · have := hrm_w fu hfu (a 1) (a 2) (a 3) 1 1 (Or.inr ⟨rfl, rfl⟩) h
    simp only [if_neg q]
    exact this
theorem mv_2 {s : Nat → Int} {p g : Int} {d : Nat} (hp : 0 ≤ p) (hp3 : p ≤ 3) : mvSt s p g d 2 = s 2 := by
  unfold mvSt
  rw [etS_ne (by decide) (by decide)]
  exact mve_ne hp hp3 (Or.inl (by decide)) (by decide)
theorem on_2 {s : Nat → Int} (hI : Inv s) (ho : ovB s = false) (mode : Int) : onS s mode 2 = s 2 := by
  have hov := ov_2 hI.2.1 ho
  have c7 := hI.2.1.2.2.2.2.2.1
  unfold onS
  by_cases c : mode = 1 ∧ rvS s ≠ -1 ∧ 1 ≤ (bstB s (rvS s)).1
  · rw [if_pos c]
    have hs2 := hI.2.1.1
    rcases rvS_sp hs2.1 with h | ⟨h1, h2, h3, h4⟩
    · exact absurd h c.2.1
    · obtain ⟨g1, g2⟩ := bst_sp hI h1 h2
      obtain ⟨k1, k2, k3, k4, k5, k6, k7⟩ := g2 (by omega)
      have qp := k3
      unfold isPl at qp
      rw [Bool.and_eq_true, decide_eq_true_iff, decide_eq_true_iff] at qp
      unfold bdS
      rw [etS_ne (by decide) (by decide)]
      exact bw_lt qp.1.1 qp.2.1 c7.1 c7.2 (Or.inl (by decide)) (by decide)
  · rw [if_neg c]
    unfold adv1
    by_cases q : avS s (s 7) = -1
    · rw [if_pos q]
      exact etS_ne (by decide) (by decide)
    · rw [if_neg q]
      exact mv_2 c7.1 c7.2
theorem pl_2 (mode : Int) : ∀ (q : Nat) (s : Nat → Int) (k : Nat), Inv s → (plS mode q s k).1 2 = s 2 := by
  intro q
  induction q with
  | zero => exact fun s k h => rfl
  | succ q ih =>
    intro s k h
    rw [plS]
    cases ho : ovB s with
    | true => rw [if_pos rfl]
    | false =>
      rw [if_neg (by decide)]
      exact (ih _ _ (on_Inv h ho mode)).trans (on_2 h ho mode)
def plB (a b : Int) : Bool := decide (0 ≤ a ∧ a ≤ 1) && decide (1 ≤ b ∧ b ≤ 99)
theorem c_mayPlay (fu : Nat) (c : Mem) {a b : Int} (ha1 : -2147483648 ≤ a) (ha2 : a < 2147483648) (hb1 : -2147483648 ≤ b) (hb2 : b < 2147483648) : (plB a b = true → K_X11_checkPlay fu (zi a) (zi b) c = some 0) ∧ (plB a b = false → K_X11_checkPlay fu (zi a) (zi b) c = some 1) := by
  have i1 : (zi a < (0 : Int32)) = (a < 0) := zi_lt (b_ := 0) ha1 ha2 (by decide) (by decide)
  have i2 : (zi a < (2 : Int32)) = (a < 2) := zi_lt (b_ := 2) ha1 ha2 (by decide) (by decide)
  have i3 : (zi b < (1 : Int32)) = (b < 1) := zi_lt (b_ := 1) hb1 hb2 (by decide) (by decide)
  have i4 : ((99 : Int32) < zi b) = (99 < b) := zi_lt (a_ := 99) (by decide) (by decide) hb1 hb2
  have hm : K_X11_mayPlay fu (zi a) (zi b) c = some (zi (bi (plB a b))) := by
    unfold K_X11_mayPlay plB
    by_cases q0 : a < 0
    · rw [if_pos (i1.mpr q0), decide_eq_false (show ¬ (0 ≤ a ∧ a ≤ 1) by omega)]
      rfl
    · rw [if_neg (fun h => q0 (i1.mp h))]
      by_cases q1 : a < 2
      · rw [if_pos (i2.mpr q1)]
        by_cases q2 : b < 1
        · rw [if_pos (i3.mpr q2), decide_eq_true (show 0 ≤ a ∧ a ≤ 1 by omega), decide_eq_false (show ¬ (1 ≤ b ∧ b ≤ 99) by omega)]
          rfl
        · rw [if_neg (fun h => q2 (i3.mp h))]
          by_cases q3 : 99 < b
          · rw [if_pos (i4.mpr q3), decide_eq_true (show 0 ≤ a ∧ a ≤ 1 by omega), decide_eq_false (show ¬ (1 ≤ b ∧ b ≤ 99) by omega)]
            rfl
          · rw [if_neg (fun h => q3 (i4.mp h)), decide_eq_true (show 0 ≤ a ∧ a ≤ 1 by omega), decide_eq_true (show 1 ≤ b ∧ b ≤ 99 by omega)]
            rfl
      · rw [if_neg (fun h => q1 (i2.mp h)), decide_eq_false (show ¬ (0 ≤ a ∧ a ≤ 1) by omega)]
        rfl
  unfold K_X11_checkPlay
  rw [hm, bd_s]
  refine ⟨fun q => ?_, fun q => ?_⟩
  · rw [q, if_neg (show ¬ zi (bi true) = 0 by decide)]
  · rw [q, if_pos (show zi (bi false) = 0 from rfl)]
theorem ZP2_o {k j : Nat} (h : k ≤ 3 ∨ k = 28 ∨ k = 33 ∨ (35 ≤ k ∧ k < 57) ∨ 101 ≤ k) : ZP 2 k j = false := by
  unfold ZP PL PQ FT PWl ZR PC pDist pQueue pWays pOpen pBuilt pBoard
  simp only [Bool.or_eq_false_iff, Bool.and_eq_false_iff, beq_eq_false_iff_ne, ne_eq, decide_eq_false_iff_not]
  omega
theorem case34 (fu : Nat) (hfu : 40000 ≤ fu) (a : Nat → Int32) {mem : Mem} (h : JJ mem (mMp mem)) : ∃ mem2, K_case_34 fu a mem = some mem2 ∧ JJ mem2 (mMp mem2) := by
  have key : K_case_34 fu a mem = rowA fu (K_L_foreseen fu (a 1) (a 2) (a 3) mem) (K_X12_foreseen fu (a 1) (a 2) (a 3)) mem := rfl
  rw [key]
  refine askH fu h (fun s hI hR hS hB => ?_)
  obtain ⟨mo, hm1, hm2, em⟩ := zi_ex (a 1)
  obtain ⟨n, hn1, hn2, en⟩ := zi_ex (a 2)
  obtain ⟨v, hv1, hv2, ev⟩ := zi_ex (a 3)
  have c2 := hI.1.2.1.1
  have hc := c_chkP fu hR c2 hv1 hv2
  have hm := m_isPawn fu hS c2 hv1 hv2
  have hq := c_mayPlay fu mem hm1 hm2 hn1 hn2
  have hin1 : K_X12_isIn fu (zl mo) 0 1 (mMp mem) = _ := k_isIn fu (mMp mem) (v_ := mo) (a_ := 0) (b_ := 1) hm1 hm2 (by decide) (by decide) (by decide) (by decide)
  have hin2 : K_X12_isIn fu (zl n) 1 99 (mMp mem) = _ := k_isIn fu (mMp mem) (v_ := n) (a_ := 1) (b_ := 99) hn1 hn2 (by decide) (by decide) (by decide) (by decide)
  refine ⟨pB s v, plB mo n, fun m => bd (K_X12_thinks fu m) (fun m_5 => bd (K_X12_plays fu (a 1) (a 2) m_5) (fun p_6 => lt_ p_6.1 (fun x_7 => bd (K_X12_of fu (a 3) 6 p_6.2) (fun x_8 => bd (K_X12_thinksNoMore fu p_6.2) (fun m_9 => (if x_7 < 0 then some ((-1), m_9) else some (x_8, m_9))))))), mMp mem, hS, fun _ _ _ => rfl, ?_, fun q => ?_, fun q1 q2 => ⟨mem, ?_, AS_rf hR hB⟩, fun q1 q2 m1 hS1 => ?_⟩
  · unfold K_X12_foreseen K_X12_foreseen_32 K_X12_foreseen_33 plB
    rw [em, en, ev, hm, bd_s, zl_of hm1 hm2, zl_of hn1 hn2, hin1, bd_s]
    cases decide (0 ≤ mo ∧ mo ≤ 1) with
    | false =>
      rw [if_pos (show zi (bi false) = 0 from rfl), Bool.false_and]
      rfl
    | true =>
      rw [if_neg (show ¬ zi (bi true) = 0 by decide), hin2, bd_s, Bool.true_and]
      cases decide (1 ≤ n ∧ n ≤ 99) with
      | false =>
        rw [if_pos (show zi (bi false) = 0 from rfl)]
        rfl
      | true =>
        rw [if_neg (show ¬ zi (bi true) = 0 by decide)]
        rfl
  · unfold K_L_foreseen K_X11_foreseen
    rw [em, en, ev, hc.2 q]
    rfl
  · unfold K_L_foreseen K_X11_foreseen
    rw [em, en, ev, hc.1 q1, hq.2 q2]
    rfl
  · have qv := of_decide_eq_true q1
    have qm := q2
    unfold plB at qm
    rw [Bool.and_eq_true, decide_eq_true_iff, decide_eq_true_iff] at qm
    obtain ⟨u, hu⟩ : ∃ u : Nat, v = u := ⟨v.toNat, by omega⟩
    obtain ⟨t, ht⟩ : ∃ t : Nat, n = t := ⟨n.toNat, by omega⟩
    have hus : (u : Int) < s 2 := by omega
    have h2 := pl_2 mo t s 0 hI.1
    have hle := (pl_le mo t s 0).2
    obtain ⟨c3, k1, k2, k3⟩ := c_copy fu (by omega) (r := 2) (r1 := 0) (by decide) hR
    obtain ⟨c4, d1, d2, d3⟩ := c_plays fu 2 (by omega) qm.1 (n := t) (by omega) hI.1 k2
    have fc : Fr (ZP 2) mem c4 := Fr_tr (Fr_mono k3 (fun _ _ z => (ZP_l z).2.1)) d3
    have r5 := (d2.2.2.1 u (by omega) (by rw [h2]; exact hus)).2.2.2.2.2
    obtain ⟨m2, n1, n2, n3⟩ := m_th2 fu 184 fu 0 m1 (by omega) (by omega) (fun j hj => absurd hj (Nat.not_lt_zero j))
    have hS2 : MS m2 s := MS_P hS1 n3 (fun _ => rfl)
    obtain ⟨m3, o1, o2, o3⟩ := m_plays fu (by omega) qm.1 (n := t) (by omega) hI.1 hS2
    obtain ⟨m4, p1, p2, p3⟩ := m_tn2 fu 184 fu 0 m3 (by omega) (by omega) (fun j hj => absurd hj (Nat.not_lt_zero j))
    have n1' : K_X12_thinks fu m1 = some m2 := n1
    have p1' : K_X12_thinksNoMore fu m3 = some m4 := p1
    have eo : K_X12_of fu (zi (u : Int)) 6 m3 = some (zi (pg (plS mo t s 0).1 u 6)) := k_of fu o2 (k := 6) (by omega) (by omega) (by decide) (by decide)
    have i0 : (zi ((plS mo t s 0).2 : Int) < (0 : Int32)) = (((plS mo t s 0).2 : Int) < 0) := zi_lt (b_ := 0) (by omega) (by omega) (by decide) (by decide)
    refine ⟨zi (pg (plS mo t s 0).1 u 6), c4, m4, ?_, ?_, AS_P hR hB fc (fun k j z => ZP2_o z), fun k j z => ?_⟩
    · unfold K_L_foreseen K_X11_foreseen
      rw [em, en, ev, hc.1 q1, hq.1 q2, k1, bd_s, hu, ht, d1, bd_s, gi_zi (by omega) (by omega) (by decide), cl4 (by omega), r5]
      rfl
    · show bd (K_X12_thinks fu m1) _ = _
      rw [n1', bd_s, em, en, ev, hu, ht, o1, bd_s, ltf, eo, bd_s, p1', bd_s, if_neg (fun w => by have := i0.mp w; omega)]
    · have hz := PSo_k z
      by_cases e2 : k = 2
      · rw [e2]
        by_cases e3 : j < 184
        · rw [p2 j e3, o3.1 6 j rfl, n2 j e3]
        · have e4 : PR1 2 2 j = false := by
            unfold PR1
            rw [decide_eq_false e3]
            rfl
          have hi := (InvH_pl mo t s 0 hI).2 j (by omega)
          rw [p3.1 2 j e4, o2 j, hi, hS1 j, hI.2 j (by omega)]
      · rw [p3.1 k j (by
          unfold PR1
          simp only [Bool.and_eq_false_iff, beq_eq_false_iff_ne, ne_eq]
          exact Or.inl e2), o3.1 k j (by
          unfold PMp
          rw [So_B z]
          simp only [Bool.false_or, Bool.or_eq_false_iff, Bool.and_eq_false_iff, beq_eq_false_iff_ne, ne_eq]
          omega), n3.1 k j (by
          unfold PR1
          simp only [Bool.and_eq_false_iff, beq_eq_false_iff_ne, ne_eq]
          omega)]
end HRMM
