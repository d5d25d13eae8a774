section MOVM
/-- a call that goes on in the race, with two conditions -/
theorem doH (fu : Nat) {mem : Mem} {A : Option (Int32 × Mem)} {B : Mem → Option (Int32 × Mem)} {s : Nat → Int} (a1 : RC mem 0 s) (a3 : InvH s) (hb : BWok mem) (hW : JW mem (mMp mem)) (b1 b2 : Bool) (G : Mem → Option (Int32 × Mem)) {mg : Mem} (hS : MS mg s) (hg : Fn (mMp mem) mg) (k1 : B (mMp mem) = bd (K_X12_goesBoth fu (zi (bi b1)) (zi (bi b2)) mg) (fun p => (if p.1 = 0 then some (0, p.2) else G p.2))) (k2 : b1 = false → A = some (1, mset 0 255 mem mem)) (k3 : b1 = true → b2 = false → ∃ c2, A = some (2, mset 0 255 mem c2) ∧ AS mem c2 s) (k4 : b1 = true → b2 = true → ∃ x c2 m2, A = some (0, ml (mset 0 255 mem c2) 255 0 (Int32.toInt64 x)) ∧ G (mw mg 0 0 0) = some (x, m2) ∧ JJ c2 m2 ∧ rd m2 0 0 = zi 0) : ∃ mem2, rowA fu A B mem = some mem2 ∧ JJ mem2 (mMp mem2) := by
  have fm : ∀ v, Fr (fun k j => k == 0 && j == 0) mg (mw mg 0 0 v) := fun v => Fr_mw _ _ rfl
  have hgo : ∀ v, Fn (mMp mem) (mw mg 0 0 v) := fun v => Fn_tr hg (Fn_P (fm v) (fun _ _ q => PSn_0 q))
  have r0 : ∀ v, rd (mw mg 0 0 v) 0 0 = v := fun v => by rw [rd_mw, if_pos ⟨rfl, rfl⟩]
  have hSv : ∀ v, MS (mw mg 0 0 v) s := fun v => MS_P hS (fm v) (fun _ => rfl)
  cases b1 with
  | false =>
    rw [gb_1, bd_s, if_pos (show (0 : Int32) = 0 from rfl)] at k1
    exact ⟨_, rowA_no fu (by decide) (k2 rfl) k1 (r0 _), rowA_JJ (P_no mem mem) (JW_JJ (JW_sc hW (Fr_rf _ _) (hgo _) hb) a1 (hSv _) a3)⟩
  | true =>
    cases b2 with
    | false =>
      rw [gb_2, bd_s, if_pos (show (0 : Int32) = 0 from rfl)] at k1
      obtain ⟨c2, y1, y3, y4, y5⟩ := k3 rfl rfl
      exact ⟨_, rowA_no fu (by decide) y1 k1 (r0 _), rowA_JJ (P_no mem c2) (JW_JJ (JW_sc hW y3 (hgo _) y5) y4 (hSv _) a3)⟩
    | true =>
      rw [gb_0, bd_s, if_neg (show ¬ (1 : Int32) = 0 by decide)] at k1
      obtain ⟨x, c2, m2, y1, y2, y3, y4⟩ := k4 rfl rfl
      have k1' : B (mMp mem) = some (x, m2) := k1.trans y2
      exact ⟨_, rowA_ok fu y1 P_ok.2 k1' y4, rowA_JJ P_ok.1 y3⟩
theorem G_PC {k j : Nat} (h : PGc k j = false) : PC 1 k j = false := by
  have := PGc_k h
  unfold PC pDist pQueue pWays
  simp only [Bool.or_eq_false_iff, Bool.and_eq_false_iff, beq_eq_false_iff_ne, ne_eq]
  omega
theorem G_ZP {k j : Nat} (h : PGc k j = false) : ZP 0 k j = false := by
  have := PGc_k h
  unfold ZP PL PQ FT PWl ZR PC pDist pQueue pWays pOpen pBuilt pBoard
  simp only [Bool.or_eq_false_iff, Bool.and_eq_false_iff, beq_eq_false_iff_ne, ne_eq, decide_eq_false_iff_not]
  omega
theorem ZP0_o {k j : Nat} (h : k ≤ 3 ∨ k = 28 ∨ k = 33 ∨ 101 ≤ k) : ZP 0 k j = false := by
  unfold ZP ZR
  rw [PL_o0 h]
  simp only [Bool.false_or, Bool.and_eq_false_iff, decide_eq_false_iff_not]
  omega
theorem Fn_27 {m m2 : Mem} (f : Fr P27 m m2) : Fn m m2 := Fn_P f (fun _ _ z => So_27 (PSo_n z))
theorem Fn_B {m m2 : Mem} (f : Fr PB m m2) : Fn m m2 := Fn_P f (fun _ _ z => So_B (PSo_n z))
theorem case35 (fu : Nat) (hfu : 40000 ≤ fu) (a : Nat → Int32) {mem : Mem} (h : JJ mem (mMp mem)) : ∃ mem2, K_case_35 fu a mem = some mem2 ∧ JJ mem2 (mMp mem2) := by
  have key : K_case_35 fu a mem = rowA fu (K_L_step fu (a 1) mem) (K_X12_step fu (a 1)) mem := rfl
  rw [key]
  have hW : JW mem (mMp mem) := by
    obtain ⟨_, _, _, _, _, hW⟩ := JJ_JW h
    exact hW
  obtain ⟨s, sv, u, ps, L, T, e, p, hv, rp, ⟨⟨a1, a2, a3⟩, ⟨b1, b2⟩, d1, d3, d4⟩, ⟨e1, e2, e3, e4⟩, hK⟩ := h
  have hb : BWok mem := hK.2.2
  have hlv := lv_I a3.1
  obtain ⟨d, hd1, hd2, ed⟩ := zi_ex (a 1)
  have hD := c_chkD fu mem hd1 hd2
  have hmD := m_isDir fu (mMp mem) hd1 hd2
  have h29 : ∀ (x y : Int32) (m : Mem), K_X12_step_29 fu (a 1) x y m = bd (K_X12_goesBoth fu y x m) (fun p_3 => (if p_3.1 = 0 then some (0, p_3.2) else bd (K_X12_laysAside fu p_3.2) (fun m_4 => bd (K_X12_stepsNow fu (a 1) m_4) (fun p_5 => lt_ p_5.1 (fun x_6 => bd (K_X12_keeps fu p_5.2) (fun m_7 => some (x_6, m_7))))))) := fun x y m => rfl
  by_cases q1 : dB d = true
  · have qd := of_decide_eq_true q1
    obtain ⟨i, hi⟩ : ∃ i : Nat, d = i := ⟨d.toNat, by omega⟩
    have hi4 : i < 4 := by omega
    rw [q1] at hmD
    obtain ⟨m1, n1, n2⟩ := m_mayStep fu (by omega) hlv a2 hi4
    have hcm := c_mayMove fu 0 (by omega) hlv a1 hi4
    have hS1 := MS_P a2 n2 (fun _ => rfl)
    refine doH fu a1 a3 hb hW true (decide (gB s (s 7) i ≠ 0)) (fun m => bd (K_X12_laysAside fu m) (fun m_4 => bd (K_X12_stepsNow fu (a 1) m_4) (fun p_5 => lt_ p_5.1 (fun x_6 => bd (K_X12_keeps fu p_5.2) (fun m_7 => some (x_6, m_7)))))) (mg := m1) hS1 (Fn_27 n2) ?_ (fun q => absurd q (by decide)) (fun _ q => ⟨mem, ?_, AS_rf a1 hb⟩) (fun _ q => ?_)
    · unfold K_X12_step K_X12_step_28
      have n1' : K_X12_mayStep fu (a 1) (mMp mem) = some (zi (bi (decide (gB s (s 7) i ≠ 0))), m1) := by rw [ed, hi, n1]
      have hmD' : K_X12_isIn fu (Int32.toInt64 (a 1)) 0 3 (mMp mem) = some (zi (bi true)) := by rw [ed, hmD]
      rw [hmD', bd_s, if_neg (show ¬ zi (bi true) = 0 by decide), n1', bd_s]
      cases decide (gB s (s 7) i ≠ 0) with
      | true =>
        rw [if_neg (show ¬ zi (bi true) = 0 by decide), h29]
        rfl
      | false =>
        rw [if_pos (show zi (bi false) = 0 from rfl), h29]
        rfl
    · unfold K_L_step K_X11_step
      rw [ed, hD.1 q1, hi, hcm, q, bd_s, if_pos (show zi (bi false) = 0 from rfl)]
      rfl
    · have qg := of_decide_eq_true q
      have ho : ovB s = false := by
        cases hh : ovB s with
        | true => exact absurd (gB_ov hh (s 7) i) qg
        | false => rfl
      have hov := ov_2 a3.1.2.1 ho
      have hc7 := a3.1.2.1.2.2.2.2.2.1
      have hc2 := a3.1.2.1.1
      obtain ⟨w, hw⟩ : ∃ w : Nat, s 7 = w := ⟨(s 7).toNat, by omega⟩
      have hI2 : InvH (mvSt s (s 7) (gB s (s 7) i) i) := by
        rw [hw] at qg ⊢
        exact InvH_mv a3 (by omega) hi4 qg
      obtain ⟨c1, x1, x2, x3, x4⟩ := c_keep fu (by omega) e1 e2 a1
      obtain ⟨c2, y1, y2, y3⟩ := c_move fu 0 (by omega) a3.1 x3 hi4 qg
      have h22 : mvSt s (s 7) (gB s (s 7) i) i 2 = s 2 := mv_2 hc7.1 hc7.2
      obtain ⟨c3, z1, z2⟩ := c_measure fu 1 0 (by omega) (by decide) hI2.1.1 hI2.1.2.1 hI2.1.2.2.2.1 y2 (k := w) (by rw [h22]; omega)
      rw [← hw] at z1
      have f0 : Fr (fun k j => k == 0 && j == 0) m1 (mw m1 0 0 0) := Fr_mw _ _ rfl
      have hS0 := MS_P hS1 f0 (fun _ => rfl)
      obtain ⟨m3, p1, p2, p3, p4⟩ := m_layS fu (by omega) hS0
      obtain ⟨m4, r1, r2, r3⟩ := m_stepsNow fu (by omega) a3 p3 hi4 ho qg
      have h5 : ∀ j, j < 184 → rd m4 5 j = zi (s j) := fun j hj => (r3.1 _ _ rfl).trans (p2 j hj)
      have hm4 : HSm m4 u ps := HSm_fr (HSm_fr (HSm_fr (HSm_fr e3 n2 rfl (fun _ => rfl)) f0 rfl (fun _ => rfl)) p4 rfl (fun _ => rfl)) r3 rfl (fun _ => rfl)
      obtain ⟨m5, v1, v2, v3⟩ := m_keeps fu (by omega) e1 hm4 h5
      have hS5 := MS_P r2 v3 (fun _ => rfl)
      have r6 : rd c1 (pRace 0) 6 = zi (w : Int) := by rw [x3.2.1.2.2.2.1, hw]
      refine ⟨zi (dst (mvSt s (s 7) (gB s (s 7) i) i) (s 7)), c3, m5, ?_, ?_, ?_, ?_⟩
      · unfold K_L_step K_X11_step
        rw [ed, hD.1 q1, hi, hcm, q, bd_s, if_neg (show ¬ zi (bi true) = 0 by decide), x1, bd_s, r6, gi_zi (by omega) (by omega) (by decide), y1, bd_s, cl4 (by omega), z1, bd_s]
        rfl
      · show bd (K_X12_laysAside fu (mw m1 0 0 0)) _ = _
        rw [p1, bd_s, ed, hi, r1, bd_s, ltf, v1, bd_s]
      · refine JJ_mv b1 b2 d1 d3 d4 hK (RC_fr2 z2 (fun k j q1 q2 => PC_lo (by decide) (by omega)) y2) hS5 hI2 (by unfold kpU; split <;> omega) (HSc_fr (HSc_fr x2 y3 (fun k j q => ?_)) z2 (fun k j q => PC_lo (by decide) (by omega))) v2 (kp_inv e1 e4 a3) (Fr_tr (Fr_tr (Fr_mono x4 (fun _ _ q => G_K q)) (Fr_mono y3 (fun _ _ q => G_R0 q))) (Fr_mono z2 (fun _ _ q => G_PC q))) (Fr_tr (Fr_tr (Fr_tr (Fr_tr (Fr_mono n2 (fun _ _ q => P27_Mp (G_Mp q))) (Fr_mono f0 (fun _ _ q => G_00 q))) (Fr_mono p4 (fun _ _ q => G_15 q))) (Fr_mono r3 (fun _ _ q => G_Mp q))) (Fr_mono v3 (fun _ _ q => G_H q)))
        unfold ZR
        simp only [Bool.and_eq_false_iff, decide_eq_false_iff_not]
        omega
      · rw [v3.1 0 0 rfl, r3.1 0 0 rfl, p4.1 0 0 rfl, rd_mw, if_pos ⟨rfl, rfl⟩]
        rfl
  · have q0 := bo_f q1
    rw [q0] at hmD
    refine doH fu a1 a3 hb hW false false (fun m => bd (K_X12_laysAside fu m) (fun m_4 => bd (K_X12_stepsNow fu (a 1) m_4) (fun p_5 => lt_ p_5.1 (fun x_6 => bd (K_X12_keeps fu p_5.2) (fun m_7 => some (x_6, m_7)))))) (mg := mMp mem) a2 (fun _ _ _ => rfl) ?_ (fun _ => ?_) (fun q => absurd q (by decide)) (fun q => absurd q (by decide))
    · unfold K_X12_step K_X12_step_28
      have hmD' : K_X12_isIn fu (Int32.toInt64 (a 1)) 0 3 (mMp mem) = some (zi (bi false)) := by rw [ed, hmD]
      rw [hmD', bd_s, if_pos (show zi (bi false) = 0 from rfl), h29]
      rfl
    · unfold K_L_step K_X11_step
      rw [ed, hD.2 q0]
      rfl
theorem bd_p3 {s : Nat → Int} {x y v : Int} (hx : 0 ≤ x) (hy : 0 ≤ y) (h7 : 0 ≤ s 7 ∧ s 7 ≤ 3) : pg (bdS s x y v) (s 7) 3 = pg s (s 7) 3 - 1 := by
  have e := bw_pg (v := v) hx hy h7.1 h7.1 h7.2 (k := 3) ⟨by decide, by decide⟩
  rw [if_pos ⟨rfl, rfl⟩] at e
  unfold bdS etS
  rw [pg_lo (by decide) h7.1 (by decide), pg_lo (by decide) h7.1 (by decide)]
  exact e
theorem bld_w (fu : Nat) (hfu : 40000 ≤ fu) (xa xb xc : Int32) (w : Int) (h4 : (xc = 0 ∧ w = 0) ∨ (xc = 1 ∧ w = 1)) {mem : Mem} (h : JJ mem (mMp mem)) : ∃ mem2, rowA fu (K_L_build fu xa xb xc mem) (K_X12_build fu xa xb xc) mem = some mem2 ∧ JJ mem2 (mMp mem2) := by
  have hW : JW mem (mMp mem) := by
    obtain ⟨_, _, _, _, _, hW⟩ := JJ_JW h
    exact hW
  obtain ⟨s, sv, u, ps, L, T, e, p, hv, rp, ⟨⟨a1, a2, a3⟩, ⟨b1, b2⟩, d1, d3, d4⟩, ⟨e1, e2, e3, e4⟩, hK⟩ := h
  have hb : BWok mem := hK.2.2
  have hz := a3.1.1
  obtain ⟨x, hx1, hx2, ex⟩ := zi_ex xa
  obtain ⟨y, hy1, hy2, ey⟩ := zi_ex xb
  have hcL := c_chkL fu a1.1 hz hx1 hx2 hy1 hy2
  have hmL := k_isPlace fu a2 hz hx1 hx2 hy1 hy2
  have hX : K_X11_build fu xa xb xc mem = bdt (K_X11_checkPlace fu xa xb mem) mem (bd (K_X5_mayBuild fu 0 xa xb (zi w) mem) (fun p_1 => (if p_1.1 = 0 then some (2, 0, p_1.2) else bd (K_X3_keep fu 0 p_1.2) (fun m_2 => gi (rd m_2 (pRace 0) 6) 4 (bd (K_X6_buildWall fu 0 xa xb (zi w) m_2) (fun m_4 => some (0, (rd m_4 (pPawn 0 (Int32.toNatClampNeg (rd m_2 (pRace 0) 6))) 2), m_4))))))) := by
    unfold K_X11_build
    rcases h4 with ⟨z1, z2⟩ | ⟨z1, z2⟩
    · rw [if_pos z1, z2]
      rfl
    · rw [if_neg (fun z => by rw [z1] at z; exact absurd z (by decide)), z2]
      rfl
  have hw : ∀ m, K_X12_wayOf fu xc m = some (zi (w + 1)) := fun m => by
    unfold K_X12_wayOf
    rcases h4 with ⟨z1, z2⟩ | ⟨z1, z2⟩
    · rw [if_pos z1, z2]
      rfl
    · rw [if_neg (fun z => by rw [z1] at z; exact absurd z (by decide)), z2]
      rfl
  have hw01 : w = 0 ∨ w = 1 := by omega
  have h34 : ∀ (v1 v2 : Int32) (m : Mem), K_X12_build_34 fu xa xb xc v1 v2 m = bd (K_X12_goesBoth fu v2 v1 m) (fun p_4 => (if p_4.1 = 0 then some (0, p_4.2) else bd (K_X12_laysAside fu p_4.2) (fun m_5 => bd (K_X12_wayOf fu xc m_5) (fun x_6 => bd (K_X12_builds fu xa xb x_6 m_5) (fun p_7 => lt_ p_7.1 (fun x_8 => bd (K_X12_keeps fu p_7.2) (fun m_9 => some (x_8, m_9)))))))) := fun v1 v2 m => rfl
  by_cases q2 : isPl s x y = true
  · have qp := q2
    unfold isPl at qp
    rw [Bool.and_eq_true, decide_eq_true_iff, decide_eq_true_iff] at qp
    have hz' := hz
    obtain ⟨⟨z1, z2⟩, z3, z4⟩ := hz'
    obtain ⟨c1, k1, k2, k3⟩ := c_mayBuild fu 0 (by omega) a3.1 a1 (x := x) (y := y) (by omega) (by omega) (by omega) (by omega) hw01
    rw [q2, Bool.true_and] at k1
    obtain ⟨m1, n1, n2⟩ := m_mayBuild fu (by omega) a3.1 a2 q2 (v := w + 1) (by omega)
    have hS1 := MS_P a2 n2 (fun _ => rfl)
    refine doH fu a1 a3 hb hW true (!ovB s && (decide (0 < pg s (s 7) 3) && adB s x y (w + 1))) (fun m => bd (K_X12_laysAside fu m) (fun m_5 => bd (K_X12_wayOf fu xc m_5) (fun x_6 => bd (K_X12_builds fu xa xb x_6 m_5) (fun p_7 => lt_ p_7.1 (fun x_8 => bd (K_X12_keeps fu p_7.2) (fun m_9 => some (x_8, m_9))))))) (mg := m1) hS1 (Fn_B n2) ?_ (fun q => absurd q (by decide)) (fun _ q => ⟨c1, ?_, AS_g k3 (fun k j z => ZP0_o (by omega)) k2 (BW_P k3 (fun j => ZP0_o (by omega)) hb)⟩) (fun _ q => ?_)
    · unfold K_X12_build K_X12_build_33
      have hmL' : K_X12_isPlace fu xa xb (mMp mem) = some (zi (bi true)) := by rw [ex, ey, hmL, q2]
      have n1' : K_X12_mayBuild fu xa xb (zi (w + 1)) (mMp mem) = some (zi (bi (!ovB s && (decide (0 < pg s (s 7) 3) && adB s x y (w + 1)))), m1) := by rw [ex, ey, n1]
      rw [hmL', bd_s, if_neg (show ¬ zi (bi true) = 0 by decide), hw, bd_s, n1', bd_s]
      cases (!ovB s && (decide (0 < pg s (s 7) 3) && adB s x y (w + 1))) with
      | true =>
        rw [if_neg (show ¬ zi (bi true) = 0 by decide), h34]
        rfl
      | false =>
        rw [if_pos (show zi (bi false) = 0 from rfl), h34]
        rfl
    · unfold K_L_build
      rw [hX, ex, ey, hcL.1 q2, k1, q, bd_s, if_pos (show zi (bi false) = 0 from rfl)]
      rfl
    · have qq := q
      rw [Bool.and_eq_true, Bool.and_eq_true, decide_eq_true_iff] at qq
      have ho : ovB s = false := by
        have := qq.1
        cases hh : ovB s with
        | true =>
          rw [hh] at this
          exact absurd this (by decide)
        | false => rfl
      have had := qq.2.2
      have hov := ov_2 a3.1.2.1 ho
      have hc7 := a3.1.2.1.2.2.2.2.2.1
      have hc2 := a3.1.2.1.1
      obtain ⟨i, hi⟩ : ∃ i : Nat, s 7 = i := ⟨(s 7).toNat, by omega⟩
      have hI2 : InvH (bdS s x y (w + 1)) := InvH_bd a3 q2 (by omega) had ho qq.2.1
      obtain ⟨c2, x1, x2, x3, x4⟩ := c_keep fu (by omega) e1 (HSc_fr e2 k3 (fun k j z => ZP0_o (by omega))) k2
      obtain ⟨c3, y1, y2, y3⟩ := c_buildW fu 0 (by omega) a3.1 x3 q2 hw01 had ho
      have f0 : Fr (fun k j => k == 0 && j == 0) m1 (mw m1 0 0 0) := Fr_mw _ _ rfl
      have hS0 := MS_P hS1 f0 (fun _ => rfl)
      obtain ⟨m3, p1, p2, p3, p4⟩ := m_layS fu (by omega) hS0
      obtain ⟨m4, r1, r2, r3⟩ := m_builds fu (by omega) a3.1 p3 q2 (v := w + 1) ho
      have h5 : ∀ j, j < 184 → rd m4 5 j = zi (s j) := fun j hj => (r3.1 _ _ rfl).trans (p2 j hj)
      have hm4 : HSm m4 u ps := HSm_fr (HSm_fr (HSm_fr (HSm_fr e3 n2 rfl (fun _ => rfl)) f0 rfl (fun _ => rfl)) p4 rfl (fun _ => rfl)) r3 rfl (fun _ => rfl)
      obtain ⟨m5, v1, v2, v3⟩ := m_keeps fu (by omega) e1 hm4 h5
      have hS5 := MS_P r2 v3 (fun _ => rfl)
      have r6 : rd c2 (pRace 0) 6 = zi (i : Int) := by rw [x3.2.1.2.2.2.1, hi]
      have h22 : bdS s x y (w + 1) 2 = s 2 := by
        unfold bdS
        rw [etS_ne (by decide) (by decide)]
        exact bw_lt qp.1.1 qp.2.1 hc7.1 hc7.2 (Or.inl (by decide)) (by decide)
      have r7 := (y2.2.2.1 i (by omega) (by rw [h22]; omega)).2.2.1
      rw [← hi, bd_p3 qp.1.1 qp.2.1 hc7] at r7
      refine ⟨zi (pg s (s 7) 3 - 1), c3, m5, ?_, ?_, ?_, ?_⟩
      · unfold K_L_build
        rw [hX, ex, ey, hcL.1 q2, k1, q, bd_s, if_neg (show ¬ zi (bi true) = 0 by decide), x1, bd_s, r6, gi_zi (by omega) (by omega) (by decide), y1, bd_s, cl4 (by omega), r7]
        rfl
      · show bd (K_X12_laysAside fu (mw m1 0 0 0)) _ = _
        rw [p1, bd_s, hw, bd_s, ex, ey, r1, bd_s, ltf, v1, bd_s]
      · refine JJ_mv b1 b2 d1 d3 d4 hK y2 hS5 hI2 (by unfold kpU; split <;> omega) (HSc_fr x2 y3 (fun k j q => ?_)) v2 (kp_inv e1 e4 a3) (Fr_tr (Fr_tr (Fr_mono k3 (fun _ _ q => G_ZP q)) (Fr_mono x4 (fun _ _ q => G_K q))) (Fr_mono y3 (fun _ _ q => G_R0 q))) (Fr_tr (Fr_tr (Fr_tr (Fr_tr (Fr_mono n2 (fun _ _ q => PM_PB (G_Mp q))) (Fr_mono f0 (fun _ _ q => G_00 q))) (Fr_mono p4 (fun _ _ q => G_15 q))) (Fr_mono r3 (fun _ _ q => PMt_Mp (G_Mp q)))) (Fr_mono v3 (fun _ _ q => G_H q)))
        unfold ZR
        simp only [Bool.and_eq_false_iff, decide_eq_false_iff_not]
        omega
      · rw [v3.1 0 0 rfl, r3.1 0 0 rfl, p4.1 0 0 rfl, rd_mw, if_pos ⟨rfl, rfl⟩]
        rfl
  · have q0 := bo_f q2
    refine doH fu a1 a3 hb hW false false (fun m => bd (K_X12_laysAside fu m) (fun m_5 => bd (K_X12_wayOf fu xc m_5) (fun x_6 => bd (K_X12_builds fu xa xb x_6 m_5) (fun p_7 => lt_ p_7.1 (fun x_8 => bd (K_X12_keeps fu p_7.2) (fun m_9 => some (x_8, m_9))))))) (mg := mMp mem) a2 (fun _ _ _ => rfl) ?_ (fun _ => ?_) (fun q => absurd q (by decide)) (fun q => absurd q (by decide))
    · unfold K_X12_build K_X12_build_33
      have hmL' : K_X12_isPlace fu xa xb (mMp mem) = some (zi (bi false)) := by rw [ex, ey, hmL, q0]
      rw [hmL', bd_s, if_pos (show zi (bi false) = 0 from rfl), h34]
      rfl
    · unfold K_L_build
      rw [hX, ex, ey, hcL.2 q0]
      rfl
theorem case36 (fu : Nat) (hfu : 40000 ≤ fu) (a : Nat → Int32) {mem : Mem} (h : JJ mem (mMp mem)) : ∃ mem2, K_case_36 fu a mem = some mem2 ∧ JJ mem2 (mMp mem2) := by
  unfold K_case_36
  by_cases q : a 3 = 0
  · have := bld_w fu hfu (a 1) (a 2) 0 0 (Or.inl ⟨rfl, rfl⟩) h
    simp only [if_pos q]
    exact this
  · have := bld_w fu hfu (a 1) (a 2) 1 1 (Or.inr ⟨rfl, rfl⟩) h
    simp only [if_neg q]
    exact this
theorem case38 (fu : Nat) (hfu : 40000 ≤ fu) (a : Nat → Int32) {mem : Mem} (h : JJ mem (mMp mem)) : ∃ mem2, K_case_38 fu a mem = some mem2 ∧ JJ mem2 (mMp mem2) := by
  have key : K_case_38 fu a mem = rowA fu (K_L_play fu (a 1) (a 2) mem) (K_X12_play fu (a 1) (a 2)) mem := rfl
  rw [key]
  have h' := h
  obtain ⟨s, sv, u, ps, L, T, e, p, hv, rp, ⟨⟨a1, a2, a3⟩, ⟨b1, b2⟩, d1, d3, d4⟩, ⟨e1, e2, e3, e4⟩, hK⟩ := h'
  obtain ⟨mo, hm1, hm2, em⟩ := zi_ex (a 1)
  obtain ⟨n, hn1, hn2, en⟩ := zi_ex (a 2)
  have hq := c_mayPlay fu mem hm1 hm2 hn1 hn2
  have hin1 : K_X12_isIn fu (zl mo) 0 1 (mMp mem) = _ := k_isIn fu (mMp mem) (v_ := mo) (a_ := 0) (b_ := 1) hm1 hm2 (by decide) (by decide) (by decide) (by decide)
  have hin2 : K_X12_isIn fu (zl n) 1 99 (mMp mem) = _ := k_isIn fu (mMp mem) (v_ := n) (a_ := 1) (b_ := 99) hn1 hn2 (by decide) (by decide) (by decide) (by decide)
  have hgo : K_X12_play fu (zi mo) (zi n) (mMp mem) = K_X12_play_28 fu (zi mo) (zi n) (zi (bi (plB mo n))) (mMp mem) := by
    unfold K_X12_play K_X12_play_27 plB
    rw [zl_of hm1 hm2, zl_of hn1 hn2, hin1, bd_s]
    cases decide (0 ≤ mo ∧ mo ≤ 1) with
    | false =>
      rw [if_pos (show zi (bi false) = 0 from rfl), Bool.false_and]
      rfl
    | true =>
      rw [if_neg (show ¬ zi (bi true) = 0 by decide), hin2, bd_s, Bool.true_and]
      cases decide (1 ≤ n ∧ n ≤ 99) with
      | false =>
        rw [if_pos (show zi (bi false) = 0 from rfl)]
        rfl
      | true =>
        rw [if_neg (show ¬ zi (bi true) = 0 by decide)]
        rfl
  obtain ⟨m1, n1, n2, n3⟩ := m_goes fu (mMp mem) (plB mo n)
  have hS1 := MS_P a2 n3 (fun _ => rfl)
  rw [em, en]
  by_cases q : plB mo n = true
  · rw [q] at n1 n2 hgo
    have qm := q
    unfold plB at qm
    rw [Bool.and_eq_true, decide_eq_true_iff, decide_eq_true_iff] at qm
    obtain ⟨t, ht⟩ : ∃ t : Nat, n = t := ⟨n.toNat, by omega⟩
    obtain ⟨c1, x1, x2, x3, x4⟩ := c_keep fu (by omega) e1 e2 a1
    obtain ⟨c2, y1, y2, y3⟩ := c_plays fu 0 (by omega) qm.1 (n := t) (by omega) a3.1 x3
    obtain ⟨m3, p1, p2, p3, p4⟩ := m_layS fu (by omega) hS1
    obtain ⟨m4, r1, r2, r3⟩ := m_plays fu (by omega) qm.1 (n := t) (by omega) a3.1 p3
    have h5 : ∀ j, j < 184 → rd m4 5 j = zi (s j) := fun j hj => (r3.1 _ _ rfl).trans (p2 j hj)
    have hm4 : HSm m4 u ps := HSm_fr (HSm_fr (HSm_fr e3 n3 rfl (fun _ => rfl)) p4 rfl (fun _ => rfl)) r3 rfl (fun _ => rfl)
    obtain ⟨m5, v1, v2, v3⟩ := m_keeps fu (by omega) e1 hm4 h5
    have hS5 := MS_P r2 v3 (fun _ => rfl)
    have hA : K_L_play fu (zi mo) (zi n) mem = some (0, ml (mset 0 255 mem c2) 255 0 (Int32.toInt64 (zi ((plS mo t s 0).2 : Int)))) := by
      unfold K_L_play K_X11_play
      rw [hq.1 q, x1, bd_s, ht, y1, bd_s]
      rfl
    have hB : K_X12_play fu (zi mo) (zi n) (mMp mem) = some (zi ((plS mo t s 0).2 : Int), m5) := by
      rw [hgo]
      unfold K_X12_play_28
      rw [n1, bd_s, if_neg (show ¬ zi (bi true) = 0 by decide), p1, bd_s, ht, r1, bd_s, ltf, v1, bd_s]
    have h00 : rd m5 0 0 = zi 0 := by
      rw [v3.1 0 0 rfl, r3.1 0 0 rfl, p4.1 0 0 rfl, n2]
      rfl
    exact ⟨_, rowA_ok fu hA P_ok.2 hB h00, rowA_JJ P_ok.1 (JJ_mv b1 b2 d1 d3 d4 hK y2 hS5 (InvH_pl mo t s 0 a3) (by unfold kpU; split <;> omega) (HSc_fr x2 y3 (fun k j q => ZP0_o (by omega))) v2 (kp_inv e1 e4 a3) (Fr_tr (Fr_mono x4 (fun _ _ q => G_K q)) (Fr_mono y3 (fun _ _ q => G_ZP q))) (Fr_tr (Fr_tr (Fr_tr (Fr_mono n3 (fun _ _ q => G_00 q)) (Fr_mono p4 (fun _ _ q => G_15 q))) (Fr_mono r3 (fun _ _ q => G_Mp q))) (Fr_mono v3 (fun _ _ q => G_H q))))⟩
  · have q0 := bo_f q
    rw [q0] at n1 n2 hgo
    have hA : K_L_play fu (zi mo) (zi n) mem = some (1, mset 0 255 mem mem) := by
      unfold K_L_play K_X11_play
      rw [hq.2 q0]
      rfl
    have hB : K_X12_play fu (zi mo) (zi n) (mMp mem) = some (zi 0, m1) := by
      rw [hgo]
      unfold K_X12_play_28
      rw [n1, bd_s, if_pos (show zi (bi false) = 0 from rfl)]
      rfl
    exact ⟨_, rowA_no fu (by decide) hA hB n2, rowA_JJ (P_no mem mem) (JJ_m0 h n3)⟩
end MOVM
