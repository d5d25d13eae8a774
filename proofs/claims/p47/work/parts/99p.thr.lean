section THRM
theorem case13 (fu : Nat) (hfu : 40000 ≤ fu) (a : Nat → Int32) {mem : Mem} (h : JJ mem (mMp mem)) : ∃ mem2, K_case_13 fu a mem = some mem2 ∧ JJ mem2 (mMp mem2) := by
  have key : K_case_13 fu a mem = rowB fu (K_L_isBlocked fu (a 1) (a 2) (a 3) mem) (K_X12_isBlocked fu (a 1) (a 2) (a 3)) mem := rfl
  rw [key]
  refine askHb fu h (fun s hI hR hS hB => ?_)
  obtain ⟨x, hx1, hx2, ex⟩ := zi_ex (a 1)
  obtain ⟨y, hy1, hy2, ey⟩ := zi_ex (a 2)
  obtain ⟨d, hd1, hd2, ed⟩ := zi_ex (a 3)
  obtain ⟨iz, ic, iW, _⟩ := hI.1
  have hc := c_chkC fu hR.1 iz hx1 hx2 hy1 hy2
  have hD := c_chkD fu mem hd1 hd2
  have hm := k_isCell fu hS iz hx1 hx2 hy1 hy2
  have hmD := m_isDir fu (mMp mem) hd1 hd2
  refine ⟨isCl s x y, dB d, fun m => bd (K_X12_blocks fu (a 1) (a 2) (a 3) m) (fun x_4 => (if x_4 = 0 then some (0, m) else some (1, m))), ?_, fun q => ?_, fun q1 q2 => ?_, fun q1 q2 m1 hS1 => ?_⟩
  · unfold K_X12_isBlocked
    rw [ex, ey, ed, hm, bd_s, hmD, bd_s]
  · unfold K_L_isBlocked K_X11_isBlocked
    rw [ex, ey, ed, hc.2 q]
    rfl
  · unfold K_L_isBlocked K_X11_isBlocked
    rw [ex, ey, ed, hc.1 q1, hD.2 q2]
    rfl
  · obtain ⟨u1, u2, u3, u4, u5, hxo, hyo⟩ := cl_nat iz q1
    have qd := of_decide_eq_true q2
    obtain ⟨e, he⟩ : ∃ e : Nat, d = e := ⟨d.toNat, by omega⟩
    have hcN : zi y * 9 + zi x = zi ((9 * y + x).toNat : Int) := by
      rw [show (9 : Int32) = zi 9 from rfl, zi_mul, zi_add]
      exact congrArg zi (by omega)
    have hb := c_behind fu 0 hR.1 (u := (9 * y + x).toNat) (d := e) u5 (by omega)
    have hk := k_blocks fu hS1 iz iW (x := x) (y := y) (d := d) (by omega) (by omega) (by omega) (by omega) (by omega) (by omega)
    have hop : op s (9 * y + x).toNat e = !blk s x y d := by
      unfold op
      rw [hxo, hyo, q1, ← he, Bool.true_and]
    refine ⟨blk s x y d, mem, m1, ?_, ?_, AS_rf hR hB, Fo_rf _⟩
    · unfold K_L_isBlocked K_X11_isBlocked
      rw [ex, ey, ed, hc.1 q1, hD.1 q2]
      show bdc (bd (K_X2_behind fu 0 (zi y * 9 + zi x) (zi d) mem) (fun x_1 => (if x_1 = (-1) then some (0, 1, mem) else some (0, 0, mem)))) _ _ = _
      rw [hcN, he, hb, bd_s, hop, ← he]
      cases z : blk s x y d with
      | true =>
        rw [if_neg (show ¬ (!true) = true by decide), if_pos (show zi (-1) = -1 from rfl)]
        rfl
      | false =>
        have hop2 : op s (9 * y + x).toNat e = true := by rw [hop, z]; rfl
        have hoff := op_off iz u5 (by omega) hop2
        have hlt := op_hg iz _ _ u5 (by omega) hop2
        have i1 : (zi (nbr (9 * y + x).toNat e : Int) = (-1 : Int32)) = ((nbr (9 * y + x).toNat e : Int) = -1) := zi_inj (b_ := -1) (by omega) (by omega) (by decide) (by decide)
        rw [if_pos (show (!false) = true from rfl), he, hoff, if_neg (fun w => by have := i1.mp w; omega)]
        rfl
    · show bd (K_X12_blocks fu (a 1) (a 2) (a 3) m1) _ = _
      rw [ex, ey, ed, hk, bd_s]
      cases blk s x y d with
      | true =>
        rw [if_neg (show ¬ zi (bi true) = 0 by decide)]
        rfl
      | false =>
        rw [if_pos (show zi (bi false) = 0 from rfl)]
        rfl
theorem adm_w (fu : Nat) (hfu : 40000 ≤ fu) (x1 x2 x3 : Int32) (w : Int) (h3 : (x3 = 0 ∧ w = 0) ∨ (x3 = 1 ∧ w = 1)) {mem : Mem} (h : JJ mem (mMp mem)) : ∃ mem2, rowB fu (K_L_isAdmissible fu x1 x2 x3 mem) (K_X12_isAdmissible fu x1 x2 x3) mem = some mem2 ∧ JJ mem2 (mMp mem2) := by
  refine askGb fu h (fun s hI hR hS hB => ?_)
  obtain ⟨x, hx1, hx2, ex⟩ := zi_ex x1
  obtain ⟨y, hy1, hy2, ey⟩ := zi_ex x2
  obtain ⟨iz, ic, iW, ip, ib, iwp, ids, irk, iwy⟩ := hI.1
  have hc := c_chkL fu hR.1 iz hx1 hx2 hy1 hy2
  have hm := k_isPlace fu hS iz hx1 hx2 hy1 hy2
  have hX : K_X11_isAdmissible fu x1 x2 x3 mem = bdt (K_X11_checkPlace fu x1 x2 mem) mem (bd (K_X5_admitsNow fu 0 x1 x2 (zi w) mem) (fun p_1 => gb p_1.1 (some (0, p_1.1, p_1.2)))) := by
    unfold K_X11_isAdmissible
    rcases h3 with ⟨e1, e2⟩ | ⟨e1, e2⟩
    · rw [if_pos e1, e2]
      rfl
    · rw [if_neg (fun z => by rw [e1] at z; exact absurd z (by decide)), e2]
      rfl
  have hw : ∀ m, K_X12_wayOf fu x3 m = some (zi (w + 1)) := fun m => by
    unfold K_X12_wayOf
    rcases h3 with ⟨e1, e2⟩ | ⟨e1, e2⟩
    · rw [if_pos e1, e2]
      rfl
    · rw [if_neg (fun z => by rw [e1] at z; exact absurd z (by decide)), e2]
      rfl
  have hw01 : w = 0 ∨ w = 1 := by omega
  refine ⟨isPl s x y, fun m => bd (K_X12_wayOf fu x3 m) (fun x_3 => bd (K_X12_admits fu x1 x2 x_3 m) (fun p_4 => (if p_4.1 = 0 then some (0, p_4.2) else some (1, p_4.2)))), ?_, fun q => ?_, fun q m1 hS1 => ?_⟩
  · unfold K_X12_isAdmissible
    rw [ex, ey, hm, bd_s]
  · unfold K_L_isAdmissible
    rw [hX, ex, ey, hc.2 q]
    rfl
  · have qp := q
    unfold isPl at qp
    rw [Bool.and_eq_true, decide_eq_true_iff, decide_eq_true_iff] at qp
    obtain ⟨⟨z1, z2⟩, z3, z4⟩ := iz
    obtain ⟨c2, k1, k2, k3⟩ := c_admNow fu 0 (by omega) ⟨⟨z1, z2⟩, z3, z4⟩ ic iW ip iwy hR.1 ⟨hR.2.1.1, hR.2.2.1⟩ (x := x) (y := y) (by omega) (by omega) (by omega) (by omega) hw01
    obtain ⟨m2, n1, n2⟩ := m_admits fu (by omega) hS1 ⟨⟨z1, z2⟩, z3, z4⟩ iW ic ip q (w := w + 1) (by omega)
    have k4 : Fr (PL 0) mem c2 := Fr_mono k3 (fun _ _ z => PQ_PL z)
    refine ⟨adB s x y (w + 1), c2, m2, ?_, ?_, AS_g k4 (fun k j z => PL_o0 (by omega)) (RC_PL k4 k2.1 hR) (BW_P k4 (fun j => PL_o0 (by omega)) hB), Fo_P n2 (fun _ _ z => So_B z)⟩
    · unfold K_L_isAdmissible
      rw [hX, ex, ey, hc.1 q, k1, q, Bool.true_and, bd_s, gb_bi]
      show bdc (some (0, zi (bi (adB s x y (w + 1))), c2)) _ _ = _
      cases adB s x y (w + 1) with
      | true => rfl
      | false => rfl
    · show bd (K_X12_wayOf fu x3 m1) _ = _
      rw [hw, bd_s, ex, ey, n1, bd_s]
      cases adB s x y (w + 1) with
      | true =>
        rw [if_neg (show ¬ zi (bi true) = 0 by decide)]
        rfl
      | false =>
        rw [if_pos (show zi (bi false) = 0 from rfl)]
        rfl
theorem case14 (fu : Nat) (hfu : 40000 ≤ fu) (a : Nat → Int32) {mem : Mem} (h : JJ mem (mMp mem)) : ∃ mem2, K_case_14 fu a mem = some mem2 ∧ JJ mem2 (mMp mem2) := by
  unfold K_case_14
  by_cases q : a 3 = 0
  · have := adm_w fu hfu (a 1) (a 2) 0 0 (Or.inl ⟨rfl, rfl⟩) h
    simp only [if_pos q]
    exact this
  · have := adm_w fu hfu (a 1) (a 2) 1 1 (Or.inr ⟨rfl, rfl⟩) h
    simp only [if_neg q]
    exact this
theorem case15 (fu : Nat) (hfu : 40000 ≤ fu) (a : Nat → Int32) {mem : Mem} (h : JJ mem (mMp mem)) : ∃ mem2, K_case_15 fu a mem = some mem2 ∧ JJ mem2 (mMp mem2) := by
  obtain ⟨s, hR, hS, hI, hB, hW⟩ := JJ_JW h
  obtain ⟨iz, ic, iW, ip, ib, iwp, ids, irk, iwy⟩ := hI.1
  obtain ⟨c2, k1, k2, k3⟩ := c_countAdmitted fu 0 (by omega) iz ic iW ip iwy hR.1 ⟨hR.2.1.1, hR.2.2.1⟩
  obtain ⟨m2, n1, n2, n3⟩ := m_admissible fu (by omega) iz ic iW ip hS
  have k4 : Fr (PL 0) mem c2 := Fr_mono k3 (fun _ _ z => PQ_PL z)
  have hA : K_X11_admissible fu mem = some (zi (adN s), c2) := by
    unfold K_X11_admissible
    rw [k1, bd_s]
  refine ⟨_, call_B hA n1, aft_JJ (JW_JJ (JW_sc hW (AS_g (s := s) k4 (fun k j z => PL_o0 (by omega)) (RC_PL k4 k2.1 hR) (BW_P k4 (fun j => PL_o0 (by omega)) hB)).1 (Fn_P n2 (fun k j z => ?_)) (BW_P k4 (fun j => PL_o0 (by omega)) hB)) (RC_PL k4 k2.1 hR) (MS_P hS n2 (fun _ => rfl)) hI)⟩
  have z2 := PSn_0 z
  simp only [So_B (PSo_n z), Bool.false_or]
  exact z2
theorem case16 (fu : Nat) (hfu : 40000 ≤ fu) (a : Nat → Int32) {mem : Mem} (h : JJ mem (mMp mem)) : ∃ mem2, K_case_16 fu a mem = some mem2 ∧ JJ mem2 (mMp mem2) := by
  obtain ⟨s, hR, hS, hI, hB, hW⟩ := JJ_JW h
  obtain ⟨iz, ic, iW, ip, ib, iwp, ids, irk, iwy⟩ := hI.1
  obtain ⟨c2, k1, k2⟩ := c_regions fu 1 0 (by omega) (by decide) iz hR.1
  have hAS := AS_PC (w := 1) (by decide) hR hB k2
  have f1 : Fr (fun k j => k == 0 && (j == 0 || j == 22)) (mMp mem) (mw (mw (mMp mem) 0 0 0) 0 22 0) := Fr_tr (Fr_mw _ _ rfl) (Fr_mw _ _ rfl)
  obtain ⟨m2, n1, n2⟩ := m_rg14 fu (by omega) iz iW 81 fu 0 (mw (mw (mMp mem) 0 0 0) 0 22 0) (by omega) (by omega) (MS_P hS f1 (fun _ => rfl)) (by rw [rd_mw, if_pos ⟨rfl, rfl⟩]; rfl) (fun v hv => absurd hv (Nat.not_lt_zero v))
  have hA : K_X11_regions fu mem = some (zi (cnB (rgB s) 81 : Int), c2) := by
    unfold K_X11_regions
    rw [k1, bd_s]
  have hBB : K_X12_regions fu (mMp mem) = some (zi (cnB (rgB s) 81 : Int), m2) := by
    unfold K_X12_regions
    rw [ltf, ltf]
    exact n1
  refine ⟨_, call_B hA hBB, aft_JJ (JW_JJ (JW_sc hW hAS.1 (Fn_tr (Fn_P f1 (fun k j z => ?_)) (Fn_P n2 (fun k j z => So_B (PSo_n z)))) hAS.2.2) hAS.2.1 (MS_P (MS_P hS f1 (fun _ => rfl)) n2 (fun _ => rfl)) hI)⟩
  have := PSo_k (PSo_n z)
  have z2 := PSn_0 z
  simp only [Bool.and_eq_false_iff, Bool.or_eq_false_iff, beq_eq_false_iff_ne, ne_eq] at z2 ⊢
  omega
theorem case17 (fu : Nat) (hfu : 40000 ≤ fu) (a : Nat → Int32) {mem : Mem} (h : JJ mem (mMp mem)) : ∃ mem2, K_case_17 fu a mem = some mem2 ∧ JJ mem2 (mMp mem2) := by
  have key : K_case_17 fu a mem = rowB fu (K_L_canStep fu (a 1) (a 2) mem) (K_X12_canStep fu (a 1) (a 2)) mem := rfl
  rw [key]
  refine askHb fu h (fun s hI hR hS hB => ?_)
  obtain ⟨x, hx1, hx2, ex⟩ := zi_ex (a 1)
  obtain ⟨d, hd1, hd2, ed⟩ := zi_ex (a 2)
  have hlv := lv_I hI.1
  obtain ⟨iz, ic, iW, ip, _⟩ := hI.1
  have c2 := ic.1
  have hc := c_chkP fu hR c2 hx1 hx2
  have hm := m_isPawn fu hS c2 hx1 hx2
  have hD := c_chkD fu mem hd1 hd2
  have hmD := m_isDir fu (mMp mem) hd1 hd2
  refine ⟨pB s x, dB d, fun m => bd (K_X12_goesBy fu (a 1) (a 2) m) (fun p_4 => (if 0 < p_4.1 then some (1, p_4.2) else some (0, p_4.2))), ?_, fun q => ?_, fun q1 q2 => ?_, fun q1 q2 m1 hS1 => ?_⟩
  · unfold K_X12_canStep
    rw [ex, ed, hm, bd_s, hmD, bd_s]
  · unfold K_L_canStep K_X11_canStep
    rw [ex, ed, hc.2 q]
    rfl
  · unfold K_L_canStep K_X11_canStep
    rw [ex, ed, hc.1 q1, hD.2 q2]
    rfl
  · have qx := of_decide_eq_true q1
    have qd := of_decide_eq_true q2
    obtain ⟨u, hu⟩ : ∃ u : Nat, x = u := ⟨x.toNat, by omega⟩
    obtain ⟨e, he⟩ : ∃ e : Nat, d = e := ⟨d.toNat, by omega⟩
    have hus : (u : Int) < s 2 := by omega
    have he4 : e < 4 := by omega
    have hl := c_landing fu 0 (by omega) hlv hR hus he4
    obtain ⟨m2, n1, n2⟩ := m_goesBy fu (by omega) hlv hS1 hus he4
    have g3 := gB_012 s u e
    have i0 : ((0 : Int32) < zi (gB s u e)) = (0 < gB s u e) := zi_lt (a_ := 0) (by decide) (by decide) (by omega) (by omega)
    have hA0 : K_L_canStep fu (a 1) (a 2) mem = bdc (bd (K_X6_landing fu 0 (zi (u : Int)) (zi (e : Int)) mem) (fun x_1 => (if x_1 = (-1) then some (0, 0, mem) else some (0, 1, mem)))) (fun x m1 => (if x = 0 then some (0, (ml (mset 0 255 mem m1) 255 (Int32.toNatClampNeg 0) 0)) else some (0, (ml (mset 0 255 mem m1) 255 (Int32.toNatClampNeg 0) 1)))) (fun k m1 => if k = 3 then some (1, (mset 0 255 mem m1)) else if k = 1 then some (2, (mset 0 255 mem m1)) else none) := by
      unfold K_L_canStep K_X11_canStep
      rw [ex, ed, hc.1 q1, hD.1 q2, hu, he]
      rfl
    rw [hl, bd_s] at hA0
    by_cases q : gB s u e = 0
    · refine ⟨false, mem, m2, ?_, ?_, AS_rf hR hB, Fo_P n2 (fun _ _ z => So_27 z)⟩
      · rw [hA0, if_pos q, if_pos (show zi (-1) = -1 from rfl)]
        rfl
      · show bd (K_X12_goesBy fu (a 1) (a 2) m1) _ = _
        rw [ex, ed, hu, he, n1, bd_s, if_neg (fun w => by have := i0.mp w; omega)]
        rfl
    · have hld := (gB_ld iz (ip u (by omega) hus) he4 q).1
      have i1 : (zi (ldN s u e : Int) = (-1 : Int32)) = ((ldN s u e : Int) = -1) := zi_inj (b_ := -1) (by omega) (by omega) (by decide) (by decide)
      refine ⟨true, mem, m2, ?_, ?_, AS_rf hR hB, Fo_P n2 (fun _ _ z => So_27 z)⟩
      · rw [hA0, if_neg q, if_neg (fun w => by have := i1.mp w; omega)]
        rfl
      · show bd (K_X12_goesBy fu (a 1) (a 2) m1) _ = _
        rw [ex, ed, hu, he, n1, bd_s, if_pos (i0.mpr (by omega))]
        rfl
theorem case18 (fu : Nat) (hfu : 40000 ≤ fu) (a : Nat → Int32) {mem : Mem} (h : JJ mem (mMp mem)) : ∃ mem2, K_case_18 fu a mem = some mem2 ∧ JJ mem2 (mMp mem2) := by
  have key : K_case_18 fu a mem = rowB fu (K_L_isBanned fu (a 1) (a 2) mem) (K_X12_isBanned fu (a 1) (a 2)) mem := rfl
  rw [key]
  refine askHb fu h (fun s hI hR hS hB => ?_)
  obtain ⟨x, hx1, hx2, ex⟩ := zi_ex (a 1)
  obtain ⟨d, hd1, hd2, ed⟩ := zi_ex (a 2)
  obtain ⟨iz, ic, iW, ip, ib, _⟩ := hI.1
  have c2 := ic.1
  have c4 := ic.2.2.2.1
  have hc := c_chkP fu hR c2 hx1 hx2
  have hm := m_isPawn fu hS c2 hx1 hx2
  have hD := c_chkD fu mem hd1 hd2
  have hmD := m_isDir fu (mMp mem) hd1 hd2
  refine ⟨pB s x, dB d, fun m => bd (K_X12_bans fu (a 1) (a 2) m) (fun p_4 => (if p_4.1 = 0 then some (0, p_4.2) else some (1, p_4.2))), ?_, fun q => ?_, fun q1 q2 => ?_, fun q1 q2 m1 hS1 => ?_⟩
  · unfold K_X12_isBanned
    rw [ex, ed, hm, bd_s, hmD, bd_s]
  · unfold K_L_isBanned K_X11_isBanned
    rw [ex, ed, hc.2 q]
    rfl
  · unfold K_L_isBanned K_X11_isBanned
    rw [ex, ed, hc.1 q1, hD.2 q2]
    rfl
  · have qx := of_decide_eq_true q1
    have qd := of_decide_eq_true q2
    obtain ⟨u, hu⟩ : ∃ u : Nat, x = u := ⟨x.toNat, by omega⟩
    obtain ⟨e, he⟩ : ∃ e : Nat, d = e := ⟨d.toNat, by omega⟩
    have hus : (u : Int) < s 2 := by omega
    have he4 : e < 4 := by omega
    have hpu := ip u (by omega) hus
    have hpu' := hpu
    obtain ⟨p1, p2, p3, p4, p5, p6, _⟩ := hpu'
    have hxy := cl_nat iz p1
    have hb := c_bannedNow fu 0 (by omega) iz ic.2.1 c2.2 ib (RC_CBn hR) (p := u) (by omega) (hR.2.2.1 u (by omega) hus) hpu c4
    have f27 : Fr P27 m1 (mw m1 0 27 (zi (u : Int))) := Fr_mw _ _ rfl
    have hS2 := MS_P hS1 f27 (fun _ => rfl)
    have o0 : K_X12_of fu (zi (u : Int)) 0 (mw m1 0 27 (zi (u : Int))) = some (zi (pg s u 0)) := k_of fu hS2 (k := 0) (by omega) (by omega) (by decide) (by decide)
    have o1 : K_X12_of fu (zi (u : Int)) 1 (mw m1 0 27 (zi (u : Int))) = some (zi (pg s u 1)) := k_of fu hS2 (k := 1) (by omega) (by omega) (by decide) (by decide)
    have o5 : K_X12_of fu (zi (u : Int)) 5 (mw m1 0 27 (zi (u : Int))) = some (zi (pg s u 5)) := k_of fu hS2 (k := 5) (by omega) (by omega) (by decide) (by decide)
    have o4 : K_X12_of fu (zi (u : Int)) 4 (mw m1 0 27 (zi (u : Int))) = some (zi (pg s u 4)) := k_of fu hS2 (k := 4) (by omega) (by omega) (by decide) (by decide)
    have hf := m_isForb fu (by omega) hS2 iz c2.2 ic.2.1 ib (p := (u : Int)) (x := pg s u 0) (y := pg s u 1) (last := pg s u 5) (num := pg s u 4) (d := e) (by rw [rd_mw, if_pos ⟨rfl, rfl⟩]) (by omega) (by omega) (by omega) p5 (by omega) he4
    refine ⟨fbB s u (pg s u 0) (pg s u 1) (pg s u 5) (pg s u 4) e, mem, mw m1 0 27 (zi (u : Int)), ?_, ?_, AS_rf hR hB, Fo_P f27 (fun _ _ z => So_27 z)⟩
    · have hbit := msk_bit (fun d => fbB s u (pg s u 0) (pg s u 1) (pg s u 5) (pg s u 4) d) he4
      have hbit' : ((msk (fun d => fbB s u (pg s u 0) (pg s u 1) (pg s u 5) (pg s u 4) d)) >>> ((zi (e : Int)) &&& 31)) &&& 1 = zi (bi (fbB s u (pg s u 0) (pg s u 1) (pg s u 5) (pg s u 4) e)) := hbit
      unfold K_L_isBanned K_X11_isBanned
      rw [ex, ed, hc.1 q1, hD.1 q2, hu, he]
      show bdc (bd (K_X6_bannedNow fu 0 (zi (u : Int)) mem) (fun x_1 => (if ((x_1 >>> ((zi (e : Int)) &&& 31)) &&& 1) = 0 then some (0, 0, mem) else some (0, 1, mem)))) _ _ = _
      rw [hb, bd_s, hbit']
      cases fbB s u (pg s u 0) (pg s u 1) (pg s u 5) (pg s u 4) e with
      | true =>
        rw [if_neg (show ¬ zi (bi true) = 0 by decide)]
        rfl
      | false =>
        rw [if_pos (show zi (bi false) = 0 from rfl)]
        rfl
    · show bd (K_X12_bans fu (a 1) (a 2) m1) _ = _
      unfold K_X12_bans
      rw [ex, ed, hu, he, ltf, o0, bd_s, o1, bd_s, o5, bd_s, o4, bd_s, hf, bd_s, gb_bi, bd_s]
      cases fbB s u (pg s u 0) (pg s u 1) (pg s u 5) (pg s u 4) e with
      | true =>
        rw [if_neg (show ¬ zi (bi true) = 0 by decide)]
        rfl
      | false =>
        rw [if_pos (show zi (bi false) = 0 from rfl)]
        rfl
theorem case21 (fu : Nat) (hfu : 40000 ≤ fu) (a : Nat → Int32) {mem : Mem} (h : JJ mem (mMp mem)) : ∃ mem2, K_case_21 fu a mem = some mem2 ∧ JJ mem2 (mMp mem2) := by
  have key : K_case_21 fu a mem = rowA fu (K_L_distanceFrom fu (a 1) (a 2) (a 3) mem) (K_X12_distanceFrom fu (a 1) (a 2) (a 3)) mem := rfl
  rw [key]
  refine askG fu h (fun s hI hR hS hB => ?_)
  obtain ⟨v, hv1, hv2, ev⟩ := zi_ex (a 1)
  obtain ⟨x, hx1, hx2, ex⟩ := zi_ex (a 2)
  obtain ⟨y, hy1, hy2, ey⟩ := zi_ex (a 3)
  obtain ⟨iz, ic, iW, ip, _⟩ := hI.1
  have c2 := ic.1
  have hc := c_chkP fu hR c2 hv1 hv2
  have hm := m_isPawn fu hS c2 hv1 hv2
  have hcC := c_chkC fu hR.1 iz hx1 hx2 hy1 hy2
  have hmC := k_isCell fu hS iz hx1 hx2 hy1 hy2
  refine ⟨pB s v && isCl s x y, fun m => bd (K_X12_of fu (a 1) 2 m) (fun x_4 => bd (K_X12_lays fu x_4 m) (fun m_5 => gi ((9 * (a 3)) + (a 2)) 81 (some ((rd m_5 7 (Int32.toNatClampNeg ((9 * (a 3)) + (a 2)))), m_5)))), ?_, fun q => ?_, fun q m1 hS1 => ?_⟩
  · unfold K_X12_distanceFrom K_X12_distanceFrom_22 K_X12_distanceFrom_23
    rw [ev, ex, ey, hm, bd_s]
    cases pB s v with
    | false =>
      rw [if_pos (show zi (bi false) = 0 from rfl), Bool.false_and]
      rfl
    | true =>
      rw [if_neg (show ¬ zi (bi true) = 0 by decide), hmC, bd_s, Bool.true_and]
      cases isCl s x y with
      | false =>
        rw [if_pos (show zi (bi false) = 0 from rfl)]
        rfl
      | true =>
        rw [if_neg (show ¬ zi (bi true) = 0 by decide)]
        rfl
  · unfold K_L_distanceFrom K_X11_distanceFrom
    rw [ev, ex, ey]
    cases z : pB s v with
    | false =>
      rw [hc.2 z]
      rfl
    | true =>
      rw [z, Bool.true_and] at q
      rw [hc.1 z, hcC.2 q]
      rfl
  · rw [Bool.and_eq_true] at q
    obtain ⟨q1, q2⟩ := q
    have qv := of_decide_eq_true q1
    obtain ⟨u1, u2, u3, u4, u5, hxo, hyo⟩ := cl_nat iz q2
    obtain ⟨u, hu⟩ : ∃ u : Nat, v = u := ⟨v.toNat, by omega⟩
    have hus : (u : Int) < s 2 := by omega
    have hpu := ip u (by omega) hus
    have p2 := hpu.2.1
    have hcN : zi y * 9 + zi x = zi (9 * y + x) := by
      rw [show (9 : Int32) = zi 9 from rfl, zi_mul, zi_add]
      exact congrArg zi (by omega)
    have hcM : (9 : Int32) * zi y + zi x = zi (9 * y + x) := by
      rw [show (9 : Int32) = zi 9 from rfl, zi_mul, zi_add]
    obtain ⟨c3, t, ix, k1, k2, k3, k4, k5, k6⟩ := c_spread0 fu 1 0 (by omega) (by decide) hR.1 iz (side := pg s u 2) (tgt := 9 * y + x) p2.1 p2.2 (by omega) (by omega)
    obtain ⟨m2, t2, b1, b2, b3, b4, b5⟩ := m_lays fu (by omega) hS1 iz iW (side := pg s u 2) (by omega) (by omega)
    have eo : K_X12_of fu (zi (u : Int)) 2 m1 = some (zi (pg s u 2)) := k_of fu hS1 (k := 2) (by omega) (by omega) (by decide) (by decide)
    have e7 : rd m2 7 (9 * y + x).toNat = zi (dl s (pg s u 2) (9 * y + x).toNat) := by
      rw [b2.1 _ u5, BI_all Sd_lt (op_hg iz) b3 u5]
      rfl
    have ecl : (zi (9 * y + x)).toNatClampNeg = (9 * y + x).toNat := zi_clamp (by omega) (by omega)
    refine ⟨zi (dl s (pg s u 2) (9 * y + x).toNat), c3, m2, ?_, ?_, AS_PC (w := 1) (by decide) hR hB k6, Fo_P b5 (fun _ _ z => So_B z)⟩
    · unfold K_L_distanceFrom K_X11_distanceFrom
      rw [ev, ex, ey, hc.1 q1, hcC.1 q2, hu]
      show bdc (gi (zi (u : Int)) 4 (bd (K_X10_spread fu 1 0 (rd mem (pPawn 0 (Int32.toNatClampNeg (zi (u : Int)))) 1) (-1) (zi y * 9 + zi x) mem) (fun p_2 => some (0, p_2.1, p_2.2)))) _ _ = _
      have k1' : K_X10_spread fu 1 0 (zi (pg s u 2)) (-1) (zi (9 * y + x)) mem = _ := k1
      rw [gi_zi (by omega) (by omega) (by decide), cl4 (by omega), (hR.2.2.1 u (by omega) hus).2.1, hcN, k1', bd_s]
      rfl
    · show bd (K_X12_of fu (a 1) 2 m1) (fun x_4 => bd (K_X12_lays fu x_4 m1) (fun m_5 => gi ((9 * (a 3)) + (a 2)) 81 (some ((rd m_5 7 (Int32.toNatClampNeg ((9 * (a 3)) + (a 2)))), m_5)))) = _
      rw [ev, ex, ey, hu, eo, bd_s, b1, bd_s, hcM, gi_zi (by omega) (by omega) (by decide), ecl, e7]
theorem case25 (fu : Nat) (hfu : 40000 ≤ fu) (a : Nat → Int32) {mem : Mem} (h : JJ mem (mMp mem)) : ∃ mem2, K_case_25 fu a mem = some mem2 ∧ JJ mem2 (mMp mem2) := by
  have key : K_case_25 fu a mem = rowB fu (K_L_isGate fu (a 1) (a 2) (a 3) mem) (K_X12_isGate fu (a 1) (a 2) (a 3)) mem := rfl
  rw [key]
  refine askGb fu h (fun s hI hR hS hB => ?_)
  obtain ⟨v, hv1, hv2, ev⟩ := zi_ex (a 1)
  obtain ⟨x, hx1, hx2, ex⟩ := zi_ex (a 2)
  obtain ⟨y, hy1, hy2, ey⟩ := zi_ex (a 3)
  obtain ⟨iz, ic, iW, ip, _⟩ := hI.1
  have c2 := ic.1
  have hc := c_chkP fu hR c2 hv1 hv2
  have hm := m_isPawn fu hS c2 hv1 hv2
  have hcC := c_chkC fu hR.1 iz hx1 hx2 hy1 hy2
  have hmC := k_isCell fu hS iz hx1 hx2 hy1 hy2
  refine ⟨pB s v && isCl s x y, fun m => bd (K_X12_isGateOf fu (a 1) (a 2) (a 3) m) (fun p_4 => (if p_4.1 = 0 then some (0, p_4.2) else some (1, p_4.2))), ?_, fun q => ?_, fun q m1 hS1 => ?_⟩
  · unfold K_X12_isGate K_X12_isGate_22 K_X12_isGate_23
    rw [ev, ex, ey, hm, bd_s]
    cases pB s v with
    | false =>
      rw [if_pos (show zi (bi false) = 0 from rfl), Bool.false_and]
      rfl
    | true =>
      rw [if_neg (show ¬ zi (bi true) = 0 by decide), hmC, bd_s, Bool.true_and]
      cases isCl s x y with
      | false =>
        rw [if_pos (show zi (bi false) = 0 from rfl)]
        rfl
      | true =>
        rw [if_neg (show ¬ zi (bi true) = 0 by decide)]
        rfl
  · unfold K_L_isGate K_X11_isGate
    rw [ev, ex, ey]
    cases z : pB s v with
    | false =>
      rw [hc.2 z]
      rfl
    | true =>
      rw [z, Bool.true_and] at q
      rw [hc.1 z, hcC.2 q]
      rfl
  · rw [Bool.and_eq_true] at q
    obtain ⟨q1, q2⟩ := q
    have qv := of_decide_eq_true q1
    obtain ⟨u1, u2, u3, u4, u5, hxo, hyo⟩ := cl_nat iz q2
    obtain ⟨u, hu⟩ : ∃ u : Nat, v = u := ⟨v.toNat, by omega⟩
    have hus : (u : Int) < s 2 := by omega
    have hpu := ip u (by omega) hus
    have hcN : zi y * 9 + zi x = zi ((9 * y + x).toNat : Int) := by
      rw [show (9 : Int32) = zi 9 from rfl, zi_mul, zi_add]
      exact congrArg zi (by omega)
    obtain ⟨c3, k1, k2⟩ := c_closesAt fu 1 0 (by omega) (by decide) iz ic ip hR hus u5
    obtain ⟨m2, n1, n2⟩ := m_isGateOf fu (by omega) hS1 iz iW ic hus hpu q2
    refine ⟨gtB s u (9 * y + x).toNat, c3, m2, ?_, ?_, AS_PC (w := 1) (by decide) hR hB k2, Fo_P n2 (fun _ _ z => So_B z)⟩
    · unfold K_L_isGate K_X11_isGate
      rw [ev, ex, ey, hc.1 q1, hcC.1 q2, hu]
      show bdc (gi (zi (u : Int)) 4 (bd (K_X10_closesAt fu 1 0 0 (Int32.toNatClampNeg (zi (u : Int))) (zi y * 9 + zi x) mem) (fun p_2 => gb p_2.1 (some (0, p_2.1, p_2.2))))) _ _ = _
      rw [gi_zi (by omega) (by omega) (by decide), cl4 (by omega), hcN, k1, bd_s, gb_bi]
      cases gtB s u (9 * y + x).toNat with
      | true => rfl
      | false => rfl
    · show bd (K_X12_isGateOf fu (a 1) (a 2) (a 3) m1) _ = _
      rw [ev, ex, ey, hu, n1, bd_s]
      cases gtB s u (9 * y + x).toNat with
      | true =>
        rw [if_neg (show ¬ zi (bi true) = 0 by decide)]
        rfl
      | false =>
        rw [if_pos (show zi (bi false) = 0 from rfl)]
        rfl
def nB (n : Int) : Bool := decide (0 ≤ n ∧ n ≤ 200)
theorem case27 (fu : Nat) (hfu : 40000 ≤ fu) (a : Nat → Int32) {mem : Mem} (h : JJ mem (mMp mem)) : ∃ mem2, K_case_27 fu a mem = some mem2 ∧ JJ mem2 (mMp mem2) := by
  have key : K_case_27 fu a mem = rowA fu (K_L_waysWithBans fu (a 1) (a 2) mem) (K_X12_waysWithBans fu (a 1) (a 2)) mem := rfl
  rw [key]
  refine askH fu h (fun s hI hR hS hB => ?_)
  obtain ⟨v, hv1, hv2, ev⟩ := zi_ex (a 1)
  obtain ⟨n, hn1, hn2, en⟩ := zi_ex (a 2)
  obtain ⟨iz, ic, iW, ip, ib, _⟩ := hI.1
  have c2 := ic.1
  have c4 := ic.2.2.2.1
  have c5 := ic.2.2.2.2.1
  have hc := c_chkP fu hR c2 hv1 hv2
  have hm := m_isPawn fu hS c2 hv1 hv2
  have hin : K_X12_isIn fu (zl n) 0 200 (mMp mem) = _ := k_isIn fu (mMp mem) (v_ := n) (a_ := 0) (b_ := 200) hn1 hn2 (by decide) (by decide) (by decide) (by decide)
  have i0 : (zi n < (0 : Int32)) = (n < 0) := zi_lt (b_ := 0) hn1 hn2 (by decide) (by decide)
  have i2 : ((200 : Int32) < zi n) = (200 < n) := zi_lt (a_ := 200) (by decide) (by decide) hn1 hn2
  refine ⟨pB s v, nB n, fun m => bd (K_X12_hasFinished fu (a 1) m) (fun x_4 => (if x_4 = 0 then bd (K_X12_beginsWalk fu (a 1) m) (fun m_5 => lt_ (mw m_5 0 34 0) (fun m_6 => (K_X12_waysWithBans_56 fu fu (a 1) (a 2) 0 m_6))) else (if a 2 = 0 then (K_X12_waysWithBans_40 fu 1 m) else (K_X12_waysWithBans_40 fu 0 m)))), mMp mem, hS, fun _ _ _ => rfl, ?_, fun q => ?_, fun q1 q2 => ⟨mem, ?_, AS_rf hR hB⟩, fun q1 q2 m1 hS1 => ?_⟩
  · unfold K_X12_waysWithBans
    rw [ev, en, hm, bd_s, zl_of hn1 hn2, hin, bd_s]
    rfl
  · unfold K_L_waysWithBans K_X11_waysWithBans
    rw [ev, en, hc.2 q]
    rfl
  · have qn := of_decide_eq_false q2
    unfold K_L_waysWithBans K_X11_waysWithBans
    rw [ev, en, hc.1 q1]
    by_cases z : n < 0
    · rw [if_pos (i0.mpr z)]
      rfl
    · rw [if_neg (fun w => z (i0.mp w)), if_pos (i2.mpr (by omega))]
      rfl
  · have qv := of_decide_eq_true q1
    have qn := of_decide_eq_true q2
    obtain ⟨u, hu⟩ : ∃ u : Nat, v = u := ⟨v.toNat, by omega⟩
    obtain ⟨t, ht⟩ : ∃ t : Nat, n = t := ⟨n.toNat, by omega⟩
    have hus : (u : Int) < s 2 := by omega
    have hpu := ip u (by omega) hus
    have hpu' := hpu
    obtain ⟨p1, p2, p3, p4, p5, p6, _⟩ := hpu'
    obtain ⟨c3, k1, k2, k3⟩ := c_bwCount fu 0 (by omega) iz ic ib hus hpu (tot := t) (by omega) hR hB
    have f3 : ∀ k j, k ≤ 3 ∨ k = 33 ∨ 101 ≤ k → PWb k j = false := fun k j q => by
      unfold PWb
      simp only [Bool.and_eq_false_iff, decide_eq_false_iff_not]
      omega
    have hAS : AS mem c3 s := AS_g k3 f3 (RC_fr k3 PWb_35 hR) k2
    have hA : K_L_waysWithBans fu (a 1) (a 2) mem = some (0, ml (mset 0 255 mem c3) 255 0 (Int32.toInt64 (zi (wwS s u t)))) := by
      unfold K_L_waysWithBans K_X11_waysWithBans
      rw [ev, en, hc.1 q1, if_neg (fun w => by have := i0.mp w; omega), if_neg (fun w => by have := i2.mp w; omega), hu, ht, k1, bd_s]
      rfl
    have hf := k_fin fu hS1 (p := (u : Int)) (by omega) (by omega) (by omega) (by omega)
    by_cases q : 0 < pg s u 6
    · have it : (zi (t : Int) = (0 : Int32)) = ((t : Int) = 0) := zi_inj (b_ := 0) (by omega) (by omega) (by decide) (by decide)
      refine ⟨_, c3, m1, hA, ?_, hAS, Fo_rf _⟩
      show bd (K_X12_hasFinished fu (a 1) m1) (fun x_4 => (if x_4 = 0 then bd (K_X12_beginsWalk fu (a 1) m1) (fun m_5 => lt_ (mw m_5 0 34 0) (fun m_6 => (K_X12_waysWithBans_56 fu fu (a 1) (a 2) 0 m_6))) else (if a 2 = 0 then (K_X12_waysWithBans_40 fu 1 m1) else (K_X12_waysWithBans_40 fu 0 m1)))) = _
      rw [ev, en, hu, ht, hf, bd_s, decide_eq_true q, if_neg (show ¬ zi (bi true) = 0 by decide)]
      unfold K_X12_waysWithBans_40 wwS
      rw [if_pos q]
      by_cases w : t = 0
      · rw [if_pos (it.mpr (by omega)), if_pos w]
        rfl
      · rw [if_neg (fun z => w (by have := it.mp z; omega)), if_neg w]
        rfl
    · obtain ⟨m2, n1, n2, n3, n4, n5⟩ := m_beginsWalk fu (by omega) iz ic hus hpu hS1
      have f34 : Fr (fun k j => k == 0 && j == 34) m2 (mw m2 0 34 0) := Fr_mw _ _ rfl
      obtain ⟨m3, o1, o2⟩ := m_ww56 fu (by omega) iz iW ic ib hus hpu (tot := t) (by omega) t fu 0 (mw m2 0 34 0) (by omega) (by omega) (MS_P n2 f34 (fun _ => rfl)) ((f34.1 _ _ rfl).trans n3) (fun k hk => ⟨(f34.1 _ _ rfl).trans (n4 k hk).1, (f34.1 _ _ rfl).trans (n4 k hk).2⟩) (by rw [rd_mw, if_pos ⟨rfl, rfl⟩]; rfl)
      refine ⟨_, c3, m3, hA, ?_, hAS, Fo_tr (Fo_P n5 (fun _ _ z => So_W5 z)) (Fo_tr (Fo_P f34 (fun k j z => ?_)) (Fo_P o2 (fun k j z => PW5_4 (So_W5 z))))⟩
      · show bd (K_X12_hasFinished fu (a 1) m1) (fun x_4 => (if x_4 = 0 then bd (K_X12_beginsWalk fu (a 1) m1) (fun m_5 => lt_ (mw m_5 0 34 0) (fun m_6 => (K_X12_waysWithBans_56 fu fu (a 1) (a 2) 0 m_6))) else (if a 2 = 0 then (K_X12_waysWithBans_40 fu 1 m1) else (K_X12_waysWithBans_40 fu 0 m1)))) = _
        unfold wwS
        rw [ev, en, hu, ht, hf, bd_s, decide_eq_false q, if_pos (show zi (bi false) = 0 from rfl), n1, bd_s, ltf, if_neg q]
        exact o1
      · have := PSo_k z
        simp only [Bool.and_eq_false_iff, beq_eq_false_iff_ne, ne_eq]
        omega
end THRM
