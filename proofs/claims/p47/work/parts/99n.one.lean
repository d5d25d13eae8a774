section ONEM
theorem case19 (fu : Nat) (hfu : 40000 ≤ fu) (a : Nat → Int32) {mem : Mem} (h : JJ mem (mMp mem)) : ∃ mem2, K_case_19 fu a mem = some mem2 ∧ JJ mem2 (mMp mem2) := by
  have key : K_case_19 fu a mem = rowA fu (K_L_steps fu (a 1) mem) (K_X12_steps fu (a 1)) mem := rfl
  rw [key]
  refine askP fu h (a 1) (F := bd (K_X6_stepMask fu 0 (a 1) mem) (fun x_1 => some (0, x_1, mem))) (G := fun m => bd (K_X12_stepsOf fu (a 1) m) (fun p_3 => some (p_3.1, p_3.2))) rfl (fun _ => rfl) (fun s hI hR hB u hv hu m1 hS => ?_)
  have hlv := lv_I hI.1
  obtain ⟨m2, n1, n2⟩ := m_stepsOf fu (by omega) hlv hu hS
  rw [hv]
  refine ⟨msk (fun e => decide (gB s (u : Int) e ≠ 0)), mem, m2, ?_, ?_, AS_rf hR hB, Fo_P n2 (fun _ _ q => So_27 q)⟩
  · rw [c_stepMask fu 0 (by omega) hlv hR hu, bd_s]
  · show bd (K_X12_stepsOf fu (zi (u : Int)) m1) _ = _
    rw [n1, bd_s]
theorem case20 (fu : Nat) (hfu : 40000 ≤ fu) (a : Nat → Int32) {mem : Mem} (h : JJ mem (mMp mem)) : ∃ mem2, K_case_20 fu a mem = some mem2 ∧ JJ mem2 (mMp mem2) := by
  have key : K_case_20 fu a mem = rowA fu (K_L_distance fu (a 1) mem) (K_X12_distance fu (a 1)) mem := rfl
  rw [key]
  refine askP fu h (a 1) (F := gi (a 1) 4 (bd (K_X10_measure fu 1 0 0 (Int32.toNatClampNeg (a 1)) mem) (fun p_2 => some (0, p_2.1, p_2.2)))) (G := fun m => bd (K_X12_distanceOf fu (a 1) m) (fun p_3 => some (p_3.1, p_3.2))) rfl (fun _ => rfl) (fun s hI hR hB u hv hu m1 hS => ?_)
  obtain ⟨iz, ic, iW, ip, _⟩ := hI.1
  have c1 := ic.1
  obtain ⟨c2, k1, k2⟩ := c_measure fu 1 0 (by omega) (by decide) iz ic ip hR hu
  obtain ⟨m2, n1, n2⟩ := m_dist fu (by omega) hS iz iW ic (p := (u : Int)) (by omega) hu (ip u (by omega) hu)
  rw [hv]
  refine ⟨zi (dst s u), c2, m2, ?_, ?_, AS_PC (by decide) hR hB k2, Fo_P n2 (fun _ _ q => So_B q)⟩
  · rw [gi_zi (by omega) (by omega) (by decide), cl4 (by omega), k1, bd_s]
  · show bd (K_X12_distanceOf fu (zi (u : Int)) m1) _ = _
    rw [n1, bd_s]
theorem sd_f {s : Nat → Int} (hz : szO s) {p : Int} (hp : pnO s p) (q : 0 < pg s p 6) : dl s (pg s p 2) (celN s p) = 0 := by
  have hcl := cel_lt hz hp
  refine dl_side ⟨hcl.1, ?_, ?_⟩
  · rw [hcl.2.1, hcl.2.2]
    exact hp.1
  · rw [hcl.2.1, hcl.2.2]
    exact hp.2.2.2.2.2.2 q
theorem wy_f {s : Nat → Int} (hz : szO s) {p : Int} (hp : pnO s p) (q : 0 < pg s p 6) : wyC s (pg s p 2) (celN s p) = 1 := by
  unfold wyC
  rw [sd_f hz hp q]
  rfl
theorem onR_0 {s : Nat → Int} {side : Int} {c0 : Nat} (h : dl s side c0 = 0) : ∀ n c : Nat, onR s side c0 n c → c = c0 := by
  intro n
  induction n with
  | zero =>
    intro c hc
    exact hc
  | succ n ih =>
    intro c hc
    obtain ⟨v, d, h1, h2, h3, h4⟩ := hc
    have := ih _ h2
    rw [this, nrD_0 h] at h3
    exact absurd h3 (by decide)
theorem cnB_1 {P : Nat → Bool} {a : Nat} (ha : P a = true) (hP : ∀ c, P c = true → c = a) : ∀ n : Nat, cnB P n = if a < n then 1 else 0 := by
  intro n
  induction n with
  | zero => rfl
  | succ n ih =>
    show cnB P n + (if P n = true then 1 else 0) = _
    rw [ih]
    by_cases q : n = a
    · rw [q, if_neg (Nat.lt_irrefl a), if_pos ha, if_pos (Nat.lt_succ_self a)]
    · rw [if_neg (fun z => q (hP n z))]
      by_cases z : a < n
      · rw [if_pos z, if_pos (by omega)]
      · rw [if_neg z, if_neg (by omega)]
theorem on_f {s : Nat → Int} (hz : szO s) {p : Int} (hp : pnO s p) (q : 0 < pg s p 6) : onN s (pg s p 2) (celN s p) = 1 := by
  have h0 := sd_f hz hp q
  have hcl := cel_lt hz hp
  unfold onN
  rw [cnB_1 (a := celN s p) (onB_t.mpr ⟨0, rfl⟩) (fun c hc => by
    obtain ⟨n, hn⟩ := onB_t.mp hc
    exact onR_0 h0 n c hn) 81, if_pos hcl.1]
theorem case22 (fu : Nat) (hfu : 40000 ≤ fu) (a : Nat → Int32) {mem : Mem} (h : JJ mem (mMp mem)) : ∃ mem2, K_case_22 fu a mem = some mem2 ∧ JJ mem2 (mMp mem2) := by
  have key : K_case_22 fu a mem = rowA fu (K_L_ways fu (a 1) mem) (K_X12_ways fu (a 1)) mem := rfl
  rw [key]
  refine askP fu h (a 1) (F := gi (a 1) 4 (bd (K_X10_countWays fu 1 0 0 (Int32.toNatClampNeg (a 1)) mem) (fun p_2 => some (0, p_2.1, p_2.2)))) (G := fun m => bd (K_X12_hasFinished fu (a 1) m) (fun x_3 => (if x_3 = 0 then bd (K_X12_of fu (a 1) 2 m) (fun x_4 => bd (K_X12_lays fu x_4 m) (fun m_5 => (K_X12_ways_36 fu fu (a 1) 0 m_5))) else some (1, m)))) rfl (fun _ => rfl) (fun s hI hR hB u hv hu m1 hS => ?_)
  obtain ⟨iz, ic, iW, ip, _, _, _, _, iwy⟩ := hI.1
  have c1 := ic.1
  have hpu := ip u (by omega) hu
  have hpu' := hpu
  obtain ⟨_, p2, p3, p4, p5, p6, _⟩ := hpu'
  have c5 := ic.2.2.2.2.1
  have c4 := ic.2.2.2.1
  obtain ⟨c2, k1, k2⟩ := c_countWays fu 1 0 (by omega) (by decide) iz ic ip iwy hR hu
  have hF : gi (zi (u : Int)) 4 (bd (K_X10_countWays fu 1 0 0 (Int32.toNatClampNeg (zi (u : Int))) mem) (fun p_2 => some (0, p_2.1, p_2.2))) = some (0, zi (wyC s (pg s u 2) (celN s u)), c2) := by
    rw [gi_zi (by omega) (by omega) (by decide), cl4 (by omega), k1, bd_s]
  have hf := k_fin fu hS (p := (u : Int)) (by omega) (by omega) (by omega) (by omega)
  rw [hv]
  by_cases q : 0 < pg s u 6
  · refine ⟨_, c2, m1, hF, ?_, AS_PCN (by decide) hR hB k2, Fo_rf _⟩
    show bd (K_X12_hasFinished fu (zi (u : Int)) m1) _ = _
    rw [hf, bd_s, decide_eq_true q, if_neg (show ¬ zi (bi true) = 0 by decide), wy_f iz hpu q]
    rfl
  · obtain ⟨m2, t, a1, a2, a3, a4, a5⟩ := m_lays fu (by omega) hS iz iW (side := pg s u 2) (by omega) (by omega)
    have hS2 := MS_fr a5 PB_2 hS
    have hcl := cel_lt iz hpu
    have e3 : t.1 (celN s u) = dst s u := (BI_all Sd_lt (op_hg iz) a3 hcl.1).trans (dst_dl iz hpu).symm
    have h81 : t.2.2 ≤ 81 := by rw [a3.2.2.1]; exact cnt_le _ _
    obtain ⟨m3, b1, b2⟩ := m_wy36 fu (by omega) iz iW a3 a4 (p := u) (by omega) hpu (by rw [e3]; exact iwy u (by omega) hu) t.2.2 fu 0 m2 (by omega) (by omega) hS2 a2 (fun j hj => absurd hj (Nat.not_lt_zero j))
    have eo : K_X12_of fu (zi (u : Int)) 2 m1 = some (zi (pg s u 2)) := k_of fu hS (k := 2) (by omega) (by omega) (by decide) (by decide)
    refine ⟨_, c2, m3, hF, ?_, AS_PCN (by decide) hR hB k2, Fo_tr (Fo_P a5 (fun _ _ q => So_B q)) (Fo_P b2 (fun _ _ q => So_10 q))⟩
    show bd (K_X12_hasFinished fu (zi (u : Int)) m1) _ = _
    rw [hf, bd_s, decide_eq_false q, if_pos (show zi (bi false) = 0 from rfl), eo, bd_s, a1, bd_s]
    exact b1
theorem case23 (fu : Nat) (hfu : 40000 ≤ fu) (a : Nat → Int32) {mem : Mem} (h : JJ mem (mMp mem)) : ∃ mem2, K_case_23 fu a mem = some mem2 ∧ JJ mem2 (mMp mem2) := by
  have key : K_case_23 fu a mem = rowA fu (K_L_onWays fu (a 1) mem) (K_X12_onWays fu (a 1)) mem := rfl
  rw [key]
  refine askP fu h (a 1) (F := gi (a 1) 4 (bd (K_X10_countCellsOnWays fu 1 0 0 (Int32.toNatClampNeg (a 1)) mem) (fun p_2 => some (0, p_2.1, p_2.2)))) (G := fun m => bd (K_X12_hasFinished fu (a 1) m) (fun x_3 => (if x_3 = 0 then bd (K_X12_of fu (a 1) 2 m) (fun x_4 => bd (K_X12_lays fu x_4 m) (fun m_5 => (K_X12_onWays_36 fu fu (a 1) 0 m_5))) else some (1, m)))) rfl (fun _ => rfl) (fun s hI hR hB u hv hu m1 hS => ?_)
  obtain ⟨iz, ic, iW, ip, _, _, _, _, iwy⟩ := hI.1
  have c1 := ic.1
  have hpu := ip u (by omega) hu
  have hpu' := hpu
  obtain ⟨_, p2, p3, p4, p5, p6, _⟩ := hpu'
  have c5 := ic.2.2.2.2.1
  have c4 := ic.2.2.2.1
  obtain ⟨c2, k1, k2⟩ := c_onWays fu 1 0 (by omega) (by decide) iz ic ip iwy hR hu
  have hF : gi (zi (u : Int)) 4 (bd (K_X10_countCellsOnWays fu 1 0 0 (Int32.toNatClampNeg (zi (u : Int))) mem) (fun p_2 => some (0, p_2.1, p_2.2))) = some (0, zi (onN s (pg s u 2) (celN s u) : Int), c2) := by
    rw [gi_zi (by omega) (by omega) (by decide), cl4 (by omega), k1, bd_s]
  have hf := k_fin fu hS (p := (u : Int)) (by omega) (by omega) (by omega) (by omega)
  rw [hv]
  by_cases q : 0 < pg s u 6
  · refine ⟨_, c2, m1, hF, ?_, AS_PCN (by decide) hR hB k2, Fo_rf _⟩
    show bd (K_X12_hasFinished fu (zi (u : Int)) m1) _ = _
    rw [hf, bd_s, decide_eq_true q, if_neg (show ¬ zi (bi true) = 0 by decide), on_f iz hpu q]
    rfl
  · obtain ⟨m2, t, a1, a2, a3, a4, a5⟩ := m_lays fu (by omega) hS iz iW (side := pg s u 2) (by omega) (by omega)
    have hS2 := MS_fr a5 PB_2 hS
    have hcl := cel_lt iz hpu
    have e3 : t.1 (celN s u) = dst s u := (BI_all Sd_lt (op_hg iz) a3 hcl.1).trans (dst_dl iz hpu).symm
    obtain ⟨m3, b1, b2⟩ := m_ow36 fu (by omega) iz iW a3 a4 (p := u) (by omega) hpu (by rw [e3]; exact iwy u (by omega) hu) 81 fu 0 m2 (by omega) (by omega) hS2 a2 (fun j hj => absurd hj (Nat.not_lt_zero j))
    have eo : K_X12_of fu (zi (u : Int)) 2 m1 = some (zi (pg s u 2)) := k_of fu hS (k := 2) (by omega) (by omega) (by decide) (by decide)
    refine ⟨_, c2, m3, hF, ?_, AS_PCN (by decide) hR hB k2, Fo_tr (Fo_P a5 (fun _ _ q => So_B q)) (Fo_P b2 (fun _ _ q => So_11 q))⟩
    show bd (K_X12_hasFinished fu (zi (u : Int)) m1) _ = _
    rw [hf, bd_s, decide_eq_false q, if_pos (show zi (bi false) = 0 from rfl), eo, bd_s, a1, bd_s]
    exact b1
theorem case24 (fu : Nat) (hfu : 40000 ≤ fu) (a : Nat → Int32) {mem : Mem} (h : JJ mem (mMp mem)) : ∃ mem2, K_case_24 fu a mem = some mem2 ∧ JJ mem2 (mMp mem2) := by
  have key : K_case_24 fu a mem = rowA fu (K_L_gates fu (a 1) mem) (K_X12_gates fu (a 1)) mem := rfl
  rw [key]
  refine askP fu h (a 1) (F := gi (a 1) 4 (bd (K_X10_countGates fu 1 0 0 (Int32.toNatClampNeg (a 1)) mem) (fun p_2 => some (0, p_2.1, p_2.2)))) (G := fun m => (K_X12_gates_18 fu fu (a 1) 0 0 m)) rfl (fun _ => rfl) (fun s hI hR hB u hv hu m1 hS => ?_)
  obtain ⟨iz, ic, iW, ip, _⟩ := hI.1
  have c1 := ic.1
  have hpu := ip u (by omega) hu
  obtain ⟨c2, k1, k2⟩ := c_countGates fu 1 0 (by omega) (by decide) iz ic ip hu hR
  have iz' := iz
  obtain ⟨_, z3, z4⟩ := iz'
  obtain ⟨m2, n1, n2⟩ := m_g18 fu (by omega) iz iW ic hu hpu (s 1).toNat fu 0 m1 (by omega) (by omega) (by omega) hS
  rw [hv]
  refine ⟨zi (cnB (gtB s u) 81 : Int), c2, m2, ?_, ?_, AS_PC (by decide) hR hB k2, Fo_P n2 (fun _ _ q => So_B q)⟩
  · rw [gi_zi (by omega) (by omega) (by decide), cl4 (by omega), k1, bd_s]
  · exact n1
theorem case26 (fu : Nat) (hfu : 40000 ≤ fu) (a : Nat → Int32) {mem : Mem} (h : JJ mem (mMp mem)) : ∃ mem2, K_case_26 fu a mem = some mem2 ∧ JJ mem2 (mMp mem2) := by
  have key : K_case_26 fu a mem = rowA fu (K_L_stepsWithBans fu (a 1) mem) (K_X12_stepsWithBans fu (a 1)) mem := rfl
  rw [key]
  refine askP fu h (a 1) (F := bd (K_X1_leastSteps fu 0 (a 1) mem) (fun p_1 => some (0, p_1.1, p_1.2))) (G := fun m => bd (K_X12_leastWithBans fu (a 1) m) (fun p_3 => some (p_3.1, p_3.2))) rfl (fun _ => rfl) (fun s hI hR hB u hv hu m1 hS => ?_)
  obtain ⟨iz, ic, iW, ip, ib, _⟩ := hI.1
  have c1 := ic.1
  have hpu := ip u (by omega) hu
  obtain ⟨c2, k1, k2, k3⟩ := c_leastSteps fu 0 (by omega) iz ic ib hu hpu hR hB
  obtain ⟨m2, n1, n2⟩ := m_leastWB fu (by omega) iz iW ic ib hu hpu hS
  rw [hv]
  refine ⟨zi (lwS s u), c2, m2, ?_, ?_, AS_g k3 (fun k j q => ?_) (RC_fr k3 PWb_35 hR) k2, Fo_P n2 (fun _ _ q => So_W5 q)⟩
  · rw [k1, bd_s]
  · show bd (K_X12_leastWithBans fu (zi (u : Int)) m1) _ = _
    rw [n1, bd_s]
  · unfold PWb
    simp only [Bool.and_eq_false_iff, decide_eq_false_iff_not]
    omega
theorem case28 (fu : Nat) (hfu : 40000 ≤ fu) (a : Nat → Int32) {mem : Mem} (h : JJ mem (mMp mem)) : ∃ mem2, K_case_28 fu a mem = some mem2 ∧ JJ mem2 (mMp mem2) := by
  have key : K_case_28 fu a mem = rowA fu (K_L_detour fu (a 1) mem) (K_X12_detour fu (a 1)) mem := rfl
  rw [key]
  refine askP fu h (a 1) (F := bd (K_X1_leastSteps fu 0 (a 1) mem) (fun p_1 => (if p_1.1 = (-1) then some (0, (-1), p_1.2) else gi (a 1) 4 (bd (K_X10_measure fu 1 0 0 (Int32.toNatClampNeg (a 1)) p_1.2) (fun p_3 => some (0, (p_1.1 - p_3.1), p_3.2)))))) (G := fun m => bd (K_X12_leastWithBans fu (a 1) m) (fun p_3 => lt_ p_3.1 (fun x_4 => (if x_4 = (-1) then some ((-1), p_3.2) else bd (K_X12_distanceOf fu (a 1) p_3.2) (fun p_5 => some ((x_4 - p_5.1), p_5.2)))))) rfl (fun _ => rfl) (fun s hI hR hB u hv hu m1 hS => ?_)
  obtain ⟨iz, ic, iW, ip, ib, _⟩ := hI.1
  have c1 := ic.1
  have hpu := ip u (by omega) hu
  obtain ⟨c2, k1, k2, k3⟩ := c_leastSteps fu 0 (by omega) iz ic ib hu hpu hR hB
  obtain ⟨m2, n1, n2⟩ := m_leastWB fu (by omega) iz iW ic ib hu hpu hS
  have hR2 := RC_fr k3 PWb_35 hR
  have hS2 := MS_P hS n2 (fun _ => rfl)
  have f3 : ∀ k j, k ≤ 3 ∨ k = 33 ∨ 101 ≤ k → PWb k j = false := fun k j q => by
    unfold PWb
    simp only [Bool.and_eq_false_iff, decide_eq_false_iff_not]
    omega
  rw [hv]
  by_cases q : zi (lwS s u) = -1
  · refine ⟨-1, c2, m2, ?_, ?_, AS_g k3 f3 hR2 k2, Fo_P n2 (fun _ _ q => So_W5 q)⟩
    · rw [k1, bd_s, if_pos q]
    · show bd (K_X12_leastWithBans fu (zi (u : Int)) m1) _ = _
      rw [n1, bd_s, ltf, if_pos q]
  · obtain ⟨c3, d1, d2⟩ := c_measure fu 1 0 (by omega) (by decide) iz ic ip hR2 hu
    obtain ⟨m3, o1, o2⟩ := m_dist fu (by omega) hS2 iz iW ic (p := (u : Int)) (by omega) hu hpu
    have hA2 := AS_PC (w := 1) (by decide) hR2 k2 d2
    refine ⟨zi (lwS s u) - zi (dst s u), c3, m3, ?_, ?_, ⟨Fr_tr (Fr_mono k3 (fun k j q => f3 k j (by have := PSx_k q; omega))) hA2.1, hA2.2⟩, Fo_tr (Fo_P n2 (fun _ _ q => So_W5 q)) (Fo_P o2 (fun _ _ q => So_B q))⟩
    · rw [k1, bd_s, if_neg q, gi_zi (by omega) (by omega) (by decide), cl4 (by omega), d1, bd_s]
    · show bd (K_X12_leastWithBans fu (zi (u : Int)) m1) _ = _
      rw [n1, bd_s, ltf, if_neg q, o1, bd_s]
theorem case30 (fu : Nat) (hfu : 40000 ≤ fu) (a : Nat → Int32) {mem : Mem} (h : JJ mem (mMp mem)) : ∃ mem2, K_case_30 fu a mem = some mem2 ∧ JJ mem2 (mMp mem2) := by
  have key : K_case_30 fu a mem = rowA fu (K_L_advised fu (a 1) mem) (K_X12_advised fu (a 1)) mem := rfl
  rw [key]
  refine askP fu h (a 1) (F := bd (K_X5_advise fu 0 (a 1) mem) (fun p_1 => some (0, p_1.1, p_1.2))) (G := fun m => bd (K_X12_advises fu (a 1) m) (fun p_3 => some (p_3.1, p_3.2))) rfl (fun _ => rfl) (fun s hI hR hB u hv hu m1 hS => ?_)
  have hlv := lv_I hI.1
  obtain ⟨c2, k1, k2⟩ := c_advise fu 0 (by omega) hlv hR hu
  obtain ⟨m2, n1, n2⟩ := m_advises fu (by omega) hlv hu hS
  rw [hv]
  refine ⟨zi (avS s u), c2, m2, ?_, ?_, AS_PC (by decide) hR hB k2, Fo_P n2 (fun _ _ q => So_BA q)⟩
  · rw [k1, bd_s]
  · show bd (K_X12_advises fu (zi (u : Int)) m1) _ = _
    rw [n1, bd_s]
theorem PL_o0 {k j : Nat} (h : k ≤ 3 ∨ k = 28 ∨ k = 33 ∨ 101 ≤ k) : PL 0 k j = false := by
  unfold PL PQ FT PWl PC pDist pQueue pWays pOpen pBuilt pBoard
  simp only [Bool.or_eq_false_iff, Bool.and_eq_false_iff, beq_eq_false_iff_ne, ne_eq]
  omega
theorem case31 (fu : Nat) (hfu : 40000 ≤ fu) (a : Nat → Int32) {mem : Mem} (h : JJ mem (mMp mem)) : ∃ mem2, K_case_31 fu a mem = some mem2 ∧ JJ mem2 (mMp mem2) := by
  have key : K_case_31 fu a mem = rowA fu (K_L_bestWall fu (a 1) mem) (K_X12_bestWall fu (a 1)) mem := rfl
  rw [key]
  refine askP fu h (a 1) (F := bd (K_X5_findBest fu 0 (a 1) mem) (fun p_1 => (if p_1.1 = 0 then some (0, (-1), p_1.2) else some (0, (((100 * (rd p_1.2 17 5)) + (10 * (rd p_1.2 17 4))) + (rd p_1.2 17 3)), p_1.2)))) (G := fun m => bd (K_X12_seeks fu (a 1) m) (fun p_3 => some (p_3.1, p_3.2))) rfl (fun _ => rfl) (fun s hI hR hB u hv hu m1 hS => ?_)
  obtain ⟨iz, ic, iW, ip, ib, _, _, _, iwy⟩ := hI.1
  obtain ⟨c2, k1, k2, k3, k4, k5⟩ := c_findBest fu 0 (by omega) iz ic iW ip iwy hu hR.1 ⟨hR.2.1.1, hR.2.2.1⟩
  obtain ⟨m2, n1, n2, n3⟩ := m_seeks fu (by omega) iz ic iW ip (p := (u : Int)) (by omega) hu hS
  obtain ⟨r1, r2⟩ := bst_sp hI.1 (p := (u : Int)) (by omega) hu
  have hA : AS mem c2 s := AS_g k5 (fun k j q => PL_o0 (by omega)) (RC_PL k5 k2 hR) (BW_P k5 (fun j => PL_o0 (by omega)) hB)
  rw [hv]
  by_cases q : (bstB s u).1 = -1
  · refine ⟨-1, c2, m2, ?_, ?_, hA, Fo_P n3 (fun _ _ q => So_S q)⟩
    · rw [k1, bd_s, decide_eq_false (fun z => z q), if_pos (show zi (bi false) = 0 from rfl)]
    · show bd (K_X12_seeks fu (zi (u : Int)) m1) _ = _
      rw [n1, bd_s, r1.mp q]
      rfl
  · obtain ⟨g1, g2, g3⟩ := k4.2.2 q
    refine ⟨zi (skS s u).1, c2, m2, ?_, ?_, hA, Fo_P n3 (fun _ _ q => So_S q)⟩
    · rw [k1, bd_s, decide_eq_true q, if_neg (show ¬ zi (bi true) = 0 by decide), g1, g2, g3, show (100 : Int32) = zi 100 from rfl, show (10 : Int32) = zi 10 from rfl, zi_mul, zi_mul, zi_add, zi_add, (r2 q).1]
    · show bd (K_X12_seeks fu (zi (u : Int)) m1) _ = _
      rw [n1, bd_s]
theorem case32 (fu : Nat) (hfu : 40000 ≤ fu) (a : Nat → Int32) {mem : Mem} (h : JJ mem (mMp mem)) : ∃ mem2, K_case_32 fu a mem = some mem2 ∧ JJ mem2 (mMp mem2) := by
  have key : K_case_32 fu a mem = rowA fu (K_L_gain fu (a 1) mem) (K_X12_gain fu (a 1)) mem := rfl
  rw [key]
  refine askP fu h (a 1) (F := bd (K_X5_findBest fu 0 (a 1) mem) (fun p_1 => (if p_1.1 = 0 then some (0, (-1), p_1.2) else some (0, (rd p_1.2 17 6), p_1.2)))) (G := fun m => bd (K_X12_seeks fu (a 1) m) (fun p_3 => (if p_3.1 = (-1) then some ((-1), p_3.2) else bd (K_X12_distanceOf fu (a 1) p_3.2) (fun p_4 => some (((rd p_3.2 0 36) - p_4.1), p_4.2))))) rfl (fun _ => rfl) (fun s hI hR hB u hv hu m1 hS => ?_)
  obtain ⟨iz, ic, iW, ip, ib, _, _, _, iwy⟩ := hI.1
  have hpu := ip u (by omega) hu
  obtain ⟨c2, k1, k2, k3, k4, k5⟩ := c_findBest fu 0 (by omega) iz ic iW ip iwy hu hR.1 ⟨hR.2.1.1, hR.2.2.1⟩
  obtain ⟨m2, n1, n2, n3⟩ := m_seeks fu (by omega) iz ic iW ip (p := (u : Int)) (by omega) hu hS
  obtain ⟨r1, r2⟩ := bst_sp hI.1 (p := (u : Int)) (by omega) hu
  have hA : AS mem c2 s := AS_g k5 (fun k j q => PL_o0 (by omega)) (RC_PL k5 k2 hR) (BW_P k5 (fun j => PL_o0 (by omega)) hB)
  have i1 : (zi (skS s u).1 = (-1 : Int32)) = ((skS s u).1 = -1) := zi_inj (b_ := -1) (by have := n2.2.1; omega) (by have := n2.2.1; omega) (by decide) (by decide)
  rw [hv]
  by_cases q : (bstB s u).1 = -1
  · refine ⟨-1, c2, m2, ?_, ?_, hA, Fo_P n3 (fun _ _ q => So_S q)⟩
    · rw [k1, bd_s, decide_eq_false (fun z => z q), if_pos (show zi (bi false) = 0 from rfl)]
    · show bd (K_X12_seeks fu (zi (u : Int)) m1) _ = _
      rw [n1, bd_s, if_pos (i1.mpr (r1.mp q))]
  · have hS2 := MS_P hS n3 (fun _ => rfl)
    obtain ⟨m3, o1, o2⟩ := m_dist fu (by omega) hS2 iz iW ic (p := (u : Int)) (by omega) hu hpu
    refine ⟨zi (bstB s u).1, c2, m3, ?_, ?_, hA, Fo_tr (Fo_P n3 (fun _ _ q => So_S q)) (Fo_P o2 (fun _ _ q => So_B q))⟩
    · rw [k1, bd_s, decide_eq_true q, if_neg (show ¬ zi (bi true) = 0 by decide), k4.2.1]
    · show bd (K_X12_seeks fu (zi (u : Int)) m1) _ = _
      rw [n1, bd_s, if_neg (fun z => q (r1.mpr (i1.mp z))), o1, bd_s, n2.1, zi_sub, (r2 q).2.1]
end ONEM
