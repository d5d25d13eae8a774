section CAD2
def PA (r k j : Nat) : Bool := PC 0 k j || PWl r k j
theorem PA_RP {r i j : Nat} (hi : i < 4) : PA r (pPawn r i) j = false := by
  unfold PA PC PWl pPawn pDist pQueue pWays pOpen pBuilt pBoard
  simp
  omega
theorem PA_race {r : Nat} : PA r (pRace r) 2 = false := by
  unfold PA PC PWl pRace pDist pQueue pWays pOpen pBuilt pBoard
  simp
  omega
theorem PA_18 {r j : Nat} : PA r 18 j = false := by
  unfold PA PC PWl pDist pQueue pWays pOpen pBuilt pBoard
  simp
  omega
theorem PA_19 {r j : Nat} : PA r 19 j = false := by
  unfold PA PC PWl pDist pQueue pWays pOpen pBuilt pBoard
  simp
  omega
theorem PC_PA {r k j : Nat} (h : PA r k j = false) : PC 0 k j = false := by
  unfold PA at h
  rw [Bool.or_eq_false_iff] at h
  exact h.1
theorem PWl_PA {r k j : Nat} (h : PA r k j = false) : PWl r k j = false := by
  unfold PA at h
  rw [Bool.or_eq_false_iff] at h
  exact h.2
/-- what the planner works with -/
def PLI (mem : Mem) (r : Nat) (s : Nat → Int) : Prop := RB mem r s ∧ CPn mem r s ∧ ∀ i : Nat, (i : Int) < s 2 → TRi mem s i
theorem CT_fr {m1 m2 : Mem} {r : Nat} {s : Nat → Int} (h : Fr (PA r) m1 m2) (hP : CPn m1 r s) (hT : ∀ i : Nat, (i : Int) < s 2 → TRi m1 s i) : CPn m2 r s ∧ ∀ i : Nat, (i : Int) < s 2 → TRi m2 s i := ⟨CPn_fr h PA_race (fun i j hi => PA_RP hi) hP, fun i hi => TRi_fr h PA_19 (fun _ _ => PA_18) (hT i hi)⟩
theorem c_adm33 (fu r : Nat) (hfu : 1000 ≤ fu) {s : Nat → Int} (hz : szO s) (hc : cnO s) (hW : wlO s) (hp : pasO s) (hwy : wyO s) {x y w : Int} (hpl : isPl s x y = true) (hw : w = 0 ∨ w = 1) (hr : hrB s x y (w + 1) = true) : ∀ (q n k : Nat) (mem : Mem) (ok : Bool), (k : Int) + q = s 2 → q < n → RB mem r (sw3 s x y (w + 1)) → CPn mem r s → (∀ i : Nat, (i : Int) < s 2 → TRi mem s i) → (ok = true ↔ ∀ p : Int, 0 ≤ p → p < k → dst (sw s x y (w + 1)) p ≠ -1) → ∃ mem2, K_X5_admits_33 fu r n (zi x) (zi y) (zi w) (zi (bi ok)) (zi (k : Int)) mem = some (zi (bi (hwB (sw s x y (w + 1)))), mem2) ∧ RB mem2 r s ∧ Fr (PA r) mem mem2 := by
  have hpl2 := isPl_iff.mp hpl
  have hz2 := hz
  obtain ⟨⟨hw1, hw2⟩, hh1, hh2⟩ := hz2
  have hc2 := hc
  obtain ⟨c1, c2, c3, c4, c5, c6⟩ := hc2
  have e2 : sw s x y (w + 1) 2 = s 2 := sw_lt hpl2.1.1 hpl2.2.1 (by decide)
  have h0 : wg s x y = 0 := by
    unfold hrB at hr
    rw [Bool.and_eq_true, decide_eq_true_iff] at hr
    exact hr.1
  have hz3 : szO (sw3 s x y (w + 1)) := by
    unfold szO
    rw [sw3_ne (by decide), sw3_ne (by decide)]
    exact sw_sz hpl2.1.1 hpl2.2.1 hz
  have fin : ∀ (ok : Bool) (mem : Mem), RB mem r (sw3 s x y (w + 1)) → ok = hwB (sw s x y (w + 1)) → ∃ mem2, K_X5_admits_116 fu r (zi x) (zi y) (zi (bi ok)) mem = some (zi (bi (hwB (sw s x y (w + 1)))), mem2) ∧ RB mem2 r s ∧ Fr (PA r) mem mem2 := fun ok mem hR he => by
    obtain ⟨m2, a1, a2, a3⟩ := c_raze fu r hfu hz hpl hw hr hR
    unfold K_X5_admits_116
    rw [a1, ← he]
    simp only [zi_lit, zl_lit, zi_add, zi_sub, zi_mul, zi_neg, zi_lt, zi_inj, zi_clamp, zl_of, gi_zi, bd_s, ltf, bi_0, bi_1, gb_bi, Int.reduceToNat, Int.reduceNeg, Int.toNat_natCast]
    exact ⟨m2, rfl, a2, Fr_mono a3 (fun _ _ => PWl_PA)⟩
  intro q
  induction q with
  | zero =>
    intro n k mem ok hk hn hR hP hT hok
    obtain ⟨n, rfl⟩ : ∃ f, n = f + 1 := ⟨n - 1, by omega⟩
    rw [K_X5_admits_33]
    simp (disch := omega) only [zi_lit, zl_lit, zi_add, zi_sub, zi_mul, zi_neg, zi_lt, zi_inj, zi_clamp, zl_of, gi_zi, bd_s, ltf, bi_0, bi_1, gb_bi, Int.reduceToNat, Int.reduceNeg, Int.toNat_natCast, hP.1]
    rw [if_neg (by omega)]
    refine fin ok mem hR ?_
    rw [Bool.eq_iff_iff, hwB_t, hok]
    unfold hwP
    rw [e2, show s 2 = (k : Int) by omega]
  | succ q ih =>
    intro n k mem ok hk hn hR hP hT hok
    obtain ⟨n, rfl⟩ : ∃ f, n = f + 1 := ⟨n - 1, by omega⟩
    have hk4 : k < 4 := by omega
    have hks : (k : Int) < s 2 := by omega
    have hpk := hp k (by omega) hks
    obtain ⟨p1, p2, p3, p4, p5, p6, p7⟩ := hpk
    have hRP := hP.2 k hk4 hks
    have e5 := hRP.2.2.2.2.2
    rw [K_X5_admits_33]
    simp (disch := omega) only [zi_lit, zl_lit, zi_add, zi_sub, zi_mul, zi_neg, zi_lt, zi_inj, zi_clamp, zl_of, gi_zi, bd_s, ltf, bi_0, bi_1, gb_bi, Int.reduceToNat, Int.reduceNeg, Int.toNat_natCast, hP.1, e5]
    rw [if_pos hks]
    cases ok with
    | false =>
      rw [if_pos rfl]
      refine fin false mem hR ?_
      refine Eq.symm ?_
      rw [hwB_f]
      intro hh
      have : false = true := hok.mpr (fun p g1 g2 => hh p g1 (by rw [e2]; omega))
      cases this
    | true =>
      rw [if_neg (by decide)]
      have hall := hok.mp rfl
      by_cases hf : pg s k 6 = 0
      · rw [if_pos hf]
        have hTk := hT k hks
        obtain ⟨t1, T, t2, t3, t4⟩ := hTk
        rw [c_cuts fu hk4 t2 (by omega) (by omega) hw]
        simp (disch := omega) only [zi_lit, zl_lit, zi_add, zi_sub, zi_mul, zi_neg, zi_lt, zi_inj, zi_clamp, zl_of, gi_zi, bd_s, ltf, bi_0, bi_1, gb_bi, Int.reduceToNat, Int.reduceNeg, Int.toNat_natCast]
        generalize hcut : (if w = 0 then T (9 * y + x).toNat 0 || T ((9 * y + x).toNat + 1) 0 else T (9 * y + x).toNat 1 || T ((9 * y + x).toNat + 9) 1) = ct
        cases ct with
        | false =>
          rw [if_pos rfl]
          have hd := dst_nocut hz t3 hpl hw h0 (p := (k : Int)) (by omega) ⟨p1, p2, p3, p4, p5, p6, p7⟩ (hwy k (by omega) hks) t4 hcut
          exact ih n (k + 1) mem true (by omega) (by omega) hR hP hT ⟨fun _ p g1 g2 => by
            by_cases g3 : p = k
            · rw [g3, hd]
              exact hwy k (by omega) hks
            · exact hall p g1 (by omega), fun _ => rfl⟩
        | true =>
          rw [if_neg (by decide)]
          have hcl := cel_lt hz (p := (k : Int)) ⟨p1, p2, p3, p4, p5, p6, p7⟩
          have hxy := cl_nat hz p1
          obtain ⟨m1, t, ix, a1, a2, a3, a4, a5, a6⟩ := c_spread0 fu 0 r hfu (by omega) hR hz3 (side := pg s k 2) (tgt := 9 * pg s k 1 + pg s k 0) p2.1 p2.2 (by omega) (by omega)
          have hdk : dl (sw3 s x y (w + 1)) (pg s k 2) (9 * pg s k 1 + pg s k 0).toNat = dst (sw s x y (w + 1)) k := by
            rw [dst_dl (sw_sz hpl2.1.1 hpl2.2.1 hz) (sw_pn hpl2.1.1 hpl2.2.1 (by omega) ⟨p1, p2, p3, p4, p5, p6, p7⟩)]
            unfold celN
            rw [sw_pg hpl2.1.1 hpl2.2.1 (by omega) (by decide), sw_pg hpl2.1.1 hpl2.2.1 (by omega) (by decide), sw_pg hpl2.1.1 hpl2.2.1 (by omega) (by decide)]
            exact dl_cg (sw3_ne (by decide)) (sw3_ne (by decide)) (fun j hj => sw3_ne (by omega)) _ _
          rw [hdk] at a1
          rw [hRP.2.1, hRP.1, a1]
          have hle := dst_le (sw_sz (v := w + 1) hpl2.1.1 hpl2.2.1 hz) (sw_wl (x := x) (y := y) (v := w + 1) (by omega) hW) (sw_pn (v := w + 1) hpl2.1.1 hpl2.2.1 (by omega) (p := (k : Int)) ⟨p1, p2, p3, p4, p5, p6, p7⟩)
          simp (disch := omega) only [zi_lit, zl_lit, zi_add, zi_sub, zi_mul, zi_neg, zi_lt, zi_inj, zi_clamp, zl_of, gi_zi, bd_s, ltf, bi_0, bi_1, gb_bi, Int.reduceToNat, Int.reduceNeg, Int.toNat_natCast]
          have fA : Fr (PA r) mem m1 := Fr_mono a6 (fun _ _ => PC_PA)
          obtain ⟨hP1, hT1⟩ := CT_fr fA hP hT
          have hR1 := RB_fr a6 (PC_35 (by omega)) hR
          by_cases hm : dst (sw s x y (w + 1)) k = -1
          · rw [if_pos hm]
            obtain ⟨mem2, b1, b2, b3⟩ := ih n (k + 1) m1 false (by omega) (by omega) hR1 hP1 hT1 ⟨fun g => Bool.noConfusion g, fun g => absurd hm (g k (by omega) (by omega))⟩
            exact ⟨mem2, b1, b2, Fr_tr fA b3⟩
          · rw [if_neg hm]
            obtain ⟨mem2, b1, b2, b3⟩ := ih n (k + 1) m1 true (by omega) (by omega) hR1 hP1 hT1 ⟨fun _ p g1 g2 => by
              by_cases g3 : p = k
              · rw [g3]
                exact hm
              · exact hall p g1 (by omega), fun _ => rfl⟩
            exact ⟨mem2, b1, b2, Fr_tr fA b3⟩
      · rw [if_neg hf]
        exact ih n (k + 1) mem true (by omega) (by omega) hR hP hT ⟨fun _ p g1 g2 => by
          by_cases g3 : p = k
          · rw [g3]
            unfold dst
            rw [sw_pg hpl2.1.1 hpl2.2.1 (by omega) (by decide), if_pos (by omega)]
            decide
          · exact hall p g1 (by omega), fun _ => rfl⟩
theorem c_admits (fu r : Nat) (hfu : 1000 ≤ fu) {s : Nat → Int} (hz : szO s) (hc : cnO s) (hW : wlO s) (hp : pasO s) (hwy : wyO s) {mem : Mem} (h : PLI mem r s) {x y w : Int} (h1 : -1000 ≤ x) (h2 : x ≤ 1000) (h3 : -1000 ≤ y) (h4 : y ≤ 1000) (hw : w = 0 ∨ w = 1) : ∃ mem2, K_X5_admits fu r (zi x) (zi y) (zi w) mem = some (zi (bi (isPl s x y && adB s x y (w + 1))), mem2) ∧ PLI mem2 r s ∧ Fr (PA r) mem mem2 := by
  have c1 := hc.1
  unfold K_X5_admits adB
  rw [c_hasRoom fu r h.1 hz hW (by omega) (by omega) (by omega) (by omega) hw]
  simp only [zi_lit, zl_lit, zi_add, zi_sub, zi_mul, zi_neg, zi_lt, zi_inj, zi_clamp, zl_of, gi_zi, bd_s, ltf, bi_0, bi_1, gb_bi, Int.reduceToNat, Int.reduceNeg, Int.toNat_natCast]
  cases hpl : isPl s x y with
  | false =>
    rw [if_pos (by simp)]
    exact ⟨mem, rfl, h, Fr_rf _ mem⟩
  | true =>
    cases hr : hrB s x y (w + 1) with
    | false =>
      rw [if_pos (by simp)]
      exact ⟨mem, rfl, h, Fr_rf _ mem⟩
    | true =>
      rw [if_neg (by simp)]
      obtain ⟨m1, a1, a2, a3⟩ := c_raise fu r hfu h.1 hz hpl hw hr
      rw [a1]
      have fA : Fr (PA r) mem m1 := Fr_mono a3 (fun _ _ => PWl_PA)
      obtain ⟨hP1, hT1⟩ := CT_fr fA h.2.1 h.2.2
      obtain ⟨mem2, b1, b2, b3⟩ := c_adm33 fu r hfu hz hc hW hp hwy hpl hw hr (s 2).toNat fu 0 m1 true (by omega) (by omega) a2 hP1 hT1 ⟨fun _ p g1 g2 => by omega, fun _ => rfl⟩
      obtain ⟨hP2, hT2⟩ := CT_fr b3 hP1 hT1
      exact ⟨mem2, b1, ⟨b2, hP2, hT2⟩, Fr_tr fA b3⟩
theorem c_loss (fu r : Nat) (hfu : 1000 ≤ fu) {s : Nat → Int} (hz : szO s) (hc : cnO s) (hW : wlO s) (hp : pasO s) (hwy : wyO s) {mem : Mem} (h : PLI mem r s) {x y w : Int} (hpl : isPl s x y = true) (hw : w = 0 ∨ w = 1) (hr : hrB s x y (w + 1) = true) {k : Nat} (hks : (k : Int) < s 2) : ∃ mem2, K_X5_loss fu r (zi (k : Int)) (zi x) (zi y) (zi w) mem = some (zi (dst (sw s x y (w + 1)) k - dst s k), mem2) ∧ PLI mem2 r s ∧ Fr (PA r) mem mem2 := by
  have hpl2 := isPl_iff.mp hpl
  have hz2 := hz
  obtain ⟨⟨hw1, hw2⟩, hh1, hh2⟩ := hz2
  have c1 := hc.1
  have hk4 : k < 4 := by omega
  have hpk := hp k (by omega) hks
  have h0 : wg s x y = 0 := by
    unfold hrB at hr
    rw [Bool.and_eq_true, decide_eq_true_iff] at hr
    exact hr.1
  have hz3 : szO (sw3 s x y (w + 1)) := by
    unfold szO
    rw [sw3_ne (by decide), sw3_ne (by decide)]
    exact sw_sz hpl2.1.1 hpl2.2.1 hz
  obtain ⟨t1, T, t2, t3, t4⟩ := h.2.2 k hks
  unfold K_X5_loss
  rw [c_cuts fu hk4 t2 (by omega) (by omega) hw]
  simp (disch := omega) only [zi_lit, zl_lit, zi_add, zi_sub, zi_mul, zi_neg, zi_lt, zi_inj, zi_clamp, zl_of, gi_zi, bd_s, ltf, bi_0, bi_1, gb_bi, Int.reduceToNat, Int.reduceNeg, Int.toNat_natCast]
  generalize hcut : (if w = 0 then T (9 * y + x).toNat 0 || T ((9 * y + x).toNat + 1) 0 else T (9 * y + x).toNat 1 || T ((9 * y + x).toNat + 9) 1) = ct
  cases ct with
  | false =>
    rw [if_pos rfl, dst_nocut hz t3 hpl hw h0 (p := (k : Int)) (by omega) hpk (hwy k (by omega) hks) t4 hcut, Int.sub_self]
    exact ⟨mem, rfl, h, Fr_rf _ mem⟩
  | true =>
    rw [if_neg (by decide)]
    obtain ⟨m1, a1, a2, a3⟩ := c_raise fu r hfu h.1 hz hpl hw hr
    have fA : Fr (PA r) mem m1 := Fr_mono a3 (fun _ _ => PWl_PA)
    obtain ⟨hP1, hT1⟩ := CT_fr fA h.2.1 h.2.2
    have hcl := cel_lt hz hpk
    have hxy := cl_nat hz hpk.1
    have hRP := hP1.2 k hk4 hks
    obtain ⟨m2, t, ix, b1, b2, b3, b4, b5, b6⟩ := c_spread0 fu 0 r hfu (by omega) a2 hz3 (side := pg s k 2) (tgt := 9 * pg s k 1 + pg s k 0) hpk.2.1.1 hpk.2.1.2 (by omega) (by omega)
    have hdk : dl (sw3 s x y (w + 1)) (pg s k 2) (9 * pg s k 1 + pg s k 0).toNat = dst (sw s x y (w + 1)) k := by
      rw [dst_dl (sw_sz hpl2.1.1 hpl2.2.1 hz) (sw_pn hpl2.1.1 hpl2.2.1 (by omega) hpk)]
      unfold celN
      rw [sw_pg hpl2.1.1 hpl2.2.1 (by omega) (by decide), sw_pg hpl2.1.1 hpl2.2.1 (by omega) (by decide), sw_pg hpl2.1.1 hpl2.2.1 (by omega) (by decide)]
      exact dl_cg (sw3_ne (by decide)) (sw3_ne (by decide)) (fun j hj => sw3_ne (by omega)) _ _
    rw [hdk] at b1
    have fB : Fr (PA r) m1 m2 := Fr_mono b6 (fun _ _ => PC_PA)
    obtain ⟨hP2, hT2⟩ := CT_fr fB hP1 hT1
    obtain ⟨m3, d1, d2, d3⟩ := c_raze fu r hfu hz hpl hw hr (RB_fr b6 (PC_35 (by omega)) a2)
    have fC : Fr (PA r) m2 m3 := Fr_mono d3 (fun _ _ => PWl_PA)
    obtain ⟨hP3, hT3⟩ := CT_fr fC hP2 hT2
    rw [a1]
    simp (disch := omega) only [zi_lit, zl_lit, zi_add, zi_sub, zi_mul, zi_neg, zi_lt, zi_inj, zi_clamp, zl_of, gi_zi, bd_s, ltf, bi_0, bi_1, gb_bi, Int.reduceToNat, Int.reduceNeg, Int.toNat_natCast]
    rw [hRP.2.1, hRP.1, b1]
    simp (disch := omega) only [zi_lit, zl_lit, zi_add, zi_sub, zi_mul, zi_neg, zi_lt, zi_inj, zi_clamp, zl_of, gi_zi, bd_s, ltf, bi_0, bi_1, gb_bi, Int.reduceToNat, Int.reduceNeg, Int.toNat_natCast]
    rw [d1]
    simp (disch := omega) only [zi_lit, zl_lit, zi_add, zi_sub, zi_mul, zi_neg, zi_lt, zi_inj, zi_clamp, zl_of, gi_zi, bd_s, ltf, bi_0, bi_1, gb_bi, Int.reduceToNat, Int.reduceNeg, Int.toNat_natCast, (hT3 k hks).1]
    exact ⟨m3, rfl, ⟨d2, hP3, hT3⟩, Fr_tr (Fr_tr fA fB) fC⟩
theorem c_admNow (fu r : Nat) (hfu : 1000 ≤ fu) {s : Nat → Int} (hz : szO s) (hc : cnO s) (hW : wlO s) (hp : pasO s) (hwy : wyO s) {mem : Mem} (hR : RB mem r s) (hP : CPn mem r s) {x y w : Int} (h1 : -1000 ≤ x) (h2 : x ≤ 1000) (h3 : -1000 ≤ y) (h4 : y ≤ 1000) (hw : w = 0 ∨ w = 1) : ∃ mem2, K_X5_admitsNow fu r (zi x) (zi y) (zi w) mem = some (zi (bi (isPl s x y && adB s x y (w + 1))), mem2) ∧ PLI mem2 r s ∧ Fr (fun k j => FT k j || PWl r k j) mem mem2 := by
  obtain ⟨m1, a1, a2, a3⟩ := c_markTrails fu r hfu hz hc hW hp hwy hR hP
  have hI : PLI m1 r s := ⟨RB_fr a3 FT_lo hR, CPn_fr a3 (FT_lo _ _ (by unfold pRace; omega)) (fun i j _ => FT_lo _ _ (by unfold pPawn; omega)) hP, a2⟩
  obtain ⟨m2, b1, b2, b3⟩ := c_admits fu r hfu hz hc hW hp hwy hI h1 h2 h3 h4 hw
  unfold K_X5_admitsNow
  rw [a1]
  simp only [zi_lit, zl_lit, zi_add, zi_sub, zi_mul, zi_neg, zi_lt, zi_inj, zi_clamp, zl_of, gi_zi, bd_s, ltf, bi_0, bi_1, gb_bi, Int.reduceToNat, Int.reduceNeg, Int.toNat_natCast, b1]
  refine ⟨m2, rfl, b2, Fr_tr (Fr_mono a3 (fun k j h => ?_)) (Fr_mono b3 (fun k j h => ?_))⟩
  · rw [Bool.or_eq_false_iff] at h
    exact h.1
  · rw [Bool.or_eq_false_iff] at h
    unfold PA
    rw [h.2, Bool.or_false]
    have h5 := h.1
    unfold FT at h5
    rw [Bool.or_eq_false_iff, Bool.or_eq_false_iff] at h5
    exact h5.2.2
end CAD2
