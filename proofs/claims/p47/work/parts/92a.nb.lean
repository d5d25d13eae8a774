section NBB
theorem bdt0 (m : Mem) (r : Option TR) : bdt (some 0) m r = r := rfl
/-- the class holds the race s, and u races to go back to -/
def CQ (c : Mem) (s : Nat → Int) (u : Nat) (ps : Nat → Nat → Int) : Prop := RC c 0 s ∧ BWok c ∧ InvH s ∧ u ≤ 6 ∧ HSc c u ps ∧ ∀ i, i < u → InvH (ps i)
theorem CQ_g {c c2 : Mem} {s : Nat → Int} {u : Nat} {ps : Nat → Nat → Int} {P : Nat → Nat → Bool} (h : CQ c s u ps) (f : Fr P c c2) (hP : ∀ k j, k = 33 ∨ 123 ≤ k → P k j = false) (hR : RC c2 0 s) (hB : BWok c2) : CQ c2 s u ps := ⟨hR, hB, h.2.2.1, h.2.2.2.1, HSc_fr h.2.2.2.2.1 f hP, h.2.2.2.2.2⟩
theorem CQ_P {c c2 : Mem} {s : Nat → Int} {u : Nat} {ps : Nat → Nat → Int} {P : Nat → Nat → Bool} (h : CQ c s u ps) (f : Fr P c c2) (hP : ∀ k j, k = 28 ∨ k = 33 ∨ (35 ≤ k ∧ k < 57) ∨ 123 ≤ k → P k j = false) : CQ c2 s u ps := CQ_g h f (fun k j q => hP k j (by omega)) (RC_fr2 f (fun k j q1 q2 => hP k j (by omega)) h.1) (BW_P f (fun j => hP 28 j (by omega)) h.2.1)
theorem CQ_PC {w : Nat} (hw : w ≤ 1) {c c2 : Mem} {s : Nat → Int} {u : Nat} {ps : Nat → Nat → Int} (h : CQ c s u ps) (f : Fr (PC w) c c2) : CQ c2 s u ps := CQ_P h f (fun k j q => PC_lo hw (by omega))
theorem CQ_PCN {w : Nat} (hw : w ≤ 1) {c c2 : Mem} {s : Nat → Int} {u : Nat} {ps : Nat → Nat → Int} (h : CQ c s u ps) (f : Fr (PCN w) c c2) : CQ c2 s u ps := CQ_P h f (fun k j q => PCN_lo hw (by omega))
theorem CQ_PL {c c2 : Mem} {s : Nat → Int} {u : Nat} {ps : Nat → Nat → Int} (h : CQ c s u ps) (f : Fr (PL 0) c c2) (hB : RB c2 0 s) : CQ c2 s u ps := CQ_g h f (fun k j q => PL_o0 (by omega)) (RC_PL f hB h.1) (BW_P f (fun j => PL_o0 (by omega)) h.2.1)
theorem ck_P {fu : Nat} {c : Mem} {s : Nat → Int} (hR : RC c 0 s) (h2 : 0 ≤ s 2 ∧ s 2 ≤ 4) {p : Nat} (hp : (p : Int) < s 2) : K_X11_checkPawn fu (zi (p : Int)) c = some 0 := (c_chkP fu hR h2 (x := (p : Int)) (by omega) (by omega)).1 (decide_eq_true (by omega))
theorem ck_D {fu : Nat} {c : Mem} {d : Nat} (hd : d < 4) : K_X11_checkDirection fu (zi (d : Int)) c = some 0 := (c_chkD fu c (x := (d : Int)) (by omega) (by omega)).1 (decide_eq_true (by omega))
theorem ck_C {fu : Nat} {c : Mem} {s : Nat → Int} (hR : RC c 0 s) (hz : szO s) {x y : Int} (h : isCl s x y = true) : K_X11_checkCell fu (zi x) (zi y) c = some 0 := by
  have := isCl_iff.mp h
  have hz2 := hz
  obtain ⟨⟨a, b⟩, d, e⟩ := hz2
  exact (c_chkC fu hR.1 hz (x := x) (y := y) (by omega) (by omega) (by omega) (by omega)).1 h
theorem ck_L {fu : Nat} {c : Mem} {s : Nat → Int} (hR : RC c 0 s) (hz : szO s) {x y : Int} (h : isPl s x y = true) : K_X11_checkPlace fu (zi x) (zi y) c = some 0 := by
  have := isPl_iff.mp h
  have hz2 := hz
  obtain ⟨⟨a, b⟩, d, e⟩ := hz2
  exact (c_chkL fu hR.1 hz (x := x) (y := y) (by omega) (by omega) (by omega) (by omega)).1 h
theorem q_setting {fu : Nat} {c : Mem} {s : Nat → Int} {u : Nat} {ps : Nat → Nat → Int} (h : CQ c s u ps) : K_X11_setting fu 3 c = some (0, zi (s 3), c) ∧ K_X11_setting fu 4 c = some (0, zi (s 4), c) ∧ K_X11_setting fu 5 c = some (0, zi (s 5), c) := by
  obtain ⟨⟨r0, r1, r3, _⟩, ⟨r2, r6, r4, _, r5⟩, _⟩ := h.1
  unfold K_X11_setting
  refine ⟨?_, ?_, ?_⟩
  · rw [if_neg (show ¬ (3 : Int32) = 0 by decide), if_neg (show ¬ (3 : Int32) = 1 by decide), if_neg (show ¬ (3 : Int32) = 2 by decide), if_pos (show (3 : Int32) = 3 from rfl), r3]
  · rw [if_neg (show ¬ (4 : Int32) = 0 by decide), if_neg (show ¬ (4 : Int32) = 1 by decide), if_neg (show ¬ (4 : Int32) = 2 by decide), if_neg (show ¬ (4 : Int32) = 3 by decide), if_pos (show (4 : Int32) = 4 from rfl), r4]
  · rw [if_neg (show ¬ (5 : Int32) = 0 by decide), if_neg (show ¬ (5 : Int32) = 1 by decide), if_neg (show ¬ (5 : Int32) = 2 by decide), if_neg (show ¬ (5 : Int32) = 3 by decide), if_neg (show ¬ (5 : Int32) = 4 by decide), if_pos (show (5 : Int32) = 5 from rfl), r5]
theorem q_pawn {fu : Nat} (hfu : 1000 ≤ fu) {c : Mem} {s : Nat → Int} {u : Nat} {ps : Nat → Nat → Int} (h : CQ c s u ps) {p k : Nat} (hp : (p : Int) < s 2) (hk : k ≤ 6) : K_X11_pawn fu (zi (p : Int)) (zi (k : Int)) c = some (0, zi (pg s p k), c) := by
  have c2 := h.2.2.1.1.2.1.1
  have hP : K_X11_pawn fu (zi (p : Int)) (zi (k : Int)) c = bdt (K_X11_checkPawn fu (zi (p : Int)) c) c (gi (zi (p : Int)) 4 (CH7 fu (zi (p : Int)) (zi (k : Int)) c)) := rfl
  rw [hP, ck_P h.1 c2 hp, gi_zi (by omega) (by omega) (by decide), ch7_ok fu hfu h.2.2.1 h.1 hp (by omega)]
  unfold v7
  rw [if_neg (by omega)]
  rfl
theorem q_turnOf {fu : Nat} {c : Mem} {s : Nat → Int} {u : Nat} {ps : Nat → Nat → Int} (h : CQ c s u ps) : K_X11_turnOf fu c = some (if ovB s = true then zi (-1) else zi (s 7)) := by
  unfold K_X11_turnOf K_X6_mover
  rw [c_hasEnded fu 0 h.1 h.2.2.1.1.2.1, bd_s, h.1.2.1.2.2.2.1]
  cases ovB s with
  | true => rfl
  | false => rfl
theorem q_isOver {fu : Nat} {c : Mem} {s : Nat → Int} {u : Nat} {ps : Nat → Nat → Int} (h : CQ c s u ps) : K_X11_isOver fu c = some (zi (bi (ovB s))) := by
  unfold K_X11_isOver
  rw [c_hasEnded fu 0 h.1 h.2.2.1.1.2.1, bd_s, gb_bi]
theorem q_ranked {fu : Nat} (hfu : 1000 ≤ fu) {c : Mem} {s : Nat → Int} {u : Nat} {ps : Nat → Nat → Int} (h : CQ c s u ps) {x : Int} (hx1 : -2147483648 ≤ x) (hx2 : x < 2147483648) : K_X11_ranked fu (zi x) c = some (zi (rkF s x (s 2).toNat)) := by
  obtain ⟨iz, ic, iW, ip, ib, iwp, ids, irk, iwy⟩ := h.2.2.1.1
  have c1 := ic.1
  have e := c_rk fu 0 ic ip irk ⟨h.1.2.1.1, h.1.2.2.1⟩ hx1 hx2 (s 2).toNat fu 0 (by omega) (by omega) (fun i hi => absurd hi (Nat.not_lt_zero i))
  have e' : K_X6_pawnOfRank fu 0 (zi x) c = some (zi (rkF s x (s 2).toNat)) := e
  unfold K_X11_ranked
  rw [e', bd_s]
theorem q_wallAt {fu : Nat} {c : Mem} {s : Nat → Int} {u : Nat} {ps : Nat → Nat → Int} (h : CQ c s u ps) {x y : Int} (hpl : isPl s x y = true) : K_X11_wallAt fu (zi x) (zi y) c = some (0, zi (wg s x y - 1), c) := by
  have hz := h.2.2.1.1.1
  have := isPl_iff.mp hpl
  have hz2 := hz
  obtain ⟨⟨a, b⟩, d, e⟩ := hz2
  have hw := c_wallOn fu 0 h.1.1 hz (x := x) (y := y) (by omega) (by omega) (by omega) (by omega)
  unfold K_X11_wallAt
  rw [ck_L h.1 hz hpl, hw]
  rfl
theorem q_isBlocked {fu : Nat} {c : Mem} {s : Nat → Int} {u : Nat} {ps : Nat → Nat → Int} (h : CQ c s u ps) {x y : Int} (hc : isCl s x y = true) {d : Nat} (hd : d < 4) : K_X11_isBlocked fu (zi x) (zi y) (zi (d : Int)) c = some (0, zi (bi (blk s x y (d : Int))), c) := by
  have iz := h.2.2.1.1.1
  obtain ⟨u1, u2, u3, u4, u5, hxo, hyo⟩ := cl_nat iz hc
  have hcN : zi y * 9 + zi x = zi ((9 * y + x).toNat : Int) := by
    rw [show (9 : Int32) = zi 9 from rfl, zi_mul, zi_add]
    exact congrArg zi (by omega)
  have hb := c_behind fu 0 h.1.1 (u := (9 * y + x).toNat) (d := d) u5 hd
  have hop : op s (9 * y + x).toNat d = !blk s x y (d : Int) := by
    unfold op
    rw [hxo, hyo, hc, Bool.true_and]
  unfold K_X11_isBlocked
  rw [ck_C h.1 iz hc, ck_D hd]
  show bd (K_X2_behind fu 0 (zi y * 9 + zi x) (zi (d : Int)) c) (fun x_1 => (if x_1 = (-1) then some (0, 1, c) else some (0, 0, c))) = _
  rw [hcN, hb, bd_s, hop]
  cases z : blk s x y (d : Int) with
  | true =>
    rw [if_neg (show ¬ (!true) = true by decide), if_pos (show zi (-1) = -1 from rfl)]
    rfl
  | false =>
    have hop2 : op s (9 * y + x).toNat d = true := by rw [hop, z]; rfl
    have hoff := op_off iz u5 (by omega) hop2
    have hlt := op_hg iz _ _ u5 (by omega) hop2
    have i1 : (zi (nbr (9 * y + x).toNat d : Int) = (-1 : Int32)) = ((nbr (9 * y + x).toNat d : Int) = -1) := zi_inj (b_ := -1) (by omega) (by omega) (by decide) (by decide)
    rw [if_pos (show (!false) = true from rfl), hoff, if_neg (fun w => by have := i1.mp w; omega)]
    rfl
theorem q_adm {fu : Nat} (hfu : 1000 ≤ fu) {c : Mem} {s : Nat → Int} {u : Nat} {ps : Nat → Nat → Int} (h : CQ c s u ps) {x y w : Int} (hpl : isPl s x y = true) (hw : w = 0 ∨ w = 1) : ∃ c2, K_X11_isAdmissible fu (zi x) (zi y) (zi w) c = some (0, zi (bi (adB s x y (w + 1))), c2) ∧ CQ c2 s u ps := by
  obtain ⟨iz, ic, iW, ip, ib, iwp, ids, irk, iwy⟩ := h.2.2.1.1
  have qp := isPl_iff.mp hpl
  have iz' := iz
  obtain ⟨⟨z1, z2⟩, z3, z4⟩ := iz'
  obtain ⟨c2, k1, k2, k3⟩ := c_admNow fu 0 (by omega) iz ic iW ip iwy h.1.1 ⟨h.1.2.1.1, h.1.2.2.1⟩ (x := x) (y := y) (by omega) (by omega) (by omega) (by omega) hw
  have k4 : Fr (PL 0) c c2 := Fr_mono k3 (fun _ _ z => PQ_PL z)
  refine ⟨c2, ?_, CQ_PL h k4 k2.1⟩
  rw [hpl, Bool.true_and] at k1
  have hX : K_X11_isAdmissible fu (zi x) (zi y) (zi w) c = bdt (K_X11_checkPlace fu (zi x) (zi y) c) c (bd (K_X5_admitsNow fu 0 (zi x) (zi y) (zi w) c) (fun p_1 => gb p_1.1 (some (0, p_1.1, p_1.2)))) := by
    unfold K_X11_isAdmissible
    rcases hw with rfl | rfl
    · rw [if_pos (show zi 0 = (0 : Int32) from rfl)]
      rfl
    · rw [if_neg (show ¬ zi 1 = (0 : Int32) by decide)]
      rfl
  rw [hX, ck_L h.1 iz hpl, k1, bd_s, gb_bi]
  rfl
theorem q_canStep {fu : Nat} (hfu : 1000 ≤ fu) {c : Mem} {s : Nat → Int} {u : Nat} {ps : Nat → Nat → Int} (h : CQ c s u ps) {p d : Nat} (hp : (p : Int) < s 2) (hd : d < 4) : K_X11_canStep fu (zi (p : Int)) (zi (d : Int)) c = some (0, if gB s p d = 0 then 0 else 1, c) := by
  have hI := h.2.2.1.1
  have hl := c_landing fu 0 hfu (lv_I hI) h.1 hp hd
  unfold K_X11_canStep
  rw [ck_P h.1 hI.2.1.1 hp, ck_D hd]
  show bd (K_X6_landing fu 0 (zi (p : Int)) (zi (d : Int)) c) _ = _
  rw [hl, bd_s]
  by_cases q : gB s p d = 0
  · rw [if_pos q, if_pos q, if_pos (show zi (-1) = -1 from rfl)]
  · have hld := (gB_ld hI.1 (hI.2.2.2.1 p (by omega) hp) hd q).1
    have i1 : (zi (ldN s p d : Int) = (-1 : Int32)) = ((ldN s p d : Int) = -1) := zi_inj (b_ := -1) (by omega) (by omega) (by decide) (by decide)
    rw [if_neg q, if_neg q, if_neg (fun w => by have := i1.mp w; omega)]
theorem q_distance {fu : Nat} (hfu : 1000 ≤ fu) {c : Mem} {s : Nat → Int} {u : Nat} {ps : Nat → Nat → Int} (h : CQ c s u ps) {p : Nat} (hp : (p : Int) < s 2) : ∃ c2, K_X11_distance fu (zi (p : Int)) c = some (0, zi (dst s p), c2) ∧ CQ c2 s u ps := by
  obtain ⟨iz, ic, iW, ip, ib, iwp, ids, irk, iwy⟩ := h.2.2.1.1
  have c1 := ic.1
  obtain ⟨c2, k1, k2⟩ := c_measure fu 1 0 (by omega) (by decide) iz ic ip h.1 hp
  refine ⟨c2, ?_, CQ_PC (by decide) h k2⟩
  unfold K_X11_distance
  rw [ck_P h.1 c1 hp]
  show gi (zi (p : Int)) 4 _ = _
  rw [gi_zi (by omega) (by omega) (by decide), cl4 (by omega), k1, bd_s]
theorem q_distFrom {fu : Nat} (hfu : 1000 ≤ fu) {c : Mem} {s : Nat → Int} {u : Nat} {ps : Nat → Nat → Int} (h : CQ c s u ps) {p : Nat} (hp : (p : Int) < s 2) {x y : Int} (hc : isCl s x y = true) : ∃ c2, K_X11_distanceFrom fu (zi (p : Int)) (zi x) (zi y) c = some (0, zi (dl s (pg s p 2) (9 * y + x).toNat), c2) ∧ CQ c2 s u ps := by
  obtain ⟨iz, ic, iW, ip, ib, iwp, ids, irk, iwy⟩ := h.2.2.1.1
  have c1 := ic.1
  obtain ⟨u1, u2, u3, u4, u5, hxo, hyo⟩ := cl_nat iz hc
  have p2 := (ip p (by omega) hp).2.1
  have hcN : zi y * 9 + zi x = zi (9 * y + x) := by
    rw [show (9 : Int32) = zi 9 from rfl, zi_mul, zi_add]
    exact congrArg zi (by omega)
  obtain ⟨c3, t, ix, k1, k2, k3, k4, k5, k6⟩ := c_spread0 fu 1 0 (by omega) (by decide) h.1.1 iz (side := pg s p 2) (tgt := 9 * y + x) p2.1 p2.2 (by omega) (by omega)
  have k1' : K_X10_spread fu 1 0 (zi (pg s p 2)) (-1) (zi (9 * y + x)) c = _ := k1
  refine ⟨c3, ?_, CQ_PC (w := 1) (by decide) h k6⟩
  unfold K_X11_distanceFrom
  rw [ck_P h.1 c1 hp, ck_C h.1 iz hc]
  show gi (zi (p : Int)) 4 _ = _
  rw [gi_zi (by omega) (by omega) (by decide), cl4 (by omega), (h.1.2.2.1 p (by omega) hp).2.1, hcN, k1', bd_s]
theorem q_ways {fu : Nat} (hfu : 1000 ≤ fu) {c : Mem} {s : Nat → Int} {u : Nat} {ps : Nat → Nat → Int} (h : CQ c s u ps) {p : Nat} (hp : (p : Int) < s 2) : ∃ c2, K_X11_ways fu (zi (p : Int)) c = some (0, zi (wyC s (pg s p 2) (celN s p)), c2) ∧ CQ c2 s u ps := by
  obtain ⟨iz, ic, iW, ip, ib, iwp, ids, irk, iwy⟩ := h.2.2.1.1
  have c1 := ic.1
  obtain ⟨c2, k1, k2⟩ := c_countWays fu 1 0 (by omega) (by decide) iz ic ip iwy h.1 hp
  refine ⟨c2, ?_, CQ_PCN (by decide) h k2⟩
  unfold K_X11_ways
  rw [ck_P h.1 c1 hp]
  show gi (zi (p : Int)) 4 _ = _
  rw [gi_zi (by omega) (by omega) (by decide), cl4 (by omega), k1, bd_s]
theorem q_onWays {fu : Nat} (hfu : 1000 ≤ fu) {c : Mem} {s : Nat → Int} {u : Nat} {ps : Nat → Nat → Int} (h : CQ c s u ps) {p : Nat} (hp : (p : Int) < s 2) : ∃ c2, K_X11_onWays fu (zi (p : Int)) c = some (0, zi (onN s (pg s p 2) (celN s p) : Int), c2) ∧ CQ c2 s u ps := by
  obtain ⟨iz, ic, iW, ip, ib, iwp, ids, irk, iwy⟩ := h.2.2.1.1
  have c1 := ic.1
  obtain ⟨c2, k1, k2⟩ := c_onWays fu 1 0 (by omega) (by decide) iz ic ip iwy h.1 hp
  refine ⟨c2, ?_, CQ_PCN (by decide) h k2⟩
  unfold K_X11_onWays
  rw [ck_P h.1 c1 hp]
  show gi (zi (p : Int)) 4 _ = _
  rw [gi_zi (by omega) (by omega) (by decide), cl4 (by omega), k1, bd_s]
theorem q_gates {fu : Nat} (hfu : 1000 ≤ fu) {c : Mem} {s : Nat → Int} {u : Nat} {ps : Nat → Nat → Int} (h : CQ c s u ps) {p : Nat} (hp : (p : Int) < s 2) : ∃ c2, K_X11_gates fu (zi (p : Int)) c = some (0, zi (cnB (gtB s p) 81 : Int), c2) ∧ CQ c2 s u ps := by
  obtain ⟨iz, ic, iW, ip, ib, iwp, ids, irk, iwy⟩ := h.2.2.1.1
  have c1 := ic.1
  obtain ⟨c2, k1, k2⟩ := c_countGates fu 1 0 (by omega) (by decide) iz ic ip hp h.1
  refine ⟨c2, ?_, CQ_PC (by decide) h k2⟩
  unfold K_X11_gates
  rw [ck_P h.1 c1 hp]
  show gi (zi (p : Int)) 4 _ = _
  rw [gi_zi (by omega) (by omega) (by decide), cl4 (by omega), k1, bd_s]
theorem q_isGate {fu : Nat} (hfu : 1000 ≤ fu) {c : Mem} {s : Nat → Int} {u : Nat} {ps : Nat → Nat → Int} (h : CQ c s u ps) {p : Nat} (hp : (p : Int) < s 2) {x y : Int} (hc : isCl s x y = true) : ∃ c2, K_X11_isGate fu (zi (p : Int)) (zi x) (zi y) c = some (0, zi (bi (gtB s p (9 * y + x).toNat)), c2) ∧ CQ c2 s u ps := by
  obtain ⟨iz, ic, iW, ip, ib, iwp, ids, irk, iwy⟩ := h.2.2.1.1
  have c1 := ic.1
  obtain ⟨u1, u2, u3, u4, u5, hxo, hyo⟩ := cl_nat iz hc
  have hcN : zi y * 9 + zi x = zi ((9 * y + x).toNat : Int) := by
    rw [show (9 : Int32) = zi 9 from rfl, zi_mul, zi_add]
    exact congrArg zi (by omega)
  obtain ⟨c3, k1, k2⟩ := c_closesAt fu 1 0 (by omega) (by decide) iz ic ip h.1 hp u5
  refine ⟨c3, ?_, CQ_PC (w := 1) (by decide) h k2⟩
  unfold K_X11_isGate
  rw [ck_P h.1 c1 hp, ck_C h.1 iz hc]
  show gi (zi (p : Int)) 4 _ = _
  rw [gi_zi (by omega) (by omega) (by decide), cl4 (by omega), hcN, k1, bd_s, gb_bi]
theorem PWb_o {k j : Nat} (q : k = 33 ∨ 101 ≤ k) : PWb k j = false := by
  unfold PWb
  simp only [Bool.and_eq_false_iff, decide_eq_false_iff_not]
  omega
theorem q_least {fu : Nat} (hfu : 1000 ≤ fu) {c : Mem} {s : Nat → Int} {u : Nat} {ps : Nat → Nat → Int} (h : CQ c s u ps) {p : Nat} (hp : (p : Int) < s 2) : ∃ c2, K_X11_stepsWithBans fu (zi (p : Int)) c = some (0, zi (lwS s p), c2) ∧ CQ c2 s u ps := by
  obtain ⟨iz, ic, iW, ip, ib, iwp, ids, irk, iwy⟩ := h.2.2.1.1
  have c1 := ic.1
  have hpu := ip p (by omega) hp
  obtain ⟨c2, k1, k2, k3⟩ := c_leastSteps fu 0 (by omega) iz ic ib hp hpu h.1 h.2.1
  refine ⟨c2, ?_, CQ_g h k3 (fun k j q => PWb_o (by omega)) (RC_fr k3 PWb_35 h.1) k2⟩
  unfold K_X11_stepsWithBans
  rw [ck_P h.1 c1 hp]
  show bd (K_X1_leastSteps fu 0 (zi (p : Int)) c) _ = _
  rw [k1, bd_s]
theorem q_detour {fu : Nat} (hfu : 1000 ≤ fu) {c : Mem} {s : Nat → Int} {u : Nat} {ps : Nat → Nat → Int} (h : CQ c s u ps) {p : Nat} (hp : (p : Int) < s 2) (hl : ¬ zi (lwS s p) = (-1 : Int32)) : ∃ c2, K_X11_detour fu (zi (p : Int)) c = some (0, zi (lwS s p) - zi (dst s p), c2) ∧ CQ c2 s u ps := by
  obtain ⟨iz, ic, iW, ip, ib, iwp, ids, irk, iwy⟩ := h.2.2.1.1
  have c1 := ic.1
  have hpu := ip p (by omega) hp
  obtain ⟨c2, k1, k2, k3⟩ := c_leastSteps fu 0 (by omega) iz ic ib hp hpu h.1 h.2.1
  have h2 : CQ c2 s u ps := CQ_g h k3 (fun k j q => PWb_o (by omega)) (RC_fr k3 PWb_35 h.1) k2
  obtain ⟨c3, d1, d2⟩ := c_measure fu 1 0 (by omega) (by decide) iz ic ip h2.1 hp
  refine ⟨c3, ?_, CQ_PC (by decide) h2 d2⟩
  unfold K_X11_detour
  rw [ck_P h.1 c1 hp]
  show bd (K_X1_leastSteps fu 0 (zi (p : Int)) c) _ = _
  rw [k1, bd_s, if_neg hl, gi_zi (by omega) (by omega) (by decide), cl4 (by omega), d1, bd_s]
theorem q_gain {fu : Nat} (hfu : 1000 ≤ fu) {c : Mem} {s : Nat → Int} {u : Nat} {ps : Nat → Nat → Int} (h : CQ c s u ps) {p : Nat} (hp : (p : Int) < s 2) : ∃ c2, K_X11_gain fu (zi (p : Int)) c = some (0, zi (bstB s p).1, c2) ∧ CQ c2 s u ps := by
  obtain ⟨iz, ic, iW, ip, ib, iwp, ids, irk, iwy⟩ := h.2.2.1.1
  have c1 := ic.1
  obtain ⟨c2, k1, k2, k3, k4, k5⟩ := c_findBest fu 0 (by omega) iz ic iW ip iwy hp h.1.1 ⟨h.1.2.1.1, h.1.2.2.1⟩
  refine ⟨c2, ?_, CQ_PL h k5 k2⟩
  unfold K_X11_gain
  rw [ck_P h.1 c1 hp]
  show bd (K_X5_findBest fu 0 (zi (p : Int)) c) _ = _
  by_cases q : (bstB s p).1 = -1
  · rw [k1, bd_s, decide_eq_false (fun z => z q), if_pos (show zi (bi false) = 0 from rfl), q]
    rfl
  · rw [k1, bd_s, decide_eq_true q, if_neg (show ¬ zi (bi true) = 0 by decide), k4.2.1]
theorem q_harm {fu : Nat} (hfu : 1000 ≤ fu) {c : Mem} {s : Nat → Int} {u : Nat} {ps : Nat → Nat → Int} (h : CQ c s u ps) {p : Nat} (hp : (p : Int) < s 2) {x y w : Int} (hpl : isPl s x y = true) (hw : w = 0 ∨ w = 1) (had : adB s x y (w + 1) = true) : ∃ c2, K_X11_harm fu (zi (p : Int)) (zi x) (zi y) (zi w) c = some (0, zi (dst (sw s x y (w + 1)) p - dst s p), c2) ∧ CQ c2 s u ps := by
  obtain ⟨iz, ic, iW, ip, ib, iwp, ids, irk, iwy⟩ := h.2.2.1.1
  have c1 := ic.1
  have qp := isPl_iff.mp hpl
  have iz' := iz
  obtain ⟨⟨z1, z2⟩, z3, z4⟩ := iz'
  obtain ⟨c2, k1, k2, k3⟩ := c_admNow fu 0 (by omega) iz ic iW ip iwy h.1.1 ⟨h.1.2.1.1, h.1.2.2.1⟩ (x := x) (y := y) (by omega) (by omega) (by omega) (by omega) hw
  have k4 : Fr (PL 0) c c2 := Fr_mono k3 (fun _ _ z => PQ_PL z)
  have h2 : CQ c2 s u ps := CQ_PL h k4 k2.1
  rw [hpl, Bool.true_and, had] at k1
  obtain ⟨c4, d1, d2, d3⟩ := c_loss fu 0 (by omega) iz ic iW ip iwy k2 hpl hw (ad_hr had) hp
  refine ⟨c4, ?_, CQ_PL h2 (Fr_mono d3 (fun _ _ z => PA_PQ (PQ_PL z))) d2.1⟩
  have hX : K_X11_harm fu (zi (p : Int)) (zi x) (zi y) (zi w) c = bdt (K_X11_checkPawn fu (zi (p : Int)) c) c (bdt (K_X11_checkPlace fu (zi x) (zi y) c) c (bd (K_X5_admitsNow fu 0 (zi x) (zi y) (zi w) c) (fun p_1 => (if p_1.1 = 0 then some (2, 0, p_1.2) else bd (K_X5_loss fu 0 (zi (p : Int)) (zi x) (zi y) (zi w) p_1.2) (fun p_2 => some (0, p_2.1, p_2.2)))))) := by
    unfold K_X11_harm
    rcases hw with rfl | rfl
    · rw [if_pos (show zi 0 = (0 : Int32) from rfl)]
      rfl
    · rw [if_neg (show ¬ zi 1 = (0 : Int32) by decide)]
      rfl
  rw [hX, ck_P h.1 c1 hp, ck_L h.1 iz hpl, k1, bd_s, if_neg (show ¬ zi (bi true) = 0 by decide), d1, bd_s]
  rfl
theorem ck_play {fu : Nat} {c : Mem} {mo : Int} (hm : 0 ≤ mo ∧ mo ≤ 1) {n : Nat} (hn : 1 ≤ n ∧ n ≤ 99) : K_X11_checkPlay fu (zi mo) (zi (n : Int)) c = some 0 := (c_mayPlay fu c (a := mo) (b := (n : Int)) (by omega) (by omega) (by omega) (by omega)).1 (by
  unfold plB
  rw [decide_eq_true hm, decide_eq_true (by omega)]
  rfl)
theorem q_foreseen {fu : Nat} (hfu : 1000 ≤ fu) {c : Mem} {s : Nat → Int} {u : Nat} {ps : Nat → Nat → Int} (h : CQ c s u ps) {p : Nat} (hp : (p : Int) < s 2) {mo : Int} (hm : 0 ≤ mo ∧ mo ≤ 1) {n : Nat} (hn : 1 ≤ n ∧ n ≤ 99) : ∃ c2, K_X11_foreseen fu (zi mo) (zi (n : Int)) (zi (p : Int)) c = some (0, zi (pg (plS mo n s 0).1 p 6), c2) ∧ CQ c2 s u ps := by
  have hI := h.2.2.1
  have c1 := hI.1.2.1.1
  have h2 := pl_2 mo n s 0 hI.1
  obtain ⟨c3, k1, k2, k3⟩ := c_copy fu (by omega) (r := 2) (r1 := 0) (by decide) h.1
  obtain ⟨c4, d1, d2, d3⟩ := c_plays fu 2 (by omega) hm (n := n) (by omega) hI.1 k2
  have fc : Fr (ZP 2) c c4 := Fr_tr (Fr_mono k3 (fun _ _ z => (ZP_l z).2.1)) d3
  have r5 := (d2.2.2.1 p (by omega) (by rw [h2]; exact hp)).2.2.2.2.2
  refine ⟨c4, ?_, CQ_P h fc (fun k j z => ZP2_o (by omega))⟩
  unfold K_X11_foreseen
  rw [ck_P h.1 c1 hp, ck_play hm hn, k1]
  show bd (K_X5_playTurns fu 2 (zi mo) (zi (n : Int)) c3) _ = _
  rw [d1, bd_s, gi_zi (by omega) (by omega) (by decide), cl4 (by omega), r5]
/-- the class keeps a race and goes on -/
theorem CQ_kp {c c1 c2 : Mem} {s s2 : Nat → Int} {u : Nat} {ps : Nat → Nat → Int} {P : Nat → Nat → Bool} (h : CQ c s u ps) (k1 : HSc c1 (kpU u) (kpP u ps s)) (k3 : Fr PK c c1) (f : Fr P c1 c2) (hP : ∀ k j, k = 28 ∨ k = 33 ∨ 123 ≤ k → P k j = false) (hR : RC c2 0 s2) (hI : InvH s2) : CQ c2 s2 (kpU u) (kpP u ps s) := by
  have hb1 : BWok c1 := BW_P k3 (fun j => rfl) h.2.1
  exact ⟨hR, BW_P f (fun j => hP 28 j (by omega)) hb1, hI, by unfold kpU; split <;> omega, HSc_fr k1 f (fun k j q => hP k j (by omega)), kp_inv h.2.2.2.1 h.2.2.2.2.2 h.2.2.1⟩
theorem ZR0_o {k j : Nat} (h : ¬ (35 ≤ k ∧ k < 57)) : ZR 0 k j = false := by
  unfold ZR
  simp only [Bool.and_eq_false_iff, decide_eq_false_iff_not]
  omega
theorem q_step {fu : Nat} (hfu : 1000 ≤ fu) {c : Mem} {s : Nat → Int} {u : Nat} {ps : Nat → Nat → Int} (h : CQ c s u ps) {d : Nat} (hd : d < 4) (ho : ovB s = false) (hg : gB s (s 7) d ≠ 0) : ∃ c2, K_X11_step fu (zi (d : Int)) c = some (0, zi (dst (mvSt s (s 7) (gB s (s 7) d) d) (s 7)), c2) ∧ CQ c2 (mvSt s (s 7) (gB s (s 7) d) d) (kpU u) (kpP u ps s) := by
  have hI := h.2.2.1
  have hov := ov_2 hI.1.2.1 ho
  have hc7 := hI.1.2.1.2.2.2.2.2.1
  have hc2 := hI.1.2.1.1
  obtain ⟨w, hw⟩ : ∃ w : Nat, s 7 = w := ⟨(s 7).toNat, by omega⟩
  have hcm := c_mayMove fu 0 hfu (lv_I hI.1) h.1 hd
  obtain ⟨c1, x1, x2, x3, x4⟩ := c_keep fu hfu h.2.2.2.1 h.2.2.2.2.1 h.1
  obtain ⟨c2, y1, y2, y3⟩ := c_move fu 0 hfu hI.1 x3 hd hg
  have hI2 : InvH (mvSt s (s 7) (gB s (s 7) d) d) := by
    rw [hw] at hg ⊢
    exact InvH_mv hI (by omega) hd hg
  have h22 : mvSt s (s 7) (gB s (s 7) d) d 2 = s 2 := mv_2 hc7.1 hc7.2
  obtain ⟨c3, z1, z2⟩ := c_measure fu 1 0 hfu (by decide) hI2.1.1 hI2.1.2.1 hI2.1.2.2.2.1 y2 (k := w) (by rw [h22]; omega)
  rw [← hw] at z1
  have r6 : rd c1 (pRace 0) 6 = zi (w : Int) := by rw [x3.2.1.2.2.2.1, hw]
  have hQ : CQ c2 (mvSt s (s 7) (gB s (s 7) d) d) (kpU u) (kpP u ps s) := CQ_kp h x2 x4 y3 (fun k j q => ZR0_o (by omega)) y2 hI2
  refine ⟨c3, ?_, CQ_PC (by decide) hQ z2⟩
  unfold K_X11_step
  rw [decide_eq_true hg] at hcm
  rw [ck_D hd, bdt0, hcm, bd_s, if_neg (show ¬ zi (bi true) = 0 by decide), x1, bd_s, r6, gi_zi (by omega) (by omega) (by decide), y1, bd_s, cl4 (by omega), z1, bd_s]
theorem q_pass {fu : Nat} (hfu : 1000 ≤ fu) {c : Mem} {s : Nat → Int} {u : Nat} {ps : Nat → Nat → Int} (h : CQ c s u ps) (hps : psB s = true) : ∃ c2, K_X11_pass fu c = some (0, if ovB (etS s) = true then zi (-1) else zi (etS s 7), c2) ∧ CQ c2 (etS s) (kpU u) (kpP u ps s) := by
  have hI := h.2.2.1
  have hcm := c_mayPass fu 0 hfu (lv_I hI.1) h.1
  have ho : ovB s = false := by
    unfold psB at hps
    rw [Bool.and_eq_true] at hps
    have := hps.1
    cases hh : ovB s with
    | true =>
      rw [hh] at this
      exact absurd this (by decide)
    | false => rfl
  have hov := ov_2 hI.1.2.1 ho
  have heO := etO_of hI.1.2.1 hI.1.2.2.2.1 (by omega)
  have hI2 := InvH_et hI ho
  obtain ⟨c1, x1, x2, x3, x4⟩ := c_keep fu hfu h.2.2.2.1 h.2.2.2.2.1 h.1
  obtain ⟨c2, l1, l2, l3⟩ := c_endTurn fu 0 (by omega) heO x3
  have fPE : ∀ k j, ¬ (35 ≤ k ∧ k < 57) → PEt 0 k j = false := fun k j q => by
    unfold PEt pRace
    simp only [Bool.and_eq_false_iff, beq_eq_false_iff_ne, ne_eq]
    omega
  have hmv : K_X6_mover fu 0 c2 = some (if ovB (etS s) = true then zi (-1) else zi (etS s 7)) := by
    unfold K_X6_mover
    rw [c_hasEnded fu 0 l2 hI2.1.2.1, bd_s, l2.2.1.2.2.2.1]
    cases ovB (etS s) with
    | true => rfl
    | false => rfl
  refine ⟨c2, ?_, CQ_kp h x2 x4 l3 (fun k j q => fPE k j (by omega)) l2 hI2⟩
  unfold K_X11_pass
  rw [hcm, bd_s, hps, if_neg (show ¬ zi (bi true) = 0 by decide), x1, bd_s, l1, bd_s, hmv]
  rfl
theorem build_X {fu : Nat} {c : Mem} (x1 x2 : Int32) {w : Int} (hw : w = 0 ∨ w = 1) : K_X11_build fu x1 x2 (zi w) c = bdt (K_X11_checkPlace fu x1 x2 c) c (bd (K_X5_mayBuild fu 0 x1 x2 (zi w) c) (fun p_1 => (if p_1.1 = 0 then some (2, 0, p_1.2) else bd (K_X3_keep fu 0 p_1.2) (fun m_2 => gi (rd m_2 (pRace 0) 6) 4 (bd (K_X6_buildWall fu 0 x1 x2 (zi w) m_2) (fun m_4 => some (0, (rd m_4 (pPawn 0 (Int32.toNatClampNeg (rd m_2 (pRace 0) 6))) 2), m_4))))))) := by
  unfold K_X11_build
  rcases hw with rfl | rfl
  · rw [if_pos (show zi 0 = (0 : Int32) from rfl)]
    rfl
  · rw [if_neg (show ¬ zi 1 = (0 : Int32) by decide)]
    rfl
theorem q_build {fu : Nat} (hfu : 1000 ≤ fu) {c : Mem} {s : Nat → Int} {u : Nat} {ps : Nat → Nat → Int} (h : CQ c s u ps) {x y w : Int} (hpl : isPl s x y = true) (hw : w = 0 ∨ w = 1) (had : adB s x y (w + 1) = true) (ho : ovB s = false) (h3 : 0 < pg s (s 7) 3) : ∃ c2, K_X11_build fu (zi x) (zi y) (zi w) c = some (0, zi (pg s (s 7) 3 - 1), c2) ∧ CQ c2 (bdS s x y (w + 1)) (kpU u) (kpP u ps s) := by
  have hI := h.2.2.1
  have hz := hI.1.1
  have qp := isPl_iff.mp hpl
  have hz' := hz
  obtain ⟨⟨z1, z2⟩, z3, z4⟩ := hz'
  have hov := ov_2 hI.1.2.1 ho
  have hc7 := hI.1.2.1.2.2.2.2.2.1
  have hc2 := hI.1.2.1.1
  obtain ⟨i, hi⟩ : ∃ i : Nat, s 7 = i := ⟨(s 7).toNat, by omega⟩
  obtain ⟨c1, k1, k2, k3⟩ := c_mayBuild fu 0 hfu hI.1 h.1 (x := x) (y := y) (by omega) (by omega) (by omega) (by omega) hw
  rw [hpl, Bool.true_and, had, ho, decide_eq_true h3] at k1
  have hI2 : InvH (bdS s x y (w + 1)) := InvH_bd hI hpl (by omega) had ho h3
  have h1 : CQ c1 s u ps := CQ_g h k3 (fun k j z => ZP0_o (by omega)) k2 (BW_P k3 (fun j => ZP0_o (by omega)) h.2.1)
  obtain ⟨c2, x1, x2, x3, x4⟩ := c_keep fu hfu h1.2.2.2.1 h1.2.2.2.2.1 h1.1
  obtain ⟨c3, y1, y2, y3⟩ := c_buildW fu 0 hfu hI.1 x3 hpl hw had ho
  have r6 : rd c2 (pRace 0) 6 = zi (i : Int) := by rw [x3.2.1.2.2.2.1, hi]
  have h22 : bdS s x y (w + 1) 2 = s 2 := by
    unfold bdS
    rw [etS_ne (by decide) (by decide)]
    exact bw_lt qp.1.1 qp.2.1 hc7.1 hc7.2 (Or.inl (by decide)) (by decide)
  have r7 := (y2.2.2.1 i (by omega) (by rw [h22]; omega)).2.2.1
  rw [← hi, bd_p3 qp.1.1 qp.2.1 hc7] at r7
  refine ⟨c3, ?_, CQ_kp h1 x2 x4 y3 (fun k j q => ZR0_o (by omega)) y2 hI2⟩
  rw [build_X _ _ hw, ck_L h.1 hz hpl, k1, bdt0, bd_s, if_neg (show ¬ zi (bi (!false && (true && true))) = 0 by decide), x1, bd_s, r6, gi_zi (by omega) (by omega) (by decide), y1, bd_s, cl4 (by omega), r7]
/-- a wall that can't be built now: thrown, and the race is kept -/
theorem q_buildNo {fu : Nat} (hfu : 1000 ≤ fu) {c : Mem} {s : Nat → Int} {u : Nat} {ps : Nat → Nat → Int} (h : CQ c s u ps) {x y w : Int} (hpl : isPl s x y = true) (hw : w = 0 ∨ w = 1) (had : adB s x y (w + 1) = false) : ∃ c2, K_X11_build fu (zi x) (zi y) (zi w) c = some (2, 0, c2) ∧ CQ c2 s u ps := by
  have hI := h.2.2.1
  have hz := hI.1.1
  have qp := isPl_iff.mp hpl
  have hz' := hz
  obtain ⟨⟨z1, z2⟩, z3, z4⟩ := hz'
  obtain ⟨c1, k1, k2, k3⟩ := c_mayBuild fu 0 hfu hI.1 h.1 (x := x) (y := y) (by omega) (by omega) (by omega) (by omega) hw
  rw [hpl, Bool.true_and, had, Bool.and_false, Bool.and_false] at k1
  refine ⟨c1, ?_, CQ_g h k3 (fun k j z => ZP0_o (by omega)) k2 (BW_P k3 (fun j => ZP0_o (by omega)) h.2.1)⟩
  rw [build_X _ _ hw, ck_L h.1 hz hpl, k1, bdt0, bd_s, if_pos (show zi (bi false) = 0 from rfl)]
theorem q_play {fu : Nat} (hfu : 1000 ≤ fu) {c : Mem} {s : Nat → Int} {u : Nat} {ps : Nat → Nat → Int} (h : CQ c s u ps) {mo : Int} (hm : 0 ≤ mo ∧ mo ≤ 1) {n : Nat} (hn : 1 ≤ n ∧ n ≤ 99) : ∃ c2, K_X11_play fu (zi mo) (zi (n : Int)) c = some (0, zi ((plS mo n s 0).2 : Int), c2) ∧ CQ c2 (plS mo n s 0).1 (kpU u) (kpP u ps s) := by
  have hI := h.2.2.1
  obtain ⟨c1, x1, x2, x3, x4⟩ := c_keep fu hfu h.2.2.2.1 h.2.2.2.2.1 h.1
  obtain ⟨c2, y1, y2, y3⟩ := c_plays fu 0 hfu hm (n := n) (by omega) hI.1 x3
  refine ⟨c2, ?_, CQ_kp h x2 x4 y3 (fun k j q => ZP0_o (by omega)) y2 (InvH_pl mo n s 0 hI)⟩
  unfold K_X11_play
  rw [ck_play hm hn, x1]
  show bd (K_X5_playTurns fu 0 (zi mo) (zi (n : Int)) c1) _ = _
  rw [y1, bd_s]
theorem q_undo {fu : Nat} (hfu : 1000 ≤ fu) {c : Mem} {s : Nat → Int} {u : Nat} {ps : Nat → Nat → Int} (h : CQ c s u ps) (hu : 0 < u) : ∃ c2, K_X11_undo fu c = some (zi ((u - 1 : Nat) : Int), c2) ∧ CQ c2 (ps (u - 1)) (u - 1) ps := by
  rcases c_takeB fu hfu h.2.2.2.1 h.2.2.2.2.1 with ⟨q0, q1⟩ | ⟨q0, c2, q1, q2, q3, q4⟩
  · omega
  · refine ⟨c2, ?_, q3, BW_P q4 (fun j => ?_) h.2.1, h.2.2.2.2.2 _ (by omega), by have := h.2.2.2.1; omega, q2, fun i hi => h.2.2.2.2.2 i (by omega)⟩
    · obtain ⟨nx, w1, w2, w3, w4⟩ := q2
      unfold K_X11_undo
      rw [q1, bd_s, if_neg z10, w3]
    · unfold PU
      rw [ZR0_o (by omega)]
      rfl
end NBB
