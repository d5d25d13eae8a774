section NAA
theorem ZP_l {r k j : Nat} (h1 : ZP r k j = false) : PQ r k j = false ∧ ZR r k j = false ∧ PC 0 k j = false := by
  have h := h1
  unfold ZP at h
  rw [Bool.or_eq_false_iff] at h
  exact ⟨PQ_PL h.1, h.2, ZP_PC h1⟩
theorem lv_I {s : Nat → Int} (h : Inv s) : lvO s := ⟨h.1, h.2.1, h.2.2.1, h.2.2.2.1, h.2.2.2.2.1, h.2.2.2.2.2.2.1⟩
theorem c_mayBuild (fu r : Nat) (hfu : 1000 ≤ fu) {s : Nat → Int} (hI : Inv s) {c : Mem} (hR : RC c r s) {x y w : Int} (h1 : -1000 ≤ x) (h2 : x ≤ 1000) (h3 : -1000 ≤ y) (h4 : y ≤ 1000) (hw : w = 0 ∨ w = 1) : ∃ c2, K_X5_mayBuild fu r (zi x) (zi y) (zi w) c = some (zi (bi (!ovB s && (decide (0 < pg s (s 7) 3) && (isPl s x y && adB s x y (w + 1))))), c2) ∧ RC c2 r s ∧ Fr (ZP r) c c2 := by
  obtain ⟨iz, ic, iW, ip, ib, iwp, ids, irk, iwy⟩ := hI
  have c1 := ic.1
  unfold K_X5_mayBuild
  rw [c_hasEnded fu r hR ic, bd_s]
  cases ho : ovB s with
  | true =>
    rw [if_neg (show ¬ zi (bi true) = 0 by decide)]
    exact ⟨c, rfl, hR, Fr_rf _ _⟩
  | false =>
    have hov := ov_2 ic ho
    obtain ⟨u, hu⟩ : ∃ u : Nat, s 7 = u := ⟨(s 7).toNat, by have := ic.2.2.2.2.2.1; omega⟩
    have r6 : rd c (pRace r) 6 = zi (u : Int) := by rw [hR.2.1.2.2.2.1, hu]
    have iu : (zi (u : Int)).toNatClampNeg = u := by
      rw [zi_clamp (by omega) (by omega)]
      exact Int.toNat_natCast u
    have hp2 : rd c (pPawn r u) 2 = zi (pg s u 3) := (hR.2.2.1 u (by omega) (by omega)).2.2.1
    have hpn := ip u (by omega) (by omega)
    have ig : ((0 : Int32) < zi (pg s u 3)) = (0 < pg s u 3) := zi_lt (a_ := 0) (by decide) (by decide) (by have := hpn.2.2.1; omega) (by have := hpn.2.2.1; omega)
    rw [if_pos (show zi (bi false) = 0 from rfl), r6, gi_zi (by omega) (by omega) (by decide), iu, hp2, hu]
    by_cases q : 0 < pg s u 3
    · rw [if_pos (ig.mpr q), decide_eq_true q]
      obtain ⟨c2, a1, a2, a3⟩ := c_admNow fu r hfu iz ic iW ip iwy hR.1 ⟨hR.2.1.1, hR.2.2.1⟩ h1 h2 h3 h4 hw
      have n1 : ∀ k j, 35 ≤ k → k ≠ pOpen r → k ≠ pBuilt r → k ≠ pBoard r → (fun k j => FT k j || PWl r k j : Nat → Nat → Bool) k j = false := fun k j h5 h6 h7 h8 => by
        simp only [FT_lo k j h5, Bool.false_or]
        unfold PWl
        simp only [Bool.or_eq_false_iff, Bool.and_eq_false_iff, beq_eq_false_iff_ne, ne_eq]
        exact ⟨⟨h6, h7⟩, Or.inl h8⟩
      have hRC : RC c2 r s := RC_brd hR a3 a2.1 (fun j _ _ => rfl) (fun j => n1 _ _ (by unfold pRace; omega) (by unfold pRace pOpen; omega) (by unfold pRace pBuilt; omega) (by unfold pRace pBoard; omega)) (fun i j hi => n1 _ _ (by unfold pPawn; omega) (by unfold pPawn pOpen; omega) (by unfold pPawn pBuilt; omega) (by unfold pPawn pBoard; omega)) (fun i j hi => n1 _ _ (by unfold pBan; omega) (by unfold pBan pOpen; omega) (by unfold pBan pBuilt; omega) (by unfold pBan pBoard; omega)) ⟨by omega, ic.2.1.2⟩
      refine ⟨c2, ?_, hRC, Fr_mono a3 (fun k j h => (ZP_l h).1)⟩
      rw [a1, bd_s]
      cases isPl s x y && adB s x y (w + 1) with
      | true => exact if_neg (show ¬ zi (bi true) = 0 by decide)
      | false => exact if_pos (show zi (bi false) = 0 from rfl)
    · rw [if_neg (fun h => q (ig.mp h)), decide_eq_false q]
      exact ⟨c, rfl, hR, Fr_rf _ _⟩
theorem HSc_fr {c c2 : Mem} {u : Nat} {ps : Nat → Nat → Int} {P : Nat → Nat → Bool} (h : HSc c u ps) (f : Fr P c c2) (hP : ∀ k j, k = 33 ∨ 123 ≤ k → P k j = false) : HSc c2 u ps := by
  obtain ⟨nx, h1, h2, h3, h4⟩ := h
  exact ⟨nx, h1, (f.1 _ _ (hP _ _ (Or.inl rfl))).trans h2, (f.1 _ _ (hP _ _ (Or.inl rfl))).trans h3, fun i hi => RC_fr2 f (fun k j a b => hP k j (Or.inr (by omega))) (h4 i hi)⟩
theorem kp_inv {u : Nat} {ps : Nat → Nat → Int} {s : Nat → Int} (hu : u ≤ 6) (h : ∀ i, i < u → InvH (ps i)) (hs : InvH s) : ∀ i, i < kpU u → InvH (kpP u ps s i) := fun i hi => by
  unfold kpP
  by_cases q : i + 1 = kpU u
  · rw [if_pos q]
    exact hs
  · rw [if_neg q]
    refine h _ ?_
    unfold kpU at hi q ⊢
    by_cases q2 : u < 6
    · rw [if_pos q2] at hi q ⊢
      omega
    · rw [if_neg q2] at hi q ⊢
      omega
theorem BW_P {c c2 : Mem} {P : Nat → Nat → Bool} (f : Fr P c c2) (hP : ∀ j, P 28 j = false) (hB : BWok c) : BWok c2 := by
  obtain ⟨x, y, h1, h2, h3⟩ := hB
  exact ⟨x, y, (f.1 _ _ (hP _)).trans h1, (f.1 _ _ (hP _)).trans h2, h3⟩
theorem PC_lo {w k j : Nat} (hw : w ≤ 1) (h : k ≤ 3 ∨ 28 ≤ k) : PC w k j = false := by
  unfold PC pDist pQueue pWays
  simp only [Bool.or_eq_false_iff, Bool.and_eq_false_iff, beq_eq_false_iff_ne, ne_eq]
  omega
theorem PCN_lo {w k j : Nat} (hw : w ≤ 1) (h : k ≤ 3 ∨ 28 ≤ k) : PCN w k j = false := by
  unfold PCN PNb pNumb
  rw [PC_lo hw h]
  simp only [Bool.false_or, beq_eq_false_iff_ne, ne_eq]
  omega
theorem cl4 {u : Nat} (h : u < 1000) : (zi (u : Int)).toNatClampNeg = u := by
  rw [zi_clamp (by omega) (by omega)]
  exact Int.toNat_natCast u
def pB (s : Nat → Int) (x : Int) : Bool := decide (0 ≤ x ∧ x ≤ s 2 - 1)
def dB (d : Int) : Bool := decide (0 ≤ d ∧ d ≤ 3)
theorem c_chkP (fu : Nat) {c : Mem} {s : Nat → Int} (hR : RC c 0 s) (h2 : 0 ≤ s 2 ∧ s 2 ≤ 4) {x : Int} (h3 : -2147483648 ≤ x) (h4 : x < 2147483648) : (pB s x = true → K_X11_checkPawn fu (zi x) c = some 0) ∧ (pB s x = false → K_X11_checkPawn fu (zi x) c = some 3) := by
  have i0 : (zi x < (0 : Int32)) = (x < 0) := zi_lt (b_ := 0) h3 h4 (by decide) (by decide)
  have i1 : (zi x < zi (s 2)) = (x < s 2) := zi_lt h3 h4 (by omega) (by omega)
  unfold K_X11_checkPawn pB
  rw [hR.2.1.1]
  refine ⟨fun q1 => ?_, fun q1 => ?_⟩
  · have q := of_decide_eq_true q1
    rw [if_neg (fun z => by have := i0.mp z; omega), if_pos (i1.mpr (by omega))]
  · have q := of_decide_eq_false q1
    by_cases z : x < 0
    · rw [if_pos (i0.mpr z)]
    · rw [if_neg (fun y => z (i0.mp y)), if_neg (fun y => by have := i1.mp y; omega)]
theorem c_chkD (fu : Nat) (c : Mem) {x : Int} (h3 : -2147483648 ≤ x) (h4 : x < 2147483648) : (dB x = true → K_X11_checkDirection fu (zi x) c = some 0) ∧ (dB x = false → K_X11_checkDirection fu (zi x) c = some 1) := by
  have i0 : (zi x < (0 : Int32)) = (x < 0) := zi_lt (b_ := 0) h3 h4 (by decide) (by decide)
  have i1 : (zi x < (4 : Int32)) = (x < 4) := zi_lt (b_ := 4) h3 h4 (by decide) (by decide)
  unfold K_X11_checkDirection dB
  refine ⟨fun q1 => ?_, fun q1 => ?_⟩
  · have q := of_decide_eq_true q1
    rw [if_neg (fun z => by have := i0.mp z; omega), if_pos (i1.mpr (by omega))]
  · have q := of_decide_eq_false q1
    by_cases z : x < 0
    · rw [if_pos (i0.mpr z)]
    · rw [if_neg (fun y => z (i0.mp y)), if_neg (fun y => by have := i1.mp y; omega)]
theorem c_chkC (fu : Nat) {c : Mem} {s : Nat → Int} (hR : RB c 0 s) (hz : szO s) {x y : Int} (h1 : -2147483648 ≤ x) (h2 : x < 2147483648) (h3 : -2147483648 ≤ y) (h4 : y < 2147483648) : (isCl s x y = true → K_X11_checkCell fu (zi x) (zi y) c = some 0) ∧ (isCl s x y = false → K_X11_checkCell fu (zi x) (zi y) c = some 3) := by
  unfold K_X11_checkCell
  rw [c_hasCell fu 0 hR hz h1 h2 h3 h4, bd_s]
  refine ⟨fun q => ?_, fun q => ?_⟩
  · rw [q, if_neg (show ¬ zi (bi true) = 0 by decide)]
  · rw [q, if_pos (show zi (bi false) = 0 from rfl)]
theorem c_chkL (fu : Nat) {c : Mem} {s : Nat → Int} (hR : RB c 0 s) (hz : szO s) {x y : Int} (h1 : -2147483648 ≤ x) (h2 : x < 2147483648) (h3 : -2147483648 ≤ y) (h4 : y < 2147483648) : (isPl s x y = true → K_X11_checkPlace fu (zi x) (zi y) c = some 0) ∧ (isPl s x y = false → K_X11_checkPlace fu (zi x) (zi y) c = some 3) := by
  unfold K_X11_checkPlace
  rw [c_hasPlace fu 0 hR hz h1 h2 h3 h4, bd_s]
  refine ⟨fun q => ?_, fun q => ?_⟩
  · rw [q, if_neg (show ¬ zi (bi true) = 0 by decide)]
  · rw [q, if_pos (show zi (bi false) = 0 from rfl)]
theorem PL_o0 {k j : Nat} (h : k ≤ 3 ∨ k = 28 ∨ k = 33 ∨ 101 ≤ k) : PL 0 k j = false := by
  unfold PL PQ FT PWl PC pDist pQueue pWays pOpen pBuilt pBoard
  simp only [Bool.or_eq_false_iff, Bool.and_eq_false_iff, beq_eq_false_iff_ne, ne_eq]
  omega
theorem sd_f {s : Nat → Int} (hz : szO s) {p : Int} (hp : pnO s p) (q : 0 < pg s p 6) : dl s (pg s p 2) (celN s p) = 0 := by
  have hcl := cel_lt hz hp
  refine dl_side ⟨hcl.1, ?_, ?_⟩
  · rw [hcl.2.1, hcl.2.2]
    exact hp.1
  · rw [hcl.2.1, hcl.2.2]
    exact hp.2.2.2.2.2.2 q
theorem wy_f {s : Nat → Int} (hz : szO s) {p : Int} (hp : pnO s p) (q : 0 < pg s p 6) : wyC s (pg s p 2) (celN s p) = 1 := by
  unfold wyC
  rw [sd_f hz hp q]
  rfl
theorem onR_0 {s : Nat → Int} {side : Int} {c0 : Nat} (h : dl s side c0 = 0) : ∀ n c : Nat, onR s side c0 n c → c = c0 := by
  intro n
  induction n with
  | zero =>
    intro c hc
    exact hc
  | succ n ih =>
    intro c hc
    obtain ⟨v, d, h1, h2, h3, h4⟩ := hc
    have := ih _ h2
    rw [this, nrD_0 h] at h3
    exact absurd h3 (by decide)
theorem cnB_1 {P : Nat → Bool} {a : Nat} (ha : P a = true) (hP : ∀ c, P c = true → c = a) : ∀ n : Nat, cnB P n = if a < n then 1 else 0 := by
  intro n
  induction n with
  | zero => rfl
  | succ n ih =>
    show cnB P n + (if P n = true then 1 else 0) = _
    rw [ih]
    by_cases q : n = a
    · rw [q, if_neg (Nat.lt_irrefl a), if_pos ha, if_pos (Nat.lt_succ_self a)]
    · rw [if_neg (fun z => q (hP n z))]
      by_cases z : a < n
      · rw [if_pos z, if_pos (by omega)]
      · rw [if_neg z, if_neg (by omega)]
theorem on_f {s : Nat → Int} (hz : szO s) {p : Int} (hp : pnO s p) (q : 0 < pg s p 6) : onN s (pg s p 2) (celN s p) = 1 := by
  have h0 := sd_f hz hp q
  have hcl := cel_lt hz hp
  unfold onN
  rw [cnB_1 (a := celN s p) (onB_t.mpr ⟨0, rfl⟩) (fun c hc => by
    obtain ⟨n, hn⟩ := onB_t.mp hc
    exact onR_0 h0 n c hn) 81, if_pos hcl.1]
def cbB (s : Nat → Int) (v : Int32) (b : Nat) : Bool := decide (zi (bg s b 0) = v)
theorem c_bo (fu r : Nat) {mem : Mem} {s : Nat → Int} (h6 : 0 ≤ s 6 ∧ s 6 ≤ 12) (hB : CBn mem r s) (v : Int32) : ∀ (q n k : Nat), (k : Int) + q = s 6 → q < n → K_X6_bansOf_4 fu r mem n v (zi (cnB (cbB s v) k : Int)) (zi (k : Int)) = some (zi (cnB (cbB s v) (s 6).toNat : Int)) := by
  intro q
  induction q with
  | zero =>
    intro n k hk hn
    obtain ⟨n, rfl⟩ : ∃ i, n = i + 1 := ⟨n - 1, by omega⟩
    have i1 : (zi (k : Int) < zi (s 6)) = ((k : Int) < s 6) := zi_lt (by omega) (by omega) (by omega) (by omega)
    rw [K_X6_bansOf_4, hB.1, if_neg (fun z => by have := i1.mp z; omega), show k = (s 6).toNat by omega]
  | succ q ih =>
    intro n k hk hn
    obtain ⟨n, rfl⟩ : ∃ i, n = i + 1 := ⟨n - 1, by omega⟩
    have i1 : (zi (k : Int) < zi (s 6)) = ((k : Int) < s 6) := zi_lt (by omega) (by omega) (by omega) (by omega)
    have e1 : zi (k : Int) + 1 = zi ((k + 1 : Nat) : Int) := zi_add (k : Int) 1
    rw [K_X6_bansOf_4, hB.1, if_pos (i1.mpr (by omega)), gi_zi (by omega) (by omega) (by decide), cl4 (by omega), (hB.2 k (by omega) (by omega)).1, e1]
    have ih' := ih n (k + 1) (by omega) (by omega)
    by_cases z : zi (bg s k 0) = v
    · have e2 : zi (cnB (cbB s v) k : Int) + 1 = zi (cnB (cbB s v) (k + 1) : Int) := by
        have e3 : cnB (cbB s v) (k + 1) = cnB (cbB s v) k + 1 := by
          show cnB (cbB s v) k + (if cbB s v k = true then 1 else 0) = _
          rw [if_pos (show cbB s v k = true from decide_eq_true z)]
        rw [e3]
        exact zi_add (cnB (cbB s v) k : Int) 1
      rw [if_pos z, e2]
      exact ih'
    · have e3 : cnB (cbB s v) (k + 1) = cnB (cbB s v) k := by
        show cnB (cbB s v) k + (if cbB s v k = true then 1 else 0) = _
        rw [if_neg (show ¬ cbB s v k = true from fun y => z (of_decide_eq_true y)), Nat.add_zero]
      rw [e3] at ih'
      rw [if_neg z]
      exact ih'
def v7 (s : Nat → Int) (u k : Nat) : Int := if k = 7 then (cnB (cbB s (zi (u : Int))) (s 6).toNat : Int) else pg s u k
def CH7 (fu : Nat) (x1 x2 : Int32) (mem : Mem) : Option TR := (if x2 = 0 then some (0, ((rd mem (pPawn 0 (Int32.toNatClampNeg x1)) 0) - (rd mem (pPawn 0 (Int32.toNatClampNeg x1)) 0) / 9 * 9), mem) else (if x2 = 1 then some (0, ((rd mem (pPawn 0 (Int32.toNatClampNeg x1)) 0) / 9), mem) else (if x2 = 2 then some (0, (rd mem (pPawn 0 (Int32.toNatClampNeg x1)) 1), mem) else (if x2 = 3 then some (0, (rd mem (pPawn 0 (Int32.toNatClampNeg x1)) 2), mem) else (if x2 = 4 then some (0, (rd mem (pPawn 0 (Int32.toNatClampNeg x1)) 3), mem) else (if x2 = 5 then some (0, (rd mem (pPawn 0 (Int32.toNatClampNeg x1)) 4), mem) else (if x2 = 6 then some (0, (rd mem (pPawn 0 (Int32.toNatClampNeg x1)) 5), mem) else (if x2 = 7 then bd (K_X6_bansOf fu 0 x1 mem) (fun x_10 => some (0, x_10, mem)) else some (1, 0, mem)))))))))
theorem ch7_ok (fu : Nat) (hfu : 1000 ≤ fu) {mem : Mem} {s : Nat → Int} (hI : InvH s) (hR : RC mem 0 s) {u k : Nat} (hu : (u : Int) < s 2) (hk : k ≤ 7) : CH7 fu (zi (u : Int)) (zi (k : Int)) mem = some (0, zi (v7 s u k), mem) := by
  obtain ⟨iz, ic, iW, ip, _⟩ := hI.1
  have c1 := ic.1
  have c6 := ic.2.1
  have hpu := ip u (by omega) hu
  have hxy := cl_nat iz hpu.1
  obtain ⟨r0, r1, r2, r3, r4, r5⟩ := hR.2.2.1 u (by omega) hu
  have hcc : k = 0 ∨ k = 1 ∨ k = 2 ∨ k = 3 ∨ k = 4 ∨ k = 5 ∨ k = 6 ∨ k = 7 := by omega
  unfold CH7 v7
  rw [cl4 (by omega)]
  rcases hcc with e | e | e | e | e | e | e | e
  · have e9 : zi (9 * pg s u 1 + pg s u 0) - zi (9 * pg s u 1 + pg s u 0) / 9 * 9 = zi (pg s u 0) := by
      have := zi_mod (a := 9 * pg s u 1 + pg s u 0) (b := 9) (by omega) (by omega) (by decide) (by decide)
      refine this.trans (congrArg zi ?_)
      omega
    rw [e, if_pos (show zi ((0 : Nat) : Int) = 0 from rfl), r0, e9]
    rfl
  · have e9 : zi (9 * pg s u 1 + pg s u 0) / 9 = zi (pg s u 1) := by
      have := zi_div (a_ := 9 * pg s u 1 + pg s u 0) (b_ := 9) (by omega) (by omega) (by decide) (by decide)
      refine this.trans (congrArg zi ?_)
      omega
    rw [e, if_neg (show ¬ zi ((1 : Nat) : Int) = 0 by decide), if_pos (show zi ((1 : Nat) : Int) = 1 from rfl), r0, e9]
    rfl
  · rw [e, if_neg (show ¬ zi ((2 : Nat) : Int) = 0 by decide), if_neg (show ¬ zi ((2 : Nat) : Int) = 1 by decide), if_pos (show zi ((2 : Nat) : Int) = 2 from rfl), r1]
    rfl
  · rw [e, if_neg (show ¬ zi ((3 : Nat) : Int) = 0 by decide), if_neg (show ¬ zi ((3 : Nat) : Int) = 1 by decide), if_neg (show ¬ zi ((3 : Nat) : Int) = 2 by decide), if_pos (show zi ((3 : Nat) : Int) = 3 from rfl), r2]
    rfl
  · rw [e, if_neg (show ¬ zi ((4 : Nat) : Int) = 0 by decide), if_neg (show ¬ zi ((4 : Nat) : Int) = 1 by decide), if_neg (show ¬ zi ((4 : Nat) : Int) = 2 by decide), if_neg (show ¬ zi ((4 : Nat) : Int) = 3 by decide), if_pos (show zi ((4 : Nat) : Int) = 4 from rfl), r3]
    rfl
  · rw [e, if_neg (show ¬ zi ((5 : Nat) : Int) = 0 by decide), if_neg (show ¬ zi ((5 : Nat) : Int) = 1 by decide), if_neg (show ¬ zi ((5 : Nat) : Int) = 2 by decide), if_neg (show ¬ zi ((5 : Nat) : Int) = 3 by decide), if_neg (show ¬ zi ((5 : Nat) : Int) = 4 by decide), if_pos (show zi ((5 : Nat) : Int) = 5 from rfl), r4]
    rfl
  · rw [e, if_neg (show ¬ zi ((6 : Nat) : Int) = 0 by decide), if_neg (show ¬ zi ((6 : Nat) : Int) = 1 by decide), if_neg (show ¬ zi ((6 : Nat) : Int) = 2 by decide), if_neg (show ¬ zi ((6 : Nat) : Int) = 3 by decide), if_neg (show ¬ zi ((6 : Nat) : Int) = 4 by decide), if_neg (show ¬ zi ((6 : Nat) : Int) = 5 by decide), if_pos (show zi ((6 : Nat) : Int) = 6 from rfl), r5]
    rfl
  · have hb := c_bo fu 0 c6 (RC_CBn hR) (zi (u : Int)) (s 6).toNat fu 0 (by omega) (by omega)
    have hb' : K_X6_bansOf fu 0 (zi (u : Int)) mem = some (zi (cnB (cbB s (zi (u : Int))) (s 6).toNat : Int)) := hb
    rw [e, if_neg (show ¬ zi ((7 : Nat) : Int) = 0 by decide), if_neg (show ¬ zi ((7 : Nat) : Int) = 1 by decide), if_neg (show ¬ zi ((7 : Nat) : Int) = 2 by decide), if_neg (show ¬ zi ((7 : Nat) : Int) = 3 by decide), if_neg (show ¬ zi ((7 : Nat) : Int) = 4 by decide), if_neg (show ¬ zi ((7 : Nat) : Int) = 5 by decide), if_neg (show ¬ zi ((7 : Nat) : Int) = 6 by decide), if_pos (show zi ((7 : Nat) : Int) = 7 from rfl), hb', bd_s]
    rfl
def rkF (s : Nat → Int) (x : Int) : Nat → Int
  | 0 => -1
  | n + 1 => if 0 < x ∧ pg s n 6 = x then (n : Int) else rkF s x n
theorem rk_no {s : Nat → Int} {x : Int} : ∀ n : Nat, (∀ i : Nat, i < n → ¬ (0 < x ∧ pg s i 6 = x)) → rkF s x n = -1 := by
  intro n
  induction n with
  | zero => exact fun _ => rfl
  | succ n ih =>
    intro hn
    show (if 0 < x ∧ pg s n 6 = x then (n : Int) else rkF s x n) = -1
    rw [if_neg (hn n (Nat.lt_succ_self n))]
    exact ih (fun i hi => hn i (by omega))
theorem rk_at {s : Nat → Int} {x : Int} {k : Nat} (hk : 0 < x ∧ pg s k 6 = x) : ∀ n : Nat, k < n → (∀ i : Nat, i < n → i ≠ k → ¬ (0 < x ∧ pg s i 6 = x)) → rkF s x n = k := by
  intro n
  induction n with
  | zero => exact fun hn => absurd hn (Nat.not_lt_zero k)
  | succ n ih =>
    intro hn hq
    show (if 0 < x ∧ pg s n 6 = x then (n : Int) else rkF s x n) = k
    by_cases z : n = k
    · rw [z, if_pos hk]
    · rw [if_neg (hq n (Nat.lt_succ_self n) z)]
      exact ih (by omega) (fun i hi => hq i (by omega))
theorem c_rk (fu r : Nat) {mem : Mem} {s : Nat → Int} (hc : cnO s) (hp : pasO s) (hk : rkO s) (hP : CPn mem r s) {x : Int} (hx1 : -2147483648 ≤ x) (hx2 : x < 2147483648) : ∀ (q n k : Nat), (k : Int) + q = s 2 → q < n → (∀ i : Nat, i < k → ¬ (0 < x ∧ pg s i 6 = x)) → K_X6_pawnOfRank_2 fu r mem n (zi x) (zi (k : Int)) = some (zi (rkF s x (s 2).toNat)) := by
  have c1 := hc.1
  have c4 := hc.2.2.2.1
  have c5 := hc.2.2.2.2.1
  have i0 : ((0 : Int32) < zi x) = (0 < x) := zi_lt (a_ := 0) (by decide) (by decide) hx1 hx2
  intro q
  induction q with
  | zero =>
    intro n k hkq hn hno
    obtain ⟨n, rfl⟩ : ∃ i, n = i + 1 := ⟨n - 1, by omega⟩
    have i1 : (zi (k : Int) < zi (s 2)) = ((k : Int) < s 2) := zi_lt (by omega) (by omega) (by omega) (by omega)
    rw [K_X6_pawnOfRank_2, hP.1, if_neg (fun z => by have := i1.mp z; omega), rk_no (s 2).toNat (fun i hi => hno i (by omega))]
    rfl
  | succ q ih =>
    intro n k hkq hn hno
    obtain ⟨n, rfl⟩ : ∃ i, n = i + 1 := ⟨n - 1, by omega⟩
    have i1 : (zi (k : Int) < zi (s 2)) = ((k : Int) < s 2) := zi_lt (by omega) (by omega) (by omega) (by omega)
    have e1 : zi (k : Int) + 1 = zi ((k + 1 : Nat) : Int) := zi_add (k : Int) 1
    have hpk := (hp k (by omega) (by omega)).2.2.2.2.2.1
    have i2 : (zi (pg s k 6) = zi x) = (pg s k 6 = x) := zi_inj (by omega) (by omega) hx1 hx2
    have hr := (hP.2 k (by omega) (by omega)).2.2.2.2.2
    rw [K_X6_pawnOfRank_2, hP.1, if_pos (i1.mpr (by omega)), e1]
    by_cases z : 0 < x
    · rw [if_pos (i0.mpr z), gi_zi (by omega) (by omega) (by decide), cl4 (by omega), hr]
      by_cases y : pg s k 6 = x
      · rw [if_pos (i2.mpr y), rk_at ⟨z, y⟩ (s 2).toNat (by omega) (fun i hi hik w => ?_)]
        have := hk i k (by omega) (by omega) (by omega) (by omega) (by omega) (by omega)
        exact this (w.2.trans y.symm)
      · rw [if_neg (fun w => y (i2.mp w))]
        exact ih n (k + 1) (by omega) (by omega) (fun i hi w => by
          by_cases u : i = k
          · exact y (by rw [← u]; exact w.2)
          · exact hno i (by omega) w)
    · rw [if_neg (fun w => z (i0.mp w))]
      exact ih n (k + 1) (by omega) (by omega) (fun i hi w => z w.1)
theorem mv_2 {s : Nat → Int} {p g : Int} {d : Nat} (hp : 0 ≤ p) (hp3 : p ≤ 3) : mvSt s p g d 2 = s 2 := by
  unfold mvSt
  rw [etS_ne (by decide) (by decide)]
  exact mve_ne hp hp3 (Or.inl (by decide)) (by decide)
theorem on_2 {s : Nat → Int} (hI : Inv s) (ho : ovB s = false) (mode : Int) : onS s mode 2 = s 2 := by
  have hov := ov_2 hI.2.1 ho
  have c7 := hI.2.1.2.2.2.2.2.1
  unfold onS
  by_cases c : mode = 1 ∧ rvS s ≠ -1 ∧ 1 ≤ (bstB s (rvS s)).1
  · rw [if_pos c]
    have hs2 := hI.2.1.1
    rcases rvS_sp hs2.1 with h | ⟨h1, h2, h3, h4⟩
    · exact absurd h c.2.1
    · obtain ⟨g1, g2⟩ := bst_sp hI h1 h2
      obtain ⟨k1, k2, k3, k4, k5, k6, k7⟩ := g2 (by omega)
      have qp := k3
      unfold isPl at qp
      rw [Bool.and_eq_true, decide_eq_true_iff, decide_eq_true_iff] at qp
      unfold bdS
      rw [etS_ne (by decide) (by decide)]
      exact bw_lt qp.1.1 qp.2.1 c7.1 c7.2 (Or.inl (by decide)) (by decide)
  · rw [if_neg c]
    unfold adv1
    by_cases q : avS s (s 7) = -1
    · rw [if_pos q]
      exact etS_ne (by decide) (by decide)
    · rw [if_neg q]
      exact mv_2 c7.1 c7.2
theorem pl_2 (mode : Int) : ∀ (q : Nat) (s : Nat → Int) (k : Nat), Inv s → (plS mode q s k).1 2 = s 2 := by
  intro q
  induction q with
  | zero => exact fun s k h => rfl
  | succ q ih =>
    intro s k h
    rw [plS]
    cases ho : ovB s with
    | true => rw [if_pos rfl]
    | false =>
      rw [if_neg (by decide)]
      exact (ih _ _ (on_Inv h ho mode)).trans (on_2 h ho mode)
def plB (a b : Int) : Bool := decide (0 ≤ a ∧ a ≤ 1) && decide (1 ≤ b ∧ b ≤ 99)
theorem c_mayPlay (fu : Nat) (c : Mem) {a b : Int} (ha1 : -2147483648 ≤ a) (ha2 : a < 2147483648) (hb1 : -2147483648 ≤ b) (hb2 : b < 2147483648) : (plB a b = true → K_X11_checkPlay fu (zi a) (zi b) c = some 0) ∧ (plB a b = false → K_X11_checkPlay fu (zi a) (zi b) c = some 1) := by
  have i1 : (zi a < (0 : Int32)) = (a < 0) := zi_lt (b_ := 0) ha1 ha2 (by decide) (by decide)
  have i2 : (zi a < (2 : Int32)) = (a < 2) := zi_lt (b_ := 2) ha1 ha2 (by decide) (by decide)
  have i3 : (zi b < (1 : Int32)) = (b < 1) := zi_lt (b_ := 1) hb1 hb2 (by decide) (by decide)
  have i4 : ((99 : Int32) < zi b) = (99 < b) := zi_lt (a_ := 99) (by decide) (by decide) hb1 hb2
  have hm : K_X11_mayPlay fu (zi a) (zi b) c = some (zi (bi (plB a b))) := by
    unfold K_X11_mayPlay plB
    by_cases q0 : a < 0
    · rw [if_pos (i1.mpr q0), decide_eq_false (show ¬ (0 ≤ a ∧ a ≤ 1) by omega)]
      rfl
    · rw [if_neg (fun h => q0 (i1.mp h))]
      by_cases q1 : a < 2
      · rw [if_pos (i2.mpr q1)]
        by_cases q2 : b < 1
        · rw [if_pos (i3.mpr q2), decide_eq_true (show 0 ≤ a ∧ a ≤ 1 by omega), decide_eq_false (show ¬ (1 ≤ b ∧ b ≤ 99) by omega)]
          rfl
        · rw [if_neg (fun h => q2 (i3.mp h))]
          by_cases q3 : 99 < b
          · rw [if_pos (i4.mpr q3), decide_eq_true (show 0 ≤ a ∧ a ≤ 1 by omega), decide_eq_false (show ¬ (1 ≤ b ∧ b ≤ 99) by omega)]
            rfl
          · rw [if_neg (fun h => q3 (i4.mp h)), decide_eq_true (show 0 ≤ a ∧ a ≤ 1 by omega), decide_eq_true (show 1 ≤ b ∧ b ≤ 99 by omega)]
            rfl
      · rw [if_neg (fun h => q1 (i2.mp h)), decide_eq_false (show ¬ (0 ≤ a ∧ a ≤ 1) by omega)]
        rfl
  unfold K_X11_checkPlay
  rw [hm, bd_s]
  refine ⟨fun q => ?_, fun q => ?_⟩
  · rw [q, if_neg (show ¬ zi (bi true) = 0 by decide)]
  · rw [q, if_pos (show zi (bi false) = 0 from rfl)]
theorem ZP2_o {k j : Nat} (h : k ≤ 3 ∨ k = 28 ∨ k = 33 ∨ (35 ≤ k ∧ k < 57) ∨ 101 ≤ k) : ZP 2 k j = false := by
  unfold ZP PL PQ FT PWl ZR PC pDist pQueue pWays pOpen pBuilt pBoard
  simp only [Bool.or_eq_false_iff, Bool.and_eq_false_iff, beq_eq_false_iff_ne, ne_eq, decide_eq_false_iff_not]
  omega
theorem ZP0_o {k j : Nat} (h : k ≤ 3 ∨ k = 28 ∨ k = 33 ∨ 101 ≤ k) : ZP 0 k j = false := by
  unfold ZP ZR
  rw [PL_o0 h]
  simp only [Bool.false_or, Bool.and_eq_false_iff, decide_eq_false_iff_not]
  omega
theorem bd_p3 {s : Nat → Int} {x y v : Int} (hx : 0 ≤ x) (hy : 0 ≤ y) (h7 : 0 ≤ s 7 ∧ s 7 ≤ 3) : pg (bdS s x y v) (s 7) 3 = pg s (s 7) 3 - 1 := by
  have e := bw_pg (v := v) hx hy h7.1 h7.1 h7.2 (k := 3) ⟨by decide, by decide⟩
  rw [if_pos ⟨rfl, rfl⟩] at e
  unfold bdS etS
  rw [pg_lo (by decide) h7.1 (by decide), pg_lo (by decide) h7.1 (by decide)]
  exact e
end NAA
