section TWOM
theorem case6 (fu : Nat) (a : Nat → Int32) {mem : Mem} (h : JJ mem (mMp mem)) : ∃ mem2, K_case_6 fu a mem = some mem2 ∧ JJ mem2 (mMp mem2) := by
  have key : K_case_6 fu a mem = rowA fu (K_L_setting fu (a 1) mem) (K_X12_setting fu (a 1)) mem := rfl
  rw [key]
  refine askG fu h (fun s hI hR hS hB => ?_)
  obtain ⟨x, hx1, hx2, ex⟩ := zi_ex (a 1)
  have hin : K_X12_isIn fu (zl x) 0 6 (mMp mem) = _ := k_isIn fu (mMp mem) (v_ := x) (a_ := 0) (b_ := 6) hx1 hx2 (by decide) (by decide) (by decide) (by decide)
  refine ⟨decide (0 ≤ x ∧ x ≤ 6), fun m => gi (a 1) 184 (some ((rd m 2 (Int32.toNatClampNeg (a 1))), m)), ?_, fun q => ?_, fun q m1 hS1 => ?_⟩
  · unfold K_X12_setting
    rw [ex, zl_of hx1 hx2, hin, bd_s]
  · have q1 := of_decide_eq_false q
    have ne : ∀ (k : Int) (v : Int32), v = zi k → 0 ≤ k → k ≤ 6 → ¬ zi x = v := fun k v e h1 h2 z => by
      rw [e] at z
      have e2 : (zi x = zi k) = (x = k) := zi_inj hx1 hx2 (by omega) (by omega)
      have := e2.mp z
      omega
    have hX : K_X11_setting fu (zi x) mem = some (1, 0, mem) := by
      unfold K_X11_setting
      rw [if_neg (ne 0 0 rfl (by decide) (by decide)), if_neg (ne 1 1 rfl (by decide) (by decide)), if_neg (ne 2 2 rfl (by decide) (by decide)), if_neg (ne 3 3 rfl (by decide) (by decide)), if_neg (ne 4 4 rfl (by decide) (by decide)), if_neg (ne 5 5 rfl (by decide) (by decide)), if_neg (ne 6 6 rfl (by decide) (by decide))]
    unfold K_L_setting
    rw [ex, hX]
    rfl
  · have q1 := of_decide_eq_true q
    obtain ⟨u, hu⟩ : ∃ u : Nat, x = u := ⟨x.toNat, by omega⟩
    have hX : K_X11_setting fu (zi (u : Int)) mem = some (0, zi (s u), mem) := by
      have hc : u = 0 ∨ u = 1 ∨ u = 2 ∨ u = 3 ∨ u = 4 ∨ u = 5 ∨ u = 6 := by omega
      obtain ⟨⟨r0, r1, r3, _⟩, ⟨r2, r6, r4, _, r5⟩, _⟩ := hR
      unfold K_X11_setting
      rcases hc with e | e | e | e | e | e | e
      · rw [e, if_pos (show zi ((0 : Nat) : Int) = 0 from rfl), r0]
      · rw [e, if_neg (show ¬ zi ((1 : Nat) : Int) = 0 by decide), if_pos (show zi ((1 : Nat) : Int) = 1 from rfl), r1]
      · rw [e, if_neg (show ¬ zi ((2 : Nat) : Int) = 0 by decide), if_neg (show ¬ zi ((2 : Nat) : Int) = 1 by decide), if_pos (show zi ((2 : Nat) : Int) = 2 from rfl), r2]
      · rw [e, if_neg (show ¬ zi ((3 : Nat) : Int) = 0 by decide), if_neg (show ¬ zi ((3 : Nat) : Int) = 1 by decide), if_neg (show ¬ zi ((3 : Nat) : Int) = 2 by decide), if_pos (show zi ((3 : Nat) : Int) = 3 from rfl), r3]
      · rw [e, if_neg (show ¬ zi ((4 : Nat) : Int) = 0 by decide), if_neg (show ¬ zi ((4 : Nat) : Int) = 1 by decide), if_neg (show ¬ zi ((4 : Nat) : Int) = 2 by decide), if_neg (show ¬ zi ((4 : Nat) : Int) = 3 by decide), if_pos (show zi ((4 : Nat) : Int) = 4 from rfl), r4]
      · rw [e, if_neg (show ¬ zi ((5 : Nat) : Int) = 0 by decide), if_neg (show ¬ zi ((5 : Nat) : Int) = 1 by decide), if_neg (show ¬ zi ((5 : Nat) : Int) = 2 by decide), if_neg (show ¬ zi ((5 : Nat) : Int) = 3 by decide), if_neg (show ¬ zi ((5 : Nat) : Int) = 4 by decide), if_pos (show zi ((5 : Nat) : Int) = 5 from rfl), r5]
      · rw [e, if_neg (show ¬ zi ((6 : Nat) : Int) = 0 by decide), if_neg (show ¬ zi ((6 : Nat) : Int) = 1 by decide), if_neg (show ¬ zi ((6 : Nat) : Int) = 2 by decide), if_neg (show ¬ zi ((6 : Nat) : Int) = 3 by decide), if_neg (show ¬ zi ((6 : Nat) : Int) = 4 by decide), if_neg (show ¬ zi ((6 : Nat) : Int) = 5 by decide), if_pos (show zi ((6 : Nat) : Int) = 6 from rfl), r6]
    refine ⟨zi (s u), mem, m1, ?_, ?_, AS_rf hR hB, Fo_rf _⟩
    · unfold K_L_setting
      rw [ex, hu, hX]
      rfl
    · show gi (a 1) 184 (some ((rd m1 2 (Int32.toNatClampNeg (a 1))), m1)) = _
      rw [ex, hu, gi_zi (by omega) (by omega) (by decide), cl4 (by omega), hS1 u]
/-- how many bans a pawn has -/
def cbB (s : Nat → Int) (v : Int32) (b : Nat) : Bool := decide (zi (bg s b 0) = v)
theorem c_bo (fu r : Nat) {mem : Mem} {s : Nat → Int} (h6 : 0 ≤ s 6 ∧ s 6 ≤ 12) (hB : CBn mem r s) (v : Int32) : ∀ (q n k : Nat), (k : Int) + q = s 6 → q < n → K_X6_bansOf_4 fu r mem n v (zi (cnB (cbB s v) k : Int)) (zi (k : Int)) = some (zi (cnB (cbB s v) (s 6).toNat : Int)) := by
  intro q
  induction q with
  | zero =>
    intro n k hk hn
    obtain ⟨n, rfl⟩ : ∃ i, n = i + 1 := ⟨n - 1, by omega⟩
    have i1 : (zi (k : Int) < zi (s 6)) = ((k : Int) < s 6) := zi_lt (by omega) (by omega) (by omega) (by omega)
    rw [K_X6_bansOf_4, hB.1, if_neg (fun z => by have := i1.mp z; omega), show k = (s 6).toNat by omega]
  | succ q ih =>
    intro n k hk hn
    obtain ⟨n, rfl⟩ : ∃ i, n = i + 1 := ⟨n - 1, by omega⟩
    have i1 : (zi (k : Int) < zi (s 6)) = ((k : Int) < s 6) := zi_lt (by omega) (by omega) (by omega) (by omega)
    have e1 : zi (k : Int) + 1 = zi ((k + 1 : Nat) : Int) := zi_add (k : Int) 1
    rw [K_X6_bansOf_4, hB.1, if_pos (i1.mpr (by omega)), gi_zi (by omega) (by omega) (by decide), cl4 (by omega), (hB.2 k (by omega) (by omega)).1, e1]
    have ih' := ih n (k + 1) (by omega) (by omega)
    by_cases z : zi (bg s k 0) = v
    · have e2 : zi (cnB (cbB s v) k : Int) + 1 = zi (cnB (cbB s v) (k + 1) : Int) := by
        have e3 : cnB (cbB s v) (k + 1) = cnB (cbB s v) k + 1 := by
          show cnB (cbB s v) k + (if cbB s v k = true then 1 else 0) = _
          rw [if_pos (show cbB s v k = true from decide_eq_true z)]
        rw [e3]
        exact zi_add (cnB (cbB s v) k : Int) 1
      rw [if_pos z, e2]
      exact ih'
    · have e3 : cnB (cbB s v) (k + 1) = cnB (cbB s v) k := by
        show cnB (cbB s v) k + (if cbB s v k = true then 1 else 0) = _
        rw [if_neg (show ¬ cbB s v k = true from fun y => z (of_decide_eq_true y)), Nat.add_zero]
      rw [e3] at ih'
      rw [if_neg z]
      exact ih'
theorem m_bo (fu : Nat) {m : Mem} {s : Nat → Int} (h6 : 0 ≤ s 6 ∧ s 6 ≤ 12) (hS : MS m s) (v : Int32) : ∀ (q n k : Nat), (k : Int) + q = s 6 → q < n → K_X12_bansOf_4 fu m n v (zi (cnB (cbB s v) k : Int)) (zi (k : Int)) = some (zi (cnB (cbB s v) (s 6).toNat : Int)) := by
  have g6 : ∀ o : Option Int32, gi 6 184 o = o := fun o => gi_zi (a_ := 6) (by decide) (by decide) (by decide)
  have e6 : rd m 2 (Int32.toNatClampNeg 6) = zi (s 6) := hS 6
  intro q
  induction q with
  | zero =>
    intro n k hk hn
    obtain ⟨n, rfl⟩ : ∃ i, n = i + 1 := ⟨n - 1, by omega⟩
    have i1 : (zi (k : Int) < zi (s 6)) = ((k : Int) < s 6) := zi_lt (by omega) (by omega) (by omega) (by omega)
    rw [K_X12_bansOf_4, g6, e6, if_neg (fun z => by have := i1.mp z; omega), show k = (s 6).toNat by omega]
  | succ q ih =>
    intro n k hk hn
    obtain ⟨n, rfl⟩ : ∃ i, n = i + 1 := ⟨n - 1, by omega⟩
    have i1 : (zi (k : Int) < zi (s 6)) = ((k : Int) < s 6) := zi_lt (by omega) (by omega) (by omega) (by omega)
    have e1 : zi (k : Int) + 1 = zi ((k + 1 : Nat) : Int) := zi_add (k : Int) 1
    have e7 : (36 : Int32) + 7 * zi (k : Int) = zi ((36 + 7 * k : Nat) : Int) := by
      rw [show (36 : Int32) = zi 36 from rfl, show (7 : Int32) = zi 7 from rfl, zi_mul, zi_add]
      exact congrArg zi (by omega)
    have e8 : rd m 2 (36 + 7 * k) = zi (bg s k 0) := by
      rw [hS]
      unfold bg
      exact congrArg zi (congrArg s (by omega))
    have ih' := ih n (k + 1) (by omega) (by omega)
    rw [K_X12_bansOf_4, g6, e6, if_pos (i1.mpr (by omega)), e7, gi_zi (by omega) (by omega) (by decide), cl4 (by omega), e8]
    by_cases z : zi (bg s k 0) = v
    · have e2 : zi (cnB (cbB s v) k : Int) + 1 = zi (cnB (cbB s v) (k + 1) : Int) := by
        have e3 : cnB (cbB s v) (k + 1) = cnB (cbB s v) k + 1 := by
          show cnB (cbB s v) k + (if cbB s v k = true then 1 else 0) = _
          rw [if_pos (show cbB s v k = true from decide_eq_true z)]
        rw [e3]
        exact zi_add (cnB (cbB s v) k : Int) 1
      unfold K_X12_bansOf_37
      rw [if_pos z, show K_X12_truth fu 1 m = some 1 from rfl, bd_s, ltf, e2, e1]
      exact ih'
    · have e3 : cnB (cbB s v) (k + 1) = cnB (cbB s v) k := by
        show cnB (cbB s v) k + (if cbB s v k = true then 1 else 0) = _
        rw [if_neg (show ¬ cbB s v k = true from fun y => z (of_decide_eq_true y)), Nat.add_zero]
      rw [e3] at ih'
      have e2 : zi (cnB (cbB s v) k : Int) + 0 = zi (cnB (cbB s v) k : Int) := by
        rw [show (0 : Int32) = zi 0 from rfl, zi_add, Int.add_zero]
      unfold K_X12_bansOf_37
      rw [if_neg z, show K_X12_truth fu 0 m = some 0 from rfl, bd_s, ltf, e2, e1]
      exact ih'
def k7B (y : Int) : Bool := decide (0 ≤ y ∧ y ≤ 7)
def CH7 (fu : Nat) (x1 x2 : Int32) (mem : Mem) : Option TR := (if x2 = 0 then some (0, ((rd mem (pPawn 0 (Int32.toNatClampNeg x1)) 0) - (rd mem (pPawn 0 (Int32.toNatClampNeg x1)) 0) / 9 * 9), mem) else (if x2 = 1 then some (0, ((rd mem (pPawn 0 (Int32.toNatClampNeg x1)) 0) / 9), mem) else (if x2 = 2 then some (0, (rd mem (pPawn 0 (Int32.toNatClampNeg x1)) 1), mem) else (if x2 = 3 then some (0, (rd mem (pPawn 0 (Int32.toNatClampNeg x1)) 2), mem) else (if x2 = 4 then some (0, (rd mem (pPawn 0 (Int32.toNatClampNeg x1)) 3), mem) else (if x2 = 5 then some (0, (rd mem (pPawn 0 (Int32.toNatClampNeg x1)) 4), mem) else (if x2 = 6 then some (0, (rd mem (pPawn 0 (Int32.toNatClampNeg x1)) 5), mem) else (if x2 = 7 then bd (K_X6_bansOf fu 0 x1 mem) (fun x_10 => some (0, x_10, mem)) else some (1, 0, mem)))))))))
theorem ch7_no (fu : Nat) {x1 : Int32} {y : Int} (hy1 : -2147483648 ≤ y) (hy2 : y < 2147483648) (q : ¬ (0 ≤ y ∧ y ≤ 7)) (mem : Mem) : CH7 fu x1 (zi y) mem = some (1, 0, mem) := by
  have ne : ∀ (k : Int) (v : Int32), v = zi k → 0 ≤ k → k ≤ 7 → ¬ zi y = v := fun k v e h1 h2 z => by
    rw [e] at z
    have e2 : (zi y = zi k) = (y = k) := zi_inj hy1 hy2 (by omega) (by omega)
    have := e2.mp z
    omega
  unfold CH7
  rw [if_neg (ne 0 0 rfl (by decide) (by decide)), if_neg (ne 1 1 rfl (by decide) (by decide)), if_neg (ne 2 2 rfl (by decide) (by decide)), if_neg (ne 3 3 rfl (by decide) (by decide)), if_neg (ne 4 4 rfl (by decide) (by decide)), if_neg (ne 5 5 rfl (by decide) (by decide)), if_neg (ne 6 6 rfl (by decide) (by decide)), if_neg (ne 7 7 rfl (by decide) (by decide))]
def v7 (s : Nat → Int) (u k : Nat) : Int := if k = 7 then (cnB (cbB s (zi (u : Int))) (s 6).toNat : Int) else pg s u k
theorem ch7_ok (fu : Nat) (hfu : 1000 ≤ fu) {mem : Mem} {s : Nat → Int} (hI : InvH s) (hR : RC mem 0 s) {u k : Nat} (hu : (u : Int) < s 2) (hk : k ≤ 7) : CH7 fu (zi (u : Int)) (zi (k : Int)) mem = some (0, zi (v7 s u k), mem) := by
  obtain ⟨iz, ic, iW, ip, _⟩ := hI.1
  have c1 := ic.1
  have c6 := ic.2.1
  have hpu := ip u (by omega) hu
  have hxy := cl_nat iz hpu.1
  obtain ⟨r0, r1, r2, r3, r4, r5⟩ := hR.2.2.1 u (by omega) hu
  have hcc : k = 0 ∨ k = 1 ∨ k = 2 ∨ k = 3 ∨ k = 4 ∨ k = 5 ∨ k = 6 ∨ k = 7 := by omega
  unfold CH7 v7
  rw [cl4 (by omega)]
  rcases hcc with e | e | e | e | e | e | e | e
  · have e9 : zi (9 * pg s u 1 + pg s u 0) - zi (9 * pg s u 1 + pg s u 0) / 9 * 9 = zi (pg s u 0) := by
      have := zi_mod (a := 9 * pg s u 1 + pg s u 0) (b := 9) (by omega) (by omega) (by decide) (by decide)
      refine this.trans (congrArg zi ?_)
      omega
    rw [e, if_pos (show zi ((0 : Nat) : Int) = 0 from rfl), r0, e9]
    rfl
  · have e9 : zi (9 * pg s u 1 + pg s u 0) / 9 = zi (pg s u 1) := by
      have := zi_div (a_ := 9 * pg s u 1 + pg s u 0) (b_ := 9) (by omega) (by omega) (by decide) (by decide)
      refine this.trans (congrArg zi ?_)
      omega
    rw [e, if_neg (show ¬ zi ((1 : Nat) : Int) = 0 by decide), if_pos (show zi ((1 : Nat) : Int) = 1 from rfl), r0, e9]
    rfl
  · rw [e, if_neg (show ¬ zi ((2 : Nat) : Int) = 0 by decide), if_neg (show ¬ zi ((2 : Nat) : Int) = 1 by decide), if_pos (show zi ((2 : Nat) : Int) = 2 from rfl), r1]
    rfl
  · rw [e, if_neg (show ¬ zi ((3 : Nat) : Int) = 0 by decide), if_neg (show ¬ zi ((3 : Nat) : Int) = 1 by decide), if_neg (show ¬ zi ((3 : Nat) : Int) = 2 by decide), if_pos (show zi ((3 : Nat) : Int) = 3 from rfl), r2]
    rfl
  · rw [e, if_neg (show ¬ zi ((4 : Nat) : Int) = 0 by decide), if_neg (show ¬ zi ((4 : Nat) : Int) = 1 by decide), if_neg (show ¬ zi ((4 : Nat) : Int) = 2 by decide), if_neg (show ¬ zi ((4 : Nat) : Int) = 3 by decide), if_pos (show zi ((4 : Nat) : Int) = 4 from rfl), r3]
    rfl
  · rw [e, if_neg (show ¬ zi ((5 : Nat) : Int) = 0 by decide), if_neg (show ¬ zi ((5 : Nat) : Int) = 1 by decide), if_neg (show ¬ zi ((5 : Nat) : Int) = 2 by decide), if_neg (show ¬ zi ((5 : Nat) : Int) = 3 by decide), if_neg (show ¬ zi ((5 : Nat) : Int) = 4 by decide), if_pos (show zi ((5 : Nat) : Int) = 5 from rfl), r4]
    rfl
  · rw [e, if_neg (show ¬ zi ((6 : Nat) : Int) = 0 by decide), if_neg (show ¬ zi ((6 : Nat) : Int) = 1 by decide), if_neg (show ¬ zi ((6 : Nat) : Int) = 2 by decide), if_neg (show ¬ zi ((6 : Nat) : Int) = 3 by decide), if_neg (show ¬ zi ((6 : Nat) : Int) = 4 by decide), if_neg (show ¬ zi ((6 : Nat) : Int) = 5 by decide), if_pos (show zi ((6 : Nat) : Int) = 6 from rfl), r5]
    rfl
  · have hb := c_bo fu 0 c6 (RC_CBn hR) (zi (u : Int)) (s 6).toNat fu 0 (by omega) (by omega)
    have hb' : K_X6_bansOf fu 0 (zi (u : Int)) mem = some (zi (cnB (cbB s (zi (u : Int))) (s 6).toNat : Int)) := hb
    rw [e, if_neg (show ¬ zi ((7 : Nat) : Int) = 0 by decide), if_neg (show ¬ zi ((7 : Nat) : Int) = 1 by decide), if_neg (show ¬ zi ((7 : Nat) : Int) = 2 by decide), if_neg (show ¬ zi ((7 : Nat) : Int) = 3 by decide), if_neg (show ¬ zi ((7 : Nat) : Int) = 4 by decide), if_neg (show ¬ zi ((7 : Nat) : Int) = 5 by decide), if_neg (show ¬ zi ((7 : Nat) : Int) = 6 by decide), if_pos (show zi ((7 : Nat) : Int) = 7 from rfl), hb', bd_s]
    rfl
theorem case7 (fu : Nat) (hfu : 40000 ≤ fu) (a : Nat → Int32) {mem : Mem} (h : JJ mem (mMp mem)) : ∃ mem2, K_case_7 fu a mem = some mem2 ∧ JJ mem2 (mMp mem2) := by
  have key : K_case_7 fu a mem = rowA fu (K_L_pawn fu (a 1) (a 2) mem) (K_X12_pawn fu (a 1) (a 2)) mem := rfl
  rw [key]
  refine askH fu h (fun s hI hR hS hB => ?_)
  obtain ⟨x, hx1, hx2, ex⟩ := zi_ex (a 1)
  obtain ⟨y, hy1, hy2, ey⟩ := zi_ex (a 2)
  have c2 := hI.1.2.1.1
  have hc := c_chkP fu hR c2 hx1 hx2
  have hm := m_isPawn fu hS c2 hx1 hx2
  have hin : K_X12_isIn fu (zl y) 0 7 (mMp mem) = _ := k_isIn fu (mMp mem) (v_ := y) (a_ := 0) (b_ := 7) hy1 hy2 (by decide) (by decide) (by decide) (by decide)
  have hP : K_X11_pawn fu (zi x) (zi y) mem = bdt (K_X11_checkPawn fu (zi x) mem) mem (gi (zi x) 4 (CH7 fu (zi x) (zi y) mem)) := rfl
  refine ⟨pB s x, k7B y, fun m => (if a 2 = 7 then bd (K_X12_bansOf fu (a 1) m) (fun x_4 => some (x_4, m)) else bd (K_X12_of fu (a 1) (a 2) m) (fun x_5 => some (x_5, m))), mMp mem, hS, fun _ _ _ => rfl, ?_, fun q => ?_, fun q1 q2 => ⟨mem, ?_, AS_rf hR hB⟩, fun q1 q2 m1 hS1 => ?_⟩
  · unfold K_X12_pawn
    rw [ex, ey, hm, bd_s, zl_of hy1 hy2, hin, bd_s]
    rfl
  · unfold K_L_pawn
    rw [ex, ey, hP, hc.2 q]
    rfl
  · have qx := of_decide_eq_true q1
    unfold K_L_pawn
    rw [ex, ey, hP, hc.1 q1, gi_zi (by omega) (by omega) (by decide), ch7_no fu hy1 hy2 (of_decide_eq_false q2)]
    rfl
  · have qx := of_decide_eq_true q1
    have qy := of_decide_eq_true q2
    obtain ⟨u, hu⟩ : ∃ u : Nat, x = u := ⟨x.toNat, by omega⟩
    obtain ⟨k, hk⟩ : ∃ k : Nat, y = k := ⟨y.toNat, by omega⟩
    have hus : (u : Int) < s 2 := by omega
    refine ⟨zi (v7 s u k), mem, m1, ?_, ?_, AS_rf hR hB, Fo_rf _⟩
    · unfold K_L_pawn
      rw [ex, ey, hP, hc.1 q1, hu, hk, gi_zi (by omega) (by omega) (by decide), ch7_ok fu (by omega) hI hR hus (by omega)]
      rfl
    · show (if a 2 = 7 then bd (K_X12_bansOf fu (a 1) m1) (fun x_4 => some (x_4, m1)) else bd (K_X12_of fu (a 1) (a 2) m1) (fun x_5 => some (x_5, m1))) = _
      rw [ex, ey, hu, hk]
      have i7 : (zi (k : Int) = (7 : Int32)) = ((k : Int) = 7) := zi_inj (b_ := 7) (by omega) (by omega) (by decide) (by decide)
      unfold v7
      by_cases z : k = 7
      · have hb := m_bo fu hI.1.2.1.2.1 hS1 (zi (u : Int)) (s 6).toNat fu 0 (by have := hI.1.2.1.2.1; omega) (by have := hI.1.2.1.2.1; omega)
        have hb' : K_X12_bansOf fu (zi (u : Int)) m1 = some (zi (cnB (cbB s (zi (u : Int))) (s 6).toNat : Int)) := hb
        rw [if_pos (i7.mpr (by omega)), if_pos z, hb', bd_s]
      · rw [if_neg (fun w => z (by have := i7.mp w; omega)), if_neg z, k_of fu hS1 (p := (u : Int)) (k := (k : Int)) (by omega) (by omega) (by omega) (by omega), bd_s]
theorem case10 (fu : Nat) (hfu : 40000 ≤ fu) (a : Nat → Int32) {mem : Mem} (h : JJ mem (mMp mem)) : ∃ mem2, K_case_10 fu a mem = some mem2 ∧ JJ mem2 (mMp mem2) := by
  have key : K_case_10 fu a mem = rowA fu (K_L_pawnAt fu (a 1) (a 2) mem) (K_X12_pawnAt fu (a 1) (a 2)) mem := rfl
  rw [key]
  refine askG fu h (fun s hI hR hS hB => ?_)
  obtain ⟨x, hx1, hx2, ex⟩ := zi_ex (a 1)
  obtain ⟨y, hy1, hy2, ey⟩ := zi_ex (a 2)
  obtain ⟨iz, ic, iW, ip, ib, iwp, ids, irk, iwy⟩ := hI.1
  have hc := c_chkC fu hR.1 iz hx1 hx2 hy1 hy2
  have hm := k_isCell fu hS iz hx1 hx2 hy1 hy2
  refine ⟨isCl s x y, fun m => bd (K_X12_pawnIn fu (a 1) (a 2) m) (fun x_3 => some (x_3, m)), ?_, fun q => ?_, fun q m1 hS1 => ?_⟩
  · unfold K_X12_pawnAt
    rw [ex, ey, hm, bd_s]
  · unfold K_L_pawnAt K_X11_pawnAt
    rw [ex, ey, hc.2 q]
    rfl
  · obtain ⟨u1, u2, u3, u4, u5, hxo, hyo⟩ := cl_nat iz q
    have hcN : zi y * 9 + zi x = zi ((9 * y + x).toNat : Int) := by
      rw [show (9 : Int32) = zi 9 from rfl, zi_mul, zi_add]
      exact congrArg zi (by omega)
    have hp := c_pawnOn fu 0 (by omega) iz ic.1 ic.2.2.2.1.2 ic.2.2.2.2.1.2 ip ids ⟨hR.2.1.1, hR.2.2.1⟩ (c := (9 * y + x).toNat) u5
    rw [hxo, hyo] at hp
    have hq := m_pawnIn fu (by omega) hS1 iz ic.1 ic.2.2.2.1.2 ic.2.2.2.2.1.2 ip (x := x) (y := y) (by omega) (by omega)
    refine ⟨zi (pI s x y), mem, m1, ?_, ?_, AS_rf hR hB, Fo_rf _⟩
    · unfold K_L_pawnAt K_X11_pawnAt
      rw [ex, ey, hc.1 q, hcN, hp, bd_s]
      rfl
    · show bd (K_X12_pawnIn fu (a 1) (a 2) m1) _ = _
      rw [ex, ey, hq, bd_s]
/-- the pawn with a rank -/
def rkF (s : Nat → Int) (x : Int) : Nat → Int
  | 0 => -1
  | n + 1 => if 0 < x ∧ pg s n 6 = x then (n : Int) else rkF s x n
theorem rk_no {s : Nat → Int} {x : Int} : ∀ n : Nat, (∀ i : Nat, i < n → ¬ (0 < x ∧ pg s i 6 = x)) → rkF s x n = -1 := by
  intro n
  induction n with
  | zero => exact fun _ => rfl
  | succ n ih =>
    intro hn
    show (if 0 < x ∧ pg s n 6 = x then (n : Int) else rkF s x n) = -1
    rw [if_neg (hn n (Nat.lt_succ_self n))]
    exact ih (fun i hi => hn i (by omega))
theorem rk_at {s : Nat → Int} {x : Int} {k : Nat} (hk : 0 < x ∧ pg s k 6 = x) : ∀ n : Nat, k < n → (∀ i : Nat, i < n → i ≠ k → ¬ (0 < x ∧ pg s i 6 = x)) → rkF s x n = k := by
  intro n
  induction n with
  | zero => exact fun hn => absurd hn (Nat.not_lt_zero k)
  | succ n ih =>
    intro hn hq
    show (if 0 < x ∧ pg s n 6 = x then (n : Int) else rkF s x n) = k
    by_cases z : n = k
    · rw [z, if_pos hk]
    · rw [if_neg (hq n (Nat.lt_succ_self n) z)]
      exact ih (by omega) (fun i hi => hq i (by omega))
theorem c_rk (fu r : Nat) {mem : Mem} {s : Nat → Int} (hc : cnO s) (hp : pasO s) (hk : rkO s) (hP : CPn mem r s) {x : Int} (hx1 : -2147483648 ≤ x) (hx2 : x < 2147483648) : ∀ (q n k : Nat), (k : Int) + q = s 2 → q < n → (∀ i : Nat, i < k → ¬ (0 < x ∧ pg s i 6 = x)) → K_X6_pawnOfRank_2 fu r mem n (zi x) (zi (k : Int)) = some (zi (rkF s x (s 2).toNat)) := by
  have c1 := hc.1
  have c4 := hc.2.2.2.1
  have c5 := hc.2.2.2.2.1
  have i0 : ((0 : Int32) < zi x) = (0 < x) := zi_lt (a_ := 0) (by decide) (by decide) hx1 hx2
  intro q
  induction q with
  | zero =>
    intro n k hkq hn hno
    obtain ⟨n, rfl⟩ : ∃ i, n = i + 1 := ⟨n - 1, by omega⟩
    have i1 : (zi (k : Int) < zi (s 2)) = ((k : Int) < s 2) := zi_lt (by omega) (by omega) (by omega) (by omega)
    rw [K_X6_pawnOfRank_2, hP.1, if_neg (fun z => by have := i1.mp z; omega), rk_no (s 2).toNat (fun i hi => hno i (by omega))]
    rfl
  | succ q ih =>
    intro n k hkq hn hno
    obtain ⟨n, rfl⟩ : ∃ i, n = i + 1 := ⟨n - 1, by omega⟩
    have i1 : (zi (k : Int) < zi (s 2)) = ((k : Int) < s 2) := zi_lt (by omega) (by omega) (by omega) (by omega)
    have e1 : zi (k : Int) + 1 = zi ((k + 1 : Nat) : Int) := zi_add (k : Int) 1
    have hpk := (hp k (by omega) (by omega)).2.2.2.2.2.1
    have i2 : (zi (pg s k 6) = zi x) = (pg s k 6 = x) := zi_inj (by omega) (by omega) hx1 hx2
    have hr := (hP.2 k (by omega) (by omega)).2.2.2.2.2
    rw [K_X6_pawnOfRank_2, hP.1, if_pos (i1.mpr (by omega)), e1]
    by_cases z : 0 < x
    · rw [if_pos (i0.mpr z), gi_zi (by omega) (by omega) (by decide), cl4 (by omega), hr]
      by_cases y : pg s k 6 = x
      · rw [if_pos (i2.mpr y), rk_at ⟨z, y⟩ (s 2).toNat (by omega) (fun i hi hik w => ?_)]
        have := hk i k (by omega) (by omega) (by omega) (by omega) (by omega) (by omega)
        exact this (w.2.trans y.symm)
      · rw [if_neg (fun w => y (i2.mp w))]
        exact ih n (k + 1) (by omega) (by omega) (fun i hi w => by
          by_cases u : i = k
          · exact y (by rw [← u]; exact w.2)
          · exact hno i (by omega) w)
    · rw [if_neg (fun w => z (i0.mp w))]
      exact ih n (k + 1) (by omega) (by omega) (fun i hi w => z w.1)
theorem m_rk (fu : Nat) {m : Mem} {s : Nat → Int} (hc : cnO s) (hp : pasO s) (hS : MS m s) {x : Int} (hx1 : -2147483648 ≤ x) (hx2 : x < 2147483648) : ∀ (q n k : Nat), (k : Int) + q = s 2 → q < n → K_X12_ranked_9 fu n (zi x) (zi (rkF s x k)) (zi (k : Int)) m = some (zi (rkF s x (s 2).toNat), m) := by
  have c1 := hc.1
  have c4 := hc.2.2.2.1
  have c5 := hc.2.2.2.2.1
  have g2 : ∀ o : Option (Int32 × Mem), gi 2 184 o = o := fun o => gi_zi (a_ := 2) (by decide) (by decide) (by decide)
  have e2 : rd m 2 (Int32.toNatClampNeg 2) = zi (s 2) := hS 2
  intro q
  induction q with
  | zero =>
    intro n k hkq hn
    obtain ⟨n, rfl⟩ : ∃ i, n = i + 1 := ⟨n - 1, by omega⟩
    have i1 : (zi (k : Int) < zi (s 2)) = ((k : Int) < s 2) := zi_lt (by omega) (by omega) (by omega) (by omega)
    rw [K_X12_ranked_9, g2, e2, if_neg (fun z => by have := i1.mp z; omega), show k = (s 2).toNat by omega]
  | succ q ih =>
    intro n k hkq hn
    obtain ⟨n, rfl⟩ : ∃ i, n = i + 1 := ⟨n - 1, by omega⟩
    have i1 : (zi (k : Int) < zi (s 2)) = ((k : Int) < s 2) := zi_lt (by omega) (by omega) (by omega) (by omega)
    have e1 : zi (k : Int) + 1 = zi ((k + 1 : Nat) : Int) := zi_add (k : Int) 1
    have hpk := (hp k (by omega) (by omega)).2.2.2.2.2.1
    have i2 : (zi (pg s k 6) = zi x) = (pg s k 6 = x) := zi_inj (by omega) (by omega) hx1 hx2
    have hf := k_fin fu hS (p := (k : Int)) (by omega) (by omega) (by omega) (by omega)
    have ho : K_X12_of fu (zi (k : Int)) 6 m = some (zi (pg s k 6)) := k_of fu hS (k := 6) (by omega) (by omega) (by decide) (by decide)
    have ih' := ih n (k + 1) (by omega) (by omega)
    have er : rkF s x (k + 1) = if 0 < x ∧ pg s k 6 = x then (k : Int) else rkF s x k := rfl
    rw [er] at ih'
    rw [K_X12_ranked_9, g2, e2, if_pos (i1.mpr (by omega)), hf, bd_s, e1]
    by_cases z : 0 < pg s k 6
    · rw [decide_eq_true z, if_neg (show ¬ zi (bi true) = 0 by decide), ho, bd_s]
      by_cases y : pg s k 6 = x
      · rw [if_pos (⟨by omega, y⟩ : 0 < x ∧ pg s k 6 = x)] at ih'
        rw [if_pos (i2.mpr y)]
        exact ih'
      · rw [if_neg (fun w => y w.2)] at ih'
        rw [if_neg (fun w => y (i2.mp w))]
        exact ih'
    · rw [if_neg (fun w => by omega)] at ih'
      rw [decide_eq_false z, if_pos (show zi (bi false) = 0 from rfl)]
      exact ih'
theorem case11 (fu : Nat) (hfu : 40000 ≤ fu) (a : Nat → Int32) {mem : Mem} (h : JJ mem (mMp mem)) : ∃ mem2, K_case_11 fu a mem = some mem2 ∧ JJ mem2 (mMp mem2) := by
  obtain ⟨s, hR, hS, hI, hB, hW⟩ := JJ_JW h
  obtain ⟨x, hx1, hx2, ex⟩ := zi_ex (a 1)
  obtain ⟨iz, ic, iW, ip, ib, iwp, ids, irk, iwy⟩ := hI.1
  have c1 := ic.1
  have f0 : Fr (fun k j => k == 0 && j == 0) (mMp mem) (mw (mMp mem) 0 0 0) := Fr_mw _ _ rfl
  have hS1 : MS (mw (mMp mem) 0 0 0) s := MS_P hS f0 (fun _ => rfl)
  have hA : K_X11_ranked fu (a 1) mem = some (zi (rkF s x (s 2).toNat)) := by
    have e := c_rk fu 0 ic ip irk ⟨hR.2.1.1, hR.2.2.1⟩ hx1 hx2 (s 2).toNat fu 0 (by omega) (by omega) (fun i hi => absurd hi (Nat.not_lt_zero i))
    have e' : K_X6_pawnOfRank fu 0 (zi x) mem = some (zi (rkF s x (s 2).toNat)) := e
    unfold K_X11_ranked
    rw [ex, e', bd_s]
  have hBB : K_X12_ranked fu (a 1) (mMp mem) = some (zi (rkF s x (s 2).toNat), mw (mMp mem) 0 0 0) := by
    have e := m_rk fu ic ip hS1 hx1 hx2 (s 2).toNat fu 0 (by omega) (by omega)
    unfold K_X12_ranked
    rw [ex, ltf]
    exact e
  exact ⟨_, call_C hA hBB, aft_JJ (JJ_m0 h f0)⟩
end TWOM
