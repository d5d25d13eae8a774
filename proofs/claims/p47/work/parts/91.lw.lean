section LWA
def LWp (m : Mem) (s : Nat → Int) (p : Nat) : Prop := rd m (13 + p) 0 = zi (pg s p 0) ∧ rd m (13 + p) 1 = zi (pg s p 1) ∧ rd m (13 + p) 2 = zi (pg s p 2) ∧ rd m (13 + p) 3 = zi (pg s p 3) ∧ rd m (13 + p) 4 = zi (pg s p 4) ∧ rd m (13 + p) 5 = zi (pg s p 5) ∧ rd m (13 + p) 6 = zi (pg s p 6)
def LWb (np : Nat) (m : Mem) (s : Nat → Int) (b : Nat) : Prop := rd m (14 + np + b) 0 = zi (bg s b 0) ∧ rd m (14 + np + b) 1 = zi (bg s b 1) ∧ rd m (14 + np + b) 2 = zi (bg s b 2) ∧ rd m (14 + np + b) 3 = zi (bg s b 3) ∧ rd m (14 + np + b) 4 = zi (bg s b 4) ∧ rd m (14 + np + b) 5 = zi (bg s b 5) ∧ rd m (14 + np + b) 6 = zi (bg s b 6)
/-- the law's walls and size -/
def LWw (m : Mem) (s : Nat → Int) : Prop := rd m 0 0 = zi (s 0) ∧ rd m 0 1 = zi (s 1) ∧ ∀ x y : Int, 0 ≤ x → x < 8 → 0 ≤ y → y < 8 → rd m (4 + y.toNat) x.toNat = zi (s (120 + 8 * y + x).toNat)
/-- the law's race holds the numbers of the race s, with np pawns and nb bans -/
def LW (np nb : Nat) (m : Mem) (s : Nat → Int) : Prop := (s 2 = (np : Int) ∧ s 6 = (nb : Int)) ∧ LWw m s ∧ (rd m 0 2 = zi (s 4) ∧ rd m 0 3 = zi (s 5) ∧ rd m 0 4 = zi (s 7)) ∧ (∀ p, p < np → LWp m s p) ∧ ∀ b, b < nb → LWb np m s b
def smO (s : Nat → Int) : Prop := s 0 ≤ 6 ∧ s 1 ≤ 6
theorem ofNp (n : Nat) : Int32.ofNat n = zi (n : Int) := ofNat_zi
theorem w_isAtSide {np nb fu : Nat} {m : Mem} {s : Nat → Int} (hS : LWw m s) (hz : szO s) {x y d : Int} (h1 : -1000 ≤ x) (h2 : x < 1000) (h3 : -1000 ≤ y) (h4 : y < 1000) (h5 : 0 ≤ d) (h6 : d ≤ 3) : KW_isAtSide np nb fu (zi x) (zi y) (zi d) m = some (zi (bi (atS s x y d))) := by
  obtain ⟨⟨hw1, hw2⟩, hh1, hh2⟩ := hz
  unfold KW_isAtSide KW_isAtSide_14 KW_isAtSide_38 atS
  simp (disch := omega) only [zi_lit, zl_lit, zi_add, zi_sub, zi_mul, zi_neg, zi_lt, zi_inj, zi_clamp, zl_of, gi_zi, bd_s, ltf, bi_0, bi_1, gb_bi, Int.reduceToNat, Int.reduceNeg, Int.toNat_natCast, hS.1, hS.2.1]
  rcases (show d = 0 ∨ d = 1 ∨ d = 2 ∨ d = 3 by omega) with rfl | rfl | rfl | rfl
  · by_cases c2 : y = s 1 - 1 <;> simp [c2, bi]
  · by_cases c3 : x = s 0 - 1 <;> simp [c3, bi]
  · by_cases c4 : y = 0 <;> simp [c4, bi]
  · by_cases c4 : x = 0 <;> simp [c4, bi]
theorem w_isCell {np nb fu : Nat} {m : Mem} {s : Nat → Int} (hS : LWw m s) (hz : szO s) {x y : Int} (h1 : -1000 ≤ x) (h2 : x < 1000) (h3 : -1000 ≤ y) (h4 : y < 1000) : KW_isCell np nb fu (zi x) (zi y) m = some (zi (bi (isCl s x y))) := by
  obtain ⟨⟨hw1, hw2⟩, hh1, hh2⟩ := hz
  unfold KW_isCell isCl
  simp (disch := omega) only [zi_lit, zl_lit, zi_add, zi_sub, zi_mul, zi_neg, zi_lt, zi_inj, zi_clamp, zl_of, gi_zi, bd_s, ltf, bi_0, bi_1, gb_bi, Int.reduceToNat, Int.reduceNeg, Int.toNat_natCast, hS.1, hS.2.1]
  by_cases c1 : x < 0
  · rw [if_pos c1, decide_eq_false (show ¬ (0 ≤ x ∧ x ≤ s 0 - 1) by omega)]
    rfl
  · rw [if_neg c1]
    by_cases c2 : y < 0
    · rw [if_pos c2, decide_eq_false (show ¬ (0 ≤ y ∧ y ≤ s 1 - 1) by omega), Bool.and_false]
      rfl
    · rw [if_neg c2]
      by_cases c3 : x < s 0
      · rw [if_pos c3, decide_eq_true (show (0 ≤ x ∧ x ≤ s 0 - 1) by omega)]
        by_cases c4 : y < s 1
        · rw [if_pos c4, decide_eq_true (show (0 ≤ y ∧ y ≤ s 1 - 1) by omega)]
          rfl
        · rw [if_neg c4, decide_eq_false (show ¬ (0 ≤ y ∧ y ≤ s 1 - 1) by omega)]
          rfl
      · rw [if_neg c3, decide_eq_false (show ¬ (0 ≤ x ∧ x ≤ s 0 - 1) by omega)]
        rfl
theorem w_wall {np nb fu : Nat} {m : Mem} {s : Nat → Int} (hS : LWw m s) (hz : szO s) {x y : Int} (h1 : -1000 ≤ x) (h2 : x < 1000) (h3 : -1000 ≤ y) (h4 : y < 1000) : KW_wall np nb fu (zi x) (zi y) m = some (zi (wg s x y)) := by
  obtain ⟨⟨hw1, hw2⟩, hh1, hh2⟩ := hz
  unfold KW_wall wg
  simp (disch := omega) only [zi_lit, zi_add, zi_sub, zi_lt, hS.1, hS.2.1]
  have no : ¬ ((0 ≤ x ∧ x ≤ s 0 - 2) ∧ 0 ≤ y ∧ y ≤ s 1 - 2) → ¬ isPl s x y = true := fun h q => h (isPl_iff.mp q)
  by_cases c1 : x < 0
  · rw [if_pos c1, if_neg (no (by omega))]
  · rw [if_neg c1]
    by_cases c2 : y < 0
    · rw [if_pos c2, if_neg (no (by omega))]
    · rw [if_neg c2]
      by_cases c3 : x < s 0 - 1
      · rw [if_pos c3]
        by_cases c4 : y < s 1 - 1
        · rw [if_pos c4, if_pos (isPl_iff.mpr ⟨⟨by omega, by omega⟩, by omega, by omega⟩), gi_zi (by omega) (by omega) (by omega), gi_zi (by omega) (by omega) (by omega), zi_clamp (by omega) (by omega), zi_clamp (by omega) (by omega), hS.2.2 x y (by omega) (by omega) (by omega) (by omega)]
        · rw [if_neg c4, if_neg (no (by omega))]
      · rw [if_neg c3, if_neg (no (by omega))]
theorem dxV_0 : dxV 0 = zi 0 := rfl
theorem dxV_1 : dxV 1 = zi 1 := rfl
theorem dxV_2 : dxV 2 = zi 0 := rfl
theorem dxV_3 : dxV 3 = zi (-1) := rfl
theorem dyV_0 : dyV 0 = zi 1 := rfl
theorem dyV_1 : dyV 1 = zi 0 := rfl
theorem dyV_2 : dyV 2 = zi (-1) := rfl
theorem dyV_3 : dyV 3 = zi 0 := rfl
theorem dxV_z {d : Nat} (hd : d < 4) : dxV d = zi (dx (d : Int)) := by
  rcases (show d = 0 ∨ d = 1 ∨ d = 2 ∨ d = 3 by omega) with rfl | rfl | rfl | rfl <;> rfl
theorem dyV_z {d : Nat} (hd : d < 4) : dyV d = zi (dy (d : Int)) := by
  rcases (show d = 0 ∨ d = 1 ∨ d = 2 ∨ d = 3 by omega) with rfl | rfl | rfl | rfl <;> rfl
/-- a step's being open, by the places of walls -/
theorem blk_0 {s : Nat → Int} {x y : Int} : blk s x y 0 = false ↔ isCl s x (y + 1) = true ∧ wg s x y ≠ 1 ∧ wg s (x - 1) y ≠ 1 := by
  unfold blk
  rw [show dx 0 = 0 from rfl, show dy 0 = 1 from rfl, if_pos (by omega), show lsI y (y + 1) = y from if_pos (by omega), show x + 0 = x by omega]
  simp
theorem blk_1 {s : Nat → Int} {x y : Int} : blk s x y 1 = false ↔ isCl s (x + 1) y = true ∧ wg s x y ≠ 2 ∧ wg s x (y - 1) ≠ 2 := by
  unfold blk
  rw [show dx 1 = 1 from rfl, show dy 1 = 0 from rfl, if_neg (by omega), show lsI x (x + 1) = x from if_pos (by omega), show y + 0 = y by omega]
  simp
theorem blk_2 {s : Nat → Int} {x y : Int} : blk s x y 2 = false ↔ isCl s x (y - 1) = true ∧ wg s x (y - 1) ≠ 1 ∧ wg s (x - 1) (y - 1) ≠ 1 := by
  unfold blk
  rw [show dx 2 = 0 from rfl, show dy 2 = -1 from rfl, if_pos (by omega), show lsI y (y + -1) = y - 1 from if_neg (by omega), show x + 0 = x by omega, show y + -1 = y - 1 by omega]
  simp
theorem blk_3 {s : Nat → Int} {x y : Int} : blk s x y 3 = false ↔ isCl s (x - 1) y = true ∧ wg s (x - 1) y ≠ 2 ∧ wg s (x - 1) (y - 1) ≠ 2 := by
  unfold blk
  rw [show dx 3 = -1 from rfl, show dy 3 = 0 from rfl, if_neg (by omega), show lsI x (x + -1) = x - 1 from if_neg (by omega), show y + 0 = y by omega, show x + -1 = x - 1 by omega]
  simp
theorem zi_if1 {v w : Int} (h : 0 ≤ v ∧ v ≤ 2) (hw : 0 ≤ w ∧ w ≤ 2) : (zi v = zi w) = (v = w) := zi_inj (by omega) (by omega) (by omega) (by omega)
theorem some_bi {P : Prop} [Decidable P] {b : Bool} (h : b = true ↔ P) : zi (bi b) = if P then (1 : Int32) else 0 := by
  by_cases c : P
  · rw [if_pos c, h.mpr c]
    rfl
  · rw [if_neg c, show b = false by
      cases b with
      | true => exact absurd (h.mp rfl) c
      | false => rfl]
    rfl
theorem w_isOpen0 {np nb fu : Nat} {m : Mem} {s : Nat → Int} (hS : LWw m s) (hz : szO s) (hW : wlO s) {x y d : Int} (h1 : -100 ≤ x) (h2 : x < 100) (h3 : -100 ≤ y) (h4 : y < 100) (h5 : d = 0 ∨ d = 1) : KW_isOpen0 np nb fu (zi x) (zi y) (zi d) m = some (zi (bi (!blk s x y d))) := by
  have v1 := wg_le hW hz x y
  have v2 := wg_le hW hz (x - 1) y
  have v3 := wg_le hW hz x (y - 1)
  unfold KW_isOpen0
  rcases h5 with rfl | rfl
  · rw [gi_zi (by omega) (by omega) (by omega), gi_zi (by omega) (by omega) (by omega), zi_clamp (by omega) (by omega), show (0 : Int).toNat = 0 from rfl, dxV_0, dyV_0, zi_add, zi_add, w_isCell hS hz (by omega) (by omega) (by omega) (by omega), show x + 0 = x by omega]
    have hb := blk_0 (s := s) (x := x) (y := y)
    rw [bd_s]
    by_cases c1 : isCl s x (y + 1) = true
    · rw [c1, if_neg (by decide), if_pos (by decide), w_wall hS hz (by omega) (by omega) (by omega) (by omega), bd_s]
      by_cases c2 : wg s x y = 1
      · rw [if_pos (by rw [c2]; rfl), some_bi (P := False) (by
          rw [Bool.not_eq_true', hb]
          simp [c2])]
        rfl
      · rw [if_neg (by rw [show (1 : Int32) = zi 1 from rfl, zi_if1 v1 (by omega)]; exact c2), show (1 : Int32) = zi 1 from rfl, zi_sub, w_wall hS hz (by omega) (by omega) (by omega) (by omega), bd_s]
        by_cases c3 : wg s (x - 1) y = 1
        · rw [if_pos (by rw [c3]), some_bi (P := False) (by
            rw [Bool.not_eq_true', hb]
            simp [c3])]
          rfl
        · rw [if_neg (by rw [zi_if1 v2 (by omega)]; exact c3), some_bi (P := True) (by
            rw [Bool.not_eq_true', hb]
            simp [c1, c2, c3])]
          rfl
    · rw [show isCl s x (y + 1) = false by simpa using c1, if_pos (by decide), some_bi (P := False) (by
        rw [Bool.not_eq_true', hb]
        simp [c1])]
      rfl
  · rw [gi_zi (by omega) (by omega) (by omega), gi_zi (by omega) (by omega) (by omega), zi_clamp (by omega) (by omega), show (1 : Int).toNat = 1 from rfl, dxV_1, dyV_1, zi_add, zi_add, w_isCell hS hz (by omega) (by omega) (by omega) (by omega), show y + 0 = y by omega]
    have hb := blk_1 (s := s) (x := x) (y := y)
    rw [bd_s]
    by_cases c1 : isCl s (x + 1) y = true
    · rw [c1, if_neg (by decide), if_neg (by decide), if_pos (by decide), w_wall hS hz (by omega) (by omega) (by omega) (by omega), bd_s]
      by_cases c2 : wg s x y = 2
      · rw [if_pos (by rw [c2]; rfl), some_bi (P := False) (by
          rw [Bool.not_eq_true', hb]
          simp [c2])]
        rfl
      · rw [if_neg (by rw [show (2 : Int32) = zi 2 from rfl, zi_if1 v1 (by omega)]; exact c2), show (1 : Int32) = zi 1 from rfl, zi_sub, w_wall hS hz (by omega) (by omega) (by omega) (by omega), bd_s]
        by_cases c3 : wg s x (y - 1) = 2
        · rw [if_pos (by rw [c3]; rfl), some_bi (P := False) (by
            rw [Bool.not_eq_true', hb]
            simp [c3])]
          rfl
        · rw [if_neg (by rw [show (2 : Int32) = zi 2 from rfl, zi_if1 v3 (by omega)]; exact c3), some_bi (P := True) (by
            rw [Bool.not_eq_true', hb]
            simp [c1, c2, c3])]
          rfl
    · rw [show isCl s (x + 1) y = false by simpa using c1, if_pos (by decide), some_bi (P := False) (by
        rw [Bool.not_eq_true', hb]
        simp [c1])]
      rfl
theorem isOpen_01 {np nb fu : Nat} {m : Mem} {x y : Int32} {d : Int} (h5 : d = 0 ∨ d = 1) : KW_isOpen np nb fu x y (zi d) m = KW_isOpen0 np nb fu x y (zi d) m := by
  unfold KW_isOpen KW_isOpen0
  rcases h5 with rfl | rfl
  · simp only [show (zi 0 = 0) = True from eq_true rfl, if_true]
  · simp only [show (zi 1 = 0) = False from eq_false (by decide), show (zi 1 = 1) = True from eq_true rfl, if_true, if_false]
theorem isOpen_23 {np nb fu : Nat} {m : Mem} {s : Nat → Int} (hS : LWw m s) (hz : szO s) (hW : wlO s) {x y : Int} {d : Nat} (hcl : isCl s x y = true) (h5 : d = 2 ∨ d = 3) : KW_isOpen np nb fu (zi x) (zi y) (zi (d : Int)) m = some (zi (bi (!blk s x y (d : Int)))) := by
  obtain ⟨⟨b1, b2⟩, b3, b4⟩ := isCl_iff.mp hcl
  have hz2 := hz
  obtain ⟨⟨hw1, hw2⟩, hh1, hh2⟩ := hz2
  have hd : d < 4 := by omega
  have q1 := dx_le (d : Int)
  have q2 := dy_le (d : Int)
  unfold KW_isOpen
  rw [gi_zi (by omega) (by omega) (by omega), gi_zi (by omega) (by omega) (by omega), zi_clamp (by omega) (by omega), Int.toNat_natCast, dxV_z hd, dyV_z hd, zi_add, zi_add, w_isCell hS hz (by omega) (by omega) (by omega) (by omega), bd_s]
  by_cases c1 : isCl s (x + dx (d : Int)) (y + dy (d : Int)) = true
  · rw [c1, if_neg (by decide), if_neg (by rcases h5 with rfl | rfl <;> decide), if_neg (by rcases h5 with rfl | rfl <;> decide), gi_zi (by omega) (by omega) (by omega), gi_zi (by omega) (by omega) (by omega), show (2 : Int32) = zi 2 from rfl, zi_sub, w_isOpen0 hS hz hW (by omega) (by omega) (by omega) (by omega) (by omega), bd_s, gb_bi]
    refine congrArg (fun q => some (zi (bi (!q)))) ?_
    rcases h5 with rfl | rfl
    · refine Bool.eq_iff_iff.mpr ?_
      rw [← Bool.not_eq_false, ← Bool.not_eq_false (blk s x y _)]
      refine not_congr ?_
      rw [show dx ((2 : Nat) : Int) = 0 from rfl, show dy ((2 : Nat) : Int) = -1 from rfl] at c1 ⊢
      rw [show ((2 : Nat) : Int) - 2 = 0 from rfl, blk_0, show ((2 : Nat) : Int) = 2 from rfl, blk_2, show x + 0 = x by omega, show y + -1 + 1 = y by omega, show y + -1 = y - 1 by omega]
      rw [show x + 0 = x by omega, show y + -1 = y - 1 by omega] at c1
      rw [hcl, c1]
    · refine Bool.eq_iff_iff.mpr ?_
      rw [← Bool.not_eq_false, ← Bool.not_eq_false (blk s x y _)]
      refine not_congr ?_
      rw [show dx ((3 : Nat) : Int) = -1 from rfl, show dy ((3 : Nat) : Int) = 0 from rfl] at c1 ⊢
      rw [show ((3 : Nat) : Int) - 2 = 1 from rfl, blk_1, show ((3 : Nat) : Int) = 3 from rfl, blk_3, show y + 0 = y by omega, show x + -1 + 1 = x by omega, show x + -1 = x - 1 by omega]
      rw [show y + 0 = y by omega, show x + -1 = x - 1 by omega] at c1
      rw [hcl, c1]
  · rw [show isCl s (x + dx (d : Int)) (y + dy (d : Int)) = false by simpa using c1, if_pos (by decide), some_bi (P := False) (by
      rw [Bool.not_eq_true']
      constructor
      · intro h
        exact absurd (blk_in h) c1
      · exact False.elim)]
    rfl
/-- a step of the law's race is open where nothing blocks it -/
theorem w_isOpen {np nb fu : Nat} {m : Mem} {s : Nat → Int} (hS : LWw m s) (hz : szO s) (hW : wlO s) {x y : Int} {d : Nat} (hcl : isCl s x y = true) (hd : d < 4) : KW_isOpen np nb fu (zi x) (zi y) (zi (d : Int)) m = some (zi (bi (!blk s x y (d : Int)))) := by
  obtain ⟨⟨b1, b2⟩, b3, b4⟩ := isCl_iff.mp hcl
  have hz2 := hz
  obtain ⟨⟨hw1, hw2⟩, hh1, hh2⟩ := hz2
  by_cases c : d < 2
  · rw [isOpen_01 (by omega), w_isOpen0 hS hz hW (by omega) (by omega) (by omega) (by omega) (by omega)]
  · exact isOpen_23 hS hz hW hcl (by omega)
end LWA
