section MLEAF
/-- the reference's numbers: a row of the race -/
def MS (mem : Mem) (s : Nat → Int) : Prop := ∀ j : Nat, rd mem 2 j = zi (s j)
def szO (s : Nat → Int) : Prop := (3 ≤ s 0 ∧ s 0 ≤ 9) ∧ 3 ≤ s 1 ∧ s 1 ≤ 9
def isPl (s : Nat → Int) (x y : Int) : Bool := decide (0 ≤ x ∧ x ≤ s 0 - 2) && decide (0 ≤ y ∧ y ≤ s 1 - 2)
def isCl (s : Nat → Int) (x y : Int) : Bool := decide (0 ≤ x ∧ x ≤ s 0 - 1) && decide (0 ≤ y ∧ y ≤ s 1 - 1)
def wg (s : Nat → Int) (x y : Int) : Int := if isPl s x y = true then s (120 + 8 * y + x).toNat else 0
def pg (s : Nat → Int) (p k : Int) : Int := s (8 + 7 * p + k).toNat
def bg (s : Nat → Int) (b k : Int) : Int := s (36 + 7 * b + k).toNat
def dx (d : Int) : Int := if d = 1 then 1 else if d = 3 then -1 else 0
def dy (d : Int) : Int := if d = 0 then 1 else if d = 2 then -1 else 0
def lsI (a b : Int) : Int := if a < b then a else b
def mrI (a b : Int) : Int := if b < a then a else b
def atS (s : Nat → Int) (x y d : Int) : Bool := if d = 0 then decide (y = s 1 - 1) else if d = 1 then decide (x = s 0 - 1) else if d = 2 then decide (y = 0) else decide (x = 0)
def blk (s : Nat → Int) (x y d : Int) : Bool := !isCl s (x + dx d) (y + dy d) || (if x + dx d = x then decide (wg s x (lsI y (y + dy d)) = 1) || decide (wg s (x - 1) (lsI y (y + dy d)) = 1) else decide (wg s (lsI x (x + dx d)) y = 2) || decide (wg s (lsI x (x + dx d)) (y - 1) = 2))
theorem isPl_iff {s : Nat → Int} {x y : Int} : isPl s x y = true ↔ (0 ≤ x ∧ x ≤ s 0 - 2) ∧ 0 ≤ y ∧ y ≤ s 1 - 2 := by
  unfold isPl
  rw [Bool.and_eq_true, decide_eq_true_iff, decide_eq_true_iff]
theorem isCl_iff {s : Nat → Int} {x y : Int} : isCl s x y = true ↔ (0 ≤ x ∧ x ≤ s 0 - 1) ∧ 0 ≤ y ∧ y ≤ s 1 - 1 := by
  unfold isCl
  rw [Bool.and_eq_true, decide_eq_true_iff, decide_eq_true_iff]
theorem k_across (fu : Nat) (mem : Mem) {d : Int} (h1 : -1000 ≤ d) (h2 : d < 1000) : K_X12_across fu (zi d) mem = some (zi (dx d)) := by
  unfold K_X12_across dx
  simp (disch := omega) only [zi_lit, zl_lit, zi_add, zi_sub, zi_mul, zi_neg, zi_lt, zi_inj, zi_clamp, zl_of, gi_zi, bd_s, ltf, bi_0, bi_1, gb_bi, Int.reduceToNat, Int.reduceNeg]
  split
  · rfl
  · split <;> rfl
theorem k_up (fu : Nat) (mem : Mem) {d : Int} (h1 : -1000 ≤ d) (h2 : d < 1000) : K_X12_up fu (zi d) mem = some (zi (dy d)) := by
  unfold K_X12_up dy
  simp (disch := omega) only [zi_lit, zl_lit, zi_add, zi_sub, zi_mul, zi_neg, zi_lt, zi_inj, zi_clamp, zl_of, gi_zi, bd_s, ltf, bi_0, bi_1, gb_bi, Int.reduceToNat, Int.reduceNeg]
  split
  · rfl
  · split <;> rfl
theorem k_isPlace (fu : Nat) {mem : Mem} {s : Nat → Int} (hS : MS mem s) (hz : szO s) {x y : Int} (h1 : -2147483648 ≤ x) (h2 : x < 2147483648) (h3 : -2147483648 ≤ y) (h4 : y < 2147483648) : K_X12_isPlace fu (zi x) (zi y) mem = some (zi (bi (isPl s x y))) := by
  obtain ⟨⟨hw1, hw2⟩, hh1, hh2⟩ := hz
  unfold K_X12_isPlace isPl
  simp (disch := omega) only [zi_lit, zl_lit, zi_add, zi_sub, zi_mul, zi_neg, zi_lt, zi_inj, zi_clamp, zl_of, gi_zi, bd_s, ltf, bi_0, bi_1, gb_bi, Int.reduceToNat, Int.reduceNeg, hS _, k_isIn]
  by_cases c1 : 0 ≤ x ∧ x ≤ s 0 - 2 <;> by_cases c2 : 0 ≤ y ∧ y ≤ s 1 - 2 <;> simp [c1, c2, bi]
theorem k_isCell (fu : Nat) {mem : Mem} {s : Nat → Int} (hS : MS mem s) (hz : szO s) {x y : Int} (h1 : -2147483648 ≤ x) (h2 : x < 2147483648) (h3 : -2147483648 ≤ y) (h4 : y < 2147483648) : K_X12_isCell fu (zi x) (zi y) mem = some (zi (bi (isCl s x y))) := by
  obtain ⟨⟨hw1, hw2⟩, hh1, hh2⟩ := hz
  unfold K_X12_isCell isCl
  simp (disch := omega) only [zi_lit, zl_lit, zi_add, zi_sub, zi_mul, zi_neg, zi_lt, zi_inj, zi_clamp, zl_of, gi_zi, bd_s, ltf, bi_0, bi_1, gb_bi, Int.reduceToNat, Int.reduceNeg, hS _, k_isIn]
  by_cases c1 : 0 ≤ x ∧ x ≤ s 0 - 1 <;> by_cases c2 : 0 ≤ y ∧ y ≤ s 1 - 1 <;> simp [c1, c2, bi]
theorem k_wall (fu : Nat) {mem : Mem} {s : Nat → Int} (hS : MS mem s) (hz : szO s) {x y : Int} (h1 : -2147483648 ≤ x) (h2 : x < 2147483648) (h3 : -2147483648 ≤ y) (h4 : y < 2147483648) : K_X12_wall fu (zi x) (zi y) mem = some (zi (wg s x y)) := by
  unfold K_X12_wall wg
  rw [k_isPlace fu hS hz h1 h2 h3 h4]
  by_cases c1 : isPl s x y = true
  · rw [if_pos c1]
    have c2 := isPl_iff.mp c1
    obtain ⟨⟨hw1, hw2⟩, hh1, hh2⟩ := hz
    simp (disch := omega) only [zi_lit, zl_lit, zi_add, zi_sub, zi_mul, zi_neg, zi_lt, zi_inj, zi_clamp, zl_of, gi_zi, bd_s, ltf, bi_0, bi_1, gb_bi, Int.reduceToNat, Int.reduceNeg, hS _, c1, reduceCtorEq, ↓reduceIte, Bool.true_eq_false]
  · have c2 : isPl s x y = false := by simpa using c1
    simp (disch := omega) only [zi_lit, zl_lit, zi_add, zi_sub, zi_mul, zi_neg, zi_lt, zi_inj, zi_clamp, zl_of, gi_zi, bd_s, ltf, bi_0, bi_1, gb_bi, Int.reduceToNat, Int.reduceNeg, c2, ↓reduceIte, Bool.false_eq_true]
theorem wg_le {s : Nat → Int} (hW : ∀ j : Nat, 120 ≤ j → j < 184 → 0 ≤ s j ∧ s j ≤ 2) (hz : szO s) (x y : Int) : 0 ≤ wg s x y ∧ wg s x y ≤ 2 := by
  unfold wg
  by_cases c1 : isPl s x y = true
  · rw [if_pos c1]
    have c2 := isPl_iff.mp c1
    obtain ⟨⟨hw1, hw2⟩, hh1, hh2⟩ := hz
    exact hW _ (by omega) (by omega)
  · rw [if_neg c1]
    omega
theorem k_less (fu : Nat) (mem : Mem) {a b : Int} (h1 : -2147483648 ≤ a) (h2 : a < 2147483648) (h3 : -2147483648 ≤ b) (h4 : b < 2147483648) : K_X12_less fu (zi a) (zi b) mem = some (zi (lsI a b)) := by
  unfold K_X12_less lsI
  simp (disch := omega) only [zi_lit, zl_lit, zi_add, zi_sub, zi_mul, zi_neg, zi_lt, zi_inj, zi_clamp, zl_of, gi_zi, bd_s, ltf, bi_0, bi_1, gb_bi, Int.reduceToNat, Int.reduceNeg]
  split <;> rfl
theorem k_more (fu : Nat) (mem : Mem) {a b : Int} (h1 : -2147483648 ≤ a) (h2 : a < 2147483648) (h3 : -2147483648 ≤ b) (h4 : b < 2147483648) : K_X12_more fu (zi a) (zi b) mem = some (zi (mrI a b)) := by
  unfold K_X12_more mrI
  simp (disch := omega) only [zi_lit, zl_lit, zi_add, zi_sub, zi_mul, zi_neg, zi_lt, zi_inj, zi_clamp, zl_of, gi_zi, bd_s, ltf, bi_0, bi_1, gb_bi, Int.reduceToNat, Int.reduceNeg]
  split <;> rfl
theorem k_truth (fu : Nat) (mem : Mem) (b : Bool) : K_X12_truth fu (zi (bi b)) mem = some (zi (bi b)) := by
  cases b <;> rfl
theorem k_of (fu : Nat) {mem : Mem} {s : Nat → Int} (hS : MS mem s) {p k : Int} (h1 : 0 ≤ p) (h2 : p ≤ 3) (h3 : 0 ≤ k) (h4 : k ≤ 6) : K_X12_of fu (zi p) (zi k) mem = some (zi (pg s p k)) := by
  unfold K_X12_of pg
  simp (disch := omega) only [zi_lit, zl_lit, zi_add, zi_sub, zi_mul, zi_neg, zi_lt, zi_inj, zi_clamp, zl_of, gi_zi, bd_s, ltf, bi_0, bi_1, gb_bi, Int.reduceToNat, Int.reduceNeg, hS _]
theorem k_isAtSide (fu : Nat) {mem : Mem} {s : Nat → Int} (hS : MS mem s) (hz : szO s) {x y d : Int} (h1 : -2147483648 ≤ x) (h2 : x < 2147483648) (h3 : -2147483648 ≤ y) (h4 : y < 2147483648) (h5 : -2147483648 ≤ d) (h6 : d < 2147483648) : K_X12_isAtSide fu (zi x) (zi y) (zi d) mem = some (zi (bi (atS s x y d))) := by
  obtain ⟨⟨hw1, hw2⟩, hh1, hh2⟩ := hz
  unfold K_X12_isAtSide atS
  simp (disch := omega) only [zi_lit, zl_lit, zi_add, zi_sub, zi_mul, zi_neg, zi_lt, zi_inj, zi_clamp, zl_of, gi_zi, bd_s, ltf, bi_0, bi_1, gb_bi, Int.reduceToNat, Int.reduceNeg, hS _]
  by_cases c1 : d = 0
  · by_cases c2 : y = s 1 - 1 <;> simp [c1, c2, bi]
  · by_cases c2 : d = 1
    · by_cases c3 : x = s 0 - 1 <;> simp [c2, c3, bi]
    · by_cases c3 : d = 2
      · by_cases c4 : y = 0 <;> simp [c3, c4, bi]
      · by_cases c4 : x = 0 <;> simp [c1, c2, c3, c4, bi]
theorem dx_le (d : Int) : -1 ≤ dx d ∧ dx d ≤ 1 := by unfold dx; split <;> (try split) <;> omega
theorem dy_le (d : Int) : -1 ≤ dy d ∧ dy d ≤ 1 := by unfold dy; split <;> (try split) <;> omega
theorem lsI_le {a b : Int} (h1 : -1000 ≤ a) (h2 : a ≤ 1000) (h3 : -1000 ≤ b) (h4 : b ≤ 1000) : -1000 ≤ lsI a b ∧ lsI a b ≤ 1000 := by unfold lsI; split <;> omega
theorem k_blocks (fu : Nat) {mem : Mem} {s : Nat → Int} (hS : MS mem s) (hz : szO s) (hW : ∀ j : Nat, 120 ≤ j → j < 184 → 0 ≤ s j ∧ s j ≤ 2) {x y d : Int} (h1 : -100 ≤ x) (h2 : x ≤ 100) (h3 : -100 ≤ y) (h4 : y ≤ 100) (h5 : -1000 ≤ d) (h6 : d < 1000) : K_X12_blocks fu (zi x) (zi y) (zi d) mem = some (zi (bi (blk s x y d))) := by
  have q1 := dx_le d
  have q2 := dy_le d
  have q3 := lsI_le (a := x) (b := x + dx d) (by omega) (by omega) (by omega) (by omega)
  have q4 := lsI_le (a := y) (b := y + dy d) (by omega) (by omega) (by omega) (by omega)
  have w1 := wg_le hW hz x (lsI y (y + dy d))
  have w2 := wg_le hW hz (x - 1) (lsI y (y + dy d))
  have w3 := wg_le hW hz (lsI x (x + dx d)) y
  have w4 := wg_le hW hz (lsI x (x + dx d)) (y - 1)
  unfold K_X12_blocks K_X12_blocks_75 K_X12_blocks_105 blk
  simp (disch := omega) only [zi_lit, zl_lit, zi_add, zi_sub, zi_mul, zi_neg, zi_lt, zi_inj, zi_clamp, zl_of, gi_zi, bd_s, ltf, bi_0, bi_1, gb_bi, Int.reduceToNat, Int.reduceNeg, k_across, k_up, k_isCell fu hS hz, k_less, k_wall fu hS hz]
  by_cases c1 : isCl s (x + dx d) (y + dy d) = true
  · by_cases c2 : x + dx d = x
    · have c5 := c1
      rw [c2] at c5
      by_cases c3 : wg s x (lsI y (y + dy d)) = 1 <;> by_cases c4 : wg s (x - 1) (lsI y (y + dy d)) = 1 <;> simp [c1, c2, c3, c4, c5, bi]
    · by_cases c3 : wg s (lsI x (x + dx d)) y = 2 <;> by_cases c4 : wg s (lsI x (x + dx d)) (y - 1) = 2 <;> simp [c1, c2, c3, c4, bi]
  · simp [c1, bi]
end MLEAF
