section CLEAF
/-- the four open steps of a cell as a mask -/
def msk (f : Nat → Bool) : Int32 := zi (bi (f 0) + 2 * bi (f 1) + 4 * bi (f 2) + 8 * bi (f 3))
theorem msk_bit (f : Nat → Bool) {d : Nat} (hd : d < 4) : (msk f >>> (zi (d : Int) &&& zi 31)) &&& zi 1 = zi (bi (f d)) := by
  unfold msk
  rcases (show d = 0 ∨ d = 1 ∨ d = 2 ∨ d = 3 by omega) with rfl | rfl | rfl | rfl <;> cases f 0 <;> cases f 1 <;> cases f 2 <;> cases f 3 <;> rfl
theorem msk_xor (f : Nat → Bool) {d : Nat} (hd : d < 4) : msk f ^^^ (zi 1 <<< (zi (d : Int) &&& zi 31)) = msk (fun e => if e = d then !f e else f e) := by
  unfold msk
  rcases (show d = 0 ∨ d = 1 ∨ d = 2 ∨ d = 3 by omega) with rfl | rfl | rfl | rfl <;> cases h0 : f 0 <;> cases h1 : f 1 <;> cases h2 : f 2 <;> cases h3 : f 3 <;> simp only [h0, h1, h2, h3, reduceCtorEq, ↓reduceIte, Nat.reduceEqDiff] <;> rfl
theorem offV_z {d : Nat} (hd : d < 4) : offV d = zi (9 * dy (d : Int) + dx (d : Int)) := by
  rcases (show d = 0 ∨ d = 1 ∨ d = 2 ∨ d = 3 by omega) with rfl | rfl | rfl | rfl <;> rfl
/-- the board r of the class holds the row's board -/
def RB (mem : Mem) (r : Nat) (s : Nat → Int) : Prop := rd mem (pBoard r) 0 = zi (s 0) ∧ rd mem (pBoard r) 1 = zi (s 1) ∧ rd mem (pBoard r) 2 = zi (s 3) ∧ (∀ j, j < 64 → rd mem (pBuilt r) j = zi (s (120 + j) - 1)) ∧ ∀ c, c < 81 → rd mem (pOpen r) c = msk (op s c)
def RP (mem : Mem) (r : Nat) (s : Nat → Int) (i : Nat) : Prop := rd mem (pPawn r i) 0 = zi (9 * pg s i 1 + pg s i 0) ∧ rd mem (pPawn r i) 1 = zi (pg s i 2) ∧ rd mem (pPawn r i) 2 = zi (pg s i 3) ∧ rd mem (pPawn r i) 3 = zi (pg s i 4) ∧ rd mem (pPawn r i) 4 = zi (pg s i 5) ∧ rd mem (pPawn r i) 5 = zi (pg s i 6)
def RN (mem : Mem) (r : Nat) (s : Nat → Int) (b : Nat) : Prop := rd mem (pBan r b) 0 = zi (bg s b 0) ∧ rd mem (pBan r b) 1 = zi (bg s b 1) ∧ (bg s b 1 = 2 → rd mem (pBan r b) 2 = zi (bg s b 2) ∧ rd mem (pBan r b) 3 = zi (bg s b 3) ∧ rd mem (pBan r b) 4 = zi (bg s b 4)) ∧ (bg s b 1 = 3 → rd mem (pBan r b) 2 = zi (bg s b 2) ∧ rd mem (pBan r b) 5 = zi (lsI (bg s b 3) (bg s b 5)) ∧ rd mem (pBan r b) 6 = zi (mrI (bg s b 3) (bg s b 5)) ∧ rd mem (pBan r b) 7 = zi (lsI (bg s b 4) (bg s b 6)) ∧ rd mem (pBan r b) 8 = zi (mrI (bg s b 4) (bg s b 6)))
def RC (mem : Mem) (r : Nat) (s : Nat → Int) : Prop := RB mem r s ∧ (rd mem (pRace r) 2 = zi (s 2) ∧ rd mem (pRace r) 4 = zi (s 6) ∧ rd mem (pRace r) 5 = zi (s 4) ∧ rd mem (pRace r) 6 = zi (s 7) ∧ rd mem (pRace r) 7 = zi (s 5)) ∧ (∀ i : Nat, i < 4 → (i : Int) < s 2 → RP mem r s i) ∧ ∀ b : Nat, b < 12 → (b : Int) < s 6 → RN mem r s b
theorem RB_fr {P : Nat → Nat → Bool} {m1 m2 : Mem} {r : Nat} {s : Nat → Int} (h : Fr P m1 m2) (hP : ∀ k j, 35 ≤ k → P k j = false) (hR : RB m1 r s) : RB m2 r s := by
  obtain ⟨h1, h2, h3, h4, h5⟩ := hR
  refine ⟨?_, ?_, ?_, fun j hj => ?_, fun c hc => ?_⟩
  · rw [h.1 _ _ (hP _ _ (by unfold pBoard; omega))]; exact h1
  · rw [h.1 _ _ (hP _ _ (by unfold pBoard; omega))]; exact h2
  · rw [h.1 _ _ (hP _ _ (by unfold pBoard; omega))]; exact h3
  · rw [h.1 _ _ (hP _ _ (by unfold pBuilt; omega))]; exact h4 j hj
  · rw [h.1 _ _ (hP _ _ (by unfold pOpen; omega))]; exact h5 c hc
theorem RP_fr {P : Nat → Nat → Bool} {m1 m2 : Mem} {r i : Nat} {s : Nat → Int} (h : Fr P m1 m2) (hP : ∀ k j, 35 ≤ k → P k j = false) (hR : RP m1 r s i) : RP m2 r s i := by
  unfold RP at hR ⊢
  rw [h.1 _ _ (hP _ 0 (by unfold pPawn; omega)), h.1 _ _ (hP _ 1 (by unfold pPawn; omega)), h.1 _ _ (hP _ 2 (by unfold pPawn; omega)), h.1 _ _ (hP _ 3 (by unfold pPawn; omega)), h.1 _ _ (hP _ 4 (by unfold pPawn; omega)), h.1 _ _ (hP _ 5 (by unfold pPawn; omega))]
  exact hR
theorem RN_fr {P : Nat → Nat → Bool} {m1 m2 : Mem} {r i : Nat} {s : Nat → Int} (h : Fr P m1 m2) (hP : ∀ k j, 35 ≤ k → P k j = false) (hR : RN m1 r s i) : RN m2 r s i := by
  unfold RN at hR ⊢
  rw [h.1 _ _ (hP _ 0 (by unfold pBan; omega)), h.1 _ _ (hP _ 1 (by unfold pBan; omega)), h.1 _ _ (hP _ 2 (by unfold pBan; omega)), h.1 _ _ (hP _ 3 (by unfold pBan; omega)), h.1 _ _ (hP _ 4 (by unfold pBan; omega)), h.1 _ _ (hP _ 5 (by unfold pBan; omega)), h.1 _ _ (hP _ 6 (by unfold pBan; omega)), h.1 _ _ (hP _ 7 (by unfold pBan; omega)), h.1 _ _ (hP _ 8 (by unfold pBan; omega))]
  exact hR
theorem RC_fr {P : Nat → Nat → Bool} {m1 m2 : Mem} {r : Nat} {s : Nat → Int} (h : Fr P m1 m2) (hP : ∀ k j, 35 ≤ k → P k j = false) (hR : RC m1 r s) : RC m2 r s := by
  obtain ⟨h1, h2, h3, h4⟩ := hR
  refine ⟨RB_fr h hP h1, ?_, fun i hi hi2 => RP_fr h hP (h3 i hi hi2), fun b hb hb2 => RN_fr h hP (h4 b hb hb2)⟩
  rw [h.1 _ _ (hP _ 2 (by unfold pRace; omega)), h.1 _ _ (hP _ 4 (by unfold pRace; omega)), h.1 _ _ (hP _ 5 (by unfold pRace; omega)), h.1 _ _ (hP _ 6 (by unfold pRace; omega)), h.1 _ _ (hP _ 7 (by unfold pRace; omega))]
  exact h2
theorem c_hasCell (fu r : Nat) {mem : Mem} {s : Nat → Int} (hR : RB mem r s) (hz : szO s) {x y : Int} (h1 : -2147483648 ≤ x) (h2 : x < 2147483648) (h3 : -2147483648 ≤ y) (h4 : y < 2147483648) : K_X2_hasCell fu r (zi x) (zi y) mem = some (zi (bi (isCl s x y))) := by
  obtain ⟨⟨hw1, hw2⟩, hh1, hh2⟩ := hz
  have e0 := hR.1
  have e1 := hR.2.1
  unfold K_X2_hasCell isCl
  simp (disch := omega) only [zi_lit, zl_lit, zi_add, zi_sub, zi_mul, zi_neg, zi_lt, zi_inj, zi_clamp, zl_of, gi_zi, bd_s, ltf, bi_0, bi_1, gb_bi, Int.reduceToNat, Int.reduceNeg, Int.toNat_natCast, e0, e1]
  by_cases c1 : x < 0
  · rw [if_pos c1, decide_eq_false (by omega)]
    rfl
  · rw [if_neg c1]
    by_cases c2 : x < s 0
    · rw [if_pos c2, decide_eq_true (by omega), Bool.true_and]
      by_cases c3 : y < 0
      · rw [if_pos c3, decide_eq_false (by omega)]
        rfl
      · rw [if_neg c3]
        by_cases c4 : y < s 1
        · rw [if_pos c4, decide_eq_true (by omega)]
          rfl
        · rw [if_neg c4, decide_eq_false (by omega)]
          rfl
    · rw [if_neg c2, decide_eq_false (by omega)]
      rfl
theorem c_hasPlace (fu r : Nat) {mem : Mem} {s : Nat → Int} (hR : RB mem r s) (hz : szO s) {x y : Int} (h1 : -2147483648 ≤ x) (h2 : x < 2147483648) (h3 : -2147483648 ≤ y) (h4 : y < 2147483648) : K_X2_hasPlace fu r (zi x) (zi y) mem = some (zi (bi (isPl s x y))) := by
  obtain ⟨⟨hw1, hw2⟩, hh1, hh2⟩ := hz
  have e0 := hR.1
  have e1 := hR.2.1
  unfold K_X2_hasPlace isPl
  simp (disch := omega) only [zi_lit, zl_lit, zi_add, zi_sub, zi_mul, zi_neg, zi_lt, zi_inj, zi_clamp, zl_of, gi_zi, bd_s, ltf, bi_0, bi_1, gb_bi, Int.reduceToNat, Int.reduceNeg, Int.toNat_natCast, e0, e1]
  by_cases c1 : x < 0
  · rw [if_pos c1, decide_eq_false (by omega)]
    rfl
  · rw [if_neg c1]
    by_cases c2 : x < s 0 - 1
    · rw [if_pos c2, decide_eq_true (by omega), Bool.true_and]
      by_cases c3 : y < 0
      · rw [if_pos c3, decide_eq_false (by omega)]
        rfl
      · rw [if_neg c3]
        by_cases c4 : y < s 1 - 1
        · rw [if_pos c4, decide_eq_true (by omega)]
          rfl
        · rw [if_neg c4, decide_eq_false (by omega)]
          rfl
    · rw [if_neg c2, decide_eq_false (by omega)]
      rfl
/-- the wall at a place, NONE where there is no such place -/
theorem c_wallOn (fu r : Nat) {mem : Mem} {s : Nat → Int} (hR : RB mem r s) (hz : szO s) {x y : Int} (h1 : -2147483648 ≤ x) (h2 : x < 2147483648) (h3 : -2147483648 ≤ y) (h4 : y < 2147483648) : K_X2_wallOn fu r (zi x) (zi y) mem = some (zi (wg s x y - 1)) := by
  obtain ⟨⟨hw1, hw2⟩, hh1, hh2⟩ := hz
  obtain ⟨e0, e1, -, e3, -⟩ := hR
  unfold K_X2_wallOn K_X2_wallOn_32 K_X2_wallOn_33 wg
  simp (disch := omega) only [zi_lit, zl_lit, zi_add, zi_sub, zi_mul, zi_neg, zi_lt, zi_inj, zi_clamp, zl_of, gi_zi, bd_s, ltf, bi_0, bi_1, gb_bi, Int.reduceToNat, Int.reduceNeg, Int.toNat_natCast, ↓reduceIte, Int.reduceEq, Int.reduceLT, Int.reduceAdd, Int.reduceSub, Int.reduceMul, Int.reduceNeg, if_true, if_false, decide_true, decide_false, Bool.and_true, Bool.true_and, Bool.false_and, Bool.and_false, Bool.not_true, Bool.not_false, Bool.true_or, Bool.or_true, Bool.false_or, Bool.or_false, e0, e1]
  by_cases c0 : isPl s x y = true
  · obtain ⟨⟨x1, x2⟩, y1, y2⟩ := isPl_iff.mp c0
    rw [if_pos c0, if_neg (by omega), if_pos (by omega), if_neg (by omega), if_pos (by omega)]
    rw [e3 _ (by omega), show 120 + (y * 8 + x).toNat = (120 + 8 * y + x).toNat by omega]
  · rw [if_neg c0]
    have c1 : ¬ ((0 ≤ x ∧ x ≤ s 0 - 2) ∧ 0 ≤ y ∧ y ≤ s 1 - 2) := fun h => c0 (isPl_iff.mpr h)
    by_cases q1 : x < 0
    · rw [if_pos q1]
      rfl
    · rw [if_neg q1]
      by_cases q2 : x < s 0 - 1
      · rw [if_pos q2]
        by_cases q3 : y < 0
        · rw [if_pos q3]
          rfl
        · rw [if_neg q3, if_neg (by omega)]
          rfl
      · rw [if_neg q2]
        rfl
theorem c_hasRoom (fu r : Nat) {mem : Mem} {s : Nat → Int} (hR : RB mem r s) (hz : szO s) (hW : wlO s) {x y w : Int} (h1 : -2147480000 ≤ x) (h2 : x < 2147480000) (h3 : -2147480000 ≤ y) (h4 : y < 2147480000) (h5 : w = 0 ∨ w = 1) : K_X2_hasRoom fu r (zi x) (zi y) (zi w) mem = some (zi (bi (isPl s x y && hrB s x y (w + 1)))) := by
  have w0 := wg_le hW hz x y
  have w1 := wg_le hW hz (x - 1) y
  have w2 := wg_le hW hz (x + 1) y
  have w3 := wg_le hW hz x (y - 1)
  have w4 := wg_le hW hz x (y + 1)
  have z0 : (wg s x y - 1 = -1) = (wg s x y = 0) := propext ⟨fun h => by omega, fun h => by omega⟩
  have z1 : (wg s (x - 1) y - 1 = 0) = (wg s (x - 1) y = 1) := propext ⟨fun h => by omega, fun h => by omega⟩
  have z2 : (wg s (x + 1) y - 1 = 0) = (wg s (x + 1) y = 1) := propext ⟨fun h => by omega, fun h => by omega⟩
  have z3 : (wg s x (y - 1) - 1 = 1) = (wg s x (y - 1) = 2) := propext ⟨fun h => by omega, fun h => by omega⟩
  have z4 : (wg s x (y + 1) - 1 = 1) = (wg s x (y + 1) = 2) := propext ⟨fun h => by omega, fun h => by omega⟩
  unfold K_X2_hasRoom hrB
  rcases h5 with rfl | rfl
  · simp (disch := omega) only [zi_lit, zl_lit, zi_add, zi_sub, zi_mul, zi_neg, zi_lt, zi_inj, zi_clamp, zl_of, gi_zi, bd_s, ltf, bi_0, bi_1, gb_bi, Int.reduceToNat, Int.reduceNeg, Int.toNat_natCast, ↓reduceIte, Int.reduceEq, Int.reduceLT, Int.reduceAdd, Int.reduceSub, Int.reduceMul, Int.reduceNeg, if_true, if_false, decide_true, decide_false, Bool.and_true, Bool.true_and, Bool.false_and, Bool.and_false, Bool.not_true, Bool.not_false, Bool.true_or, Bool.or_true, Bool.false_or, Bool.or_false, c_hasPlace fu r hR hz, c_wallOn fu r hR hz, z0, z1, z2]
    cases hp : isPl s x y with
    | false => rfl
    | true =>
      by_cases c0 : wg s x y = 0 <;> by_cases c1 : wg s (x - 1) y = 1 <;> by_cases c2 : wg s (x + 1) y = 1 <;> simp [c0, c1, c2, bi]
  · simp (disch := omega) only [zi_lit, zl_lit, zi_add, zi_sub, zi_mul, zi_neg, zi_lt, zi_inj, zi_clamp, zl_of, gi_zi, bd_s, ltf, bi_0, bi_1, gb_bi, Int.reduceToNat, Int.reduceNeg, Int.toNat_natCast, ↓reduceIte, Int.reduceEq, Int.reduceLT, Int.reduceAdd, Int.reduceSub, Int.reduceMul, Int.reduceNeg, if_true, if_false, decide_true, decide_false, Bool.and_true, Bool.true_and, Bool.false_and, Bool.and_false, Bool.not_true, Bool.not_false, Bool.true_or, Bool.or_true, Bool.false_or, Bool.or_false, c_hasPlace fu r hR hz, c_wallOn fu r hR hz, z0, z3, z4]
    cases hp : isPl s x y with
    | false => rfl
    | true =>
      by_cases c0 : wg s x y = 0 <;> by_cases c1 : wg s x (y - 1) = 2 <;> by_cases c2 : wg s x (y + 1) = 2 <;> simp [c0, c1, c2, bi]
/-- is a step of a cell open -/
theorem c_behind (fu r : Nat) {mem : Mem} {s : Nat → Int} (hR : RB mem r s) {u d : Nat} (hu : u < 81) (hd : d < 4) : K_X2_behind fu r (zi (u : Int)) (zi (d : Int)) mem = some (if op s u d = true then zi ((u : Int) + (9 * dy (d : Int) + dx (d : Int))) else zi (-1)) := by
  unfold K_X2_behind
  have e := hR.2.2.2.2 u hu
  simp (disch := omega) only [zi_lit, zl_lit, zi_add, zi_sub, zi_mul, zi_neg, zi_lt, zi_inj, zi_clamp, zl_of, gi_zi, bd_s, ltf, bi_0, bi_1, gb_bi, Int.reduceToNat, Int.reduceNeg, Int.toNat_natCast, e, msk_bit _ hd, offV_z hd]
  rw [if_neg (by omega), if_pos (by omega)]
  cases op s u d with
  | true => rw [if_neg (by decide), if_pos rfl]
  | false => rw [if_pos rfl, if_neg (by decide)]
theorem c_liesAt (fu r : Nat) {mem : Mem} {s : Nat → Int} (hR : RB mem r s) (hz : szO s) {u : Nat} (hu : u < 81) {d : Int} (h1 : -1000 ≤ d) (h2 : d < 1000) : K_X2_liesAt fu r (zi (u : Int)) (zi d) mem = some (zi (bi (atS s (xo u) (yo u) d))) := by
  obtain ⟨⟨hw1, hw2⟩, hh1, hh2⟩ := hz
  have e0 := hR.1
  have e1 := hR.2.1
  have ex : (u : Int) - (u : Int) / 9 * 9 = xo u := by unfold xo; omega
  have ey : (u : Int) / 9 = yo u := by unfold yo; omega
  have hxy := xy_lt hu
  unfold K_X2_liesAt atS
  simp (disch := omega) only [zi_lit, zl_lit, zi_add, zi_sub, zi_mul, zi_neg, zi_lt, zi_inj, zi_clamp, zl_of, gi_zi, bd_s, ltf, bi_0, bi_1, gb_bi, Int.reduceToNat, Int.reduceNeg, Int.toNat_natCast, zi_div, e0, e1]
  rw [ex, ey]
  by_cases c1 : d = 0
  · rw [if_pos c1, if_pos c1]
    by_cases c2 : yo u = s 1 - 1 <;> simp [c2, bi]
  · rw [if_neg c1, if_neg c1]
    by_cases c2 : d = 1
    · rw [if_pos c2, if_pos c2]
      by_cases c3 : xo u = s 0 - 1 <;> simp [c3, bi]
    · rw [if_neg c2, if_neg c2]
      by_cases c3 : d = 2
      · rw [if_pos c3, if_pos c3]
        by_cases c4 : yo u = 0 <;> simp [c4, bi]
      · rw [if_neg c3, if_neg c3]
        by_cases c4 : xo u = 0 <;> simp [c4, bi]
end CLEAF
