section MLAY
def xo (c : Nat) : Int := ((c % 9 : Nat) : Int)
def yo (c : Nat) : Int := ((c / 9 : Nat) : Int)
def op (s : Nat → Int) (u d : Nat) : Bool := isCl s (xo u) (yo u) && !blk s (xo u) (yo u) (d : Int)
def nbr (u d : Nat) : Nat := ((u : Int) + 9 * dy (d : Int) + dx (d : Int)).toNat
def Sd (s : Nat → Int) (side : Int) (c : Nat) : Prop := c < 81 ∧ isCl s (xo c) (yo c) = true ∧ atS s (xo c) (yo c) side = true
noncomputable def dl (s : Nat → Int) (side : Int) (c : Nat) : Int := dlt (op s) nbr (Sd s side) c
def wlO (s : Nat → Int) : Prop := ∀ j : Nat, 120 ≤ j → j < 184 → 0 ≤ s j ∧ s j ≤ 2
theorem Sd_lt {s : Nat → Int} {side : Int} : ∀ c, Sd s side c → c < 81 := fun _ h => h.1
theorem op_iff {s : Nat → Int} {u d : Nat} : op s u d = true ↔ isCl s (xo u) (yo u) = true ∧ blk s (xo u) (yo u) (d : Int) = false := by
  unfold op
  rw [Bool.and_eq_true, Bool.not_eq_true']
theorem blk_in {s : Nat → Int} {x y d : Int} (h : blk s x y d = false) : isCl s (x + dx d) (y + dy d) = true := by
  unfold blk at h
  rw [Bool.or_eq_false_iff] at h
  simpa using h.1
theorem dxy (d : Nat) (hd : d < 4) : (d = 0 ∧ dx (d : Int) = 0 ∧ dy (d : Int) = 1) ∨ (d = 1 ∧ dx (d : Int) = 1 ∧ dy (d : Int) = 0) ∨ (d = 2 ∧ dx (d : Int) = 0 ∧ dy (d : Int) = -1) ∨ (d = 3 ∧ dx (d : Int) = -1 ∧ dy (d : Int) = 0) := by
  rcases (show d = 0 ∨ d = 1 ∨ d = 2 ∨ d = 3 by omega) with rfl | rfl | rfl | rfl
  · exact Or.inl ⟨rfl, by decide, by decide⟩
  · exact Or.inr (Or.inl ⟨rfl, by decide, by decide⟩)
  · exact Or.inr (Or.inr (Or.inl ⟨rfl, by decide, by decide⟩))
  · exact Or.inr (Or.inr (Or.inr ⟨rfl, by decide, by decide⟩))
/-- a cell of the board by its numbers -/
theorem cl_nat {s : Nat → Int} {x y : Int} (hz : szO s) (h : isCl s x y = true) : 0 ≤ x ∧ x ≤ 8 ∧ 0 ≤ y ∧ y ≤ 8 ∧ (9 * y + x).toNat < 81 ∧ xo (9 * y + x).toNat = x ∧ yo (9 * y + x).toNat = y := by
  obtain ⟨⟨hw1, hw2⟩, hh1, hh2⟩ := hz
  obtain ⟨⟨a1, a2⟩, a3, a4⟩ := isCl_iff.mp h
  unfold xo yo
  refine ⟨a1, by omega, a3, by omega, by omega, by omega, by omega⟩
theorem xy_lt {u : Nat} (hu : u < 81) : 0 ≤ xo u ∧ xo u ≤ 8 ∧ 0 ≤ yo u ∧ yo u ≤ 8 ∧ (9 * yo u + xo u).toNat = u ∧ 9 * yo u + xo u = (u : Int) := by
  unfold xo yo
  omega
theorem op_nb {s : Nat → Int} (hz : szO s) {u d : Nat} (hu : u < 81) (hd : d < 4) (h : op s u d = true) : nbr u d < 81 ∧ isCl s (xo (nbr u d)) (yo (nbr u d)) = true ∧ xo (nbr u d) = xo u + dx (d : Int) ∧ yo (nbr u d) = yo u + dy (d : Int) ∧ nbr u d = (9 * (yo u + dy (d : Int)) + (xo u + dx (d : Int))).toNat := by
  have h1 := blk_in (op_iff.mp h).2
  have h2 := cl_nat hz h1
  have h3 := xy_lt hu
  have e : nbr u d = (9 * (yo u + dy (d : Int)) + (xo u + dx (d : Int))).toNat := by
    unfold nbr
    congr 1
    omega
  rw [e]
  refine ⟨h2.2.2.2.2.1, ?_, h2.2.2.2.2.2.1, h2.2.2.2.2.2.2, rfl⟩
  rw [h2.2.2.2.2.2.1, h2.2.2.2.2.2.2]
  exact h1
theorem op_hg {s : Nat → Int} (hz : szO s) : ∀ u d, u < 81 → d < 4 → op s u d = true → nbr u d < 81 := fun _ _ hu hd h => (op_nb hz hu hd h).1
/-- the reference's rows far, queue and its number, as the search has them -/
def PB (k j : Nat) : Bool := k == 7 || k == 8 || (k == 0 && j == 22)
def MB (mem : Mem) (t : BS) : Prop := (∀ c, c < 81 → rd mem 7 c = zi (t.1 c)) ∧ (∀ k, k < t.2.2 → rd mem 8 k = zi (t.2.1 k : Int)) ∧ rd mem 0 22 = zi (t.2.2 : Int) ∧ (∀ c, -1 ≤ t.1 c ∧ t.1 c ≤ 200) ∧ t.2.2 = cnt t.1 81
theorem MS_fr {P : Nat → Nat → Bool} {m1 m2 : Mem} {s : Nat → Int} (h : Fr P m1 m2) (hP : ∀ j, P 2 j = false) (hS : MS m1 s) : MS m2 s := fun j => (h.1 2 j (hP j)).trans (hS j)
theorem PB_2 (j : Nat) : PB 2 j = false := rfl
theorem m_into (fu : Nat) {mem : Mem} {t : BS} {x y v : Int} (h : MB mem t) (h1 : 0 ≤ x) (h2 : x ≤ 8) (h3 : 0 ≤ y) (h4 : y ≤ 8) (h5 : 0 ≤ v) (h6 : v ≤ 200) : ∃ mem2, K_X12_comesInto fu (zi x) (zi y) (zi v) mem = some mem2 ∧ MB mem2 (bpush t (9 * y + x).toNat v) ∧ Fr PB mem mem2 := by
  obtain ⟨q1, q2, q3, q4, q5⟩ := h
  have hc : (9 * y + x).toNat < 81 := by omega
  have e1 := q1 _ hc
  have r1 := q4 (9 * y + x).toNat
  unfold K_X12_comesInto bpush
  simp (disch := omega) only [zi_lit, zl_lit, zi_add, zi_sub, zi_mul, zi_neg, zi_lt, zi_inj, zi_clamp, zl_of, gi_zi, bd_s, ltf, bi_0, bi_1, gb_bi, Int.reduceToNat, Int.reduceNeg, e1]
  by_cases ht : t.1 (9 * y + x).toNat = -1
  · have hr : t.2.2 < 81 := by
      rw [q5]
      exact cnt_lt hc ht
    rw [if_pos ht, if_pos ht]
    simp (disch := omega) only [rd_mw, reduceCtorEq, false_and, ↓reduceIte, q3, zi_lit, zl_lit, zi_add, zi_sub, zi_mul, zi_neg, zi_lt, zi_inj, zi_clamp, zl_of, gi_zi, bd_s, ltf, bi_0, bi_1, gb_bi, Int.reduceToNat, Int.reduceNeg, OfNat.zero_ne_ofNat, Nat.reduceEqDiff]
    refine ⟨_, rfl, ⟨fun c hc2 => ?_, fun k hk => ?_, ?_, fun c => ?_, ?_⟩, ?_⟩
    · simp only [rd_mw]
      by_cases q : c = (9 * y + x).toNat
      · simp [q]
      · simp [q, q1 c hc2]
    · have hk2 : k < t.2.2 + 1 := hk
      simp only [rd_mw]
      by_cases q : k = t.2.2
      · simp [q]
        omega
      · simp [q, q2 k (by omega)]
        omega
    · simp only [rd_mw]
      simp
    · show -1 ≤ (if c = (9 * y + x).toNat then v else t.1 c) ∧ (if c = (9 * y + x).toNat then v else t.1 c) ≤ 200
      have := q4 c
      split <;> omega
    · show t.2.2 + 1 = cnt (fun a => if a = (9 * y + x).toNat then v else t.1 a) 81
      rw [cnt_upd hc ht (by omega), q5]
    · exact Fr_tr (Fr_tr (Fr_mw _ _ rfl) (Fr_mw _ _ rfl)) (Fr_mw _ _ rfl)
  · rw [if_neg ht, if_neg ht]
    exact ⟨mem, rfl, ⟨q1, q2, q3, q4, q5⟩, Fr_rf PB mem⟩
end MLAY
