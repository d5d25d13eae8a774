section LXA
theorem nI_zi (n : Nat) : nI n = zi (n : Int) := ofNat_zi
theorem onC_at {m : Mem} {s : Nat → Int} {i : Nat} {x y : Int} (hp : LWp m s i) (h6 : 0 ≤ pg s i 6 ∧ pg s i 6 ≤ 1000) (h0 : 0 ≤ pg s i 0 ∧ pg s i 0 ≤ 1000) (h1 : 0 ≤ pg s i 1 ∧ pg s i 1 ≤ 1000) (hx : -1000 ≤ x ∧ x ≤ 1000) (hy : -1000 ≤ y ∧ y ≤ 1000) : onC m (zi x) (zi y) i ↔ atP s i x y := by
  unfold onC
  rw [hp.1, hp.2.1, hp.2.2.2.2.2.2, zi_inj (by omega) (by omega) (by omega) (by omega), zi_inj (by omega) (by omega) (by omega) (by omega), show (0 : Int32) = zi 0 from rfl, zi_inj (by omega) (by omega) (by omega) (by omega)]
theorem pn_sm {s : Nat → Int} (hz : szO s) {p : Int} (hp : pnO s p) (hc : cnO s) : (0 ≤ pg s p 6 ∧ pg s p 6 ≤ 200) ∧ (0 ≤ pg s p 0 ∧ pg s p 0 ≤ 8) ∧ (0 ≤ pg s p 1 ∧ pg s p 1 ≤ 8) := by
  obtain ⟨a1, a2, a3, a4, a5, a6, a7⟩ := hp
  have b := isCl_iff.mp a1
  obtain ⟨c1, c2, c3, c4, c5, c6, c7⟩ := hc
  obtain ⟨z1, z2, z3⟩ := hz
  omega
theorem w_pawnAt {np nb fu : Nat} (hfu : 1000 ≤ fu) {m : Mem} {s : Nat → Int} (hS : LW np nb m s) (hz : szO s) (hc : cnO s) (hp : pasO s) (hd : dsO s) {x y : Int} (hx : -100 ≤ x ∧ x ≤ 100) (hy : -100 ≤ y ∧ y ≤ 100) : KW_pawnAt np nb fu (zi x) (zi y) m = some (zi (pI s x y)) := by
  have h2 := hS.1.1
  have hnp : np ≤ 4 := by have := hc.1.2; omega
  obtain ⟨r, h1, h3⟩ := pat_some (np := np) (nb := nb) (fu := fu) (mem := m) (x := zi x) (y := zi y) hnp fu 0 (Nat.zero_le _) (by omega)
  have on : ∀ j, j < np → (onC m (zi x) (zi y) j ↔ atP s j x y) := fun j hj => by
    have q := pn_sm hz (hp j (by omega) (by omega)) hc
    exact onC_at (hS.2.2.2.1 j hj) (by omega) (by omega) (by omega) (by omega) (by omega)
  unfold KW_pawnAt
  rw [show (0 : Int32) = nI 0 from rfl, h1]
  rcases h3 with ⟨rfl, h3⟩ | ⟨j, -, h4, rfl, h5⟩
  · rcases pI_sp (s := s) (by omega) x y with ⟨e, -⟩ | ⟨e1, e2, e3⟩
    · rw [e]
      rfl
    · exfalso
      refine h3 (pI s x y).toNat (Nat.zero_le _) (by omega) ((on _ (by omega)).mpr ?_)
      rw [Int.toNat_of_nonneg e1]
      exact e3
  · rw [pI_at (by omega) hd (k := j) (by omega) (by omega) ((on j h4).mp h5), nI_zi]
theorem w_isOver {np nb fu : Nat} {m : Mem} {s : Nat → Int} (hS : LW np nb m s) (hc : cnO s) : KW_isOver np nb fu m = some (zi (bi (ovB s))) := by
  obtain ⟨c1, c2, c3, c4, c5, c6, c7⟩ := hc
  have h2 := hS.1.1
  unfold KW_isOver ovB
  rw [ofNp, hS.2.2.1.2.1, hS.2.2.1.1, show (2 : Int32) = zi 2 from rfl, show (200 : Int32) = zi 200 from rfl, zi_sub, h2]
  simp (disch := omega) only [zi_lt]
  by_cases a : (np : Int) - s 5 < 2
  · rw [if_pos a, decide_eq_true a]
    rfl
  · rw [if_neg a, decide_eq_false a]
    by_cases b : s 4 < 200
    · rw [if_pos b, decide_eq_false (by omega)]
      rfl
    · rw [if_neg b, decide_eq_true (by omega)]
      rfl
theorem mul_bd {u v : Int} (h1 : -100 ≤ u ∧ u ≤ 100) (h2 : -100 ≤ v ∧ v ≤ 100) : -10000 ≤ u * v ∧ u * v ≤ 10000 := by
  have a : (u * v).natAbs ≤ 100 * 100 := by
    rw [Int.natAbs_mul]
    exact Nat.mul_le_mul (by omega) (by omega)
  omega
theorem mul_pos_btw {x a b : Int} : (0 < (x - a) * (x - b)) ↔ ¬ (lsI a b ≤ x ∧ x ≤ mrI a b) := by
  have l := lsI_e a b
  have r := mrI_e a b
  constructor
  · intro h ⟨h1, h2⟩
    by_cases c : x - a ≤ 0
    · by_cases d : 0 ≤ x - b
      · have := Int.mul_nonneg (a := -(x - a)) (b := x - b) (by omega) d
        rw [Int.neg_mul] at this
        omega
      · have e : x - a = 0 := by
          unfold lsI at h1
          unfold mrI at h2
          split at h1 <;> split at h2 <;> omega
        rw [e, Int.zero_mul] at h
        omega
    · by_cases d : x - b ≤ 0
      · have := Int.mul_nonneg (a := x - a) (b := -(x - b)) (by omega) (by omega)
        rw [Int.mul_neg] at this
        omega
      · unfold mrI at h2
        split at h2 <;> omega
  · intro h
    by_cases c : 0 < x - a ∧ 0 < x - b
    · exact Int.mul_pos c.1 c.2
    · have : x - a < 0 ∧ x - b < 0 := by
        unfold lsI mrI at h
        split at h <;> split at h <;> omega
      exact Int.mul_pos_of_neg_of_neg this.1 this.2
def bnG (s : Nat → Int) (b : Int) : Prop := ∀ k : Int, 0 ≤ k → k ≤ 6 → 0 ≤ bg s b k ∧ bg s b k ≤ 9
theorem w_ban1 {np nb fu n : Nat} {m : Mem} {s : Nat → Int} (hS : LW np nb m s) {p : Int} {b : Nat} (hb : b < nb) (hnb : nb ≤ 4) (hg : bnG s b) (hO : bnO s b) {x y last num : Int} {d : Nat} (hp : 0 ≤ p ∧ p ≤ 3) (hx : 0 ≤ x ∧ x ≤ 9) (hy : 0 ≤ y ∧ y ≤ 9) (hl : -1 ≤ last ∧ last ≤ 3) (hn : 0 ≤ num ∧ num ≤ 10000) (hd : d < 4) : KW_isBanned_11 np nb fu m (n + 1) (zi p) (zi x) (zi y) (zi last) (zi num) (zi (d : Int)) (zi (b : Int)) = if bg s b 0 = p ∧ fob s b x y last num d = true then some 1 else KW_isBanned_11 np nb fu m n (zi p) (zi x) (zi y) (zi last) (zi num) (zi (d : Int)) (zi ((b + 1 : Nat) : Int)) := by
  have g0 := hg 0 (by omega) (by omega)
  have g1 := hg 1 (by omega) (by omega)
  have g2 := hg 2 (by omega) (by omega)
  have g3 := hg 3 (by omega) (by omega)
  have g4 := hg 4 (by omega) (by omega)
  have g5 := hg 5 (by omega) (by omega)
  have g6 := hg 6 (by omega) (by omega)
  obtain ⟨q0, q1, q2, q3, q4, q5, q6⟩ := hS.2.2.2.2 b hb
  have m1 := mul_bd (u := x - bg s b 3) (v := x - bg s b 5) (by omega) (by omega)
  have m2 := mul_bd (u := y - bg s b 4) (v := y - bg s b 6) (by omega) (by omega)
  have hk := hO.2.1
  rw [KW_isBanned_11, show (zi (b : Int) + 1 : Int32) = zi ((b + 1 : Nat) : Int) by
    rw [show (1 : Int32) = zi 1 from rfl, zi_add]
    rfl]
  generalize KW_isBanned_11 np nb fu m n (zi p) (zi x) (zi y) (zi last) (zi num) (zi (d : Int)) (zi ((b + 1 : Nat) : Int)) = R
  have e0 : ¬ (if zi (b : Int) = Int32.ofNat nb then (0 : Int32) else 1) = 0 := by
    have h : ¬ (zi (b : Int) = Int32.ofNat nb) := by
      rw [ofNp, zi_inj (by omega) (by omega) (by omega) (by omega)]
      omega
    rw [if_neg h]
    decide
  rw [if_neg e0, gi_zi (by omega) (by omega) (by omega), zi_clamp (by omega) (by omega), Int.toNat_natCast, q0, q1, q2, q3, q4, q5, q6]
  by_cases c0 : bg s b 0 = p
  · rw [if_pos (congrArg zi c0)]
    have i2 := mul_pos_btw (x := x) (a := bg s b 3) (b := bg s b 5)
    have i3 := mul_pos_btw (x := y) (a := bg s b 4) (b := bg s b 6)
    unfold fob
    rcases (show bg s b 1 = 0 ∨ bg s b 1 = 1 ∨ bg s b 1 = 2 ∨ bg s b 1 = 3 by omega) with k1 | k1 | k1 | k1
    · simp only [k1, show (zi 0 = 0) = True from eq_true rfl, show (zi 0 = 1) = False from eq_false (by decide), show (zi 0 = 2) = False from eq_false (by decide), show (zi 0 = 3) = False from eq_false (by decide), if_true, if_false]
      rw [show (0 : Int32) = zi 0 from rfl]
      simp (disch := omega) only [zi_lt]
      by_cases c1 : last < 0
      · rw [if_pos c1, if_neg (by simp; omega)]
      · rw [if_neg c1, show (2 : Int32) = zi 2 from rfl, show last = ((last.toNat : Nat) : Int) by omega, xor2 (by omega)]
        have ol := opp_lt last.toNat
        simp (disch := omega) only [zi_inj]
        unfold opp
        by_cases c2 : (d : Int) = (((last.toNat + 2) % 4 : Nat) : Int)
        · rw [if_pos c2, if_pos ⟨c0, by simp; omega⟩]
        · rw [if_neg c2, if_neg (fun h => c2 (by
            have := h.2
            simp at this
            omega))]
    · simp only [k1, show (zi 1 = 0) = False from eq_false (by decide), show (zi 1 = 1) = True from eq_true rfl, show (zi 1 = 2) = False from eq_false (by decide), show (zi 1 = 3) = False from eq_false (by decide), if_true, if_false, show ((1 : Int) = 0) = False from eq_false (by omega)]
      simp (disch := omega) only [zi_inj]
      by_cases c1 : (d : Int) = last
      · rw [if_pos c1, if_pos ⟨c0, by simpa using c1⟩]
      · rw [if_neg c1, if_neg (fun h => c1 (by simpa using h.2))]
    · have z3 := (hO.2.2.1 k1).2.1
      simp only [k1, show (zi 2 = 0) = False from eq_false (by decide), show (zi 2 = 1) = False from eq_false (by decide), show (zi 2 = 2) = True from eq_true rfl, show (zi 2 = 3) = False from eq_false (by decide), if_true, if_false, show ((2 : Int) = 0) = False from eq_false (by omega), show ((2 : Int) = 1) = False from eq_false (by omega)]
      rw [gz_zi (by omega) (by omega), zi_mod (by omega) (by omega) (by omega) (by omega)]
      have w := Int.emod_lt_of_pos num (show (0 : Int) < bg s b 3 by omega)
      have w2 := Int.emod_nonneg num (show bg s b 3 ≠ 0 by omega)
      simp (disch := omega) only [zi_inj]
      by_cases c1 : (d : Int) = bg s b 2
      · rw [if_pos c1]
        by_cases c2 : num % bg s b 3 = bg s b 4
        · rw [if_pos c2, if_pos ⟨c0, by simp [c1, c2]⟩]
        · rw [if_neg c2, if_neg (fun h => c2 (by
            have := h.2
            simp at this
            omega))]
      · rw [if_neg c1, if_neg (fun h => c1 (by
          have := h.2
          simp at this
          omega))]
    · simp only [k1, show (zi 3 = 0) = False from eq_false (by decide), show (zi 3 = 1) = False from eq_false (by decide), show (zi 3 = 2) = False from eq_false (by decide), show (zi 3 = 3) = True from eq_true rfl, if_true, if_false, show ((3 : Int) = 0) = False from eq_false (by omega), show ((3 : Int) = 1) = False from eq_false (by omega), show ((3 : Int) = 2) = False from eq_false (by omega)]
      rw [zi_sub, zi_sub, zi_mul, zi_sub, zi_sub, zi_mul, show (0 : Int32) = zi 0 from rfl]
      simp (disch := omega) only [zi_inj, zi_lt]
      by_cases c1 : (d : Int) = bg s b 2
      · rw [if_pos c1]
        by_cases c2 : 0 < (x - bg s b 3) * (x - bg s b 5)
        · rw [if_pos c2, if_neg (fun h => i2.mp c2 (by
            have := h.2
            simp at this
            omega))]
        · rw [if_neg c2]
          have c2' := Classical.not_not.mp (fun h => c2 (i2.mpr h))
          by_cases c3 : 0 < (y - bg s b 4) * (y - bg s b 6)
          · rw [if_pos c3, if_neg (fun h => i3.mp c3 (by
              have := h.2
              simp at this
              omega))]
          · have c3' := Classical.not_not.mp (fun h => c3 (i3.mpr h))
            rw [if_neg c3, if_pos ⟨c0, by simp [c1, c2', c3']⟩]
      · rw [if_neg c1, if_neg (fun h => c1 (by
          have := h.2
          simp at this
          omega))]
  · rw [if_neg (fun h => c0 ((zi_inj (by omega) (by omega) (by omega) (by omega)).mp h)), if_neg (fun h => c0 h.1)]
end LXA
