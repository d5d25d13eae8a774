section CLRM
/-- a board without walls, as the class tells it by four bits -/
def opE (s : Nat → Int) (x y : Int) (d : Nat) : Bool := isCl s x y && (if d = 0 then decide (y < s 1 - 1) else if d = 1 then decide (x < s 0 - 1) else if d = 2 then decide (0 < y) else decide (0 < x))
theorem op_E {s : Nat → Int} (hw : ∀ j, 120 ≤ j → s j = 0) (u d : Nat) (hd : d < 4) : op s u d = opE s (xo u) (yo u) d := by
  have w0 : ∀ x y, wg s x y = 0 := fun x y => by
    unfold wg
    by_cases q : isPl s x y = true
    · rw [if_pos q]
      have := isPl_iff.mp q
      exact hw _ (by omega)
    · rw [if_neg q]
  have key : op s u d = true ↔ opE s (xo u) (yo u) d = true := by
    unfold opE
    rw [Bool.and_eq_true]
    have : d = 0 ∨ d = 1 ∨ d = 2 ∨ d = 3 := by omega
    rcases this with e | e | e | e
    · rw [e, op0, if_pos rfl, decide_eq_true_iff, w0, w0, isCl_iff, isCl_iff]
      omega
    · rw [e, op1, if_neg (by decide), if_pos rfl, decide_eq_true_iff, w0, w0, isCl_iff, isCl_iff]
      omega
    · rw [e, op2, if_neg (by decide), if_neg (by decide), if_pos rfl, decide_eq_true_iff, w0, w0, isCl_iff, isCl_iff]
      omega
    · rw [e, op3, if_neg (by decide), if_neg (by decide), if_neg (by decide), decide_eq_true_iff, w0, w0, isCl_iff, isCl_iff]
      omega
  cases h : op s u d with
  | true => exact (key.mp h).symm
  | false =>
    cases h2 : opE s (xo u) (yo u) d with
    | true =>
      rw [key.mpr h2] at h
      exact absurd h (by decide)
    | false => rfl
theorem bits4 (a b c d : Bool) : (((if a = true then (1 : Int32) else 0) ||| (if b = true then 2 else 0)) ||| (if c = true then 4 else 0)) ||| (if d = true then 8 else 0) = zi (bi a + 2 * bi b + 4 * bi c + 8 * bi d) := by
  cases a <;> cases b <;> cases c <;> cases d <;> decide
theorem bits4' (a b c d : Bool) : ((if c = true then (4 : Int32) else 0) ||| ((if b = true then 2 else 0) ||| (if a = true then 1 else 0))) ||| (if d = true then 8 else 0) = zi (bi a + 2 * bi b + 4 * bi c + 8 * bi d) := by
  cases a <;> cases b <;> cases c <;> cases d <;> decide
theorem c_oww (fu r : Nat) {c : Mem} {s : Nat → Int} (h0 : rd c (pBoard r) 0 = zi (s 0)) (h1 : rd c (pBoard r) 1 = zi (s 1)) (hz : szO s) {x y : Int} (hx : 0 ≤ x ∧ x ≤ 100) (hy : 0 ≤ y ∧ y ≤ 100) : K_X2_openWithoutWalls fu r (zi x) (zi y) c = some (msk (opE s x y)) := by
  obtain ⟨⟨z1, z2⟩, z3, z4⟩ := hz
  have hc : K_X2_hasCell fu r (zi x) (zi y) c = some (zi (bi (isCl s x y))) := by
    unfold K_X2_hasCell isCl
    simp (disch := omega) only [zi_lit, zl_lit, zi_add, zi_sub, zi_mul, zi_neg, zi_lt, zi_inj, zi_clamp, zl_of, gi_zi, bd_s, ltf, bi_0, bi_1, gb_bi, Int.reduceToNat, Int.reduceNeg, Int.toNat_natCast, h0, h1]
    by_cases q1 : x < s 0
    · by_cases q2 : y < s 1
      · rw [if_neg (by omega), if_pos q1, if_neg (by omega), if_pos q2, decide_eq_true (by omega), decide_eq_true (by omega)]
        rfl
      · rw [if_neg (by omega), if_pos q1, if_neg (by omega), if_neg q2, decide_eq_true (by omega), decide_eq_false (by omega)]
        rfl
    · rw [if_neg (by omega), if_neg q1, decide_eq_false (by omega)]
      rfl
  unfold K_X2_openWithoutWalls
  rw [hc, bd_s]
  by_cases q : isCl s x y = true
  · rw [q, if_neg (by decide)]
    have e : msk (opE s x y) = zi (bi (decide (y < s 1 - 1)) + 2 * bi (decide (x < s 0 - 1)) + 4 * bi (decide (0 < y)) + 8 * bi (decide (0 < x))) := by
      unfold msk opE
      rw [q]
      rfl
    rw [e, ← bits4']
    unfold K_X2_openWithoutWalls_26 K_X2_openWithoutWalls_41 K_X2_openWithoutWalls_51
    have i1 : (zi y < rd c (pBoard r) 1 - 1) = (y < s 1 - 1) := by
      rw [h1, show (1 : Int32) = zi 1 from rfl, zi_sub]
      exact zi_lt (by omega) (by omega) (by omega) (by omega)
    have i2 : (zi x < rd c (pBoard r) 0 - 1) = (x < s 0 - 1) := by
      rw [h0, show (1 : Int32) = zi 1 from rfl, zi_sub]
      exact zi_lt (by omega) (by omega) (by omega) (by omega)
    have i3 : ((0 : Int32) < zi y) = (0 < y) := zi_lt (a_ := 0) (by decide) (by decide) (by omega) (by omega)
    have i4 : ((0 : Int32) < zi x) = (0 < x) := zi_lt (a_ := 0) (by decide) (by decide) (by omega) (by omega)
    simp only [i1, i2, i3, i4]
    by_cases c1 : y < s 1 - 1 <;> by_cases c2 : x < s 0 - 1 <;> by_cases c3 : 0 < y <;> by_cases c4 : 0 < x <;> simp only [c1, c2, c3, c4, if_true, if_false, decide_true, decide_false, Bool.false_eq_true] <;> rfl
  · have q' : isCl s x y = false := by
      cases hh : isCl s x y with
      | true => exact absurd hh q
      | false => rfl
    rw [q', if_pos (show zi (bi false) = 0 from rfl)]
    have e : msk (opE s x y) = 0 := by
      unfold msk opE
      rw [q']
      rfl
    rw [e]
def PCl (r k j : Nat) : Bool := k == pBoard r || (k == pBuilt r || k == pOpen r)
theorem c_cl25 (fu r : Nat) {s : Nat → Int} (hz : szO s) (hw : ∀ j, 120 ≤ j → s j = 0) : ∀ (q n k : Nat) (c : Mem), k + q = 81 → q < n → rd c (pBoard r) 0 = zi (s 0) → rd c (pBoard r) 1 = zi (s 1) → (∀ u, u < k → rd c (pOpen r) u = msk (op s u)) → ∃ c2, K_X2_clear_25 fu r n (zi (k : Int)) c = some c2 ∧ (∀ u, u < 81 → rd c2 (pOpen r) u = msk (op s u)) ∧ Fr (PO r) c c2 := by
  intro q
  induction q with
  | zero =>
    intro n k c hk hn h0 h1 hl
    obtain ⟨n, rfl⟩ : ∃ f, n = f + 1 := ⟨n - 1, by omega⟩
    refine ⟨c, ?_, fun u hu => hl u (by omega), Fr_rf _ _⟩
    rw [K_X2_clear_25]
    simp (disch := omega) only [zi_lit, zl_lit, zi_add, zi_sub, zi_mul, zi_neg, zi_lt, zi_inj, zi_clamp, zl_of, gi_zi, bd_s, ltf, bi_0, bi_1, gb_bi, Int.reduceToNat, Int.reduceNeg, Int.toNat_natCast]
    rw [if_neg (by omega)]
  | succ q ih =>
    intro n k c hk hn h0 h1 hl
    obtain ⟨n, rfl⟩ : ∃ f, n = f + 1 := ⟨n - 1, by omega⟩
    have hx : (k : Int) - (k : Int) / 9 * 9 = xo k := by
      unfold xo
      omega
    have hy : (k : Int) / 9 = yo k := by
      unfold yo
      omega
    have hxb : 0 ≤ xo k ∧ xo k ≤ 100 := by
      rw [← hx]
      omega
    have hyb : 0 ≤ yo k ∧ yo k ≤ 100 := by
      rw [← hy]
      omega
    have ho := c_oww fu r h0 h1 hz hxb hyb
    have hm : msk (opE s (xo k) (yo k)) = msk (op s k) := msk_cg (fun e he => (op_E hw k e he).symm)
    rw [hm] at ho
    obtain ⟨c2, a1, a2, a3⟩ := ih n (k + 1) (mw c (pOpen r) k (msk (op s k))) (by omega) (by omega) (by rw [rd_mw, if_neg (fun h => absurd h.1 (by unfold pBoard pOpen; omega))]; exact h0) (by rw [rd_mw, if_neg (fun h => absurd h.1 (by unfold pBoard pOpen; omega))]; exact h1) (fun u hu => by
      rw [rd_mw]
      by_cases e : u = k
      · rw [if_pos ⟨rfl, e⟩, e]
      · rw [if_neg (fun h => e h.2)]
        exact hl u (by omega))
    refine ⟨c2, ?_, a2, Fr_tr (Fr_mw _ _ (PO_t r k)) a3⟩
    have hdv : zi (k : Int) / zi 9 = zi (yo k) := by
      rw [zi_div (by omega) (by omega) (by omega) (by omega), hy]
    have hmd : zi (k : Int) - zi (k : Int) / zi 9 * zi 9 = zi (xo k) := by
      rw [hdv, zi_mul, zi_sub, ← hy, ← hx]
    have e9 : (9 : Int32) = zi 9 := rfl
    have ik : (zi (k : Int)).toNatClampNeg = k := by
      rw [zi_clamp (by omega) (by omega)]
      exact Int.toNat_natCast k
    rw [K_X2_clear_25, e9, hmd, hdv, ltf, ltf, ho, bd_s, ik, ltf, gi_zi (by omega) (by omega) (by decide)]
    have i81 : zi (k : Int) < 81 := by
      have : (zi (k : Int) < zi 81) = ((k : Int) < 81) := zi_lt (by omega) (by omega) (by omega) (by omega)
      exact this.mpr (by omega)
    have e1 : zi (k : Int) + 1 = zi ((k + 1 : Nat) : Int) := zi_add (k : Int) 1
    rw [if_pos i81, e1]
    exact a1
theorem PCl_ne {r k j : Nat} (h : PCl r k j = false) : k ≠ pBoard r ∧ k ≠ pBuilt r ∧ k ≠ pOpen r := by
  unfold PCl at h
  simp only [Bool.or_eq_false_iff, beq_eq_false_iff_ne, ne_eq] at h
  exact ⟨h.1, h.2.1, h.2.2⟩
/-- the class clears a board -/
theorem c_clear (fu r : Nat) (hfu : 1000 ≤ fu) {s : Nat → Int} (hz : szO s) (hw : ∀ j, 120 ≤ j → s j = 0) (h3 : s 3 = 0) (c : Mem) : ∃ c2, K_X2_clear fu r (zi (s 0)) (zi (s 1)) c = some c2 ∧ RB c2 r s ∧ Fr (PCl r) c c2 := by
  obtain ⟨c1, hc1⟩ : ∃ c1, c1 = mw (mw (mw c (pBoard r) 0 (zi (s 0))) (pBoard r) 1 (zi (s 1))) (pBoard r) 2 (zi 0) := ⟨_, rfl⟩
  obtain ⟨c2, a1, a2, a3⟩ := c_fill fu (pBuilt r) 64 (-1) (by omega) (by decide) c1
  have b0 : rd c1 (pBoard r) 0 = zi (s 0) := by rw [hc1, rd_mw, if_neg (fun h => absurd h.2 (by decide)), rd_mw, if_neg (fun h => absurd h.2 (by decide)), rd_mw, if_pos ⟨rfl, rfl⟩]
  have b1 : rd c1 (pBoard r) 1 = zi (s 1) := by rw [hc1, rd_mw, if_neg (fun h => absurd h.2 (by decide)), rd_mw, if_pos ⟨rfl, rfl⟩]
  have b2 : rd c1 (pBoard r) 2 = zi 0 := by rw [hc1, rd_mw, if_pos ⟨rfl, rfl⟩]
  have g : ∀ j, rd c2 (pBoard r) j = rd c1 (pBoard r) j := fun j => a3.1 _ _ (by
    show (pBoard r == pBuilt r) = false
    rw [beq_eq_false_iff_ne]
    unfold pBoard pBuilt
    omega)
  obtain ⟨c3, d1, d2, d3⟩ := c_cl25 fu r hz hw 81 fu 0 c2 (by omega) (by omega) ((g 0).trans b0) ((g 1).trans b1) (fun u hu => absurd hu (Nat.not_lt_zero u))
  have g3 : ∀ k j, k ≠ pOpen r → rd c3 k j = rd c2 k j := fun k j hk => d3.1 _ _ (by
    show (k == pOpen r) = false
    rw [beq_eq_false_iff_ne]
    exact hk)
  have n1 : pBoard r ≠ pOpen r := by unfold pBoard pOpen; omega
  have n2 : pBuilt r ≠ pOpen r := by unfold pBuilt pOpen; omega
  refine ⟨c3, ?_, ⟨?_, ?_, ?_, fun j hj => ?_, d2⟩, ?_⟩
  · unfold K_X2_clear
    simp only [ltf]
    have e1 : mw (mw (mw c (pBoard r) 0 (zi (s 0))) (pBoard r) 1 (zi (s 1))) (pBoard r) 2 0 = c1 := hc1.symm
    rw [e1, a1, bd_s]
    exact d1
  · rw [g3 _ _ n1, g, b0]
  · rw [g3 _ _ n1, g, b1]
  · rw [g3 _ _ n1, g, b2, h3]
  · rw [g3 _ _ n2, a2, if_pos hj, hw (120 + j) (by omega)]
    rfl
  · have t1 : ∀ (m : Mem) (j : Nat) (v : Int32), Fr (PCl r) m (mw m (pBoard r) j v) := fun m j v => Fr_mw _ _ (by unfold PCl; simp)
    refine Fr_tr (m2 := c1) ?_ (Fr_tr (Fr_mono a3 (fun k j h => ?_)) (Fr_mono d3 (fun k j h => ?_)))
    · rw [hc1]
      exact Fr_tr (Fr_tr (t1 _ _ _) (t1 _ _ _)) (t1 _ _ _)
    · rw [beq_eq_false_iff_ne]
      exact (PCl_ne h).2.1
    · show (k == pOpen r) = false
      rw [beq_eq_false_iff_ne]
      exact (PCl_ne h).2.2
/-- the race without anything -/
def s00 : Nat → Int := fun j => if j < 2 then 5 else 0
theorem s00_inv : InvH s00 := by
  refine ⟨⟨?_, ?_, fun j h1 h2 => ?_, fun p h1 h2 => ?_, fun b h1 h2 => ?_, fun x y h1 h2 h3 h4 _ => ?_, fun p q h1 h2 => ?_, fun p q h1 h2 => ?_, fun p h1 h2 => ?_⟩, fun j hj => ?_⟩
  · exact ⟨⟨by decide, by decide⟩, by decide, by decide⟩
  · exact ⟨⟨by decide, by decide⟩, ⟨by decide, by decide⟩, ⟨by decide, by decide⟩, ⟨by decide, by decide⟩, ⟨by decide, by decide⟩, ⟨by decide, by decide⟩, fun h => absurd h (by decide)⟩
  · rw [show s00 j = 0 from if_neg (by omega)]
    decide
  · exact absurd (Int.lt_of_le_of_lt h1 h2) (by decide)
  · exact absurd (Int.lt_of_le_of_lt h1 h2) (by decide)
  · exact if_neg (by omega)
  · exact absurd (Int.lt_of_le_of_lt h1 h2) (by decide)
  · exact absurd (Int.lt_of_le_of_lt h1 h2) (by decide)
  · exact absurd (Int.lt_of_le_of_lt h1 h2) (by decide)
  · exact if_neg (by omega)
theorem c_clear6 (fu r : Nat) (hfu : 1000 ≤ fu) (c : Mem) : ∃ c2, K_X6_clear fu r c = some c2 ∧ RC c2 r s00 ∧ Fr (ZR r) c c2 := by
  obtain ⟨c1, a1, a2, a3⟩ := c_clear fu r hfu (s := s00) s00_inv.1.1 (fun j hj => if_neg (by omega)) rfl c
  obtain ⟨c2, hc2⟩ : ∃ c2, c2 = mw (mw (mw (mw (mw c1 (pRace r) 2 0) (pRace r) 4 0) (pRace r) 5 0) (pRace r) 6 0) (pRace r) 7 0 := ⟨_, rfl⟩
  have f2 : Fr (fun k _ => k == pRace r) c1 c2 := by
    rw [hc2]
    have t1 : ∀ (m : Mem) (j : Nat) (v : Int32), Fr (fun k _ => k == pRace r) m (mw m (pRace r) j v) := fun m j v => Fr_mw _ _ (by simp)
    exact Fr_tr (Fr_tr (Fr_tr (Fr_tr (t1 _ _ _) (t1 _ _ _)) (t1 _ _ _)) (t1 _ _ _)) (t1 _ _ _)
  refine ⟨c2, ?_, ⟨RB_fr2 f2 (fun j => ?_) (fun j => ?_) (fun j => ?_) a2, ⟨?_, ?_, ?_, ?_, ?_⟩, fun i h1 h2 => absurd h2 (by show ¬ ((i : Int) < 0); omega), fun i h1 h2 => absurd h2 (by show ¬ ((i : Int) < 0); omega)⟩, Fr_tr (Fr_mono a3 (fun k j h => ?_)) (Fr_mono f2 (fun k j h => ?_))⟩
  · unfold K_X6_clear
    have a1' : K_X2_clear fu r 5 5 c = some c1 := a1
    rw [a1', bd_s]
    simp only [ltf]
    exact congrArg some hc2.symm
  · show (pBoard r == pRace r) = false
    rw [beq_eq_false_iff_ne]
    unfold pBoard pRace
    omega
  · show (pBuilt r == pRace r) = false
    rw [beq_eq_false_iff_ne]
    unfold pBuilt pRace
    omega
  · show (pOpen r == pRace r) = false
    rw [beq_eq_false_iff_ne]
    unfold pOpen pRace
    omega
  · rw [hc2, rd_mw, if_neg (by simp), rd_mw, if_neg (by simp), rd_mw, if_neg (by simp), rd_mw, if_neg (by simp), rd_mw, if_pos ⟨rfl, rfl⟩]
    rfl
  · rw [hc2, rd_mw, if_neg (by simp), rd_mw, if_neg (by simp), rd_mw, if_neg (by simp), rd_mw, if_pos ⟨rfl, rfl⟩]
    rfl
  · rw [hc2, rd_mw, if_neg (by simp), rd_mw, if_neg (by simp), rd_mw, if_pos ⟨rfl, rfl⟩]
    rfl
  · rw [hc2, rd_mw, if_neg (by simp), rd_mw, if_pos ⟨rfl, rfl⟩]
    rfl
  · rw [hc2, rd_mw, if_pos ⟨rfl, rfl⟩]
    rfl
  · unfold ZR at h
    unfold PCl pBoard pBuilt pOpen
    simp only [Bool.and_eq_false_iff, decide_eq_false_iff_not] at h
    simp only [Bool.or_eq_false_iff, beq_eq_false_iff_ne, ne_eq]
    omega
  · unfold ZR at h
    unfold pRace
    simp only [Bool.and_eq_false_iff, decide_eq_false_iff_not] at h
    simp only [beq_eq_false_iff_ne, ne_eq]
    omega
theorem m_cl2 (fu : Nat) : ∀ (q n k : Nat) (m : Mem), k + q = 184 → q < n → (∀ j, j < k → rd m 2 j = zi 0) → ∃ m2, K_X12_clears_2 fu n (zi (k : Int)) m = some m2 ∧ (∀ j, j < 184 → rd m2 2 j = zi (s00 j)) ∧ Fr (PR1 2) m m2 := by
  intro q
  induction q with
  | zero =>
    intro n k m hk hn hl
    obtain ⟨n, rfl⟩ : ∃ f, n = f + 1 := ⟨n - 1, by omega⟩
    refine ⟨mw (mw m 2 0 (zi 5)) 2 1 (zi 5), ?_, fun j hj => ?_, Fr_tr (Fr_mw _ _ rfl) (Fr_mw _ _ rfl)⟩
    · rw [K_X12_clears_2]
      simp (disch := omega) only [zi_lit, zl_lit, zi_add, zi_sub, zi_mul, zi_neg, zi_lt, zi_inj, zi_clamp, zl_of, gi_zi, bd_s, ltf, bi_0, bi_1, gb_bi, Int.reduceToNat, Int.reduceNeg, Int.toNat_natCast]
      rw [if_neg (by omega)]
    · rw [rd_mw, rd_mw]
      unfold s00
      by_cases e1 : j = 1
      · rw [if_pos ⟨rfl, e1⟩, if_pos (by omega)]
      · rw [if_neg (fun h => e1 h.2)]
        by_cases e0 : j = 0
        · rw [if_pos ⟨rfl, e0⟩, if_pos (by omega)]
        · rw [if_neg (fun h => e0 h.2), if_neg (by omega)]
          exact hl j (by omega)
  | succ q ih =>
    intro n k m hk hn hl
    obtain ⟨n, rfl⟩ : ∃ f, n = f + 1 := ⟨n - 1, by omega⟩
    obtain ⟨m2, a1, a2, a3⟩ := ih n (k + 1) (mw m 2 k (zi 0)) (by omega) (by omega) (fun j hj => by
      rw [rd_mw]
      by_cases e : j = k
      · rw [if_pos ⟨rfl, e⟩]
      · rw [if_neg (fun h => e h.2)]
        exact hl j (by omega))
    refine ⟨m2, ?_, a2, Fr_tr (Fr_mw _ _ (by unfold PR1; rw [decide_eq_true (by omega)]; rfl)) a3⟩
    rw [K_X12_clears_2]
    simp (disch := omega) only [zi_lit, zl_lit, zi_add, zi_sub, zi_mul, zi_neg, zi_lt, zi_inj, zi_clamp, zl_of, gi_zi, bd_s, ltf, bi_0, bi_1, gb_bi, Int.reduceToNat, Int.reduceNeg, Int.toNat_natCast]
    rw [if_pos (by omega)]
    exact a1
theorem m_clears (fu : Nat) (hfu : 1000 ≤ fu) {m : Mem} (h : ∀ j, 184 ≤ j → rd m 2 j = zi 0) : ∃ m2, K_X12_clears fu m = some m2 ∧ MS m2 s00 ∧ Fr (PR1 2) m m2 := by
  obtain ⟨m2, a1, a2, a3⟩ := m_cl2 fu 184 fu 0 m (by omega) (by omega) (fun j hj => absurd hj (Nat.not_lt_zero j))
  refine ⟨m2, a1, MS_row a2 (fun j hj => ?_) s00_inv.2, a3⟩
  rw [a3.1 2 j (by unfold PR1; rw [decide_eq_false (by omega)]; rfl)]
  exact h j hj
end CLRM
