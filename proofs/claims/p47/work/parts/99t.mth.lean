section MTHM
/-- the board that the constructor clears -/
def POb (k _ : Nat) : Bool := k == 2
theorem b_oww (fu : Nat) {c : Mem} {s : Nat → Int} (h0 : rd c 0 0 = zi (s 0)) (h1 : rd c 0 1 = zi (s 1)) (hz : szO s) {x y : Int} (hx : 0 ≤ x ∧ x ≤ 100) (hy : 0 ≤ y ∧ y ≤ 100) : K_B_openWithoutWalls fu (zi x) (zi y) c = some (msk (opE s x y)) := by
  obtain ⟨⟨z1, z2⟩, z3, z4⟩ := hz
  have hc : K_B_hasCell fu (zi x) (zi y) c = some (zi (bi (isCl s x y))) := by
    unfold K_B_hasCell isCl
    simp (disch := omega) only [zi_lit, zl_lit, zi_add, zi_sub, zi_mul, zi_neg, zi_lt, zi_inj, zi_clamp, zl_of, gi_zi, bd_s, ltf, bi_0, bi_1, gb_bi, Int.reduceToNat, Int.reduceNeg, Int.toNat_natCast, h0, h1]
    by_cases q1 : x < s 0
    · by_cases q2 : y < s 1
      · rw [if_neg (by omega), if_pos q1, if_neg (by omega), if_pos q2, decide_eq_true (by omega), decide_eq_true (by omega)]
        rfl
      · rw [if_neg (by omega), if_pos q1, if_neg (by omega), if_neg q2, decide_eq_true (by omega), decide_eq_false (by omega)]
        rfl
    · rw [if_neg (by omega), if_neg q1, decide_eq_false (by omega)]
      rfl
  unfold K_B_openWithoutWalls
  rw [hc, bd_s]
  by_cases q : isCl s x y = true
  · rw [q, if_neg (by decide)]
    have e : msk (opE s x y) = zi (bi (decide (y < s 1 - 1)) + 2 * bi (decide (x < s 0 - 1)) + 4 * bi (decide (0 < y)) + 8 * bi (decide (0 < x))) := by
      unfold msk opE
      rw [q]
      rfl
    rw [e, ← bits4']
    unfold K_B_openWithoutWalls_26 K_B_openWithoutWalls_41 K_B_openWithoutWalls_51
    have i1 : (zi y < rd c 0 1 - 1) = (y < s 1 - 1) := by
      rw [h1, show (1 : Int32) = zi 1 from rfl, zi_sub]
      exact zi_lt (by omega) (by omega) (by omega) (by omega)
    have i2 : (zi x < rd c 0 0 - 1) = (x < s 0 - 1) := by
      rw [h0, show (1 : Int32) = zi 1 from rfl, zi_sub]
      exact zi_lt (by omega) (by omega) (by omega) (by omega)
    have i3 : ((0 : Int32) < zi y) = (0 < y) := zi_lt (a_ := 0) (by decide) (by decide) (by omega) (by omega)
    have i4 : ((0 : Int32) < zi x) = (0 < x) := zi_lt (a_ := 0) (by decide) (by decide) (by omega) (by omega)
    simp only [i1, i2, i3, i4]
    by_cases c1 : y < s 1 - 1 <;> by_cases c2 : x < s 0 - 1 <;> by_cases c3 : 0 < y <;> by_cases c4 : 0 < x <;> simp only [c1, c2, c3, c4, if_true, if_false, decide_true, decide_false, Bool.false_eq_true] <;> rfl
  · have q' : isCl s x y = false := by
      cases hh : isCl s x y with
      | true => exact absurd hh q
      | false => rfl
    rw [q', if_pos (show zi (bi false) = 0 from rfl)]
    have e : msk (opE s x y) = 0 := by
      unfold msk opE
      rw [q']
      rfl
    rw [e]
theorem b_cl25 (fu : Nat) {s : Nat → Int} (hz : szO s) (hw : ∀ j, 120 ≤ j → s j = 0) : ∀ (q n k : Nat) (c : Mem), k + q = 81 → q < n → rd c 0 0 = zi (s 0) → rd c 0 1 = zi (s 1) → (∀ u, u < k → rd c 2 u = msk (op s u)) → ∃ c2, K_B_clear_25 fu n (zi (k : Int)) c = some c2 ∧ (∀ u, u < 81 → rd c2 2 u = msk (op s u)) ∧ Fr POb c c2 := by
  intro q
  induction q with
  | zero =>
    intro n k c hk hn h0 h1 hl
    obtain ⟨n, rfl⟩ : ∃ f, n = f + 1 := ⟨n - 1, by omega⟩
    refine ⟨c, ?_, fun u hu => hl u (by omega), Fr_rf _ _⟩
    rw [K_B_clear_25]
    simp (disch := omega) only [zi_lit, zl_lit, zi_add, zi_sub, zi_mul, zi_neg, zi_lt, zi_inj, zi_clamp, zl_of, gi_zi, bd_s, ltf, bi_0, bi_1, gb_bi, Int.reduceToNat, Int.reduceNeg, Int.toNat_natCast]
    rw [if_neg (by omega)]
  | succ q ih =>
    intro n k c hk hn h0 h1 hl
    obtain ⟨n, rfl⟩ : ∃ f, n = f + 1 := ⟨n - 1, by omega⟩
    have hx : (k : Int) - (k : Int) / 9 * 9 = xo k := by
      unfold xo
      omega
    have hy : (k : Int) / 9 = yo k := by
      unfold yo
      omega
    have hxb : 0 ≤ xo k ∧ xo k ≤ 100 := by
      rw [← hx]
      omega
    have hyb : 0 ≤ yo k ∧ yo k ≤ 100 := by
      rw [← hy]
      omega
    have ho := b_oww fu h0 h1 hz hxb hyb
    have hm : msk (opE s (xo k) (yo k)) = msk (op s k) := msk_cg (fun e he => (op_E hw k e he).symm)
    rw [hm] at ho
    obtain ⟨c2, a1, a2, a3⟩ := ih n (k + 1) (mw c 2 k (msk (op s k))) (by omega) (by omega) (by rw [rd_mw, if_neg (fun h => absurd h.1 (by decide))]; exact h0) (by rw [rd_mw, if_neg (fun h => absurd h.1 (by decide))]; exact h1) (fun u hu => by
      rw [rd_mw]
      by_cases e : u = k
      · rw [if_pos ⟨rfl, e⟩, e]
      · rw [if_neg (fun h => e h.2)]
        exact hl u (by omega))
    refine ⟨c2, ?_, a2, Fr_tr (Fr_mw _ _ rfl) a3⟩
    have hdv : zi (k : Int) / zi 9 = zi (yo k) := by
      rw [zi_div (by omega) (by omega) (by omega) (by omega), hy]
    have hmd : zi (k : Int) - zi (k : Int) / zi 9 * zi 9 = zi (xo k) := by
      rw [hdv, zi_mul, zi_sub, ← hy, ← hx]
    have e9 : (9 : Int32) = zi 9 := rfl
    have ik : (zi (k : Int)).toNatClampNeg = k := by
      rw [zi_clamp (by omega) (by omega)]
      exact Int.toNat_natCast k
    rw [K_B_clear_25, e9, hmd, hdv, ltf, ltf, ho, bd_s, ik, ltf, gi_zi (by omega) (by omega) (by decide)]
    have i81 : zi (k : Int) < 81 := by
      have : (zi (k : Int) < zi 81) = ((k : Int) < 81) := zi_lt (by omega) (by omega) (by omega) (by omega)
      exact this.mpr (by omega)
    have e1 : zi (k : Int) + 1 = zi ((k + 1 : Nat) : Int) := zi_add (k : Int) 1
    rw [if_pos i81, e1]
    exact a1
theorem b_clear (fu : Nat) (hfu : 1000 ≤ fu) : ∃ c, K_B_clear fu 5 5 (fun _ => z0) = some c ∧ rd c 0 0 = zi 5 ∧ rd c 0 1 = zi 5 ∧ rd c 0 2 = zi 0 ∧ (∀ j, j < 64 → rd c 1 j = -1) ∧ ∀ u, u < 81 → rd c 2 u = msk (op s00 u) := by
  have hz : szO s00 := s00_inv.1.1
  obtain ⟨c1, hc1⟩ : ∃ c1, c1 = mw (mw (mw (fun _ => z0) 0 0 5) 0 1 5) 0 2 0 := ⟨_, rfl⟩
  obtain ⟨c2, a1, a2, a3⟩ := c_fill fu 1 64 (-1) (by omega) (by decide) c1
  have b0 : rd c1 0 0 = zi 5 := by rw [hc1]; rfl
  have b1 : rd c1 0 1 = zi 5 := by rw [hc1]; rfl
  have b2 : rd c1 0 2 = zi 0 := by rw [hc1]; rfl
  have g : ∀ j, rd c2 0 j = rd c1 0 j := fun j => a3.1 _ _ rfl
  obtain ⟨c3, d1, d2, d3⟩ := b_cl25 fu (s := s00) hz (fun j hj => if_neg (by omega)) 81 fu 0 c2 (by omega) (by omega) ((g 0).trans b0) ((g 1).trans b1) (fun u hu => absurd hu (Nat.not_lt_zero u))
  refine ⟨c3, ?_, (d3.1 _ _ rfl).trans ((g 0).trans b0), (d3.1 _ _ rfl).trans ((g 1).trans b1), (d3.1 _ _ rfl).trans ((g 2).trans b2), fun j hj => ?_, d2⟩
  · unfold K_B_clear
    rw [ltf, ltf, ltf, ← hc1, a1, bd_s]
    exact d1
  · rw [d3.1 _ _ rfl, a2, if_pos hj]
theorem mW_c (memB memM : Mem) {k : Nat} (hk : k < 255) : mW0 memB memM k = mC0 memB k := if_pos hk
theorem mW_m (memB memM : Mem) (j : Nat) : mMp (mW0 memB memM) j = memM j := by
  unfold mMp mW0
  rw [if_neg (by omega), if_neg (by omega), Nat.add_sub_cancel_left]
theorem JJ_0 (fu : Nat) (hfu : 1000 ≤ fu) : ∃ memB memM : Mem, K_B_clear fu 5 5 (fun _ => z0) = some memB ∧ K_X12_clears fu mM1 = some memM ∧ JJ (mW0 memB memM) (mMp (mW0 memB memM)) := by
  obtain ⟨memB, h1, b0, b1, b2, b3, b4⟩ := b_clear fu hfu
  obtain ⟨memM, k1, k2, k3⟩ := m_clears fu hfu (m := mM1) (fun j hj => rfl)
  refine ⟨memB, memM, h1, k1, s00, s00, 0, fun _ _ => 0, 0, fun _ => 0, 0, -1, false, (fun _ => 0, 0), ?_⟩
  have em : ∀ k j, rd (mMp (mW0 memB memM)) k j = rd memM k j := fun k j => by
    unfold rd
    rw [mW_m]
  have ec : ∀ k j, k < 255 → rd (mW0 memB memM) k j = rd (mC0 memB) k j := fun k j hk => by
    unfold rd
    rw [mW_c memB memM hk]
  have e0 : ∀ j, rd memM 0 j = rd mM1 0 j := fun j => k3.1 _ _ rfl
  have hR : RC (mW0 memB memM) 0 s00 := by
    refine ⟨⟨?_, ?_, ?_, fun j hj => ?_, fun u hu => ?_⟩, ⟨?_, ?_, ?_, ?_, ?_⟩, fun i g1 g2 => absurd g2 (by show ¬ ((i : Int) < 0); omega), fun i g1 g2 => absurd g2 (by show ¬ ((i : Int) < 0); omega)⟩
    · rw [ec _ _ (by decide)]
      exact b0
    · rw [ec _ _ (by decide)]
      exact b1
    · rw [ec _ _ (by decide)]
      exact b2
    · rw [ec _ _ (by decide), show s00 (120 + j) = 0 from if_neg (by omega)]
      exact b3 j hj
    · rw [ec _ _ (by decide)]
      exact b4 u hu
    · rw [ec _ _ (by decide)]
      rfl
    · rw [ec _ _ (by decide)]
      rfl
    · rw [ec _ _ (by decide)]
      rfl
    · rw [ec _ _ (by decide)]
      rfl
    · rw [ec _ _ (by decide)]
      rfl
  refine ⟨⟨⟨hR, fun j => (em 2 j).trans (k2 j), s00_inv⟩, ⟨⟨fun _ => ⟨Int.le_refl 0, show (0 : Int) ≤ 255 by decide⟩, by decide, ?_, fun i hi => absurd hi (Nat.not_lt_zero i)⟩, ⟨fun _ => ⟨Int.le_refl 0, show (0 : Int) ≤ 255 by decide⟩, by decide, ?_, fun i hi => absurd hi (Nat.not_lt_zero i)⟩⟩, ⟨?_, ?_⟩, ?_, ?_⟩, ⟨by decide, ⟨0, by decide, ?_, ?_, fun i hi => absurd hi (Nat.not_lt_zero i)⟩, ⟨?_, fun i j hi => absurd hi (Nat.not_lt_zero i)⟩, fun i hi => absurd hi (Nat.not_lt_zero i)⟩, ⟨?_, ?_, fun q => absurd q (by decide)⟩, ⟨⟨?_, fun i hi => absurd hi (Nat.not_lt_zero i)⟩, by decide, Or.inr ⟨?_, rfl⟩⟩, 0, 1, ?_, ?_, by decide⟩
  · rw [ec _ _ (by decide)]
    rfl
  · rw [em, e0]
    rfl
  · rw [ec _ _ (by decide)]
    rfl
  · rw [ec _ _ (by decide)]
    rfl
  · rw [em, e0]
    rfl
  · rw [em, e0]
    rfl
  · rw [ec _ _ (by decide)]
    rfl
  · rw [ec _ _ (by decide)]
    rfl
  · rw [em, e0]
    rfl
  · rw [ec _ _ (by decide)]
    rfl
  · rw [em, e0]
    rfl
  · rw [ec _ _ (by decide)]
    rfl
  · rw [em, e0]
    rfl
  · rw [ec _ _ (by decide)]
    rfl
  · rw [ec _ _ (by decide)]
    rfl
theorem case_all (fu : Nat) (hfu : 40000 ≤ fu) (a : Nat → Int32) {mem : Mem} (h : JJ mem (mMp mem)) : ∃ mem2, K_call fu a mem = some mem2 ∧ JJ mem2 (mMp mem2) := by
  unfold K_call
  generalize a 0 &&& 63 = x
  unfold K_sw
  by_cases q0 : x = 0
  · rw [if_pos q0]
    exact case0 fu hfu a h
  rw [if_neg q0]
  by_cases q1 : x = 1
  · rw [if_pos q1]
    exact case1 fu a h
  rw [if_neg q1]
  by_cases q2 : x = 2
  · rw [if_pos q2]
    exact case2 fu hfu a h
  rw [if_neg q2]
  by_cases q3 : x = 3
  · rw [if_pos q3]
    exact case3 fu hfu a h
  rw [if_neg q3]
  by_cases q4 : x = 4
  · rw [if_pos q4]
    exact case4 fu a h
  rw [if_neg q4]
  by_cases q5 : x = 5
  · rw [if_pos q5]
    exact case5 fu a h
  rw [if_neg q5]
  by_cases q6 : x = 6
  · rw [if_pos q6]
    exact case6 fu a h
  rw [if_neg q6]
  by_cases q7 : x = 7
  · rw [if_pos q7]
    exact case7 fu hfu a h
  rw [if_neg q7]
  by_cases q8 : x = 8
  · rw [if_pos q8]
    exact case8 fu a h
  rw [if_neg q8]
  by_cases q9 : x = 9
  · rw [if_pos q9]
    exact case9 fu a h
  rw [if_neg q9]
  by_cases q10 : x = 10
  · rw [if_pos q10]
    exact case10 fu hfu a h
  rw [if_neg q10]
  by_cases q11 : x = 11
  · rw [if_pos q11]
    exact case11 fu hfu a h
  rw [if_neg q11]
  by_cases q12 : x = 12
  · rw [if_pos q12]
    exact case12 fu a h
  rw [if_neg q12]
  by_cases q13 : x = 13
  · rw [if_pos q13]
    exact case13 fu hfu a h
  rw [if_neg q13]
  by_cases q14 : x = 14
  · rw [if_pos q14]
    exact case14 fu hfu a h
  rw [if_neg q14]
  by_cases q15 : x = 15
  · rw [if_pos q15]
    exact case15 fu hfu a h
  rw [if_neg q15]
  by_cases q16 : x = 16
  · rw [if_pos q16]
    exact case16 fu hfu a h
  rw [if_neg q16]
  by_cases q17 : x = 17
  · rw [if_pos q17]
    exact case17 fu hfu a h
  rw [if_neg q17]
  by_cases q18 : x = 18
  · rw [if_pos q18]
    exact case18 fu hfu a h
  rw [if_neg q18]
  by_cases q19 : x = 19
  · rw [if_pos q19]
    exact case19 fu hfu a h
  rw [if_neg q19]
  by_cases q20 : x = 20
  · rw [if_pos q20]
    exact case20 fu hfu a h
  rw [if_neg q20]
  by_cases q21 : x = 21
  · rw [if_pos q21]
    exact case21 fu hfu a h
  rw [if_neg q21]
  by_cases q22 : x = 22
  · rw [if_pos q22]
    exact case22 fu hfu a h
  rw [if_neg q22]
  by_cases q23 : x = 23
  · rw [if_pos q23]
    exact case23 fu hfu a h
  rw [if_neg q23]
  by_cases q24 : x = 24
  · rw [if_pos q24]
    exact case24 fu hfu a h
  rw [if_neg q24]
  by_cases q25 : x = 25
  · rw [if_pos q25]
    exact case25 fu hfu a h
  rw [if_neg q25]
  by_cases q26 : x = 26
  · rw [if_pos q26]
    exact case26 fu hfu a h
  rw [if_neg q26]
  by_cases q27 : x = 27
  · rw [if_pos q27]
    exact case27 fu hfu a h
  rw [if_neg q27]
  by_cases q28 : x = 28
  · rw [if_pos q28]
    exact case28 fu hfu a h
  rw [if_neg q28]
  by_cases q29 : x = 29
  · rw [if_pos q29]
    exact case29 fu hfu a h
  rw [if_neg q29]
  by_cases q30 : x = 30
  · rw [if_pos q30]
    exact case30 fu hfu a h
  rw [if_neg q30]
  by_cases q31 : x = 31
  · rw [if_pos q31]
    exact case31 fu hfu a h
  rw [if_neg q31]
  by_cases q32 : x = 32
  · rw [if_pos q32]
    exact case32 fu hfu a h
  rw [if_neg q32]
  by_cases q33 : x = 33
  · rw [if_pos q33]
    exact case33 fu hfu a h
  rw [if_neg q33]
  by_cases q34 : x = 34
  · rw [if_pos q34]
    exact case34 fu hfu a h
  rw [if_neg q34]
  by_cases q35 : x = 35
  · rw [if_pos q35]
    exact case35 fu hfu a h
  rw [if_neg q35]
  by_cases q36 : x = 36
  · rw [if_pos q36]
    exact case36 fu hfu a h
  rw [if_neg q36]
  by_cases q37 : x = 37
  · rw [if_pos q37]
    exact case37 fu hfu a h
  rw [if_neg q37]
  by_cases q38 : x = 38
  · rw [if_pos q38]
    exact case38 fu hfu a h
  rw [if_neg q38]
  by_cases q39 : x = 39
  · rw [if_pos q39]
    exact case39' fu hfu a h
  rw [if_neg q39]
  by_cases q40 : x = 40
  · rw [if_pos q40]
    exact case40 fu hfu a h
  rw [if_neg q40]
  by_cases q41 : x = 41
  · rw [if_pos q41]
    exact case41 fu hfu a h
  rw [if_neg q41]
  by_cases q42 : x = 42
  · rw [if_pos q42]
    exact case42 fu hfu a h
  rw [if_neg q42]
  by_cases q43 : x = 43
  · rw [if_pos q43]
    exact case43 fu hfu a h
  rw [if_neg q43]
  exact ⟨mem, rfl, h⟩
theorem math : MATH := by
  obtain ⟨memB, memM, h1, h2, h3⟩ := JJ_0 40000 (by decide)
  exact ⟨40000, memB, memM, fun _ mem => JJ mem (mMp mem), h1, h2, h3, fun a t mem _ hJ => case_all 40000 (Nat.le_refl _) a hJ⟩
end MTHM
