section TURNS
theorem sm_a {d e : Nat} {B : Nat → Bool} (h : B d = false) : (decide (e < d) && B e) = (decide (e < d + 1) && B e) := by
  by_cases e1 : e = d
  · subst e1
    rw [h, Bool.and_false, Bool.and_false]
  · rw [show decide (e < d) = decide (e < d + 1) from decide_eq_decide.mpr (by omega)]
theorem sm_b {d e : Nat} {B : Nat → Bool} (h : B d = true) : ((decide (e < d) && B e) || decide (e = d)) = (decide (e < d + 1) && B e) := by
  by_cases e1 : e = d
  · subst e1
    rw [h]
    simp
  · rw [show decide (e < d) = decide (e < d + 1) from decide_eq_decide.mpr (by omega), decide_eq_false e1, Bool.or_false]
/-- the steps of a pawn as a mask -/
theorem c_sm4 (fu r : Nat) (hfu : 1000 ≤ fu) {mem : Mem} {s : Nat → Int} (hv : lvO s) (hR : RC mem r s) {p : Nat} (hps : (p : Int) < s 2) : ∀ (q n d : Nat), d + q = 4 → q < n → K_X6_stepMask_4 fu r mem n (zi (p : Int)) (msk (fun e => decide (e < d) && decide (gB s p e ≠ 0))) (zi (d : Int)) = some (msk (fun e => decide (gB s p e ≠ 0))) := by
  intro q
  induction q with
  | zero =>
    intro n d hd hn
    obtain ⟨n, rfl⟩ : ∃ f, n = f + 1 := ⟨n - 1, by omega⟩
    rw [K_X6_stepMask_4]
    simp (disch := omega) only [zi_lit, zl_lit, zi_add, zi_sub, zi_mul, zi_neg, zi_lt, zi_inj, zi_clamp, zl_of, gi_zi, bd_s, ltf, bi_0, bi_1, gb_bi, Int.reduceToNat, Int.reduceNeg, Int.toNat_natCast]
    rw [if_neg (by omega)]
    refine congrArg some (msk_cg (fun e he => ?_))
    rw [decide_eq_true (by omega), Bool.true_and]
  | succ q ih =>
    intro n d hd hn
    obtain ⟨n, rfl⟩ : ∃ f, n = f + 1 := ⟨n - 1, by omega⟩
    have hd4 : d < 4 := by omega
    have h2 := ih n (d + 1) (by omega) (by omega)
    rw [K_X6_stepMask_4]
    simp (disch := omega) only [zi_lit, zl_lit, zi_add, zi_sub, zi_mul, zi_neg, zi_lt, zi_inj, zi_clamp, zl_of, gi_zi, bd_s, ltf, bi_0, bi_1, gb_bi, Int.reduceToNat, Int.reduceNeg, Int.toNat_natCast, c_landing fu r hfu hv hR hps hd4]
    rw [if_pos (by omega)]
    by_cases c1 : gB s p d = 0
    · rw [if_pos (by rw [if_pos c1]), msk_0, msk_or2]
      refine Eq.trans ?_ h2
      congr 1
      refine msk_cg (fun e he => ?_)
      show ((decide (e < d) && decide (gB s p e ≠ 0)) || false) = (decide (e < d + 1) && decide (gB s p e ≠ 0))
      rw [Bool.or_false]
      exact sm_a (B := fun e => decide (gB s p e ≠ 0)) (decide_eq_false (fun h => h c1))
    · have hld : ¬ zi (if gB s p d = 0 then -1 else (ldN s p d : Int)) = zi (-1) := by
        have hpk := hv.2.2.2.1 p (by omega) hps
        have h3 := (gB_ld hv.1 hpk hd4 c1).1
        rw [if_neg c1, zi_inj (by omega) (by omega) (by omega) (by omega)]
        omega
      rw [if_neg hld, msk_one hd4, msk_or2]
      refine Eq.trans ?_ h2
      congr 1
      refine msk_cg (fun e he => ?_)
      show ((decide (e < d) && decide (gB s p e ≠ 0)) || decide (e = d)) = (decide (e < d + 1) && decide (gB s p e ≠ 0))
      exact sm_b (B := fun e => decide (gB s p e ≠ 0)) (decide_eq_true c1)
theorem c_stepMask (fu r : Nat) (hfu : 1000 ≤ fu) {mem : Mem} {s : Nat → Int} (hv : lvO s) (hR : RC mem r s) {p : Nat} (hps : (p : Int) < s 2) : K_X6_stepMask fu r (zi (p : Int)) mem = some (msk (fun e => decide (gB s p e ≠ 0))) := by
  have h := c_sm4 fu r hfu hv hR hps 4 fu 0 (by omega) (by omega)
  unfold K_X6_stepMask
  rw [← h]
  rfl
theorem m_st4 (fu : Nat) (hfu : 1000 ≤ fu) {s : Nat → Int} (hv : lvO s) {p : Nat} (hps : (p : Int) < s 2) : ∀ (q n d : Nat) (mem : Mem), d + q = 4 → q < n → MS mem s → ∃ mem2, K_X12_stepsOf_4 fu n (zi (p : Int)) (msk (fun e => decide (e < d) && decide (gB s p e ≠ 0))) (zi (d : Int)) mem = some (msk (fun e => decide (gB s p e ≠ 0)), mem2) ∧ Fr P27 mem mem2 := by
  intro q
  induction q with
  | zero =>
    intro n d mem hd hn hS
    obtain ⟨n, rfl⟩ : ∃ f, n = f + 1 := ⟨n - 1, by omega⟩
    rw [K_X12_stepsOf_4]
    simp (disch := omega) only [zi_lit, zl_lit, zi_add, zi_sub, zi_mul, zi_neg, zi_lt, zi_inj, zi_clamp, zl_of, gi_zi, bd_s, ltf, bi_0, bi_1, gb_bi, Int.reduceToNat, Int.reduceNeg, Int.toNat_natCast]
    rw [if_neg (by omega)]
    refine ⟨mem, ?_, Fr_rf _ mem⟩
    refine congrArg (fun x => some (x, mem)) (msk_cg (fun e he => ?_))
    rw [decide_eq_true (by omega), Bool.true_and]
  | succ q ih =>
    intro n d mem hd hn hS
    obtain ⟨n, rfl⟩ : ∃ f, n = f + 1 := ⟨n - 1, by omega⟩
    have hd4 : d < 4 := by omega
    obtain ⟨m1, a1, a2⟩ := m_goesBy fu hfu hv hS hps hd4
    obtain ⟨mem2, b1, b2⟩ := ih n (d + 1) m1 (by omega) (by omega) (MS_fr a2 (fun _ => rfl) hS)
    have hg := gB_012 s p d
    refine ⟨mem2, ?_, Fr_tr a2 b2⟩
    rw [K_X12_stepsOf_4]
    unfold K_X12_stepsOf_24
    simp (disch := omega) only [zi_lit, zl_lit, zi_add, zi_sub, zi_mul, zi_neg, zi_lt, zi_inj, zi_clamp, zl_of, gi_zi, bd_s, ltf, bi_0, bi_1, gb_bi, Int.reduceToNat, Int.reduceNeg, Int.toNat_natCast, a1]
    rw [if_pos (by omega), ← b1]
    by_cases c1 : gB s p d = 0
    · rw [if_neg (by omega), show K_X12_truth fu (zi 0) m1 = some (zi 0) from rfl, bd_s, show zi 0 <<< (zi (d : Int) &&& zi 31) = zi 0 from Int32.zero_shiftLeft, msk_0, msk_or2]
      congr 1
      refine msk_cg (fun e he => ?_)
      show ((decide (e < d) && decide (gB s p e ≠ 0)) || false) = (decide (e < d + 1) && decide (gB s p e ≠ 0))
      rw [Bool.or_false]
      exact sm_a (B := fun e => decide (gB s p e ≠ 0)) (decide_eq_false (fun h => h c1))
    · rw [if_pos (by omega), show K_X12_truth fu (zi 1) m1 = some (zi 1) from rfl, bd_s, msk_one hd4, msk_or2]
      congr 1
      refine msk_cg (fun e he => ?_)
      show ((decide (e < d) && decide (gB s p e ≠ 0)) || decide (e = d)) = (decide (e < d + 1) && decide (gB s p e ≠ 0))
      exact sm_b (B := fun e => decide (gB s p e ≠ 0)) (decide_eq_true c1)
theorem m_stepsOf (fu : Nat) (hfu : 1000 ≤ fu) {s : Nat → Int} (hv : lvO s) {p : Nat} (hps : (p : Int) < s 2) {mem : Mem} (hS : MS mem s) : ∃ mem2, K_X12_stepsOf fu (zi (p : Int)) mem = some (msk (fun e => decide (gB s p e ≠ 0)), mem2) ∧ Fr P27 mem mem2 := by
  obtain ⟨mem2, h1, h2⟩ := m_st4 fu hfu hv hps 4 fu 0 mem (by omega) (by omega) hS
  refine ⟨mem2, ?_, h2⟩
  unfold K_X12_stepsOf
  rw [← h1]
  rfl
def psB (s : Nat → Int) : Bool := !ovB s && decide (gB s (s 7) 0 = 0 ∧ gB s (s 7) 1 = 0 ∧ gB s (s 7) 2 = 0 ∧ gB s (s 7) 3 = 0)
theorem msk_no {f : Nat → Bool} : (msk f = zi 0) = (f 0 = false ∧ f 1 = false ∧ f 2 = false ∧ f 3 = false) := by
  unfold msk
  cases f 0 <;> cases f 1 <;> cases f 2 <;> cases f 3 <;> simp <;> decide
theorem ov_2 {s : Nat → Int} (hc : cnO s) (h : ovB s = false) : 2 ≤ s 2 ∧ s 4 < 200 ∧ s 7 < s 2 ∧ s 5 + 2 ≤ s 2 := by
  obtain ⟨c1, c2, c3, c4, c5, c6, c7⟩ := hc
  unfold ovB at h
  rw [Bool.or_eq_false_iff, decide_eq_false_iff_not, decide_eq_false_iff_not] at h
  have := c7 (by omega)
  omega
theorem nat7 {s : Nat → Int} (hc : cnO s) : ((s 7).toNat : Int) = s 7 := by
  obtain ⟨c1, c2, c3, c4, c5, c6, c7⟩ := hc
  omega
theorem c_mayPass (fu r : Nat) (hfu : 1000 ≤ fu) {mem : Mem} {s : Nat → Int} (hv : lvO s) (hR : RC mem r s) : K_X6_mayPass fu r mem = some (zi (bi (psB s))) := by
  have hc := hv.2.1
  unfold K_X6_mayPass psB
  rw [c_hasEnded fu r hR hc, hR.2.1.2.2.2.1]
  simp (disch := omega) only [zi_lit, zl_lit, zi_add, zi_sub, zi_mul, zi_neg, zi_lt, zi_inj, zi_clamp, zl_of, gi_zi, bd_s, ltf, bi_0, bi_1, gb_bi, Int.reduceToNat, Int.reduceNeg, Int.toNat_natCast]
  cases ho : ovB s with
  | true =>
    rw [if_neg (by decide)]
    rfl
  | false =>
    have h2 := ov_2 hc ho
    have h7 := nat7 hc
    rw [if_pos rfl, ← h7, c_stepMask fu r hfu hv hR (by omega)]
    simp only [zi_lit, zl_lit, zi_add, zi_sub, zi_mul, zi_neg, zi_lt, zi_inj, zi_clamp, zl_of, gi_zi, bd_s, ltf, bi_0, bi_1, gb_bi, Int.reduceToNat, Int.reduceNeg, Int.toNat_natCast, msk_no]
    rw [h7]
    by_cases q : gB s (s 7) 0 = 0 ∧ gB s (s 7) 1 = 0 ∧ gB s (s 7) 2 = 0 ∧ gB s (s 7) 3 = 0
    · rw [decide_eq_true q, if_pos (by simp [q])]
      rfl
    · rw [decide_eq_false q, if_neg (by simpa using q)]
      rfl
theorem m_mayPass (fu : Nat) (hfu : 1000 ≤ fu) {mem : Mem} {s : Nat → Int} (hv : lvO s) (hS : MS mem s) : ∃ mem2, K_X12_mayPass fu mem = some (zi (bi (psB s)), mem2) ∧ Fr P27 mem mem2 := by
  have hc := hv.2.1
  unfold K_X12_mayPass psB
  rw [m_over fu hS hc]
  simp (disch := omega) only [zi_lit, zl_lit, zi_add, zi_sub, zi_mul, zi_neg, zi_lt, zi_inj, zi_clamp, zl_of, gi_zi, bd_s, ltf, bi_0, bi_1, gb_bi, Int.reduceToNat, Int.reduceNeg, Int.toNat_natCast, hS _]
  cases ho : ovB s with
  | true =>
    rw [if_neg (by decide)]
    exact ⟨mem, rfl, Fr_rf _ mem⟩
  | false =>
    have h2 := ov_2 hc ho
    have h7 := nat7 hc
    obtain ⟨mem2, a1, a2⟩ := m_stepsOf fu hfu hv (p := (s 7).toNat) (by omega) hS
    rw [h7] at a1
    rw [if_pos rfl, a1]
    simp only [zi_lit, zl_lit, zi_add, zi_sub, zi_mul, zi_neg, zi_lt, zi_inj, zi_clamp, zl_of, gi_zi, bd_s, ltf, bi_0, bi_1, gb_bi, Int.reduceToNat, Int.reduceNeg, Int.toNat_natCast, msk_no]
    refine ⟨mem2, ?_, a2⟩
    by_cases q : gB s (s 7) 0 = 0 ∧ gB s (s 7) 1 = 0 ∧ gB s (s 7) 2 = 0 ∧ gB s (s 7) 3 = 0
    · rw [decide_eq_true q, if_pos (by simp [q])]
      rfl
    · rw [decide_eq_false q, if_neg (by simpa using q)]
      rfl
theorem gB_ov {s : Nat → Int} (h : ovB s = true) (p : Int) (d : Nat) : gB s p d = 0 := by
  unfold gB
  by_cases q0 : 0 < pg s p 6
  · rw [if_pos q0]
  · rw [if_neg q0, if_pos h]
theorem c_mayMove (fu r : Nat) (hfu : 1000 ≤ fu) {mem : Mem} {s : Nat → Int} (hv : lvO s) (hR : RC mem r s) {d : Nat} (hd : d < 4) : K_X6_mayMove fu r (zi (d : Int)) mem = some (zi (bi (decide (gB s (s 7) d ≠ 0)))) := by
  have hc := hv.2.1
  unfold K_X6_mayMove
  rw [c_hasEnded fu r hR hc, hR.2.1.2.2.2.1]
  simp (disch := omega) only [zi_lit, zl_lit, zi_add, zi_sub, zi_mul, zi_neg, zi_lt, zi_inj, zi_clamp, zl_of, gi_zi, bd_s, ltf, bi_0, bi_1, gb_bi, Int.reduceToNat, Int.reduceNeg, Int.toNat_natCast]
  cases ho : ovB s with
  | true =>
    rw [if_neg (by decide), gB_ov ho]
    rfl
  | false =>
    have h2 := ov_2 hc ho
    have h7 := nat7 hc
    rw [if_pos rfl, ← h7, c_landing fu r hfu hv hR (by omega) hd]
    simp (disch := omega) only [zi_lit, zl_lit, zi_add, zi_sub, zi_mul, zi_neg, zi_lt, zi_inj, zi_clamp, zl_of, gi_zi, bd_s, ltf, bi_0, bi_1, gb_bi, Int.reduceToNat, Int.reduceNeg, Int.toNat_natCast]
    by_cases c1 : gB s ((s 7).toNat : Int) d = 0
    · rw [if_pos c1, if_pos rfl, decide_eq_false (fun h => h c1)]
      rfl
    · have h3 := (gB_ld hv.1 (hv.2.2.2.1 _ (by omega) (by omega)) hd c1).1
      rw [if_neg c1, if_neg (by rw [zi_inj (by omega) (by omega) (by omega) (by omega)]; omega), decide_eq_true c1]
      rfl
theorem m_mayStep (fu : Nat) (hfu : 1000 ≤ fu) {mem : Mem} {s : Nat → Int} (hv : lvO s) (hS : MS mem s) {d : Nat} (hd : d < 4) : ∃ mem2, K_X12_mayStep fu (zi (d : Int)) mem = some (zi (bi (decide (gB s (s 7) d ≠ 0))), mem2) ∧ Fr P27 mem mem2 := by
  have hc := hv.2.1
  unfold K_X12_mayStep
  rw [m_over fu hS hc]
  simp (disch := omega) only [zi_lit, zl_lit, zi_add, zi_sub, zi_mul, zi_neg, zi_lt, zi_inj, zi_clamp, zl_of, gi_zi, bd_s, ltf, bi_0, bi_1, gb_bi, Int.reduceToNat, Int.reduceNeg, Int.toNat_natCast, hS _]
  cases ho : ovB s with
  | true =>
    rw [if_neg (by decide), gB_ov ho]
    exact ⟨mem, rfl, Fr_rf _ mem⟩
  | false =>
    have h2 := ov_2 hc ho
    have h7 := nat7 hc
    obtain ⟨mem2, a1, a2⟩ := m_goesBy fu hfu hv hS (p := (s 7).toNat) (by omega) hd
    rw [h7] at a1
    have hg := gB_012 s (s 7) d
    rw [if_pos rfl, a1]
    simp (disch := omega) only [zi_lit, zl_lit, zi_add, zi_sub, zi_mul, zi_neg, zi_lt, zi_inj, zi_clamp, zl_of, gi_zi, bd_s, ltf, bi_0, bi_1, gb_bi, Int.reduceToNat, Int.reduceNeg, Int.toNat_natCast]
    refine ⟨mem2, ?_, a2⟩
    by_cases c1 : gB s (s 7) d = 0
    · rw [if_neg (by omega), decide_eq_false (fun h => h c1)]
      rfl
    · rw [if_pos (by omega), decide_eq_true c1]
      rfl
/-- the advised step -/
noncomputable def stA (s : Nat → Int) (p : Int) (d : Nat) (b : BC) : BC := if gB s p d = 0 then b else if b.1 = -1 ∨ dl s (pg s p 2) (ldN s p d) < b.2 then ((d : Int), dl s (pg s p 2) (ldN s p d)) else b
noncomputable def avF (s : Nat → Int) (p : Int) : Nat → Nat → BC → BC
  | 0, _, b => b
  | q + 1, d, b => avF s p q (d + 1) (stA s p d b)
noncomputable def avS (s : Nat → Int) (p : Int) : Int := (avF s p 4 0 (-1, 0)).1
theorem c_av31 (fu r : Nat) (hfu : 1000 ≤ fu) {mem : Mem} {s : Nat → Int} (hv : lvO s) (hR : RC mem r s) {p : Nat} (hps : (p : Int) < s 2) (hD : ∀ c, c < 81 → rd mem (pDist 0) c = zi (dl s (pg s p 2) c)) : ∀ (q n d : Nat) (b : BC), d + q = 4 → q < n → -1 ≤ b.1 ∧ b.1 ≤ 3 → -1 ≤ b.2 ∧ b.2 ≤ 80 → K_X5_advise_31 fu r n (zi (p : Int)) (zi b.1) (zi b.2) (zi (d : Int)) mem = some (zi (avF s p q d b).1, mem) := by
  intro q
  induction q with
  | zero =>
    intro n d b hd hn h1 h2
    obtain ⟨n, rfl⟩ : ∃ f, n = f + 1 := ⟨n - 1, by omega⟩
    rw [K_X5_advise_31]
    simp (disch := omega) only [zi_lit, zl_lit, zi_add, zi_sub, zi_mul, zi_neg, zi_lt, zi_inj, zi_clamp, zl_of, gi_zi, bd_s, ltf, bi_0, bi_1, gb_bi, Int.reduceToNat, Int.reduceNeg, Int.toNat_natCast]
    rw [if_neg (by omega)]
    rfl
  | succ q ih =>
    intro n d b hd hn h1 h2
    obtain ⟨n, rfl⟩ : ∃ f, n = f + 1 := ⟨n - 1, by omega⟩
    have hd4 : d < 4 := by omega
    have hpk := hv.2.2.2.1 p (by omega) hps
    rw [K_X5_advise_31]
    unfold K_X5_advise_72
    simp (disch := omega) only [zi_lit, zl_lit, zi_add, zi_sub, zi_mul, zi_neg, zi_lt, zi_inj, zi_clamp, zl_of, gi_zi, bd_s, ltf, bi_0, bi_1, gb_bi, Int.reduceToNat, Int.reduceNeg, Int.toNat_natCast, c_landing fu r hfu hv hR hps hd4]
    rw [if_pos (by omega), avF]
    unfold stA
    by_cases c1 : gB s p d = 0
    · rw [if_pos c1, if_pos c1, if_pos rfl]
      exact ih n (d + 1) b (by omega) (by omega) h1 h2
    · have h3 := (gB_ld hv.1 hpk hd4 c1).1
      have h4 := hD _ h3
      have h5 := dl_le hv.1 hv.2.2.1 (side := pg s p 2) (by have := hpk.2.1; omega) (by have := hpk.2.1; omega) h3
      rw [if_neg c1, if_neg c1]
      simp (disch := omega) only [zi_lit, zl_lit, zi_add, zi_sub, zi_mul, zi_neg, zi_lt, zi_inj, zi_clamp, zl_of, gi_zi, bd_s, ltf, bi_0, bi_1, gb_bi, Int.reduceToNat, Int.reduceNeg, Int.toNat_natCast, h4]
      rw [if_neg (by omega)]
      have up := ih n (d + 1) ((d : Int), dl s (pg s p 2) (ldN s p d)) (by omega) (by omega) ⟨by show -1 ≤ (d : Int); omega, by show (d : Int) ≤ 3; omega⟩ h5
      by_cases c2 : b.1 = -1
      · rw [if_pos c2, if_pos (Or.inl c2)]
        exact up
      · rw [if_neg c2]
        by_cases c3 : dl s (pg s p 2) (ldN s p d) < b.2
        · rw [if_pos c3, if_pos (Or.inr c3)]
          exact up
        · rw [if_neg c3, if_neg (fun h => by
            rcases h with h | h
            · exact c2 h
            · exact c3 h)]
          exact ih n (d + 1) b (by omega) (by omega) h1 h2
theorem c_advise (fu r : Nat) (hfu : 1000 ≤ fu) {mem : Mem} {s : Nat → Int} (hv : lvO s) (hR : RC mem r s) {p : Nat} (hps : (p : Int) < s 2) : ∃ mem2, K_X5_advise fu r (zi (p : Int)) mem = some (zi (avS s p), mem2) ∧ Fr (PC 0) mem mem2 := by
  have hc := hv.2.1
  have c1 := hc.1
  have hpk := hv.2.2.2.1 p (by omega) hps
  have hRP := hR.2.2.1 p (by omega) hps
  obtain ⟨m1, t, i2, a1, a2, a3, a4, a5⟩ := c_spread fu 0 r hfu (by omega) hR.1 hv.1 (side := pg s p 2) (a := -1) (tgt := -1) hpk.2.1.1 hpk.2.1.2 (by omega) (by omega) (by omega) (by omega)
  rw [opa_no, Sda_no] at a3
  have hi : i2 = t.2.2 := by
    rcases a4 with h | h
    · exact h
    · omega
  rw [hi] at a3
  have h := c_av31 fu r hfu hv (RC_fr a5 (PC_35 (by omega)) hR) hps (fun c hc2 => by rw [a2.1 c hc2, BI_all Sd_lt (op_hg hv.1) a3 hc2]; rfl) 4 fu 0 (-1, 0) (by omega) (by omega) ⟨Int.le_refl _, (by decide : (-1 : Int) ≤ 3)⟩ ⟨(by decide : (-1 : Int) ≤ 0), (by decide : (0 : Int) ≤ 80)⟩
  unfold K_X5_advise
  simp (disch := omega) only [zi_lit, zl_lit, zi_add, zi_sub, zi_mul, zi_neg, zi_lt, zi_inj, zi_clamp, zl_of, gi_zi, bd_s, ltf, bi_0, bi_1, gb_bi, Int.reduceToNat, Int.reduceNeg, Int.toNat_natCast, hRP.2.1, a1]
  exact ⟨m1, h, a5⟩
def PBA (k j : Nat) : Bool := PB k j || P27 k j
theorem m_av17 (fu : Nat) (hfu : 1000 ≤ fu) {s : Nat → Int} (hv : lvO s) {p : Nat} (hps : (p : Int) < s 2) : ∀ (q n d : Nat) (b : BC) (mem : Mem), d + q = 4 → q < n → -1 ≤ b.1 ∧ b.1 ≤ 3 → -1 ≤ b.2 ∧ b.2 ≤ 80 → MS mem s → (∀ c, c < 81 → rd mem 7 c = zi (dl s (pg s p 2) c)) → ∃ mem2, K_X12_advises_17 fu n (zi (p : Int)) (zi b.1) (zi b.2) (zi (d : Int)) mem = some (zi (avF s p q d b).1, mem2) ∧ Fr P27 mem mem2 := by
  have hc := hv.2.1
  have c1 := hc.1
  have hpk := hv.2.2.2.1 p (by omega) hps
  have hcl := cel_lt hv.1 hpk
  have hxy := cl_nat hv.1 hpk.1
  have ec : (9 * pg s p 1 + pg s p 0) = (celN s p : Int) := by
    unfold celN
    omega
  intro q
  induction q with
  | zero =>
    intro n d b mem hd hn h1 h2 hS hD
    obtain ⟨n, rfl⟩ : ∃ f, n = f + 1 := ⟨n - 1, by omega⟩
    rw [K_X12_advises_17]
    simp (disch := omega) only [zi_lit, zl_lit, zi_add, zi_sub, zi_mul, zi_neg, zi_lt, zi_inj, zi_clamp, zl_of, gi_zi, bd_s, ltf, bi_0, bi_1, gb_bi, Int.reduceToNat, Int.reduceNeg, Int.toNat_natCast]
    rw [if_neg (by omega)]
    exact ⟨mem, rfl, Fr_rf _ mem⟩
  | succ q ih =>
    intro n d b mem hd hn h1 h2 hS hD
    obtain ⟨n, rfl⟩ : ∃ f, n = f + 1 := ⟨n - 1, by omega⟩
    have hd4 : d < 4 := by omega
    obtain ⟨m1, a1, a2⟩ := m_goesBy fu hfu hv hS hps hd4
    have hS1 := MS_fr a2 (fun _ => rfl) hS
    have hD1 : ∀ c, c < 81 → rd m1 7 c = zi (dl s (pg s p 2) c) := fun c hc => (a2.1 7 c rfl).trans (hD c hc)
    have hg := gB_012 s p d
    rw [K_X12_advises_17]
    unfold K_X12_advises_84
    simp (disch := omega) only [zi_lit, zl_lit, zi_add, zi_sub, zi_mul, zi_neg, zi_lt, zi_inj, zi_clamp, zl_of, gi_zi, bd_s, ltf, bi_0, bi_1, gb_bi, Int.reduceToNat, Int.reduceNeg, Int.toNat_natCast, a1, k_cellOf fu hS1, k_up, k_across]
    rw [if_pos (by omega), avF, ec]
    unfold stA
    by_cases c1 : gB s p d = 0
    · rw [if_pos c1, if_pos c1]
      obtain ⟨mem2, b1, b2⟩ := ih n (d + 1) b m1 (by omega) (by omega) h1 h2 hS1 hD1
      exact ⟨mem2, b1, Fr_tr a2 b2⟩
    · have h3 := gB_ld hv.1 hpk hd4 c1
      have h31 := h3.1
      have h4 := hD1 _ h3.1
      have h5 := dl_le hv.1 hv.2.2.1 (side := pg s p 2) (by have := hpk.2.1; omega) (by have := hpk.2.1; omega) h3.1
      rw [if_neg c1, if_neg c1, h3.2.1]
      simp (disch := omega) only [zi_lit, zl_lit, zi_add, zi_sub, zi_mul, zi_neg, zi_lt, zi_inj, zi_clamp, zl_of, gi_zi, bd_s, ltf, bi_0, bi_1, gb_bi, Int.reduceToNat, Int.reduceNeg, Int.toNat_natCast, h4]
      have up := ih n (d + 1) ((d : Int), dl s (pg s p 2) (ldN s p d)) m1 (by omega) (by omega) ⟨by show -1 ≤ (d : Int); omega, by show (d : Int) ≤ 3; omega⟩ h5 hS1 hD1
      obtain ⟨mem3, u1, u2⟩ := up
      by_cases c2 : b.1 = -1
      · rw [if_pos c2, if_pos (Or.inl c2)]
        exact ⟨mem3, u1, Fr_tr a2 u2⟩
      · rw [if_neg c2]
        by_cases c3 : dl s (pg s p 2) (ldN s p d) < b.2
        · rw [if_pos c3, if_pos (Or.inr c3)]
          exact ⟨mem3, u1, Fr_tr a2 u2⟩
        · rw [if_neg c3, if_neg (fun h => by
            rcases h with h | h
            · exact c2 h
            · exact c3 h)]
          obtain ⟨mem2, b1, b2⟩ := ih n (d + 1) b m1 (by omega) (by omega) h1 h2 hS1 hD1
          exact ⟨mem2, b1, Fr_tr a2 b2⟩
theorem m_advises (fu : Nat) (hfu : 1000 ≤ fu) {s : Nat → Int} (hv : lvO s) {p : Nat} (hps : (p : Int) < s 2) {mem : Mem} (hS : MS mem s) : ∃ mem2, K_X12_advises fu (zi (p : Int)) mem = some (zi (avS s p), mem2) ∧ Fr PBA mem mem2 := by
  have hc := hv.2.1
  have c1 := hc.1
  have hpk := hv.2.2.2.1 p (by omega) hps
  obtain ⟨m1, t, a1, a2, a3, a4, a5⟩ := m_lays fu hfu hS hv.1 hv.2.2.1 (side := pg s p 2) (by have := hpk.2.1; omega) (by have := hpk.2.1; omega)
  obtain ⟨mem2, b1, b2⟩ := m_av17 fu hfu hv hps 4 fu 0 (-1, 0) m1 (by omega) (by omega) ⟨Int.le_refl _, (by decide : (-1 : Int) ≤ 3)⟩ ⟨(by decide : (-1 : Int) ≤ 0), (by decide : (0 : Int) ≤ 80)⟩ (MS_fr a5 PB_2 hS) (fun c hc2 => by rw [a2.1 c hc2, BI_all Sd_lt (op_hg hv.1) a3 hc2]; rfl)
  unfold K_X12_advises
  simp (disch := omega) only [zi_lit, zl_lit, zi_add, zi_sub, zi_mul, zi_neg, zi_lt, zi_inj, zi_clamp, zl_of, gi_zi, bd_s, ltf, bi_0, bi_1, gb_bi, Int.reduceToNat, Int.reduceNeg, Int.toNat_natCast, k_of fu hS, a1]
  refine ⟨mem2, b1, Fr_tr (Fr_mono a5 (fun k j h => ?_)) (Fr_mono b2 (fun k j h => ?_))⟩
  · unfold PBA at h
    rw [Bool.or_eq_false_iff] at h
    exact h.1
  · unfold PBA at h
    rw [Bool.or_eq_false_iff] at h
    exact h.2
end TURNS
