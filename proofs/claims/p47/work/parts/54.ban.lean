section BANS
theorem msk_0 : zi 0 = msk (fun _ => false) := rfl
theorem msk_one {d : Nat} (hd : d < 4) : zi 1 <<< (zi (d : Int) &&& zi 31) = msk (fun e => decide (e = d)) := by
  rcases (show d = 0 ∨ d = 1 ∨ d = 2 ∨ d = 3 by omega) with rfl | rfl | rfl | rfl <;> rfl
theorem msk_or2 (f g : Nat → Bool) : msk f ||| msk g = msk (fun e => f e || g e) := by
  show zi (bi (f 0) + 2 * bi (f 1) + 4 * bi (f 2) + 8 * bi (f 3)) ||| zi (bi (g 0) + 2 * bi (g 1) + 4 * bi (g 2) + 8 * bi (g 3)) = zi (bi (f 0 || g 0) + 2 * bi (f 1 || g 1) + 4 * bi (f 2 || g 2) + 8 * bi (f 3 || g 3))
  cases f 0 <;> cases f 1 <;> cases f 2 <;> cases f 3 <;> cases g 0 <;> cases g 1 <;> cases g 2 <;> cases g 3 <;> rfl
theorem zi_mod {a b : Int} (h1 : 0 ≤ a) (h2 : a < 2147483648) (h3 : 0 < b) (h4 : b < 2147483648) : zi a - zi a / zi b * zi b = zi (a % b) := by
  rw [zi_div h1 h2 h3 h4, zi_mul, zi_sub, Int.emod_def, Int.mul_comm]
/-- does a rule forbid a step -/
def fob (s : Nat → Int) (b x y last num : Int) (d : Nat) : Bool :=
  if bg s b 1 = 0 then decide (last ≠ -1 ∧ (d : Int) = (last + 2) % 4)
  else if bg s b 1 = 1 then decide ((d : Int) = last)
  else if bg s b 1 = 2 then decide ((d : Int) = bg s b 2) && decide (num % bg s b 3 = bg s b 4)
  else decide ((d : Int) = bg s b 2) && (decide (lsI (bg s b 3) (bg s b 5) ≤ x ∧ x ≤ mrI (bg s b 3) (bg s b 5)) && decide (lsI (bg s b 4) (bg s b 6) ≤ y ∧ y ≤ mrI (bg s b 4) (bg s b 6)))
def fbN (s : Nat → Int) (p x y last num : Int) (d : Nat) : Nat → Bool
  | 0 => false
  | n + 1 => fbN s p x y last num d n || (decide (bg s n 0 = p) && fob s n x y last num d)
def fbB (s : Nat → Int) (p x y last num : Int) (d : Nat) : Bool := fbN s p x y last num d (s 6).toNat
theorem fbN_up {s : Nat → Int} {p x y last num : Int} {d : Nat} {m : Nat} (h : fbN s p x y last num d m = true) : ∀ {n : Nat}, m ≤ n → fbN s p x y last num d n = true := by
  intro n
  induction n with
  | zero =>
    intro hm
    rw [show m = 0 by omega] at h
    exact h
  | succ n ih =>
    intro hm
    by_cases q : m = n + 1
    · rw [← q]
      exact h
    · rw [fbN, ih (by omega)]
      rfl
theorem lsI_e (a b : Int) : (lsI a b = a ∨ lsI a b = b) ∧ lsI a b ≤ a ∧ lsI a b ≤ b := by
  unfold lsI
  split <;> omega
theorem mrI_e (a b : Int) : (mrI a b = a ∨ mrI a b = b) ∧ a ≤ mrI a b ∧ b ≤ mrI a b := by
  unfold mrI
  split <;> omega
theorem m_forbids (fu : Nat) {mem : Mem} {s : Nat → Int} (hS : MS mem s) (hz : szO s) {b : Int} (hb0 : 0 ≤ b) (hb1 : b ≤ 11) (hs2 : s 2 ≤ 4) (hb : bnO s b) {x y last num : Int} {d : Nat} (hx : -100 ≤ x ∧ x ≤ 100) (hy : -100 ≤ y ∧ y ≤ 100) (hl : -1 ≤ last ∧ last ≤ 3) (hn : 0 ≤ num ∧ num ≤ 10000) (hd : d < 4) : K_X12_forbids fu (zi b) (zi x) (zi y) (zi last) (zi num) (zi (d : Int)) mem = some (zi (bi (fob s b x y last num d))) := by
  obtain ⟨h1, h2, h3, h4⟩ := hb
  have g1 : ∀ k, 0 ≤ k → k ≤ 6 → rd mem 2 (36 + 7 * b + k).toNat = zi (bg s b k) := fun k _ _ => hS _
  unfold K_X12_forbids fob
  simp (disch := omega) only [zi_lit, zl_lit, zi_add, zi_sub, zi_mul, zi_neg, zi_lt, zi_inj, zi_clamp, zl_of, gi_zi, bd_s, ltf, bi_0, bi_1, gb_bi, Int.reduceToNat, Int.reduceNeg, Int.toNat_natCast, g1 1 (by omega) (by omega)]
  by_cases c0 : bg s b 1 = 0
  · rw [if_pos c0, if_pos c0]
    by_cases c1 : last = -1
    · rw [if_pos c1, decide_eq_false (fun h => h.1 c1)]
      rfl
    · rw [if_neg c1]
      simp (disch := omega) only [zi_mod, zi_div, zi_lit, zl_lit, zi_add, zi_sub, zi_mul, zi_neg, zi_lt, zi_inj, zi_clamp, zl_of, gi_zi, bd_s, ltf, bi_0, bi_1, gb_bi, Int.reduceToNat, Int.reduceNeg, Int.toNat_natCast]
      by_cases c2 : (d : Int) = last + 2 - (last + 2) / 4 * 4
      · rw [if_pos c2, decide_eq_true ⟨c1, by omega⟩]
        rfl
      · rw [if_neg c2, decide_eq_false (fun h => by omega)]
        rfl
  · rw [if_neg c0, if_neg c0]
    by_cases c1 : bg s b 1 = 1
    · rw [if_pos c1, if_pos c1]
      by_cases c2 : (d : Int) = last <;> simp [c2, bi]
    · rw [if_neg c1, if_neg c1]
      by_cases c2 : bg s b 1 = 2
      · rw [if_pos c2, if_pos c2]
        obtain ⟨k1, k2, k3, k4⟩ := h3 c2
        have ez : zi num - zi num / zi (bg s b 3) * zi (bg s b 3) = zi (num % bg s b 3) := zi_mod hn.1 (by omega) (by omega) (by omega)
        have em := Int.emod_nonneg num (show bg s b 3 ≠ 0 by omega)
        have em2 := Int.emod_lt_of_pos num (show 0 < bg s b 3 by omega)
        rw [g1 2 (by omega) (by omega), g1 3 (by omega) (by omega), g1 4 (by omega) (by omega), ez, gz_zi (by omega) (by omega)]
        simp (disch := omega) only [zi_lit, zl_lit, zi_add, zi_sub, zi_mul, zi_neg, zi_lt, zi_inj, zi_clamp, zl_of, gi_zi, bd_s, ltf, bi_0, bi_1, gb_bi, Int.reduceToNat, Int.reduceNeg, Int.toNat_natCast]
        by_cases c3 : (d : Int) = bg s b 2 <;> by_cases c4 : num % bg s b 3 = bg s b 4 <;> simp [c3, c4, bi]
      · rw [if_neg c2, if_neg c2]
        obtain ⟨k1, k2, k3⟩ := h4 (by omega)
        have q1 := cl_nat hz k2
        have q2 := cl_nat hz k3
        have z1 := lsI_e (bg s b 3) (bg s b 5)
        have z2 := mrI_e (bg s b 3) (bg s b 5)
        have z3 := lsI_e (bg s b 4) (bg s b 6)
        have z4 := mrI_e (bg s b 4) (bg s b 6)
        simp (disch := omega) only [zi_lit, zl_lit, zi_add, zi_sub, zi_mul, zi_neg, zi_lt, zi_inj, zi_clamp, zl_of, gi_zi, bd_s, ltf, bi_0, bi_1, gb_bi, Int.reduceToNat, Int.reduceNeg, Int.toNat_natCast, g1, k_less, k_more, k_isIn]
        by_cases c3 : (d : Int) = bg s b 2
        · rw [if_pos c3, decide_eq_true c3, Bool.true_and]
          by_cases c4 : lsI (bg s b 3) (bg s b 5) ≤ x ∧ x ≤ mrI (bg s b 3) (bg s b 5)
          · rw [decide_eq_true c4, if_neg (by decide), Bool.true_and]
            by_cases c5 : lsI (bg s b 4) (bg s b 6) ≤ y ∧ y ≤ mrI (bg s b 4) (bg s b 6)
            · rw [decide_eq_true c5]
              rfl
            · rw [decide_eq_false c5]
              rfl
          · rw [decide_eq_false c4]
            rfl
        · rw [if_neg c3, decide_eq_false c3]
          rfl
theorem m_isForb6 (fu : Nat) {mem : Mem} {s : Nat → Int} (hS : MS mem s) (hz : szO s) (hs2 : s 2 ≤ 4) (hs6 : 0 ≤ s 6 ∧ s 6 ≤ 12) (hb : basO s) {p x y last num : Int} {d : Nat} (hp : rd mem 0 27 = zi p) (hp2 : 0 ≤ p ∧ p ≤ 3) (hx : -100 ≤ x ∧ x ≤ 100) (hy : -100 ≤ y ∧ y ≤ 100) (hl : -1 ≤ last ∧ last ≤ 3) (hn : 0 ≤ num ∧ num ≤ 10000) (hd : d < 4) : ∀ (q n k : Nat), (k : Int) + q = s 6 → q < n → K_X12_isForbidden_6 fu mem n (zi x) (zi y) (zi last) (zi num) (zi (d : Int)) (zi (bi (fbN s p x y last num d k))) (zi (k : Int)) = some (zi (bi (fbB s p x y last num d))) := by
  intro q
  induction q with
  | zero =>
    intro n k hk hn2
    obtain ⟨n, rfl⟩ : ∃ f, n = f + 1 := ⟨n - 1, by omega⟩
    rw [K_X12_isForbidden_6]
    simp (disch := omega) only [zi_lit, zl_lit, zi_add, zi_sub, zi_mul, zi_neg, zi_lt, zi_inj, zi_clamp, zl_of, gi_zi, bd_s, ltf, bi_0, bi_1, gb_bi, Int.reduceToNat, Int.reduceNeg, Int.toNat_natCast, hS _]
    rw [if_neg (by omega)]
    unfold fbB
    rw [show (s 6).toNat = k by omega]
  | succ q ih =>
    intro n k hk hn2
    obtain ⟨n, rfl⟩ : ∃ f, n = f + 1 := ⟨n - 1, by omega⟩
    have hbk := hb k (by omega) (by omega)
    have h1 := hbk.1
    have g0 : s (36 + 7 * (k : Int)).toNat = bg s k 0 := by
      unfold bg
      congr 1
    rw [K_X12_isForbidden_6]
    simp (disch := omega) only [zi_lit, zl_lit, zi_add, zi_sub, zi_mul, zi_neg, zi_lt, zi_inj, zi_clamp, zl_of, gi_zi, bd_s, ltf, bi_0, bi_1, gb_bi, Int.reduceToNat, Int.reduceNeg, Int.toNat_natCast, hS _, hp, m_forbids fu hS hz (b := (k : Int)) (by omega) (by omega) hs2 hbk hx hy hl hn hd]
    rw [g0, if_pos (by omega)]
    cases hf : fbN s p x y last num d k with
    | true =>
      rw [if_neg (by decide)]
      unfold fbB
      rw [fbN_up hf (show k ≤ (s 6).toNat by omega)]
    | false =>
      rw [if_pos rfl]
      have h2 := ih n (k + 1) (by omega) (by omega)
      rw [fbN, hf, Bool.false_or] at h2
      by_cases c1 : bg s k 0 = p
      · rw [decide_eq_true c1, Bool.true_and] at h2
        rw [if_pos c1]
        cases hf2 : fob s k x y last num d with
        | true =>
          rw [hf2] at h2
          rw [if_neg (by decide)]
          exact h2
        | false =>
          rw [hf2] at h2
          rw [if_pos rfl]
          exact h2
      · rw [decide_eq_false c1, Bool.false_and] at h2
        rw [if_neg c1]
        exact h2
theorem m_isForb (fu : Nat) (hfu : 1000 ≤ fu) {mem : Mem} {s : Nat → Int} (hS : MS mem s) (hz : szO s) (hs2 : s 2 ≤ 4) (hs6 : 0 ≤ s 6 ∧ s 6 ≤ 12) (hb : basO s) {p x y last num : Int} {d : Nat} (hp : rd mem 0 27 = zi p) (hp2 : 0 ≤ p ∧ p ≤ 3) (hx : -100 ≤ x ∧ x ≤ 100) (hy : -100 ≤ y ∧ y ≤ 100) (hl : -1 ≤ last ∧ last ≤ 3) (hn : 0 ≤ num ∧ num ≤ 10000) (hd : d < 4) : K_X12_isForbidden fu (zi x) (zi y) (zi last) (zi num) (zi (d : Int)) mem = some (zi (bi (fbB s p x y last num d))) := m_isForb6 fu hS hz hs2 hs6 hb hp hp2 hx hy hl hn hd (s 6).toNat fu 0 (by omega) (by omega)
/-- the class's masks -/
theorem c_byLatest (fu r i : Nat) {mem : Mem} {s : Nat → Int} (hB : RN mem r s i) (h1 : 0 ≤ bg s i 1 ∧ bg s i 1 ≤ 3) {last : Int} (hl : -1 ≤ last ∧ last ≤ 3) : K_X0_byLatest fu r i (zi last) mem = some (msk (fun d => if bg s i 1 = 0 then decide (last ≠ -1 ∧ (d : Int) = (last + 2) % 4) else if bg s i 1 = 1 then decide ((d : Int) = last) else false)) := by
  have e1 := hB.2.1
  unfold K_X0_byLatest
  simp (disch := omega) only [zi_lit, zl_lit, zi_add, zi_sub, zi_mul, zi_neg, zi_lt, zi_inj, zi_clamp, zl_of, gi_zi, bd_s, ltf, bi_0, bi_1, gb_bi, Int.reduceToNat, Int.reduceNeg, Int.toNat_natCast, e1]
  by_cases c0 : last = -1
  · rw [if_pos c0, msk_0, c0]
    refine congrArg some (msk_cg (fun e he => ?_))
    split
    · rw [decide_eq_false (fun h => h.1 rfl)]
    · split
      · rw [decide_eq_false (by omega)]
      · rfl
  · rw [if_neg c0]
    obtain ⟨l, hl2⟩ : ∃ l : Nat, last = (l : Int) := ⟨last.toNat, by omega⟩
    have hl4 : l < 4 := by omega
    rw [hl2, xor2 hl4]
    by_cases c1 : bg s i 1 = 0
    · rw [if_pos c1, msk_one (opp_lt l)]
      refine congrArg some (msk_cg (fun e he => ?_))
      rw [if_pos c1]
      unfold opp
      by_cases c2 : e = (l + 2) % 4
      · rw [decide_eq_true c2, decide_eq_true (by omega)]
      · rw [decide_eq_false c2, decide_eq_false (by omega)]
    · rw [if_neg c1]
      by_cases c2 : bg s i 1 = 1
      · rw [if_pos c2, msk_one hl4]
        refine congrArg some (msk_cg (fun e he => ?_))
        rw [if_neg c1, if_pos c2]
        by_cases c3 : e = l
        · rw [decide_eq_true c3, decide_eq_true (by omega)]
        · rw [decide_eq_false c3, decide_eq_false (by omega)]
      · rw [if_neg c2, msk_0]
        refine congrArg some (msk_cg (fun e he => ?_))
        rw [if_neg c1, if_neg c2]
theorem c_byNumber (fu r i : Nat) {mem : Mem} {s : Nat → Int} (hB : RN mem r s i) (hb : bnO s i) {num : Int} (hn : 0 ≤ num ∧ num ≤ 10000) : K_X0_byNumber fu r i (zi num) mem = some (msk (fun d => decide (bg s i 1 = 2) && (decide ((d : Int) = bg s i 2) && decide (num % bg s i 3 = bg s i 4)))) := by
  obtain ⟨h1, h2, h3, h4⟩ := hb
  obtain ⟨e0, e1, e2, e3⟩ := hB
  unfold K_X0_byNumber K_X0_byNumber_32 K_X0_byNumber_33
  by_cases c2 : bg s i 1 = 2
  · obtain ⟨k1, k2, k3, k4⟩ := h3 c2
    obtain ⟨f1, f2, f3⟩ := e2 c2
    have ez : zi num - zi num / zi (bg s i 3) * zi (bg s i 3) = zi (num % bg s i 3) := zi_mod hn.1 (by omega) (by omega) (by omega)
    have em := Int.emod_nonneg num (show bg s i 3 ≠ 0 by omega)
    have em2 := Int.emod_lt_of_pos num (show 0 < bg s i 3 by omega)
    rw [e1, f1, f2, f3, ez, gz_zi (by omega) (by omega)]
    obtain ⟨l, hl2⟩ : ∃ l : Nat, bg s i 2 = (l : Int) := ⟨(bg s i 2).toNat, by omega⟩
    have hl4 : l < 4 := by omega
    simp (disch := omega) only [zi_lit, zl_lit, zi_add, zi_sub, zi_mul, zi_neg, zi_lt, zi_inj, zi_clamp, zl_of, gi_zi, bd_s, ltf, bi_0, bi_1, gb_bi, Int.reduceToNat, Int.reduceNeg, Int.toNat_natCast, ↓reduceIte, Int.reduceEq, Int.reduceLT, Int.reduceAdd, Int.reduceSub, Int.reduceMul, Int.reduceNeg, if_true, if_false, decide_true, decide_false, Bool.and_true, Bool.true_and, Bool.false_and, Bool.and_false, Bool.not_true, Bool.not_false, Bool.true_or, Bool.or_true, Bool.false_or, Bool.or_false]
    rw [if_pos c2, if_pos (by omega)]
    by_cases c4 : num % bg s i 3 = bg s i 4
    · rw [if_pos c4, hl2, msk_one hl4]
      refine congrArg some (msk_cg (fun e he => ?_))
      rw [decide_eq_true c2, decide_eq_true c4, Bool.true_and, Bool.and_true]
      by_cases c3 : e = l
      · rw [decide_eq_true c3, decide_eq_true (by omega)]
      · rw [decide_eq_false c3, decide_eq_false (by omega)]
    · rw [if_neg c4, msk_0]
      refine congrArg some (msk_cg (fun e he => ?_))
      rw [decide_eq_false c4, Bool.and_false, Bool.and_false]
  · rw [e1]
    simp (disch := omega) only [zi_lit, zl_lit, zi_add, zi_sub, zi_mul, zi_neg, zi_lt, zi_inj, zi_clamp, zl_of, gi_zi, bd_s, ltf, bi_0, bi_1, gb_bi, Int.reduceToNat, Int.reduceNeg, Int.toNat_natCast, ↓reduceIte, Int.reduceEq, Int.reduceLT, Int.reduceAdd, Int.reduceSub, Int.reduceMul, Int.reduceNeg, if_true, if_false, decide_true, decide_false, Bool.and_true, Bool.true_and, Bool.false_and, Bool.and_false, Bool.not_true, Bool.not_false, Bool.true_or, Bool.or_true, Bool.false_or, Bool.or_false]
    rw [if_neg c2, msk_0]
    refine congrArg some (msk_cg (fun e he => ?_))
    rw [decide_eq_false c2, Bool.false_and]
theorem c_byCell (fu r i : Nat) {mem : Mem} {s : Nat → Int} (hz : szO s) (hB : RN mem r s i) (hb : bnO s i) {c : Nat} (hc : c < 81) : K_X0_byCell fu r i (zi (c : Int)) mem = some (msk (fun d => decide (bg s i 1 = 3) && (decide ((d : Int) = bg s i 2) && (decide (lsI (bg s i 3) (bg s i 5) ≤ xo c ∧ xo c ≤ mrI (bg s i 3) (bg s i 5)) && decide (lsI (bg s i 4) (bg s i 6) ≤ yo c ∧ yo c ≤ mrI (bg s i 4) (bg s i 6)))))) := by
  obtain ⟨h1, h2, h3, h4⟩ := hb
  obtain ⟨e0, e1, e2, e3⟩ := hB
  have hxy := xy_lt hc
  have ex : zi (c : Int) - zi (c : Int) / zi 9 * zi 9 = zi (xo c) := by
    rw [zi_mod (by omega) (by omega) (by omega) (by omega)]
    rfl
  have ey : zi (c : Int) / zi 9 = zi (yo c) := by
    rw [zi_div (by omega) (by omega) (by omega) (by omega)]
    rfl
  unfold K_X0_byCell K_X0_byCell_54 K_X0_byCell_55
  rw [show (9 : Int32) = zi 9 from rfl, ex, ey]
  by_cases c2 : bg s i 1 = 3
  · obtain ⟨k1, k2, k3⟩ := h4 c2
    obtain ⟨f1, f2, f3, f4, f5⟩ := e3 c2
    obtain ⟨l, hl2⟩ : ∃ l : Nat, bg s i 2 = (l : Int) := ⟨(bg s i 2).toNat, by omega⟩
    have hl4 : l < 4 := by omega
    have q1 := cl_nat hz k2
    have q2 := cl_nat hz k3
    have z1 := lsI_e (bg s i 3) (bg s i 5)
    have z2 := mrI_e (bg s i 3) (bg s i 5)
    have z3 := lsI_e (bg s i 4) (bg s i 6)
    have z4 := mrI_e (bg s i 4) (bg s i 6)
    rw [e1, f1, f2, f3, f4, f5, hl2]
    simp (disch := omega) only [zi_lit, zl_lit, zi_add, zi_sub, zi_mul, zi_neg, zi_lt, zi_inj, zi_clamp, zl_of, gi_zi, bd_s, ltf, bi_0, bi_1, gb_bi, Int.reduceToNat, Int.reduceNeg, Int.toNat_natCast, ↓reduceIte, Int.reduceEq, Int.reduceLT, Int.reduceAdd, Int.reduceSub, Int.reduceMul, Int.reduceNeg, if_true, if_false, decide_true, decide_false, Bool.and_true, Bool.true_and, Bool.false_and, Bool.and_false, Bool.not_true, Bool.not_false, Bool.true_or, Bool.or_true, Bool.false_or, Bool.or_false]
    rw [if_pos c2, msk_one hl4, msk_0]
    rw [decide_eq_true c2]
    have no : ∀ (P Q : Prop) [Decidable P] [Decidable Q], ¬ (P ∧ Q) → msk (fun _ => false) = msk (fun e => true && (decide ((e : Int) = (l : Int)) && (decide P && decide Q))) := fun P Q _ _ h => msk_cg (fun e he => by
      by_cases p : P
      · rw [decide_eq_false (fun q => h ⟨p, q⟩), Bool.and_false, Bool.and_false, Bool.and_false]
      · rw [decide_eq_false p, Bool.false_and, Bool.and_false, Bool.and_false])
    by_cases q1 : xo c < lsI (bg s i 3) (bg s i 5)
    · rw [if_pos q1]
      exact congrArg some (no _ _ (by omega))
    · rw [if_neg q1]
      by_cases q2 : mrI (bg s i 3) (bg s i 5) < xo c
      · rw [if_pos q2]
        exact congrArg some (no _ _ (by omega))
      · rw [if_neg q2]
        by_cases q3 : yo c < lsI (bg s i 4) (bg s i 6)
        · rw [if_pos q3]
          exact congrArg some (no _ _ (by omega))
        · rw [if_neg q3]
          by_cases q4 : mrI (bg s i 4) (bg s i 6) < yo c
          · rw [if_pos q4]
            exact congrArg some (no _ _ (by omega))
          · rw [if_neg q4]
            refine congrArg some (msk_cg (fun e he => ?_))
            rw [decide_eq_true (p := lsI (bg s i 3) (bg s i 5) ≤ xo c ∧ xo c ≤ mrI (bg s i 3) (bg s i 5)) (by omega), decide_eq_true (p := lsI (bg s i 4) (bg s i 6) ≤ yo c ∧ yo c ≤ mrI (bg s i 4) (bg s i 6)) (by omega), Bool.true_and, Bool.and_true, Bool.and_true]
            by_cases c3 : e = l
            · rw [decide_eq_true c3, decide_eq_true (by omega)]
            · rw [decide_eq_false c3, decide_eq_false (by omega)]
  · rw [e1]
    simp (disch := omega) only [zi_lit, zl_lit, zi_add, zi_sub, zi_mul, zi_neg, zi_lt, zi_inj, zi_clamp, zl_of, gi_zi, bd_s, ltf, bi_0, bi_1, gb_bi, Int.reduceToNat, Int.reduceNeg, Int.toNat_natCast, ↓reduceIte, Int.reduceEq, Int.reduceLT, Int.reduceAdd, Int.reduceSub, Int.reduceMul, Int.reduceNeg, if_true, if_false, decide_true, decide_false, Bool.and_true, Bool.true_and, Bool.false_and, Bool.and_false, Bool.not_true, Bool.not_false, Bool.true_or, Bool.or_true, Bool.false_or, Bool.or_false]
    rw [if_neg c2, msk_0]
    refine congrArg some (msk_cg (fun e he => ?_))
    rw [decide_eq_false c2, Bool.false_and]
/-- the three parts of a rule make the rule -/
theorem fob_3 {s : Nat → Int} {i : Nat} (h1 : 0 ≤ bg s i 1 ∧ bg s i 1 ≤ 3) (x y last num : Int) (d : Nat) : (((if bg s i 1 = 0 then decide (last ≠ -1 ∧ (d : Int) = (last + 2) % 4) else if bg s i 1 = 1 then decide ((d : Int) = last) else false) || (decide (bg s i 1 = 2) && (decide ((d : Int) = bg s i 2) && decide (num % bg s i 3 = bg s i 4)))) || (decide (bg s i 1 = 3) && (decide ((d : Int) = bg s i 2) && (decide (lsI (bg s i 3) (bg s i 5) ≤ x ∧ x ≤ mrI (bg s i 3) (bg s i 5)) && decide (lsI (bg s i 4) (bg s i 6) ≤ y ∧ y ≤ mrI (bg s i 4) (bg s i 6)))))) = fob s i x y last num d := by
  unfold fob
  by_cases c0 : bg s i 1 = 0
  · rw [if_pos c0, if_pos c0, decide_eq_false (p := bg s i 1 = 2) (by omega), decide_eq_false (p := bg s i 1 = 3) (by omega), Bool.false_and, Bool.false_and, Bool.or_false, Bool.or_false]
  · rw [if_neg c0, if_neg c0]
    by_cases c1 : bg s i 1 = 1
    · rw [if_pos c1, if_pos c1, decide_eq_false (p := bg s i 1 = 2) (by omega), decide_eq_false (p := bg s i 1 = 3) (by omega), Bool.false_and, Bool.false_and, Bool.or_false, Bool.or_false]
    · rw [if_neg c1, if_neg c1]
      by_cases c2 : bg s i 1 = 2
      · rw [if_pos c2, decide_eq_true c2, decide_eq_false (p := bg s i 1 = 3) (by omega), Bool.true_and, Bool.false_or, Bool.false_and, Bool.or_false]
      · rw [if_neg c2, decide_eq_false c2, decide_eq_true (p := bg s i 1 = 3) (by omega), Bool.true_and, Bool.false_or, Bool.false_and, Bool.false_or]
/-- the rules of a race as the row has them -/
def CBn (mem : Mem) (r : Nat) (s : Nat → Int) : Prop := rd mem (pRace r) 4 = zi (s 6) ∧ ∀ b : Nat, b < 12 → (b : Int) < s 6 → RN mem r s b
theorem c_bn12 (fu r : Nat) {mem : Mem} {s : Nat → Int} (hz : szO s) (hs6 : 0 ≤ s 6 ∧ s 6 ≤ 12) (hs2 : s 2 ≤ 4) (hb : basO s) (hB : CBn mem r s) {p : Nat} (hp : p < 4) (hP : RP mem r s p) (hpn : pnO s p) (hs4 : 0 ≤ s 4 ∧ s 4 ≤ 200) : ∀ (q n k : Nat), (k : Int) + q = s 6 → q < n → K_X6_bannedNow_12 fu r mem n (zi (p : Int)) p (msk (fun d => fbN s p (pg s p 0) (pg s p 1) (pg s p 5) (pg s p 4) d k)) (zi (k : Int)) = some (msk (fun d => fbB s p (pg s p 0) (pg s p 1) (pg s p 5) (pg s p 4) d)) := by
  have hcl := cel_lt hz hpn
  obtain ⟨p1, p2, p3, p4, p5, p6, p7⟩ := hpn
  obtain ⟨r0, r1, r2, r3, r4, r5⟩ := hP
  have hxy := cl_nat hz p1
  have ec : (9 * pg s p 1 + pg s p 0) = (celN s p : Int) := by
    unfold celN
    omega
  rw [ec] at r0
  intro q
  induction q with
  | zero =>
    intro n k hk hn2
    obtain ⟨n, rfl⟩ : ∃ f, n = f + 1 := ⟨n - 1, by omega⟩
    rw [K_X6_bannedNow_12]
    simp (disch := omega) only [zi_lit, zl_lit, zi_add, zi_sub, zi_mul, zi_neg, zi_lt, zi_inj, zi_clamp, zl_of, gi_zi, bd_s, ltf, bi_0, bi_1, gb_bi, Int.reduceToNat, Int.reduceNeg, Int.toNat_natCast, hB.1]
    rw [if_neg (by omega)]
    unfold fbB
    rw [show (s 6).toNat = k by omega]
  | succ q ih =>
    intro n k hk hn2
    obtain ⟨n, rfl⟩ : ∃ f, n = f + 1 := ⟨n - 1, by omega⟩
    have hbk := hb k (by omega) (by omega)
    have hRN := hB.2 k (by omega) (by omega)
    have h0 := hbk.1
    have h1 := hbk.2.1
    have h2 := ih n (k + 1) (by omega) (by omega)
    rw [K_X6_bannedNow_12]
    simp (disch := omega) only [zi_lit, zl_lit, zi_add, zi_sub, zi_mul, zi_neg, zi_lt, zi_inj, zi_clamp, zl_of, gi_zi, bd_s, ltf, bi_0, bi_1, gb_bi, Int.reduceToNat, Int.reduceNeg, Int.toNat_natCast, hB.1, hRN.1, r4, r3, r0, c_byLatest fu r k hRN h1, c_byNumber fu r k hRN hbk, c_byCell fu r k hz hRN hbk hcl.1]
    rw [if_pos (by omega)]
    by_cases c1 : bg s k 0 = (p : Int)
    · rw [if_pos c1, msk_or2, msk_or2, msk_or2]
      refine Eq.trans ?_ h2
      congr 1
      refine msk_cg (fun e he => ?_)
      rw [fbN, decide_eq_true c1, Bool.true_and, hcl.2.1, hcl.2.2, fob_3 h1]
    · rw [if_neg c1]
      refine Eq.trans ?_ h2
      congr 1
      refine msk_cg (fun e he => ?_)
      rw [fbN, decide_eq_false c1, Bool.false_and, Bool.or_false]
theorem c_bannedNow (fu r : Nat) (hfu : 1000 ≤ fu) {mem : Mem} {s : Nat → Int} (hz : szO s) (hs6 : 0 ≤ s 6 ∧ s 6 ≤ 12) (hs2 : s 2 ≤ 4) (hb : basO s) (hB : CBn mem r s) {p : Nat} (hp : p < 4) (hP : RP mem r s p) (hpn : pnO s p) (hs4 : 0 ≤ s 4 ∧ s 4 ≤ 200) : K_X6_bannedNow fu r (zi (p : Int)) mem = some (msk (fun d => fbB s p (pg s p 0) (pg s p 1) (pg s p 5) (pg s p 4) d)) := by
  have h := c_bn12 fu r hz hs6 hs2 hb hB hp hP hpn hs4 (s 6).toNat fu 0 (by omega) (by omega)
  unfold K_X6_bannedNow
  simp (disch := omega) only [zi_lit, zl_lit, zi_add, zi_sub, zi_mul, zi_neg, zi_lt, zi_inj, zi_clamp, zl_of, gi_zi, bd_s, ltf, bi_0, bi_1, gb_bi, Int.reduceToNat, Int.reduceNeg, Int.toNat_natCast]
  exact h
end BANS
