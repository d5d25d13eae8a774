section NAMM
def nmW (T : Nat → Int) (L a : Nat) : Nat := pkN T a (tzi T L a)
theorem c_sw20 (fu : Nat) {c : Mem} {T : Nat → Int} {L a p z : Nat} (hX : TXc c T L) (h8 : rd c 2 8 = zi (p : Int)) (ha : a + z ≤ L) (hp : p + z ≤ L) (hz : z ≤ 8) : ∀ (r n j : Nat), j + r = z → r < n → (∀ i, i < j → T (p + i) = T (a + i)) → K_X9_isSameWord_20 fu c n (zi (a : Int)) (zi (z : Int)) (zi (j : Int)) = some (zi (bi (decide (∀ i, i < z → T (p + i) = T (a + i))))) := by
  intro r
  have h700 := hX.2.1
  induction r with
  | zero =>
    intro n j hj hn hl
    obtain ⟨n, rfl⟩ : ∃ f, n = f + 1 := ⟨n - 1, by omega⟩
    rw [K_X9_isSameWord_20]
    simp (disch := omega) only [zi_lit, zl_lit, zi_add, zi_sub, zi_mul, zi_neg, zi_lt, zi_inj, zi_clamp, zl_of, gi_zi, bd_s, ltf, bi_0, bi_1, gb_bi, Int.reduceToNat, Int.reduceNeg, Int.toNat_natCast]
    rw [if_neg (by omega), decide_eq_true (fun i hi => hl i (by omega))]
    rfl
  | succ r ih =>
    intro n j hj hn hl
    obtain ⟨n, rfl⟩ : ∃ f, n = f + 1 := ⟨n - 1, by omega⟩
    have hb1 := c_byteAt fu hX (i := p + j) (by omega)
    have hb2 := c_byteAt fu hX (i := a + j) (by omega)
    rw [if_pos (by omega)] at hb1 hb2
    have hT1 := hX.1 (p + j)
    have hT2 := hX.1 (a + j)
    have hrec := ih n (j + 1) (by omega) (by omega)
    have e1 : zi ((p : Int) + (j : Int)) = zi ((p + j : Nat) : Int) := rfl
    have e2 : zi ((a : Int) + (j : Int)) = zi ((a + j : Nat) : Int) := rfl
    rw [K_X9_isSameWord_20, h8]
    simp (disch := omega) only [zi_lit, zl_lit, zi_add, zi_sub, zi_mul, zi_neg, zi_lt, zi_inj, zi_clamp, zl_of, gi_zi, bd_s, ltf, bi_0, bi_1, gb_bi, Int.reduceToNat, Int.reduceNeg, Int.toNat_natCast, e1, e2, hb1, hb2]
    rw [if_pos (by omega)]
    by_cases q : T (p + j) = T (a + j)
    · rw [if_pos q]
      exact hrec (fun i hi => by
        by_cases q2 : i = j
        · rw [q2]
          exact q
        · exact hl i (by omega))
    · rw [if_neg q, decide_eq_false (fun h => q (h j (by omega)))]
      rfl
theorem pk_same {T : Nat → Int} {a p k n : Nat} (h1 : ∀ j, j < k → kdb (T (p + j)) = 1) (h2 : ∀ j, j < n → kdb (T (a + j)) = 1) : pkN T p k = pkN T a n ↔ k = n ∧ ∀ j, j < n → T (p + j) = T (a + j) := by
  have e : ∀ n, pkN T a n = pkN (fun j => T (a + j)) 0 n := fun n => by
    induction n with
    | zero => rfl
    | succ n ih => rw [pkN, pkN, ih, Nat.zero_add]
  rw [e n]
  exact pk_inj k n h1 h2
theorem c_sameWord (fu : Nat) (hfu : 1000 ≤ fu) {c : Mem} {T : Nat → Int} {L N n a : Nat} (h : TSc c T L N) (hB : PcB c T L N n) (hk : kkP T L (tpo T L n) = 1) (ha : kkP T L a = 1) : K_X9_isSameWord fu (zi (a : Int)) (zi (tzi T L a : Int)) c = some (zi (bi (decide (nmW T L a = nmW T L (tpo T L n))))) := by
  obtain ⟨b1, b2, b3, b4⟩ := hB
  obtain ⟨k1, k2, k3, k4, k5, k6, k7⟩ := kk_1 hk
  obtain ⟨l1, l2, l3, l4, l5, l6, l7⟩ := kk_1 ha
  have hps := pk_same (a := a) k7 l7
  unfold K_X9_isSameWord nmW
  rw [b2, b4, k4, hk, if_pos (show zi ((1 : Nat) : Int) = 1 from rfl)]
  simp (disch := omega) only [zi_lit, zl_lit, zi_add, zi_sub, zi_mul, zi_neg, zi_lt, zi_inj, zi_clamp, zl_of, gi_zi, bd_s, ltf, bi_0, bi_1, gb_bi, Int.reduceToNat, Int.reduceNeg, Int.toNat_natCast]
  by_cases q : tzi T L (tpo T L n) = tzi T L a
  · rw [if_pos (by omega)]
    have e0 := c_sw20 fu h.1 b3 l6 (by omega) l3 (tzi T L a) fu 0 (by omega) (by omega) (fun i hi => absurd hi (Nat.not_lt_zero i))
    refine e0.trans ?_
    refine congrArg (fun b => some (zi (bi b))) ?_
    exact decide_eq_decide.mpr ⟨fun hh => (hps.mpr ⟨q, hh⟩).symm, fun hh => (hps.mp hh.symm).2⟩
  · rw [if_neg (by omega), decide_eq_false (fun hh => q (hps.mp hh.symm).1)]
    rfl
/-- the names told so far -/
def NMr (c m : Mem) (T : Nat → Int) (L u : Nat) (nm : Nat → Nat) : Prop := (∀ i, i < u → kkP T L (nm i) = 1 ∧ nm i ≤ 700 ∧ rd c 8 i = zi (nm i : Int) ∧ rd c 9 i = zi (tzi T L (nm i) : Int) ∧ rl m 9 i = zl (nmW T L (nm i) : Int)) ∧ ∀ i j, i < u → j < u → i ≠ j → nmW T L (nm i) ≠ nmW T L (nm j)
/-- the number of what is so, or -1 -/
def IXr (v : Int) (u : Nat) (P : Nat → Prop) : Prop := (v = -1 ∧ ∀ i, i < u → ¬ P i) ∨ ∃ i, i < u ∧ v = (i : Int) ∧ P i
theorem IX_eq {v w : Int} {u : Nat} {P : Nat → Prop} (hP : ∀ i j, i < u → j < u → P i → P j → i = j) (h1 : IXr v u P) (h2 : IXr w u P) : v = w := by
  rcases h1 with ⟨a1, a2⟩ | ⟨i, a1, a2, a3⟩
  · rcases h2 with ⟨b1, b2⟩ | ⟨j, b1, b2, b3⟩
    · omega
    · exact absurd b3 (a2 j b1)
  · rcases h2 with ⟨b1, b2⟩ | ⟨j, b1, b2, b3⟩
    · exact absurd a3 (b2 i a1)
    · have := hP i j a1 b1 a3 b3
      omega
theorem IX_le {v : Int} {u : Nat} {P : Nat → Prop} (h : IXr v u P) : -1 ≤ v ∧ v < (u : Int) ∨ v = -1 := by
  rcases h with ⟨a1, a2⟩ | ⟨i, a1, a2, a3⟩ <;> omega
theorem nmW_lt {T : Nat → Int} {L a : Nat} (h : kkP T L a = 1) : nmW T L a < 1125899906842624 := by
  obtain ⟨k1, k2, k3, k4, k5, k6, k7⟩ := kk_1 h
  exact Nat.lt_of_lt_of_le (pkN_lt (T := T) (i := a) (tzi T L a) k7) (by
      have : 32 ^ (tzi T L a) ≤ 32 ^ 8 := Nat.pow_le_pow_right (by decide) (by omega)
      exact Nat.le_trans this (by decide))
theorem c_pn2 (fu : Nat) (hfu : 1000 ≤ fu) {c m : Mem} {T : Nat → Int} {L N n u : Nat} {nm : Nat → Nat} (h : TSc c T L N) (hB : PcB c T L N n) (hk : kkP T L (tpo T L n) = 1) (hN : NMr c m T L u nm) (hu : u ≤ 4) (h2 : rd c (pRace 1) 2 = zi (u : Int)) : ∀ (r f i : Nat), i + r = u → r < f → (∀ j, j < i → nmW T L (nm j) ≠ nmW T L (tpo T L n)) → ∃ v, K_X7_pawnNamed_2 fu c f (zi (i : Int)) = some (zi v) ∧ IXr v u (fun j => nmW T L (nm j) = nmW T L (tpo T L n)) := by
  intro r
  induction r with
  | zero =>
    intro f i hi hf hl
    obtain ⟨f, rfl⟩ : ∃ g, f = g + 1 := ⟨f - 1, by omega⟩
    refine ⟨-1, ?_, Or.inl ⟨rfl, fun j hj => hl j (by omega)⟩⟩
    rw [K_X7_pawnNamed_2, h2]
    simp (disch := omega) only [zi_lit, zl_lit, zi_add, zi_sub, zi_mul, zi_neg, zi_lt, zi_inj, zi_clamp, zl_of, gi_zi, bd_s, ltf, bi_0, bi_1, gb_bi, Int.reduceToNat, Int.reduceNeg, Int.toNat_natCast]
    rw [if_neg (by omega)]
  | succ r ih =>
    intro f i hi hf hl
    obtain ⟨f, rfl⟩ : ∃ g, f = g + 1 := ⟨f - 1, by omega⟩
    obtain ⟨n1, n2, n3, n4, n5⟩ := hN.1 i (by omega)
    have hs := c_sameWord fu hfu h hB hk n1
    have hrec := ih f (i + 1) (by omega) (by omega)
    rw [K_X7_pawnNamed_2, h2]
    simp (disch := omega) only [zi_lit, zl_lit, zi_add, zi_sub, zi_mul, zi_neg, zi_lt, zi_inj, zi_clamp, zl_of, gi_zi, bd_s, ltf, bi_0, bi_1, gb_bi, Int.reduceToNat, Int.reduceNeg, Int.toNat_natCast, n3, n4, hs]
    rw [if_pos (by omega)]
    by_cases q : nmW T L (nm i) = nmW T L (tpo T L n)
    · rw [decide_eq_true q, if_neg (by decide)]
      exact ⟨i, rfl, Or.inr ⟨i, by omega, rfl, q⟩⟩
    · rw [decide_eq_false q, if_pos rfl]
      exact hrec (fun j hj => by
        by_cases q2 : j = i
        · rw [q2]
          exact q
        · exact hl j (by omega))
theorem m_nm4 (fu : Nat) {m : Mem} {T : Nat → Int} {L n u : Nat} {c : Mem} {nm : Nat → Nat} (hk : kkP T L (tpo T L n) = 1) (hN : NMr c m T L u nm) (hu : u ≤ 4) (h2 : rd m 2 2 = zi (u : Int)) (h12 : rl m 0 12 = zl (nmW T L (tpo T L n) : Int)) : ∀ (r f i : Nat) (b : Int), i + r = u → r < f → IXr b i (fun j => nmW T L (nm j) = nmW T L (tpo T L n)) → ∃ v, K_X12_named_4 fu m f (zi b) (zi (i : Int)) = some (zi v) ∧ IXr v u (fun j => nmW T L (nm j) = nmW T L (tpo T L n)) := by
  intro r
  induction r with
  | zero =>
    intro f i b hi hf hl
    obtain ⟨f, rfl⟩ : ∃ g, f = g + 1 := ⟨f - 1, by omega⟩
    refine ⟨b, ?_, by rw [show u = i by omega]; exact hl⟩
    rw [K_X12_named_4]
    simp (disch := omega) only [zi_lit, zl_lit, zi_add, zi_sub, zi_mul, zi_neg, zi_lt, zi_inj, zi_clamp, zl_of, gi_zi, bd_s, ltf, bi_0, bi_1, gb_bi, Int.reduceToNat, Int.reduceNeg, Int.toNat_natCast, h2]
    rw [if_neg (by omega)]
  | succ r ih =>
    intro f i b hi hf hl
    obtain ⟨f, rfl⟩ : ∃ g, f = g + 1 := ⟨f - 1, by omega⟩
    obtain ⟨n1, n2, n3, n4, n5⟩ := hN.1 i (by omega)
    have hc := lg0 (a := (nmW T L (nm i) : Int)) (b := (nmW T L (tpo T L n) : Int)) (by have := nmW_lt n1; omega) (by have := nmW_lt hk; omega)
    rw [K_X12_named_4]
    simp (disch := omega) only [zi_lit, zl_lit, zi_add, zi_sub, zi_mul, zi_neg, zi_lt, zi_inj, zi_clamp, zl_of, gi_zi, bd_s, ltf, bi_0, bi_1, gb_bi, Int.reduceToNat, Int.reduceNeg, Int.toNat_natCast, h2, n5, h12]
    rw [if_pos (by omega)]
    have hc' : (lg_cmp (zl (nmW T L (nm i) : Int)) (zl (nmW T L (tpo T L n) : Int)) = zi 0) = ((nmW T L (nm i) : Int) = (nmW T L (tpo T L n) : Int)) := hc
    by_cases q : nmW T L (nm i) = nmW T L (tpo T L n)
    · rw [if_pos (hc'.mpr (by omega))]
      exact ih f (i + 1) i (by omega) (by omega) (Or.inr ⟨i, by omega, rfl, q⟩)
    · rw [if_neg (fun hh => q (by have := hc'.mp hh; omega))]
      refine ih f (i + 1) b (by omega) (by omega) ?_
      rcases hl with ⟨a1, a2⟩ | ⟨j, a1, a2, a3⟩
      · exact Or.inl ⟨a1, fun j hj => by
          by_cases q2 : j = i
          · rw [q2]
            exact q
          · exact a2 j (by omega)⟩
      · exact Or.inr ⟨j, by omega, a2, a3⟩
/-- both find the same pawn of the name -/
theorem p_named (fu : Nat) (hfu : 1000 ≤ fu) {c m : Mem} {T : Nat → Int} {L N n u : Nat} {nm : Nat → Nat} (hB : CBr c T L N n) (hG : GMr m T L n) (hk : kkP T L (tpo T L n) = 1) (hN : NMr c m T L u nm) (hu : u ≤ 4) (h2 : rd c (pRace 1) 2 = zi (u : Int)) (h2m : rd m 2 2 = zi (u : Int)) : ∃ v, K_X7_pawnNamed fu c = some (zi v) ∧ K_X12_named fu m = some (zi v) ∧ IXr v u (fun j => nmW T L (nm j) = nmW T L (tpo T L n)) := by
  obtain ⟨v, a1, a2⟩ := c_pn2 fu hfu hB.1 hB.2.1 hk hN hu h2 u fu 0 (by omega) (by omega) (fun j hj => absurd hj (Nat.not_lt_zero j))
  obtain ⟨w, b1, b2⟩ := m_nm4 fu hk hN hu h2m (hG.1.2.2.2.2.1 hk) u fu 0 (-1) (by omega) (by omega) (Or.inl ⟨rfl, fun j hj => absurd hj (Nat.not_lt_zero j)⟩)
  have hvw : v = w := IX_eq (fun i j hi hj p1 p2 => by
    by_cases q : i = j
    · exact q
    · exact absurd (p1.trans p2.symm) (hN.2 i j hi hj q)) a2 b2
  refine ⟨v, a1, ?_, a2⟩
  rw [hvw]
  exact b1
end NAMM
