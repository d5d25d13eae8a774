section LEXM
def pkN (T : Nat → Int) (i : Nat) : Nat → Nat
  | 0 => 0
  | n + 1 => pkN T i n * 32 + (T (i + n) - 96).toNat
def vlI (T : Nat → Int) (i : Nat) : Nat → Int
  | 0 => 0
  | n + 1 => 10 * vlI T i n + T (i + n) - 48
theorem w_or (a d : Nat) (ha : a < 1125899906842624) (hd : d < 32) : (zl (a : Int) <<< (Int32.toInt64 5 &&& 63)) ||| zl (d : Int) = zl ((a * 32 + d : Nat) : Int) := by
  apply Int64.toBitVec_inj.1
  have e5 : (Int32.toInt64 5 &&& 63).toBitVec.smod 64 = 5#64 := by decide +kernel
  have en : ∀ n : Nat, (zl (n : Int)).toBitVec = BitVec.ofNat 64 n := fun n => by
    unfold zl
    rw [Int64.toBitVec_ofInt]
    exact BitVec.ofInt_natCast 64 n
  rw [Int64.toBitVec_or, Int64.toBitVec_shiftLeft, e5, en, en, en]
  apply BitVec.eq_of_toNat_eq
  rw [BitVec.toNat_or, BitVec.shiftLeft_eq', BitVec.toNat_shiftLeft]
  simp only [BitVec.toNat_ofNat]
  rw [show (5 % 2 ^ 64 : Nat) = 5 from rfl]
  rw [Nat.mod_eq_of_lt (show a < 2 ^ 64 by omega), Nat.mod_eq_of_lt (show d < 2 ^ 64 by omega), Nat.mod_eq_of_lt (show a * 32 + d < 2 ^ 64 by omega)]
  rw [Nat.shiftLeft_eq, Nat.mod_eq_of_lt (show a * 2 ^ 5 < 2 ^ 64 by omega), ← Nat.shiftLeft_eq, ← Nat.shiftLeft_add_eq_or_of_lt (show d < 2 ^ 5 by omega), Nat.shiftLeft_eq]
theorem pkN_lt {T : Nat → Int} {i : Nat} : ∀ n : Nat, (∀ j, j < n → kdb (T (i + j)) = 1) → pkN T i n < 32 ^ n := by
  intro n
  induction n with
  | zero =>
    intro _
    show (0 : Nat) < 32 ^ 0
    decide
  | succ n ih =>
    intro h
    have h1 := ih (fun j hj => h j (by omega))
    have h2 := kdb_1.mp (h n (by omega))
    rw [pkN, Nat.pow_succ]
    omega
/-- the text in the reference -/
def TXm (m : Mem) (T : Nat → Int) (L : Nat) : Prop := (∀ i, 0 ≤ T i ∧ T i ≤ 255) ∧ L ≤ 700 ∧ rd m 0 3 = zi (L : Int) ∧ ∀ i, i < L → rd m 1 i = zi (T i)
def PGo (k j : Nat) : Bool := k == 0 && (decide (4 ≤ j) && decide (j ≤ 7) || j == 12)
theorem TXm_fr {m m2 : Mem} {T : Nat → Int} {L : Nat} (h : TXm m T L) (f : Fr PGo m m2) : TXm m2 T L := ⟨h.1, h.2.1, (f.1 _ _ rfl).trans h.2.2.1, fun i hi => (f.1 _ _ rfl).trans (h.2.2.2 i hi)⟩
theorem m_here (fu : Nat) {m : Mem} {T : Nat → Int} {L : Nat} (h : TXm m T L) {a k : Nat} (h4 : rd m 0 4 = zi (a : Int)) (hk : a + k ≤ 5000) : K_X12_here fu (zi (k : Int)) m = some (zi (if a + k < L then T (a + k) else -1)) := by
  obtain ⟨h1, h2, h3, h5⟩ := h
  have i1 : ((a : Int) + (k : Int)).toNat = a + k := by omega
  unfold K_X12_here
  simp (disch := omega) only [zi_lit, zl_lit, zi_add, zi_sub, zi_mul, zi_neg, zi_lt, zi_inj, zi_clamp, zl_of, gi_zi, bd_s, ltf, bi_0, bi_1, gb_bi, Int.reduceToNat, Int.reduceNeg, Int.toNat_natCast, h3, h4]
  by_cases q : a + k < L
  · rw [if_pos (by omega), i1, if_pos q, h5 _ q]
  · rw [if_neg (by omega), if_neg q]
theorem m_isLetter (fu : Nat) (m : Mem) {b : Int} (h1 : -1 ≤ b) (h2 : b ≤ 255) : K_X12_isLetter fu (zi b) m = some (zi (bi (decide (97 ≤ b ∧ b ≤ 122)))) := by
  unfold K_X12_isLetter
  simp (disch := omega) only [zi_lit, zl_lit, zi_add, zi_sub, zi_mul, zi_neg, zi_lt, zi_inj, zi_clamp, zl_of, gi_zi, bd_s, ltf, bi_0, bi_1, gb_bi, Int.reduceToNat, Int.reduceNeg, Int.toNat_natCast]
  by_cases c1 : b < 97
  · rw [if_pos c1, decide_eq_false (by omega)]
    rfl
  · rw [if_neg c1]
    by_cases c2 : 122 < b
    · rw [if_pos c2, decide_eq_false (by omega)]
      rfl
    · rw [if_neg c2, decide_eq_true (by omega)]
      rfl
theorem m_isDigit (fu : Nat) (m : Mem) {b : Int} (h1 : -1 ≤ b) (h2 : b ≤ 255) : K_X12_isDigit fu (zi b) m = some (zi (bi (decide (48 ≤ b ∧ b ≤ 57)))) := by
  unfold K_X12_isDigit
  simp (disch := omega) only [zi_lit, zl_lit, zi_add, zi_sub, zi_mul, zi_neg, zi_lt, zi_inj, zi_clamp, zl_of, gi_zi, bd_s, ltf, bi_0, bi_1, gb_bi, Int.reduceToNat, Int.reduceNeg, Int.toNat_natCast]
  by_cases c1 : b < 48
  · rw [if_pos c1, decide_eq_false (by omega)]
    rfl
  · rw [if_neg c1]
    by_cases c2 : 57 < b
    · rw [if_pos c2, decide_eq_false (by omega)]
      rfl
    · rw [if_neg c2, decide_eq_true (by omega)]
      rfl
theorem m_g76 (fu : Nat) {T : Nat → Int} {L p : Nat} (hp : p ≤ L) : ∀ (r n j : Nat) (m : Mem), p + j + r = L → r < n → TXm m T L → rd m 0 4 = zi (p : Int) → (∀ i, i < j → kdb (T (p + i)) = 1) → rl m 0 12 = zl (pkN T p (min j 8) : Int) → ∃ m2, K_X12_goOn_76 fu n (zi (j : Int)) m = some m2 ∧ rd m2 0 6 = zi (if 8 < rnF T 1 (L - p) p then 4 else 1) ∧ rd m2 0 4 = zi ((p + rnF T 1 (L - p) p : Nat) : Int) ∧ rl m2 0 12 = zl (pkN T p (min (rnF T 1 (L - p) p) 8) : Int) ∧ rd m2 0 5 = rd m 0 5 ∧ Fr PGo m m2 := by
  have fin : ∀ (n j : Nat) (m : Mem), p + j ≤ L → TXm m T L → rd m 0 4 = zi (p : Int) → (∀ i, i < j → kdb (T (p + i)) = 1) → rl m 0 12 = zl (pkN T p (min j 8) : Int) → (p + j < L → kdb (T (p + j)) ≠ 1) → ∃ m2, K_X12_goOn_76 fu (n + 1) (zi (j : Int)) m = some m2 ∧ rd m2 0 6 = zi (if 8 < rnF T 1 (L - p) p then 4 else 1) ∧ rd m2 0 4 = zi ((p + rnF T 1 (L - p) p : Nat) : Int) ∧ rl m2 0 12 = zl (pkN T p (min (rnF T 1 (L - p) p) 8) : Int) ∧ rd m2 0 5 = rd m 0 5 ∧ Fr PGo m m2 := fun n j m hj hX h4 hl hw he => by
    have hR : rnF T 1 (L - p) p = j := rnF_eq (by omega) hl (fun q => he (by omega))
    have h700 := hX.2.1
    have hh := m_here fu hX h4 (k := j) (by omega)
    obtain ⟨b, hb⟩ : ∃ b, b = if p + j < L then T (p + j) else -1 := ⟨_, rfl⟩
    rw [← hb] at hh
    have hb1 : -1 ≤ b ∧ b ≤ 255 ∧ ¬ (97 ≤ b ∧ b ≤ 122) := by
      rw [hb]
      by_cases q : p + j < L
      · rw [if_pos q]
        have := hX.1 (p + j)
        exact ⟨by omega, by omega, fun h => he q (kdb_1.mpr h)⟩
      · rw [if_neg q]
        omega
    have r4 : ∀ v, rd (mw m 0 6 v) 0 4 = zi (p : Int) := fun v => by
      rw [rd_mw, if_neg (by decide)]
      exact h4
    rw [hR, K_X12_goOn_76, hh, bd_s, m_isLetter fu m hb1.1 hb1.2.1, bd_s, decide_eq_false hb1.2.2, if_pos (show zi (bi false) = 0 from rfl)]
    unfold K_X12_goOn_133 K_X12_goOn_239
    simp (disch := omega) only [zi_lit, zl_lit, zi_add, zi_sub, zi_mul, zi_neg, zi_lt, zi_inj, zi_clamp, zl_of, gi_zi, bd_s, ltf, bi_0, bi_1, gb_bi, Int.reduceToNat, Int.reduceNeg, Int.toNat_natCast, r4]
    by_cases q : 8 < j
    · rw [if_pos (by omega), if_pos q]
      refine ⟨_, rfl, ?_, ?_, ?_, ?_, Fr_tr (Fr_mw _ _ rfl) (Fr_mw _ _ rfl)⟩
      · rw [rd_mw, if_neg (by decide), rd_mw, if_pos ⟨rfl, rfl⟩]
      · rw [rd_mw, if_pos ⟨rfl, rfl⟩]
        rfl
      · rw [rl_mw, rl_mw]
        exact hw
      · rw [rd_mw, if_neg (by decide), rd_mw, if_neg (by decide)]
    · rw [if_neg (by omega), if_neg q]
      refine ⟨_, rfl, ?_, ?_, ?_, ?_, Fr_tr (Fr_mw _ _ rfl) (Fr_mw _ _ rfl)⟩
      · rw [rd_mw, if_neg (by decide), rd_mw, if_pos ⟨rfl, rfl⟩]
      · rw [rd_mw, if_pos ⟨rfl, rfl⟩]
        rfl
      · rw [rl_mw, rl_mw]
        exact hw
      · rw [rd_mw, if_neg (by decide), rd_mw, if_neg (by decide)]
  intro r
  induction r with
  | zero =>
    intro n j m hj hn hX h4 hl hw
    obtain ⟨n, rfl⟩ : ∃ f, n = f + 1 := ⟨n - 1, by omega⟩
    exact fin n j m (by omega) hX h4 hl hw (fun h => by omega)
  | succ r ih =>
    intro n j m hj hn hX h4 hl hw
    obtain ⟨n, rfl⟩ : ∃ f, n = f + 1 := ⟨n - 1, by omega⟩
    by_cases c : kdb (T (p + j)) = 1
    · have h700 := hX.2.1
      have hh := m_here fu hX h4 (k := j) (by omega)
      rw [if_pos (by omega)] at hh
      have hb := hX.1 (p + j)
      have hk := kdb_1.mp c
      have hl2 : ∀ i, i < j + 1 → kdb (T (p + i)) = 1 := fun i hi => by
        by_cases q : i = j
        · rw [q]
          exact c
        · exact hl i (by omega)
      have hpk := pkN_lt (T := T) (i := p) (min j 8) (fun i hi => hl i (by omega))
      rw [K_X12_goOn_76, hh, bd_s, m_isLetter fu m (by omega) hb.2, bd_s, decide_eq_true hk, if_neg (show ¬ zi (bi true) = 0 by decide)]
      simp (disch := omega) only [zi_lit, zl_lit, zi_add, zi_sub, zi_mul, zi_neg, zi_lt, zi_inj, zi_clamp, zl_of, gi_zi, bd_s, ltf, bi_0, bi_1, gb_bi, Int.reduceToNat, Int.reduceNeg, Int.toNat_natCast, hw]
      by_cases q : j < 8
      · rw [if_pos (by omega)]
        rw [show min j 8 = j by omega] at hpk ⊢
        have hp35 : pkN T p j < 1125899906842624 := Nat.lt_of_lt_of_le hpk (by
          have : 32 ^ j ≤ 32 ^ 8 := Nat.pow_le_pow_right (by decide) (by omega)
          exact Nat.le_trans this (by decide))
        have e1 : T (p + j) - 97 + 1 = ((T (p + j) - 96).toNat : Int) := by omega
        have ew := w_or (pkN T p j) (T (p + j) - 96).toNat hp35 (by omega)
        have ewz : (zl (pkN T p j : Int) <<< (Int32.toInt64 (zi 5) &&& zl 63)) ||| zl (T (p + j) - 97 + 1) = zl (pkN T p (j + 1) : Int) := by
          rw [e1]
          exact ew
        have ewy : (zl (pkN T p j : Int) <<< (zl 5 &&& zl 63)) ||| zl (T (p + j) - 97 + 1) = zl (pkN T p (j + 1) : Int) := ewz
        rw [ewy]
        have f1 : Fr PGo m (ml m 0 12 (zl (pkN T p (j + 1) : Int))) := Fr_ml _ _ rfl
        obtain ⟨m2, a1, a2, a3, a4, a5, a6⟩ := ih n (j + 1) _ (by omega) (by omega) (TXm_fr hX f1) (by rw [rd_ml]; exact h4) hl2 (by rw [rl_ml, if_pos ⟨rfl, rfl⟩, show min (j + 1) 8 = j + 1 by omega])
        exact ⟨m2, a1, a2, a3, a4, by rw [a5, rd_ml], Fr_tr f1 a6⟩
      · rw [if_neg (by omega)]
        exact ih n (j + 1) m (by omega) (by omega) hX h4 hl2 (by rw [show min (j + 1) 8 = min j 8 by omega]; exact hw)
    · exact fin n j m (by omega) hX h4 hl hw (fun _ => c)
theorem m_g146 (fu : Nat) {T : Nat → Int} {L p : Nat} (hp : p ≤ L) : ∀ (r n j : Nat) (m : Mem), p + j + r = L → r < n → TXm m T L → rd m 0 4 = zi (p : Int) → (∀ i, i < j → kdb (T (p + i)) = 2) → rd m 0 7 = zi (vlI T p (min j 3)) → ∃ m2, K_X12_goOn_146 fu n (zi (j : Int)) m = some m2 ∧ rd m2 0 6 = zi (if 3 < rnF T 2 (L - p) p then 4 else 2) ∧ rd m2 0 4 = zi ((p + rnF T 2 (L - p) p : Nat) : Int) ∧ rd m2 0 7 = zi (vlI T p (min (rnF T 2 (L - p) p) 3)) ∧ rd m2 0 5 = rd m 0 5 ∧ Fr PGo m m2 := by
  have fin : ∀ (n j : Nat) (m : Mem), p + j ≤ L → TXm m T L → rd m 0 4 = zi (p : Int) → (∀ i, i < j → kdb (T (p + i)) = 2) → rd m 0 7 = zi (vlI T p (min j 3)) → (p + j < L → kdb (T (p + j)) ≠ 2) → ∃ m2, K_X12_goOn_146 fu (n + 1) (zi (j : Int)) m = some m2 ∧ rd m2 0 6 = zi (if 3 < rnF T 2 (L - p) p then 4 else 2) ∧ rd m2 0 4 = zi ((p + rnF T 2 (L - p) p : Nat) : Int) ∧ rd m2 0 7 = zi (vlI T p (min (rnF T 2 (L - p) p) 3)) ∧ rd m2 0 5 = rd m 0 5 ∧ Fr PGo m m2 := fun n j m hj hX h4 hl hw he => by
    have hR : rnF T 2 (L - p) p = j := rnF_eq (by omega) hl (fun q => he (by omega))
    have h700 := hX.2.1
    have hh := m_here fu hX h4 (k := j) (by omega)
    obtain ⟨b, hb⟩ : ∃ b, b = if p + j < L then T (p + j) else -1 := ⟨_, rfl⟩
    rw [← hb] at hh
    have hb1 : -1 ≤ b ∧ b ≤ 255 ∧ ¬ (48 ≤ b ∧ b ≤ 57) := by
      rw [hb]
      by_cases q : p + j < L
      · rw [if_pos q]
        have := hX.1 (p + j)
        exact ⟨by omega, by omega, fun h => he q (kdb_2.mpr h)⟩
      · rw [if_neg q]
        omega
    have r4 : ∀ v, rd (mw m 0 6 v) 0 4 = zi (p : Int) := fun v => by
      rw [rd_mw, if_neg (by decide)]
      exact h4
    rw [hR, K_X12_goOn_146, hh, bd_s, m_isDigit fu m hb1.1 hb1.2.1, bd_s, decide_eq_false hb1.2.2, if_pos (show zi (bi false) = 0 from rfl)]
    unfold K_X12_goOn_199 K_X12_goOn_239
    simp (disch := omega) only [zi_lit, zl_lit, zi_add, zi_sub, zi_mul, zi_neg, zi_lt, zi_inj, zi_clamp, zl_of, gi_zi, bd_s, ltf, bi_0, bi_1, gb_bi, Int.reduceToNat, Int.reduceNeg, Int.toNat_natCast, r4]
    by_cases q : 3 < j
    · rw [if_pos (by omega), if_pos q]
      refine ⟨_, rfl, ?_, ?_, ?_, ?_, Fr_tr (Fr_mw _ _ rfl) (Fr_mw _ _ rfl)⟩
      · rw [rd_mw, if_neg (by decide), rd_mw, if_pos ⟨rfl, rfl⟩]
      · rw [rd_mw, if_pos ⟨rfl, rfl⟩]
        rfl
      · rw [rd_mw, if_neg (by decide), rd_mw, if_neg (by decide)]
        exact hw
      · rw [rd_mw, if_neg (by decide), rd_mw, if_neg (by decide)]
    · rw [if_neg (by omega), if_neg q]
      refine ⟨_, rfl, ?_, ?_, ?_, ?_, Fr_tr (Fr_mw _ _ rfl) (Fr_mw _ _ rfl)⟩
      · rw [rd_mw, if_neg (by decide), rd_mw, if_pos ⟨rfl, rfl⟩]
      · rw [rd_mw, if_pos ⟨rfl, rfl⟩]
        rfl
      · rw [rd_mw, if_neg (by decide), rd_mw, if_neg (by decide)]
        exact hw
      · rw [rd_mw, if_neg (by decide), rd_mw, if_neg (by decide)]
  intro r
  induction r with
  | zero =>
    intro n j m hj hn hX h4 hl hw
    obtain ⟨n, rfl⟩ : ∃ f, n = f + 1 := ⟨n - 1, by omega⟩
    exact fin n j m (by omega) hX h4 hl hw (fun h => by omega)
  | succ r ih =>
    intro n j m hj hn hX h4 hl hw
    obtain ⟨n, rfl⟩ : ∃ f, n = f + 1 := ⟨n - 1, by omega⟩
    by_cases c : kdb (T (p + j)) = 2
    · have h700 := hX.2.1
      have hh := m_here fu hX h4 (k := j) (by omega)
      rw [if_pos (by omega)] at hh
      have hb := hX.1 (p + j)
      have hk := kdb_2.mp c
      have hl2 : ∀ i, i < j + 1 → kdb (T (p + i)) = 2 := fun i hi => by
        by_cases q : i = j
        · rw [q]
          exact c
        · exact hl i (by omega)
      rw [K_X12_goOn_146, hh, bd_s, m_isDigit fu m (by omega) hb.2, bd_s, decide_eq_true hk, if_neg (show ¬ zi (bi true) = 0 by decide)]
      simp (disch := omega) only [zi_lit, zl_lit, zi_add, zi_sub, zi_mul, zi_neg, zi_lt, zi_inj, zi_clamp, zl_of, gi_zi, bd_s, ltf, bi_0, bi_1, gb_bi, Int.reduceToNat, Int.reduceNeg, Int.toNat_natCast, hw]
      by_cases q : j < 3
      · rw [if_pos (by omega), show min j 3 = j by omega]
        have f1 : Fr PGo m (mw m 0 7 (zi (10 * vlI T p j + T (p + j) - 48))) := Fr_mw _ _ rfl
        obtain ⟨m2, a1, a2, a3, a4, a5, a6⟩ := ih n (j + 1) _ (by omega) (by omega) (TXm_fr hX f1) (by rw [rd_mw, if_neg (by decide)]; exact h4) hl2 (by rw [rd_mw, if_pos ⟨rfl, rfl⟩, show min (j + 1) 3 = j + 1 by omega]; rfl)
        exact ⟨m2, a1, a2, a3, a4, by rw [a5, rd_mw, if_neg (by decide)], Fr_tr f1 a6⟩
      · rw [if_neg (by omega)]
        exact ih n (j + 1) m (by omega) (by omega) hX h4 hl2 (by rw [show min (j + 1) 3 = min j 3 by omega]; exact hw)
    · exact fin n j m (by omega) hX h4 hl hw (fun _ => c)
/-- the reference at a token -/
def RPm (m : Mem) (T : Nat → Int) (L p : Nat) : Prop := TXm m T L ∧ rd m 0 4 = zi ((p + tzi T L p : Nat) : Int) ∧ rd m 0 5 = zi (p : Int) ∧ rd m 0 6 = zi (if kkP T L p = 5 then 0 else (kkP T L p : Int)) ∧ (kkP T L p = 1 → rl m 0 12 = zl (pkN T p (tzi T L p) : Int)) ∧ (kkP T L p = 2 → rd m 0 7 = zi (vlI T p (tzi T L p))) ∧ (kkP T L p = 3 → rd m 0 7 = zi (T p))
theorem m_go0 (fu : Nat) (hfu : 1000 ≤ fu) {T : Nat → Int} {L : Nat} : ∀ (r n a : Nat) (m : Mem), a + r = L → r < n → TXm m T L → rd m 0 4 = zi (a : Int) → ∃ m2, K_X12_goOn_0 fu n m = some m2 ∧ RPm m2 T L (skp T L a) ∧ Fr PGo m m2 := by
  have tok : ∀ (n a : Nat) (m : Mem), a ≤ L → TXm m T L → rd m 0 4 = zi (a : Int) → (a < L → kdb (T a) ≠ 0) → ∃ m2, K_X12_goOn_0 fu (n + 1) m = some m2 ∧ RPm m2 T L a ∧ Fr PGo m m2 := fun n a m ha hX h4 hk => by
    have h700 := hX.2.1
    have hh : ∀ m : Mem, TXm m T L → rd m 0 4 = zi (a : Int) → K_X12_here fu (zi 0) m = some (zi (if a < L then T a else -1)) := fun m hX h4 => m_here fu hX h4 (k := 0) (by omega)
    obtain ⟨b, hb⟩ : ∃ b, b = if a < L then T a else -1 := ⟨_, rfl⟩
    rw [← hb] at hh
    have hb1 : -1 ≤ b ∧ b ≤ 255 := by
      rw [hb]
      by_cases q : a < L
      · rw [if_pos q]
        have := hX.1 a
        omega
      · rw [if_neg q]
        omega
    have hns : b ≠ 32 ∧ b ≠ 10 := by
      rw [hb]
      by_cases q : a < L
      · rw [if_pos q]
        have := hk q
        exact ⟨fun h => this (kdb_0.mpr (Or.inl h)), fun h => this (kdb_0.mpr (Or.inr h))⟩
      · rw [if_neg q]
        omega
    obtain ⟨m1, hm1⟩ : ∃ m1, m1 = mw (ml (mw m 0 5 (zi (a : Int))) 0 12 (zl 0)) 0 7 (zi 0) := ⟨_, rfl⟩
    have f1 : Fr PGo m m1 := by
      rw [hm1]
      exact Fr_tr (Fr_tr (Fr_mw _ _ rfl) (Fr_ml _ _ rfl)) (Fr_mw _ _ rfl)
    have hX1 := TXm_fr hX f1
    have g4 : rd m1 0 4 = zi (a : Int) := by
      rw [hm1, rd_mw, if_neg (by decide), rd_ml, rd_mw, if_neg (by decide)]
      exact h4
    have g5 : rd m1 0 5 = zi (a : Int) := by
      rw [hm1, rd_mw, if_neg (by decide), rd_ml, rd_mw, if_pos ⟨rfl, rfl⟩]
    have g7 : rd m1 0 7 = zi 0 := by rw [hm1, rd_mw, if_pos ⟨rfl, rfl⟩]
    have g12 : rl m1 0 12 = zl 0 := by rw [hm1, rl_mw, rl_ml, if_pos ⟨rfl, rfl⟩]
    rw [K_X12_goOn_0]
    simp (disch := omega) only [zi_lit, zl_lit, zi_add, zi_sub, zi_mul, zi_neg, zi_lt, zi_inj, zi_clamp, zl_of, gi_zi, bd_s, ltf, bi_0, bi_1, gb_bi, Int.reduceToNat, Int.reduceNeg, Int.toNat_natCast, hh m hX h4, h4, ← hm1, hh m1 hX1 g4, m_isLetter fu m1 hb1.1 hb1.2, m_isDigit fu m1 hb1.1 hb1.2]
    rw [if_neg hns.1, if_neg hns.2]
    by_cases q : a < L
    · rw [if_pos q] at hb
      have hT := hX.1 a
      have hkk : kkP T L a = (if kdb (T a) = 1 ∧ 8 < tzi T L a then 4 else if kdb (T a) = 2 ∧ 3 < tzi T L a then 4 else kdb (T a)) := if_pos q
      have htz : tzi T L a = (if kdb (T a) = 1 ∨ kdb (T a) = 2 then rnF T (kdb (T a)) (L - a) a else 1) := if_pos q
      rw [if_neg (by omega)]
      by_cases c1 : kdb (T a) = 1
      · rw [c1, if_pos (Or.inl rfl)] at htz
        rw [c1] at hkk
        rw [decide_eq_true (show 97 ≤ b ∧ b ≤ 122 by rw [hb]; exact kdb_1.mp c1), if_neg (show ¬ true = false by decide)]
        obtain ⟨m2, a1, a2, a3, a4, a5, a6⟩ := m_g76 fu (T := T) (L := L) (p := a) ha (L - a) fu 0 m1 (by omega) (by omega) hX1 g4 (fun i hi => absurd hi (Nat.not_lt_zero i)) g12
        rw [← htz] at a2 a3 a4
        refine ⟨m2, a1, ⟨TXm_fr hX1 a6, a3, a5.trans g5, ?_, fun h => ?_, fun h => ?_, fun h => ?_⟩, Fr_tr f1 a6⟩
        · by_cases q8 : 8 < tzi T L a
          · have e : kkP T L a = 4 := by rw [hkk, if_pos ⟨rfl, q8⟩]
            rw [a2, e, if_pos q8]
            rfl
          · have e : kkP T L a = 1 := by rw [hkk, if_neg (fun x => q8 x.2), if_neg (fun x => absurd x.1 (by decide))]
            rw [a2, e, if_neg q8]
            rfl
        · rw [a4]
          by_cases q8 : 8 < tzi T L a
          · rw [hkk, if_pos ⟨rfl, q8⟩] at h
            omega
          · rw [show min (tzi T L a) 8 = tzi T L a by omega]
        · rw [hkk] at h
          exfalso
          by_cases q8 : 8 < tzi T L a
          · rw [if_pos ⟨rfl, q8⟩] at h
            omega
          · rw [if_neg (fun x => q8 x.2), if_neg (fun x => absurd x.1 (by decide))] at h
            omega
        · rw [hkk] at h
          exfalso
          by_cases q8 : 8 < tzi T L a
          · rw [if_pos ⟨rfl, q8⟩] at h
            omega
          · rw [if_neg (fun x => q8 x.2), if_neg (fun x => absurd x.1 (by decide))] at h
            omega
      · rw [decide_eq_false (show ¬ (97 ≤ b ∧ b ≤ 122) by rw [hb]; exact fun h => c1 (kdb_1.mpr h)), if_pos (show false = false from rfl)]
        by_cases c2 : kdb (T a) = 2
        · rw [c2, if_pos (Or.inr rfl)] at htz
          rw [c2, if_neg (by omega)] at hkk
          rw [decide_eq_true (show 48 ≤ b ∧ b ≤ 57 by rw [hb]; exact kdb_2.mp c2), if_neg (show ¬ true = false by decide)]
          obtain ⟨m2, a1, a2, a3, a4, a5, a6⟩ := m_g146 fu (T := T) (L := L) (p := a) ha (L - a) fu 0 m1 (by omega) (by omega) hX1 g4 (fun i hi => absurd hi (Nat.not_lt_zero i)) g7
          rw [← htz] at a2 a3 a4
          refine ⟨m2, a1, ⟨TXm_fr hX1 a6, a3, a5.trans g5, ?_, fun h => ?_, fun h => ?_, fun h => ?_⟩, Fr_tr f1 a6⟩
          · by_cases q8 : 3 < tzi T L a
            · have e : kkP T L a = 4 := by rw [hkk, if_pos ⟨rfl, q8⟩]
              rw [a2, e, if_pos q8]
              rfl
            · have e : kkP T L a = 2 := by rw [hkk, if_neg (fun x => q8 x.2)]
              rw [a2, e, if_neg q8]
              rfl
          · rw [hkk] at h
            exfalso
            by_cases q8 : 3 < tzi T L a
            · rw [if_pos ⟨rfl, q8⟩] at h
              omega
            · rw [if_neg (fun x => q8 x.2)] at h
              omega
          · rw [a4]
            by_cases q8 : 3 < tzi T L a
            · rw [hkk, if_pos ⟨rfl, q8⟩] at h
              omega
            · rw [show min (tzi T L a) 3 = tzi T L a by omega]
          · rw [hkk] at h
            exfalso
            by_cases q8 : 3 < tzi T L a
            · rw [if_pos ⟨rfl, q8⟩] at h
              omega
            · rw [if_neg (fun x => q8 x.2)] at h
              omega
        · rw [decide_eq_false (show ¬ (48 ≤ b ∧ b ≤ 57) by rw [hb]; exact fun h => c2 (kdb_2.mpr h)), if_pos (show false = false from rfl)]
          rw [if_neg (by omega)] at htz
          rw [if_neg (by omega), if_neg (by omega)] at hkk
          have hk4 := kdb_le (T a)
          have hk0 := hk q
          have one : ∀ v : Int, v = (kdb (T a) : Int) → (kdb (T a) = 3 ∨ kdb (T a) = 4) → ∃ m2, K_X12_goOn_229 fu (zi b) (zi v) m1 = some m2 ∧ RPm m2 T L a ∧ Fr PGo m m2 := fun v hv hv2 => by
            have r4 : ∀ x y, rd (mw (mw m1 0 6 x) 0 7 y) 0 4 = zi (a : Int) := fun x y => by
              rw [rd_mw, if_neg (by decide), rd_mw, if_neg (by decide)]
              exact g4
            have f2 : Fr PGo m1 (mw (mw (mw m1 0 6 (zi v)) 0 7 (zi b)) 0 4 (zi ((a : Int) + 1))) := Fr_tr (Fr_tr (Fr_mw _ _ rfl) (Fr_mw _ _ rfl)) (Fr_mw _ _ rfl)
            refine ⟨_, ?_, ⟨TXm_fr hX1 f2, ?_, ?_, ?_, fun h => ?_, fun h => ?_, fun h => ?_⟩, Fr_tr f1 f2⟩
            · unfold K_X12_goOn_229 K_X12_goOn_239
              simp (disch := omega) only [zi_lit, zl_lit, zi_add, zi_sub, zi_mul, zi_neg, zi_lt, zi_inj, zi_clamp, zl_of, gi_zi, bd_s, ltf, bi_0, bi_1, gb_bi, Int.reduceToNat, Int.reduceNeg, Int.toNat_natCast, r4]
            · rw [rd_mw, if_pos ⟨rfl, rfl⟩, htz]
              rfl
            · rw [rd_mw, if_neg (by decide), rd_mw, if_neg (by decide), rd_mw, if_neg (by decide)]
              exact g5
            · rw [rd_mw, if_neg (by decide), rd_mw, if_neg (by decide), rd_mw, if_pos ⟨rfl, rfl⟩, hv, hkk, if_neg (by omega)]
            · rw [hkk] at h
              omega
            · rw [hkk] at h
              omega
            · rw [rd_mw, if_neg (by decide), rd_mw, if_pos ⟨rfl, rfl⟩, hb]
          unfold K_X12_goOn_224
          by_cases c3 : kdb (T a) = 3
          · have h3 := kdb_3.mp c3
            rw [← hb] at h3
            have h := one 3 (by rw [c3]; rfl) (Or.inl c3)
            rcases h3 with h3 | h3 | h3
            · rw [if_pos h3]
              exact h
            · rw [if_neg (by omega), if_pos h3]
              exact h
            · rw [if_neg (by omega), if_neg (by omega), if_pos h3]
              exact h
          · have h3 : ¬ (b = 59 ∨ b = 40 ∨ b = 41) := fun x => c3 (kdb_3.mpr (by rw [← hb]; exact x))
            have c4 : kdb (T a) = 4 := by omega
            rw [if_neg (fun x => h3 (Or.inl x)), if_neg (fun x => h3 (Or.inr (Or.inl x))), if_neg (fun x => h3 (Or.inr (Or.inr x)))]
            exact one 4 (by rw [c4]; rfl) (Or.inr c4)
    · rw [if_neg q] at hb
      have hkk : kkP T L a = 5 := if_neg q
      rw [if_pos (by omega)]
      have f2 : Fr PGo m1 (mw m1 0 6 (zi 0)) := Fr_mw _ _ rfl
      refine ⟨_, rfl, ⟨TXm_fr hX1 f2, ?_, ?_, ?_, fun h => ?_, fun h => ?_, fun h => ?_⟩, Fr_tr f1 f2⟩
      · rw [rd_mw, if_neg (by decide), g4, tz_L (by omega)]
        rfl
      · rw [rd_mw, if_neg (by decide)]
        exact g5
      · rw [rd_mw, if_pos ⟨rfl, rfl⟩, hkk]
        rfl
      · rw [hkk] at h
        omega
      · rw [hkk] at h
        omega
      · rw [hkk] at h
        omega
  intro r
  induction r with
  | zero =>
    intro n a m ha hn hX h4
    obtain ⟨n, rfl⟩ : ∃ f, n = f + 1 := ⟨n - 1, by omega⟩
    rw [skp_L (by omega)]
    exact tok n a m (by omega) hX h4 (fun h => by omega)
  | succ r ih =>
    intro n a m ha hn hX h4
    obtain ⟨n, rfl⟩ : ∃ f, n = f + 1 := ⟨n - 1, by omega⟩
    by_cases c : kdb (T a) = 0
    · have h700 := hX.2.1
      have hh : K_X12_here fu (zi 0) m = some (zi (if a < L then T a else -1)) := m_here fu hX h4 (k := 0) (by omega)
      rw [if_pos (by omega)] at hh
      have hT := hX.1 a
      rw [skp_sp (by omega) c]
      have f1 : Fr PGo m (mw m 0 4 (zi ((a : Int) + 1))) := Fr_mw _ _ rfl
      obtain ⟨m2, a1, a2, a3⟩ := ih n (a + 1) (mw m 0 4 (zi ((a : Int) + 1))) (by omega) (by omega) (TXm_fr hX f1) (by rw [rd_mw, if_pos ⟨rfl, rfl⟩]; rfl)
      refine ⟨m2, ?_, a2, Fr_tr f1 a3⟩
      rw [K_X12_goOn_0]
      unfold K_X12_goOn_20
      simp (disch := omega) only [zi_lit, zl_lit, zi_add, zi_sub, zi_mul, zi_neg, zi_lt, zi_inj, zi_clamp, zl_of, gi_zi, bd_s, ltf, bi_0, bi_1, gb_bi, Int.reduceToNat, Int.reduceNeg, Int.toNat_natCast, hh, h4]
      rcases kdb_0.mp c with q | q
      · rw [if_pos q]
        exact a1
      · rw [if_neg (by omega), if_pos q]
        exact a1
    · rw [skp_no (by omega) c]
      exact tok n a m (by omega) hX h4 (fun _ => c)
theorem m_goOn (fu : Nat) (hfu : 1000 ≤ fu) {T : Nat → Int} {L n : Nat} {m : Mem} (h : RPm m T L (tpo T L n)) : ∃ m2, K_X12_goOn fu m = some m2 ∧ RPm m2 T L (tpo T L (n + 1)) ∧ Fr PGo m m2 := by
  have h700 := h.1.2.1
  have hle : tpo T L n + tzi T L (tpo T L n) ≤ L := by
    by_cases q : tpo T L n < L
    · exact (tz_le q).2
    · have := tp_le T L n
      rw [tz_L (by omega)]
      omega
  exact m_go0 fu hfu (L - (tpo T L n + tzi T L (tpo T L n))) fu (tpo T L n + tzi T L (tpo T L n)) m (by omega) (by omega) h.1 h.2.1
theorem m_goOn0 (fu : Nat) (hfu : 1000 ≤ fu) {T : Nat → Int} {L : Nat} {m : Mem} (hX : TXm m T L) (h4 : rd m 0 4 = zi 0) : ∃ m2, K_X12_goOn fu m = some m2 ∧ RPm m2 T L (tpo T L 0) ∧ Fr PGo m m2 := by
  have h700 := hX.2.1
  exact m_go0 fu hfu L fu 0 m (by omega) (by omega) hX h4
end LEXM
