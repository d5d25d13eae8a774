section WRDM
def sBI (t j : Nat) : Int := (sByt t j).toInt
def Wt (t : Nat) : Nat := pkN (sBI t) 0 (sLen t)
theorem sB_all : ∀ t, t < 22 → sLen t ≤ 8 ∧ ∀ j, j < 8 → j < sLen t → UInt32.toInt32 (Int32.toUInt32 (sByt t j &&& 255) % 65536) = sByt t j ∧ (97 ≤ sBI t j ∧ sBI t j ≤ 122) ∧ UInt32.toInt32 (Int32.toUInt32 (sByt t j) % 65536) = sByt t j := by
  have h : ∀ t : Fin 22, sLen t.1 ≤ 8 ∧ ∀ j : Fin 8, j.1 < sLen t.1 → UInt32.toInt32 (Int32.toUInt32 (sByt t.1 j.1 &&& 255) % 65536) = sByt t.1 j.1 ∧ (97 ≤ sBI t.1 j.1 ∧ sBI t.1 j.1 ≤ 122) ∧ UInt32.toInt32 (Int32.toUInt32 (sByt t.1 j.1) % 65536) = sByt t.1 j.1 := by decide +kernel
  exact fun t ht => ⟨(h ⟨t, ht⟩).1, fun j hj hl => (h ⟨t, ht⟩).2 ⟨j, hj⟩ hl⟩
theorem c_charAt (fu : Nat) (c : Mem) {t j : Nat} (ht : t < 22) (hj : j < sLen t) : K_J0_charAt_5068e fu t (zi (j : Int)) c = some (zi (sBI t j), c) := by
  obtain ⟨h1, h2⟩ := sB_all t ht
  obtain ⟨h3, h4, h5⟩ := h2 j (by omega) hj
  have e : zi (sBI t j) = sByt t j := zi_of _
  have i1 : (zi (j : Int)).toNatClampNeg = j := by
    rw [zi_clamp (by omega) (by omega)]
    exact Int.toNat_natCast j
  have hl : K_J0_isLatin1_aae02 fu t c = some 1 := rfl
  unfold K_J0_charAt_5068e K_J1_charAt_3b067 K_J0_checkIndex_df160 K_J3_checkIndex_8e157
  rw [hl, bd_s, if_neg (by decide), ofNat_zi, i1, h3]
  have hg : ∀ o : Option Int32, gc (sByt t j) o = o := fun o => if_pos h5
  have hg2 : ∀ o : Option (Int32 × Mem), gc (sByt t j) o = o := fun o => if_pos h5
  simp (disch := omega) only [zi_lit, zl_lit, zi_add, zi_sub, zi_mul, zi_neg, zi_lt, zi_inj, zi_clamp, zl_of, gi_zi, bd_s, ltf, bi_0, bi_1, gb_bi, Int.reduceToNat, Int.reduceNeg, Int.toNat_natCast]
  rw [if_neg (by omega), if_pos (by omega), bd_s, bd_s, hg, bd_s, hg2, e]
/-- packing tells words apart -/
theorem pk_inj {T U : Nat → Int} {i : Nat} : ∀ k n : Nat, (∀ j, j < k → kdb (T (i + j)) = 1) → (∀ j, j < n → kdb (U j) = 1) → (pkN T i k = pkN U 0 n ↔ k = n ∧ ∀ j, j < n → T (i + j) = U j) := by
  intro k
  induction k with
  | zero =>
    intro n _ hU
    cases n with
    | zero => exact ⟨fun _ => ⟨rfl, fun j hj => absurd hj (Nat.not_lt_zero j)⟩, fun _ => rfl⟩
    | succ n =>
      have h2 := kdb_1.mp (hU n (by omega))
      refine ⟨fun h => ?_, fun h => absurd h.1 (by omega)⟩
      rw [pkN, pkN, Nat.zero_add] at h
      omega
  | succ k ih =>
    intro n hT hU
    have h1 := kdb_1.mp (hT k (by omega))
    cases n with
    | zero =>
      refine ⟨fun h => ?_, fun h => absurd h.1 (by omega)⟩
      rw [pkN, pkN] at h
      omega
    | succ n =>
      have h2 := kdb_1.mp (hU n (by omega))
      have h3 := ih n (fun j hj => hT j (by omega)) (fun j hj => hU j (by omega))
      rw [pkN, pkN, Nat.zero_add]
      refine ⟨fun h => ?_, fun h => ?_⟩
      · have e1 : pkN T i k = pkN U 0 n := by omega
        obtain ⟨e2, e3⟩ := h3.mp e1
        refine ⟨by omega, fun j hj => ?_⟩
        by_cases q : j = n
        · rw [q]
          rw [e2] at h h1
          omega
        · exact e3 j (by omega)
      · have e2 : k = n := by omega
        have e1 := h3.mpr ⟨e2, fun j hj => h.2 j (by omega)⟩
        have e4 := h.2 n (by omega)
        rw [e1, e2, e4]
/-- the words of the class, packed -/
theorem Wt_all : (Wt 0 = 2590276 ∧ Wt 1 = 24162707 ∧ Wt 2 = 526062 ∧ Wt 3 = 15190664 ∧ Wt 4 = 165492 ∧ Wt 5 = 20436616 ∧ Wt 6 = 759412 ∧ Wt 7 = 2094) ∧ (Wt 8 = 66667 ∧ Wt 9 = 1279278 ∧ Wt 10 = 5969497 ∧ Wt 11 = 52 ∧ Wt 12 = 215533 ∧ Wt 13 = 655 ∧ Wt 14 = 2505835 ∧ Wt 15 = 12769452 ∧ Wt 16 = 23104625940) := by decide +kernel
/-- whether a token is a word -/
def wB (T : Nat → Int) (L p W : Nat) : Bool := decide (kkP T L p = 1 ∧ pkN T p (tzi T L p) = W)
theorem kk_1 {T : Nat → Int} {L p : Nat} (h : kkP T L p = 1) : p < L ∧ kdb (T p) = 1 ∧ tzi T L p ≤ 8 ∧ tsz T L p = tzi T L p ∧ 1 ≤ tzi T L p ∧ p + tzi T L p ≤ L ∧ ∀ j, j < tzi T L p → kdb (T (p + j)) = 1 := by
  unfold kkP at h
  by_cases q : p < L
  · rw [if_pos q] at h
    have hk := kdb_le (T p)
    by_cases q1 : kdb (T p) = 1 ∧ 8 < tzi T L p
    · rw [if_pos q1] at h
      omega
    · rw [if_neg q1] at h
      by_cases q2 : kdb (T p) = 2 ∧ 3 < tzi T L p
      · rw [if_pos q2] at h
        omega
      · rw [if_neg q2] at h
        have h2 := tz_le (T := T) q
        refine ⟨q, h, by omega, if_pos q, h2.1, h2.2, fun j hj => ?_⟩
        unfold tzi at hj
        rw [if_pos q, if_pos (Or.inl h), h] at hj
        exact (rnF_le (L - p) p).2.1 j hj
  · rw [if_neg q] at h
    omega
theorem kk_2 {T : Nat → Int} {L p : Nat} (h : kkP T L p = 2) : p < L ∧ kdb (T p) = 2 ∧ tzi T L p ≤ 3 ∧ tsz T L p = tzi T L p ∧ 1 ≤ tzi T L p ∧ p + tzi T L p ≤ L ∧ ∀ j, j < tzi T L p → kdb (T (p + j)) = 2 := by
  unfold kkP at h
  by_cases q : p < L
  · rw [if_pos q] at h
    have hk := kdb_le (T p)
    by_cases q1 : kdb (T p) = 1 ∧ 8 < tzi T L p
    · rw [if_pos q1] at h
      omega
    · rw [if_neg q1] at h
      by_cases q2 : kdb (T p) = 2 ∧ 3 < tzi T L p
      · rw [if_pos q2] at h
        omega
      · rw [if_neg q2] at h
        have h2 := tz_le (T := T) q
        refine ⟨q, h, by omega, if_pos q, h2.1, h2.2, fun j hj => ?_⟩
        unfold tzi at hj
        rw [if_pos q, if_pos (Or.inr h), h] at hj
        exact (rnF_le (L - p) p).2.1 j hj
  · rw [if_neg q] at h
    omega
theorem kk_3 {T : Nat → Int} {L p : Nat} (h : kkP T L p = 3) : p < L ∧ kdb (T p) = 3 := by
  unfold kkP at h
  by_cases q : p < L
  · rw [if_pos q] at h
    by_cases q1 : kdb (T p) = 1 ∧ 8 < tzi T L p
    · rw [if_pos q1] at h
      omega
    · rw [if_neg q1] at h
      by_cases q2 : kdb (T p) = 2 ∧ 3 < tzi T L p
      · rw [if_pos q2] at h
        omega
      · rw [if_neg q2] at h
        exact ⟨q, h⟩
  · rw [if_neg q] at h
    omega
theorem kk_le (T : Nat → Int) (L p : Nat) : 1 ≤ kkP T L p ∧ kkP T L p ≤ 5 ∨ (p < L ∧ kdb (T p) = 0) := by
  unfold kkP
  by_cases q : p < L
  · have hk := kdb_le (T p)
    rw [if_pos q]
    by_cases q1 : kdb (T p) = 1 ∧ 8 < tzi T L p
    · rw [if_pos q1]
      omega
    · rw [if_neg q1]
      by_cases q2 : kdb (T p) = 2 ∧ 3 < tzi T L p
      · rw [if_pos q2]
        omega
      · rw [if_neg q2]
        omega
  · rw [if_neg q]
    omega
theorem kk_n (T : Nat → Int) (L n : Nat) : 1 ≤ kkP T L (tpo T L n) ∧ kkP T L (tpo T L n) ≤ 5 := by
  rcases kk_le T L (tpo T L n) with h | h
  · exact h
  · exact absurd h.2 (tp_k T L n h.1)
theorem c_iw23 (fu : Nat) {c : Mem} {T : Nat → Int} {L p t : Nat} (hX : TXc c T L) (ht : t < 22) (h8 : rd c 2 8 = zi (p : Int)) (h9 : rd c 2 9 = zi (sLen t : Int)) (hp : p + sLen t ≤ L) : ∀ (r n j : Nat), j + r = sLen t → r < n → (∀ i, i < j → T (p + i) = sBI t i) → K_X9_isWord_23 fu t n (zi (j : Int)) c = some (zi (bi (decide (∀ i, i < sLen t → T (p + i) = sBI t i))), c) := by
  intro r
  have h700 := hX.2.1
  have hs8 := (sB_all t ht).1
  induction r with
  | zero =>
    intro n j hj hn hl
    obtain ⟨n, rfl⟩ : ∃ f, n = f + 1 := ⟨n - 1, by omega⟩
    rw [K_X9_isWord_23, h9]
    simp (disch := omega) only [zi_lit, zl_lit, zi_add, zi_sub, zi_mul, zi_neg, zi_lt, zi_inj, zi_clamp, zl_of, gi_zi, bd_s, ltf, bi_0, bi_1, gb_bi, Int.reduceToNat, Int.reduceNeg, Int.toNat_natCast]
    rw [if_neg (by omega), decide_eq_true (fun i hi => hl i (by omega))]
    rfl
  | succ r ih =>
    intro n j hj hn hl
    obtain ⟨n, rfl⟩ : ∃ f, n = f + 1 := ⟨n - 1, by omega⟩
    obtain ⟨x1, x2, x3, x4⟩ := hX
    have hb := x1 (p + j)
    have hch := c_charAt fu c ht (j := j) (by omega)
    obtain ⟨hr1, hr2⟩ := ((sB_all t ht).2 j (by omega) (by omega)).2.1
    have i1 : ((p : Int) + (j : Int)).toNat = p + j := by omega
    have hs : -128 ≤ sgn8 (T (p + j)) ∧ sgn8 (T (p + j)) ≤ 127 ∧ (sgn8 (T (p + j)) = sBI t j ↔ T (p + j) = sBI t j) := by
      unfold sgn8
      split
      · omega
      · omega
    have hrec := ih n (j + 1) (by omega) (by omega)
    rw [K_X9_isWord_23, h9]
    simp (disch := omega) only [zi_lit, zl_lit, zi_add, zi_sub, zi_mul, zi_neg, zi_lt, zi_inj, zi_clamp, zl_of, gi_zi, bd_s, ltf, bi_0, bi_1, gb_bi, Int.reduceToNat, Int.reduceNeg, Int.toNat_natCast, h8, x3, i1, x4 (p + j) (by omega), hch]
    rw [if_pos (by omega), if_neg (by omega), if_pos (by omega), if_pos (by omega)]
    by_cases q : T (p + j) = sBI t j
    · rw [if_pos (hs.2.2.mpr q)]
      exact hrec (fun i hi => by
        by_cases q2 : i = j
        · rw [q2]
          exact q
        · exact hl i (by omega))
    · rw [if_neg (fun h => q (hs.2.2.mp h)), decide_eq_false (fun h => q (h j (by omega)))]
      rfl
/-- the class asks whether the token is a word -/
theorem c_isWord (fu : Nat) (hfu : 1000 ≤ fu) {c : Mem} {T : Nat → Int} {L N n : Nat} (h : TSc c T L N) (hB : PcB c T L N n) {t : Nat} (ht : t < 22) {W : Nat} (hW : Wt t = W) : K_X9_isWord fu t c = some (zi (bi (wB T L (tpo T L n) W)), c) := by
  obtain ⟨b1, b2, b3, b4⟩ := hB
  obtain ⟨hs8, hs⟩ := sB_all t ht
  have hkk := kk_n T L n
  have hz : tsz T L (tpo T L n) ≤ 700 := by
    have h700 := h.1.2.1
    unfold tsz
    split
    · have := (tz_le (T := T) (by assumption : tpo T L n < L)).2
      omega
    · omega
  have hl : K_J0_length_8abf5 fu t c = some (zi (sLen t : Int)) := by
    show some (Int32.ofNat (sLen t) >>> ((0 : Int32) &&& 31)) = _
    have h22 : ∀ t : Fin 22, Int32.ofNat (sLen t.1) >>> ((0 : Int32) &&& 31) = zi (sLen t.1 : Int) := by decide +kernel
    exact congrArg some (h22 ⟨t, ht⟩)
  unfold K_X9_isWord
  simp (disch := omega) only [zi_lit, zl_lit, zi_add, zi_sub, zi_mul, zi_neg, zi_lt, zi_inj, zi_clamp, zl_of, gi_zi, bd_s, ltf, bi_0, bi_1, gb_bi, Int.reduceToNat, Int.reduceNeg, Int.toNat_natCast, b2, hl, b4]
  unfold wB
  by_cases q1 : kkP T L (tpo T L n) = 1
  · rw [if_pos (by omega)]
    obtain ⟨k1, k2, k3, k4, k5, k6, k7⟩ := kk_1 q1
    have hpk := pk_inj (T := T) (U := sBI t) (i := tpo T L n) (tzi T L (tpo T L n)) (sLen t) k7 (fun j hj => kdb_1.mpr (hs j (by omega) hj).2.1)
    rw [k4]
    rw [k4] at b4
    by_cases q2 : tzi T L (tpo T L n) = sLen t
    · rw [if_pos (by omega)]
      rw [q2] at b4
      have e0 := c_iw23 fu h.1 ht b3 b4 (by omega) (sLen t) fu 0 (by omega) (by omega) (fun i hi => absurd hi (Nat.not_lt_zero i))
      refine e0.trans ?_
      refine congrArg (fun b => some (zi (bi b), c)) ?_
      refine decide_eq_decide.mpr ⟨fun hh => ⟨q1, ?_⟩, fun hh => ?_⟩
      · rw [← hW]
        exact hpk.mpr ⟨q2, hh⟩
      · exact (hpk.mp (hh.2.trans hW.symm)).2
    · rw [if_neg (by omega), decide_eq_false (fun hh => q2 (hpk.mp (hh.2.trans hW.symm)).1)]
      rfl
  · rw [if_neg (by omega), decide_eq_false (fun hh => q1 hh.1)]
    rfl
/-- the class's error -/
theorem c_fail (fu : Nat) (c : Mem) {e p : Int} (h8 : rd c 2 8 = zi p) : ∃ c2, K_X9_fail fu (zi e) c = some (zi 0, c2) ∧ ECc c2 e p ∧ (∀ j, j ≠ 11 → j ≠ 12 → rd c2 2 j = rd c 2 j) ∧ Fr P2t c c2 := by
  refine ⟨mw (mw c 2 11 (zi e)) 2 12 (zi p), ?_, ⟨?_, ?_⟩, fun j h1 h2 => ?_, Fr_tr (Fr_mw _ _ rfl) (Fr_mw _ _ rfl)⟩
  · have e8 : rd (mw c 2 11 (zi e)) 2 8 = zi p := by
      rw [rd_mw, if_neg (by decide)]
      exact h8
    unfold K_X9_fail
    simp (disch := omega) only [zi_lit, zl_lit, zi_add, zi_sub, zi_mul, zi_neg, zi_lt, zi_inj, zi_clamp, zl_of, gi_zi, bd_s, ltf, bi_0, bi_1, gb_bi, Int.reduceToNat, Int.reduceNeg, Int.toNat_natCast, e8]
  · rw [rd_mw, if_neg (by decide), rd_mw, if_pos ⟨rfl, rfl⟩]
  · rw [rd_mw, if_pos ⟨rfl, rfl⟩]
  · rw [rd_mw, if_neg (fun q => h2 q.2), rd_mw, if_neg (fun q => h1 q.2)]
theorem PcB_fr {c c2 : Mem} {T : Nat → Int} {L N n : Nat} (h : PcB c T L N n) (f : ∀ j, 6 ≤ j → j ≤ 9 → rd c2 2 j = rd c 2 j) : PcB c2 T L N n := by
  obtain ⟨b1, b2, b3, b4⟩ := h
  exact ⟨(f 6 (by decide) (by decide)).trans b1, (f 7 (by decide) (by decide)).trans b2, (f 8 (by decide) (by decide)).trans b3, (f 9 (by decide) (by decide)).trans b4⟩
end WRDM
