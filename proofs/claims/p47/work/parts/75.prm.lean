section PRMM
def PGe (k j : Nat) : Bool := k == 0 && (decide (4 ≤ j) && decide (j ≤ 9) || j == 12)
theorem PGo_PGe {k j : Nat} (h : PGe k j = false) : PGo k j = false := by
  unfold PGe at h
  unfold PGo
  by_cases q : k = 0
  · have e0 : (k == 0) = true := by rw [q]; rfl
    rw [e0, Bool.true_and] at h ⊢
    have h1 := (Bool.or_eq_false_iff.mp h).1
    have h2 := (Bool.or_eq_false_iff.mp h).2
    rw [h2, Bool.or_false]
    by_cases q4 : 4 ≤ j
    · rw [decide_eq_true q4, Bool.true_and] at h1 ⊢
      have := of_decide_eq_false h1
      exact decide_eq_false (by omega)
    · rw [decide_eq_false q4]
      rfl
  · have e2 : (k == 0) = false := by simp [q]
    rw [e2]
    rfl
theorem kz_eq {k : Nat} {v : Int} (hk : 1 ≤ k ∧ k ≤ 5) (hv : 1 ≤ v ∧ v ≤ 4) : (zi (if k = 5 then 0 else (k : Int)) = zi v) = ((k : Int) = v) := by
  by_cases q : k = 5
  · rw [if_pos q, zi_inj (by omega) (by omega) (by omega) (by omega)]
    exact propext (by omega)
  · rw [if_neg q, zi_inj (by omega) (by omega) (by omega) (by omega)]
def CAr (c : Mem) (T : Nat → Int) (L N n : Nat) : Prop := TSc c T L N ∧ PcA c N n ∧ ECc c 0 (-1)
def CBr (c : Mem) (T : Nat → Int) (L N n : Nat) : Prop := TSc c T L N ∧ PcB c T L N n ∧ ECc c 0 (-1)
def GMr (m : Mem) (T : Nat → Int) (L n : Nat) : Prop := RPm m T L (tpo T L n) ∧ rd m 0 8 = zi 0 ∧ rd m 0 9 = zi (-1)
def BDr (m : Mem) (e p : Int) : Prop := (1 ≤ e ∧ e ≤ 6) ∧ rd m 0 8 = zi e ∧ rd m 0 9 = zi p
/-- both have come upon the same error -/
def EBr (c m : Mem) : Prop := ∃ e : Int, ∃ p : Nat, p ≤ 700 ∧ ECc c e p ∧ BDr m e p
theorem CB_A {c : Mem} {T : Nat → Int} {L N n : Nat} (h : CBr c T L N n) : CAr c T L N (n + 1) := ⟨h.1, h.2.1.1, h.2.2⟩
theorem CA_fr {c c2 : Mem} {T : Nat → Int} {L N n : Nat} {P : Nat → Nat → Bool} (h : CAr c T L N n) (f : Fr P c c2) (hP : ∀ k j, 2 ≤ k → k ≤ 6 → P k j = false) : CAr c2 T L N n := by
  obtain ⟨⟨⟨a1, a2, a3, a4⟩, b1, b2, b3, b4, b5, b6, b7⟩, h2, h3, h4⟩ := h
  have g : ∀ k j, 2 ≤ k → k ≤ 6 → rd c2 k j = rd c k j := fun k j x y => f.1 _ _ (hP k j x y)
  refine ⟨⟨⟨a1, a2, (g _ _ (by decide) (by decide)).trans a3, fun i hi => (g _ _ (by decide) (by decide)).trans (a4 i hi)⟩, b1, (g _ _ (by decide) (by decide)).trans b2, fun m hm => ?_, b4, (g _ _ (by decide) (by decide)).trans b5, (g _ _ (by decide) (by decide)).trans b6, (g _ _ (by decide) (by decide)).trans b7⟩, (g _ _ (by decide) (by decide)).trans h2, (g _ _ (by decide) (by decide)).trans h3, (g _ _ (by decide) (by decide)).trans h4⟩
  obtain ⟨k1, k2, k3, k4⟩ := b3 m hm
  exact ⟨k1, (g _ _ (by decide) (by decide)).trans k2, (g _ _ (by decide) (by decide)).trans k3, (g _ _ (by decide) (by decide)).trans k4⟩
theorem CB_fr {c c2 : Mem} {T : Nat → Int} {L N n : Nat} {P : Nat → Nat → Bool} (h : CBr c T L N n) (f : Fr P c c2) (hP : ∀ k j, 2 ≤ k → k ≤ 6 → P k j = false) : CBr c2 T L N n := by
  have hA := CA_fr (CB_A h) f hP
  exact ⟨hA.1, PcB_fr h.2.1 (fun j _ _ => f.1 _ _ (hP 2 j (by decide) (by decide))), hA.2.2⟩
theorem GM_fr {m m2 : Mem} {T : Nat → Int} {L n : Nat} {P : Nat → Nat → Bool} (h : GMr m T L n) (f : Fr P m m2) (hP : ∀ j, j ≤ 12 → P 0 j = false) (hP1 : ∀ j, P 1 j = false) : GMr m2 T L n := by
  obtain ⟨⟨⟨x1, x2, x3, x4⟩, a2, a3, a4, a5, a6, a7⟩, h2, h3⟩ := h
  have g : ∀ j, j ≤ 12 → rd m2 0 j = rd m 0 j := fun j x => f.1 _ _ (hP j x)
  exact ⟨⟨⟨x1, x2, (g _ (by decide)).trans x3, fun i hi => (f.1 _ _ (hP1 i)).trans (x4 i hi)⟩, (g _ (by decide)).trans a2, (g _ (by decide)).trans a3, (g _ (by decide)).trans a4, fun x => (f.2 _ _ (hP 12 (by decide))).trans (a5 x), fun x => (g _ (by decide)).trans (a6 x), fun x => (g _ (by decide)).trans (a7 x)⟩, (g _ (by decide)).trans h2, (g _ (by decide)).trans h3⟩
theorem GM_700 {m : Mem} {T : Nat → Int} {L n : Nat} (h : GMr m T L n) : L ≤ 700 := h.1.1.2.1
theorem p_adv (fu : Nat) {c : Mem} {T : Nat → Int} {L N n : Nat} (h : CAr c T L N n) (hn : n ≤ 5000) : ∃ c2, K_X9_advance fu c = some c2 ∧ CBr c2 T L N n ∧ Fr P2t c c2 := by
  obtain ⟨c2, a1, a2, a3, a4, a5⟩ := c_adv fu h.1 h.2.1 hn
  exact ⟨c2, a1, ⟨a2, a3, (a4 11 (by decide)).trans h.2.2.1, (a4 12 (by decide)).trans h.2.2.2⟩, a5⟩
theorem p_go (fu : Nat) (hfu : 1000 ≤ fu) {m : Mem} {T : Nat → Int} {L n : Nat} (h : GMr m T L n) : ∃ m2, K_X12_goOn fu m = some m2 ∧ GMr m2 T L (n + 1) ∧ Fr PGe m m2 := by
  obtain ⟨m2, a1, a2, a3⟩ := m_goOn fu hfu h.1
  exact ⟨m2, a1, ⟨a2, (a3.1 _ _ rfl).trans h.2.1, (a3.1 _ _ rfl).trans h.2.2⟩, Fr_mono a3 (fun _ _ => PGo_PGe)⟩
theorem g_isGood (fu : Nat) {m : Mem} (h : rd m 0 8 = zi 0) : K_X12_isGood fu m = some (zi 1) := if_pos h
theorem b_isGood (fu : Nat) {m : Mem} {e p : Int} (h : BDr m e p) : K_X12_isGood fu m = some (zi 0) := by
  unfold K_X12_isGood
  rw [h.2.1]
  have := h.1
  simp (disch := omega) only [zi_lit, zl_lit, zi_add, zi_sub, zi_mul, zi_neg, zi_lt, zi_inj, zi_clamp, zl_of, gi_zi, bd_s, ltf, bi_0, bi_1, gb_bi, Int.reduceToNat, Int.reduceNeg, Int.toNat_natCast]
  rw [if_neg (by omega)]
theorem lg0 {a b : Int} (ha : 0 ≤ a ∧ a < 1125899906842624) (hb : 0 ≤ b ∧ b < 1125899906842624) : (lg_cmp (zl a) (zl b) = 0) = (a = b) := by
  have e1 : (zl a).toInt = a := Int64.toInt_ofInt_of_le (by omega) (by omega)
  have e2 : (zl b).toInt = b := Int64.toInt_ofInt_of_le (by omega) (by omega)
  by_cases u2 : a = b
  · rw [u2]
    unfold lg_cmp
    rw [if_neg (fun h => by
      have h2 := Int64.lt_iff_toInt_lt.mp h
      omega), if_pos rfl]
    exact propext ⟨fun _ => rfl, fun _ => rfl⟩
  · refine propext ⟨fun h => ?_, fun h => absurd h u2⟩
    unfold lg_cmp at h
    by_cases u1 : zl a > zl b
    · rw [if_pos u1] at h
      exact absurd h (by decide)
    · rw [if_neg u1, if_neg (fun u3 => by
        have u4 := congrArg Int64.toInt u3
        rw [e1, e2] at u4
        exact u2 u4)] at h
      exact absurd h (by decide)
theorem m_isWord (fu : Nat) {m : Mem} {T : Nat → Int} {L n W : Nat} (h : GMr m T L n) (hW : W < 1125899906842624) : K_X12_isWord fu (zl (W : Int)) m = some (zi (bi (wB T L (tpo T L n) W))) := by
  obtain ⟨⟨a1, a2, a3, a4, a5, a6, a7⟩, h2, h3⟩ := h
  have hkk := kk_n T L n
  unfold K_X12_isWord wB
  have kz1 : (zi (if kkP T L (tpo T L n) = 5 then 0 else (kkP T L (tpo T L n) : Int)) = (1 : Int32)) = ((kkP T L (tpo T L n) : Int) = 1) := kz_eq (v := 1) hkk ⟨by decide, by decide⟩
  rw [h2, if_pos (show zi 0 = 0 from rfl), a4]
  simp only [kz1]
  by_cases q : kkP T L (tpo T L n) = 1
  · obtain ⟨k1, k2, k3, k4, k5, k6, k7⟩ := kk_1 q
    have hlt := pkN_lt (T := T) (i := tpo T L n) (tzi T L (tpo T L n)) k7
    have hlt2 : pkN T (tpo T L n) (tzi T L (tpo T L n)) < 1125899906842624 := Nat.lt_of_lt_of_le hlt (by
      have : 32 ^ (tzi T L (tpo T L n)) ≤ 32 ^ 8 := Nat.pow_le_pow_right (by decide) (by omega)
      exact Nat.le_trans this (by decide))
    rw [a5 q, if_pos (by omega)]
    have hc : (lg_cmp (zl (pkN T (tpo T L n) (tzi T L (tpo T L n)) : Int)) (zl (W : Int)) = 0) ↔ (pkN T (tpo T L n) (tzi T L (tpo T L n)) = W) := by
      rw [lg0 (by omega) (by omega)]
      omega
    by_cases q2 : pkN T (tpo T L n) (tzi T L (tpo T L n)) = W
    · rw [if_pos (hc.mpr q2), decide_eq_true ⟨q, q2⟩]
      rfl
    · rw [if_neg (fun hh => q2 (hc.mp hh)), decide_eq_false (fun hh => q2 hh.2)]
      rfl
  · rw [decide_eq_false (fun hh => q hh.1)]
    rw [if_neg (by omega)]
    rfl
def sgB (T : Nat → Int) (L p : Nat) (x : Int) : Bool := decide (kkP T L p = 3 ∧ T p = x)
theorem m_isSign (fu : Nat) {m : Mem} {T : Nat → Int} {L n : Nat} (h : GMr m T L n) {x : Int} (hx : 0 ≤ x ∧ x ≤ 255) : K_X12_isSign fu (zi x) m = some (zi (bi (sgB T L (tpo T L n) x))) := by
  obtain ⟨⟨a1, a2, a3, a4, a5, a6, a7⟩, h2, h3⟩ := h
  have hkk := kk_n T L n
  have hT := a1.1 (tpo T L n)
  unfold K_X12_isSign sgB
  have kz1 : (zi (if kkP T L (tpo T L n) = 5 then 0 else (kkP T L (tpo T L n) : Int)) = (3 : Int32)) = ((kkP T L (tpo T L n) : Int) = 3) := kz_eq (v := 3) hkk ⟨by decide, by decide⟩
  rw [h2, if_pos (show zi 0 = 0 from rfl), a4]
  simp only [kz1]
  by_cases q : kkP T L (tpo T L n) = 3
  · rw [a7 q, if_pos (by omega)]
    simp (disch := omega) only [zi_lit, zl_lit, zi_add, zi_sub, zi_mul, zi_neg, zi_lt, zi_inj, zi_clamp, zl_of, gi_zi, bd_s, ltf, bi_0, bi_1, gb_bi, Int.reduceToNat, Int.reduceNeg, Int.toNat_natCast]
    by_cases q2 : T (tpo T L n) = x
    · rw [if_pos q2, decide_eq_true ⟨q, q2⟩]
      rfl
    · rw [if_neg q2, decide_eq_false (fun hh => q2 hh.2)]
      rfl
  · rw [decide_eq_false (fun hh => q hh.1)]
    rw [if_neg (by omega)]
    rfl
theorem c_isSign (fu : Nat) {c : Mem} {T : Nat → Int} {L N n : Nat} (h : CBr c T L N n) {x : Int} (hx : 0 ≤ x ∧ x ≤ 255) : K_X9_isSign fu (zi x) c = some (zi (bi (sgB T L (tpo T L n) x))) := by
  obtain ⟨h1, ⟨b1, b2, b3, b4⟩, h3⟩ := h
  have hkk := kk_n T L n
  have hT := h1.1.1 (tpo T L n)
  have hle := tp_le T L n
  have h700 := h1.1.2.1
  have hb := c_byteAt fu h1.1 (i := tpo T L n) (by omega)
  unfold K_X9_isSign sgB
  simp (disch := omega) only [zi_lit, zl_lit, zi_add, zi_sub, zi_mul, zi_neg, zi_lt, zi_inj, zi_clamp, zl_of, gi_zi, bd_s, ltf, bi_0, bi_1, gb_bi, Int.reduceToNat, Int.reduceNeg, Int.toNat_natCast, b2, b3, hb]
  by_cases q : kkP T L (tpo T L n) = 3
  · have k1 := (kk_3 q).1
    rw [if_pos (by omega), if_pos k1]
    simp (disch := omega) only [zi_lit, zl_lit, zi_add, zi_sub, zi_mul, zi_neg, zi_lt, zi_inj, zi_clamp, zl_of, gi_zi, bd_s, ltf, bi_0, bi_1, gb_bi, Int.reduceToNat, Int.reduceNeg, Int.toNat_natCast]
    by_cases q2 : T (tpo T L n) = x
    · rw [if_pos q2, decide_eq_true ⟨q, q2⟩]
      rfl
    · rw [if_neg q2, decide_eq_false (fun hh => q2 hh.2)]
      rfl
  · rw [if_neg (by omega), decide_eq_false (fun hh => q hh.1)]
    rfl
/-- both tell the same error, at the token where both are -/
theorem p_fail (fu : Nat) {c m : Mem} {T : Nat → Int} {L N n : Nat} {e : Int} (hB : CBr c T L N n) (hG : GMr m T L n) (he : 1 ≤ e ∧ e ≤ 6) (h4 : kkP T L (tpo T L n) = 4 → e = 1) : ∃ c2 m2, K_X9_fail fu (zi e) c = some (zi 0, c2) ∧ K_X12_wrong fu (zi e) m = some m2 ∧ EBr c2 m2 ∧ Fr P2t c c2 ∧ Fr PGe m m2 := by
  obtain ⟨h1, ⟨b1, b2, b3, b4⟩, h3⟩ := hB
  obtain ⟨c2, d1, d2, d3, d4⟩ := c_fail fu c (e := e) b3
  obtain ⟨⟨a1, a2, a3, a4, a5, a6, a7⟩, g8, g9⟩ := hG
  have hkk := kk_n T L n
  have hle := tp_le T L n
  have h700 := h1.1.2.1
  have w : K_X12_wrong fu (zi e) m = some (mw (mw m 0 8 (zi e)) 0 9 (zi (tpo T L n : Int))) := by
    unfold K_X12_wrong
    simp (disch := omega) only [zi_lit, zl_lit, zi_add, zi_sub, zi_mul, zi_neg, zi_lt, zi_inj, zi_clamp, zl_of, gi_zi, bd_s, ltf, bi_0, bi_1, gb_bi, Int.reduceToNat, Int.reduceNeg, Int.toNat_natCast, g8]
    rw [if_neg (by omega), a4]
    have key : ∀ v, v = e → K_X12_wrong_22 fu (zi v) m = some (mw (mw m 0 8 (zi e)) 0 9 (zi (tpo T L n : Int))) := fun v hv => by
      have e5 : rd (mw m 0 8 (zi e)) 0 5 = zi (tpo T L n : Int) := by
        rw [rd_mw, if_neg (by decide)]
        exact a3
      rw [hv]
      unfold K_X12_wrong_22
      simp only [ltf, e5]
    have kz1 : (zi (if kkP T L (tpo T L n) = 5 then 0 else (kkP T L (tpo T L n) : Int)) = zi 4) = ((kkP T L (tpo T L n) : Int) = 4) := kz_eq (v := 4) hkk ⟨by decide, by decide⟩
    by_cases q : kkP T L (tpo T L n) = 4
    · exact (if_pos (kz1.mpr (by omega))).trans (key 1 (h4 q).symm)
    · have q4 : ¬ (zi (if kkP T L (tpo T L n) = 5 then 0 else (kkP T L (tpo T L n) : Int)) = zi 4) := fun hh => q (by have := kz1.mp hh; omega)
      exact (if_neg q4).trans (key e rfl)
  refine ⟨c2, _, d1, w, ⟨e, tpo T L n, by omega, d2, he, ?_, ?_⟩, d4, Fr_tr (Fr_mw _ _ rfl) (Fr_mw _ _ rfl)⟩
  · rw [rd_mw, if_neg (by decide), rd_mw, if_pos ⟨rfl, rfl⟩]
  · rw [rd_mw, if_pos ⟨rfl, rfl⟩]
end PRMM
