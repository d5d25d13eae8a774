section CMPM
theorem CB_10 {c : Mem} {T : Nat → Int} {L N n : Nat} (h : CBr c T L N n) (v : Int32) : CBr (mw c 2 10 v) T L N n := by
  have f : Fr P2t c (mw c 2 10 v) := Fr_mw _ _ rfl
  exact ⟨TSc_fr h.1 f, PcB_fr h.2.1 (fun j _ _ => by rw [rd_mw, if_neg (by omega)]), by rw [rd_mw, if_neg (by decide)]; exact h.2.2.1, by rw [rd_mw, if_neg (by decide)]; exact h.2.2.2⟩
theorem vl_le {T : Nat → Int} {p : Nat} : ∀ k : Nat, (∀ j, j < k → kdb (T (p + j)) = 2) → 0 ≤ vlI T p k ∧ vlI T p k < (10 : Int) ^ k := by
  intro k
  induction k with
  | zero =>
    intro _
    exact ⟨Int.le_refl 0, by show (0 : Int) < 1; decide⟩
  | succ k ih =>
    intro h
    have h1 := ih (fun j hj => h j (by omega))
    have h2 := kdb_2.mp (h k (by omega))
    rw [vlI, Int.pow_succ]
    omega
theorem vl_3 {T : Nat → Int} {p k : Nat} (hk : k ≤ 3) (h : ∀ j, j < k → kdb (T (p + j)) = 2) : 0 ≤ vlI T p k ∧ vlI T p k ≤ 999 := by
  have h1 := vl_le k h
  have : k = 0 ∨ k = 1 ∨ k = 2 ∨ k = 3 := by omega
  rcases this with e | e | e | e <;> rw [e] at h1 ⊢ <;> omega
theorem c_nn25 (fu : Nat) {T : Nat → Int} {L N n : Nat} {a b : Int} (hab : 0 ≤ a ∧ a ≤ 1000 ∧ -10 ≤ b ∧ b ≤ 1000) (hk : kkP T L (tpo T L n) = 2) : ∀ (r f j : Nat) (c : Mem), j + r = tzi T L (tpo T L n) → r < f → CBr c T L N n → rd c 2 10 = zi (vlI T (tpo T L n) j) → ∃ c2, K_X9_needNumber_25 fu f (zi a) (zi b) (zi (j : Int)) c = (if vlI T (tpo T L n) (tzi T L (tpo T L n)) < a then K_X9_needNumber_80 fu c2 else if b < vlI T (tpo T L n) (tzi T L (tpo T L n)) then K_X9_needNumber_80 fu c2 else K_X9_needNumber_88 fu c2) ∧ CBr c2 T L N n ∧ rd c2 2 10 = zi (vlI T (tpo T L n) (tzi T L (tpo T L n))) ∧ Fr P2t c c2 := by
  obtain ⟨k1, k2, k3, k4, k5, k6, k7⟩ := kk_2 hk
  intro r
  induction r with
  | zero =>
    intro f j c hj hf hB hv
    obtain ⟨f, rfl⟩ : ∃ g, f = g + 1 := ⟨f - 1, by omega⟩
    have hjz : j = tzi T L (tpo T L n) := by omega
    have hV := vl_3 k3 k7
    have h9 := hB.2.1.2.2.2
    rw [hjz] at hv ⊢
    refine ⟨c, ?_, hB, hv, Fr_rf _ _⟩
    rw [K_X9_needNumber_25, h9, k4]
    simp (disch := omega) only [zi_lit, zl_lit, zi_add, zi_sub, zi_mul, zi_neg, zi_lt, zi_inj, zi_clamp, zl_of, gi_zi, bd_s, ltf, bi_0, bi_1, gb_bi, Int.reduceToNat, Int.reduceNeg, Int.toNat_natCast, hv]
    rw [if_neg (by omega)]
  | succ r ih =>
    intro f j c hj hf hB hv
    obtain ⟨f, rfl⟩ : ∃ g, f = g + 1 := ⟨f - 1, by omega⟩
    have h8 := hB.2.1.2.2.1
    have h9 := hB.2.1.2.2.2
    have h700 := hB.1.1.2.1
    have hb := c_byteAt fu hB.1.1 (i := tpo T L n + j) (by omega)
    rw [if_pos (by omega)] at hb
    have hd := kdb_2.mp (k7 j (by omega))
    have hvj := vl_3 (T := T) (p := tpo T L n) (k := j) (by omega) (fun i hi => k7 i (by omega))
    have e1 : zi ((tpo T L n : Int) + (j : Int)) = zi ((tpo T L n + j : Nat) : Int) := rfl
    have e2 : vlI T (tpo T L n) j * 10 + T (tpo T L n + j) - 48 = vlI T (tpo T L n) (j + 1) := by
      rw [vlI]
      omega
    obtain ⟨c2, a1, a2, a3, a4⟩ := ih f (j + 1) (mw c 2 10 (zi (vlI T (tpo T L n) (j + 1)))) (by omega) (by omega) (CB_10 hB _) (by rw [rd_mw, if_pos ⟨rfl, rfl⟩])
    refine ⟨c2, ?_, a2, a3, Fr_tr (Fr_mw _ _ rfl) a4⟩
    rw [← a1, K_X9_needNumber_25, h9, k4]
    simp (disch := omega) only [zi_lit, zl_lit, zi_add, zi_sub, zi_mul, zi_neg, zi_lt, zi_inj, zi_clamp, zl_of, gi_zi, bd_s, ltf, bi_0, bi_1, gb_bi, Int.reduceToNat, Int.reduceNeg, Int.toNat_natCast, h8, e1, hb, hv, e2]
    rw [if_pos (by omega)]
    rfl
theorem b_seen (fu : Nat) {m : Mem} {e p : Int} (h : BDr m e p) (a b : Int32) : K_X12_seen fu a b m = some (rd m 0 7, m) := by
  unfold K_X12_seen K_X12_seen_20
  rw [b_isGood fu h, bd_s, if_pos (show zi 0 = 0 from rfl), bd_s, if_pos (show zi 0 = 0 from rfl)]
theorem b_seen20 (fu : Nat) {m : Mem} {e p : Int} (h : BDr m e p) (a b : Int32) : K_X12_seen_20 fu a b m = some (rd m 0 7, m) := by
  unfold K_X12_seen_20
  rw [b_isGood fu h, bd_s, if_pos (show zi 0 = 0 from rfl)]
theorem b_number (fu : Nat) {m : Mem} {e p : Int} (h : BDr m e p) (a b : Int32) : K_X12_number fu a b m = some (rd m 0 7, m) := by
  unfold K_X12_number
  rw [b_seen fu h, bd_s, ltf, b_isGood fu h, bd_s, if_pos (show zi 0 = 0 from rfl)]
theorem p_seen (fu : Nat) (hfu : 1000 ≤ fu) {c m : Mem} {T : Nat → Int} {L N n : Nat} {a b : Int} (hA : CAr c T L N n) (hG : GMr m T L n) (hn : n ≤ 5000) (hab : 0 ≤ a ∧ a ≤ 1000 ∧ -10 ≤ b ∧ b ≤ 1000) : (∃ c2 v, K_X9_needNumber fu (zi a) (zi b) c = some (zi 1, c2) ∧ CBr c2 T L N n ∧ rd c2 2 10 = zi v ∧ (a ≤ v ∧ v ≤ b) ∧ K_X12_seen fu (zi a) (zi b) m = some (zi v, m) ∧ kkP T L (tpo T L n) = 2 ∧ Fr P2t c c2) ∨ (∃ c2 m2 x, K_X9_needNumber fu (zi a) (zi b) c = some (zi 0, c2) ∧ K_X12_seen fu (zi a) (zi b) m = some (x, m2) ∧ EBr c2 m2 ∧ Fr P2t c c2 ∧ Fr PGe m m2) := by
  obtain ⟨c1, a1, hB, a3⟩ := p_adv fu hA hn
  have hkk := kk_n T L n
  have h7 := hB.2.1.2.1
  obtain ⟨a2m, a2a, a2b, a4m, a5m, a6m, a7m⟩ := hG.1
  have kz1 : (zi (if kkP T L (tpo T L n) = 5 then 0 else (kkP T L (tpo T L n) : Int)) = (2 : Int32)) = ((kkP T L (tpo T L n) : Int) = 2) := kz_eq (v := 2) hkk ⟨by decide, by decide⟩
  have k80 : ∀ (c3 c4 : Mem), K_X9_fail fu (zi 2) c3 = some (zi 0, c4) → K_X9_needNumber_80 fu c3 = some (zi 0, c4) := fun c3 c4 h => by
    unfold K_X9_needNumber_80
    rw [show (2 : Int32) = zi 2 from rfl, h, bd_s, if_pos (show zi 0 = 0 from rfl)]
    rfl
  unfold K_X9_needNumber K_X12_seen
  rw [a1, bd_s, h7, g_isGood fu hG.2.1, bd_s, if_neg (show ¬ zi 1 = 0 by decide), a4m]
  simp only [kz1]
  by_cases q : kkP T L (tpo T L n) = 2
  · obtain ⟨k1, k2, k3, k4, k5, k6, k7⟩ := kk_2 q
    have hV := vl_3 k3 k7
    have hv7 := a6m q
    rw [if_pos (show zi (kkP T L (tpo T L n) : Int) = 2 by rw [q]; rfl), ltf, if_pos (by omega)]
    obtain ⟨c2, d1, d2, d3, d4⟩ := c_nn25 fu (N := N) hab q (tzi T L (tpo T L n)) fu 0 (mw c1 2 10 0) (by omega) (by omega) (CB_10 hB _) (by rw [rd_mw, if_pos ⟨rfl, rfl⟩]; rfl)
    have d1' : K_X9_needNumber_25 fu fu (zi a) (zi b) 0 (mw c1 2 10 0) = _ := d1
    rw [d1']
    have f2 : Fr P2t c c2 := Fr_tr (Fr_tr a3 (Fr_mw _ _ rfl)) d4
    have hs20 : K_X12_seen_20 fu (zi a) (zi b) m = bd (some (zi (bi (decide (a ≤ vlI T (tpo T L n) (tzi T L (tpo T L n)) ∧ vlI T (tpo T L n) (tzi T L (tpo T L n)) ≤ b))))) (fun x_4 => (if x_4 = 0 then bd (K_X12_wrong fu 2 m) (fun m_5 => some ((rd m_5 0 7), m_5)) else some ((rd m 0 7), m))) := by
      unfold K_X12_seen_20
      rw [g_isGood fu hG.2.1, bd_s, if_neg (show ¬ zi 1 = 0 by decide), hv7, zl_of (by omega) (by omega), zl_of (by omega) (by omega), zl_of (by omega) (by omega), k_isIn fu m (by omega) (by omega) (by omega) (by omega) (by omega) (by omega)]
    rw [hs20, bd_s]
    by_cases r : a ≤ vlI T (tpo T L n) (tzi T L (tpo T L n)) ∧ vlI T (tpo T L n) (tzi T L (tpo T L n)) ≤ b
    · rw [if_neg (by omega), if_neg (by omega), decide_eq_true r, if_neg (show ¬ zi (bi true) = 0 by decide)]
      exact Or.inl ⟨c2, _, rfl, d2, d3, r, by rw [hv7], q, f2⟩
    · rw [decide_eq_false r, if_pos (show zi (bi false) = 0 from rfl)]
      obtain ⟨c4, m2, e1, e2, e3, e4, e5⟩ := p_fail fu d2 hG (e := 2) ⟨by decide, by decide⟩ (fun x => by omega)
      have e2' : K_X12_wrong fu 2 m = some m2 := e2
      have he := k80 c2 c4 e1
      have : (if vlI T (tpo T L n) (tzi T L (tpo T L n)) < a then K_X9_needNumber_80 fu c2 else if b < vlI T (tpo T L n) (tzi T L (tpo T L n)) then K_X9_needNumber_80 fu c2 else K_X9_needNumber_88 fu c2) = some (zi 0, c4) := by
        by_cases u : vlI T (tpo T L n) (tzi T L (tpo T L n)) < a
        · rw [if_pos u, he]
        · rw [if_neg u, if_pos (by omega), he]
      rw [this, e2', bd_s]
      exact Or.inr ⟨c4, m2, _, rfl, rfl, e3, Fr_tr f2 e4, e5⟩
  · have hne : ¬ zi (kkP T L (tpo T L n) : Int) = 2 := by
      simp (disch := omega) only [zi_lit, zl_lit, zi_add, zi_sub, zi_mul, zi_neg, zi_lt, zi_inj, zi_clamp, zl_of, gi_zi, bd_s, ltf, bi_0, bi_1, gb_bi, Int.reduceToNat, Int.reduceNeg, Int.toNat_natCast]
      omega
    rw [if_neg hne, if_neg (by omega)]
    obtain ⟨c4, m2, e1, e2, e3, e4, e5⟩ := p_fail fu hB hG (e := 1) ⟨by decide, by decide⟩ (fun _ => rfl)
    have e1' : K_X9_fail fu 1 c1 = some (zi 0, c4) := e1
    have e2' : K_X12_wrong fu 1 m = some m2 := e2
    obtain ⟨e, p, hp, hE, hD⟩ := e3
    rw [e1', bd_s, e2', bd_s, b_seen20 fu hD]
    exact Or.inr ⟨c4, m2, _, rfl, rfl, ⟨e, p, hp, hE, hD⟩, Fr_tr a3 e4, e5⟩
/-- a number that both go on from -/
theorem p_num (fu : Nat) (hfu : 1000 ≤ fu) {c m : Mem} {T : Nat → Int} {L N n : Nat} {a b : Int} (hA : CAr c T L N n) (hG : GMr m T L n) (hn : n ≤ 5000) (hab : 0 ≤ a ∧ a ≤ 1000 ∧ -10 ≤ b ∧ b ≤ 1000) : (∃ c2 m2 v, K_X9_needNumber fu (zi a) (zi b) c = some (zi 1, c2) ∧ CBr c2 T L N n ∧ rd c2 2 10 = zi v ∧ (a ≤ v ∧ v ≤ b) ∧ K_X12_number fu (zi a) (zi b) m = some (zi v, m2) ∧ GMr m2 T L (n + 1) ∧ Fr P2t c c2 ∧ Fr PGe m m2) ∨ (∃ c2 m2 x, K_X9_needNumber fu (zi a) (zi b) c = some (zi 0, c2) ∧ K_X12_number fu (zi a) (zi b) m = some (x, m2) ∧ EBr c2 m2 ∧ Fr P2t c c2 ∧ Fr PGe m m2) := by
  rcases p_seen fu hfu hA hG hn hab with ⟨c2, v, h1, h2, h3, h4, h5, h6, h7⟩ | ⟨c2, m2, x, h1, h2, h3, h4, h5⟩
  · obtain ⟨m2, g1, g2, g3⟩ := p_go fu hfu hG
    refine Or.inl ⟨c2, m2, v, h1, h2, h3, h4, ?_, g2, h7, g3⟩
    unfold K_X12_number
    rw [h5, bd_s, ltf, g_isGood fu hG.2.1, bd_s, if_neg (show ¬ zi 1 = 0 by decide), g1, bd_s]
  · refine Or.inr ⟨c2, m2, x, h1, ?_, h3, h4, h5⟩
    obtain ⟨e, p, hp, hE, hD⟩ := h3
    unfold K_X12_number
    rw [h2, bd_s, ltf, b_isGood fu hD, bd_s, if_pos (show zi 0 = 0 from rfl)]
theorem b_isWord (fu : Nat) {m : Mem} {e p : Int} (h : BDr m e p) (x : Int64) : K_X12_isWord fu x m = some (zi 0) := by
  have h0 := h.1
  unfold K_X12_isWord
  rw [h.2.1]
  simp (disch := omega) only [zi_lit, zl_lit, zi_add, zi_sub, zi_mul, zi_neg, zi_lt, zi_inj, zi_clamp, zl_of, gi_zi, bd_s, ltf, bi_0, bi_1, gb_bi, Int.reduceToNat, Int.reduceNeg, Int.toNat_natCast]
  rw [if_neg (by omega)]
theorem b_isSign (fu : Nat) {m : Mem} {e p : Int} (h : BDr m e p) (x : Int32) : K_X12_isSign fu x m = some (zi 0) := by
  have h0 := h.1
  unfold K_X12_isSign
  rw [h.2.1]
  simp (disch := omega) only [zi_lit, zl_lit, zi_add, zi_sub, zi_mul, zi_neg, zi_lt, zi_inj, zi_clamp, zl_of, gi_zi, bd_s, ltf, bi_0, bi_1, gb_bi, Int.reduceToNat, Int.reduceNeg, Int.toNat_natCast]
  rw [if_neg (by omega)]
theorem b_wrong (fu : Nat) {m : Mem} {e p : Int} (h : BDr m e p) (x : Int32) : K_X12_wrong fu x m = some m := by
  have h0 := h.1
  unfold K_X12_wrong
  rw [h.2.1]
  simp (disch := omega) only [zi_lit, zl_lit, zi_add, zi_sub, zi_mul, zi_neg, zi_lt, zi_inj, zi_clamp, zl_of, gi_zi, bd_s, ltf, bi_0, bi_1, gb_bi, Int.reduceToNat, Int.reduceNeg, Int.toNat_natCast]
  rw [if_pos (by omega)]
theorem b_sideHere (fu : Nat) {m : Mem} {e p : Int} (h : BDr m e p) : K_X12_sideHere fu m = some (zi (-1)) := by
  unfold K_X12_sideHere
  simp only [b_isWord fu h, bd_s, if_pos (show zi 0 = 0 from rfl)]
  rfl
theorem b_sideTold (fu : Nat) {m : Mem} {e p : Int} (h : BDr m e p) : K_X12_sideTold fu m = some (zi (-1), m) := by
  unfold K_X12_sideTold K_X12_sideTold_22
  simp only [b_sideHere fu h, b_isGood fu h, bd_s, if_pos (show zi 0 = 0 from rfl)]
theorem b_wayHere (fu : Nat) {m : Mem} {e p : Int} (h : BDr m e p) : K_X12_wayHere fu m = some (zi 0, m) := by
  unfold K_X12_wayHere K_X12_wayHere_29 K_X12_wayHere_46
  simp only [b_isWord fu h, b_isGood fu h, bd_s, if_pos (show zi 0 = 0 from rfl)]
  rfl
theorem b_mustSign (fu : Nat) {m : Mem} {e p : Int} (h : BDr m e p) (x : Int32) : K_X12_mustSign fu x m = some m := by
  unfold K_X12_mustSign K_X12_mustSign_20
  simp only [b_isGood fu h, bd_s, if_pos (show zi 0 = 0 from rfl)]
theorem b_mustWord (fu : Nat) {m : Mem} {e p : Int} (h : BDr m e p) (x : Int64) : K_X12_mustWord fu x m = some m := by
  unfold K_X12_mustWord K_X12_mustWord_20
  simp only [b_isGood fu h, bd_s, if_pos (show zi 0 = 0 from rfl)]
theorem m_mustSign (fu : Nat) (hfu : 1000 ≤ fu) {m : Mem} {T : Nat → Int} {L n : Nat} (hG : GMr m T L n) {x : Int} (hx : 0 ≤ x ∧ x ≤ 255) (h : sgB T L (tpo T L n) x = true) : ∃ m2, K_X12_mustSign fu (zi x) m = some m2 ∧ GMr m2 T L (n + 1) ∧ Fr PGe m m2 := by
  obtain ⟨m2, g1, g2, g3⟩ := p_go fu hfu hG
  refine ⟨m2, ?_, g2, g3⟩
  unfold K_X12_mustSign K_X12_mustSign_20
  simp only [g_isGood fu hG.2.1, bd_s, if_neg (show ¬ zi 1 = 0 by decide), m_isSign fu hG hx, h, if_neg (show ¬ zi (bi true) = 0 by decide), g1]
theorem m_mustWord (fu : Nat) (hfu : 1000 ≤ fu) {m : Mem} {T : Nat → Int} {L n W : Nat} (hG : GMr m T L n) (hW : W < 1125899906842624) (h : wB T L (tpo T L n) W = true) : ∃ m2, K_X12_mustWord fu (zl (W : Int)) m = some m2 ∧ GMr m2 T L (n + 1) ∧ Fr PGe m m2 := by
  obtain ⟨m2, g1, g2, g3⟩ := p_go fu hfu hG
  refine ⟨m2, ?_, g2, g3⟩
  unfold K_X12_mustWord K_X12_mustWord_20
  simp only [g_isGood fu hG.2.1, bd_s, if_neg (show ¬ zi 1 = 0 by decide), m_isWord fu hG hW, h, if_neg (show ¬ zi (bi true) = 0 by decide), g1]
/-- a sign that both ask for -/
theorem p_sign (fu : Nat) (hfu : 1000 ≤ fu) {c m : Mem} {T : Nat → Int} {L N n : Nat} {x : Int} (hA : CAr c T L N n) (hG : GMr m T L n) (hn : n ≤ 5000) (hx : 0 ≤ x ∧ x ≤ 255) : (∃ c2 m2, K_X9_needSign fu (zi x) c = some (zi 1, c2) ∧ CBr c2 T L N n ∧ sgB T L (tpo T L n) x = true ∧ K_X12_isSign fu (zi x) m = some (zi 1) ∧ K_X12_mustSign fu (zi x) m = some m2 ∧ GMr m2 T L (n + 1) ∧ Fr P2t c c2 ∧ Fr PGe m m2) ∨ (∃ c2 m2, K_X9_needSign fu (zi x) c = some (zi 0, c2) ∧ K_X12_isSign fu (zi x) m = some (zi 0) ∧ K_X12_wrong fu (zi 1) m = some m2 ∧ K_X12_mustSign fu (zi x) m = some m2 ∧ EBr c2 m2 ∧ Fr P2t c c2 ∧ Fr PGe m m2) := by
  obtain ⟨c1, a1, hB, a3⟩ := p_adv fu hA hn
  have hs := c_isSign fu hB hx
  have hs2 := m_isSign fu hG hx
  unfold K_X9_needSign
  rw [a1, bd_s, hs, bd_s]
  by_cases q : sgB T L (tpo T L n) x = true
  · obtain ⟨m2, g1, g2, g3⟩ := m_mustSign fu hfu hG hx q
    rw [q] at hs2 ⊢
    rw [if_neg (show ¬ zi (bi true) = 0 by decide)]
    exact Or.inl ⟨c1, m2, rfl, hB, rfl, hs2, g1, g2, a3, g3⟩
  · have q' : sgB T L (tpo T L n) x = false := by
      cases hh : sgB T L (tpo T L n) x with
      | true => exact absurd hh q
      | false => rfl
    obtain ⟨c4, m2, e1, e2, e3, e4, e5⟩ := p_fail fu hB hG (e := 1) ⟨by decide, by decide⟩ (fun _ => rfl)
    have e1' : K_X9_fail fu 1 c1 = some (zi 0, c4) := e1
    have e2' : K_X12_wrong fu 1 m = some m2 := e2
    rw [q'] at hs2 ⊢
    rw [if_pos (show zi (bi false) = 0 from rfl), e1', bd_s, if_pos (show zi 0 = 0 from rfl)]
    refine Or.inr ⟨c4, m2, rfl, hs2, e2, ?_, e3, Fr_tr a3 e4, e5⟩
    obtain ⟨e, p, hp, hE, hD⟩ := e3
    unfold K_X12_mustSign K_X12_mustSign_20
    rw [g_isGood fu hG.2.1, bd_s, if_neg (show ¬ zi 1 = 0 by decide), hs2, bd_s, if_pos (show zi (bi false) = 0 from rfl), e2', bd_s, b_isGood fu hD, bd_s, if_pos (show zi 0 = 0 from rfl)]
/-- which side a word tells -/
def sdV (T : Nat → Int) (L p : Nat) : Int := if wB T L p 15190664 = true then 0 else if wB T L p 165492 = true then 1 else if wB T L p 20436616 = true then 2 else if wB T L p 759412 = true then 3 else -1
theorem sd_le (T : Nat → Int) (L p : Nat) : -1 ≤ sdV T L p ∧ sdV T L p ≤ 3 := by
  unfold sdV
  split
  · omega
  · split
    · omega
    · split
      · omega
      · split <;> omega
theorem ifbi {α : Type} (b : Bool) (x y : α) : (if zi (bi b) = 0 then x else y) = (if b = true then y else x) := by
  cases b
  · rfl
  · rfl
theorem c_side (fu : Nat) (hfu : 1000 ≤ fu) {c : Mem} {T : Nat → Int} {L N n : Nat} (h : CBr c T L N n) : K_X9_side fu c = some (zi (sdV T L (tpo T L n)), c) := by
  obtain ⟨⟨w0, w1, w2, w3, w4, w5, w6, w7⟩, w8⟩ := Wt_all
  unfold K_X9_side sdV
  rw [c_isWord fu hfu h.1 h.2.1 (t := 3) (by decide) w3, bd_s, c_isWord fu hfu h.1 h.2.1 (t := 4) (by decide) w4, bd_s, c_isWord fu hfu h.1 h.2.1 (t := 5) (by decide) w5, bd_s, c_isWord fu hfu h.1 h.2.1 (t := 6) (by decide) w6, bd_s]
  simp only [ifbi]
  by_cases q0 : wB T L (tpo T L n) 15190664 = true
  · rw [if_pos q0, if_pos q0]
    rfl
  · rw [if_neg q0, if_neg q0]
    by_cases q1 : wB T L (tpo T L n) 165492 = true
    · rw [if_pos q1, if_pos q1]
      rfl
    · rw [if_neg q1, if_neg q1]
      by_cases q2 : wB T L (tpo T L n) 20436616 = true
      · rw [if_pos q2, if_pos q2]
        rfl
      · rw [if_neg q2, if_neg q2]
        by_cases q3 : wB T L (tpo T L n) 759412 = true
        · rw [if_pos q3, if_pos q3]
          rfl
        · rw [if_neg q3, if_neg q3]
          rfl
theorem m_sideHere (fu : Nat) {m : Mem} {T : Nat → Int} {L n : Nat} (h : GMr m T L n) : K_X12_sideHere fu m = some (zi (sdV T L (tpo T L n))) := by
  have w : ∀ (W : Nat), W < 1125899906842624 → K_X12_isWord fu (zl (W : Int)) m = some (zi (bi (wB T L (tpo T L n) W))) := fun W hW => m_isWord fu h hW
  have w0 : K_X12_isWord fu 15190664 m = _ := w 15190664 (by decide)
  have w1 : K_X12_isWord fu 165492 m = _ := w 165492 (by decide)
  have w2 : K_X12_isWord fu 20436616 m = _ := w 20436616 (by decide)
  have w3 : K_X12_isWord fu 759412 m = _ := w 759412 (by decide)
  unfold K_X12_sideHere sdV
  rw [w0, bd_s, w1, bd_s, w2, bd_s, w3, bd_s]
  simp only [ifbi]
  by_cases q0 : wB T L (tpo T L n) 15190664 = true
  · rw [if_pos q0, if_pos q0]
    rfl
  · rw [if_neg q0, if_neg q0]
    by_cases q1 : wB T L (tpo T L n) 165492 = true
    · rw [if_pos q1, if_pos q1]
      rfl
    · rw [if_neg q1, if_neg q1]
      by_cases q2 : wB T L (tpo T L n) 20436616 = true
      · rw [if_pos q2, if_pos q2]
        rfl
      · rw [if_neg q2, if_neg q2]
        by_cases q3 : wB T L (tpo T L n) 759412 = true
        · rw [if_pos q3, if_pos q3]
          rfl
        · rw [if_neg q3, if_neg q3]
          rfl
/-- a side that both ask for; the reference stays there -/
theorem p_side (fu : Nat) (hfu : 1000 ≤ fu) {c m : Mem} {T : Nat → Int} {L N n : Nat} (hA : CAr c T L N n) (hG : GMr m T L n) (hn : n ≤ 5000) : (∃ c2 d, K_X9_needSide fu c = some (zi d, c2) ∧ (0 ≤ d ∧ d ≤ 3) ∧ CBr c2 T L N n ∧ K_X12_sideHere fu m = some (zi d) ∧ kkP T L (tpo T L n) = 1 ∧ Fr P2t c c2) ∨ (∃ c2 m2, K_X9_needSide fu c = some (zi (-1), c2) ∧ K_X12_sideHere fu m = some (zi (-1)) ∧ K_X12_wrong fu (zi 1) m = some m2 ∧ EBr c2 m2 ∧ Fr P2t c c2 ∧ Fr PGe m m2) := by
  obtain ⟨c1, a1, hB, a3⟩ := p_adv fu hA hn
  have hs := c_side fu hfu hB
  have hs2 := m_sideHere fu hG
  have hle := sd_le T L (tpo T L n)
  unfold K_X9_needSide
  rw [a1, bd_s, hs, bd_s, ltf]
  by_cases q : sdV T L (tpo T L n) = -1
  · obtain ⟨c4, m2, e1, e2, e3, e4, e5⟩ := p_fail fu hB hG (e := 1) ⟨by decide, by decide⟩ (fun _ => rfl)
    have e1' : K_X9_fail fu 1 c1 = some (zi 0, c4) := e1
    rw [q] at hs2 ⊢
    rw [if_pos (show zi (-1) = -1 from rfl), e1', bd_s]
    exact Or.inr ⟨c4, m2, rfl, hs2, e2, e3, Fr_tr a3 e4, e5⟩
  · have hne : ¬ (zi (sdV T L (tpo T L n)) = -1) := by
      simp (disch := omega) only [zi_lit, zl_lit, zi_add, zi_sub, zi_mul, zi_neg, zi_lt, zi_inj, zi_clamp, zl_of, gi_zi, bd_s, ltf, bi_0, bi_1, gb_bi, Int.reduceToNat, Int.reduceNeg, Int.toNat_natCast]
      omega
    rw [if_neg hne]
    refine Or.inl ⟨c1, _, rfl, by omega, hB, hs2, ?_, a3⟩
    by_cases k : kkP T L (tpo T L n) = 1
    · exact k
    · exfalso
      apply q
      have w : ∀ W, wB T L (tpo T L n) W = false := fun W => decide_eq_false (fun h => k h.1)
      unfold sdV
      simp only [w]
      rfl
/-- a way that both ask for -/
theorem p_way (fu : Nat) (hfu : 1000 ≤ fu) {c m : Mem} {T : Nat → Int} {L N n : Nat} (hA : CAr c T L N n) (hG : GMr m T L n) (hn : n ≤ 5000) : (∃ c2 m2 w, K_X9_needWay fu c = some (zi w, c2) ∧ (w = 0 ∨ w = 1) ∧ CBr c2 T L N n ∧ K_X12_wayHere fu m = some (zi (w + 1), m2) ∧ GMr m2 T L (n + 1) ∧ Fr P2t c c2 ∧ Fr PGe m m2) ∨ (∃ c2 m2, K_X9_needWay fu c = some (zi (-1), c2) ∧ K_X12_wayHere fu m = some (zi 0, m2) ∧ EBr c2 m2 ∧ Fr P2t c c2 ∧ Fr PGe m m2) := by
  obtain ⟨c1, a1, hB, a3⟩ := p_adv fu hA hn
  obtain ⟨m3, g1, g2, g3⟩ := p_go fu hfu hG
  obtain ⟨⟨w0, w1, w2, w3, w4, w5, w6, w7⟩, w8, w9, w10, w11, w12, w13, w14, w15, w16⟩ := Wt_all
  have v15 : K_X12_isWord fu 12769452 m = _ := m_isWord fu hG (W := 12769452) (by decide)
  have v16 : K_X12_isWord fu 23104625940 m = _ := m_isWord fu hG (W := 23104625940) (by decide)
  unfold K_X9_needWay K_X12_wayHere K_X12_wayHere_29 K_X12_wayHere_46
  rw [a1, bd_s, c_isWord fu hfu hB.1 hB.2.1 (t := 15) (by decide) w15, bd_s, c_isWord fu hfu hB.1 hB.2.1 (t := 16) (by decide) w16, bd_s, v15, bd_s, v16, bd_s]
  simp only [g_isGood fu hG.2.1, bd_s, ifbi]
  by_cases q1 : wB T L (tpo T L n) 12769452 = true
  · rw [if_pos q1, if_pos q1, if_neg (show ¬ zi 1 = 0 by decide), if_neg (show ¬ (1 : Int32) = 0 by decide), if_neg (show ¬ zi 1 = 0 by decide), g1, bd_s]
    exact Or.inl ⟨c1, m3, 0, rfl, Or.inl rfl, hB, rfl, g2, a3, g3⟩
  · rw [if_neg q1, if_neg q1]
    by_cases q2 : wB T L (tpo T L n) 23104625940 = true
    · rw [if_pos q2, if_pos q2, if_neg (show ¬ zi 1 = 0 by decide), if_neg (show ¬ (2 : Int32) = 0 by decide), if_neg (show ¬ zi 1 = 0 by decide), g1, bd_s]
      exact Or.inl ⟨c1, m3, 1, rfl, Or.inr rfl, hB, rfl, g2, a3, g3⟩
    · obtain ⟨c4, m2, e1, e2, e3, e4, e5⟩ := p_fail fu hB hG (e := 1) ⟨by decide, by decide⟩ (fun _ => rfl)
      have e1' : K_X9_fail fu 1 c1 = some (zi 0, c4) := e1
      have e2' : K_X12_wrong fu 1 m = some m2 := e2
      obtain ⟨e, p, hp, hE, hD⟩ := e3
      rw [if_neg q2, if_neg q2, if_neg (show ¬ zi 1 = 0 by decide), if_pos trivial, e1', bd_s, e2', bd_s, b_isGood fu hD, bd_s, if_pos (show zi 0 = 0 from rfl)]
      exact Or.inr ⟨c4, m2, rfl, rfl, ⟨e, p, hp, hE, hD⟩, Fr_tr a3 e4, e5⟩
end CMPM
