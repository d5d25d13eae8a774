section COUNTW
/-- does a step lead nearer to the side -/
noncomputable def nrD (s : Nat → Int) (side : Int) (u d : Nat) : Bool := op s u d && (decide (0 < dl s side u) && decide (dl s side (nbr u d) = dl s side u - 1))
theorem nrT_D {s : Nat → Int} (hz : szO s) {side : Int} {t : BS} {i : Nat} (hI : BI (op s) nbr (Sd s side) t i) {u : Nat} (hu : u < 81) (hF : t.1 u ≠ -1) {d : Nat} (hd : d < 4) : nrT s t u d = nrD s side u d := by
  have hg := op_hg hz
  have e : t.1 u = dl s side u := BI_ex Sd_lt hg hI hu hF
  unfold nrT nrD
  rw [e]
  cases ho : op s u d with
  | false => rfl
  | true =>
    have hn := op_nb hz hu hd ho
    by_cases h0 : 0 < dl s side u
    · have h2 : (t.1 (nbr u d) = dl s side u - 1) ↔ (dl s side (nbr u d) = dl s side u - 1) := by
        constructor
        · intro h
          rw [← h]
          exact (BI_ex Sd_lt hg hI hn.1 (by omega)).symm
        · intro h
          rcases dlt_cases (op s) nbr (Sd s side) (nbr u d) with ⟨g1, g2⟩ | ⟨m, g1, g2⟩
          · have : dl s side (nbr u d) = -1 := g1
            omega
          · have g3 : dl s side (nbr u d) = (m : Int) := g2
            have hlow : nbr u d < 81 ∧ t.1 (nbr u d) ≠ -1 ∧ t.1 (nbr u d) ≤ m := by
              refine BI_low Sd_lt hg hI m _ g1.1 ?_
              by_cases q : i = t.2.2
              · exact Or.inl q
              · have q1 := hI.2.2.2.2.2.2.2.2.2.1
                obtain ⟨k, q2, q3⟩ := hI.2.1 u hu hF
                have q4 := hI.2.2.2.2.2.1 k q2 (by omega)
                rw [q3] at q4
                exact Or.inr ⟨by omega, by omega⟩
            rw [BI_ex Sd_lt hg hI hn.1 hlow.2.1]
            exact h
      rw [decide_eq_decide.mpr h2]
    · rw [decide_eq_false h0, Bool.false_and, Bool.false_and]
/-- the reference's test -/
theorem m_isNearer (fu : Nat) {mem : Mem} {s : Nat → Int} (hS : MS mem s) (hz : szO s) (hW : wlO s) {side : Int} {t : BS} (hB : BM mem t) (hI : BI (op s) nbr (Sd s side) t t.2.2) {u : Nat} (hu : u < 81) (hc : isCl s (xo u) (yo u) = true) (hF : t.1 u ≠ -1) {d : Nat} (hd : d < 4) : K_X12_isNearer fu (zi (u : Int)) (zi (d : Int)) mem = some (zi (bi (nrD s side u d))) := by
  have hg := op_hg hz
  have hxy := xy_lt hu
  have hbu := hB.2.2.2.1 u
  have e1 := hB.1 u hu
  have ex : (u : Int) - (u : Int) / 9 * 9 = xo u := by unfold xo; omega
  have ey : (u : Int) / 9 = yo u := by unfold yo; omega
  have hb : K_X12_blocks fu (zi (xo u)) (zi (yo u)) (zi (d : Int)) mem = some (zi (bi (!op s u d))) := by
    rw [k_blocks fu hS hz hW (by omega) (by omega) (by omega) (by omega) (by omega) (by omega)]
    unfold op
    rw [hc, Bool.true_and, Bool.not_not]
  have hT := nrT_D hz hI hu hF hd
  unfold K_X12_isNearer
  simp (disch := omega) only [zi_lit, zl_lit, zi_add, zi_sub, zi_mul, zi_neg, zi_lt, zi_inj, zi_clamp, zl_of, gi_zi, bd_s, ltf, bi_0, bi_1, gb_bi, Int.reduceToNat, Int.reduceNeg, Int.toNat_natCast, zi_div]
  rw [ex, ey]
  simp (disch := omega) only [zi_lit, zl_lit, zi_add, zi_sub, zi_mul, zi_neg, zi_lt, zi_inj, zi_clamp, zl_of, gi_zi, bd_s, ltf, bi_0, bi_1, gb_bi, Int.reduceToNat, Int.reduceNeg, Int.toNat_natCast, hb, k_up, k_across]
  rw [← hT]
  unfold nrT
  cases ho : op s u d with
  | false =>
    rw [if_neg (by decide)]
    rfl
  | true =>
    have hn := op_nb hz hu hd ho
    have hoff := op_off hz hu hd ho
    have hn1 := hn.1
    have e2 := hB.1 _ hn.1
    have hbn := hB.2.2.2.1 (nbr u d)
    rw [if_pos (by decide), show (u : Int) + 9 * dy (d : Int) + dx (d : Int) = (nbr u d : Int) by omega]
    simp (disch := omega) only [zi_lit, zl_lit, zi_add, zi_sub, zi_mul, zi_neg, zi_lt, zi_inj, zi_clamp, zl_of, gi_zi, bd_s, ltf, bi_0, bi_1, gb_bi, Int.reduceToNat, Int.reduceNeg, Int.toNat_natCast, e1, e2]
    have h7 : t.1 (nbr u d) ≠ -1 := by
      obtain ⟨k, k1, k2⟩ := hI.2.1 u hu hF
      have := hI.2.2.2.2.2.2.1 k k1 k1 d hd (by rw [k2]; exact ho)
      rw [k2] at this
      exact this.1
    have h8 := hI.2.2.2.1 _ h7
    by_cases c1 : t.1 (nbr u d) = t.1 u - 1
    · rw [if_pos c1, decide_eq_true c1, decide_eq_true (by omega)]
      rfl
    · rw [if_neg c1, decide_eq_false c1, Bool.and_false, Bool.and_false]
      rfl
def smNt (T : Nat → Int) : Nat → Int
  | 0 => 0
  | d + 1 => smNt T d + T d
theorem smNt_le {T : Nat → Int} (h : ∀ d, 0 ≤ T d ∧ T d ≤ 1000002) : ∀ n : Nat, 0 ≤ smNt T n ∧ smNt T n ≤ 1000002 * n := by
  intro n
  induction n with
  | zero => exact ⟨Int.le_refl _, Int.le_refl _⟩
  | succ n ih =>
    have := h n
    rw [smNt]
    omega
/-- how many shortest ways a cell has -/
noncomputable def wyN (s : Nat → Int) (side : Int) : Nat → Nat → Int
  | 0, _ => 1
  | n + 1, c => smNt (fun d => if nrD s side c d = true then wyN s side n (nbr c d) else 0) 4 % 1000003
theorem wyN_le (s : Nat → Int) (side : Int) (n c : Nat) : 0 ≤ wyN s side n c ∧ wyN s side n c ≤ 1000002 := by
  cases n with
  | zero => exact ⟨by show (0 : Int) ≤ 1; decide, by show (1 : Int) ≤ 1000002; decide⟩
  | succ n =>
    rw [wyN]
    omega
noncomputable def wyT (s : Nat → Int) (side : Int) (n c : Nat) : Nat → Int := fun d => if nrD s side c d = true then wyN s side n (nbr c d) else 0
theorem wyT_le (s : Nat → Int) (side : Int) (n c d : Nat) : 0 ≤ wyT s side n c d ∧ wyT s side n c d ≤ 1000002 := by
  unfold wyT
  have := wyN_le s side n (nbr c d)
  split <;> omega
theorem wyN_s (s : Nat → Int) (side : Int) (n c : Nat) : wyN s side (n + 1) c = smNt (wyT s side n c) 4 % 1000003 := rfl
noncomputable def wyC (s : Nat → Int) (side : Int) (c : Nat) : Int := wyN s side (dl s side c).toNat c
theorem c_sn5 (fu w r : Nat) {mem : Mem} {s : Nat → Int} (hz : szO s) (hR : RB mem r s) {side : Int} {t : BS} {i : Nat} (hC : CM w mem t) (hI : BI (op s) nbr (Sd s side) t i) {u m : Nat} (hu : u < 81) (hF : t.1 u ≠ -1) (hm : dl s side u = (m : Int) + 1) (hN : ∀ v, v < 81 → t.1 v = (m : Int) → rd mem (pNumb w) v = zi (wyC s side v)) : ∀ (q n d : Nat), d + q = 4 → q < n → K_X10_sumOfNearer_5 fu w r mem n (zi (u : Int)) (zi (smNt (wyT s side m u) d)) (zi (d : Int)) = some (zi (wyN s side (m + 1) u)) := by
  intro q
  induction q with
  | zero =>
    intro n d hd hn
    obtain ⟨n, rfl⟩ : ∃ f, n = f + 1 := ⟨n - 1, by omega⟩
    obtain rfl : d = 4 := by omega
    have hb := smNt_le (wyT_le s side m u) 4
    rw [K_X10_sumOfNearer_5]
    simp (disch := omega) only [zi_mod, zi_lit, zl_lit, zi_add, zi_sub, zi_mul, zi_neg, zi_lt, zi_inj, zi_clamp, zl_of, gi_zi, bd_s, ltf, bi_0, bi_1, gb_bi, Int.reduceToNat, Int.reduceNeg, Int.toNat_natCast]
    rw [if_neg (by decide), wyN_s]
  | succ q ih =>
    intro n d hd hn
    obtain ⟨n, rfl⟩ : ∃ f, n = f + 1 := ⟨n - 1, by omega⟩
    have hd4 : d < 4 := by omega
    have hb := smNt_le (wyT_le s side m u) d
    have h2 := ih n (d + 1) (by omega) (by omega)
    rw [smNt] at h2
    have hT := nrT_D hz hI hu hF hd4
    rw [K_X10_sumOfNearer_5]
    simp (disch := omega) only [zi_lit, zl_lit, zi_add, zi_sub, zi_mul, zi_neg, zi_lt, zi_inj, zi_clamp, zl_of, gi_zi, bd_s, ltf, bi_0, bi_1, gb_bi, Int.reduceToNat, Int.reduceNeg, Int.toNat_natCast, c_isNearer fu w r hR hz hC hu hd4, offV_z hd4, hT]
    rw [if_pos (by omega)]
    have eT : wyT s side m u d = if nrD s side u d = true then wyN s side m (nbr u d) else 0 := rfl
    by_cases c1 : nrD s side u d = true
    · rw [if_neg (by rw [c1]; decide)]
      rw [if_pos c1] at eT
      have c2 := c1
      unfold nrD at c2
      rw [Bool.and_eq_true, Bool.and_eq_true, decide_eq_true_iff, decide_eq_true_iff] at c2
      obtain ⟨ho, h0, h1⟩ := c2
      have hn1 := op_nb hz hu hd4 ho
      have hn2 := hn1.1
      have e1 : t.1 u = dl s side u := BI_ex Sd_lt (op_hg hz) hI hu hF
      have e3 : t.1 (nbr u d) = (m : Int) := by
        rw [← hT] at c1
        unfold nrT at c1
        rw [Bool.and_eq_true, Bool.and_eq_true, decide_eq_true_iff, decide_eq_true_iff] at c1
        omega
      have e4 := hN _ hn1.1 e3
      have e5 : wyC s side (nbr u d) = wyN s side m (nbr u d) := by
        unfold wyC
        rw [show dl s side (nbr u d) = (m : Int) by omega, Int.toNat_natCast]
      rw [op_off hz hu hd4 ho]
      simp (disch := omega) only [zi_lit, zl_lit, zi_add, zi_sub, zi_mul, zi_neg, zi_lt, zi_inj, zi_clamp, zl_of, gi_zi, bd_s, ltf, bi_0, bi_1, gb_bi, Int.reduceToNat, Int.reduceNeg, Int.toNat_natCast, e4]
      rw [e5, ← eT]
      exact h2
    · rw [if_pos (by simpa using c1)]
      rw [if_neg c1] at eT
      rw [eT, Int.add_zero] at h2
      exact h2
def PNb (w k _ : Nat) : Bool := k == pNumb w
theorem CM_nb {w : Nat} {mem m2 : Mem} {t : BS} (h : CM w mem t) (f : Fr (PNb w) mem m2) : CM w m2 t := by
  obtain ⟨q1, q2, q3, q4, q5⟩ := h
  have n1 : ∀ j, PNb w (pDist w) j = false := fun j => by unfold PNb pDist pNumb; simp
  have n2 : ∀ j, PNb w (pQueue w) j = false := fun j => by unfold PNb pQueue pNumb; simp
  have n3 : ∀ j, PNb w (pWays w) j = false := fun j => by unfold PNb pWays pNumb; simp
  exact ⟨fun c hc => (f.1 _ _ (n1 _)).trans (q1 c hc), fun k hk => (f.1 _ _ (n2 _)).trans (q2 k hk), (f.1 _ _ (n3 _)).trans q3, q4, q5⟩
theorem PNb_35 {w : Nat} (hw : w ≤ 1) : ∀ k j, 35 ≤ k → PNb w k j = false := fun k j hk => by
  unfold PNb pNumb
  simp
  omega
/-- an earlier cell of the queue -/
theorem BI_back {g : Nat → Nat → Bool} {nb : Nat → Nat → Nat} {S : Nat → Prop} {t : BS} {i : Nat} (hI : BI g nb S t i) {k v : Nat} (hk : k < t.2.2) (hv : v < 81) (h0 : t.1 v ≠ -1) (h : t.1 v < t.1 (t.2.1 k)) : ∃ j, j < k ∧ t.2.1 j = v := by
  obtain ⟨j, q1, q2⟩ := hI.2.1 v hv h0
  refine ⟨j, ?_, q2⟩
  by_cases q : j < k
  · exact q
  · have := hI.2.2.2.2.1 k j (by omega) q1
    rw [q2] at this
    omega
theorem c_cw9 (fu w r r2 i2 : Nat) (hfu : 1000 ≤ fu) (hw : w ≤ 1) {s : Nat → Int} (hz : szO s) {side : Int} {t : BS} {ix : Nat} (hI : BI (op s) nbr (Sd s side) t ix) {c : Nat} (hc : c < 81) (hcF : t.1 c ≠ -1) : ∀ (q n k : Nat) (mem : Mem), k + q = t.2.2 → q < n → RB mem r s → rd mem (pPawn r2 i2) 0 = zi (c : Int) → CM w mem t → (∀ j, j < k → rd mem (pNumb w) (t.2.1 j) = zi (wyC s side (t.2.1 j))) → ∃ mem2, K_X10_countWays_9 fu w r r2 i2 n (zi (k : Int)) mem = some (zi (wyC s side c), mem2) ∧ Fr (PNb w) mem mem2 := by
  have hb0 := fun (m : Mem) (h : CM w m t) => h.2.2.2.1
  have h81 : t.2.2 ≤ 81 := by rw [hI.2.2.1]; exact cnt_le _ _
  intro q
  induction q with
  | zero =>
    intro n k mem hk hn hR hP hC hN
    obtain ⟨n, rfl⟩ : ∃ f, n = f + 1 := ⟨n - 1, by omega⟩
    have hbc := hC.2.2.2.1 c
    obtain ⟨j, j1, j2⟩ := hI.2.1 c hc hcF
    have e := hN j (by omega)
    rw [j2] at e
    rw [K_X10_countWays_9]
    simp (disch := omega) only [zi_lit, zl_lit, zi_add, zi_sub, zi_mul, zi_neg, zi_lt, zi_inj, zi_clamp, zl_of, gi_zi, bd_s, ltf, bi_0, bi_1, gb_bi, Int.reduceToNat, Int.reduceNeg, Int.toNat_natCast, hC.2.2.1, hP, hC.1 c hc, e]
    rw [if_neg (by omega), if_neg hcF]
    exact ⟨mem, rfl, Fr_rf _ mem⟩
  | succ q ih =>
    intro n k mem hk hn hR hP hC hN
    obtain ⟨n, rfl⟩ : ∃ f, n = f + 1 := ⟨n - 1, by omega⟩
    have hkt : k < t.2.2 := by omega
    have hu := hI.1 k hkt
    have hul := hu.1
    have hbu := hC.2.2.2.1 (t.2.1 k)
    have hu0 := hI.2.2.2.1 _ hu.2
    have e1 : t.1 (t.2.1 k) = dl s side (t.2.1 k) := BI_ex Sd_lt (op_hg hz) hI hu.1 hu.2
    have fin : ∀ v : Int, v = wyC s side (t.2.1 k) → ∃ mem2, K_X10_countWays_52 fu w r r2 i2 (K_X10_countWays_9 fu w r r2 i2 n) (zi (k : Int)) (zi v) (zi (t.2.1 k : Int)) mem = some (zi (wyC s side c), mem2) ∧ Fr (PNb w) mem mem2 := fun v hv => by
      subst hv
      unfold K_X10_countWays_52
      simp (disch := omega) only [zi_lit, zl_lit, zi_add, zi_sub, zi_mul, zi_neg, zi_lt, zi_inj, zi_clamp, zl_of, gi_zi, bd_s, ltf, bi_0, bi_1, gb_bi, Int.reduceToNat, Int.reduceNeg, Int.toNat_natCast]
      have f : Fr (PNb w) mem (mw mem (pNumb w) (t.2.1 k) (zi (wyC s side (t.2.1 k)))) := Fr_mw _ _ (by unfold PNb; simp)
      obtain ⟨m2, a1, a2⟩ := ih n (k + 1) _ (by omega) (by omega) (RB_fr f (PNb_35 hw) hR) (by rw [rd_mw, if_neg (fun h => by have := h.1; unfold pPawn pNumb at this; omega)]; exact hP) (CM_nb hC f) (fun j hj => by
        rw [rd_mw]
        by_cases q1 : t.2.1 j = t.2.1 k
        · rw [if_pos ⟨rfl, q1⟩, q1]
        · rw [if_neg (fun h => q1 h.2)]
          refine hN j ?_
          by_cases q2 : j = k
          · rw [q2] at q1
            exact absurd rfl q1
          · omega)
      exact ⟨m2, a1, Fr_tr f a2⟩
    rw [K_X10_countWays_9]
    simp (disch := omega) only [zi_lit, zl_lit, zi_add, zi_sub, zi_mul, zi_neg, zi_lt, zi_inj, zi_clamp, zl_of, gi_zi, bd_s, ltf, bi_0, bi_1, gb_bi, Int.reduceToNat, Int.reduceNeg, Int.toNat_natCast, hC.2.2.1, hC.2.1 k hkt, hC.1 _ hu.1]
    rw [if_pos (by omega)]
    by_cases c1 : t.1 (t.2.1 k) = 0
    · rw [if_pos c1]
      refine fin 1 ?_
      unfold wyC
      rw [← e1, c1]
      rfl
    · rw [if_neg c1]
      obtain ⟨m, hm⟩ : ∃ m : Nat, dl s side (t.2.1 k) = (m : Int) + 1 := ⟨(dl s side (t.2.1 k) - 1).toNat, by omega⟩
      have h5 := c_sn5 fu w r hz hR hC hI hu.1 hu.2 hm (fun v hv hv2 => by
        obtain ⟨j, j1, j2⟩ := BI_back hI hkt hv (by omega) (by omega)
        rw [← j2]
        exact hN j j1) 4 fu 0 (by omega) (by omega)
      have h6 : K_X10_sumOfNearer fu w r (zi (t.2.1 k : Int)) mem = some (zi (wyN s side (m + 1) (t.2.1 k))) := h5
      rw [h6]
      refine fin _ ?_
      unfold wyC
      rw [hm]
      rfl
def PCN (w k j : Nat) : Bool := PC w k j || PNb w k j
theorem PCN_PC {w k j : Nat} (h : PCN w k j = false) : PC w k j = false := by
  unfold PCN at h
  rw [Bool.or_eq_false_iff] at h
  exact h.1
theorem PCN_N {w k j : Nat} (h : PCN w k j = false) : PNb w k j = false := by
  unfold PCN at h
  rw [Bool.or_eq_false_iff] at h
  exact h.2
theorem c_meas2 (fu w r : Nat) (hfu : 1000 ≤ fu) (hw : w ≤ 1) {s : Nat → Int} (hz : szO s) (hc : cnO s) (hp : pasO s) (hwy : wyO s) {mem : Mem} (hR : RC mem r s) {k : Nat} (hks : (k : Int) < s 2) : ∃ mem2 t ix, K_X10_measure fu w r r k mem = some (zi (dst s k), mem2) ∧ CM w mem2 t ∧ BI (op s) nbr (Sd s (pg s k 2)) t ix ∧ t.1 (celN s k) = dst s k ∧ RC mem2 r s ∧ rd mem2 (pPawn r k) 0 = zi (celN s k : Int) ∧ Fr (PC w) mem mem2 := by
  have c1 := hc.1
  have hpk := hp k (by omega) hks
  have hRP := hR.2.2.1 k (by omega) hks
  have hdd := dst_dl hz hpk
  have hxy := cl_nat hz hpk.1
  have hcl := cel_lt hz hpk
  obtain ⟨m1, t, ix, a1, a2, a3, a4, a5, a6⟩ := c_spread0 fu w r hfu hw hR.1 hz (side := pg s k 2) (tgt := 9 * pg s k 1 + pg s k 0) hpk.2.1.1 hpk.2.1.2 (by omega) (by omega)
  rw [show (9 * pg s k 1 + pg s k 0).toNat = celN s k from rfl, ← hdd] at a1 a5
  have hR1 := RC_fr a6 (PC_35 hw) hR
  have e3 : 9 * pg s k 1 + pg s k 0 = (celN s k : Int) := by
    unfold celN
    omega
  refine ⟨m1, t, ix, ?_, a2, a3, a5, hR1, ?_, a6⟩
  · unfold K_X10_measure
    simp (disch := omega) only [zi_lit, zl_lit, zi_add, zi_sub, zi_mul, zi_neg, zi_lt, zi_inj, zi_clamp, zl_of, gi_zi, bd_s, ltf, bi_0, bi_1, gb_bi, Int.reduceToNat, Int.reduceNeg, Int.toNat_natCast, hRP.2.1, hRP.1, a1]
  · rw [(hR1.2.2.1 k (by omega) hks).1, e3]
theorem c_countWays (fu w r : Nat) (hfu : 1000 ≤ fu) (hw : w ≤ 1) {s : Nat → Int} (hz : szO s) (hc : cnO s) (hp : pasO s) (hwy : wyO s) {mem : Mem} (hR : RC mem r s) {k : Nat} (hks : (k : Int) < s 2) : ∃ mem2, K_X10_countWays fu w r r k mem = some (zi (wyC s (pg s k 2) (celN s k)), mem2) ∧ Fr (PCN w) mem mem2 := by
  have c1 := hc.1
  have hcl := cel_lt hz (hp k (by omega) hks)
  obtain ⟨m1, t, ix, a1, a2, a3, a4, a5, a6, a7⟩ := c_meas2 fu w r hfu hw hz hc hp hwy hR hks
  have h81 : t.2.2 ≤ 81 := by rw [a3.2.2.1]; exact cnt_le _ _
  obtain ⟨m2, b1, b2⟩ := c_cw9 fu w r r k hfu hw hz a3 hcl.1 (by rw [a4]; exact hwy k (by omega) hks) t.2.2 fu 0 m1 (by omega) (by omega) a5.1 a6 a2 (fun j hj => absurd hj (Nat.not_lt_zero j))
  unfold K_X10_countWays
  rw [a1]
  exact ⟨m2, b1, Fr_tr (Fr_mono a7 (fun _ _ => PCN_PC)) (Fr_mono b2 (fun _ _ => PCN_N))⟩
/-- the reference counts -/
def P10 (k _ : Nat) : Bool := k == 10
theorem BM_o {P : Nat → Nat → Bool} {m1 m2 : Mem} {t : BS} (h : BM m1 t) (f : Fr P m1 m2) (h7 : ∀ j, P 7 j = false) (h8 : ∀ j, P 8 j = false) (h0 : P 0 22 = false) : BM m2 t := by
  obtain ⟨q1, q2, q3, q4, q5⟩ := h
  exact ⟨fun c hc => (f.1 _ _ (h7 _)).trans (q1 c hc), fun k hk => (f.1 _ _ (h8 _)).trans (q2 k hk), (f.1 _ _ h0).trans q3, q4, q5⟩
theorem m_wy73 (fu : Nat) (k36 : Int32 → Int32 → Mem → Option (Int32 × Mem)) {mem : Mem} {s : Nat → Int} (hS : MS mem s) (hz : szO s) (hW : wlO s) {side : Int} {t : BS} (hB : BM mem t) (hI : BI (op s) nbr (Sd s side) t t.2.2) {u : Nat} (hu : u < 81) (hc : isCl s (xo u) (yo u) = true) (hF : t.1 u ≠ -1) {x1 x2 b : Int} {T : Nat → Int} (hb : 0 ≤ b ∧ b ≤ 1) (hT : ∀ d, 0 ≤ T d ∧ T d ≤ 1000002) (h2 : ∀ d, d < 4 → nrD s side u d = true → rd mem 10 (nbr u d) = zi (T d)) (h3 : ∀ d, d < 4 → nrD s side u d = false → T d = 0) : ∀ (q n d : Nat), d + q = 4 → q < n → K_X12_ways_73 fu k36 n (zi x1) (zi x2) (zi (u : Int)) (zi (b + smNt T d)) (zi (d : Int)) mem = k36 (zi x1) (zi (x2 + 1)) (mw mem 10 u (zi ((b + smNt T 4) % 1000003))) := by
  intro q
  induction q with
  | zero =>
    intro n d hd hn
    obtain ⟨n, rfl⟩ : ∃ f, n = f + 1 := ⟨n - 1, by omega⟩
    obtain rfl : d = 4 := by omega
    have hb4 := smNt_le hT 4
    rw [K_X12_ways_73]
    simp (disch := omega) only [zi_mod, zi_lit, zl_lit, zi_add, zi_sub, zi_mul, zi_neg, zi_lt, zi_inj, zi_clamp, zl_of, gi_zi, bd_s, ltf, bi_0, bi_1, gb_bi, Int.reduceToNat, Int.reduceNeg, Int.toNat_natCast]
    rw [if_neg (by decide)]
  | succ q ih =>
    intro n d hd hn
    obtain ⟨n, rfl⟩ : ∃ f, n = f + 1 := ⟨n - 1, by omega⟩
    have hd4 : d < 4 := by omega
    have h4 := ih n (d + 1) (by omega) (by omega)
    rw [smNt, ← Int.add_assoc] at h4
    rw [K_X12_ways_73]
    simp (disch := omega) only [zi_lit, zl_lit, zi_add, zi_sub, zi_mul, zi_neg, zi_lt, zi_inj, zi_clamp, zl_of, gi_zi, bd_s, ltf, bi_0, bi_1, gb_bi, Int.reduceToNat, Int.reduceNeg, Int.toNat_natCast, m_isNearer fu hS hz hW hB hI hu hc hF hd4, k_up, k_across]
    rw [if_pos (by omega)]
    cases c1 : nrD s side u d with
    | true =>
      rw [if_neg (by decide)]
      have c2 := c1
      unfold nrD at c2
      rw [Bool.and_eq_true] at c2
      have hn1 := (op_nb hz hu hd4 c2.1).1
      have hoff := op_off hz hu hd4 c2.1
      rw [show (u : Int) + 9 * dy (d : Int) + dx (d : Int) = (nbr u d : Int) by omega]
      simp (disch := omega) only [zi_lit, zl_lit, zi_add, zi_sub, zi_mul, zi_neg, zi_lt, zi_inj, zi_clamp, zl_of, gi_zi, bd_s, ltf, bi_0, bi_1, gb_bi, Int.reduceToNat, Int.reduceNeg, Int.toNat_natCast, h2 d hd4 c1]
      exact h4
    | false =>
      rw [if_pos rfl]
      rw [h3 d hd4 c1, Int.add_zero] at h4
      exact h4
theorem nrD_0 {s : Nat → Int} {side : Int} {u d : Nat} (h : dl s side u = 0) : nrD s side u d = false := by
  unfold nrD
  rw [h]
  cases op s u d <;> rfl
theorem m_wy36 (fu : Nat) (hfu : 1000 ≤ fu) {s : Nat → Int} (hz : szO s) (hW : wlO s) {side : Int} {t : BS} (hI : BI (op s) nbr (Sd s side) t t.2.2) (hcl : ∀ c, c < 81 → t.1 c ≠ -1 → isCl s (xo c) (yo c) = true) {p : Nat} (hp4 : p < 4) (hpn : pnO s p) (hcF : t.1 (celN s p) ≠ -1) : ∀ (q n k : Nat) (mem : Mem), k + q = t.2.2 → q < n → MS mem s → BM mem t → (∀ j, j < k → rd mem 10 (t.2.1 j) = zi (wyC s side (t.2.1 j))) → ∃ mem2, K_X12_ways_36 fu n (zi (p : Int)) (zi (k : Int)) mem = some (zi (wyC s side (celN s p)), mem2) ∧ Fr P10 mem mem2 := by
  have hce := cel_lt hz hpn
  have h81 : t.2.2 ≤ 81 := by rw [hI.2.2.1]; exact cnt_le _ _
  intro q
  induction q with
  | zero =>
    intro n k mem hk hn hS hB hN
    obtain ⟨n, rfl⟩ : ∃ f, n = f + 1 := ⟨n - 1, by omega⟩
    obtain ⟨j, j1, j2⟩ := hI.2.1 _ hce.1 hcF
    have e := hN j (by omega)
    rw [j2] at e
    have e3 : 9 * pg s p 1 + pg s p 0 = (celN s p : Int) := by
      have hxy := cl_nat hz hpn.1
      unfold celN
      omega
    have hc1 := hce.1
    rw [K_X12_ways_36]
    simp (disch := omega) only [zi_lit, zl_lit, zi_add, zi_sub, zi_mul, zi_neg, zi_lt, zi_inj, zi_clamp, zl_of, gi_zi, bd_s, ltf, bi_0, bi_1, gb_bi, Int.reduceToNat, Int.reduceNeg, Int.toNat_natCast, hB.2.2.1, k_cellOf fu hS]
    rw [if_neg (by omega), e3]
    simp (disch := omega) only [zi_lit, zl_lit, zi_add, zi_sub, zi_mul, zi_neg, zi_lt, zi_inj, zi_clamp, zl_of, gi_zi, bd_s, ltf, bi_0, bi_1, gb_bi, Int.reduceToNat, Int.reduceNeg, Int.toNat_natCast, e]
    exact ⟨mem, rfl, Fr_rf _ mem⟩
  | succ q ih =>
    intro n k mem hk hn hS hB hN
    obtain ⟨n, rfl⟩ : ∃ f, n = f + 1 := ⟨n - 1, by omega⟩
    have hkt : k < t.2.2 := by omega
    have hu := hI.1 k hkt
    have hul := hu.1
    have hbu := hB.2.2.2.1 (t.2.1 k)
    have hu0 := hI.2.2.2.1 _ hu.2
    have e1 : t.1 (t.2.1 k) = dl s side (t.2.1 k) := BI_ex Sd_lt (op_hg hz) hI hu.1 hu.2
    obtain ⟨v, hv⟩ : ∃ v, v = t.2.1 k := ⟨_, rfl⟩
    rw [← hv] at hu hul hbu hu0 e1
    have go : ∀ (b : Int) (T : Nat → Int), (0 ≤ b ∧ b ≤ 1) → (∀ d, 0 ≤ T d ∧ T d ≤ 1000002) → (∀ d, d < 4 → nrD s side v d = true → rd mem 10 (nbr v d) = zi (T d)) → (∀ d, d < 4 → nrD s side v d = false → T d = 0) → (b + smNt T 4) % 1000003 = wyC s side v → ∃ mem2, K_X12_ways_73 fu (K_X12_ways_36 fu n) fu (zi (p : Int)) (zi (k : Int)) (zi (v : Int)) (zi b) (zi 0) mem = some (zi (wyC s side (celN s p)), mem2) ∧ Fr P10 mem mem2 := fun b T hb hT h2 h3 h4 => by
      have h := m_wy73 fu (K_X12_ways_36 fu n) hS hz hW hB hI hul (hcl v hul hu.2) hu.2 (x1 := (p : Int)) (x2 := (k : Int)) hb hT h2 h3 4 fu 0 (by omega) (by omega)
      rw [h4] at h
      have f : Fr P10 mem (mw mem 10 v (zi (wyC s side v))) := Fr_mw _ _ rfl
      obtain ⟨m2, a1, a2⟩ := ih n (k + 1) _ (by omega) (by omega) (MS_fr f (fun _ => rfl) hS) (BM_o hB f (fun _ => rfl) (fun _ => rfl) rfl) (fun j hj => by
        rw [rd_mw]
        by_cases q1 : t.2.1 j = v
        · rw [if_pos ⟨rfl, q1⟩, q1]
        · rw [if_neg (fun h => q1 h.2)]
          refine hN j ?_
          by_cases q2 : j = k
          · rw [q2] at q1
            exact absurd hv.symm q1
          · omega)
      refine ⟨m2, ?_, Fr_tr f a2⟩
      have e0 : b + smNt T 0 = b := Int.add_zero b
      rw [e0] at h
      exact h.trans a1
    rw [K_X12_ways_36]
    unfold K_X12_ways_65
    simp (disch := omega) only [zi_lit, zl_lit, zi_add, zi_sub, zi_mul, zi_neg, zi_lt, zi_inj, zi_clamp, zl_of, gi_zi, bd_s, ltf, bi_0, bi_1, gb_bi, Int.reduceToNat, Int.reduceNeg, Int.toNat_natCast, hB.2.2.1, hB.2.1 k hkt, ← hv, hB.1 _ hul]
    rw [if_pos (by omega)]
    by_cases c1 : t.1 v = 0
    · rw [if_pos c1, show K_X12_truth fu (zi 1) mem = some (zi 1) from rfl, bd_s]
      refine go 1 (fun _ => 0) (by decide) (fun _ => by decide) (fun d hd h => ?_) (fun _ _ _ => rfl) ?_
      · rw [nrD_0 (by rw [← e1]; exact c1)] at h
        cases h
      · unfold wyC
        rw [← e1, c1]
        rfl
    · rw [if_neg c1, show K_X12_truth fu (zi 0) mem = some (zi 0) from rfl, bd_s]
      obtain ⟨m, hm⟩ : ∃ m : Nat, dl s side v = (m : Int) + 1 := ⟨(dl s side v - 1).toNat, by omega⟩
      refine go 0 (wyT s side m v) (by decide) (wyT_le s side m v) (fun d hd h => ?_) (fun d hd h => ?_) ?_
      · have h9 : wyT s side m v d = wyN s side m (nbr v d) := if_pos h
        have hT := nrT_D hz hI hul hu.2 hd
        have c2 := h
        unfold nrD at c2
        rw [Bool.and_eq_true, Bool.and_eq_true, decide_eq_true_iff, decide_eq_true_iff] at c2
        obtain ⟨ho, h0, h1⟩ := c2
        rw [← hT] at h
        unfold nrT at h
        rw [Bool.and_eq_true, Bool.and_eq_true, decide_eq_true_iff, decide_eq_true_iff] at h
        have hn1 := (op_nb hz hul hd ho).1
        obtain ⟨j, j1, j2⟩ := BI_back hI hkt hn1 (by omega) (by rw [← hv]; omega)
        have e5 : wyC s side (nbr v d) = wyN s side m (nbr v d) := by
          unfold wyC
          rw [show dl s side (nbr v d) = (m : Int) by omega, Int.toNat_natCast]
        rw [h9, ← e5, ← j2]
        exact hN j j1
      · show (if nrD s side v d = true then _ else _) = _
        rw [h]
        rfl
      · rw [Int.zero_add]
        unfold wyC
        rw [hm, show ((m : Int) + 1).toNat = m + 1 by omega, wyN_s]
end COUNTW
