section PLAY
/-- the pawn with the least distance, but one -/
noncomputable def stNr (s : Nat → Int) (but : Int) (k : Nat) (b : BC) : BC := if pg s k 6 = 0 ∧ (k : Int) ≠ but then (if b.1 = -1 ∨ dst s k < b.2 then ((k : Int), dst s k) else b) else b
noncomputable def nrF (s : Nat → Int) (but : Int) : Nat → Nat → BC → BC
  | 0, _, b => b
  | q + 1, k, b => nrF s but q (k + 1) (stNr s but k b)
noncomputable def nrS (s : Nat → Int) (but : Int) : Int := (nrF s but (s 2).toNat 0 (-1, 0)).1
theorem nrF_sp {s : Nat → Int} {but : Int} : ∀ (q k : Nat) (b : BC), ((k : Int) + q = s 2) → (b.1 = -1 ∨ (0 ≤ b.1 ∧ b.1 < s 2 ∧ pg s b.1 6 = 0 ∧ b.1 ≠ but)) → ((nrF s but q k b).1 = -1 ∨ (0 ≤ (nrF s but q k b).1 ∧ (nrF s but q k b).1 < s 2 ∧ pg s (nrF s but q k b).1 6 = 0 ∧ (nrF s but q k b).1 ≠ but)) := by
  intro q
  induction q with
  | zero => exact fun k b _ h => h
  | succ q ih =>
    intro k b hk h
    refine ih (k + 1) _ (by omega) ?_
    unfold stNr
    by_cases c1 : pg s k 6 = 0 ∧ (k : Int) ≠ but
    · rw [if_pos c1]
      by_cases c2 : b.1 = -1 ∨ dst s k < b.2
      · rw [if_pos c2]
        exact Or.inr ⟨by show (0 : Int) ≤ k; omega, by show (k : Int) < s 2; omega, c1.1, c1.2⟩
      · rw [if_neg c2]
        exact h
    · rw [if_neg c1]
      exact h
theorem nrS_sp {s : Nat → Int} (h : 0 ≤ s 2) (but : Int) : nrS s but = -1 ∨ (0 ≤ nrS s but ∧ nrS s but < s 2 ∧ pg s (nrS s but) 6 = 0 ∧ nrS s but ≠ but) := nrF_sp (s 2).toNat 0 (-1, 0) (by omega) (Or.inl rfl)
theorem c_nr8 (fu r : Nat) (hfu : 1000 ≤ fu) {s : Nat → Int} (hz : szO s) (hc : cnO s) (hW : wlO s) (hp : pasO s) {but : Int} (hb1 : -1 ≤ but) (hb2 : but ≤ 3) : ∀ (q n k : Nat) (b : BC) (mem : Mem), (k : Int) + q = s 2 → q < n → (-1 ≤ b.1 ∧ b.1 ≤ 3) → (-1 ≤ b.2 ∧ b.2 ≤ 80) → RC mem r s → ∃ mem2, K_X5_nearest_8 fu r n (zi but) (zi b.1) (zi b.2) (zi (k : Int)) mem = some (zi (nrF s but q k b).1, mem2) ∧ Fr (PC 0) mem mem2 := by
  have c1 := hc.1
  intro q
  induction q with
  | zero =>
    intro n k b mem hk hn h1 h2 hR
    obtain ⟨n, rfl⟩ : ∃ f, n = f + 1 := ⟨n - 1, by omega⟩
    rw [K_X5_nearest_8]
    simp (disch := omega) only [zi_lit, zl_lit, zi_add, zi_sub, zi_mul, zi_neg, zi_lt, zi_inj, zi_clamp, zl_of, gi_zi, bd_s, ltf, bi_0, bi_1, gb_bi, Int.reduceToNat, Int.reduceNeg, Int.toNat_natCast, hR.2.1.1]
    rw [if_neg (by omega)]
    exact ⟨mem, rfl, Fr_rf _ mem⟩
  | succ q ih =>
    intro n k b mem hk hn h1 h2 hR
    obtain ⟨n, rfl⟩ : ∃ f, n = f + 1 := ⟨n - 1, by omega⟩
    have hk4 : k < 4 := by omega
    have hks : (k : Int) < s 2 := by omega
    have hpk := hp k (by omega) hks
    have hRP := hR.2.2.1 k hk4 hks
    have hle := dst_le hz hW hpk
    have hdd := dst_dl hz hpk
    have hxy := cl_nat hz hpk.1
    have h6 := hpk.2.2.2.2.2.1
    have h5 := hc.2.2.2.2.1
    have h4 := hc.2.2.2.1
    obtain ⟨m1, t, ix, a1, a2, a3, a4, a5, a6⟩ := c_spread0 fu 0 r hfu (by omega) hR.1 hz (side := pg s k 2) (tgt := 9 * pg s k 1 + pg s k 0) hpk.2.1.1 hpk.2.1.2 (by omega) (by omega)
    rw [show (9 * pg s k 1 + pg s k 0).toNat = celN s k from rfl, ← hdd] at a1
    rw [K_X5_nearest_8]
    unfold K_X5_nearest_85
    simp (disch := omega) only [zi_lit, zl_lit, zi_add, zi_sub, zi_mul, zi_neg, zi_lt, zi_inj, zi_clamp, zl_of, gi_zi, bd_s, ltf, bi_0, bi_1, gb_bi, Int.reduceToNat, Int.reduceNeg, Int.toNat_natCast, hR.2.1.1, hRP.2.2.2.2.2, hRP.2.1, hRP.1, a1]
    rw [if_pos (by omega), nrF]
    unfold stNr
    by_cases q1 : pg s k 6 = 0
    · rw [if_pos q1]
      by_cases q2 : (k : Int) = but
      · rw [if_pos q2, if_neg (show ¬ (pg s k 6 = 0 ∧ (k : Int) ≠ but) from fun h => h.2 q2)]
        exact ih n (k + 1) b mem (by omega) (by omega) h1 h2 hR
      · rw [if_neg q2, if_pos (show pg s k 6 = 0 ∧ (k : Int) ≠ but from ⟨q1, q2⟩)]
        have hR1 := RC_fr a6 (PC_35 (by omega)) hR
        obtain ⟨m2, u1, u2⟩ := ih n (k + 1) ((k : Int), dst s k) m1 (by omega) (by omega) ⟨by show -1 ≤ (k : Int); omega, by show (k : Int) ≤ 3; omega⟩ hle hR1
        by_cases q3 : b.1 = -1
        · rw [if_pos q3, if_pos (Or.inl q3)]
          exact ⟨m2, u1, Fr_tr a6 u2⟩
        · rw [if_neg q3]
          by_cases q4 : dst s k < b.2
          · rw [if_pos q4, if_pos (Or.inr q4)]
            exact ⟨m2, u1, Fr_tr a6 u2⟩
          · rw [if_neg q4, if_neg (fun h => by
              rcases h with h | h
              · exact q3 h
              · exact q4 h)]
            obtain ⟨m3, v1, v2⟩ := ih n (k + 1) b m1 (by omega) (by omega) h1 h2 hR1
            exact ⟨m3, v1, Fr_tr a6 v2⟩
    · rw [if_neg q1, if_neg (show ¬ (pg s k 6 = 0 ∧ (k : Int) ≠ but) from fun h => q1 h.1)]
      exact ih n (k + 1) b mem (by omega) (by omega) h1 h2 hR
theorem c_nearest (fu r : Nat) (hfu : 1000 ≤ fu) {s : Nat → Int} (hz : szO s) (hc : cnO s) (hW : wlO s) (hp : pasO s) {but : Int} (hb1 : -1 ≤ but) (hb2 : but ≤ 3) {mem : Mem} (hR : RC mem r s) : ∃ mem2, K_X5_nearest fu r (zi but) mem = some (zi (nrS s but), mem2) ∧ Fr (PC 0) mem mem2 := by
  have c1 := hc.1
  exact c_nr8 fu r hfu hz hc hW hp hb1 hb2 (s 2).toNat fu 0 (-1, 0) mem (by omega) (by omega) ⟨Int.le_refl _, (by decide : (-1 : Int) ≤ 3)⟩ ⟨(by decide : (-1 : Int) ≤ 0), (by decide : (0 : Int) ≤ 80)⟩ hR
theorem m_nr7 (fu : Nat) (hfu : 1000 ≤ fu) {s : Nat → Int} (hz : szO s) (hc : cnO s) (hW : wlO s) (hp : pasO s) {but : Int} (hb1 : -1 ≤ but) (hb2 : but ≤ 3) : ∀ (q n k : Nat) (b : BC) (mem : Mem), (k : Int) + q = s 2 → q < n → (-1 ≤ b.1 ∧ b.1 ≤ 3) → (-1 ≤ b.2 ∧ b.2 ≤ 80) → MS mem s → ∃ mem2, K_X12_nearest_7 fu n (zi but) (zi b.1) (zi b.2) (zi (k : Int)) mem = some (zi (nrF s but q k b).1, mem2) ∧ Fr PB mem mem2 := by
  have c1 := hc.1
  intro q
  induction q with
  | zero =>
    intro n k b mem hk hn h1 h2 hS
    obtain ⟨n, rfl⟩ : ∃ f, n = f + 1 := ⟨n - 1, by omega⟩
    rw [K_X12_nearest_7]
    simp (disch := omega) only [zi_lit, zl_lit, zi_add, zi_sub, zi_mul, zi_neg, zi_lt, zi_inj, zi_clamp, zl_of, gi_zi, bd_s, ltf, bi_0, bi_1, gb_bi, Int.reduceToNat, Int.reduceNeg, Int.toNat_natCast, hS _]
    rw [if_neg (by omega)]
    exact ⟨mem, rfl, Fr_rf _ mem⟩
  | succ q ih =>
    intro n k b mem hk hn h1 h2 hS
    obtain ⟨n, rfl⟩ : ∃ f, n = f + 1 := ⟨n - 1, by omega⟩
    have hks : (k : Int) < s 2 := by omega
    have hpk := hp k (by omega) hks
    have hle := dst_le hz hW hpk
    have h6 := hpk.2.2.2.2.2.1
    have h5 := hc.2.2.2.2.1
    have h4 := hc.2.2.2.1
    obtain ⟨m1, a1, a6⟩ := m_dist fu hfu hS hz hW hc (p := (k : Int)) (by omega) hks hpk
    rw [K_X12_nearest_7]
    unfold K_X12_nearest_58
    simp (disch := omega) only [zi_lit, zl_lit, zi_add, zi_sub, zi_mul, zi_neg, zi_lt, zi_inj, zi_clamp, zl_of, gi_zi, bd_s, ltf, bi_0, bi_1, gb_bi, Int.reduceToNat, Int.reduceNeg, Int.toNat_natCast, hS _, k_fin fu hS, a1]
    rw [if_pos (by omega), nrF]
    unfold stNr
    by_cases q2 : (k : Int) = but
    · rw [if_pos q2, if_neg (show ¬ (pg s k 6 = 0 ∧ (k : Int) ≠ but) from fun h => h.2 q2)]
      exact ih n (k + 1) b mem (by omega) (by omega) h1 h2 hS
    · rw [if_neg q2]
      by_cases q1 : pg s k 6 = 0
      · rw [if_pos (decide_eq_false (by omega)), if_pos (show pg s k 6 = 0 ∧ (k : Int) ≠ but from ⟨q1, q2⟩)]
        have hS1 := MS_fr a6 PB_2 hS
        obtain ⟨m2, u1, u2⟩ := ih n (k + 1) ((k : Int), dst s k) m1 (by omega) (by omega) ⟨by show -1 ≤ (k : Int); omega, by show (k : Int) ≤ 3; omega⟩ hle hS1
        by_cases q3 : b.1 = -1
        · rw [if_pos q3, if_pos (Or.inl q3)]
          exact ⟨m2, u1, Fr_tr a6 u2⟩
        · rw [if_neg q3]
          by_cases q4 : dst s k < b.2
          · rw [if_pos q4, if_pos (Or.inr q4)]
            exact ⟨m2, u1, Fr_tr a6 u2⟩
          · rw [if_neg q4, if_neg (fun h => by
              rcases h with h | h
              · exact q3 h
              · exact q4 h)]
            obtain ⟨m3, v1, v2⟩ := ih n (k + 1) b m1 (by omega) (by omega) h1 h2 hS1
            exact ⟨m3, v1, Fr_tr a6 v2⟩
      · rw [if_neg (by rw [decide_eq_true (by omega)]; decide), if_neg (show ¬ (pg s k 6 = 0 ∧ (k : Int) ≠ but) from fun h => q1 h.1)]
        exact ih n (k + 1) b mem (by omega) (by omega) h1 h2 hS
theorem m_nearest (fu : Nat) (hfu : 1000 ≤ fu) {s : Nat → Int} (hz : szO s) (hc : cnO s) (hW : wlO s) (hp : pasO s) {but : Int} (hb1 : -1 ≤ but) (hb2 : but ≤ 3) {mem : Mem} (hS : MS mem s) : ∃ mem2, K_X12_nearest fu (zi but) mem = some (zi (nrS s but), mem2) ∧ Fr PB mem mem2 := by
  have c1 := hc.1
  exact m_nr7 fu hfu hz hc hW hp hb1 hb2 (s 2).toNat fu 0 (-1, 0) mem (by omega) (by omega) ⟨Int.le_refl _, (by decide : (-1 : Int) ≤ 3)⟩ ⟨(by decide : (-1 : Int) ≤ 0), (by decide : (0 : Int) ≤ 80)⟩ hS
/-- the distance of a pawn -/
theorem c_measure (fu w r : Nat) (hfu : 1000 ≤ fu) (hw : w ≤ 1) {s : Nat → Int} (hz : szO s) (hc : cnO s) (hp : pasO s) {mem : Mem} (hR : RC mem r s) {k : Nat} (hks : (k : Int) < s 2) : ∃ mem2, K_X10_measure fu w r r k mem = some (zi (dst s k), mem2) ∧ Fr (PC w) mem mem2 := by
  have c1 := hc.1
  have hpk := hp k (by omega) hks
  have hRP := hR.2.2.1 k (by omega) hks
  have hdd := dst_dl hz hpk
  have hxy := cl_nat hz hpk.1
  obtain ⟨m1, t, ix, a1, a2, a3, a4, a5, a6⟩ := c_spread0 fu w r hfu hw hR.1 hz (side := pg s k 2) (tgt := 9 * pg s k 1 + pg s k 0) hpk.2.1.1 hpk.2.1.2 (by omega) (by omega)
  rw [show (9 * pg s k 1 + pg s k 0).toNat = celN s k from rfl, ← hdd] at a1
  refine ⟨m1, ?_, a6⟩
  unfold K_X10_measure
  simp (disch := omega) only [zi_lit, zl_lit, zi_add, zi_sub, zi_mul, zi_neg, zi_lt, zi_inj, zi_clamp, zl_of, gi_zi, bd_s, ltf, bi_0, bi_1, gb_bi, Int.reduceToNat, Int.reduceNeg, Int.toNat_natCast, hRP.2.1, hRP.1, a1]
noncomputable def rvS (s : Nat → Int) : Int := if 0 < pg s (s 7) 3 then (if nrS s (s 7) = -1 then -1 else if dst s (nrS s (s 7)) < dst s (s 7) then nrS s (s 7) else -1) else -1
theorem rvS_sp {s : Nat → Int} (h : 0 ≤ s 2) : rvS s = -1 ∨ (0 ≤ rvS s ∧ rvS s < s 2 ∧ pg s (rvS s) 6 = 0 ∧ 0 < pg s (s 7) 3) := by
  unfold rvS
  by_cases c1 : 0 < pg s (s 7) 3
  · rw [if_pos c1]
    by_cases c2 : nrS s (s 7) = -1
    · rw [if_pos c2]
      exact Or.inl rfl
    · rw [if_neg c2]
      by_cases c3 : dst s (nrS s (s 7)) < dst s (s 7)
      · rw [if_pos c3]
        rcases nrS_sp h (s 7) with q | q
        · exact absurd q c2
        · exact Or.inr ⟨q.1, q.2.1, q.2.2.1, c1⟩
      · rw [if_neg c3]
        exact Or.inl rfl
  · rw [if_neg c1]
    exact Or.inl rfl
theorem c_rival (fu r : Nat) (hfu : 1000 ≤ fu) {s : Nat → Int} (hz : szO s) (hc : cnO s) (hW : wlO s) (hp : pasO s) (ho : ovB s = false) {mem : Mem} (hR : RC mem r s) : ∃ mem2, K_X5_rivalAhead fu r mem = some (zi (rvS s), mem2) ∧ Fr (PC 0) mem mem2 := by
  have hov := ov_2 hc ho
  have c1 := hc.1
  obtain ⟨t, ht⟩ : ∃ t : Nat, (t : Int) = s 7 := ⟨_, nat7 hc⟩
  have ht4 : t < 4 := by omega
  have hts : (t : Int) < s 2 := by omega
  have hpk := hp t (by omega) hts
  have h3 := hpk.2.2.1
  have h6 : rd mem (pRace r) 6 = zi (t : Int) := by rw [hR.2.1.2.2.2.1, ← ht]
  have h2 := (hR.2.2.1 t ht4 hts).2.2.1
  obtain ⟨m1, a1, a2⟩ := c_nearest fu r hfu hz hc hW hp (but := (t : Int)) (by omega) (by omega) hR
  have hR1 := RC_fr a2 (PC_35 (by omega)) hR
  unfold K_X5_rivalAhead K_X5_rivalAhead_30 rvS
  rw [← ht]
  simp (disch := omega) only [zi_lit, zl_lit, zi_add, zi_sub, zi_mul, zi_neg, zi_lt, zi_inj, zi_clamp, zl_of, gi_zi, bd_s, ltf, bi_0, bi_1, gb_bi, Int.reduceToNat, Int.reduceNeg, Int.toNat_natCast, h6, h2, a1]
  by_cases q1 : 0 < pg s t 3
  · rw [if_pos q1, if_pos q1]
    have hsp := nrS_sp c1.1 (t : Int)
    by_cases q2 : nrS s t = -1
    · rw [if_pos q2, q2]
      refine ⟨m1, ?_, a2⟩
      simp (disch := omega) only [zi_lit, zl_lit, zi_add, zi_sub, zi_mul, zi_neg, zi_lt, zi_inj, zi_clamp, zl_of, gi_zi, bd_s, ltf, bi_0, bi_1, gb_bi, Int.reduceToNat, Int.reduceNeg, Int.toNat_natCast]
      rfl
    · rw [if_neg q2]
      obtain ⟨u, hu⟩ : ∃ u : Nat, (u : Int) = nrS s t := ⟨(nrS s t).toNat, by omega⟩
      rw [← hu] at q2 hsp ⊢
      obtain ⟨m2, b1, b2⟩ := c_measure fu 0 r hfu (by omega) hz hc hp hR1 (k := t) hts
      have hR2 := RC_fr b2 (PC_35 (by omega)) hR1
      obtain ⟨m3, d1, d2⟩ := c_measure fu 0 r hfu (by omega) hz hc hp hR2 (k := u) (by omega)
      have l1 := dst_le hz hW hpk
      have l2 := dst_le hz hW (hp u (by omega) (by omega))
      simp (disch := omega) only [zi_lit, zl_lit, zi_add, zi_sub, zi_mul, zi_neg, zi_lt, zi_inj, zi_clamp, zl_of, gi_zi, bd_s, ltf, bi_0, bi_1, gb_bi, Int.reduceToNat, Int.reduceNeg, Int.toNat_natCast, b1, d1]
      rw [if_neg (by omega)]
      refine ⟨m3, ?_, Fr_tr (Fr_tr a2 b2) d2⟩
      by_cases q3 : dst s u < dst s t
      · rw [if_pos q3, if_pos q3]
      · rw [if_neg q3, if_neg q3]
  · rw [if_neg q1, if_neg q1]
    exact ⟨mem, if_pos trivial, Fr_rf _ mem⟩
/-- a turn of play, n turns of play -/
noncomputable def adv1 (s : Nat → Int) : Nat → Int := if avS s (s 7) = -1 then etS s else mvSt s (s 7) (gB s (s 7) (avS s (s 7)).toNat) (avS s (s 7)).toNat
noncomputable def onS (s : Nat → Int) (mode : Int) : Nat → Int := if mode = 1 ∧ rvS s ≠ -1 ∧ 1 ≤ (bstB s (rvS s)).1 then bdS s (bstB s (rvS s)).2.1 (bstB s (rvS s)).2.2.1 ((bstB s (rvS s)).2.2.2 + 1) else adv1 s
noncomputable def plS (mode : Int) : Nat → (Nat → Int) → Nat → (Nat → Int) × Nat
  | 0, s, k => (s, k)
  | q + 1, s, k => if ovB s = true then (s, k) else plS mode q (onS s mode) (k + 1)
theorem avF_sp {s : Nat → Int} {p : Int} : ∀ (q d : Nat) (b : BC), d + q = 4 → (b.1 = -1 ∨ ∃ e : Nat, b.1 = (e : Int) ∧ e < 4 ∧ gB s p e ≠ 0) → ((avF s p q d b).1 = -1 ∨ ∃ e : Nat, (avF s p q d b).1 = (e : Int) ∧ e < 4 ∧ gB s p e ≠ 0) := by
  intro q
  induction q with
  | zero => exact fun d b _ h => h
  | succ q ih =>
    intro d b hd h
    refine ih (d + 1) _ (by omega) ?_
    unfold stA
    by_cases c1 : gB s p d = 0
    · rw [if_pos c1]
      exact h
    · rw [if_neg c1]
      by_cases c2 : b.1 = -1 ∨ dl s (pg s p 2) (ldN s p d) < b.2
      · rw [if_pos c2]
        exact Or.inr ⟨d, rfl, by omega, c1⟩
      · rw [if_neg c2]
        exact h
theorem avS_sp (s : Nat → Int) (p : Int) : avS s p = -1 ∨ ∃ e : Nat, avS s p = (e : Int) ∧ e < 4 ∧ gB s p e ≠ 0 := avF_sp 4 0 (-1, 0) rfl (Or.inl rfl)
theorem adv_Inv {s : Nat → Int} (hI : Inv s) (ho : ovB s = false) : Inv (adv1 s) := by
  have hov := ov_2 hI.2.1 ho
  have h7 := nat7 hI.2.1
  unfold adv1
  rcases avS_sp s (s 7) with h | ⟨e, h1, h2, h3⟩
  · rw [if_pos h]
    exact Inv_et hI hov.2.1 (by omega)
  · rw [if_neg (by omega), h1, Int.toNat_natCast, ← h7]
    rw [← h7] at h3
    exact Inv_mv hI (by omega) h2 h3
theorem bst_sp {s : Nat → Int} (hI : Inv s) {p : Int} (hp0 : 0 ≤ p) (hps : p < s 2) : RBC s p (bstB s p) (skS s p) := bst_sk hI.1 hp0 (by have := hI.2.1.1; omega) hps (hI.2.2.2.1 p hp0 hps)
theorem on_Inv {s : Nat → Int} (hI : Inv s) (ho : ovB s = false) (mode : Int) : Inv (onS s mode) := by
  unfold onS
  by_cases c : mode = 1 ∧ rvS s ≠ -1 ∧ 1 ≤ (bstB s (rvS s)).1
  · rw [if_pos c]
    have hs2 := hI.2.1.1
    rcases rvS_sp hs2.1 with h | ⟨h1, h2, h3, h4⟩
    · exact absurd h c.2.1
    · obtain ⟨g1, g2⟩ := bst_sp hI h1 h2
      obtain ⟨k1, k2, k3, k4, k5, k6, k7⟩ := g2 (by omega)
      exact Inv_bd hI k3 (by omega) k4 ho h4
  · rw [if_neg c]
    exact adv_Inv hI ho
theorem pl_Inv (mode : Int) : ∀ (q : Nat) (s : Nat → Int) (k : Nat), Inv s → Inv (plS mode q s k).1 := by
  intro q
  induction q with
  | zero => exact fun s k h => h
  | succ q ih =>
    intro s k h
    rw [plS]
    cases ho : ovB s with
    | true =>
      rw [if_pos rfl]
      exact h
    | false =>
      rw [if_neg (by decide)]
      exact ih _ _ (on_Inv h ho mode)
theorem pl_le (mode : Int) : ∀ (q : Nat) (s : Nat → Int) (k : Nat), k ≤ (plS mode q s k).2 ∧ (plS mode q s k).2 ≤ k + q := by
  intro q
  induction q with
  | zero => exact fun s k => ⟨Nat.le_refl _, Nat.le_refl _⟩
  | succ q ih =>
    intro s k
    rw [plS]
    cases ho : ovB s with
    | true =>
      rw [if_pos rfl]
      exact ⟨Nat.le_refl _, by show k ≤ k + (q + 1); omega⟩
    | false =>
      rw [if_neg (by decide)]
      have := ih (onS s mode) (k + 1)
      omega
/-- what playing writes in the class: the planner's, and the race -/
def ZP (r k j : Nat) : Bool := PL r k j || ZR r k j
theorem ZP_PC {r k j : Nat} (h : ZP r k j = false) : PC 0 k j = false := by
  unfold ZP at h
  rw [Bool.or_eq_false_iff] at h
  exact PC_PA (PA_PQ (PQ_PL h.1))
theorem ZP_PL {r k j : Nat} (h : ZP r k j = false) : PL r k j = false := by
  unfold ZP at h
  rw [Bool.or_eq_false_iff] at h
  exact h.1
theorem ZP_ZR {r k j : Nat} (h : ZP r k j = false) : ZR r k j = false := by
  unfold ZP at h
  rw [Bool.or_eq_false_iff] at h
  exact h.2
theorem PL_o {r k j : Nat} (h1 : 35 + 22 * r ≤ k) (h2 : k ≠ pBoard r) (h3 : k ≠ pBuilt r) (h4 : k ≠ pOpen r) : PL r k j = false := by
  unfold PL PQ FT PWl
  rw [PC_35 (by omega) k j (by omega)]
  simp [h2, h3, h4]
  omega
/-- the search for a wall leaves the race -/
theorem RC_PL {m1 m2 : Mem} {r : Nat} {s : Nat → Int} (h : Fr (PL r) m1 m2) (hB : RB m2 r s) (hR : RC m1 r s) : RC m2 r s := by
  obtain ⟨r1, ⟨b1, b2, b3, b4, b5⟩, r3, r4⟩ := hR
  have nr : ∀ j, PL r (pRace r) j = false := fun j => PL_o (by unfold pRace; omega) (by unfold pRace pBoard; omega) (by unfold pRace pBuilt; omega) (by unfold pRace pOpen; omega)
  exact ⟨hB, ⟨(h.1 _ _ (nr _)).trans b1, (h.1 _ _ (nr _)).trans b2, (h.1 _ _ (nr _)).trans b3, (h.1 _ _ (nr _)).trans b4, (h.1 _ _ (nr _)).trans b5⟩, fun i hi hi2 => RP_fr2 h (fun j => PL_o (by unfold pPawn; omega) (by unfold pPawn pBoard; omega) (by unfold pPawn pBuilt; omega) (by unfold pPawn pOpen; omega)) (r3 i hi hi2), fun i hi hi2 => RN_fr2 h (fun j => PL_o (by unfold pBan; omega) (by unfold pBan pBoard; omega) (by unfold pBan pBuilt; omega) (by unfold pBan pOpen; omega)) (r4 i hi hi2)⟩
theorem c_pt75 (fu r : Nat) (hfu : 1000 ≤ fu) (k3 : Int32 → Int32 → Int32 → Mem → Option (Int32 × Mem)) {s : Nat → Int} (hI : Inv s) (ho : ovB s = false) {x2 x3 x4 : Int} {mem : Mem} (hR : RC mem r s) : ∃ mem2, K_X5_playTurns_75 fu r k3 (zi x2) (zi x3) (zi x4) mem = k3 (zi x2) (zi x3) (zi (x4 + 1)) mem2 ∧ RC mem2 r (adv1 s) ∧ Fr (ZP r) mem mem2 := by
  have hov := ov_2 hI.2.1 ho
  have hv : lvO s := ⟨hI.1, hI.2.1, hI.2.2.1, hI.2.2.2.1, hI.2.2.2.2.1, hI.2.2.2.2.2.2.1⟩
  obtain ⟨t, ht⟩ : ∃ t : Nat, (t : Int) = s 7 := ⟨_, nat7 hI.2.1⟩
  have hts : (t : Int) < s 2 := by omega
  have h6 : rd mem (pRace r) 6 = zi (t : Int) := by rw [hR.2.1.2.2.2.1, ← ht]
  obtain ⟨m1, a1, a2⟩ := c_advise fu r hfu hv hR hts
  have hR1 := RC_fr a2 (PC_35 (by omega)) hR
  have f1 : Fr (ZP r) mem m1 := Fr_mono a2 (fun _ _ => ZP_PC)
  unfold K_X5_playTurns_75 adv1
  rcases avS_sp s t with h | ⟨e, g1, g2, g3⟩
  · obtain ⟨m2, b1, b2, b3⟩ := c_endTurn fu r hfu (etO_of hI.2.1 hI.2.2.2.1 (by omega)) hR1
    rw [h] at a1
    rw [← ht, if_pos h]
    simp (disch := omega) only [zi_lit, zl_lit, zi_add, zi_sub, zi_mul, zi_neg, zi_lt, zi_inj, zi_clamp, zl_of, gi_zi, bd_s, ltf, bi_0, bi_1, gb_bi, Int.reduceToNat, Int.reduceNeg, Int.toNat_natCast, h6, a1]
    rw [if_pos trivial, b1]
    exact ⟨m2, rfl, b2, Fr_tr f1 (Fr_mono b3 (fun _ _ h => PEt_ZR (ZP_ZR h)))⟩
  · rw [g1] at a1
    rw [ht] at g3
    obtain ⟨m2, b1, b2, b3⟩ := c_move fu r hfu hI hR1 g2 g3
    rw [← ht] at b2
    rw [← ht, if_neg (by omega), g1, Int.toNat_natCast]
    simp (disch := omega) only [zi_lit, zl_lit, zi_add, zi_sub, zi_mul, zi_neg, zi_lt, zi_inj, zi_clamp, zl_of, gi_zi, bd_s, ltf, bi_0, bi_1, gb_bi, Int.reduceToNat, Int.reduceNeg, Int.toNat_natCast, h6, a1]
    rw [if_neg (by omega), b1]
    exact ⟨m2, rfl, b2, Fr_tr f1 (Fr_mono b3 (fun _ _ => ZP_ZR))⟩
theorem c_pt30 (fu r : Nat) (hfu : 1000 ≤ fu) (k3 : Int32 → Int32 → Int32 → Mem → Option (Int32 × Mem)) {s : Nat → Int} (hI : Inv s) (ho : ovB s = false) {x2 x3 x4 mode : Int} {rv : Int} (hrv : rv = if mode = 1 then rvS s else -1) {mem : Mem} (hR : RC mem r s) : ∃ mem2, K_X5_playTurns_30 fu r k3 (zi x2) (zi x3) (zi x4) (zi rv) mem = k3 (zi x2) (zi x3) (zi (x4 + 1)) mem2 ∧ RC mem2 r (onS s mode) ∧ Fr (ZP r) mem mem2 := by
  have hs2 := hI.2.1.1
  have hsp := rvS_sp hs2.1
  unfold K_X5_playTurns_30 onS
  by_cases c1 : rv = -1
  · rw [c1, if_pos (show zi (-1) = (-1 : Int32) from rfl), if_neg (fun h => by rw [if_pos h.1] at hrv; exact h.2.1 (hrv.symm.trans c1))]
    exact c_pt75 fu r hfu k3 hI ho hR
  · have hm : mode = 1 := by
      by_cases q : mode = 1
      · exact q
      · rw [if_neg q] at hrv
        exact absurd hrv c1
    rw [if_pos hm] at hrv
    rw [← hrv] at hsp ⊢
    obtain ⟨u, hu⟩ : ∃ u : Nat, (u : Int) = rv := ⟨rv.toNat, by omega⟩
    have hus : (u : Int) < s 2 := by omega
    rw [← hu] at c1 hsp ⊢
    have hbs := bst_sp hI (p := (u : Int)) (by omega) hus
    obtain ⟨m1, a1, a2, a3, a4, a5⟩ := c_findBest fu r hfu hI.1 hI.2.1 hI.2.2.1 hI.2.2.2.1 hI.2.2.2.2.2.2.2.2 hus hR.1 (RC_CPn hR)
    have hR1 := RC_PL a5 a2 hR
    have f1 : Fr (ZP r) mem m1 := Fr_mono a5 (fun _ _ => ZP_PL)
    obtain ⟨g1, g2, g3⟩ := a4
    have gb := g1
    have e0 : (zi (u : Int) = (-1 : Int32)) = False := by
      rw [show (-1 : Int32) = zi (-1) from rfl, zi_inj (by omega) (by omega) (by omega) (by omega)]
      exact eq_false (by omega)
    simp (disch := omega) only [zi_lit, zl_lit, zi_add, zi_sub, zi_mul, zi_neg, zi_lt, zi_inj, zi_clamp, zl_of, gi_zi, bd_s, ltf, bi_0, bi_1, gb_bi, Int.reduceToNat, Int.reduceNeg, Int.toNat_natCast, a1, g2]
    rw [if_neg (by omega)]
    by_cases q1 : (bstB s u).1 = -1
    · rw [if_pos (by rw [q1]; decide), if_neg (fun h => by omega)]
      obtain ⟨m2, b1, b2, b3⟩ := c_pt75 fu r hfu k3 hI ho (x2 := x2) (x3 := x3) (x4 := x4) hR1
      exact ⟨m2, b1, b2, Fr_tr f1 b3⟩
    · rw [if_neg (by rw [decide_eq_true q1]; decide)]
      by_cases q2 : (bstB s u).1 < 1
      · rw [if_pos q2, if_neg (fun h => by omega)]
        obtain ⟨m2, b1, b2, b3⟩ := c_pt75 fu r hfu k3 hI ho (x2 := x2) (x3 := x3) (x4 := x4) hR1
        exact ⟨m2, b1, b2, Fr_tr f1 b3⟩
      · rw [if_neg q2, if_pos ⟨hm, c1, by omega⟩]
        obtain ⟨k1, k2, k4, k5, k6, k7, k8⟩ := hbs.2 q1
        obtain ⟨j1, j2, j3⟩ := g3 q1
        obtain ⟨m2, b1, b2, b3⟩ := c_buildW fu r hfu hI hR1 k4 k6 k5 ho
        rw [j1, j2, j3, b1]
        exact ⟨m2, rfl, b2, Fr_tr f1 (Fr_mono b3 (fun _ _ => ZP_ZR))⟩
theorem c_pt3 (fu r : Nat) (hfu : 1000 ≤ fu) {mode : Int} (hm : 0 ≤ mode ∧ mode ≤ 1) {x3 : Int} (h3 : x3 ≤ 1000) : ∀ (q n k : Nat) (s : Nat → Int) (mem : Mem), (k : Int) + q = x3 → q < n → Inv s → RC mem r s → ∃ mem2, K_X5_playTurns_3 fu r n (zi mode) (zi x3) (zi (k : Int)) mem = some (zi ((plS mode q s k).2 : Int), mem2) ∧ RC mem2 r (plS mode q s k).1 ∧ Fr (ZP r) mem mem2 := by
  intro q
  induction q with
  | zero =>
    intro n k s mem hk hn hI hR
    obtain ⟨n, rfl⟩ : ∃ f, n = f + 1 := ⟨n - 1, by omega⟩
    rw [K_X5_playTurns_3]
    simp (disch := omega) only [zi_lit, zl_lit, zi_add, zi_sub, zi_mul, zi_neg, zi_lt, zi_inj, zi_clamp, zl_of, gi_zi, bd_s, ltf, bi_0, bi_1, gb_bi, Int.reduceToNat, Int.reduceNeg, Int.toNat_natCast]
    rw [if_neg (by omega)]
    exact ⟨mem, rfl, hR, Fr_rf _ mem⟩
  | succ q ih =>
    intro n k s mem hk hn hI hR
    obtain ⟨n, rfl⟩ : ∃ f, n = f + 1 := ⟨n - 1, by omega⟩
    have e := c_hasEnded fu r hR hI.2.1
    rw [K_X5_playTurns_3]
    simp (disch := omega) only [zi_lit, zl_lit, zi_add, zi_sub, zi_mul, zi_neg, zi_lt, zi_inj, zi_clamp, zl_of, gi_zi, bd_s, ltf, bi_0, bi_1, gb_bi, Int.reduceToNat, Int.reduceNeg, Int.toNat_natCast, e]
    rw [if_pos (by omega), plS]
    cases ho : ovB s with
    | true =>
      rw [if_neg (by decide), if_pos rfl]
      exact ⟨mem, rfl, hR, Fr_rf _ mem⟩
    | false =>
      rw [if_pos rfl, if_neg (show ¬ (false = true) by decide)]
      by_cases c1 : mode = 1
      · rw [if_pos c1]
        obtain ⟨m1, a1, a2⟩ := c_rival fu r hfu hI.1 hI.2.1 hI.2.2.1 hI.2.2.2.1 ho hR
        obtain ⟨m2, b1, b2, b3⟩ := c_pt30 fu r hfu (K_X5_playTurns_3 fu r n) hI ho (x2 := mode) (x3 := x3) (x4 := (k : Int)) (mode := mode) (if_pos c1).symm (RC_fr a2 (PC_35 (by omega)) hR)
        obtain ⟨m3, d1, d2, d3⟩ := ih n (k + 1) (onS s mode) m2 (by omega) (by omega) (on_Inv hI ho mode) b2
        rw [a1]
        simp only [zi_lit, zl_lit, zi_add, zi_sub, zi_mul, zi_neg, zi_lt, zi_inj, zi_clamp, zl_of, gi_zi, bd_s, ltf, bi_0, bi_1, gb_bi, Int.reduceToNat, Int.reduceNeg, Int.toNat_natCast]
        rw [b1]
        exact ⟨m3, d1, d2, Fr_tr (Fr_tr (Fr_mono a2 (fun _ _ => ZP_PC)) b3) d3⟩
      · rw [if_neg c1]
        obtain ⟨m2, b1, b2, b3⟩ := c_pt30 fu r hfu (K_X5_playTurns_3 fu r n) hI ho (x2 := mode) (x3 := x3) (x4 := (k : Int)) (mode := mode) (if_neg c1).symm hR
        obtain ⟨m3, d1, d2, d3⟩ := ih n (k + 1) (onS s mode) m2 (by omega) (by omega) (on_Inv hI ho mode) b2
        rw [b1]
        exact ⟨m3, d1, d2, Fr_tr b3 d3⟩
theorem c_plays (fu r : Nat) (hfu : 1000 ≤ fu) {mode : Int} (hm : 0 ≤ mode ∧ mode ≤ 1) {n : Nat} (hn : n ≤ 99) {s : Nat → Int} (hI : Inv s) {mem : Mem} (hR : RC mem r s) : ∃ mem2, K_X5_playTurns fu r (zi mode) (zi (n : Int)) mem = some (zi ((plS mode n s 0).2 : Int), mem2) ∧ RC mem2 r (plS mode n s 0).1 ∧ Fr (ZP r) mem mem2 := c_pt3 fu r hfu hm (by omega) n fu 0 s mem (by omega) (by omega) hI hR
/-- the reference's play -/
def PMp (k j : Nat) : Bool := PB k j || (k == 2 || (k == 0 && (j == 27 || (j == 36 || j == 46))))
theorem PM_PB {k j : Nat} (h : PMp k j = false) : PB k j = false := by
  unfold PMp at h
  rw [Bool.or_eq_false_iff] at h
  exact h.1
theorem PM_P2 {k j : Nat} (h : PMp k j = false) : PMt k j = false := by
  unfold PMp at h
  rw [Bool.or_eq_false_iff, Bool.or_eq_false_iff] at h
  exact h.2.1
theorem PM_27 {k j : Nat} (h : PMp k j = false) : P27 k j = false := by
  unfold PMp at h
  rw [Bool.or_eq_false_iff, Bool.or_eq_false_iff, Bool.and_eq_false_iff, Bool.or_eq_false_iff] at h
  unfold P27
  rw [Bool.and_eq_false_iff]
  rcases h.2.2 with q | q
  · exact Or.inl q
  · exact Or.inr q.1
theorem PM_BA {k j : Nat} (h : PMp k j = false) : PBA k j = false := by
  unfold PBA
  rw [PM_PB h, PM_27 h]
  rfl
theorem PM_PS {k j : Nat} (h : PMp k j = false) : PS k j = false := by
  unfold PS
  rw [PM_PB h]
  unfold PMp at h
  rw [Bool.or_eq_false_iff, Bool.or_eq_false_iff, Bool.and_eq_false_iff, Bool.or_eq_false_iff, Bool.or_eq_false_iff] at h
  rw [Bool.false_or, Bool.and_eq_false_iff]
  rcases h.2.2 with q | q
  · exact Or.inl q
  · exact Or.inr q.2.1
theorem m_po104 (fu : Nat) (hfu : 1000 ≤ fu) {s : Nat → Int} (hI : Inv s) (ho : ovB s = false) {mem : Mem} (hS : MS mem s) : ∃ mem2, K_X12_playsOne_104 fu (zi (s 7)) mem = some mem2 ∧ MS mem2 (adv1 s) ∧ Fr PMp mem mem2 := by
  have hov := ov_2 hI.2.1 ho
  have hv : lvO s := ⟨hI.1, hI.2.1, hI.2.2.1, hI.2.2.2.1, hI.2.2.2.2.1, hI.2.2.2.2.2.2.1⟩
  obtain ⟨t, ht⟩ : ∃ t : Nat, (t : Int) = s 7 := ⟨_, nat7 hI.2.1⟩
  have hts : (t : Int) < s 2 := by omega
  obtain ⟨m1, a1, a2⟩ := m_advises fu hfu hv hts hS
  have hS1 : MS m1 s := MS_fr a2 (fun _ => rfl) hS
  have f1 : Fr PMp mem m1 := Fr_mono a2 (fun _ _ => PM_BA)
  unfold K_X12_playsOne_104 adv1
  rw [← ht]
  rcases avS_sp s t with h | ⟨e, g1, g2, g3⟩
  · obtain ⟨m2, b1, b2, b3⟩ := m_endsTurn fu hfu (etO_of hI.2.1 hI.2.2.2.1 (by omega)) hS1
    rw [h] at a1
    rw [if_pos h]
    simp (disch := omega) only [zi_lit, zl_lit, zi_add, zi_sub, zi_mul, zi_neg, zi_lt, zi_inj, zi_clamp, zl_of, gi_zi, bd_s, ltf, bi_0, bi_1, gb_bi, Int.reduceToNat, Int.reduceNeg, Int.toNat_natCast, a1]
    rw [if_pos trivial, b1]
    exact ⟨m2, rfl, b2, Fr_tr f1 (Fr_mono b3 (fun _ _ => PM_P2))⟩
  · rw [g1] at a1
    obtain ⟨m2, b1, b2⟩ := m_goesBy fu hfu hv hS1 hts g2
    obtain ⟨m3, d1, d2, d3⟩ := m_steps fu hfu hI (MS_fr b2 (fun _ => rfl) hS1) g2 hts (by omega) g3
    rw [if_neg (by omega), g1, Int.toNat_natCast]
    simp (disch := omega) only [zi_lit, zl_lit, zi_add, zi_sub, zi_mul, zi_neg, zi_lt, zi_inj, zi_clamp, zl_of, gi_zi, bd_s, ltf, bi_0, bi_1, gb_bi, Int.reduceToNat, Int.reduceNeg, Int.toNat_natCast, a1]
    rw [if_neg (by omega), b1]
    simp only [zi_lit, zl_lit, zi_add, zi_sub, zi_mul, zi_neg, zi_lt, zi_inj, zi_clamp, zl_of, gi_zi, bd_s, ltf, bi_0, bi_1, gb_bi, Int.reduceToNat, Int.reduceNeg, Int.toNat_natCast]
    rw [d1]
    exact ⟨m3, rfl, d2, Fr_tr (Fr_tr f1 (Fr_mono b2 (fun _ _ => PM_27))) (Fr_mono d3 (fun _ _ => PM_P2))⟩
theorem m_po31 (fu : Nat) (hfu : 1000 ≤ fu) {s : Nat → Int} (hI : Inv s) (ho : ovB s = false) {mode nr : Int} (hm : mode = 1 ∨ nr = -1) (h3 : nr ≠ -1 → 0 < pg s (s 7) 3 ∧ nr = nrS s (s 7)) (hno : nr = -1 → ¬ (mode = 1 ∧ rvS s ≠ -1)) {mem : Mem} (hS : MS mem s) : ∃ mem2, K_X12_playsOne_31 fu (zi (s 7)) (zi nr) mem = some mem2 ∧ MS mem2 (onS s mode) ∧ Fr PMp mem mem2 := by
  have hov := ov_2 hI.2.1 ho
  have hs2 := hI.2.1.1
  have hs7 := hI.2.1.2.2.2.2.2.1
  unfold K_X12_playsOne_31 onS
  by_cases c1 : nr = -1
  · rw [c1, if_pos (show zi (-1) = (-1 : Int32) from rfl), if_neg (fun h => hno c1 ⟨h.1, h.2.1⟩)]
    exact m_po104 fu hfu hI ho hS
  · obtain ⟨h4, h5⟩ := h3 c1
    have hm1 : mode = 1 := by
      rcases hm with h | h
      · exact h
      · exact absurd h c1
    rcases nrS_sp hs2.1 (s 7) with q | ⟨q1, q2, q3, q4⟩
    · exact absurd (h5.trans q) c1
    · rw [← h5] at q1 q2 q3 q4
      have hnd := dst_le hI.1 hI.2.2.1 (hI.2.2.2.1 nr q1 q2)
      have htd := dst_le hI.1 hI.2.2.1 (hI.2.2.2.1 (s 7) hs7.1 (by omega))
      obtain ⟨m1, a1, a2⟩ := m_dist fu hfu hS hI.1 hI.2.2.1 hI.2.1 (p := nr) q1 q2 (hI.2.2.2.1 nr q1 q2)
      have hS1 := MS_fr a2 PB_2 hS
      obtain ⟨m2, b1, b2⟩ := m_dist fu hfu hS1 hI.1 hI.2.2.1 hI.2.1 (p := s 7) hs7.1 (by omega) (hI.2.2.2.1 (s 7) hs7.1 (by omega))
      have hS2 := MS_fr b2 PB_2 hS1
      have f2 : Fr PMp mem m2 := Fr_mono (Fr_tr a2 b2) (fun _ _ => PM_PB)
      have hrv : rvS s = if dst s nr < dst s (s 7) then nr else -1 := by
        unfold rvS
        rw [if_pos h4, ← h5, if_neg c1]
      simp (disch := omega) only [zi_lit, zl_lit, zi_add, zi_sub, zi_mul, zi_neg, zi_lt, zi_inj, zi_clamp, zl_of, gi_zi, bd_s, ltf, bi_0, bi_1, gb_bi, Int.reduceToNat, Int.reduceNeg, Int.toNat_natCast, a1, b1]
      rw [if_neg c1]
      by_cases c2 : dst s nr < dst s (s 7)
      · rw [if_pos c2] at hrv ⊢
        obtain ⟨m3, d1, d2, d3⟩ := m_seeks fu hfu hI.1 hI.2.1 hI.2.2.1 hI.2.2.2.1 q1 q2 hS2
        have hS3 : MS m3 s := MS_fr d3 (fun _ => rfl) hS2
        have f3 : Fr PMp mem m3 := Fr_tr f2 (Fr_mono d3 (fun _ _ => PM_PS))
        obtain ⟨w1, w2, w3, w4⟩ := d2
        obtain ⟨g1, g2⟩ := bst_sp hI q1 q2
        rw [hrv]
        rw [d1]
        simp (disch := omega) only [zi_lit, zl_lit, zi_add, zi_sub, zi_mul, zi_neg, zi_lt, zi_inj, zi_clamp, zl_of, gi_zi, bd_s, ltf, bi_0, bi_1, gb_bi, Int.reduceToNat, Int.reduceNeg, Int.toNat_natCast]
        by_cases c3 : (skS s nr).1 = -1
        · rw [if_pos c3, if_neg (fun h => by have := g1.mpr c3; omega)]
          obtain ⟨m4, e1, e2, e3⟩ := m_po104 fu hfu hI ho hS3
          exact ⟨m4, e1, e2, Fr_tr f3 e3⟩
        · have c4 : (bstB s nr).1 ≠ -1 := fun h => c3 (g1.mp h)
          obtain ⟨k1, k2, k3, k4, k5, k6, k7⟩ := g2 c4
          obtain ⟨m4, e1, e2⟩ := m_dist fu hfu hS3 hI.1 hI.2.2.1 hI.2.1 (p := nr) q1 q2 (hI.2.2.2.1 nr q1 q2)
          have hS4 := MS_fr e2 PB_2 hS3
          have f4 : Fr PMp mem m4 := Fr_tr f3 (Fr_mono e2 (fun _ _ => PM_PB))
          rw [if_neg c3, e1]
          simp (disch := omega) only [zi_lit, zl_lit, zi_add, zi_sub, zi_mul, zi_neg, zi_lt, zi_inj, zi_clamp, zl_of, gi_zi, bd_s, ltf, bi_0, bi_1, gb_bi, Int.reduceToNat, Int.reduceNeg, Int.toNat_natCast, w1]
          by_cases c5 : dst s nr < (skS s nr).2
          · rw [if_pos c5, if_pos ⟨hm1, c1, by omega⟩]
            obtain ⟨⟨x0, x1⟩, y0, y1⟩ := isPl_iff.mp k3
            obtain ⟨⟨z1, z2⟩, z3, z4⟩ := hI.1
            obtain ⟨m5, n1, n2, n3⟩ := m_builds fu hfu hI hS4 (x := (bstB s nr).2.1) (y := (bstB s nr).2.2.1) (v := (bstB s nr).2.2.2 + 1) k3 ho
            have j1 : zi (skS s nr).1 - zi (skS s nr).1 / zi 10 * zi 10 = zi (bstB s nr).2.1 := by
              rw [zi_mod (by omega) (by omega) (by omega) (by omega)]
              exact congrArg zi (by omega)
            have j2 : zi (skS s nr).1 / zi 10 = zi (10 * (bstB s nr).2.2.2 + (bstB s nr).2.2.1) := by
              rw [zi_div (by omega) (by omega) (by omega) (by omega)]
              exact congrArg zi (by omega)
            have j3 : zi (10 * (bstB s nr).2.2.2 + (bstB s nr).2.2.1) - zi (10 * (bstB s nr).2.2.2 + (bstB s nr).2.2.1) / zi 10 * zi 10 = zi (bstB s nr).2.2.1 := by
              rw [zi_mod (by omega) (by omega) (by omega) (by omega)]
              exact congrArg zi (by omega)
            have j4 : zi (skS s nr).1 / zi 100 = zi (bstB s nr).2.2.2 := by
              rw [zi_div (by omega) (by omega) (by omega) (by omega)]
              exact congrArg zi (by omega)
            rw [j1, j2, j3, j4, zi_add, show 1 + (bstB s nr).2.2.2 = (bstB s nr).2.2.2 + 1 by omega, n1]
            refine ⟨_, rfl, fun j => ?_, Fr_tr (Fr_tr f4 (Fr_mono n3 (fun _ _ => PM_P2))) (Fr_mw _ _ rfl)⟩
            rw [rd_mw, if_neg (fun h => absurd h.1 (by decide))]
            exact n2 j
          · rw [if_neg c5, if_neg (fun h => by omega)]
            obtain ⟨m5, n1, n2, n3⟩ := m_po104 fu hfu hI ho hS4
            exact ⟨m5, n1, n2, Fr_tr f4 n3⟩
      · rw [if_neg c2] at hrv ⊢
        rw [if_neg (fun h => h.2.1 hrv)]
        obtain ⟨m4, e1, e2, e3⟩ := m_po104 fu hfu hI ho hS2
        exact ⟨m4, e1, e2, Fr_tr f2 e3⟩
theorem m_playsOne (fu : Nat) (hfu : 1000 ≤ fu) {s : Nat → Int} (hI : Inv s) (ho : ovB s = false) {mode : Int} (hmo : 0 ≤ mode ∧ mode ≤ 1) {mem : Mem} (hS : MS mem s) : ∃ mem2, K_X12_playsOne fu (zi mode) mem = some mem2 ∧ MS mem2 (onS s mode) ∧ Fr PMp mem mem2 := by
  have hov := ov_2 hI.2.1 ho
  have hs2 := hI.2.1.1
  have hs7 := hI.2.1.2.2.2.2.2.1
  have h3 := (hI.2.2.2.1 (s 7) hs7.1 (by omega)).2.2.1
  have g7 : rd mem 2 7 = zi (s 7) := hS 7
  have none_ : (mode = 1 → ¬ 0 < pg s (s 7) 3) → ∃ mem2, K_X12_playsOne_30 fu (zi (s 7)) mem = some mem2 ∧ MS mem2 (onS s mode) ∧ Fr PMp mem mem2 := fun h => m_po31 fu hfu hI ho (nr := -1) (Or.inr rfl) (fun h => absurd rfl h) (fun _ hh => by
    refine hh.2 ?_
    unfold rvS
    rw [if_neg (h hh.1)]) hS
  unfold K_X12_playsOne
  simp (disch := omega) only [zi_lit, zl_lit, zi_add, zi_sub, zi_mul, zi_neg, zi_lt, zi_inj, zi_clamp, zl_of, gi_zi, bd_s, ltf, bi_0, bi_1, gb_bi, Int.reduceToNat, Int.reduceNeg, Int.toNat_natCast, g7, k_of fu hS]
  by_cases c1 : mode = 1
  · rw [if_pos c1]
    by_cases c2 : 0 < pg s (s 7) 3
    · rw [if_pos c2]
      obtain ⟨m1, a1, a2⟩ := m_nearest fu hfu hI.1 hI.2.1 hI.2.2.1 hI.2.2.2.1 (but := s 7) (by omega) (by omega) hS
      obtain ⟨m2, b1, b2, b3⟩ := m_po31 fu hfu hI ho (mode := mode) (nr := nrS s (s 7)) (Or.inl c1) (fun _ => ⟨c2, rfl⟩) (fun h hh => by
        refine hh.2 ?_
        unfold rvS
        rw [if_pos c2, if_pos h]) (MS_fr a2 PB_2 hS)
      rw [a1]
      exact ⟨m2, b1, b2, Fr_tr (Fr_mono a2 (fun _ _ => PM_PB)) b3⟩
    · rw [if_neg c2]
      exact none_ (fun _ => c2)
  · rw [if_neg c1]
    exact none_ (fun h => absurd h c1)
theorem m_pl2 (fu : Nat) (hfu : 1000 ≤ fu) {mode : Int} (hm : 0 ≤ mode ∧ mode ≤ 1) {x3 : Int} (h3 : x3 ≤ 1000) : ∀ (q n k : Nat) (s : Nat → Int) (mem : Mem), (k : Int) + q = x3 → q < n → Inv s → MS mem s → ∃ mem2, K_X12_plays_2 fu n (zi mode) (zi x3) (zi (k : Int)) mem = some (zi ((plS mode q s k).2 : Int), mem2) ∧ MS mem2 (plS mode q s k).1 ∧ Fr PMp mem mem2 := by
  intro q
  induction q with
  | zero =>
    intro n k s mem hk hn hI hS
    obtain ⟨n, rfl⟩ : ∃ f, n = f + 1 := ⟨n - 1, by omega⟩
    rw [K_X12_plays_2]
    simp (disch := omega) only [zi_lit, zl_lit, zi_add, zi_sub, zi_mul, zi_neg, zi_lt, zi_inj, zi_clamp, zl_of, gi_zi, bd_s, ltf, bi_0, bi_1, gb_bi, Int.reduceToNat, Int.reduceNeg, Int.toNat_natCast]
    rw [if_neg (by omega)]
    exact ⟨mem, rfl, hS, Fr_rf _ mem⟩
  | succ q ih =>
    intro n k s mem hk hn hI hS
    obtain ⟨n, rfl⟩ : ∃ f, n = f + 1 := ⟨n - 1, by omega⟩
    have e := m_over fu hS hI.2.1
    rw [K_X12_plays_2]
    simp (disch := omega) only [zi_lit, zl_lit, zi_add, zi_sub, zi_mul, zi_neg, zi_lt, zi_inj, zi_clamp, zl_of, gi_zi, bd_s, ltf, bi_0, bi_1, gb_bi, Int.reduceToNat, Int.reduceNeg, Int.toNat_natCast, e]
    rw [if_pos (by omega), plS]
    cases ho : ovB s with
    | true =>
      rw [if_neg (by decide), if_pos rfl]
      exact ⟨mem, rfl, hS, Fr_rf _ mem⟩
    | false =>
      rw [if_pos rfl, if_neg (show ¬ (false = true) by decide)]
      obtain ⟨m2, b1, b2, b3⟩ := m_playsOne fu hfu hI ho hm hS
      obtain ⟨m3, d1, d2, d3⟩ := ih n (k + 1) (onS s mode) m2 (by omega) (by omega) (on_Inv hI ho mode) b2
      rw [b1]
      exact ⟨m3, d1, d2, Fr_tr b3 d3⟩
theorem m_plays (fu : Nat) (hfu : 1000 ≤ fu) {mode : Int} (hm : 0 ≤ mode ∧ mode ≤ 1) {n : Nat} (hn : n ≤ 99) {s : Nat → Int} (hI : Inv s) {mem : Mem} (hS : MS mem s) : ∃ mem2, K_X12_plays fu (zi mode) (zi (n : Int)) mem = some (zi ((plS mode n s 0).2 : Int), mem2) ∧ MS mem2 (plS mode n s 0).1 ∧ Fr PMp mem mem2 := m_pl2 fu hfu hm (by omega) n fu 0 s mem (by omega) (by omega) hI hS
end PLAY
