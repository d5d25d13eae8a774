section HIST
theorem ne_ban {r i r1 i1 : Nat} (h : r ≠ r1) (hi : i < 12) (hi1 : i1 < 12) : pBan r1 i1 ≠ pBan r i := by
  unfold pBan
  omega
theorem ne_pawn {r i r1 i1 : Nat} (h : r ≠ r1) (hi : i < 4) (hi1 : i1 < 4) : pPawn r1 i1 ≠ pPawn r i := by
  unfold pPawn
  omega
theorem c_cpPawn (fu : Nat) {r i r1 i1 : Nat} (h : r ≠ r1) (hi : i < 4) (hi1 : i1 < 4) (mem : Mem) : ∃ mem2, K_X4_copyFrom fu r i r1 i1 mem = some mem2 ∧ (∀ j, j < 6 → rd mem2 (pPawn r i) j = rd mem (pPawn r1 i1) j) ∧ Fr (fun k _ => k == pPawn r i) mem mem2 := by
  have hne := ne_pawn (r := r) (i := i) (r1 := r1) (i1 := i1) h hi hi1
  unfold K_X4_copyFrom
  generalize pPawn r i = a at hne ⊢
  generalize pPawn r1 i1 = b at hne ⊢
  simp only [ltf, rd_mw, hne, false_and, if_false]
  refine ⟨_, rfl, fun j hj => ?_, Fr_tr (Fr_tr (Fr_tr (Fr_tr (Fr_tr (Fr_mw _ _ (by simp)) (Fr_mw _ _ (by simp))) (Fr_mw _ _ (by simp))) (Fr_mw _ _ (by simp))) (Fr_mw _ _ (by simp))) (Fr_mw _ _ (by simp))⟩
  rcases (show j = 0 ∨ j = 1 ∨ j = 2 ∨ j = 3 ∨ j = 4 ∨ j = 5 by omega) with rfl | rfl | rfl | rfl | rfl | rfl <;> simp [rd_mw]
theorem c_cpBan (fu : Nat) {r i r1 i1 : Nat} (h : r ≠ r1) (hi : i < 12) (hi1 : i1 < 12) (mem : Mem) : ∃ mem2, K_X0_copyFrom fu r i r1 i1 mem = some mem2 ∧ (∀ j, j < 9 → rd mem2 (pBan r i) j = rd mem (pBan r1 i1) j) ∧ Fr (fun k _ => k == pBan r i) mem mem2 := by
  have hne := ne_ban (r := r) (i := i) (r1 := r1) (i1 := i1) h hi hi1
  unfold K_X0_copyFrom
  generalize pBan r i = a at hne ⊢
  generalize pBan r1 i1 = b at hne ⊢
  simp only [ltf, rd_mw, hne, false_and, if_false]
  refine ⟨_, rfl, fun j hj => ?_, Fr_tr (Fr_tr (Fr_tr (Fr_tr (Fr_tr (Fr_tr (Fr_tr (Fr_tr (Fr_mw _ _ (by simp)) (Fr_mw _ _ (by simp))) (Fr_mw _ _ (by simp))) (Fr_mw _ _ (by simp))) (Fr_mw _ _ (by simp))) (Fr_mw _ _ (by simp))) (Fr_mw _ _ (by simp))) (Fr_mw _ _ (by simp))) (Fr_mw _ _ (by simp))⟩
  rcases (show j = 0 ∨ j = 1 ∨ j = 2 ∨ j = 3 ∨ j = 4 ∨ j = 5 ∨ j = 6 ∨ j = 7 ∨ j = 8 by omega) with rfl | rfl | rfl | rfl | rfl | rfl | rfl | rfl | rfl <;> simp [rd_mw]
theorem rd_mr (mem : Mem) (k k2 j2 : Nat) (x : Row) : rd (mr mem k x) k2 j2 = if k2 = k then x.1 j2 else rd mem k2 j2 := by
  unfold mr rd
  by_cases h : k2 = k <;> simp [h]
theorem Fr_mr {P : Nat → Nat → Bool} (m1 : Mem) {k : Nat} (x : Nat → Int32) (h : ∀ j, P k j = true) : Fr P m1 (mr m1 k (x, (m1 k).2)) := by
  refine ⟨fun k2 j2 h2 => ?_, fun k2 j2 h2 => ?_⟩
  · rw [rd_mr, if_neg]
    intro e
    rw [e, h] at h2
    cases h2
  · unfold mr rl
    by_cases e : k2 = k <;> simp [e]
theorem c_cpBoard (fu : Nat) {r r1 : Nat} (h : r ≠ r1) (mem : Mem) : ∃ mem2, K_X2_copyFrom fu r r1 mem = some mem2 ∧ (∀ j, j < 3 → rd mem2 (pBoard r) j = rd mem (pBoard r1) j) ∧ (∀ j, j < 64 → rd mem2 (pBuilt r) j = rd mem (pBuilt r1) j) ∧ (∀ j, j < 81 → rd mem2 (pOpen r) j = rd mem (pOpen r1) j) ∧ Fr (fun k _ => k == pBoard r || (k == pBuilt r || k == pOpen r)) mem mem2 := by
  have n1 : pBoard r1 ≠ pBoard r := by unfold pBoard; omega
  have n2 : pBuilt r ≠ pOpen r := by unfold pBuilt pOpen; omega
  have n3 : pBoard r ≠ pBuilt r := by unfold pBuilt pBoard; omega
  have n4 : pBoard r ≠ pOpen r := by unfold pBoard pOpen; omega
  have n5 : pBuilt r1 ≠ pBoard r := by unfold pBoard pBuilt; omega
  have n6 : pOpen r1 ≠ pBoard r := by unfold pBoard pOpen; omega
  have n7 : pOpen r1 ≠ pBuilt r := by unfold pBuilt pOpen; omega
  have n8 : pBuilt r1 ≠ pBuilt r := by unfold pBuilt; omega
  have n9 : pOpen r1 ≠ pOpen r := by unfold pOpen; omega
  unfold K_X2_copyFrom
  simp only [ltf, rd_mw, n1, false_and, if_false]
  have rr : ∀ (m : Mem) (k j : Nat), (m k).1 j = rd m k j := fun _ _ _ => rfl
  refine ⟨_, rfl, fun j hj => ?_, fun j hj => ?_, fun j hj => ?_, Fr_tr (Fr_tr (Fr_tr (Fr_tr (Fr_mw _ _ (by simp)) (Fr_mw _ _ (by simp))) (Fr_mw _ _ (by simp))) (Fr_mr _ _ (fun j => by simp))) (Fr_mr _ _ (fun j => by simp))⟩
  · rw [rd_mr, if_neg n4, rd_mr, if_neg n3]
    rcases (show j = 0 ∨ j = 1 ∨ j = 2 by omega) with rfl | rfl | rfl <;> simp [rd_mw]
  · rw [rd_mr, if_neg n2, rd_mr, if_pos rfl]
    show va_cpy _ _ 0 0 64 j = _
    unfold va_cpy
    rw [if_pos (by omega), rr, rd_mw, if_neg (fun x => n5 x.1), rd_mw, if_neg (fun x => n5 x.1), rd_mw, if_neg (fun x => n5 x.1), show 0 + (j - 0) = j by omega]
  · rw [rd_mr, if_pos rfl]
    show va_cpy _ _ 0 0 81 j = _
    unfold va_cpy
    rw [if_pos (by omega), rr, rd_mr, if_neg n7, rd_mw, if_neg (fun x => n6 x.1), rd_mw, if_neg (fun x => n6 x.1), rd_mw, if_neg (fun x => n6 x.1), show 0 + (j - 0) = j by omega]
theorem c_cp41 (fu : Nat) {r r1 : Nat} (h : r ≠ r1) : ∀ (q n i : Nat) (mem : Mem), i + q = 12 → q < n → ∃ mem2, K_X6_copyFrom_41 fu r r1 n (zi (i : Int)) mem = some mem2 ∧ (∀ a j, i ≤ a → a < 12 → j < 9 → rd mem2 (pBan r a) j = rd mem (pBan r1 a) j) ∧ (rd mem2 (pRace r) 2 = rd mem (pRace r1) 2 ∧ rd mem2 (pRace r) 4 = rd mem (pRace r1) 4 ∧ rd mem2 (pRace r) 5 = rd mem (pRace r1) 5 ∧ rd mem2 (pRace r) 6 = rd mem (pRace r1) 6 ∧ rd mem2 (pRace r) 7 = rd mem (pRace r1) 7) ∧ Fr (fun k _ => k == pRace r || (decide (45 + 22 * r + i ≤ k) && decide (k < 57 + 22 * r))) mem mem2 := by
  intro q
  induction q with
  | zero =>
    intro n i mem hi hn
    obtain ⟨n, rfl⟩ : ∃ f, n = f + 1 := ⟨n - 1, by omega⟩
    have hne : pRace r1 ≠ pRace r := by unfold pRace; omega
    rw [K_X6_copyFrom_41]
    simp (disch := omega) only [zi_lit, zl_lit, zi_add, zi_sub, zi_mul, zi_neg, zi_lt, zi_inj, zi_clamp, zl_of, gi_zi, bd_s, ltf, bi_0, bi_1, gb_bi, Int.reduceToNat, Int.reduceNeg, Int.toNat_natCast]
    rw [if_neg (by omega)]
    generalize pRace r = a at hne ⊢
    generalize pRace r1 = b at hne ⊢
    simp only [rd_mw, hne, false_and, if_false]
    refine ⟨_, rfl, fun a j h1 h2 => by omega, ?_, Fr_tr (Fr_tr (Fr_tr (Fr_tr (Fr_mw _ _ (by simp)) (Fr_mw _ _ (by simp))) (Fr_mw _ _ (by simp))) (Fr_mw _ _ (by simp))) (Fr_mw _ _ (by simp))⟩
    simp [rd_mw]
  | succ q ih =>
    intro n i mem hi hn
    obtain ⟨n, rfl⟩ : ∃ f, n = f + 1 := ⟨n - 1, by omega⟩
    obtain ⟨m1, a1, a2, a3⟩ := c_cpBan fu h (i := i) (i1 := i) (by omega) (by omega) mem
    obtain ⟨m2, b1, b2, b3, b4⟩ := ih n (i + 1) m1 (by omega) (by omega)
    have nrB : ∀ a, a < 12 → pBan r1 a ≠ pBan r i := fun a ha => ne_ban h (by omega) ha
    have nrR : pRace r1 ≠ pBan r i := by unfold pRace pBan; omega
    have nr : pBan r i ≠ pRace r := by unfold pRace pBan; omega
    have e : ∀ j, rd m1 (pRace r1) j = rd mem (pRace r1) j := fun j => a3.1 _ _ (by simpa using nrR)
    rw [K_X6_copyFrom_41]
    simp (disch := omega) only [zi_lit, zl_lit, zi_add, zi_sub, zi_mul, zi_neg, zi_lt, zi_inj, zi_clamp, zl_of, gi_zi, bd_s, ltf, bi_0, bi_1, gb_bi, Int.reduceToNat, Int.reduceNeg, Int.toNat_natCast, a1]
    rw [if_pos (by omega)]
    refine ⟨m2, b1, fun a j h1 h2 h3 => ?_, ?_, Fr_tr (Fr_mono a3 (fun k j hk => ?_)) (Fr_mono b4 (fun k j hk => ?_))⟩
    · by_cases q1 : a = i
      · rw [q1, b4.1 _ _ (by
          rw [Bool.or_eq_false_iff]
          refine ⟨by simpa using nr, ?_⟩
          rw [decide_eq_false (by unfold pBan; omega), Bool.false_and])]
        exact a2 j h3
      · rw [b2 a j (by omega) h2 h3]
        exact a3.1 _ _ (by simpa using nrB a h2)
    · rw [e, e, e, e, e] at b3
      exact b3
    · rw [Bool.or_eq_false_iff, Bool.and_eq_false_iff, decide_eq_false_iff_not, decide_eq_false_iff_not] at hk
      simp
      unfold pBan
      omega
    · rw [Bool.or_eq_false_iff, Bool.and_eq_false_iff, decide_eq_false_iff_not, decide_eq_false_iff_not] at hk
      rw [Bool.or_eq_false_iff, Bool.and_eq_false_iff, decide_eq_false_iff_not, decide_eq_false_iff_not]
      exact ⟨hk.1, by omega⟩
theorem c_cp13 (fu : Nat) {r r1 : Nat} (h : r ≠ r1) : ∀ (q n i : Nat) (mem : Mem), i + q = 4 → q < n → ∃ mem2, K_X6_copyFrom_13 fu r r1 n (zi (i : Int)) mem = K_X6_copyFrom_41 fu r r1 fu (zi 0) mem2 ∧ (∀ a j, i ≤ a → a < 4 → j < 6 → rd mem2 (pPawn r a) j = rd mem (pPawn r1 a) j) ∧ Fr (fun k _ => decide (40 + 22 * r + i ≤ k) && decide (k < 44 + 22 * r)) mem mem2 := by
  intro q
  induction q with
  | zero =>
    intro n i mem hi hn
    obtain ⟨n, rfl⟩ : ∃ f, n = f + 1 := ⟨n - 1, by omega⟩
    rw [K_X6_copyFrom_13]
    simp (disch := omega) only [zi_lit, zl_lit, zi_add, zi_sub, zi_mul, zi_neg, zi_lt, zi_inj, zi_clamp, zl_of, gi_zi, bd_s, ltf, bi_0, bi_1, gb_bi, Int.reduceToNat, Int.reduceNeg, Int.toNat_natCast]
    rw [if_neg (by omega)]
    exact ⟨mem, rfl, fun a j h1 h2 => by omega, Fr_rf _ mem⟩
  | succ q ih =>
    intro n i mem hi hn
    obtain ⟨n, rfl⟩ : ∃ f, n = f + 1 := ⟨n - 1, by omega⟩
    obtain ⟨m1, a1, a2, a3⟩ := c_cpPawn fu h (i := i) (i1 := i) (by omega) (by omega) mem
    obtain ⟨m2, b1, b2, b3⟩ := ih n (i + 1) m1 (by omega) (by omega)
    have nrB : ∀ a, a < 4 → pPawn r1 a ≠ pPawn r i := fun a ha => ne_pawn h (by omega) ha
    rw [K_X6_copyFrom_13]
    simp (disch := omega) only [zi_lit, zl_lit, zi_add, zi_sub, zi_mul, zi_neg, zi_lt, zi_inj, zi_clamp, zl_of, gi_zi, bd_s, ltf, bi_0, bi_1, gb_bi, Int.reduceToNat, Int.reduceNeg, Int.toNat_natCast, a1]
    rw [if_pos (by omega)]
    refine ⟨m2, b1, fun a j h1 h2 h3 => ?_, Fr_tr (Fr_mono a3 (fun k j hk => ?_)) (Fr_mono b3 (fun k j hk => ?_))⟩
    · by_cases q1 : a = i
      · rw [q1, b3.1 _ _ (show (decide (40 + 22 * r + (i + 1) ≤ pPawn r i) && decide (pPawn r i < 44 + 22 * r)) = false by rw [decide_eq_false (by unfold pPawn; omega), Bool.false_and])]
        exact a2 j h3
      · rw [b2 a j (by omega) h2 h3]
        exact a3.1 _ _ (by simpa using nrB a h2)
    · rw [Bool.and_eq_false_iff, decide_eq_false_iff_not, decide_eq_false_iff_not] at hk
      simp
      unfold pPawn
      omega
    · rw [Bool.and_eq_false_iff, decide_eq_false_iff_not, decide_eq_false_iff_not] at hk ⊢
      omega
theorem c_copy (fu : Nat) (hfu : 1000 ≤ fu) {r r1 : Nat} (h : r ≠ r1) {mem : Mem} {s : Nat → Int} (hR : RC mem r1 s) : ∃ mem2, K_X6_copyFrom fu r r1 mem = some mem2 ∧ RC mem2 r s ∧ Fr (ZR r) mem mem2 := by
  obtain ⟨m1, a1, a2, a3, a4, a5⟩ := c_cpBoard fu h mem
  obtain ⟨m2, b1, b2, b3⟩ := c_cp13 fu h 4 fu 0 m1 (by omega) (by omega)
  obtain ⟨m3, d1, d2, d3, d4⟩ := c_cp41 fu h 12 fu 0 m2 (by omega) (by omega)
  have f1 : ∀ k j, (k ≠ pBoard r ∧ k ≠ pBuilt r ∧ k ≠ pOpen r) → rd m1 k j = rd mem k j := fun k j hk => a5.1 k j (by simp [hk])
  have f2 : ∀ k j, (k < 40 + 22 * r ∨ 44 + 22 * r ≤ k) → rd m2 k j = rd m1 k j := fun k j hk => b3.1 k j (by
    rw [Bool.and_eq_false_iff, decide_eq_false_iff_not, decide_eq_false_iff_not]
    omega)
  have f3 : ∀ k j, k ≠ pRace r → (k < 45 + 22 * r ∨ 57 + 22 * r ≤ k) → rd m3 k j = rd m2 k j := fun k j h1 hk => d4.1 k j (by
    rw [Bool.or_eq_false_iff, Bool.and_eq_false_iff, decide_eq_false_iff_not, decide_eq_false_iff_not]
    exact ⟨by simpa using h1, by omega⟩)
  obtain ⟨⟨h1, h2, h3, h4, h5⟩, ⟨k1, k2, k3, k4, k5⟩, h6, h7⟩ := hR
  obtain ⟨e1, e2, e3, e4, e5⟩ := d3
  refine ⟨m3, ?_, ⟨⟨?_, ?_, ?_, fun j hj => ?_, fun c hc => ?_⟩, ⟨?_, ?_, ?_, ?_, ?_⟩, fun i hi hi2 => ?_, fun i hi hi2 => ?_⟩, Fr_tr (Fr_tr (Fr_mono a5 (fun k j hk => ?_)) (Fr_mono b3 (fun k j hk => ?_))) (Fr_mono d4 (fun k j hk => ?_))⟩
  · unfold K_X6_copyFrom
    rw [a1]
    exact b1.trans d1
  · rw [f3 _ _ (by unfold pBoard pRace; omega) (by unfold pBoard; omega), f2 _ _ (by unfold pBoard; omega), a2 0 (by decide)]
    exact h1
  · rw [f3 _ _ (by unfold pBoard pRace; omega) (by unfold pBoard; omega), f2 _ _ (by unfold pBoard; omega), a2 1 (by decide)]
    exact h2
  · rw [f3 _ _ (by unfold pBoard pRace; omega) (by unfold pBoard; omega), f2 _ _ (by unfold pBoard; omega), a2 2 (by decide)]
    exact h3
  · rw [f3 _ _ (by unfold pBuilt pRace; omega) (by unfold pBuilt; omega), f2 _ _ (by unfold pBuilt; omega), a3 j hj]
    exact h4 j hj
  · rw [f3 _ _ (by unfold pOpen pRace; omega) (by unfold pOpen; omega), f2 _ _ (by unfold pOpen; omega), a4 c hc]
    exact h5 c hc
  · rw [e1, f2 _ _ (by unfold pRace; omega), f1 _ _ (by unfold pRace pBoard pBuilt pOpen; omega)]
    exact k1
  · rw [e2, f2 _ _ (by unfold pRace; omega), f1 _ _ (by unfold pRace pBoard pBuilt pOpen; omega)]
    exact k2
  · rw [e3, f2 _ _ (by unfold pRace; omega), f1 _ _ (by unfold pRace pBoard pBuilt pOpen; omega)]
    exact k3
  · rw [e4, f2 _ _ (by unfold pRace; omega), f1 _ _ (by unfold pRace pBoard pBuilt pOpen; omega)]
    exact k4
  · rw [e5, f2 _ _ (by unfold pRace; omega), f1 _ _ (by unfold pRace pBoard pBuilt pOpen; omega)]
    exact k5
  · have e : ∀ j, j < 6 → rd m3 (pPawn r i) j = rd mem (pPawn r1 i) j := fun j hj => by
      rw [f3 _ _ (by unfold pPawn pRace; omega) (by unfold pPawn; omega), b2 i j (Nat.zero_le _) hi hj, f1 _ _ (by unfold pPawn pBoard pBuilt pOpen; omega)]
    have hp := h6 i hi hi2
    unfold RP at hp ⊢
    rw [e 0 (by decide), e 1 (by decide), e 2 (by decide), e 3 (by decide), e 4 (by decide), e 5 (by decide)]
    exact hp
  · have e : ∀ j, j < 9 → rd m3 (pBan r i) j = rd mem (pBan r1 i) j := fun j hj => by
      rw [d2 i j (Nat.zero_le _) hi hj, f2 _ _ (by unfold pBan; omega), f1 _ _ (by unfold pBan pBoard pBuilt pOpen; omega)]
    have hp := h7 i hi hi2
    unfold RN at hp ⊢
    rw [e 0 (by decide), e 1 (by decide), e 2 (by decide), e 3 (by decide), e 4 (by decide), e 5 (by decide), e 6 (by decide), e 7 (by decide), e 8 (by decide)]
    exact hp
  · unfold ZR at hk
    rw [Bool.and_eq_false_iff, decide_eq_false_iff_not, decide_eq_false_iff_not] at hk
    unfold pBoard pBuilt pOpen
    simp
    omega
  · unfold ZR at hk
    rw [Bool.and_eq_false_iff, decide_eq_false_iff_not, decide_eq_false_iff_not] at hk ⊢
    omega
  · unfold ZR at hk
    rw [Bool.and_eq_false_iff, decide_eq_false_iff_not, decide_eq_false_iff_not] at hk
    rw [Bool.or_eq_false_iff, Bool.and_eq_false_iff, decide_eq_false_iff_not, decide_eq_false_iff_not]
    refine ⟨?_, by omega⟩
    unfold pRace
    simp
    omega
theorem ZR_o {r a k j : Nat} (h : r ≠ a) (h1 : 35 + 22 * a ≤ k) (h2 : k < 57 + 22 * a) : ZR r k j = false := by
  unfold ZR
  rw [Bool.and_eq_false_iff, decide_eq_false_iff_not, decide_eq_false_iff_not]
  omega
theorem ZR_lo {r k j : Nat} (h1 : k < 35) : ZR r k j = false := by
  unfold ZR
  rw [Bool.and_eq_false_iff, decide_eq_false_iff_not, decide_eq_false_iff_not]
  omega
theorem RC_o {r a : Nat} (h : r ≠ a) {m1 m2 : Mem} {s : Nat → Int} (f : Fr (ZR r) m1 m2) (hR : RC m1 a s) : RC m2 a s := RC_fr2 f (fun _ _ h1 h2 => ZR_o h h1 h2) hR
/-- rows of the reference -/
def PR1 (D k j : Nat) : Bool := k == D && decide (j < 184)
theorem m_la2 (fu : Nat) : ∀ (q n k : Nat) (mem : Mem), k + q = 184 → q < n → (∀ j, j < k → rd mem 5 j = rd mem 2 j) → ∃ mem2, K_X12_laysAside_2 fu n (zi (k : Int)) mem = some mem2 ∧ (∀ j, j < 184 → rd mem2 5 j = rd mem 2 j) ∧ Fr (PR1 5) mem mem2 := by
  intro q
  induction q with
  | zero =>
    intro n k mem hk hn h
    obtain ⟨n, rfl⟩ : ∃ f, n = f + 1 := ⟨n - 1, by omega⟩
    obtain rfl : k = 184 := by omega
    rw [K_X12_laysAside_2]
    simp (disch := omega) only [zi_lit, zl_lit, zi_add, zi_sub, zi_mul, zi_neg, zi_lt, zi_inj, zi_clamp, zl_of, gi_zi, bd_s, ltf, bi_0, bi_1, gb_bi, Int.reduceToNat, Int.reduceNeg, Int.toNat_natCast]
    rw [if_neg (by decide)]
    exact ⟨mem, rfl, h, Fr_rf _ mem⟩
  | succ q ih =>
    intro n k mem hk hn h
    obtain ⟨n, rfl⟩ : ∃ f, n = f + 1 := ⟨n - 1, by omega⟩
    have eS : ∀ j, rd (mw mem 5 k (rd mem 2 k)) 2 j = rd mem 2 j := fun j => by rw [rd_mw, if_neg (fun x => absurd x.1 (by decide))]
    obtain ⟨m2, a1, a2, a3⟩ := ih n (k + 1) (mw mem 5 k (rd mem 2 k)) (by omega) (by omega) (fun j hj => by
      rw [eS, rd_mw]
      by_cases e : j = k
      · rw [if_pos ⟨rfl, e⟩, e]
      · rw [if_neg (fun x => e x.2)]
        exact h j (by omega))
    rw [K_X12_laysAside_2]
    simp (disch := omega) only [zi_lit, zl_lit, zi_add, zi_sub, zi_mul, zi_neg, zi_lt, zi_inj, zi_clamp, zl_of, gi_zi, bd_s, ltf, bi_0, bi_1, gb_bi, Int.reduceToNat, Int.reduceNeg, Int.toNat_natCast]
    rw [if_pos (by omega)]
    refine ⟨m2, a1, fun j hj => ?_, Fr_tr (Fr_mw _ _ ?_) a3⟩
    · rw [a2 j hj, eS]
    · unfold PR1
      rw [decide_eq_true (by omega)]
      rfl
theorem m_cb2 (fu : Nat) : ∀ (q n k : Nat) (mem : Mem), k + q = 184 → q < n → (∀ j, j < k → rd mem 2 j = rd mem 5 j) → ∃ mem2, K_X12_comesBack_2 fu n (zi (k : Int)) mem = some mem2 ∧ (∀ j, j < 184 → rd mem2 2 j = rd mem 5 j) ∧ Fr (PR1 2) mem mem2 := by
  intro q
  induction q with
  | zero =>
    intro n k mem hk hn h
    obtain ⟨n, rfl⟩ : ∃ f, n = f + 1 := ⟨n - 1, by omega⟩
    obtain rfl : k = 184 := by omega
    rw [K_X12_comesBack_2]
    simp (disch := omega) only [zi_lit, zl_lit, zi_add, zi_sub, zi_mul, zi_neg, zi_lt, zi_inj, zi_clamp, zl_of, gi_zi, bd_s, ltf, bi_0, bi_1, gb_bi, Int.reduceToNat, Int.reduceNeg, Int.toNat_natCast]
    rw [if_neg (by decide)]
    exact ⟨mem, rfl, h, Fr_rf _ mem⟩
  | succ q ih =>
    intro n k mem hk hn h
    obtain ⟨n, rfl⟩ : ∃ f, n = f + 1 := ⟨n - 1, by omega⟩
    have eS : ∀ j, rd (mw mem 2 k (rd mem 5 k)) 5 j = rd mem 5 j := fun j => by rw [rd_mw, if_neg (fun x => absurd x.1 (by decide))]
    obtain ⟨m2, a1, a2, a3⟩ := ih n (k + 1) (mw mem 2 k (rd mem 5 k)) (by omega) (by omega) (fun j hj => by
      rw [eS, rd_mw]
      by_cases e : j = k
      · rw [if_pos ⟨rfl, e⟩, e]
      · rw [if_neg (fun x => e x.2)]
        exact h j (by omega))
    rw [K_X12_comesBack_2]
    simp (disch := omega) only [zi_lit, zl_lit, zi_add, zi_sub, zi_mul, zi_neg, zi_lt, zi_inj, zi_clamp, zl_of, gi_zi, bd_s, ltf, bi_0, bi_1, gb_bi, Int.reduceToNat, Int.reduceNeg, Int.toNat_natCast]
    rw [if_pos (by omega)]
    refine ⟨m2, a1, fun j hj => ?_, Fr_tr (Fr_mw _ _ ?_) a3⟩
    · rw [a2 j hj, eS]
    · unfold PR1
      rw [decide_eq_true (by omega)]
      rfl
theorem m_th2 (fu : Nat) : ∀ (q n k : Nat) (mem : Mem), k + q = 184 → q < n → (∀ j, j < k → rd mem 6 j = rd mem 2 j) → ∃ mem2, K_X12_thinks_2 fu n (zi (k : Int)) mem = some mem2 ∧ (∀ j, j < 184 → rd mem2 6 j = rd mem 2 j) ∧ Fr (PR1 6) mem mem2 := by
  intro q
  induction q with
  | zero =>
    intro n k mem hk hn h
    obtain ⟨n, rfl⟩ : ∃ f, n = f + 1 := ⟨n - 1, by omega⟩
    obtain rfl : k = 184 := by omega
    rw [K_X12_thinks_2]
    simp (disch := omega) only [zi_lit, zl_lit, zi_add, zi_sub, zi_mul, zi_neg, zi_lt, zi_inj, zi_clamp, zl_of, gi_zi, bd_s, ltf, bi_0, bi_1, gb_bi, Int.reduceToNat, Int.reduceNeg, Int.toNat_natCast]
    rw [if_neg (by decide)]
    exact ⟨mem, rfl, h, Fr_rf _ mem⟩
  | succ q ih =>
    intro n k mem hk hn h
    obtain ⟨n, rfl⟩ : ∃ f, n = f + 1 := ⟨n - 1, by omega⟩
    have eS : ∀ j, rd (mw mem 6 k (rd mem 2 k)) 2 j = rd mem 2 j := fun j => by rw [rd_mw, if_neg (fun x => absurd x.1 (by decide))]
    obtain ⟨m2, a1, a2, a3⟩ := ih n (k + 1) (mw mem 6 k (rd mem 2 k)) (by omega) (by omega) (fun j hj => by
      rw [eS, rd_mw]
      by_cases e : j = k
      · rw [if_pos ⟨rfl, e⟩, e]
      · rw [if_neg (fun x => e x.2)]
        exact h j (by omega))
    rw [K_X12_thinks_2]
    simp (disch := omega) only [zi_lit, zl_lit, zi_add, zi_sub, zi_mul, zi_neg, zi_lt, zi_inj, zi_clamp, zl_of, gi_zi, bd_s, ltf, bi_0, bi_1, gb_bi, Int.reduceToNat, Int.reduceNeg, Int.toNat_natCast]
    rw [if_pos (by omega)]
    refine ⟨m2, a1, fun j hj => ?_, Fr_tr (Fr_mw _ _ ?_) a3⟩
    · rw [a2 j hj, eS]
    · unfold PR1
      rw [decide_eq_true (by omega)]
      rfl
theorem m_tn2 (fu : Nat) : ∀ (q n k : Nat) (mem : Mem), k + q = 184 → q < n → (∀ j, j < k → rd mem 2 j = rd mem 6 j) → ∃ mem2, K_X12_thinksNoMore_2 fu n (zi (k : Int)) mem = some mem2 ∧ (∀ j, j < 184 → rd mem2 2 j = rd mem 6 j) ∧ Fr (PR1 2) mem mem2 := by
  intro q
  induction q with
  | zero =>
    intro n k mem hk hn h
    obtain ⟨n, rfl⟩ : ∃ f, n = f + 1 := ⟨n - 1, by omega⟩
    obtain rfl : k = 184 := by omega
    rw [K_X12_thinksNoMore_2]
    simp (disch := omega) only [zi_lit, zl_lit, zi_add, zi_sub, zi_mul, zi_neg, zi_lt, zi_inj, zi_clamp, zl_of, gi_zi, bd_s, ltf, bi_0, bi_1, gb_bi, Int.reduceToNat, Int.reduceNeg, Int.toNat_natCast]
    rw [if_neg (by decide)]
    exact ⟨mem, rfl, h, Fr_rf _ mem⟩
  | succ q ih =>
    intro n k mem hk hn h
    obtain ⟨n, rfl⟩ : ∃ f, n = f + 1 := ⟨n - 1, by omega⟩
    have eS : ∀ j, rd (mw mem 2 k (rd mem 6 k)) 6 j = rd mem 6 j := fun j => by rw [rd_mw, if_neg (fun x => absurd x.1 (by decide))]
    obtain ⟨m2, a1, a2, a3⟩ := ih n (k + 1) (mw mem 2 k (rd mem 6 k)) (by omega) (by omega) (fun j hj => by
      rw [eS, rd_mw]
      by_cases e : j = k
      · rw [if_pos ⟨rfl, e⟩, e]
      · rw [if_neg (fun x => e x.2)]
        exact h j (by omega))
    rw [K_X12_thinksNoMore_2]
    simp (disch := omega) only [zi_lit, zl_lit, zi_add, zi_sub, zi_mul, zi_neg, zi_lt, zi_inj, zi_clamp, zl_of, gi_zi, bd_s, ltf, bi_0, bi_1, gb_bi, Int.reduceToNat, Int.reduceNeg, Int.toNat_natCast]
    rw [if_pos (by omega)]
    refine ⟨m2, a1, fun j hj => ?_, Fr_tr (Fr_mw _ _ ?_) a3⟩
    · rw [a2 j hj, eS]
    · unfold PR1
      rw [decide_eq_true (by omega)]
      rfl
theorem m_sv7 (fu : Nat) : ∀ (q n k : Nat) (mem : Mem), k + q = 184 → q < n → (∀ j, j < k → rd mem 3 j = rd mem 2 j) → ∃ mem2, K_X12_save_7 fu n (zi (k : Int)) mem = some (rd mem2 2 4, mw mem2 0 19 (zi 1)) ∧ (∀ j, j < 184 → rd mem2 3 j = rd mem 2 j) ∧ Fr (PR1 3) mem mem2 := by
  intro q
  induction q with
  | zero =>
    intro n k mem hk hn h
    obtain ⟨n, rfl⟩ : ∃ f, n = f + 1 := ⟨n - 1, by omega⟩
    obtain rfl : k = 184 := by omega
    rw [K_X12_save_7]
    simp (disch := omega) only [zi_lit, zl_lit, zi_add, zi_sub, zi_mul, zi_neg, zi_lt, zi_inj, zi_clamp, zl_of, gi_zi, bd_s, ltf, bi_0, bi_1, gb_bi, Int.reduceToNat, Int.reduceNeg, Int.toNat_natCast]
    rw [if_neg (by decide)]
    exact ⟨mem, rfl, h, Fr_rf _ mem⟩
  | succ q ih =>
    intro n k mem hk hn h
    obtain ⟨n, rfl⟩ : ∃ f, n = f + 1 := ⟨n - 1, by omega⟩
    have eS : ∀ j, rd (mw mem 3 k (rd mem 2 k)) 2 j = rd mem 2 j := fun j => by rw [rd_mw, if_neg (fun x => absurd x.1 (by decide))]
    obtain ⟨m2, a1, a2, a3⟩ := ih n (k + 1) (mw mem 3 k (rd mem 2 k)) (by omega) (by omega) (fun j hj => by
      rw [eS, rd_mw]
      by_cases e : j = k
      · rw [if_pos ⟨rfl, e⟩, e]
      · rw [if_neg (fun x => e x.2)]
        exact h j (by omega))
    rw [K_X12_save_7]
    simp (disch := omega) only [zi_lit, zl_lit, zi_add, zi_sub, zi_mul, zi_neg, zi_lt, zi_inj, zi_clamp, zl_of, gi_zi, bd_s, ltf, bi_0, bi_1, gb_bi, Int.reduceToNat, Int.reduceNeg, Int.toNat_natCast]
    rw [if_pos (by omega)]
    refine ⟨m2, a1, fun j hj => ?_, Fr_tr (Fr_mw _ _ ?_) a3⟩
    · rw [a2 j hj, eS]
    · unfold PR1
      rw [decide_eq_true (by omega)]
      rfl
theorem m_rs15 (fu : Nat) : ∀ (q n k : Nat) (mem : Mem), k + q = 184 → q < n → (∀ j, j < k → rd mem 2 j = rd mem 3 j) → ∃ mem2, K_X12_restore_15 fu n (zi (k : Int)) mem = some (rd mem2 2 4, mw mem2 0 18 (zi 0)) ∧ (∀ j, j < 184 → rd mem2 2 j = rd mem 3 j) ∧ Fr (PR1 2) mem mem2 := by
  intro q
  induction q with
  | zero =>
    intro n k mem hk hn h
    obtain ⟨n, rfl⟩ : ∃ f, n = f + 1 := ⟨n - 1, by omega⟩
    obtain rfl : k = 184 := by omega
    rw [K_X12_restore_15]
    simp (disch := omega) only [zi_lit, zl_lit, zi_add, zi_sub, zi_mul, zi_neg, zi_lt, zi_inj, zi_clamp, zl_of, gi_zi, bd_s, ltf, bi_0, bi_1, gb_bi, Int.reduceToNat, Int.reduceNeg, Int.toNat_natCast]
    rw [if_neg (by decide)]
    exact ⟨mem, rfl, h, Fr_rf _ mem⟩
  | succ q ih =>
    intro n k mem hk hn h
    obtain ⟨n, rfl⟩ : ∃ f, n = f + 1 := ⟨n - 1, by omega⟩
    have eS : ∀ j, rd (mw mem 2 k (rd mem 3 k)) 3 j = rd mem 3 j := fun j => by rw [rd_mw, if_neg (fun x => absurd x.1 (by decide))]
    obtain ⟨m2, a1, a2, a3⟩ := ih n (k + 1) (mw mem 2 k (rd mem 3 k)) (by omega) (by omega) (fun j hj => by
      rw [eS, rd_mw]
      by_cases e : j = k
      · rw [if_pos ⟨rfl, e⟩, e]
      · rw [if_neg (fun x => e x.2)]
        exact h j (by omega))
    rw [K_X12_restore_15]
    simp (disch := omega) only [zi_lit, zl_lit, zi_add, zi_sub, zi_mul, zi_neg, zi_lt, zi_inj, zi_clamp, zl_of, gi_zi, bd_s, ltf, bi_0, bi_1, gb_bi, Int.reduceToNat, Int.reduceNeg, Int.toNat_natCast]
    rw [if_pos (by omega)]
    refine ⟨m2, a1, fun j hj => ?_, Fr_tr (Fr_mw _ _ ?_) a3⟩
    · rw [a2 j hj, eS]
    · unfold PR1
      rw [decide_eq_true (by omega)]
      rfl
end HIST
