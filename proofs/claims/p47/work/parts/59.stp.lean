section STEPS
/-- the places of a race -/
def ZR (r k _ : Nat) : Bool := decide (35 + 22 * r ≤ k) && decide (k < 57 + 22 * r)
theorem ZR_t {r k j : Nat} (h1 : 35 + 22 * r ≤ k) (h2 : k < 57 + 22 * r) : ZR r k j = true := by
  unfold ZR
  rw [decide_eq_true h1, decide_eq_true h2]
  rfl
theorem PEt_ZR {r k j : Nat} (h : ZR r k j = false) : PEt r k j = false := by
  unfold ZR at h
  unfold PEt pRace
  rw [Bool.and_eq_false_iff, decide_eq_false_iff_not, decide_eq_false_iff_not] at h
  rw [Bool.and_eq_false_iff]
  refine Or.inl ?_
  simp
  omega
theorem PWl_ZR {r k j : Nat} (h : ZR r k j = false) : PWl r k j = false := by
  unfold ZR at h
  unfold PWl pOpen pBuilt pBoard
  rw [Bool.and_eq_false_iff, decide_eq_false_iff_not, decide_eq_false_iff_not] at h
  simp
  omega
theorem RC_cnt {mem : Mem} {r : Nat} {s : Nat → Int} (hR : RC mem r s) {v : Int} : RC (mw mem (pRace r) 7 (zi v)) r (up1 s 5 v) := by
  obtain ⟨r1, ⟨b1, b2, b3, b4, b5⟩, r3, r4⟩ := hR
  have f : Fr (fun k j => k == pRace r && j == 7) mem (mw mem (pRace r) 7 (zi v)) := Fr_mw _ _ (by simp)
  have hne : ∀ k j, k ≠ pRace r → (fun k j : Nat => k == pRace r && j == 7) k j = false := fun k j hk => by simp [hk]
  refine ⟨RB_cg (up1_ne (by decide)).symm (up1_ne (by decide)).symm (up1_ne (by decide)).symm (fun j hj => (up1_ne (by omega)).symm) (RB_fr2 f (fun j => hne _ _ (by unfold pBoard pRace; omega)) (fun j => hne _ _ (by unfold pBuilt pRace; omega)) (fun j => hne _ _ (by unfold pOpen pRace; omega)) r1), ⟨?_, ?_, ?_, ?_, ?_⟩, fun i hi hi2 => ?_, fun i hi hi2 => ?_⟩
  · rw [rd_mw, if_neg (by simp), up1_ne (by decide)]
    exact b1
  · rw [rd_mw, if_neg (by simp), up1_ne (by decide)]
    exact b2
  · rw [rd_mw, if_neg (by simp), up1_ne (by decide)]
    exact b3
  · rw [rd_mw, if_neg (by simp), up1_ne (by decide)]
    exact b4
  · rw [rd_mw, if_pos ⟨rfl, rfl⟩, up1_eq]
  · rw [up1_ne (by decide)] at hi2
    exact RP_cg (fun k h1 h2 => (pg_lo (by decide) (by omega) h1).symm) (RP_fr2 f (fun j => hne _ _ (by unfold pPawn pRace; omega)) (r3 i hi hi2))
  · rw [up1_ne (by decide)] at hi2
    exact RN_cg (fun k h1 h2 => by unfold bg; exact (up1_ne (by omega)).symm) (RN_fr2 f (fun j => hne _ _ (by unfold pBan pRace; omega)) (r4 i hi hi2))
/-- a row of the class's that agrees but for a pawn -/
theorem RC_one {m1 m2 : Mem} {r t : Nat} {s1 s2 : Nat → Int} (hR : RC m1 r s1) (ht : t < 4) (hj : ∀ j, j < 8 ∨ 36 ≤ j → s2 j = s1 j) (hq : ∀ q k : Int, 0 ≤ q → q ≠ t → 0 ≤ k → k ≤ 6 → pg s2 q k = pg s1 q k) (f : Fr (fun k _ => k == pPawn r t) m1 m2) (hp : RP m1 r s1 t → RP m2 r s2 t) : RC m2 r s2 := by
  obtain ⟨r1, ⟨b1, b2, b3, b4, b5⟩, r3, r4⟩ := hR
  have hne : ∀ k j, k ≠ pPawn r t → (fun k _ : Nat => k == pPawn r t) k j = false := fun k j hk => by simp [hk]
  have nr : pRace r ≠ pPawn r t := by unfold pRace pPawn; omega
  refine ⟨RB_cg (hj 0 (by decide)).symm (hj 1 (by decide)).symm (hj 3 (by decide)).symm (fun j h => (hj j (by omega)).symm) (RB_fr2 f (fun j => hne _ j (by unfold pBoard pPawn; omega)) (fun j => hne _ j (by unfold pBuilt pPawn; omega)) (fun j => hne _ j (by unfold pOpen pPawn; omega)) r1), ⟨?_, ?_, ?_, ?_, ?_⟩, fun i hi hi2 => ?_, fun i hi hi2 => ?_⟩
  · rw [hj 2 (by decide), ← b1]
    exact f.1 _ _ (hne _ 0 nr)
  · rw [hj 6 (by decide), ← b2]
    exact f.1 _ _ (hne _ 0 nr)
  · rw [hj 4 (by decide), ← b3]
    exact f.1 _ _ (hne _ 0 nr)
  · rw [hj 7 (by decide), ← b4]
    exact f.1 _ _ (hne _ 0 nr)
  · rw [hj 5 (by decide), ← b5]
    exact f.1 _ _ (hne _ 0 nr)
  · rw [hj 2 (by decide)] at hi2
    by_cases e : i = t
    · rw [e]
      rw [e] at hi2
      exact hp (r3 t ht hi2)
    · exact RP_cg (fun k h1 h2 => (hq i k (by omega) (by omega) h1 h2).symm) (RP_fr2 f (fun j => hne _ j (by unfold pPawn; omega)) (r3 i hi hi2))
  · rw [hj 6 (by decide)] at hi2
    exact RN_cg (fun k h1 h2 => by unfold bg; exact (hj _ (by omega)).symm) (RN_fr2 f (fun j => hne _ j (by unfold pBan pPawn; omega)) (r4 i hi hi2))
theorem RC_pw {mem : Mem} {r : Nat} {s : Nat → Int} (hR : RC mem r s) {t j : Nat} (ht : t < 4) (hj1 : 1 ≤ j) (hj : j ≤ 5) {v w : Int} (hw : w = (j : Int) + 1) : RC (mw mem (pPawn r t) j (zi v)) r (up1 s (8 + 7 * (t : Int) + w).toNat v) := by
  have key : ∀ q k : Int, 0 ≤ q → 0 ≤ k → k ≤ 6 → pg (up1 s (8 + 7 * (t : Int) + w).toNat v) q k = if q = t ∧ k = w then v else pg s q k := fun q k h1 h2 h3 => pg_up (by omega) (by omega) h1 ⟨h2, h3⟩
  refine RC_one hR ht (fun i hi => up1_ne (by omega)) (fun q k h1 h2 h3 h4 => by rw [key q k h1 h3 h4, if_neg (fun x => h2 x.1)]) (Fr_mw _ _ (by simp)) (fun hP => ?_)
  obtain ⟨q0, q1, q2, q3, q4, q5⟩ := hP
  unfold RP
  simp only [rd_mw, key _ _ (show (0 : Int) ≤ t by omega) (show (0 : Int) ≤ 0 by decide) (by decide), key _ _ (show (0 : Int) ≤ t by omega) (show (0 : Int) ≤ 1 by decide) (by decide), key _ _ (show (0 : Int) ≤ t by omega) (show (0 : Int) ≤ 2 by decide) (by decide), key _ _ (show (0 : Int) ≤ t by omega) (show (0 : Int) ≤ 3 by decide) (by decide), key _ _ (show (0 : Int) ≤ t by omega) (show (0 : Int) ≤ 4 by decide) (by decide), key _ _ (show (0 : Int) ≤ t by omega) (show (0 : Int) ≤ 5 by decide) (by decide), key _ _ (show (0 : Int) ≤ t by omega) (show (0 : Int) ≤ 6 by decide) (by decide), true_and]
  rcases (show j = 1 ∨ j = 2 ∨ j = 3 ∨ j = 4 ∨ j = 5 by omega) with rfl | rfl | rfl | rfl | rfl <;> subst hw <;> refine ⟨?_, ?_, ?_, ?_, ?_, ?_⟩ <;> simp <;> assumption
theorem RC_pc {mem : Mem} {r : Nat} {s : Nat → Int} (hR : RC mem r s) {t : Nat} (ht : t < 4) {x y v : Int} (hv : v = 9 * y + x) : RC (mw mem (pPawn r t) 0 (zi v)) r (up1 (up1 s (8 + 7 * (t : Int)).toNat x) (8 + 7 * (t : Int) + 1).toNat y) := by
  subst hv
  have key : ∀ q k : Int, 0 ≤ q → 0 ≤ k → k ≤ 6 → pg (up1 (up1 s (8 + 7 * (t : Int)).toNat x) (8 + 7 * (t : Int) + 1).toNat y) q k = if q = t ∧ k = 1 then y else if q = t ∧ k = 0 then x else pg s q k := fun q k h1 h2 h3 => by
    rw [pg_up (by omega) (by decide) h1 ⟨h2, h3⟩, pg_up0 (by omega) h1 ⟨h2, h3⟩]
  refine RC_one hR ht (fun i hi => (up1_ne (by omega)).trans (up1_ne (by omega))) (fun q k h1 h2 h3 h4 => by rw [key q k h1 h3 h4, if_neg (fun x => h2 x.1), if_neg (fun x => h2 x.1)]) (Fr_mw _ _ (by simp)) (fun hP => ?_)
  obtain ⟨q0, q1, q2, q3, q4, q5⟩ := hP
  unfold RP
  simp only [rd_mw, key _ _ (show (0 : Int) ≤ t by omega) (show (0 : Int) ≤ 0 by decide) (by decide), key _ _ (show (0 : Int) ≤ t by omega) (show (0 : Int) ≤ 1 by decide) (by decide), key _ _ (show (0 : Int) ≤ t by omega) (show (0 : Int) ≤ 2 by decide) (by decide), key _ _ (show (0 : Int) ≤ t by omega) (show (0 : Int) ≤ 3 by decide) (by decide), key _ _ (show (0 : Int) ≤ t by omega) (show (0 : Int) ≤ 4 by decide) (by decide), key _ _ (show (0 : Int) ≤ t by omega) (show (0 : Int) ≤ 5 by decide) (by decide), key _ _ (show (0 : Int) ≤ t by omega) (show (0 : Int) ≤ 6 by decide) (by decide), true_and]
  refine ⟨?_, ?_, ?_, ?_, ?_, ?_⟩ <;> simp <;> assumption
theorem c_move (fu r : Nat) (hfu : 1000 ≤ fu) {s : Nat → Int} (hI : Inv s) {mem : Mem} (hR : RC mem r s) {d : Nat} (hd : d < 4) (hg : gB s (s 7) d ≠ 0) : ∃ mem2, K_X6_move fu r (zi (d : Int)) mem = some mem2 ∧ RC mem2 r (mvSt s (s 7) (gB s (s 7) d) d) ∧ Fr (ZR r) mem mem2 := by
  obtain ⟨hz, hc, hW, hp, hb, hwp, hds, hrk, hwy⟩ := hI
  have hv : lvO s := ⟨hz, hc, hW, hp, hb, hds⟩
  have ho : ovB s = false := by
    cases h : ovB s with
    | false => rfl
    | true => exact absurd (gB_ov h _ d) hg
  have hov := ov_2 hc ho
  have c1 := hc.1
  obtain ⟨t, ht⟩ : ∃ t : Nat, (t : Int) = s 7 := ⟨_, nat7 hc⟩
  have ht4 : t < 4 := by omega
  have hts : (t : Int) < s 2 := by omega
  rw [← ht] at hg ⊢
  have hland := c_landing fu r hfu hv hR (p := t) hts hd
  have hpk := hp _ (by omega) hts
  have hIm := Inv_mv ⟨hz, hc, hW, hp, hb, hwp, hds, hrk, hwy⟩ (p := t) hts hd hg
  obtain ⟨l1, l2, l3, l4, l5, l6, l7, l8, l9⟩ := gB_ld hz hpk hd hg
  rw [if_neg hg] at hland
  obtain ⟨g, hg9⟩ : ∃ g, gB s t d = g := ⟨_, rfl⟩
  rw [hg9] at l2 l3 l4 hIm ⊢
  have hxl := xy_lt l1
  have hR1 : RC (mw mem (pPawn r t) 0 (zi (ldN s t d : Int))) r (mvb s t g d) := RC_pc hR ht4 (by omega)
  obtain ⟨m1, hm1⟩ : ∃ m, m = mw mem (pPawn r t) 0 (zi (ldN s t d : Int)) := ⟨_, rfl⟩
  rw [← hm1] at hR1
  have t0 : (0 : Int) ≤ t := by omega
  have t3 : (t : Int) ≤ 3 := by omega
  have a3 : rd m1 (pPawn r t) 3 = zi (pg s t 4) := by
    rw [hm1, rd_mw, if_neg (by simp)]
    exact (hR.2.2.1 t ht4 hts).2.2.2.1
  have hR2 : RC (mw m1 (pPawn r t) 3 (zi (pg s t 4 + 1))) r (mvc s t g d) := RC_pw hR1 ht4 (by decide) (by decide) rfl
  obtain ⟨m2, hm2⟩ : ∃ m, m = mw m1 (pPawn r t) 3 (zi (pg s t 4 + 1)) := ⟨_, rfl⟩
  rw [← hm2] at hR2
  have hR3 : RC (mw m2 (pPawn r t) 4 (zi (d : Int))) r (mvd s t g d) := RC_pw hR2 ht4 (by decide) (by decide) rfl
  obtain ⟨m3, hm3⟩ : ∃ m, m = mw m2 (pPawn r t) 4 (zi (d : Int)) := ⟨_, rfl⟩
  rw [← hm3] at hR3
  have e2 : mvd s t g d 2 = s 2 := mvd_ne t0 t3 (by decide)
  have e0 : mvd s t g d 0 = s 0 := mvd_ne t0 t3 (by decide)
  have e1 : mvd s t g d 1 = s 1 := mvd_ne t0 t3 (by decide)
  have e5 : mvd s t g d 5 = s 5 := mvd_ne t0 t3 (by decide)
  have a1 : rd m3 (pPawn r t) 1 = zi (pg s t 2) := by
    have h := (hR3.2.2.1 t ht4 (by omega)).2.1
    rw [(mvd_p t0).2.2.1] at h
    exact h
  have a7 : rd m3 (pRace r) 7 = zi (s 5) := by
    have h := hR3.2.1.2.2.2.2
    rw [e5] at h
    exact h
  have hz3 : szO (mvd s t g d) := by
    unfold szO
    rw [e0, e1]
    exact hz
  have hla := c_liesAt fu r hR3.1 hz3 l1 (d := pg s t 2) (by have := hpk.2.1; omega) (by have := hpk.2.1; omega)
  rw [atS_cg e0 e1] at hla
  have hR4 : RC (mw m3 (pRace r) 7 (zi (s 5 + 1))) r (up1 (mvd s t g d) 5 (s 5 + 1)) := RC_cnt hR3
  obtain ⟨m4, hm4⟩ : ∃ m, m = mw m3 (pRace r) 7 (zi (s 5 + 1)) := ⟨_, rfl⟩
  rw [← hm4] at hR4
  have a74 : rd m4 (pRace r) 7 = zi (s 5 + 1) := by rw [hm4, rd_mw, if_pos ⟨rfl, rfl⟩]
  have hR5 : RC (mw m4 (pPawn r t) 5 (zi (s 5 + 1))) r (mvf s t g d) := RC_pw hR4 ht4 (by decide) (by decide) rfl
  have zt : ∀ j, ZR r (pPawn r t) j = true := fun j => ZR_t (by unfold pPawn; omega) (by unfold pPawn; omega)
  have zr : ∀ j, ZR r (pRace r) j = true := fun j => ZR_t (by unfold pRace; omega) (by unfold pRace; omega)
  have f3 : Fr (ZR r) mem m3 := by
    rw [hm3, hm2, hm1]
    exact Fr_tr (Fr_tr (Fr_mw _ _ (zt _)) (Fr_mw _ _ (zt _))) (Fr_mw _ _ (zt _))
  have f5 : Fr (ZR r) mem (mw m4 (pPawn r t) 5 (zi (s 5 + 1))) := by
    refine Fr_tr (Fr_tr f3 ?_) (Fr_mw _ _ (zt _))
    rw [hm4]
    exact Fr_mw _ _ (zr _)
  have hpos := hIm.2.1.1
  have heO : etO (mve s t g d) := by
    refine ⟨?_, ?_, fun q q0 q1 => ?_⟩
    · rw [mve_ne t0 t3 (by decide) (by decide)]
      omega
    · rw [mve_ne t0 t3 (j := 7) (by decide) (by decide), mve_ne t0 t3 (j := 2) (by decide) (by decide)]
      omega
    · rw [mve_ne t0 t3 (j := 2) (by decide) (by decide)] at q1
      rw [mve_pg t0 q0 (by decide)]
      have h5 := hc.2.2.2.2.1
      have h4 := hc.2.2.2.1
      split
      · omega
      · by_cases e : q = t
        · rw [e, (mvd_p t0).2.2.2.2.2.2]
          have := hpk.2.2.2.2.2.1
          omega
        · rw [mvd_q t0 q0 (by decide) e]
          have := (hp q q0 q1).2.2.2.2.2.1
          omega
  have fin : ∀ m, RC m r (mve s t g d) → Fr (ZR r) mem m → ∃ mem2, K_X6_move_79 fu r m = some mem2 ∧ RC mem2 r (mvSt s t g d) ∧ Fr (ZR r) mem mem2 := fun m hRm hf => by
    obtain ⟨mem2, b1, b2, b3⟩ := c_endTurn fu r hfu heO hRm
    refine ⟨mem2, ?_, b2, Fr_tr hf (Fr_mono b3 (fun _ _ => PEt_ZR))⟩
    unfold K_X6_move_79
    rw [b1]
    rfl
  have h6 : rd mem (pRace r) 6 = zi (t : Int) := by
    rw [hR.2.1.2.2.2.1, ← ht]
  unfold K_X6_move
  simp (disch := omega) only [zi_lit, zl_lit, zi_add, zi_sub, zi_mul, zi_neg, zi_lt, zi_inj, zi_clamp, zl_of, gi_zi, bd_s, ltf, bi_0, bi_1, gb_bi, Int.reduceToNat, Int.reduceNeg, Int.toNat_natCast, h6, hland, ← hm1, a3, ← hm2, ← hm3, a1, a7, hla, ← hm4, a74]
  rw [if_neg (by omega)]
  have emve : mve s t g d = if atS s (xo (ldN s t d)) (yo (ldN s t d)) (pg s t 2) = true then mvf s t g d else mvd s t g d := by
    unfold mve
    rw [l3, l4]
  cases c : atS s (xo (ldN s t d)) (yo (ldN s t d)) (pg s t 2) with
  | false =>
    rw [if_pos rfl]
    rw [c, if_neg (by decide)] at emve
    rw [← emve] at hR3
    exact fin _ hR3 f3
  | true =>
    rw [if_neg (by decide)]
    rw [c, if_pos rfl] at emve
    rw [← emve] at hR5
    exact fin _ hR5 f5
/-- the reference's step -/
theorem m_steps (fu : Nat) (hfu : 1000 ≤ fu) {s : Nat → Int} (hI : Inv s) {mem : Mem} (hS : MS mem s) {d : Nat} (hd : d < 4) {p : Nat} (hps : (p : Int) < s 2) (h27 : 0 < s 2) (hg : gB s p d ≠ 0) : ∃ mem2, K_X12_steps_ fu (zi (p : Int)) (zi (d : Int)) (zi (gB s p d)) mem = some mem2 ∧ MS mem2 (mvSt s p (gB s p d) d) ∧ Fr PMt mem mem2 := by
  obtain ⟨hz, hc, hW, hp, hb, hwp, hds, hrk, hwy⟩ := hI
  have hpk := hp _ (by omega) hps
  obtain ⟨l1, l2, l3, l4, l5, l6, l7, l8, l9⟩ := gB_ld hz hpk hd hg
  obtain ⟨g, hg9⟩ : ∃ g, gB s p d = g := ⟨_, rfl⟩
  rw [hg9] at l2 l3 l4 ⊢
  have hxl := xy_lt l1
  have c1 := hc.1
  have t0 : (0 : Int) ≤ p := by omega
  have t3 : (p : Int) ≤ 3 := by omega
  have g0 : rd mem 2 (8 + 7 * (p : Int)).toNat = zi (pg s p 0) := by
    rw [hS]
    unfold pg
    rw [Int.add_zero]
  have hS1 : MS (mw mem 2 (8 + 7 * (p : Int)).toNat (zi (pg s p 0 + g * dx (d : Int)))) (mva s p g d) := MS_up hS _ _
  obtain ⟨m1, hm1⟩ : ∃ m, m = mw mem 2 (8 + 7 * (p : Int)).toNat (zi (pg s p 0 + g * dx (d : Int))) := ⟨_, rfl⟩
  rw [← hm1] at hS1
  have g1 : rd m1 2 (8 + 7 * (p : Int) + 1).toNat = zi (pg s p 1) := by
    have h := mva_pg (s := s) (g := g) (d := d) t0 t0 (k := 1) (by decide)
    rw [if_neg (by omega)] at h
    rw [hS1, ← h]
    rfl
  have hS2 : MS (mw m1 2 (8 + 7 * (p : Int) + 1).toNat (zi (pg s p 1 + g * dy (d : Int)))) (mvb s p g d) := MS_up hS1 _ _
  obtain ⟨m2, hm2⟩ : ∃ m, m = mw m1 2 (8 + 7 * (p : Int) + 1).toNat (zi (pg s p 1 + g * dy (d : Int))) := ⟨_, rfl⟩
  rw [← hm2] at hS2
  have g4 : rd m2 2 (8 + 7 * (p : Int) + 4).toNat = zi (pg s p 4) := by
    have h := mvb_pg (s := s) (g := g) (d := d) t0 t0 (k := 4) (by decide)
    rw [if_neg (by omega), mva_pg t0 t0 (by decide), if_neg (by omega)] at h
    rw [hS2, ← h]
    rfl
  have hS3 : MS (mw m2 2 (8 + 7 * (p : Int) + 4).toNat (zi (pg s p 4 + 1))) (mvc s p g d) := MS_up hS2 _ _
  obtain ⟨m3, hm3⟩ : ∃ m, m = mw m2 2 (8 + 7 * (p : Int) + 4).toNat (zi (pg s p 4 + 1)) := ⟨_, rfl⟩
  rw [← hm3] at hS3
  have hS4 : MS (mw m3 2 (8 + 7 * (p : Int) + 5).toNat (zi (d : Int))) (mvd s p g d) := MS_up hS3 _ _
  obtain ⟨m4, hm4⟩ : ∃ m, m = mw m3 2 (8 + 7 * (p : Int) + 5).toNat (zi (d : Int)) := ⟨_, rfl⟩
  rw [← hm4] at hS4
  obtain ⟨f0, f1, f2, f3, f4, f5, f6⟩ := mvd_p (s := s) (p := p) (g := g) (d := d) t0
  have k0 : rd m4 2 (8 + 7 * (p : Int)).toNat = zi (xo (ldN s p d)) := by
    rw [l3, ← f0, hS4]
    unfold pg
    rw [Int.add_zero]
  have k1 : rd m4 2 (8 + 7 * (p : Int) + 1).toNat = zi (yo (ldN s p d)) := by
    rw [l4, ← f1, hS4]
    rfl
  have k2 : rd m4 2 (8 + 7 * (p : Int) + 2).toNat = zi (pg s p 2) := by
    rw [← f2, hS4]
    rfl
  have e0 : mvd s p g d 0 = s 0 := mvd_ne t0 t3 (by decide)
  have e1 : mvd s p g d 1 = s 1 := mvd_ne t0 t3 (by decide)
  have e5 : mvd s p g d 5 = s 5 := mvd_ne t0 t3 (by decide)
  have k5 : rd m4 2 5 = zi (s 5) := by rw [hS4, e5]
  have hz4 : szO (mvd s p g d) := by
    unfold szO
    rw [e0, e1]
    exact hz
  have hside := hpk.2.1
  have hat := k_isAtSide fu hS4 hz4 (x := xo (ldN s p d)) (y := yo (ldN s p d)) (d := pg s p 2) (by omega) (by omega) (by omega) (by omega) (by omega) (by omega)
  rw [atS_cg e0 e1] at hat
  have hS5 := MS_up hS4 5 (s 5 + 1)
  obtain ⟨m5, hm5⟩ : ∃ m, m = mw m4 2 5 (zi (s 5 + 1)) := ⟨_, rfl⟩
  rw [← hm5] at hS5
  have k55 : rd m5 2 5 = zi (s 5 + 1) := by rw [hm5, rd_mw, if_pos ⟨rfl, rfl⟩]
  have hS6 : MS (mw m5 2 (8 + 7 * (p : Int) + 6).toNat (zi (s 5 + 1))) (mvf s p g d) := MS_up hS5 _ _
  have fr4 : Fr PMt mem m4 := by
    rw [hm4, hm3, hm2, hm1]
    exact Fr_tr (Fr_tr (Fr_tr (Fr_mw _ _ rfl) (Fr_mw _ _ rfl)) (Fr_mw _ _ rfl)) (Fr_mw _ _ rfl)
  have fr6 : Fr PMt mem (mw m5 2 (8 + 7 * (p : Int) + 6).toNat (zi (s 5 + 1))) := by
    refine Fr_tr (Fr_tr fr4 ?_) (Fr_mw _ _ rfl)
    rw [hm5]
    exact Fr_mw _ _ rfl
  have c7 := hc.2.2.2.2.2.2 h27
  have heO : etO (mve s p g d) := by
    refine ⟨?_, ?_, fun q q0 q1 => ?_⟩
    · rw [mve_ne t0 t3 (by decide) (by decide)]
      omega
    · rw [mve_ne t0 t3 (j := 7) (by decide) (by decide), mve_ne t0 t3 (j := 2) (by decide) (by decide)]
      have := hc.2.2.2.2.2.1
      omega
    · rw [mve_ne t0 t3 (j := 2) (by decide) (by decide)] at q1
      rw [mve_pg t0 q0 (by decide)]
      have h5 := hc.2.2.2.2.1
      have h4 := hc.2.2.2.1
      split
      · omega
      · by_cases e : q = p
        · rw [e, f6]
          have := hpk.2.2.2.2.2.1
          omega
        · rw [mvd_q t0 q0 (by decide) e]
          have := (hp q q0 q1).2.2.2.2.2.1
          omega
  have fin : ∀ m, MS m (mve s p g d) → Fr PMt mem m → ∃ mem2, K_X12_steps__124 fu m = some mem2 ∧ MS mem2 (mvSt s p g d) ∧ Fr PMt mem mem2 := fun m hRm hf => by
    obtain ⟨mem2, b1, b2, b3⟩ := m_endsTurn fu hfu heO hRm
    refine ⟨mem2, ?_, b2, Fr_tr hf b3⟩
    unfold K_X12_steps__124
    rw [b1]
    rfl
  unfold K_X12_steps_
  simp (disch := omega) only [zi_lit, zl_lit, zi_add, zi_sub, zi_mul, zi_neg, zi_lt, zi_inj, zi_clamp, zl_of, gi_zi, bd_s, ltf, bi_0, bi_1, gb_bi, Int.reduceToNat, Int.reduceNeg, Int.toNat_natCast, k_across, k_up, g0, ← hm1, g1, ← hm2, g4, ← hm3, ← hm4, k0, k1, k2, hat, k5, ← hm5, k55]
  have emve : mve s p g d = if atS s (xo (ldN s p d)) (yo (ldN s p d)) (pg s p 2) = true then mvf s p g d else mvd s p g d := by
    unfold mve
    rw [l3, l4]
  cases c : atS s (xo (ldN s p d)) (yo (ldN s p d)) (pg s p 2) with
  | false =>
    rw [if_pos rfl]
    rw [c, if_neg (by decide)] at emve
    rw [← emve] at hS4
    exact fin _ hS4 fr4
  | true =>
    rw [if_neg (by decide)]
    rw [c, if_pos rfl] at emve
    rw [← emve] at hS6
    exact fin _ hS6 fr6
end STEPS
