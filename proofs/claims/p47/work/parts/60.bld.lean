section BUILD
def bwS (s : Nat → Int) (x y v : Int) : Nat → Int := up1 (sw3 s x y v) (8 + 7 * s 7 + 3).toNat (pg s (s 7) 3 - 1)
def bdS (s : Nat → Int) (x y v : Int) : Nat → Int := etS (bwS s x y v)
theorem sw3_lt {s : Nat → Int} {x y v : Int} (hx : 0 ≤ x) (hy : 0 ≤ y) {j : Nat} (hj : j < 120) (h3 : j ≠ 3) : sw3 s x y v j = s j := (sw3_ne h3).trans (sw_lt hx hy hj)
theorem bw_lt {s : Nat → Int} {x y v : Int} (hx : 0 ≤ x) (hy : 0 ≤ y) (h7 : 0 ≤ s 7) (h73 : s 7 ≤ 3) {j : Nat} (hj : j < 8 ∨ (36 ≤ j ∧ j < 120)) (h3 : j ≠ 3) : bwS s x y v j = s j := (up1_ne (by omega)).trans (sw3_lt hx hy (by omega) h3)
theorem bw_3 {s : Nat → Int} {x y v : Int} (h7 : 0 ≤ s 7) : bwS s x y v 3 = s 3 + 1 := (up1_ne (by omega)).trans (if_pos rfl)
theorem bw_hi {s : Nat → Int} {x y v : Int} (h7 : 0 ≤ s 7) (h73 : s 7 ≤ 3) {j : Nat} (hj : 120 ≤ j) : bwS s x y v j = sw s x y v j := (up1_ne (by omega)).trans (sw3_ne (by omega))
theorem bw_pg {s : Nat → Int} {x y v : Int} (hx : 0 ≤ x) (hy : 0 ≤ y) (h7 : 0 ≤ s 7) {q k : Int} (q0 : 0 ≤ q) (q3 : q ≤ 3) (hk : 0 ≤ k ∧ k ≤ 6) : pg (bwS s x y v) q k = if q = s 7 ∧ k = 3 then pg s (s 7) 3 - 1 else pg s q k := by
  unfold bwS
  rw [pg_up h7 (by decide) q0 hk]
  have h : pg (sw3 s x y v) q k = pg s q k := by
    unfold pg
    exact sw3_lt hx hy (by omega) (by omega)
  rw [h]
theorem Inv_bd {s : Nat → Int} (hI : Inv s) {x y v : Int} (hpl : isPl s x y = true) (hv : v = 1 ∨ v = 2) (had : adB s x y v = true) (ho : ovB s = false) (h3 : 0 < pg s (s 7) 3) : Inv (bdS s x y v) := by
  obtain ⟨hz, hc, hW, hp, hb, hwp, hds, hrk, hwy⟩ := hI
  have hov := ov_2 hc ho
  obtain ⟨⟨x0, x1⟩, y0, y1⟩ := isPl_iff.mp hpl
  obtain ⟨c1, c2, c3, c4, c5, c6, c7⟩ := hc
  have hz2 := hz
  obtain ⟨⟨w1, w2⟩, w3, w4⟩ := hz2
  have E : ∀ j, j < 8 ∨ (36 ≤ j ∧ j < 120) → j ≠ 3 → bwS s x y v j = s j := fun j hj h3 => bw_lt x0 y0 c6.1 c6.2 hj h3
  have Eh : ∀ j, 120 ≤ j → bwS s x y v j = sw s x y v j := fun j hj => bw_hi c6.1 c6.2 hj
  have P : ∀ q k : Int, 0 ≤ q → q ≤ 3 → 0 ≤ k → k ≤ 6 → k ≠ 3 → pg (bwS s x y v) q k = pg s q k := fun q k q0 q3 k0 k6 k3 => by
    rw [bw_pg x0 y0 c6.1 q0 q3 ⟨k0, k6⟩, if_neg (fun h => k3 h.2)]
  have heO : etO (bwS s x y v) := by
    refine ⟨?_, ?_, fun q q0 q1 => ?_⟩
    · rw [E 2 (by decide) (by decide)]
      omega
    · rw [E 7 (by decide) (by decide), E 2 (by decide) (by decide)]
      omega
    · rw [E 2 (by decide) (by decide)] at q1
      rw [P q 6 q0 (by omega) (by decide) (by decide) (by decide)]
      have := (hp q q0 q1).2.2.2.2.2.1
      omega
  have hn := ntN_le heO (s 2).toNat 1 (by rw [E 2 (by decide) (by decide)]; omega) (by decide)
  rw [E 2 (by decide) (by decide)] at hn
  unfold bdS
  have E0 : etS (bwS s x y v) 0 = s 0 := (etS_ne (by decide) (by decide)).trans (E 0 (by decide) (by decide))
  have E1 : etS (bwS s x y v) 1 = s 1 := (etS_ne (by decide) (by decide)).trans (E 1 (by decide) (by decide))
  have E2 : etS (bwS s x y v) 2 = s 2 := (etS_ne (by decide) (by decide)).trans (E 2 (by decide) (by decide))
  have E3 : etS (bwS s x y v) 3 = s 3 + 1 := (etS_ne (by decide) (by decide)).trans (bw_3 c6.1)
  have E4 : etS (bwS s x y v) 4 = s 4 + 1 := (etS_4 _).trans (by rw [E 4 (by decide) (by decide)])
  have E5 : etS (bwS s x y v) 5 = s 5 := (etS_ne (by decide) (by decide)).trans (E 5 (by decide) (by decide))
  have E6 : etS (bwS s x y v) 6 = s 6 := (etS_ne (by decide) (by decide)).trans (E 6 (by decide) (by decide))
  have E7 : etS (bwS s x y v) 7 = ntN (bwS s x y v) (s 2).toNat 1 := (etS_7 _).trans (by rw [E 2 (by decide) (by decide)])
  have EH : ∀ j, 120 ≤ j → etS (bwS s x y v) j = sw s x y v j := fun j hj => (etS_ne (by omega) (by omega)).trans (Eh j hj)
  have EP : ∀ q k : Int, 0 ≤ q → q ≤ 3 → 0 ≤ k → k ≤ 6 → k ≠ 3 → pg (etS (bwS s x y v)) q k = pg s q k := fun q k q0 q3 k0 k6 k3 => (etS_pg _ q0 k0).trans (P q k q0 q3 k0 k6 k3)
  have EP3 : ∀ q : Int, 0 ≤ q → q ≤ 3 → pg (etS (bwS s x y v)) q 3 = if q = s 7 then pg s (s 7) 3 - 1 else pg s q 3 := fun q q0 q3 => by
    rw [etS_pg _ q0 (by decide), bw_pg x0 y0 c6.1 q0 q3 (by decide)]
    by_cases e : q = s 7
    · rw [if_pos ⟨e, rfl⟩, if_pos e]
    · rw [if_neg (fun h => e h.1), if_neg e]
  refine ⟨?_, ?_, fun j h1 h2 => ?_, fun q q0 q1 => ?_, ?_, fun a b a0 a1 b0 b1 hpl2 => ?_, fun q1 q2 a0 a1 b0 b1 hq f1 f2 => ?_, fun q1 q2 a0 a1 b0 b1 hq f1 => ?_, fun q q0 q1 => ?_⟩
  · unfold szO
    rw [E0, E1]
    exact hz
  · unfold cnO
    rw [E2, E3, E4, E5, E6, E7]
    exact ⟨c1, c2, by omega, by omega, by omega, by omega, fun _ => by omega⟩
  · rw [EH j (by omega)]
    exact sw_wl (by omega) hW j h1 h2
  · rw [E2] at q1
    have q3 : q ≤ 3 := by omega
    obtain ⟨p1, p2, p3, p4, p5, p6, p7⟩ := hp q q0 q1
    unfold pnO
    rw [EP q 0 q0 q3 (by decide) (by decide) (by decide), EP q 1 q0 q3 (by decide) (by decide) (by decide), EP q 2 q0 q3 (by decide) (by decide) (by decide), EP3 q q0 q3, EP q 4 q0 q3 (by decide) (by decide) (by decide), EP q 5 q0 q3 (by decide) (by decide) (by decide), EP q 6 q0 q3 (by decide) (by decide) (by decide), isCl_cg E0 E1, atS_cg E0 E1, E4, E5]
    refine ⟨p1, p2, ?_, by omega, p5, p6, p7⟩
    by_cases e : q = s 7
    · rw [if_pos e]
      rw [e] at p3
      omega
    · rw [if_neg e]
      exact p3
  · refine bas_cg E0 E1 E2 E6 c2.2 (fun b k b0 b1 k0 k1 => ?_) hb
    rw [etS_bg _ b0 k0]
    exact E _ (by omega) (by omega)
  · rw [isPl_cg E0 E1] at hpl2
    rw [EH _ (by omega)]
    unfold sw
    rw [if_neg (fun h => ?_)]
    · exact hwp a b a0 a1 b0 b1 hpl2
    · have ha : a = x := by omega
      have hb2 : b = y := by omega
      rw [ha, hb2, hpl] at hpl2
      cases hpl2
  · rw [E2] at a1 b1
    rw [EP q1 6 a0 (by omega) (by decide) (by decide) (by decide)] at f1
    rw [EP q2 6 b0 (by omega) (by decide) (by decide) (by decide)] at f2
    rw [EP q1 0 a0 (by omega) (by decide) (by decide) (by decide), EP q1 1 a0 (by omega) (by decide) (by decide) (by decide), EP q2 0 b0 (by omega) (by decide) (by decide) (by decide), EP q2 1 b0 (by omega) (by decide) (by decide) (by decide)]
    exact hds q1 q2 a0 a1 b0 b1 hq f1 f2
  · rw [E2] at a1 b1
    rw [EP q1 6 a0 (by omega) (by decide) (by decide) (by decide)] at f1 ⊢
    rw [EP q2 6 b0 (by omega) (by decide) (by decide) (by decide)]
    exact hrk q1 q2 a0 a1 b0 b1 hq f1
  · rw [E2] at q1
    have q3 : q ≤ 3 := by omega
    have e : dst (etS (bwS s x y v)) q = dst (sw s x y v) q := dst_cg (E0.trans (sw_lt x0 y0 (by decide)).symm) (E1.trans (sw_lt x0 y0 (by decide)).symm) EH ((EP q 0 q0 q3 (by decide) (by decide) (by decide)).trans (sw_pg x0 y0 q3 (by decide)).symm) ((EP q 1 q0 q3 (by decide) (by decide) (by decide)).trans (sw_pg x0 y0 q3 (by decide)).symm) ((EP q 2 q0 q3 (by decide) (by decide) (by decide)).trans (sw_pg x0 y0 q3 (by decide)).symm) (by rw [EP q 6 q0 q3 (by decide) (by decide) (by decide), sw_pg x0 y0 q3 (by decide)])
    rw [e]
    exact ad_dst x0 y0 had q0 q1
theorem ad_hr {s : Nat → Int} {x y v : Int} (h : adB s x y v = true) : hrB s x y v = true := by
  unfold adB at h
  rw [Bool.and_eq_true] at h
  exact h.1
theorem et_bw {s : Nat → Int} (hc : cnO s) (hp : pasO s) (ho : ovB s = false) {x y v : Int} (x0 : 0 ≤ x) (y0 : 0 ≤ y) : etO (bwS s x y v) := by
  have hov := ov_2 hc ho
  obtain ⟨c1, c2, c3, c4, c5, c6, c7⟩ := hc
  refine ⟨?_, ?_, fun q q0 q1 => ?_⟩
  · rw [bw_lt x0 y0 c6.1 c6.2 (by decide) (by decide)]
    omega
  · rw [bw_lt (j := 7) x0 y0 c6.1 c6.2 (by decide) (by decide), bw_lt (j := 2) x0 y0 c6.1 c6.2 (by decide) (by decide)]
    omega
  · rw [bw_lt (j := 2) x0 y0 c6.1 c6.2 (by decide) (by decide)] at q1
    rw [bw_pg x0 y0 c6.1 q0 (by omega) (by decide), if_neg (fun h => absurd h.2 (by decide))]
    have := (hp q q0 q1).2.2.2.2.2.1
    omega
theorem c_buildW (fu r : Nat) (hfu : 1000 ≤ fu) {s : Nat → Int} (hI : Inv s) {mem : Mem} (hR : RC mem r s) {x y w : Int} (hpl : isPl s x y = true) (hw : w = 0 ∨ w = 1) (had : adB s x y (w + 1) = true) (ho : ovB s = false) : ∃ mem2, K_X6_buildWall fu r (zi x) (zi y) (zi w) mem = some mem2 ∧ RC mem2 r (bdS s x y (w + 1)) ∧ Fr (ZR r) mem mem2 := by
  obtain ⟨hz, hc, hW, hp, hb, hwp, hds, hrk, hwy⟩ := hI
  have hov := ov_2 hc ho
  obtain ⟨⟨x0, x1⟩, y0, y1⟩ := isPl_iff.mp hpl
  have heO := et_bw (v := w + 1) hc hp ho x0 y0
  obtain ⟨t, ht⟩ : ∃ t : Nat, (t : Int) = s 7 := ⟨_, nat7 hc⟩
  obtain ⟨c1, c2, c3, c4, c5, c6, c7⟩ := hc
  have ht4 : t < 4 := by omega
  have hts : (t : Int) < s 2 := by omega
  obtain ⟨r1, ⟨b1, b2, b3, b4, b5⟩, r3, r4⟩ := hR
  obtain ⟨m1, a1, a2, a3⟩ := c_raise fu r hfu r1 hz hpl hw (ad_hr had)
  have n1 : ∀ j, PWl r (pRace r) j = false := fun j => by
    unfold PWl pOpen pBuilt pBoard pRace
    simp
    try omega
  have n2 : ∀ i j, i < 4 → PWl r (pPawn r i) j = false := fun i j hi => by
    unfold PWl pOpen pBuilt pBoard pPawn
    simp
    try omega
  have n3 : ∀ i j, i < 12 → PWl r (pBan r i) j = false := fun i j hi => by
    unfold PWl pOpen pBuilt pBoard pBan
    simp
    try omega
  have L : ∀ j, j < 120 → j ≠ 3 → sw3 s x y (w + 1) j = s j := fun j hj h3 => sw3_lt x0 y0 hj h3
  have hR1 : RC m1 r (sw3 s x y (w + 1)) := by
    refine ⟨a2, ⟨?_, ?_, ?_, ?_, ?_⟩, fun i hi hi2 => ?_, fun i hi hi2 => ?_⟩
    · rw [L 2 (by decide) (by decide), a3.1 _ _ (n1 _)]
      exact b1
    · rw [L 6 (by decide) (by decide), a3.1 _ _ (n1 _)]
      exact b2
    · rw [L 4 (by decide) (by decide), a3.1 _ _ (n1 _)]
      exact b3
    · rw [L 7 (by decide) (by decide), a3.1 _ _ (n1 _)]
      exact b4
    · rw [L 5 (by decide) (by decide), a3.1 _ _ (n1 _)]
      exact b5
    · rw [L 2 (by decide) (by decide)] at hi2
      exact RP_cg (fun k h1 h2 => by unfold pg; exact (L _ (by omega) (by omega)).symm) (RP_fr2 a3 (fun j => n2 i j hi) (r3 i hi hi2))
    · rw [L 6 (by decide) (by decide)] at hi2
      exact RN_cg (fun k h1 h2 => by unfold bg; exact (L _ (by omega) (by omega)).symm) (RN_fr2 a3 (fun j => n3 i j hi) (r4 i hi hi2))
  have g6 : rd m1 (pRace r) 6 = zi (t : Int) := by rw [a3.1 _ _ (n1 _), b4, ← ht]
  have g2 : rd m1 (pPawn r t) 2 = zi (pg s t 3) := by rw [a3.1 _ _ (n2 t _ ht4), (r3 t ht4 hts).2.2.1]
  have hR2 : RC (mw m1 (pPawn r t) 2 (zi (pg s t 3 - 1))) r (bwS s x y (w + 1)) := by
    unfold bwS
    rw [← ht]
    exact RC_pw hR1 ht4 (by decide) (by decide) rfl
  obtain ⟨mem2, e1, e2, e3⟩ := c_endTurn fu r hfu heO hR2
  refine ⟨mem2, ?_, e2, Fr_tr (Fr_tr (Fr_mono a3 (fun _ _ => PWl_ZR)) (Fr_mw _ _ (ZR_t (by unfold pPawn; omega) (by unfold pPawn; omega)))) (Fr_mono e3 (fun _ _ => PEt_ZR))⟩
  unfold K_X6_buildWall
  rw [a1]
  simp (disch := omega) only [zi_lit, zl_lit, zi_add, zi_sub, zi_mul, zi_neg, zi_lt, zi_inj, zi_clamp, zl_of, gi_zi, bd_s, ltf, bi_0, bi_1, gb_bi, Int.reduceToNat, Int.reduceNeg, Int.toNat_natCast, g6, g2, e1]
theorem m_builds (fu : Nat) (hfu : 1000 ≤ fu) {s : Nat → Int} (hI : Inv s) {mem : Mem} (hS : MS mem s) {x y v : Int} (hpl : isPl s x y = true) (ho : ovB s = false) : ∃ mem2, K_X12_builds fu (zi x) (zi y) (zi v) mem = some (zi (pg s (s 7) 3 - 1), mem2) ∧ MS mem2 (bdS s x y v) ∧ Fr PMt mem mem2 := by
  obtain ⟨hz, hc, hW, hp, hb, hwp, hds, hrk, hwy⟩ := hI
  have hov := ov_2 hc ho
  obtain ⟨⟨x0, x1⟩, y0, y1⟩ := isPl_iff.mp hpl
  have heO := et_bw (v := v) hc hp ho x0 y0
  obtain ⟨⟨w1, w2⟩, w3, w4⟩ := hz
  obtain ⟨c1, c2, c3, c4, c5, c6, c7⟩ := hc
  have g7 : rd mem 2 7 = zi (s 7) := hS 7
  have hS1 : MS (mw mem 2 (120 + 8 * y + x).toNat (zi v)) (sw s x y v) := MS_sw hS x y v
  obtain ⟨m1, hm1⟩ : ∃ m, m = mw mem 2 (120 + 8 * y + x).toNat (zi v) := ⟨_, rfl⟩
  rw [← hm1] at hS1
  have g3 : rd m1 2 3 = zi (s 3) := by rw [hS1, sw_lt x0 y0 (by decide)]
  have hS2 : MS (mw m1 2 3 (zi (s 3 + 1))) (sw3 s x y v) := MS_up hS1 3 (s 3 + 1)
  obtain ⟨m2, hm2⟩ : ∃ m, m = mw m1 2 3 (zi (s 3 + 1)) := ⟨_, rfl⟩
  rw [← hm2] at hS2
  have gp : rd m2 2 (8 + 7 * s 7 + 3).toNat = zi (pg s (s 7) 3) := by
    rw [hS2, sw3_lt x0 y0 (by omega) (by omega)]
    rfl
  have hS3 : MS (mw m2 2 (8 + 7 * s 7 + 3).toNat (zi (pg s (s 7) 3 - 1))) (bwS s x y v) := MS_up hS2 _ _
  obtain ⟨m3, hm3⟩ : ∃ m, m = mw m2 2 (8 + 7 * s 7 + 3).toNat (zi (pg s (s 7) 3 - 1)) := ⟨_, rfl⟩
  rw [← hm3] at hS3
  obtain ⟨mem2, e1, e2, e3⟩ := m_endsTurn fu hfu heO hS3
  have gq : rd mem2 2 (8 + 7 * s 7 + 3).toNat = zi (pg s (s 7) 3 - 1) := by
    rw [e2]
    have h := etS_pg (bwS s x y v) (p := s 7) (k := 3) c6.1 (by decide)
    rw [bw_pg x0 y0 c6.1 c6.1 c6.2 (by decide), if_pos ⟨rfl, rfl⟩] at h
    rw [← h]
    rfl
  have f : Fr PMt mem m3 := by
    rw [hm3, hm2, hm1]
    exact Fr_tr (Fr_tr (Fr_mw _ _ rfl) (Fr_mw _ _ rfl)) (Fr_mw _ _ rfl)
  refine ⟨mem2, ?_, e2, Fr_tr f e3⟩
  unfold K_X12_builds
  simp (disch := omega) only [zi_lit, zl_lit, zi_add, zi_sub, zi_mul, zi_neg, zi_lt, zi_inj, zi_clamp, zl_of, gi_zi, bd_s, ltf, bi_0, bi_1, gb_bi, Int.reduceToNat, Int.reduceNeg, Int.toNat_natCast, g7, ← hm1, g3, ← hm2, gp, ← hm3, e1, gq]
end BUILD
