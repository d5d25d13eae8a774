section MVS
theorem pg_up0 {s : Nat → Int} {t v : Int} (ht : 0 ≤ t) {p k : Int} (hp : 0 ≤ p) (hk : 0 ≤ k ∧ k ≤ 6) : pg (up1 s (8 + 7 * t).toNat v) p k = if p = t ∧ k = 0 then v else pg s p k := by
  have h := pg_up (s := s) (v := v) ht (w := 0) ⟨by decide, by decide⟩ hp hk
  rw [Int.add_zero] at h
  exact h
theorem isCl_cg {s1 s2 : Nat → Int} (h0 : s1 0 = s2 0) (h1 : s1 1 = s2 1) (x y : Int) : isCl s1 x y = isCl s2 x y := by
  unfold isCl
  rw [h0, h1]
theorem isPl_cg {s1 s2 : Nat → Int} (h0 : s1 0 = s2 0) (h1 : s1 1 = s2 1) (x y : Int) : isPl s1 x y = isPl s2 x y := by
  unfold isPl
  rw [h0, h1]
theorem atS_cg {s1 s2 : Nat → Int} (h0 : s1 0 = s2 0) (h1 : s1 1 = s2 1) (x y d : Int) : atS s1 x y d = atS s2 x y d := by
  unfold atS
  rw [h0, h1]
theorem dst_cg {s1 s2 : Nat → Int} (h0 : s1 0 = s2 0) (h1 : s1 1 = s2 1) (hw : ∀ j, 120 ≤ j → s1 j = s2 j) {p : Int} (p0 : pg s1 p 0 = pg s2 p 0) (p1 : pg s1 p 1 = pg s2 p 1) (p2 : pg s1 p 2 = pg s2 p 2) (p6 : (0 < pg s1 p 6) = (0 < pg s2 p 6)) : dst s1 p = dst s2 p := by
  unfold dst celN
  rw [p0, p1, p2, dl_cg h0 h1 hw]
  simp only [p6]
theorem bas_cg {s1 s2 : Nat → Int} (h0 : s2 0 = s1 0) (h1 : s2 1 = s1 1) (h2 : s2 2 = s1 2) (h6 : s2 6 = s1 6) (hs6 : s1 6 ≤ 12) (hb : ∀ b k : Int, 0 ≤ b → b ≤ 11 → 0 ≤ k → k ≤ 6 → bg s2 b k = bg s1 b k) (h : basO s1) : basO s2 := fun b b0 b1 => by
  rw [h6] at b1
  have q := h b b0 b1
  unfold bnO at q ⊢
  rw [hb b 0 b0 (by omega) (by decide) (by decide), hb b 1 b0 (by omega) (by decide) (by decide), hb b 2 b0 (by omega) (by decide) (by decide), hb b 3 b0 (by omega) (by decide) (by decide), hb b 4 b0 (by omega) (by decide) (by decide), hb b 5 b0 (by omega) (by decide) (by decide), hb b 6 b0 (by omega) (by decide) (by decide), h2, isCl_cg h0 h1, isCl_cg h0 h1]
  exact q
theorem etO_of {s : Nat → Int} (hc : cnO s) (hp : pasO s) (h2 : 0 < s 2) : etO s := by
  obtain ⟨c1, c2, c3, c4, c5, c6, c7⟩ := hc
  refine ⟨⟨h2, c1.2⟩, ⟨c6.1, c7 h2⟩, fun p p0 p1 => ?_⟩
  have q := (hp p p0 p1).2.2.2.2.2.1
  omega
theorem dst_et (s : Nat → Int) {p : Int} (hp : 0 ≤ p) : dst (etS s) p = dst s p := dst_cg (etS_ne (by decide) (by decide)) (etS_ne (by decide) (by decide)) (fun j hj => etS_ne (by omega) (by omega)) (etS_pg s hp (by decide)) (etS_pg s hp (by decide)) (etS_pg s hp (by decide)) (by rw [etS_pg s hp (by decide)])
theorem Inv_et {s : Nat → Int} (hI : Inv s) (h4 : s 4 < 200) (h2 : 0 < s 2) : Inv (etS s) := by
  obtain ⟨hz, hc, hW, hp, hb, hwp, hds, hrk, hwy⟩ := hI
  have hn := ntN_le (etO_of hc hp h2) (s 2).toNat 1 (by omega) (by decide)
  obtain ⟨c1, c2, c3, c4, c5, c6, c7⟩ := hc
  have e0 : etS s 0 = s 0 := etS_ne (by decide) (by decide)
  have e1 : etS s 1 = s 1 := etS_ne (by decide) (by decide)
  have e2 : etS s 2 = s 2 := etS_ne (by decide) (by decide)
  have e3 : etS s 3 = s 3 := etS_ne (by decide) (by decide)
  have e5 : etS s 5 = s 5 := etS_ne (by decide) (by decide)
  have e6 : etS s 6 = s 6 := etS_ne (by decide) (by decide)
  have e4 := etS_4 s
  have e7 := etS_7 s
  refine ⟨?_, ?_, fun j h1 h2 => ?_, fun p p0 p1 => ?_, ?_, fun x y x0 x1 y0 y1 hpl => ?_, fun p q p0 p1 q0 q1 hpq f1 f2 => ?_, fun p q p0 p1 q0 q1 hpq f1 => ?_, fun p p0 p1 => ?_⟩
  · unfold szO
    rw [e0, e1]
    exact hz
  · unfold cnO
    rw [e2, e3, e4, e5, e6, e7]
    exact ⟨c1, c2, by omega, by omega, by omega, by omega, fun _ => by omega⟩
  · rw [etS_ne (by omega) (by omega)]
    exact hW j h1 h2
  · rw [e2] at p1
    obtain ⟨p1, p2, p3, p4, p5, p6, p7⟩ := hp p p0 p1
    unfold pnO
    rw [etS_pg s p0 (k := 0) (by decide), etS_pg s p0 (k := 1) (by decide), etS_pg s p0 (k := 2) (by decide), etS_pg s p0 (k := 3) (by decide), etS_pg s p0 (k := 4) (by decide), etS_pg s p0 (k := 5) (by decide), etS_pg s p0 (k := 6) (by decide), isCl_cg e0 e1, atS_cg e0 e1, e4, e5]
    exact ⟨p1, p2, p3, by omega, p5, p6, p7⟩
  · exact bas_cg e0 e1 e2 e6 c2.2 (fun b k b0 b1 k0 k1 => etS_bg s b0 k0) hb
  · rw [isPl_cg e0 e1] at hpl
    rw [etS_ne (by omega) (by omega)]
    exact hwp x y x0 x1 y0 y1 hpl
  · rw [e2] at p1 q1
    rw [etS_pg s p0 (by decide)] at f1
    rw [etS_pg s q0 (by decide)] at f2
    rw [etS_pg s p0 (by decide), etS_pg s p0 (by decide), etS_pg s q0 (by decide), etS_pg s q0 (by decide)]
    exact hds p q p0 p1 q0 q1 hpq f1 f2
  · rw [e2] at p1 q1
    rw [etS_pg s p0 (by decide)] at f1 ⊢
    rw [etS_pg s q0 (by decide)]
    exact hrk p q p0 p1 q0 q1 hpq f1
  · rw [e2] at p1
    rw [dst_et s p0]
    exact hwy p p0 p1
/-- a pawn goes: its cell, its steps, its latest step, its rank -/
def mva (s : Nat → Int) (p g : Int) (d : Nat) : Nat → Int := up1 s (8 + 7 * p).toNat (pg s p 0 + g * dx (d : Int))
def mvb (s : Nat → Int) (p g : Int) (d : Nat) : Nat → Int := up1 (mva s p g d) (8 + 7 * p + 1).toNat (pg s p 1 + g * dy (d : Int))
def mvc (s : Nat → Int) (p g : Int) (d : Nat) : Nat → Int := up1 (mvb s p g d) (8 + 7 * p + 4).toNat (pg s p 4 + 1)
def mvd (s : Nat → Int) (p g : Int) (d : Nat) : Nat → Int := up1 (mvc s p g d) (8 + 7 * p + 5).toNat (d : Int)
def mvf (s : Nat → Int) (p g : Int) (d : Nat) : Nat → Int := up1 (up1 (mvd s p g d) 5 (s 5 + 1)) (8 + 7 * p + 6).toNat (s 5 + 1)
def mve (s : Nat → Int) (p g : Int) (d : Nat) : Nat → Int := if atS s (pg s p 0 + g * dx (d : Int)) (pg s p 1 + g * dy (d : Int)) (pg s p 2) = true then mvf s p g d else mvd s p g d
def mvSt (s : Nat → Int) (p g : Int) (d : Nat) : Nat → Int := etS (mve s p g d)
theorem mva_pg {s : Nat → Int} {p g : Int} {d : Nat} (hp : 0 ≤ p) {q k : Int} (hq : 0 ≤ q) (hk : 0 ≤ k ∧ k ≤ 6) : pg (mva s p g d) q k = if q = p ∧ k = 0 then pg s p 0 + g * dx (d : Int) else pg s q k := pg_up0 hp hq hk
theorem mvb_pg {s : Nat → Int} {p g : Int} {d : Nat} (hp : 0 ≤ p) {q k : Int} (hq : 0 ≤ q) (hk : 0 ≤ k ∧ k ≤ 6) : pg (mvb s p g d) q k = if q = p ∧ k = 1 then pg s p 1 + g * dy (d : Int) else pg (mva s p g d) q k := pg_up hp ⟨by decide, by decide⟩ hq hk
theorem mvc_pg {s : Nat → Int} {p g : Int} {d : Nat} (hp : 0 ≤ p) {q k : Int} (hq : 0 ≤ q) (hk : 0 ≤ k ∧ k ≤ 6) : pg (mvc s p g d) q k = if q = p ∧ k = 4 then pg s p 4 + 1 else pg (mvb s p g d) q k := pg_up hp ⟨by decide, by decide⟩ hq hk
theorem mvd_pg {s : Nat → Int} {p g : Int} {d : Nat} (hp : 0 ≤ p) {q k : Int} (hq : 0 ≤ q) (hk : 0 ≤ k ∧ k ≤ 6) : pg (mvd s p g d) q k = if q = p ∧ k = 5 then (d : Int) else pg (mvc s p g d) q k := pg_up hp ⟨by decide, by decide⟩ hq hk
theorem mvf_pg {s : Nat → Int} {p g : Int} {d : Nat} (hp : 0 ≤ p) {q k : Int} (hq : 0 ≤ q) (hk : 0 ≤ k ∧ k ≤ 6) : pg (mvf s p g d) q k = if q = p ∧ k = 6 then s 5 + 1 else pg (mvd s p g d) q k := by
  have h := pg_up (s := up1 (mvd s p g d) 5 (s 5 + 1)) (v := s 5 + 1) hp (w := 6) ⟨by decide, by decide⟩ hq hk
  rw [pg_lo (s := mvd s p g d) (i := 5) (v := s 5 + 1) (by decide) hq hk.1] at h
  exact h
/-- what a step leaves of the other pawns -/
theorem mvd_q {s : Nat → Int} {p g : Int} {d : Nat} (hp : 0 ≤ p) {q k : Int} (hq : 0 ≤ q) (hk : 0 ≤ k ∧ k ≤ 6) (h : q ≠ p) : pg (mvd s p g d) q k = pg s q k := by
  rw [mvd_pg hp hq hk, if_neg (fun x => h x.1), mvc_pg hp hq hk, if_neg (fun x => h x.1), mvb_pg hp hq hk, if_neg (fun x => h x.1), mva_pg hp hq hk, if_neg (fun x => h x.1)]
theorem mvd_p {s : Nat → Int} {p g : Int} {d : Nat} (hp : 0 ≤ p) : pg (mvd s p g d) p 0 = pg s p 0 + g * dx (d : Int) ∧ pg (mvd s p g d) p 1 = pg s p 1 + g * dy (d : Int) ∧ pg (mvd s p g d) p 2 = pg s p 2 ∧ pg (mvd s p g d) p 3 = pg s p 3 ∧ pg (mvd s p g d) p 4 = pg s p 4 + 1 ∧ pg (mvd s p g d) p 5 = (d : Int) ∧ pg (mvd s p g d) p 6 = pg s p 6 := by
  refine ⟨?_, ?_, ?_, ?_, ?_, ?_, ?_⟩
  · rw [mvd_pg hp hp (by decide), if_neg (by omega), mvc_pg hp hp (by decide), if_neg (by omega), mvb_pg hp hp (by decide), if_neg (by omega), mva_pg hp hp (by decide), if_pos ⟨rfl, rfl⟩]
  · rw [mvd_pg hp hp (by decide), if_neg (by omega), mvc_pg hp hp (by decide), if_neg (by omega), mvb_pg hp hp (by decide), if_pos ⟨rfl, rfl⟩]
  · rw [mvd_pg hp hp (by decide), if_neg (by omega), mvc_pg hp hp (by decide), if_neg (by omega), mvb_pg hp hp (by decide), if_neg (by omega), mva_pg hp hp (by decide), if_neg (by omega)]
  · rw [mvd_pg hp hp (by decide), if_neg (by omega), mvc_pg hp hp (by decide), if_neg (by omega), mvb_pg hp hp (by decide), if_neg (by omega), mva_pg hp hp (by decide), if_neg (by omega)]
  · rw [mvd_pg hp hp (by decide), if_neg (by omega), mvc_pg hp hp (by decide), if_pos ⟨rfl, rfl⟩]
  · rw [mvd_pg hp hp (by decide), if_pos ⟨rfl, rfl⟩]
  · rw [mvd_pg hp hp (by decide), if_neg (by omega), mvc_pg hp hp (by decide), if_neg (by omega), mvb_pg hp hp (by decide), if_neg (by omega), mva_pg hp hp (by decide), if_neg (by omega)]
theorem mvd_ne {s : Nat → Int} {p g : Int} {d : Nat} (hp : 0 ≤ p) (hp3 : p ≤ 3) {j : Nat} (hj : j < 8 ∨ 36 ≤ j) : mvd s p g d j = s j := (up1_ne (by omega)).trans ((up1_ne (by omega)).trans ((up1_ne (by omega)).trans (up1_ne (by omega))))
theorem mve_ne {s : Nat → Int} {p g : Int} {d : Nat} (hp : 0 ≤ p) (hp3 : p ≤ 3) {j : Nat} (hj : j < 8 ∨ 36 ≤ j) (h5 : j ≠ 5) : mve s p g d j = s j := by
  unfold mve
  split
  · exact (up1_ne (by omega)).trans ((up1_ne h5).trans (mvd_ne hp hp3 hj))
  · exact mvd_ne hp hp3 hj
theorem mve_5 {s : Nat → Int} {p g : Int} {d : Nat} (hp : 0 ≤ p) (hp3 : p ≤ 3) : mve s p g d 5 = if atS s (pg s p 0 + g * dx (d : Int)) (pg s p 1 + g * dy (d : Int)) (pg s p 2) = true then s 5 + 1 else s 5 := by
  unfold mve
  split
  · exact (up1_ne (by omega)).trans (up1_eq _ _ _)
  · exact mvd_ne hp hp3 (Or.inl (by decide))
theorem mve_pg {s : Nat → Int} {p g : Int} {d : Nat} (hp : 0 ≤ p) {q k : Int} (hq : 0 ≤ q) (hk : 0 ≤ k ∧ k ≤ 6) : pg (mve s p g d) q k = if (q = p ∧ k = 6) ∧ atS s (pg s p 0 + g * dx (d : Int)) (pg s p 1 + g * dy (d : Int)) (pg s p 2) = true then s 5 + 1 else pg (mvd s p g d) q k := by
  unfold mve
  by_cases c1 : atS s (pg s p 0 + g * dx (d : Int)) (pg s p 1 + g * dy (d : Int)) (pg s p 2) = true
  · rw [if_pos c1, mvf_pg hp hq hk]
    by_cases c2 : q = p ∧ k = 6
    · rw [if_pos c2, if_pos ⟨c2, c1⟩]
    · rw [if_neg c2, if_neg (fun h => c2 h.1)]
  · rw [if_neg c1, if_neg (fun h => c1 h.2)]
theorem Inv_mv {s : Nat → Int} (hI : Inv s) {p : Nat} (hps : (p : Int) < s 2) {d : Nat} (hd : d < 4) (hg : gB s p d ≠ 0) : Inv (mvSt s p (gB s p d) d) := by
  obtain ⟨hz, hc, hW, hp, hb, hwp, hds, hrk, hwy⟩ := hI
  have hpk := hp p (by omega) hps
  obtain ⟨l1, l2, l3, l4, l5, l6, l7, l8, l9⟩ := gB_ld hz hpk hd hg
  have hcn := hc
  obtain ⟨c1, c2, c3, c4, c5, c6, c7⟩ := hc
  have hov := ov_2 hcn l8
  have hp3 : (p : Int) ≤ 3 := by omega
  have hp0 : (0 : Int) ≤ p := by omega
  obtain ⟨g, hg9⟩ : ∃ g, gB s p d = g := ⟨_, rfl⟩
  rw [hg9] at l2 l3 l4 ⊢
  have e0 : mve s p g d 0 = s 0 := mve_ne hp0 hp3 (Or.inl (by decide)) (by decide)
  have e1 : mve s p g d 1 = s 1 := mve_ne hp0 hp3 (Or.inl (by decide)) (by decide)
  have e2 : mve s p g d 2 = s 2 := mve_ne hp0 hp3 (Or.inl (by decide)) (by decide)
  have e3 : mve s p g d 3 = s 3 := mve_ne hp0 hp3 (Or.inl (by decide)) (by decide)
  have e4 : mve s p g d 4 = s 4 := mve_ne hp0 hp3 (Or.inl (by decide)) (by decide)
  have e6 : mve s p g d 6 = s 6 := mve_ne hp0 hp3 (Or.inl (by decide)) (by decide)
  have e7 : mve s p g d 7 = s 7 := mve_ne hp0 hp3 (Or.inl (by decide)) (by decide)
  have e5 := mve_5 (s := s) (g := g) (d := d) hp0 hp3
  have hw : ∀ j, 120 ≤ j → mve s p g d j = s j := fun j hj => mve_ne hp0 hp3 (Or.inr (by omega)) (by omega)
  have e55 : s 5 ≤ mve s p g d 5 ∧ mve s p g d 5 ≤ s 5 + 1 := by
    rw [e5]
    split <;> omega
  rw [← l3, ← l4] at e5
  have hpg : ∀ q k : Int, 0 ≤ q → 0 ≤ k ∧ k ≤ 6 → q ≠ p → pg (mve s p g d) q k = pg s q k := fun q k h1 h2 h3 => by
    rw [mve_pg hp0 h1 h2, if_neg (fun x => h3 x.1.1), mvd_q hp0 h1 h2 h3]
  obtain ⟨f0, f1, f2, f3, f4, f5, f6⟩ := mvd_p (s := s) (p := p) (g := g) (d := d) hp0
  have g0 : pg (mve s p g d) p 0 = xo (ldN s p d) := by rw [mve_pg hp0 hp0 (by decide), if_neg (by omega), f0, l3]
  have g1 : pg (mve s p g d) p 1 = yo (ldN s p d) := by rw [mve_pg hp0 hp0 (by decide), if_neg (by omega), f1, l4]
  have g2 : pg (mve s p g d) p 2 = pg s p 2 := by rw [mve_pg hp0 hp0 (by decide), if_neg (by omega), f2]
  have g3 : pg (mve s p g d) p 3 = pg s p 3 := by rw [mve_pg hp0 hp0 (by decide), if_neg (by omega), f3]
  have g4 : pg (mve s p g d) p 4 = pg s p 4 + 1 := by rw [mve_pg hp0 hp0 (by decide), if_neg (by omega), f4]
  have g5 : pg (mve s p g d) p 5 = (d : Int) := by rw [mve_pg hp0 hp0 (by decide), if_neg (by omega), f5]
  have g6 : pg (mve s p g d) p 6 = if atS s (xo (ldN s p d)) (yo (ldN s p d)) (pg s p 2) = true then s 5 + 1 else 0 := by
    rw [mve_pg hp0 hp0 (by decide), ← l3, ← l4, f6]
    by_cases q : atS s (xo (ldN s p d)) (yo (ldN s p d)) (pg s p 2) = true
    · rw [if_pos ⟨⟨rfl, rfl⟩, q⟩, if_pos q]
    · rw [if_neg (fun x => q x.2), if_neg q]
      have := hpk.2.2.2.2.2.1
      omega
  have hxl := xy_lt l1
  have hcel : celN (mve s p g d) p = ldN s p d := by
    unfold celN
    rw [g0, g1]
    exact hxl.2.2.2.2.1
  obtain ⟨k1, k2, k3, k4, k5, k6, k7⟩ := hpk
  have heO : etO (mve s p g d) := by
    refine ⟨by omega, by omega, fun q q0 q1 => ?_⟩
    by_cases qp : q = p
    · rw [qp, g6]
      split <;> omega
    · rw [hpg q 6 q0 (by decide) qp]
      have := (hp q q0 (by omega)).2.2.2.2.2.1
      omega
  have hn := ntN_le heO (s 2).toNat 1 (by omega) (by decide)
  unfold mvSt
  have E0 : etS (mve s p g d) 0 = s 0 := (etS_ne (by decide) (by decide)).trans e0
  have E1 : etS (mve s p g d) 1 = s 1 := (etS_ne (by decide) (by decide)).trans e1
  have E2 : etS (mve s p g d) 2 = s 2 := (etS_ne (by decide) (by decide)).trans e2
  have E3 : etS (mve s p g d) 3 = s 3 := (etS_ne (by decide) (by decide)).trans e3
  have E5 : etS (mve s p g d) 5 = mve s p g d 5 := etS_ne (by decide) (by decide)
  have E6 : etS (mve s p g d) 6 = s 6 := (etS_ne (by decide) (by decide)).trans e6
  have E4 : etS (mve s p g d) 4 = s 4 + 1 := (etS_4 _).trans (by rw [e4])
  have E7 : etS (mve s p g d) 7 = ntN (mve s p g d) (s 2).toNat 1 := (etS_7 _).trans (by rw [e2])
  have Ew : ∀ j, 120 ≤ j → etS (mve s p g d) j = s j := fun j hj => (etS_ne (by omega) (by omega)).trans (hw j hj)
  have EP : ∀ q k : Int, 0 ≤ q → 0 ≤ k → pg (etS (mve s p g d)) q k = pg (mve s p g d) q k := fun q k h1 h2 => etS_pg _ h1 h2
  have rank : ∀ q : Int, 0 ≤ q → q < s 2 → q ≠ p → pg (mve s p g d) q 6 = pg s q 6 := fun q h1 h2 h3 => hpg q 6 h1 (by decide) h3
  refine ⟨?_, ?_, fun j h1 h2 => ?_, fun q q0 q1 => ?_, ?_, fun x y x0 x1 y0 y1 hpl => ?_, fun q1 q2 a0 a1 b0 b1 hq h1 h2 => ?_, fun q1 q2 a0 a1 b0 b1 hq h1 => ?_, fun q q0 q1 => ?_⟩
  · unfold szO
    rw [E0, E1]
    exact hz
  · unfold cnO
    rw [E2, E3, E4, E5, E6, E7]
    exact ⟨c1, c2, by omega, by omega, by omega, by omega, fun _ => by omega⟩
  · rw [Ew j (by omega)]
    exact hW j h1 h2
  · rw [E2] at q1
    unfold pnO
    rw [EP q 0 q0 (by decide), EP q 1 q0 (by decide), EP q 2 q0 (by decide), EP q 3 q0 (by decide), EP q 4 q0 (by decide), EP q 5 q0 (by decide), EP q 6 q0 (by decide), isCl_cg E0 E1, atS_cg E0 E1, E4, E5]
    by_cases qp : q = p
    · rw [qp, g0, g1, g2, g3, g4, g5, g6, e5]
      refine ⟨l5, k2, k3, by omega, by omega, ?_, fun h => ?_⟩
      · split <;> omega
      · by_cases c : atS s (xo (ldN s p d)) (yo (ldN s p d)) (pg s p 2) = true
        · exact c
        · rw [if_neg c] at h
          omega
    · rw [hpg q 0 q0 (by decide) qp, hpg q 1 q0 (by decide) qp, hpg q 2 q0 (by decide) qp, hpg q 3 q0 (by decide) qp, hpg q 4 q0 (by decide) qp, hpg q 5 q0 (by decide) qp, hpg q 6 q0 (by decide) qp]
      obtain ⟨j1, j2, j3, j4, j5, j6, j7⟩ := hp q q0 q1
      exact ⟨j1, j2, j3, by omega, j5, by omega, j7⟩
  · refine bas_cg E0 E1 E2 E6 c2.2 (fun b k b0 b1 z0 z1 => ?_) hb
    rw [etS_bg _ b0 z0]
    exact mve_ne hp0 hp3 (Or.inr (by omega)) (by omega)
  · rw [isPl_cg E0 E1] at hpl
    rw [Ew _ (by omega)]
    exact hwp x y x0 x1 y0 y1 hpl
  · rw [E2] at a1 b1
    rw [EP _ _ a0 (by decide)] at h1
    rw [EP _ _ b0 (by decide)] at h2
    rw [EP _ _ a0 (by decide), EP _ _ a0 (by decide), EP _ _ b0 (by decide), EP _ _ b0 (by decide)]
    have hfree := pI_sp c1.1 (xo (ldN s p d)) (yo (ldN s p d))
    have hno : ∀ q : Int, 0 ≤ q → q < s 2 → ¬ atP s q (xo (ldN s p d)) (yo (ldN s p d)) := by
      rcases hfree with h | h
      · exact h.2
      · exact absurd h.1 (by omega)
    by_cases p1 : q1 = p
    · have p2 : q2 ≠ p := fun h => hq (p1.trans h.symm)
      rw [rank q2 b0 b1 p2] at h2
      rw [p1, g0, g1, hpg q2 0 b0 (by decide) p2, hpg q2 1 b0 (by decide) p2]
      intro h
      exact hno q2 b0 b1 ⟨h2, h.1.symm, h.2.symm⟩
    · rw [rank q1 a0 a1 p1] at h1
      rw [hpg q1 0 a0 (by decide) p1, hpg q1 1 a0 (by decide) p1]
      by_cases p2 : q2 = p
      · rw [p2, g0, g1]
        intro h
        exact hno q1 a0 a1 ⟨h1, h.1, h.2⟩
      · rw [rank q2 b0 b1 p2] at h2
        rw [hpg q2 0 b0 (by decide) p2, hpg q2 1 b0 (by decide) p2]
        exact hds q1 q2 a0 a1 b0 b1 hq h1 h2
  · rw [E2] at a1 b1
    rw [EP _ _ a0 (by decide)] at h1 ⊢
    rw [EP _ _ b0 (by decide)]
    by_cases p1 : q1 = p
    · have p2 : q2 ≠ p := fun h => hq (p1.trans h.symm)
      have r2 := (hp q2 b0 b1).2.2.2.2.2.1
      rw [p1, g6] at h1 ⊢
      rw [rank q2 b0 b1 p2]
      by_cases c : atS s (xo (ldN s p d)) (yo (ldN s p d)) (pg s p 2) = true
      · rw [if_pos c]
        omega
      · rw [if_neg c] at h1
        omega
    · have r1 := (hp q1 a0 a1).2.2.2.2.2.1
      rw [rank q1 a0 a1 p1] at h1 ⊢
      by_cases p2 : q2 = p
      · rw [p2, g6]
        split <;> omega
      · rw [rank q2 b0 b1 p2]
        exact hrk q1 q2 a0 a1 b0 b1 hq h1
  · rw [E2] at q1
    rw [dst_et _ q0]
    by_cases qp : q = p
    · rw [qp]
      unfold dst
      split
      · decide
      · rw [hcel, g2, dl_cg e0 e1 hw]
        unfold dl
        rw [dlt_nn]
        have hold := hwy p hp0 hps
        rw [dst_dl hz ⟨k1, k2, k3, k4, k5, k6, k7⟩] at hold
        unfold dl at hold
        rw [dlt_nn] at hold
        obtain ⟨m, hm⟩ := hold
        obtain ⟨n, hn⟩ := l9
        exact ⟨m + n, Pth_app hm hn⟩
    · rw [dst_cg e0 e1 hw (hpg q 0 q0 (by decide) qp) (hpg q 1 q0 (by decide) qp) (hpg q 2 q0 (by decide) qp) (by rw [rank q q0 q1 qp])]
      exact hwy q q0 q1
end MVS
