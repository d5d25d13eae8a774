section MWAY
def celN (s : Nat → Int) (p : Int) : Nat := (9 * pg s p 1 + pg s p 0).toNat
noncomputable def dst (s : Nat → Int) (p : Int) : Int := if 0 < pg s p 6 then 0 else dl s (pg s p 2) (celN s p)
def cnO (s : Nat → Int) : Prop := (0 ≤ s 2 ∧ s 2 ≤ 4) ∧ (0 ≤ s 6 ∧ s 6 ≤ 12) ∧ (0 ≤ s 3 ∧ s 3 ≤ 40 + s 4) ∧ (0 ≤ s 4 ∧ s 4 ≤ 200) ∧ (0 ≤ s 5 ∧ s 5 ≤ s 4) ∧ (0 ≤ s 7 ∧ s 7 ≤ 3) ∧ (0 < s 2 → s 7 < s 2)
def pnO (s : Nat → Int) (p : Int) : Prop := isCl s (pg s p 0) (pg s p 1) = true ∧ (0 ≤ pg s p 2 ∧ pg s p 2 ≤ 3) ∧ (0 ≤ pg s p 3 ∧ pg s p 3 ≤ 20) ∧ (0 ≤ pg s p 4 ∧ pg s p 4 ≤ s 4) ∧ (-1 ≤ pg s p 5 ∧ pg s p 5 ≤ 3) ∧ (0 ≤ pg s p 6 ∧ pg s p 6 ≤ s 5) ∧ (0 < pg s p 6 → atS s (pg s p 0) (pg s p 1) (pg s p 2) = true)
def bnO (s : Nat → Int) (b : Int) : Prop := (0 ≤ bg s b 0 ∧ bg s b 0 < s 2) ∧ (0 ≤ bg s b 1 ∧ bg s b 1 ≤ 3) ∧ (bg s b 1 = 2 → (0 ≤ bg s b 2 ∧ bg s b 2 ≤ 3) ∧ (2 ≤ bg s b 3 ∧ bg s b 3 ≤ 5) ∧ 0 ≤ bg s b 4 ∧ bg s b 4 < bg s b 3) ∧ (bg s b 1 = 3 → (0 ≤ bg s b 2 ∧ bg s b 2 ≤ 3) ∧ isCl s (bg s b 3) (bg s b 4) = true ∧ isCl s (bg s b 5) (bg s b 6) = true)
def wpO (s : Nat → Int) : Prop := ∀ x y : Int, 0 ≤ x → x < 8 → 0 ≤ y → y < 8 → isPl s x y = false → s (120 + 8 * y + x).toNat = 0
def dsO (s : Nat → Int) : Prop := ∀ p q : Int, 0 ≤ p → p < s 2 → 0 ≤ q → q < s 2 → p ≠ q → pg s p 6 = 0 → pg s q 6 = 0 → ¬ (pg s p 0 = pg s q 0 ∧ pg s p 1 = pg s q 1)
def rkO (s : Nat → Int) : Prop := ∀ p q : Int, 0 ≤ p → p < s 2 → 0 ≤ q → q < s 2 → p ≠ q → 0 < pg s p 6 → pg s p 6 ≠ pg s q 6
def wyO (s : Nat → Int) : Prop := ∀ p : Int, 0 ≤ p → p < s 2 → dst s p ≠ -1
def pasO (s : Nat → Int) : Prop := ∀ p : Int, 0 ≤ p → p < s 2 → pnO s p
def basO (s : Nat → Int) : Prop := ∀ b : Int, 0 ≤ b → b < s 6 → bnO s b
def Inv (s : Nat → Int) : Prop := szO s ∧ cnO s ∧ wlO s ∧ pasO s ∧ basO s ∧ wpO s ∧ dsO s ∧ rkO s ∧ wyO s
/-- a memory that holds a row -/
theorem MS_mk (s : Nat → Int) : MS (fun _ => (fun j => zi (s j), fun _ => 0)) s := fun _ => rfl
theorem dl_le {s : Nat → Int} (hz : szO s) (hW : wlO s) {side : Int} (hs1 : -1000 ≤ side) (hs2 : side < 1000) {c : Nat} (hc : c < 81) : -1 ≤ dl s side c ∧ dl s side c ≤ 80 := by
  obtain ⟨m2, t, h1, h2, h3, h4, h5⟩ := m_lays 1000 (Nat.le_refl _) (MS_mk s) hz hW hs1 hs2
  have h6 := BI_all Sd_lt (op_hg hz) h3 hc
  have h7 : t.1 c = dl s side c := h6
  rw [← h7]
  refine ⟨(h2.2.2.2.1 c).1, ?_⟩
  by_cases q : t.1 c = -1
  · omega
  · obtain ⟨k, q1, q2⟩ := h3.2.1 c hc q
    have q3 := h3.2.2.2.2.2.2.2.2.2.2 k q1
    have q4 : t.2.2 ≤ 81 := by rw [h3.2.2.1]; exact cnt_le _ _
    rw [q2] at q3
    omega
theorem cel_lt {s : Nat → Int} (hz : szO s) {p : Int} (hp : pnO s p) : celN s p < 81 ∧ xo (celN s p) = pg s p 0 ∧ yo (celN s p) = pg s p 1 := by
  have h := cl_nat hz hp.1
  exact ⟨h.2.2.2.2.1, h.2.2.2.2.2.1, h.2.2.2.2.2.2⟩
theorem dst_le {s : Nat → Int} (hz : szO s) (hW : wlO s) {p : Int} (hp : pnO s p) : -1 ≤ dst s p ∧ dst s p ≤ 80 := by
  unfold dst
  split
  · omega
  · exact dl_le hz hW (by have := hp.2.1; omega) (by have := hp.2.1; omega) (cel_lt hz hp).1
theorem k_fin (fu : Nat) {mem : Mem} {s : Nat → Int} (hS : MS mem s) {p : Int} (h1 : 0 ≤ p) (h2 : p ≤ 3) (h3 : -1000 ≤ pg s p 6) (h4 : pg s p 6 < 1000) : K_X12_hasFinished fu (zi p) mem = some (zi (bi (decide (0 < pg s p 6)))) := by
  unfold K_X12_hasFinished
  simp (disch := omega) only [zi_lit, zl_lit, zi_add, zi_sub, zi_mul, zi_neg, zi_lt, zi_inj, zi_clamp, zl_of, gi_zi, bd_s, ltf, bi_0, bi_1, gb_bi, Int.reduceToNat, Int.reduceNeg, Int.toNat_natCast, k_of fu hS]
  by_cases c1 : 0 < pg s p 6 <;> simp [c1, bi]
theorem k_cellOf (fu : Nat) {mem : Mem} {s : Nat → Int} (hS : MS mem s) {p : Int} (h1 : 0 ≤ p) (h2 : p ≤ 3) : K_X12_cellOf fu (zi p) mem = some (zi (9 * pg s p 1 + pg s p 0)) := by
  unfold K_X12_cellOf
  simp (disch := omega) only [zi_lit, zl_lit, zi_add, zi_sub, zi_mul, zi_neg, zi_lt, zi_inj, zi_clamp, zl_of, gi_zi, bd_s, ltf, bi_0, bi_1, gb_bi, Int.reduceToNat, Int.reduceNeg, Int.toNat_natCast, k_of fu hS]
theorem m_dist (fu : Nat) (hfu : 1000 ≤ fu) {mem : Mem} {s : Nat → Int} (hS : MS mem s) (hz : szO s) (hW : wlO s) (hc : cnO s) {p : Int} (h1 : 0 ≤ p) (h2 : p < s 2) (hp : pnO s p) : ∃ mem2, K_X12_distanceOf fu (zi p) mem = some (zi (dst s p), mem2) ∧ Fr PB mem mem2 := by
  have hcl := cel_lt hz hp
  have hxy := cl_nat hz hp.1
  obtain ⟨p1, p2, p3, p4, p5, p6, p7⟩ := hp
  obtain ⟨⟨c1, c2⟩, c3, c4, c5, c6, c7⟩ := hc
  unfold K_X12_distanceOf dst
  simp (disch := omega) only [zi_lit, zl_lit, zi_add, zi_sub, zi_mul, zi_neg, zi_lt, zi_inj, zi_clamp, zl_of, gi_zi, bd_s, ltf, bi_0, bi_1, gb_bi, Int.reduceToNat, Int.reduceNeg, Int.toNat_natCast, k_fin fu hS, k_of fu hS]
  by_cases q : 0 < pg s p 6
  · rw [if_pos q, if_neg (by rw [decide_eq_true q]; decide)]
    exact ⟨mem, rfl, Fr_rf PB mem⟩
  · rw [if_neg q, if_pos (decide_eq_false q)]
    obtain ⟨m2, t, a1, a2, a3, a4, a5⟩ := m_lays fu hfu hS hz hW (side := pg s p 2) (by omega) (by omega)
    have hS2 := MS_fr a5 PB_2 hS
    rw [a1]
    have e1 : rd m2 7 (9 * pg s p 1 + pg s p 0).toNat = zi (dl s (pg s p 2) (celN s p)) := by
      have e2 := a2.1 _ hcl.1
      have e3 : t.1 (celN s p) = dl s (pg s p 2) (celN s p) := BI_all Sd_lt (op_hg hz) a3 hcl.1
      rw [e3] at e2
      exact e2
    simp (disch := omega) only [zi_lit, zl_lit, zi_add, zi_sub, zi_mul, zi_neg, zi_lt, zi_inj, zi_clamp, zl_of, gi_zi, bd_s, ltf, bi_0, bi_1, gb_bi, Int.reduceToNat, Int.reduceNeg, Int.toNat_natCast, k_cellOf fu hS2, e1]
    exact ⟨m2, rfl, a5⟩
def hwP (s : Nat → Int) : Prop := ∀ p : Int, 0 ≤ p → p < s 2 → dst s p ≠ -1
noncomputable def hwB (s : Nat → Int) : Bool := by
  classical
  exact decide (hwP s)
theorem hwB_t {s : Nat → Int} : hwB s = true ↔ hwP s := by
  unfold hwB
  simp
theorem hwB_f {s : Nat → Int} : hwB s = false ↔ ¬ hwP s := by
  unfold hwB
  simp
theorem m_haveWays4 (fu : Nat) (hfu : 1000 ≤ fu) {s : Nat → Int} (hz : szO s) (hW : wlO s) (hc : cnO s) (hp : pasO s) : ∀ (r n : Nat) (p : Int) (mem : Mem), p + r = s 2 → r + 1 < n → 0 ≤ p → MS mem s → (∀ q : Int, 0 ≤ q → q < p → dst s q ≠ -1) → ∃ mem2, K_X12_haveWays_4 fu n (zi 1) (zi p) mem = some (zi (bi (hwB s)), mem2) ∧ Fr PB mem mem2 := by
  have hc2 := hc
  obtain ⟨⟨c1, c2⟩, c3, c4, c5, c6, c7⟩ := hc2
  intro r
  induction r with
  | zero =>
    intro n p mem hpr hn hp0 hS hd
    obtain ⟨n, rfl⟩ : ∃ f, n = f + 1 := ⟨n - 1, by omega⟩
    rw [K_X12_haveWays_4]
    simp (disch := omega) only [zi_lit, zl_lit, zi_add, zi_sub, zi_mul, zi_neg, zi_lt, zi_inj, zi_clamp, zl_of, gi_zi, bd_s, ltf, bi_0, bi_1, gb_bi, Int.reduceToNat, Int.reduceNeg, Int.toNat_natCast, hS _]
    rw [if_neg (by omega), gb_zi _ (Or.inr rfl), show hwB s = true from hwB_t.mpr (fun q h1 h2 => hd q h1 (by omega))]
    exact ⟨mem, rfl, Fr_rf PB mem⟩
  | succ r ih =>
    intro n p mem hpr hn hp0 hS hd
    obtain ⟨n, rfl⟩ : ∃ f, n = f + 1 := ⟨n - 1, by omega⟩
    obtain ⟨m1, a1, a2⟩ := m_dist fu hfu hS hz hW hc hp0 (by omega) (hp p hp0 (by omega))
    have hle := dst_le hz hW (hp p hp0 (by omega))
    rw [K_X12_haveWays_4]
    simp (disch := omega) only [zi_lit, zl_lit, zi_add, zi_sub, zi_mul, zi_neg, zi_lt, zi_inj, zi_clamp, zl_of, gi_zi, bd_s, ltf, bi_0, bi_1, gb_bi, Int.reduceToNat, Int.reduceNeg, Int.toNat_natCast, hS _, a1]
    rw [if_pos (by omega), if_neg (by decide)]
    by_cases q : dst s p = -1
    · rw [if_pos q]
      obtain ⟨n, rfl⟩ : ∃ f, n = f + 1 := ⟨n - 1, by omega⟩
      rw [K_X12_haveWays_4]
      have hS1 := MS_fr a2 PB_2 hS
      simp (disch := omega) only [zi_lit, zl_lit, zi_add, zi_sub, zi_mul, zi_neg, zi_lt, zi_inj, zi_clamp, zl_of, gi_zi, bd_s, ltf, bi_0, bi_1, gb_bi, Int.reduceToNat, Int.reduceNeg, Int.toNat_natCast, hS1 _]
      rw [show hwB s = false from hwB_f.mpr (fun h => h p hp0 (by omega) q)]
      refine ⟨m1, ?_, a2⟩
      rw [gb_zi _ (Or.inl rfl)]
      split <;> rfl
    · rw [if_neg q]
      obtain ⟨mem2, b1, b2⟩ := ih n (p + 1) m1 (by omega) (by omega) (by omega) (MS_fr a2 PB_2 hS) (fun q1 h1 h2 => by
        by_cases q2 : q1 = p
        · rw [q2]
          exact q
        · exact hd q1 h1 (by omega))
      exact ⟨mem2, b1, Fr_tr a2 b2⟩
theorem m_haveWays (fu : Nat) (hfu : 1000 ≤ fu) {mem : Mem} {s : Nat → Int} (hS : MS mem s) (hz : szO s) (hW : wlO s) (hc : cnO s) (hp : pasO s) : ∃ mem2, K_X12_haveWays fu mem = some (zi (bi (hwB s)), mem2) ∧ Fr PB mem mem2 := by
  have c1 := hc.1
  exact m_haveWays4 fu hfu hz hW hc hp (s 2).toNat fu 0 mem (by omega) (by omega) (by omega) hS (fun q h1 h2 => by omega)
/-- a wall more -/
def sw (s : Nat → Int) (x y v : Int) : Nat → Int := fun j => if j = (120 + 8 * y + x).toNat then v else s j
theorem sw_lt {s : Nat → Int} {x y v : Int} (hx : 0 ≤ x) (hy : 0 ≤ y) {j : Nat} (hj : j < 120) : sw s x y v j = s j := if_neg (by omega)
theorem sw_pg {s : Nat → Int} {x y v : Int} (hx : 0 ≤ x) (hy : 0 ≤ y) {p k : Int} (hp : p ≤ 3) (hk : k ≤ 6) : pg (sw s x y v) p k = pg s p k := by
  unfold pg
  exact sw_lt hx hy (by omega)
theorem sw_bg {s : Nat → Int} {x y v : Int} (hx : 0 ≤ x) (hy : 0 ≤ y) {b k : Int} (hp : b ≤ 11) (hk : k ≤ 6) : bg (sw s x y v) b k = bg s b k := by
  unfold bg
  exact sw_lt hx hy (by omega)
theorem sw_sz {s : Nat → Int} {x y v : Int} (hx : 0 ≤ x) (hy : 0 ≤ y) (hz : szO s) : szO (sw s x y v) := by
  unfold szO
  rw [sw_lt hx hy (by decide), sw_lt hx hy (by decide)]
  exact hz
theorem sw_cn {s : Nat → Int} {x y v : Int} (hx : 0 ≤ x) (hy : 0 ≤ y) (hc : cnO s) : cnO (sw s x y v) := by
  unfold cnO
  rw [sw_lt hx hy (by decide), sw_lt hx hy (by decide), sw_lt hx hy (by decide), sw_lt hx hy (by decide), sw_lt hx hy (by decide), sw_lt hx hy (by decide)]
  exact hc
theorem sw_wl {s : Nat → Int} {x y v : Int} (hv : 0 ≤ v ∧ v ≤ 2) (hW : wlO s) : wlO (sw s x y v) := fun j h1 h2 => by
  unfold sw
  split
  · exact hv
  · exact hW j h1 h2
theorem sw_isPl {s : Nat → Int} {x y v : Int} (hx : 0 ≤ x) (hy : 0 ≤ y) (a b : Int) : isPl (sw s x y v) a b = isPl s a b := by
  unfold isPl
  rw [sw_lt hx hy (by decide), sw_lt hx hy (by decide)]
theorem sw_isCl {s : Nat → Int} {x y v : Int} (hx : 0 ≤ x) (hy : 0 ≤ y) (a b : Int) : isCl (sw s x y v) a b = isCl s a b := by
  unfold isCl
  rw [sw_lt hx hy (by decide), sw_lt hx hy (by decide)]
theorem sw_atS {s : Nat → Int} {x y v : Int} (hx : 0 ≤ x) (hy : 0 ≤ y) (a b d : Int) : atS (sw s x y v) a b d = atS s a b d := by
  unfold atS
  rw [sw_lt hx hy (by decide), sw_lt hx hy (by decide)]
theorem sw_pn {s : Nat → Int} {x y v : Int} (hx : 0 ≤ x) (hy : 0 ≤ y) {p : Int} (h2 : p ≤ 3) (hp : pnO s p) : pnO (sw s x y v) p := by
  unfold pnO
  rw [sw_pg hx hy h2 (by decide), sw_pg hx hy h2 (by decide), sw_pg hx hy h2 (by decide), sw_pg hx hy h2 (by decide), sw_pg hx hy h2 (by decide), sw_pg hx hy h2 (by decide), sw_pg hx hy h2 (by decide), sw_isCl hx hy, sw_atS hx hy, sw_lt hx hy (by decide), sw_lt hx hy (by decide)]
  exact hp
theorem sw_pas {s : Nat → Int} {x y v : Int} (hx : 0 ≤ x) (hy : 0 ≤ y) (hc : cnO s) (hp : pasO s) : pasO (sw s x y v) := fun p h1 h2 => by
  rw [sw_lt hx hy (by decide)] at h2
  have := hc.1
  exact sw_pn hx hy (by omega) (hp p h1 h2)
theorem MS_sw {mem : Mem} {s : Nat → Int} (hS : MS mem s) (x y v : Int) : MS (mw mem 2 (120 + 8 * y + x).toNat (zi v)) (sw s x y v) := fun j => by
  rw [rd_mw]
  unfold sw
  by_cases q : j = (120 + 8 * y + x).toNat
  · rw [if_pos ⟨rfl, q⟩, if_pos q]
  · rw [if_neg (fun h => q h.2), if_neg q]
    exact hS j
def hrB (s : Nat → Int) (x y w : Int) : Bool := decide (wg s x y = 0) && (if w = 1 then decide (wg s (x - 1) y ≠ 1) && decide (wg s (x + 1) y ≠ 1) else decide (wg s x (y - 1) ≠ 2) && decide (wg s x (y + 1) ≠ 2))
theorem k_hasRoom (fu : Nat) {mem : Mem} {s : Nat → Int} (hS : MS mem s) (hz : szO s) (hW : wlO s) {x y w : Int} (h1 : -100 ≤ x) (h2 : x ≤ 100) (h3 : -100 ≤ y) (h4 : y ≤ 100) (h5 : w = 1 ∨ w = 2) : K_X12_hasRoom fu (zi x) (zi y) (zi w) mem = some (zi (bi (hrB s x y w))) := by
  have w0 := wg_le hW hz x y
  have w1 := wg_le hW hz (x - 1) y
  have w2 := wg_le hW hz (x + 1) y
  have w3 := wg_le hW hz x (y - 1)
  have w4 := wg_le hW hz x (y + 1)
  unfold K_X12_hasRoom K_X12_hasRoom_44 hrB
  simp (disch := omega) only [zi_lit, zl_lit, zi_add, zi_sub, zi_mul, zi_neg, zi_lt, zi_inj, zi_clamp, zl_of, gi_zi, bd_s, ltf, bi_0, bi_1, gb_bi, Int.reduceToNat, Int.reduceNeg, Int.toNat_natCast, k_wall fu hS hz]
  by_cases c0 : wg s x y = 0
  · rcases h5 with rfl | rfl
    · by_cases c1 : wg s (x - 1) y = 1 <;> by_cases c2 : wg s (x + 1) y = 1 <;> simp [c0, c1, c2, bi]
    · by_cases c1 : wg s x (y - 1) = 2 <;> by_cases c2 : wg s x (y + 1) = 2 <;> simp [c0, c1, c2, bi]
  · simp [c0, bi]
noncomputable def adB (s : Nat → Int) (x y w : Int) : Bool := hrB s x y w && hwB (sw s x y w)
theorem hr_0 {s : Nat → Int} {x y w : Int} (hp : isPl s x y = true) (h : hrB s x y w = true) : s (120 + 8 * y + x).toNat = 0 := by
  unfold hrB at h
  rw [Bool.and_eq_true, decide_eq_true_iff] at h
  have h1 := h.1
  unfold wg at h1
  rw [if_pos hp] at h1
  exact h1
/-- a wall is tried: the row comes back as it was -/
theorem Fr_try {P : Nat → Nat → Bool} {m1 m2 : Mem} {j : Nat} {v : Int32} {v0 : Int32} (h0 : rd m1 2 j = v0) (hf : Fr P (mw m1 2 j v) m2) (hP : ∀ i, P 2 i = false) : Fr P m1 (mw m2 2 j v0) := by
  refine ⟨fun k i hk => ?_, fun k i hk => ?_⟩
  · rw [rd_mw]
    by_cases q : k = 2 ∧ i = j
    · rw [if_pos q, q.1, q.2, h0]
    · rw [if_neg q, hf.1 k i hk, rd_mw, if_neg q]
  · rw [rl_mw, hf.2 k i hk, rl_mw]
theorem m_admits (fu : Nat) (hfu : 1000 ≤ fu) {mem : Mem} {s : Nat → Int} (hS : MS mem s) (hz : szO s) (hW : wlO s) (hc : cnO s) (hp : pasO s) {x y w : Int} (hpl : isPl s x y = true) (h5 : w = 1 ∨ w = 2) : ∃ mem2, K_X12_admits fu (zi x) (zi y) (zi w) mem = some (zi (bi (adB s x y w)), mem2) ∧ Fr PB mem mem2 := by
  have hpl2 := isPl_iff.mp hpl
  have hz2 := hz
  obtain ⟨⟨hw1, hw2⟩, hh1, hh2⟩ := hz2
  obtain ⟨⟨x1, x2⟩, y1, y2⟩ := hpl2
  unfold K_X12_admits adB
  simp (disch := omega) only [zi_lit, zl_lit, zi_add, zi_sub, zi_mul, zi_neg, zi_lt, zi_inj, zi_clamp, zl_of, gi_zi, bd_s, ltf, bi_0, bi_1, gb_bi, Int.reduceToNat, Int.reduceNeg, Int.toNat_natCast, k_hasRoom fu hS hz hW (x := x) (y := y) (w := w) (by omega) (by omega) (by omega) (by omega) h5]
  cases hr : hrB s x y w with
  | false =>
    rw [if_pos rfl]
    exact ⟨mem, rfl, Fr_rf PB mem⟩
  | true =>
    rw [if_neg (by decide), Bool.true_and]
    obtain ⟨m2, a1, a2⟩ := m_haveWays fu hfu (MS_sw hS x y w) (sw_sz x1 y1 hz) (sw_wl (by omega) hW) (sw_cn x1 y1 hc) (sw_pas x1 y1 hc hp)
    simp (disch := omega) only [zi_lit, zl_lit, zi_add, zi_sub, zi_mul, zi_neg, zi_lt, zi_inj, zi_clamp, zl_of, gi_zi, bd_s, ltf, bi_0, bi_1, gb_bi, Int.reduceToNat, Int.reduceNeg, Int.toNat_natCast, a1]
    refine ⟨_, rfl, Fr_try ?_ a2 PB_2⟩
    rw [hS, hr_0 hpl hr]
theorem m_behind (fu : Nat) (hfu : 1000 ≤ fu) {mem : Mem} {s : Nat → Int} (hS : MS mem s) (hz : szO s) (hW : wlO s) (hc : cnO s) {p : Int} (h1 : 0 ≤ p) (h2 : p < s 2) (hp : pnO s p) {x y w : Int} (hpl : isPl s x y = true) (h5 : w = 1 ∨ w = 2) (h0 : s (120 + 8 * y + x).toNat = 0) : ∃ mem2, K_X12_behind fu (zi p) (zi x) (zi y) (zi w) mem = some (zi (dst (sw s x y w) p), mem2) ∧ Fr PB mem mem2 := by
  have hpl2 := isPl_iff.mp hpl
  have hz2 := hz
  obtain ⟨⟨hw1, hw2⟩, hh1, hh2⟩ := hz2
  obtain ⟨⟨x1, x2⟩, y1, y2⟩ := hpl2
  have c1 := hc.1
  unfold K_X12_behind
  simp (disch := omega) only [zi_lit, zl_lit, zi_add, zi_sub, zi_mul, zi_neg, zi_lt, zi_inj, zi_clamp, zl_of, gi_zi, bd_s, ltf, bi_0, bi_1, gb_bi, Int.reduceToNat, Int.reduceNeg, Int.toNat_natCast]
  obtain ⟨m2, a1, a2⟩ := m_dist fu hfu (MS_sw hS x y w) (sw_sz x1 y1 hz) (sw_wl (by omega) hW) (sw_cn x1 y1 hc) (p := p) h1 (by rw [sw_lt x1 y1 (by decide)]; exact h2) (sw_pn x1 y1 (by omega) hp)
  simp (disch := omega) only [zi_lit, zl_lit, zi_add, zi_sub, zi_mul, zi_neg, zi_lt, zi_inj, zi_clamp, zl_of, gi_zi, bd_s, ltf, bi_0, bi_1, gb_bi, Int.reduceToNat, Int.reduceNeg, Int.toNat_natCast, a1]
  refine ⟨_, rfl, Fr_try ?_ a2 PB_2⟩
  rw [hS, h0]
end MWAY
