section CSCAN
def sX {σ : Type} (f : Int → Int → σ → σ) (y : Int) : Nat → Int → σ → σ
  | 0, _, b => b
  | n + 1, x, b => sX f y n (x + 1) (f y x b)
def sY {σ : Type} (f : Int → Int → σ → σ) (W : Nat) : Nat → Int → σ → σ
  | 0, _, b => b
  | n + 1, y, b => sY f W n (y + 1) (sX f y W 0 b)
theorem sX_rel {σ τ : Type} {f : Int → Int → σ → σ} {g : Int → Int → τ → τ} {R : σ → τ → Prop} {y : Int} {W : Int} (h : ∀ x a b, 0 ≤ x → x < W → R a b → R (f y x a) (g y x b)) : ∀ (n : Nat) (x : Int) (a : σ) (b : τ), 0 ≤ x → x + n ≤ W → R a b → R (sX f y n x a) (sX g y n x b) := by
  intro n
  induction n with
  | zero => exact fun x a b _ _ hR => hR
  | succ n ih => exact fun x a b h1 h2 hR => ih (x + 1) _ _ (by omega) (by omega) (h x a b h1 (by omega) hR)
theorem sY_rel {σ τ : Type} {f : Int → Int → σ → σ} {g : Int → Int → τ → τ} {R : σ → τ → Prop} {W : Nat} {H : Int} (h : ∀ (y x : Int) (a : σ) (b : τ), 0 ≤ y → y < H → 0 ≤ x → x < (W : Int) → R a b → R (f y x a) (g y x b)) : ∀ (n : Nat) (y : Int) (a : σ) (b : τ), 0 ≤ y → y + n ≤ H → R a b → R (sY f W n y a) (sY g W n y b) := by
  intro n
  induction n with
  | zero => exact fun y a b _ _ hR => hR
  | succ n ih => exact fun y a b h1 h2 hR => ih (y + 1) _ _ (by omega) (by omega) (sX_rel (W := W) (fun x a b g1 g2 g3 => h y x a b h1 (by omega) g1 g2 g3) W 0 a b (by omega) (by omega) hR)
noncomputable def fA (s : Nat → Int) (y x : Int) (n : Int) : Int := n + bi (adB s x y 1) + bi (adB s x y 2)
noncomputable def adN (s : Nat → Int) : Int := sY (fA s) (s 0 - 1).toNat (s 1 - 1).toNat 0 0
theorem c_ca25 (fu r : Nat) (hfu : 1000 ≤ fu) {s : Nat → Int} (hz : szO s) (hc : cnO s) (hW : wlO s) (hp : pasO s) (hwy : wyO s) (k9 : Int32 → Int32 → Mem → Option (Int32 × Mem)) {y : Int} (hy : 0 ≤ y ∧ y < s 1 - 1) : ∀ (q n : Nat) (x cnt : Int) (mem : Mem), x + q = s 0 - 1 → q < n → 0 ≤ x → PLI mem r s → ∃ mem2, K_X5_countAdmitted_25 fu r k9 n (zi cnt) (zi y) (zi x) mem = k9 (zi (sX (fA s) y q x cnt)) (zi (y + 1)) mem2 ∧ PLI mem2 r s ∧ Fr (PA r) mem mem2 := by
  have hz2 := hz
  obtain ⟨⟨hw1, hw2⟩, hh1, hh2⟩ := hz2
  intro q
  induction q with
  | zero =>
    intro n x cnt mem hx hn hx0 hI
    obtain ⟨n, rfl⟩ : ∃ f, n = f + 1 := ⟨n - 1, by omega⟩
    rw [K_X5_countAdmitted_25]
    simp (disch := omega) only [zi_lit, zl_lit, zi_add, zi_sub, zi_mul, zi_neg, zi_lt, zi_inj, zi_clamp, zl_of, gi_zi, bd_s, ltf, bi_0, bi_1, gb_bi, Int.reduceToNat, Int.reduceNeg, Int.toNat_natCast, hI.1.1]
    rw [if_neg (by omega)]
    exact ⟨mem, rfl, hI, Fr_rf _ mem⟩
  | succ q ih =>
    intro n x cnt mem hx hn hx0 hI
    obtain ⟨n, rfl⟩ : ∃ f, n = f + 1 := ⟨n - 1, by omega⟩
    have hpl : isPl s x y = true := isPl_iff.mpr ⟨⟨hx0, by omega⟩, hy.1, by omega⟩
    obtain ⟨m1, a1, a2, a3⟩ := c_admits fu r hfu hz hc hW hp hwy hI (x := x) (y := y) (w := 0) (by omega) (by omega) (by omega) (by omega) (Or.inl rfl)
    obtain ⟨m2, b1, b2, b3⟩ := c_admits fu r hfu hz hc hW hp hwy a2 (x := x) (y := y) (w := 1) (by omega) (by omega) (by omega) (by omega) (Or.inr rfl)
    obtain ⟨mem2, d1, d2, d3⟩ := ih n (x + 1) (fA s y x cnt) m2 (by omega) (by omega) (by omega) b2
    refine ⟨mem2, ?_, d2, Fr_tr (Fr_tr a3 b3) d3⟩
    rw [hpl, Bool.true_and] at a1 b1
    rw [K_X5_countAdmitted_25]
    unfold K_X5_countAdmitted_57
    simp (disch := omega) only [zi_lit, zl_lit, zi_add, zi_sub, zi_mul, zi_neg, zi_lt, zi_inj, zi_clamp, zl_of, gi_zi, bd_s, ltf, bi_0, bi_1, gb_bi, Int.reduceToNat, Int.reduceNeg, Int.toNat_natCast, hI.1.1, a1, b1]
    rw [if_pos (by omega)]
    show _ = k9 (zi (sX (fA s) y q (x + 1) (fA s y x cnt))) (zi (y + 1)) mem2
    rw [← d1]
    unfold fA
    rw [show (0 : Int) + 1 = 1 from rfl, show (1 : Int) + 1 = 2 from rfl]
    cases adB s x y 1 <;> cases adB s x y 2 <;> rfl
theorem c_ca9 (fu r : Nat) (hfu : 1000 ≤ fu) {s : Nat → Int} (hz : szO s) (hc : cnO s) (hW : wlO s) (hp : pasO s) (hwy : wyO s) : ∀ (q n : Nat) (y cnt : Int) (mem : Mem), y + q = s 1 - 1 → q < n → 0 ≤ y → PLI mem r s → ∃ mem2, K_X5_countAdmitted_9 fu r n (zi cnt) (zi y) mem = some (zi (sY (fA s) (s 0 - 1).toNat q y cnt), mem2) ∧ PLI mem2 r s ∧ Fr (PA r) mem mem2 := by
  have hz2 := hz
  obtain ⟨⟨hw1, hw2⟩, hh1, hh2⟩ := hz2
  intro q
  induction q with
  | zero =>
    intro n y cnt mem hx hn hx0 hI
    obtain ⟨n, rfl⟩ : ∃ f, n = f + 1 := ⟨n - 1, by omega⟩
    rw [K_X5_countAdmitted_9]
    simp (disch := omega) only [zi_lit, zl_lit, zi_add, zi_sub, zi_mul, zi_neg, zi_lt, zi_inj, zi_clamp, zl_of, gi_zi, bd_s, ltf, bi_0, bi_1, gb_bi, Int.reduceToNat, Int.reduceNeg, Int.toNat_natCast, hI.1.2.1]
    rw [if_neg (by omega)]
    exact ⟨mem, rfl, hI, Fr_rf _ mem⟩
  | succ q ih =>
    intro n y cnt mem hx hn hx0 hI
    obtain ⟨n, rfl⟩ : ∃ f, n = f + 1 := ⟨n - 1, by omega⟩
    rw [K_X5_countAdmitted_9]
    simp (disch := omega) only [zi_lit, zl_lit, zi_add, zi_sub, zi_mul, zi_neg, zi_lt, zi_inj, zi_clamp, zl_of, gi_zi, bd_s, ltf, bi_0, bi_1, gb_bi, Int.reduceToNat, Int.reduceNeg, Int.toNat_natCast, hI.1.2.1]
    rw [if_pos (by omega)]
    obtain ⟨m1, a1, a2, a3⟩ := c_ca25 fu r hfu hz hc hW hp hwy (K_X5_countAdmitted_9 fu r n) (y := y) ⟨hx0, by omega⟩ (s 0 - 1).toNat fu 0 cnt mem (by omega) (by omega) (by omega) hI
    obtain ⟨mem2, b1, b2, b3⟩ := ih n (y + 1) _ m1 (by omega) (by omega) (by omega) a2
    exact ⟨mem2, a1.trans b1, b2, Fr_tr a3 b3⟩
def PQ (r k j : Nat) : Bool := FT k j || PWl r k j
theorem PA_PQ {r k j : Nat} (h : PQ r k j = false) : PA r k j = false := by
  unfold PQ at h
  rw [Bool.or_eq_false_iff] at h
  unfold PA
  rw [h.2, Bool.or_false]
  have h5 := h.1
  unfold FT at h5
  rw [Bool.or_eq_false_iff, Bool.or_eq_false_iff] at h5
  exact h5.2.2
theorem FT_PQ {r k j : Nat} (h : PQ r k j = false) : FT k j = false := by
  unfold PQ at h
  rw [Bool.or_eq_false_iff] at h
  exact h.1
theorem c_countAdmitted (fu r : Nat) (hfu : 1000 ≤ fu) {s : Nat → Int} (hz : szO s) (hc : cnO s) (hW : wlO s) (hp : pasO s) (hwy : wyO s) {mem : Mem} (hR : RB mem r s) (hP : CPn mem r s) : ∃ mem2, K_X5_countAdmitted fu r mem = some (zi (adN s), mem2) ∧ PLI mem2 r s ∧ Fr (PQ r) mem mem2 := by
  have hz2 := hz
  obtain ⟨⟨hw1, hw2⟩, hh1, hh2⟩ := hz2
  obtain ⟨m1, a1, a2, a3⟩ := c_markTrails fu r hfu hz hc hW hp hwy hR hP
  have hI : PLI m1 r s := ⟨RB_fr a3 FT_lo hR, CPn_fr a3 (FT_lo _ _ (by unfold pRace; omega)) (fun i j _ => FT_lo _ _ (by unfold pPawn; omega)) hP, a2⟩
  obtain ⟨mem2, b1, b2, b3⟩ := c_ca9 fu r hfu hz hc hW hp hwy (s 1 - 1).toNat fu 0 0 m1 (by omega) (by omega) (by omega) hI
  unfold K_X5_countAdmitted
  rw [a1]
  exact ⟨mem2, b1, b2, Fr_tr (Fr_mono a3 (fun _ _ => FT_PQ)) (Fr_mono b3 (fun _ _ => PA_PQ))⟩
/-- the reference counts -/
theorem m_ad38 (fu : Nat) (hfu : 1000 ≤ fu) {s : Nat → Int} (hz : szO s) (hc : cnO s) (hW : wlO s) (hp : pasO s) (k9 : Int32 → Int32 → Mem → Option (Int32 × Mem)) (k23 : Int32 → Int32 → Int32 → Mem → Option (Int32 × Mem)) {x y cnt : Int} (hpl : isPl s x y = true) {mem : Mem} (hS : MS mem s) : ∃ mem2, K_X12_admissible_38 fu k9 k23 fu (zi cnt) (zi y) (zi x) (zi 1) mem = k23 (zi (fA s y x cnt)) (zi y) (zi (x + 1)) mem2 ∧ Fr PB mem mem2 := by
  obtain ⟨f, rfl⟩ : ∃ f, fu = f + 3 := ⟨fu - 3, by omega⟩
  obtain ⟨m1, a1, a2⟩ := m_admits (f + 3) hfu hS hz hW hc hp hpl (w := 1) (Or.inl rfl)
  obtain ⟨m2, b1, b2⟩ := m_admits (f + 3) hfu (MS_fr a2 PB_2 hS) hz hW hc hp hpl (w := 2) (Or.inr rfl)
  refine ⟨m2, ?_, Fr_tr a2 b2⟩
  rw [K_X12_admissible_38]
  simp (disch := omega) only [zi_lit, zl_lit, zi_add, zi_sub, zi_mul, zi_neg, zi_lt, zi_inj, zi_clamp, zl_of, gi_zi, bd_s, ltf, bi_0, bi_1, gb_bi, Int.reduceToNat, Int.reduceNeg, Int.toNat_natCast, a1, k_truth]
  rw [if_neg (by decide), K_X12_admissible_38]
  simp (disch := omega) only [zi_lit, zl_lit, zi_add, zi_sub, zi_mul, zi_neg, zi_lt, zi_inj, zi_clamp, zl_of, gi_zi, bd_s, ltf, bi_0, bi_1, gb_bi, Int.reduceToNat, Int.reduceNeg, Int.toNat_natCast, b1, k_truth, show (1 : Int) + 1 = 2 from rfl]
  rw [if_neg (by decide), K_X12_admissible_38]
  simp (disch := omega) only [zi_lit, zl_lit, zi_add, zi_sub, zi_mul, zi_neg, zi_lt, zi_inj, zi_clamp, zl_of, gi_zi, bd_s, ltf, bi_0, bi_1, gb_bi, Int.reduceToNat, Int.reduceNeg, Int.toNat_natCast]
  rw [if_pos (by decide)]
  rfl
theorem m_ad23 (fu : Nat) (hfu : 1000 ≤ fu) {s : Nat → Int} (hz : szO s) (hc : cnO s) (hW : wlO s) (hp : pasO s) (k9 : Int32 → Int32 → Mem → Option (Int32 × Mem)) {y : Int} (hy : 0 ≤ y ∧ y < s 1 - 1) : ∀ (q n : Nat) (x cnt : Int) (mem : Mem), x + q = s 0 - 1 → q < n → 0 ≤ x → MS mem s → ∃ mem2, K_X12_admissible_23 fu k9 n (zi cnt) (zi y) (zi x) mem = k9 (zi (sX (fA s) y q x cnt)) (zi (y + 1)) mem2 ∧ Fr PB mem mem2 := by
  have hz2 := hz
  obtain ⟨⟨hw1, hw2⟩, hh1, hh2⟩ := hz2
  intro q
  induction q with
  | zero =>
    intro n x cnt mem hx hn hx0 hS
    obtain ⟨n, rfl⟩ : ∃ f, n = f + 1 := ⟨n - 1, by omega⟩
    rw [K_X12_admissible_23]
    simp (disch := omega) only [zi_lit, zl_lit, zi_add, zi_sub, zi_mul, zi_neg, zi_lt, zi_inj, zi_clamp, zl_of, gi_zi, bd_s, ltf, bi_0, bi_1, gb_bi, Int.reduceToNat, Int.reduceNeg, Int.toNat_natCast, hS _]
    rw [if_neg (by omega)]
    exact ⟨mem, rfl, Fr_rf _ mem⟩
  | succ q ih =>
    intro n x cnt mem hx hn hx0 hS
    obtain ⟨n, rfl⟩ : ∃ f, n = f + 1 := ⟨n - 1, by omega⟩
    have hpl : isPl s x y = true := isPl_iff.mpr ⟨⟨hx0, by omega⟩, hy.1, by omega⟩
    rw [K_X12_admissible_23]
    simp (disch := omega) only [zi_lit, zl_lit, zi_add, zi_sub, zi_mul, zi_neg, zi_lt, zi_inj, zi_clamp, zl_of, gi_zi, bd_s, ltf, bi_0, bi_1, gb_bi, Int.reduceToNat, Int.reduceNeg, Int.toNat_natCast, hS _]
    rw [if_pos (by omega)]
    obtain ⟨m1, a1, a2⟩ := m_ad38 fu hfu hz hc hW hp k9 (K_X12_admissible_23 fu k9 n) (cnt := cnt) hpl hS
    obtain ⟨mem2, d1, d2⟩ := ih n (x + 1) (fA s y x cnt) m1 (by omega) (by omega) (by omega) (MS_fr a2 PB_2 hS)
    exact ⟨mem2, a1.trans d1, Fr_tr a2 d2⟩
theorem m_ad9 (fu : Nat) (hfu : 1000 ≤ fu) {s : Nat → Int} (hz : szO s) (hc : cnO s) (hW : wlO s) (hp : pasO s) : ∀ (q n : Nat) (y cnt : Int) (mem : Mem), y + q = s 1 - 1 → q < n → 0 ≤ y → MS mem s → ∃ mem2, K_X12_admissible_9 fu n (zi cnt) (zi y) mem = some (zi (sY (fA s) (s 0 - 1).toNat q y cnt), mem2) ∧ Fr PB mem mem2 := by
  have hz2 := hz
  obtain ⟨⟨hw1, hw2⟩, hh1, hh2⟩ := hz2
  intro q
  induction q with
  | zero =>
    intro n y cnt mem hx hn hx0 hS
    obtain ⟨n, rfl⟩ : ∃ f, n = f + 1 := ⟨n - 1, by omega⟩
    rw [K_X12_admissible_9]
    simp (disch := omega) only [zi_lit, zl_lit, zi_add, zi_sub, zi_mul, zi_neg, zi_lt, zi_inj, zi_clamp, zl_of, gi_zi, bd_s, ltf, bi_0, bi_1, gb_bi, Int.reduceToNat, Int.reduceNeg, Int.toNat_natCast, hS _]
    rw [if_neg (by omega)]
    exact ⟨mem, rfl, Fr_rf _ mem⟩
  | succ q ih =>
    intro n y cnt mem hx hn hx0 hS
    obtain ⟨n, rfl⟩ : ∃ f, n = f + 1 := ⟨n - 1, by omega⟩
    rw [K_X12_admissible_9]
    simp (disch := omega) only [zi_lit, zl_lit, zi_add, zi_sub, zi_mul, zi_neg, zi_lt, zi_inj, zi_clamp, zl_of, gi_zi, bd_s, ltf, bi_0, bi_1, gb_bi, Int.reduceToNat, Int.reduceNeg, Int.toNat_natCast, hS _]
    rw [if_pos (by omega)]
    obtain ⟨m1, a1, a2⟩ := m_ad23 fu hfu hz hc hW hp (K_X12_admissible_9 fu n) (y := y) ⟨hx0, by omega⟩ (s 0 - 1).toNat fu 0 cnt mem (by omega) (by omega) (by omega) hS
    obtain ⟨mem2, b1, b2⟩ := ih n (y + 1) _ m1 (by omega) (by omega) (by omega) (MS_fr a2 PB_2 hS)
    exact ⟨mem2, a1.trans b1, Fr_tr a2 b2⟩
theorem m_admissible (fu : Nat) (hfu : 1000 ≤ fu) {s : Nat → Int} (hz : szO s) (hc : cnO s) (hW : wlO s) (hp : pasO s) {mem : Mem} (hS : MS mem s) : ∃ mem2, K_X12_admissible fu mem = some (zi (adN s), mem2) ∧ Fr (fun k j => PB k j || (k == 0 && j == 0)) mem mem2 ∧ rd mem2 0 0 = zi 0 := by
  have hz2 := hz
  obtain ⟨⟨hw1, hw2⟩, hh1, hh2⟩ := hz2
  have hS1 : MS (mw mem 0 0 (zi 0)) s := fun j => by
    rw [rd_mw, if_neg (fun x => absurd x.1 (by decide))]
    exact hS j
  obtain ⟨mem2, b1, b2⟩ := m_ad9 fu hfu hz hc hW hp (s 1 - 1).toNat fu 0 0 _ (by omega) (by omega) (by omega) hS1
  unfold K_X12_admissible
  refine ⟨mem2, b1, Fr_tr (Fr_mw _ _ rfl) (Fr_mono b2 (fun k j h => ?_)), ?_⟩
  · rw [Bool.or_eq_false_iff] at h
    exact h.1
  · rw [b2.1 0 0 rfl, rd_mw, if_pos ⟨rfl, rfl⟩]
/-- the best wall against a pawn -/
abbrev BW : Type := Int × Int × Int × Int
noncomputable def stB (s : Nat → Int) (p y x v : Int) (b : BW) : BW := if adB s x y v = true then (if b.1 < dst (sw s x y v) p - dst s p then (dst (sw s x y v) p - dst s p, x, y, v - 1) else b) else b
noncomputable def fB (s : Nat → Int) (p y x : Int) (b : BW) : BW := stB s p y x 2 (stB s p y x 1 b)
def GB (mem : Mem) (b : BW) : Prop := (-1 ≤ b.1 ∧ b.1 ≤ 100) ∧ rd mem 17 6 = zi b.1 ∧ (b.1 ≠ -1 → rd mem 17 3 = zi b.2.1 ∧ rd mem 17 4 = zi b.2.2.1 ∧ rd mem 17 5 = zi b.2.2.2)
def PL (r k j : Nat) : Bool := k == 17 || PQ r k j
theorem PQ_PL {r k j : Nat} (h : PL r k j = false) : PQ r k j = false := by
  unfold PL at h
  rw [Bool.or_eq_false_iff] at h
  exact h.2
theorem GB_fr {r : Nat} {m1 m2 : Mem} {b : BW} (h : Fr (PA r) m1 m2) (hG : GB m1 b) : GB m2 b := by
  have e : ∀ j, rd m2 17 j = rd m1 17 j := fun j => h.1 17 j (by
    unfold PA PC PWl pDist pQueue pWays pOpen pBuilt pBoard
    simp
    omega)
  unfold GB at hG ⊢
  rw [e, e, e, e]
  exact hG
def P17 (k _ : Nat) : Bool := k == 17
theorem PLI_17 {m1 m2 : Mem} {r : Nat} {s : Nat → Int} (h : Fr P17 m1 m2) (hI : PLI m1 r s) : PLI m2 r s := ⟨RB_fr h (fun k j hk => by unfold P17; simp; omega) hI.1, CPn_fr h (by unfold P17 pRace; simp; omega) (fun i j _ => by unfold P17 pPawn; simp; omega) hI.2.1, fun i hi => TRi_fr h rfl (fun _ _ => rfl) (hI.2.2 i hi)⟩
theorem c_keepB (fu : Nat) {mem : Mem} {b : BW} (hG : GB mem b) {g x y w : Int} (hg : -100 ≤ g ∧ g ≤ 100) : ∃ mem2, K_X5_keepBetter fu (zi g) (zi x) (zi y) (zi w) mem = some mem2 ∧ GB mem2 (if b.1 < g then (g, x, y, w) else b) ∧ Fr P17 mem mem2 := by
  obtain ⟨g1, g2, g3⟩ := hG
  unfold K_X5_keepBetter
  simp (disch := omega) only [zi_lit, zl_lit, zi_add, zi_sub, zi_mul, zi_neg, zi_lt, zi_inj, zi_clamp, zl_of, gi_zi, bd_s, ltf, bi_0, bi_1, gb_bi, Int.reduceToNat, Int.reduceNeg, Int.toNat_natCast, g2]
  by_cases c1 : b.1 < g
  · rw [if_pos c1, if_pos c1]
    refine ⟨_, rfl, ⟨⟨?_, hg.2⟩, ?_, fun _ => ⟨?_, ?_, ?_⟩⟩, Fr_tr (Fr_tr (Fr_tr (Fr_mw _ _ rfl) (Fr_mw _ _ rfl)) (Fr_mw _ _ rfl)) (Fr_mw _ _ rfl)⟩
    · show -1 ≤ g
      omega
    · simp [rd_mw]
    · simp [rd_mw]
    · simp [rd_mw]
    · simp [rd_mw]
  · rw [if_neg c1, if_neg c1]
    exact ⟨mem, rfl, ⟨g1, g2, g3⟩, Fr_rf _ mem⟩
def PA7 (r k j : Nat) : Bool := k == 17 || PA r k j
theorem c_fb1 (fu r n : Nat) (hfu : 1000 ≤ fu) {s : Nat → Int} (hz : szO s) (hc : cnO s) (hW : wlO s) (hp : pasO s) (hwy : wyO s) (k26 : Int32 → Int32 → Mem → Option (Int32 × Mem)) (k42 : Int32 → Int32 → Int32 → Mem → Option (Int32 × Mem)) {x y w : Int} (hpl : isPl s x y = true) (hw : w = 0 ∨ w = 1) {p : Nat} (hps : (p : Int) < s 2) {mem : Mem} {b : BW} (hI : PLI mem r s) (hG : GB mem b) : ∃ mem2, K_X5_findBest_59 fu r k26 k42 (n + 1) (zi (p : Int)) (zi y) (zi x) (zi w) mem = K_X5_findBest_59 fu r k26 k42 n (zi (p : Int)) (zi y) (zi x) (zi (w + 1)) mem2 ∧ PLI mem2 r s ∧ GB mem2 (stB s p y x (w + 1) b) ∧ Fr (PA7 r) mem mem2 := by
  have hpl2 := isPl_iff.mp hpl
  have hz2 := hz
  obtain ⟨⟨hw1, hw2⟩, hh1, hh2⟩ := hz2
  have c1 := hc.1
  obtain ⟨m1, a1, a2, a3⟩ := c_admits fu r hfu hz hc hW hp hwy hI (x := x) (y := y) (w := w) (by omega) (by omega) (by omega) (by omega) hw
  rw [hpl, Bool.true_and] at a1
  have up : ∀ {m1 m2 : Mem}, Fr (PA r) m1 m2 → Fr (PA7 r) m1 m2 := fun h => Fr_mono h (fun k j g => by
    unfold PA7 at g
    rw [Bool.or_eq_false_iff] at g
    exact g.2)
  rw [K_X5_findBest_59]
  simp (disch := omega) only [zi_lit, zl_lit, zi_add, zi_sub, zi_mul, zi_neg, zi_lt, zi_inj, zi_clamp, zl_of, gi_zi, bd_s, ltf, bi_0, bi_1, gb_bi, Int.reduceToNat, Int.reduceNeg, Int.toNat_natCast, a1]
  rw [if_neg (by omega)]
  unfold stB
  cases had : adB s x y (w + 1) with
  | false =>
    rw [if_pos rfl, if_neg (by decide)]
    exact ⟨m1, rfl, a2, GB_fr a3 hG, up a3⟩
  | true =>
    rw [if_neg (by decide), if_pos rfl]
    have hr : hrB s x y (w + 1) = true := by
      unfold adB at had
      rw [Bool.and_eq_true] at had
      exact had.1
    obtain ⟨m2, b1, b2, b3⟩ := c_loss fu r hfu hz hc hW hp hwy a2 hpl hw hr hps
    have hd1 := dst_le hz hW (hp p (by omega) hps)
    have hd2 := dst_le (sw_sz (v := w + 1) hpl2.1.1 hpl2.2.1 hz) (sw_wl (x := x) (y := y) (v := w + 1) (by omega) hW) (sw_pn (v := w + 1) hpl2.1.1 hpl2.2.1 (by omega) (hp p (by omega) hps))
    obtain ⟨m3, d1, d2, d3⟩ := c_keepB fu (GB_fr b3 (GB_fr a3 hG)) (g := dst (sw s x y (w + 1)) p - dst s p) (x := x) (y := y) (w := w) (by omega)
    rw [b1]
    simp only [zi_lit, zl_lit, zi_add, zi_sub, zi_mul, zi_neg, zi_lt, zi_inj, zi_clamp, zl_of, gi_zi, bd_s, ltf, bi_0, bi_1, gb_bi, Int.reduceToNat, Int.reduceNeg, Int.toNat_natCast]
    rw [d1]
    rw [show w + 1 - 1 = w by omega]
    refine ⟨m3, rfl, PLI_17 d3 b2, d2, Fr_tr (Fr_tr (up a3) (up b3)) (Fr_mono d3 (fun k j g => by
      unfold PA7 at g
      rw [Bool.or_eq_false_iff] at g
      exact g.1))⟩
theorem c_fb42 (fu r : Nat) (hfu : 1000 ≤ fu) {s : Nat → Int} (hz : szO s) (hc : cnO s) (hW : wlO s) (hp : pasO s) (hwy : wyO s) (k26 : Int32 → Int32 → Mem → Option (Int32 × Mem)) {y : Int} (hy : 0 ≤ y ∧ y < s 1 - 1) {p : Nat} (hps : (p : Int) < s 2) : ∀ (q n : Nat) (x : Int) (b : BW) (mem : Mem), x + q = s 0 - 1 → q < n → 0 ≤ x → PLI mem r s → GB mem b → ∃ mem2, K_X5_findBest_42 fu r k26 n (zi (p : Int)) (zi y) (zi x) mem = k26 (zi (p : Int)) (zi (y + 1)) mem2 ∧ PLI mem2 r s ∧ GB mem2 (sX (fB s p) y q x b) ∧ Fr (PA7 r) mem mem2 := by
  have hz2 := hz
  obtain ⟨⟨hw1, hw2⟩, hh1, hh2⟩ := hz2
  intro q
  induction q with
  | zero =>
    intro n x b mem hx hn hx0 hI hG
    obtain ⟨n, rfl⟩ : ∃ f, n = f + 1 := ⟨n - 1, by omega⟩
    rw [K_X5_findBest_42]
    simp (disch := omega) only [zi_lit, zl_lit, zi_add, zi_sub, zi_mul, zi_neg, zi_lt, zi_inj, zi_clamp, zl_of, gi_zi, bd_s, ltf, bi_0, bi_1, gb_bi, Int.reduceToNat, Int.reduceNeg, Int.toNat_natCast, hI.1.1]
    rw [if_neg (by omega)]
    exact ⟨mem, rfl, hI, hG, Fr_rf _ mem⟩
  | succ q ih =>
    intro n x b mem hx hn hx0 hI hG
    obtain ⟨n, rfl⟩ : ∃ f, n = f + 1 := ⟨n - 1, by omega⟩
    have hpl : isPl s x y = true := isPl_iff.mpr ⟨⟨hx0, by omega⟩, hy.1, by omega⟩
    rw [K_X5_findBest_42]
    simp (disch := omega) only [zi_lit, zl_lit, zi_add, zi_sub, zi_mul, zi_neg, zi_lt, zi_inj, zi_clamp, zl_of, gi_zi, bd_s, ltf, bi_0, bi_1, gb_bi, Int.reduceToNat, Int.reduceNeg, Int.toNat_natCast, hI.1.1]
    rw [if_pos (by omega)]
    obtain ⟨f, rfl⟩ : ∃ f, fu = f + 3 := ⟨fu - 3, by omega⟩
    obtain ⟨m1, a1, a2, a3, a4⟩ := c_fb1 (f + 3) r (f + 2) hfu hz hc hW hp hwy k26 (K_X5_findBest_42 (f + 3) r k26 n) hpl (w := 0) (Or.inl rfl) hps hI hG
    obtain ⟨m2, b1, b2, b3, b4⟩ := c_fb1 (f + 3) r (f + 1) hfu hz hc hW hp hwy k26 (K_X5_findBest_42 (f + 3) r k26 n) hpl (w := 1) (Or.inr rfl) hps a2 a3
    obtain ⟨mem2, d1, d2, d3, d4⟩ := ih n (x + 1) (fB s p y x b) m2 (by omega) (by omega) (by omega) b2 b3
    refine ⟨mem2, ?_, d2, d3, Fr_tr (Fr_tr a4 b4) d4⟩
    rw [a1, show zi (0 + 1) = zi 1 from rfl, b1, K_X5_findBest_59, ← d1]
    simp (disch := omega) only [zi_lit, zl_lit, zi_add, zi_sub, zi_mul, zi_neg, zi_lt, zi_inj, zi_clamp, zl_of, gi_zi, bd_s, ltf, bi_0, bi_1, gb_bi, Int.reduceToNat, Int.reduceNeg, Int.toNat_natCast]
    exact if_pos (by decide)
theorem c_fb26 (fu r : Nat) (hfu : 1000 ≤ fu) {s : Nat → Int} (hz : szO s) (hc : cnO s) (hW : wlO s) (hp : pasO s) (hwy : wyO s) {p : Nat} (hps : (p : Int) < s 2) : ∀ (q n : Nat) (y : Int) (b : BW) (mem : Mem), y + q = s 1 - 1 → q < n → 0 ≤ y → PLI mem r s → GB mem b → ∃ mem2, K_X5_findBest_26 fu r n (zi (p : Int)) (zi y) mem = some (zi (bi (decide ((sY (fB s p) (s 0 - 1).toNat q y b).1 ≠ -1))), mem2) ∧ PLI mem2 r s ∧ GB mem2 (sY (fB s p) (s 0 - 1).toNat q y b) ∧ Fr (PA7 r) mem mem2 := by
  have hz2 := hz
  obtain ⟨⟨hw1, hw2⟩, hh1, hh2⟩ := hz2
  intro q
  induction q with
  | zero =>
    intro n y b mem hx hn hx0 hI hG
    obtain ⟨n, rfl⟩ : ∃ f, n = f + 1 := ⟨n - 1, by omega⟩
    have g1 := hG.1
    have g2 := hG.2.1
    rw [K_X5_findBest_26]
    simp (disch := omega) only [zi_lit, zl_lit, zi_add, zi_sub, zi_mul, zi_neg, zi_lt, zi_inj, zi_clamp, zl_of, gi_zi, bd_s, ltf, bi_0, bi_1, gb_bi, Int.reduceToNat, Int.reduceNeg, Int.toNat_natCast, hI.1.2.1, g2]
    rw [if_neg (by omega)]
    refine ⟨mem, ?_, hI, hG, Fr_rf _ mem⟩
    show _ = some (zi (bi (decide (b.1 ≠ -1))), mem)
    by_cases c1 : b.1 = -1
    · rw [if_pos c1, decide_eq_false (fun h => h c1)]
      rfl
    · rw [if_neg c1, decide_eq_true c1]
      rfl
  | succ q ih =>
    intro n y b mem hx hn hx0 hI hG
    obtain ⟨n, rfl⟩ : ∃ f, n = f + 1 := ⟨n - 1, by omega⟩
    have g1 := hG.1
    have g2 := hG.2.1
    rw [K_X5_findBest_26]
    simp (disch := omega) only [zi_lit, zl_lit, zi_add, zi_sub, zi_mul, zi_neg, zi_lt, zi_inj, zi_clamp, zl_of, gi_zi, bd_s, ltf, bi_0, bi_1, gb_bi, Int.reduceToNat, Int.reduceNeg, Int.toNat_natCast, hI.1.2.1, g2]
    rw [if_pos (by omega)]
    obtain ⟨m1, a1, a2, a3, a4⟩ := c_fb42 fu r hfu hz hc hW hp hwy (K_X5_findBest_26 fu r n) (y := y) ⟨hx0, by omega⟩ hps (s 0 - 1).toNat fu 0 b mem (by omega) (by omega) (by omega) hI hG
    obtain ⟨mem2, b1, b2, b3, b4⟩ := ih n (y + 1) _ m1 (by omega) (by omega) (by omega) a2 a3
    exact ⟨mem2, a1.trans b1, b2, b3, Fr_tr a4 b4⟩
noncomputable def bstB (s : Nat → Int) (p : Int) : BW := if 0 < pg s p 6 then (-1, 0, 0, 0) else sY (fB s p) (s 0 - 1).toNat (s 1 - 1).toNat 0 (-1, 0, 0, 0)
theorem c_findBest (fu r : Nat) (hfu : 1000 ≤ fu) {s : Nat → Int} (hz : szO s) (hc : cnO s) (hW : wlO s) (hp : pasO s) (hwy : wyO s) {p : Nat} (hps : (p : Int) < s 2) {mem : Mem} (hR : RB mem r s) (hP : CPn mem r s) : ∃ mem2, K_X5_findBest fu r (zi (p : Int)) mem = some (zi (bi (decide ((bstB s p).1 ≠ -1))), mem2) ∧ RB mem2 r s ∧ CPn mem2 r s ∧ GB mem2 (bstB s p) ∧ Fr (PL r) mem mem2 := by
  have hz2 := hz
  obtain ⟨⟨hw1, hw2⟩, hh1, hh2⟩ := hz2
  have c1 := hc.1
  have hp4 : p < 4 := by omega
  have hpk := hp p (by omega) hps
  obtain ⟨p1, p2, p3, p4, p5, p6, p7⟩ := hpk
  obtain ⟨k1, k2, k3, k4, k5, k6⟩ := hc
  have f0 : Fr P17 mem (mw mem 17 6 (zi (-1))) := Fr_mw _ _ rfl
  have lo17 : ∀ k j, 35 ≤ k → P17 k j = false := fun k j hk => by unfold P17; simp; omega
  have hR0 := RB_fr f0 lo17 hR
  have hP0 := CPn_fr f0 (lo17 _ _ (by unfold pRace; omega)) (fun i j _ => lo17 _ _ (by unfold pPawn; omega)) hP
  have e5 := (hP0.2 p hp4 hps).2.2.2.2.2
  have up17 : ∀ {m1 m2 : Mem}, Fr P17 m1 m2 → Fr (PL r) m1 m2 := fun h => Fr_mono h (fun k j g => by
    unfold PL at g
    rw [Bool.or_eq_false_iff] at g
    exact g.1)
  have hG0 : ∀ m, rd m 17 6 = zi (-1) → GB m (-1, 0, 0, 0) := fun m hm => ⟨⟨Int.le_refl _, (by decide : (-1 : Int) ≤ 100)⟩, hm, fun h => absurd rfl h⟩
  unfold K_X5_findBest bstB
  simp (disch := omega) only [zi_lit, zl_lit, zi_add, zi_sub, zi_mul, zi_neg, zi_lt, zi_inj, zi_clamp, zl_of, gi_zi, bd_s, ltf, bi_0, bi_1, gb_bi, Int.reduceToNat, Int.reduceNeg, Int.toNat_natCast, e5]
  by_cases hf : pg s p 6 = 0
  · rw [if_pos hf, if_neg (by omega)]
    obtain ⟨m1, a1, a2, a3⟩ := c_markTrails fu r hfu hz ⟨k1, k2, k3, k4, k5, k6⟩ hW hp hwy hR0 hP0
    have hI : PLI m1 r s := ⟨RB_fr a3 FT_lo hR0, CPn_fr a3 (FT_lo _ _ (by unfold pRace; omega)) (fun i j _ => FT_lo _ _ (by unfold pPawn; omega)) hP0, a2⟩
    obtain ⟨mem2, b1, b2, b3, b4⟩ := c_fb26 fu r hfu hz ⟨k1, k2, k3, k4, k5, k6⟩ hW hp hwy hps (s 1 - 1).toNat fu 0 (-1, 0, 0, 0) m1 (by omega) (by omega) (by omega) hI (hG0 _ (by rw [a3.1 17 6 rfl, rd_mw, if_pos ⟨rfl, rfl⟩]))
    rw [a1]
    refine ⟨mem2, b1, b2.1, b2.2.1, b3, Fr_tr (Fr_tr (up17 f0) (Fr_mono a3 (fun k j g => FT_PQ (PQ_PL g)))) (Fr_mono b4 (fun k j g => ?_))⟩
    unfold PL at g
    rw [Bool.or_eq_false_iff] at g
    unfold PA7
    rw [g.1, PA_PQ g.2]
    rfl
  · rw [if_neg hf, if_pos (by omega)]
    exact ⟨_, rfl, hR0, hP0, hG0 _ (by rw [rd_mw, if_pos ⟨rfl, rfl⟩]), up17 f0⟩
end CSCAN
