section REPORTS
/-- bytes that were written -/
abbrev RLt : Type := (Nat → Int) × Nat
def psh (t : RLt) (v : Int) : RLt := (fun i => if i = t.2 then v else t.1 i, t.2 + 1)
def RWc (c : Mem) (t : RLt) : Prop := rd c 0 13 = zi (t.2 : Int) ∧ ∀ i, i < t.2 → rd c 1 i = zi (t.1 i)
def RWm (m : Mem) (t : RLt) : Prop := rd m 0 48 = zi (t.2 : Int) ∧ ∀ i, i < t.2 → rd m 22 i = zi (t.1 i)
def PRc (k j : Nat) : Bool := k == 1 || (k == 0 && j == 13)
def PRm (k j : Nat) : Bool := k == 22 || (k == 0 && j == 48)
theorem byt (n : Nat) (h : n < 128) : vp_nar .byte (Int8.toInt32 (Int32.toInt8 (zi (n : Int)))) = zi (n : Int) := by
  have h2 : ∀ n : Nat, n < 128 → vp_nar .byte (Int8.toInt32 (Int32.toInt8 (zi (n : Int)))) = zi (n : Int) := by decide +kernel
  exact h2 n h
theorem c_wB (fu : Nat) {c : Mem} {t : RLt} (h : RWc c t) (ht : t.2 < 283) {v : Int} (h1 : 0 ≤ v) (h2 : v < 128) : ∃ c2, K_X11_writeByte fu (zi v) c = some c2 ∧ RWc c2 (psh t v) ∧ Fr PRc c c2 := by
  obtain ⟨n, rfl⟩ : ∃ n : Nat, v = (n : Int) := ⟨v.toNat, by omega⟩
  obtain ⟨h3, h4⟩ := h
  have e := byt n (by omega)
  have r13 : ∀ x, rd (mw c 1 t.2 x) 0 13 = zi (t.2 : Int) := fun x => by
    rw [rd_mw, if_neg (fun q => absurd q.1 (by decide))]
    exact h3
  unfold K_X11_writeByte
  simp (disch := omega) only [zi_lit, zl_lit, zi_add, zi_sub, zi_mul, zi_neg, zi_lt, zi_inj, zi_clamp, zl_of, gi_zi, bd_s, ltf, bi_0, bi_1, gb_bi, Int.reduceToNat, Int.reduceNeg, Int.toNat_natCast, h3, e, r13]
  rw [if_pos (by omega)]
  refine ⟨_, rfl, ⟨?_, fun i hi => ?_⟩, Fr_tr (Fr_mw _ _ rfl) (Fr_mw _ _ rfl)⟩
  · rw [rd_mw, if_pos ⟨rfl, rfl⟩]
    rfl
  · have hi2 : i < t.2 + 1 := hi
    rw [rd_mw, if_neg (fun q => absurd q.1 (by decide)), rd_mw]
    show _ = zi (if i = t.2 then (n : Int) else t.1 i)
    by_cases q : i = t.2
    · rw [if_pos ⟨rfl, q⟩, if_pos q]
    · rw [if_neg (fun x => q x.2), if_neg q]
      exact h4 i (by omega)
theorem m_tell (fu : Nat) {m : Mem} {t : RLt} (h : RWm m t) (ht : t.2 < 400) (v : Int) : ∃ m2, K_X12_tell fu (zi v) m = some m2 ∧ RWm m2 (psh t v) ∧ Fr PRm m m2 := by
  obtain ⟨h3, h4⟩ := h
  have r13 : ∀ x, rd (mw m 22 t.2 x) 0 48 = zi (t.2 : Int) := fun x => by
    rw [rd_mw, if_neg (fun q => absurd q.1 (by decide))]
    exact h3
  unfold K_X12_tell
  simp (disch := omega) only [zi_lit, zl_lit, zi_add, zi_sub, zi_mul, zi_neg, zi_lt, zi_inj, zi_clamp, zl_of, gi_zi, bd_s, ltf, bi_0, bi_1, gb_bi, Int.reduceToNat, Int.reduceNeg, Int.toNat_natCast, h3, r13]
  refine ⟨_, rfl, ⟨?_, fun i hi => ?_⟩, Fr_tr (Fr_mw _ _ rfl) (Fr_mw _ _ rfl)⟩
  · rw [rd_mw, if_pos ⟨rfl, rfl⟩]
    rfl
  · have hi2 : i < t.2 + 1 := hi
    rw [rd_mw, if_neg (fun q => absurd q.1 (by decide)), rd_mw]
    show _ = zi (if i = t.2 then v else t.1 i)
    by_cases q : i = t.2
    · rw [if_pos ⟨rfl, q⟩, if_pos q]
    · rw [if_neg (fun x => q x.2), if_neg q]
      exact h4 i (by omega)
def chP (s : Nat → Int) (x y : Int) : Int := if pI s x y = -1 then 46 else 48 + pI s x y
def rX (s : Nat → Int) (y : Int) : Nat → Int → RLt → RLt
  | 0, _, t => psh t 10
  | q + 1, x, t => rX s y q (x + 1) (psh t (chP s x y))
def rY (s : Nat → Int) : Nat → RLt → RLt
  | 0, t => t
  | q + 1, t => rY s q (rX s (q : Int) (s 0).toNat 0 t)
def stW (s : Nat → Int) (k : Nat) (t : RLt) : RLt := if s (120 + k) = 0 then t else psh (psh (psh t (if s (120 + k) = 1 then 45 else 124)) (48 + ((k % 8 : Nat) : Int))) (48 + ((k / 8 : Nat) : Int))
def wKl (s : Nat → Int) : Nat → Nat → RLt → RLt
  | 0, _, t => psh t 10
  | q + 1, k, t => wKl s q (k + 1) (stW s k t)
def rpS (s : Nat → Int) : RLt := wKl s 64 0 (rY s (s 1).toNat (fun _ => 0, 0))
theorem rX_n (s : Nat → Int) (y : Int) : ∀ (q : Nat) (x : Int) (t : RLt), (rX s y q x t).2 = t.2 + q + 1 := by
  intro q
  induction q with
  | zero => exact fun x t => rfl
  | succ q ih =>
    intro x t
    rw [rX, ih]
    show t.2 + 1 + q + 1 = _
    omega
theorem rY_n (s : Nat → Int) : ∀ (q : Nat) (t : RLt), (rY s q t).2 = t.2 + q * ((s 0).toNat + 1) := by
  intro q
  induction q with
  | zero => exact fun t => by rw [rY]; omega
  | succ q ih =>
    intro t
    rw [rY, ih, rX_n, Nat.succ_mul]
    omega
theorem stW_n (s : Nat → Int) (k : Nat) (t : RLt) : (stW s k t).2 ≤ t.2 + 3 := by
  unfold stW
  split
  · omega
  · show t.2 + 1 + 1 + 1 ≤ _
    omega
/-- the class's rows -/
theorem c_rp24 (fu : Nat) (hfu : 1000 ≤ fu) {s : Nat → Int} (hI : Inv s) (k18 : Int32 → Mem → Option (Int32 × Mem)) {y : Int} (hy : 0 ≤ y ∧ y < s 1) : ∀ (q n : Nat) (x : Int) (t : RLt) (c : Mem), x + q = s 0 → q < n → 0 ≤ x → t.2 + q < 283 → RC c 0 s → RWc c t → ∃ c2, K_X11_report_24 fu k18 n (zi y) (zi x) c = k18 (zi (y - 1)) c2 ∧ RC c2 0 s ∧ RWc c2 (rX s y q x t) ∧ Fr PRc c c2 := by
  obtain ⟨hz, hc, hW, hp, hb, hwp, hds, hrk, hwy⟩ := hI
  have hz2 := hz
  obtain ⟨⟨w1, w2⟩, w3, w4⟩ := hz2
  have c1 := hc.1
  have lo : ∀ k j, 35 ≤ k → PRc k j = false := fun k j hk => by
    unfold PRc
    simp
    omega
  intro q
  induction q with
  | zero =>
    intro n x t c hx hn hx0 ht hR hT
    obtain ⟨n, rfl⟩ : ∃ f, n = f + 1 := ⟨n - 1, by omega⟩
    obtain ⟨c2, a1, a2, a3⟩ := c_wB fu hT (by omega) (v := 10) (by omega) (by omega)
    rw [K_X11_report_24]
    simp (disch := omega) only [zi_lit, zl_lit, zi_add, zi_sub, zi_mul, zi_neg, zi_lt, zi_inj, zi_clamp, zl_of, gi_zi, bd_s, ltf, bi_0, bi_1, gb_bi, Int.reduceToNat, Int.reduceNeg, Int.toNat_natCast, hR.1.1, a1]
    rw [if_neg (by omega)]
    exact ⟨c2, rfl, RC_fr a3 lo hR, a2, a3⟩
  | succ q ih =>
    intro n x t c hx hn hx0 ht hR hT
    obtain ⟨n, rfl⟩ : ∃ f, n = f + 1 := ⟨n - 1, by omega⟩
    obtain ⟨cc, hcc⟩ : ∃ cc : Nat, y * 9 + x = (cc : Int) := ⟨(y * 9 + x).toNat, by omega⟩
    have hc81 : cc < 81 := by omega
    have hpo := c_pawnOn fu 0 hfu hz c1 hc.2.2.2.1.2 hc.2.2.2.2.1.2 hp hds (RC_CPn hR) hc81
    have ex : xo cc = x := by unfold xo; omega
    have ey : yo cc = y := by unfold yo; omega
    rw [ex, ey] at hpo
    have hsp := pI_sp c1.1 x y
    have hch : 0 ≤ chP s x y ∧ chP s x y < 128 := by
      unfold chP
      rcases hsp with h | h
      · rw [if_pos h.1]
        decide
      · rw [if_neg (by omega)]
        omega
    obtain ⟨c2, a1, a2, a3⟩ := c_wB fu hT (by omega) hch.1 hch.2
    obtain ⟨c3, b1, b2, b3, b4⟩ := ih n (x + 1) _ c2 (by omega) (by omega) (by omega) (by show t.2 + 1 + q < 283; omega) (RC_fr a3 lo hR) a2
    rw [K_X11_report_24]
    unfold K_X11_report_67
    simp (disch := omega) only [zi_lit, zl_lit, zi_add, zi_sub, zi_mul, zi_neg, zi_lt, zi_inj, zi_clamp, zl_of, gi_zi, bd_s, ltf, bi_0, bi_1, gb_bi, Int.reduceToNat, Int.reduceNeg, Int.toNat_natCast, hR.1.1, hcc, hpo]
    rw [if_pos (by omega)]
    refine ⟨c3, ?_, b2, b3, Fr_tr a3 b4⟩
    rw [← b1]
    by_cases q1 : pI s x y = -1
    · rw [if_pos (by omega)]
      unfold chP at a1
      rw [if_pos q1] at a1
      rw [a1]
      rfl
    · rw [if_neg (by omega)]
      unfold chP at a1
      rw [if_neg q1] at a1
      rw [a1]
      rfl
theorem c_rp18 (fu : Nat) (hfu : 1000 ≤ fu) {s : Nat → Int} (hI : Inv s) : ∀ (q n : Nat) (t : RLt) (c : Mem), (q : Int) ≤ s 1 → q < n → t.2 + q * ((s 0).toNat + 1) ≤ 90 → RC c 0 s → RWc c t → ∃ c2, K_X11_report_18 fu n (zi ((q : Int) - 1)) c = K_X11_report_90 fu fu (zi 0) c2 ∧ RC c2 0 s ∧ RWc c2 (rY s q t) ∧ Fr PRc c c2 := by
  have hz2 := hI.1
  obtain ⟨⟨w1, w2⟩, w3, w4⟩ := hz2
  intro q
  induction q with
  | zero =>
    intro n t c hq hn ht hR hT
    obtain ⟨n, rfl⟩ : ∃ f, n = f + 1 := ⟨n - 1, by omega⟩
    rw [K_X11_report_18]
    simp (disch := omega) only [zi_lit, zl_lit, zi_add, zi_sub, zi_mul, zi_neg, zi_lt, zi_inj, zi_clamp, zl_of, gi_zi, bd_s, ltf, bi_0, bi_1, gb_bi, Int.reduceToNat, Int.reduceNeg, Int.toNat_natCast]
    rw [if_pos (by omega)]
    exact ⟨c, rfl, hR, hT, Fr_rf _ c⟩
  | succ q ih =>
    intro n t c hq hn ht hR hT
    obtain ⟨n, rfl⟩ : ∃ f, n = f + 1 := ⟨n - 1, by omega⟩
    rw [Nat.succ_mul] at ht
    obtain ⟨c2, a1, a2, a3, a4⟩ := c_rp24 fu hfu hI (K_X11_report_18 fu n) (y := (q : Int)) (by omega) (s 0).toNat fu 0 t c (by omega) (by omega) (by omega) (by omega) hR hT
    obtain ⟨c3, b1, b2, b3, b4⟩ := ih n _ c2 (by omega) (by omega) (by rw [rX_n]; omega) a2 a3
    rw [K_X11_report_18, show ((q + 1 : Nat) : Int) - 1 = (q : Int) by omega]
    simp (disch := omega) only [zi_lit, zl_lit, zi_add, zi_sub, zi_mul, zi_neg, zi_lt, zi_inj, zi_clamp, zl_of, gi_zi, bd_s, ltf, bi_0, bi_1, gb_bi, Int.reduceToNat, Int.reduceNeg, Int.toNat_natCast]
    rw [if_neg (by omega)]
    exact ⟨c3, a1.trans b1, b2, b3, Fr_tr a4 b4⟩
theorem wK_s {s : Nat → Int} {k : Nat} (hk : k < 64) (t : RLt) : wKl s (64 - k) k t = wKl s (64 - (k + 1)) (k + 1) (stW s k t) := by
  rw [show 64 - k = (64 - (k + 1)) + 1 by omega, wKl]
theorem wK_gap {s : Nat → Int} : ∀ (r k : Nat) (t : RLt), k + r ≤ 64 → (∀ j, k ≤ j → j < k + r → s (120 + j) = 0) → wKl s (64 - k) k t = wKl s (64 - (k + r)) (k + r) t := by
  intro r
  induction r with
  | zero => exact fun k t _ _ => rfl
  | succ r ih =>
    intro k t hk h
    rw [wK_s (by omega), show k + (r + 1) = k + 1 + r by omega, ← ih (k + 1) _ (by omega) (fun j h1 h2 => h j (by omega) (by omega))]
    unfold stW
    rw [if_pos (h k (Nat.le_refl _) (by omega))]
theorem wl_out {s : Nat → Int} (hwp : wpO s) {j : Nat} (hj : j < 64) (h : isPl s ((j % 8 : Nat) : Int) ((j / 8 : Nat) : Int) = false) : s (120 + j) = 0 := by
  have := hwp ((j % 8 : Nat) : Int) ((j / 8 : Nat) : Int) (by omega) (by omega) (by omega) (by omega) h
  rw [show (120 + 8 * ((j / 8 : Nat) : Int) + ((j % 8 : Nat) : Int)).toNat = 120 + j by omega] at this
  exact this
theorem c_wWall (fu : Nat) {s : Nat → Int} (hz : szO s) (hW : wlO s) {x y : Int} (hpl : isPl s x y = true) {c : Mem} {t : RLt} (hR : RC c 0 s) (hT : RWc c t) (ht : t.2 + 3 ≤ 283) : ∃ c2, K_X11_writeWall fu (zi x) (zi y) c = some c2 ∧ RC c2 0 s ∧ RWc c2 (stW s (8 * y + x).toNat t) ∧ Fr PRc c c2 := by
  have lo : ∀ k j, 35 ≤ k → PRc k j = false := fun k j hk => by
    unfold PRc
    simp
    omega
  obtain ⟨⟨x0, x1⟩, y0, y1⟩ := isPl_iff.mp hpl
  have hz2 := hz
  obtain ⟨⟨w1, w2⟩, w3, w4⟩ := hz2
  have hw := wg_le hW hz x y
  have ew : wg s x y = s (120 + (8 * y + x).toNat) := by
    unfold wg
    rw [if_pos hpl, show (120 + 8 * y + x).toNat = 120 + (8 * y + x).toNat by omega]
  have em : (((8 * y + x).toNat % 8 : Nat) : Int) = x := by omega
  have ed : (((8 * y + x).toNat / 8 : Nat) : Int) = y := by omega
  have go : ∀ v : Int, 0 ≤ v → v < 128 → ∃ c2, K_X11_writeWall_30 fu (zi x) (zi y) (zi v) c = some c2 ∧ RC c2 0 s ∧ RWc c2 (psh (psh (psh t v) (48 + x)) (48 + y)) ∧ Fr PRc c c2 := fun v v0 v1 => by
    obtain ⟨m1, a1, a2, a3⟩ := c_wB fu hT (by omega) v0 v1
    obtain ⟨m2, b1, b2, b3⟩ := c_wB fu a2 (show t.2 + 1 < 283 by omega) (v := 48 + x) (by omega) (by omega)
    obtain ⟨m3, d1, d2, d3⟩ := c_wB fu b2 (show t.2 + 1 + 1 < 283 by omega) (v := 48 + y) (by omega) (by omega)
    have f := Fr_tr (Fr_tr a3 b3) d3
    refine ⟨m3, ?_, RC_fr f lo hR, d2, f⟩
    unfold K_X11_writeWall_30
    simp (disch := omega) only [zi_lit, zl_lit, zi_add, zi_sub, zi_mul, zi_neg, zi_lt, zi_inj, zi_clamp, zl_of, gi_zi, bd_s, ltf, bi_0, bi_1, gb_bi, Int.reduceToNat, Int.reduceNeg, Int.toNat_natCast, a1, b1, d1]
  unfold K_X11_writeWall stW
  rw [em, ed, ← ew]
  simp (disch := omega) only [zi_lit, zl_lit, zi_add, zi_sub, zi_mul, zi_neg, zi_lt, zi_inj, zi_clamp, zl_of, gi_zi, bd_s, ltf, bi_0, bi_1, gb_bi, Int.reduceToNat, Int.reduceNeg, Int.toNat_natCast, c_wallOn fu 0 hR.1 hz]
  by_cases q0 : wg s x y = 0
  · rw [if_pos (by omega), if_pos q0]
    exact ⟨c, rfl, hR, hT, Fr_rf _ c⟩
  · rw [if_neg (by omega), if_neg q0]
    by_cases q1 : wg s x y = 1
    · rw [if_pos (by omega), if_pos q1]
      exact go 45 (by decide) (by decide)
    · rw [if_neg (by omega), if_neg q1]
      exact go 124 (by decide) (by decide)
theorem c_rp108 (fu : Nat) (hfu : 1000 ≤ fu) {s : Nat → Int} (hI : Inv s) (k90 : Int32 → Mem → Option (Int32 × Mem)) {y : Int} (hy : 0 ≤ y ∧ y < s 1 - 1) : ∀ (q n : Nat) (x : Int) (t : RLt) (c : Mem), x + q = s 0 - 1 → q < n → 0 ≤ x → t.2 ≤ 90 + 3 * (8 * y + x).toNat → RC c 0 s → RWc c t → ∃ c2 t2, K_X11_report_108 fu k90 n (zi y) (zi x) c = k90 (zi (y + 1)) c2 ∧ RC c2 0 s ∧ RWc c2 t2 ∧ wKl s (64 - (8 * y + x).toNat) (8 * y + x).toNat t = wKl s (64 - (8 * (y + 1)).toNat) (8 * (y + 1)).toNat t2 ∧ t2.2 ≤ 90 + 3 * (8 * (y + 1)).toNat ∧ Fr PRc c c2 := by
  obtain ⟨hz, hc, hW, hp, hb, hwp, hds, hrk, hwy⟩ := hI
  have hz2 := hz
  obtain ⟨⟨w1, w2⟩, w3, w4⟩ := hz2
  intro q
  induction q with
  | zero =>
    intro n x t c hx hn hx0 ht hR hT
    obtain ⟨n, rfl⟩ : ∃ f, n = f + 1 := ⟨n - 1, by omega⟩
    rw [K_X11_report_108]
    simp (disch := omega) only [zi_lit, zl_lit, zi_add, zi_sub, zi_mul, zi_neg, zi_lt, zi_inj, zi_clamp, zl_of, gi_zi, bd_s, ltf, bi_0, bi_1, gb_bi, Int.reduceToNat, Int.reduceNeg, Int.toNat_natCast, hR.1.1]
    rw [if_neg (by omega)]
    refine ⟨c, t, rfl, hR, hT, ?_, by omega, Fr_rf _ c⟩
    have h := wK_gap (s := s) ((8 * (y + 1)).toNat - (8 * y + x).toNat) (8 * y + x).toNat t (by omega) (fun j h1 h2 => wl_out hwp (by omega) (by
      cases h : isPl s ((j % 8 : Nat) : Int) ((j / 8 : Nat) : Int) with
      | false => rfl
      | true =>
        have := isPl_iff.mp h
        omega))
    rw [show (8 * y + x).toNat + ((8 * (y + 1)).toNat - (8 * y + x).toNat) = (8 * (y + 1)).toNat by omega] at h
    exact h
  | succ q ih =>
    intro n x t c hx hn hx0 ht hR hT
    obtain ⟨n, rfl⟩ : ∃ f, n = f + 1 := ⟨n - 1, by omega⟩
    have hpl : isPl s x y = true := isPl_iff.mpr ⟨⟨hx0, by omega⟩, hy.1, by omega⟩
    obtain ⟨c2, a1, a2, a3, a4⟩ := c_wWall fu hz hW hpl hR hT (by omega)
    have hn3 := stW_n s (8 * y + x).toNat t
    obtain ⟨c3, t3, b1, b2, b3, b4, b5, b6⟩ := ih n (x + 1) _ c2 (by omega) (by omega) (by omega) (by omega) a2 a3
    rw [K_X11_report_108]
    simp (disch := omega) only [zi_lit, zl_lit, zi_add, zi_sub, zi_mul, zi_neg, zi_lt, zi_inj, zi_clamp, zl_of, gi_zi, bd_s, ltf, bi_0, bi_1, gb_bi, Int.reduceToNat, Int.reduceNeg, Int.toNat_natCast, hR.1.1, a1]
    rw [if_pos (by omega)]
    refine ⟨c3, t3, b1, b2, b3, ?_, b5, Fr_tr a4 b6⟩
    rw [wK_s (by omega), show (8 * y + x).toNat + 1 = (8 * y + (x + 1)).toNat by omega]
    exact b4
theorem c_rp90 (fu : Nat) (hfu : 1000 ≤ fu) {s : Nat → Int} (hI : Inv s) : ∀ (q n : Nat) (y : Int) (t : RLt) (c : Mem), y + q = s 1 - 1 → q < n → 0 ≤ y → t.2 ≤ 90 + 3 * (8 * y).toNat → RC c 0 s → RWc c t → ∃ c2, K_X11_report_90 fu n (zi y) c = some (zi ((wKl s (64 - (8 * y).toNat) (8 * y).toNat t).2 : Int), c2) ∧ RC c2 0 s ∧ RWc c2 (wKl s (64 - (8 * y).toNat) (8 * y).toNat t) ∧ Fr PRc c c2 := by
  have hI' := hI
  obtain ⟨hz, hc, hW, hp, hb, hwp, hds, hrk, hwy⟩ := hI'
  have hz2 := hz
  obtain ⟨⟨w1, w2⟩, w3, w4⟩ := hz2
  have lo : ∀ k j, 35 ≤ k → PRc k j = false := fun k j hk => by
    unfold PRc
    simp
    omega
  intro q
  induction q with
  | zero =>
    intro n y t c hx hn hx0 ht hR hT
    obtain ⟨n, rfl⟩ : ∃ f, n = f + 1 := ⟨n - 1, by omega⟩
    have h := wK_gap (s := s) (64 - (8 * y).toNat) (8 * y).toNat t (by omega) (fun j h1 h2 => wl_out hwp (by omega) (by
      cases h : isPl s ((j % 8 : Nat) : Int) ((j / 8 : Nat) : Int) with
      | false => rfl
      | true =>
        have := isPl_iff.mp h
        omega))
    rw [show (8 * y).toNat + (64 - (8 * y).toNat) = 64 by omega] at h
    have h' : wKl s (64 - (8 * y).toNat) (8 * y).toNat t = psh t 10 := h
    rw [h']
    obtain ⟨c2, a1, a2, a3⟩ := c_wB fu hT (by omega) (v := 10) (by omega) (by omega)
    rw [K_X11_report_90]
    simp (disch := omega) only [zi_lit, zl_lit, zi_add, zi_sub, zi_mul, zi_neg, zi_lt, zi_inj, zi_clamp, zl_of, gi_zi, bd_s, ltf, bi_0, bi_1, gb_bi, Int.reduceToNat, Int.reduceNeg, Int.toNat_natCast, hR.1.2.1, a1, a2.1]
    rw [if_neg (by omega)]
    exact ⟨c2, rfl, RC_fr a3 lo hR, a2, a3⟩
  | succ q ih =>
    intro n y t c hx hn hx0 ht hR hT
    obtain ⟨n, rfl⟩ : ∃ f, n = f + 1 := ⟨n - 1, by omega⟩
    obtain ⟨c2, t2, a1, a2, a3, a4, a5, a6⟩ := c_rp108 fu hfu hI (K_X11_report_90 fu n) (y := y) ⟨hx0, by omega⟩ (s 0 - 1).toNat fu 0 t c (by omega) (by omega) (by omega) (by rw [Int.add_zero]; exact ht) hR hT
    rw [Int.add_zero] at a4
    obtain ⟨c3, b1, b2, b3, b4⟩ := ih n (y + 1) t2 c2 (by omega) (by omega) (by omega) a5 a2 a3
    rw [← a4] at b1 b3
    rw [K_X11_report_90]
    simp (disch := omega) only [zi_lit, zl_lit, zi_add, zi_sub, zi_mul, zi_neg, zi_lt, zi_inj, zi_clamp, zl_of, gi_zi, bd_s, ltf, bi_0, bi_1, gb_bi, Int.reduceToNat, Int.reduceNeg, Int.toNat_natCast, hR.1.2.1]
    rw [if_pos (by omega)]
    exact ⟨c3, a1.trans b1, b2, b3, Fr_tr a6 b4⟩
theorem hw_le {s : Nat → Int} (hz : szO s) : (s 1).toNat * ((s 0).toNat + 1) ≤ 90 := by
  obtain ⟨⟨w1, w2⟩, w3, w4⟩ := hz
  have h1 : (s 1).toNat ≤ 9 := by omega
  have h2 : (s 0).toNat + 1 ≤ 10 := by omega
  exact Nat.mul_le_mul h1 h2
theorem c_report (fu : Nat) (hfu : 1000 ≤ fu) {s : Nat → Int} (hI : Inv s) {c : Mem} (hR : RC c 0 s) : ∃ c2, K_X11_report fu c = some (zi ((rpS s).2 : Int), c2) ∧ RC c2 0 s ∧ RWc c2 (rpS s) ∧ Fr PRc c c2 := by
  have hz := hI.1
  have hz2 := hz
  obtain ⟨⟨w1, w2⟩, w3, w4⟩ := hz2
  have lo : ∀ k j, 35 ≤ k → PRc k j = false := fun k j hk => by
    unfold PRc
    simp
    omega
  have f0 : Fr PRc c (mw c 0 13 (zi 0)) := Fr_mw _ _ rfl
  have hR0 := RC_fr f0 lo hR
  have hle := hw_le hz
  obtain ⟨c1, a1, a2, a3, a4⟩ := c_rp18 fu hfu hI (s 1).toNat fu (fun _ => 0, 0) (mw c 0 13 (zi 0)) (by omega) (by omega) (by show 0 + _ ≤ 90; omega) hR0 ⟨by rw [rd_mw, if_pos ⟨rfl, rfl⟩]; rfl, fun i hi => absurd hi (Nat.not_lt_zero i)⟩
  obtain ⟨c2, b1, b2, b3, b4⟩ := c_rp90 fu hfu hI (s 1 - 1).toNat fu 0 _ c1 (by omega) (by omega) (by omega) (by rw [rY_n]; show 0 + _ ≤ _; omega) a2 a3
  refine ⟨c2, ?_, b2, b3, Fr_tr (Fr_tr f0 a4) b4⟩
  unfold K_X11_report
  simp (disch := omega) only [zi_lit, zl_lit, zi_add, zi_sub, zi_mul, zi_neg, zi_lt, zi_inj, zi_clamp, zl_of, gi_zi, bd_s, ltf, bi_0, bi_1, gb_bi, Int.reduceToNat, Int.reduceNeg, Int.toNat_natCast, hR0.1.2.1]
  rw [show s 1 - 1 = ((s 1).toNat : Int) - 1 by omega]
  exact a1.trans b1
/-- the reference's -/
theorem m_rp30 (fu : Nat) (hfu : 1000 ≤ fu) {s : Nat → Int} (hI : Inv s) (k24 : Int32 → Mem → Option (Int32 × Mem)) {y : Int} (hy : 0 ≤ y ∧ y < s 1) : ∀ (q n : Nat) (x : Int) (t : RLt) (m : Mem), x + q = s 0 → q < n → 0 ≤ x → t.2 + q < 283 → MS m s → RWm m t → ∃ m2, K_X12_report_30 fu k24 n (zi y) (zi x) m = k24 (zi (y - 1)) m2 ∧ RWm m2 (rX s y q x t) ∧ Fr PRm m m2 := by
  obtain ⟨hz, hc, hW, hp, hb, hwp, hds, hrk, hwy⟩ := hI
  have hz2 := hz
  obtain ⟨⟨w1, w2⟩, w3, w4⟩ := hz2
  have c1 := hc.1
  intro q
  induction q with
  | zero =>
    intro n x t m hx hn hx0 ht hS hT
    obtain ⟨n, rfl⟩ : ∃ f, n = f + 1 := ⟨n - 1, by omega⟩
    obtain ⟨m2, a1, a2, a3⟩ := m_tell fu hT (by omega) 10
    rw [K_X12_report_30]
    simp (disch := omega) only [zi_lit, zl_lit, zi_add, zi_sub, zi_mul, zi_neg, zi_lt, zi_inj, zi_clamp, zl_of, gi_zi, bd_s, ltf, bi_0, bi_1, gb_bi, Int.reduceToNat, Int.reduceNeg, Int.toNat_natCast, hS _, a1]
    rw [if_neg (by omega)]
    exact ⟨m2, rfl, a2, a3⟩
  | succ q ih =>
    intro n x t m hx hn hx0 ht hS hT
    obtain ⟨n, rfl⟩ : ∃ f, n = f + 1 := ⟨n - 1, by omega⟩
    have hpo := m_pawnIn fu hfu hS hz c1 hc.2.2.2.1.2 hc.2.2.2.2.1.2 hp (x := x) (y := y) (by omega) (by omega)
    have hsp := pI_sp c1.1 x y
    obtain ⟨m2, a1, a2, a3⟩ := m_tell fu hT (by omega) (chP s x y)
    obtain ⟨m3, b1, b2, b3⟩ := ih n (x + 1) _ m2 (by omega) (by omega) (by omega) (by show t.2 + 1 + q < 283; omega) (MS_fr a3 (fun _ => rfl) hS) a2
    rw [K_X12_report_30]
    unfold K_X12_report_65
    simp (disch := omega) only [zi_lit, zl_lit, zi_add, zi_sub, zi_mul, zi_neg, zi_lt, zi_inj, zi_clamp, zl_of, gi_zi, bd_s, ltf, bi_0, bi_1, gb_bi, Int.reduceToNat, Int.reduceNeg, Int.toNat_natCast, hS _, hpo]
    rw [if_pos (by omega)]
    refine ⟨m3, ?_, b2, Fr_tr a3 b3⟩
    rw [← b1]
    by_cases q1 : pI s x y = -1
    · rw [if_pos (by omega)]
      unfold chP at a1
      rw [if_pos q1] at a1
      rw [a1]
      rfl
    · rw [if_neg (by omega)]
      unfold chP at a1
      rw [if_neg q1] at a1
      rw [a1]
      rfl
theorem m_rp24 (fu : Nat) (hfu : 1000 ≤ fu) {s : Nat → Int} (hI : Inv s) : ∀ (q n : Nat) (t : RLt) (m : Mem), (q : Int) ≤ s 1 → q < n → t.2 + q * ((s 0).toNat + 1) ≤ 90 → MS m s → RWm m t → ∃ m2, K_X12_report_24 fu n (zi ((q : Int) - 1)) m = K_X12_report_88 fu fu (zi 0) m2 ∧ RWm m2 (rY s q t) ∧ Fr PRm m m2 := by
  have hz2 := hI.1
  obtain ⟨⟨w1, w2⟩, w3, w4⟩ := hz2
  intro q
  induction q with
  | zero =>
    intro n t m hq hn ht hS hT
    obtain ⟨n, rfl⟩ : ∃ f, n = f + 1 := ⟨n - 1, by omega⟩
    rw [K_X12_report_24]
    simp (disch := omega) only [zi_lit, zl_lit, zi_add, zi_sub, zi_mul, zi_neg, zi_lt, zi_inj, zi_clamp, zl_of, gi_zi, bd_s, ltf, bi_0, bi_1, gb_bi, Int.reduceToNat, Int.reduceNeg, Int.toNat_natCast]
    rw [if_pos (by omega)]
    exact ⟨m, rfl, hT, Fr_rf _ m⟩
  | succ q ih =>
    intro n t m hq hn ht hS hT
    obtain ⟨n, rfl⟩ : ∃ f, n = f + 1 := ⟨n - 1, by omega⟩
    rw [Nat.succ_mul] at ht
    obtain ⟨m2, a1, a2, a3⟩ := m_rp30 fu hfu hI (K_X12_report_24 fu n) (y := (q : Int)) (by omega) (s 0).toNat fu 0 t m (by omega) (by omega) (by omega) (by omega) hS hT
    obtain ⟨m3, b1, b2, b3⟩ := ih n _ m2 (by omega) (by omega) (by rw [rX_n]; omega) (MS_fr a3 (fun _ => rfl) hS) a2
    rw [K_X12_report_24, show ((q + 1 : Nat) : Int) - 1 = (q : Int) by omega]
    simp (disch := omega) only [zi_lit, zl_lit, zi_add, zi_sub, zi_mul, zi_neg, zi_lt, zi_inj, zi_clamp, zl_of, gi_zi, bd_s, ltf, bi_0, bi_1, gb_bi, Int.reduceToNat, Int.reduceNeg, Int.toNat_natCast]
    rw [if_neg (by omega)]
    exact ⟨m3, a1.trans b1, b2, Fr_tr a3 b3⟩
theorem m_rp88 (fu : Nat) (hfu : 1000 ≤ fu) {s : Nat → Int} (hI : Inv s) : ∀ (q n k : Nat) (t : RLt) (m : Mem), k + q = 64 → q < n → t.2 ≤ 90 + 3 * k → MS m s → RWm m t → ∃ m2, K_X12_report_88 fu n (zi (k : Int)) m = some (zi ((wKl s q k t).2 : Int), m2) ∧ RWm m2 (wKl s q k t) ∧ Fr PRm m m2 := by
  intro q
  induction q with
  | zero =>
    intro n k t m hk hn ht hS hT
    obtain ⟨n, rfl⟩ : ∃ f, n = f + 1 := ⟨n - 1, by omega⟩
    obtain ⟨m2, a1, a2, a3⟩ := m_tell fu hT (by omega) 10
    rw [K_X12_report_88]
    simp (disch := omega) only [zi_lit, zl_lit, zi_add, zi_sub, zi_mul, zi_neg, zi_lt, zi_inj, zi_clamp, zl_of, gi_zi, bd_s, ltf, bi_0, bi_1, gb_bi, Int.reduceToNat, Int.reduceNeg, Int.toNat_natCast, a1, a2.1]
    rw [if_neg (by omega)]
    exact ⟨m2, rfl, a2, a3⟩
  | succ q ih =>
    intro n k t m hk hn ht hS hT
    obtain ⟨n, rfl⟩ : ∃ f, n = f + 1 := ⟨n - 1, by omega⟩
    have hw := hI.2.2.1 (120 + k) (by omega) (by omega)
    have i1 : (120 + (k : Int)).toNat = 120 + k := by omega
    have e1 : (k : Int) - (k : Int) / 8 * 8 = ((k % 8 : Nat) : Int) := by omega
    have e2 : (k : Int) / 8 = ((k / 8 : Nat) : Int) := by omega
    have hn3 := stW_n s k t
    have go : ∀ v : Int, ∃ m2, K_X12_report_124 fu (K_X12_report_88 fu n) (zi (k : Int)) (zi v) m = K_X12_report_88 fu n (zi ((k + 1 : Nat) : Int)) m2 ∧ RWm m2 (psh (psh (psh t v) (48 + ((k % 8 : Nat) : Int))) (48 + ((k / 8 : Nat) : Int))) ∧ Fr PRm m m2 := fun v => by
      obtain ⟨m1, a1, a2, a3⟩ := m_tell fu hT (by omega) v
      obtain ⟨m2, b1, b2, b3⟩ := m_tell fu a2 (show t.2 + 1 < 400 by omega) (48 + ((k % 8 : Nat) : Int))
      obtain ⟨m3, d1, d2, d3⟩ := m_tell fu b2 (show t.2 + 1 + 1 < 400 by omega) (48 + ((k / 8 : Nat) : Int))
      refine ⟨m3, ?_, d2, Fr_tr (Fr_tr a3 b3) d3⟩
      unfold K_X12_report_124
      simp (disch := omega) only [zi_lit, zl_lit, zi_add, zi_sub, zi_mul, zi_neg, zi_lt, zi_inj, zi_clamp, zl_of, gi_zi, bd_s, ltf, bi_0, bi_1, gb_bi, Int.reduceToNat, Int.reduceNeg, Int.toNat_natCast, zi_div, a1]
      rw [e1]
      simp (disch := omega) only [zi_lit, zl_lit, zi_add, zi_sub, zi_mul, zi_neg, zi_lt, zi_inj, zi_clamp, zl_of, gi_zi, bd_s, ltf, bi_0, bi_1, gb_bi, Int.reduceToNat, Int.reduceNeg, Int.toNat_natCast, b1]
      rw [e2]
      simp (disch := omega) only [zi_lit, zl_lit, zi_add, zi_sub, zi_mul, zi_neg, zi_lt, zi_inj, zi_clamp, zl_of, gi_zi, bd_s, ltf, bi_0, bi_1, gb_bi, Int.reduceToNat, Int.reduceNeg, Int.toNat_natCast, d1]
      rfl
    rw [K_X12_report_88]
    simp (disch := omega) only [zi_lit, zl_lit, zi_add, zi_sub, zi_mul, zi_neg, zi_lt, zi_inj, zi_clamp, zl_of, gi_zi, bd_s, ltf, bi_0, bi_1, gb_bi, Int.reduceToNat, Int.reduceNeg, Int.toNat_natCast, i1, hS (120 + k)]
    rw [if_pos (by omega), wKl]
    have eT : stW s k t = if s (120 + k) = 0 then t else psh (psh (psh t (if s (120 + k) = 1 then 45 else 124)) (48 + ((k % 8 : Nat) : Int))) (48 + ((k / 8 : Nat) : Int)) := rfl
    by_cases q0 : s (120 + k) = 0
    · rw [if_pos q0]
      rw [if_pos q0] at eT
      rw [eT]
      exact ih n (k + 1) t m (by omega) (by omega) (by omega) hS hT
    · rw [if_neg q0]
      rw [if_neg q0] at eT
      by_cases q1 : s (120 + k) = 1
      · rw [if_pos q1]
        rw [if_pos q1] at eT
        obtain ⟨m2, a1, a2, a3⟩ := go 45
        rw [← eT] at a2
        obtain ⟨m3, b1, b2, b3⟩ := ih n (k + 1) _ m2 (by omega) (by omega) (by omega) (MS_fr a3 (fun _ => rfl) hS) a2
        exact ⟨m3, a1.trans b1, b2, Fr_tr a3 b3⟩
      · rw [if_neg q1]
        rw [if_neg q1] at eT
        obtain ⟨m2, a1, a2, a3⟩ := go 124
        rw [← eT] at a2
        obtain ⟨m3, b1, b2, b3⟩ := ih n (k + 1) _ m2 (by omega) (by omega) (by omega) (MS_fr a3 (fun _ => rfl) hS) a2
        exact ⟨m3, a1.trans b1, b2, Fr_tr a3 b3⟩
def PRn (k j : Nat) : Bool := PRm k j || (k == 0 && (j == 0 || j == 49))
theorem PRn_m {k j : Nat} (h : PRn k j = false) : PRm k j = false := by
  unfold PRn at h
  rw [Bool.or_eq_false_iff] at h
  exact h.1
theorem m_report (fu : Nat) (hfu : 1000 ≤ fu) {s : Nat → Int} (hI : Inv s) {m : Mem} (hS : MS m s) : ∃ m2, K_X12_report fu m = some (zi ((rpS s).2 : Int), m2) ∧ RWm m2 (rpS s) ∧ rd m2 0 49 = zi 1 ∧ rd m2 0 0 = zi 0 ∧ Fr PRn m m2 := by
  have hz := hI.1
  have hz2 := hz
  obtain ⟨⟨w1, w2⟩, w3, w4⟩ := hz2
  have f0 : Fr PRn m (mw (mw (mw m 0 0 (zi 0)) 0 48 (zi 0)) 0 49 (zi 1)) := Fr_tr (Fr_tr (Fr_mw _ _ rfl) (Fr_mw _ _ rfl)) (Fr_mw _ _ rfl)
  have hS0 : MS (mw (mw (mw m 0 0 (zi 0)) 0 48 (zi 0)) 0 49 (zi 1)) s := MS_fr f0 (fun _ => rfl) hS
  have hle := hw_le hz
  obtain ⟨m1, a1, a2, a3⟩ := m_rp24 fu hfu hI (s 1).toNat fu (fun _ => 0, 0) _ (by omega) (by omega) (by show 0 + _ ≤ 90; omega) hS0 ⟨by rw [rd_mw, if_neg (by decide), rd_mw, if_pos ⟨rfl, rfl⟩]; rfl, fun i hi => absurd hi (Nat.not_lt_zero i)⟩
  obtain ⟨m2, b1, b2, b3⟩ := m_rp88 fu hfu hI 64 fu 0 _ m1 (by omega) (by omega) (by rw [rY_n]; show 0 + _ ≤ _; omega) (MS_fr a3 (fun _ => rfl) hS0) a2
  have f1 := Fr_tr a3 b3
  refine ⟨m2, ?_, b2, ?_, ?_, Fr_tr f0 (Fr_mono f1 (fun _ _ => PRn_m))⟩
  · have e1 : K_X12_report_24 fu fu (zi (((s 1).toNat : Int) - 1)) (mw (mw (mw m 0 0 (zi 0)) 0 48 (zi 0)) 0 49 (zi 1)) = some (zi ((rpS s).2 : Int), m2) := a1.trans b1
    unfold K_X12_report
    simp (disch := omega) only [zi_lit, zl_lit, zi_add, zi_sub, zi_mul, zi_neg, zi_lt, zi_inj, zi_clamp, zl_of, gi_zi, bd_s, ltf, bi_0, bi_1, gb_bi, Int.reduceToNat, Int.reduceNeg, Int.toNat_natCast, hS0 _]
    rw [show s 1 - 1 = ((s 1).toNat : Int) - 1 by omega]
    exact e1
  · rw [f1.1 _ _ rfl, rd_mw, if_pos ⟨rfl, rfl⟩]
  · rw [f1.1 _ _ rfl, rd_mw, if_neg (by decide), rd_mw, if_neg (by decide), rd_mw, if_pos ⟨rfl, rfl⟩]
end REPORTS
