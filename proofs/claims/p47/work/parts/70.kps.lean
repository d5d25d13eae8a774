section KEEPS
def hi0 (s : Nat → Int) : Prop := ∀ j : Nat, 184 ≤ j → s j = 0
def InvH (s : Nat → Int) : Prop := Inv s ∧ hi0 s
theorem MS_row {m : Mem} {s : Nat → Int} (h : ∀ j, j < 184 → rd m 2 j = zi (s j)) (h2 : ∀ j, 184 ≤ j → rd m 2 j = zi 0) (hs : hi0 s) : MS m s := fun j => by
  by_cases q : j < 184
  · exact h j q
  · rw [h2 j (by omega), hs j (by omega)]
theorem MS_hi {m : Mem} {s : Nat → Int} (h : MS m s) (hs : hi0 s) : ∀ j, 184 ≤ j → rd m 2 j = zi 0 := fun j hj => by
  rw [h j, hs j hj]
theorem hi0_up {s : Nat → Int} {i : Nat} {v : Int} (h : hi0 s) (hi : i < 184) : hi0 (up1 s i v) := fun j hj => (up1_ne (by omega)).trans (h j hj)
theorem hi0_et {s : Nat → Int} (h : hi0 s) : hi0 (etS s) := hi0_up (hi0_up h (by decide)) (by decide)
theorem hi0_mv {s : Nat → Int} (h : hi0 s) {p g : Int} {d : Nat} (hp : 0 ≤ p) (hp3 : p ≤ 3) : hi0 (mvSt s p g d) := by
  refine hi0_et ?_
  have h4 : hi0 (mvd s p g d) := hi0_up (hi0_up (hi0_up (hi0_up h (by omega)) (by omega)) (by omega)) (by omega)
  unfold mve
  split
  · exact hi0_up (hi0_up h4 (by decide)) (by omega)
  · exact h4
theorem hi0_bd {s : Nat → Int} (h : hi0 s) {x y v : Int} (h7 : 0 ≤ s 7) (h73 : s 7 ≤ 3) (hx : x ≤ 7) (hy : y ≤ 7) : hi0 (bdS s x y v) := hi0_et (fun j hj => by
  rw [bw_hi h7 h73 (by omega)]
  unfold sw
  rw [if_neg (by omega)]
  exact h j hj)
theorem InvH_et {s : Nat → Int} (h : InvH s) (ho : ovB s = false) : InvH (etS s) := by
  have := ov_2 h.1.2.1 ho
  exact ⟨Inv_et h.1 this.2.1 (by omega), hi0_et h.2⟩
theorem InvH_mv {s : Nat → Int} (h : InvH s) {p : Nat} (hps : (p : Int) < s 2) {d : Nat} (hd : d < 4) (hg : gB s p d ≠ 0) : InvH (mvSt s p (gB s p d) d) := by
  have := h.1.2.1.1
  exact ⟨Inv_mv h.1 hps hd hg, hi0_mv h.2 (by omega) (by omega)⟩
theorem InvH_bd {s : Nat → Int} (h : InvH s) {x y v : Int} (hpl : isPl s x y = true) (hv : v = 1 ∨ v = 2) (had : adB s x y v = true) (ho : ovB s = false) (h3 : 0 < pg s (s 7) 3) : InvH (bdS s x y v) := by
  have c7 := h.1.2.1.2.2.2.2.2.1
  have hp := isPl_iff.mp hpl
  have hz := h.1.1
  obtain ⟨⟨w1, w2⟩, w3, w4⟩ := hz
  exact ⟨Inv_bd h.1 hpl hv had ho h3, hi0_bd h.2 c7.1 c7.2 (by omega) (by omega)⟩
theorem InvH_adv {s : Nat → Int} (h : InvH s) (ho : ovB s = false) : InvH (adv1 s) := by
  have hov := ov_2 h.1.2.1 ho
  have h7 := nat7 h.1.2.1
  unfold adv1
  rcases avS_sp s (s 7) with q | ⟨e, h1, h2, h3⟩
  · rw [if_pos q]
    exact InvH_et h ho
  · rw [if_neg (by omega), h1, Int.toNat_natCast, ← h7]
    rw [← h7] at h3
    exact InvH_mv h (by omega) h2 h3
theorem InvH_on {s : Nat → Int} (h : InvH s) (ho : ovB s = false) (mode : Int) : InvH (onS s mode) := by
  unfold onS
  by_cases c : mode = 1 ∧ rvS s ≠ -1 ∧ 1 ≤ (bstB s (rvS s)).1
  · rw [if_pos c]
    have hs2 := h.1.2.1.1
    rcases rvS_sp hs2.1 with q | ⟨h1, h2, h3, h4⟩
    · exact absurd q c.2.1
    · obtain ⟨g1, g2⟩ := bst_sp h.1 h1 h2
      obtain ⟨k1, k2, k3, k4, k5, k6, k7⟩ := g2 (by omega)
      exact InvH_bd h k3 (by omega) k4 ho h4
  · rw [if_neg c]
    exact InvH_adv h ho
theorem InvH_pl (mode : Int) : ∀ (q : Nat) (s : Nat → Int) (k : Nat), InvH s → InvH (plS mode q s k).1 := by
  intro q
  induction q with
  | zero => exact fun s k h => h
  | succ q ih =>
    intro s k h
    rw [plS]
    cases ho : ovB s with
    | true =>
      rw [if_pos rfl]
      exact h
    | false =>
      rw [if_neg (by decide)]
      exact ih _ _ (InvH_on h ho mode)
/-- the races that can be gone back to -/
def kpU (u : Nat) : Nat := if u < 6 then u + 1 else 6
def kpP (u : Nat) (ps : Nat → Nat → Int) (s : Nat → Int) : Nat → Nat → Int := fun i => if i + 1 = kpU u then s else ps (i + (u + 1 - kpU u))
def HSc (c : Mem) (u : Nat) (ps : Nat → Nat → Int) : Prop := ∃ nx : Nat, nx < 6 ∧ rd c 33 1 = zi (nx : Int) ∧ rd c 33 2 = zi (u : Int) ∧ ∀ i, i < u → RC c (4 + (nx + 6 - u + i) % 6) (ps i)
def HSm (m : Mem) (u : Nat) (ps : Nat → Nat → Int) : Prop := rd m 0 18 = zi (u : Int) ∧ ∀ i j, i < u → j < 184 → rd m 4 (184 * i + j) = zi (ps i j)
def PK (k _ : Nat) : Bool := k == 33 || decide (123 ≤ k)
def P33 (k _ : Nat) : Bool := k == 33
theorem PK_ZR {r k j : Nat} (hr : 4 ≤ r) (h : PK k j = false) : ZR r k j = false := by
  unfold PK at h
  rw [Bool.or_eq_false_iff, decide_eq_false_iff_not] at h
  unfold ZR
  rw [Bool.and_eq_false_iff, decide_eq_false_iff_not, decide_eq_false_iff_not]
  omega
theorem PK_33 {k j : Nat} (h : PK k j = false) : P33 k j = false := by
  unfold PK at h
  rw [Bool.or_eq_false_iff] at h
  exact h.1
theorem P33_hi {k j : Nat} (h : 35 ≤ k) : P33 k j = false := by
  unfold P33
  simp
  omega
theorem RC_33 {m1 m2 : Mem} {r : Nat} {s : Nat → Int} (f : Fr P33 m1 m2) (hR : RC m1 r s) : RC m2 r s := RC_fr f (fun _ _ h => P33_hi h) hR
theorem c_keep (fu : Nat) (hfu : 1000 ≤ fu) {c : Mem} {u : Nat} {ps : Nat → Nat → Int} {s : Nat → Int} (hu : u ≤ 6) (hH : HSc c u ps) (hR : RC c 0 s) : ∃ c2, K_X3_keep fu 0 c = some c2 ∧ HSc c2 (kpU u) (kpP u ps s) ∧ RC c2 0 s ∧ Fr PK c c2 := by
  obtain ⟨nx, h1, h2, h3, h4⟩ := hH
  obtain ⟨m2, a1, a2, a3⟩ := c_copy fu hfu (r := 4 + nx) (r1 := 0) (by omega) hR
  have f1 : Fr PK c m2 := Fr_mono a3 (fun k j h => PK_ZR (by omega) h)
  have g1 : rd m2 33 1 = zi (nx : Int) := (a3.1 _ _ (ZR_lo (by decide))).trans h2
  have g2 : rd m2 33 2 = zi (u : Int) := (a3.1 _ _ (ZR_lo (by decide))).trans h3
  have hk : kpU u ≤ 6 ∧ 1 ≤ kpU u ∧ (u < 6 → kpU u = u + 1) ∧ (u = 6 → kpU u = 6) := by
    unfold kpU
    split <;> omega
  have fin : ∀ nx2 : Nat, nx2 < 6 → (nx2 = nx + 1 ∨ (nx = 5 ∧ nx2 = 0)) → ∃ c2, K_X3_keep_35 fu 0 (zi (nx2 : Int)) m2 = some c2 ∧ HSc c2 (kpU u) (kpP u ps s) ∧ RC c2 0 s ∧ Fr PK c c2 := fun nx2 hn2 hn => by
    have r2 : rd (mw m2 33 1 (zi (nx2 : Int))) 33 2 = zi (u : Int) := by
      rw [rd_mw, if_neg (by decide)]
      exact g2
    have f2 : Fr P33 m2 (mw (mw m2 33 1 (zi (nx2 : Int))) 33 2 (zi (kpU u : Int))) := Fr_tr (Fr_mw _ _ rfl) (Fr_mw _ _ rfl)
    refine ⟨mw (mw m2 33 1 (zi (nx2 : Int))) 33 2 (zi (kpU u : Int)), ?_, ⟨nx2, hn2, by rw [rd_mw, if_neg (by decide), rd_mw, if_pos ⟨rfl, rfl⟩], by rw [rd_mw, if_pos ⟨rfl, rfl⟩], fun i hi => ?_⟩, RC_33 f2 (RC_o (by omega) a3 hR), Fr_tr f1 (Fr_mono f2 (fun _ _ => PK_33))⟩
    · unfold K_X3_keep_35 K_J9_min_7cf53
      simp (disch := omega) only [zi_lit, zl_lit, zi_add, zi_sub, zi_mul, zi_neg, zi_lt, zi_inj, zi_clamp, zl_of, gi_zi, bd_s, ltf, bi_0, bi_1, gb_bi, Int.reduceToNat, Int.reduceNeg, Int.toNat_natCast, r2]
      by_cases q : u < 6
      · rw [if_neg (by omega), hk.2.2.1 q]
        rfl
      · rw [if_pos (by omega), hk.2.2.2 (by omega)]
        rfl
    · refine RC_33 f2 ?_
      unfold kpP
      by_cases q : i + 1 = kpU u
      · rw [if_pos q, show (nx2 + 6 - kpU u + i) % 6 = nx by omega]
        exact a2
      · rw [if_neg q]
        have hx : (nx2 + 6 - kpU u + i) % 6 = (nx + 6 - u + (i + (u + 1 - kpU u))) % 6 := by omega
        rw [hx]
        refine RC_o ?_ a3 (h4 _ (by omega))
        omega
  unfold K_X3_keep
  rw [show 4 + Int32.toNatClampNeg (rd c 33 1) = 4 + nx by rw [h2, zi_clamp (by omega) (by omega), Int.toNat_natCast], a1]
  simp (disch := omega) only [zi_lit, zl_lit, zi_add, zi_sub, zi_mul, zi_neg, zi_lt, zi_inj, zi_clamp, zl_of, gi_zi, bd_s, ltf, bi_0, bi_1, gb_bi, Int.reduceToNat, Int.reduceNeg, Int.toNat_natCast, h2, g1]
  by_cases q : nx + 1 < 6
  · rw [if_pos (by omega)]
    exact fin (nx + 1) q (Or.inl rfl)
  · rw [if_neg (by omega)]
    exact fin 0 (by decide) (Or.inr ⟨by omega, rfl⟩)
def PU (k j : Nat) : Bool := k == 33 || ZR 0 k j
theorem c_takeB (fu : Nat) (hfu : 1000 ≤ fu) {c : Mem} {u : Nat} {ps : Nat → Nat → Int} (hu : u ≤ 6) (hH : HSc c u ps) : (u = 0 ∧ K_X3_takeBack fu 0 c = some (0, c)) ∨ (0 < u ∧ ∃ c2, K_X3_takeBack fu 0 c = some (zi 1, c2) ∧ HSc c2 (u - 1) ps ∧ RC c2 0 (ps (u - 1)) ∧ Fr PU c c2) := by
  obtain ⟨nx, h1, h2, h3, h4⟩ := hH
  unfold K_X3_takeBack
  simp (disch := omega) only [zi_lit, zl_lit, zi_add, zi_sub, zi_mul, zi_neg, zi_lt, zi_inj, zi_clamp, zl_of, gi_zi, bd_s, ltf, bi_0, bi_1, gb_bi, Int.reduceToNat, Int.reduceNeg, Int.toNat_natCast, h2, h3]
  by_cases c0 : u = 0
  · refine Or.inl ⟨c0, ?_⟩
    rw [if_pos (by omega)]
  · refine Or.inr ⟨by omega, ?_⟩
    rw [if_neg (by omega)]
    have fin : ∀ nx2 : Nat, nx2 < 6 → (nx = nx2 + 1 ∨ (nx = 0 ∧ nx2 = 5)) → ∃ c2, K_X3_takeBack_27 fu 0 (zi (nx2 : Int)) c = some (zi 1, c2) ∧ HSc c2 (u - 1) ps ∧ RC c2 0 (ps (u - 1)) ∧ Fr PU c c2 := fun nx2 hn2 hn => by
      have f0 : Fr P33 c (mw c 33 1 (zi (nx2 : Int))) := Fr_mw _ _ rfl
      have hl := h4 (u - 1) (by omega)
      rw [show (nx + 6 - u + (u - 1)) % 6 = nx2 by omega] at hl
      obtain ⟨m2, a1, a2, a3⟩ := c_copy fu hfu (r := 0) (r1 := 4 + nx2) (by omega) (RC_33 f0 hl)
      have g1 : rd (mw c 33 1 (zi (nx2 : Int))) 33 1 = zi (nx2 : Int) := by rw [rd_mw, if_pos ⟨rfl, rfl⟩]
      have g2 : rd m2 33 2 = zi (u : Int) := by
        rw [a3.1 _ _ (ZR_lo (by decide)), rd_mw, if_neg (by decide)]
        exact h3
      have f2 : Fr P33 m2 (mw m2 33 2 (zi ((u : Int) - 1))) := Fr_mw _ _ rfl
      refine ⟨mw m2 33 2 (zi ((u : Int) - 1)), ?_, ⟨nx2, hn2, ?_, ?_, fun i hi => ?_⟩, RC_33 f2 a2, ?_⟩
      · unfold K_X3_takeBack_27
        rw [ltf]
        rw [show 4 + Int32.toNatClampNeg (rd (mw c 33 1 (zi (nx2 : Int))) 33 1) = 4 + nx2 by rw [g1, zi_clamp (by omega) (by omega), Int.toNat_natCast], a1]
        simp (disch := omega) only [zi_lit, zl_lit, zi_add, zi_sub, zi_mul, zi_neg, zi_lt, zi_inj, zi_clamp, zl_of, gi_zi, bd_s, ltf, bi_0, bi_1, gb_bi, Int.reduceToNat, Int.reduceNeg, Int.toNat_natCast, g1, g2]
      · rw [rd_mw, if_neg (by decide), a3.1 _ _ (ZR_lo (by decide))]
        exact g1
      · rw [rd_mw, if_pos ⟨rfl, rfl⟩]
        exact congrArg zi (by omega)
      · refine RC_33 f2 (RC_o (by omega) a3 (RC_33 f0 ?_))
        rw [show (nx2 + 6 - (u - 1) + i) % 6 = (nx + 6 - u + i) % 6 by omega]
        exact h4 i (by omega)
      · have m33 : ∀ k j, PU k j = false → P33 k j = false := fun k j h => by
          unfold PU at h
          rw [Bool.or_eq_false_iff] at h
          exact h.1
        exact Fr_tr (Fr_tr (Fr_mono f0 m33) (Fr_mono a3 (fun k j h => by
          unfold PU at h
          rw [Bool.or_eq_false_iff] at h
          exact h.2))) (Fr_mono f2 m33)
    by_cases q : 0 < nx
    · rw [if_pos (by omega), show (nx : Int) - 1 = ((nx - 1 : Nat) : Int) by omega]
      exact fin (nx - 1) (by omega) (Or.inl (by omega))
    · rw [if_neg (by omega)]
      exact fin 5 (by decide) (Or.inr ⟨by omega, rfl⟩)
/-- the reference keeps -/
def PH (k j : Nat) : Bool := k == 4 || (k == 0 && j == 18)
theorem m_kp57 (fu : Nat) {u : Nat} (hu : u ≤ 5) : ∀ (q n k : Nat) (mem : Mem), k + q = 184 → q < n → rd mem 0 18 = zi (u : Int) → (∀ j, j < k → rd mem 4 (184 * u + j) = rd mem 5 j) → ∃ mem2, K_X12_keeps_57 fu n (zi (k : Int)) mem = some mem2 ∧ rd mem2 0 18 = zi ((u + 1 : Nat) : Int) ∧ (∀ j, j < 184 → rd mem2 4 (184 * u + j) = rd mem 5 j) ∧ (∀ j, j < 184 * u → rd mem2 4 j = rd mem 4 j) ∧ Fr PH mem mem2 := by
  intro q
  induction q with
  | zero =>
    intro n k mem hk hn h18 h
    obtain ⟨n, rfl⟩ : ∃ f, n = f + 1 := ⟨n - 1, by omega⟩
    obtain rfl : k = 184 := by omega
    rw [K_X12_keeps_57]
    simp (disch := omega) only [zi_lit, zl_lit, zi_add, zi_sub, zi_mul, zi_neg, zi_lt, zi_inj, zi_clamp, zl_of, gi_zi, bd_s, ltf, bi_0, bi_1, gb_bi, Int.reduceToNat, Int.reduceNeg, Int.toNat_natCast, h18]
    rw [if_neg (by decide)]
    refine ⟨_, rfl, by rw [rd_mw, if_pos ⟨rfl, rfl⟩]; rfl, fun j hj => ?_, fun j hj => ?_, Fr_mw _ _ rfl⟩
    · rw [rd_mw, if_neg (fun x => absurd x.1 (by decide))]
      exact h j hj
    · rw [rd_mw, if_neg (fun x => absurd x.1 (by decide))]
  | succ q ih =>
    intro n k mem hk hn h18 h
    obtain ⟨n, rfl⟩ : ∃ f, n = f + 1 := ⟨n - 1, by omega⟩
    have e5 : ∀ j, rd (mw mem 4 (184 * u + k) (rd mem 5 k)) 5 j = rd mem 5 j := fun j => by rw [rd_mw, if_neg (fun x => absurd x.1 (by decide))]
    obtain ⟨m2, a1, a2, a3, a4, a5⟩ := ih n (k + 1) (mw mem 4 (184 * u + k) (rd mem 5 k)) (by omega) (by omega) (by rw [rd_mw, if_neg (fun x => absurd x.1 (by decide))]; exact h18) (fun j hj => by
      rw [e5, rd_mw]
      by_cases e : j = k
      · rw [if_pos ⟨rfl, by omega⟩, e]
      · rw [if_neg (fun x => by omega)]
        exact h j (by omega))
    have i1 : (184 * (u : Int) + (k : Int)).toNat = 184 * u + k := by omega
    rw [K_X12_keeps_57]
    simp (disch := omega) only [zi_lit, zl_lit, zi_add, zi_sub, zi_mul, zi_neg, zi_lt, zi_inj, zi_clamp, zl_of, gi_zi, bd_s, ltf, bi_0, bi_1, gb_bi, Int.reduceToNat, Int.reduceNeg, Int.toNat_natCast, h18, i1]
    rw [if_pos (by omega)]
    refine ⟨m2, a1, a2, fun j hj => by rw [a3 j hj, e5], fun j hj => ?_, Fr_tr (Fr_mw _ _ rfl) a5⟩
    rw [a4 j hj, rd_mw, if_neg (fun x => by omega)]
theorem m_kp21 (fu : Nat) : ∀ (q n k : Nat) (mem : Mem) (F : Nat → Int32), k + q = 920 → q < n → rd mem 0 18 = zi 5 → (∀ j, k ≤ j → rd mem 4 j = F j) → (∀ j, j < k → rd mem 4 j = F (j + 184)) → ∃ mem2, K_X12_keeps_21 fu n (zi (k : Int)) mem = K_X12_keeps_55 fu mem2 ∧ (∀ j, j < 920 → rd mem2 4 j = F (j + 184)) ∧ Fr (fun k _ => k == 4) mem mem2 := by
  intro q
  induction q with
  | zero =>
    intro n k mem F hk hn h18 h1 h2
    obtain ⟨n, rfl⟩ : ∃ f, n = f + 1 := ⟨n - 1, by omega⟩
    obtain rfl : k = 920 := by omega
    rw [K_X12_keeps_21]
    simp (disch := omega) only [zi_lit, zl_lit, zi_add, zi_sub, zi_mul, zi_neg, zi_lt, zi_inj, zi_clamp, zl_of, gi_zi, bd_s, ltf, bi_0, bi_1, gb_bi, Int.reduceToNat, Int.reduceNeg, Int.toNat_natCast, h18]
    rw [if_neg (by decide)]
    exact ⟨mem, rfl, h2, Fr_rf _ mem⟩
  | succ q ih =>
    intro n k mem F hk hn h18 h1 h2
    obtain ⟨n, rfl⟩ : ∃ f, n = f + 1 := ⟨n - 1, by omega⟩
    obtain ⟨m2, a1, a2, a3⟩ := ih n (k + 1) (mw mem 4 k (rd mem 4 (k + 184))) F (by omega) (by omega) (by rw [rd_mw, if_neg (fun x => absurd x.1 (by decide))]; exact h18) (fun j hj => by
      rw [rd_mw, if_neg (fun x => by omega)]
      exact h1 j (by omega)) (fun j hj => by
      rw [rd_mw]
      by_cases e : j = k
      · rw [if_pos ⟨rfl, e⟩, e]
        exact h1 _ (by omega)
      · rw [if_neg (fun x => e x.2)]
        exact h2 j (by omega))
    have i1 : ((k : Int) + 184).toNat = k + 184 := by omega
    rw [K_X12_keeps_21]
    simp (disch := omega) only [zi_lit, zl_lit, zi_add, zi_sub, zi_mul, zi_neg, zi_lt, zi_inj, zi_clamp, zl_of, gi_zi, bd_s, ltf, bi_0, bi_1, gb_bi, Int.reduceToNat, Int.reduceNeg, Int.toNat_natCast, h18, i1]
    rw [if_pos (by omega)]
    exact ⟨m2, a1, a2, Fr_tr (Fr_mw _ _ rfl) a3⟩
theorem m_keeps (fu : Nat) (hfu : 1000 ≤ fu) {m : Mem} {u : Nat} {ps : Nat → Nat → Int} {s : Nat → Int} (hu : u ≤ 6) (hH : HSm m u ps) (h5 : ∀ j, j < 184 → rd m 5 j = zi (s j)) : ∃ m2, K_X12_keeps fu m = some m2 ∧ HSm m2 (kpU u) (kpP u ps s) ∧ Fr PH m m2 := by
  obtain ⟨h1, h2⟩ := hH
  unfold K_X12_keeps
  simp (disch := omega) only [zi_lit, zl_lit, zi_add, zi_sub, zi_mul, zi_neg, zi_lt, zi_inj, zi_clamp, zl_of, gi_zi, bd_s, ltf, bi_0, bi_1, gb_bi, Int.reduceToNat, Int.reduceNeg, Int.toNat_natCast, h1]
  by_cases c1 : u = 6
  · have hk : kpU u = 6 := by unfold kpU; rw [if_neg (by omega)]
    rw [if_pos (by omega)]
    have f0 : Fr PH m (mw m 0 18 (zi ((u : Int) - 1))) := Fr_mw _ _ rfl
    have g18 : rd (mw m 0 18 (zi ((u : Int) - 1))) 0 18 = zi 5 := by
      rw [rd_mw, if_pos ⟨rfl, rfl⟩]
      exact congrArg zi (by omega)
    obtain ⟨m1, a1, a2, a3⟩ := m_kp21 fu 920 fu 0 (mw m 0 18 (zi ((u : Int) - 1))) (fun j => rd (mw m 0 18 (zi ((u : Int) - 1))) 4 j) (by omega) (by omega) g18 (fun j _ => rfl) (fun j hj => absurd hj (Nat.not_lt_zero j))
    obtain ⟨m2, b1, b2, b3, b4, b5⟩ := m_kp57 fu (u := 5) (by decide) 184 fu 0 m1 (by omega) (by omega) ((a3.1 _ _ rfl).trans g18) (fun j hj => absurd hj (Nat.not_lt_zero j))
    have e1 : K_X12_keeps_21 fu fu (zi 0) (mw m 0 18 (zi ((u : Int) - 1))) = some m2 := by
      refine a1.trans ?_
      unfold K_X12_keeps_55
      exact b1
    refine ⟨m2, e1, ⟨by rw [hk]; exact b2, fun i j hi hj => ?_⟩, Fr_tr f0 (Fr_tr (Fr_mono a3 (fun k j h => by
      unfold PH at h
      rw [Bool.or_eq_false_iff] at h
      exact h.1)) b5)⟩
    rw [hk] at hi
    unfold kpP
    rw [hk]
    by_cases q : i + 1 = 6
    · rw [if_pos q, show i = 5 by omega, b3 j hj, a3.1 _ _ rfl, f0.1 _ _ rfl]
      exact h5 j hj
    · rw [if_neg q, b4 _ (by omega), a2 _ (by omega)]
      show rd (mw m 0 18 (zi ((u : Int) - 1))) 4 (184 * i + j + 184) = _
      rw [rd_mw, if_neg (fun x => absurd x.1 (by decide)), show 184 * i + j + 184 = 184 * (i + (u + 1 - 6)) + j by omega]
      exact h2 _ j (by omega) hj
  · have hk : kpU u = u + 1 := by unfold kpU; rw [if_pos (by omega)]
    rw [if_neg (by omega)]
    obtain ⟨m2, b1, b2, b3, b4, b5⟩ := m_kp57 fu (u := u) (by omega) 184 fu 0 m (by omega) (by omega) h1 (fun j hj => absurd hj (Nat.not_lt_zero j))
    refine ⟨m2, ?_, ⟨by rw [hk]; exact b2, fun i j hi hj => ?_⟩, b5⟩
    · unfold K_X12_keeps_55
      exact b1
    · rw [hk] at hi
      unfold kpP
      rw [hk]
      by_cases q : i + 1 = u + 1
      · rw [if_pos q, show i = u by omega, b3 j hj]
        exact h5 j hj
      · rw [if_neg q, b4 _ (by omega), show i + (u + 1 - (u + 1)) = i by omega]
        exact h2 i j (by omega) hj
theorem m_un26 (fu : Nat) {u : Nat} (hu : u ≤ 5) : ∀ (q n k : Nat) (mem : Mem), k + q = 184 → q < n → rd mem 0 18 = zi (u : Int) → (∀ j, j < k → rd mem 2 j = rd mem 4 (184 * u + j)) → ∃ mem2, K_X12_undo_26 fu n (zi (k : Int)) mem = some (zi (u : Int), mem2) ∧ (∀ j, j < 184 → rd mem2 2 j = rd mem 4 (184 * u + j)) ∧ Fr (PR1 2) mem mem2 := by
  intro q
  induction q with
  | zero =>
    intro n k mem hk hn h18 h
    obtain ⟨n, rfl⟩ : ∃ f, n = f + 1 := ⟨n - 1, by omega⟩
    obtain rfl : k = 184 := by omega
    rw [K_X12_undo_26]
    simp (disch := omega) only [zi_lit, zl_lit, zi_add, zi_sub, zi_mul, zi_neg, zi_lt, zi_inj, zi_clamp, zl_of, gi_zi, bd_s, ltf, bi_0, bi_1, gb_bi, Int.reduceToNat, Int.reduceNeg, Int.toNat_natCast, h18]
    rw [if_neg (by decide)]
    exact ⟨mem, rfl, h, Fr_rf _ mem⟩
  | succ q ih =>
    intro n k mem hk hn h18 h
    obtain ⟨n, rfl⟩ : ∃ f, n = f + 1 := ⟨n - 1, by omega⟩
    have e4 : ∀ j, rd (mw mem 2 k (rd mem 4 (184 * u + k))) 4 j = rd mem 4 j := fun j => by rw [rd_mw, if_neg (fun x => absurd x.1 (by decide))]
    obtain ⟨m2, a1, a2, a3⟩ := ih n (k + 1) (mw mem 2 k (rd mem 4 (184 * u + k))) (by omega) (by omega) (by rw [rd_mw, if_neg (fun x => absurd x.1 (by decide))]; exact h18) (fun j hj => by
      rw [e4, rd_mw]
      by_cases e : j = k
      · rw [if_pos ⟨rfl, e⟩, e]
      · rw [if_neg (fun x => e x.2)]
        exact h j (by omega))
    have i1 : (184 * (u : Int) + (k : Int)).toNat = 184 * u + k := by omega
    rw [K_X12_undo_26]
    simp (disch := omega) only [zi_lit, zl_lit, zi_add, zi_sub, zi_mul, zi_neg, zi_lt, zi_inj, zi_clamp, zl_of, gi_zi, bd_s, ltf, bi_0, bi_1, gb_bi, Int.reduceToNat, Int.reduceNeg, Int.toNat_natCast, h18, i1]
    rw [if_pos (by omega)]
    refine ⟨m2, a1, fun j hj => by rw [a2 j hj, e4], Fr_tr (Fr_mw _ _ ?_) a3⟩
    unfold PR1
    rw [decide_eq_true (by omega)]
    rfl
theorem PR1_hi {D k j : Nat} (h : 184 ≤ j) : PR1 D k j = false := by
  unfold PR1
  rw [decide_eq_false (by omega), Bool.and_false]
theorem PR1_ne {D k j : Nat} (h : k ≠ D) : PR1 D k j = false := by
  unfold PR1
  simp [h]
/-- the row that the reference goes back to -/
theorem MS_cp {m m2 : Mem} {s s2 : Nat → Int} (hS : MS m s) (hs : hi0 s) (hs2 : hi0 s2) (f : Fr (PR1 2) m m2) (h : ∀ j, j < 184 → rd m2 2 j = zi (s2 j)) : MS m2 s2 := MS_row h (fun j hj => (f.1 2 j (PR1_hi hj)).trans (MS_hi hS hs j hj)) hs2
end KEEPS
