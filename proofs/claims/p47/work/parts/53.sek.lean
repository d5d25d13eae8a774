section MSEEK
abbrev BC : Type := Int × Int
noncomputable def stS (s : Nat → Int) (p y x v : Int) (c : BC) : BC := if adB s x y v = true then (if c.1 = -1 ∨ c.2 < dst (sw s x y v) p then (100 * (v - 1) + 10 * y + x, dst (sw s x y v) p) else c) else c
noncomputable def fS (s : Nat → Int) (p y x : Int) (c : BC) : BC := stS s p y x 2 (stS s p y x 1 c)
def WS (mem : Mem) (c : BC) : Prop := rd mem 0 36 = zi c.2 ∧ (-1 ≤ c.1 ∧ c.1 ≤ 1000) ∧ -1 ≤ c.2 ∧ c.2 ≤ 100
def PS (k j : Nat) : Bool := PB k j || (k == 0 && j == 36)
theorem PB_PS {k j : Nat} (h : PS k j = false) : PB k j = false := by
  unfold PS at h
  rw [Bool.or_eq_false_iff] at h
  exact h.1
theorem PS_2 (j : Nat) : PS 2 j = false := rfl
theorem m_sk1 (fu n : Nat) (hfu : 1000 ≤ fu) {s : Nat → Int} (hz : szO s) (hc : cnO s) (hW : wlO s) (hp : pasO s) (k9 : Int32 → Int32 → Int32 → Mem → Option (Int32 × Mem)) (k32 : Int32 → Int32 → Int32 → Int32 → Mem → Option (Int32 × Mem)) {x y v : Int} (hpl : isPl s x y = true) (hv : v = 1 ∨ v = 2) {p : Int} (hp0 : 0 ≤ p) (hps : p < s 2) {mem : Mem} {c : BC} (hS : MS mem s) (hG : WS mem c) : ∃ mem2, K_X12_seeks_48 fu k9 k32 (n + 1) (zi p) (zi c.1) (zi y) (zi x) (zi v) mem = K_X12_seeks_48 fu k9 k32 n (zi p) (zi (stS s p y x v c).1) (zi y) (zi x) (zi (v + 1)) mem2 ∧ WS mem2 (stS s p y x v c) ∧ Fr PS mem mem2 := by
  have hpl2 := isPl_iff.mp hpl
  have hz2 := hz
  obtain ⟨⟨hw1, hw2⟩, hh1, hh2⟩ := hz2
  have c1 := hc.1
  obtain ⟨g1, g2, g3⟩ := hG
  obtain ⟨m1, a1, a2⟩ := m_admits fu hfu hS hz hW hc hp hpl hv
  have u1 : Fr PS mem m1 := Fr_mono a2 (fun _ _ => PB_PS)
  have e1 : rd m1 0 36 = zi c.2 := (a2.1 0 36 rfl).trans g1
  rw [K_X12_seeks_48]
  simp (disch := omega) only [zi_lit, zl_lit, zi_add, zi_sub, zi_mul, zi_neg, zi_lt, zi_inj, zi_clamp, zl_of, gi_zi, bd_s, ltf, bi_0, bi_1, gb_bi, Int.reduceToNat, Int.reduceNeg, Int.toNat_natCast, a1]
  rw [if_neg (by omega)]
  unfold stS
  cases had : adB s x y v with
  | false =>
    rw [if_pos rfl, if_neg (by decide)]
    exact ⟨m1, rfl, ⟨e1, g2, g3⟩, u1⟩
  | true =>
    have had2 := had
    unfold adB at had2
    rw [Bool.and_eq_true] at had2
    rw [if_neg (by decide), if_pos rfl]
    obtain ⟨m2, b1, b2⟩ := m_behind fu hfu (MS_fr a2 PB_2 hS) hz hW hc hp0 hps (hp p hp0 hps) hpl hv (hr_0 hpl had2.1)
    have e2 : rd m2 0 36 = zi c.2 := (b2.1 0 36 rfl).trans e1
    have u2 : Fr PS mem m2 := Fr_tr u1 (Fr_mono b2 (fun _ _ => PB_PS))
    have hd2 := dst_le (sw_sz (v := v) hpl2.1.1 hpl2.2.1 hz) (sw_wl (x := x) (y := y) (v := v) (by omega) hW) (sw_pn (v := v) hpl2.1.1 hpl2.2.1 (by omega) (hp p hp0 hps))
    rw [b1]
    unfold K_X12_seeks_98
    simp (disch := omega) only [zi_lit, zl_lit, zi_add, zi_sub, zi_mul, zi_neg, zi_lt, zi_inj, zi_clamp, zl_of, gi_zi, bd_s, ltf, bi_0, bi_1, gb_bi, Int.reduceToNat, Int.reduceNeg, Int.toNat_natCast, e2]
    have up : ∃ mem2, K_X12_seeks_48 fu k9 k32 n (zi p) (zi (100 * (v - 1) + 10 * y + x)) (zi y) (zi x) (zi (v + 1)) (mw m2 0 36 (zi (dst (sw s x y v) p))) = K_X12_seeks_48 fu k9 k32 n (zi p) (zi (100 * (v - 1) + 10 * y + x)) (zi y) (zi x) (zi (v + 1)) mem2 ∧ WS mem2 (100 * (v - 1) + 10 * y + x, dst (sw s x y v) p) ∧ Fr PS mem mem2 := ⟨_, rfl, ⟨by rw [rd_mw, if_pos ⟨rfl, rfl⟩], ⟨by show -1 ≤ 100 * (v - 1) + 10 * y + x; omega, by show 100 * (v - 1) + 10 * y + x ≤ 1000; omega⟩, by show -1 ≤ dst (sw s x y v) p; omega, by show dst (sw s x y v) p ≤ 100; omega⟩, Fr_tr u2 (Fr_mw _ _ rfl)⟩
    by_cases q1 : c.1 = -1
    · rw [if_pos q1, if_pos (Or.inl q1)]
      exact up
    · rw [if_neg q1]
      by_cases q2 : c.2 < dst (sw s x y v) p
      · rw [if_pos q2, if_pos (Or.inr q2)]
        exact up
      · rw [if_neg q2, if_neg (fun h => by
          rcases h with h | h
          · exact q1 h
          · exact q2 h)]
        exact ⟨m2, rfl, ⟨e2, g2, g3⟩, u2⟩
theorem m_sk32 (fu : Nat) (hfu : 1000 ≤ fu) {s : Nat → Int} (hz : szO s) (hc : cnO s) (hW : wlO s) (hp : pasO s) (k9 : Int32 → Int32 → Int32 → Mem → Option (Int32 × Mem)) {y : Int} (hy : 0 ≤ y ∧ y < s 1 - 1) {p : Int} (hp0 : 0 ≤ p) (hps : p < s 2) : ∀ (q n : Nat) (x : Int) (c : BC) (mem : Mem), x + q = s 0 - 1 → q < n → 0 ≤ x → MS mem s → WS mem c → ∃ mem2, K_X12_seeks_32 fu k9 n (zi p) (zi c.1) (zi y) (zi x) mem = k9 (zi p) (zi (sX (fS s p) y q x c).1) (zi (y + 1)) mem2 ∧ WS mem2 (sX (fS s p) y q x c) ∧ Fr PS mem mem2 := by
  have hz2 := hz
  obtain ⟨⟨hw1, hw2⟩, hh1, hh2⟩ := hz2
  intro q
  induction q with
  | zero =>
    intro n x c mem hx hn hx0 hS hG
    obtain ⟨n, rfl⟩ : ∃ f, n = f + 1 := ⟨n - 1, by omega⟩
    rw [K_X12_seeks_32]
    simp (disch := omega) only [zi_lit, zl_lit, zi_add, zi_sub, zi_mul, zi_neg, zi_lt, zi_inj, zi_clamp, zl_of, gi_zi, bd_s, ltf, bi_0, bi_1, gb_bi, Int.reduceToNat, Int.reduceNeg, Int.toNat_natCast, hS _]
    rw [if_neg (by omega)]
    exact ⟨mem, rfl, hG, Fr_rf _ mem⟩
  | succ q ih =>
    intro n x c mem hx hn hx0 hS hG
    obtain ⟨n, rfl⟩ : ∃ f, n = f + 1 := ⟨n - 1, by omega⟩
    have hpl : isPl s x y = true := isPl_iff.mpr ⟨⟨hx0, by omega⟩, hy.1, by omega⟩
    rw [K_X12_seeks_32]
    simp (disch := omega) only [zi_lit, zl_lit, zi_add, zi_sub, zi_mul, zi_neg, zi_lt, zi_inj, zi_clamp, zl_of, gi_zi, bd_s, ltf, bi_0, bi_1, gb_bi, Int.reduceToNat, Int.reduceNeg, Int.toNat_natCast, hS _]
    rw [if_pos (by omega)]
    obtain ⟨f, rfl⟩ : ∃ f, fu = f + 3 := ⟨fu - 3, by omega⟩
    obtain ⟨m1, a1, a2, a3⟩ := m_sk1 (f + 3) (f + 2) hfu hz hc hW hp k9 (K_X12_seeks_32 (f + 3) k9 n) hpl (v := 1) (Or.inl rfl) hp0 hps hS hG
    obtain ⟨m2, b1, b2, b3⟩ := m_sk1 (f + 3) (f + 1) hfu hz hc hW hp k9 (K_X12_seeks_32 (f + 3) k9 n) hpl (v := 2) (Or.inr rfl) hp0 hps (MS_fr a3 PS_2 hS) a2
    have s2 := Fr_tr a3 b3
    obtain ⟨mem2, d1, d2, d3⟩ := ih n (x + 1) (fS s p y x c) m2 (by omega) (by omega) (by omega) (MS_fr s2 PS_2 hS) b2
    refine ⟨mem2, ?_, d2, Fr_tr s2 d3⟩
    rw [a1, show zi (1 + 1) = zi 2 from rfl, b1, K_X12_seeks_48]
    simp (disch := omega) only [zi_lit, zl_lit, zi_add, zi_sub, zi_mul, zi_neg, zi_lt, zi_inj, zi_clamp, zl_of, gi_zi, bd_s, ltf, bi_0, bi_1, gb_bi, Int.reduceToNat, Int.reduceNeg, Int.toNat_natCast]
    rw [if_pos (by decide)]
    exact d1
theorem m_sk9 (fu : Nat) (hfu : 1000 ≤ fu) {s : Nat → Int} (hz : szO s) (hc : cnO s) (hW : wlO s) (hp : pasO s) {p : Int} (hp0 : 0 ≤ p) (hps : p < s 2) (hf : ¬ 0 < pg s p 6) : ∀ (q n : Nat) (y : Int) (c : BC) (mem : Mem), y + q = s 1 - 1 → q < n → 0 ≤ y → MS mem s → WS mem c → ∃ mem2, K_X12_seeks_9 fu n (zi p) (zi c.1) (zi y) mem = some (zi (sY (fS s p) (s 0 - 1).toNat q y c).1, mem2) ∧ WS mem2 (sY (fS s p) (s 0 - 1).toNat q y c) ∧ Fr PS mem mem2 := by
  have hz2 := hz
  obtain ⟨⟨hw1, hw2⟩, hh1, hh2⟩ := hz2
  have c1 := hc.1
  obtain ⟨p1, p2, p3, p4, p5, p6, p7⟩ := hp p hp0 hps
  intro q
  induction q with
  | zero =>
    intro n y c mem hx hn hx0 hS hG
    obtain ⟨n, rfl⟩ : ∃ f, n = f + 1 := ⟨n - 1, by omega⟩
    rw [K_X12_seeks_9]
    simp (disch := omega) only [zi_lit, zl_lit, zi_add, zi_sub, zi_mul, zi_neg, zi_lt, zi_inj, zi_clamp, zl_of, gi_zi, bd_s, ltf, bi_0, bi_1, gb_bi, Int.reduceToNat, Int.reduceNeg, Int.toNat_natCast, hS _]
    rw [if_neg (by omega)]
    exact ⟨mem, rfl, hG, Fr_rf _ mem⟩
  | succ q ih =>
    intro n y c mem hx hn hx0 hS hG
    obtain ⟨n, rfl⟩ : ∃ f, n = f + 1 := ⟨n - 1, by omega⟩
    rw [K_X12_seeks_9]
    simp (disch := omega) only [zi_lit, zl_lit, zi_add, zi_sub, zi_mul, zi_neg, zi_lt, zi_inj, zi_clamp, zl_of, gi_zi, bd_s, ltf, bi_0, bi_1, gb_bi, Int.reduceToNat, Int.reduceNeg, Int.toNat_natCast, hS _, k_fin fu hS]
    rw [if_pos (by omega), if_pos (decide_eq_false hf)]
    obtain ⟨m1, a1, a2, a3⟩ := m_sk32 fu hfu hz hc hW hp (K_X12_seeks_9 fu n) (y := y) ⟨hx0, by omega⟩ hp0 hps (s 0 - 1).toNat fu 0 c mem (by omega) (by omega) (by omega) hS hG
    obtain ⟨mem2, b1, b2, b3⟩ := ih n (y + 1) _ m1 (by omega) (by omega) (by omega) (MS_fr a3 PS_2 hS) a2
    exact ⟨mem2, a1.trans b1, b2, Fr_tr a3 b3⟩
noncomputable def skS (s : Nat → Int) (p : Int) : BC := if 0 < pg s p 6 then (-1, 0) else sY (fS s p) (s 0 - 1).toNat (s 1 - 1).toNat 0 (-1, 0)
theorem m_seeks (fu : Nat) (hfu : 1000 ≤ fu) {s : Nat → Int} (hz : szO s) (hc : cnO s) (hW : wlO s) (hp : pasO s) {p : Int} (hp0 : 0 ≤ p) (hps : p < s 2) {mem : Mem} (hS : MS mem s) : ∃ mem2, K_X12_seeks fu (zi p) mem = some (zi (skS s p).1, mem2) ∧ WS mem2 (skS s p) ∧ Fr PS mem mem2 := by
  have hz2 := hz
  obtain ⟨⟨hw1, hw2⟩, hh1, hh2⟩ := hz2
  have c1 := hc.1
  have f0 : Fr PS mem (mw mem 0 36 (zi 0)) := Fr_mw _ _ rfl
  have hS0 := MS_fr f0 PS_2 hS
  have hG0 : WS (mw mem 0 36 (zi 0)) (-1, 0) := ⟨by rw [rd_mw, if_pos ⟨rfl, rfl⟩], ⟨Int.le_refl _, (by decide : (-1 : Int) ≤ 1000)⟩, (by decide : (-1 : Int) ≤ 0), (by decide : (0 : Int) ≤ 100)⟩
  unfold K_X12_seeks skS
  by_cases hf : 0 < pg s p 6
  · obtain ⟨p1, p2, p3, p4, p5, p6, p7⟩ := hp p hp0 hps
    obtain ⟨k1, k2, k3, k4, k5, k6⟩ := hc
    obtain ⟨f, rfl⟩ : ∃ f, fu = f + 1 := ⟨fu - 1, by omega⟩
    rw [if_pos hf, ltf, K_X12_seeks_9]
    simp (disch := omega) only [zi_lit, zl_lit, zi_add, zi_sub, zi_mul, zi_neg, zi_lt, zi_inj, zi_clamp, zl_of, gi_zi, bd_s, ltf, bi_0, bi_1, gb_bi, Int.reduceToNat, Int.reduceNeg, Int.toNat_natCast, hS0 _, k_fin (f + 1) hS0]
    rw [if_pos (by omega), if_neg (by rw [decide_eq_true hf]; decide)]
    exact ⟨_, rfl, hG0, f0⟩
  · rw [if_neg hf]
    obtain ⟨mem2, b1, b2, b3⟩ := m_sk9 fu hfu hz hc hW hp hp0 hps hf (s 1 - 1).toNat fu 0 (-1, 0) _ (by omega) (by omega) (by omega) hS0 hG0
    exact ⟨mem2, b1, b2, Fr_tr f0 b3⟩
/-- a wall never brings a pawn nearer -/
theorem dst_mono {s : Nat → Int} (hz : szO s) {x y v : Int} (hpl : isPl s x y = true) (hv : v = 1 ∨ v = 2) (h0 : wg s x y = 0) {p : Int} (hp3 : p ≤ 3) (hp : pnO s p) (h : dst (sw s x y v) p ≠ -1) : dst s p ≤ dst (sw s x y v) p := by
  have hpl2 := isPl_iff.mp hpl
  have e1 : celN (sw s x y v) p = celN s p := by
    unfold celN
    rw [sw_pg hpl2.1.1 hpl2.2.1 hp3 (by decide), sw_pg hpl2.1.1 hpl2.2.1 hp3 (by decide)]
  have e2 : Sd (sw s x y v) (pg s p 2) = Sd s (pg s p 2) := Sd_cg (sw_lt hpl2.1.1 hpl2.2.1 (by decide)) (sw_lt hpl2.1.1 hpl2.2.1 (by decide)) _
  have hd := dst_dl hz hp
  have hd2 := dst_dl (sw_sz (v := v) hpl2.1.1 hpl2.2.1 hz) (sw_pn (v := v) hpl2.1.1 hpl2.2.1 hp3 hp)
  rw [e1, sw_pg hpl2.1.1 hpl2.2.1 hp3 (by decide)] at hd2
  unfold dl at hd hd2
  rw [e2] at hd2
  rw [hd2] at h ⊢
  rw [hd]
  rcases dlt_cases (op (sw s x y v)) nbr (Sd s (pg s p 2)) (celN s p) with ⟨g1, g2⟩ | ⟨m, g1, g2⟩
  · exact absurd g1 h
  · have g3 : Pth (op s) nbr (Sd s (pg s p 2)) m (celN s p) := Pth_m4 (fun u d hd3 hg => by
      rw [op_sw hz hpl hv h0 hd3, Bool.and_eq_true] at hg
      exact hg.1) (fun _ q => q) g1.1
    obtain ⟨n, hn⟩ := IsD_ex g3
    rw [g2, dlt_is hn]
    have := hn.2 m g3
    omega
theorem ad_wg {s : Nat → Int} {x y v : Int} (h : adB s x y v = true) : wg s x y = 0 := by
  unfold adB hrB at h
  rw [Bool.and_eq_true, Bool.and_eq_true, decide_eq_true_iff] at h
  exact h.1.1
theorem ad_dst {s : Nat → Int} {x y v : Int} (hx : 0 ≤ x) (hy : 0 ≤ y) (h : adB s x y v = true) {p : Int} (hp0 : 0 ≤ p) (hps : p < s 2) : dst (sw s x y v) p ≠ -1 := by
  unfold adB at h
  rw [Bool.and_eq_true, hwB_t] at h
  exact h.2 p hp0 (by rw [sw_lt hx hy (by decide)]; exact hps)
/-- class and reference find the same wall -/
def RBC (s : Nat → Int) (p : Int) (b : BW) (c : BC) : Prop := (b.1 = -1 ↔ c.1 = -1) ∧ (b.1 ≠ -1 → c.1 = 100 * b.2.2.2 + 10 * b.2.2.1 + b.2.1 ∧ b.1 = c.2 - dst s p ∧ isPl s b.2.1 b.2.2.1 = true ∧ adB s b.2.1 b.2.2.1 (b.2.2.2 + 1) = true ∧ (b.2.2.2 = 0 ∨ b.2.2.2 = 1) ∧ b.1 = dst (sw s b.2.1 b.2.2.1 (b.2.2.2 + 1)) p - dst s p ∧ 0 ≤ b.1)
theorem RBC_st {s : Nat → Int} (hz : szO s) {x y v : Int} (hpl : isPl s x y = true) (hv : v = 1 ∨ v = 2) {p : Int} (hp0 : 0 ≤ p) (hp3 : p ≤ 3) (hps : p < s 2) (hp : pnO s p) {b : BW} {c : BC} (h : RBC s p b c) : RBC s p (stB s p y x v b) (stS s p y x v c) := by
  have hpl2 := isPl_iff.mp hpl
  unfold stB stS
  by_cases had : adB s x y v = true
  · rw [if_pos had, if_pos had]
    have hm := dst_mono hz hpl hv (ad_wg had) hp3 hp (ad_dst hpl2.1.1 hpl2.2.1 had hp0 hps)
    obtain ⟨h1, h2⟩ := h
    by_cases q : b.1 = -1
    · rw [if_pos (by omega), if_pos (Or.inl (h1.mp q))]
      refine ⟨?_, fun _ => ⟨rfl, rfl, hpl, ?_, ?_, ?_, ?_⟩⟩
      · show dst (sw s x y v) p - dst s p = -1 ↔ 100 * (v - 1) + 10 * y + x = -1
        omega
      · show adB s x y (v - 1 + 1) = true
        rw [show v - 1 + 1 = v by omega]
        exact had
      · show v - 1 = 0 ∨ v - 1 = 1
        omega
      · show _ = dst (sw s x y (v - 1 + 1)) p - dst s p
        rw [show v - 1 + 1 = v by omega]
      · show 0 ≤ dst (sw s x y v) p - dst s p
        omega
    · obtain ⟨k1, k2, k3, k4, k5, k6, k7⟩ := h2 q
      have q9 : c.1 ≠ -1 := fun e => q (h1.mpr e)
      by_cases q2 : b.1 < dst (sw s x y v) p - dst s p
      · rw [if_pos q2, if_pos (Or.inr (by omega))]
        refine ⟨?_, fun _ => ⟨rfl, rfl, hpl, ?_, ?_, ?_, ?_⟩⟩
        · show dst (sw s x y v) p - dst s p = -1 ↔ 100 * (v - 1) + 10 * y + x = -1
          omega
        · show adB s x y (v - 1 + 1) = true
          rw [show v - 1 + 1 = v by omega]
          exact had
        · show v - 1 = 0 ∨ v - 1 = 1
          omega
        · show _ = dst (sw s x y (v - 1 + 1)) p - dst s p
          rw [show v - 1 + 1 = v by omega]
        · show 0 ≤ dst (sw s x y v) p - dst s p
          omega
      · rw [if_neg q2, if_neg (fun e => by
          rcases e with e | e
          · exact q9 e
          · omega)]
        exact ⟨h1, h2⟩
  · rw [if_neg had, if_neg had]
    exact h
theorem bst_sk {s : Nat → Int} (hz : szO s) {p : Int} (hp0 : 0 ≤ p) (hp3 : p ≤ 3) (hps : p < s 2) (hp : pnO s p) : RBC s p (bstB s p) (skS s p) := by
  have h0 : ∀ k : Int, RBC s p (-1, 0, 0, 0) (-1, k) := fun k => ⟨⟨fun _ => rfl, fun _ => rfl⟩, fun h => absurd rfl h⟩
  have hz2 := hz
  obtain ⟨⟨hw1, hw2⟩, hh1, hh2⟩ := hz2
  unfold bstB skS
  by_cases hf : 0 < pg s p 6
  · rw [if_pos hf, if_pos hf]
    exact h0 0
  · rw [if_neg hf, if_neg hf]
    refine sY_rel (R := RBC s p) (H := s 1 - 1) (fun y x a b g1 g2 g3 g4 g5 => ?_) _ 0 _ _ (by omega) (by omega) (h0 0)
    have hpl : isPl s x y = true := isPl_iff.mpr ⟨⟨g3, by omega⟩, g1, by omega⟩
    unfold fB fS
    exact RBC_st hz hpl (Or.inr rfl) hp0 hp3 hps hp (RBC_st hz hpl (Or.inl rfl) hp0 hp3 hps hp g5)
end MSEEK
