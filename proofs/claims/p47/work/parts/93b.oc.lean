section OCC
theorem sg_app {f : Nat → Nat} (a : Nat) : ∀ b : Nat, sg f (a + b) = sg f a + sg (fun x => f (a + x)) b := by
  intro b
  induction b with
  | zero => rfl
  | succ b ih =>
    rw [show a + (b + 1) = (a + b) + 1 by omega, sg, sg, ih]
    omega
theorem sg_mul {f : Nat → Nat} (k : Nat) : ∀ n : Nat, sg f (k * n) = sg (fun y => sg (fun x => f (k * y + x)) k) n := by
  intro n
  induction n with
  | zero => rfl
  | succ n ih => rw [Nat.mul_succ, sg_app, sg, ih]
theorem sg_swap {g : Nat → Nat → Nat} (h : Nat) : ∀ w : Nat, sg (fun x => sg (fun y => g x y) h) w = sg (fun y => sg (fun x => g x y) w) h := by
  intro w
  induction w with
  | zero => exact (sg_0 (fun k _ => rfl)).symm
  | succ w ih =>
    rw [sg, ih, ← sg_add]
    rfl
theorem sg_cut {f : Nat → Nat} {w : Nat} : ∀ n : Nat, w ≤ n → (∀ k, w ≤ k → k < n → f k = 0) → sg f n = sg f w := by
  intro n
  induction n with
  | zero =>
    intro h _
    rw [show w = 0 by omega]
  | succ n ih =>
    intro h h2
    by_cases c : w = n + 1
    · rw [c]
    · rw [sg, ih (by omega) (fun k k1 k2 => h2 k k1 (by omega)), h2 n (by omega) (by omega)]
      rfl
theorem cnB_sg (P : Nat → Bool) : ∀ n : Nat, cnB P n = sg (fun c => if P c = true then 1 else 0) n := by
  intro n
  induction n with
  | zero => rfl
  | succ n ih => rw [cnB, sg, ih]
/-- the gates of a pawn, by columns -/
theorem gt_cols {s : Nat → Int} (hz : szO s) {p : Int} : cnB (gtB s p) 81 = sg (fun x => sg (fun y => if gtB s p (9 * y + x) = true then 1 else 0) (s 1).toNat) (s 0).toNat := by
  obtain ⟨⟨w1, w2⟩, w3, w4⟩ := hz
  have no : ∀ x y : Nat, x < 9 → (s 0 ≤ (x : Int) ∨ s 1 ≤ (y : Int)) → (if gtB s p (9 * y + x) = true then 1 else 0) = 0 := fun x y hx h => by
    rw [gt_cl (by
      cases q : isCl s (xo (9 * y + x)) (yo (9 * y + x)) with
      | false => rfl
      | true =>
        have := isCl_iff.mp q
        unfold xo yo at this
        omega)]
    rfl
  rw [cnB_sg, show (81 : Nat) = 9 * 9 from rfl, sg_mul 9 9, ← sg_swap 9 9, sg_cut (w := (s 0).toNat) 9 (by omega) (fun k k1 k2 => sg_0 (fun y _ => no k y (by omega) (Or.inl (by omega))))]
  exact sg_cg (fun x hx => sg_cut 9 (by omega) (fun y y1 y2 => no x y (by omega) (Or.inr (by omega))))
theorem sg_up1 {f f2 : Nat → Nat} {k : Nat} (h1 : f2 k = f k + 1) (h2 : ∀ i, i ≠ k → f2 i = f i) : ∀ n : Nat, sg f2 n = sg f n + if k < n then 1 else 0 := by
  intro n
  induction n with
  | zero => rfl
  | succ n ih =>
    rw [sg, sg, ih]
    by_cases c : n = k
    · rw [c, h1, if_neg (by omega), if_pos (by omega)]
      omega
    · rw [h2 n c]
      by_cases q : k < n
      · rw [if_pos q, if_pos (by omega)]
        omega
      · rw [if_neg q, if_neg (by omega)]
        omega
theorem sX_up {σ : Type} {f : Int → Int → σ → σ} {M : σ → Int} (hf : ∀ y x b, M b ≤ M (f y x b)) {y : Int} : ∀ (n : Nat) (x : Int) (b : σ), M b ≤ M (sX f y n x b) := by
  intro n
  induction n with
  | zero => exact fun x b => Int.le_refl _
  | succ n ih => exact fun x b => Int.le_trans (hf y x b) (ih (x + 1) (f y x b))
theorem sY_up {σ : Type} {f : Int → Int → σ → σ} {M : σ → Int} (hf : ∀ y x b, M b ≤ M (f y x b)) {W : Nat} : ∀ (n : Nat) (y : Int) (b : σ), M b ≤ M (sY f W n y b) := by
  intro n
  induction n with
  | zero => exact fun x b => Int.le_refl _
  | succ n ih => exact fun y b => Int.le_trans (sX_up hf W 0 b) (ih (y + 1) _)
theorem sX_at {σ : Type} {f : Int → Int → σ → σ} {M : σ → Int} (hf : ∀ y x b, M b ≤ M (f y x b)) {y x0 v : Int} (hv : ∀ b, v ≤ M (f y x0 b)) : ∀ (n : Nat) (x : Int) (b : σ), x ≤ x0 → x0 < x + n → v ≤ M (sX f y n x b) := by
  intro n
  induction n with
  | zero =>
    intro x b h1 h2
    omega
  | succ n ih =>
    intro x b h1 h2
    by_cases c : x = x0
    · rw [sX, c]
      exact Int.le_trans (hv b) (sX_up hf n _ _)
    · exact ih (x + 1) _ (by omega) (by omega)
theorem sY_at {σ : Type} {f : Int → Int → σ → σ} {M : σ → Int} (hf : ∀ y x b, M b ≤ M (f y x b)) {W : Nat} {y0 x0 v : Int} (hx : 0 ≤ x0 ∧ x0 < (W : Int)) (hv : ∀ b, v ≤ M (f y0 x0 b)) : ∀ (n : Nat) (y : Int) (b : σ), y ≤ y0 → y0 < y + n → v ≤ M (sY f W n y b) := by
  intro n
  induction n with
  | zero =>
    intro x b h1 h2
    omega
  | succ n ih =>
    intro y b h1 h2
    by_cases c : y = y0
    · rw [sY, c]
      exact Int.le_trans (sX_at hf hv W 0 b hx.1 (by omega)) (sY_up hf n _ _)
    · exact ih (y + 1) _ (by omega) (by omega)
/-- the best wall is the best -/
theorem bst_max {s : Nat → Int} (hz : szO s) {p x y v : Int} (h6 : ¬ 0 < pg s p 6) (hpl : isPl s x y = true) (hv : v = 1 ∨ v = 2) (had : adB s x y v = true) : dst (sw s x y v) p - dst s p ≤ (bstB s p).1 := by
  obtain ⟨⟨x1, x2⟩, y1, y2⟩ := isPl_iff.mp hpl
  have st : ∀ y x v b, b.1 ≤ (stB s p y x v b).1 := fun y x v b => by
    unfold stB
    by_cases q : adB s x y v = true
    · rw [if_pos q]
      by_cases q2 : b.1 < dst (sw s x y v) p - dst s p
      · rw [if_pos q2]
        exact Int.le_of_lt q2
      · rw [if_neg q2]
        exact Int.le_refl _
    · rw [if_neg q]
      exact Int.le_refl _
  have at' : ∀ b, dst (sw s x y v) p - dst s p ≤ (stB s p y x v b).1 := fun b => by
    unfold stB
    rw [if_pos had]
    by_cases q2 : b.1 < dst (sw s x y v) p - dst s p
    · rw [if_pos q2]
      exact Int.le_refl _
    · rw [if_neg q2]
      omega
  unfold bstB
  rw [if_neg h6]
  refine sY_at (M := fun b : BW => b.1) (f := fB s p) (fun y x b => Int.le_trans (st y x 1 b) (st y x 2 _)) (y0 := y) (x0 := x) (by omega) (fun b => ?_) _ 0 _ y1 (by omega)
  rcases hv with rfl | rfl
  · exact Int.le_trans (at' b) (st y x 2 _)
  · exact at' _
/-- the walls that stand -/
def wcR (s : Nat → Int) (y : Nat) : Nat := sg (fun x => if 0 < s (120 + 8 * y + x) then 1 else 0) (s 0 - 1).toNat
def wcN (s : Nat → Int) : Nat := sg (wcR s) (s 1 - 1).toNat
/-- what a race of the law keeps besides -/
def XO (s : Nat → Int) : Prop := s 3 = (wcN s : Int) ∧ (s 5 ≤ s 2 ∧ ∀ r : Int, 1 ≤ r → r ≤ s 5 → ∃ p : Int, 0 ≤ p ∧ p < s 2 ∧ pg s p 6 = r) ∧ ∀ p : Int, 0 ≤ p → p < s 2 → pg s p 6 = 0 → atS s (pg s p 0) (pg s p 1) (pg s p 2) = false
theorem wc_cg {s s2 : Nat → Int} (h0 : s2 0 = s 0) (h1 : s2 1 = s 1) (hw : ∀ j, 120 ≤ j → s2 j = s j) : wcN s2 = wcN s := by
  unfold wcN
  rw [h1]
  refine sg_cg (fun y _ => ?_)
  unfold wcR
  rw [h0]
  exact sg_cg (fun x _ => by rw [hw _ (by omega)])
theorem atS_c2 {s s2 : Nat → Int} (h0 : s2 0 = s 0) (h1 : s2 1 = s 1) (x y d : Int) : atS s2 x y d = atS s x y d := by
  unfold atS
  rw [h0, h1]
theorem XO_et {s : Nat → Int} (h : XO s) : XO (etS s) := by
  obtain ⟨h1, ⟨h2, h3⟩, h4⟩ := h
  have e : ∀ j, j ≠ 4 → j ≠ 7 → etS s j = s j := fun j a b => etS_ne a b
  refine ⟨?_, ⟨?_, fun r r1 r2 => ?_⟩, fun p p0 p1 p6 => ?_⟩
  · rw [wc_cg (e 0 (by decide) (by decide)) (e 1 (by decide) (by decide)) (fun j hj => e j (by omega) (by omega)), e 3 (by decide) (by decide)]
    exact h1
  · rw [e 5 (by decide) (by decide), e 2 (by decide) (by decide)]
    exact h2
  · rw [e 5 (by decide) (by decide)] at r2
    obtain ⟨p, p0, p1, p2⟩ := h3 r r1 r2
    exact ⟨p, p0, by rw [e 2 (by decide) (by decide)]; exact p1, by rw [etS_pg s p0 (by decide)]; exact p2⟩
  · rw [e 2 (by decide) (by decide)] at p1
    rw [etS_pg s p0 (by decide)] at p6
    rw [atS_c2 (e 0 (by decide) (by decide)) (e 1 (by decide) (by decide)), etS_pg s p0 (by decide), etS_pg s p0 (by decide), etS_pg s p0 (by decide)]
    exact h4 p p0 p1 p6
theorem XO_mv {s : Nat → Int} (hI : Inv s) (h : XO s) {p : Nat} (hps : (p : Int) < s 2) {d : Nat} (hd : d < 4) (hg : gB s p d ≠ 0) : XO (mvSt s p (gB s p d) d) := by
  have hc := hI.2.1
  have hpk := hI.2.2.2.1 p (by omega) hps
  obtain ⟨l1, l2, l3, l4, l5, l6, l7, l8, l9⟩ := gB_ld hI.1 hpk hd hg
  have hov := ov_2 hc l8
  obtain ⟨g, hgg⟩ : ∃ g, gB s p d = g := ⟨_, rfl⟩
  rw [hgg]
  have c1 := hc.1
  obtain ⟨h1, ⟨h2, h3⟩, h4⟩ := h
  refine XO_et ?_
  have e : ∀ j, (j < 8 ∨ 36 ≤ j) → j ≠ 5 → mve s p g d j = s j := fun j a b => mve_ne (by omega) (by omega) a b
  have e5 := mve_5 (s := s) (p := (p : Int)) (g := g) (d := d) (by omega) (by omega)
  have ep : ∀ {q k : Int}, 0 ≤ q → 0 ≤ k ∧ k ≤ 6 → pg (mve s p g d) q k = if (q = p ∧ k = 6) ∧ atS s (pg s p 0 + g * dx (d : Int)) (pg s p 1 + g * dy (d : Int)) (pg s p 2) = true then s 5 + 1 else pg (mvd s p g d) q k := fun hq hk => mve_pg (by omega) hq hk
  have zp := mvd_p (s := s) (p := (p : Int)) (g := g) (d := d) (by omega)
  have r6 : ∀ q : Int, 0 ≤ q → q ≠ p → pg (mve s p g d) q 6 = pg s q 6 := fun q q0 qp => by
    rw [ep q0 (by decide), if_neg (fun z => qp z.1.1), mvd_q (by omega) q0 (by decide) qp]
  refine ⟨?_, ⟨?_, fun r r1 r2 => ?_⟩, fun q q0 q1 q6 => ?_⟩
  · rw [wc_cg (e 0 (by omega) (by decide)) (e 1 (by omega) (by decide)) (fun j hj => e j (by omega) (by omega)), e 3 (by omega) (by decide)]
    exact h1
  · rw [e5, e 2 (by omega) (by decide)]
    split <;> omega
  · rw [e 2 (by omega) (by decide)]
    rw [e5] at r2
    by_cases hA : atS s (pg s p 0 + g * dx (d : Int)) (pg s p 1 + g * dy (d : Int)) (pg s p 2) = true
    · rw [if_pos hA] at r2
      by_cases q : r = s 5 + 1
      · refine ⟨p, by omega, hps, ?_⟩
        rw [ep (by omega) (by decide), if_pos ⟨⟨rfl, rfl⟩, hA⟩, q]
      · obtain ⟨q, q0, q1, q2⟩ := h3 r r1 (by omega)
        exact ⟨q, q0, q1, by rw [r6 q q0 (fun z => by rw [z] at q2; omega)]; exact q2⟩
    · rw [if_neg hA] at r2
      obtain ⟨q, q0, q1, q2⟩ := h3 r r1 r2
      exact ⟨q, q0, q1, by rw [r6 q q0 (fun z => by rw [z] at q2; omega)]; exact q2⟩
  · rw [e 2 (by omega) (by decide)] at q1
    rw [atS_c2 (e 0 (by omega) (by decide)) (e 1 (by omega) (by decide)), ep q0 (by decide), if_neg (fun z => absurd z.1.2 (by decide)), ep q0 (by decide), if_neg (fun z => absurd z.1.2 (by decide)), ep q0 (by decide), if_neg (fun z => absurd z.1.2 (by decide))]
    by_cases qp : q = p
    · rw [qp] at q6 ⊢
      rw [zp.1, zp.2.1, zp.2.2.1]
      cases hA : atS s (pg s p 0 + g * dx (d : Int)) (pg s p 1 + g * dy (d : Int)) (pg s p 2) with
      | false => rfl
      | true =>
        rw [ep (by omega) (by decide), if_pos ⟨⟨rfl, rfl⟩, hA⟩] at q6
        have := hc.2.2.2.2.1
        omega
    · rw [r6 q q0 qp] at q6
      rw [mvd_q (by omega) q0 (by decide) qp, mvd_q (by omega) q0 (by decide) qp, mvd_q (by omega) q0 (by decide) qp]
      exact h4 q q0 q1 q6
theorem wc_sw {s : Nat → Int} (hz : szO s) {x y v : Int} (hpl : isPl s x y = true) (hv : 0 < v) (h0 : s (120 + 8 * y + x).toNat = 0) : wcN (sw s x y v) = wcN s + 1 := by
  obtain ⟨⟨x1, x2⟩, y1, y2⟩ := isPl_iff.mp hpl
  obtain ⟨⟨w1, w2⟩, w3, w4⟩ := hz
  have e0 : sw s x y v 0 = s 0 := sw_lt x1 y1 (by decide)
  have e1 : sw s x y v 1 = s 1 := sw_lt x1 y1 (by decide)
  have row : ∀ y', wcR (sw s x y v) y' = sg (fun x' => if 0 < sw s x y v (120 + 8 * y' + x') then 1 else 0) (s 0 - 1).toNat := fun y' => by
    unfold wcR
    rw [e0]
  have hy : wcR (sw s x y v) y.toNat = wcR s y.toNat + 1 := by
    rw [row]
    unfold wcR
    have := sg_up1 (f := fun x' => if 0 < s (120 + 8 * y.toNat + x') then 1 else 0) (f2 := fun x' => if 0 < sw s x y v (120 + 8 * y.toNat + x') then 1 else 0) (k := x.toNat) (by
      have ej : 120 + 8 * y.toNat + x.toNat = (120 + 8 * y + x).toNat := by omega
      rw [ej, h0]
      unfold sw
      rw [if_pos rfl, if_pos hv, if_neg (by omega)]) (fun i hi => by
      have : sw s x y v (120 + 8 * y.toNat + i) = s (120 + 8 * y.toNat + i) := if_neg (by omega)
      rw [this]) (s 0 - 1).toNat
    rw [this, if_pos (by omega)]
  have hn : ∀ i, i ≠ y.toNat → i < (s 1 - 1).toNat → wcR (sw s x y v) i = wcR s i := fun i hi hi2 => by
    rw [row]
    unfold wcR
    refine sg_cg (fun x' hx' => ?_)
    have : sw s x y v (120 + 8 * i + x') = s (120 + 8 * i + x') := if_neg (by omega)
    rw [this]
  unfold wcN
  rw [e1]
  have a := sg_cg (f := wcR (sw s x y v)) (g := fun i => if i = y.toNat then wcR s i + 1 else wcR s i) (n := (s 1 - 1).toNat) (fun i hi => by
    by_cases q : i = y.toNat
    · rw [if_pos q, q, hy]
    · rw [if_neg q, hn i q hi])
  have b := sg_up1 (f := wcR s) (f2 := fun i => if i = y.toNat then wcR s i + 1 else wcR s i) (k := y.toNat) (if_pos rfl) (fun i hi => if_neg hi) (s 1 - 1).toNat
  rw [a, b, if_pos (by omega)]
theorem XO_bd {s : Nat → Int} (hI : Inv s) (h : XO s) {x y v : Int} (hpl : isPl s x y = true) (hv : v = 1 ∨ v = 2) (had : adB s x y v = true) : XO (bdS s x y v) := by
  obtain ⟨⟨x1, x2⟩, y1, y2⟩ := isPl_iff.mp hpl
  have c7 := hI.2.1.2.2.2.2.2.1
  have c1 := hI.2.1.1
  obtain ⟨h1, ⟨h2, h3⟩, h4⟩ := h
  refine XO_et ?_
  have e : ∀ j, (j < 8 ∨ (36 ≤ j ∧ j < 120)) → j ≠ 3 → bwS s x y v j = s j := fun j a b => bw_lt x1 y1 c7.1 c7.2 a b
  have ep : ∀ q k : Int, 0 ≤ q → q < s 2 → 0 ≤ k → k ≤ 6 → k ≠ 3 → pg (bwS s x y v) q k = pg s q k := fun q k q0 q1 k0 k6 k3 => by
    rw [bw_pg x1 y1 c7.1 q0 (by omega) ⟨k0, k6⟩, if_neg (fun z => k3 z.2)]
  refine ⟨?_, ⟨?_, fun r r1 r2 => ?_⟩, fun q q0 q1 q6 => ?_⟩
  · rw [bw_3 c7.1, wc_cg (s := sw s x y v) ((e 0 (by omega) (by decide)).trans (sw_lt x1 y1 (by decide)).symm) ((e 1 (by omega) (by decide)).trans (sw_lt x1 y1 (by decide)).symm) (fun j hj => bw_hi c7.1 c7.2 hj), wc_sw hI.1 hpl (by omega) (hr_0 hpl (ad_hr had)), h1]
    omega
  · rw [e 5 (by omega) (by decide), e 2 (by omega) (by decide)]
    exact h2
  · rw [e 5 (by omega) (by decide)] at r2
    obtain ⟨q, q0, q1, q2⟩ := h3 r r1 r2
    exact ⟨q, q0, by rw [e 2 (by omega) (by decide)]; exact q1, by rw [ep q 6 q0 q1 (by decide) (by decide) (by decide)]; exact q2⟩
  · rw [e 2 (by omega) (by decide)] at q1
    rw [ep q 6 q0 q1 (by decide) (by decide) (by decide)] at q6
    rw [atS_c2 (e 0 (by omega) (by decide)) (e 1 (by omega) (by decide)), ep q 0 q0 q1 (by decide) (by decide) (by decide), ep q 1 q0 q1 (by decide) (by decide) (by decide), ep q 2 q0 q1 (by decide) (by decide) (by decide)]
    exact h4 q q0 q1 q6
theorem XO_on {s : Nat → Int} (hI : Inv s) (h : XO s) (ho : ovB s = false) (mode : Int) : XO (onS s mode) := by
  have hov := ov_2 hI.2.1 ho
  have h7 := nat7 hI.2.1
  unfold onS
  by_cases c : mode = 1 ∧ rvS s ≠ -1 ∧ 1 ≤ (bstB s (rvS s)).1
  · rw [if_pos c]
    rcases rvS_sp hI.2.1.1.1 with q | ⟨h1, h2, h3, h4⟩
    · exact absurd q c.2.1
    · obtain ⟨g1, g2⟩ := bst_sp hI h1 h2
      obtain ⟨k1, k2, k3, k4, k5, k6, k7⟩ := g2 (by omega)
      exact XO_bd hI h k3 (by omega) k4
  · rw [if_neg c]
    unfold adv1
    rcases avS_sp s (s 7) with q | ⟨e, h1, h2, h3⟩
    · rw [if_pos q]
      exact XO_et h
    · rw [if_neg (by omega), h1, Int.toNat_natCast, ← h7]
      rw [← h7] at h3
      exact XO_mv hI h (by omega) h2 h3
theorem XO_pl (mode : Int) : ∀ (q : Nat) (s : Nat → Int) (k : Nat), Inv s → XO s → XO (plS mode q s k).1 := by
  intro q
  induction q with
  | zero => exact fun s k _ h => h
  | succ q ih =>
    intro s k hI h
    rw [plS]
    cases ho : ovB s with
    | true =>
      rw [if_pos rfl]
      exact h
    | false =>
      rw [if_neg (by decide)]
      exact ih _ _ (on_Inv hI ho mode) (XO_on hI h ho mode)
theorem on_4 {s : Nat → Int} (hI : Inv s) (ho : ovB s = false) (mode : Int) : onS s mode 4 = s 4 + 1 := by
  have c7 := hI.2.1.2.2.2.2.2.1
  unfold onS
  by_cases c : mode = 1 ∧ rvS s ≠ -1 ∧ 1 ≤ (bstB s (rvS s)).1
  · rw [if_pos c]
    rcases rvS_sp hI.2.1.1.1 with h | ⟨h1, h2, h3, h4⟩
    · exact absurd h c.2.1
    · obtain ⟨g1, g2⟩ := bst_sp hI h1 h2
      obtain ⟨k1, k2, k3, k4, k5, k6, k7⟩ := g2 (by omega)
      have qp := isPl_iff.mp k3
      unfold bdS
      rw [etS_4, bw_lt qp.1.1 qp.2.1 c7.1 c7.2 (Or.inl (by decide)) (by decide)]
  · rw [if_neg c]
    unfold adv1
    by_cases q : avS s (s 7) = -1
    · rw [if_pos q]
      exact etS_4 s
    · rw [if_neg q]
      unfold mvSt
      rw [etS_4, mve_ne c7.1 c7.2 (Or.inl (by decide)) (by decide)]
theorem pl_4 (mode : Int) : ∀ (q : Nat) (s : Nat → Int) (k : Nat), Inv s → (plS mode q s k).1 4 + k = s 4 + ((plS mode q s k).2 : Int) ∧ ((plS mode q s k).2 < k + q → ovB (plS mode q s k).1 = true) := by
  intro q
  induction q with
  | zero => exact fun s k _ => ⟨rfl, fun h => by have : k < k + 0 := h; omega⟩
  | succ q ih =>
    intro s k hI
    rw [plS]
    cases ho : ovB s with
    | true =>
      rw [if_pos rfl]
      exact ⟨rfl, fun _ => ho⟩
    | false =>
      rw [if_neg (by decide)]
      obtain ⟨a, b⟩ := ih _ (k + 1) (on_Inv hI ho mode)
      rw [on_4 hI ho] at a
      exact ⟨by omega, fun h => b (by omega)⟩
end OCC
