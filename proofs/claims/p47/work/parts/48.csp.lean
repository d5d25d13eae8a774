section CSPR
/-- a row of numbers is filled -/
theorem c_fill5 (fu a : Nat) (na : Nat) (v : Int32) (hna : na ≤ 1000000) : ∀ (r n k : Nat) (mem : Mem), k + r = na → r < n → ∃ mem2, K_J7_fill_53178_5 fu a na n v (zi (k : Int)) (zi (na : Int)) mem = some mem2 ∧ (∀ j, rd mem2 a j = if k ≤ j ∧ j < na then v else rd mem a j) ∧ Fr (fun k2 _ => k2 == a) mem mem2 := by
  intro r
  induction r with
  | zero =>
    intro n k mem hk hn
    obtain ⟨n, rfl⟩ : ∃ f, n = f + 1 := ⟨n - 1, by omega⟩
    rw [K_J7_fill_53178_5]
    simp (disch := omega) only [zi_lit, zl_lit, zi_add, zi_sub, zi_mul, zi_neg, zi_lt, zi_inj, zi_clamp, zl_of, gi_zi, bd_s, ltf, bi_0, bi_1, gb_bi, Int.reduceToNat, Int.reduceNeg, Int.toNat_natCast]
    rw [if_neg (by omega)]
    exact ⟨mem, rfl, fun j => (if_neg (by omega)).symm, Fr_rf _ mem⟩
  | succ r ih =>
    intro n k mem hk hn
    obtain ⟨n, rfl⟩ : ∃ f, n = f + 1 := ⟨n - 1, by omega⟩
    rw [K_J7_fill_53178_5]
    simp (disch := omega) only [zi_lit, zl_lit, zi_add, zi_sub, zi_mul, zi_neg, zi_lt, zi_inj, zi_clamp, zl_of, gi_zi, bd_s, ltf, bi_0, bi_1, gb_bi, Int.reduceToNat, Int.reduceNeg, Int.toNat_natCast]
    rw [if_pos (by omega)]
    obtain ⟨mem2, h1, h2, h3⟩ := ih n (k + 1) (mw mem a k v) (by omega) (by omega)
    refine ⟨mem2, ?_, fun j => ?_, Fr_tr (Fr_mw _ _ (by simp)) h3⟩
    · rw [← h1]
      rfl
    · rw [h2 j, rd_mw]
      by_cases q : j = k
      · subst q
        rw [if_neg (by omega), if_pos ⟨rfl, rfl⟩, if_pos (by omega)]
      · by_cases q2 : k ≤ j ∧ j < na
        · rw [if_pos (by omega), if_pos q2]
        · rw [if_neg (by omega), if_neg q2, if_neg (by omega)]
theorem ofNat_zi {n : Nat} : Int32.ofNat n = zi (n : Int) := by
  unfold zi
  rw [Int32.ofInt_eq_ofNat]
theorem c_fill (fu a : Nat) (na : Nat) (v : Int32) (hna : na < fu) (hna2 : na ≤ 1000000) (mem : Mem) : ∃ mem2, K_J7_fill_53178 fu a na v mem = some mem2 ∧ (∀ j, rd mem2 a j = if j < na then v else rd mem a j) ∧ Fr (fun k2 _ => k2 == a) mem mem2 := by
  obtain ⟨mem2, h1, h2, h3⟩ := c_fill5 fu a na v hna2 na fu 0 mem (by omega) hna
  refine ⟨mem2, ?_, fun j => ?_, h3⟩
  · unfold K_J7_fill_53178
    rw [ltf, ofNat_zi]
    exact h1
  · rw [h2 j]
    by_cases q : j < na
    · rw [if_pos (by omega), if_pos q]
    · rw [if_neg (by omega), if_neg q]
/-- the steps without a cell -/
def opa (s : Nat → Int) (a : Int) (u d : Nat) : Bool := op s u d && decide ((nbr u d : Int) ≠ a)
def Sda (s : Nat → Int) (side a : Int) (c : Nat) : Prop := Sd s side c ∧ (c : Int) ≠ a
theorem opa_no (s : Nat → Int) : opa s (-1) = op s := by
  funext u9 d9
  unfold opa
  rw [decide_eq_true (by omega), Bool.and_true]
theorem Sda_no (s : Nat → Int) (side : Int) : Sda s side (-1) = Sd s side := by
  funext c9
  exact propext ⟨fun h => h.1, fun h => ⟨h, by omega⟩⟩
theorem opa_hg {s : Nat → Int} (hz : szO s) (a : Int) : ∀ u d, u < 81 → d < 4 → opa s a u d = true → nbr u d < 81 := fun u d hu hd h => op_hg hz u d hu hd (by
  unfold opa at h
  rw [Bool.and_eq_true] at h
  exact h.1)
theorem Sda_lt {s : Nat → Int} {side a : Int} : ∀ c, Sda s side a c → c < 81 := fun _ h => h.1.1
/-- the class's search, where it stands -/
def PC (w k j : Nat) : Bool := k == pDist w || k == pQueue w || (k == pWays w && j == 2)
theorem PC_35 {w : Nat} (hw : w ≤ 1) : ∀ k j, 35 ≤ k → PC w k j = false := fun k j hk => by
  unfold PC pDist pQueue pWays
  simp
  omega
def CM (w : Nat) (mem : Mem) (t : BS) : Prop := (∀ c, c < 81 → rd mem (pDist w) c = zi (t.1 c)) ∧ (∀ k, k < t.2.2 → rd mem (pQueue w) k = zi (t.2.1 k : Int)) ∧ rd mem (pWays w) 2 = zi (t.2.2 : Int) ∧ (∀ c, -1 ≤ t.1 c ∧ t.1 c ≤ 200) ∧ t.2.2 = cnt t.1 81
theorem CM_push {w : Nat} {mem : Mem} {t : BS} {c : Nat} {v : Int} (h : CM w mem t) (hc : c < 81) (ht : t.1 c = -1) (hv : 0 ≤ v) (hv2 : v ≤ 200) : CM w (mw (mw (mw mem (pDist w) c (zi v)) (pQueue w) t.2.2 (zi (c : Int))) (pWays w) 2 (zi ((t.2.2 : Int) + 1))) (bpush t c v) ∧ Fr (PC w) mem (mw (mw (mw mem (pDist w) c (zi v)) (pQueue w) t.2.2 (zi (c : Int))) (pWays w) 2 (zi ((t.2.2 : Int) + 1))) := by
  obtain ⟨q1, q2, q3, q4, q5⟩ := h
  have n1 : pDist w ≠ pQueue w := by unfold pDist pQueue; omega
  have n2 : pDist w ≠ pWays w := by unfold pDist pWays; omega
  have n3 : pQueue w ≠ pWays w := by unfold pQueue pWays; omega
  unfold bpush
  rw [if_pos ht]
  refine ⟨⟨fun a ha => ?_, fun k hk => ?_, ?_, fun a => ?_, ?_⟩, Fr_tr (Fr_tr (Fr_mw _ _ (by unfold PC; simp)) (Fr_mw _ _ (by unfold PC; simp))) (Fr_mw _ _ (by unfold PC; simp))⟩
  · rw [rd_mw, if_neg (fun q => n2 q.1), rd_mw, if_neg (fun q => n1 q.1), rd_mw]
    show _ = zi (if a = c then v else t.1 a)
    by_cases q : a = c
    · rw [if_pos ⟨rfl, q⟩, if_pos q]
    · rw [if_neg (fun q2 => q q2.2), if_neg q]
      exact q1 a ha
  · have hk2 : k < t.2.2 + 1 := hk
    rw [rd_mw, if_neg (fun q => n3 q.1), rd_mw]
    show _ = zi ((if k = t.2.2 then c else t.2.1 k : Nat) : Int)
    by_cases q : k = t.2.2
    · rw [if_pos ⟨rfl, q⟩, if_pos q]
    · rw [if_neg (fun q2 => q q2.2), if_neg q, rd_mw, if_neg (fun q => n1 q.1.symm)]
      exact q2 k (by omega)
  · rw [rd_mw, if_pos ⟨rfl, rfl⟩]
    rfl
  · show -1 ≤ (if a = c then v else t.1 a) ∧ (if a = c then v else t.1 a) ≤ 200
    have := q4 a
    split <;> omega
  · show t.2.2 + 1 = cnt (fun a => if a = c then v else t.1 a) 81
    rw [cnt_upd hc ht (by omega), q5]
theorem c_beginAt (fu w : Nat) {mem : Mem} {t : BS} {c : Nat} (h : CM w mem t) (hc : c < 81) (ht : t.1 c = -1) : ∃ mem2, K_X10_beginAt fu w (zi (c : Int)) mem = some mem2 ∧ CM w mem2 (bpush t c 0) ∧ Fr (PC w) mem mem2 := by
  obtain ⟨a1, a2⟩ := CM_push h hc ht (v := 0) (by omega) (by omega)
  obtain ⟨q1, q2, q3, q4, q5⟩ := h
  have n1 : pDist w ≠ pQueue w := by unfold pDist pQueue; omega
  have n2 : pDist w ≠ pWays w := by unfold pDist pWays; omega
  have n3 : pQueue w ≠ pWays w := by unfold pQueue pWays; omega
  have hr : t.2.2 < 81 := by
    rw [q5]
    exact cnt_lt hc ht
  unfold K_X10_beginAt
  simp (disch := omega) only [zi_lit, zl_lit, zi_add, zi_sub, zi_mul, zi_neg, zi_lt, zi_inj, zi_clamp, zl_of, gi_zi, bd_s, ltf, bi_0, bi_1, gb_bi, Int.reduceToNat, Int.reduceNeg, Int.toNat_natCast, q3, rd_mw, n2.symm, n3.symm, false_and, ↓reduceIte]
  rw [if_neg (by omega), if_pos (by omega), if_pos (by omega)]
  exact ⟨_, rfl, a1, a2⟩
theorem c_fl1 (fu w r n : Nat) (hw : w ≤ 1) (k3 : Int32 → Int32 → Int32 → Mem → Option Mem) {mem : Mem} {s : Nat → Int} {t : BS} {u d : Nat} {a tgt i : Int} (hR : RB mem r s) (hz : szO s) (h : CM w mem t) (hu : u < 81) (hF : 0 ≤ t.1 u ∧ t.1 u ≤ 100) (hd : d < 4) (ha : -1 ≤ a) (ha2 : a ≤ 1000) : ∃ mem2, K_X10_flow_38 fu w r k3 (n + 1) (zi a) (zi tgt) (zi i) (zi (u : Int)) (zi (d : Int)) mem = K_X10_flow_38 fu w r k3 n (zi a) (zi tgt) (zi i) (zi (u : Int)) (zi ((d + 1 : Nat) : Int)) mem2 ∧ CM w mem2 (bnb (opa s a) nbr t u d) ∧ Fr (PC w) mem mem2 := by
  have e := hR.2.2.2.2 u hu
  have e1 := h.1 u hu
  have e3 := h.2.2.1
  have n1 : pDist w ≠ pQueue w := by unfold pDist pQueue; omega
  have n2 : pDist w ≠ pWays w := by unfold pDist pWays; omega
  have n3 : pQueue w ≠ pWays w := by unfold pQueue pWays; omega
  have hdd := dxy d hd
  have h80 : ∀ (x2 x3 x4 x5 x6 x7 : Int32) (m : Mem), K_X10_flow_80 fu w r k3 (K_X10_flow_38 fu w r k3 n) x2 x3 x4 x5 x6 x7 m = K_X10_flow_38 fu w r k3 n x2 x3 x4 x5 (x6 + 1) m := fun _ _ _ _ _ _ _ => by unfold K_X10_flow_80 K_X10_flow_81; exact if_pos rfl
  rw [K_X10_flow_38]
  simp (disch := omega) only [zi_lit, zl_lit, zi_add, zi_sub, zi_mul, zi_neg, zi_lt, zi_inj, zi_clamp, zl_of, gi_zi, bd_s, ltf, bi_0, bi_1, gb_bi, Int.reduceToNat, Int.reduceNeg, Int.toNat_natCast, e, msk_bit _ hd, offV_z hd, h80]
  rw [if_pos (by omega)]
  unfold bnb opa
  by_cases ho : op s u d = true
  · have hn := op_nb hz hu hd ho
    have hnb : (u : Int) + (9 * dy (d : Int) + dx (d : Int)) = (nbr u d : Int) := by
      have hxy := xy_lt hu
      have hxy2 := xy_lt hn.1
      omega
    rw [hnb, if_neg (by rw [ho]; decide)]
    by_cases hq : (nbr u d : Int) = a
    · rw [if_pos hq, if_neg (by rw [decide_eq_false (by omega), Bool.and_false]; decide)]
      exact ⟨mem, rfl, h, Fr_rf _ mem⟩
    · rw [if_neg hq, if_pos (by rw [ho, decide_eq_true hq]; rfl)]
      have hv := h.1 _ hn.1
      have hb := h.2.2.2.1 (nbr u d)
      have hr1 := h.2.2.2.2
      have hn1 := hn.1
      unfold K_X10_flow_81
      rw [if_neg (by decide)]
      by_cases ht : t.1 (nbr u d) = -1
      · have hr : t.2.2 < 81 := by
          rw [hr1]
          exact cnt_lt hn.1 ht
        obtain ⟨b1, b2⟩ := CM_push h hn.1 ht (v := t.1 u + 1) (by omega) (by omega)
        rw [ht] at hv
        simp (disch := omega) only [zi_lit, zl_lit, zi_add, zi_sub, zi_mul, zi_neg, zi_lt, zi_inj, zi_clamp, zl_of, gi_zi, bd_s, ltf, bi_0, bi_1, gb_bi, Int.reduceToNat, Int.reduceNeg, Int.toNat_natCast, hv, e1, e3, rd_mw, n2.symm, n3.symm, false_and, ↓reduceIte]
        rw [if_neg (by omega), if_pos (by omega), if_pos (by omega)]
        exact ⟨_, rfl, b1, b2⟩
      · simp (disch := omega) only [zi_lit, zl_lit, zi_add, zi_sub, zi_mul, zi_neg, zi_lt, zi_inj, zi_clamp, zl_of, gi_zi, bd_s, ltf, bi_0, bi_1, gb_bi, Int.reduceToNat, Int.reduceNeg, Int.toNat_natCast, hv]
        rw [if_neg (by omega), if_pos (by omega), if_neg ht]
        unfold bpush
        rw [if_neg ht]
        exact ⟨mem, rfl, h, Fr_rf _ mem⟩
  · rw [if_pos (by simpa using ho), if_neg (by simp [ho])]
    exact ⟨mem, rfl, h, Fr_rf _ mem⟩
theorem c_fl4 (fu w r : Nat) (hfu : 1000 ≤ fu) (hw : w ≤ 1) (k3 : Int32 → Int32 → Int32 → Mem → Option Mem) {mem : Mem} {s : Nat → Int} {t : BS} {u : Nat} {a tgt i : Int} (hR : RB mem r s) (hz : szO s) (h : CM w mem t) (hu : u < 81) (hF : 0 ≤ t.1 u ∧ t.1 u ≤ 100) (ha : -1 ≤ a) (ha2 : a ≤ 1000) : ∃ mem2, K_X10_flow_38 fu w r k3 fu (zi a) (zi tgt) (zi i) (zi (u : Int)) (zi 0) mem = k3 (zi a) (zi tgt) (zi (i + 1)) mem2 ∧ CM w mem2 (bar (opa s a) nbr t u) ∧ Fr (PC w) mem mem2 := by
  obtain ⟨f, rfl⟩ : ∃ f, fu = f + 5 := ⟨fu - 5, by omega⟩
  have hne : t.1 u ≠ -1 := by omega
  have keep : ∀ (t2 : BS) (d : Nat), t2.1 u = t.1 u → (bnb (opa s a) nbr t2 u d).1 u = t.1 u := fun t2 d e => by rw [bnb_ne (by rw [e]; exact hne), e]
  have k1 := keep t 0 rfl
  have k2 := keep _ 1 k1
  have kk3 := keep _ 2 k2
  obtain ⟨m1, a1, b1, c1⟩ := c_fl1 (f + 5) w r (f + 4) hw k3 (tgt := tgt) (i := i) hR hz h hu hF (d := 0) (by decide) ha ha2
  obtain ⟨m2, a2, b2, c2⟩ := c_fl1 (f + 5) w r (f + 3) hw k3 (tgt := tgt) (i := i) (RB_fr c1 (PC_35 hw) hR) hz b1 hu (by rw [k1]; exact hF) (d := 1) (by decide) ha ha2
  have s2 := Fr_tr c1 c2
  obtain ⟨m3, a3, b3, c3⟩ := c_fl1 (f + 5) w r (f + 2) hw k3 (tgt := tgt) (i := i) (RB_fr s2 (PC_35 hw) hR) hz b2 hu (by rw [k2]; exact hF) (d := 2) (by decide) ha ha2
  have s3 := Fr_tr s2 c3
  obtain ⟨m4, a4, b4, c4⟩ := c_fl1 (f + 5) w r (f + 1) hw k3 (tgt := tgt) (i := i) (RB_fr s3 (PC_35 hw) hR) hz b3 hu (by rw [kk3]; exact hF) (d := 3) (by decide) ha ha2
  refine ⟨m4, ?_, b4, Fr_tr s3 c4⟩
  rw [show zi (0 : Int) = zi ((0 : Nat) : Int) from rfl, a1, a2, a3, a4, K_X10_flow_38]
  simp (disch := omega) only [zi_lit, zl_lit, zi_add, zi_sub, zi_mul, zi_neg, zi_lt, zi_inj, zi_clamp, zl_of, gi_zi, bd_s, ltf, bi_0, bi_1, gb_bi, Int.reduceToNat, Int.reduceNeg, Int.toNat_natCast]
  exact if_neg (by decide)
/-- the search till the cell that is asked for -/
theorem c_fl3 (fu w r : Nat) (hfu : 1000 ≤ fu) (hw : w ≤ 1) {s : Nat → Int} (hz : szO s) {a tgt : Int} (ha : -1 ≤ a) (ha2 : a ≤ 1000) (ht1 : -1 ≤ tgt) (ht2 : tgt ≤ 1000) {S : Nat → Prop} : ∀ (q n i : Nat) (mem : Mem) (t : BS), i + q = 81 → q < n → RB mem r s → CM w mem t → BI (opa s a) nbr S t i → ∃ mem2 t2 i2, K_X10_flow_3 fu w r n (zi a) (zi tgt) (zi (i : Int)) mem = some mem2 ∧ CM w mem2 t2 ∧ BI (opa s a) nbr S t2 i2 ∧ (i2 = t2.2.2 ∨ (i2 < t2.2.2 ∧ (t2.2.1 i2 : Int) = tgt)) ∧ Fr (PC w) mem mem2 := by
  intro q
  induction q with
  | zero =>
    intro n i mem t hi hn hR hC hI
    obtain ⟨n, rfl⟩ : ∃ f, n = f + 1 := ⟨n - 1, by omega⟩
    have hq : t.2.2 ≤ 81 := by rw [hI.2.2.1]; exact cnt_le _ _
    have hi2 : i ≤ t.2.2 := hI.2.2.2.2.2.2.2.2.2.1
    rw [K_X10_flow_3]
    simp (disch := omega) only [zi_lit, zl_lit, zi_add, zi_sub, zi_mul, zi_neg, zi_lt, zi_inj, zi_clamp, zl_of, gi_zi, bd_s, ltf, bi_0, bi_1, gb_bi, Int.reduceToNat, Int.reduceNeg, Int.toNat_natCast, hC.2.2.1]
    rw [if_neg (by omega)]
    exact ⟨mem, t, i, rfl, hC, hI, Or.inl (by omega), Fr_rf _ mem⟩
  | succ q ih =>
    intro n i mem t hi hn hR hC hI
    obtain ⟨n, rfl⟩ : ∃ f, n = f + 1 := ⟨n - 1, by omega⟩
    have hq : t.2.2 ≤ 81 := by rw [hI.2.2.1]; exact cnt_le _ _
    have hi2 : i ≤ t.2.2 := hI.2.2.2.2.2.2.2.2.2.1
    rw [K_X10_flow_3]
    simp (disch := omega) only [zi_lit, zl_lit, zi_add, zi_sub, zi_mul, zi_neg, zi_lt, zi_inj, zi_clamp, zl_of, gi_zi, bd_s, ltf, bi_0, bi_1, gb_bi, Int.reduceToNat, Int.reduceNeg, Int.toNat_natCast, hC.2.2.1]
    by_cases c1 : i < t.2.2
    · rw [if_pos (by omega), if_pos (by omega)]
      have hu := hI.1 i c1
      have hu0 := hI.2.2.2.1 _ hu.2
      have hu1 := hI.2.2.2.2.2.2.2.2.2.2 i c1
      rw [hC.2.1 i c1]
      have hul := hu.1
      simp (disch := omega) only [zi_lit, zl_lit, zi_add, zi_sub, zi_mul, zi_neg, zi_lt, zi_inj, zi_clamp, zl_of, gi_zi, bd_s, ltf, bi_0, bi_1, gb_bi, Int.reduceToNat, Int.reduceNeg, Int.toNat_natCast]
      by_cases c2 : (t.2.1 i : Int) = tgt
      · rw [if_pos c2]
        exact ⟨mem, t, i, rfl, hC, hI, Or.inr ⟨c1, c2⟩, Fr_rf _ mem⟩
      · rw [if_neg c2]
        obtain ⟨m2, a1, a2, a3⟩ := c_fl4 fu w r hfu hw (K_X10_flow_3 fu w r n) (tgt := tgt) (i := (i : Int)) hR hz hC hu.1 ⟨hu0, by omega⟩ ha ha2
        rw [a1]
        obtain ⟨mem2, t2, i2, b1, b2, b3, b4, b5⟩ := ih n (i + 1) m2 _ (by omega) (by omega) (RB_fr a3 (PC_35 hw) hR) a2 (BI_step (opa_hg hz a) hI c1)
        exact ⟨mem2, t2, i2, b1, b2, b3, b4, Fr_tr a3 b5⟩
    · rw [if_neg (by omega)]
      exact ⟨mem, t, i, rfl, hC, hI, Or.inl (by omega), Fr_rf _ mem⟩
/-- the cells of a side -/
def scl (s : Nat → Int) (side k : Int) : Int := if side = 0 then (s 1 - 1) * 9 + k else if side = 1 then k * 9 + s 0 - 1 else if side = 2 then k else k * 9
def sln (s : Nat → Int) (side : Int) : Int := if side = 0 then s 0 else if side = 2 then s 0 else s 1
theorem c_sideCell (fu r : Nat) {mem : Mem} {s : Nat → Int} (hR : RB mem r s) (hz : szO s) {side k : Int} (h1 : 0 ≤ side) (h2 : side ≤ 3) (h3 : 0 ≤ k) (h4 : k ≤ 100) : K_X2_sideCell fu r (zi side) (zi k) mem = some (zi (scl s side k)) := by
  obtain ⟨⟨hw1, hw2⟩, hh1, hh2⟩ := hz
  unfold K_X2_sideCell scl
  simp (disch := omega) only [zi_lit, zl_lit, zi_add, zi_sub, zi_mul, zi_neg, zi_lt, zi_inj, zi_clamp, zl_of, gi_zi, bd_s, ltf, bi_0, bi_1, gb_bi, Int.reduceToNat, Int.reduceNeg, Int.toNat_natCast, hR.1, hR.2.1]
  by_cases c0 : side = 0
  · rw [if_pos c0, if_pos c0]
  · rw [if_neg c0, if_neg c0]
    by_cases c1 : side = 1
    · rw [if_pos c1, if_pos c1]
    · rw [if_neg c1, if_neg c1]
      by_cases c2 : side = 2
      · rw [if_pos c2, if_pos c2]
      · rw [if_neg c2, if_neg c2]
theorem c_sideLen (fu r : Nat) {mem : Mem} {s : Nat → Int} (hR : RB mem r s) {side : Int} (h1 : 0 ≤ side) (h2 : side ≤ 3) : K_X2_sideLength fu r (zi side) mem = some (zi (sln s side)) := by
  unfold K_X2_sideLength K_X2_sideLength_9 sln
  simp (disch := omega) only [zi_lit, zl_lit, zi_add, zi_sub, zi_mul, zi_neg, zi_lt, zi_inj, zi_clamp, zl_of, gi_zi, bd_s, ltf, bi_0, bi_1, gb_bi, Int.reduceToNat, Int.reduceNeg, Int.toNat_natCast, hR.1, hR.2.1]
  by_cases c0 : side = 0
  · rw [if_pos c0, if_pos c0]
  · rw [if_neg c0, if_neg c0]
    by_cases c2 : side = 2
    · rw [if_pos c2, if_pos c2]
    · rw [if_neg c2, if_neg c2]
/-- a side's cells are those that lie at it -/
theorem scl_in {s : Nat → Int} (hz : szO s) {side k : Int} (h1 : 0 ≤ side) (h2 : side ≤ 3) (h3 : 0 ≤ k) (h4 : k < sln s side) : 0 ≤ scl s side k ∧ scl s side k < 81 ∧ Sd s side (scl s side k).toNat := by
  obtain ⟨⟨hw1, hw2⟩, hh1, hh2⟩ := hz
  unfold sln at h4
  unfold scl Sd atS
  rcases (show side = 0 ∨ side = 1 ∨ side = 2 ∨ side = 3 by omega) with rfl | rfl | rfl | rfl
  · rw [if_pos rfl] at h4 ⊢
    rw [if_pos rfl]
    refine ⟨by omega, by omega, by omega, isCl_iff.mpr ?_, decide_eq_true ?_⟩ <;> (try unfold xo) <;> (try unfold yo) <;> omega
  · rw [if_neg (by decide), if_neg (by decide)] at h4
    rw [if_neg (by decide), if_pos rfl, if_neg (by decide), if_pos rfl]
    refine ⟨by omega, by omega, by omega, isCl_iff.mpr ?_, decide_eq_true ?_⟩ <;> (try unfold xo) <;> (try unfold yo) <;> omega
  · rw [if_neg (by decide), if_pos rfl] at h4
    rw [if_neg (by decide), if_neg (by decide), if_pos rfl, if_neg (by decide), if_neg (by decide), if_pos rfl]
    refine ⟨by omega, by omega, by omega, isCl_iff.mpr ?_, decide_eq_true ?_⟩ <;> (try unfold xo) <;> (try unfold yo) <;> omega
  · rw [if_neg (by decide), if_neg (by decide)] at h4
    rw [if_neg (by decide), if_neg (by decide), if_neg (by decide), if_neg (by decide), if_neg (by decide), if_neg (by decide)]
    refine ⟨by omega, by omega, by omega, isCl_iff.mpr ?_, decide_eq_true ?_⟩ <;> (try unfold xo) <;> (try unfold yo) <;> omega
theorem scl_all {s : Nat → Int} {side : Int} (h1 : 0 ≤ side) (h2 : side ≤ 3) {c : Nat} (h : Sd s side c) : ∃ k, 0 ≤ k ∧ k < sln s side ∧ scl s side k = (c : Int) := by
  obtain ⟨g1, g2, g3⟩ := h
  have g4 := isCl_iff.mp g2
  have hxy := xy_lt g1
  unfold sln scl
  unfold atS at g3
  rcases (show side = 0 ∨ side = 1 ∨ side = 2 ∨ side = 3 by omega) with rfl | rfl | rfl | rfl
  · rw [if_pos rfl, decide_eq_true_iff] at g3
    refine ⟨xo c, by omega, ?_, ?_⟩
    · rw [if_pos rfl]; omega
    · rw [if_pos rfl]; omega
  · rw [if_neg (by decide), if_pos rfl, decide_eq_true_iff] at g3
    refine ⟨yo c, by omega, ?_, ?_⟩
    · rw [if_neg (by decide), if_neg (by decide)]; omega
    · rw [if_neg (by decide), if_pos rfl]; omega
  · rw [if_neg (by decide), if_neg (by decide), if_pos rfl, decide_eq_true_iff] at g3
    refine ⟨xo c, by omega, ?_, ?_⟩
    · rw [if_neg (by decide), if_pos rfl]; omega
    · rw [if_neg (by decide), if_neg (by decide), if_pos rfl]; omega
  · rw [if_neg (by decide), if_neg (by decide), if_neg (by decide), decide_eq_true_iff] at g3
    refine ⟨yo c, by omega, ?_, ?_⟩
    · rw [if_neg (by decide), if_neg (by decide)]; omega
    · rw [if_neg (by decide), if_neg (by decide), if_neg (by decide)]; omega
theorem scl_inj {s : Nat → Int} {side k j : Int} (h : scl s side k = scl s side j) : k = j := by
  unfold scl at h
  by_cases c0 : side = 0
  · rw [if_pos c0, if_pos c0] at h
    omega
  · rw [if_neg c0, if_neg c0] at h
    by_cases c1 : side = 1
    · rw [if_pos c1, if_pos c1] at h
      omega
    · rw [if_neg c1, if_neg c1] at h
      by_cases c2 : side = 2
      · rw [if_pos c2, if_pos c2] at h
        omega
      · rw [if_neg c2, if_neg c2] at h
        omega
theorem sln_le {s : Nat → Int} (hz : szO s) (side : Int) : 3 ≤ sln s side ∧ sln s side ≤ 9 := by
  obtain ⟨⟨hw1, hw2⟩, hh1, hh2⟩ := hz
  unfold sln
  split
  · omega
  · split <;> omega
theorem bpush_self (t : BS) (c : Nat) {v : Int} (hv : v ≠ -1) : (bpush t c v).1 c ≠ -1 := by
  by_cases q : t.1 c = -1
  · unfold bpush
    rw [if_pos q]
    show (if c = c then v else _) ≠ -1
    rw [if_pos rfl]
    exact hv
  · rw [bpush_ne q]
    exact q
theorem c_sp23 (fu w r : Nat) (hfu : 1000 ≤ fu) (hw : w ≤ 1) {s : Nat → Int} (hz : szO s) {side a tgt : Int} (h1 : 0 ≤ side) (h2 : side ≤ 3) (ha : -1 ≤ a) (ha2 : a ≤ 1000) (ht1 : -1 ≤ tgt) (ht2 : tgt < 81) : ∀ (q n : Nat) (k : Int) (mem : Mem) (t : BS), k + q = sln s side → q < n → 0 ≤ k → RB mem r s → CM w mem t → SI (Sda s side a) t → (∀ c, t.1 c ≠ -1 → ∃ j, 0 ≤ j ∧ j < k ∧ scl s side j = (c : Int)) → (∀ j, 0 ≤ j → j < k → scl s side j ≠ a → t.1 (scl s side j).toNat ≠ -1) → ∃ mem2 t2 i2, K_X10_spread_23 fu w r n (zi side) (zi a) (zi tgt) (zi (sln s side)) (zi k) mem = some (zi (if 0 ≤ tgt then dlt (opa s a) nbr (Sda s side a) tgt.toNat else -1), mem2) ∧ CM w mem2 t2 ∧ BI (opa s a) nbr (Sda s side a) t2 i2 ∧ (i2 = t2.2.2 ∨ (i2 < t2.2.2 ∧ (t2.2.1 i2 : Int) = tgt)) ∧ Fr (PC w) mem mem2 := by
  have hsl := sln_le hz side
  intro q
  induction q with
  | zero =>
    intro n k mem t hk hn hk0 hR hC hI hd1 hd2
    obtain ⟨n, rfl⟩ : ∃ f, n = f + 1 := ⟨n - 1, by omega⟩
    rw [K_X10_spread_23]
    simp (disch := omega) only [zi_lit, zl_lit, zi_add, zi_sub, zi_mul, zi_neg, zi_lt, zi_inj, zi_clamp, zl_of, gi_zi, bd_s, ltf, bi_0, bi_1, gb_bi, Int.reduceToNat, Int.reduceNeg, Int.toNat_natCast]
    rw [if_neg (by omega)]
    have hBI := SI_BI (g := opa s a) (nb := nbr) hI (fun c hc => by
      obtain ⟨k2, g1, g2, g3⟩ := scl_all h1 h2 hc.1
      have g4 := hd2 k2 g1 (by omega) (by rw [g3]; exact hc.2)
      rw [g3] at g4
      exact g4)
    obtain ⟨mem2, t2, i2, b1, b2, b3, b4, b5⟩ := c_fl3 fu w r hfu hw hz ha ha2 ht1 (by omega) 81 fu 0 mem t (by omega) (by omega) hR hC hBI
    unfold K_X10_flow
    rw [show K_X10_flow_3 fu w r fu (zi a) (zi tgt) 0 mem = some mem2 from b1]
    simp (disch := omega) only [zi_lit, zl_lit, zi_add, zi_sub, zi_mul, zi_neg, zi_lt, zi_inj, zi_clamp, zl_of, gi_zi, bd_s, ltf, bi_0, bi_1, gb_bi, Int.reduceToNat, Int.reduceNeg, Int.toNat_natCast]
    refine ⟨mem2, t2, i2, ?_, b2, b3, b4, b5⟩
    by_cases c1 : tgt < 0
    · rw [if_pos (by omega), if_neg (by omega)]
    · rw [if_neg (by omega), if_pos (by omega), if_pos (by omega)]
      have e1 : t2.1 tgt.toNat = dlt (opa s a) nbr (Sda s side a) tgt.toNat := by
        rcases b4 with b4 | ⟨b4, b6⟩
        · rw [b4] at b3
          exact BI_all Sda_lt (opa_hg hz a) b3 (by omega)
        · refine BI_ex Sda_lt (opa_hg hz a) b3 (by omega) ?_
          rw [show tgt.toNat = t2.2.1 i2 by omega]
          exact (b3.1 i2 b4).2
      rw [b2.1 _ (by omega), e1]
  | succ q ih =>
    intro n k mem t hk hn hk0 hR hC hI hd1 hd2
    obtain ⟨n, rfl⟩ : ∃ f, n = f + 1 := ⟨n - 1, by omega⟩
    obtain ⟨s1, s2, s3⟩ := scl_in hz h1 h2 hk0 (show k < sln s side by omega)
    rw [K_X10_spread_23]
    simp (disch := omega) only [zi_lit, zl_lit, zi_add, zi_sub, zi_mul, zi_neg, zi_lt, zi_inj, zi_clamp, zl_of, gi_zi, bd_s, ltf, bi_0, bi_1, gb_bi, Int.reduceToNat, Int.reduceNeg, Int.toNat_natCast, c_sideCell fu r hR hz]
    rw [if_pos (by omega)]
    by_cases c1 : scl s side k = a
    · rw [if_pos c1]
      obtain ⟨mem2, t2, i2, b1, b2, b3, b4, b5⟩ := ih n (k + 1) mem t (by omega) (by omega) (by omega) hR hC hI (fun c hc => by
        obtain ⟨j, g1, g2, g3⟩ := hd1 c hc
        exact ⟨j, g1, by omega, g3⟩) (fun j g1 g2 g3 => by
        by_cases g4 : j = k
        · rw [g4] at g3
          exact absurd c1 g3
        · exact hd2 j g1 (by omega) g3)
      exact ⟨mem2, t2, i2, b1, b2, b3, b4, b5⟩
    · rw [if_neg c1]
      have hun : t.1 (scl s side k).toNat = -1 := by
        by_cases g : t.1 (scl s side k).toNat = -1
        · exact g
        · obtain ⟨j, g1, g2, g3⟩ := hd1 _ g
          have := scl_inj (show scl s side j = scl s side k by omega)
          omega
      have hsn : scl s side k = ((scl s side k).toNat : Int) := by omega
      obtain ⟨m1, a1, a2, a3⟩ := c_beginAt fu w hC (c := (scl s side k).toNat) (by omega) hun
      rw [← hsn] at a1
      rw [a1]
      obtain ⟨mem2, t2, i2, b1, b2, b3, b4, b5⟩ := ih n (k + 1) m1 _ (by omega) (by omega) (by omega) (RB_fr a3 (PC_35 hw) hR) a2 (SI_push hI (by omega) ⟨s3, by omega⟩) (fun c hc => by
        by_cases g : c = (scl s side k).toNat
        · exact ⟨k, hk0, by omega, by omega⟩
        · have g2 : t.1 c ≠ -1 := by
            intro g3
            refine hc ?_
            unfold bpush
            rw [if_pos hun]
            show (if c = _ then (0 : Int) else t.1 c) = -1
            rw [if_neg g, g3]
          obtain ⟨j, g1, g2, g3⟩ := hd1 c g2
          exact ⟨j, g1, by omega, g3⟩) (fun j g1 g2 g3 => by
        by_cases g4 : j = k
        · rw [g4]
          exact bpush_self t _ (by decide)
        · rw [bpush_ne (hd2 j g1 (by omega) g3)]
          exact hd2 j g1 (by omega) g3)
      exact ⟨mem2, t2, i2, b1, b2, b3, b4, Fr_tr a3 b5⟩
theorem c_spread (fu w r : Nat) (hfu : 1000 ≤ fu) (hw : w ≤ 1) {mem : Mem} {s : Nat → Int} (hR : RB mem r s) (hz : szO s) {side a tgt : Int} (h1 : 0 ≤ side) (h2 : side ≤ 3) (ha : -1 ≤ a) (ha2 : a ≤ 1000) (ht1 : -1 ≤ tgt) (ht2 : tgt < 81) : ∃ mem2 t2 i2, K_X10_spread fu w r (zi side) (zi a) (zi tgt) mem = some (zi (if 0 ≤ tgt then dlt (opa s a) nbr (Sda s side a) tgt.toNat else -1), mem2) ∧ CM w mem2 t2 ∧ BI (opa s a) nbr (Sda s side a) t2 i2 ∧ (i2 = t2.2.2 ∨ (i2 < t2.2.2 ∧ (t2.2.1 i2 : Int) = tgt)) ∧ Fr (PC w) mem mem2 := by
  have hsl := sln_le hz side
  have n2 : pDist w ≠ pWays w := by unfold pDist pWays; omega
  obtain ⟨m1, a1, a2, a3⟩ := c_fill fu (pDist w) 81 (zi (-1)) (by omega) (by omega) mem
  unfold K_X10_spread
  simp only [zi_lit, zl_lit, zi_add, zi_sub, zi_mul, zi_neg, zi_lt, zi_inj, zi_clamp, zl_of, gi_zi, bd_s, ltf, bi_0, bi_1, gb_bi, Int.reduceToNat, Int.reduceNeg, Int.toNat_natCast]
  rw [a1]
  simp only [zi_lit, zl_lit, zi_add, zi_sub, zi_mul, zi_neg, zi_lt, zi_inj, zi_clamp, zl_of, gi_zi, bd_s, ltf, bi_0, bi_1, gb_bi, Int.reduceToNat, Int.reduceNeg, Int.toNat_natCast]
  have f1 : Fr (PC w) mem (mw m1 (pWays w) 2 (zi 0)) := Fr_tr (Fr_mono a3 (fun k j h => by
    unfold PC at h
    rw [Bool.or_eq_false_iff, Bool.or_eq_false_iff] at h
    exact h.1.1)) (Fr_mw _ _ (by unfold PC; simp))
  have hR2 := RB_fr f1 (PC_35 hw) hR
  rw [c_sideLen fu r hR2 h1 h2]
  simp only [zi_lit, zl_lit, zi_add, zi_sub, zi_mul, zi_neg, zi_lt, zi_inj, zi_clamp, zl_of, gi_zi, bd_s, ltf, bi_0, bi_1, gb_bi, Int.reduceToNat, Int.reduceNeg, Int.toNat_natCast]
  obtain ⟨mem2, t2, i2, b1, b2, b3, b4, b5⟩ := c_sp23 fu w r hfu hw hz h1 h2 ha ha2 ht1 ht2 (sln s side).toNat fu 0 (mw m1 (pWays w) 2 (zi 0)) (fun _ => -1, fun _ => 0, 0) (by omega) (by omega) (by omega) hR2 ⟨fun c hc => by
    rw [rd_mw, if_neg (fun q => n2 q.1), a2 c, if_pos hc], fun k hk => absurd hk (Nat.not_lt_zero k), by rw [rd_mw, if_pos ⟨rfl, rfl⟩]; rfl, fun c => ⟨Int.le_refl _, (by decide : (-1 : Int) ≤ 200)⟩, (cnt_none 81).symm⟩ (SI_0 _ _) (fun c hc => absurd rfl hc) (fun j _ _ => by omega)
  exact ⟨mem2, t2, i2, b1, b2, b3, b4, Fr_tr f1 b5⟩
end CSPR
