section MCC
theorem LW_pw {np nb : Nat} {m : Mem} {s : Nat → Int} (hS : LW np nb m s) (hnp : np ≤ 4) {p k : Nat} (hp : p < np) (hk : k ≤ 6) {j : Nat} (hj : j = 8 + 7 * p + k) {v : Int} : LW np nb (mw m (13 + p) k (zi v)) (up1 s j v) := by
  obtain ⟨⟨e1, e2⟩, e3, ⟨e4, e5, e6⟩, e7, e8⟩ := hS
  refine ⟨⟨(up1_ne (by omega)).trans e1, (up1_ne (by omega)).trans e2⟩, ⟨?_, ?_, fun x' y' hx1 hx2 hy1 hy2 => ?_⟩, ⟨?_, ?_, ?_⟩, fun q hq => ?_, fun b hb => ?_⟩
  · rw [rd_mw, if_neg (by omega), up1_ne (by omega)]
    exact e3.1
  · rw [rd_mw, if_neg (by omega), up1_ne (by omega)]
    exact e3.2.1
  · rw [rd_mw, if_neg (by omega), up1_ne (by omega)]
    exact e3.2.2 x' y' hx1 hx2 hy1 hy2
  · rw [rd_mw, if_neg (by omega), up1_ne (by omega)]
    exact e4
  · rw [rd_mw, if_neg (by omega), up1_ne (by omega)]
    exact e5
  · rw [rd_mw, if_neg (by omega), up1_ne (by omega)]
    exact e6
  · have g : ∀ i : Nat, i ≤ 6 → rd m (13 + q) i = zi (pg s q i) → rd (mw m (13 + p) k (zi v)) (13 + q) i = zi (pg (up1 s j v) q i) := fun i hi h => by
      rw [rd_mw]
      unfold pg up1
      by_cases c : 13 + q = 13 + p ∧ i = k
      · rw [if_pos c, if_pos (by omega)]
      · rw [if_neg c, if_neg (by omega), h]
        rfl
    obtain ⟨q0, q1, q2, q3, q4, q5, q6⟩ := e7 q hq
    exact ⟨g 0 (by decide) q0, g 1 (by decide) q1, g 2 (by decide) q2, g 3 (by decide) q3, g 4 (by decide) q4, g 5 (by decide) q5, g 6 (by decide) q6⟩
  · have g : ∀ i : Nat, i ≤ 6 → rd m (14 + np + b) i = zi (bg s b i) → rd (mw m (13 + p) k (zi v)) (14 + np + b) i = zi (bg (up1 s j v) b i) := fun i hi h => by
      rw [rd_mw, if_neg (by omega), h]
      unfold bg
      rw [up1_ne (by omega)]
    obtain ⟨q0, q1, q2, q3, q4, q5, q6⟩ := e8 b hb
    exact ⟨g 0 (by decide) q0, g 1 (by decide) q1, g 2 (by decide) q2, g 3 (by decide) q3, g 4 (by decide) q4, g 5 (by decide) q5, g 6 (by decide) q6⟩
theorem LW_cg {np nb : Nat} {m : Mem} {s s2 : Nat → Int} (hS : LW np nb m s) (h : ∀ j, j ≠ 3 → s2 j = s j) : LW np nb m s2 := by
  obtain ⟨⟨e1, e2⟩, e3, ⟨e4, e5, e6⟩, e7, e8⟩ := hS
  have g : ∀ j, 4 ≤ j → s2 j = s j := fun j hj => h j (by omega)
  refine ⟨⟨(h 2 (by decide)).trans e1, (h 6 (by decide)).trans e2⟩, ⟨by rw [h 0 (by decide)]; exact e3.1, by rw [h 1 (by decide)]; exact e3.2.1, fun x' y' hx1 hx2 hy1 hy2 => ?_⟩, ⟨by rw [h 4 (by decide)]; exact e4, by rw [h 5 (by decide)]; exact e5, by rw [h 7 (by decide)]; exact e6⟩, fun q hq => ?_, fun b hb => ?_⟩
  · rw [g _ (by omega)]
    exact e3.2.2 x' y' hx1 hx2 hy1 hy2
  · have p : ∀ i : Int, 0 ≤ i → pg s2 q i = pg s q i := fun i hi => g _ (by omega)
    unfold LWp
    rw [p 0 (by decide), p 1 (by decide), p 2 (by decide), p 3 (by decide), p 4 (by decide), p 5 (by decide), p 6 (by decide)]
    exact e7 q hq
  · have p : ∀ i : Int, 0 ≤ i → bg s2 b i = bg s b i := fun i hi => g _ (by omega)
    unfold LWb
    rw [p 0 (by decide), p 1 (by decide), p 2 (by decide), p 3 (by decide), p 4 (by decide), p 5 (by decide), p 6 (by decide)]
    exact e8 b hb
theorem LW_cnt {np nb : Nat} {m : Mem} {s : Nat → Int} (hS : LW np nb m s) {v : Int} : LW np nb (mw m 0 3 (zi v)) (up1 s 5 v) := by
  obtain ⟨⟨e1, e2⟩, e3, ⟨e4, e5, e6⟩, e7, e8⟩ := hS
  have g : ∀ j, j ≠ 5 → up1 s 5 v j = s j := fun j hj => up1_ne hj
  refine ⟨⟨(g 2 (by decide)).trans e1, (g 6 (by decide)).trans e2⟩, ⟨?_, ?_, fun x' y' hx1 hx2 hy1 hy2 => ?_⟩, ⟨?_, ?_, ?_⟩, fun q hq => ?_, fun b hb => ?_⟩
  · rw [rd_mw, if_neg (by omega), g 0 (by decide)]
    exact e3.1
  · rw [rd_mw, if_neg (by omega), g 1 (by decide)]
    exact e3.2.1
  · rw [rd_mw, if_neg (by omega), g _ (by omega)]
    exact e3.2.2 x' y' hx1 hx2 hy1 hy2
  · rw [rd_mw, if_neg (by omega), g 4 (by decide)]
    exact e4
  · rw [rd_mw, if_pos ⟨rfl, rfl⟩, up1_eq]
  · rw [rd_mw, if_neg (by omega), g 7 (by decide)]
    exact e6
  · have p : ∀ i : Int, 0 ≤ i → pg (up1 s 5 v) q i = pg s q i := fun i hi => g _ (by omega)
    unfold LWp
    simp only [rd_mw]
    rw [p 0 (by decide), p 1 (by decide), p 2 (by decide), p 3 (by decide), p 4 (by decide), p 5 (by decide), p 6 (by decide), if_neg (by omega), if_neg (by omega), if_neg (by omega), if_neg (by omega), if_neg (by omega), if_neg (by omega), if_neg (by omega)]
    exact e7 q hq
  · have p : ∀ i : Int, 0 ≤ i → bg (up1 s 5 v) b i = bg s b i := fun i hi => g _ (by omega)
    unfold LWb
    simp only [rd_mw]
    rw [p 0 (by decide), p 1 (by decide), p 2 (by decide), p 3 (by decide), p 4 (by decide), p 5 (by decide), p 6 (by decide), if_neg (by omega), if_neg (by omega), if_neg (by omega), if_neg (by omega), if_neg (by omega), if_neg (by omega), if_neg (by omega)]
    exact e8 b hb
/-- what the law's race keeps: the flat race, its invariant, a small board, small rules -/
def WI (np nb : Nat) (m : Mem) (s : Nat → Int) : Prop := LW np nb m s ∧ Inv s ∧ smO s ∧ bnGA s ∧ np ≤ 4 ∧ nb ≤ 4
theorem WI_D {np nb : Nat} {m : Mem} {s : Nat → Int} (h : WI np nb m s) : LvD np nb m s := ⟨h.1, h.2.1.1, h.2.2.1, h.2.1.2.2.1, h.2.1.2.1, h.2.1.2.2.2.1, h.2.2.2.2.1, h.2.2.2.2.2⟩
theorem WI_W {np nb : Nat} {m : Mem} {s : Nat → Int} (h : WI np nb m s) : LvW np nb m s := ⟨h.1, ⟨h.2.1.1, h.2.1.2.1, h.2.1.2.2.1, h.2.1.2.2.2.1, h.2.1.2.2.2.2.1, h.2.1.2.2.2.2.2.2.1⟩, h.2.2.2.1, h.2.2.2.2.2⟩
theorem WI_mk {np nb : Nat} {m m2 : Mem} {s s2 : Nat → Int} (h : WI np nb m s) (h2 : LW np nb m2 s2) (hI : Inv s2) (e : ∀ j, j < 2 ∨ j = 6 ∨ (36 ≤ j ∧ j < 120) → s2 j = s j) : WI np nb m2 s2 := by
  refine ⟨h2, hI, ?_, fun b b0 b1 => ?_, h.2.2.2.2⟩
  · unfold smO
    rw [e 0 (by omega), e 1 (by omega)]
    exact h.2.2.1
  · have e6 := e 6 (by omega)
    have hb := h.2.2.2.1 b b0 (by omega)
    have h12 := h.2.1.2.1.2.1
    unfold bnG
    intro k k0 k1
    have : bg s2 b k = bg s b k := e _ (by omega)
    rw [this]
    exact hb k k0 k1
theorem LW_dst {np nb fu : Nat} (hfu : 100000 ≤ fu) {m : Mem} {s : Nat → Int} (h : WI np nb m s) {p : Nat} (hp : p < np) : KW_distance np nb fu (zi (p : Int)) m = some (zi (dst s p)) := by
  have e := LvD_dst hfu (WI_D h) hp
  have b := dst1_b (WI_D h) hp
  have e2 := h.1.1.1
  rw [b.2.2.1 (h.2.1.2.2.2.2.2.2.2.2 p (by omega) (by omega))] at e
  exact e
theorem w_build {np nb fu : Nat} (hfu : 100000 ≤ fu) {m : Mem} {s : Nat → Int} (h : WI np nb m s) {x y v : Int} (hpl : isPl s x y = true) (hv : v = 1 ∨ v = 2) (had : adB s x y v = true) (ho : ovB s = false) (h3 : 0 < pg s (s 7) 3) : ∃ m2, KW_build np nb fu (zi x) (zi y) (zi v) m = some (zi (pg s (s 7) 3 - 1), m2) ∧ WI np nb m2 (bdS s x y v) := by
  have h' := h
  obtain ⟨hS, hI, hsm, hbg, h7, h8⟩ := h'
  have hI' := hI
  obtain ⟨hz, hc, hW, hp, hb, hwp, hds, hrk, hwy⟩ := hI'
  have hov := ov_2 hc ho
  have hcc := hc
  obtain ⟨c1, c2, c3, c4, c5, c6, c7⟩ := hcc
  have hz2 := hz
  obtain ⟨⟨hw1, hw2⟩, hh1, hh2⟩ := hz2
  obtain ⟨⟨x1, x2⟩, y1, y2⟩ := isPl_iff.mp hpl
  have e2 := hS.1.1
  obtain ⟨t, ht⟩ : ∃ t : Nat, s 7 = (t : Int) := ⟨(s 7).toNat, by omega⟩
  have htn : t < np := by have := c7 (by omega); omega
  have hpt := hp t (by omega) (by omega)
  have L1 := LW_sw hS h7 h8 (x := x) (y := y) ⟨x1, by omega⟩ ⟨y1, by omega⟩ v
  have L2 : LW np nb (mw m (4 + y.toNat) x.toNat (zi v)) (sw3 s x y v) := LW_cg L1 (fun j hj => sw3_ne hj)
  have L3 : LW np nb (mw (mw m (4 + y.toNat) x.toNat (zi v)) (13 + t) 3 (zi (pg s (s 7) 3 - 1))) (bwS s x y v) := LW_pw L2 h7 htn (by decide) (by omega)
  obtain ⟨m2, g1, g2⟩ := w_endTurn (fu := fu) (by omega) (et_bw hc hp ho x1 y1) L3
  have hIb := Inv_bd hI hpl hv had ho h3
  have r4 : rd m 0 4 = zi (t : Int) := by rw [hS.2.2.1.2.2, ht]
  have r3 : rd (mw m (4 + y.toNat) x.toNat (zi v)) (13 + t) 3 = zi (pg s t 3) := by
    rw [rd_mw, if_neg (by omega)]
    exact (hS.2.2.2.1 t htn).2.2.2.1
  have r5 : rd m2 (13 + t) 3 = zi (pg s (s 7) 3 - 1) := by
    have := (g2.2.2.2.1 t htn).2.2.2.1
    rw [etS_pg _ (by omega) (by decide), bw_pg x1 y1 (by omega) (by omega) (by omega) (by decide), if_pos ⟨ht.symm, rfl⟩] at this
    exact this
  refine ⟨m2, ?_, WI_mk h g2 hIb (fun j hj => (etS_ne (by omega) (by omega)).trans (bw_lt x1 y1 c6.1 c6.2 (by omega) (by omega)))⟩
  unfold KW_build
  rw [r4, gi_zi (by omega) (by omega) (by omega), gi_zi (by omega) (by omega) (by omega), gi_zi (by omega) (by omega) (by omega), ltf, ltf, zi_clamp (by omega) (by omega), zi_clamp (by omega) (by omega), zi_clamp (by omega) (by omega), Int.toNat_natCast, r3, show (1 : Int32) = zi 1 from rfl, zi_sub, ← ht, g1, bd_s, r5]
theorem w_step {np nb fu : Nat} (hfu : 100000 ≤ fu) {m : Mem} {s : Nat → Int} (h : WI np nb m s) {d : Nat} (hd : d < 4) (hg : gB s (s 7) d ≠ 0) : ∃ m2, KW_step np nb fu (zi (d : Int)) m = some (zi (dst (mvSt s (s 7) (gB s (s 7) d) d) (s 7)), m2) ∧ WI np nb m2 (mvSt s (s 7) (gB s (s 7) d) d) := by
  have h' := h
  obtain ⟨hS, hI, hsm, hbg, h7, h8⟩ := h'
  have hI' := hI
  obtain ⟨hz, hc, hW, hp, hb, hwp, hds, hrk, hwy⟩ := hI'
  have hcc := hc
  obtain ⟨c1, c2, c3, c4, c5, c6, c7⟩ := hcc
  have hz2 := hz
  obtain ⟨⟨hw1, hw2⟩, hh1, hh2⟩ := hz2
  have e2 := hS.1.1
  obtain ⟨t, ht⟩ : ∃ t : Nat, s 7 = (t : Int) := ⟨(s 7).toNat, by omega⟩
  rw [ht] at hg ⊢
  have ho : ovB s = false := by
    cases q : ovB s with
    | false => rfl
    | true =>
      refine absurd ?_ hg
      unfold gB
      by_cases z : 0 < pg s t 6
      · rw [if_pos z]
      · rw [if_neg z, if_pos q]
  have hov := ov_2 hc ho
  have htn : t < np := by have := c7 (by omega); omega
  have hpt := hp t (by omega) (by omega)
  obtain ⟨l1, l2, l3, l4, l5, l6, l7, l8, l9⟩ := gB_ld hz hpt hd hg
  have hci := isCl_iff.mp l5
  have b2 := hpt.2.1
  have b4 := hpt.2.2.2.1
  have b6 := hpt.2.2.2.2.2.1
  have hln := w_landing (fu := fu) (by omega) (WI_W h) htn hd
  rw [if_neg hg] at hln
  obtain ⟨g, hgg⟩ : ∃ g, gB s t d = g := ⟨_, rfl⟩
  have hIm := Inv_mv hI (p := t) (by omega) hd hg
  rw [hgg] at l3 l4 hIm ⊢
  obtain ⟨q0, q1, q2, q3, q4, q5, q6⟩ := hS.2.2.2.1 t htn
  have r4 : rd m 0 4 = zi (t : Int) := by rw [hS.2.2.1.2.2, ht]
  have La : LW np nb (mw m (13 + t) 0 (zi (pg s t 0 + g * dx (d : Int)))) (mva s t g d) := LW_pw hS h7 htn (by decide) (by omega)
  have Lb : LW np nb (mw (mw m (13 + t) 0 (zi (pg s t 0 + g * dx (d : Int)))) (13 + t) 1 (zi (pg s t 1 + g * dy (d : Int)))) (mvb s t g d) := LW_pw La h7 htn (by decide) (by omega)
  have Lc : LW np nb (mw (mw (mw m (13 + t) 0 (zi (pg s t 0 + g * dx (d : Int)))) (13 + t) 1 (zi (pg s t 1 + g * dy (d : Int)))) (13 + t) 4 (zi (pg s t 4 + 1))) (mvc s t g d) := LW_pw Lb h7 htn (by decide) (by omega)
  have Ld : LW np nb (mw (mw (mw (mw m (13 + t) 0 (zi (pg s t 0 + g * dx (d : Int)))) (13 + t) 1 (zi (pg s t 1 + g * dy (d : Int)))) (13 + t) 4 (zi (pg s t 4 + 1))) (13 + t) 5 (zi (d : Int))) (mvd s t g d) := LW_pw Lc h7 htn (by decide) (by omega)
  obtain ⟨M, hM⟩ : ∃ M, M = mw (mw (mw (mw m (13 + t) 0 (zi (pg s t 0 + g * dx (d : Int)))) (13 + t) 1 (zi (pg s t 1 + g * dy (d : Int)))) (13 + t) 4 (zi (pg s t 4 + 1))) (13 + t) 5 (zi (d : Int)) := ⟨_, rfl⟩
  rw [← hM] at Ld
  have et : etO (mve s t g d) := by
    have E : ∀ j, j < 8 → j ≠ 5 → mve s t g d j = s j := fun j hj h5 => mve_ne (by omega) (by omega) (Or.inl hj) h5
    refine ⟨?_, ?_, fun q a0 a1 => ?_⟩
    · rw [E 2 (by decide) (by decide)]
      omega
    · rw [E 7 (by decide) (by decide), E 2 (by decide) (by decide)]
      omega
    · rw [E 2 (by decide) (by decide)] at a1
      rw [mve_pg (by omega) a0 (by decide)]
      split
      · omega
      · by_cases c : q = t
        · rw [c, (mvd_p (by omega)).2.2.2.2.2.2]
          omega
        · rw [mvd_q (by omega) a0 (by decide) c]
          have := (hp q a0 a1).2.2.2.2.2.1
          omega
  have zd := mvd_p (s := s) (p := (t : Int)) (g := g) (d := d) (by omega)
  have zd0 : mvd s t g d 0 = s 0 := mvd_ne (by omega) (by omega) (Or.inl (by decide))
  have zd1 : mvd s t g d 1 = s 1 := mvd_ne (by omega) (by omega) (Or.inl (by decide))
  have zd5 : mvd s t g d 5 = s 5 := mvd_ne (by omega) (by omega) (Or.inl (by decide))
  have hzd : szO (mvd s t g d) := by
    unfold szO
    rw [zd0, zd1]
    exact hz
  have hat := w_isAtSide (np := np) (nb := nb) (fu := fu) Ld.2.1 hzd (x := pg s t 0 + g * dx (d : Int)) (y := pg s t 1 + g * dy (d : Int)) (d := pg s t 2) (by omega) (by omega) (by omega) (by omega) (by omega) (by omega)
  rw [show atS (mvd s t g d) (pg s t 0 + g * dx (d : Int)) (pg s t 1 + g * dy (d : Int)) (pg s t 2) = atS s (pg s t 0 + g * dx (d : Int)) (pg s t 1 + g * dy (d : Int)) (pg s t 2) by
    unfold atS
    rw [zd0, zd1]] at hat
  obtain ⟨u0, u1, u2, u3, u4, u5, u6⟩ := Ld.2.2.2.1 t htn
  rw [zd.1] at u0
  rw [zd.2.1] at u1
  rw [zd.2.2.1] at u2
  have u7 := Ld.2.2.1.2.1
  rw [zd5] at u7
  have fin : ∀ m3, LW np nb m3 (etS (mve s t g d)) → WI np nb m3 (mvSt s t g d) := fun m3 hL => WI_mk h hL hIm (fun j hj => (etS_ne (by omega) (by omega)).trans (mve_ne (by omega) (by omega) (by omega) (by omega)))
  unfold KW_step
  rw [r4, gi_zi (by omega) (by omega) (by omega), hln, bd_s, show (10 : Int32) = zi 10 from rfl, zi_mod (by omega) (by omega) (by omega) (by omega), zi_div (by omega) (by omega) (by omega) (by omega), show (10 * yo (ldN s t d) + xo (ldN s t d)) % 10 = pg s t 0 + g * dx (d : Int) by omega, show (10 * yo (ldN s t d) + xo (ldN s t d)) / 10 = pg s t 1 + g * dy (d : Int) by omega, zi_clamp (by omega) (by omega), Int.toNat_natCast, ltf, ltf, rd_mw, if_neg (by omega), rd_mw, if_neg (by omega), q4, show (1 : Int32) = zi 1 from rfl, zi_add, ltf, ltf, ← hM, u0, u1, u2, hat, bd_s]
  cases hA : atS s (pg s t 0 + g * dx (d : Int)) (pg s t 1 + g * dy (d : Int)) (pg s t 2) with
  | false =>
    have em : mve s t g d = mvd s t g d := if_neg (by rw [hA]; decide)
    rw [if_pos (by rfl)]
    rw [em] at et fin
    obtain ⟨m2, g1, g2⟩ := w_endTurn (fu := fu) (by omega) et Ld
    have w := fin m2 g2
    refine ⟨m2, ?_, w⟩
    rw [g1, bd_s, LW_dst hfu w htn, bd_s]
  | true =>
    have em : mve s t g d = mvf s t g d := if_pos hA
    rw [em] at et fin
    have Le : LW np nb (mw M 0 3 (zi (s 5 + 1))) (up1 (mvd s t g d) 5 (s 5 + 1)) := LW_cnt Ld
    have Lf : LW np nb (mw (mw M 0 3 (zi (s 5 + 1))) (13 + t) 6 (zi (s 5 + 1))) (mvf s t g d) := LW_pw Le h7 htn (by decide) (by omega)
    obtain ⟨m2, g1, g2⟩ := w_endTurn (fu := fu) (by omega) et Lf
    have w := fin m2 g2
    refine ⟨m2, ?_, w⟩
    rw [if_neg (by decide), u7, zi_add, ltf, ltf, g1, bd_s, LW_dst hfu w htn, bd_s]
end MCC
