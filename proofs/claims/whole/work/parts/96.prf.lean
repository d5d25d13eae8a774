section PRFM
theorem ZP_l {r k j : Nat} (h1 : ZP r k j = false) : PQ r k j = false ∧ ZR r k j = false ∧ PC 0 k j = false := by
  have h := h1
  unfold ZP at h
  rw [Bool.or_eq_false_iff] at h
  exact ⟨PQ_PL h.1, h.2, ZP_PC h1⟩
theorem lv_I {s : Nat → Int} (h : Inv s) : lvO s := ⟨h.1, h.2.1, h.2.2.1, h.2.2.2.1, h.2.2.2.2.1, h.2.2.2.2.2.2.1⟩
theorem c_mayBuild (fu r : Nat) (hfu : 1000 ≤ fu) {s : Nat → Int} (hI : Inv s) {c : Mem} (hR : RC c r s) {x y w : Int} (h1 : -1000 ≤ x) (h2 : x ≤ 1000) (h3 : -1000 ≤ y) (h4 : y ≤ 1000) (hw : w = 0 ∨ w = 1) : ∃ c2, K_X5_mayBuild fu r (zi x) (zi y) (zi w) c = some (zi (bi (!ovB s && (decide (0 < pg s (s 7) 3) && (isPl s x y && adB s x y (w + 1))))), c2) ∧ RC c2 r s ∧ Fr (ZP r) c c2 := by
  obtain ⟨iz, ic, iW, ip, ib, iwp, ids, irk, iwy⟩ := hI
  have c1 := ic.1
  unfold K_X5_mayBuild
  rw [c_hasEnded fu r hR ic, bd_s]
  cases ho : ovB s with
  | true =>
    rw [if_neg (show ¬ zi (bi true) = 0 by decide)]
    exact ⟨c, rfl, hR, Fr_rf _ _⟩
  | false =>
    have hov := ov_2 ic ho
    obtain ⟨u, hu⟩ : ∃ u : Nat, s 7 = u := ⟨(s 7).toNat, by have := ic.2.2.2.2.2.1; omega⟩
    have r6 : rd c (pRace r) 6 = zi (u : Int) := by rw [hR.2.1.2.2.2.1, hu]
    have iu : (zi (u : Int)).toNatClampNeg = u := by
      rw [zi_clamp (by omega) (by omega)]
      exact Int.toNat_natCast u
    have hp2 : rd c (pPawn r u) 2 = zi (pg s u 3) := (hR.2.2.1 u (by omega) (by omega)).2.2.1
    have hpn := ip u (by omega) (by omega)
    have ig : ((0 : Int32) < zi (pg s u 3)) = (0 < pg s u 3) := zi_lt (a_ := 0) (by decide) (by decide) (by have := hpn.2.2.1; omega) (by have := hpn.2.2.1; omega)
    rw [if_pos (show zi (bi false) = 0 from rfl), r6, gi_zi (by omega) (by omega) (by decide), iu, hp2, hu]
    by_cases q : 0 < pg s u 3
    · rw [if_pos (ig.mpr q), decide_eq_true q]
      obtain ⟨c2, a1, a2, a3⟩ := c_admNow fu r hfu iz ic iW ip iwy hR.1 ⟨hR.2.1.1, hR.2.2.1⟩ h1 h2 h3 h4 hw
      have n1 : ∀ k j, 35 ≤ k → k ≠ pOpen r → k ≠ pBuilt r → k ≠ pBoard r → (fun k j => FT k j || PWl r k j : Nat → Nat → Bool) k j = false := fun k j h5 h6 h7 h8 => by
        simp only [FT_lo k j h5, Bool.false_or]
        unfold PWl
        simp only [Bool.or_eq_false_iff, Bool.and_eq_false_iff, beq_eq_false_iff_ne, ne_eq]
        exact ⟨⟨h6, h7⟩, Or.inl h8⟩
      have hRC : RC c2 r s := RC_brd hR a3 a2.1 (fun j _ _ => rfl) (fun j => n1 _ _ (by unfold pRace; omega) (by unfold pRace pOpen; omega) (by unfold pRace pBuilt; omega) (by unfold pRace pBoard; omega)) (fun i j hi => n1 _ _ (by unfold pPawn; omega) (by unfold pPawn pOpen; omega) (by unfold pPawn pBuilt; omega) (by unfold pPawn pBoard; omega)) (fun i j hi => n1 _ _ (by unfold pBan; omega) (by unfold pBan pOpen; omega) (by unfold pBan pBuilt; omega) (by unfold pBan pBoard; omega)) ⟨by omega, ic.2.1.2⟩
      refine ⟨c2, ?_, hRC, Fr_mono a3 (fun k j h => (ZP_l h).1)⟩
      rw [a1, bd_s]
      cases isPl s x y && adB s x y (w + 1) with
      | true => exact if_neg (show ¬ zi (bi true) = 0 by decide)
      | false => exact if_pos (show zi (bi false) = 0 from rfl)
    · rw [if_neg (fun h => q (ig.mp h)), decide_eq_false q]
      exact ⟨c, rfl, hR, Fr_rf _ _⟩
theorem m_mayBuild (fu : Nat) (hfu : 1000 ≤ fu) {s : Nat → Int} (hI : Inv s) {m : Mem} (hS : MS m s) {x y v : Int} (hpl : isPl s x y = true) (hv : v = 1 ∨ v = 2) : ∃ m2, K_X12_mayBuild fu (zi x) (zi y) (zi v) m = some (zi (bi (!ovB s && (decide (0 < pg s (s 7) 3) && adB s x y v))), m2) ∧ Fr PB m m2 := by
  obtain ⟨iz, ic, iW, ip, ib, iwp, ids, irk, iwy⟩ := hI
  unfold K_X12_mayBuild
  rw [m_over fu hS ic, bd_s]
  cases ho : ovB s with
  | true =>
    rw [if_neg (show ¬ zi (bi true) = 0 by decide)]
    exact ⟨m, rfl, Fr_rf _ _⟩
  | false =>
    have hov := ov_2 ic ho
    have c7 := ic.2.2.2.2.2.1
    have hpn := ip (s 7) (by omega) (by omega)
    have e7 : rd m 2 (Int32.toNatClampNeg 7) = zi (s 7) := hS 7
    have ig : ((0 : Int32) < zi (pg s (s 7) 3)) = (0 < pg s (s 7) 3) := zi_lt (a_ := 0) (by decide) (by decide) (by have := hpn.2.2.1; omega) (by have := hpn.2.2.1; omega)
    have eo : K_X12_of fu (zi (s 7)) 3 m = some (zi (pg s (s 7) 3)) := k_of fu hS (k := 3) (by omega) (by omega) (by decide) (by decide)
    rw [if_pos (show zi (bi false) = 0 from rfl), show ∀ o : Option (Int32 × Mem), gi 7 184 o = o from fun o => gi_zi (a_ := 7) (by decide) (by decide) (by decide), e7, eo, bd_s]
    by_cases q : 0 < pg s (s 7) 3
    · rw [if_pos (ig.mpr q), decide_eq_true q]
      obtain ⟨m2, a1, a2⟩ := m_admits fu hfu hS iz iW ic ip hpl hv
      refine ⟨m2, ?_, a2⟩
      rw [a1, bd_s]
      cases adB s x y v with
      | true => exact if_neg (show ¬ zi (bi true) = 0 by decide)
      | false => exact if_pos (show zi (bi false) = 0 from rfl)
    · rw [if_neg (fun h => q (ig.mp h)), decide_eq_false q]
      exact ⟨m, rfl, Fr_rf _ _⟩
def PDm (k j : Nat) : Bool := PMp k j
theorem P27_Mp {k j : Nat} (h : PMp k j = false) : P27 k j = false := by
  unfold PMp at h
  unfold P27
  simp only [Bool.or_eq_false_iff, Bool.and_eq_false_iff, beq_eq_false_iff_ne, ne_eq] at h ⊢
  omega
theorem PMt_Mp {k j : Nat} (h : PMp k j = false) : PMt k j = false := by
  unfold PMp at h
  unfold PMt
  simp only [Bool.or_eq_false_iff, Bool.and_eq_false_iff, beq_eq_false_iff_ne, ne_eq] at h ⊢
  omega
theorem MS_P {m m2 : Mem} {s : Nat → Int} {P : Nat → Nat → Bool} (h : MS m s) (f : Fr P m m2) (hP : ∀ j, P 2 j = false) : MS m2 s := fun j => (f.1 _ _ (hP j)).trans (h j)
/-- a step now, in the reference -/
theorem m_stepsNow (fu : Nat) (hfu : 1000 ≤ fu) {s : Nat → Int} (hI : InvH s) {m : Mem} (hS : MS m s) {d : Nat} (hd : d < 4) (ho : ovB s = false) (hg : gB s (s 7) d ≠ 0) : ∃ m2, K_X12_stepsNow fu (zi (d : Int)) m = some (zi (dst (mvSt s (s 7) (gB s (s 7) d) d) (s 7)), m2) ∧ MS m2 (mvSt s (s 7) (gB s (s 7) d) d) ∧ Fr PMp m m2 := by
  have hov := ov_2 hI.1.2.1 ho
  have hlv := lv_I hI.1
  obtain ⟨u, hu⟩ : ∃ u : Nat, s 7 = u := ⟨(s 7).toNat, by have := hI.1.2.1.2.2.2.2.2.1; omega⟩
  rw [hu] at hg ⊢
  have hus : (u : Int) < s 2 := by omega
  have e7 : rd m 2 (Int32.toNatClampNeg 7) = zi (u : Int) := by
    rw [← hu]
    exact hS 7
  obtain ⟨m1, a1, a2⟩ := m_goesBy fu hfu hlv hS hus hd
  have hS1 := MS_P hS a2 (fun _ => rfl)
  obtain ⟨m2, b1, b2, b3⟩ := m_steps fu hfu hI.1 hS1 hd hus (by omega) hg
  have hI2 := InvH_mv hI hus hd hg
  have e2 : mvSt s u (gB s u d) d 2 = s 2 := by
    unfold mvSt
    rw [etS_ne (by decide) (by decide)]
    exact mve_ne (by omega) (by have := hI.1.2.1.1; omega) (Or.inl (by decide)) (by decide)
  obtain ⟨m3, c1, c2⟩ := m_dist fu hfu b2 hI2.1.1 hI2.1.2.2.1 hI2.1.2.1 (p := (u : Int)) (by omega) (by rw [e2]; exact hus) (hI2.1.2.2.2.1 u (by omega) (by rw [e2]; exact hus))
  refine ⟨m3, ?_, MS_P b2 c2 (fun _ => rfl), Fr_tr (Fr_tr (Fr_mono a2 (fun _ _ h => P27_Mp h)) (Fr_mono b3 (fun _ _ h => PMt_Mp h))) (Fr_mono c2 (fun _ _ h => PM_PB h))⟩
  unfold K_X12_stepsNow
  rw [show ∀ o : Option (Int32 × Mem), gi 7 184 o = o from fun o => gi_zi (a_ := 7) (by decide) (by decide) (by decide), e7, ltf, a1, bd_s, b1, bd_s, c1, bd_s]
/-- a row of a script that is done: it may be, or not -/
theorem p_do (fu : Nat) (hfu : 1000 ≤ fu) {c m : Mem} {s : Nat → Int} (hI : InvH s) (hR : RC c 0 s) (hS : MS m s) {x : Nat} (hx : x < 60) {k : Nat} {a b w : Int} (hk : k ≤ 3) (h0 : k = 0 → 0 ≤ a ∧ a ≤ 3) (h1 : k = 1 → (0 ≤ a ∧ a ≤ 99) ∧ (0 ≤ b ∧ b ≤ 99) ∧ (w = 0 ∨ w = 1)) (h3 : k = 3 → (0 ≤ a ∧ a ≤ 99) ∧ 0 ≤ b ∧ b ≤ 99) (c11 : rd c 11 x = zi (k : Int)) (c12 : rd c 12 x = zi a) (c13 : k = 1 ∨ k = 3 → rd c 13 x = zi b) (c14 : k = 1 → rd c 14 x = zi w) (hc14 : ∀ c2, Fr (ZP 0) c c2 → rd c2 14 x = rd c 14 x) {v17 v18 v19 : Int32} (m17 : k = 0 ∨ k = 1 ∨ k = 3 → v17 = zi a) (m18 : k = 1 ∨ k = 3 → v18 = zi b) (m19 : k = 1 → v19 = zi (w + 1)) : ∃ (ok : Bool) (s2 : Nat → Int) (c2 m2 : Mem), K_X8_perform fu 0 (zi (x : Int)) c = some (zi (bi ok), c2) ∧ K_X12_does fu (zi (k : Int)) v17 v18 v19 m = some (zi (bi ok), m2) ∧ RC c2 0 s2 ∧ MS m2 s2 ∧ InvH s2 ∧ Fr (ZP 0) c c2 ∧ Fr PMp m m2 := by
  have hlv := lv_I hI.1
  have hic := hI.1.2.1
  have ix : (zi (x : Int)).toNatClampNeg = x := cl60 hx
  have gx : ∀ o : Option (Int32 × Mem), gi (zi (x : Int)) 60 o = o := fun o => gi_zi (by omega) (by omega) (by decide)
  have rZ : ∀ c1, Fr (ZP 0) c c1 → RC c1 0 s → True := fun _ _ _ => trivial
  unfold K_X8_perform K_X12_does
  rw [gx, ix, c12, ltf, gx, ltf, gx, c11, ltf]
  have hkc : k = 0 ∨ k = 1 ∨ k = 2 ∨ k = 3 := by omega
  rcases hkc with e | e | e | e
  · obtain ⟨d, hd⟩ : ∃ d : Nat, a = d := ⟨a.toNat, by have := h0 e; omega⟩
    have hd4 : d < 4 := by
      have := h0 e
      omega
    rw [e, if_pos (show zi ((0 : Nat) : Int) = 0 from rfl), if_pos (show zi ((0 : Nat) : Int) = 0 from rfl), m17 (Or.inl e), hd]
    obtain ⟨m1, a1, a2⟩ := m_mayStep fu hfu hlv hS hd4
    have hS1 := MS_P hS a2 (fun _ => rfl)
    rw [c_mayMove fu 0 hfu hlv hR hd4, bd_s, a1, bd_s]
    unfold K_X12_does_84
    by_cases q : gB s (s 7) d ≠ 0
    · have ho : ovB s = false := by
        cases hh : ovB s with
        | true => exact absurd (gB_ov hh (s 7) d) q
        | false => rfl
      have hov := ov_2 hic ho
      obtain ⟨c2, b1, b2, b3⟩ := c_move fu 0 hfu hI.1 hR hd4 q
      obtain ⟨m2, d1, d2, d3⟩ := m_stepsNow fu hfu hI hS1 hd4 ho q
      obtain ⟨u, hu⟩ : ∃ u : Nat, s 7 = u := ⟨(s 7).toNat, by have := hic.2.2.2.2.2.1; omega⟩
      rw [decide_eq_true q, if_neg (show ¬ zi (bi true) = 0 by decide), if_neg (show ¬ zi (bi true) = 0 by decide), b1, bd_s, if_pos (show zi ((0 : Nat) : Int) = 0 from rfl), d1, bd_s, ltf]
      unfold K_X12_does_106 K_X12_does_123 K_X12_does_132
      rw [if_neg (by decide), if_neg (by decide), if_neg (by decide)]
      refine ⟨true, _, c2, _, rfl, rfl, b2, fun j => ?_, ?_, Fr_mono b3 (fun _ _ h => (ZP_l h).2.1), Fr_tr (Fr_tr (Fr_mono a2 (fun _ _ h => P27_Mp h)) d3) (Fr_mw _ _ rfl)⟩
      · rw [rd_mw, if_neg (fun h => absurd h.1 (by decide))]
        exact d2 j
      · rw [hu] at q ⊢
        exact InvH_mv hI (by omega) hd4 q
    · rw [decide_eq_false q, if_pos (show zi (bi false) = 0 from rfl), if_pos (show zi (bi false) = 0 from rfl)]
      exact ⟨false, s, c, m1, rfl, rfl, hR, hS1, hI, Fr_rf _ _, Fr_mono a2 (fun _ _ h => P27_Mp h)⟩
  · obtain ⟨ha, hb, hw⟩ := h1 e
    rw [e, if_neg (by decide), if_pos (show zi ((1 : Nat) : Int) = 1 from rfl), if_neg (by decide), if_pos (show zi ((1 : Nat) : Int) = 1 from rfl), m17 (Or.inr (Or.inl e)), m18 (Or.inl e), m19 e, c13 (Or.inl e), gx, c14 e]
    obtain ⟨c2, b1, b2, b3⟩ := c_mayBuild fu 0 hfu hI.1 hR (x := a) (y := b) (w := w) (by omega) (by omega) (by omega) (by omega) hw
    rw [b1, bd_s, k_isPlace fu hS hI.1.1 (x := a) (y := b) (by omega) (by omega) (by omega) (by omega), bd_s]
    by_cases hpl : isPl s a b = true
    · obtain ⟨m1, d1, d2⟩ := m_mayBuild fu hfu hI.1 hS hpl (v := w + 1) (by omega)
      have hS1 := MS_P hS d2 (fun _ => rfl)
      rw [hpl, if_neg (show ¬ zi (bi true) = 0 by decide), d1, bd_s, Bool.true_and]
      by_cases q : (!ovB s && (decide (0 < pg s (s 7) 3) && adB s a b (w + 1))) = true
      · have q2 := q
        rw [Bool.and_eq_true, Bool.and_eq_true, decide_eq_true_iff] at q2
        have ho : ovB s = false := by
          have := q2.1
          cases hh : ovB s with
          | true =>
            rw [hh] at this
            exact absurd this (by decide)
          | false => rfl
        have had := q2.2.2
        have e14 : rd c2 14 x = zi w := (hc14 c2 b3).trans (c14 e)
        obtain ⟨c3, o1, o2, o3⟩ := c_buildW fu 0 hfu hI.1 b2 hpl hw had ho
        obtain ⟨m2, p1, p2, p3⟩ := m_builds fu hfu hI.1 hS1 hpl (v := w + 1) ho
        rw [q, if_neg (show ¬ zi (bi true) = 0 by decide), if_neg (show ¬ zi (bi true) = 0 by decide), gx, e14, o1, bd_s]
        unfold K_X12_does_84
        rw [if_neg (show ¬ (1 : Int32) = 0 by decide), if_neg (by decide)]
        unfold K_X12_does_106
        rw [if_pos (show zi ((1 : Nat) : Int) = 1 from rfl), p1, bd_s, ltf]
        unfold K_X12_does_123 K_X12_does_132
        rw [if_neg (by decide), if_neg (by decide)]
        refine ⟨true, _, c3, _, rfl, rfl, o2, fun j => ?_, InvH_bd hI hpl (by omega) had ho q2.2.1, Fr_tr b3 (Fr_mono o3 (fun _ _ h => (ZP_l h).2.1)), Fr_tr (Fr_tr (Fr_mono d2 (fun _ _ h => PM_PB h)) (Fr_mono p3 (fun _ _ h => PMt_Mp h))) (Fr_mw _ _ rfl)⟩
        rw [rd_mw, if_neg (fun h => absurd h.1 (by decide))]
        exact p2 j
      · rw [bo_f q, if_pos (show zi (bi false) = 0 from rfl), if_pos (show zi (bi false) = 0 from rfl)]
        exact ⟨false, s, c2, m1, rfl, rfl, b2, hS1, hI, b3, Fr_mono d2 (fun _ _ h => PM_PB h)⟩
    · have e1 : (!ovB s && (decide (0 < pg s (s 7) 3) && (isPl s a b && adB s a b (w + 1)))) = false := by
        rw [bo_f hpl, Bool.false_and, Bool.and_false, Bool.and_false]
      rw [e1, bo_f hpl, if_pos (show zi (bi false) = 0 from rfl), if_pos (show zi (bi false) = 0 from rfl)]
      exact ⟨false, s, c2, m, rfl, rfl, b2, hS, hI, b3, Fr_rf _ _⟩
  · rw [e, if_neg (by decide), if_neg (by decide), if_pos (show zi ((2 : Nat) : Int) = 2 from rfl), if_neg (by decide), if_neg (by decide), if_pos (show zi ((2 : Nat) : Int) = 2 from rfl)]
    obtain ⟨m1, a1, a2⟩ := m_mayPass fu hfu hlv hS
    have hS1 := MS_P hS a2 (fun _ => rfl)
    rw [c_mayPass fu 0 hfu hlv hR, bd_s, a1, bd_s]
    unfold K_X12_does_84
    by_cases q : psB s = true
    · have ho : ovB s = false := by
        have q2 := q
        unfold psB at q2
        rw [Bool.and_eq_true] at q2
        have := q2.1
        cases hh : ovB s with
        | true =>
          rw [hh] at this
          exact absurd this (by decide)
        | false => rfl
      have hov := ov_2 hic ho
      have heO := etO_of hic hI.1.2.2.2.1 (by omega)
      obtain ⟨c2, b1, b2, b3⟩ := c_endTurn fu 0 hfu heO hR
      obtain ⟨m2, d1, d2, d3⟩ := m_endsTurn fu hfu heO hS1
      rw [q, if_neg (show ¬ zi (bi true) = 0 by decide), if_neg (show ¬ zi (bi true) = 0 by decide), b1, bd_s, if_neg (by decide)]
      unfold K_X12_does_106
      rw [if_neg (by decide)]
      unfold K_X12_does_123
      rw [if_pos (show zi ((2 : Nat) : Int) = 2 from rfl), d1, bd_s]
      unfold K_X12_does_132
      rw [if_neg (by decide)]
      refine ⟨true, _, c2, m2, rfl, rfl, b2, d2, InvH_et hI ho, Fr_mono b3 (fun k j h => ?_), Fr_tr (Fr_mono a2 (fun _ _ h => P27_Mp h)) (Fr_mono d3 (fun _ _ h => PMt_Mp h))⟩
      have h5 := (ZP_l h).2.1
      unfold ZR at h5
      unfold PEt pRace
      simp only [Bool.and_eq_false_iff, beq_eq_false_iff_ne, ne_eq, decide_eq_false_iff_not] at h5 ⊢
      omega
    · rw [bo_f q, if_pos (show zi (bi false) = 0 from rfl), if_pos (show zi (bi false) = 0 from rfl)]
      exact ⟨false, s, c, m1, rfl, rfl, hR, hS1, hI, Fr_rf _ _, Fr_mono a2 (fun _ _ h => P27_Mp h)⟩
  · obtain ⟨ha, hb⟩ := h3 e
    rw [e, if_neg (by decide), if_neg (by decide), if_neg (by decide), if_pos (show zi ((3 : Nat) : Int) = 3 from rfl), if_neg (by decide), if_neg (by decide), if_neg (by decide), m17 (Or.inr (Or.inr e)), m18 (Or.inr e), c13 (Or.inr e), zl_of (by omega) (by omega), zl_of (by omega) (by omega)]
    have hin1 : K_X12_isIn fu (zl a) 0 1 m = _ := k_isIn fu m (v_ := a) (a_ := 0) (b_ := 1) (by omega) (by omega) (by decide) (by decide) (by decide) (by decide)
    have hin2 : K_X12_isIn fu (zl b) 1 99 m = _ := k_isIn fu m (v_ := b) (a_ := 1) (b_ := 99) (by omega) (by omega) (by decide) (by decide) (by decide) (by decide)
    have hmp : K_X11_mayPlay fu (zi a) (zi b) c = some (zi (bi (decide (0 ≤ a ∧ a ≤ 1) && decide (1 ≤ b ∧ b ≤ 99)))) := by
      have i1 : (zi a < (0 : Int32)) = (a < 0) := zi_lt (b_ := 0) (by omega) (by omega) (by decide) (by decide)
      have i2 : (zi a < (2 : Int32)) = (a < 2) := zi_lt (b_ := 2) (by omega) (by omega) (by decide) (by decide)
      have i3 : (zi b < (1 : Int32)) = (b < 1) := zi_lt (b_ := 1) (by omega) (by omega) (by decide) (by decide)
      have i4 : ((99 : Int32) < zi b) = (99 < b) := zi_lt (a_ := 99) (by decide) (by decide) (by omega) (by omega)
      unfold K_X11_mayPlay
      rw [if_neg (fun h => by have := i1.mp h; omega)]
      by_cases q1 : a < 2
      · rw [if_pos (i2.mpr q1)]
        by_cases q2 : b < 1
        · rw [if_pos (i3.mpr q2), decide_eq_true (show 0 ≤ a ∧ a ≤ 1 by omega), decide_eq_false (show ¬ (1 ≤ b ∧ b ≤ 99) by omega)]
          rfl
        · rw [if_neg (fun h => q2 (i3.mp h)), if_neg (fun h => by have := i4.mp h; omega), decide_eq_true (show 0 ≤ a ∧ a ≤ 1 by omega), decide_eq_true (show 1 ≤ b ∧ b ≤ 99 by omega)]
          rfl
      · rw [if_neg (fun h => q1 (i2.mp h)), decide_eq_false (show ¬ (0 ≤ a ∧ a ≤ 1) by omega)]
        rfl
    rw [hmp, bd_s, hin1, bd_s]
    by_cases q1 : 0 ≤ a ∧ a ≤ 1
    · rw [decide_eq_true q1, if_neg (show ¬ zi (bi true) = 0 by decide), hin2, bd_s, Bool.true_and]
      by_cases q2 : 1 ≤ b ∧ b ≤ 99
      · obtain ⟨n, hn⟩ : ∃ n : Nat, b = n := ⟨b.toNat, by omega⟩
        obtain ⟨c2, b1, b2, b3⟩ := c_plays fu 0 hfu q1 (n := n) (by omega) hI.1 hR
        obtain ⟨m2, d1, d2, d3⟩ := m_plays fu hfu q1 (n := n) (by omega) hI.1 hS
        rw [decide_eq_true q2, if_neg (show ¬ zi (bi true) = 0 by decide), if_neg (show ¬ zi (bi true) = 0 by decide), hn, b1, bd_s]
        unfold K_X12_does_84
        rw [if_neg (show ¬ (1 : Int32) = 0 by decide), if_neg (by decide)]
        unfold K_X12_does_106
        rw [if_neg (by decide)]
        unfold K_X12_does_123
        rw [if_neg (by decide)]
        unfold K_X12_does_132
        rw [if_pos (show zi ((3 : Nat) : Int) = 3 from rfl), d1, bd_s, ltf]
        refine ⟨true, _, c2, _, rfl, rfl, b2, fun j => ?_, InvH_pl a n s 0 hI, b3, Fr_tr d3 (Fr_mw _ _ rfl)⟩
        rw [rd_mw, if_neg (fun h => absurd h.1 (by decide))]
        exact d2 j
      · rw [decide_eq_false q2, if_pos (show zi (bi false) = 0 from rfl), if_pos (show zi (bi false) = 0 from rfl)]
        exact ⟨false, s, c, m, rfl, rfl, hR, hS, hI, Fr_rf _ _, Fr_rf _ _⟩
    · rw [decide_eq_false q1, if_pos (show zi (bi false) = 0 from rfl), Bool.false_and, if_pos (show zi (bi false) = 0 from rfl)]
      exact ⟨false, s, c, m, rfl, rfl, hR, hS, hI, Fr_rf _ _, Fr_rf _ _⟩
end PRFM
