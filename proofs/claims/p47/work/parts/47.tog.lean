section CTOG
theorem msk_cg {f g : Nat → Bool} (h : ∀ e, e < 4 → f e = g e) : msk f = msk g := by
  unfold msk
  rw [h 0 (by decide), h 1 (by decide), h 2 (by decide), h 3 (by decide)]
def tg (F : Nat → Nat → Bool) (a d : Nat) : Nat → Nat → Bool := fun b e => F b e != decide (b = a ∧ e = d)
theorem xor4 (b : Bool) {P1 P2 P3 P4 Q : Prop} [Decidable P1] [Decidable P2] [Decidable P3] [Decidable P4] [Decidable Q] (h : Q ↔ P1 ∨ P2 ∨ P3 ∨ P4) (n12 : ¬ (P1 ∧ P2)) (n13 : ¬ (P1 ∧ P3)) (n14 : ¬ (P1 ∧ P4)) (n23 : ¬ (P2 ∧ P3)) (n24 : ¬ (P2 ∧ P4)) (n34 : ¬ (P3 ∧ P4)) : ((((b != decide P1) != decide P2) != decide P3) != decide P4) = (b != decide Q) := by
  by_cases p1 : P1
  · have p2 : ¬ P2 := fun p => n12 ⟨p1, p⟩
    have p3 : ¬ P3 := fun p => n13 ⟨p1, p⟩
    have p4 : ¬ P4 := fun p => n14 ⟨p1, p⟩
    rw [decide_eq_true p1, decide_eq_false p2, decide_eq_false p3, decide_eq_false p4, decide_eq_true (h.mpr (Or.inl p1))]
    cases b <;> rfl
  · by_cases p2 : P2
    · have p3 : ¬ P3 := fun p => n23 ⟨p2, p⟩
      have p4 : ¬ P4 := fun p => n24 ⟨p2, p⟩
      rw [decide_eq_false p1, decide_eq_true p2, decide_eq_false p3, decide_eq_false p4, decide_eq_true (h.mpr (Or.inr (Or.inl p2)))]
      cases b <;> rfl
    · by_cases p3 : P3
      · have p4 : ¬ P4 := fun p => n34 ⟨p3, p⟩
        rw [decide_eq_false p1, decide_eq_false p2, decide_eq_true p3, decide_eq_false p4, decide_eq_true (h.mpr (Or.inr (Or.inr (Or.inl p3))))]
        cases b <;> rfl
      · by_cases p4 : P4
        · rw [decide_eq_false p1, decide_eq_false p2, decide_eq_false p3, decide_eq_true p4, decide_eq_true (h.mpr (Or.inr (Or.inr (Or.inr p4))))]
          cases b <;> rfl
        · rw [decide_eq_false p1, decide_eq_false p2, decide_eq_false p3, decide_eq_false p4, decide_eq_false (fun q => by
            rcases h.mp q with q | q | q | q
            · exact p1 q
            · exact p2 q
            · exact p3 q
            · exact p4 q)]
          cases b <;> rfl
def OM (mem : Mem) (r : Nat) (F : Nat → Nat → Bool) : Prop := ∀ c, c < 81 → rd mem (pOpen r) c = msk (F c)
def PO (r : Nat) (k _ : Nat) : Bool := k == pOpen r
theorem PO_t (r j : Nat) : PO r (pOpen r) j = true := by unfold PO; simp
theorem OM_tg {mem : Mem} {r : Nat} {F : Nat → Nat → Bool} (h : OM mem r F) {u d : Nat} (hu : u < 81) (hd : d < 4) : OM (mw mem (pOpen r) u (rd mem (pOpen r) u ^^^ (zi 1 <<< (zi (d : Int) &&& zi 31)))) r (tg F u d) := fun a ha => by
  rw [rd_mw, h u hu, msk_xor _ hd]
  by_cases q : a = u
  · rw [if_pos ⟨rfl, q⟩, q]
    refine msk_cg (fun e _ => ?_)
    unfold tg
    by_cases q2 : e = d
    · rw [if_pos q2, decide_eq_true ⟨rfl, q2⟩]
      cases F u e <;> rfl
    · rw [if_neg q2, decide_eq_false (fun x => q2 x.2)]
      cases F u e <;> rfl
  · rw [if_neg (fun x => q x.2), h a ha]
    refine msk_cg (fun e _ => ?_)
    unfold tg
    rw [decide_eq_false (fun x => q x.1)]
    cases F a e <;> rfl
theorem c_tg1 (fu n r : Nat) {mem : Mem} {F : Nat → Nat → Bool} (h : OM mem r F) {c st k : Int} {d e u v : Nat} (hd : d < 4) (he : e < 4) (hx : zi (d : Int) ^^^ zi 2 = zi (e : Int)) (hu : c + k * st = (u : Int)) (hu2 : u < 81) (hv : (u : Int) + (9 * dy (d : Int) + dx (d : Int)) = (v : Int)) (hv2 : v < 81) (hk : k = 0 ∨ k = 1) : ∃ mem2, K_X2_toggleSteps_25 fu r (n + 1) (zi c) (zi (d : Int)) (zi st) (zi k) mem = K_X2_toggleSteps_25 fu r n (zi c) (zi (d : Int)) (zi st) (zi (k + 1)) mem2 ∧ OM mem2 r (tg (tg F u d) v e) ∧ Fr (PO r) mem mem2 := by
  rw [K_X2_toggleSteps_25]
  simp (disch := omega) only [zi_lit, zl_lit, zi_add, zi_sub, zi_mul, zi_neg, zi_lt, zi_inj, zi_clamp, zl_of, gi_zi, bd_s, ltf, bi_0, bi_1, gb_bi, Int.reduceToNat, Int.reduceNeg, Int.toNat_natCast, hu, offV_z hd, hv, hx]
  rw [if_pos (by omega), if_neg (by omega), if_pos (by omega)]
  exact ⟨_, rfl, OM_tg (OM_tg h hu2 hd) hv2 he, Fr_tr (Fr_mw _ _ (PO_t r _)) (Fr_mw _ _ (PO_t r _))⟩
theorem c_toggle (fu r : Nat) (hfu : 1000 ≤ fu) {mem : Mem} {F : Nat → Nat → Bool} (h : OM mem r F) {x y w : Int} (hx : 0 ≤ x ∧ x ≤ 7) (hy : 0 ≤ y ∧ y ≤ 7) (hw : w = 0 ∨ w = 1) : ∃ mem2, K_X2_toggleSteps fu r (zi (y * 9 + x)) (zi w) mem = some mem2 ∧ OM mem2 r (fun a e => F a e != cut x y (w + 1) a e) ∧ Fr (PO r) mem mem2 := by
  obtain ⟨f, rfl⟩ : ∃ f, fu = f + 3 := ⟨fu - 3, by omega⟩
  unfold K_X2_toggleSteps K_X2_toggleSteps_9 K_X2_toggleSteps_20
  rcases hw with rfl | rfl
  · obtain ⟨m1, a1, a2, a3⟩ := c_tg1 (f + 3) (f + 2) r h (c := y * 9 + x) (st := 1) (k := 0) (d := 0) (e := 2) (u := (9 * y + x).toNat) (v := (9 * y + x).toNat + 9) (by decide) (by decide) rfl (by omega) (by omega) (by rw [show dx ((0 : Nat) : Int) = 0 from rfl, show dy ((0 : Nat) : Int) = 1 from rfl]; omega) (by omega) (Or.inl rfl)
    obtain ⟨m2, b1, b2, b3⟩ := c_tg1 (f + 3) (f + 1) r a2 (c := y * 9 + x) (st := 1) (k := 1) (d := 0) (e := 2) (u := (9 * y + x).toNat + 1) (v := (9 * y + x).toNat + 10) (by decide) (by decide) rfl (by omega) (by omega) (by rw [show dx ((0 : Nat) : Int) = 0 from rfl, show dy ((0 : Nat) : Int) = 1 from rfl]; omega) (by omega) (Or.inr rfl)
    refine ⟨m2, ?_, fun a ha => ?_, Fr_tr a3 b3⟩
    · rw [if_pos (show zi 0 = 0 from rfl), if_pos (show zi 0 = 0 from rfl)]
      refine a1.trans (b1.trans ?_)
      rw [K_X2_toggleSteps_25]
      exact if_neg (by decide)
    · rw [b2 a ha]
      refine msk_cg (fun e he => ?_)
      have hxy := xy_lt ha
      show ((((F a e != decide _) != decide _) != decide _) != decide _) = (F a e != decide _)
      refine xor4 _ ?_ ?_ ?_ ?_ ?_ ?_ ?_ <;> omega
  · obtain ⟨m1, a1, a2, a3⟩ := c_tg1 (f + 3) (f + 2) r h (c := y * 9 + x) (st := 9) (k := 0) (d := 1) (e := 3) (u := (9 * y + x).toNat) (v := (9 * y + x).toNat + 1) (by decide) (by decide) rfl (by omega) (by omega) (by rw [show dx ((1 : Nat) : Int) = 1 from rfl, show dy ((1 : Nat) : Int) = 0 from rfl]; omega) (by omega) (Or.inl rfl)
    obtain ⟨m2, b1, b2, b3⟩ := c_tg1 (f + 3) (f + 1) r a2 (c := y * 9 + x) (st := 9) (k := 1) (d := 1) (e := 3) (u := (9 * y + x).toNat + 9) (v := (9 * y + x).toNat + 10) (by decide) (by decide) rfl (by omega) (by omega) (by rw [show dx ((1 : Nat) : Int) = 1 from rfl, show dy ((1 : Nat) : Int) = 0 from rfl]; omega) (by omega) (Or.inr rfl)
    refine ⟨m2, ?_, fun a ha => ?_, Fr_tr a3 b3⟩
    · rw [if_neg (show ¬ zi 1 = 0 by decide), if_neg (show ¬ zi 1 = 0 by decide)]
      refine a1.trans (b1.trans ?_)
      rw [K_X2_toggleSteps_25]
      exact if_neg (by decide)
    · rw [b2 a ha]
      refine msk_cg (fun e he => ?_)
      have hxy := xy_lt ha
      show ((((F a e != decide _) != decide _) != decide _) != decide _) = (F a e != decide _)
      refine xor4 _ ?_ ?_ ?_ ?_ ?_ ?_ ?_ <;> omega
/-- the places of a board -/
def PWl (r : Nat) (k j : Nat) : Bool := k == pOpen r || k == pBuilt r || (k == pBoard r && j == 2)
theorem PO_PWl {r k j : Nat} (h : PWl r k j = false) : PO r k j = false := by
  unfold PWl at h
  rw [Bool.or_eq_false_iff, Bool.or_eq_false_iff] at h
  exact h.1.1
/-- a wall more, with its number -/
def sw3 (s : Nat → Int) (x y v : Int) : Nat → Int := fun j => if j = 3 then s 3 + 1 else sw s x y v j
theorem sw3_ne {s : Nat → Int} {x y v : Int} {j : Nat} (hj : j ≠ 3) : sw3 s x y v j = sw s x y v j := if_neg hj
theorem op_cg {s1 s2 : Nat → Int} (h0 : s1 0 = s2 0) (h1 : s1 1 = s2 1) (hw : ∀ j, 120 ≤ j → s1 j = s2 j) (u d : Nat) : op s1 u d = op s2 u d := by
  have e1 : ∀ a b : Int, isPl s1 a b = isPl s2 a b := fun a b => by unfold isPl; rw [h0, h1]
  have e2 : ∀ a b : Int, isCl s1 a b = isCl s2 a b := fun a b => by unfold isCl; rw [h0, h1]
  have e3 : ∀ a b : Int, wg s1 a b = wg s2 a b := fun a b => by
    unfold wg
    rw [e1]
    by_cases q : isPl s2 a b = true
    · rw [if_pos q, if_pos q]
      have q2 := isPl_iff.mp q
      exact hw _ (by omega)
    · rw [if_neg q, if_neg q]
  unfold op blk
  rw [e2, e2, e3, e3, e3, e3]
theorem c_raise (fu r : Nat) (hfu : 1000 ≤ fu) {mem : Mem} {s : Nat → Int} (hR : RB mem r s) (hz : szO s) {x y w : Int} (hp : isPl s x y = true) (hw : w = 0 ∨ w = 1) (hr : hrB s x y (w + 1) = true) : ∃ mem2, K_X2_raise fu r (zi x) (zi y) (zi w) mem = some mem2 ∧ RB mem2 r (sw3 s x y (w + 1)) ∧ Fr (PWl r) mem mem2 := by
  have hp2 := isPl_iff.mp hp
  have hz2 := hz
  obtain ⟨⟨hw1, hw2⟩, hh1, hh2⟩ := hz2
  have h0 : wg s x y = 0 := by
    unfold hrB at hr
    rw [Bool.and_eq_true, decide_eq_true_iff] at hr
    exact hr.1
  have e2 := hR.2.2.1
  unfold K_X2_raise
  simp (disch := omega) only [zi_lit, zl_lit, zi_add, zi_sub, zi_mul, zi_neg, zi_lt, zi_inj, zi_clamp, zl_of, gi_zi, bd_s, ltf, bi_0, bi_1, gb_bi, Int.reduceToNat, Int.reduceNeg, Int.toNat_natCast, c_hasPlace fu r hR hz, hp, Bool.true_eq_false, ↓reduceIte, rd_mw, e2]
  have n1 : pBoard r ≠ pBuilt r := by unfold pBoard pBuilt; omega
  have n2 : pOpen r ≠ pBuilt r := by unfold pOpen pBuilt; omega
  have n3 : pOpen r ≠ pBoard r := by unfold pOpen pBoard; omega
  have n4 : pBuilt r ≠ pBoard r := by unfold pBuilt pBoard; omega
  simp only [n1, false_and, ↓reduceIte, e2, zi_lit, zl_lit, zi_add, zi_sub, zi_mul, zi_neg, zi_lt, zi_inj, zi_clamp, zl_of, gi_zi, bd_s, ltf, bi_0, bi_1, gb_bi, Int.reduceToNat, Int.reduceNeg, Int.toNat_natCast]
  generalize hm : mw (mw mem (pBuilt r) (y * 8 + x).toNat (zi w)) (pBoard r) 2 (zi (s 3 + 1)) = m0
  have hO : OM m0 r (op s) := fun a ha => by
    rw [← hm, rd_mw, if_neg (fun q => n3 q.1), rd_mw, if_neg (fun q => n2 q.1)]
    exact hR.2.2.2.2 a ha
  have hF0 : Fr (PWl r) mem m0 := by
    rw [← hm]
    exact Fr_tr (Fr_mw _ _ (by unfold PWl; simp)) (Fr_mw _ _ (by unfold PWl; simp))
  obtain ⟨m2, a1, a2, a3⟩ := c_toggle fu r hfu hO (x := x) (y := y) (w := w) (by omega) (by omega) hw
  rw [a1]
  refine ⟨m2, rfl, ⟨?_, ?_, ?_, fun j hj => ?_, fun c hc => ?_⟩, Fr_tr hF0 (Fr_mono a3 (fun _ _ => PO_PWl))⟩
  · rw [a3.1 _ _ (by unfold PO; simpa using n3.symm), ← hm, rd_mw, if_neg (by simp), rd_mw, if_neg (fun q => n1 q.1), hR.1, sw3_ne (by decide), sw_lt hp2.1.1 hp2.2.1 (by decide)]
  · rw [a3.1 _ _ (by unfold PO; simpa using n3.symm), ← hm, rd_mw, if_neg (by simp), rd_mw, if_neg (fun q => n1 q.1), hR.2.1, sw3_ne (by decide), sw_lt hp2.1.1 hp2.2.1 (by decide)]
  · rw [a3.1 _ _ (by unfold PO; simpa using n3.symm), ← hm, rd_mw, if_pos ⟨rfl, rfl⟩]
    exact congrArg zi (if_pos rfl).symm
  · rw [a3.1 _ _ (by unfold PO; simpa using n2.symm), ← hm, rd_mw, if_neg (fun q => n4 q.1), rd_mw, sw3_ne (by omega)]
    unfold sw
    by_cases q : j = (y * 8 + x).toNat
    · rw [if_pos ⟨rfl, q⟩, if_pos (by omega), show w + 1 - 1 = w by omega]
    · rw [if_neg (fun q2 => q q2.2), if_neg (by omega)]
      exact hR.2.2.2.1 j hj
  · rw [a2 c hc]
    refine msk_cg (fun e he => ?_)
    show (op s c e != cut x y (w + 1) c e) = op (sw3 s x y (w + 1)) c e
    rw [op_cg (s2 := sw s x y (w + 1)) (sw3_ne (by decide)) (sw3_ne (by decide)) (fun j hj => sw3_ne (by omega)), op_sw hz hp (by omega) h0 he]
    cases q : cut x y (w + 1) c e with
    | false => simp
    | true =>
      rw [cut_op hz hp hr (by omega) q]
      rfl
theorem c_raze (fu r : Nat) (hfu : 1000 ≤ fu) {mem : Mem} {s : Nat → Int} (hz : szO s) {x y w : Int} (hp : isPl s x y = true) (hw : w = 0 ∨ w = 1) (hr : hrB s x y (w + 1) = true) (hR : RB mem r (sw3 s x y (w + 1))) : ∃ mem2, K_X2_raze fu r (zi x) (zi y) mem = some mem2 ∧ RB mem2 r s ∧ Fr (PWl r) mem mem2 := by
  have hp2 := isPl_iff.mp hp
  have hz2 := hz
  obtain ⟨⟨hw1, hw2⟩, hh1, hh2⟩ := hz2
  have h0 : wg s x y = 0 := by
    unfold hrB at hr
    rw [Bool.and_eq_true, decide_eq_true_iff] at hr
    exact hr.1
  have h00 : s (120 + 8 * y + x).toNat = 0 := hr_0 hp hr
  have hz3 : szO (sw3 s x y (w + 1)) := by
    unfold szO
    rw [sw3_ne (by decide), sw3_ne (by decide)]
    exact sw_sz hp2.1.1 hp2.2.1 hz
  have hwg : wg (sw3 s x y (w + 1)) x y = w + 1 := by
    have e1 : isPl (sw3 s x y (w + 1)) x y = isPl s x y := by
      unfold isPl
      rw [sw3_ne (by decide), sw3_ne (by decide), sw_lt hp2.1.1 hp2.2.1 (by decide), sw_lt hp2.1.1 hp2.2.1 (by decide)]
    unfold wg
    rw [e1, if_pos hp, sw3_ne (by omega)]
    exact if_pos rfl
  have e2 : rd mem (pBoard r) 2 = zi (s 3 + 1) := hR.2.2.1
  unfold K_X2_raze
  simp (disch := omega) only [zi_lit, zl_lit, zi_add, zi_sub, zi_mul, zi_neg, zi_lt, zi_inj, zi_clamp, zl_of, gi_zi, bd_s, ltf, bi_0, bi_1, gb_bi, Int.reduceToNat, Int.reduceNeg, Int.toNat_natCast, c_wallOn fu r hR hz3, hwg]
  rw [if_neg (by omega)]
  have n1 : pBoard r ≠ pBuilt r := by unfold pBoard pBuilt; omega
  have n2 : pOpen r ≠ pBuilt r := by unfold pOpen pBuilt; omega
  have n3 : pOpen r ≠ pBoard r := by unfold pOpen pBoard; omega
  have n4 : pBuilt r ≠ pBoard r := by unfold pBuilt pBoard; omega
  simp only [rd_mw, n1, false_and, ↓reduceIte, e2, zi_lit, zl_lit, zi_add, zi_sub, zi_mul, zi_neg, zi_lt, zi_inj, zi_clamp, zl_of, gi_zi, bd_s, ltf, bi_0, bi_1, gb_bi, Int.reduceToNat, Int.reduceNeg, Int.toNat_natCast, show w + 1 - 1 = w by omega, show s 3 + 1 - 1 = s 3 by omega]
  generalize hm : mw (mw mem (pBuilt r) (y * 8 + x).toNat (zi (-1))) (pBoard r) 2 (zi (s 3)) = m0
  have hO : OM m0 r (op (sw3 s x y (w + 1))) := fun a ha => by
    rw [← hm, rd_mw, if_neg (fun q => n3 q.1), rd_mw, if_neg (fun q => n2 q.1)]
    exact hR.2.2.2.2 a ha
  have hF0 : Fr (PWl r) mem m0 := by
    rw [← hm]
    exact Fr_tr (Fr_mw _ _ (by unfold PWl; simp)) (Fr_mw _ _ (by unfold PWl; simp))
  obtain ⟨m2, a1, a2, a3⟩ := c_toggle fu r hfu hO (x := x) (y := y) (w := w) (by omega) (by omega) hw
  rw [a1]
  refine ⟨m2, rfl, ⟨?_, ?_, ?_, fun j hj => ?_, fun c hc => ?_⟩, Fr_tr hF0 (Fr_mono a3 (fun _ _ => PO_PWl))⟩
  · rw [a3.1 _ _ (by unfold PO; simpa using n3.symm), ← hm, rd_mw, if_neg (by simp), rd_mw, if_neg (fun q => n1 q.1), hR.1, sw3_ne (by decide), sw_lt hp2.1.1 hp2.2.1 (by decide)]
  · rw [a3.1 _ _ (by unfold PO; simpa using n3.symm), ← hm, rd_mw, if_neg (by simp), rd_mw, if_neg (fun q => n1 q.1), hR.2.1, sw3_ne (by decide), sw_lt hp2.1.1 hp2.2.1 (by decide)]
  · rw [a3.1 _ _ (by unfold PO; simpa using n3.symm), ← hm, rd_mw, if_pos ⟨rfl, rfl⟩]
  · rw [a3.1 _ _ (by unfold PO; simpa using n2.symm), ← hm, rd_mw, if_neg (fun q => n4 q.1), rd_mw]
    by_cases q : j = (y * 8 + x).toNat
    · rw [if_pos ⟨rfl, q⟩, show 120 + j = (120 + 8 * y + x).toNat by omega, h00]
      rfl
    · rw [if_neg (fun q2 => q q2.2), hR.2.2.2.1 j hj, sw3_ne (by omega)]
      unfold sw
      rw [if_neg (by omega)]
  · rw [a2 c hc]
    refine msk_cg (fun e he => ?_)
    show (op (sw3 s x y (w + 1)) c e != cut x y (w + 1) c e) = op s c e
    rw [op_cg (s2 := sw s x y (w + 1)) (sw3_ne (by decide)) (sw3_ne (by decide)) (fun j hj => sw3_ne (by omega)), op_sw hz hp (by omega) h0 he]
    cases q : cut x y (w + 1) c e with
    | false => simp
    | true =>
      rw [cut_op hz hp hr (by omega) q]
      rfl
end CTOG
