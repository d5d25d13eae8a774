section MAA
def D0 (s : Nat → Int) (side : Int) (c : Nat) : Int := if c < 81 ∧ isCl s (xo c) (yo c) = true ∧ atS s (xo c) (yo c) side = true then 0 else 1000
/-- the fields that stand so far -/
def IG (s : Nat → Int) (side : Int) (d : Nat → Nat → Int32) (x y : Nat) : Prop := ∀ x' y' : Nat, (x' : Int) < s 0 → (y' : Int) < s 1 → (x' < x ∨ (x' = x ∧ y' < y)) → d x' y' = zi (D0 s side (9 * y' + x'))
theorem w_d26 {np nb fu : Nat} {m : Mem} {s : Nat → Int} (hS : LWw m s) (hz : szO s) {side : Int} (hs1 : 0 ≤ side) (hs2 : side ≤ 3) {k15 : Nat → Nat → (Nat → Nat → Int32) → Int32 → Int32 → Option (Nat × Nat × (Nat → Nat → Int32))} {w h : Nat} (hw : (w : Int) = s 0) (hh : (h : Int) = s 1) {x : Nat} (hx : (x : Int) < s 0) : ∀ (q n y : Nat) (d : Nat → Nat → Int32), y + q = h → q < n → IG s side d x y → ∃ d', KW_distances_26 np nb fu m k15 n w h d (zi side) (zi (x : Int)) (zi (y : Int)) = k15 w h d' (zi side) (zi ((x + 1 : Nat) : Int)) ∧ IG s side d' (x + 1) 0 := by
  have hz' := hz
  obtain ⟨⟨z1, z2⟩, z3, z4⟩ := hz'
  intro q
  induction q with
  | zero =>
    intro n y d hk hq hB
    obtain ⟨n, rfl⟩ : ∃ f, n = f + 1 := ⟨n - 1, by omega⟩
    refine ⟨d, ?_, fun x' y' h1 h2 h3 => hB x' y' h1 h2 (by omega)⟩
    rw [KW_distances_26, hS.2.1, if_neg (by rw [zi_lt (by omega) (by omega) (by omega) (by omega)]; omega), show (1 : Int32) = zi 1 from rfl, zi_add]
    rfl
  | succ q ih =>
    intro n y d hk hq hB
    obtain ⟨n, rfl⟩ : ∃ f, n = f + 1 := ⟨n - 1, by omega⟩
    have xu : xo (9 * y + x) = (x : Int) := by unfold xo; omega
    have yu : yo (9 * y + x) = (y : Int) := by unfold yo; omega
    have up : IG s side (upD d x y (zi (D0 s side (9 * y + x)))) x (y + 1) := fun x' y' h1 h2 h3 => by
      unfold upD upd
      by_cases q3 : x' = x
      · rw [if_pos q3]
        by_cases q4 : y' = y
        · rw [if_pos q4, q3, q4]
        · rw [if_neg q4, ← q3]
          exact hB x' y' h1 h2 (by omega)
      · rw [if_neg q3]
        exact hB x' y' h1 h2 (by omega)
    have go := ih n (y + 1) _ (by omega) (by omega) up
    rw [KW_distances_26, hS.2.1, if_pos (by rw [zi_lt (by omega) (by omega) (by omega) (by omega)]; omega), gi_zi (by omega) (by omega) (by omega), w_isAtSide hS hz (by omega) (by omega) (by omega) (by omega) hs1 hs2, bd_s, gi_zi (by omega) (by omega) (by omega), gi_zi (by omega) (by omega) (by omega), ltf, ltf, zi_clamp (by omega) (by omega), zi_clamp (by omega) (by omega), Int.toNat_natCast, Int.toNat_natCast, show zi (y : Int) + 1 = zi ((y + 1 : Nat) : Int) by
      rw [show (1 : Int32) = zi 1 from rfl, zi_add]
      rfl]
    unfold D0 at go
    rw [xu, yu] at go
    cases c : atS s (x : Int) (y : Int) side with
    | true =>
      rw [if_neg (by decide)]
      rw [if_pos ⟨by omega, isCl_iff.mpr (by omega), c⟩] at go
      exact go
    | false =>
      rw [if_pos (by rfl)]
      rw [if_neg (fun e => by rw [c] at e; cases e.2.2)] at go
      exact go
theorem w_d15 {np nb fu : Nat} (hfu : 100000 ≤ fu) {m : Mem} {s : Nat → Int} (hS : LWw m s) (hz : szO s) (hW : wlO s) {side : Int} (hs1 : 0 ≤ side) (hs2 : side ≤ 3) {w h : Nat} (hw : (w : Int) = s 0) (hh : (h : Int) = s 1) : ∀ (q n x : Nat) (d : Nat → Nat → Int32), x + q = w → q < n → IG s side d x 0 → ∃ d', KW_distances_15 np nb fu m n w h d (zi side) (zi (x : Int)) = some (w, h, d') ∧ ∀ x' y' : Nat, (x' : Int) < s 0 → (y' : Int) < s 1 → d' x' y' = zi (dl1 s side (9 * y' + x')) := by
  have hz' := hz
  obtain ⟨⟨z1, z2⟩, z3, z4⟩ := hz'
  intro q
  induction q with
  | zero =>
    intro n x d hk hq hB
    obtain ⟨n, rfl⟩ : ∃ f, n = f + 1 := ⟨n - 1, by omega⟩
    have b0 : ∀ c, 0 ≤ D0 s side c ∧ D0 s side c ≤ 1000 := fun c => by
      unfold D0
      split <;> omega
    have hB2 : BG s side d (D0 s side) := by
      refine ⟨⟨b0, fun c hc => if_pos hc, fun c => ?_⟩, fun c hc hc2 => ?_⟩
      · unfold D0
        by_cases c1 : c < 81 ∧ isCl s (xo c) (yo c) = true ∧ atS s (xo c) (yo c) side = true
        · rw [if_pos c1]
          exact Or.inr c1
        · rw [if_neg c1]
          exact Or.inl rfl
      · have hci := isCl_iff.mp hc2
        unfold xo yo at hci
        have := hB (c % 9) (c / 9) (by omega) (by omega) (by omega)
        rw [show 9 * (c / 9) + c % 9 = c by omega] at this
        exact this
    have mle := ms_le (D := D0 s side) (fun c => (b0 c).2) 81
    obtain ⟨d1, D1, a1, a2, a3⟩ := w_d73 (np := np) (nb := nb) (fu := fu) (by omega) hS hz hW hw hh 90000 fu d (D0 s side) 1 (by omega) (by omega) hB2 (Or.inr rfl)
    refine ⟨d1, ?_, fun x' y' h1 h2 => ?_⟩
    · rw [KW_distances_15, hS.1, if_neg (by rw [zi_lt (by omega) (by omega) (by omega) (by omega)]; omega)]
      exact a1
    · have e := a2.2 (9 * y' + x') (by omega) (isCl_iff.mpr (by unfold xo yo; omega))
      rw [show (9 * y' + x') % 9 = x' by omega, show (9 * y' + x') / 9 = y' by omega] at e
      rw [e, rlxd_dl hz hW (by omega) (by omega) a2.1 a3 (by omega)]
  | succ q ih =>
    intro n x d hk hq hB
    obtain ⟨n, rfl⟩ : ∃ f, n = f + 1 := ⟨n - 1, by omega⟩
    obtain ⟨d1, a1, a2⟩ := w_d26 (np := np) (nb := nb) (fu := fu) (k15 := KW_distances_15 np nb fu m n) hS hz hs1 hs2 hw hh (x := x) (by omega) h fu 0 d (by omega) (by omega) hB
    obtain ⟨d2, b1, b2⟩ := ih n (x + 1) d1 (by omega) (by omega) a2
    refine ⟨d2, ?_, b2⟩
    rw [KW_distances_15, hS.1, if_pos (by rw [zi_lt (by omega) (by omega) (by omega) (by omega)]; omega), show (0 : Int32) = zi ((0 : Nat) : Int) from rfl, a1, b1]
theorem g8_ok {α : Type} {v : Int} (h1 : 0 ≤ v) (h2 : v ≤ 8) (o : Option α) : g8 (zi v) o = o := by
  unfold g8
  rw [if_pos]
  refine ⟨?_, ?_⟩
  · rw [show (0 : Int32) = zi 0 from rfl, zi_lt (by omega) (by omega) (by omega) (by omega)]
    omega
  · rw [zi_clamp (by omega) (by omega)]
    omega
/-- the law's distances to a side: those of the board, or 1000 -/
theorem w_distances {np nb fu : Nat} (hfu : 100000 ≤ fu) {m : Mem} {s : Nat → Int} (hS : LWw m s) (hz : szO s) (hsm : smO s) (hW : wlO s) {side : Int} (hs1 : 0 ≤ side) (hs2 : side ≤ 3) : ∃ d, KW_distances np nb fu (zi side) m = some ((s 0).toNat, (s 1).toNat, d) ∧ ∀ x y : Int, isCl s x y = true → d x.toNat y.toNat = zi (dl1 s side (9 * y + x).toNat) := by
  have hz' := hz
  obtain ⟨⟨z1, z2⟩, z3, z4⟩ := hz'
  obtain ⟨y1, y2⟩ := hsm
  obtain ⟨d, e1, e2⟩ := w_d15 (np := np) (nb := nb) hfu hS hz hW hs1 hs2 (w := (s 0).toNat) (h := (s 1).toNat) (by omega) (by omega) (s 0).toNat fu 0 (fun _ _ => 0) (by omega) (by omega) (fun x' y' h1 h2 h3 => by omega)
  refine ⟨d, ?_, fun x y hc => ?_⟩
  · unfold KW_distances
    rw [hS.1, hS.2.1, g8_ok (by omega) (by omega), g8_ok (by omega) (by omega), zi_clamp (by omega) (by omega), zi_clamp (by omega) (by omega)]
    exact e1
  · have hci := isCl_iff.mp hc
    have := e2 x.toNat y.toNat (by omega) (by omega)
    rw [this, show 9 * y.toNat + x.toNat = (9 * y + x).toNat by omega]
noncomputable def dst1 (s : Nat → Int) (p : Int) : Int := if dst s p = -1 then 1000 else dst s p
theorem w_distance {np nb fu : Nat} (hfu : 100000 ≤ fu) {m : Mem} {s : Nat → Int} (hS : LW np nb m s) (hz : szO s) (hsm : smO s) (hW : wlO s) (hc : cnO s) (hpa : pasO s) {p : Nat} (hp : p < np) : KW_distance np nb fu (zi (p : Int)) m = some (zi (dst1 s p)) := by
  have h2 := hS.1.1
  have hcc := hc
  obtain ⟨c1, c2, c3, c4, c5, c6⟩ := hcc
  have hp4 : p < 4 := by omega
  have hpk := hpa p (by omega) (by omega)
  have hcl := cel_lt hz hpk
  have hz' := hz
  obtain ⟨⟨z1, z2⟩, z3, z4⟩ := hz'
  have hpp := hpk
  obtain ⟨p1, p2, p3, p4, p5, p6, p7⟩ := hpp
  have hxy := isCl_iff.mp p1
  obtain ⟨w0, w1, w2, w3, w4, w5, w6⟩ := hS.2.2.2.1 p hp
  obtain ⟨d, e1, e2⟩ := w_distances (np := np) (nb := nb) hfu hS.2.1 hz hsm hW (side := pg s p 2) (by omega) (by omega)
  unfold KW_distance
  rw [gi_zi (by omega) (by omega) (by omega), zi_clamp (by omega) (by omega), Int.toNat_natCast, w6, w0, w1, w2, e1, bd_s, show (0 : Int32) = zi 0 from rfl]
  unfold dst1 dst
  by_cases g1 : 0 < pg s p 6
  · rw [if_pos (by rw [zi_lt (by omega) (by omega) (by omega) (by omega)]; exact g1), if_pos g1, if_neg (by omega)]
  · rw [if_neg (by rw [zi_lt (by omega) (by omega) (by omega) (by omega)]; exact g1), if_neg g1]
    dsimp only
    rw [gi_zi (by omega) (by omega) (by omega), gi_zi (by omega) (by omega) (by omega), zi_clamp (by omega) (by omega), zi_clamp (by omega) (by omega)]
    exact congrArg some (e2 _ _ p1)
end MAA
