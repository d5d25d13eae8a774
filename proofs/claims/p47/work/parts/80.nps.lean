section NPSM
def npF (x y d w : Int) (i : Nat) : Int := if i = 0 then x else if i = 1 then y else if i = 2 then d else if i = 3 then w else if i = 5 then -1 else 0
/-- a pawn comes into the race -/
def npS (s : Nat → Int) (u : Nat) (x y d w : Int) : Nat → Int := fun j => if j = 2 then s 2 + 1 else if 8 + 7 * u ≤ j ∧ j < 15 + 7 * u then npF x y d w (j - (8 + 7 * u)) else s j
theorem np_ne {s : Nat → Int} {u : Nat} {x y d w : Int} {j : Nat} (hu : u < 4) (h2 : j ≠ 2) (h : j < 8 ∨ 36 ≤ j) : npS s u x y d w j = s j := by
  unfold npS
  rw [if_neg h2, if_neg (by omega)]
theorem np_2 (s : Nat → Int) (u : Nat) (x y d w : Int) : npS s u x y d w 2 = s 2 + 1 := if_pos rfl
theorem np_pg {s : Nat → Int} {u : Nat} {x y d w : Int} {p k : Int} (hp : 0 ≤ p) (hk : 0 ≤ k ∧ k ≤ 6) (h : p ≠ u) : pg (npS s u x y d w) p k = pg s p k := by
  unfold pg npS
  rw [if_neg (by omega), if_neg (by omega)]
theorem np_new {s : Nat → Int} {u : Nat} {x y d w : Int} {p : Int} (h : p = u) {k : Nat} (hk : k ≤ 6) : pg (npS s u x y d w) p k = npF x y d w k := by
  unfold pg npS
  rw [if_neg (by omega), if_pos (by omega), show (8 + 7 * p + (k : Int)).toNat - (8 + 7 * u) = k by omega]
theorem np_bg {s : Nat → Int} {u : Nat} {x y d w : Int} (hu : u < 4) {b k : Int} (hb : 0 ≤ b) (hk : 0 ≤ k) : bg (npS s u x y d w) b k = bg s b k := by
  unfold bg
  exact np_ne hu (by omega) (by omega)
theorem MS_np {m : Mem} {s : Nat → Int} (hS : MS m s) {u : Nat} (hu : u < 4) (h2 : s 2 = u) (x y d w : Int) : MS (mw (mw (mw (mw (mw (mw (mw (mw m 2 (8 + 7 * u) (zi x)) 2 (8 + 7 * u + 1) (zi y)) 2 (8 + 7 * u + 2) (zi d)) 2 (8 + 7 * u + 3) (zi w)) 2 (8 + 7 * u + 4) (zi 0)) 2 (8 + 7 * u + 5) (zi (-1))) 2 (8 + 7 * u + 6) (zi 0)) 2 2 (zi ((u : Int) + 1))) (npS s u x y d w) := fun j => by
  unfold npS npF
  by_cases e2 : j = 2
  · rw [rd_mw, if_pos ⟨rfl, e2⟩, if_pos e2, h2]
  · rw [rd_mw, if_neg (fun h => e2 h.2), if_neg e2]
    by_cases c6 : j = 8 + 7 * u + 6
    · rw [rd_mw, if_pos ⟨rfl, c6⟩, if_pos (by omega), if_neg (by omega), if_neg (by omega), if_neg (by omega), if_neg (by omega), if_neg (by omega)]
    · rw [rd_mw, if_neg (fun h => c6 h.2)]
      by_cases c5 : j = 8 + 7 * u + 5
      · rw [rd_mw, if_pos ⟨rfl, c5⟩, if_pos (by omega), if_neg (by omega), if_neg (by omega), if_neg (by omega), if_neg (by omega), if_pos (by omega)]
      · rw [rd_mw, if_neg (fun h => c5 h.2)]
        by_cases c4 : j = 8 + 7 * u + 4
        · rw [rd_mw, if_pos ⟨rfl, c4⟩, if_pos (by omega), if_neg (by omega), if_neg (by omega), if_neg (by omega), if_neg (by omega), if_neg (by omega)]
        · rw [rd_mw, if_neg (fun h => c4 h.2)]
          by_cases c3 : j = 8 + 7 * u + 3
          · rw [rd_mw, if_pos ⟨rfl, c3⟩, if_pos (by omega), if_neg (by omega), if_neg (by omega), if_neg (by omega), if_pos (by omega)]
          · rw [rd_mw, if_neg (fun h => c3 h.2)]
            by_cases c2 : j = 8 + 7 * u + 2
            · rw [rd_mw, if_pos ⟨rfl, c2⟩, if_pos (by omega), if_neg (by omega), if_neg (by omega), if_pos (by omega)]
            · rw [rd_mw, if_neg (fun h => c2 h.2)]
              by_cases c1 : j = 8 + 7 * u + 1
              · rw [rd_mw, if_pos ⟨rfl, c1⟩, if_pos (by omega), if_neg (by omega), if_pos (by omega)]
              · rw [rd_mw, if_neg (fun h => c1 h.2)]
                by_cases c0 : j = 8 + 7 * u
                · rw [rd_mw, if_pos ⟨rfl, c0⟩, if_pos (by omega), if_pos (by omega)]
                · rw [rd_mw, if_neg (fun h => c0 h.2)]
                  rw [if_neg (by omega)]
                  exact hS j
theorem RC_np {c c2 : Mem} {r : Nat} {s : Nat → Int} (hR : RC c r s) {u : Nat} (hu : u < 4) (h2 : s 2 = u) {x y d w : Int} (f : Fr (fun k j => k == pPawn r u || (k == pRace r && j == 2)) c c2) (hn : rd c2 (pPawn r u) 0 = zi (9 * y + x) ∧ rd c2 (pPawn r u) 1 = zi d ∧ rd c2 (pPawn r u) 2 = zi w ∧ rd c2 (pPawn r u) 3 = zi 0 ∧ rd c2 (pPawn r u) 4 = zi (-1) ∧ rd c2 (pPawn r u) 5 = zi 0) (h2c : rd c2 (pRace r) 2 = zi ((u : Int) + 1)) : RC c2 r (npS s u x y d w) := by
  obtain ⟨h1, ⟨b1, b2, b3, b4, b5⟩, h3, h4⟩ := hR
  have np : ∀ k j, k ≠ pPawn r u → k ≠ pRace r → (fun k j => k == pPawn r u || (k == pRace r && j == 2) : Nat → Nat → Bool) k j = false := fun k j n1 n2 => by
    simp only [Bool.or_eq_false_iff, Bool.and_eq_false_iff, beq_eq_false_iff_ne, ne_eq]
    exact ⟨n1, Or.inl n2⟩
  have nr : ∀ j, j ≠ 2 → (fun k j => k == pPawn r u || (k == pRace r && j == 2) : Nat → Nat → Bool) (pRace r) j = false := fun j hj => by
    simp only [Bool.or_eq_false_iff, Bool.and_eq_false_iff, beq_eq_false_iff_ne, ne_eq]
    exact ⟨by unfold pRace pPawn; omega, Or.inr hj⟩
  have e : ∀ j, j ≠ 2 → j < 8 ∨ 36 ≤ j → npS s u x y d w j = s j := fun j h h' => np_ne hu h h'
  refine ⟨RB_cg (s1 := s) (e 0 (by decide) (by decide)).symm (e 1 (by decide) (by decide)).symm (e 3 (by decide) (by decide)).symm (fun j hj => (e j (by omega) (by omega)).symm) (RB_fr2 f (fun j => np _ j (by unfold pBoard pPawn; omega) (by unfold pBoard pRace; omega)) (fun j => np _ j (by unfold pBuilt pPawn; omega) (by unfold pBuilt pRace; omega)) (fun j => np _ j (by unfold pOpen pPawn; omega) (by unfold pOpen pRace; omega)) h1), ⟨?_, ?_, ?_, ?_, ?_⟩, fun i hi hi2 => ?_, fun b hb hb2 => ?_⟩
  · rw [np_2, h2]
    exact h2c
  · rw [e 6 (by decide) (by decide)]
    exact (f.1 _ _ (nr _ (by decide))).trans b2
  · rw [e 4 (by decide) (by decide)]
    exact (f.1 _ _ (nr _ (by decide))).trans b3
  · rw [e 7 (by decide) (by decide)]
    exact (f.1 _ _ (nr _ (by decide))).trans b4
  · rw [e 5 (by decide) (by decide)]
    exact (f.1 _ _ (nr _ (by decide))).trans b5
  · rw [np_2, h2] at hi2
    by_cases q : i = u
    · rw [q]
      obtain ⟨n0, n1, n2, n3, n4, n5⟩ := hn
      have g : ∀ k : Nat, k ≤ 6 → pg (npS s u x y d w) (u : Int) (k : Int) = npF x y d w k := fun k hk => np_new rfl hk
      have g0 := g 0 (by decide)
      have g1 := g 1 (by decide)
      have g2 := g 2 (by decide)
      have g3 := g 3 (by decide)
      have g4 := g 4 (by decide)
      have g5 := g 5 (by decide)
      have g6 := g 6 (by decide)
      unfold RP
      refine ⟨?_, ?_, ?_, ?_, ?_, ?_⟩
      · exact n0.trans (congrArg zi (by rw [show pg (npS s u x y d w) (u : Int) 1 = y from g1, show pg (npS s u x y d w) (u : Int) 0 = x from g0]))
      · exact n1.trans (congrArg zi (show d = pg (npS s u x y d w) (u : Int) 2 from g2.symm))
      · exact n2.trans (congrArg zi (show w = pg (npS s u x y d w) (u : Int) 3 from g3.symm))
      · exact n3.trans (congrArg zi (show 0 = pg (npS s u x y d w) (u : Int) 4 from g4.symm))
      · exact n4.trans (congrArg zi (show -1 = pg (npS s u x y d w) (u : Int) 5 from g5.symm))
      · exact n5.trans (congrArg zi (show 0 = pg (npS s u x y d w) (u : Int) 6 from g6.symm))
    · refine RP_cg (s1 := s) (fun k k0 k6 => (np_pg (by omega) ⟨k0, k6⟩ (by omega)).symm) (RP_fr2 f (fun j => np _ j (by unfold pPawn; omega) (by unfold pPawn pRace; omega)) (h3 i hi (by omega)))
  · rw [e 6 (by decide) (by decide)] at hb2
    exact RN_cg (s1 := s) (fun k k0 k6 => (np_bg hu (by omega) k0).symm) (RN_fr2 f (fun j => np _ j (by unfold pBan pPawn; omega) (by unfold pBan pRace; omega)) (h4 b hb hb2))
/-- the new pawn is in order, save that it may have no way -/
theorem Inv_np {s : Nat → Int} (hI : InvR s) {u : Nat} (hu : u < 4) (h2 : s 2 = u) {x y d w : Int} (hxy : isCl s x y = true) (hd : 0 ≤ d ∧ d ≤ 3) (hw : 0 ≤ w ∧ w ≤ 20) (hpI : pI s x y = -1) : (szO (npS s u x y d w) ∧ cnO (npS s u x y d w) ∧ wlO (npS s u x y d w) ∧ pasO (npS s u x y d w)) ∧ (dst (npS s u x y d w) u ≠ -1 → InvR (npS s u x y d w)) := by
  obtain ⟨⟨⟨hz, hc, hW, hp, hb, hwp, hds, hrk, hwy⟩, h184⟩, ⟨h4, h5, h7⟩, hw0, h40⟩ := hI
  have e : ∀ j, j ≠ 2 → j < 8 ∨ 36 ≤ j → npS s u x y d w j = s j := fun j h h' => np_ne hu h h'
  have E0 := e 0 (by decide) (by decide)
  have E1 := e 1 (by decide) (by decide)
  have E3 := e 3 (by decide) (by decide)
  have E4 := e 4 (by decide) (by decide)
  have E5 := e 5 (by decide) (by decide)
  have E6 := e 6 (by decide) (by decide)
  have E7 := e 7 (by decide) (by decide)
  have E2 := np_2 s u x y d w
  have g : ∀ k : Nat, k ≤ 6 → pg (npS s u x y d w) (u : Int) (k : Int) = npF x y d w k := fun k hk => np_new rfl hk
  have g0 : pg (npS s u x y d w) (u : Int) 0 = x := g 0 (by decide)
  have g1 : pg (npS s u x y d w) (u : Int) 1 = y := g 1 (by decide)
  have g2 : pg (npS s u x y d w) (u : Int) 2 = d := g 2 (by decide)
  have g3 : pg (npS s u x y d w) (u : Int) 3 = w := g 3 (by decide)
  have g4 : pg (npS s u x y d w) (u : Int) 4 = 0 := g 4 (by decide)
  have g5 : pg (npS s u x y d w) (u : Int) 5 = -1 := g 5 (by decide)
  have g6 : pg (npS s u x y d w) (u : Int) 6 = 0 := g 6 (by decide)
  have go : ∀ p k : Int, 0 ≤ p → p ≠ u → 0 ≤ k → k ≤ 6 → pg (npS s u x y d w) p k = pg s p k := fun p k a b c1 c2 => np_pg a ⟨c1, c2⟩ b
  obtain ⟨c1, c2, c3, c4, c5, c6, c7⟩ := hc
  have hz' : szO (npS s u x y d w) := by
    unfold szO
    rw [E0, E1]
    exact hz
  have hc' : cnO (npS s u x y d w) := by
    unfold cnO
    rw [E2, E3, E4, E5, E6, E7]
    exact ⟨by omega, c2, c3, c4, c5, c6, fun _ => by omega⟩
  have hW' : wlO (npS s u x y d w) := fun j a b => by
    rw [e j (by omega) (by omega)]
    exact hW j a b
  have hp' : pasO (npS s u x y d w) := fun p p0 p1 => by
    rw [E2] at p1
    unfold pnO
    by_cases q : p = u
    · rw [q, g0, g1, g2, g3, g4, g5, g6, isCl_cg E0 E1, E4, E5]
      exact ⟨hxy, hd, hw, by omega, by omega, by omega, fun h => absurd h (by decide)⟩
    · rw [go p 0 p0 q (by decide) (by decide), go p 1 p0 q (by decide) (by decide), go p 2 p0 q (by decide) (by decide), go p 3 p0 q (by decide) (by decide), go p 4 p0 q (by decide) (by decide), go p 5 p0 q (by decide) (by decide), go p 6 p0 q (by decide) (by decide), isCl_cg E0 E1, atS_cg E0 E1, E4, E5]
      exact hp p p0 (by omega)
  have six : ∀ p : Int, 0 ≤ p → p < s 2 + 1 → pg (npS s u x y d w) p 6 = 0 := fun p p0 p1 => by
    by_cases q : p = u
    · rw [q, g6]
    · rw [go p 6 p0 q (by decide) (by decide)]
      have := (hp p p0 (by omega)).2.2.2.2.2.1
      omega
  have six0 : ∀ p : Int, 0 ≤ p → p < s 2 → pg s p 6 = 0 := fun p p0 p1 => by
    have := (hp p p0 p1).2.2.2.2.2.1
    omega
  have noat : ∀ p : Int, 0 ≤ p → p < s 2 → ¬ (pg s p 0 = x ∧ pg s p 1 = y) := fun p p0 p1 hh => by
    rcases pI_sp (s := s) (by omega) x y with ⟨_, k2⟩ | ⟨k1, _, _⟩
    · exact k2 p p0 p1 (by unfold atP; exact ⟨six0 p p0 p1, hh.1, hh.2⟩)
    · omega
  refine ⟨⟨hz', hc', hW', hp'⟩, fun hdu => ⟨⟨⟨hz', hc', hW', hp', fun b b0 b1 => ?_, fun a b a0 a1 b0 b1 hpl => ?_, fun p q p0 p1 q0 q1 hpq f1 f2 => ?_, fun p q p0 p1 q0 q1 hpq f1 => ?_, fun p p0 p1 => ?_⟩, fun j hj => ?_⟩, ⟨by rw [E4]; exact h4, by rw [E5]; exact h5, by rw [E7]; exact h7⟩, fun h3 j hj => ?_, by rw [E3]; exact h40⟩⟩
  · rw [E6] at b1
    have q := hb b b0 b1
    unfold bnO at q ⊢
    rw [np_bg hu b0 (by decide), np_bg hu b0 (by decide), np_bg hu b0 (by decide), np_bg hu b0 (by decide), np_bg hu b0 (by decide), np_bg hu b0 (by decide), np_bg hu b0 (by decide), isCl_cg E0 E1, isCl_cg E0 E1, E2]
    exact ⟨by omega, q.2⟩
  · rw [isPl_cg E0 E1] at hpl
    rw [e _ (by omega) (by omega)]
    exact hwp a b a0 a1 b0 b1 hpl
  · rw [E2] at p1 q1
    by_cases e1 : p = u
    · have e2 : q ≠ u := fun h => hpq (by omega)
      rw [e1, g0, g1, go q 0 q0 e2 (by decide) (by decide), go q 1 q0 e2 (by decide) (by decide)]
      exact fun hh => noat q q0 (by omega) ⟨hh.1.symm, hh.2.symm⟩
    · by_cases e2 : q = u
      · rw [e2, g0, g1, go p 0 p0 e1 (by decide) (by decide), go p 1 p0 e1 (by decide) (by decide)]
        exact fun hh => noat p p0 (by omega) hh
      · rw [go p 0 p0 e1 (by decide) (by decide), go p 1 p0 e1 (by decide) (by decide), go q 0 q0 e2 (by decide) (by decide), go q 1 q0 e2 (by decide) (by decide)]
        exact hds p q p0 (by omega) q0 (by omega) hpq (six0 p p0 (by omega)) (six0 q q0 (by omega))
  · rw [E2] at p1
    rw [six p p0 p1] at f1
    exact absurd f1 (by decide)
  · rw [E2] at p1
    by_cases e1 : p = u
    · rw [e1]
      exact hdu
    · rw [dst_cg (s1 := npS s u x y d w) (s2 := s) E0 E1 (fun j hj => e j (by omega) (by omega)) (go p 0 p0 e1 (by decide) (by decide)) (go p 1 p0 e1 (by decide) (by decide)) (go p 2 p0 e1 (by decide) (by decide)) (by rw [go p 6 p0 e1 (by decide) (by decide)])]
      exact hwy p p0 (by omega)
  · rw [e j (by omega) (by omega)]
    exact h184 j hj
  · rw [E3] at h3
    rw [e j (by omega) (by omega)]
    exact hw0 h3 j hj
end NPSM
