section MOVES
abbrev atP (s : Nat → Int) (q x y : Int) : Prop := pg s q 6 = 0 ∧ pg s q 0 = x ∧ pg s q 1 = y
def pIn (s : Nat → Int) (x y : Int) : Nat → Int
  | 0 => -1
  | n + 1 => if atP s n x y then (n : Int) else pIn s x y n
def pI (s : Nat → Int) (x y : Int) : Int := pIn s x y (s 2).toNat
theorem pIn_sp (s : Nat → Int) (x y : Int) : ∀ n : Nat, (pIn s x y n = -1 ∧ ∀ q : Int, 0 ≤ q → q < n → ¬ atP s q x y) ∨ (0 ≤ pIn s x y n ∧ pIn s x y n < n ∧ atP s (pIn s x y n) x y) := by
  intro n
  induction n with
  | zero => exact Or.inl ⟨rfl, fun q h1 h2 => by omega⟩
  | succ n ih =>
    rw [pIn]
    by_cases q : atP s n x y
    · rw [if_pos q]
      exact Or.inr ⟨by omega, by omega, q⟩
    · rw [if_neg q]
      rcases ih with ⟨h1, h2⟩ | ⟨h1, h2, h3⟩
      · refine Or.inl ⟨h1, fun p g1 g2 => ?_⟩
        by_cases e : p = n
        · rw [e]
          exact q
        · exact h2 p g1 (by omega)
      · exact Or.inr ⟨h1, by omega, h3⟩
theorem pI_sp {s : Nat → Int} (hs2 : 0 ≤ s 2) (x y : Int) : (pI s x y = -1 ∧ ∀ q : Int, 0 ≤ q → q < s 2 → ¬ atP s q x y) ∨ (0 ≤ pI s x y ∧ pI s x y < s 2 ∧ atP s (pI s x y) x y) := by
  have h := pIn_sp s x y (s 2).toNat
  rw [show (((s 2).toNat : Nat) : Int) = s 2 by omega] at h
  exact h
theorem pI_at {s : Nat → Int} (hs2 : 0 ≤ s 2) (hd : dsO s) {k x y : Int} (h0 : 0 ≤ k) (h1 : k < s 2) (h : atP s k x y) : pI s x y = k := by
  rcases pI_sp hs2 x y with ⟨-, g⟩ | ⟨g1, g2, g3⟩
  · exact absurd h (g k h0 h1)
  · by_cases e : pI s x y = k
    · exact e
    · exact absurd ⟨g3.2.1.trans h.2.1.symm, g3.2.2.trans h.2.2.symm⟩ (hd _ _ g1 g2 h0 h1 e g3.1 h.1)
theorem m_pIn5 (fu : Nat) {mem : Mem} {s : Nat → Int} (hS : MS mem s) (hz : szO s) (hs2 : 0 ≤ s 2 ∧ s 2 ≤ 4) (hs4 : s 4 ≤ 200) (hs5 : s 5 ≤ s 4) (hp : pasO s) {x y : Int} (hx : -100 ≤ x ∧ x ≤ 100) (hy : -100 ≤ y ∧ y ≤ 100) : ∀ (q n k : Nat), (k : Int) + q = s 2 → q < n → K_X12_pawnIn_5 fu mem n (zi x) (zi y) (zi (pIn s x y k)) (zi (k : Int)) = some (zi (pI s x y)) := by
  intro q
  induction q with
  | zero =>
    intro n k hk hn
    obtain ⟨n, rfl⟩ : ∃ f, n = f + 1 := ⟨n - 1, by omega⟩
    rw [K_X12_pawnIn_5]
    simp (disch := omega) only [zi_lit, zl_lit, zi_add, zi_sub, zi_mul, zi_neg, zi_lt, zi_inj, zi_clamp, zl_of, gi_zi, bd_s, ltf, bi_0, bi_1, gb_bi, Int.reduceToNat, Int.reduceNeg, Int.toNat_natCast, hS _]
    rw [if_neg (by omega)]
    unfold pI
    rw [show (s 2).toNat = k by omega]
  | succ q ih =>
    intro n k hk hn
    obtain ⟨n, rfl⟩ : ∃ f, n = f + 1 := ⟨n - 1, by omega⟩
    obtain ⟨p1, p2, p3, p4, p5, p6, p7⟩ := hp k (by omega) (by omega)
    have hxy := cl_nat hz p1
    have h2 := ih n (k + 1) (by omega) (by omega)
    rw [pIn] at h2
    rw [K_X12_pawnIn_5]
    simp (disch := omega) only [zi_lit, zl_lit, zi_add, zi_sub, zi_mul, zi_neg, zi_lt, zi_inj, zi_clamp, zl_of, gi_zi, bd_s, ltf, bi_0, bi_1, gb_bi, Int.reduceToNat, Int.reduceNeg, Int.toNat_natCast, hS _, k_fin fu hS, k_of fu hS]
    rw [if_pos (by omega)]
    by_cases c1 : pg s k 6 = 0
    · rw [if_pos (decide_eq_false (by omega))]
      by_cases c2 : pg s k 0 = x
      · rw [if_pos c2]
        by_cases c3 : pg s k 1 = y
        · rw [if_pos c3]
          rw [if_pos ⟨c1, c2, c3⟩] at h2
          exact h2
        · rw [if_neg c3]
          rw [if_neg (fun h => c3 h.2.2)] at h2
          exact h2
      · rw [if_neg c2]
        rw [if_neg (fun h => c2 h.2.1)] at h2
        exact h2
    · rw [if_neg (by rw [decide_eq_true (by omega)]; decide)]
      rw [if_neg (fun h => c1 h.1)] at h2
      exact h2
theorem m_pawnIn (fu : Nat) (hfu : 1000 ≤ fu) {mem : Mem} {s : Nat → Int} (hS : MS mem s) (hz : szO s) (hs2 : 0 ≤ s 2 ∧ s 2 ≤ 4) (hs4 : s 4 ≤ 200) (hs5 : s 5 ≤ s 4) (hp : pasO s) {x y : Int} (hx : -100 ≤ x ∧ x ≤ 100) (hy : -100 ≤ y ∧ y ≤ 100) : K_X12_pawnIn fu (zi x) (zi y) mem = some (zi (pI s x y)) := m_pIn5 fu hS hz hs2 hs4 hs5 hp hx hy (s 2).toNat fu 0 (by omega) (by omega)
theorem c_pOn2 (fu r : Nat) {mem : Mem} {s : Nat → Int} (hz : szO s) (hs2 : 0 ≤ s 2 ∧ s 2 ≤ 4) (hs4 : s 4 ≤ 200) (hs5 : s 5 ≤ s 4) (hp : pasO s) (hd : dsO s) (hP : CPn mem r s) {c : Nat} (hc : c < 81) : ∀ (q n k : Nat), (k : Int) + q = s 2 → q < n → (∀ p : Int, 0 ≤ p → p < k → ¬ atP s p (xo c) (yo c)) → K_X6_pawnOn_2 fu r mem n (zi (c : Int)) (zi (k : Int)) = some (zi (pI s (xo c) (yo c))) := by
  have hcx := xy_lt hc
  intro q
  induction q with
  | zero =>
    intro n k hk hn hno
    obtain ⟨n, rfl⟩ : ∃ f, n = f + 1 := ⟨n - 1, by omega⟩
    rw [K_X6_pawnOn_2]
    simp (disch := omega) only [zi_lit, zl_lit, zi_add, zi_sub, zi_mul, zi_neg, zi_lt, zi_inj, zi_clamp, zl_of, gi_zi, bd_s, ltf, bi_0, bi_1, gb_bi, Int.reduceToNat, Int.reduceNeg, Int.toNat_natCast, hP.1]
    rw [if_neg (by omega)]
    rcases pI_sp hs2.1 (xo c) (yo c) with ⟨g, -⟩ | ⟨g1, g2, g3⟩
    · rw [g]
    · exact absurd g3 (hno _ g1 (by omega))
  | succ q ih =>
    intro n k hk hn hno
    obtain ⟨n, rfl⟩ : ∃ f, n = f + 1 := ⟨n - 1, by omega⟩
    obtain ⟨p1, p2, p3, p4, p5, p6, p7⟩ := hp k (by omega) (by omega)
    have hxy := cl_nat hz p1
    obtain ⟨r0, r1, r2, r3, r4, r5⟩ := hP.2 k (by omega) (by omega)
    have h2 : (¬ atP s k (xo c) (yo c)) → K_X6_pawnOn_2 fu r mem n (zi (c : Int)) (zi ((k + 1 : Nat) : Int)) = some (zi (pI s (xo c) (yo c))) := fun hh => ih n (k + 1) (by omega) (by omega) (fun p g1 g2 => by
      by_cases e : p = k
      · rw [e]
        exact hh
      · exact hno p g1 (by omega))
    rw [K_X6_pawnOn_2]
    simp (disch := omega) only [zi_lit, zl_lit, zi_add, zi_sub, zi_mul, zi_neg, zi_lt, zi_inj, zi_clamp, zl_of, gi_zi, bd_s, ltf, bi_0, bi_1, gb_bi, Int.reduceToNat, Int.reduceNeg, Int.toNat_natCast, hP.1, r0, r5]
    rw [if_pos (by omega)]
    by_cases c1 : 9 * pg s k 1 + pg s k 0 = (c : Int)
    · rw [if_pos c1]
      by_cases c2 : pg s k 6 = 0
      · rw [if_pos c2, pI_at hs2.1 hd (k := (k : Int)) (by omega) (by omega) ⟨c2, by omega, by omega⟩]
      · rw [if_neg c2]
        exact h2 (fun h => c2 h.1)
    · rw [if_neg c1]
      refine h2 (fun h => c1 ?_)
      rw [h.2.1, h.2.2]
      omega
theorem c_pawnOn (fu r : Nat) (hfu : 1000 ≤ fu) {mem : Mem} {s : Nat → Int} (hz : szO s) (hs2 : 0 ≤ s 2 ∧ s 2 ≤ 4) (hs4 : s 4 ≤ 200) (hs5 : s 5 ≤ s 4) (hp : pasO s) (hd : dsO s) (hP : CPn mem r s) {c : Nat} (hc : c < 81) : K_X6_pawnOn fu r (zi (c : Int)) mem = some (zi (pI s (xo c) (yo c))) := c_pOn2 fu r hz hs2 hs4 hs5 hp hd hP hc (s 2).toNat fu 0 (by omega) (by omega) (fun p h1 h2 => by omega)
def ovB (s : Nat → Int) : Bool := decide (s 2 - s 5 < 2) || decide (200 ≤ s 4)
theorem m_over (fu : Nat) {mem : Mem} {s : Nat → Int} (hS : MS mem s) (hc : cnO s) : K_X12_over fu mem = some (zi (bi (ovB s))) := by
  obtain ⟨c1, c2, c3, c4, c5, c6⟩ := hc
  unfold K_X12_over K_X12_over_29 ovB
  simp (disch := omega) only [zi_lit, zl_lit, zi_add, zi_sub, zi_mul, zi_neg, zi_lt, zi_inj, zi_clamp, zl_of, gi_zi, bd_s, ltf, bi_0, bi_1, gb_bi, Int.reduceToNat, Int.reduceNeg, Int.toNat_natCast, hS _]
  by_cases q1 : s 2 - s 5 < 2
  · rw [if_pos q1, decide_eq_true q1]
    rfl
  · rw [if_neg q1, decide_eq_false q1, Bool.false_or]
    by_cases q2 : s 4 < 200
    · rw [if_pos q2, decide_eq_false (by omega)]
      rfl
    · rw [if_neg q2, decide_eq_true (by omega)]
      rfl
theorem c_hasEnded (fu r : Nat) {mem : Mem} {s : Nat → Int} (hR : RC mem r s) (hc : cnO s) : K_X6_hasEnded fu r mem = some (zi (bi (ovB s))) := by
  obtain ⟨c1, c2, c3, c4, c5, c6⟩ := hc
  obtain ⟨-, ⟨e2, e4, e5, e6, e7⟩, -⟩ := hR
  unfold K_X6_hasEnded K_X6_hasEnded_23 ovB
  simp (disch := omega) only [zi_lit, zl_lit, zi_add, zi_sub, zi_mul, zi_neg, zi_lt, zi_inj, zi_clamp, zl_of, gi_zi, bd_s, ltf, bi_0, bi_1, gb_bi, Int.reduceToNat, Int.reduceNeg, Int.toNat_natCast, e2, e5, e7]
  by_cases q1 : s 2 - s 5 < 2
  · rw [if_pos q1, decide_eq_true q1]
    rfl
  · rw [if_neg q1, decide_eq_false q1, Bool.false_or]
    by_cases q2 : s 4 < 200
    · rw [if_pos q2, decide_eq_false (by omega)]
      rfl
    · rw [if_neg q2, decide_eq_true (by omega)]
      rfl
theorem RC_CPn {mem : Mem} {r : Nat} {s : Nat → Int} (h : RC mem r s) : CPn mem r s := ⟨h.2.1.1, h.2.2.1⟩
theorem RC_CBn {mem : Mem} {r : Nat} {s : Nat → Int} (h : RC mem r s) : CBn mem r s := ⟨h.2.1.2.1, h.2.2.2⟩
/-- how many steps a pawn goes in a direction: none, one, two -/
def gB (s : Nat → Int) (p : Int) (d : Nat) : Int :=
  if 0 < pg s p 6 then 0 else if ovB s = true then 0 else if fbB s p (pg s p 0) (pg s p 1) (pg s p 5) (pg s p 4) d = true then 0 else if op s (celN s p) d = false then 0 else if pI s (xo (nbr (celN s p) d)) (yo (nbr (celN s p) d)) = -1 then 1 else if op s (nbr (celN s p) d) d = false then 0 else if pI s (xo (nbr (nbr (celN s p) d) d)) (yo (nbr (nbr (celN s p) d) d)) = -1 then 2 else 0
def ldN (s : Nat → Int) (p : Int) (d : Nat) : Nat := if gB s p d = 1 then nbr (celN s p) d else nbr (nbr (celN s p) d) d
theorem gB_012 (s : Nat → Int) (p : Int) (d : Nat) : gB s p d = 0 ∨ gB s p d = 1 ∨ gB s p d = 2 := by
  unfold gB
  repeat (first | exact Or.inl rfl | exact Or.inr (Or.inl rfl) | exact Or.inr (Or.inr rfl) | split)
/-- where it goes -/
theorem gB_ld {s : Nat → Int} (hz : szO s) {p : Int} (hp : pnO s p) {d : Nat} (hd : d < 4) (h : gB s p d ≠ 0) : ldN s p d < 81 ∧ (celN s p : Int) + gB s p d * (9 * dy (d : Int) + dx (d : Int)) = (ldN s p d : Int) ∧ xo (ldN s p d) = pg s p 0 + gB s p d * dx (d : Int) ∧ yo (ldN s p d) = pg s p 1 + gB s p d * dy (d : Int) ∧ isCl s (xo (ldN s p d)) (yo (ldN s p d)) = true ∧ pI s (xo (ldN s p d)) (yo (ldN s p d)) = -1 ∧ ¬ 0 < pg s p 6 ∧ ovB s = false ∧ ∃ n, Pth (op s) nbr (fun b => b = celN s p) n (ldN s p d) := by
  have hcl := cel_lt hz hp
  unfold gB at h
  by_cases q1 : 0 < pg s p 6
  · rw [if_pos q1] at h
    exact absurd rfl h
  · rw [if_neg q1] at h
    by_cases q2 : ovB s = true
    · rw [if_pos q2] at h
      exact absurd rfl h
    · rw [if_neg q2] at h
      have q2' : ovB s = false := by simpa using q2
      by_cases q3 : fbB s p (pg s p 0) (pg s p 1) (pg s p 5) (pg s p 4) d = true
      · rw [if_pos q3] at h
        exact absurd rfl h
      · rw [if_neg q3] at h
        by_cases q4 : op s (celN s p) d = false
        · rw [if_pos q4] at h
          exact absurd rfl h
        · rw [if_neg q4] at h
          have ho : op s (celN s p) d = true := by simpa using q4
          have hn := op_nb hz hcl.1 hd ho
          have hoff := op_off hz hcl.1 hd ho
          rw [hcl.2.1, hcl.2.2] at hn
          by_cases q5 : pI s (xo (nbr (celN s p) d)) (yo (nbr (celN s p) d)) = -1
          · have hg : gB s p d = 1 := by
              unfold gB
              rw [if_neg q1, if_neg q2, if_neg q3, if_neg q4, if_pos q5]
            unfold ldN
            rw [hg, if_pos rfl]
            exact ⟨hn.1, by omega, by omega, by omega, hn.2.1, q5, q1, q2', 1, celN s p, d, hd, rfl, ho, rfl⟩
          · rw [if_neg q5] at h
            by_cases q6 : op s (nbr (celN s p) d) d = false
            · rw [if_pos q6] at h
              exact absurd rfl h
            · rw [if_neg q6] at h
              have ho2 : op s (nbr (celN s p) d) d = true := by simpa using q6
              have hn2 := op_nb hz hn.1 hd ho2
              have hoff2 := op_off hz hn.1 hd ho2
              by_cases q7 : pI s (xo (nbr (nbr (celN s p) d) d)) (yo (nbr (nbr (celN s p) d) d)) = -1
              · have hg : gB s p d = 2 := by
                  unfold gB
                  rw [if_neg q1, if_neg q2, if_neg q3, if_neg q4, if_neg q5, if_neg q6, if_pos q7]
                unfold ldN
                rw [hg, if_neg (by decide)]
                exact ⟨hn2.1, by omega, by omega, by omega, hn2.2.1, q7, q1, q2', 2, _, d, hd, ⟨celN s p, d, hd, rfl, ho, rfl⟩, ho2, rfl⟩
              · rw [if_neg q7] at h
                exact absurd rfl h
def lvO (s : Nat → Int) : Prop := szO s ∧ cnO s ∧ wlO s ∧ pasO s ∧ basO s ∧ dsO s
theorem c_landing (fu r : Nat) (hfu : 1000 ≤ fu) {mem : Mem} {s : Nat → Int} (hv : lvO s) (hR : RC mem r s) {p d : Nat} (hps : (p : Int) < s 2) (hd : d < 4) : K_X6_landing fu r (zi (p : Int)) (zi (d : Int)) mem = some (zi (if gB s p d = 0 then -1 else (ldN s p d : Int))) := by
  obtain ⟨hz, hc, hW, hp, hb, hds⟩ := hv
  have hcc := hc
  obtain ⟨c1, c2, c3, c4, c5, c6⟩ := hcc
  have hp4 : p < 4 := by omega
  have hpk := hp p (by omega) hps
  have hcl := cel_lt hz hpk
  have hpp := hpk
  obtain ⟨p1, p2, p3, p4, p5, p6, p7⟩ := hpp
  have hxy := cl_nat hz p1
  have hRP := hR.2.2.1 p hp4 hps
  have ec : (9 * pg s p 1 + pg s p 0) = (celN s p : Int) := by
    unfold celN
    omega
  have r0 := hRP.1
  rw [ec] at r0
  have r5 := hRP.2.2.2.2.2
  unfold K_X6_landing K_X6_landing_91
  simp (disch := omega) only [zi_lit, zl_lit, zi_add, zi_sub, zi_mul, zi_neg, zi_lt, zi_inj, zi_clamp, zl_of, gi_zi, bd_s, ltf, bi_0, bi_1, gb_bi, Int.reduceToNat, Int.reduceNeg, Int.toNat_natCast, c_hasEnded fu r hR hc, r5, c_bannedNow fu r hfu hz c2 c1.2 hb (RC_CBn hR) hp4 hRP hpk c4, msk_bit _ hd, r0, c_behind fu r hR.1 hcl.1 hd]
  cases q2 : ovB s with
  | true =>
    have hg : gB s p d = 0 := by
      unfold gB
      by_cases q0 : 0 < pg s p 6
      · rw [if_pos q0]
      · rw [if_neg q0, if_pos q2]
    rw [if_neg (by decide), hg, if_pos rfl]
  | false =>
    rw [if_pos rfl]
    by_cases q1 : pg s p 6 = 0
    · rw [if_pos q1]
      have q1' : ¬ 0 < pg s p 6 := by omega
      cases q3 : fbB s p (pg s p 0) (pg s p 1) (pg s p 5) (pg s p 4) d with
      | true =>
        have hg : gB s p d = 0 := by
          unfold gB
          rw [if_neg q1', if_neg (by rw [q2]; decide), if_pos q3]
        rw [if_neg (by decide), hg, if_pos rfl]
      | false =>
        rw [if_pos rfl]
        cases q4 : op s (celN s p) d with
        | false =>
          have hg : gB s p d = 0 := by
            unfold gB
            rw [if_neg q1', if_neg (by rw [q2]; decide), if_neg (by rw [q3]; decide), if_pos q4]
          rw [hg, if_pos rfl]
          simp only [Bool.false_eq_true, ↓reduceIte]
        | true =>
          have hn := op_nb hz hcl.1 hd q4
          have hoff := op_off hz hcl.1 hd q4
          have hn1 := hn.1
          rw [if_pos rfl, hoff]
          have i1 := pI_sp c1.1 (xo (nbr (celN s p) d)) (yo (nbr (celN s p) d))
          have i2 := pI_sp c1.1 (xo (nbr (nbr (celN s p) d) d)) (yo (nbr (nbr (celN s p) d) d))
          simp (disch := omega) only [zi_lit, zl_lit, zi_add, zi_sub, zi_mul, zi_neg, zi_lt, zi_inj, zi_clamp, zl_of, gi_zi, bd_s, ltf, bi_0, bi_1, gb_bi, Int.reduceToNat, Int.reduceNeg, Int.toNat_natCast, c_pawnOn fu r hfu hz c1 c4.2 c5.2 hp hds (RC_CPn hR) hn1, c_behind fu r hR.1 hn1 hd]
          rw [if_neg (by omega)]
          by_cases q5 : pI s (xo (nbr (celN s p) d)) (yo (nbr (celN s p) d)) = -1
          · have hg : gB s p d = 1 := by
              unfold gB
              rw [if_neg q1', if_neg (by rw [q2]; decide), if_neg (by rw [q3]; decide), if_neg (by rw [q4]; decide), if_pos q5]
            rw [if_pos q5, hg, if_neg (by decide)]
            unfold ldN
            rw [if_pos hg]
          · rw [if_neg q5]
            cases q6 : op s (nbr (celN s p) d) d with
            | false =>
              have hg : gB s p d = 0 := by
                unfold gB
                rw [if_neg q1', if_neg (by rw [q2]; decide), if_neg (by rw [q3]; decide), if_neg (by rw [q4]; decide), if_neg q5, if_pos q6]
              rw [hg, if_pos rfl]
              simp only [Bool.false_eq_true, ↓reduceIte]
            | true =>
              have hn2 := op_nb hz hn1 hd q6
              have hoff2 := op_off hz hn1 hd q6
              have hn21 := hn2.1
              rw [if_pos rfl, hoff2]
              simp (disch := omega) only [zi_lit, zl_lit, zi_add, zi_sub, zi_mul, zi_neg, zi_lt, zi_inj, zi_clamp, zl_of, gi_zi, bd_s, ltf, bi_0, bi_1, gb_bi, Int.reduceToNat, Int.reduceNeg, Int.toNat_natCast, c_pawnOn fu r hfu hz c1 c4.2 c5.2 hp hds (RC_CPn hR) hn21]
              rw [if_neg (by omega)]
              by_cases q7 : pI s (xo (nbr (nbr (celN s p) d) d)) (yo (nbr (nbr (celN s p) d) d)) = -1
              · have hg : gB s p d = 2 := by
                  unfold gB
                  rw [if_neg q1', if_neg (by rw [q2]; decide), if_neg (by rw [q3]; decide), if_neg (by rw [q4]; decide), if_neg q5, if_neg (by rw [q6]; decide), if_pos q7]
                rw [if_pos q7, hg, if_neg (by decide)]
                unfold ldN
                rw [if_neg (by rw [hg]; decide)]
              · have hg : gB s p d = 0 := by
                  unfold gB
                  rw [if_neg q1', if_neg (by rw [q2]; decide), if_neg (by rw [q3]; decide), if_neg (by rw [q4]; decide), if_neg q5, if_neg (by rw [q6]; decide), if_neg q7]
                rw [if_neg q7, hg, if_pos rfl]
    · rw [if_neg q1]
      have hg : gB s p d = 0 := by
        unfold gB
        rw [if_pos (by omega)]
      rw [hg, if_pos rfl]
def P27 (k j : Nat) : Bool := k == 0 && j == 27
theorem m_goesBy (fu : Nat) (hfu : 1000 ≤ fu) {mem : Mem} {s : Nat → Int} (hv : lvO s) (hS : MS mem s) {p d : Nat} (hps : (p : Int) < s 2) (hd : d < 4) : ∃ mem2, K_X12_goesBy fu (zi (p : Int)) (zi (d : Int)) mem = some (zi (gB s p d), mem2) ∧ Fr P27 mem mem2 := by
  obtain ⟨hz, hc, hW, hp, hb, hds⟩ := hv
  have hcc := hc
  obtain ⟨c1, c2, c3, c4, c5, c6⟩ := hcc
  have hp4 : p < 4 := by omega
  have hpk := hp p (by omega) hps
  have hcl := cel_lt hz hpk
  have hpp := hpk
  obtain ⟨p1, p2, p3, p4, p5, p6, p7⟩ := hpp
  have hxy := cl_nat hz p1
  have f0 : Fr P27 mem (mw mem 0 27 (zi (p : Int))) := Fr_mw _ _ rfl
  have hS0 : MS (mw mem 0 27 (zi (p : Int))) s := MS_fr f0 (fun _ => rfl) hS
  have h27 : rd (mw mem 0 27 (zi (p : Int))) 0 27 = zi (p : Int) := by rw [rd_mw, if_pos ⟨rfl, rfl⟩]
  have hdd := dxy d hd
  have hbk : ∀ m, MS m s → K_X12_blocks fu (zi (pg s p 0)) (zi (pg s p 1)) (zi (d : Int)) m = some (zi (bi (!op s (celN s p) d))) := fun m hm => by
    rw [k_blocks fu hm hz hW (by omega) (by omega) (by omega) (by omega) (by omega) (by omega)]
    unfold op
    rw [hcl.2.1, hcl.2.2, p1, Bool.true_and, Bool.not_not]
  unfold K_X12_goesBy K_X12_bans
  simp (disch := omega) only [zi_lit, zl_lit, zi_add, zi_sub, zi_mul, zi_neg, zi_lt, zi_inj, zi_clamp, zl_of, gi_zi, bd_s, ltf, bi_0, bi_1, gb_bi, Int.reduceToNat, Int.reduceNeg, Int.toNat_natCast, k_fin fu hS, m_over fu hS hc, k_of fu hS0, m_isForb fu hfu hS0 hz c1.2 c2 hb h27, hbk _ hS0, k_across, k_up]
  by_cases q1 : 0 < pg s p 6
  · have hg : gB s p d = 0 := by
      unfold gB
      rw [if_pos q1]
    rw [if_neg (by rw [decide_eq_true q1]; decide), hg]
    exact ⟨mem, rfl, Fr_rf _ mem⟩
  · rw [if_pos (decide_eq_false q1)]
    cases q2 : ovB s with
    | true =>
      have hg : gB s p d = 0 := by
        unfold gB
        rw [if_neg q1, if_pos q2]
      rw [if_neg (by decide), hg]
      exact ⟨mem, rfl, Fr_rf _ mem⟩
    | false =>
      rw [if_pos rfl]
      cases q3 : fbB s p (pg s p 0) (pg s p 1) (pg s p 5) (pg s p 4) d with
      | true =>
        have hg : gB s p d = 0 := by
          unfold gB
          rw [if_neg q1, if_neg (by rw [q2]; decide), if_pos q3]
        rw [if_neg (by decide), hg]
        exact ⟨_, rfl, f0⟩
      | false =>
        rw [if_pos rfl]
        cases q4 : op s (celN s p) d with
        | false =>
          have hg : gB s p d = 0 := by
            unfold gB
            rw [if_neg q1, if_neg (by rw [q2]; decide), if_neg (by rw [q3]; decide), if_pos q4]
          rw [if_neg (by decide), hg]
          exact ⟨_, rfl, f0⟩
        | true =>
          have hn := op_nb hz hcl.1 hd q4
          have hn1 := hn.1
          have hxy1 := xy_lt hn1
          rw [hcl.2.1, hcl.2.2] at hn
          have i1 := pI_sp c1.1 (xo (nbr (celN s p) d)) (yo (nbr (celN s p) d))
          have i2 := pI_sp c1.1 (xo (nbr (nbr (celN s p) d) d)) (yo (nbr (nbr (celN s p) d) d))
          rw [if_pos (by decide), ← hn.2.2.1, ← hn.2.2.2.1]
          have hbk2 : K_X12_blocks fu (zi (xo (nbr (celN s p) d))) (zi (yo (nbr (celN s p) d))) (zi (d : Int)) (mw mem 0 27 (zi (p : Int))) = some (zi (bi (!op s (nbr (celN s p) d) d))) := by
            rw [k_blocks fu hS0 hz hW (by omega) (by omega) (by omega) (by omega) (by omega) (by omega)]
            unfold op
            rw [hn.2.1, Bool.true_and, Bool.not_not]
          simp (disch := omega) only [zi_lit, zl_lit, zi_add, zi_sub, zi_mul, zi_neg, zi_lt, zi_inj, zi_clamp, zl_of, gi_zi, bd_s, ltf, bi_0, bi_1, gb_bi, Int.reduceToNat, Int.reduceNeg, Int.toNat_natCast, m_pawnIn fu hfu hS0 hz c1 c4.2 c5.2 hp, hbk2]
          by_cases q5 : pI s (xo (nbr (celN s p) d)) (yo (nbr (celN s p) d)) = -1
          · have hg : gB s p d = 1 := by
              unfold gB
              rw [if_neg q1, if_neg (by rw [q2]; decide), if_neg (by rw [q3]; decide), if_neg (by rw [q4]; decide), if_pos q5]
            rw [if_pos q5, hg]
            exact ⟨_, rfl, f0⟩
          · rw [if_neg q5]
            cases q6 : op s (nbr (celN s p) d) d with
            | false =>
              have hg : gB s p d = 0 := by
                unfold gB
                rw [if_neg q1, if_neg (by rw [q2]; decide), if_neg (by rw [q3]; decide), if_neg (by rw [q4]; decide), if_neg q5, if_pos q6]
              rw [if_neg (by decide), hg]
              exact ⟨_, rfl, f0⟩
            | true =>
              have hn2 := op_nb hz hn1 hd q6
              have hxy2 := xy_lt hn2.1
              rw [if_pos (by decide), ← hn2.2.2.1, ← hn2.2.2.2.1]
              simp (disch := omega) only [zi_lit, zl_lit, zi_add, zi_sub, zi_mul, zi_neg, zi_lt, zi_inj, zi_clamp, zl_of, gi_zi, bd_s, ltf, bi_0, bi_1, gb_bi, Int.reduceToNat, Int.reduceNeg, Int.toNat_natCast, m_pawnIn fu hfu hS0 hz c1 c4.2 c5.2 hp]
              by_cases q7 : pI s (xo (nbr (nbr (celN s p) d) d)) (yo (nbr (nbr (celN s p) d) d)) = -1
              · have hg : gB s p d = 2 := by
                  unfold gB
                  rw [if_neg q1, if_neg (by rw [q2]; decide), if_neg (by rw [q3]; decide), if_neg (by rw [q4]; decide), if_neg q5, if_neg (by rw [q6]; decide), if_pos q7]
                rw [if_pos q7, hg]
                exact ⟨_, rfl, f0⟩
              · have hg : gB s p d = 0 := by
                  unfold gB
                  rw [if_neg q1, if_neg (by rw [q2]; decide), if_neg (by rw [q3]; decide), if_neg (by rw [q4]; decide), if_neg q5, if_neg (by rw [q6]; decide), if_neg q7]
                rw [if_neg q7, hg]
                exact ⟨_, rfl, f0⟩
end MOVES
