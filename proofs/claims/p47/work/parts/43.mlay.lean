section MLAY
def xo (c : Nat) : Int := ((c % 9 : Nat) : Int)
def yo (c : Nat) : Int := ((c / 9 : Nat) : Int)
def op (s : Nat → Int) (u d : Nat) : Bool := isCl s (xo u) (yo u) && !blk s (xo u) (yo u) (d : Int)
def nbr (u d : Nat) : Nat := ((u : Int) + 9 * dy (d : Int) + dx (d : Int)).toNat
def Sd (s : Nat → Int) (side : Int) (c : Nat) : Prop := c < 81 ∧ isCl s (xo c) (yo c) = true ∧ atS s (xo c) (yo c) side = true
noncomputable def dl (s : Nat → Int) (side : Int) (c : Nat) : Int := dlt (op s) nbr (Sd s side) c
def wlO (s : Nat → Int) : Prop := ∀ j : Nat, 120 ≤ j → j < 184 → 0 ≤ s j ∧ s j ≤ 2
theorem Sd_lt {s : Nat → Int} {side : Int} : ∀ c, Sd s side c → c < 81 := fun _ h => h.1
theorem op_iff {s : Nat → Int} {u d : Nat} : op s u d = true ↔ isCl s (xo u) (yo u) = true ∧ blk s (xo u) (yo u) (d : Int) = false := by
  unfold op
  rw [Bool.and_eq_true, Bool.not_eq_true']
theorem blk_in {s : Nat → Int} {x y d : Int} (h : blk s x y d = false) : isCl s (x + dx d) (y + dy d) = true := by
  unfold blk at h
  rw [Bool.or_eq_false_iff] at h
  simpa using h.1
theorem dxy (d : Nat) (hd : d < 4) : (d = 0 ∧ dx (d : Int) = 0 ∧ dy (d : Int) = 1) ∨ (d = 1 ∧ dx (d : Int) = 1 ∧ dy (d : Int) = 0) ∨ (d = 2 ∧ dx (d : Int) = 0 ∧ dy (d : Int) = -1) ∨ (d = 3 ∧ dx (d : Int) = -1 ∧ dy (d : Int) = 0) := by
  rcases (show d = 0 ∨ d = 1 ∨ d = 2 ∨ d = 3 by omega) with rfl | rfl | rfl | rfl
  · exact Or.inl ⟨rfl, by decide, by decide⟩
  · exact Or.inr (Or.inl ⟨rfl, by decide, by decide⟩)
  · exact Or.inr (Or.inr (Or.inl ⟨rfl, by decide, by decide⟩))
  · exact Or.inr (Or.inr (Or.inr ⟨rfl, by decide, by decide⟩))
/-- a cell of the board by its numbers -/
theorem cl_nat {s : Nat → Int} {x y : Int} (hz : szO s) (h : isCl s x y = true) : 0 ≤ x ∧ x ≤ 8 ∧ 0 ≤ y ∧ y ≤ 8 ∧ (9 * y + x).toNat < 81 ∧ xo (9 * y + x).toNat = x ∧ yo (9 * y + x).toNat = y := by
  obtain ⟨⟨hw1, hw2⟩, hh1, hh2⟩ := hz
  obtain ⟨⟨a1, a2⟩, a3, a4⟩ := isCl_iff.mp h
  unfold xo yo
  refine ⟨a1, by omega, a3, by omega, by omega, by omega, by omega⟩
theorem xy_lt {u : Nat} (hu : u < 81) : 0 ≤ xo u ∧ xo u ≤ 8 ∧ 0 ≤ yo u ∧ yo u ≤ 8 ∧ (9 * yo u + xo u).toNat = u ∧ 9 * yo u + xo u = (u : Int) := by
  unfold xo yo
  omega
theorem op_nb {s : Nat → Int} (hz : szO s) {u d : Nat} (hu : u < 81) (hd : d < 4) (h : op s u d = true) : nbr u d < 81 ∧ isCl s (xo (nbr u d)) (yo (nbr u d)) = true ∧ xo (nbr u d) = xo u + dx (d : Int) ∧ yo (nbr u d) = yo u + dy (d : Int) ∧ nbr u d = (9 * (yo u + dy (d : Int)) + (xo u + dx (d : Int))).toNat := by
  have h1 := blk_in (op_iff.mp h).2
  have h2 := cl_nat hz h1
  have h3 := xy_lt hu
  have e : nbr u d = (9 * (yo u + dy (d : Int)) + (xo u + dx (d : Int))).toNat := by
    unfold nbr
    congr 1
    omega
  rw [e]
  refine ⟨h2.2.2.2.2.1, ?_, h2.2.2.2.2.2.1, h2.2.2.2.2.2.2, rfl⟩
  rw [h2.2.2.2.2.2.1, h2.2.2.2.2.2.2]
  exact h1
theorem op_hg {s : Nat → Int} (hz : szO s) : ∀ u d, u < 81 → d < 4 → op s u d = true → nbr u d < 81 := fun _ _ hu hd h => (op_nb hz hu hd h).1
/-- the reference's rows far, queue and its number, as the search has them -/
def PB (k j : Nat) : Bool := k == 7 || k == 8 || (k == 0 && j == 22)
def BM (mem : Mem) (t : BS) : Prop := (∀ c, c < 81 → rd mem 7 c = zi (t.1 c)) ∧ (∀ k, k < t.2.2 → rd mem 8 k = zi (t.2.1 k : Int)) ∧ rd mem 0 22 = zi (t.2.2 : Int) ∧ (∀ c, -1 ≤ t.1 c ∧ t.1 c ≤ 200) ∧ t.2.2 = cnt t.1 81
theorem MS_fr {P : Nat → Nat → Bool} {m1 m2 : Mem} {s : Nat → Int} (h : Fr P m1 m2) (hP : ∀ j, P 2 j = false) (hS : MS m1 s) : MS m2 s := fun j => (h.1 2 j (hP j)).trans (hS j)
theorem PB_2 (j : Nat) : PB 2 j = false := rfl
theorem m_into (fu : Nat) {mem : Mem} {t : BS} {x y v : Int} (h : BM mem t) (h1 : 0 ≤ x) (h2 : x ≤ 8) (h3 : 0 ≤ y) (h4 : y ≤ 8) (h5 : 0 ≤ v) (h6 : v ≤ 200) : ∃ mem2, K_X12_comesInto fu (zi x) (zi y) (zi v) mem = some mem2 ∧ BM mem2 (bpush t (9 * y + x).toNat v) ∧ Fr PB mem mem2 := by
  obtain ⟨q1, q2, q3, q4, q5⟩ := h
  have hc : (9 * y + x).toNat < 81 := by omega
  have e1 := q1 _ hc
  have r1 := q4 (9 * y + x).toNat
  unfold K_X12_comesInto bpush
  simp (disch := omega) only [zi_lit, zl_lit, zi_add, zi_sub, zi_mul, zi_neg, zi_lt, zi_inj, zi_clamp, zl_of, gi_zi, bd_s, ltf, bi_0, bi_1, gb_bi, Int.reduceToNat, Int.reduceNeg, Int.toNat_natCast, e1]
  by_cases ht : t.1 (9 * y + x).toNat = -1
  · have hr : t.2.2 < 81 := by
      rw [q5]
      exact cnt_lt hc ht
    rw [if_pos ht, if_pos ht]
    simp +decide (disch := omega) only [rd_mw, false_and, ↓reduceIte, q3, zi_lit, zl_lit, zi_add, zi_sub, zi_mul, zi_neg, zi_lt, zi_inj, zi_clamp, zl_of, gi_zi, bd_s, ltf, bi_0, bi_1, gb_bi, Int.reduceToNat, Int.reduceNeg, Int.toNat_natCast]
    refine ⟨_, rfl, ⟨fun c hc2 => ?_, fun k hk => ?_, ?_, fun c => ?_, ?_⟩, ?_⟩
    · simp only [rd_mw]
      by_cases q : c = (9 * y + x).toNat
      · simp [q]
      · simp [q, q1 c hc2]
    · have hk2 : k < t.2.2 + 1 := hk
      simp only [rd_mw]
      have e9 : (((9 * y + x).toNat : Nat) : Int) = 9 * y + x := by omega
      show _ = zi ((if k = t.2.2 then (9 * y + x).toNat else t.2.1 k : Nat) : Int)
      by_cases q : k = t.2.2
      · rw [if_pos q, e9]
        simp [q]
      · rw [if_neg q, ← q2 k (by omega)]
        simp [q]
    · simp only [rd_mw]
      simp
    · show -1 ≤ (if c = (9 * y + x).toNat then v else t.1 c) ∧ (if c = (9 * y + x).toNat then v else t.1 c) ≤ 200
      have := q4 c
      split <;> omega
    · show t.2.2 + 1 = cnt (fun a => if a = (9 * y + x).toNat then v else t.1 a) 81
      rw [cnt_upd hc ht (by omega), q5]
    · exact Fr_tr (Fr_tr (Fr_mw _ _ rfl) (Fr_mw _ _ rfl)) (Fr_mw _ _ rfl)
  · rw [if_neg ht, if_neg ht]
    exact ⟨mem, rfl, ⟨q1, q2, q3, q4, q5⟩, Fr_rf PB mem⟩
theorem m_ga1 (fu n : Nat) {mem : Mem} {s : Nat → Int} {t : BS} {u d : Nat} (hS : MS mem s) (hz : szO s) (hW : wlO s) (h : BM mem t) (hu : u < 81) (hc : isCl s (xo u) (yo u) = true) (hF : 0 ≤ t.1 u ∧ t.1 u ≤ 100) (hd : d < 4) : ∃ mem2, K_X12_goesAround_13 fu (n + 1) (zi (u : Int)) (zi (xo u)) (zi (yo u)) (zi (d : Int)) mem = K_X12_goesAround_13 fu n (zi (u : Int)) (zi (xo u)) (zi (yo u)) (zi ((d + 1 : Nat) : Int)) mem2 ∧ BM mem2 (bnb (op s) nbr t u d) ∧ Fr PB mem mem2 := by
  have hxy := xy_lt hu
  have e7 := h.1 u hu
  have eb := k_blocks fu hS hz hW (x := xo u) (y := yo u) (d := (d : Int)) (by omega) (by omega) (by omega) (by omega) (by omega) (by omega)
  have hop : op s u d = !blk s (xo u) (yo u) (d : Int) := by
    unfold op
    rw [hc, Bool.true_and]
  rw [K_X12_goesAround_13]
  simp (disch := omega) only [zi_lit, zl_lit, zi_add, zi_sub, zi_mul, zi_neg, zi_lt, zi_inj, zi_clamp, zl_of, gi_zi, bd_s, ltf, bi_0, bi_1, gb_bi, Int.reduceToNat, Int.reduceNeg, Int.toNat_natCast, k_across, k_up, eb, e7]
  rw [if_pos (by omega)]
  unfold bnb
  rw [hop]
  cases hb : blk s (xo u) (yo u) (d : Int) with
  | true =>
    rw [if_neg (by decide), if_neg (by decide)]
    exact ⟨mem, rfl, h, Fr_rf PB mem⟩
  | false =>
    rw [if_pos rfl, if_pos (by decide)]
    have ho := op_nb hz hu hd (by rw [hop, hb]; rfl)
    have hin := cl_nat hz (blk_in hb)
    obtain ⟨mem2, g1, g2, g3⟩ := m_into fu h (x := xo u + dx (d : Int)) (y := yo u + dy (d : Int)) (v := t.1 u + 1) (by omega) (by omega) (by omega) (by omega) (by omega) (by omega)
    rw [g1, ← ho.2.2.2.2] at *
    exact ⟨mem2, rfl, g2, g3⟩
theorem m_ga (fu : Nat) (hfu : 1000 ≤ fu) {mem : Mem} {s : Nat → Int} {t : BS} {u : Nat} (hS : MS mem s) (hz : szO s) (hW : wlO s) (h : BM mem t) (hu : u < 81) (hc : isCl s (xo u) (yo u) = true) (hF : 0 ≤ t.1 u ∧ t.1 u ≤ 100) : ∃ mem2, K_X12_goesAround fu (zi (u : Int)) mem = some mem2 ∧ BM mem2 (bar (op s) nbr t u) ∧ Fr PB mem mem2 := by
  obtain ⟨f, rfl⟩ : ∃ f, fu = f + 5 := ⟨fu - 5, by omega⟩
  have hne : t.1 u ≠ -1 := by omega
  have keep : ∀ (t2 : BS) (d : Nat), t2.1 u = t.1 u → (bnb (op s) nbr t2 u d).1 u = t.1 u := fun t2 d e => by rw [bnb_ne (by rw [e]; exact hne), e]
  have k1 := keep t 0 rfl
  have k2 := keep _ 1 k1
  have k3 := keep _ 2 k2
  obtain ⟨m1, a1, b1, c1⟩ := m_ga1 (f + 5) (f + 4) hS hz hW h hu hc hF (d := 0) (by decide)
  obtain ⟨m2, a2, b2, c2⟩ := m_ga1 (f + 5) (f + 3) (MS_fr c1 PB_2 hS) hz hW b1 hu hc (by rw [k1]; exact hF) (d := 1) (by decide)
  have s2 := Fr_tr c1 c2
  obtain ⟨m3, a3, b3, c3⟩ := m_ga1 (f + 5) (f + 2) (MS_fr s2 PB_2 hS) hz hW b2 hu hc (by rw [k2]; exact hF) (d := 2) (by decide)
  have s3 := Fr_tr s2 c3
  obtain ⟨m4, a4, b4, c4⟩ := m_ga1 (f + 5) (f + 1) (MS_fr s3 PB_2 hS) hz hW b3 hu hc (by rw [k3]; exact hF) (d := 3) (by decide)
  refine ⟨m4, ?_, b4, Fr_tr s3 c4⟩
  have ex : (u : Int) - (u : Int) / 9 * 9 = xo u := by unfold xo; omega
  have ey : (u : Int) / 9 = yo u := by unfold yo; omega
  unfold K_X12_goesAround
  simp (disch := omega) only [zi_lit, zl_lit, zi_add, zi_sub, zi_mul, zi_neg, zi_lt, zi_inj, zi_clamp, zl_of, gi_zi, bd_s, ltf, bi_0, bi_1, gb_bi, Int.reduceToNat, Int.reduceNeg, Int.toNat_natCast, zi_div]
  rw [ex, ey]
  rw [show zi (0 : Int) = zi ((0 : Nat) : Int) from rfl, a1, a2, a3, a4, K_X12_goesAround_13]
  rfl
/-- a row is filled -/
theorem m_lay7 (fu : Nat) (x1 : Int32) : ∀ (r n k : Nat) (mem : Mem), k + r = 81 → r < n → ∃ mem2, K_X12_lays_7 fu n x1 (zi (k : Int)) mem = K_X12_lays_28 fu fu x1 (zi 0) mem2 ∧ (∀ c, c < 81 → rd mem2 7 c = if k ≤ c then zi (-1) else rd mem 7 c) ∧ Fr PB mem mem2 ∧ rd mem2 0 22 = rd mem 0 22 := by
  intro r
  induction r with
  | zero =>
    intro n k mem hk hn
    obtain ⟨n, rfl⟩ : ∃ f, n = f + 1 := ⟨n - 1, by omega⟩
    rw [K_X12_lays_7]
    simp (disch := omega) only [zi_lit, zl_lit, zi_add, zi_sub, zi_mul, zi_neg, zi_lt, zi_inj, zi_clamp, zl_of, gi_zi, bd_s, ltf, bi_0, bi_1, gb_bi, Int.reduceToNat, Int.reduceNeg, Int.toNat_natCast]
    rw [if_neg (by omega)]
    exact ⟨mem, rfl, fun c hc => (if_neg (by omega)).symm, Fr_rf PB mem, rfl⟩
  | succ r ih =>
    intro n k mem hk hn
    obtain ⟨n, rfl⟩ : ∃ f, n = f + 1 := ⟨n - 1, by omega⟩
    rw [K_X12_lays_7]
    simp (disch := omega) only [zi_lit, zl_lit, zi_add, zi_sub, zi_mul, zi_neg, zi_lt, zi_inj, zi_clamp, zl_of, gi_zi, bd_s, ltf, bi_0, bi_1, gb_bi, Int.reduceToNat, Int.reduceNeg, Int.toNat_natCast]
    rw [if_pos (by omega)]
    obtain ⟨mem2, h1, h2, h3, h4⟩ := ih n (k + 1) (mw mem 7 k (zi (-1))) (by omega) (by omega)
    refine ⟨mem2, ?_, fun c hc => ?_, Fr_tr (Fr_mw _ _ rfl) h3, ?_⟩
    · rw [← h1]
      rfl
    · rw [h2 c hc, rd_mw]
      by_cases q : c = k
      · subst q
        simp
      · by_cases q2 : k ≤ c
        · rw [if_pos (by omega), if_pos q2]
        · rw [if_neg (by omega), if_neg q2, if_neg (by omega)]
    · rw [h4, rd_mw]
      simp
/-- the search itself -/
theorem m_lay81 (fu : Nat) (hfu : 1000 ≤ fu) {s : Nat → Int} (hz : szO s) (hW : wlO s) {S : Nat → Prop} (hSc : ∀ c, S c → isCl s (xo c) (yo c) = true) : ∀ (r n i : Nat) (mem : Mem) (t : BS), i + r = 81 → r < n → MS mem s → BM mem t → BI (op s) nbr S t i → (∀ c, c < 81 → t.1 c ≠ -1 → isCl s (xo c) (yo c) = true) → ∃ mem2 t2, K_X12_lays_81 fu n (zi (i : Int)) mem = some mem2 ∧ BM mem2 t2 ∧ BI (op s) nbr S t2 t2.2.2 ∧ (∀ c, c < 81 → t2.1 c ≠ -1 → isCl s (xo c) (yo c) = true) ∧ Fr PB mem mem2 := by
  intro r
  induction r with
  | zero =>
    intro n i mem t hi hn hS hB hI hcl
    obtain ⟨n, rfl⟩ : ∃ f, n = f + 1 := ⟨n - 1, by omega⟩
    have hq : t.2.2 ≤ 81 := by rw [hI.2.2.1]; exact cnt_le _ _
    have hi2 : i ≤ t.2.2 := hI.2.2.2.2.2.2.2.2.2.1
    rw [K_X12_lays_81]
    simp (disch := omega) only [zi_lit, zl_lit, zi_add, zi_sub, zi_mul, zi_neg, zi_lt, zi_inj, zi_clamp, zl_of, gi_zi, bd_s, ltf, bi_0, bi_1, gb_bi, Int.reduceToNat, Int.reduceNeg, Int.toNat_natCast, hB.2.2.1]
    rw [if_neg (by omega)]
    exact ⟨mem, t, rfl, hB, by rw [show t.2.2 = i by omega]; exact hI, hcl, Fr_rf PB mem⟩
  | succ r ih =>
    intro n i mem t hi hn hS hB hI hcl
    obtain ⟨n, rfl⟩ : ∃ f, n = f + 1 := ⟨n - 1, by omega⟩
    have hq : t.2.2 ≤ 81 := by rw [hI.2.2.1]; exact cnt_le _ _
    have hi2 : i ≤ t.2.2 := hI.2.2.2.2.2.2.2.2.2.1
    rw [K_X12_lays_81]
    simp (disch := omega) only [zi_lit, zl_lit, zi_add, zi_sub, zi_mul, zi_neg, zi_lt, zi_inj, zi_clamp, zl_of, gi_zi, bd_s, ltf, bi_0, bi_1, gb_bi, Int.reduceToNat, Int.reduceNeg, Int.toNat_natCast, hB.2.2.1]
    by_cases c1 : i < t.2.2
    · rw [if_pos (by omega)]
      have hu := hI.1 i c1
      have hu0 := hI.2.2.2.1 _ hu.2
      have hu1 := hI.2.2.2.2.2.2.2.2.2.2 i c1
      rw [hB.2.1 i c1]
      obtain ⟨m2, a1, a2, a3⟩ := m_ga fu hfu hS hz hW hB hu.1 (hcl _ hu.1 hu.2) ⟨hu0, by omega⟩
      rw [a1]
      obtain ⟨mem2, t2, b1, b2, b3, b4, b5⟩ := ih n (i + 1) m2 _ (by omega) (by omega) (MS_fr a3 PB_2 hS) a2 (BI_step (op_hg hz) hI c1) (fun c hc hF => by
        obtain ⟨⟨e1, e2, -⟩, -⟩ := BE_bar (g := op s) (nb := nbr) (S := fun _ => True) (t := t) (u := t.2.1 i) hu0 (Pth_mono (fun _ _ h => h) (fun _ _ => trivial) (hI.2.2.2.2.2.2.2.1 _ hu.1 hu.2)) (fun d hd hg => op_hg hz _ d hu.1 hd hg)
        by_cases q : t.1 c = -1
        · rcases e2 c q with q1 | ⟨-, q1⟩
          · exact absurd q1 hF
          · have hn1 : (t.1 (t.2.1 i) + 1).toNat = (t.1 (t.2.1 i)).toNat + 1 := by omega
            rw [hn1] at q1
            obtain ⟨u2, d2, g1, g2, g3, g4⟩ := q1
            have hu2 : u2 < 81 := by
              have := (isCl_iff.mp (op_iff.mp g3).1)
              obtain ⟨⟨z1, z2⟩, z3, z4⟩ := hz
              unfold xo yo at this
              omega
            rw [← g4]
            exact (op_nb hz hu2 g1 g3).2.1
        · exact hcl c hc q)
      exact ⟨mem2, t2, b1, b2, b3, b4, Fr_tr a3 b5⟩
    · rw [if_neg (by omega)]
      exact ⟨mem, t, rfl, hB, by rw [show t.2.2 = i by omega]; exact hI, hcl, Fr_rf PB mem⟩
/-- the seeds of a row of cells -/
theorem m_lay40 (fu : Nat) {s : Nat → Int} (hz : szO s) {side : Int} (hs1 : -1000 ≤ side) (hs2 : side < 1000) (kk : Int32 → Int32 → Mem → Option Mem) {y : Int} (hy1 : 0 ≤ y) (hy2 : y ≤ s 1 - 1) : ∀ (r : Nat) (n : Nat) (x : Int) (mem : Mem) (t : BS), x + r = s 0 → r < n → 0 ≤ x → MS mem s → BM mem t → SI (Sd s side) t → ∃ mem2 t2, K_X12_lays_40 fu kk n (zi side) (zi y) (zi x) mem = kk (zi side) (zi (y + 1)) mem2 ∧ BM mem2 t2 ∧ SI (Sd s side) t2 ∧ (∀ c, t.1 c ≠ -1 → t2.1 c ≠ -1) ∧ (∀ x2, x ≤ x2 → x2 < s 0 → atS s x2 y side = true → t2.1 (9 * y + x2).toNat ≠ -1) ∧ Fr PB mem mem2 := by
  have hz2 := hz
  obtain ⟨⟨hw1, hw2⟩, hh1, hh2⟩ := hz2
  intro r
  induction r with
  | zero =>
    intro n x mem t hx hn hx0 hS hB hI
    obtain ⟨n, rfl⟩ : ∃ f, n = f + 1 := ⟨n - 1, by omega⟩
    rw [K_X12_lays_40]
    simp (disch := omega) only [zi_lit, zl_lit, zi_add, zi_sub, zi_mul, zi_neg, zi_lt, zi_inj, zi_clamp, zl_of, gi_zi, bd_s, ltf, bi_0, bi_1, gb_bi, Int.reduceToNat, Int.reduceNeg, Int.toNat_natCast, hS _]
    rw [if_neg (by omega)]
    exact ⟨mem, t, rfl, hB, hI, fun c h => h, fun x2 h1 h2 => by omega, Fr_rf PB mem⟩
  | succ r ih =>
    intro n x mem t hx hn hx0 hS hB hI
    obtain ⟨n, rfl⟩ : ∃ f, n = f + 1 := ⟨n - 1, by omega⟩
    rw [K_X12_lays_40]
    simp (disch := omega) only [zi_lit, zl_lit, zi_add, zi_sub, zi_mul, zi_neg, zi_lt, zi_inj, zi_clamp, zl_of, gi_zi, bd_s, ltf, bi_0, bi_1, gb_bi, Int.reduceToNat, Int.reduceNeg, Int.toNat_natCast, hS _, k_isAtSide fu hS hz]
    rw [if_pos (by omega)]
    by_cases c1 : atS s x y side = true
    · rw [if_neg (by rw [c1]; decide)]
      obtain ⟨m1, a1, a2, a3⟩ := m_into fu hB (x := x) (y := y) (v := 0) (by omega) (by omega) hy1 (by omega) (by omega) (by omega)
      rw [a1]
      have hcl : isCl s x y = true := isCl_iff.mpr ⟨⟨hx0, by omega⟩, hy1, hy2⟩
      have hnat := cl_nat hz hcl
      obtain ⟨mem2, t2, b1, b2, b3, b4, b5, b6⟩ := ih n (x + 1) m1 _ (by omega) (by omega) (by omega) (MS_fr a3 PB_2 hS) a2 (SI_push hI hnat.2.2.2.2.1 ⟨hnat.2.2.2.2.1, by rw [hnat.2.2.2.2.2.1, hnat.2.2.2.2.2.2]; exact hcl, by rw [hnat.2.2.2.2.2.1, hnat.2.2.2.2.2.2]; exact c1⟩)
      have hnew : (bpush t (9 * y + x).toNat 0).1 (9 * y + x).toNat ≠ -1 := by
        by_cases q : t.1 (9 * y + x).toNat = -1
        · unfold bpush
          rw [if_pos q]
          show (if (9 * y + x).toNat = (9 * y + x).toNat then (0 : Int) else _) ≠ -1
          rw [if_pos rfl]
          decide
        · rw [bpush_ne q]
          exact q
      refine ⟨mem2, t2, b1, b2, b3, fun c h => b4 c (by rw [bpush_ne h]; exact h), fun x2 h1 h2 h3 => ?_, Fr_tr a3 b6⟩
      by_cases q : x2 = x
      · rw [q]
        exact b4 _ hnew
      · exact b5 x2 (by omega) h2 h3
    · rw [if_pos (by simpa using c1)]
      obtain ⟨mem2, t2, b1, b2, b3, b4, b5, b6⟩ := ih n (x + 1) mem t (by omega) (by omega) (by omega) hS hB hI
      refine ⟨mem2, t2, b1, b2, b3, b4, fun x2 h1 h2 h3 => ?_, b6⟩
      by_cases q : x2 = x
      · exact absurd (by rw [← q]; exact h3) c1
      · exact b5 x2 (by omega) h2 h3
/-- all seeds, then the search -/
theorem m_lay28 (fu : Nat) (hfu : 1000 ≤ fu) {s : Nat → Int} (hz : szO s) (hW : wlO s) {side : Int} (hs1 : -1000 ≤ side) (hs2 : side < 1000) : ∀ (r : Nat) (n : Nat) (y : Int) (mem : Mem) (t : BS), y + r = s 1 → r < n → 0 ≤ y → MS mem s → BM mem t → SI (Sd s side) t → (∀ x2 y2, 0 ≤ x2 → x2 < s 0 → 0 ≤ y2 → y2 < y → atS s x2 y2 side = true → t.1 (9 * y2 + x2).toNat ≠ -1) → ∃ mem2 t2, K_X12_lays_28 fu n (zi side) (zi y) mem = some mem2 ∧ BM mem2 t2 ∧ BI (op s) nbr (Sd s side) t2 t2.2.2 ∧ (∀ c, c < 81 → t2.1 c ≠ -1 → isCl s (xo c) (yo c) = true) ∧ Fr PB mem mem2 := by
  have hz2 := hz
  obtain ⟨⟨hw1, hw2⟩, hh1, hh2⟩ := hz2
  intro r
  induction r with
  | zero =>
    intro n y mem t hy hn hy0 hS hB hI hdone
    obtain ⟨n, rfl⟩ : ∃ f, n = f + 1 := ⟨n - 1, by omega⟩
    rw [K_X12_lays_28]
    simp (disch := omega) only [zi_lit, zl_lit, zi_add, zi_sub, zi_mul, zi_neg, zi_lt, zi_inj, zi_clamp, zl_of, gi_zi, bd_s, ltf, bi_0, bi_1, gb_bi, Int.reduceToNat, Int.reduceNeg, Int.toNat_natCast, hS _]
    rw [if_neg (by omega)]
    have hBI := SI_BI (g := op s) (nb := nbr) hI (fun c hc => by
      obtain ⟨h1, h2, h3⟩ := hc
      have h4 := isCl_iff.mp h2
      have h5 := hdone (xo c) (yo c) h4.1.1 (by omega) h4.2.1 (by omega) h3
      rw [(xy_lt h1).2.2.2.2.1] at h5
      exact h5)
    obtain ⟨mem2, t2, b1, b2, b3, b4, b5⟩ := m_lay81 fu hfu hz hW (S := Sd s side) (fun c hc => hc.2.1) 81 fu 0 mem t (by omega) (by omega) hS hB hBI (fun c _ hF => (hI.2.2.2 c hF).2.2.1)
    exact ⟨mem2, t2, b1, b2, b3, b4, b5⟩
  | succ r ih =>
    intro n y mem t hy hn hy0 hS hB hI hdone
    obtain ⟨n, rfl⟩ : ∃ f, n = f + 1 := ⟨n - 1, by omega⟩
    rw [K_X12_lays_28]
    simp (disch := omega) only [zi_lit, zl_lit, zi_add, zi_sub, zi_mul, zi_neg, zi_lt, zi_inj, zi_clamp, zl_of, gi_zi, bd_s, ltf, bi_0, bi_1, gb_bi, Int.reduceToNat, Int.reduceNeg, Int.toNat_natCast, hS _]
    rw [if_pos (by omega)]
    obtain ⟨m1, t1, a1, a2, a3, a4, a5, a6⟩ := m_lay40 fu hz hs1 hs2 (K_X12_lays_28 fu n) (y := y) hy0 (by omega) (s 0).toNat fu 0 mem t (by omega) (by omega) (by omega) hS hB hI
    rw [a1]
    obtain ⟨mem2, t2, b1, b2, b3, b4, b5⟩ := ih n (y + 1) m1 t1 (by omega) (by omega) (by omega) (MS_fr a6 PB_2 hS) a2 a3 (fun x2 y2 h1 h2 h3 h4 h5 => by
      by_cases q : y2 = y
      · rw [q] at h5 ⊢
        exact a5 x2 h1 h2 h5
      · exact a4 _ (hdone x2 y2 h1 h2 h3 (by omega) h5))
    exact ⟨mem2, t2, b1, b2, b3, b4, Fr_tr a6 b5⟩
theorem m_lays (fu : Nat) (hfu : 1000 ≤ fu) {mem : Mem} {s : Nat → Int} (hS : MS mem s) (hz : szO s) (hW : wlO s) {side : Int} (hs1 : -1000 ≤ side) (hs2 : side < 1000) : ∃ mem2 t2, K_X12_lays fu (zi side) mem = some mem2 ∧ BM mem2 t2 ∧ BI (op s) nbr (Sd s side) t2 t2.2.2 ∧ (∀ c, c < 81 → t2.1 c ≠ -1 → isCl s (xo c) (yo c) = true) ∧ Fr PB mem mem2 := by
  unfold K_X12_lays
  simp only [zi_lit, zl_lit, zi_add, zi_sub, zi_mul, zi_neg, zi_lt, zi_inj, zi_clamp, zl_of, gi_zi, bd_s, ltf, bi_0, bi_1, gb_bi, Int.reduceToNat, Int.reduceNeg, Int.toNat_natCast]
  obtain ⟨m1, a1, a2, a3, a4⟩ := m_lay7 fu (zi side) 81 fu 0 (mw mem 0 22 (zi 0)) (by omega) (by omega)
  have a0 : K_X12_lays_7 fu fu (zi side) (zi 0) (mw mem 0 22 (zi 0)) = K_X12_lays_28 fu fu (zi side) (zi 0) m1 := a1
  rw [a0]
  have f1 : Fr PB mem m1 := Fr_tr (Fr_mw _ _ rfl) a3
  have hz2 := hz
  obtain ⟨⟨hw1, hw2⟩, hh1, hh2⟩ := hz2
  have hB : BM m1 (fun _ => -1, fun _ => 0, 0) := ⟨fun c hc => by rw [a2 c hc, if_pos (Nat.zero_le c)], fun k hk => absurd hk (Nat.not_lt_zero k), by rw [a4, rd_mw]; simp, fun c => ⟨Int.le_refl _, (by decide : (-1 : Int) ≤ 200)⟩, (cnt_none 81).symm⟩
  obtain ⟨mem2, t2, b1, b2, b3, b4, b5⟩ := m_lay28 fu hfu hz hW hs1 hs2 (s 1).toNat fu 0 m1 (fun _ => -1, fun _ => 0, 0) (by omega) (by omega) (by omega) (MS_fr f1 PB_2 hS) hB (SI_0 _ _) (fun x2 y2 _ _ h1 h2 => by omega)
  exact ⟨mem2, t2, b1, b2, b3, b4, Fr_tr f1 b5⟩
end MLAY
