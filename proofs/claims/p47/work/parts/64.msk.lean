section MASK
/-- the steps that lead to no old cell -/
def opo (s : Nat → Int) (O : Nat → Bool) (u d : Nat) : Bool := op s u d && !O (nbr u d)
theorem opo_op {s : Nat → Int} {O : Nat → Bool} {u d : Nat} (h : opo s O u d = true) : op s u d = true ∧ O (nbr u d) = false := by
  unfold opo at h
  rw [Bool.and_eq_true, Bool.not_eq_true'] at h
  exact h
theorem opo_hg {s : Nat → Int} (hz : szO s) (O : Nat → Bool) : ∀ u d, u < 81 → d < 4 → opo s O u d = true → nbr u d < 81 := fun u d hu hd h => op_hg hz u d hu hd (opo_op h).1
theorem bnb_new {g : Nat → Nat → Bool} {nb : Nat → Nat → Nat} {t : BS} {u d c : Nat} (h : (bnb g nb t u d).1 c ≠ -1) : t.1 c ≠ -1 ∨ (g u d = true ∧ c = nb u d) := by
  unfold bnb bpush at h
  by_cases c1 : g u d = true
  · rw [if_pos c1] at h
    by_cases c2 : t.1 (nb u d) = -1
    · rw [if_pos c2] at h
      by_cases c3 : c = nb u d
      · exact Or.inr ⟨c1, c3⟩
      · refine Or.inl (fun q => h ?_)
        show (if c = nb u d then _ else t.1 c) = -1
        rw [if_neg c3]
        exact q
    · rw [if_neg c2] at h
      exact Or.inl h
  · rw [if_neg c1] at h
    exact Or.inl h
theorem bar_new {g : Nat → Nat → Bool} {nb : Nat → Nat → Nat} {t : BS} {u c : Nat} (h : (bar g nb t u).1 c ≠ -1) : t.1 c ≠ -1 ∨ ∃ d, d < 4 ∧ g u d = true ∧ c = nb u d := by
  unfold bar at h
  rcases bnb_new h with h | h
  · rcases bnb_new h with h | h
    · rcases bnb_new h with h | h
      · rcases bnb_new h with h | h
        · exact Or.inl h
        · exact Or.inr ⟨0, by decide, h⟩
      · exact Or.inr ⟨1, by decide, h⟩
    · exact Or.inr ⟨2, by decide, h⟩
  · exact Or.inr ⟨3, by decide, h⟩
/-- no old cell is found anew -/
def DJ (O : Nat → Bool) (t : BS) : Prop := ∀ c, O c = true → t.1 c = -1
theorem DJ_bnb {s : Nat → Int} {O : Nat → Bool} {t : BS} {u d : Nat} (h : DJ O t) : DJ O (bnb (opo s O) nbr t u d) := fun c hc => by
  by_cases q : (bnb (opo s O) nbr t u d).1 c = -1
  · exact q
  · rcases bnb_new q with g | ⟨g1, g2⟩
    · exact absurd (h c hc) g
    · have := (opo_op g1).2
      rw [← g2, hc] at this
      cases this
theorem DJ_bar {s : Nat → Int} {O : Nat → Bool} {t : BS} {u : Nat} (h : DJ O t) : DJ O (bar (opo s O) nbr t u) := DJ_bnb (DJ_bnb (DJ_bnb (DJ_bnb h)))
def CL (s : Nat → Int) (t : BS) : Prop := ∀ c, c < 81 → t.1 c ≠ -1 → isCl s (xo c) (yo c) = true
theorem CL_bar {s : Nat → Int} (hz : szO s) {O : Nat → Bool} {t : BS} {u : Nat} (hu : u < 81) (h : CL s t) : CL s (bar (opo s O) nbr t u) := fun c hc hF => by
  rcases bar_new hF with g | ⟨d, g1, g2, g3⟩
  · exact h c hc g
  · rw [g3]
    exact (op_nb hz hu g1 (opo_op g2).1).2.1
theorem cap_le {O : Nat → Bool} {F : Nat → Int} (h : ∀ a, O a = true → F a = -1) : ∀ n : Nat, cnB O n + cnt F n ≤ n := by
  intro n
  induction n with
  | zero => exact Nat.le_refl 0
  | succ n ih =>
    rw [cnB, cnt]
    by_cases c1 : O n = true
    · rw [if_pos c1, if_pos (h n c1)]
      omega
    · rw [if_neg c1]
      split <;> omega
theorem cap_lt {O : Nat → Bool} {F : Nat → Int} (h : ∀ a, O a = true → F a = -1) {c : Nat} (hO : O c = false) (hF : F c = -1) : ∀ n : Nat, c < n → cnB O n + cnt F n < n := by
  intro n
  induction n with
  | zero => exact fun hc => absurd hc (Nat.not_lt_zero c)
  | succ n ih =>
    intro hc
    rw [cnB, cnt]
    by_cases e : c = n
    · rw [← e, hO, if_neg (by decide), if_pos hF]
      have := cap_le h c
      omega
    · have := ih (by omega)
      by_cases c1 : O n = true
      · rw [if_pos c1, if_pos (h n c1)]
        omega
      · rw [if_neg c1]
        split <;> omega
/-- old cells keep their distances, the queue begins at o -/
def OKo (O : Nat → Bool) (Jk : Nat → Int) (o : Nat) : Prop := (∀ c, O c = true → 0 ≤ Jk c ∧ Jk c ≤ 200) ∧ o ≤ cnB O 81
def BMo (O : Nat → Bool) (Jk : Nat → Int) (o : Nat) (mem : Mem) (t : BS) : Prop := (∀ c, c < 81 → rd mem 7 c = zi (if O c = true then Jk c else t.1 c)) ∧ (∀ k, k < t.2.2 → rd mem 8 (o + k) = zi (t.2.1 k : Int)) ∧ rd mem 0 22 = zi ((o + t.2.2 : Nat) : Int) ∧ (∀ c, -1 ≤ t.1 c ∧ t.1 c ≤ 200) ∧ t.2.2 = cnt t.1 81
theorem mo_into (fu : Nat) {O : Nat → Bool} {Jk : Nat → Int} {o : Nat} (hO : OKo O Jk o) {mem : Mem} {t : BS} {x y v : Int} (h : BMo O Jk o mem t) (hD : DJ O t) (h1 : 0 ≤ x) (h2 : x ≤ 8) (h3 : 0 ≤ y) (h4 : y ≤ 8) (h5 : 0 ≤ v) (h6 : v ≤ 200) : ∃ mem2, K_X12_comesInto fu (zi x) (zi y) (zi v) mem = some mem2 ∧ BMo O Jk o mem2 (if O (9 * y + x).toNat = true then t else bpush t (9 * y + x).toNat v) ∧ Fr PB mem mem2 := by
  have h' := h
  obtain ⟨q1, q2, q3, q4, q5⟩ := h
  have hc : (9 * y + x).toNat < 81 := by omega
  have e1 := q1 _ hc
  have r1 := q4 (9 * y + x).toNat
  unfold K_X12_comesInto
  by_cases hOc : O (9 * y + x).toNat = true
  · have j1 := hO.1 _ hOc
    rw [if_pos hOc] at e1 ⊢
    simp (disch := omega) only [zi_lit, zl_lit, zi_add, zi_sub, zi_mul, zi_neg, zi_lt, zi_inj, zi_clamp, zl_of, gi_zi, bd_s, ltf, bi_0, bi_1, gb_bi, Int.reduceToNat, Int.reduceNeg, Int.toNat_natCast, e1]
    rw [if_neg (by omega)]
    exact ⟨mem, rfl, h', Fr_rf PB mem⟩
  · have hOf : O (9 * y + x).toNat = false := by simpa using hOc
    rw [if_neg hOc] at e1 ⊢
    unfold bpush
    simp (disch := omega) only [zi_lit, zl_lit, zi_add, zi_sub, zi_mul, zi_neg, zi_lt, zi_inj, zi_clamp, zl_of, gi_zi, bd_s, ltf, bi_0, bi_1, gb_bi, Int.reduceToNat, Int.reduceNeg, Int.toNat_natCast, e1]
    by_cases ht : t.1 (9 * y + x).toNat = -1
    · have hr : o + t.2.2 < 81 := by
        have := cap_lt hD hOf ht 81 hc
        have := hO.2
        omega
      rw [if_pos ht, if_pos ht]
      simp +decide (disch := omega) only [rd_mw, false_and, ↓reduceIte, q3, zi_lit, zl_lit, zi_add, zi_sub, zi_mul, zi_neg, zi_lt, zi_inj, zi_clamp, zl_of, gi_zi, bd_s, ltf, bi_0, bi_1, gb_bi, Int.reduceToNat, Int.reduceNeg, Int.toNat_natCast]
      refine ⟨_, rfl, ⟨fun c hc2 => ?_, fun k hk => ?_, ?_, fun c => ?_, ?_⟩, ?_⟩
      · simp only [rd_mw]
        show _ = zi (if O c = true then Jk c else (if c = (9 * y + x).toNat then v else t.1 c))
        by_cases q : c = (9 * y + x).toNat
        · rw [q, if_neg hOc, if_pos rfl]
          simp
        · rw [if_neg q, ← q1 c hc2]
          simp [q]
      · have hk2 : k < t.2.2 + 1 := hk
        simp only [rd_mw]
        have e9 : (((9 * y + x).toNat : Nat) : Int) = 9 * y + x := by omega
        show _ = zi ((if k = t.2.2 then (9 * y + x).toNat else t.2.1 k : Nat) : Int)
        by_cases q : k = t.2.2
        · rw [if_pos q, e9]
          simp [q]
        · rw [if_neg q, ← q2 k (by omega)]
          simp [q]
      · simp only [rd_mw]
        simp
        rfl
      · show -1 ≤ (if c = (9 * y + x).toNat then v else t.1 c) ∧ (if c = (9 * y + x).toNat then v else t.1 c) ≤ 200
        have := q4 c
        split <;> omega
      · show t.2.2 + 1 = cnt (fun a => if a = (9 * y + x).toNat then v else t.1 a) 81
        rw [cnt_upd hc ht (by omega), q5]
      · exact Fr_tr (Fr_tr (Fr_mw _ _ rfl) (Fr_mw _ _ rfl)) (Fr_mw _ _ rfl)
    · rw [if_neg ht, if_neg ht]
      exact ⟨mem, rfl, h', Fr_rf PB mem⟩
theorem mo_ga1 (fu n : Nat) {O : Nat → Bool} {Jk : Nat → Int} {o : Nat} (hO : OKo O Jk o) {mem : Mem} {s : Nat → Int} {t : BS} {u d : Nat} (hS : MS mem s) (hz : szO s) (hW : wlO s) (h : BMo O Jk o mem t) (hD : DJ O t) (hu : u < 81) (hOu : O u = false) (hc : isCl s (xo u) (yo u) = true) (hF : 0 ≤ t.1 u ∧ t.1 u ≤ 100) (hd : d < 4) : ∃ mem2, K_X12_goesAround_13 fu (n + 1) (zi (u : Int)) (zi (xo u)) (zi (yo u)) (zi (d : Int)) mem = K_X12_goesAround_13 fu n (zi (u : Int)) (zi (xo u)) (zi (yo u)) (zi ((d + 1 : Nat) : Int)) mem2 ∧ BMo O Jk o mem2 (bnb (opo s O) nbr t u d) ∧ Fr PB mem mem2 := by
  have hxy := xy_lt hu
  have e7 := h.1 u hu
  rw [if_neg (by rw [hOu]; decide)] at e7
  have eb := k_blocks fu hS hz hW (x := xo u) (y := yo u) (d := (d : Int)) (by omega) (by omega) (by omega) (by omega) (by omega) (by omega)
  have hop : op s u d = !blk s (xo u) (yo u) (d : Int) := by
    unfold op
    rw [hc, Bool.true_and]
  rw [K_X12_goesAround_13]
  simp (disch := omega) only [zi_lit, zl_lit, zi_add, zi_sub, zi_mul, zi_neg, zi_lt, zi_inj, zi_clamp, zl_of, gi_zi, bd_s, ltf, bi_0, bi_1, gb_bi, Int.reduceToNat, Int.reduceNeg, Int.toNat_natCast, k_across, k_up, eb, e7]
  rw [if_pos (by omega)]
  unfold bnb opo
  rw [hop]
  cases hb : blk s (xo u) (yo u) (d : Int) with
  | true =>
    rw [if_neg (by decide), if_neg (by simp)]
    exact ⟨mem, rfl, h, Fr_rf PB mem⟩
  | false =>
    rw [if_pos rfl]
    have ho := op_nb hz hu hd (by rw [hop, hb]; rfl)
    have hin := cl_nat hz (blk_in hb)
    obtain ⟨mem2, g1, g2, g3⟩ := mo_into fu hO h hD (x := xo u + dx (d : Int)) (y := yo u + dy (d : Int)) (v := t.1 u + 1) (by omega) (by omega) (by omega) (by omega) (by omega) (by omega)
    rw [← ho.2.2.2.2] at g2
    rw [g1]
    refine ⟨mem2, rfl, ?_, g3⟩
    cases hq : O (nbr u d) with
    | true =>
      rw [hq, if_pos rfl] at g2
      rw [if_neg (by decide)]
      exact g2
    | false =>
      rw [hq, if_neg (by decide)] at g2
      rw [if_pos (by decide)]
      exact g2
theorem mo_ga (fu : Nat) (hfu : 1000 ≤ fu) {O : Nat → Bool} {Jk : Nat → Int} {o : Nat} (hO : OKo O Jk o) {mem : Mem} {s : Nat → Int} {t : BS} {u : Nat} (hS : MS mem s) (hz : szO s) (hW : wlO s) (h : BMo O Jk o mem t) (hD : DJ O t) (hu : u < 81) (hOu : O u = false) (hc : isCl s (xo u) (yo u) = true) (hF : 0 ≤ t.1 u ∧ t.1 u ≤ 100) : ∃ mem2, K_X12_goesAround fu (zi (u : Int)) mem = some mem2 ∧ BMo O Jk o mem2 (bar (opo s O) nbr t u) ∧ Fr PB mem mem2 := by
  obtain ⟨f, rfl⟩ : ∃ f, fu = f + 5 := ⟨fu - 5, by omega⟩
  have hne : t.1 u ≠ -1 := by omega
  have keep : ∀ (t2 : BS) (d : Nat), t2.1 u = t.1 u → (bnb (opo s O) nbr t2 u d).1 u = t.1 u := fun t2 d e => by rw [bnb_ne (by rw [e]; exact hne), e]
  have k1 := keep t 0 rfl
  have k2 := keep _ 1 k1
  have k3 := keep _ 2 k2
  obtain ⟨m1, a1, b1, c1⟩ := mo_ga1 (f + 5) (f + 4) hO hS hz hW h hD hu hOu hc hF (d := 0) (by decide)
  obtain ⟨m2, a2, b2, c2⟩ := mo_ga1 (f + 5) (f + 3) hO (MS_fr c1 PB_2 hS) hz hW b1 (DJ_bnb hD) hu hOu hc (by rw [k1]; exact hF) (d := 1) (by decide)
  have s2 := Fr_tr c1 c2
  obtain ⟨m3, a3, b3, c3⟩ := mo_ga1 (f + 5) (f + 2) hO (MS_fr s2 PB_2 hS) hz hW b2 (DJ_bnb (DJ_bnb hD)) hu hOu hc (by rw [k2]; exact hF) (d := 2) (by decide)
  have s3 := Fr_tr s2 c3
  obtain ⟨m4, a4, b4, c4⟩ := mo_ga1 (f + 5) (f + 1) hO (MS_fr s3 PB_2 hS) hz hW b3 (DJ_bnb (DJ_bnb (DJ_bnb hD))) hu hOu hc (by rw [k3]; exact hF) (d := 3) (by decide)
  refine ⟨m4, ?_, b4, Fr_tr s3 c4⟩
  have ex : (u : Int) - (u : Int) / 9 * 9 = xo u := by unfold xo; omega
  have ey : (u : Int) / 9 = yo u := by unfold yo; omega
  unfold K_X12_goesAround
  simp (disch := omega) only [zi_lit, zl_lit, zi_add, zi_sub, zi_mul, zi_neg, zi_lt, zi_inj, zi_clamp, zl_of, gi_zi, bd_s, ltf, bi_0, bi_1, gb_bi, Int.reduceToNat, Int.reduceNeg, Int.toNat_natCast, zi_div]
  rw [ex, ey]
  rw [show zi (0 : Int) = zi ((0 : Nat) : Int) from rfl, a1, a2, a3, a4, K_X12_goesAround_13]
  rfl
theorem bar_q {s : Nat → Int} (hz : szO s) {O : Nat → Bool} {S : Nat → Prop} {t : BS} {i : Nat} (hI : BI (opo s O) nbr S t i) {u : Nat} (hu : u < 81) (hF : t.1 u ≠ -1) : t.2.2 ≤ (bar (opo s O) nbr t u).2.2 ∧ ∀ k, k < t.2.2 → (bar (opo s O) nbr t u).2.1 k = t.2.1 k := by
  have h := (BE_bar (g := opo s O) (nb := nbr) (S := S) (t := t) (u := u) (hI.2.2.2.1 u hF) (hI.2.2.2.2.2.2.2.1 u hu hF) (fun d hd hg => opo_hg hz O u d hu hd hg)).1
  exact ⟨h.2.2.1, h.2.2.2.1⟩
/-- does a pawn come to its side without a cell -/
theorem m_cw55 (fu : Nat) (hfu : 1000 ≤ fu) {s : Nat → Int} (hz : szO s) (hW : wlO s) {O : Nat → Bool} {Jk : Nat → Int} (hO : OKo O Jk 0) {S : Nat → Prop} {p : Nat} (hp4 : p < 4) (hside : 0 ≤ pg s p 2 ∧ pg s p 2 ≤ 3) : ∀ (r n i : Nat) (mem : Mem) (t : BS) (cf : Bool), i + r = 81 → r < n → MS mem s → BMo O Jk 0 mem t → DJ O t → CL s t → BI (opo s O) nbr S t i → (cf = true ↔ ∃ j, j < i ∧ Sd s (pg s p 2) (t.2.1 j)) → ∃ mem2 t2 cf2, K_X12_comesWithout_55 fu n (zi (p : Int)) (zi (bi cf)) (zi (i : Int)) mem = some (zi (bi cf2), mem2) ∧ BI (opo s O) nbr S t2 t2.2.2 ∧ (cf2 = true ↔ ∃ j, j < t2.2.2 ∧ Sd s (pg s p 2) (t2.2.1 j)) ∧ Fr PB mem mem2 := by
  have fin : ∀ (n i : Nat) (mem : Mem) (t : BS) (cf : Bool), MS mem s → BMo O Jk 0 mem t → BI (opo s O) nbr S t i → ¬ i < t.2.2 → i ≤ 81 → (cf = true ↔ ∃ j, j < i ∧ Sd s (pg s p 2) (t.2.1 j)) → ∃ mem2 t2 cf2, K_X12_comesWithout_55 fu (n + 1) (zi (p : Int)) (zi (bi cf)) (zi (i : Int)) mem = some (zi (bi cf2), mem2) ∧ BI (opo s O) nbr S t2 t2.2.2 ∧ (cf2 = true ↔ ∃ j, j < t2.2.2 ∧ Sd s (pg s p 2) (t2.2.1 j)) ∧ Fr PB mem mem2 := fun n i mem t cf hS hB hI hlt hi hcf => by
    have hi2 : i ≤ t.2.2 := hI.2.2.2.2.2.2.2.2.2.1
    have e : i = t.2.2 := by omega
    have q3 := hB.2.2.1
    rw [Nat.zero_add] at q3
    rw [K_X12_comesWithout_55]
    simp (disch := omega) only [zi_lit, zl_lit, zi_add, zi_sub, zi_mul, zi_neg, zi_lt, zi_inj, zi_clamp, zl_of, gi_zi, bd_s, ltf, bi_0, bi_1, gb_bi, Int.reduceToNat, Int.reduceNeg, Int.toNat_natCast, q3]
    rw [if_neg (by omega)]
    exact ⟨mem, t, cf, rfl, by rw [← e]; exact hI, by rw [← e]; exact hcf, Fr_rf PB mem⟩
  intro r
  induction r with
  | zero =>
    intro n i mem t cf hi hn hS hB hD hcl hI hcf
    obtain ⟨n, rfl⟩ : ∃ f, n = f + 1 := ⟨n - 1, by omega⟩
    have hq : t.2.2 ≤ 81 := by rw [hI.2.2.1]; exact cnt_le _ _
    exact fin n i mem t cf hS hB hI (by omega) (by omega) hcf
  | succ r ih =>
    intro n i mem t cf hi hn hS hB hD hcl hI hcf
    obtain ⟨n, rfl⟩ : ∃ f, n = f + 1 := ⟨n - 1, by omega⟩
    by_cases c1 : i < t.2.2
    · have hu := hI.1 i c1
      have hul := hu.1
      have hxy := xy_lt hul
      have hu0 := hI.2.2.2.1 _ hu.2
      have hu1 := hI.2.2.2.2.2.2.2.2.2.2 i c1
      have hq : t.2.2 ≤ 81 := by rw [hI.2.2.1]; exact cnt_le _ _
      have q3 := hB.2.2.1
      have q2 := hB.2.1 i c1
      rw [Nat.zero_add] at q3 q2
      have hOu : O (t.2.1 i) = false := by
        cases h : O (t.2.1 i) with
        | false => rfl
        | true => exact absurd (hD _ h) hu.2
      have hcl2 := hcl _ hul hu.2
      obtain ⟨m2, a1, a2, a3⟩ := mo_ga fu hfu hO hS hz hW hB hD hul hOu hcl2 ⟨hu0, by omega⟩
      obtain ⟨z1, z2⟩ := bar_q hz hI hul hu.2
      have go : ∀ cf2 : Bool, (cf2 = true ↔ ∃ j, j < i + 1 ∧ Sd s (pg s p 2) (t.2.1 j)) → ∃ mem2 t2 cf3, K_X12_comesWithout_106 fu (K_X12_comesWithout_55 fu n) (zi (p : Int)) (zi (i : Int)) (zi (bi cf2)) mem = some (zi (bi cf3), mem2) ∧ BI (opo s O) nbr S t2 t2.2.2 ∧ (cf3 = true ↔ ∃ j, j < t2.2.2 ∧ Sd s (pg s p 2) (t2.2.1 j)) ∧ Fr PB mem mem2 := fun cf2 h2 => by
        unfold K_X12_comesWithout_106
        simp (disch := omega) only [zi_lit, zl_lit, zi_add, zi_sub, zi_mul, zi_neg, zi_lt, zi_inj, zi_clamp, zl_of, gi_zi, bd_s, ltf, bi_0, bi_1, gb_bi, Int.reduceToNat, Int.reduceNeg, Int.toNat_natCast, q2, a1]
        obtain ⟨m3, t3, cf3, b1, b2, b3, b4⟩ := ih n (i + 1) m2 _ cf2 (by omega) (by omega) (MS_fr a3 PB_2 hS) a2 (DJ_bar hD) (CL_bar hz hul hcl) (BI_step (opo_hg hz O) hI c1) (by
          rw [h2]
          constructor
          · rintro ⟨j, j1, j2⟩
            exact ⟨j, j1, by rw [z2 j (by omega)]; exact j2⟩
          · rintro ⟨j, j1, j2⟩
            exact ⟨j, j1, by rw [z2 j (by omega)] at j2; exact j2⟩)
        exact ⟨m3, t3, cf3, b1, b2, b3, Fr_tr a3 b4⟩
      have ex : (t.2.1 i : Int) - (t.2.1 i : Int) / 9 * 9 = xo (t.2.1 i) := by unfold xo; omega
      have ey : (t.2.1 i : Int) / 9 = yo (t.2.1 i) := by unfold yo; omega
      rw [K_X12_comesWithout_55]
      unfold K_X12_comesWithout_101
      simp (disch := omega) only [zi_lit, zl_lit, zi_add, zi_sub, zi_mul, zi_neg, zi_lt, zi_inj, zi_clamp, zl_of, gi_zi, bd_s, ltf, bi_0, bi_1, gb_bi, Int.reduceToNat, Int.reduceNeg, Int.toNat_natCast, zi_div, q3, q2, k_of fu hS]
      rw [if_pos (by omega), ex, ey]
      simp (disch := omega) only [zi_lit, zl_lit, zi_add, zi_sub, zi_mul, zi_neg, zi_lt, zi_inj, zi_clamp, zl_of, gi_zi, bd_s, ltf, bi_0, bi_1, gb_bi, Int.reduceToNat, Int.reduceNeg, Int.toNat_natCast, k_isAtSide fu hS hz]
      cases cf with
      | true =>
        rw [if_neg (by decide)]
        refine go true ⟨fun _ => ?_, fun _ => rfl⟩
        obtain ⟨j, j1, j2⟩ := hcf.mp rfl
        exact ⟨j, by omega, j2⟩
      | false =>
        rw [if_pos rfl]
        have hno : ∀ j, j < i → ¬ Sd s (pg s p 2) (t.2.1 j) := fun j h1 h2 => by
          have := hcf.mpr ⟨j, h1, h2⟩
          cases this
        cases hat : atS s (xo (t.2.1 i)) (yo (t.2.1 i)) (pg s p 2) with
        | true =>
          rw [if_neg (by decide)]
          exact go true ⟨fun _ => ⟨i, by omega, hul, hcl2, hat⟩, fun _ => rfl⟩
        | false =>
          rw [if_pos rfl]
          refine go false ⟨fun h => Bool.noConfusion h, fun ⟨j, j1, j2⟩ => ?_⟩
          by_cases e : j = i
          · rw [e] at j2
            have := j2.2.2
            rw [hat] at this
            cases this
          · exact absurd j2 (hno j (by omega))
    · exact fin n i mem t cf hS hB hI c1 (by omega) hcf
def avB (a : Nat) : Nat → Bool := fun c => decide (c = a)
theorem m_cw7 (fu : Nat) (hfu : 1000 ≤ fu) {s : Nat → Int} (hz : szO s) (hW : wlO s) {p : Nat} (hp4 : p < 4) (hpn : pnO s p) {a : Nat} (ha : a < 81) (hne : celN s p ≠ a) : ∀ (r n k : Nat) (mem : Mem), k + r = 81 → r < n → MS mem s → rd mem 0 22 = zi 0 → (∀ c, c < k → rd mem 7 c = zi (-1)) → ∃ mem2 t2 cf2, K_X12_comesWithout_7 fu n (zi (p : Int)) (zi (a : Int)) (zi (k : Int)) mem = some (zi (bi cf2), mem2) ∧ BI (opo s (avB a)) nbr (fun b => b = celN s p) t2 t2.2.2 ∧ (cf2 = true ↔ ∃ j, j < t2.2.2 ∧ Sd s (pg s p 2) (t2.2.1 j)) ∧ Fr PB mem mem2 := by
  have hce := cel_lt hz hpn
  have hxy := cl_nat hz hpn.1
  intro r
  induction r with
  | zero =>
    intro n k mem hk hn hS h22 h7
    obtain ⟨n, rfl⟩ : ∃ f, n = f + 1 := ⟨n - 1, by omega⟩
    have f1 : Fr PB mem (mw mem 7 a (zi 0)) := Fr_mw _ _ rfl
    have hS1 := MS_fr f1 PB_2 hS
    have hO : OKo (avB a) (fun _ => 0) 0 := ⟨fun _ _ => ⟨Int.le_refl 0, (by decide : (0 : Int) ≤ 200)⟩, Nat.zero_le _⟩
    have hB1 : BMo (avB a) (fun _ => 0) 0 (mw mem 7 a (zi 0)) (fun _ => -1, fun _ => 0, 0) := by
      refine ⟨fun c hc => ?_, fun k hk => absurd hk (Nat.not_lt_zero k), ?_, fun c => ⟨Int.le_refl _, (by decide : (-1 : Int) ≤ 200)⟩, (cnt_none 81).symm⟩
      · rw [rd_mw]
        unfold avB
        by_cases q : c = a
        · rw [if_pos ⟨rfl, q⟩, if_pos (decide_eq_true q)]
        · rw [if_neg (fun h => q h.2), if_neg (by rw [decide_eq_false q]; decide)]
          exact h7 c (by omega)
      · rw [rd_mw, if_neg (fun h => absurd h.1 (by decide)), h22]
        rfl
    have hD1 : DJ (avB a) (fun _ => -1, fun _ => 0, 0) := fun c _ => rfl
    obtain ⟨m2, a1, a2, a3⟩ := mo_into fu hO hB1 hD1 (x := pg s p 0) (y := pg s p 1) (v := 0) (by omega) (by omega) (by omega) (by omega) (by omega) (by omega)
    have ec : (9 * pg s p 1 + pg s p 0).toNat = celN s p := rfl
    have eO : avB a (celN s p) = false := decide_eq_false hne
    rw [ec, eO, if_neg (by decide)] at a2
    have hSI := SI_push (S := fun b => b = celN s p) (SI_0 (fun b => b = celN s p) (fun _ => 0)) hce.1 rfl
    have hBI := SI_BI (g := opo s (avB a)) (nb := nbr) hSI (fun c hc => by
      rw [show c = celN s p from hc]
      exact bpush_self _ _ (by decide))
    obtain ⟨m3, t3, cf3, b1, b2, b3, b4⟩ := m_cw55 fu hfu hz hW hO hp4 hpn.2.1 81 fu 0 m2 _ false (by omega) (by omega) (MS_fr a3 PB_2 hS1) a2 (fun c hc => by
      have e : c = a := of_decide_eq_true hc
      by_cases q : (bpush (fun _ => -1, fun _ => 0, 0) (celN s p) 0).1 c = -1
      · exact q
      · have := (hSI.2.2.2 c q).2
        exact absurd (this.symm.trans e) hne) (fun c hc hF => by
      have := (hSI.2.2.2 c hF).2
      rw [show c = celN s p from this, hce.2.1, hce.2.2]
      exact hpn.1) hBI ⟨fun h => Bool.noConfusion h, fun ⟨j, h, _⟩ => absurd h (Nat.not_lt_zero j)⟩
    refine ⟨m3, t3, cf3, ?_, b2, b3, Fr_tr (Fr_tr f1 a3) b4⟩
    rw [K_X12_comesWithout_7]
    simp (disch := omega) only [zi_lit, zl_lit, zi_add, zi_sub, zi_mul, zi_neg, zi_lt, zi_inj, zi_clamp, zl_of, gi_zi, bd_s, ltf, bi_0, bi_1, gb_bi, Int.reduceToNat, Int.reduceNeg, Int.toNat_natCast, k_of fu hS1, a1]
    rw [if_neg (by omega)]
    exact b1
  | succ r ih =>
    intro n k mem hk hn hS h22 h7
    obtain ⟨n, rfl⟩ : ∃ f, n = f + 1 := ⟨n - 1, by omega⟩
    have f1 : Fr PB mem (mw mem 7 k (zi (-1))) := Fr_mw _ _ rfl
    obtain ⟨m3, t3, cf3, b1, b2, b3, b4⟩ := ih n (k + 1) (mw mem 7 k (zi (-1))) (by omega) (by omega) (MS_fr f1 PB_2 hS) (by rw [rd_mw, if_neg (fun h => absurd h.1 (by decide))]; exact h22) (fun c hc => by
      rw [rd_mw]
      by_cases q : c = k
      · rw [if_pos ⟨rfl, q⟩]
      · rw [if_neg (fun h => q h.2)]
        exact h7 c (by omega))
    refine ⟨m3, t3, cf3, ?_, b2, b3, Fr_tr f1 b4⟩
    rw [K_X12_comesWithout_7]
    simp (disch := omega) only [zi_lit, zl_lit, zi_add, zi_sub, zi_mul, zi_neg, zi_lt, zi_inj, zi_clamp, zl_of, gi_zi, bd_s, ltf, bi_0, bi_1, gb_bi, Int.reduceToNat, Int.reduceNeg, Int.toNat_natCast]
    rw [if_pos (by omega)]
    exact b1
/-- the ways round a cell, from either end -/
def g2a (s : Nat → Int) (a : Nat) (u d : Nat) : Bool := op s u d && (decide (u ≠ a) && decide (nbr u d ≠ a))
theorem g2a_iff {s : Nat → Int} {a u d : Nat} : g2a s a u d = true ↔ op s u d = true ∧ u ≠ a ∧ nbr u d ≠ a := by
  unfold g2a
  rw [Bool.and_eq_true, Bool.and_eq_true, decide_eq_true_iff, decide_eq_true_iff]
theorem Pth_av {s : Nat → Int} {g : Nat → Nat → Bool} {a b : Nat} (hg : ∀ u d, g u d = true → op s u d = true ∧ nbr u d ≠ a) (hb : b ≠ a) : ∀ {n c : Nat}, Pth g nbr (fun v => v = b) n c → c ≠ a ∧ Pth (g2a s a) nbr (fun v => v = b) n c := by
  intro n
  induction n with
  | zero =>
    intro c h
    exact ⟨by rw [show c = b from h]; exact hb, h⟩
  | succ n ih =>
    rintro c ⟨u, d, hd, hp, hgd, rfl⟩
    obtain ⟨h1, h2⟩ := ih hp
    obtain ⟨h3, h4⟩ := hg u d hgd
    exact ⟨h4, u, d, hd, h2, g2a_iff.mpr ⟨h3, h1, h4⟩, rfl⟩
theorem g2a_sym {s : Nat → Int} (hz : szO s) (a : Nat) : ∀ u d, d < 4 → g2a s a u d = true → ∃ e, e < 4 ∧ g2a s a (nbr u d) e = true ∧ nbr (nbr u d) e = u := fun u d hd h => by
  obtain ⟨h1, h2, h3⟩ := g2a_iff.mp h
  obtain ⟨k1, k2⟩ := op_sym hz hd h1
  exact ⟨opp d, opp_lt d, g2a_iff.mpr ⟨k1, h3, by rw [k2]; exact h2⟩, k2⟩
theorem gt_eq {s : Nat → Int} (hz : szO s) {side : Int} {a c0 : Nat} (hne : c0 ≠ a) : (∃ n, Pth (opa s a) nbr (Sda s side a) n c0) ↔ ∃ v n, Sd s side v ∧ Pth (opo s (avB a)) nbr (fun b => b = c0) n v := by
  constructor
  · rintro ⟨n, h⟩
    obtain ⟨b, h1, h2⟩ := Pth_split h
    have hb : b ≠ a := fun e => h1.2 (by rw [e])
    obtain ⟨-, h3⟩ := Pth_av (s := s) (a := a) (fun u d hg => by
      unfold opa at hg
      rw [Bool.and_eq_true, decide_eq_true_iff] at hg
      exact ⟨hg.1, fun e => hg.2 (by rw [e])⟩) hb h2
    have h4 := Pth_rev (g2a_sym hz a) h3
    exact ⟨b, n, h1.1, Pth_mono (fun u d hg => by
      obtain ⟨k1, k2, k3⟩ := g2a_iff.mp hg
      unfold opo avB
      rw [k1, decide_eq_false k3]
      rfl) (fun _ h => h) h4⟩
  · rintro ⟨v, n, h1, h2⟩
    obtain ⟨h0, h3⟩ := Pth_av (s := s) (a := a) (fun u d hg => by
      obtain ⟨k1, k2⟩ := opo_op hg
      exact ⟨k1, of_decide_eq_false k2⟩) hne h2
    have h4 := Pth_rev (g2a_sym hz a) h3
    exact ⟨n, Pth_mono (fun u d hg => by
      obtain ⟨k1, k2, k3⟩ := g2a_iff.mp hg
      unfold opa
      rw [k1, decide_eq_true (by omega)]
      rfl) (fun b hb => by
      rw [show b = v from hb]
      exact ⟨h1, by omega⟩) h4⟩
/-- is a cell a gate -/
noncomputable def gtB (s : Nat → Int) (p : Int) (c : Nat) : Bool := decide (pg s p 6 = 0) && (decide (c ≠ celN s p) && (isCl s (xo c) (yo c) && decide (dlt (opa s c) nbr (Sda s (pg s p 2) c) (celN s p) = -1)))
theorem c_closesAt (fu w r : Nat) (hfu : 1000 ≤ fu) (hw : w ≤ 1) {s : Nat → Int} (hz : szO s) (hc : cnO s) (hp : pasO s) {mem : Mem} (hR : RC mem r s) {k : Nat} (hks : (k : Int) < s 2) {c : Nat} (hc81 : c < 81) : ∃ mem2, K_X10_closesAt fu w r r k (zi (c : Int)) mem = some (zi (bi (gtB s k c)), mem2) ∧ Fr (PC w) mem mem2 := by
  have c1 := hc.1
  have c4 := hc.2.2.2.1
  have c5 := hc.2.2.2.2.1
  have hpk := hp k (by omega) hks
  have hRP := hR.2.2.1 k (by omega) hks
  have hxy := cl_nat hz hpk.1
  have hcl := cel_lt hz hpk
  have hxc := xy_lt hc81
  have h6 := hpk.2.2.2.2.2.1
  have e3 : 9 * pg s k 1 + pg s k 0 = (celN s k : Int) := by
    unfold celN
    omega
  have hcl1 := hcl.1
  obtain ⟨m1, t, i2, a1, a2, a3, a4, a5⟩ := c_spread fu w r hfu hw hR.1 hz (side := pg s k 2) (a := (c : Int)) (tgt := (celN s k : Int)) hpk.2.1.1 hpk.2.1.2 (by omega) (by omega) (by omega) (by omega)
  rw [if_pos (by omega), Int.toNat_natCast] at a1
  have r0 := hRP.1
  rw [e3] at r0
  have ex : (c : Int) - (c : Int) / 9 * 9 = xo c := by unfold xo; omega
  have ey : (c : Int) / 9 = yo c := by unfold yo; omega
  have hb : -1 ≤ dlt (opa s c) nbr (Sda s (pg s k 2) c) (celN s k) ∧ dlt (opa s c) nbr (Sda s (pg s k 2) c) (celN s k) ≤ 200 := by
    have h9 := a2.2.2.2.1 (celN s k)
    have e9 : t.1 (celN s k) = dlt (opa s c) nbr (Sda s (pg s k 2) c) (celN s k) := by
      rcases a4 with b4 | ⟨b4, b6⟩
      · rw [b4] at a3
        exact BI_all Sda_lt (opa_hg hz c) a3 hcl.1
      · refine BI_ex Sda_lt (opa_hg hz c) a3 hcl.1 ?_
        rw [show celN s k = t.2.1 i2 by omega]
        exact (a3.1 i2 b4).2
    rw [← e9]
    exact h9
  unfold K_X10_closesAt gtB
  simp (disch := omega) only [zi_lit, zl_lit, zi_add, zi_sub, zi_mul, zi_neg, zi_lt, zi_inj, zi_clamp, zl_of, gi_zi, bd_s, ltf, bi_0, bi_1, gb_bi, Int.reduceToNat, Int.reduceNeg, Int.toNat_natCast, zi_div, hRP.2.2.2.2.2, r0, hRP.2.1]
  rw [ex, ey]
  simp (disch := omega) only [zi_lit, zl_lit, zi_add, zi_sub, zi_mul, zi_neg, zi_lt, zi_inj, zi_clamp, zl_of, gi_zi, bd_s, ltf, bi_0, bi_1, gb_bi, Int.reduceToNat, Int.reduceNeg, Int.toNat_natCast, c_hasCell fu r hR.1 hz, a1]
  by_cases q1 : pg s k 6 = 0
  · rw [if_pos q1, decide_eq_true q1, Bool.true_and]
    by_cases q2 : (c : Int) = (celN s k : Int)
    · rw [if_pos q2, decide_eq_false (by omega), Bool.false_and]
      exact ⟨mem, rfl, Fr_rf _ mem⟩
    · rw [if_neg q2, decide_eq_true (by omega), Bool.true_and]
      cases q3 : isCl s (xo c) (yo c) with
      | false =>
        rw [if_pos rfl, Bool.false_and]
        exact ⟨mem, rfl, Fr_rf _ mem⟩
      | true =>
        rw [if_neg (by decide), Bool.true_and]
        refine ⟨m1, ?_, a5⟩
        by_cases q4 : dlt (opa s c) nbr (Sda s (pg s k 2) c) (celN s k) = -1
        · rw [if_pos q4, decide_eq_true q4]
          rfl
        · rw [if_neg q4, decide_eq_false q4]
          rfl
  · rw [if_neg q1, decide_eq_false q1, Bool.false_and]
    exact ⟨mem, rfl, Fr_rf _ mem⟩
theorem c_cg5 (fu w r : Nat) (hfu : 1000 ≤ fu) (hw : w ≤ 1) {s : Nat → Int} (hz : szO s) (hc : cnO s) (hp : pasO s) {k : Nat} (hks : (k : Int) < s 2) : ∀ (q n c : Nat) (mem : Mem), c + q = 81 → q < n → RC mem r s → ∃ mem2, K_X10_countGates_5 fu w r r k n (zi (cnB (gtB s k) c : Int)) (zi (c : Int)) mem = some (zi (cnB (gtB s k) 81 : Int), mem2) ∧ Fr (PC w) mem mem2 := by
  intro q
  induction q with
  | zero =>
    intro n c mem hcq hn hR
    obtain ⟨n, rfl⟩ : ∃ f, n = f + 1 := ⟨n - 1, by omega⟩
    obtain rfl : c = 81 := by omega
    rw [K_X10_countGates_5]
    simp (disch := omega) only [zi_lit, zl_lit, zi_add, zi_sub, zi_mul, zi_neg, zi_lt, zi_inj, zi_clamp, zl_of, gi_zi, bd_s, ltf, bi_0, bi_1, gb_bi, Int.reduceToNat, Int.reduceNeg, Int.toNat_natCast]
    rw [if_neg (by decide)]
    exact ⟨mem, rfl, Fr_rf _ mem⟩
  | succ q ih =>
    intro n c mem hcq hn hR
    obtain ⟨n, rfl⟩ : ∃ f, n = f + 1 := ⟨n - 1, by omega⟩
    obtain ⟨m1, a1, a2⟩ := c_closesAt fu w r hfu hw hz hc hp hR hks (c := c) (by omega)
    obtain ⟨m2, b1, b2⟩ := ih n (c + 1) m1 (by omega) (by omega) (RC_fr a2 (PC_35 hw) hR)
    rw [cnB] at b1
    rw [K_X10_countGates_5]
    simp (disch := omega) only [zi_lit, zl_lit, zi_add, zi_sub, zi_mul, zi_neg, zi_lt, zi_inj, zi_clamp, zl_of, gi_zi, bd_s, ltf, bi_0, bi_1, gb_bi, Int.reduceToNat, Int.reduceNeg, Int.toNat_natCast, a1]
    rw [if_pos (by omega)]
    refine ⟨m2, ?_, Fr_tr a2 b2⟩
    cases q1 : gtB s k c with
    | true =>
      rw [q1, if_pos rfl] at b1
      rw [if_neg (by decide)]
      exact b1
    | false =>
      rw [q1, if_neg (by decide), Nat.add_zero] at b1
      rw [if_pos rfl]
      exact b1
theorem c_countGates (fu w r : Nat) (hfu : 1000 ≤ fu) (hw : w ≤ 1) {s : Nat → Int} (hz : szO s) (hc : cnO s) (hp : pasO s) {k : Nat} (hks : (k : Int) < s 2) {mem : Mem} (hR : RC mem r s) : ∃ mem2, K_X10_countGates fu w r r k mem = some (zi (cnB (gtB s k) 81 : Int), mem2) ∧ Fr (PC w) mem mem2 := c_cg5 fu w r hfu hw hz hc hp hks 81 fu 0 mem (by omega) (by omega) hR
theorem m_isGateOf (fu : Nat) (hfu : 1000 ≤ fu) {mem : Mem} {s : Nat → Int} (hS : MS mem s) (hz : szO s) (hW : wlO s) (hc : cnO s) {p : Nat} (hps : (p : Int) < s 2) (hpn : pnO s p) {x y : Int} (hxy : isCl s x y = true) : ∃ mem2, K_X12_isGateOf fu (zi (p : Int)) (zi x) (zi y) mem = some (zi (bi (gtB s p (9 * y + x).toNat)), mem2) ∧ Fr PB mem mem2 := by
  have c1 := hc.1
  have c4 := hc.2.2.2.1
  have c5 := hc.2.2.2.2.1
  have h6 := hpn.2.2.2.2.2.1
  have hq := cl_nat hz hxy
  have hcl := cel_lt hz hpn
  have hxp := cl_nat hz hpn.1
  have e3 : 9 * pg s p 1 + pg s p 0 = (celN s p : Int) := by
    unfold celN
    omega
  obtain ⟨c, hcd⟩ : ∃ c : Nat, c = (9 * y + x).toNat := ⟨_, rfl⟩
  have e4 : 9 * y + x = (c : Int) := by omega
  rw [← hcd] at hq ⊢
  have hc81 := hq.2.2.2.2.1
  have hcl1 := hcl.1
  unfold K_X12_isGateOf K_X12_comesWithout gtB
  rw [hq.2.2.2.2.2.1, hq.2.2.2.2.2.2, hxy]
  simp (disch := omega) only [zi_lit, zl_lit, zi_add, zi_sub, zi_mul, zi_neg, zi_lt, zi_inj, zi_clamp, zl_of, gi_zi, bd_s, ltf, bi_0, bi_1, gb_bi, Int.reduceToNat, Int.reduceNeg, Int.toNat_natCast, k_fin fu hS, k_cellOf fu hS, e3, e4]
  by_cases q1 : pg s p 6 = 0
  · rw [if_pos (decide_eq_false (by omega)), decide_eq_true q1, Bool.true_and]
    by_cases q2 : (c : Int) = (celN s p : Int)
    · rw [if_pos q2, decide_eq_false (by omega), Bool.false_and]
      exact ⟨mem, rfl, Fr_rf _ mem⟩
    · rw [if_neg q2, decide_eq_true (by omega), Bool.true_and, Bool.true_and]
      have f1 : Fr PB mem (mw mem 0 22 (zi 0)) := Fr_mw _ _ rfl
      have hne : celN s p ≠ c := by omega
      obtain ⟨m3, t3, cf3, b1, b2, b3, b4⟩ := m_cw7 fu hfu hz hW (by omega) hpn hc81 hne 81 fu 0 (mw mem 0 22 (zi 0)) (by omega) (by omega) (MS_fr f1 PB_2 hS) (by rw [rd_mw, if_pos ⟨rfl, rfl⟩]) (fun c h => absurd h (Nat.not_lt_zero c))
      have b1' : K_X12_comesWithout_7 fu fu (zi (p : Int)) (zi (c : Int)) (zi 0) (mw mem 0 22 (zi 0)) = some (zi (bi cf3), m3) := b1
      rw [b1']
      simp only [zi_lit, zl_lit, zi_add, zi_sub, zi_mul, zi_neg, zi_lt, zi_inj, zi_clamp, zl_of, gi_zi, bd_s, ltf, bi_0, bi_1, gb_bi, Int.reduceToNat, Int.reduceNeg, Int.toNat_natCast]
      refine ⟨m3, ?_, Fr_tr f1 b4⟩
      have key : cf3 = true ↔ ¬ dlt (opa s c) nbr (Sda s (pg s p 2) c) (celN s p) = -1 := by
        have e := dlt_nn (g := opa s c) (nb := nbr) (S := Sda s (pg s p 2) c) (c := celN s p)
        rw [b3]
        refine Iff.trans ?_ e.symm
        refine Iff.trans ?_ (gt_eq hz hne).symm
        constructor
        · rintro ⟨j, j1, j2⟩
          have h8 := b2.2.2.2.2.2.2.2.1 _ (b2.1 j j1).1 (b2.1 j j1).2
          exact ⟨_, _, j2, h8⟩
        · rintro ⟨v, n, j1, j2⟩
          have h9 := BI_all (S := fun b => b = celN s p) (fun c hc => by rw [show c = celN s p from hc]; exact hcl1) (opo_hg hz (avB c)) b2 j1.1
          have h10 : t3.1 v ≠ -1 := by
            rw [h9]
            exact dlt_nn.mpr ⟨n, j2⟩
          obtain ⟨j, k1, k2⟩ := b2.2.1 v j1.1 h10
          exact ⟨j, k1, by rw [k2]; exact j1⟩
      cases cf3 with
      | true =>
        rw [if_neg (by decide), decide_eq_false (key.mp rfl)]
        rfl
      | false =>
        rw [if_pos rfl]
        by_cases q4 : dlt (opa s c) nbr (Sda s (pg s p 2) c) (celN s p) = -1
        · rw [decide_eq_true q4]
          rfl
        · have := key.mpr q4
          cases this
  · rw [if_neg (by rw [decide_eq_true (by omega)]; decide), decide_eq_false q1, Bool.false_and]
    exact ⟨mem, rfl, Fr_rf _ mem⟩
/-- beyond the board nothing counts -/
theorem cnB_gap {P : Nat → Bool} {a b : Nat} (hab : a ≤ b) (h : ∀ k, a ≤ k → k < b → P k = false) : cnB P b = cnB P a := by
  obtain ⟨r, rfl⟩ : ∃ r, b = a + r := ⟨b - a, by omega⟩
  exact cnB_no h
theorem gt_cl {s : Nat → Int} {p : Int} {c : Nat} (h : isCl s (xo c) (yo c) = false) : gtB s p c = false := by
  unfold gtB
  rw [h, Bool.false_and, Bool.and_false, Bool.and_false]
theorem no_cl {s : Nat → Int} (hz : szO s) {y : Int} (hy : 0 ≤ y) {k : Nat} (h1 : (9 * y + s 0).toNat ≤ k) (h2 : k < (9 * (y + 1)).toNat) : isCl s (xo k) (yo k) = false := by
  obtain ⟨⟨w1, w2⟩, w3, w4⟩ := hz
  cases h : isCl s (xo k) (yo k) with
  | false => rfl
  | true =>
    have := isCl_iff.mp h
    unfold xo yo at this
    omega
theorem no_cl2 {s : Nat → Int} (hz : szO s) {k : Nat} (h1 : (9 * s 1).toNat ≤ k) (h2 : k < 81) : isCl s (xo k) (yo k) = false := by
  obtain ⟨⟨w1, w2⟩, w3, w4⟩ := hz
  cases h : isCl s (xo k) (yo k) with
  | false => rfl
  | true =>
    have := isCl_iff.mp h
    unfold xo yo at this
    omega
theorem m_g31 (fu : Nat) (hfu : 1000 ≤ fu) {s : Nat → Int} (hz : szO s) (hW : wlO s) (hc : cnO s) {p : Nat} (hps : (p : Int) < s 2) (hpn : pnO s p) (k18 : Int32 → Int32 → Int32 → Mem → Option (Int32 × Mem)) {y : Int} (hy : 0 ≤ y ∧ y < s 1) : ∀ (q n : Nat) (x : Int) (mem : Mem), x + q = s 0 → q < n → 0 ≤ x → MS mem s → ∃ mem2, K_X12_gates_31 fu k18 n (zi (p : Int)) (zi (cnB (gtB s p) (9 * y + x).toNat : Int)) (zi y) (zi x) mem = k18 (zi (p : Int)) (zi (cnB (gtB s p) (9 * (y + 1)).toNat : Int)) (zi (y + 1)) mem2 ∧ Fr PB mem mem2 := by
  have hz2 := hz
  obtain ⟨⟨w1, w2⟩, w3, w4⟩ := hz2
  intro q
  induction q with
  | zero =>
    intro n x mem hx hn hx0 hS
    obtain ⟨n, rfl⟩ : ∃ f, n = f + 1 := ⟨n - 1, by omega⟩
    rw [K_X12_gates_31]
    simp (disch := omega) only [zi_lit, zl_lit, zi_add, zi_sub, zi_mul, zi_neg, zi_lt, zi_inj, zi_clamp, zl_of, gi_zi, bd_s, ltf, bi_0, bi_1, gb_bi, Int.reduceToNat, Int.reduceNeg, Int.toNat_natCast, hS _]
    rw [if_neg (by omega), cnB_gap (a := (9 * y + x).toNat) (b := (9 * (y + 1)).toNat) (by omega) (fun k h1 h2 => gt_cl (no_cl hz hy.1 (by omega) h2))]
    exact ⟨mem, rfl, Fr_rf _ mem⟩
  | succ q ih =>
    intro n x mem hx hn hx0 hS
    obtain ⟨n, rfl⟩ : ∃ f, n = f + 1 := ⟨n - 1, by omega⟩
    obtain ⟨m1, a1, a2⟩ := m_isGateOf fu hfu hS hz hW hc hps hpn (x := x) (y := y) (isCl_iff.mpr ⟨⟨hx0, by omega⟩, hy.1, by omega⟩)
    obtain ⟨m2, b1, b2⟩ := ih n (x + 1) m1 (by omega) (by omega) (by omega) (MS_fr a2 PB_2 hS)
    rw [show (9 * y + (x + 1)).toNat = (9 * y + x).toNat + 1 by omega, cnB] at b1
    rw [K_X12_gates_31]
    simp (disch := omega) only [zi_lit, zl_lit, zi_add, zi_sub, zi_mul, zi_neg, zi_lt, zi_inj, zi_clamp, zl_of, gi_zi, bd_s, ltf, bi_0, bi_1, gb_bi, Int.reduceToNat, Int.reduceNeg, Int.toNat_natCast, hS _, a1, k_truth]
    rw [if_pos (by omega)]
    refine ⟨m2, ?_, Fr_tr a2 b2⟩
    rw [← b1]
    cases gtB s p (9 * y + x).toNat <;> rfl
theorem m_g18 (fu : Nat) (hfu : 1000 ≤ fu) {s : Nat → Int} (hz : szO s) (hW : wlO s) (hc : cnO s) {p : Nat} (hps : (p : Int) < s 2) (hpn : pnO s p) : ∀ (q n : Nat) (y : Int) (mem : Mem), y + q = s 1 → q < n → 0 ≤ y → MS mem s → ∃ mem2, K_X12_gates_18 fu n (zi (p : Int)) (zi (cnB (gtB s p) (9 * y).toNat : Int)) (zi y) mem = some (zi (cnB (gtB s p) 81 : Int), mem2) ∧ Fr PB mem mem2 := by
  have hz2 := hz
  obtain ⟨⟨w1, w2⟩, w3, w4⟩ := hz2
  intro q
  induction q with
  | zero =>
    intro n y mem hx hn hx0 hS
    obtain ⟨n, rfl⟩ : ∃ f, n = f + 1 := ⟨n - 1, by omega⟩
    rw [K_X12_gates_18]
    simp (disch := omega) only [zi_lit, zl_lit, zi_add, zi_sub, zi_mul, zi_neg, zi_lt, zi_inj, zi_clamp, zl_of, gi_zi, bd_s, ltf, bi_0, bi_1, gb_bi, Int.reduceToNat, Int.reduceNeg, Int.toNat_natCast, hS _]
    rw [if_neg (by omega), cnB_gap (a := (9 * y).toNat) (b := 81) (by omega) (fun k h1 h2 => gt_cl (no_cl2 hz (by omega) h2))]
    exact ⟨mem, rfl, Fr_rf _ mem⟩
  | succ q ih =>
    intro n y mem hx hn hx0 hS
    obtain ⟨n, rfl⟩ : ∃ f, n = f + 1 := ⟨n - 1, by omega⟩
    obtain ⟨m1, a1, a2⟩ := m_g31 fu hfu hz hW hc hps hpn (K_X12_gates_18 fu n) (y := y) ⟨hx0, by omega⟩ (s 0).toNat fu 0 mem (by omega) (by omega) (by omega) hS
    obtain ⟨m2, b1, b2⟩ := ih n (y + 1) m1 (by omega) (by omega) (by omega) (MS_fr a2 PB_2 hS)
    rw [Int.add_zero] at a1
    rw [K_X12_gates_18]
    simp (disch := omega) only [zi_lit, zl_lit, zi_add, zi_sub, zi_mul, zi_neg, zi_lt, zi_inj, zi_clamp, zl_of, gi_zi, bd_s, ltf, bi_0, bi_1, gb_bi, Int.reduceToNat, Int.reduceNeg, Int.toNat_natCast, hS _]
    rw [if_pos (by omega)]
    exact ⟨m2, a1.trans b1, Fr_tr a2 b2⟩
end MASK
