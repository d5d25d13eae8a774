section ONWAYS
theorem cnB_f (n : Nat) : cnB (fun _ => false) n = 0 := by
  induction n with
  | zero => rfl
  | succ n ih => rw [cnB, ih]; rfl
/-- one less -/
theorem cnB_del {P : Nat → Bool} {a : Nat} : ∀ {n : Nat}, a < n → P a = true → cnB P n = cnB (fun c => P c && decide (c ≠ a)) n + 1 := by
  intro n
  induction n with
  | zero => exact fun h _ => absurd h (Nat.not_lt_zero a)
  | succ n ih =>
    intro h hP
    rw [cnB, cnB]
    by_cases e : a = n
    · subst e
      rw [hP, cnB_same (Q := fun c => P c && decide (c ≠ a)) (fun k hk => by
        show P k = (P k && decide (k ≠ a))
        rw [decide_eq_true (by omega), Bool.and_true])]
      simp
    · rw [ih (by omega) hP, decide_eq_true (p := n ≠ a) (fun h => e h.symm), Bool.and_true]
      omega
theorem cnB_cov : ∀ (n : Nat) (Q : Nat → Nat) (P : Nat → Bool) (m : Nat), (∀ c, c < m → P c = true → ∃ k, k < n ∧ Q k = c) → cnB P m ≤ n := by
  intro n
  induction n with
  | zero =>
    intro Q P m h
    have h2 : cnB P m = cnB (fun _ => false) m := cnB_same (fun c hc => by
      cases hP : P c with
      | false => rfl
      | true =>
        obtain ⟨k, h1, -⟩ := h c hc hP
        exact absurd h1 (Nat.not_lt_zero k))
    rw [h2, cnB_f]
    exact Nat.le_refl 0
  | succ n ih =>
    intro Q P m h
    by_cases hQ : Q n < m ∧ P (Q n) = true
    · rw [cnB_del hQ.1 hQ.2]
      have := ih Q (fun c => P c && decide (c ≠ Q n)) m (fun c hc hP => by
        rw [Bool.and_eq_true, decide_eq_true_iff] at hP
        obtain ⟨k, h1, h2⟩ := h c hc hP.1
        refine ⟨k, ?_, h2⟩
        by_cases e : k = n
        · rw [e] at h2
          exact absurd h2.symm hP.2
        · omega)
      omega
    · have := ih Q P m (fun c hc hP => by
        obtain ⟨k, h1, h2⟩ := h c hc hP
        refine ⟨k, ?_, h2⟩
        by_cases e : k = n
        · rw [e] at h2
          rw [h2] at hQ
          exact absurd ⟨hc, hP⟩ hQ
        · omega)
      omega
theorem cnt_cnB (F : Nat → Int) (n : Nat) : cnt F n = cnB (fun c => decide (F c ≠ -1)) n := by
  induction n with
  | zero => rfl
  | succ n ih =>
    rw [cnt, cnB, ih]
    by_cases h : F n = -1
    · rw [if_pos h, if_neg (by rw [decide_eq_false (fun q => q h)]; decide)]
    · rw [if_neg h, if_pos (decide_eq_true h)]
/-- no cell stands twice in the queue -/
theorem BI_inj {g : Nat → Nat → Bool} {nb : Nat → Nat → Nat} {S : Nat → Prop} {t : BS} {i : Nat} (hI : BI g nb S t i) {k j : Nat} (hkj : k < j) (hj : j < t.2.2) : t.2.1 k ≠ t.2.1 j := by
  intro e
  obtain ⟨n, hn⟩ : ∃ n, t.2.2 = n + 1 := ⟨t.2.2 - 1, by omega⟩
  have h := cnB_cov n (fun a => if a = j then t.2.1 n else t.2.1 a) (fun c => decide (t.1 c ≠ -1)) 81 (fun c hc hP => by
    rw [decide_eq_true_iff] at hP
    obtain ⟨a, a1, a2⟩ := hI.2.1 c hc hP
    by_cases q1 : a = j
    · rw [q1, ← e] at a2
      exact ⟨k, by omega, by show (if k = j then _ else _) = c; rw [if_neg (by omega)]; exact a2⟩
    · by_cases q2 : a = n
      · rw [q2] at a2
        exact ⟨j, by omega, by show (if j = j then _ else _) = c; rw [if_pos rfl]; exact a2⟩
      · exact ⟨a, by omega, by show (if a = j then _ else _) = c; rw [if_neg q1]; exact a2⟩)
  rw [← cnt_cnB, ← hI.2.2.1] at h
  omega
/-- the cells of the queue that P takes -/
theorem cnB_q : ∀ (n : Nat) (Q : Nat → Nat) (P : Nat → Bool) (m : Nat), (∀ k, k < n → Q k < m) → (∀ k j, k < j → j < n → Q k ≠ Q j) → (∀ c, c < m → P c = true → ∃ k, k < n ∧ Q k = c) → cnB (fun k => P (Q k)) n = cnB P m := by
  intro n
  induction n with
  | zero =>
    intro Q P m _ _ h
    have := cnB_cov 0 Q P m h
    show 0 = _
    omega
  | succ n ih =>
    intro Q P m h1 h2 h3
    rw [cnB]
    by_cases hP : P (Q n) = true
    · rw [if_pos hP, cnB_del (h1 n (by omega)) hP]
      have e := ih Q (fun c => P c && decide (c ≠ Q n)) m (fun k hk => h1 k (by omega)) (fun k j a b => h2 k j a (by omega)) (fun c hc hPc => by
        rw [Bool.and_eq_true, decide_eq_true_iff] at hPc
        obtain ⟨k, a, b⟩ := h3 c hc hPc.1
        refine ⟨k, ?_, b⟩
        by_cases e : k = n
        · rw [e] at b
          exact absurd b.symm hPc.2
        · omega)
      rw [← e]
      congr 1
      exact cnB_same (fun k hk => by
        show P (Q k) = (P (Q k) && decide (Q k ≠ Q n))
        rw [decide_eq_true (h2 k n hk (by omega)), Bool.and_true])
    · rw [if_neg hP, Nat.add_zero]
      exact ih Q P m (fun k hk => h1 k (by omega)) (fun k j a b => h2 k j a (by omega)) (fun c hc hPc => by
        obtain ⟨k, a, b⟩ := h3 c hc hPc
        refine ⟨k, ?_, b⟩
        by_cases e : k = n
        · rw [e] at b
          rw [b] at hP
          exact absurd hPc hP
        · omega)
/-- the cells on shortest ways from a cell -/
def onR (s : Nat → Int) (side : Int) (c0 : Nat) : Nat → Nat → Prop
  | 0, c => c = c0
  | n + 1, c => ∃ u d, d < 4 ∧ onR s side c0 n u ∧ nrD s side u d = true ∧ nbr u d = c
def onP (s : Nat → Int) (side : Int) (c0 c : Nat) : Prop := ∃ n, onR s side c0 n c
noncomputable def onB (s : Nat → Int) (side : Int) (c0 c : Nat) : Bool := by
  classical
  exact decide (onP s side c0 c)
theorem onB_t {s : Nat → Int} {side : Int} {c0 c : Nat} : onB s side c0 c = true ↔ onP s side c0 c := by
  unfold onB
  simp
noncomputable def onN (s : Nat → Int) (side : Int) (c0 : Nat) : Nat := cnB (onB s side c0) 81
/-- the marks while the queue is walked back: behind i all is done -/
def MKt (s : Nat → Int) (side : Int) (c0 : Nat) (t : BS) (M : Nat → Bool) (i : Nat) : Prop := (M c0 = true) ∧ (∀ c, M c = true → onP s side c0 c) ∧ (∀ k, i ≤ k → k < t.2.2 → M (t.2.1 k) = true → ∀ d, d < 4 → nrD s side (t.2.1 k) d = true → M (nbr (t.2.1 k) d) = true)
theorem on_c81 {s : Nat → Int} (hz : szO s) {side : Int} {c0 : Nat} (h0 : c0 < 81) {c : Nat} (h : onP s side c0 c) : c < 81 := by
  obtain ⟨n, hn⟩ := h
  cases n with
  | zero =>
    have : c = c0 := hn
    omega
  | succ n =>
    obtain ⟨u, d, hd, -, h2, h3⟩ := hn
    unfold nrD at h2
    rw [Bool.and_eq_true] at h2
    rw [← h3]
    exact (op_nb hz (op_lt hz h2.1) hd h2.1).1
theorem on_dl {s : Nat → Int} {side : Int} {c0 : Nat} : ∀ {n c : Nat}, onR s side c0 n c → dl s side c + n = dl s side c0 := by
  intro n
  induction n with
  | zero =>
    intro c h
    rw [show c = c0 from h]
    exact Int.add_zero _
  | succ n ih =>
    rintro c ⟨u, d, hd, h1, h2, rfl⟩
    have := ih h1
    unfold nrD at h2
    rw [Bool.and_eq_true, Bool.and_eq_true, decide_eq_true_iff, decide_eq_true_iff] at h2
    omega
/-- cells on ways are in the queue -/
theorem on_F {s : Nat → Int} (hz : szO s) {side : Int} {t : BS} {i : Nat} (hI : BI (op s) nbr (Sd s side) t i) {c0 : Nat} (h0 : c0 < 81) (hF : t.1 c0 ≠ -1) : ∀ {n c : Nat}, onR s side c0 n c → t.1 c ≠ -1 := by
  intro n
  induction n with
  | zero =>
    intro c h
    rw [show c = c0 from h]
    exact hF
  | succ n ih =>
    rintro c ⟨u, d, hd, h1, h2, rfl⟩
    have hu := ih h1
    have hu81 := on_c81 hz h0 ⟨n, h1⟩
    rw [← nrT_D hz hI hu81 hu hd] at h2
    unfold nrT at h2
    rw [Bool.and_eq_true, Bool.and_eq_true, decide_eq_true_iff, decide_eq_true_iff] at h2
    omega
theorem MKt_fin {s : Nat → Int} (hz : szO s) {side : Int} {t : BS} {i : Nat} (hI : BI (op s) nbr (Sd s side) t i) {c0 : Nat} (h0 : c0 < 81) (hF : t.1 c0 ≠ -1) {M : Nat → Bool} (hM : MKt s side c0 t M 0) : ∀ c, M c = onB s side c0 c := by
  obtain ⟨h1, h2, h3⟩ := hM
  have h4 : ∀ (n c : Nat), onR s side c0 n c → M c = true := by
    intro n
    induction n with
    | zero =>
      intro c h
      rw [show c = c0 from h]
      exact h1
    | succ n ih =>
      rintro c ⟨u, d, hd, g1, g2, rfl⟩
      have hu := on_F hz hI h0 hF g1
      obtain ⟨k, k1, k2⟩ := hI.2.1 u (on_c81 hz h0 ⟨n, g1⟩) hu
      have := h3 k (Nat.zero_le k) k1 (by rw [k2]; exact ih u g1) d hd (by rw [k2]; exact g2)
      rw [k2] at this
      exact this
  intro c
  rw [Bool.eq_iff_iff, onB_t]
  exact ⟨h2 c, fun ⟨n, hn⟩ => h4 n c hn⟩
/-- marks at an entry are final: those behind it have marked it, if anyone does -/
theorem MKt_at {s : Nat → Int} (hz : szO s) {side : Int} {t : BS} {i : Nat} (hI : BI (op s) nbr (Sd s side) t i) {c0 : Nat} (h0 : c0 < 81) (hF : t.1 c0 ≠ -1) {M : Nat → Bool} {k : Nat} (hM : MKt s side c0 t M (k + 1)) (hk : k < t.2.2) : M (t.2.1 k) = onB s side c0 (t.2.1 k) := by
  obtain ⟨h1, h2, h3⟩ := hM
  have h4 : ∀ (n c : Nat), onR s side c0 n c → t.1 (t.2.1 k) ≤ t.1 c → M c = true := by
    intro n
    induction n with
    | zero =>
      intro c h _
      rw [show c = c0 from h]
      exact h1
    | succ n ih =>
      rintro c ⟨u, d, hd, g1, g2, rfl⟩ hle
      have hu := on_F hz hI h0 hF g1
      have hu81 := on_c81 hz h0 ⟨n, g1⟩
      have g3 := g2
      rw [← nrT_D hz hI hu81 hu hd] at g3
      unfold nrT at g3
      rw [Bool.and_eq_true, Bool.and_eq_true, decide_eq_true_iff, decide_eq_true_iff] at g3
      obtain ⟨j, j1, j2⟩ := hI.2.1 u hu81 hu
      have hj : k + 1 ≤ j := by
        by_cases q : k + 1 ≤ j
        · exact q
        · have := hI.2.2.2.2.1 j k (by omega) hk
          rw [j2] at this
          omega
      have := h3 j hj j1 (by rw [j2]; exact ih u g1 (by omega)) d hd (by rw [j2]; exact g2)
      rw [j2] at this
      exact this
  rw [Bool.eq_iff_iff, onB_t]
  exact ⟨h2 _, fun ⟨n, hn⟩ => h4 n _ hn (Int.le_refl _)⟩
/-- all of a cell's nearer ones are marked -/
noncomputable def mkN (s : Nat → Int) (side : Int) (u : Nat) (M : Nat → Bool) : Nat → Nat → Bool
  | 0 => M
  | d + 1 => fun c => mkN s side u M d c || (nrD s side u d && decide (c = nbr u d))
theorem mkN_s (s : Nat → Int) (side : Int) (u : Nat) (M : Nat → Bool) (d c : Nat) : mkN s side u M (d + 1) c = (mkN s side u M d c || (nrD s side u d && decide (c = nbr u d))) := rfl
theorem mkN_ge (s : Nat → Int) (side : Int) (u : Nat) (M : Nat → Bool) (n : Nat) (c : Nat) : mkN s side u M n c = true ↔ M c = true ∨ ∃ d, d < n ∧ nrD s side u d = true ∧ nbr u d = c := by
  induction n with
  | zero => exact ⟨fun h => Or.inl h, fun h => h.elim id (fun ⟨d, h, _⟩ => absurd h (Nat.not_lt_zero d))⟩
  | succ n ih =>
    rw [mkN, Bool.or_eq_true, Bool.and_eq_true, decide_eq_true_iff, ih]
    constructor
    · rintro ((h | ⟨d, h1, h2⟩) | ⟨h1, h2⟩)
      · exact Or.inl h
      · exact Or.inr ⟨d, by omega, h2⟩
      · exact Or.inr ⟨n, by omega, h1, h2.symm⟩
    · rintro (h | ⟨d, h1, h2, h3⟩)
      · exact Or.inl (Or.inl h)
      · by_cases e : d = n
        · rw [e] at h2 h3
          exact Or.inr ⟨h2, h3.symm⟩
        · exact Or.inl (Or.inr ⟨d, by omega, h2, h3⟩)
theorem MKt_step {s : Nat → Int} (hz : szO s) {side : Int} {t : BS} {i : Nat} (hI : BI (op s) nbr (Sd s side) t i) {c0 : Nat} {M : Nat → Bool} {k : Nat} (hk : k < t.2.2) (hM : MKt s side c0 t M (k + 1)) (hu : M (t.2.1 k) = true) : MKt s side c0 t (mkN s side (t.2.1 k) M 4) k := by
  obtain ⟨h1, h2, h3⟩ := hM
  refine ⟨(mkN_ge ..).mpr (Or.inl h1), fun c hc => ?_, fun j hj hj2 hMj d hd hn => ?_⟩
  · rcases (mkN_ge ..).mp hc with h | ⟨d, g1, g2, g3⟩
    · exact h2 c h
    · obtain ⟨n, hn⟩ := h2 _ hu
      exact ⟨n + 1, _, d, g1, hn, g2, g3⟩
  · refine (mkN_ge ..).mpr ?_
    by_cases e : t.2.1 j = t.2.1 k
    · rw [e] at hn ⊢
      exact Or.inr ⟨d, hd, hn, rfl⟩
    · have e2 : j ≠ k := fun q => e (by rw [q])
      rcases (mkN_ge ..).mp hMj with h | ⟨d2, g1, g2, g3⟩
      · exact Or.inl (h3 j (by omega) hj2 h d hd hn)
      · exfalso
        have hq := hI.1 k hk
        rw [← nrT_D hz hI hq.1 hq.2 g1] at g2
        unfold nrT at g2
        rw [Bool.and_eq_true, Bool.and_eq_true, decide_eq_true_iff, decide_eq_true_iff] at g2
        have hm := hI.2.2.2.2.1 k j hj hj2
        rw [g3] at g2
        omega
theorem MKt_skip {s : Nat → Int} {side : Int} {t : BS} {c0 : Nat} {M : Nat → Bool} {k : Nat} (hM : MKt s side c0 t M (k + 1)) (hu : M (t.2.1 k) = false) : MKt s side c0 t M k := by
  obtain ⟨h1, h2, h3⟩ := hM
  refine ⟨h1, h2, fun j hj hj2 hMj d hd hn => ?_⟩
  by_cases e : j = k
  · rw [e, hu] at hMj
    cases hMj
  · exact h3 j (by omega) hj2 hMj d hd hn
/-- the marks in the class -/
def MNb (w : Nat) (mem : Mem) (M : Nat → Bool) : Prop := ∀ c, c < 81 → rd mem (pNumb w) c = zi (bi (M c))
theorem MNb_or {w : Nat} {mem : Mem} {M : Nat → Bool} (h : MNb w mem M) {v : Nat} : ∀ c, c < 81 → rd (mw mem (pNumb w) v (zi 1)) (pNumb w) c = zi (bi (M c || decide (c = v))) := fun c hc => by
  rw [rd_mw]
  by_cases q : c = v
  · rw [if_pos ⟨rfl, q⟩, decide_eq_true q, Bool.or_true]
    rfl
  · rw [if_neg (fun x => q x.2), decide_eq_false q, Bool.or_false]
    exact h c hc
theorem c_mk2 (fu w r : Nat) (hw : w ≤ 1) {s : Nat → Int} (hz : szO s) {side : Int} {t : BS} {i : Nat} (hI : BI (op s) nbr (Sd s side) t i) {u : Nat} (hu : u < 81) (hF : t.1 u ≠ -1) {M : Nat → Bool} : ∀ (q n d : Nat) (mem : Mem), d + q = 4 → q < n → RB mem r s → CM w mem t → MNb w mem (mkN s side u M d) → ∃ mem2, K_X10_markNearer_2 fu w r n (zi (u : Int)) (zi (d : Int)) mem = some mem2 ∧ MNb w mem2 (mkN s side u M 4) ∧ Fr (PNb w) mem mem2 := by
  intro q
  induction q with
  | zero =>
    intro n d mem hd hn hR hC hM
    obtain ⟨n, rfl⟩ : ∃ f, n = f + 1 := ⟨n - 1, by omega⟩
    obtain rfl : d = 4 := by omega
    rw [K_X10_markNearer_2]
    simp (disch := omega) only [zi_lit, zl_lit, zi_add, zi_sub, zi_mul, zi_neg, zi_lt, zi_inj, zi_clamp, zl_of, gi_zi, bd_s, ltf, bi_0, bi_1, gb_bi, Int.reduceToNat, Int.reduceNeg, Int.toNat_natCast]
    rw [if_neg (by decide)]
    exact ⟨mem, rfl, hM, Fr_rf _ mem⟩
  | succ q ih =>
    intro n d mem hd hn hR hC hM
    obtain ⟨n, rfl⟩ : ∃ f, n = f + 1 := ⟨n - 1, by omega⟩
    have hd4 : d < 4 := by omega
    rw [K_X10_markNearer_2]
    simp (disch := omega) only [zi_lit, zl_lit, zi_add, zi_sub, zi_mul, zi_neg, zi_lt, zi_inj, zi_clamp, zl_of, gi_zi, bd_s, ltf, bi_0, bi_1, gb_bi, Int.reduceToNat, Int.reduceNeg, Int.toNat_natCast, c_isNearer fu w r hR hz hC hu hd4, offV_z hd4, nrT_D hz hI hu hF hd4]
    rw [if_pos (by omega)]
    cases c1 : nrD s side u d with
    | true =>
      rw [if_neg (by decide)]
      have c2 := c1
      unfold nrD at c2
      rw [Bool.and_eq_true] at c2
      have hn1 := (op_nb hz hu hd4 c2.1).1
      rw [op_off hz hu hd4 c2.1]
      simp (disch := omega) only [zi_lit, zl_lit, zi_add, zi_sub, zi_mul, zi_neg, zi_lt, zi_inj, zi_clamp, zl_of, gi_zi, bd_s, ltf, bi_0, bi_1, gb_bi, Int.reduceToNat, Int.reduceNeg, Int.toNat_natCast]
      have f : Fr (PNb w) mem (mw mem (pNumb w) (nbr u d) (zi 1)) := Fr_mw _ _ (by unfold PNb; simp)
      obtain ⟨m2, a1, a2, a3⟩ := ih n (d + 1) _ (by omega) (by omega) (RB_fr f (PNb_35 hw) hR) (CM_nb hC f) (fun c hc => by
        rw [MNb_or hM c hc, mkN_s, c1, Bool.true_and])
      exact ⟨m2, a1, a2, Fr_tr f a3⟩
    | false =>
      rw [if_pos rfl]
      exact ih n (d + 1) mem (by omega) (by omega) hR hC (fun c hc => by
        rw [hM c hc, mkN_s, c1, Bool.false_and, Bool.or_false])
theorem c_ow35 (fu w r r2 i2 : Nat) (hfu : 1000 ≤ fu) (hw : w ≤ 1) {s : Nat → Int} (hz : szO s) {side : Int} {t : BS} {ix : Nat} (hI : BI (op s) nbr (Sd s side) t ix) {c : Nat} (hc : c < 81) (hcF : t.1 c ≠ -1) : ∀ (k n a : Nat) (mem : Mem) (M : Nat → Bool), k ≤ t.2.2 → k < n → RB mem r s → CM w mem t → MNb w mem M → MKt s side c t M k → a + cnB (fun j => onB s side c (t.2.1 j)) k = cnB (fun j => onB s side c (t.2.1 j)) t.2.2 → ∃ mem2, K_X10_countCellsOnWays_35 fu w r r2 i2 n (zi (a : Int)) (zi ((k : Int) - 1)) mem = some (zi (cnB (fun j => onB s side c (t.2.1 j)) t.2.2 : Int), mem2) ∧ Fr (PNb w) mem mem2 := by
  have h81 : t.2.2 ≤ 81 := by rw [hI.2.2.1]; exact cnt_le _ _
  intro k
  induction k with
  | zero =>
    intro n a mem M hk hn hR hC hM hMK ha
    obtain ⟨n, rfl⟩ : ∃ f, n = f + 1 := ⟨n - 1, by omega⟩
    rw [K_X10_countCellsOnWays_35]
    simp (disch := omega) only [zi_lit, zl_lit, zi_add, zi_sub, zi_mul, zi_neg, zi_lt, zi_inj, zi_clamp, zl_of, gi_zi, bd_s, ltf, bi_0, bi_1, gb_bi, Int.reduceToNat, Int.reduceNeg, Int.toNat_natCast]
    rw [if_pos (by omega)]
    refine ⟨mem, ?_, Fr_rf _ mem⟩
    have e : cnB (fun j => onB s side c (t.2.1 j)) 0 = 0 := rfl
    rw [← ha, e]
    rfl
  | succ k ih =>
    intro n a mem M hk hn hR hC hM hMK ha
    obtain ⟨n, rfl⟩ : ∃ f, n = f + 1 := ⟨n - 1, by omega⟩
    have hkt : k < t.2.2 := by omega
    have hu := hI.1 k hkt
    have hul := hu.1
    have hat := MKt_at hz hI hc hcF hMK hkt
    have hle := cnB_le (fun j => onB s side c (t.2.1 j)) t.2.2
    rw [cnB] at ha
    rw [K_X10_countCellsOnWays_35, show ((k + 1 : Nat) : Int) - 1 = (k : Int) by omega]
    simp (disch := omega) only [zi_lit, zl_lit, zi_add, zi_sub, zi_mul, zi_neg, zi_lt, zi_inj, zi_clamp, zl_of, gi_zi, bd_s, ltf, bi_0, bi_1, gb_bi, Int.reduceToNat, Int.reduceNeg, Int.toNat_natCast, hC.2.1 k hkt, hM _ hul]
    rw [if_neg (by omega)]
    by_cases c1 : M (t.2.1 k) = true
    · rw [if_neg (by rw [c1]; decide)]
      obtain ⟨m1, a1, a2, a3⟩ := c_mk2 fu w r hw hz hI hul hu.2 (M := M) 4 fu 0 mem (by omega) (by omega) hR hC hM
      have e1 : K_X10_markNearer fu w r (zi (t.2.1 k : Int)) mem = some m1 := a1
      rw [hat] at c1
      rw [c1, if_pos rfl] at ha
      rw [← hat] at c1
      obtain ⟨m2, b1, b2⟩ := ih n (a + 1) m1 _ (by omega) (by omega) (RB_fr a3 (PNb_35 hw) hR) (CM_nb hC a3) a2 (MKt_step hz hI hkt hMK c1) (by omega)
      rw [e1]
      exact ⟨m2, b1, Fr_tr a3 b2⟩
    · rw [if_pos (by simpa using c1)]
      have c2 : M (t.2.1 k) = false := by simpa using c1
      rw [hat] at c2
      rw [c2, if_neg (by decide)] at ha
      rw [← hat] at c2
      exact ih n a mem M (by omega) (by omega) hR hC hM (MKt_skip hMK c2) (by omega)
theorem on_cnt {s : Nat → Int} (hz : szO s) {side : Int} {t : BS} {i : Nat} (hI : BI (op s) nbr (Sd s side) t i) {c0 : Nat} (h0 : c0 < 81) (hF : t.1 c0 ≠ -1) : cnB (fun j => onB s side c0 (t.2.1 j)) t.2.2 = onN s side c0 := cnB_q t.2.2 t.2.1 (onB s side c0) 81 (fun k hk => (hI.1 k hk).1) (fun k j h1 h2 => BI_inj hI h1 h2) (fun c hc hP => by
  obtain ⟨n, hn⟩ := onB_t.mp hP
  exact hI.2.1 c hc (on_F hz hI h0 hF hn))
theorem MKt_0 (s : Nat → Int) (side : Int) (c0 : Nat) (t : BS) : MKt s side c0 t (fun c => decide (c = c0)) t.2.2 := ⟨decide_eq_true rfl, fun c hc => ⟨0, show c = c0 by simpa using hc⟩, fun k h1 h2 => by omega⟩
theorem c_onWays (fu w r : Nat) (hfu : 1000 ≤ fu) (hw : w ≤ 1) {s : Nat → Int} (hz : szO s) (hc : cnO s) (hp : pasO s) (hwy : wyO s) {mem : Mem} (hR : RC mem r s) {k : Nat} (hks : (k : Int) < s 2) : ∃ mem2, K_X10_countCellsOnWays fu w r r k mem = some (zi (onN s (pg s k 2) (celN s k) : Int), mem2) ∧ Fr (PCN w) mem mem2 := by
  have c1 := hc.1
  have hcl := cel_lt hz (hp k (by omega) hks)
  have hcl1 := hcl.1
  obtain ⟨m1, t, ix, a1, a2, a3, a4, a5, a6, a7⟩ := c_meas2 fu w r hfu hw hz hc hp hwy hR hks
  have h81 : t.2.2 ≤ 81 := by rw [a3.2.2.1]; exact cnt_le _ _
  obtain ⟨m2, b1, b2, b3⟩ := c_fill fu (pNumb w) 81 (zi 0) (by omega) (by omega) m1
  have n1 : pPawn r k ≠ pNumb w := by unfold pPawn pNumb; omega
  have f2 : Fr (PNb w) m1 m2 := Fr_mono b3 (fun _ _ h => h)
  have f3 : Fr (PNb w) m1 (mw m2 (pNumb w) (celN s k) (zi 1)) := Fr_tr f2 (Fr_mw _ _ (by unfold PNb; simp))
  have hC3 := CM_nb a2 f3
  have g0 : rd m2 (pPawn r k) 0 = zi (celN s k : Int) := by
    rw [f2.1 _ _ (by unfold PNb; simpa using n1)]
    exact a6
  obtain ⟨m4, d1, d2⟩ := c_ow35 fu w r r k hfu hw hz a3 hcl.1 (by rw [a4]; exact hwy k (by omega) hks) t.2.2 fu 0 (mw m2 (pNumb w) (celN s k) (zi 1)) (fun c => decide (c = celN s k)) (Nat.le_refl _) (by omega) (RB_fr f3 (PNb_35 hw) a5.1) hC3 (fun c hc => by
    have e : MNb w m2 (fun _ => false) := fun c2 hc2 => by rw [b2, if_pos hc2]; rfl
    rw [MNb_or e c hc, Bool.false_or]) (MKt_0 ..) (Nat.zero_add _)
  rw [on_cnt hz a3 hcl.1 (by rw [a4]; exact hwy k (by omega) hks)] at d1
  refine ⟨m4, ?_, Fr_tr (Fr_mono a7 (fun _ _ => PCN_PC)) (Fr_mono (Fr_tr f3 d2) (fun _ _ => PCN_N))⟩
  unfold K_X10_countCellsOnWays
  rw [a1]
  simp only [zi_lit, zl_lit, zi_add, zi_sub, zi_mul, zi_neg, zi_lt, zi_inj, zi_clamp, zl_of, gi_zi, bd_s, ltf, bi_0, bi_1, gb_bi, Int.reduceToNat, Int.reduceNeg, Int.toNat_natCast]
  rw [b1]
  simp (disch := omega) only [zi_lit, zl_lit, zi_add, zi_sub, zi_mul, zi_neg, zi_lt, zi_inj, zi_clamp, zl_of, gi_zi, bd_s, ltf, bi_0, bi_1, gb_bi, Int.reduceToNat, Int.reduceNeg, Int.toNat_natCast, g0, hC3.2.2.1]
  exact d1
/-- the reference's marks -/
def P11 (k _ : Nat) : Bool := k == 11
def MN11 (mem : Mem) (M : Nat → Bool) : Prop := ∀ c, c < 81 → rd mem 11 c = zi (bi (M c))
theorem MN11_or {mem : Mem} {M : Nat → Bool} (h : MN11 mem M) {v : Nat} : ∀ c, c < 81 → rd (mw mem 11 v (zi 1)) 11 c = zi (bi (M c || decide (c = v))) := fun c hc => by
  rw [rd_mw]
  by_cases q : c = v
  · rw [if_pos ⟨rfl, q⟩, decide_eq_true q, Bool.or_true]
    rfl
  · rw [if_neg (fun x => q x.2), decide_eq_false q, Bool.or_false]
    exact h c hc
theorem nar1 : vp_nar .boolean (zi 1) = zi 1 := rfl
theorem nar0 : vp_nar .boolean (zi 0) = zi 0 := rfl
theorem m_mk108 (fu : Nat) (k77 : Int32 → Int32 → Mem → Option (Int32 × Mem)) {s : Nat → Int} (hz : szO s) (hW : wlO s) {side : Int} {t : BS} (hI : BI (op s) nbr (Sd s side) t t.2.2) {u : Nat} (hu : u < 81) (hc : isCl s (xo u) (yo u) = true) (hF : t.1 u ≠ -1) {x2 x3 : Int} {M : Nat → Bool} : ∀ (q n d : Nat) (mem : Mem), d + q = 4 → q < n → MS mem s → BM mem t → MN11 mem (mkN s side u M d) → ∃ mem2, K_X12_onWays_108 fu k77 n (zi x2) (zi x3) (zi (u : Int)) (zi (d : Int)) mem = k77 (zi x2) (zi (x3 - 1)) mem2 ∧ MN11 mem2 (mkN s side u M 4) ∧ Fr P11 mem mem2 := by
  intro q
  induction q with
  | zero =>
    intro n d mem hd hn hS hB hM
    obtain ⟨n, rfl⟩ : ∃ f, n = f + 1 := ⟨n - 1, by omega⟩
    obtain rfl : d = 4 := by omega
    rw [K_X12_onWays_108]
    simp (disch := omega) only [zi_lit, zl_lit, zi_add, zi_sub, zi_mul, zi_neg, zi_lt, zi_inj, zi_clamp, zl_of, gi_zi, bd_s, ltf, bi_0, bi_1, gb_bi, Int.reduceToNat, Int.reduceNeg, Int.toNat_natCast]
    rw [if_neg (by decide)]
    exact ⟨mem, rfl, hM, Fr_rf _ mem⟩
  | succ q ih =>
    intro n d mem hd hn hS hB hM
    obtain ⟨n, rfl⟩ : ∃ f, n = f + 1 := ⟨n - 1, by omega⟩
    have hd4 : d < 4 := by omega
    rw [K_X12_onWays_108]
    simp (disch := omega) only [zi_lit, zl_lit, zi_add, zi_sub, zi_mul, zi_neg, zi_lt, zi_inj, zi_clamp, zl_of, gi_zi, bd_s, ltf, bi_0, bi_1, gb_bi, Int.reduceToNat, Int.reduceNeg, Int.toNat_natCast, m_isNearer fu hS hz hW hB hI hu hc hF hd4, k_up, k_across, nar1]
    rw [if_pos (by omega)]
    cases c1 : nrD s side u d with
    | true =>
      rw [if_neg (by decide)]
      have c2 := c1
      unfold nrD at c2
      rw [Bool.and_eq_true] at c2
      have hn1 := (op_nb hz hu hd4 c2.1).1
      have hoff := op_off hz hu hd4 c2.1
      rw [show (u : Int) + 9 * dy (d : Int) + dx (d : Int) = (nbr u d : Int) by omega]
      simp (disch := omega) only [zi_lit, zl_lit, zi_add, zi_sub, zi_mul, zi_neg, zi_lt, zi_inj, zi_clamp, zl_of, gi_zi, bd_s, ltf, bi_0, bi_1, gb_bi, Int.reduceToNat, Int.reduceNeg, Int.toNat_natCast]
      have f : Fr P11 mem (mw mem 11 (nbr u d) (zi 1)) := Fr_mw _ _ rfl
      obtain ⟨m2, a1, a2, a3⟩ := ih n (d + 1) _ (by omega) (by omega) (MS_fr f (fun _ => rfl) hS) (BM_o hB f (fun _ => rfl) (fun _ => rfl) rfl) (fun c hc => by
        rw [MN11_or hM c hc, mkN_s, c1, Bool.true_and])
      exact ⟨m2, a1, a2, Fr_tr f a3⟩
    | false =>
      rw [if_pos rfl]
      exact ih n (d + 1) mem (by omega) (by omega) hS hB (fun c hc => by
        rw [hM c hc, mkN_s, c1, Bool.false_and, Bool.or_false])
theorem m_ow77 (fu : Nat) (hfu : 1000 ≤ fu) {s : Nat → Int} (hz : szO s) (hW : wlO s) {side : Int} {t : BS} (hI : BI (op s) nbr (Sd s side) t t.2.2) (hcl : ∀ c, c < 81 → t.1 c ≠ -1 → isCl s (xo c) (yo c) = true) {c : Nat} (hc : c < 81) (hcF : t.1 c ≠ -1) : ∀ (k n a : Nat) (mem : Mem) (M : Nat → Bool), k ≤ t.2.2 → k < n → MS mem s → BM mem t → MN11 mem M → MKt s side c t M k → a + cnB (fun j => onB s side c (t.2.1 j)) k = cnB (fun j => onB s side c (t.2.1 j)) t.2.2 → ∃ mem2, K_X12_onWays_77 fu n (zi (a : Int)) (zi ((k : Int) - 1)) mem = some (zi (cnB (fun j => onB s side c (t.2.1 j)) t.2.2 : Int), mem2) ∧ Fr P11 mem mem2 := by
  have h81 : t.2.2 ≤ 81 := by rw [hI.2.2.1]; exact cnt_le _ _
  intro k
  induction k with
  | zero =>
    intro n a mem M hk hn hS hB hM hMK ha
    obtain ⟨n, rfl⟩ : ∃ f, n = f + 1 := ⟨n - 1, by omega⟩
    rw [K_X12_onWays_77]
    simp (disch := omega) only [zi_lit, zl_lit, zi_add, zi_sub, zi_mul, zi_neg, zi_lt, zi_inj, zi_clamp, zl_of, gi_zi, bd_s, ltf, bi_0, bi_1, gb_bi, Int.reduceToNat, Int.reduceNeg, Int.toNat_natCast]
    rw [if_pos (by omega)]
    refine ⟨mem, ?_, Fr_rf _ mem⟩
    have e : cnB (fun j => onB s side c (t.2.1 j)) 0 = 0 := rfl
    rw [← ha, e]
    rfl
  | succ k ih =>
    intro n a mem M hk hn hS hB hM hMK ha
    obtain ⟨n, rfl⟩ : ∃ f, n = f + 1 := ⟨n - 1, by omega⟩
    have hkt : k < t.2.2 := by omega
    have hu := hI.1 k hkt
    have hul := hu.1
    have hat := MKt_at hz hI hc hcF hMK hkt
    rw [cnB] at ha
    rw [K_X12_onWays_77, show ((k + 1 : Nat) : Int) - 1 = (k : Int) by omega]
    simp (disch := omega) only [zi_lit, zl_lit, zi_add, zi_sub, zi_mul, zi_neg, zi_lt, zi_inj, zi_clamp, zl_of, gi_zi, bd_s, ltf, bi_0, bi_1, gb_bi, Int.reduceToNat, Int.reduceNeg, Int.toNat_natCast, hB.2.1 k hkt, hM _ hul]
    rw [if_neg (by omega)]
    by_cases c1 : M (t.2.1 k) = true
    · rw [if_neg (by rw [c1]; decide)]
      obtain ⟨m1, a1, a2, a3⟩ := m_mk108 fu (K_X12_onWays_77 fu n) hz hW hI hul (hcl _ hul hu.2) hu.2 (x2 := (a : Int) + 1) (x3 := (k : Int)) (M := M) 4 fu 0 mem (by omega) (by omega) hS hB hM
      rw [hat] at c1
      rw [c1, if_pos rfl] at ha
      rw [← hat] at c1
      obtain ⟨m2, b1, b2⟩ := ih n (a + 1) m1 _ (by omega) (by omega) (MS_fr a3 (fun _ => rfl) hS) (BM_o hB a3 (fun _ => rfl) (fun _ => rfl) rfl) a2 (MKt_step hz hI hkt hMK c1) (by omega)
      exact ⟨m2, a1.trans b1, Fr_tr a3 b2⟩
    · rw [if_pos (by simpa using c1)]
      have c2 : M (t.2.1 k) = false := by simpa using c1
      rw [hat] at c2
      rw [c2, if_neg (by decide)] at ha
      rw [← hat] at c2
      exact ih n a mem M (by omega) (by omega) hS hB hM (MKt_skip hMK c2) (by omega)
theorem m_ow36 (fu : Nat) (hfu : 1000 ≤ fu) {s : Nat → Int} (hz : szO s) (hW : wlO s) {side : Int} {t : BS} (hI : BI (op s) nbr (Sd s side) t t.2.2) (hcl : ∀ c, c < 81 → t.1 c ≠ -1 → isCl s (xo c) (yo c) = true) {p : Nat} (hp4 : p < 4) (hpn : pnO s p) (hcF : t.1 (celN s p) ≠ -1) : ∀ (q n k : Nat) (mem : Mem), k + q = 81 → q < n → MS mem s → BM mem t → (∀ c, c < k → rd mem 11 c = zi (bi (decide (c = celN s p)))) → ∃ mem2, K_X12_onWays_36 fu n (zi (p : Int)) (zi (k : Int)) mem = some (zi (onN s side (celN s p) : Int), mem2) ∧ Fr P11 mem mem2 := by
  have hce := cel_lt hz hpn
  have hce1 := hce.1
  have e3 : 9 * pg s p 1 + pg s p 0 = (celN s p : Int) := by
    have hxy := cl_nat hz hpn.1
    unfold celN
    omega
  intro q
  induction q with
  | zero =>
    intro n k mem hk hn hS hB hN
    obtain ⟨n, rfl⟩ : ∃ f, n = f + 1 := ⟨n - 1, by omega⟩
    have h81 : t.2.2 ≤ 81 := by rw [hI.2.2.1]; exact cnt_le _ _
    rw [K_X12_onWays_36]
    simp (disch := omega) only [zi_lit, zl_lit, zi_add, zi_sub, zi_mul, zi_neg, zi_lt, zi_inj, zi_clamp, zl_of, gi_zi, bd_s, ltf, bi_0, bi_1, gb_bi, Int.reduceToNat, Int.reduceNeg, Int.toNat_natCast, hB.2.2.1]
    rw [if_neg (by omega)]
    obtain ⟨m2, a1, a2⟩ := m_ow77 fu hfu hz hW hI hcl hce.1 hcF t.2.2 fu 0 mem (fun c => decide (c = celN s p)) (Nat.le_refl _) (by omega) hS hB (fun c hc => hN c (by omega)) (MKt_0 ..) (Nat.zero_add _)
    rw [on_cnt hz hI hce.1 hcF] at a1
    exact ⟨m2, a1, a2⟩
  | succ q ih =>
    intro n k mem hk hn hS hB hN
    obtain ⟨n, rfl⟩ : ∃ f, n = f + 1 := ⟨n - 1, by omega⟩
    rw [K_X12_onWays_36]
    unfold K_X12_onWays_61
    simp (disch := omega) only [zi_lit, zl_lit, zi_add, zi_sub, zi_mul, zi_neg, zi_lt, zi_inj, zi_clamp, zl_of, gi_zi, bd_s, ltf, bi_0, bi_1, gb_bi, Int.reduceToNat, Int.reduceNeg, Int.toNat_natCast, k_cellOf fu hS, nar1, nar0, e3]
    rw [if_pos (by omega)]
    have go : ∀ b : Bool, b = decide (k = celN s p) → ∃ mem2, K_X12_onWays_36 fu n (zi (p : Int)) (zi ((k : Int) + 1)) (mw mem 11 k (zi (bi b))) = some (zi (onN s side (celN s p) : Int), mem2) ∧ Fr P11 mem mem2 := fun b hb => by
      have f : Fr P11 mem (mw mem 11 k (zi (bi b))) := Fr_mw _ _ rfl
      obtain ⟨m2, a1, a2⟩ := ih n (k + 1) _ (by omega) (by omega) (MS_fr f (fun _ => rfl) hS) (BM_o hB f (fun _ => rfl) (fun _ => rfl) rfl) (fun c hc => by
        rw [rd_mw]
        by_cases q1 : c = k
        · rw [if_pos ⟨rfl, q1⟩, q1, hb]
        · rw [if_neg (fun h => q1 h.2)]
          exact hN c (by omega))
      exact ⟨m2, a1, Fr_tr f a2⟩
    by_cases c1 : (k : Int) = (celN s p : Int)
    · rw [if_pos c1]
      exact go true (decide_eq_true (by omega)).symm
    · rw [if_neg c1]
      exact go false (decide_eq_false (by omega)).symm
end ONWAYS
