section RBB
theorem LW_same {np nb : Nat} {m m2 : Mem} {s : Nat → Int} (h : LW np nb m s) (e : sameW m m2) : LW np nb m2 s := by
  obtain ⟨h12, ⟨a1, a2, a3⟩, ⟨e4, e5, e6⟩, e7, e8⟩ := h
  refine ⟨h12, ⟨(e _ _ (by omega)).trans a1, (e _ _ (by omega)).trans a2, fun x y h1 h2 h3 h4 => (e _ _ (by omega)).trans (a3 x y h1 h2 h3 h4)⟩, ⟨(e _ _ (by omega)).trans e4, (e _ _ (by omega)).trans e5, (e _ _ (by omega)).trans e6⟩, fun p hp => ?_, fun b hb => ?_⟩
  · obtain ⟨q0, q1, q2, q3, q4, q5, q6⟩ := e7 p hp
    exact ⟨(e _ _ (by omega)).trans q0, (e _ _ (by omega)).trans q1, (e _ _ (by omega)).trans q2, (e _ _ (by omega)).trans q3, (e _ _ (by omega)).trans q4, (e _ _ (by omega)).trans q5, (e _ _ (by omega)).trans q6⟩
  · obtain ⟨q0, q1, q2, q3, q4, q5, q6⟩ := e8 b hb
    exact ⟨(e _ _ (by omega)).trans q0, (e _ _ (by omega)).trans q1, (e _ _ (by omega)).trans q2, (e _ _ (by omega)).trans q3, (e _ _ (by omega)).trans q4, (e _ _ (by omega)).trans q5, (e _ _ (by omega)).trans q6⟩
theorem rd_gM {m : Mem} {k i : Nat} {r : Row} {a : Nat} (h1 : a ≠ k) (h2 : a ≠ i) (j : Nat) : rd (gM m k i r) a j = rd m a j := congrArg (fun q : Row => q.1 j) (gM_o h1 h2)
theorem rd_gK {m : Mem} {k i : Nat} {r : Row} (j : Nat) : rd (gM m k i r) k j = r.1 j := congrArg (fun q : Row => q.1 j) gM_k
theorem LW_gp {np : Nat} {m : Mem} {s : Nat → Int} (hS : LW np 0 m s) (hnp : np < 4) (x y sd wl : Nat) : LW (np + 1) 0 (gM m (13 + np) 1 (pwRow (nI x) (nI y) (nI sd) (nI wl))) (npS s np (x : Int) (y : Int) (sd : Int) (wl : Int)) := by
  obtain ⟨⟨h1, h2⟩, ⟨a1, a2, a3⟩, ⟨e4, e5, e6⟩, e7, e8⟩ := hS
  have e : ∀ j, j ≠ 2 → j < 8 ∨ 36 ≤ j → npS s np (x : Int) (y : Int) (sd : Int) (wl : Int) j = s j := fun j h h' => np_ne hnp h h'
  refine ⟨⟨by rw [np_2, h1]; rfl, (e 6 (by decide) (by decide)).trans h2⟩, ⟨?_, ?_, fun x' y' g1 g2 g3 g4 => ?_⟩, ⟨?_, ?_, ?_⟩, fun p hp => ?_, fun b hb => absurd hb (Nat.not_lt_zero b)⟩
  · rw [rd_gM (by omega) (by decide), e 0 (by decide) (by decide)]
    exact a1
  · rw [rd_gM (by omega) (by decide), e 1 (by decide) (by decide)]
    exact a2
  · rw [rd_gM (by omega) (by omega), e _ (by omega) (by omega)]
    exact a3 x' y' g1 g2 g3 g4
  · rw [rd_gM (by omega) (by decide), e 4 (by decide) (by decide)]
    exact e4
  · rw [rd_gM (by omega) (by decide), e 5 (by decide) (by decide)]
    exact e5
  · rw [rd_gM (by omega) (by decide), e 7 (by decide) (by decide)]
    exact e6
  · by_cases q : p = np
    · subst q
      have g : ∀ k : Nat, k ≤ 6 → pg (npS s p (x : Int) (y : Int) (sd : Int) (wl : Int)) (p : Int) (k : Int) = npF (x : Int) (y : Int) (sd : Int) (wl : Int) k := fun k hk => np_new rfl hk
      refine ⟨?_, ?_, ?_, ?_, ?_, ?_, ?_⟩
      · rw [rd_gK]
        exact (nI_zi x).trans (congrArg zi (g 0 (by decide)).symm)
      · rw [rd_gK]
        exact (nI_zi y).trans (congrArg zi (g 1 (by decide)).symm)
      · rw [rd_gK]
        exact (nI_zi sd).trans (congrArg zi (g 2 (by decide)).symm)
      · rw [rd_gK]
        exact (nI_zi wl).trans (congrArg zi (g 3 (by decide)).symm)
      · rw [rd_gK]
        exact congrArg zi (g 4 (by decide)).symm
      · rw [rd_gK]
        exact congrArg zi (g 5 (by decide)).symm
      · rw [rd_gK]
        exact congrArg zi (g 6 (by decide)).symm
    · obtain ⟨q0, q1, q2, q3, q4, q5, q6⟩ := e7 p (by omega)
      have g : ∀ k : Int, 0 ≤ k ∧ k ≤ 6 → pg (npS s np (x : Int) (y : Int) (sd : Int) (wl : Int)) (p : Int) k = pg s p k := fun k hk => np_pg (by omega) hk (by omega)
      refine ⟨?_, ?_, ?_, ?_, ?_, ?_, ?_⟩
      · rw [rd_gM (by omega) (by omega), g 0 (by decide)]
        exact q0
      · rw [rd_gM (by omega) (by omega), g 1 (by decide)]
        exact q1
      · rw [rd_gM (by omega) (by omega), g 2 (by decide)]
        exact q2
      · rw [rd_gM (by omega) (by omega), g 3 (by decide)]
        exact q3
      · rw [rd_gM (by omega) (by omega), g 4 (by decide)]
        exact q4
      · rw [rd_gM (by omega) (by omega), g 5 (by decide)]
        exact q5
      · rw [rd_gM (by omega) (by omega), g 6 (by decide)]
        exact q6
theorem LW_gb {np nb : Nat} {m : Mem} {s : Nat → Int} (hS : LW np nb m s) (hnp : np ≤ 4) (hnb : nb < 12) {r : Nat → Int32} {g : Nat → Int} (hr : ∀ k, k < 7 → r k = zi (g k)) : LW np (nb + 1) (gM m (14 + np + nb) 2 (r, fun _ => 0)) (up1 (rwB s nb g) 6 (s 6 + 1)) := by
  obtain ⟨⟨h1, h2⟩, ⟨a1, a2, a3⟩, ⟨e4, e5, e6⟩, e7, e8⟩ := hS
  have e : ∀ j, j ≠ 6 → j < 36 + 7 * nb ∨ 43 + 7 * nb ≤ j → up1 (rwB s nb g) 6 (s 6 + 1) j = s j := fun j a q => (up1_ne a).trans (rw_ne q)
  have hbg : ∀ a k : Int, 0 ≤ a → 0 ≤ k → bg (up1 (rwB s nb g) 6 (s 6 + 1)) a k = bg (rwB s nb g) a k := fun a k p q => up1_ne (by omega)
  refine ⟨⟨(e 2 (by decide) (by omega)).trans h1, by rw [up1_eq, h2]; rfl⟩, ⟨?_, ?_, fun x' y' g1 g2 g3 g4 => ?_⟩, ⟨?_, ?_, ?_⟩, fun p hp => ?_, fun b hb => ?_⟩
  · rw [rd_gM (by omega) (by decide), e 0 (by decide) (by omega)]
    exact a1
  · rw [rd_gM (by omega) (by decide), e 1 (by decide) (by omega)]
    exact a2
  · rw [rd_gM (by omega) (by omega), e _ (by omega) (by omega)]
    exact a3 x' y' g1 g2 g3 g4
  · rw [rd_gM (by omega) (by decide), e 4 (by decide) (by omega)]
    exact e4
  · rw [rd_gM (by omega) (by decide), e 5 (by decide) (by omega)]
    exact e5
  · rw [rd_gM (by omega) (by decide), e 7 (by decide) (by omega)]
    exact e6
  · obtain ⟨q0, q1, q2, q3, q4, q5, q6⟩ := e7 p (by omega)
    have g : ∀ k : Int, 0 ≤ k ∧ k ≤ 6 → pg (up1 (rwB s nb g) 6 (s 6 + 1)) (p : Int) k = pg s p k := fun k hk => e _ (by omega) (by omega)
    refine ⟨?_, ?_, ?_, ?_, ?_, ?_, ?_⟩
    · rw [rd_gM (by omega) (by omega), g 0 (by decide)]
      exact q0
    · rw [rd_gM (by omega) (by omega), g 1 (by decide)]
      exact q1
    · rw [rd_gM (by omega) (by omega), g 2 (by decide)]
      exact q2
    · rw [rd_gM (by omega) (by omega), g 3 (by decide)]
      exact q3
    · rw [rd_gM (by omega) (by omega), g 4 (by decide)]
      exact q4
    · rw [rd_gM (by omega) (by omega), g 5 (by decide)]
      exact q5
    · rw [rd_gM (by omega) (by omega), g 6 (by decide)]
      exact q6
  · by_cases q : b = nb
    · subst q
      have G : ∀ k : Nat, k < 7 → r k = zi (bg (up1 (rwB s b g) 6 (s 6 + 1)) (b : Int) (k : Int)) := fun k hk => by
        rw [hbg _ _ (by omega) (by omega), rw_bg hk]
        exact hr k hk
      refine ⟨?_, ?_, ?_, ?_, ?_, ?_, ?_⟩
      · rw [rd_gK]
        exact G 0 (by decide)
      · rw [rd_gK]
        exact G 1 (by decide)
      · rw [rd_gK]
        exact G 2 (by decide)
      · rw [rd_gK]
        exact G 3 (by decide)
      · rw [rd_gK]
        exact G 4 (by decide)
      · rw [rd_gK]
        exact G 5 (by decide)
      · rw [rd_gK]
        exact G 6 (by decide)
    · obtain ⟨q0, q1, q2, q3, q4, q5, q6⟩ := e8 b (by omega)
      have g : ∀ k : Int, 0 ≤ k ∧ k ≤ 6 → bg (up1 (rwB s nb g) 6 (s 6 + 1)) (b : Int) k = bg s b k := fun k hk => by
        rw [hbg _ _ (by omega) hk.1, rw_bo (by omega) hk (by omega)]
      refine ⟨?_, ?_, ?_, ?_, ?_, ?_, ?_⟩
      · rw [rd_gM (by omega) (by omega), g 0 (by decide)]
        exact q0
      · rw [rd_gM (by omega) (by omega), g 1 (by decide)]
        exact q1
      · rw [rd_gM (by omega) (by omega), g 2 (by decide)]
        exact q2
      · rw [rd_gM (by omega) (by omega), g 3 (by decide)]
        exact q3
      · rw [rd_gM (by omega) (by omega), g 4 (by decide)]
        exact q4
      · rw [rd_gM (by omega) (by omega), g 5 (by decide)]
        exact q5
      · rw [rd_gM (by omega) (by omega), g 6 (by decide)]
        exact q6
theorem XO_np {s : Nat → Int} (h : XO s) (hI : InvR s) {u : Nat} (hu : u < 4) (h2 : s 2 = u) {x y sd w : Int} (hat : atS s x y sd = false) : XO (npS s u x y sd w) := by
  obtain ⟨g1, ⟨g2, g3⟩, g4⟩ := h
  have e : ∀ j, j ≠ 2 → j < 8 ∨ 36 ≤ j → npS s u x y sd w j = s j := fun j h h' => np_ne hu h h'
  have h5 := hI.2.1.2.1
  have E0 := e 0 (by decide) (by decide)
  have E1 := e 1 (by decide) (by decide)
  refine ⟨?_, ⟨?_, fun r r1 r2 => ?_⟩, fun p p0 p1 p6 => ?_⟩
  · rw [wc_cg E0 E1 (fun j hj => e j (by omega) (by omega)), e 3 (by decide) (by decide)]
    exact g1
  · rw [e 5 (by decide) (by decide), np_2, h5, h2]
    omega
  · rw [e 5 (by decide) (by decide), h5] at r2
    omega
  · rw [np_2] at p1
    rw [atS_cg E0 E1]
    by_cases q : p = u
    · have g : ∀ k : Nat, k ≤ 6 → pg (npS s u x y sd w) p (k : Int) = npF x y sd w k := fun k hk => np_new q hk
      have v0 : pg (npS s u x y sd w) p 0 = x := g 0 (by decide)
      have v1 : pg (npS s u x y sd w) p 1 = y := g 1 (by decide)
      have v2 : pg (npS s u x y sd w) p 2 = sd := g 2 (by decide)
      rw [v0, v1, v2]
      exact hat
    · rw [np_pg p0 (by decide) q] at p6 ⊢
      rw [np_pg p0 (by decide) q, np_pg p0 (by decide) q]
      exact g4 p p0 (by omega) p6
theorem XO_bn {s : Nat → Int} (h : XO s) (h24 : s 2 ≤ 4) {b : Nat} (hb : b < 12) {g : Nat → Int} {v : Int} : XO (up1 (rwB s b g) 6 v) := by
  obtain ⟨g1, ⟨g2, g3⟩, g4⟩ := h
  have e : ∀ j, j ≠ 6 → j < 36 ∨ 120 ≤ j → up1 (rwB s b g) 6 v j = s j := fun j a q => (up1_ne a).trans (rw_ne (by omega))
  have E0 := e 0 (by decide) (by decide)
  have E1 := e 1 (by decide) (by decide)
  have E2 := e 2 (by decide) (by decide)
  have E5 := e 5 (by decide) (by decide)
  have P : ∀ p k : Int, 0 ≤ p → p < s 2 → 0 ≤ k → k ≤ 6 → pg (up1 (rwB s b g) 6 v) p k = pg s p k := fun p k a c d f => e _ (by omega) (by omega)
  refine ⟨?_, ⟨by rw [E5, E2]; exact g2, fun r r1 r2 => ?_⟩, fun p p0 p1 p6 => ?_⟩
  · rw [wc_cg E0 E1 (fun j hj => e j (by omega) (by omega)), e 3 (by decide) (by decide)]
    exact g1
  · rw [E5] at r2
    obtain ⟨p, p0, p1, p6⟩ := g3 r r1 r2
    refine ⟨p, p0, by rw [E2]; exact p1, ?_⟩
    rw [P p 6 p0 p1 (by decide) (by decide)]
    exact p6
  · rw [E2] at p1
    rw [P p 6 p0 p1 (by decide) (by decide)] at p6
    rw [P p 0 p0 p1 (by decide) (by decide), P p 1 p0 p1 (by decide) (by decide), P p 2 p0 p1 (by decide) (by decide), atS_cg E0 E1]
    exact g4 p p0 p1 p6
theorem XO_s3 {s : Nat → Int} (h : XO s) (hz : szO s) (h24 : s 2 ≤ 4) {x y v : Int} (hpl : isPl s x y = true) (hv : 0 < v) (h0 : s (120 + 8 * y + x).toNat = 0) (e : ∀ j, j ≠ 3 → j < 120 → sw3 s x y v j = s j) : XO (sw3 s x y v) := by
  obtain ⟨g1, ⟨g2, g3⟩, g4⟩ := h
  obtain ⟨⟨x1, x2⟩, y1, y2⟩ := isPl_iff.mp hpl
  have E0 := e 0 (by decide) (by decide)
  have E1 := e 1 (by decide) (by decide)
  have E2 := e 2 (by decide) (by decide)
  have E5 := e 5 (by decide) (by decide)
  have P : ∀ p k : Int, 0 ≤ p → p < s 2 → 0 ≤ k → k ≤ 6 → pg (sw3 s x y v) p k = pg s p k := fun p k a c d f => e _ (by omega) (by omega)
  refine ⟨?_, ⟨by rw [E5, E2]; exact g2, fun r r1 r2 => ?_⟩, fun p p0 p1 p6 => ?_⟩
  · have w1 : wcN (sw3 s x y v) = wcN (sw s x y v) := wc_cg (sw3_ne (by decide)) (sw3_ne (by decide)) (fun j hj => sw3_ne (by omega))
    have w2 := wc_sw hz hpl hv h0
    show s 3 + 1 = _
    rw [w1, w2, g1]
    rfl
  · rw [E5] at r2
    obtain ⟨p, p0, p1, p6⟩ := g3 r r1 r2
    refine ⟨p, p0, by rw [E2]; exact p1, ?_⟩
    rw [P p 6 p0 p1 (by decide) (by decide)]
    exact p6
  · rw [E2] at p1
    rw [P p 6 p0 p1 (by decide) (by decide)] at p6
    rw [P p 0 p0 p1 (by decide) (by decide), P p 1 p0 p1 (by decide) (by decide), P p 2 p0 p1 (by decide) (by decide), atS_cg E0 E1]
    exact g4 p p0 p1 p6
/-- the flat race that the law has grown, and what its text does for the class -/
def GI (fu np nb : Nat) (mem : Mem) (tx : List Nat) (s : Nat → Int) (w : Int) : Prop := (LW np nb mem s ∧ InvR s ∧ XO s ∧ smO s ∧ bnGA s) ∧ (∃ k b1 b2, RT fu tx k s np b1 b2 w ∧ k ≤ 2 + np + nb + (s 3).toNat) ∧ (∀ c ∈ tx, c < 128) ∧ tx.length ≤ 20 + 27 * np + 30 * nb + 19 * (s 3).toNat ∧ (0 ≤ w ∧ w ≤ 20)
theorem GI_same {fu np nb : Nat} {mem mem2 : Mem} {tx : List Nat} {s : Nat → Int} {w : Int} (h : GI fu np nb mem tx s w) (e : sameW mem mem2) : GI fu np nb mem2 tx s w := ⟨⟨LW_same h.1.1 e, h.1.2⟩, h.2⟩
theorem stPn_eq (np px py sd wl o : Nat) (hwl : wl < 10) (ho : o < 10) (tx : List Nat) : pwTx np px py sd wl (nI wl) (nI o) tx = tx ++ stPn np px py sd (if wl = o then none else some wl) := by
  have e : (nI wl = nI o) = (wl = o) := by
    rw [nI_zi, nI_zi, zi_inj (by omega) (by omega) (by omega) (by omega)]
    exact propext ⟨fun h => by omega, fun h => by omega⟩
  unfold pwTx wlTx stPn nmL
  generalize tcs (19 + sd) = ts
  have e2 : (if nI wl = nI o then tcs 0 else tcs 8 ++ [48 + wl]) = stPw (if wl = o then none else some wl) := by
    by_cases q : wl = o
    · rw [if_pos (e.mpr q), if_pos q]
      rfl
    · rw [if_neg (fun h => q (e.mp h)), if_neg q]
      rfl
  rw [e2]
  generalize stPw (if wl = o then none else some wl) = pw
  by_cases q : np % 2 = 1
  · rw [if_pos q, if_pos q]
    simp [tcs, List.append_assoc]
  · rw [if_neg q, if_neg q]
    simp [tcs, List.append_assoc]
theorem st128 {a b : List Nat} (ha : ∀ c ∈ a, c < 128) (hb : ∀ c ∈ b, c < 128) : ∀ c ∈ a ++ b, c < 128 := fun c hc => by
  rcases List.mem_append.mp hc with h | h
  · exact ha c h
  · exact hb c h
theorem nm128 {u : Nat} (hu : u < 4) : ∀ c ∈ nmL u, c < 128 := by
  rcases (show u = 0 ∨ u = 1 ∨ u = 2 ∨ u = 3 by omega) with rfl | rfl | rfl | rfl <;> decide
theorem pn128 {np px py sd : Nat} {ow : Option Nat} (hu : np < 4) (hx : px < 10) (hy : py < 10) (hk9 : ∀ k, ow = some k → k < 10) : ∀ c ∈ stPn np px py sd ow, c < 128 := by
  unfold stPn
  refine st128 (by decide) (st128 (by decide) (st128 (nm128 hu) (st128 ?_ (st128 (tcs_128 _) (st128 ?_ (by decide))))))
  · intro c hc
    simp only [List.mem_cons, List.not_mem_nil, or_false] at hc
    omega
  · intro c hc
    cases ow with
    | none => exact absurd hc (List.not_mem_nil)
    | some k =>
      have := hk9 k rfl
      unfold stPw at hc
      simp only [List.mem_cons, List.not_mem_nil, or_false] at hc
      omega
theorem pn_len {np px py sd : Nat} {ow : Option Nat} (hu : np < 4) (hsd : sd < 4) : (stPn np px py sd ow).length ≤ 27 := by
  obtain ⟨n1, ⟨n2, n2'⟩, n3⟩ := nmL_ok hu
  have t5 : (tcs (19 + sd)).length ≤ 5 := by
    rcases (show sd = 0 ∨ sd = 1 ∨ sd = 2 ∨ sd = 3 by omega) with rfl | rfl | rfl | rfl <;> decide
  have t9 : (stPw ow ++ [59]).length ≤ 9 := by
    cases ow with
    | none => exact (by decide : 1 ≤ 9)
    | some k => exact Nat.le_refl 9
  unfold stPn
  rw [List.length_append, List.length_append, List.length_append, List.length_append, List.length_append]
  show 4 + (1 + ((nmL np).length + (5 + ((tcs (19 + sd)).length + (stPw ow ++ [59]).length)))) ≤ 27
  omega
theorem GI_pawn {fu np W H o : Nat} {mem mem2 : Mem} {tx tx2 : List Nat} {s : Nat → Int} {np2 : Nat} (hfu : 1000 ≤ fu) (hnp : np < 4) (h : GI fu np 0 mem tx s (o : Int)) (ho : o < 10) (h3 : s 3 = 0) (h0 : s 0 = (W : Int)) (h1 : s 1 = (H : Int)) (hP : PwG np W H o mem tx np2 mem2 tx2) : ∃ s2, GI fu np2 0 mem2 tx2 s2 (o : Int) ∧ s2 0 = s 0 ∧ s2 1 = s 1 ∧ s2 3 = s 3 ∧ np ≤ np2 ∧ np2 ≤ np + 1 := by
  rcases hP with ⟨rfl, rfl, e⟩ | ⟨rfl, px, py, sd, wl, m5, hx, hy, hsd, hwl, e, rfl, rfl, hno, hat⟩
  · exact ⟨s, GI_same h e, rfl, rfl, rfl, Nat.le_refl _, by omega⟩
  · obtain ⟨⟨hL, hI, hX, hsm, hbn⟩, ⟨k, b1, b2, hT, hk⟩, hc, hl, hw⟩ := GI_same h e
    have hz := hI.1.1.1
    have hcn := hI.1.1.2.1
    have h2 := hL.1.1
    obtain ⟨q1, q2⟩ := hsm
    have hat' : atS s (px : Int) (py : Int) (sd : Int) = false := by
      have a := w_isAtSide (np := np) (nb := 0) (fu := 0) hL.2.1 hz (x := (px : Int)) (y := (py : Int)) (d := (sd : Int)) (by omega) (by omega) (by omega) (by omega) (by omega) (by omega)
      rw [nI_zi, nI_zi, nI_zi] at hat
      have b := a.symm.trans hat
      cases hb : atS s (px : Int) (py : Int) (sd : Int) with
      | false => rfl
      | true =>
        rw [hb] at b
        exact absurd b (by decide)
    have hpI : pI s (px : Int) (py : Int) = -1 := by
      rcases pIn_sp s (px : Int) (py : Int) (s 2).toNat with ⟨a, _⟩ | ⟨a1, a2, a3⟩
      · exact a
      · exfalso
        obtain ⟨i, hi⟩ : ∃ i : Nat, pIn s (px : Int) (py : Int) (s 2).toNat = (i : Int) := ⟨(pIn s (px : Int) (py : Int) (s 2).toNat).toNat, by omega⟩
        rw [hi] at a2 a3
        have hin : i < np := by omega
        have hpn := hI.1.1.2.2.2.1 i (by omega) (by omega)
        have sm := pn_sm hz hpn hcn
        refine hno i hin ?_
        rw [nI_zi, nI_zi]
        exact (onC_at (hL.2.2.2.1 i hin) (by omega) (by omega) (by omega) (by omega) (by omega)).mpr a3
    have hT2 := RT_pawn hfu (by omega) hI h3 hnp (x := px) (y := py) (sd := sd) (ow := if wl = o then none else some wl) hw (fun k hk => by
      by_cases q : wl = o
      · rw [if_pos q] at hk
        cases hk
      · rw [if_neg q] at hk
        cases hk
        exact hwl) (by omega) (by omega) (by omega) (by omega) hsd hpI hat' hT
    have ov : owV (if wl = o then none else some wl) (o : Int) = (wl : Int) := by
      by_cases q : wl = o
      · rw [if_pos q, q]
        rfl
      · rw [if_neg q]
        rfl
    rw [ov] at hT2
    rw [stPn_eq np px py sd wl o hwl ho]
    have e2 : ∀ j, j ≠ 2 → j < 8 ∨ 36 ≤ j → npS s np (px : Int) (py : Int) (sd : Int) (wl : Int) j = s j := fun j h h' => np_ne hnp h h'
    have E0 := e2 0 (by decide) (by decide)
    have E1 := e2 1 (by decide) (by decide)
    have E3 := e2 3 (by decide) (by decide)
    have E6 := e2 6 (by decide) (by decide)
    obtain ⟨_, i5⟩ := Inv_np hI hnp h2 (isCl_iff.mpr ⟨⟨by omega, by omega⟩, by omega, by omega⟩) (x := (px : Int)) (y := (py : Int)) (d := (sd : Int)) (w := (wl : Int)) ⟨by omega, by omega⟩ (by omega) hpI
    refine ⟨npS s np (px : Int) (py : Int) (sd : Int) (wl : Int), ⟨⟨LW_gp hL hnp px py sd wl, i5 (e_dst hI h3 hnp (by omega) (by omega) hsd), XO_np hX hI hnp h2 hat', ⟨by rw [E0]; exact q1, by rw [E1]; exact q2⟩, fun b b0 b1 => ?_⟩, ⟨k + 1, b1, b2, hT2, by rw [E3]; omega⟩, st128 hc (pn128 hnp (by omega) (by omega) (fun k hk => ?_)), ?_, hw⟩, E0, E1, E3, by omega, Nat.le_refl _⟩
    · rw [E6] at b1
      have := hbn b b0 b1
      intro k k0 k6
      rw [np_bg hnp b0 k0]
      exact this k k0 k6
    · by_cases q : wl = o
      · rw [if_pos q] at hk
        cases hk
      · rw [if_neg q] at hk
        cases hk
        exact hwl
    · rw [List.length_append, E3]
      have := pn_len (px := px) (py := py) (ow := if wl = o then none else some wl) hnp hsd
      omega
end RBB
