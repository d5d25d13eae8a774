section TAA
/-- the board that the constructor clears -/
def POb (k _ : Nat) : Bool := k == 2
theorem b_oww (fu : Nat) {c : Mem} {s : Nat → Int} (h0 : rd c 0 0 = zi (s 0)) (h1 : rd c 0 1 = zi (s 1)) (hz : szO s) {x y : Int} (hx : 0 ≤ x ∧ x ≤ 100) (hy : 0 ≤ y ∧ y ≤ 100) : K_B_openWithoutWalls fu (zi x) (zi y) c = some (msk (opE s x y)) := by
  obtain ⟨⟨z1, z2⟩, z3, z4⟩ := hz
  have hc : K_B_hasCell fu (zi x) (zi y) c = some (zi (bi (isCl s x y))) := by
    unfold K_B_hasCell isCl
    simp (disch := omega) only [zi_lit, zl_lit, zi_add, zi_sub, zi_mul, zi_neg, zi_lt, zi_inj, zi_clamp, zl_of, gi_zi, bd_s, ltf, bi_0, bi_1, gb_bi, Int.reduceToNat, Int.reduceNeg, Int.toNat_natCast, h0, h1]
    by_cases q1 : x < s 0
    · by_cases q2 : y < s 1
      · rw [if_neg (by omega), if_pos q1, if_neg (by omega), if_pos q2, decide_eq_true (by omega), decide_eq_true (by omega)]
        rfl
      · rw [if_neg (by omega), if_pos q1, if_neg (by omega), if_neg q2, decide_eq_true (by omega), decide_eq_false (by omega)]
        rfl
    · rw [if_neg (by omega), if_neg q1, decide_eq_false (by omega)]
      rfl
  unfold K_B_openWithoutWalls
  rw [hc, bd_s]
  by_cases q : isCl s x y = true
  · rw [q, if_neg (by decide)]
    have e : msk (opE s x y) = zi (bi (decide (y < s 1 - 1)) + 2 * bi (decide (x < s 0 - 1)) + 4 * bi (decide (0 < y)) + 8 * bi (decide (0 < x))) := by
      unfold msk opE
      rw [q]
      rfl
    rw [e, ← bits4']
    unfold K_B_openWithoutWalls_26 K_B_openWithoutWalls_41 K_B_openWithoutWalls_51
    have i1 : (zi y < rd c 0 1 - 1) = (y < s 1 - 1) := by
      rw [h1, show (1 : Int32) = zi 1 from rfl, zi_sub]
      exact zi_lt (by omega) (by omega) (by omega) (by omega)
    have i2 : (zi x < rd c 0 0 - 1) = (x < s 0 - 1) := by
      rw [h0, show (1 : Int32) = zi 1 from rfl, zi_sub]
      exact zi_lt (by omega) (by omega) (by omega) (by omega)
    have i3 : ((0 : Int32) < zi y) = (0 < y) := zi_lt (a_ := 0) (by decide) (by decide) (by omega) (by omega)
    have i4 : ((0 : Int32) < zi x) = (0 < x) := zi_lt (a_ := 0) (by decide) (by decide) (by omega) (by omega)
    simp only [i1, i2, i3, i4]
    by_cases c1 : y < s 1 - 1 <;> by_cases c2 : x < s 0 - 1 <;> by_cases c3 : 0 < y <;> by_cases c4 : 0 < x <;> simp only [c1, c2, c3, c4, if_true, if_false, decide_true, decide_false, Bool.false_eq_true] <;> rfl
  · have q' : isCl s x y = false := by
      cases hh : isCl s x y with
      | true => exact absurd hh q
      | false => rfl
    rw [q', if_pos (show zi (bi false) = 0 from rfl)]
    have e : msk (opE s x y) = 0 := by
      unfold msk opE
      rw [q']
      rfl
    rw [e]
theorem b_cl25 (fu : Nat) {s : Nat → Int} (hz : szO s) (hw : ∀ j, 120 ≤ j → s j = 0) : ∀ (q n k : Nat) (c : Mem), k + q = 81 → q < n → rd c 0 0 = zi (s 0) → rd c 0 1 = zi (s 1) → (∀ u, u < k → rd c 2 u = msk (op s u)) → ∃ c2, K_B_clear_25 fu n (zi (k : Int)) c = some c2 ∧ (∀ u, u < 81 → rd c2 2 u = msk (op s u)) ∧ Fr POb c c2 := by
  intro q
  induction q with
  | zero =>
    intro n k c hk hn h0 h1 hl
    obtain ⟨n, rfl⟩ : ∃ f, n = f + 1 := ⟨n - 1, by omega⟩
    refine ⟨c, ?_, fun u hu => hl u (by omega), Fr_rf _ _⟩
    rw [K_B_clear_25]
    simp (disch := omega) only [zi_lit, zl_lit, zi_add, zi_sub, zi_mul, zi_neg, zi_lt, zi_inj, zi_clamp, zl_of, gi_zi, bd_s, ltf, bi_0, bi_1, gb_bi, Int.reduceToNat, Int.reduceNeg, Int.toNat_natCast]
    rw [if_neg (by omega)]
  | succ q ih =>
    intro n k c hk hn h0 h1 hl
    obtain ⟨n, rfl⟩ : ∃ f, n = f + 1 := ⟨n - 1, by omega⟩
    have hx : (k : Int) - (k : Int) / 9 * 9 = xo k := by
      unfold xo
      omega
    have hy : (k : Int) / 9 = yo k := by
      unfold yo
      omega
    have hxb : 0 ≤ xo k ∧ xo k ≤ 100 := by
      rw [← hx]
      omega
    have hyb : 0 ≤ yo k ∧ yo k ≤ 100 := by
      rw [← hy]
      omega
    have ho := b_oww fu h0 h1 hz hxb hyb
    have hm : msk (opE s (xo k) (yo k)) = msk (op s k) := msk_cg (fun e he => (op_E hw k e he).symm)
    rw [hm] at ho
    obtain ⟨c2, a1, a2, a3⟩ := ih n (k + 1) (mw c 2 k (msk (op s k))) (by omega) (by omega) (by rw [rd_mw, if_neg (fun h => absurd h.1 (by decide))]; exact h0) (by rw [rd_mw, if_neg (fun h => absurd h.1 (by decide))]; exact h1) (fun u hu => by
      rw [rd_mw]
      by_cases e : u = k
      · rw [if_pos ⟨rfl, e⟩, e]
      · rw [if_neg (fun h => e h.2)]
        exact hl u (by omega))
    refine ⟨c2, ?_, a2, Fr_tr (Fr_mw _ _ rfl) a3⟩
    have hdv : zi (k : Int) / zi 9 = zi (yo k) := by
      rw [zi_div (by omega) (by omega) (by omega) (by omega), hy]
    have hmd : zi (k : Int) - zi (k : Int) / zi 9 * zi 9 = zi (xo k) := by
      rw [hdv, zi_mul, zi_sub, ← hy, ← hx]
    have e9 : (9 : Int32) = zi 9 := rfl
    have ik : (zi (k : Int)).toNatClampNeg = k := by
      rw [zi_clamp (by omega) (by omega)]
      exact Int.toNat_natCast k
    rw [K_B_clear_25, e9, hmd, hdv, ltf, ltf, ho, bd_s, ik, ltf, gi_zi (by omega) (by omega) (by decide)]
    have i81 : zi (k : Int) < 81 := by
      have : (zi (k : Int) < zi 81) = ((k : Int) < 81) := zi_lt (by omega) (by omega) (by omega) (by omega)
      exact this.mpr (by omega)
    have e1 : zi (k : Int) + 1 = zi ((k + 1 : Nat) : Int) := zi_add (k : Int) 1
    rw [if_pos i81, e1]
    exact a1
theorem b_clear (fu : Nat) (hfu : 1000 ≤ fu) : ∃ c, K_B_clear fu 5 5 (fun _ => z0) = some c ∧ rd c 0 0 = zi 5 ∧ rd c 0 1 = zi 5 ∧ rd c 0 2 = zi 0 ∧ (∀ j, j < 64 → rd c 1 j = -1) ∧ ∀ u, u < 81 → rd c 2 u = msk (op s00 u) := by
  have hz : szO s00 := s00_inv.1.1
  obtain ⟨c1, hc1⟩ : ∃ c1, c1 = mw (mw (mw (fun _ => z0) 0 0 5) 0 1 5) 0 2 0 := ⟨_, rfl⟩
  obtain ⟨c2, a1, a2, a3⟩ := c_fill fu 1 64 (-1) (by omega) (by decide) c1
  have b0 : rd c1 0 0 = zi 5 := by rw [hc1]; rfl
  have b1 : rd c1 0 1 = zi 5 := by rw [hc1]; rfl
  have b2 : rd c1 0 2 = zi 0 := by rw [hc1]; rfl
  have g : ∀ j, rd c2 0 j = rd c1 0 j := fun j => a3.1 _ _ rfl
  obtain ⟨c3, d1, d2, d3⟩ := b_cl25 fu (s := s00) hz (fun j hj => if_neg (by omega)) 81 fu 0 c2 (by omega) (by omega) ((g 0).trans b0) ((g 1).trans b1) (fun u hu => absurd hu (Nat.not_lt_zero u))
  refine ⟨c3, ?_, (d3.1 _ _ rfl).trans ((g 0).trans b0), (d3.1 _ _ rfl).trans ((g 1).trans b1), (d3.1 _ _ rfl).trans ((g 2).trans b2), fun j hj => ?_, d2⟩
  · unfold K_B_clear
    rw [ltf, ltf, ltf, ← hc1, a1, bd_s]
    exact d1
  · rw [d3.1 _ _ rfl, a2, if_pos hj]
theorem TXl_of {T : Nat → Int} : ∀ (l : List Nat) (j : Nat), (∀ i, i < l.length → T (j + i) = ((l.getD i 32 : Nat) : Int)) → TXl T j l := by
  intro l
  induction l with
  | nil => exact fun _ _ => trivial
  | cons a l ih =>
    intro j h
    refine ⟨h 0 (Nat.succ_pos _), ih (j + 1) (fun i hi => ?_)⟩
    have := h (i + 1) (Nat.succ_lt_succ hi)
    rw [show j + 1 + i = j + (i + 1) by omega]
    exact this
theorem PX_no {k j : Nat} (h : k = 28 ∨ k = 33) : PXc k j = false := by
  unfold PXc PSc PTk ZR
  simp only [Bool.or_eq_false_iff, Bool.and_eq_false_iff, beq_eq_false_iff_ne, ne_eq, decide_eq_false_iff_not]
  omega
theorem PS_no {k j : Nat} (h : k = 28 ∨ k = 33) : PSc k j = false := PXc_1 (PX_no h)
theorem read_tot {fu : Nat} (hfu : 1000 ≤ fu) {m1 : Mem} {T : Nat → Int} {tx : List Nat} {k np : Nat} {s : Nat → Int} {b1 b2 : Bool} {w : Int} (hX : TXc m1 T tx.length) (hl : tx.length ≤ 400) (hT : TXl T 0 tx) (hR : RT fu tx k s np b1 b2 w) (hk : k ≤ 100) (hI : InvR s) (h2 : s 2 = (np : Int)) (h280 : rd m1 28 0 = 0) (h281 : rd m1 28 1 = 1) (h33 : rd m1 33 1 = 0) : ∃ m2, K_X11_readText fu m1 = some (0, nI np, m2) ∧ CQ m2 s 0 (fun _ _ => 0) := by
  obtain ⟨c2, N, a1, a2, a3, ⟨y2, y3, y4⟩, f1⟩ := p_readC fu hfu hX
  obtain ⟨g, hg⟩ : ∃ g, fu = g + 1 + k := ⟨fu - k - 1, by omega⟩
  obtain ⟨c3, n, nm, e1, e2, e3⟩ := hR (g + 1) tx.length N T c2 hT (Nat.le_refl _) (by omega) a2 a3 ⟨y2, y3, y4⟩
  obtain ⟨c4, d1, d2, d3⟩ := r_end (fu := fu) e2 rfl (f := g) (k := k) (by omega)
  have hrace : K_X7_readRace fu m1 = some (1, c4) := by
    rw [a1]
    have e1' : K_X7_readRace_31 fu fu (zi 0) c2 = K_X7_readRace_31 fu (g + 1) (zi (k : Int)) c3 := by
      rw [← e1, ← hg]
    exact e1'.trans d1
  obtain ⟨m3, o1, o2, o3⟩ := c_copy fu hfu (r := 0) (r1 := 1) (by decide) (mem := mw c4 2 1 0) (s := s) (RC_fr2 (P := fun k _ => k == 2) (Fr_mw _ _ rfl) (fun k j p q => by simp only [beq_eq_false_iff_ne, ne_eq]; omega) d2)
  have hm4 : Fr (fun k j => k == 33 && j == 2) m3 (mw m3 33 2 0) := Fr_mw _ _ rfl
  have hm4n : ∀ k j, ¬ (k = 33 ∧ j = 2) → (fun k j => k == 33 && j == 2 : Nat → Nat → Bool) k j = false := fun k j h => by
    simp only [Bool.and_eq_false_iff, beq_eq_false_iff_ne, ne_eq]
    omega
  have hRC : RC (mw m3 33 2 0) 0 s := RC_fr2 hm4 (fun k j p q => hm4n k j (by omega)) o2
  have keep : ∀ k j, k = 28 ∨ k = 33 → ¬ (k = 33 ∧ j = 2) → rd (mw m3 33 2 0) k j = rd m1 k j := fun k j h h' => by
    rw [hm4.1 _ _ (hm4n k j h'), o3.1 _ _ (by unfold ZR; simp only [Bool.and_eq_false_iff, decide_eq_false_iff_not]; omega), rd_mw, if_neg (by omega), d3.1 _ _ (P2_no (by omega)), e3.1 _ _ (PS_no h), f1.1 _ _ (PX_no h)]
  refine ⟨mw m3 33 2 0, ?_, hRC, ⟨0, 1, (keep 28 0 (Or.inl rfl) (by decide)).trans h280, (keep 28 1 (Or.inl rfl) (by decide)).trans h281, by decide⟩, hI.1, by decide, ⟨0, by decide, (keep 33 1 (Or.inr rfl) (by decide)).trans h33, by rw [rd_mw, if_pos ⟨rfl, rfl⟩]; rfl, fun i hi => absurd hi (Nat.not_lt_zero i)⟩, fun i hi => absurd hi (Nat.not_lt_zero i)⟩
  have r2 : rd (mw m3 33 2 0) (pRace 0) 2 = nI np := by rw [hRC.2.1.1, h2, nI_zi]
  unfold K_X11_readText K_X3_forget
  rw [hrace, bd_s, ltf]
  dsimp only
  rw [if_neg (show ¬ (1 : Int32) = 0 by decide), o1, bd_s, ltf, bd_s, r2]
theorem math : MATH := fun L xs hL => by
  obtain ⟨memB, hB, _⟩ := b_clear 100000 (by decide)
  obtain ⟨⟨np, nb, memW, tx⟩, hgr, ⟨g1, g2, g3⟩, s, o, hG, hs3, hlen⟩ := grown_tot (xs := xs) (fu := 100000) hL (Nat.le_refl _)
  have g1' : np ≤ 4 := g1
  have g2' : nb ≤ 4 := g2
  have g3' : np = 0 → nb = 0 := g3
  have hlen' : tx.length ≤ 300 := hlen
  obtain ⟨⟨hLW, hI, hXO, hsm, hbn⟩, ⟨k, b1, b2, hT, hk⟩, hc, hl, hw⟩ := hG
  have hc' : ∀ c ∈ tx, c < 128 := hc
  have hT' : RT 100000 tx k s np b1 b2 o := hT
  have hk' : k ≤ 2 + np + nb + (s 3).toNat := hk
  obtain ⟨gg, hgg⟩ : ∃ gg : Nat → Nat, gg = fun i => tx.getD i 32 := ⟨_, rfl⟩
  have h128 : ∀ i, gg i < 128 := fun i => by
    rw [hgg]
    show tx.getD i 32 < 128
    rw [List.getD_eq_getElem?_getD]
    cases hq : tx[i]? with
    | none => exact (by decide : 32 < 128)
    | some c => exact hc' c (List.mem_of_getElem? hq)
  have hfch : ∀ i, fch tx i = nI (gg i) := fun i => by rw [hgg]; rfl
  obtain ⟨m1, f1, f2, f3, f4⟩ := feedL_tot 100000 (by decide) hfch h128 (by omega) 21 0 (mJ (mC0 memB) memW) (fun _ => rfl) (by omega) (by omega) ⟨rfl, fun i hi => absurd hi (Nat.not_lt_zero i)⟩
  have hlw : lwM m1 = memW := by
    rw [f4]
    funext j
    show mJ (mC0 memB) memW (255 + j) = memW j
    unfold mJ
    rw [if_neg (by omega), Nat.add_sub_cancel_left]
  have hX : TXc m1 (fun i => (gg i : Int)) tx.length := ⟨fun i => ⟨Int.natCast_nonneg _, by have := h128 i; show (gg i : Int) ≤ 255; omega⟩, by omega, f2.1, fun i hi => by
    rw [f2.2 i hi]
    unfold sgn8
    have := h128 i
    rw [if_pos (by show (gg i : Int) < 128; omega)]⟩
  have hTX : TXl (fun i => (gg i : Int)) 0 tx := TXl_of tx 0 (fun i hi => by rw [Nat.zero_add, hgg])
  have pf : ∀ k j, k = 28 ∨ k = 33 → PFc k j = false := fun k j h => by
    unfold PFc
    simp only [Bool.or_eq_false_iff, Bool.and_eq_false_iff, beq_eq_false_iff_ne, ne_eq]
    omega
  obtain ⟨m2, r1, r2⟩ := read_tot (fu := 100000) (by decide) hX (by omega) hTX hT' (by omega) hI hLW.1.1 ((f3.1 _ _ (pf 28 0 (Or.inl rfl))).trans rfl) ((f3.1 _ _ (pf 28 1 (Or.inl rfl))).trans rfl) ((f3.1 _ _ (pf 33 1 (Or.inr rfl))).trans rfl)
  have hJ : JQ np nb (mset 0 255 m1 m2) s 0 (fun _ _ => 0) := ⟨CQ_c r2, by
    rw [lw_mc, hlw]
    exact ⟨hLW, hI.1.1, hsm, hbn, g1', g2'⟩, hXO⟩
  exact ⟨100000, np, nb, memB, memW, m1, m2, tx, 1, hB, hgr, ⟨g1', g2', g3'⟩, hc', by omega, f1, by decide, r1, it_all (Nat.le_refl _) hL g3' 8 9 0 _ s 0 (fun _ _ => 0) rfl (by decide) hJ⟩
end TAA
