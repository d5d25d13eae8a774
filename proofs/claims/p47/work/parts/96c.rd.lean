section RDD
theorem w_isAdm2 {np nb fu : Nat} (hfu : 100000 ≤ fu) {m : Mem} {s : Nat → Int} (h : LvD np nb m s) {x y w : Int} (hpl : isPl s x y = true) (hw : w = 1 ∨ w = 2) : ∃ m2, KW_isAdmissible np nb fu (zi x) (zi y) (zi w) m = some (zi (bi (adB s x y w)), m2) ∧ LvD np nb m2 s ∧ ∀ j, rd m2 0 j = rd m 0 j := by
  have h' := h
  obtain ⟨hS, hz, hsm, hW, hc, hp, h7, h8⟩ := h'
  have hz2 := hz
  obtain ⟨⟨hw1, hw2⟩, hh1, hh2⟩ := hz2
  obtain ⟨⟨x1, x2⟩, y1, y2⟩ := isPl_iff.mp hpl
  have v0 := wg_le hW hz x y
  have v1 := wg_le hW hz (x - 1) y
  have v2 := wg_le hW hz (x + 1) y
  have v3 := wg_le hW hz x (y - 1)
  have v4 := wg_le hW hz x (y + 1)
  have e69 : hrB s x y w = true → ∃ m2, KW_isAdmissible_69 np nb fu (zi x) (zi y) (zi w) m = some (zi (bi (adB s x y w)), m2) ∧ LvD np nb m2 s ∧ ∀ j, rd m2 0 j = rd m 0 j := fun hr => by
    have h0 := hr_0 hpl hr
    have g := LvD_sw h (x := x) (y := y) ⟨x1, by omega⟩ ⟨y1, by omega⟩ (v := w) (by omega)
    have g2 := w_ad84 hfu g (x := x) (y := y) ⟨x1, by omega⟩ ⟨y1, by omega⟩ np 5 0 true (by omega) (by omega) ⟨fun _ p h1 h2 => by omega, fun _ => rfl⟩
    refine ⟨mw (mw m (4 + y.toNat) x.toNat (zi w)) (4 + y.toNat) x.toNat 0, ?_, ?_⟩
    · unfold KW_isAdmissible_69 adB
      rw [gi_zi (by omega) (by omega) (by omega), gi_zi (by omega) (by omega) (by omega), ltf, zi_clamp (by omega) (by omega), zi_clamp (by omega) (by omega), hr, Bool.true_and]
      exact g2
    · exact ⟨⟨LW_sw0 h7 h8 g.1 ⟨x1, by omega⟩ ⟨y1, by omega⟩ h0, hz, hsm, hW, hc, hp, h7, h8⟩, fun j => by rw [rd_mw, if_neg (by omega), rd_mw, if_neg (by omega)]⟩
  have no : hrB s x y w = false → (zi (bi (adB s x y w)) : Int32) = 0 := fun hr => by
    unfold adB
    rw [hr, Bool.false_and]
    rfl
  unfold KW_isAdmissible KW_isAdmissible_38
  rw [show (1 : Int32) = zi 1 from rfl, show (0 : Int32) = zi 0 from rfl, show (2 : Int32) = zi 2 from rfl, zi_sub, zi_add, zi_sub, zi_add]
  rw [w_wall hS.2.1 hz (by omega) (by omega) (by omega) (by omega), w_wall hS.2.1 hz (by omega) (by omega) (by omega) (by omega), w_wall hS.2.1 hz (by omega) (by omega) (by omega) (by omega), w_wall hS.2.1 hz (by omega) (by omega) (by omega) (by omega), w_wall hS.2.1 hz (by omega) (by omega) (by omega) (by omega), bd_s, bd_s, bd_s, bd_s, bd_s]
  by_cases c0 : wg s x y = 0
  · rw [if_pos (congrArg zi c0)]
    rcases hw with rfl | rfl
    · rw [if_pos rfl, if_neg (show ¬ (zi 1 = zi 2) by decide)]
      by_cases c1 : wg s (x - 1) y = 1
      · rw [if_pos (congrArg zi c1)]
        exact ⟨m, by rw [no (by unfold hrB; simp [c0, c1])]; rfl, h, fun _ => rfl⟩
      · rw [if_neg (fun e => c1 ((zi_inj (by omega) (by omega) (by omega) (by omega)).mp e))]
        by_cases c2 : wg s (x + 1) y = 1
        · rw [if_pos (congrArg zi c2)]
          exact ⟨m, by rw [no (by unfold hrB; simp [c0, c2])]; rfl, h, fun _ => rfl⟩
        · rw [if_neg (fun e => c2 ((zi_inj (by omega) (by omega) (by omega) (by omega)).mp e))]
          exact e69 (by unfold hrB; simp [c0, c1, c2])
    · rw [if_neg (show ¬ (zi 2 = zi 1) by decide), if_pos rfl]
      by_cases c1 : wg s x (y - 1) = 2
      · rw [if_pos (congrArg zi c1)]
        exact ⟨m, by rw [no (by unfold hrB; simp [c0, c1])]; rfl, h, fun _ => rfl⟩
      · rw [if_neg (fun e => c1 ((zi_inj (by omega) (by omega) (by omega) (by omega)).mp e))]
        by_cases c2 : wg s x (y + 1) = 2
        · rw [if_pos (congrArg zi c2)]
          exact ⟨m, by rw [no (by unfold hrB; simp [c0, c2])]; rfl, h, fun _ => rfl⟩
        · rw [if_neg (fun e => c2 ((zi_inj (by omega) (by omega) (by omega) (by omega)).mp e))]
          exact e69 (by unfold hrB; simp [c0, c1, c2])
  · rw [if_neg (fun e => c0 ((zi_inj (by omega) (by omega) (by omega) (by omega)).mp e))]
    exact ⟨m, by rw [no (by unfold hrB; simp [c0])]; rfl, h, fun _ => rfl⟩
theorem nI_m1 (k : Nat) (h : k + 1 < 2 ^ 31) : nI (k + 1) + (-1) = nI k := by
  rw [nI_zi, nI_zi, show (-1 : Int32) = zi (-1) from rfl, zi_add]
  exact congrArg zi (by omega)
theorem stBk_len {x y w : Nat} (hw : w = 0 ∨ w = 1) : (stBk x y w).length ≤ 19 := by
  rcases hw with rfl | rfl
  · exact (by decide : 16 ≤ 19)
  · exact (by decide : 19 ≤ 19)
theorem stBk_128 {x y w : Nat} (hx : x < 10) (hy : y < 10) : ∀ c ∈ stBk x y w, c < 128 := by
  unfold stBk
  refine st128 (st128 (st128 (st128 (tcs_128 _) ?_) (tcs_128 _)) ?_) (tcs_128 _) <;> intro c hc <;> simp only [List.mem_cons, List.not_mem_nil, or_false] at hc <;> omega
theorem block_tot {L : Nat} {xs : Nat → Int32} {fu np nb a : Nat} {o : Int} {mem : Mem} {tx : List Nat} {s : Nat → Int} (hL : L ≤ 260) (hfu : 100000 ≤ fu) (hnp : np ≤ 4) (hnb : nb ≤ 4) (h : GI fu np nb mem tx s o) (h3 : s 3 ≤ 3) (hlen : tx.length ≤ 300) (h10 : rd mem 0 10 = nI a) (ha : a + 3 < 2 ^ 31) : ∃ mem2 tx2 s2 a2, KG_block L xs fu np nb mem tx = some (mem2, tx2) ∧ GI fu np nb mem2 tx2 s2 o ∧ rd mem2 0 10 = nI a2 ∧ a2 ≤ a + 3 ∧ (s2 0 = s 0 ∧ s2 1 = s 1) ∧ s 3 ≤ s2 3 ∧ s2 3 ≤ s 3 + 1 := by
  have hL0 := h.1.1
  have hz := h.1.2.1.1.1.1
  have hsm := h.1.2.2.2.1
  have hz2 := hz
  obtain ⟨⟨z1, z2⟩, z3, z4⟩ := hz2
  obtain ⟨sm1, sm2⟩ := hsm
  obtain ⟨W, hW⟩ : ∃ W : Nat, s 0 = (W : Int) := ⟨(s 0).toNat, by omega⟩
  obtain ⟨H, hH⟩ : ∃ H : Nat, s 1 = (H : Int) := ⟨(s 1).toNat, by omega⟩
  have e0 : rd mem 0 0 - 1 = nI (W - 1) := by
    rw [hL0.2.1.1, hW, nI_zi, show (1 : Int32) = zi 1 from rfl, zi_sub]
    exact congrArg zi (by omega)
  obtain ⟨x, m1, g1, e1, s1, t1⟩ := nx_w L xs fu (k := W - 1) h10 (by omega) hL (by omega) (by omega)
  have e0' : rd m1 0 1 - 1 = nI (H - 1) := by
    rw [s1 0 1 (by decide), hL0.2.1.2.1, hH, nI_zi, show (1 : Int32) = zi 1 from rfl, zi_sub]
    exact congrArg zi (by omega)
  obtain ⟨y, m2, g2, e2, s2, t2⟩ := nx_w L xs fu (k := H - 1) t1 (by omega) hL (by omega) (by omega)
  obtain ⟨w, m3, g3, e3, s3, t3⟩ := nx_w L xs fu (k := 2) t2 (by omega) hL (by omega) (by omega)
  have hG := GI_same h (sameW_tr s1 (sameW_tr s2 s3))
  obtain ⟨⟨hL3, hI, hX, hsm, hbn⟩, ⟨k, b1, b2, hT, hk⟩, hc, hl, hw⟩ := hG
  have hpl : isPl s (x : Int) (y : Int) = true := isPl_iff.mpr ⟨by omega, by omega⟩
  have hD : LvD np nb m3 s := ⟨hL3, hz, hsm, hI.1.1.2.2.1, hI.1.1.2.1, hI.1.1.2.2.2.1, hnp, hnb⟩
  obtain ⟨m4, f1, f2, f3⟩ := w_isAdm2 (fu := fu) hfu hD hpl (w := (w : Int) + 1) (by omega)
  have ew : (1 : Int32) + nI w = zi ((w : Int) + 1) := by
    rw [nI_zi, show (1 : Int32) = zi 1 from rfl, zi_add]
    exact congrArg zi (by omega)
  have t4 : rd m4 0 10 = nI (a + 1 + 1 + 1) := (f3 10).trans t3
  have go : KG_block L xs fu np nb mem tx = (if zi (bi (adB s (x : Int) (y : Int) ((w : Int) + 1))) = 0 then some (m4, tx) else KG_bk (zi (x : Int)) (zi (y : Int)) (zi ((w : Int) + 1)) m4 tx) := by
    unfold KG_block
    rw [e0, e1, bd_s]
    dsimp only
    rw [e0', e2, bd_s]
    dsimp only
    rw [show (2 : Int32) = nI 2 from rfl, e3, bd_s]
    dsimp only
    rw [ew, nI_zi, nI_zi, f1, bd_s]
  cases had : adB s (x : Int) (y : Int) ((w : Int) + 1) with
  | false =>
    rw [had, if_pos (show zi (bi false) = 0 from rfl)] at go
    exact ⟨m4, tx, s, _, go, ⟨⟨f2.1, hI, hX, hsm, hbn⟩, ⟨k, b1, b2, hT, hk⟩, hc, hl, hw⟩, t4, by omega, ⟨rfl, rfl⟩, Int.le_refl _, by omega⟩
  | true =>
    rw [had, if_neg (show ¬ zi (bi true) = 0 by decide)] at go
    have h24 := hI.1.1.2.1.1
    have hp0 := hI.1.1.2.1.2.2.1
    obtain ⟨hI', hE'⟩ := InvR_sw3 hI hpl (v := (w : Int) + 1) (by omega) had (by omega)
    have h00 := hr_0 hpl (by
      have := had
      unfold adB at this
      rw [Bool.and_eq_true] at this
      exact this.1)
    have hT2 := RT_block (x := x) (y := y) (w := w) (by omega) (by omega) hI (by omega) (by omega) hpl (by omega) (by omega) had hT
    have hbk : KG_bk (zi (x : Int)) (zi (y : Int)) (zi ((w : Int) + 1)) m4 tx = some (mw m4 (4 + y) x (zi ((w : Int) + 1)), tx ++ stBk x y w) := by
      have w1 : (zi ((w : Int) + 1) = (1 : Int32)) = ((w : Int) + 1 = 1) := zi_inj (b_ := 1) (by omega) (by omega) (by decide) (by decide)
      unfold KG_bk
      rw [if_pos hlen, gi_zi (by omega) (by omega) (by omega), gi_zi (by omega) (by omega) (by omega), ← nI_zi, ← nI_zi, gBk_nI (by omega), bd_s, gBk_nI (by omega), bd_s, nI_clamp (by omega), nI_clamp (by omega)]
      have : (if zi ((w : Int) + 1) = 1 then 17 else 18) = (if w = 0 then 17 else 18) := by
        by_cases q : w = 0
        · rw [if_pos q, if_pos (w1.mpr (by omega))]
        · rw [if_neg q, if_neg (fun h => q (by have := w1.mp h; omega))]
      rw [this]
      unfold stBk
      simp only [List.append_assoc]
    rw [hbk] at go
    have hE0 := hE' 0 (by decide) (by decide)
    have hE1 := hE' 1 (by decide) (by decide)
    have hs3 : sw3 s (x : Int) (y : Int) ((w : Int) + 1) 3 = s 3 + 1 := rfl
    have hLn : LW np nb (mw m4 (4 + y) x (zi ((w : Int) + 1))) (sw3 s (x : Int) (y : Int) ((w : Int) + 1)) := by
      have := LW_sw f2.1 hnp hnb (x := (x : Int)) (y := (y : Int)) (by omega) (by omega) ((w : Int) + 1)
      exact LW_cg this (fun j hj => sw3_ne hj)
    refine ⟨_, _, sw3 s (x : Int) (y : Int) ((w : Int) + 1), _, go, ⟨⟨hLn, hI', XO_s3 hX hz h24.2 hpl (by omega) h00 hE', ⟨by rw [hE0]; exact hsm.1, by rw [hE1]; exact hsm.2⟩, fun b b0 b1' => ?_⟩, ⟨k + 1, b1, b2, hT2, by rw [hs3]; omega⟩, st128 hc (stBk_128 (by omega) (by omega)), ?_, hw⟩, by rw [rd_mw, if_neg (by omega)]; exact t4, by omega, ⟨hE0, hE1⟩, by rw [hs3]; omega, by rw [hs3]; omega⟩
    · have h12 := hI.1.1.2.1.2.1
      rw [hE' 6 (by decide) (by decide)] at b1'
      intro i i0 i6
      have : bg (sw3 s (x : Int) (y : Int) ((w : Int) + 1)) b i = bg s b i := hE' _ (by omega) (by omega)
      rw [this]
      exact hbn b b0 b1' i i0 i6
    · rw [List.length_append, hs3]
      have := stBk_len (x := x) (y := y) (w := w) (by omega)
      omega
end RDD
