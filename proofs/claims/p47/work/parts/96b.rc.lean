section RCC
theorem stBr_len {k d : Nat} {q : Nat → Nat} (hd : d < 4) : (stBr k d q).length ≤ 22 := by
  have t5 : (tcs (19 + d)).length ≤ 5 := by
    rcases (show d = 0 ∨ d = 1 ∨ d = 2 ∨ d = 3 by omega) with rfl | rfl | rfl | rfl <;> decide
  unfold stBr
  split
  · decide
  · split
    · decide
    · split
      · rw [List.length_append]
        show _ + 14 ≤ 22
        omega
      · rw [List.length_append]
        show _ + 17 ≤ 22
        omega
theorem stBan_len {p k d : Nat} {q : Nat → Nat} (hp : p < 4) (hd : d < 4) : (stBan p k d q).length ≤ 30 := by
  obtain ⟨n1, ⟨n2, n2'⟩, n3⟩ := nmL_ok hp
  have := stBr_len (k := k) (q := q) hd
  unfold stBan
  rw [List.length_append, List.length_append, List.length_append, List.length_append]
  show 3 + (1 + ((nmL p).length + (1 + (stBr k d q).length))) ≤ 30
  omega
theorem stBr_128 {k d : Nat} {q : Nat → Nat} (hq : ∀ i, q i ≤ 9) : ∀ c ∈ stBr k d q, c < 128 := by
  have h3 := hq 3
  have h4 := hq 4
  have h5 := hq 5
  have h6 := hq 6
  unfold stBr
  split
  · decide
  · split
    · decide
    · split
      · refine st128 (tcs_128 _) (st128 (by decide) (st128 (by decide) (st128 ?_ (st128 (by decide) ?_)))) <;> intro c hc <;> simp only [List.mem_cons, List.not_mem_nil, or_false] at hc <;> omega
      · refine st128 (tcs_128 _) (st128 (by decide) (st128 (by decide) (st128 ?_ (st128 (by decide) ?_)))) <;> intro c hc <;> simp only [List.mem_cons, List.not_mem_nil, or_false] at hc <;> omega
theorem bnTx_eq (p : Nat) (tx : List Nat) : bnTx p tx = tx ++ ([98, 97, 110] ++ ([32] ++ (nmL p ++ [32]))) := by
  unfold bnTx nmL
  by_cases q : p % 2 = 1
  · rw [if_pos q, if_pos q]
    simp [tcs, List.append_assoc]
  · rw [if_neg q, if_neg q]
    simp [tcs, List.append_assoc]
theorem stBan_eq (p k d : Nat) (q : Nat → Nat) (tx : List Nat) : tx ++ stBan p k d q = bnTx p tx ++ stBr k d q := by
  rw [bnTx_eq]
  unfold stBan
  simp [List.append_assoc]
def q2 (b3 b4 : Nat) : Nat → Nat := fun i => if i = 3 then b3 else if i = 4 then b4 else 0
def q4 (x1 y1 x2 y2 : Nat) : Nat → Nat := fun i => if i = 3 then x1 else if i = 4 then y1 else if i = 5 then x2 else if i = 6 then y2 else 0
/-- a ban's growing, told by its numbers -/
theorem BnG_q {np nb W H : Nat} {mem mem2 : Mem} {tx tx2 : List Nat} {nb2 : Nat} (hW : W ≤ 9) (hH : H ≤ 9) (h : BnG np nb W H mem tx nb2 mem2 tx2) : nb2 = nb + 1 ∧ ∃ (p k d : Nat) (q : Nat → Nat) (m5 : Mem) (r : Nat → Int32), p < np ∧ k < 4 ∧ d < 4 ∧ sameW mem m5 ∧ mem2 = gM m5 (14 + np + nb) 2 (r, fun _ => 0) ∧ (∀ i, i < 7 → r i = zi (gBr p k d q i)) ∧ (∀ i, q i ≤ 9) ∧ ((k = 2 → (2 ≤ q 3 ∧ q 3 ≤ 5) ∧ q 4 < q 3) ∧ (k = 3 → (q 3 < W ∧ q 4 < H) ∧ q 5 < W ∧ q 6 < H)) ∧ tx2 = tx ++ stBan p k d q := by
  obtain ⟨h1, p, k, d, m5, r, hp, hk, hd, e, e2, hr⟩ := h
  refine ⟨h1, ?_⟩
  rcases hr with ⟨rfl, rfl, rfl⟩ | ⟨rfl, rfl, rfl⟩ | ⟨rfl, b3, b4, g1, g2, g3, rfl, rfl⟩ | ⟨rfl, x1, y1, x2, y2, g1, g2, g3, g4, rfl, rfl⟩
  · refine ⟨p, 0, d, fun _ => 0, m5, _, hp, hk, hd, e, e2, fun i hi => ?_, fun _ => Nat.zero_le 9, ⟨fun h => absurd h (by decide), fun h => absurd h (by decide)⟩, ?_⟩
    · rcases (show i = 0 ∨ i = 1 ∨ i = 2 ∨ i = 3 ∨ i = 4 ∨ i = 5 ∨ i = 6 by omega) with rfl | rfl | rfl | rfl | rfl | rfl | rfl
      · exact nI_zi p
      · rfl
      · exact nI_zi d
      · rfl
      · rfl
      · rfl
      · rfl
    · rw [stBan_eq]
      rfl
  · refine ⟨p, 1, d, fun _ => 0, m5, _, hp, hk, hd, e, e2, fun i hi => ?_, fun _ => Nat.zero_le 9, ⟨fun h => absurd h (by decide), fun h => absurd h (by decide)⟩, ?_⟩
    · rcases (show i = 0 ∨ i = 1 ∨ i = 2 ∨ i = 3 ∨ i = 4 ∨ i = 5 ∨ i = 6 by omega) with rfl | rfl | rfl | rfl | rfl | rfl | rfl
      · exact nI_zi p
      · rfl
      · exact nI_zi d
      · rfl
      · rfl
      · rfl
      · rfl
    · rw [stBan_eq]
      rfl
  · refine ⟨p, 2, d, q2 b3 b4, m5, _, hp, hk, hd, e, e2, fun i hi => ?_, fun i => ?_, ⟨fun _ => ?_, fun h => absurd h (by decide)⟩, ?_⟩
    · rcases (show i = 0 ∨ i = 1 ∨ i = 2 ∨ i = 3 ∨ i = 4 ∨ i = 5 ∨ i = 6 by omega) with rfl | rfl | rfl | rfl | rfl | rfl | rfl
      · exact nI_zi p
      · rfl
      · exact nI_zi d
      · exact nI_zi b3
      · exact nI_zi b4
      · rfl
      · rfl
    · unfold q2
      split
      · omega
      · split <;> omega
    · show (2 ≤ b3 ∧ b3 ≤ 5) ∧ b4 < b3
      omega
    · rw [stBan_eq]
      show _ = bnTx p tx ++ (tcs (19 + d) ++ ([32] ++ ([101, 118, 101, 114, 121] ++ ([32, 48 + b3, 32] ++ ([97, 116] ++ [32, 48 + b4, 59])))))
      generalize tcs (19 + d) = ts
      generalize bnTx p tx = bt
      simp [tcs, List.append_assoc]
  · refine ⟨p, 3, d, q4 x1 y1 x2 y2, m5, _, hp, hk, hd, e, e2, fun i hi => ?_, fun i => ?_, ⟨fun h => absurd h (by decide), fun _ => ⟨⟨g1, g2⟩, g3, g4⟩⟩, ?_⟩
    · rcases (show i = 0 ∨ i = 1 ∨ i = 2 ∨ i = 3 ∨ i = 4 ∨ i = 5 ∨ i = 6 by omega) with rfl | rfl | rfl | rfl | rfl | rfl | rfl
      · exact nI_zi p
      · rfl
      · exact nI_zi d
      · exact nI_zi x1
      · exact nI_zi y1
      · exact nI_zi x2
      · exact nI_zi y2
    · unfold q4
      split
      · omega
      · split
        · omega
        · split
          · omega
          · split <;> omega
    · rw [stBan_eq]
      show _ = bnTx p tx ++ (tcs (19 + d) ++ ([32] ++ ([102, 114, 111, 109] ++ ([32, 48 + x1, 32, 48 + y1, 32] ++ ([116, 111] ++ [32, 48 + x2, 32, 48 + y2, 59])))))
      generalize tcs (19 + d) = ts
      generalize bnTx p tx = bt
      simp [tcs, List.append_assoc]
theorem GI_ban {fu np nb W H o : Nat} {mem mem2 : Mem} {tx tx2 : List Nat} {s : Nat → Int} {nb2 : Nat} (hfu : 1000 ≤ fu) (hnp : np ≤ 4) (hnb : nb < 4) (h : GI fu np nb mem tx s (o : Int)) (h3 : s 3 = 0) (h0 : s 0 = (W : Int)) (h1 : s 1 = (H : Int)) (hP : BnG np nb W H mem tx nb2 mem2 tx2) : nb2 = nb + 1 ∧ ∃ s2, GI fu np nb2 mem2 tx2 s2 (o : Int) ∧ s2 0 = s 0 ∧ s2 1 = s 1 ∧ s2 3 = s 3 := by
  have hsm0 := h.1.2.2.2.1
  obtain ⟨q1', q2'⟩ := hsm0
  obtain ⟨rfl, p, k, d, q, m5, r, hp, hk, hd, e, rfl, hr, hq9, ⟨hq2, hq3⟩, rfl⟩ := BnG_q (by omega) (by omega) hP
  obtain ⟨⟨hL, hI, hX, hsm, hbn⟩, ⟨kk, b1, b2, hT, hkk⟩, hc, hl, hw⟩ := GI_same h e
  have h2 := hL.1.1
  have h6 := hL.1.2
  have hq : bnQ s k q := ⟨fun hk2 => hq2 hk2, fun hk3 => by
    have := hq3 hk3
    have := hq9 3
    have := hq9 4
    have := hq9 5
    have := hq9 6
    omega⟩
  have hT2 := RT_ban hfu (by omega) hI hnp (b := nb) (by omega) h6 hp hk hd hq hT
  have e2 : ∀ j, j ≠ 6 → j < 36 ∨ 120 ≤ j → up1 (rwB s nb (gBr p k d q)) 6 (s 6 + 1) j = s j := fun j a q => (up1_ne a).trans (rw_ne (by omega))
  have E0 := e2 0 (by decide) (by decide)
  have E1 := e2 1 (by decide) (by decide)
  have E3 := e2 3 (by decide) (by decide)
  refine ⟨rfl, up1 (rwB s nb (gBr p k d q)) 6 (s 6 + 1), ⟨⟨LW_gb hL hnp (by omega) hr, InvR_bn hI (by omega) h6 (bnO_q (by omega) hk hd hq), XO_bn hX (by omega) (by omega), ⟨by rw [E0]; exact hsm.1, by rw [E1]; exact hsm.2⟩, fun b b0 b1' => ?_⟩, ⟨kk + 1, b1, b2, hT2, by rw [E3]; omega⟩, st128 hc ?_, ?_, hw⟩, E0, E1, E3⟩
  · rw [up1_eq] at b1'
    by_cases w : b = nb
    · intro i i0 i6
      obtain ⟨j, rfl⟩ : ∃ j : Nat, i = (j : Int) := ⟨i.toNat, by omega⟩
      have : bg (up1 (rwB s nb (gBr p k d q)) 6 (s 6 + 1)) b (j : Int) = gBr p k d q j := by
        rw [w]
        exact (up1_ne (by omega)).trans (rw_bg (by omega))
      rw [this]
      have := hq9 j
      unfold gBr
      split
      · omega
      · split
        · omega
        · split <;> omega
    · intro i i0 i6
      have : bg (up1 (rwB s nb (gBr p k d q)) 6 (s 6 + 1)) b i = bg s b i := by
        refine (up1_ne (by omega)).trans ?_
        exact rw_bo b0 ⟨i0, i6⟩ w
      rw [this]
      exact hbn b b0 (by omega) i i0 i6
  · unfold stBan
    exact st128 (by decide) (st128 (by decide) (st128 (nm128 (by omega)) (st128 (by decide) (stBr_128 hq9))))
  · rw [List.length_append, E3]
    have := stBan_len (p := p) (k := k) (d := d) (q := q) (by omega) hd
    omega
end RCC
