section OAA
/-- distances of cells between which a step is open -/
theorem dl_nb {s : Nat → Int} (hz : szO s) {side : Int} {u d : Nat} (hd : d < 4) (ho : op s u d = true) : (dl s side u = -1 ↔ dl s side (nbr u d) = -1) ∧ dl s side u ≤ dl s side (nbr u d) + 1 ∧ dl s side (nbr u d) ≤ dl s side u + 1 ∨ (dl s side u = -1 ∧ dl s side (nbr u d) = -1) := by
  have sy := op_sym hz hd ho
  have go : ∀ n a e, e < 4 → op s a e = true → Pth (op s) nbr (Sd s side) n a → Pth (op s) nbr (Sd s side) (n + 1) (nbr a e) := fun n a e he h hp => ⟨a, e, he, hp, h, rfl⟩
  rcases dlt_cases (op s) nbr (Sd s side) u with ⟨a1, a2⟩ | ⟨n, a1, a2⟩
  · rcases dlt_cases (op s) nbr (Sd s side) (nbr u d) with ⟨b1, b2⟩ | ⟨k, b1, b2⟩
    · exact Or.inr ⟨a1, b1⟩
    · have := go k _ _ (opp_lt d) sy.1 b1.1
      rw [sy.2] at this
      exact absurd this (a2 _)
  · rcases dlt_cases (op s) nbr (Sd s side) (nbr u d) with ⟨b1, b2⟩ | ⟨k, b1, b2⟩
    · exact absurd (go n _ _ hd ho a1.1) (b2 _)
    · have e1 : dl s side u = (n : Int) := a2
      have e2 : dl s side (nbr u d) = (k : Int) := b2
      have l1 := b1.2 _ (go n _ _ hd ho a1.1)
      have l2 := go k _ _ (opp_lt d) sy.1 b1.1
      rw [sy.2] at l2
      have l3 := a1.2 _ l2
      exact Or.inl ⟨⟨fun h => by omega, fun h => by omega⟩, by omega, by omega⟩
/-- sums that are not nothing -/
theorem sg_pos {f : Nat → Nat} : ∀ {n : Nat}, sg f n ≠ 0 → ∃ k, k < n ∧ f k ≠ 0 := by
  intro n
  induction n with
  | zero => exact fun h => absurd rfl h
  | succ n ih =>
    intro h
    rw [sg] at h
    by_cases c : f n = 0
    · obtain ⟨k, k1, k2⟩ := ih (by omega)
      exact ⟨k, by omega, k2⟩
    · exact ⟨n, by omega, c⟩
/-- ways with bans are ways -/
theorem tT_src {s : Nat → Int} {p num : Int} {N : Nat → Nat} {u d : Nat} (h : tTw s p num N u d ≠ 0) : op s u d = true ∧ ∃ l, l < 5 ∧ N (5 * u + l) ≠ 0 := by
  refine ⟨(tT_fr h).2, ?_⟩
  obtain ⟨l, l1, l2⟩ := sg_pos h
  refine ⟨l, l1, ?_⟩
  unfold cbT at l2
  split at l2
  · exact l2
  · exact absurd rfl l2
theorem wk_way {s : Nat → Int} (hz : szO s) {p : Int} (hp : pnO s p) : ∀ n j, wkN s p n j ≠ 0 → Pth (op s) nbr (fun b => b = celN s p) n (j / 5) := by
  intro n
  induction n with
  | zero =>
    intro j h
    have h' : n0W s p j ≠ 0 := h
    unfold n0W at h'
    have b5 := hp.2.2.2.2.1
    show j / 5 = celN s p
    by_cases e : (j : Int) = 5 * (celN s p : Int) + (if pg s p 5 = -1 then 4 else pg s p 5)
    · by_cases e5 : pg s p 5 = -1
      · rw [if_pos e5] at e
        omega
      · rw [if_neg e5] at e
        omega
    · rw [if_neg e] at h'
      exact absurd rfl h'
  | succ n ih =>
    intro j h
    have h' : nxW s p (pg s p 4 + (n : Int)) (wkN s p n) j ≠ 0 := h
    obtain ⟨u, u1, u2⟩ := sg_pos h'
    obtain ⟨d, d1, d2⟩ := sg_pos u2
    unfold nxU at d2
    split at d2
    · rename_i e
      rw [Bool.and_eq_true, decide_eq_true_iff] at e
      obtain ⟨o1, l, l1, l2⟩ := tT_src d2
      have := ih _ l2
      rw [show (5 * u + l) / 5 = u by omega] at this
      refine ⟨u, d, d1, this, o1, ?_⟩
      omega
    · exact absurd rfl d2
theorem wkA_way {s : Nat → Int} (hz : szO s) {p : Int} (hp : pnO s p) {n : Nat} (h : wkA s p (n + 1) ≠ 0) : ∃ v, Sd s (pg s p 2) v ∧ Pth (op s) nbr (fun b => b = celN s p) (n + 1) v := by
  have h' : arW s p (pg s p 4 + (n : Int)) (wkN s p n) ≠ 0 := h
  obtain ⟨u, u1, u2⟩ := sg_pos h'
  obtain ⟨d, d1, d2⟩ := sg_pos u2
  unfold arU at d2
  split at d2
  · rename_i e
    obtain ⟨o1, l, l1, l2⟩ := tT_src d2
    have := wk_way hz hp n _ l2
    rw [show (5 * u + l) / 5 = u by omega] at this
    have hn := op_nb hz u1 d1 o1
    exact ⟨nbr u d, ⟨hn.1, hn.2.1, e⟩, u, d, d1, this, o1, rfl⟩
  · exact absurd rfl d2
theorem Pth_src {g : Nat → Nat → Bool} {nb : Nat → Nat → Nat} {S : Nat → Prop} {a : Nat} (ha : S a) {n c : Nat} (h : Pth g nb (fun b => b = a) n c) : Pth g nb S n c := Pth_mono (fun _ _ h => h) (fun c hc => by rw [show c = a from hc]; exact ha) h
theorem lw_dst {s : Nat → Int} (hI : Inv s) {p : Int} (hp0 : 0 ≤ p) (hps : p < s 2) : lwS s p = -1 ∨ (dst s p ≤ lwS s p ∧ lwS s p ≤ 200) := by
  have hz := hI.1
  have hp := hI.2.2.2.1 p hp0 hps
  unfold lwS dst
  by_cases q : 0 < pg s p 6
  · rw [if_pos q, if_pos q]
    exact Or.inr ⟨by omega, by omega⟩
  · rw [if_neg q, if_neg q]
    have key : ∀ (r n : Nat), n + r = 200 → lwF s p r n = -1 ∨ (dl s (pg s p 2) (celN s p) ≤ lwF s p r n ∧ lwF s p r n ≤ 200) := by
      intro r
      induction r with
      | zero => exact fun n _ => Or.inl rfl
      | succ r ih =>
        intro n hn
        rw [lwF]
        by_cases c : wkA s p (n + 1) = 0
        · rw [if_pos c]
          exact ih (n + 1) (by omega)
        · rw [if_neg c]
          obtain ⟨v, v1, v2⟩ := wkA_way hz hp c
          have r1 := Pth_rev (fun u d hd hg => ⟨opp d, opp_lt d, op_sym hz hd hg⟩) v2
          have r2 := Pth_src (S := Sd s (pg s p 2)) v1 r1
          rcases dlt_cases (op s) nbr (Sd s (pg s p 2)) (celN s p) with ⟨a1, a2⟩ | ⟨k, a1, a2⟩
          · exact absurd r2 (a2 _)
          · have e1 : dl s (pg s p 2) (celN s p) = (k : Int) := a2
            have := a1.2 _ r2
            exact Or.inr ⟨by omega, by omega⟩
    exact key 200 0 rfl
/-- the cells of a way -/
theorem Pth_cells {s : Nat → Int} {side : Int} : ∀ (n c : Nat), Pth (op s) nbr (Sd s side) n c → ∃ Q : Nat → Nat, Q n = c ∧ ∀ a : Nat, (∀ k, k ≤ n → Q k ≠ a) → Pth (opa s (a : Int)) nbr (Sda s side (a : Int)) n c := by
  intro n
  induction n with
  | zero =>
    intro c h
    refine ⟨fun _ => c, rfl, fun a ha => ⟨h, ?_⟩⟩
    have := ha 0 (by omega)
    dsimp only at this
    omega
  | succ n ih =>
    intro c h
    obtain ⟨u, d, hd, hp, ho, hc⟩ := h
    obtain ⟨Q, q1, q2⟩ := ih u hp
    refine ⟨fun k => if k = n + 1 then c else Q k, if_pos rfl, fun a ha => ?_⟩
    have h1 := q2 a (fun k hk => by
      have := ha k (by omega)
      dsimp only at this
      rw [if_neg (by omega)] at this
      exact this)
    have h2 := ha (n + 1) (by omega)
    dsimp only at h2
    rw [if_pos rfl] at h2
    refine ⟨u, d, hd, h1, ?_, hc⟩
    unfold opa
    rw [ho, Bool.true_and, decide_eq_true_iff, hc]
    omega
theorem gt_dst {s : Nat → Int} (hI : Inv s) {p : Int} (hp0 : 0 ≤ p) (hps : p < s 2) : (cnB (gtB s p) 81 : Int) ≤ dst s p := by
  have hz := hI.1
  have hp := hI.2.2.2.1 p hp0 hps
  have hw := hI.2.2.2.2.2.2.2.2 p hp0 hps
  by_cases q : 0 < pg s p 6
  · have h0 : cnB (gtB s p) 81 = 0 := by
      rw [cnB_same (Q := fun _ => false) (fun k hk => by
        unfold gtB
        rw [decide_eq_false (by omega), Bool.false_and])]
      exact cnB_f 81
    unfold dst
    rw [if_pos q, h0]
    omega
  · have e0 := dst_dl hz hp
    rcases dlt_cases (op s) nbr (Sd s (pg s p 2)) (celN s p) with ⟨a1, a2⟩ | ⟨n, a1, a2⟩
    · exact absurd (e0.trans a1) hw
    · have e1 : dl s (pg s p 2) (celN s p) = (n : Int) := a2
      obtain ⟨Q, q1, q2⟩ := Pth_cells n _ a1.1
      have := cnB_cov n Q (gtB s p) 81 (fun c hc hg => by
        unfold gtB at hg
        rw [Bool.and_eq_true, Bool.and_eq_true, Bool.and_eq_true, decide_eq_true_iff, decide_eq_true_iff, decide_eq_true_iff] at hg
        obtain ⟨g1, g2, g3, g4⟩ := hg
        by_cases e : ∃ k, k < n ∧ Q k = c
        · exact e
        · have := q2 c (fun k hk hkc => by
            by_cases k2 : k < n
            · exact e ⟨k, k2, hkc⟩
            · rw [show k = n by omega, q1] at hkc
              exact g2 hkc.symm)
          exact absurd g4 (dlt_nn.mpr ⟨n, this⟩))
      omega
end OAA
