section BFS
/-- distances, queue, queued -/
abbrev BS : Type := (Nat → Int) × (Nat → Nat) × Nat
def bpush (t : BS) (c : Nat) (v : Int) : BS := if t.1 c = -1 then (fun a => if a = c then v else t.1 a, fun k => if k = t.2.2 then c else t.2.1 k, t.2.2 + 1) else t
def bnb (g : Nat → Nat → Bool) (nb : Nat → Nat → Nat) (t : BS) (u d : Nat) : BS := if g u d = true then bpush t (nb u d) (t.1 u + 1) else t
def bar (g : Nat → Nat → Bool) (nb : Nat → Nat → Nat) (t : BS) (u : Nat) : BS := bnb g nb (bnb g nb (bnb g nb (bnb g nb t u 0) u 1) u 2) u 3
def cnt (F : Nat → Int) : Nat → Nat
  | 0 => 0
  | n + 1 => cnt F n + (if F n = -1 then 0 else 1)
def Pth (g : Nat → Nat → Bool) (nb : Nat → Nat → Nat) (S : Nat → Prop) : Nat → Nat → Prop
  | 0, c => S c
  | n + 1, c => ∃ u d, d < 4 ∧ Pth g nb S n u ∧ g u d = true ∧ nb u d = c
theorem cnt_le (F : Nat → Int) (n : Nat) : cnt F n ≤ n := by
  induction n with
  | zero => exact Nat.le_refl 0
  | succ n ih =>
    rw [cnt]
    split <;> omega
theorem cnt_lt {F : Nat → Int} {n c : Nat} (hc : c < n) (hF : F c = -1) : cnt F n < n := by
  induction n with
  | zero => omega
  | succ n ih =>
    rw [cnt]
    by_cases h : c = n
    · subst h
      rw [if_pos hF]
      have := cnt_le F c
      omega
    · have := ih (by omega)
      split <;> omega
theorem cnt_same {F F2 : Nat → Int} {n : Nat} (h : ∀ a, a < n → F a = F2 a) : cnt F n = cnt F2 n := by
  induction n with
  | zero => rfl
  | succ n ih =>
    rw [cnt, cnt, ih (fun a ha => h a (by omega)), h n (by omega)]
theorem cnt_upd {F : Nat → Int} {n c : Nat} {v : Int} (hc : c < n) (hF : F c = -1) (hv : v ≠ -1) : cnt (fun a => if a = c then v else F a) n = cnt F n + 1 := by
  induction n with
  | zero => omega
  | succ n ih =>
    rw [cnt, cnt]
    by_cases h : c = n
    · subst h
      rw [if_pos rfl, if_neg hv, if_pos hF, cnt_same (F2 := F) (fun a ha => if_neg (by omega))]
    · have e : (if n = c then v else F n) = F n := if_neg (fun q => h q.symm)
      rw [ih (by omega)]
      simp only [e]
      omega
theorem bpush_ne {t : BS} {c c2 : Nat} {v : Int} (h : t.1 c ≠ -1) : (bpush t c2 v).1 c = t.1 c := by
  unfold bpush
  by_cases h2 : t.1 c2 = -1
  · rw [if_pos h2]
    show (if c = c2 then v else t.1 c) = t.1 c
    rw [if_neg]
    intro e
    rw [e] at h
    exact h h2
  · rw [if_neg h2]
theorem bnb_ne {g : Nat → Nat → Bool} {nb : Nat → Nat → Nat} {t : BS} {c u d : Nat} (h : t.1 c ≠ -1) : (bnb g nb t u d).1 c = t.1 c := by
  unfold bnb
  split
  · exact bpush_ne h
  · rfl
/-- what one cell's neighbours bring -/
def BE (g : Nat → Nat → Bool) (nb : Nat → Nat → Nat) (S : Nat → Prop) (t0 t : BS) (u : Nat) : Prop :=
  (∀ c, t0.1 c ≠ -1 → t.1 c = t0.1 c) ∧ (∀ c, t0.1 c = -1 → t.1 c = -1 ∨ (t.1 c = t0.1 u + 1 ∧ Pth g nb S (t0.1 u + 1).toNat c)) ∧ t0.2.2 ≤ t.2.2 ∧ (∀ k, k < t0.2.2 → t.2.1 k = t0.2.1 k) ∧ (∀ k, t0.2.2 ≤ k → k < t.2.2 → t.2.1 k < 81 ∧ t0.1 (t.2.1 k) = -1 ∧ t.1 (t.2.1 k) = t0.1 u + 1) ∧ (∀ c, c < 81 → t0.1 c = -1 → t.1 c ≠ -1 → ∃ k, t0.2.2 ≤ k ∧ k < t.2.2 ∧ t.2.1 k = c) ∧ (t0.2.2 = cnt t0.1 81 → t.2.2 = cnt t.1 81)
theorem BE_rf (g : Nat → Nat → Bool) (nb : Nat → Nat → Nat) (S : Nat → Prop) (t : BS) (u : Nat) : BE g nb S t t u := ⟨fun _ _ => rfl, fun _ h => Or.inl h, Nat.le_refl _, fun _ _ => rfl, fun k h1 h2 => by omega, fun c h1 h2 h3 => absurd h2 h3, fun h => h⟩
theorem BE_bnb {g : Nat → Nat → Bool} {nb : Nat → Nat → Nat} {S : Nat → Prop} {t0 t : BS} {u d : Nat} (h : BE g nb S t0 t u) (hu : 0 ≤ t0.1 u) (hp : Pth g nb S (t0.1 u).toNat u) (hd : d < 4) (hg : g u d = true → nb u d < 81) : BE g nb S t0 (bnb g nb t u d) u ∧ (g u d = true → (bnb g nb t u d).1 (nb u d) ≠ -1) := by
  obtain ⟨h1, h2, h3, h4, h5, h6, h7⟩ := h
  unfold bnb
  by_cases hgd : g u d = true
  · rw [if_pos hgd]
    have hc := hg hgd
    have hv : t.1 u + 1 = t0.1 u + 1 := by rw [h1 u (by omega)]
    rw [hv]
    have hpc : Pth g nb S (t0.1 u + 1).toNat (nb u d) := by
      rw [show (t0.1 u + 1).toNat = (t0.1 u).toNat + 1 by omega]
      exact ⟨u, d, hd, hp, hgd, rfl⟩
    generalize nb u d = c at hc hpc
    unfold bpush
    by_cases ht : t.1 c = -1
    · rw [if_pos ht]
      have h0 : t0.1 c = -1 := by
        by_cases q : t0.1 c = -1
        · exact q
        · exact absurd ((h1 c q).symm.trans ht) q
      refine ⟨⟨fun a ha => ?_, fun a ha => ?_, ?_, fun k hk => ?_, fun k hk1 hk2 => ?_, fun a ha1 ha2 ha3 => ?_, fun hc0 => ?_⟩, fun _ => ?_⟩
      · show (if a = c then _ else _) = _
        rw [if_neg (fun e => ha (by rw [e]; exact h0))]
        exact h1 a ha
      · show (if a = c then _ else _) = _ ∨ (if a = c then _ else _) = _ ∧ _
        by_cases q : a = c
        · rw [if_pos q]
          exact Or.inr ⟨rfl, by rw [q]; exact hpc⟩
        · rw [if_neg q]
          exact h2 a ha
      · show t0.2.2 ≤ t.2.2 + 1
        omega
      · show (if k = t.2.2 then c else t.2.1 k) = _
        rw [if_neg (by omega)]
        exact h4 k hk
      · show (if k = t.2.2 then c else t.2.1 k) < 81 ∧ t0.1 (if k = t.2.2 then c else t.2.1 k) = -1 ∧ (if (if k = t.2.2 then c else t.2.1 k) = c then t0.1 u + 1 else t.1 (if k = t.2.2 then c else t.2.1 k)) = t0.1 u + 1
        by_cases q : k = t.2.2
        · rw [if_pos q, if_pos rfl]
          exact ⟨hc, h0, rfl⟩
        · rw [if_neg q]
          have hk3 : k < t.2.2 + 1 := hk2
          obtain ⟨q1, q2, q3⟩ := h5 k hk1 (by omega)
          refine ⟨q1, q2, ?_⟩
          by_cases q4 : t.2.1 k = c
          · rw [if_pos q4]
          · rw [if_neg q4]
            exact q3
      · by_cases q : a = c
        · exact ⟨t.2.2, h3, Nat.lt_succ_self _, by rw [q]; exact if_pos rfl⟩
        · have ha4 : t.1 a ≠ -1 := fun e => ha3 (show (if a = c then _ else t.1 a) = -1 by rw [if_neg q]; exact e)
          obtain ⟨k, q1, q2, q3⟩ := h6 a ha1 ha2 ha4
          exact ⟨k, q1, Nat.lt_succ_of_lt q2, (if_neg (by omega)).trans q3⟩
      · show t.2.2 + 1 = cnt (fun a => if a = c then t0.1 u + 1 else t.1 a) 81
        rw [cnt_upd hc ht (by omega), h7 hc0]
      · show (if c = c then _ else _) ≠ _
        rw [if_pos rfl]
        omega
    · rw [if_neg ht]
      exact ⟨⟨h1, h2, h3, h4, h5, h6, h7⟩, fun _ => ht⟩
  · rw [if_neg hgd]
    exact ⟨⟨h1, h2, h3, h4, h5, h6, h7⟩, fun e => absurd e hgd⟩
theorem BE_bar {g : Nat → Nat → Bool} {nb : Nat → Nat → Nat} {S : Nat → Prop} {t : BS} {u : Nat} (hu : 0 ≤ t.1 u) (hp : Pth g nb S (t.1 u).toNat u) (hg : ∀ d, d < 4 → g u d = true → nb u d < 81) : BE g nb S t (bar g nb t u) u ∧ ∀ d, d < 4 → g u d = true → (bar g nb t u).1 (nb u d) ≠ -1 := by
  obtain ⟨a0, b0⟩ := BE_bnb (BE_rf g nb S t u) hu hp (d := 0) (by decide) (hg 0 (by decide))
  obtain ⟨a1, b1⟩ := BE_bnb a0 hu hp (d := 1) (by decide) (hg 1 (by decide))
  obtain ⟨a2, b2⟩ := BE_bnb a1 hu hp (d := 2) (by decide) (hg 2 (by decide))
  obtain ⟨a3, b3⟩ := BE_bnb a2 hu hp (d := 3) (by decide) (hg 3 (by decide))
  refine ⟨a3, fun d hd hgd => ?_⟩
  unfold bar
  rcases (show d = 0 ∨ d = 1 ∨ d = 2 ∨ d = 3 by omega) with rfl | rfl | rfl | rfl
  · have q := b0 hgd
    rw [bnb_ne (by rw [bnb_ne (by rw [bnb_ne q]; exact q), bnb_ne q]; exact q), bnb_ne (by rw [bnb_ne q]; exact q), bnb_ne q]
    exact q
  · have q := b1 hgd
    rw [bnb_ne (by rw [bnb_ne q]; exact q), bnb_ne q]
    exact q
  · have q := b2 hgd
    rw [bnb_ne q]
    exact q
  · exact b3 hgd
/-- the search, where it stands -/
def BI (g : Nat → Nat → Bool) (nb : Nat → Nat → Nat) (S : Nat → Prop) (t : BS) (i : Nat) : Prop :=
  (∀ k, k < t.2.2 → t.2.1 k < 81 ∧ t.1 (t.2.1 k) ≠ -1) ∧ (∀ c, c < 81 → t.1 c ≠ -1 → ∃ k, k < t.2.2 ∧ t.2.1 k = c) ∧ t.2.2 = cnt t.1 81 ∧ (∀ c, t.1 c ≠ -1 → 0 ≤ t.1 c) ∧ (∀ k j, k ≤ j → j < t.2.2 → t.1 (t.2.1 k) ≤ t.1 (t.2.1 j)) ∧ (∀ j, j < t.2.2 → i < t.2.2 → t.1 (t.2.1 j) ≤ t.1 (t.2.1 i) + 1) ∧ (∀ k, k < i → k < t.2.2 → ∀ d, d < 4 → g (t.2.1 k) d = true → t.1 (nb (t.2.1 k) d) ≠ -1 ∧ t.1 (nb (t.2.1 k) d) ≤ t.1 (t.2.1 k) + 1) ∧ (∀ c, c < 81 → t.1 c ≠ -1 → Pth g nb S (t.1 c).toNat c) ∧ (∀ c, S c → t.1 c = 0) ∧ i ≤ t.2.2 ∧ ∀ k, k < t.2.2 → t.1 (t.2.1 k) ≤ (k : Int)
theorem BI_step {g : Nat → Nat → Bool} {nb : Nat → Nat → Nat} {S : Nat → Prop} {t : BS} {i : Nat} (hg : ∀ u d, u < 81 → d < 4 → g u d = true → nb u d < 81) (h : BI g nb S t i) (hi : i < t.2.2) : BI g nb S (bar g nb t (t.2.1 i)) (i + 1) := by
  obtain ⟨h1, h2, h3, h4, h5, h6, h7, h8, h9, h10, h11⟩ := h
  have hu := h1 i hi
  have hu0 := h4 _ hu.2
  obtain ⟨⟨e1, e2, e3, e4, e5, e6, e7⟩, eb⟩ := BE_bar (t := t) (u := t.2.1 i) hu0 (h8 _ hu.1 hu.2) (fun d hd => hg _ d hu.1 hd)
  generalize bar g nb t (t.2.1 i) = t2 at e1 e2 e3 e4 e5 e6 e7 eb
  have old : ∀ k, k < t.2.2 → t2.1 (t2.2.1 k) = t.1 (t.2.1 k) := fun k hk => by rw [e4 k hk, e1 _ (h1 k hk).2]
  have top : ∀ k, k < t2.2.2 → t2.1 (t2.2.1 k) ≤ t.1 (t.2.1 i) + 1 := fun k hk => by
    by_cases q : k < t.2.2
    · rw [old k q]
      exact h6 k q hi
    · rw [(e5 k (by omega) hk).2.2]
      omega
  have mono : ∀ k j, k ≤ j → j < t2.2.2 → t2.1 (t2.2.1 k) ≤ t2.1 (t2.2.1 j) := fun k j hkj hj => by
    by_cases q : j < t.2.2
    · rw [old k (by omega), old j q]
      exact h5 k j hkj q
    · rw [(e5 j (by omega) hj).2.2]
      exact top k (by omega)
  refine ⟨fun k hk => ?_, fun c hc hF => ?_, e7 h3, fun c hF => ?_, mono, fun j hj hi2 => ?_, fun k hk1 hk2 d hd hgd => ?_, fun c hc hF => ?_, fun c hS => ?_, by omega, fun k hk => ?_⟩
  · by_cases q : k < t.2.2
    · rw [e4 k q, e1 _ (h1 k q).2]
      exact h1 k q
    · have q2 := e5 k (by omega) hk
      exact ⟨q2.1, by rw [q2.2.2]; omega⟩
  · by_cases q : t.1 c = -1
    · obtain ⟨k, q1, q2, q3⟩ := e6 c hc q hF
      exact ⟨k, q2, q3⟩
    · obtain ⟨k, q1, q2⟩ := h2 c hc q
      exact ⟨k, by omega, by rw [e4 k q1]; exact q2⟩
  · by_cases q : t.1 c = -1
    · rcases e2 c q with q1 | q1
      · exact absurd q1 hF
      · rw [q1.1]
        omega
    · rw [e1 c q]
      exact h4 c q
  · have q1 := top j hj
    have q2 := mono i (i + 1) (by omega) hi2
    rw [old i hi] at q2
    omega
  · by_cases q : k < i
    · have q1 := h7 k q (by omega) d hd (by rw [← e4 k (by omega)]; exact hgd)
      rw [e4 k (by omega), e1 _ q1.1, e1 _ (h1 k (by omega)).2]
      exact q1
    · have q0 : k = i := by omega
      subst q0
      rw [e4 k hi] at hgd ⊢
      have q1 := eb d hd hgd
      refine ⟨q1, ?_⟩
      rw [e1 _ hu.2]
      by_cases q2 : t.1 (nb (t.2.1 k) d) = -1
      · rcases e2 _ q2 with q3 | q3
        · exact absurd q3 q1
        · omega
      · obtain ⟨j, q3, q4⟩ := h2 _ (hg _ d hu.1 hd hgd) q2
        rw [e1 _ q2, ← q4]
        exact h6 j q3 hi
  · by_cases q : t.1 c = -1
    · rcases e2 c q with q1 | q1
      · exact absurd q1 hF
      · rw [q1.1]
        exact q1.2
    · rw [e1 c q]
      exact h8 c hc q
  · have q := h9 c hS
    rw [e1 c (by omega)]
    exact q
  · by_cases q : k < t.2.2
    · rw [old k q]
      exact h11 k q
    · have q1 := h11 i hi
      rw [(e5 k (by omega) hk).2.2]
      omega
/-- a shortest way of n steps -/
def IsD (g : Nat → Nat → Bool) (nb : Nat → Nat → Nat) (S : Nat → Prop) (n c : Nat) : Prop := Pth g nb S n c ∧ ∀ m, Pth g nb S m c → n ≤ m
theorem IsD_ex {g : Nat → Nat → Bool} {nb : Nat → Nat → Nat} {S : Nat → Prop} : ∀ {n c : Nat}, Pth g nb S n c → ∃ m, IsD g nb S m c := by
  intro n
  induction n using Nat.strongRecOn with
  | _ n ih =>
    intro c h
    by_cases q : ∃ m, m < n ∧ Pth g nb S m c
    · obtain ⟨m, q1, q2⟩ := q
      exact ih m q1 q2
    · refine ⟨n, h, fun m hm => ?_⟩
      by_cases q2 : n ≤ m
      · exact q2
      · exact absurd ⟨m, by omega, hm⟩ q
noncomputable def dlt (g : Nat → Nat → Bool) (nb : Nat → Nat → Nat) (S : Nat → Prop) (c : Nat) : Int := by
  classical
  exact if h : ∃ n, IsD g nb S n c then ((Classical.choose h : Nat) : Int) else -1
theorem dlt_is {g : Nat → Nat → Bool} {nb : Nat → Nat → Nat} {S : Nat → Prop} {n c : Nat} (h : IsD g nb S n c) : dlt g nb S c = (n : Int) := by
  have hx : ∃ n, IsD g nb S n c := ⟨n, h⟩
  unfold dlt
  rw [dif_pos hx]
  have h2 := Classical.choose_spec hx
  have h3 := h.2 _ h2.1
  have h4 := h2.2 _ h.1
  omega
theorem dlt_no {g : Nat → Nat → Bool} {nb : Nat → Nat → Nat} {S : Nat → Prop} {c : Nat} (h : ∀ n, ¬ Pth g nb S n c) : dlt g nb S c = -1 := by
  unfold dlt
  rw [dif_neg]
  rintro ⟨n, hn⟩
  exact h n hn.1
theorem dlt_cases (g : Nat → Nat → Bool) (nb : Nat → Nat → Nat) (S : Nat → Prop) (c : Nat) : (dlt g nb S c = -1 ∧ ∀ n, ¬ Pth g nb S n c) ∨ ∃ n, IsD g nb S n c ∧ dlt g nb S c = (n : Int) := by
  by_cases h : ∃ n, Pth g nb S n c
  · obtain ⟨n, hn⟩ := h
    obtain ⟨m, hm⟩ := IsD_ex hn
    exact Or.inr ⟨m, hm, dlt_is hm⟩
  · have h2 : ∀ n, ¬ Pth g nb S n c := fun n hn => h ⟨n, hn⟩
    exact Or.inl ⟨dlt_no h2, h2⟩
/-- all ways up to the head's distance are found -/
theorem BI_low {g : Nat → Nat → Bool} {nb : Nat → Nat → Nat} {S : Nat → Prop} {t : BS} {i : Nat} (hS : ∀ c, S c → c < 81) (hg : ∀ u d, u < 81 → d < 4 → g u d = true → nb u d < 81) (h : BI g nb S t i) : ∀ (m c : Nat), Pth g nb S m c → (i = t.2.2 ∨ (i < t.2.2 ∧ (m : Int) ≤ t.1 (t.2.1 i))) → c < 81 ∧ t.1 c ≠ -1 ∧ t.1 c ≤ m := by
  obtain ⟨h1, h2, h3, h4, h5, h6, h7, h8, h9, h10, h11⟩ := h
  intro m
  induction m with
  | zero =>
    intro c hp _
    have q := h9 c hp
    exact ⟨hS c hp, by omega, by omega⟩
  | succ m ih =>
    intro c hp hm
    obtain ⟨u, d, hd, hp, hgd, hc⟩ := hp
    obtain ⟨q1, q2, q3⟩ := ih u hp (by
      rcases hm with q | q
      · exact Or.inl q
      · exact Or.inr ⟨q.1, by omega⟩)
    obtain ⟨k, q4, q5⟩ := h2 u q1 q2
    have hk : k < i := by
      rcases hm with q | q
      · omega
      · by_cases q6 : k < i
        · exact q6
        · have q7 := h5 i k (by omega) q4
          rw [q5] at q7
          omega
    have q8 := h7 k hk q4 d hd (by rw [q5]; exact hgd)
    rw [q5, hc] at q8
    exact ⟨by rw [← hc]; exact hg u d q1 hd hgd, q8.1, by omega⟩
theorem BI_ex {g : Nat → Nat → Bool} {nb : Nat → Nat → Nat} {S : Nat → Prop} {t : BS} {i : Nat} (hS : ∀ c, S c → c < 81) (hg : ∀ u d, u < 81 → d < 4 → g u d = true → nb u d < 81) (h : BI g nb S t i) {c : Nat} (hc : c < 81) (hF : t.1 c ≠ -1) : t.1 c = dlt g nb S c := by
  have low := BI_low hS hg h
  obtain ⟨h1, h2, h3, h4, h5, h6, h7, h8, h9, h10, h11⟩ := h
  have q0 := h4 c hF
  have q1 : IsD g nb S (t.1 c).toNat c := by
    refine ⟨h8 c hc hF, fun m hm => ?_⟩
    by_cases q : (t.1 c).toNat ≤ m
    · exact q
    · have q2 : c < 81 ∧ t.1 c ≠ -1 ∧ t.1 c ≤ m := by
        refine low m c hm ?_
        by_cases q3 : i = t.2.2
        · exact Or.inl q3
        · obtain ⟨k, q4, q5⟩ := h2 c hc hF
          have q6 := h6 k q4 (by omega)
          rw [q5] at q6
          exact Or.inr ⟨by omega, by omega⟩
      omega
  rw [dlt_is q1]
  omega
theorem BI_all {g : Nat → Nat → Bool} {nb : Nat → Nat → Nat} {S : Nat → Prop} {t : BS} (hS : ∀ c, S c → c < 81) (hg : ∀ u d, u < 81 → d < 4 → g u d = true → nb u d < 81) (h : BI g nb S t t.2.2) {c : Nat} (hc : c < 81) : t.1 c = dlt g nb S c := by
  by_cases hF : t.1 c = -1
  · rw [hF, dlt_no]
    intro n hn
    exact (BI_low hS hg h n c hn (Or.inl rfl)).2.1 hF
  · exact BI_ex hS hg h hc hF
/-- where the search has laid its seeds alone -/
def SI (S : Nat → Prop) (t : BS) : Prop := (∀ k, k < t.2.2 → t.2.1 k < 81 ∧ t.1 (t.2.1 k) = 0) ∧ (∀ c, c < 81 → t.1 c ≠ -1 → ∃ k, k < t.2.2 ∧ t.2.1 k = c) ∧ t.2.2 = cnt t.1 81 ∧ ∀ c, t.1 c ≠ -1 → t.1 c = 0 ∧ S c
theorem cnt_none (n : Nat) : cnt (fun _ => -1) n = 0 := by
  induction n with
  | zero => rfl
  | succ n ih => rw [cnt, ih, if_pos rfl]
theorem SI_0 (S : Nat → Prop) (Q0 : Nat → Nat) : SI S (fun _ => -1, Q0, 0) := ⟨fun k h => absurd h (Nat.not_lt_zero k), fun c _ h => absurd rfl h, (cnt_none 81).symm, fun c h => absurd rfl h⟩
theorem SI_push {S : Nat → Prop} {t : BS} {c : Nat} (h : SI S t) (hc : c < 81) (hS : S c) : SI S (bpush t c 0) := by
  obtain ⟨h1, h2, h3, h4⟩ := h
  unfold bpush
  by_cases ht : t.1 c = -1
  · rw [if_pos ht]
    refine ⟨fun k hk => ?_, fun a ha hF => ?_, ?_, fun a hF => ?_⟩
    · show (if k = t.2.2 then c else t.2.1 k) < 81 ∧ (if (if k = t.2.2 then c else t.2.1 k) = c then 0 else t.1 (if k = t.2.2 then c else t.2.1 k)) = 0
      have hk2 : k < t.2.2 + 1 := hk
      by_cases q : k = t.2.2
      · rw [if_pos q, if_pos rfl]
        exact ⟨hc, rfl⟩
      · rw [if_neg q]
        have q1 := h1 k (by omega)
        refine ⟨q1.1, ?_⟩
        split
        · rfl
        · exact q1.2
    · by_cases q : a = c
      · exact ⟨t.2.2, Nat.lt_succ_self _, by rw [q]; exact if_pos rfl⟩
      · have hF2 : t.1 a ≠ -1 := fun e => hF (show (if a = c then _ else t.1 a) = -1 by rw [if_neg q]; exact e)
        obtain ⟨k, q1, q2⟩ := h2 a ha hF2
        exact ⟨k, Nat.lt_succ_of_lt q1, (if_neg (by omega)).trans q2⟩
    · show t.2.2 + 1 = cnt (fun a => if a = c then 0 else t.1 a) 81
      rw [cnt_upd hc ht (by omega), h3]
    · have hF2 : (if a = c then (0 : Int) else t.1 a) ≠ -1 := hF
      show (if a = c then (0 : Int) else t.1 a) = 0 ∧ S a
      by_cases q : a = c
      · rw [if_pos q]
        exact ⟨rfl, by rw [q]; exact hS⟩
      · rw [if_neg q] at hF2 ⊢
        exact h4 a hF2
  · rw [if_neg ht]
    exact ⟨h1, h2, h3, h4⟩
theorem SI_BI {g : Nat → Nat → Bool} {nb : Nat → Nat → Nat} {S : Nat → Prop} {t : BS} (h : SI S t) (hS : ∀ c, S c → t.1 c ≠ -1) : BI g nb S t 0 := by
  obtain ⟨h1, h2, h3, h4⟩ := h
  refine ⟨fun k hk => ⟨(h1 k hk).1, by rw [(h1 k hk).2]; decide⟩, h2, h3, fun c hF => by rw [(h4 c hF).1]; decide, fun k j hkj hj => by rw [(h1 k (by omega)).2, (h1 j hj).2]; omega, fun j hj hi => by rw [(h1 j hj).2, (h1 0 hi).2]; omega, fun k hk => absurd hk (Nat.not_lt_zero k), fun c hc hF => ?_, fun c hc => (h4 c (hS c hc)).1, Nat.zero_le _, fun k hk => by rw [(h1 k hk).2]; omega⟩
  rw [(h4 c hF).1]
  exact (h4 c hF).2
/-- the queue has room while a cell is left -/
theorem BI_room {g : Nat → Nat → Bool} {nb : Nat → Nat → Nat} {S : Nat → Prop} {t : BS} {i c : Nat} (h : BI g nb S t i) (hc : c < 81) (hF : t.1 c = -1) : t.2.2 < 81 := by
  rw [h.2.2.1]
  exact cnt_lt hc hF
theorem Pth_mono {g g2 : Nat → Nat → Bool} {nb : Nat → Nat → Nat} {S S2 : Nat → Prop} (hg : ∀ u d, g u d = true → g2 u d = true) (hS : ∀ c, S c → S2 c) : ∀ {n c : Nat}, Pth g nb S n c → Pth g2 nb S2 n c := by
  intro n
  induction n with
  | zero => exact fun {c} h => hS c h
  | succ n ih =>
    rintro c ⟨u, d, hd, hp, hgd, hc⟩
    exact ⟨u, d, hd, ih hp, hg u d hgd, hc⟩
end BFS
