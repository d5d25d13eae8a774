section TOKS
/-- the kind of a byte: 0 a space, 1 a letter, 2 a digit, 3 a sign, 4 none of these -/
def kdb (b : Int) : Nat := if b = 32 ∨ b = 10 then 0 else if 97 ≤ b ∧ b ≤ 122 then 1 else if 48 ≤ b ∧ b ≤ 57 then 2 else if b = 59 ∨ b = 40 ∨ b = 41 then 3 else 4
theorem kdb_le (b : Int) : kdb b ≤ 4 := by
  unfold kdb
  repeat (first | omega | split)
theorem kdb_0 {b : Int} : kdb b = 0 ↔ b = 32 ∨ b = 10 := by
  unfold kdb
  split
  · exact ⟨fun _ => by assumption, fun _ => rfl⟩
  · refine ⟨fun h => ?_, fun h => absurd h (by assumption)⟩
    repeat (first | omega | split at h)
theorem kdb_1 {b : Int} : kdb b = 1 ↔ 97 ≤ b ∧ b ≤ 122 := by
  unfold kdb
  split
  · exact ⟨fun h => by omega, fun h => by omega⟩
  · split
    · exact ⟨fun _ => by assumption, fun _ => rfl⟩
    · refine ⟨fun h => ?_, fun h => absurd h (by assumption)⟩
      repeat (first | omega | split at h)
theorem kdb_2 {b : Int} : kdb b = 2 ↔ 48 ≤ b ∧ b ≤ 57 := by
  unfold kdb
  split
  · exact ⟨fun h => by omega, fun h => by omega⟩
  · split
    · exact ⟨fun h => by omega, fun h => by omega⟩
    · split
      · exact ⟨fun _ => by assumption, fun _ => rfl⟩
      · refine ⟨fun h => ?_, fun h => absurd h (by assumption)⟩
        repeat (first | omega | split at h)
theorem kdb_3 {b : Int} : kdb b = 3 ↔ b = 59 ∨ b = 40 ∨ b = 41 := by
  unfold kdb
  split
  · exact ⟨fun h => by omega, fun h => by omega⟩
  · split
    · exact ⟨fun h => by omega, fun h => by omega⟩
    · split
      · exact ⟨fun h => by omega, fun h => by omega⟩
      · split
        · exact ⟨fun _ => by assumption, fun _ => rfl⟩
        · refine ⟨fun h => ?_, fun h => absurd h (by assumption)⟩
          omega
theorem c_kindOf (fu : Nat) (mem : Mem) {b : Int} (h1 : 0 ≤ b) (h2 : b ≤ 255) : K_X9_kindOf fu (zi b) mem = some (zi (kdb b : Int)) := by
  unfold K_X9_kindOf K_X9_kindOf_28 K_X9_kindOf_42 K_X9_kindOf_60
  simp (disch := omega) only [zi_lit, zl_lit, zi_add, zi_sub, zi_mul, zi_neg, zi_lt, zi_inj, zi_clamp, zl_of, gi_zi, bd_s, ltf, bi_0, bi_1, gb_bi, Int.reduceToNat, Int.reduceNeg, Int.toNat_natCast]
  have h4 := kdb_le b
  by_cases c0 : b = 32 ∨ b = 10
  · rw [kdb_0.mpr c0]
    rcases c0 with rfl | rfl
    · rw [if_pos rfl]
      rfl
    · rw [if_neg (by decide), if_pos rfl]
      rfl
  · rw [if_neg (fun h => c0 (Or.inl h)), if_neg (fun h => c0 (Or.inr h))]
    by_cases c1 : 97 ≤ b ∧ b ≤ 122
    · rw [kdb_1.mpr c1, if_neg (by omega), if_neg (by omega)]
      rfl
    · have e : (if b < 97 then (if b < 48 then (if b = 59 then some (zi 3) else if b = 40 then some (zi 3) else if b = 41 then some (zi 3) else some (zi 4)) else if 57 < b then (if b = 59 then some (zi 3) else if b = 40 then some (zi 3) else if b = 41 then some (zi 3) else some (zi 4)) else some (zi 2)) else if 122 < b then (if b < 48 then (if b = 59 then some (zi 3) else if b = 40 then some (zi 3) else if b = 41 then some (zi 3) else some (zi 4)) else if 57 < b then (if b = 59 then some (zi 3) else if b = 40 then some (zi 3) else if b = 41 then some (zi 3) else some (zi 4)) else some (zi 2)) else some (zi 1)) = (some (zi (kdb b : Int)) : Option Int32) := by
        by_cases c2 : 48 ≤ b ∧ b ≤ 57
        · rw [kdb_2.mpr c2, if_pos (by omega), if_neg (by omega), if_neg (by omega)]
          rfl
        · have e3 : (if b = 59 then some (zi 3) else if b = 40 then some (zi 3) else if b = 41 then some (zi 3) else some (zi 4)) = (some (zi (kdb b : Int)) : Option Int32) := by
            by_cases c3 : b = 59 ∨ b = 40 ∨ b = 41
            · rw [kdb_3.mpr c3]
              rcases c3 with rfl | rfl | rfl <;> rfl
            · have e4 : kdb b = 4 := by
                have n0 : kdb b ≠ 0 := fun h => c0 (kdb_0.mp h)
                have n1 : kdb b ≠ 1 := fun h => c1 (kdb_1.mp h)
                have n2 : kdb b ≠ 2 := fun h => c2 (kdb_2.mp h)
                have n3 : kdb b ≠ 3 := fun h => c3 (kdb_3.mp h)
                omega
              rw [e4, if_neg (fun h => c3 (Or.inl h)), if_neg (fun h => c3 (Or.inr (Or.inl h))), if_neg (fun h => c3 (Or.inr (Or.inr h)))]
              rfl
          rw [e3]
          by_cases c4 : b < 97
          · rw [if_pos c4]
            by_cases c5 : b < 48
            · rw [if_pos c5]
            · rw [if_neg c5, if_pos (by omega)]
          · rw [if_neg c4, if_pos (by omega)]
            by_cases c5 : b < 48
            · rw [if_pos c5]
            · rw [if_neg c5, if_pos (by omega)]
      exact e
/-- past spaces; how long a run is; how long a token is; where the tokens begin -/
def skF (T : Nat → Int) : Nat → Nat → Nat
  | 0, i => i
  | r + 1, i => if kdb (T i) = 0 then skF T r (i + 1) else i
def skp (T : Nat → Int) (L i : Nat) : Nat := skF T (L - i) i
def rnF (T : Nat → Int) (k : Nat) : Nat → Nat → Nat
  | 0, _ => 0
  | r + 1, i => if kdb (T i) = k then rnF T k r (i + 1) + 1 else 0
def tzi (T : Nat → Int) (L i : Nat) : Nat := if i < L then (if kdb (T i) = 1 ∨ kdb (T i) = 2 then rnF T (kdb (T i)) (L - i) i else 1) else 0
def tpo (T : Nat → Int) (L : Nat) : Nat → Nat
  | 0 => skp T L 0
  | n + 1 => skp T L (tpo T L n + tzi T L (tpo T L n))
theorem skp_L {T : Nat → Int} {L i : Nat} (h : L ≤ i) : skp T L i = i := by
  unfold skp
  rw [show L - i = 0 by omega]
  rfl
theorem skp_sp {T : Nat → Int} {L i : Nat} (h : i < L) (h2 : kdb (T i) = 0) : skp T L i = skp T L (i + 1) := by
  unfold skp
  rw [show L - i = (L - (i + 1)) + 1 by omega, skF, if_pos h2]
theorem skp_no {T : Nat → Int} {L i : Nat} (h : i < L) (h2 : kdb (T i) ≠ 0) : skp T L i = i := by
  unfold skp
  rw [show L - i = (L - (i + 1)) + 1 by omega, skF, if_neg h2]
theorem skF_le {T : Nat → Int} : ∀ (r i : Nat), i ≤ skF T r i ∧ skF T r i ≤ i + r ∧ (skF T r i < i + r → kdb (T (skF T r i)) ≠ 0) := by
  intro r
  induction r with
  | zero => exact fun i => ⟨Nat.le_refl _, Nat.le_refl _, fun h => absurd h (by show ¬ i < i + 0; omega)⟩
  | succ r ih =>
    intro i
    rw [skF]
    by_cases c : kdb (T i) = 0
    · rw [if_pos c]
      obtain ⟨h1, h2, h3⟩ := ih (i + 1)
      exact ⟨by omega, by omega, fun h => h3 (by omega)⟩
    · rw [if_neg c]
      exact ⟨Nat.le_refl _, by omega, fun _ => c⟩
theorem skp_le {T : Nat → Int} {L i : Nat} (h : i ≤ L) : i ≤ skp T L i ∧ skp T L i ≤ L ∧ (skp T L i < L → kdb (T (skp T L i)) ≠ 0) := by
  obtain ⟨h1, h2, h3⟩ := skF_le (T := T) (L - i) i
  unfold skp
  exact ⟨h1, by omega, fun q => h3 (by omega)⟩
theorem rnF_le {T : Nat → Int} {k : Nat} : ∀ (r i : Nat), rnF T k r i ≤ r ∧ (∀ j, j < rnF T k r i → kdb (T (i + j)) = k) ∧ (rnF T k r i < r → kdb (T (i + rnF T k r i)) ≠ k) := by
  intro r
  induction r with
  | zero => exact fun i => ⟨Nat.le_refl _, fun j h => absurd h (Nat.not_lt_zero j), fun h => absurd h (Nat.not_lt_zero _)⟩
  | succ r ih =>
    intro i
    rw [rnF]
    by_cases c : kdb (T i) = k
    · rw [if_pos c]
      obtain ⟨h1, h2, h3⟩ := ih (i + 1)
      refine ⟨by omega, fun j hj => ?_, fun h => ?_⟩
      · cases j with
        | zero => exact c
        | succ j =>
          rw [show i + (j + 1) = i + 1 + j by omega]
          exact h2 j (by omega)
      · rw [show i + (rnF T k r (i + 1) + 1) = i + 1 + rnF T k r (i + 1) by omega]
        exact h3 (by omega)
    · rw [if_neg c]
      exact ⟨by omega, fun j h => absurd h (Nat.not_lt_zero j), fun _ => c⟩
/-- a run is as long as it is -/
theorem rnF_eq {T : Nat → Int} {k r i n : Nat} (h1 : n ≤ r) (h2 : ∀ j, j < n → kdb (T (i + j)) = k) (h3 : n < r → kdb (T (i + n)) ≠ k) : rnF T k r i = n := by
  obtain ⟨g1, g2, g3⟩ := rnF_le (T := T) (k := k) r i
  by_cases q : rnF T k r i < n
  · exact absurd (h2 _ q) (g3 (by omega))
  · by_cases q2 : n < rnF T k r i
    · exact absurd (g2 n q2) (h3 (by omega))
    · omega
theorem tz_le {T : Nat → Int} {L i : Nat} (h : i < L) : 1 ≤ tzi T L i ∧ i + tzi T L i ≤ L := by
  unfold tzi
  rw [if_pos h]
  by_cases c : kdb (T i) = 1 ∨ kdb (T i) = 2
  · rw [if_pos c]
    have h1 := (rnF_le (T := T) (k := kdb (T i)) (L - i) i).1
    refine ⟨?_, by omega⟩
    rw [show L - i = (L - (i + 1)) + 1 by omega, rnF, if_pos rfl]
    omega
  · rw [if_neg c]
    omega
theorem tz_L {T : Nat → Int} {L i : Nat} (h : L ≤ i) : tzi T L i = 0 := if_neg (by omega)
theorem tp_le (T : Nat → Int) (L : Nat) (n : Nat) : tpo T L n ≤ L := by
  induction n with
  | zero => exact (skp_le (Nat.zero_le L)).2.1
  | succ n ih =>
    rw [tpo]
    by_cases h : tpo T L n < L
    · exact (skp_le (tz_le h).2).2.1
    · rw [tz_L (by omega), skp_L (by omega)]
      omega
theorem tp_L {T : Nat → Int} {L n : Nat} (h : tpo T L n = L) : tpo T L (n + 1) = L := by
  rw [tpo, h, tz_L (Nat.le_refl L), skp_L (by omega)]
  rfl
theorem tp_Lk {T : Nat → Int} {L n : Nat} (h : tpo T L n = L) : ∀ m, n ≤ m → tpo T L m = L := by
  intro m
  induction m with
  | zero =>
    intro hm
    rw [show (0 : Nat) = n by omega]
    exact h
  | succ m ih =>
    intro hm
    by_cases q : n = m + 1
    · rw [← q]
      exact h
    · exact tp_L (ih (by omega))
theorem tp_k (T : Nat → Int) (L n : Nat) (h : tpo T L n < L) : kdb (T (tpo T L n)) ≠ 0 := by
  cases n with
  | zero => exact (skp_le (Nat.zero_le L)).2.2 h
  | succ n =>
    rw [tpo] at h ⊢
    by_cases q : tpo T L n < L
    · exact (skp_le (tz_le q).2).2.2 h
    · have := tp_le T L n
      rw [tz_L (by omega), skp_L (by omega)] at h
      omega
/-- the text in the class, and its tokens -/
def sgn8 (b : Int) : Int := if b < 128 then b else b - 256
def TXc (c : Mem) (T : Nat → Int) (L : Nat) : Prop := (∀ i, 0 ≤ T i ∧ T i ≤ 255) ∧ L ≤ 700 ∧ rd c 2 1 = zi (L : Int) ∧ ∀ i, i < L → rd c 3 i = zi (sgn8 (T i))
theorem byte_255 {b : Int} (h1 : 0 ≤ b) (h2 : b ≤ 255) : zi (sgn8 b) &&& zi 255 = zi b := by
  obtain ⟨n, rfl⟩ : ∃ n : Nat, b = (n : Int) := ⟨b.toNat, by omega⟩
  have h : ∀ n : Nat, n < 256 → zi (sgn8 (n : Int)) &&& zi 255 = zi (n : Int) := by decide +kernel
  exact h n (by omega)
theorem c_byteAt (fu : Nat) {c : Mem} {T : Nat → Int} {L : Nat} (h : TXc c T L) {i : Nat} (hi : i ≤ 2000) : K_X9_byteAt fu (zi (i : Int)) c = some (if i < L then zi (T i) else zi (-1)) := by
  obtain ⟨h1, h2, h3, h4⟩ := h
  unfold K_X9_byteAt
  simp (disch := omega) only [zi_lit, zl_lit, zi_add, zi_sub, zi_mul, zi_neg, zi_lt, zi_inj, zi_clamp, zl_of, gi_zi, bd_s, ltf, bi_0, bi_1, gb_bi, Int.reduceToNat, Int.reduceNeg, Int.toNat_natCast, h3]
  rw [if_neg (by omega)]
  by_cases q : i < L
  · rw [if_pos (by omega), if_pos (by omega), if_pos q, h4 i q, byte_255 (h1 i).1 (h1 i).2]
  · rw [if_neg (by omega), if_neg q]
def PTk (k _ : Nat) : Bool := k == 2 || (k == 4 || (k == 5 || k == 6))
def TKs (c : Mem) (T : Nat → Int) (L n : Nat) : Prop := ∀ m, m < n → tpo T L m < L ∧ rd c 4 m = zi (kdb (T (tpo T L m)) : Int) ∧ rd c 5 m = zi (tpo T L m : Int) ∧ rd c 6 m = zi (tzi T L (tpo T L m) : Int)
theorem c_addTok (fu : Nat) {c : Mem} {n : Nat} (hn : n < 701) (h5 : rd c 2 5 = zi (n : Int)) (k i : Int) : ∃ c2, K_X9_addToken fu (zi k) (zi i) c = some c2 ∧ rd c2 2 5 = zi ((n + 1 : Nat) : Int) ∧ (∀ j, j ≠ 5 → rd c2 2 j = rd c 2 j) ∧ rd c2 4 n = zi k ∧ rd c2 5 n = zi i ∧ rd c2 6 n = zi 1 ∧ (∀ m, m ≠ n → rd c2 4 m = rd c 4 m ∧ rd c2 5 m = rd c 5 m ∧ rd c2 6 m = rd c 6 m) ∧ Fr PTk c c2 := by
  have e1 : ∀ x, rd (mw c 4 n x) 2 5 = zi (n : Int) := fun x => by
    rw [rd_mw, if_neg (fun q => absurd q.1 (by decide))]
    exact h5
  have e2 : ∀ x y, rd (mw (mw c 4 n x) 5 n y) 2 5 = zi (n : Int) := fun x y => by
    rw [rd_mw, if_neg (fun q => absurd q.1 (by decide))]
    exact e1 x
  have e3 : ∀ x y z, rd (mw (mw (mw c 4 n x) 5 n y) 6 n z) 2 5 = zi (n : Int) := fun x y z => by
    rw [rd_mw, if_neg (fun q => absurd q.1 (by decide))]
    exact e2 x y
  unfold K_X9_addToken
  simp (disch := omega) only [zi_lit, zl_lit, zi_add, zi_sub, zi_mul, zi_neg, zi_lt, zi_inj, zi_clamp, zl_of, gi_zi, bd_s, ltf, bi_0, bi_1, gb_bi, Int.reduceToNat, Int.reduceNeg, Int.toNat_natCast, h5, e1, e2, e3]
  rw [if_pos (by omega)]
  refine ⟨_, rfl, ?_, fun j hj => ?_, ?_, ?_, ?_, fun m hm => ⟨?_, ?_, ?_⟩, Fr_tr (Fr_tr (Fr_tr (Fr_mw _ _ rfl) (Fr_mw _ _ rfl)) (Fr_mw _ _ rfl)) (Fr_mw _ _ rfl)⟩
  · rw [rd_mw, if_pos ⟨rfl, rfl⟩]
    rfl
  · simp [rd_mw, hj]
  · simp [rd_mw]
  · simp [rd_mw]
  · simp [rd_mw]
  · simp [rd_mw, hm]
  · simp [rd_mw, hm]
  · simp [rd_mw, hm]
theorem TXc_fr {c c2 : Mem} {T : Nat → Int} {L : Nat} (h : TXc c T L) (h1 : rd c2 2 1 = rd c 2 1) (f : Fr PTk c c2) : TXc c2 T L := ⟨h.1, h.2.1, h1.trans h.2.2.1, fun i hi => (f.1 _ _ rfl).trans (h.2.2.2 i hi)⟩
/-- the scanner, where it stands: behind a token, or within one -/
def SCa (c : Mem) (T : Nat → Int) (L i n : Nat) (bf : Nat) : Prop := TKs c T L n ∧ tpo T L n = skp T L i ∧ (i < L → ¬ (kdb (T i) = bf ∧ (bf = 1 ∨ bf = 2)))
def SCb (c : Mem) (T : Nat → Int) (L i n : Nat) (bf : Nat) : Prop := TKs c T L n ∧ (bf = 1 ∨ bf = 2) ∧ tpo T L n < i ∧ (∀ j, tpo T L n ≤ j → j < i → kdb (T j) = bf) ∧ rd c 4 n = zi (bf : Int) ∧ rd c 5 n = zi (tpo T L n : Int) ∧ rd c 6 n = zi ((i - tpo T L n : Nat) : Int)
/-- a run that has ended is a token -/
theorem SCb_end {c : Mem} {T : Nat → Int} {L i n bf : Nat} (hi : i ≤ L) (h : SCb c T L i n bf) (he : i < L → kdb (T i) ≠ bf) : SCa c T L i (n + 1) bf := by
  obtain ⟨h1, h2, h3, h4, h5, h6, h7⟩ := h
  have hlt : tpo T L n < L := by omega
  have hk : kdb (T (tpo T L n)) = bf := h4 _ (Nat.le_refl _) h3
  have hz : tzi T L (tpo T L n) = i - tpo T L n := by
    unfold tzi
    rw [if_pos hlt, hk, if_pos h2]
    refine rnF_eq (by omega) (fun j hj => h4 _ (by omega) (by omega)) (fun hq => ?_)
    rw [show tpo T L n + (i - tpo T L n) = i by omega]
    exact he (by omega)
  refine ⟨fun m hm => ?_, ?_, fun hiL hq => he hiL hq.1⟩
  · by_cases q : m = n
    · rw [q, hk, hz]
      exact ⟨hlt, h5, h6, h7⟩
    · exact h1 m (by omega)
  · rw [tpo, hz, show tpo T L n + (i - tpo T L n) = i by omega]
/-- the tokens in the class, all of them -/
def TKc (c : Mem) (T : Nat → Int) (L N : Nat) : Prop := N ≤ 700 ∧ rd c 2 5 = zi ((N + 1 : Nat) : Int) ∧ TKs c T L N ∧ tpo T L N = L ∧ rd c 4 N = zi 5 ∧ rd c 5 N = zi (L : Int) ∧ rd c 6 N = zi 1
theorem c_bg24 (fu : Nat) {T : Nat → Int} {L : Nat} : ∀ (r f i n bf : Nat) (c : Mem), i + r = L → r < f → TXc c T L → bf ≤ 4 → n ≤ i → ((rd c 2 5 = zi (n : Int) ∧ SCa c T L i n bf) ∨ (n + 1 ≤ i ∧ rd c 2 5 = zi ((n + 1 : Nat) : Int) ∧ SCb c T L i n bf)) → ∃ c2 N, K_X9_begin_24 fu f (zi (bf : Int)) (zi (i : Int)) c = some c2 ∧ TXc c2 T L ∧ TKc c2 T L N ∧ (∀ j, j ≠ 5 → rd c2 2 j = rd c 2 j) ∧ Fr PTk c c2 := by
  intro r
  induction r with
  | zero =>
    intro f i n bf c hi hf hX hbf hni hst
    obtain ⟨f, rfl⟩ : ∃ g, f = g + 1 := ⟨f - 1, by omega⟩
    obtain rfl : i = L := by omega
    have h700 := hX.2.1
    have fin : ∀ n : Nat, n ≤ i → rd c 2 5 = zi (n : Int) → SCa c T i i n bf → ∃ c2 N, K_X9_begin_24 fu (f + 1) (zi (bf : Int)) (zi (i : Int)) c = some c2 ∧ TXc c2 T i ∧ TKc c2 T i N ∧ (∀ j, j ≠ 5 → rd c2 2 j = rd c 2 j) ∧ Fr PTk c c2 := fun n hn h5 hA => by
      obtain ⟨c2, a1, a2, a3, a4, a5, a6, a7, a8⟩ := c_addTok fu (n := n) (by omega) h5 5 (i : Int)
      obtain ⟨g1, g2, g3⟩ := hA
      rw [skp_L (Nat.le_refl i)] at g2
      refine ⟨c2, n, ?_, TXc_fr hX (a3 1 (by decide)) a8, ⟨by omega, a2, fun m hm => ?_, g2, a4, a5, a6⟩, a3, a8⟩
      · rw [K_X9_begin_24]
        simp (disch := omega) only [zi_lit, zl_lit, zi_add, zi_sub, zi_mul, zi_neg, zi_lt, zi_inj, zi_clamp, zl_of, gi_zi, bd_s, ltf, bi_0, bi_1, gb_bi, Int.reduceToNat, Int.reduceNeg, Int.toNat_natCast, hX.2.2.1, a1]
        rw [if_neg (by omega)]
      · obtain ⟨k1, k2, k3⟩ := a7 m (by omega)
        rw [k1, k2, k3]
        exact g1 m hm
    rcases hst with ⟨h5, hA⟩ | ⟨h6, h5, hB⟩
    · exact fin n hni h5 hA
    · exact fin (n + 1) h6 h5 (SCb_end (Nat.le_refl i) hB (fun h => absurd h (Nat.lt_irrefl i)))
  | succ r ih =>
    intro f i n bf c hi hf hX hbf hni hst
    obtain ⟨f, rfl⟩ : ∃ g, f = g + 1 := ⟨f - 1, by omega⟩
    have hiL : i < L := by omega
    have h700 := hX.2.1
    have hT := hX.1 i
    have hk4 := kdb_le (T i)
    have hba := c_byteAt fu hX (i := i) (by omega)
    rw [if_pos hiL] at hba
    have hko := c_kindOf fu c hT.1 hT.2
    -- a token begins here, or a space
    have fresh : ∀ n : Nat, n ≤ i → rd c 2 5 = zi (n : Int) → SCa c T L i n bf → ∃ c2 N, K_X9_begin_81 fu (K_X9_begin_24 fu f) (zi (i : Int)) (zi (kdb (T i) : Int)) c = some c2 ∧ TXc c2 T L ∧ TKc c2 T L N ∧ (∀ j, j ≠ 5 → rd c2 2 j = rd c 2 j) ∧ Fr PTk c c2 := fun n hn h5 hA => by
      obtain ⟨g1, g2, g3⟩ := hA
      unfold K_X9_begin_81
      simp (disch := omega) only [zi_lit, zl_lit, zi_add, zi_sub, zi_mul, zi_neg, zi_lt, zi_inj, zi_clamp, zl_of, gi_zi, bd_s, ltf, bi_0, bi_1, gb_bi, Int.reduceToNat, Int.reduceNeg, Int.toNat_natCast]
      by_cases c0 : kdb (T i) = 0
      · rw [if_pos (by omega)]
        have h := ih f (i + 1) n (kdb (T i)) c (by omega) (by omega) hX hk4 (by omega) (Or.inl ⟨h5, g1, by rw [g2, skp_sp hiL c0], fun _ hq => by omega⟩)
        exact h
      · rw [if_neg (by omega)]
        obtain ⟨c2, a1, a2, a3, a4, a5, a6, a7, a8⟩ := c_addTok fu (n := n) (by omega) h5 (kdb (T i) : Int) (i : Int)
        have hX2 := TXc_fr hX (a3 1 (by decide)) a8
        rw [skp_no hiL c0] at g2
        have hTK : TKs c2 T L n := fun m hm => by
          obtain ⟨k1, k2, k3⟩ := a7 m (by omega)
          rw [k1, k2, k3]
          exact g1 m hm
        have hnext : ∃ c3 N, K_X9_begin_24 fu f (zi (kdb (T i) : Int)) (zi ((i + 1 : Nat) : Int)) c2 = some c3 ∧ TXc c3 T L ∧ TKc c3 T L N ∧ (∀ j, j ≠ 5 → rd c3 2 j = rd c2 2 j) ∧ Fr PTk c2 c3 := by
          by_cases c1 : kdb (T i) = 1 ∨ kdb (T i) = 2
          · refine ih f (i + 1) n (kdb (T i)) c2 (by omega) (by omega) hX2 hk4 (by omega) (Or.inr ⟨by omega, a2, hTK, c1, by omega, fun j h1 h2 => ?_, a4, by rw [g2]; exact a5, ?_⟩)
            · rw [show j = i by omega]
            · rw [g2, show i + 1 - i = 1 by omega]
              exact a6
          · have hz : tzi T L i = 1 := by
              unfold tzi
              rw [if_pos hiL, if_neg c1]
            refine ih f (i + 1) (n + 1) (kdb (T i)) c2 (by omega) (by omega) hX2 hk4 (by omega) (Or.inl ⟨a2, fun m hm => ?_, ?_, fun _ hq => c1 hq.2⟩)
            · by_cases q : m = n
              · rw [q, g2, hz]
                exact ⟨hiL, a4, a5, a6⟩
              · exact hTK m (by omega)
            · rw [tpo, g2, hz]
        obtain ⟨c3, N, b1, b2, b3, b4, b5⟩ := hnext
        rw [a1]
        exact ⟨c3, N, b1, b2, b3, fun j hj => (b4 j hj).trans (a3 j hj), Fr_tr a8 b5⟩
    rw [K_X9_begin_24]
    simp (disch := omega) only [zi_lit, zl_lit, zi_add, zi_sub, zi_mul, zi_neg, zi_lt, zi_inj, zi_clamp, zl_of, gi_zi, bd_s, ltf, bi_0, bi_1, gb_bi, Int.reduceToNat, Int.reduceNeg, Int.toNat_natCast, hX.2.2.1, hba, hko]
    rw [if_pos (by omega)]
    rcases hst with ⟨h5, hA⟩ | ⟨h6, h5, hB⟩
    · have h := fresh n hni h5 hA
      have g3 := hA.2.2 hiL
      by_cases c1 : (kdb (T i) : Int) = (bf : Int)
      · rw [if_pos c1, if_neg (by omega), if_neg (by omega)]
        exact h
      · rw [if_neg c1]
        exact h
    · by_cases c1 : (kdb (T i) : Int) = (bf : Int)
      · rw [if_pos c1]
        obtain ⟨g1, g2, g3, g4, g5, g6, g7⟩ := hB
        have e56 : ∃ c2 N, K_X9_begin_56 fu (K_X9_begin_24 fu f) (zi (i : Int)) (zi (kdb (T i) : Int)) c = some c2 ∧ TXc c2 T L ∧ TKc c2 T L N ∧ (∀ j, j ≠ 5 → rd c2 2 j = rd c 2 j) ∧ Fr PTk c c2 := by
          have i1 : ((n + 1 : Nat) : Int) - 1 = (n : Int) := by omega
          have f1 : Fr PTk c (mw c 6 n (zi (((i - tpo T L n : Nat) : Int) + 1))) := Fr_mw _ _ rfl
          have e2 : ∀ j, rd (mw c 6 n (zi (((i - tpo T L n : Nat) : Int) + 1))) 2 j = rd c 2 j := fun j => by rw [rd_mw, if_neg (fun q => absurd q.1 (by decide))]
          obtain ⟨c3, N, b1, b2, b3, b4, b5⟩ := ih f (i + 1) n bf (mw c 6 n (zi (((i - tpo T L n : Nat) : Int) + 1))) (by omega) (by omega) (TXc_fr hX (e2 1) f1) hbf (by omega) (Or.inr ⟨by omega, (e2 5).trans h5, fun m hm => by
            rw [rd_mw, if_neg (fun q => absurd q.1 (by decide)), rd_mw, if_neg (fun q => absurd q.1 (by decide)), rd_mw, if_neg (fun q => by omega)]
            exact g1 m hm, g2, by omega, fun j h1 h2 => by
            by_cases q : j = i
            · rw [q]
              omega
            · exact g4 j h1 (by omega), by rw [rd_mw, if_neg (fun q => absurd q.1 (by decide))]; exact g5, by rw [rd_mw, if_neg (fun q => absurd q.1 (by decide))]; exact g6, by
            rw [rd_mw, if_pos ⟨rfl, rfl⟩]
            exact congrArg zi (by omega)⟩)
          unfold K_X9_begin_56
          simp (disch := omega) only [zi_lit, zl_lit, zi_add, zi_sub, zi_mul, zi_neg, zi_lt, zi_inj, zi_clamp, zl_of, gi_zi, bd_s, ltf, bi_0, bi_1, gb_bi, Int.reduceToNat, Int.reduceNeg, Int.toNat_natCast, h5, i1, g7]
          rw [if_pos (by omega), c1]
          exact ⟨c3, N, b1, b2, b3, fun j hj => (b4 j hj).trans (e2 j), Fr_tr f1 b5⟩
        rcases g2 with q | q
        · rw [if_pos (by omega)]
          exact e56
        · rw [if_neg (by omega), if_pos (by omega)]
          exact e56
      · rw [if_neg c1]
        exact fresh (n + 1) h6 h5 (SCb_end (by omega) hB (fun _ hq => c1 (by omega)))
theorem c_beginT (fu : Nat) (hfu : 1000 ≤ fu) {c : Mem} {T : Nat → Int} {L : Nat} (hX : TXc c T L) : ∃ c2 N, K_X9_begin fu c = some c2 ∧ TXc c2 T L ∧ TKc c2 T L N ∧ rd c2 2 6 = zi (-1) ∧ rd c2 2 11 = zi 0 ∧ rd c2 2 12 = zi (-1) ∧ Fr PTk c c2 := by
  have f0 : Fr PTk c (mw (mw (mw (mw c 2 11 (zi 0)) 2 12 (zi (-1))) 2 5 (zi 0)) 2 6 (zi (-1))) := Fr_tr (Fr_tr (Fr_tr (Fr_mw _ _ rfl) (Fr_mw _ _ rfl)) (Fr_mw _ _ rfl)) (Fr_mw _ _ rfl)
  have h700 := hX.2.1
  obtain ⟨c2, N, a1, a2, a3, a4, a5⟩ := c_bg24 fu (T := T) (L := L) L fu 0 0 0 (mw (mw (mw (mw c 2 11 (zi 0)) 2 12 (zi (-1))) 2 5 (zi 0)) 2 6 (zi (-1))) (by omega) (by omega) (TXc_fr hX (by simp [rd_mw]) f0) (by decide) (Nat.le_refl _) (Or.inl ⟨by simp [rd_mw], fun m hm => absurd hm (Nat.not_lt_zero m), rfl, fun _ hq => by omega⟩)
  refine ⟨c2, N, ?_, a2, a3, ?_, ?_, ?_, Fr_tr f0 a5⟩
  · unfold K_X9_begin
    simp only [zi_lit, zl_lit, zi_add, zi_sub, zi_mul, zi_neg, zi_lt, zi_inj, zi_clamp, zl_of, gi_zi, bd_s, ltf, bi_0, bi_1, gb_bi, Int.reduceToNat, Int.reduceNeg, Int.toNat_natCast]
    exact a1
  · rw [a4 6 (by decide)]
    simp [rd_mw]
  · rw [a4 11 (by decide)]
    simp [rd_mw]
  · rw [a4 12 (by decide)]
    simp [rd_mw]
/-- the kind of a token, with what is too long -/
def kkP (T : Nat → Int) (L p : Nat) : Nat := if p < L then (if kdb (T p) = 1 ∧ 8 < tzi T L p then 4 else if kdb (T p) = 2 ∧ 3 < tzi T L p then 4 else kdb (T p)) else 5
def tsz (T : Nat → Int) (L p : Nat) : Nat := if p < L then tzi T L p else 1
/-- the class at a token: before it goes to it, and behind that -/
def PcA (c : Mem) (N n : Nat) : Prop := rd c 2 6 = zi (if n ≤ N + 1 then (n : Int) - 1 else (N : Int))
def PcB (c : Mem) (T : Nat → Int) (L N n : Nat) : Prop := PcA c N (n + 1) ∧ rd c 2 7 = zi (kkP T L (tpo T L n) : Int) ∧ rd c 2 8 = zi (tpo T L n : Int) ∧ rd c 2 9 = zi (tsz T L (tpo T L n) : Int)
def P2t (k j : Nat) : Bool := k == 2 && (decide (6 ≤ j) && decide (j ≤ 12))
def ECc (c : Mem) (e p : Int) : Prop := rd c 2 11 = zi e ∧ rd c 2 12 = zi p
/-- all that the class's reading stands on -/
def TSc (c : Mem) (T : Nat → Int) (L N : Nat) : Prop := TXc c T L ∧ TKc c T L N
theorem TSc_fr {c c2 : Mem} {T : Nat → Int} {L N : Nat} (h : TSc c T L N) (f : Fr P2t c c2) : TSc c2 T L N := by
  obtain ⟨⟨a1, a2, a3, a4⟩, b1, b2, b3, b4, b5, b6, b7⟩ := h
  refine ⟨⟨a1, a2, (f.1 _ _ rfl).trans a3, fun i hi => (f.1 _ _ rfl).trans (a4 i hi)⟩, b1, (f.1 _ _ rfl).trans b2, fun m hm => ?_, b4, (f.1 _ _ rfl).trans b5, (f.1 _ _ rfl).trans b6, (f.1 _ _ rfl).trans b7⟩
  obtain ⟨k1, k2, k3, k4⟩ := b3 m hm
  exact ⟨k1, (f.1 _ _ rfl).trans k2, (f.1 _ _ rfl).trans k3, (f.1 _ _ rfl).trans k4⟩
theorem c_adv (fu : Nat) {c : Mem} {T : Nat → Int} {L N n : Nat} (h : TSc c T L N) (hA : PcA c N n) (hn : n ≤ 5000) : ∃ c2, K_X9_advance fu c = some c2 ∧ TSc c2 T L N ∧ PcB c2 T L N n ∧ (∀ j, 10 ≤ j → rd c2 2 j = rd c 2 j) ∧ Fr P2t c c2 := by
  have h' := h
  obtain ⟨⟨a1, a2, a3, a4⟩, b1, b2, b3, b4, b5, b6, b7⟩ := h'
  have hle := tp_le T L n
  -- the token that is gone to
  obtain ⟨m, hm⟩ : ∃ m : Nat, m = if n ≤ N then n else N := ⟨_, rfl⟩
  have htp : tpo T L m = tpo T L n := by
    rw [hm]
    by_cases q : n ≤ N
    · rw [if_pos q]
    · rw [if_neg q, b4, tp_Lk b4 n (by omega)]
  have hm700 : m ≤ N := by
    rw [hm]
    split <;> omega
  have rows : ∃ k z : Nat, rd c 4 m = zi (k : Int) ∧ rd c 5 m = zi (tpo T L n : Int) ∧ rd c 6 m = zi (z : Int) ∧ z ≤ 700 ∧ k ≤ 5 ∧ tsz T L (tpo T L n) = z ∧ kkP T L (tpo T L n) = (if k = 1 ∧ 8 < z then 4 else if k = 2 ∧ 3 < z then 4 else k) := by
    by_cases q : m < N
    · obtain ⟨k1, k2, k3, k4⟩ := b3 m q
      rw [htp] at k1 k2 k3 k4
      refine ⟨_, _, k2, k3, k4, ?_, ?_, ?_, ?_⟩
      · have := (tz_le (T := T) k1).2
        omega
      · have := kdb_le (T (tpo T L n))
        omega
      · unfold tsz
        rw [if_pos k1]
      · unfold kkP
        rw [if_pos k1]
    · have e : m = N := by omega
      have eL : tpo T L n = L := by rw [← htp, e, b4]
      refine ⟨5, 1, by rw [e]; exact b5, by rw [e, eL]; exact b6, by rw [e]; exact b7, by decide, by decide, ?_, ?_⟩
      · unfold tsz
        rw [if_neg (by omega)]
      · unfold kkP
        rw [if_neg (by omega), if_neg (by omega), if_neg (by omega)]
  obtain ⟨k, z, r4, r5, r6, hz, hk, ez, ek⟩ := rows
  have fin : ∀ c1 : Mem, rd c1 2 6 = zi (m : Int) → (∀ j, j ≠ 6 → rd c1 2 j = rd c 2 j) → (∀ a j, a ≠ 2 → rd c1 a j = rd c a j) → Fr P2t c c1 → ∃ c2, K_X9_advance_23 fu c1 = some c2 ∧ TSc c2 T L N ∧ PcB c2 T L N n ∧ (∀ j, 10 ≤ j → rd c2 2 j = rd c 2 j) ∧ Fr P2t c c2 := fun c1 g6 g2 ga gf => by
    have s4 : rd c1 4 m = zi (k : Int) := (ga 4 m (by decide)).trans r4
    obtain ⟨c2, hc2⟩ : ∃ c2, c2 = mw c1 2 7 (zi (k : Int)) := ⟨_, rfl⟩
    have s6 : rd c2 2 6 = zi (m : Int) := by rw [hc2, rd_mw, if_neg (by decide)]; exact g6
    have s5 : rd c2 5 m = zi (tpo T L n : Int) := by rw [hc2, rd_mw, if_neg (fun q => absurd q.1 (by decide))]; exact (ga 5 m (by decide)).trans r5
    obtain ⟨c3, hc3⟩ : ∃ c3, c3 = mw c2 2 8 (zi (tpo T L n : Int)) := ⟨_, rfl⟩
    have t6 : rd c3 2 6 = zi (m : Int) := by rw [hc3, rd_mw, if_neg (by decide)]; exact s6
    have t5 : rd c3 6 m = zi (z : Int) := by rw [hc3, rd_mw, if_neg (fun q => absurd q.1 (by decide)), hc2, rd_mw, if_neg (fun q => absurd q.1 (by decide))]; exact (ga 6 m (by decide)).trans r6
    obtain ⟨c4, hc4⟩ : ∃ c4, c4 = mw c3 2 9 (zi (z : Int)) := ⟨_, rfl⟩
    have u7 : rd c4 2 7 = zi (k : Int) := by rw [hc4, rd_mw, if_neg (by decide), hc3, rd_mw, if_neg (by decide), hc2, rd_mw, if_pos ⟨rfl, rfl⟩]
    have u9 : rd c4 2 9 = zi (z : Int) := by rw [hc4, rd_mw, if_pos ⟨rfl, rfl⟩]
    have u8 : rd c4 2 8 = zi (tpo T L n : Int) := by rw [hc4, rd_mw, if_neg (by decide), hc3, rd_mw, if_pos ⟨rfl, rfl⟩]
    have u6 : rd c4 2 6 = zi (m : Int) := by rw [hc4, rd_mw, if_neg (by decide)]; exact t6
    have u10 : ∀ j, 10 ≤ j → rd c4 2 j = rd c 2 j := fun j hj => by
      rw [hc4, rd_mw, if_neg (by omega), hc3, rd_mw, if_neg (by omega), hc2, rd_mw, if_neg (by omega)]
      exact g2 j (by omega)
    have f4 : Fr P2t c c4 := by
      rw [hc4, hc3, hc2]
      exact Fr_tr (Fr_tr (Fr_tr gf (Fr_mw _ _ rfl)) (Fr_mw _ _ rfl)) (Fr_mw _ _ rfl)
    have hcur : (m : Int) = (if n + 1 ≤ N + 1 then ((n + 1 : Nat) : Int) - 1 else (N : Int)) := by
      rw [hm]
      by_cases q : n ≤ N
      · rw [if_pos q, if_pos (by omega)]
        omega
      · rw [if_neg q, if_neg (by omega)]
    have stay : k = kkP T L (tpo T L n) → ∃ c2, (some c4 : Option Mem) = some c2 ∧ TSc c2 T L N ∧ PcB c2 T L N n ∧ (∀ j, 10 ≤ j → rd c2 2 j = rd c 2 j) ∧ Fr P2t c c2 := fun e => ⟨c4, rfl, TSc_fr h f4, ⟨by unfold PcA; rw [u6, hcur], by rw [u7, e], u8, by rw [u9, ez]⟩, u10, f4⟩
    have toolong : kkP T L (tpo T L n) = 4 → ∃ c2, K_X9_advance_115 fu c4 = some c2 ∧ TSc c2 T L N ∧ PcB c2 T L N n ∧ (∀ j, 10 ≤ j → rd c2 2 j = rd c 2 j) ∧ Fr P2t c c2 := fun e => by
      have f5 : Fr P2t c (mw c4 2 7 (zi 4)) := Fr_tr f4 (Fr_mw _ _ rfl)
      refine ⟨mw c4 2 7 (zi 4), rfl, TSc_fr h f5, ⟨?_, by rw [rd_mw, if_pos ⟨rfl, rfl⟩, e]; rfl, ?_, ?_⟩, fun j hj => ?_, f5⟩
      · unfold PcA
        rw [rd_mw, if_neg (by decide), u6, hcur]
      · rw [rd_mw, if_neg (by decide)]
        exact u8
      · rw [rd_mw, if_neg (by decide), u9, ez]
      · rw [rd_mw, if_neg (by omega)]
        exact u10 j hj
    have f99 : ¬ (k = 1 ∧ 8 < z) → ∃ c2, K_X9_advance_99 fu c4 = some c2 ∧ TSc c2 T L N ∧ PcB c2 T L N n ∧ (∀ j, 10 ≤ j → rd c2 2 j = rd c 2 j) ∧ Fr P2t c c2 := fun hno => by
      rw [if_neg hno] at ek
      unfold K_X9_advance_99
      simp (disch := omega) only [zi_lit, zl_lit, zi_add, zi_sub, zi_mul, zi_neg, zi_lt, zi_inj, zi_clamp, zl_of, gi_zi, bd_s, ltf, bi_0, bi_1, gb_bi, Int.reduceToNat, Int.reduceNeg, Int.toNat_natCast, u7, u9]
      by_cases q2 : k = 2
      · rw [if_pos (by omega)]
        by_cases q3 : 3 < z
        · rw [if_pos (by omega)]
          rw [if_pos ⟨q2, q3⟩] at ek
          exact toolong ek
        · rw [if_neg (by omega)]
          rw [if_neg (fun x => q3 x.2)] at ek
          exact stay ek.symm
      · rw [if_neg (by omega)]
        rw [if_neg (fun x => q2 x.1)] at ek
        exact stay ek.symm
    unfold K_X9_advance_23
    simp (disch := omega) only [zi_lit, zl_lit, zi_add, zi_sub, zi_mul, zi_neg, zi_lt, zi_inj, zi_clamp, zl_of, gi_zi, bd_s, ltf, bi_0, bi_1, gb_bi, Int.reduceToNat, Int.reduceNeg, Int.toNat_natCast, g6, s4, ← hc2, s6, s5, ← hc3, t6, t5, ← hc4, u7, u9]
    rw [if_neg (by omega), if_pos (by omega)]
    by_cases q1 : k = 1
    · rw [if_pos (by omega)]
      by_cases q3 : 8 < z
      · rw [if_pos (by omega)]
        rw [if_pos ⟨q1, q3⟩] at ek
        exact toolong ek
      · rw [if_neg (by omega)]
        exact f99 (fun x => q3 x.2)
    · rw [if_neg (by omega)]
      exact f99 (fun x => q1 x.1)
  unfold PcA at hA
  unfold K_X9_advance
  have hbig : -1 ≤ (if n ≤ N + 1 then (n : Int) - 1 else (N : Int)) ∧ (if n ≤ N + 1 then (n : Int) - 1 else (N : Int)) ≤ 5000 := by
    split <;> omega
  simp (disch := omega) only [zi_lit, zl_lit, zi_add, zi_sub, zi_mul, zi_neg, zi_lt, zi_inj, zi_clamp, zl_of, gi_zi, bd_s, ltf, bi_0, bi_1, gb_bi, Int.reduceToNat, Int.reduceNeg, Int.toNat_natCast, hA, b2]
  by_cases q : n ≤ N
  · rw [if_pos (show n ≤ N + 1 by omega), if_pos (by omega)]
    rw [if_pos q] at hm
    exact fin _ (by rw [rd_mw, if_pos ⟨rfl, rfl⟩]; exact congrArg zi (by omega)) (fun j hj => by rw [rd_mw, if_neg (fun x => hj x.2)]) (fun a j ha => by rw [rd_mw, if_neg (fun x => ha x.1)]) (Fr_mw _ _ rfl)
  · rw [if_neg (by split <;> omega)]
    rw [if_neg q] at hm
    refine fin c ?_ (fun _ _ => rfl) (fun _ _ _ => rfl) (Fr_rf _ c)
    rw [hA]
    exact congrArg zi (by split <;> omega)
end TOKS
