section BANWAYS
def sg (f : Nat → Nat) : Nat → Nat
  | 0 => 0
  | n + 1 => sg f n + f n
theorem sg_cg {f g : Nat → Nat} : ∀ {n : Nat}, (∀ k, k < n → f k = g k) → sg f n = sg g n := by
  intro n
  induction n with
  | zero => exact fun _ => rfl
  | succ n ih =>
    intro h
    rw [sg, sg, ih (fun k hk => h k (by omega)), h n (by omega)]
theorem sg_0 {f : Nat → Nat} : ∀ {n : Nat}, (∀ k, k < n → f k = 0) → sg f n = 0 := by
  intro n
  induction n with
  | zero => exact fun _ => rfl
  | succ n ih =>
    intro h
    rw [sg, ih (fun k hk => h k (by omega)), h n (by omega)]
theorem sg_5 (f : Nat → Nat) : ∀ n : Nat, sg f (5 * n) = sg (fun u => sg (fun l => f (5 * u + l)) 5) n := by
  intro n
  induction n with
  | zero => rfl
  | succ n ih =>
    rw [sg, ← ih, show 5 * (n + 1) = 5 * n + 1 + 1 + 1 + 1 + 1 by omega, sg, sg, sg, sg, sg]
    show _ = sg f (5 * n) + (((((0 + f (5 * n)) + f (5 * n + 1)) + f (5 * n + 2)) + f (5 * n + 3)) + f (5 * n + 4))
    omega
theorem sg_54 (g : Nat → Nat → Nat) : sg (fun l => sg (fun d => g l d) 4) 5 = sg (fun d => sg (fun l => g l d) 5) 4 := by
  show ((((0 + ((((0 + g 0 0) + g 0 1) + g 0 2) + g 0 3)) + ((((0 + g 1 0) + g 1 1) + g 1 2) + g 1 3)) + ((((0 + g 2 0) + g 2 1) + g 2 2) + g 2 3)) + ((((0 + g 3 0) + g 3 1) + g 3 2) + g 3 3)) + ((((0 + g 4 0) + g 4 1) + g 4 2) + g 4 3) = (((0 + (((((0 + g 0 0) + g 1 0) + g 2 0) + g 3 0) + g 4 0)) + (((((0 + g 0 1) + g 1 1) + g 2 1) + g 3 1) + g 4 1)) + (((((0 + g 0 2) + g 1 2) + g 2 2) + g 3 2) + g 4 2)) + (((((0 + g 0 3) + g 1 3) + g 2 3) + g 3 3) + g 4 3)
  omega
/-- numbers by the class: 0 if there is none, else from 1 to the modulus -/
def ph (n : Nat) : Nat := if n = 0 then 0 else (n - 1) % 1000003 + 1
theorem ph_le (n : Nat) : ph n ≤ 1000003 := by
  unfold ph
  split <;> omega
theorem ph_0 (n : Nat) : ph n = 0 ↔ n = 0 := by
  unfold ph
  split <;> omega
theorem ph_mod (n : Nat) : ph n % 1000003 = n % 1000003 := by
  unfold ph
  split <;> omega
theorem ph_add (a b : Nat) : ph (a + b) = if 1000003 < ph a + ph b then ph a + ph b - 1000003 else ph a + ph b := by
  by_cases h1 : a = 0
  · subst h1
    have := ph_le b
    rw [Nat.zero_add, show ph 0 = 0 from rfl, Nat.zero_add, if_neg (by omega)]
  · by_cases h2 : b = 0
    · subst h2
      have := ph_le a
      rw [Nat.add_zero, show ph 0 = 0 from rfl, Nat.add_zero, if_neg (by omega)]
    · unfold ph
      rw [if_neg h1, if_neg h2, if_neg (by omega)]
      split <;> omega
theorem c_sum (fu : Nat) (mem : Mem) (a b : Nat) : K_X1_sum fu (zi (ph a : Int)) (zi (ph b : Int)) mem = some (zi (ph (a + b) : Int)) := by
  have h1 := ph_le a
  have h2 := ph_le b
  have h3 := ph_add a b
  unfold K_X1_sum
  simp (disch := omega) only [zi_lit, zl_lit, zi_add, zi_sub, zi_mul, zi_neg, zi_lt, zi_inj, zi_clamp, zl_of, gi_zi, bd_s, ltf, bi_0, bi_1, gb_bi, Int.reduceToNat, Int.reduceNeg, Int.toNat_natCast]
  by_cases c1 : 1000003 < ph a + ph b
  · rw [if_pos (by omega)]
    rw [if_pos c1] at h3
    rw [h3]
    exact congrArg (fun x => some (zi x)) (by omega)
  · rw [if_neg (by omega)]
    rw [if_neg c1] at h3
    rw [h3]
    exact congrArg (fun x => some (zi x)) (by omega)
/-- the three kinds of rules, over all rules of a pawn -/
def orN (f : Nat → Bool) : Nat → Bool
  | 0 => false
  | n + 1 => orN f n || f n
def kL (s : Nat → Int) (i : Nat) (last : Int) (d : Nat) : Bool := if bg s i 1 = 0 then decide (last ≠ -1 ∧ (d : Int) = (last + 2) % 4) else if bg s i 1 = 1 then decide ((d : Int) = last) else false
def kN (s : Nat → Int) (i : Nat) (num : Int) (d : Nat) : Bool := decide (bg s i 1 = 2) && (decide ((d : Int) = bg s i 2) && decide (num % bg s i 3 = bg s i 4))
def kC (s : Nat → Int) (i : Nat) (x y : Int) (d : Nat) : Bool := decide (bg s i 1 = 3) && (decide ((d : Int) = bg s i 2) && (decide (lsI (bg s i 3) (bg s i 5) ≤ x ∧ x ≤ mrI (bg s i 3) (bg s i 5)) && decide (lsI (bg s i 4) (bg s i 6) ≤ y ∧ y ≤ mrI (bg s i 4) (bg s i 6))))
def bL (s : Nat → Int) (p last : Int) (d n : Nat) : Bool := orN (fun k => decide (bg s k 0 = p) && kL s k last d) n
def bN (s : Nat → Int) (p num : Int) (d n : Nat) : Bool := orN (fun k => decide (bg s k 0 = p) && kN s k num d) n
def bC (s : Nat → Int) (p : Int) (c d n : Nat) : Bool := orN (fun k => decide (bg s k 0 = p) && kC s k (xo c) (yo c) d) n
theorem fbN_3 {s : Nat → Int} (hb : basO s) {p last num : Int} {c d : Nat} : ∀ n : Nat, (n : Int) ≤ s 6 → fbN s p (xo c) (yo c) last num d n = ((bN s p num d n || bC s p c d n) || bL s p last d n) := by
  intro n
  induction n with
  | zero => exact fun _ => rfl
  | succ n ih =>
    intro hn
    have h1 := (hb n (by omega) (by omega)).2.1
    have h3 : fob s n (xo c) (yo c) last num d = ((kL s n last d || kN s n num d) || kC s n (xo c) (yo c) d) := (fob_3 h1 (xo c) (yo c) last num d).symm
    show (fbN s p (xo c) (yo c) last num d n || (decide (bg s n 0 = p) && fob s n (xo c) (yo c) last num d)) = (((bN s p num d n || (decide (bg s n 0 = p) && kN s n num d)) || (bC s p c d n || (decide (bg s n 0 = p) && kC s n (xo c) (yo c) d))) || (bL s p last d n || (decide (bg s n 0 = p) && kL s n last d)))
    rw [ih (by omega), h3]
    cases decide (bg s n 0 = p) <;> cases bN s p num d n <;> cases bC s p c d n <;> cases bL s p last d n <;> cases kL s n last d <;> cases kN s n num d <;> cases kC s n (xo c) (yo c) d <;> rfl
def latI (l : Nat) : Int := if l = 4 then -1 else (l : Int)
/-- may one go on, whatever the latest step is; and by the latest step -/
def frB (s : Nat → Int) (p num : Int) (u d : Nat) : Bool := op s u d && !(bN s p num d (s 6).toNat || bC s p u d (s 6).toNat)
def blB (s : Nat → Int) (p : Int) (l d : Nat) : Bool := bL s p (latI l) d (s 6).toNat
theorem al_fr {s : Nat → Int} (hb : basO s) (h6 : 0 ≤ s 6) {p num : Int} {u l d : Nat} : (op s u d && !fbB s p (xo u) (yo u) (latI l) num d) = (frB s p num u d && !blB s p l d) := by
  unfold fbB frB blB
  rw [fbN_3 hb (s 6).toNat (by omega)]
  cases op s u d <;> cases bN s p num d (s 6).toNat <;> cases bC s p u d (s 6).toNat <;> cases bL s p (latI l) d (s 6).toNat <;> rfl
/-- all ways, counted wholly -/
def cbT (s : Nat → Int) (p num : Int) (N : Nat → Nat) (u l d : Nat) : Nat := if (frB s p num u d && !blB s p l d) = true then N (5 * u + l) else 0
def tTw (s : Nat → Int) (p num : Int) (N : Nat → Nat) (u d : Nat) : Nat := sg (fun l => cbT s p num N u l d) 5
def sdB (s : Nat → Int) (p : Int) (v : Nat) : Bool := atS s (xo v) (yo v) (pg s p 2)
def arU (s : Nat → Int) (p num : Int) (N : Nat → Nat) (u d : Nat) : Nat := if sdB s p (nbr u d) = true then tTw s p num N u d else 0
def nxU (s : Nat → Int) (p num : Int) (N : Nat → Nat) (j u d : Nat) : Nat := if (!sdB s p (nbr u d) && decide (5 * nbr u d + d = j)) = true then tTw s p num N u d else 0
def arW (s : Nat → Int) (p num : Int) (N : Nat → Nat) : Nat := sg (fun u => sg (arU s p num N u) 4) 81
def nxW (s : Nat → Int) (p num : Int) (N : Nat → Nat) (j : Nat) : Nat := sg (fun u => sg (nxU s p num N j u) 4) 81
def n0W (s : Nat → Int) (p : Int) (j : Nat) : Nat := if (j : Int) = 5 * (celN s p : Int) + (if pg s p 5 = -1 then 4 else pg s p 5) then 1 else 0
def wkN (s : Nat → Int) (p : Int) : Nat → (Nat → Nat)
  | 0 => n0W s p
  | n + 1 => nxW s p (pg s p 4 + (n : Int)) (wkN s p n)
def wkA (s : Nat → Int) (p : Int) : Nat → Nat
  | 0 => 0
  | n + 1 => arW s p (pg s p 4 + (n : Int)) (wkN s p n)
def lwF (s : Nat → Int) (p : Int) : Nat → Nat → Int
  | 0, _ => -1
  | q + 1, n => if wkA s p (n + 1) = 0 then lwF s p q (n + 1) else ((n + 1 : Nat) : Int)
def lwS (s : Nat → Int) (p : Int) : Int := if 0 < pg s p 6 then 0 else lwF s p 200 0
/-- a place that is no part of the class's ways with bans -/
def PWb (k _ : Nat) : Bool := decide (28 ≤ k) && decide (k ≤ 32)
theorem PWb_35 : ∀ k j, 35 ≤ k → PWb k j = false := fun k j hk => by
  unfold PWb
  rw [decide_eq_false (p := k ≤ 32) (by omega), Bool.and_false]
theorem PWb_t {k j : Nat} (h1 : 28 ≤ k) (h2 : k ≤ 32) : PWb k j = true := by
  unfold PWb
  rw [decide_eq_true h1, decide_eq_true h2]
  rfl
theorem pBW_c (x : Int32) : pBW x = 29 ∨ pBW x = 30 := by
  unfold pBW
  split
  · exact Or.inl rfl
  · exact Or.inr rfl
theorem PWb_B (x : Int32) (j : Nat) : PWb (pBW x) j = true := by
  rcases pBW_c x with h | h <;> rw [h] <;> rfl
def BWx (mem : Mem) (x y : Int32) : Prop := rd mem 28 0 = x ∧ rd mem 28 1 = y ∧ pBW x ≠ pBW y
/-- the masks of the rules -/
def MBk (mem : Mem) (s : Nat → Int) (p : Int) (n : Nat) : Prop := (∀ c, c < 81 → rd mem 31 c = msk (fun d => bC s p c d n)) ∧ ∀ l, l < 5 → rd mem 32 l = msk (fun d => bL s p (latI l) d n)
theorem kL_none (s : Nat → Int) (i d : Nat) : kL s i (-1) d = false := by
  unfold kL
  split
  · exact decide_eq_false (fun h => h.1 rfl)
  · split
    · exact decide_eq_false (by omega)
    · rfl
theorem bL_none (s : Nat → Int) (p : Int) (d n : Nat) : bL s p (-1) d n = false := by
  unfold bL
  induction n with
  | zero => rfl
  | succ n ih => rw [orN, ih, kL_none, Bool.and_false]; rfl
theorem c_ab30 (fu r i : Nat) {s : Nat → Int} (h1 : 0 ≤ bg s i 1 ∧ bg s i 1 ≤ 3) {G : Nat → Nat → Bool} : ∀ (q n l : Nat) (mem : Mem), l + q = 4 → q < n → RN mem r s i → (∀ a, a < 5 → rd mem 32 a = msk (fun d => G a d || (decide (a < l) && kL s i (latI a) d))) → ∃ mem2, K_X1_addBan_30 fu r i n (zi (l : Int)) mem = some mem2 ∧ (∀ a, a < 5 → rd mem2 32 a = msk (fun d => G a d || kL s i (latI a) d)) ∧ Fr (fun k _ => k == 32) mem mem2 := by
  intro q
  induction q with
  | zero =>
    intro n l mem hl hn hB hG
    obtain ⟨n, rfl⟩ : ∃ f, n = f + 1 := ⟨n - 1, by omega⟩
    rw [K_X1_addBan_30]
    simp (disch := omega) only [zi_lit, zl_lit, zi_add, zi_sub, zi_mul, zi_neg, zi_lt, zi_inj, zi_clamp, zl_of, gi_zi, bd_s, ltf, bi_0, bi_1, gb_bi, Int.reduceToNat, Int.reduceNeg, Int.toNat_natCast]
    rw [if_neg (by omega)]
    refine ⟨mem, rfl, fun a ha => ?_, Fr_rf _ mem⟩
    rw [hG a ha]
    refine msk_cg (fun e _ => ?_)
    by_cases q1 : a < l
    · rw [decide_eq_true q1, Bool.true_and]
    · have ha4 : a = 4 := by omega
      rw [decide_eq_false q1, Bool.false_and, ha4, show latI 4 = -1 from rfl, kL_none]
  | succ q ih =>
    intro n l mem hl hn hB hG
    obtain ⟨n, rfl⟩ : ∃ f, n = f + 1 := ⟨n - 1, by omega⟩
    have hl4 : l < 4 := by omega
    have e := c_byLatest fu r i hB h1 (last := (l : Int)) (by omega)
    rw [K_X1_addBan_30]
    simp (disch := omega) only [zi_lit, zl_lit, zi_add, zi_sub, zi_mul, zi_neg, zi_lt, zi_inj, zi_clamp, zl_of, gi_zi, bd_s, ltf, bi_0, bi_1, gb_bi, Int.reduceToNat, Int.reduceNeg, Int.toNat_natCast, e, hG l (by omega), msk_or2]
    rw [if_pos (by omega)]
    have el : latI l = (l : Int) := if_neg (by omega)
    obtain ⟨m2, a1, a2, a3⟩ := ih n (l + 1) (mw mem 32 l (msk (fun d => (G l d || (decide (l < l) && kL s i (latI l) d)) || (if bg s i 1 = 0 then decide ((l : Int) ≠ -1 ∧ (d : Int) = ((l : Int) + 2) % 4) else if bg s i 1 = 1 then decide ((d : Int) = (l : Int)) else false)))) (by omega) (by omega) (RN_fr2 (Fr_mw (P := fun k _ => k == 32) _ _ (by simp)) (fun j => by unfold pBan; simp; omega) hB) (fun a ha => by
      rw [rd_mw]
      by_cases q1 : a = l
      · rw [if_pos ⟨rfl, q1⟩, q1]
        refine msk_cg (fun e2 _ => ?_)
        rw [decide_eq_false (p := l < l) (by omega), Bool.false_and, Bool.or_false, decide_eq_true (p := l < l + 1) (by omega), Bool.true_and, el]
        rfl
      · rw [if_neg (fun h => q1 h.2), hG a ha]
        refine msk_cg (fun e2 _ => ?_)
        rw [show decide (a < l) = decide (a < l + 1) from decide_eq_decide.mpr (by omega)])
    exact ⟨m2, a1, a2, Fr_tr (Fr_mw _ _ (by simp)) a3⟩
def PM3 (k _ : Nat) : Bool := k == 31 || k == 32
theorem PM3_W {k j : Nat} (h : PWb k j = false) : PM3 k j = false := by
  unfold PWb at h
  unfold PM3
  rw [Bool.and_eq_false_iff, decide_eq_false_iff_not, decide_eq_false_iff_not] at h
  simp
  omega
theorem c_ab2 (fu r i : Nat) (hfu : 1000 ≤ fu) {s : Nat → Int} (hz : szO s) (hb : bnO s i) {G : Nat → Nat → Bool} {H : Nat → Nat → Bool} : ∀ (q n c : Nat) (mem : Mem), c + q = 81 → q < n → RN mem r s i → (∀ a, a < 81 → rd mem 31 a = msk (fun d => H a d || (decide (a < c) && kC s i (xo a) (yo a) d))) → (∀ a, a < 5 → rd mem 32 a = msk (fun d => G a d)) → ∃ mem2, K_X1_addBan_2 fu r i n (zi (c : Int)) mem = some mem2 ∧ (∀ a, a < 81 → rd mem2 31 a = msk (fun d => H a d || kC s i (xo a) (yo a) d)) ∧ (∀ a, a < 5 → rd mem2 32 a = msk (fun d => G a d || kL s i (latI a) d)) ∧ Fr PM3 mem mem2 := by
  intro q
  induction q with
  | zero =>
    intro n c mem hl hn hB hH hG
    obtain ⟨n, rfl⟩ : ∃ f, n = f + 1 := ⟨n - 1, by omega⟩
    obtain ⟨m2, a1, a2, a3⟩ := c_ab30 fu r i hb.2.1 (G := G) 4 fu 0 mem (by omega) (by omega) hB (fun a ha => by
      rw [hG a ha]
      refine msk_cg (fun e _ => ?_)
      rw [decide_eq_false (p := a < 0) (by omega), Bool.false_and, Bool.or_false])
    rw [K_X1_addBan_2]
    simp (disch := omega) only [zi_lit, zl_lit, zi_add, zi_sub, zi_mul, zi_neg, zi_lt, zi_inj, zi_clamp, zl_of, gi_zi, bd_s, ltf, bi_0, bi_1, gb_bi, Int.reduceToNat, Int.reduceNeg, Int.toNat_natCast]
    rw [if_neg (by omega)]
    refine ⟨m2, a1, fun a ha => ?_, a2, Fr_mono a3 (fun k j h => ?_)⟩
    · rw [a3.1 _ _ (by simp), hH a ha]
      refine msk_cg (fun e _ => ?_)
      rw [decide_eq_true (p := a < c) (by omega), Bool.true_and]
    · unfold PM3 at h
      rw [Bool.or_eq_false_iff] at h
      exact h.2
  | succ q ih =>
    intro n c mem hl hn hB hH hG
    obtain ⟨n, rfl⟩ : ∃ f, n = f + 1 := ⟨n - 1, by omega⟩
    have hc : c < 81 := by omega
    rw [K_X1_addBan_2]
    simp (disch := omega) only [zi_lit, zl_lit, zi_add, zi_sub, zi_mul, zi_neg, zi_lt, zi_inj, zi_clamp, zl_of, gi_zi, bd_s, ltf, bi_0, bi_1, gb_bi, Int.reduceToNat, Int.reduceNeg, Int.toNat_natCast, c_byCell fu r i hz hB hb hc, hH c hc, msk_or2]
    rw [if_pos (by omega)]
    have f : Fr PM3 mem (mw mem 31 c (msk (fun d => (H c d || (decide (c < c) && kC s i (xo c) (yo c) d)) || (decide (bg s i 1 = 3) && (decide ((d : Int) = bg s i 2) && (decide (lsI (bg s i 3) (bg s i 5) ≤ xo c ∧ xo c ≤ mrI (bg s i 3) (bg s i 5)) && decide (lsI (bg s i 4) (bg s i 6) ≤ yo c ∧ yo c ≤ mrI (bg s i 4) (bg s i 6)))))))) := Fr_mw _ _ rfl
    obtain ⟨m2, a1, a2, a3, a4⟩ := ih n (c + 1) _ (by omega) (by omega) (RN_fr2 f (fun j => PM3_W (PWb_35 _ _ (by unfold pBan; omega))) hB) (fun a ha => by
      rw [rd_mw]
      by_cases q1 : a = c
      · rw [if_pos ⟨rfl, q1⟩, q1]
        refine msk_cg (fun e2 _ => ?_)
        rw [decide_eq_false (p := c < c) (by omega), Bool.false_and, Bool.or_false, decide_eq_true (p := c < c + 1) (by omega), Bool.true_and]
        rfl
      · rw [if_neg (fun h => q1 h.2), hH a ha]
        refine msk_cg (fun e2 _ => ?_)
        rw [show decide (a < c) = decide (a < c + 1) from decide_eq_decide.mpr (by omega)]) (fun a ha => by
      rw [rd_mw, if_neg (fun h => absurd h.1 (by decide))]
      exact hG a ha)
    exact ⟨m2, a1, a2, a3, Fr_tr f a4⟩
/-- the beginning of the walk: masks, and where the pawn is -/
def CWn (mem : Mem) (x : Int32) (N : Nat → Nat) : Prop := ∀ j, j < 405 → rd mem (pBW x) j = zi (ph (N j) : Int)
theorem c_bg18 (fu r : Nat) (hfu : 1000 ≤ fu) {s : Nat → Int} (hz : szO s) (hc : cnO s) (hb : basO s) {p : Nat} (hps : (p : Int) < s 2) (hpn : pnO s p) {x y : Int32} : ∀ (q n k : Nat) (mem : Mem), (k : Int) + q = s 6 → q < n → RC mem r s → BWx mem x y → MBk mem s p k → ∃ mem2, K_X1_begin_18 fu r n (zi (p : Int)) (zi (k : Int)) mem = some mem2 ∧ MBk mem2 s p (s 6).toNat ∧ BWx mem2 x y ∧ CWn mem2 x (n0W s p) ∧ Fr PWb mem mem2 := by
  have c1 := hc.1
  have c2 := hc.2.1
  have hcl := cel_lt hz hpn
  have hcl1 := hcl.1
  have hxy := cl_nat hz hpn.1
  have e3 : 9 * pg s p 1 + pg s p 0 = (celN s p : Int) := by
    unfold celN
    omega
  have hlat := hpn.2.2.2.2.1
  intro q
  induction q with
  | zero =>
    intro n k mem hk hn hR hB hM
    obtain ⟨n, rfl⟩ : ∃ f, n = f + 1 := ⟨n - 1, by omega⟩
    obtain ⟨m1, a1, a2, a3⟩ := c_fill fu (pBW x) 405 (zi 0) (by omega) (by omega) mem
    have nb : pBW x ≠ 28 ∧ pBW x ≠ 31 ∧ pBW x ≠ 32 := by
      rcases pBW_c x with h | h <;> rw [h] <;> decide
    have f1 : Fr PWb mem m1 := Fr_mono a3 (fun k2 j h => by
      by_cases e : k2 = pBW x
      · rw [e, PWb_B] at h
        cases h
      · simpa using e)
    have hR1 := RC_fr f1 PWb_35 hR
    have hRP := hR1.2.2.1 p (by omega) hps
    have r0 := hRP.1
    rw [e3] at r0
    have g28 : rd m1 28 0 = x := by
      rw [a3.1 _ _ (by simpa using nb.1.symm)]
      exact hB.1
    rw [K_X1_begin_18]
    unfold K_X1_begin_96
    simp (disch := omega) only [zi_lit, zl_lit, zi_add, zi_sub, zi_mul, zi_neg, zi_lt, zi_inj, zi_clamp, zl_of, gi_zi, bd_s, ltf, bi_0, bi_1, gb_bi, Int.reduceToNat, Int.reduceNeg, Int.toNat_natCast, hR.2.1.2.1, hB.1, a1, hRP.2.2.2.2.1, r0, g28]
    rw [if_neg (by omega)]
    have fin : ∀ v : Int, v = (if pg s p 5 = -1 then 4 else pg s p 5) → ∃ mem2, (some (mw m1 (pBW x) ((celN s p : Int) * 5 + v).toNat (zi 1)) : Option Mem) = some mem2 ∧ MBk mem2 s p (s 6).toNat ∧ BWx mem2 x y ∧ CWn mem2 x (n0W s p) ∧ Fr PWb mem mem2 := fun v hv => by
      refine ⟨_, rfl, ⟨fun c hc => ?_, fun l hl => ?_⟩, ⟨?_, ?_, hB.2.2⟩, fun j hj => ?_, Fr_tr f1 (Fr_mw _ _ (PWb_B _ _))⟩
      · rw [rd_mw, if_neg (fun h => nb.2.1 h.1.symm), a3.1 _ _ (by simpa using nb.2.1.symm), hM.1 c hc, show (s 6).toNat = k by omega]
      · rw [rd_mw, if_neg (fun h => nb.2.2 h.1.symm), a3.1 _ _ (by simpa using nb.2.2.symm), hM.2 l hl, show (s 6).toNat = k by omega]
      · rw [rd_mw, if_neg (fun h => nb.1 h.1.symm)]
        exact g28
      · rw [rd_mw, if_neg (fun h => nb.1 h.1.symm), a3.1 _ _ (by simpa using nb.1.symm)]
        exact hB.2.1
      · rw [rd_mw]
        unfold n0W
        rw [← hv]
        have hv2 : 0 ≤ v := by
          rw [hv]
          split <;> omega
        by_cases q1 : (j : Int) = 5 * (celN s p : Int) + v
        · rw [if_pos ⟨rfl, by omega⟩, if_pos q1]
          rfl
        · rw [if_neg (fun h => by omega), if_neg q1, a2 j, if_pos hj]
          rfl
    by_cases q1 : pg s p 5 = -1
    · rw [if_pos q1]
      exact fin 4 (if_pos q1).symm
    · rw [if_neg q1]
      exact fin _ (if_neg q1).symm
  | succ q ih =>
    intro n k mem hk hn hR hB hM
    obtain ⟨n, rfl⟩ : ∃ f, n = f + 1 := ⟨n - 1, by omega⟩
    have hbk := hb k (by omega) (by omega)
    have hRN := hR.2.2.2 k (by omega) (by omega)
    have h0 := hbk.1
    rw [K_X1_begin_18]
    simp (disch := omega) only [zi_lit, zl_lit, zi_add, zi_sub, zi_mul, zi_neg, zi_lt, zi_inj, zi_clamp, zl_of, gi_zi, bd_s, ltf, bi_0, bi_1, gb_bi, Int.reduceToNat, Int.reduceNeg, Int.toNat_natCast, hR.2.1.2.1, hRN.1]
    rw [if_pos (by omega)]
    by_cases c3 : bg s k 0 = (p : Int)
    · rw [if_pos c3]
      obtain ⟨m1, a1, a2, a3, a4⟩ := c_ab2 fu r k hfu hz hbk (G := fun a d => bL s p (latI a) d k) (H := fun a d => bC s p a d k) 81 fu 0 mem (by omega) (by omega) hRN (fun a ha => by
        rw [hM.1 a ha]
        refine msk_cg (fun e _ => ?_)
        rw [decide_eq_false (p := a < 0) (by omega), Bool.false_and, Bool.or_false]) hM.2
      have a1' : K_X1_addBan fu r k mem = some m1 := a1
      have hB1 : BWx m1 x y := ⟨(a4.1 _ _ rfl).trans hB.1, (a4.1 _ _ rfl).trans hB.2.1, hB.2.2⟩
      obtain ⟨m2, b1, b2, b3, b4, b5⟩ := ih n (k + 1) m1 (by omega) (by omega) (RC_fr a4 (fun k j h => PM3_W (PWb_35 k j h)) hR) hB1 ⟨fun c hc => by
        rw [a2 c hc]
        refine msk_cg (fun e _ => ?_)
        show _ = (bC s p c e k || (decide (bg s k 0 = p) && kC s k (xo c) (yo c) e))
        rw [decide_eq_true c3, Bool.true_and], fun l hl => by
        rw [a3 l hl]
        refine msk_cg (fun e _ => ?_)
        show _ = (bL s p (latI l) e k || (decide (bg s k 0 = p) && kL s k (latI l) e))
        rw [decide_eq_true c3, Bool.true_and]⟩
      rw [a1']
      exact ⟨m2, b1, b2, b3, b4, Fr_tr (Fr_mono a4 (fun _ _ => PM3_W)) b5⟩
    · rw [if_neg c3]
      exact ih n (k + 1) mem (by omega) (by omega) hR hB ⟨fun c hc => by
        rw [hM.1 c hc]
        refine msk_cg (fun e _ => ?_)
        show _ = (bC s p c e k || (decide (bg s k 0 = p) && kC s k (xo c) (yo c) e))
        rw [decide_eq_false c3, Bool.false_and, Bool.or_false], fun l hl => by
        rw [hM.2 l hl]
        refine msk_cg (fun e _ => ?_)
        show _ = (bL s p (latI l) e k || (decide (bg s k 0 = p) && kL s k (latI l) e))
        rw [decide_eq_false c3, Bool.false_and, Bool.or_false]⟩
end BANWAYS
