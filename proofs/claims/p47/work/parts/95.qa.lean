section QAA
/-- a piece of text, from a place on -/
def TXl (T : Nat → Int) : Nat → List Nat → Prop
  | _, [] => True
  | j, a :: l => T j = (a : Int) ∧ TXl T (j + 1) l
theorem TXl_app {T : Nat → Int} : ∀ (a b : List Nat) (j : Nat), TXl T j (a ++ b) ↔ TXl T j a ∧ TXl T (j + a.length) b := by
  intro a
  induction a with
  | nil => exact fun b j => ⟨fun h => ⟨trivial, h⟩, fun h => h.2⟩
  | cons x a ih =>
    intro b j
    show T j = (x : Int) ∧ TXl T (j + 1) (a ++ b) ↔ (T j = (x : Int) ∧ TXl T (j + 1) a) ∧ TXl T (j + (a.length + 1)) b
    rw [ih, show j + 1 + a.length = j + (a.length + 1) by omega]
    exact ⟨fun h => ⟨⟨h.1, h.2.1⟩, h.2.2⟩, fun h => ⟨h.1.1, h.1.2, h.2⟩⟩
theorem TXl_at {T : Nat → Int} : ∀ (a : List Nat) (j : Nat), TXl T j a → ∀ i, i < a.length → ∃ x, x ∈ a ∧ T (j + i) = (x : Int) := by
  intro a
  induction a with
  | nil => exact fun j _ i hi => absurd hi (Nat.not_lt_zero i)
  | cons x a ih =>
    intro j h i hi
    cases i with
    | zero => exact ⟨x, List.mem_cons_self .., h.1⟩
    | succ i =>
      obtain ⟨y, y1, y2⟩ := ih (j + 1) h.2 i (by have : (x :: a).length = a.length + 1 := rfl; omega)
      exact ⟨y, List.mem_cons_of_mem _ y1, by rw [show j + (i + 1) = j + 1 + i by omega]; exact y2⟩
/-- letters packed, as the class packs them -/
def pkW : List Nat → Nat
  | [] => 0
  | a :: l => (a - 96) * 32 ^ l.length + pkW l
theorem pkN_s {T : Nat → Int} {p : Nat} : ∀ m n, pkN T p (n + m) = pkN T p n * 32 ^ m + pkN T (p + n) m := by
  intro m
  induction m with
  | zero =>
    intro n
    rw [Nat.add_zero, Nat.pow_zero, Nat.mul_one]
    rfl
  | succ m ih =>
    intro n
    rw [show n + (m + 1) = (n + m) + 1 by omega, pkN, pkN, ih, Nat.pow_succ, Nat.add_mul, show p + n + m = p + (n + m) by omega, Nat.mul_assoc]
    omega
theorem pkN_W {T : Nat → Int} : ∀ (w : List Nat) (p : Nat), TXl T p w → pkN T p w.length = pkW w := by
  intro w
  induction w with
  | nil => exact fun p _ => rfl
  | cons a w ih =>
    intro p h
    show pkN T p (w.length + 1) = (a - 96) * 32 ^ w.length + pkW w
    rw [show w.length + 1 = 1 + w.length by omega, pkN_s, ih (p + 1) h.2]
    have e : pkN T p 1 = a - 96 := by
      show 0 * 32 + (T (p + 0) - 96).toNat = a - 96
      rw [Nat.add_zero, h.1]
      omega
    rw [e]
/-- behind n tokens the text goes on at j -/
def Epo (T : Nat → Int) (L n j : Nat) : Prop := tpo T L n = skp T L j
theorem Epo_next {T : Nat → Int} {L n : Nat} : Epo T L (n + 1) (tpo T L n + tzi T L (tpo T L n)) := rfl
theorem skp_ws {T : Nat → Int} {L : Nat} : ∀ (ws : List Nat) (j : Nat), TXl T j ws → (∀ a ∈ ws, kdb (a : Int) = 0) → j + ws.length ≤ L → skp T L j = skp T L (j + ws.length) := by
  intro ws
  induction ws with
  | nil => exact fun j _ _ _ => rfl
  | cons a ws ih =>
    intro j h h0 hl
    have e : (a :: ws).length = ws.length + 1 := rfl
    rw [skp_sp (by omega) (by rw [h.1]; exact h0 a (List.mem_cons_self ..)), ih (j + 1) h.2 (fun b hb => h0 b (List.mem_cons_of_mem _ hb)) (by omega), e]
    congr 1
    omega
theorem Epo_ws {T : Nat → Int} {L n j : Nat} (h : Epo T L n j) {ws : List Nat} (hT : TXl T j ws) (h0 : ∀ a ∈ ws, kdb (a : Int) = 0) (hl : j + ws.length ≤ L) : Epo T L n (j + ws.length) := by
  unfold Epo at h ⊢
  rw [h]
  exact skp_ws ws j hT h0 hl
/-- a word -/
theorem tk_w {T : Nat → Int} {L n j : Nat} (h : Epo T L n j) {w : List Nat} {d : Nat} (hT : TXl T j w) (hd : T (j + w.length) = (d : Int)) (hw : ∀ a ∈ w, kdb (a : Int) = 1) (h1 : 1 ≤ w.length ∧ w.length ≤ 8) (hk : kdb (d : Int) ≠ 1) (hl : j + w.length < L) : tpo T L n = j ∧ kkP T L j = 1 ∧ tzi T L j = w.length ∧ pkN T j (tzi T L j) = pkW w ∧ Epo T L (n + 1) (j + w.length) := by
  have kj : ∀ i, i < w.length → kdb (T (j + i)) = 1 := fun i hi => by
    obtain ⟨x, x1, x2⟩ := TXl_at w j hT i hi
    rw [x2]
    exact hw x x1
  have k0 : kdb (T j) = 1 := kj 0 (by omega)
  have tp : tpo T L n = j := by
    rw [h, skp_no (by omega) (by omega)]
  have tz : tzi T L j = w.length := by
    unfold tzi
    rw [if_pos (by omega), if_pos (Or.inl k0), k0]
    exact rnF_eq (by omega) kj (fun _ => by rw [hd]; exact hk)
  refine ⟨tp, ?_, tz, ?_, ?_⟩
  · unfold kkP
    rw [if_pos (by omega), if_neg (by omega), if_neg (by omega), k0]
  · rw [tz]
    exact pkN_W w j hT
  · have := Epo_next (T := T) (L := L) (n := n)
    rw [tp, tz] at this
    exact this
theorem tk_d {T : Nat → Int} {L n j : Nat} (h : Epo T L n j) {a d : Nat} (ha : T j = ((48 + a : Nat) : Int)) (h9 : a < 10) (hd : T (j + 1) = (d : Int)) (hk : kdb (d : Int) ≠ 2) (hl : j + 1 < L) : tpo T L n = j ∧ kkP T L j = 2 ∧ tzi T L j = 1 ∧ vlI T j (tzi T L j) = (a : Int) ∧ Epo T L (n + 1) (j + 1) := by
  have k0 : kdb (T j) = 2 := by
    rw [ha]
    exact kdb_2.mpr (by omega)
  have tp : tpo T L n = j := by
    rw [h, skp_no (by omega) (by omega)]
  have tz : tzi T L j = 1 := by
    unfold tzi
    rw [if_pos (by omega), if_pos (Or.inr k0), k0]
    exact rnF_eq (by omega) (fun i hi => by rw [show i = 0 by omega]; exact k0) (fun _ => by rw [hd]; exact hk)
  refine ⟨tp, ?_, tz, ?_, ?_⟩
  · unfold kkP
    rw [if_pos (by omega), if_neg (by omega), if_neg (by omega), k0]
  · rw [tz]
    show 10 * 0 + T (j + 0) - 48 = (a : Int)
    rw [Nat.add_zero, ha]
    omega
  · have := Epo_next (T := T) (L := L) (n := n)
    rw [tp, tz] at this
    exact this
theorem tk_s {T : Nat → Int} {L n j : Nat} (h : Epo T L n j) (ha : T j = 59) (hl : j < L) : tpo T L n = j ∧ sgB T L j 59 = true ∧ Epo T L (n + 1) (j + 1) := by
  have k0 : kdb (T j) = 3 := by
    rw [ha]
    rfl
  have tp : tpo T L n = j := by
    rw [h, skp_no (by omega) (by omega)]
  have tz : tzi T L j = 1 := by
    unfold tzi
    rw [if_pos (by omega), if_neg (by omega)]
  refine ⟨tp, ?_, ?_⟩
  · unfold sgB kkP
    rw [if_pos (by omega), if_neg (by omega), if_neg (by omega), k0, ha]
    rfl
  · have := Epo_next (T := T) (L := L) (n := n)
    rw [tp, tz] at this
    exact this
theorem tk_e {T : Nat → Int} {L n : Nat} (h : Epo T L n L) : kkP T L (tpo T L n) = 5 := by
  unfold Epo at h
  rw [h, skp_L (Nat.le_refl L)]
  unfold kkP
  rw [if_neg (by omega)]
/-- the class asks for a number, and has it -/
theorem g_num {fu : Nat} (hfu : 1000 ≤ fu) {c : Mem} {T : Nat → Int} {L N n : Nat} {a b v : Int} (hA : CAr c T L N n) (hn : n ≤ 5000) (hab : 0 ≤ a ∧ a ≤ 1000 ∧ -10 ≤ b ∧ b ≤ 1000) (hk : kkP T L (tpo T L n) = 2) (hv : vlI T (tpo T L n) (tzi T L (tpo T L n)) = v) (h1 : a ≤ v ∧ v ≤ b) : ∃ c2, K_X9_needNumber fu (zi a) (zi b) c = some (zi 1, c2) ∧ CBr c2 T L N n ∧ rd c2 2 10 = zi v ∧ Fr P2t c c2 := by
  obtain ⟨c1, a1, hB, a3⟩ := p_adv fu hA hn
  obtain ⟨k1, k2, k3, k4, k5, k6, k7⟩ := kk_2 hk
  obtain ⟨c2, d1, d2, d3, d4⟩ := c_nn25 fu (N := N) hab hk (tzi T L (tpo T L n)) fu 0 (mw c1 2 10 0) (by omega) (by omega) (CB_10 hB _) (by rw [rd_mw, if_pos ⟨rfl, rfl⟩]; rfl)
  have d1' : K_X9_needNumber_25 fu fu (zi a) (zi b) 0 (mw c1 2 10 0) = _ := d1
  refine ⟨c2, ?_, d2, by rw [d3, hv], Fr_tr (Fr_tr a3 (Fr_mw _ _ rfl)) d4⟩
  unfold K_X9_needNumber
  rw [a1, bd_s, hB.2.1.2.1, hk, if_pos (show zi ((2 : Nat) : Int) = 2 from rfl), ltf, d1', hv, if_neg (by omega), if_neg (by omega)]
  rfl
theorem g_sign {fu : Nat} {c : Mem} {T : Nat → Int} {L N n : Nat} (hA : CAr c T L N n) (hn : n ≤ 5000) (hs : sgB T L (tpo T L n) 59 = true) : ∃ c2, K_X9_needSign fu 59 c = some (zi 1, c2) ∧ CBr c2 T L N n ∧ Fr P2t c c2 := by
  obtain ⟨c1, a1, hB, a3⟩ := p_adv fu hA hn
  have h := c_isSign fu hB (x := 59) ⟨by decide, by decide⟩
  have h' : K_X9_isSign fu 59 c1 = some (zi (bi (sgB T L (tpo T L n) 59))) := h
  refine ⟨c1, ?_, hB, a3⟩
  unfold K_X9_needSign
  rw [a1, bd_s, h', bd_s, hs, if_neg (show ¬ zi (bi true) = 0 by decide)]
  rfl
theorem wB_of {T : Nat → Int} {L p W V : Nat} (hk : kkP T L p = 1) (hp : pkN T p (tzi T L p) = V) : wB T L p W = decide (V = W) := by
  unfold wB
  rw [hp]
  by_cases q : V = W
  · rw [decide_eq_true q, decide_eq_true ⟨hk, q⟩]
  · rw [decide_eq_false q, decide_eq_false (fun h => q h.2)]
theorem sd_w (s : Nat) (h : s < 4) : (∀ a ∈ tcs (19 + s), kdb (a : Int) = 1) ∧ (1 ≤ (tcs (19 + s)).length ∧ (tcs (19 + s)).length ≤ 8) ∧ (pkW (tcs (19 + s)) = if s = 0 then 15190664 else if s = 1 then 165492 else if s = 2 then 20436616 else 759412) := by
  rcases (show s = 0 ∨ s = 1 ∨ s = 2 ∨ s = 3 by omega) with rfl | rfl | rfl | rfl <;> decide
theorem sd_of {T : Nat → Int} {L p s : Nat} (hs : s < 4) (hk : kkP T L p = 1) (hp : pkN T p (tzi T L p) = pkW (tcs (19 + s))) : sdV T L p = (s : Int) := by
  have e := (sd_w s hs).2.2
  unfold sdV
  rw [wB_of hk hp, wB_of hk hp, wB_of hk hp, wB_of hk hp, e]
  rcases (show s = 0 ∨ s = 1 ∨ s = 2 ∨ s = 3 by omega) with rfl | rfl | rfl | rfl <;> decide
theorem g_side {fu : Nat} (hfu : 1000 ≤ fu) {c : Mem} {T : Nat → Int} {L N n s : Nat} (hA : CAr c T L N n) (hn : n ≤ 5000) (hs : s < 4) (hd : sdV T L (tpo T L n) = (s : Int)) : ∃ c2, K_X9_needSide fu c = some (zi (s : Int), c2) ∧ CBr c2 T L N n ∧ Fr P2t c c2 := by
  obtain ⟨c1, a1, hB, a3⟩ := p_adv fu hA hn
  refine ⟨c1, ?_, hB, a3⟩
  have i1 : (zi (s : Int) = (-1 : Int32)) = ((s : Int) = -1) := zi_inj (b_ := -1) (by omega) (by omega) (by decide) (by decide)
  unfold K_X9_needSide
  rw [a1, bd_s, c_side fu hfu hB, bd_s, hd, ltf, if_neg (fun z => by have := i1.mp z; omega)]
end QAA
