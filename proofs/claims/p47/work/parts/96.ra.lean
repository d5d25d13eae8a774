section RAA
/-- without walls each cell has a way to each side -/
theorem e_way {s : Nat → Int} (hz : szO s) (hw : ∀ j, 120 ≤ j → s j = 0) {side : Nat} (hs : side < 4) : ∀ (m c : Nat), c < 81 → isCl s (xo c) (yo c) = true → (if side = 0 then s 1 - 1 - yo c else if side = 1 then s 0 - 1 - xo c else if side = 2 then yo c else xo c) = (m : Int) → ∃ n, Pth (op s) nbr (Sd s (side : Int)) n c := by
  intro m
  induction m with
  | zero =>
    intro c hc hi hm
    refine ⟨0, hc, hi, ?_⟩
    have h1 := isCl_iff.mp hi
    unfold atS
    rcases (show side = 0 ∨ side = 1 ∨ side = 2 ∨ side = 3 by omega) with rfl | rfl | rfl | rfl <;> simp at hm ⊢ <;> omega
  | succ m ih =>
    intro c hc hi hm
    have h1 := isCl_iff.mp hi
    have ho : op s c side = true := by
      rw [op_E hw c side hs]
      unfold opE
      rw [hi]
      rcases (show side = 0 ∨ side = 1 ∨ side = 2 ∨ side = 3 by omega) with rfl | rfl | rfl | rfl <;> simp at hm ⊢ <;> omega
    obtain ⟨a1, a4, a2, a3, -⟩ := op_nb hz hc hs ho
    obtain ⟨b1, b2⟩ := op_sym hz hs ho
    obtain ⟨n, hn⟩ := ih (nbr c side) a1 a4 (by
      rw [a2, a3]
      unfold dx dy
      rcases (show side = 0 ∨ side = 1 ∨ side = 2 ∨ side = 3 by omega) with rfl | rfl | rfl | rfl <;> simp at hm ⊢ <;> omega)
    exact ⟨n + 1, nbr c side, opp side, opp_lt side, hn, b1, b2⟩
theorem e_dst {s : Nat → Int} (hI : InvR s) (h3 : s 3 = 0) {u : Nat} (hu : u < 4) {x y sd : Nat} {w : Int} (hx : (x : Int) < s 0) (hy : (y : Int) < s 1) (hsd : sd < 4) : dst (npS s u (x : Int) (y : Int) (sd : Int) w) (u : Int) ≠ -1 := by
  have hz := hI.1.1.1
  have hz2 := hz
  obtain ⟨⟨z1, z2⟩, z3, z4⟩ := hz2
  have g : ∀ k : Nat, k ≤ 6 → pg (npS s u (x : Int) (y : Int) (sd : Int) w) (u : Int) (k : Int) = npF (x : Int) (y : Int) (sd : Int) w k := fun k hk => np_new rfl hk
  have e : ∀ j, j ≠ 2 → j < 8 ∨ 36 ≤ j → npS s u (x : Int) (y : Int) (sd : Int) w j = s j := fun j h h' => np_ne hu h h'
  have hw := hI.2.2.1 h3
  have g0 : pg (npS s u (x : Int) (y : Int) (sd : Int) w) (u : Int) 0 = (x : Int) := g 0 (by decide)
  have g1 : pg (npS s u (x : Int) (y : Int) (sd : Int) w) (u : Int) 1 = (y : Int) := g 1 (by decide)
  have g2 : pg (npS s u (x : Int) (y : Int) (sd : Int) w) (u : Int) 2 = (sd : Int) := g 2 (by decide)
  have g6 : pg (npS s u (x : Int) (y : Int) (sd : Int) w) (u : Int) 6 = 0 := g 6 (by decide)
  unfold dst celN
  rw [g0, g1, g2, g6, if_neg (by decide), dl_cg (e 0 (by decide) (by decide)) (e 1 (by decide) (by decide)) (fun j hj => e j (by omega) (by omega))]
  refine dlt_nn.mpr ?_
  have ex : xo (9 * (y : Int) + (x : Int)).toNat = (x : Int) := by
    unfold xo
    omega
  have ey : yo (9 * (y : Int) + (x : Int)).toNat = (y : Int) := by
    unfold yo
    omega
  refine e_way hz hw hsd (if sd = 0 then s 1 - 1 - yo (9 * (y : Int) + (x : Int)).toNat else if sd = 1 then s 0 - 1 - xo (9 * (y : Int) + (x : Int)).toNat else if sd = 2 then yo (9 * (y : Int) + (x : Int)).toNat else xo (9 * (y : Int) + (x : Int)).toNat).toNat _ (by omega) (isCl_iff.mpr ?_) ?_
  · rw [ex, ey]
    omega
  · rw [ex, ey, Int.toNat_of_nonneg]
    split
    · omega
    · split
      · omega
      · split <;> omega
/-- what a text does for the class that reads it, so far -/
def RT (fu : Nat) (tx : List Nat) (k : Nat) (s : Nat → Int) (u : Nat) (b1 b2 : Bool) (w : Int) : Prop := ∀ (f L N : Nat) (T : Nat → Int) (c0 : Mem), TXl T 0 tx → tx.length ≤ L → L ≤ 500 → CAr c0 T L N 0 → RC c0 1 s00 → FLc c0 false false 5 → ∃ c n nm, K_X7_readRace_31 fu (f + k) (zi 0) c0 = K_X7_readRace_31 fu f (zi (k : Int)) c ∧ RSx c T L N n tx.length s u b1 b2 w nm ∧ Fr PSc c0 c
theorem RT_0 (fu : Nat) : RT fu [] 0 s00 0 false false 5 := fun f L N T c0 h1 h2 h3 h4 h5 h6 => ⟨c0, 0, fun _ => 0, rfl, ⟨⟨h4, rfl, Nat.le_refl 0, h2, h3⟩, h5, h6, fun i hi => absurd hi (Nat.not_lt_zero i), rfl⟩, Fr_rf _ _⟩
theorem RT_s {fu : Nat} {tx st : List Nat} {k : Nat} {s s2 : Nat → Int} {u u2 : Nat} {b1 b2 c1 c2 : Bool} {w w2 : Int} (h : RT fu tx k s u b1 b2 w) (hs : ∀ (f L N n : Nat) (T : Nat → Int) (c : Mem) (nm : Nat → Nat), RSx c T L N n tx.length s u b1 b2 w nm → TXl T tx.length st → tx.length + st.length ≤ L → ∃ d n2 nm2, K_X7_readRace_31 fu (f + 1) (zi (k : Int)) c = K_X7_readRace_31 fu f (zi ((k + 1 : Nat) : Int)) d ∧ RSx d T L N n2 (tx.length + st.length) s2 u2 c1 c2 w2 nm2 ∧ Fr PSc c d) : RT fu (tx ++ st) (k + 1) s2 u2 c1 c2 w2 := by
  intro f L N T c0 h1 h2 h3 h4 h5 h6
  obtain ⟨t1, t2⟩ := (TXl_app _ _ _).mp h1
  rw [Nat.zero_add] at t2
  rw [List.length_append] at h2
  obtain ⟨c, n, nm, a1, a2, a3⟩ := h (f + 1) L N T c0 t1 (by omega) h3 h4 h5 h6
  obtain ⟨d, n2, nm2, b1, b2, b3⟩ := hs f L N n T c nm a2 t2 h2
  refine ⟨d, n2, nm2, ?_, ?_, Fr_tr a3 b3⟩
  · rw [show f + (k + 1) = f + 1 + k by omega, a1, b1]
  · rw [List.length_append]
    exact b2
theorem RT_board {fu : Nat} (hfu : 1000 ≤ fu) {w h : Nat} (hw : 3 ≤ w ∧ w ≤ 9) (hh : 3 ≤ h ∧ h ≤ 9) {tx : List Nat} {k : Nat} (hk : k ≤ 600) {s : Nat → Int} {b2 : Bool} {w0 : Int} (hI : InvR s) (h3 : s 3 = 0) (hT : RT fu tx k s 0 false b2 w0) : RT fu (tx ++ stB1 w h) (k + 1) (up1 (up1 s 0 (w : Int)) 1 (h : Int)) 0 true b2 w0 := RT_s hT (fun f L N n T c nm hR ht hl => by
  obtain ⟨c2, n2, e1, e2, e3, e4⟩ := r_board hfu hR hI h3 hw hh ht hl (f := f) hk
  exact ⟨c2, n2, nm, e1, e2, e4⟩)
theorem RT_walls {fu : Nat} (hfu : 1000 ≤ fu) {w : Nat} (hw : w < 10) {z : Bool} {tx : List Nat} {k : Nat} (hk : k ≤ 600) {s : Nat → Int} {u : Nat} {b1 : Bool} {w0 : Int} (hT : RT fu tx k s u b1 false w0) : RT fu (tx ++ stW1 w z) (k + 1) s u b1 true (w : Int) := RT_s hT (fun f L N n T c nm hR ht hl => by
  obtain ⟨c2, n2, e1, e2, e3⟩ := r_walls hfu hR hw ht hl (f := f) hk
  exact ⟨c2, n2, nm, e1, e2, e3⟩)
theorem RT_pawn {fu : Nat} (hfu : 1000 ≤ fu) {tx : List Nat} {k : Nat} (hk : k ≤ 600) {s : Nat → Int} {u : Nat} {b1 b2 : Bool} {w0 : Int} (hI : InvR s) (h3 : s 3 = 0) (hu4 : u < 4) {x y sd : Nat} {ow : Option Nat} (hw0 : 0 ≤ w0 ∧ w0 ≤ 20) (hk9 : ∀ k, ow = some k → k < 10) (hx : (x : Int) < s 0) (hy : (y : Int) < s 1) (hx9 : x < 10) (hy9 : y < 10) (hsd : sd < 4) (hpI : pI s (x : Int) (y : Int) = -1) (hat : atS s (x : Int) (y : Int) (sd : Int) = false) (hT : RT fu tx k s u b1 b2 w0) : RT fu (tx ++ stPn u x y sd ow) (k + 1) (npS s u (x : Int) (y : Int) (sd : Int) (owV ow w0)) (u + 1) b1 b2 w0 := RT_s hT (fun f L N n T c nm hR ht hl => by
  obtain ⟨c2, n2, nm2, e1, e2, e3, e4⟩ := r_pawn hfu hR hI hu4 hw0 hk9 hx hy hx9 hy9 hsd hpI hat (e_dst hI h3 hu4 hx hy hsd) ht hl (f := f) hk
  exact ⟨c2, n2, nm2, e1, e2, e4⟩)
theorem RT_ban {fu : Nat} (hfu : 1000 ≤ fu) {tx : List Nat} {i : Nat} (hi : i ≤ 600) {s : Nat → Int} {u : Nat} {b1 b2 : Bool} {w0 : Int} (hI : InvR s) (hu4 : u ≤ 4) {b p k d : Nat} {q : Nat → Nat} (hb : b < 12) (h6 : s 6 = b) (hp : p < u) (hk : k < 4) (hd : d < 4) (hq : bnQ s k q) (hT : RT fu tx i s u b1 b2 w0) : RT fu (tx ++ stBan p k d q) (i + 1) (up1 (rwB s b (gBr p k d q)) 6 (s 6 + 1)) u b1 b2 w0 := RT_s hT (fun f L N n T c nm hR ht hl => by
  obtain ⟨c2, n2, e1, e2, e3, e4⟩ := r_ban hfu hR hI hu4 hb h6 hp hk hd hq ht hl (f := f) hi
  exact ⟨c2, n2, nm, e1, e2, e4⟩)
theorem RT_block {fu : Nat} (hfu : 1000 ≤ fu) {tx : List Nat} {k : Nat} (hk : k ≤ 600) {s : Nat → Int} {u : Nat} {b1 b2 : Bool} {w0 : Int} (hI : InvR s) (h3 : s 3 < 40) {x y w : Nat} (hw : w = 0 ∨ w = 1) (hpl : isPl s (x : Int) (y : Int) = true) (hx9 : x < 10) (hy9 : y < 10) (had : adB s (x : Int) (y : Int) ((w : Int) + 1) = true) (hT : RT fu tx k s u b1 b2 w0) : RT fu (tx ++ stBk x y w) (k + 1) (sw3 s (x : Int) (y : Int) ((w : Int) + 1)) u b1 b2 w0 := RT_s hT (fun f L N n T c nm hR ht hl => by
  obtain ⟨c2, n2, e1, e2, e3, e4⟩ := r_block hfu hR hI h3 hw hpl hx9 hy9 had ht hl (f := f) hk
  exact ⟨c2, n2, nm, e1, e2, e4⟩)
end RAA
