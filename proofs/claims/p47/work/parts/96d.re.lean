section REE
/-- what the law has grown at the end -/
def GF (fu : Nat) (r : RG) : Prop := (r.1 ≤ 4 ∧ r.2.1 ≤ 4 ∧ (r.1 = 0 → r.2.1 = 0)) ∧ ∃ s o, GI fu r.1 r.2.1 r.2.2.1 r.2.2.2 s o ∧ s 3 ≤ 4 ∧ r.2.2.2.length ≤ 300
theorem len_300 {fu np nb : Nat} {mem : Mem} {tx : List Nat} {s : Nat → Int} {o : Int} (h : GI fu np nb mem tx s o) (h1 : np ≤ 4) (h2 : nb ≤ 3) (h3 : s 3 ≤ 4) : tx.length ≤ 300 := by
  have := h.2.2.2.1
  omega
theorem blocks_tot {L : Nat} {xs : Nat → Int32} {fu np nb : Nat} {o : Int} (hL : L ≤ 260) (hfu : 100000 ≤ fu) (hnp : np ≤ 4) (hnb : nb ≤ 3) (hz : np = 0 → nb = 0) : ∀ (f k a : Nat) (mem : Mem) (tx : List Nat) (s : Nat → Int), k < f → GI fu np nb mem tx s o → s 3 + k ≤ 4 → rd mem 0 10 = nI a → a + 3 * k < 1000000 → ∃ r, KG_blocks L xs fu np nb f (nI k) mem tx = some r ∧ GF fu r := by
  intro f
  induction f with
  | zero => exact fun k a mem tx s hk => absurd hk (Nat.not_lt_zero k)
  | succ f ih =>
    intro k a mem tx s hk hG h3 h10 ha
    rw [KG_blocks]
    cases k with
    | zero =>
      rw [if_neg (show ¬ (0 : Int32) < nI 0 by decide)]
      exact ⟨(np, nb, mem, tx), rfl, ⟨hnp, (by omega : nb ≤ 4), hz⟩, s, o, hG, by omega, len_300 hG hnp hnb (by omega)⟩
    | succ k =>
      have lt : (0 : Int32) < nI (k + 1) := nI_lt (a := 0) (by omega) (by omega)
      rw [if_pos lt, if_pos ⟨hnp, by omega, hz⟩]
      have hc := hG.1.2.1.1.1.2.1.2.2.1.1
      obtain ⟨mem2, tx2, s2, a2, e1, e2, e3, e4, e5, e6, e7⟩ := block_tot (xs := xs) hL hfu hnp (by omega) hG (by omega) (len_300 hG hnp hnb (by omega)) h10 (by omega)
      rw [e1, bd_s]
      dsimp only
      rw [nI_m1 k (by omega)]
      exact ih k a2 mem2 tx2 s2 (by omega) e2 (by omega) e3 (by omega)
theorem bl0_tot {L : Nat} {xs : Nat → Int32} {fu np nb a : Nat} {o : Int} (hL : L ≤ 260) (hfu : 100000 ≤ fu) (hnp : np ≤ 4) (hnb : nb ≤ 3) (hz : np = 0 → nb = 0) {mem : Mem} {tx : List Nat} {s : Nat → Int} (hG : GI fu np nb mem tx s o) (h3 : s 3 = 0) (h10 : rd mem 0 10 = nI a) (ha : a < 1000) : ∃ r, KG_bl0 L xs fu np nb mem tx = some r ∧ GF fu r := by
  obtain ⟨k, m1, g1, e1, s1, t1⟩ := nx_w L xs fu (k := 5) h10 (by omega) hL (by omega) (by omega)
  unfold KG_bl0
  rw [show (5 : Int32) = nI 5 from rfl, e1, bd_s]
  exact blocks_tot hL hfu hnp hnb hz 6 k (a + 1) m1 tx s (by omega) (GI_same hG s1) (by omega) t1 (by omega)
theorem bans_tot {L : Nat} {xs : Nat → Int32} {fu np W H : Nat} {o : Nat} (hL : L ≤ 260) (hfu : 100000 ≤ fu) (hnp : np ≤ 4) (hW : 3 ≤ W ∧ W ≤ 6) (hH : 3 ≤ H ∧ H ≤ 6) : ∀ (f k nb a : Nat) (mem : Mem) (tx : List Nat) (s : Nat → Int), k < f → GI fu np nb mem tx s (o : Int) → s 3 = 0 → s 0 = (W : Int) → s 1 = (H : Int) → nb + k ≤ 3 → (np = 0 → nb = 0) → rd mem 0 10 = nI a → a + 7 * k < 900 → ∃ r, KG_bans L xs fu np f (nI k) nb mem tx = some r ∧ GF fu r := by
  intro f
  induction f with
  | zero => exact fun k nb a mem tx s hk => absurd hk (Nat.not_lt_zero k)
  | succ f ih =>
    intro k nb a mem tx s hk hG h3 h0 h1 hnb hz h10 ha
    rw [KG_bans]
    cases k with
    | zero =>
      rw [if_neg (show ¬ (0 : Int32) < nI 0 by decide)]
      exact bl0_tot hL hfu hnp (by omega) hz hG h3 h10 (by omega)
    | succ k =>
      have lt : (0 : Int32) < nI (k + 1) := nI_lt (a := 0) (by omega) (by omega)
      rw [if_pos lt, if_pos hnp]
      by_cases q : np = 0
      · rw [if_pos q]
        exact bl0_tot hL hfu hnp (by omega) hz hG h3 h10 (by omega)
      · rw [if_neg q]
        have r0 : rd mem 0 0 = nI W := by rw [hG.1.1.2.1.1, h0, nI_zi]
        have r1 : rd mem 0 1 = nI H := by rw [hG.1.1.2.1.2.1, h1, nI_zi]
        obtain ⟨nb2, mem2, tx2, a2, e1, e2, e3, e4⟩ := ban_tot (xs := xs) (fu := fu) (nb := nb) hL ⟨by omega, hnp⟩ (by omega) hW hH r0 r1 h10 (by omega) (len_300 hG hnp (by omega) (by omega))
        obtain ⟨rfl, s2, g1, g2, g3, g4⟩ := GI_ban (by omega) hnp (by omega) hG h3 h0 h1 e2
        rw [e1, bd_s]
        dsimp only
        rw [nI_m1 k (by omega)]
        exact ih k (nb + 1) a2 mem2 tx2 s2 (by omega) g1 (by omega) (by omega) (by omega) (by omega) (fun h => absurd h q) e3 (by omega)
theorem bn0_tot {L : Nat} {xs : Nat → Int32} {fu np a W H : Nat} {o : Nat} (hL : L ≤ 260) (hfu : 100000 ≤ fu) (hnp : np ≤ 4) (hW : 3 ≤ W ∧ W ≤ 6) (hH : 3 ≤ H ∧ H ≤ 6) {mem : Mem} {tx : List Nat} {s : Nat → Int} (hG : GI fu np 0 mem tx s (o : Int)) (h3 : s 3 = 0) (h0 : s 0 = (W : Int)) (h1 : s 1 = (H : Int)) (h10 : rd mem 0 10 = nI a) (ha : a < 800) : ∃ r, KG_bn0 L xs fu np mem tx = some r ∧ GF fu r := by
  obtain ⟨k, m1, g1, e1, s1, t1⟩ := nx_w L xs fu (k := 4) h10 (by omega) hL (by omega) (by omega)
  unfold KG_bn0
  rw [show (4 : Int32) = nI 4 from rfl, e1, bd_s]
  exact bans_tot hL hfu hnp hW hH 5 k 0 (a + 1) m1 tx s (by omega) (GI_same hG s1) h3 h0 h1 (by omega) (fun _ => rfl) t1 (by omega)
theorem pawns_tot {L : Nat} {xs : Nat → Int32} {fu W H : Nat} {o : Nat} (hL : L ≤ 260) (hfu : 100000 ≤ fu) (ho : o < 10) (hW : 3 ≤ W ∧ W ≤ 6) (hH : 3 ≤ H ∧ H ≤ 6) : ∀ (f k np a : Nat) (mem : Mem) (tx : List Nat) (s : Nat → Int), k < f → GI fu np 0 mem tx s (o : Int) → s 3 = 0 → s 0 = (W : Int) → s 1 = (H : Int) → np + k ≤ 4 → rd mem 0 10 = nI a → a + 5 * k < 700 → ∃ r, KG_pawns L xs fu (nI o) f (nI k) np mem tx = some r ∧ GF fu r := by
  intro f
  induction f with
  | zero => exact fun k nb a mem tx s hk => absurd hk (Nat.not_lt_zero k)
  | succ f ih =>
    intro k np a mem tx s hk hG h3 h0 h1 hnp h10 ha
    rw [KG_pawns]
    cases k with
    | zero =>
      rw [if_neg (show ¬ (0 : Int32) < nI 0 by decide)]
      exact bn0_tot hL hfu (by omega) hW hH hG h3 h0 h1 h10 (by omega)
    | succ k =>
      have lt : (0 : Int32) < nI (k + 1) := nI_lt (a := 0) (by omega) (by omega)
      rw [if_pos lt, if_pos (by omega)]
      have r0 : rd mem 0 0 = nI W := by rw [hG.1.1.2.1.1, h0, nI_zi]
      have r1 : rd mem 0 1 = nI H := by rw [hG.1.1.2.1.2.1, h1, nI_zi]
      obtain ⟨np2, mem2, tx2, a2, e1, e2, e3, e4⟩ := pawn_tot (xs := xs) (fu := fu) (np := np) hL (by omega) (by omega) hW hH ho r0 r1 h10 (by omega) (len_300 hG (by omega) (by omega) (by omega))
      obtain ⟨s2, g1, g2, g3, g4, g5, g6⟩ := GI_pawn (by omega) (by omega) hG ho h3 h0 h1 e2
      rw [e1, bd_s]
      dsimp only
      rw [nI_m1 k (by omega)]
      exact ih k np2 a2 mem2 tx2 s2 (by omega) g1 (by omega) (by omega) (by omega) (by omega) e3 (by omega)
theorem p0_tot {L : Nat} {xs : Nat → Int32} {fu a W H : Nat} {o : Nat} (hL : L ≤ 260) (hfu : 100000 ≤ fu) (ho : o < 10) (hW : 3 ≤ W ∧ W ≤ 6) (hH : 3 ≤ H ∧ H ≤ 6) {mem : Mem} {tx : List Nat} {s : Nat → Int} (hG : GI fu 0 0 mem tx s (o : Int)) (h3 : s 3 = 0) (h0 : s 0 = (W : Int)) (h1 : s 1 = (H : Int)) (h10 : rd mem 0 10 = nI a) (ha : a < 600) : ∃ r, KG_p0 L xs fu (nI o) mem tx = some r ∧ GF fu r := by
  obtain ⟨k, m1, g1, e1, s1, t1⟩ := nx_w L xs fu (k := 4) h10 (by omega) hL (by omega) (by omega)
  unfold KG_p0
  rw [show (4 : Int32) = nI 4 from rfl, e1, bd_s]
  dsimp only
  rw [show (1 : Int32) + nI k = nI (1 + k) from nI_add 1 k]
  exact pawns_tot hL hfu ho hW hH 6 (1 + k) 0 (a + 1) m1 tx s (by omega) (GI_same hG s1) h3 h0 h1 (by omega) t1 (by omega)
theorem w0_tot {L : Nat} {xs : Nat → Int32} {fu a W H : Nat} (hL : L ≤ 260) (hfu : 100000 ≤ fu) (hW : 3 ≤ W ∧ W ≤ 6) (hH : 3 ≤ H ∧ H ≤ 6) {mem : Mem} {tx : List Nat} {s : Nat → Int} {k : Nat} {b1 : Bool} (hB : LW 0 0 mem s ∧ InvR s ∧ XO s ∧ smO s ∧ bnGA s) (hT : RT fu tx k s 0 b1 false 5) (hk : k ≤ 1) (hc : ∀ c ∈ tx, c < 128) (hl : tx.length ≤ 10) (h3 : s 3 = 0) (h0 : s 0 = (W : Int)) (h1 : s 1 = (H : Int)) (h10 : rd mem 0 10 = nI a) (ha : a < 500) : ∃ r, KG_w0 L xs fu mem tx = some r ∧ GF fu r := by
  obtain ⟨c, m1, g1, e1, s1, t1⟩ := nx_w L xs fu (k := 2) h10 (by omega) hL (by omega) (by omega)
  unfold KG_w0
  rw [show (2 : Int32) = nI 2 from rfl, e1, bd_s]
  dsimp only
  by_cases q : c = 0
  · subst q
    rw [if_pos (show nI 0 = 0 from rfl)]
    obtain ⟨o, m2, g2, e2, s2, t2⟩ := nx_w L xs fu (k := 8) t1 (by omega) hL (by omega) (by omega)
    rw [show (8 : Int32) = nI 8 from rfl, e2, bd_s]
    dsimp only
    rw [gBk_nI (by omega), bd_s]
    obtain ⟨z, m3, g3, e3, s3, t3⟩ := nx_w L xs fu (k := 2) t2 (by omega) hL (by omega) (by omega)
    rw [e3, bd_s]
    dsimp only
    have hT2 := RT_walls (w := o) (z := decide (nI z = 0)) (by omega) (by omega) (by omega) hT
    have et : tx ++ tcs 4 ++ [48 + o] ++ tcs (if nI z = 0 then 5 else 3) = tx ++ stW1 o (decide (nI z = 0)) := by
      unfold stW1
      by_cases w : nI z = 0
      · rw [if_pos w, decide_eq_true w, if_pos rfl, List.append_assoc, List.append_assoc, List.append_assoc]
      · rw [if_neg w, decide_eq_false w, if_neg (by decide), List.append_assoc, List.append_assoc, List.append_assoc]
    rw [et]
    refine p0_tot hL hfu (by omega) hW hH (s := s) ⟨⟨LW_same hB.1 (sameW_tr s1 (sameW_tr s2 s3)), hB.2⟩, ⟨k + 1, b1, true, hT2, by omega⟩, st128 hc ?_, ?_, by omega⟩ h3 h0 h1 t3 (by omega)
    · unfold stW1
      refine st128 (st128 (tcs_128 _) ?_) (tcs_128 _)
      intro c hc
      simp only [List.mem_cons, List.not_mem_nil, or_false] at hc
      omega
    · rw [List.length_append]
      have : (stW1 o (decide (nI z = 0))).length ≤ 10 := by
        cases decide (nI z = 0)
        · exact (by decide : 8 ≤ 10)
        · exact (by decide : 10 ≤ 10)
      omega
  · rw [if_neg (nI_ne0 (by omega) (by omega)), show (5 : Int32) = nI 5 from rfl]
    exact p0_tot hL hfu (by omega) hW hH (s := s) ⟨⟨LW_same hB.1 s1, hB.2⟩, ⟨k, b1, false, hT, by omega⟩, hc, by omega, by omega⟩ h3 h0 h1 t1 (by omega)
theorem wc_0 {s : Nat → Int} (h : ∀ j, 120 ≤ j → s j = 0) : wcN s = 0 := by
  have z : ∀ (f : Nat → Nat) (n : Nat), (∀ k, f k = 0) → sg f n = 0 := fun f n hf => by
    induction n with
    | zero => rfl
    | succ n ih => rw [sg, ih, hf]
  refine z _ _ (fun y => z _ _ (fun x => ?_))
  rw [h _ (by omega), if_neg (by decide)]
theorem InvR_00 : InvR s00 := ⟨s00_inv, ⟨rfl, rfl, rfl⟩, fun _ j hj => if_neg (by omega), by decide⟩
theorem LW_00 : LW 0 0 mem0 s00 := by
  refine ⟨⟨rfl, rfl⟩, ⟨rfl, rfl, fun x y h1 h2 h3 h4 => ?_⟩, ⟨rfl, rfl, rfl⟩, fun p hp => absurd hp (Nat.not_lt_zero p), fun p hp => absurd hp (Nat.not_lt_zero p)⟩
  have e : s00 (120 + 8 * y + x).toNat = 0 := if_neg (by omega)
  rw [e]
  have e2 : mem0 (4 + y.toNat) = z0 := if_neg (by omega)
  show (mem0 (4 + y.toNat)).1 x.toNat = zi 0
  rw [e2]
  rfl
theorem XO_00 {s : Nat → Int} (hw : ∀ j, 120 ≤ j → s j = 0) (h2 : s 2 = 0) (h3 : s 3 = 0) (h5 : s 5 = 0) : XO s := by
  refine ⟨by rw [wc_0 hw, h3]; rfl, ⟨by omega, fun r r1 r2 => by omega⟩, fun p p0 p1 => by omega⟩
/-- the law's growing comes to an end, whatever the script, and class and law then hold the same race -/
theorem grown_tot {L : Nat} {xs : Nat → Int32} {fu : Nat} (hL : L ≤ 260) (hfu : 100000 ≤ fu) : ∃ r, KG_grown L xs fu = some r ∧ GF fu r := by
  obtain ⟨b, m1, g1, e1, s1, t1⟩ := nx_w L xs fu (k := 3) (mem := mem0) (a := 0) rfl (by omega) hL (by omega) (by omega)
  have hB0 : LW 0 0 m1 s00 := LW_same LW_00 s1
  unfold KG_grown
  rw [show (3 : Int32) = nI 3 from rfl, e1, bd_s]
  dsimp only
  by_cases q : b = 0
  · subst q
    rw [if_neg (show ¬ (0 : Int32) < nI 0 by decide)]
    exact w0_tot (W := 5) (H := 5) hL hfu (by omega) (by omega) ⟨hB0, InvR_00, XO_00 (fun j hj => if_neg (by omega)) rfl rfl rfl, ⟨by decide, by decide⟩, fun b b0 b1 => absurd (Int.lt_of_le_of_lt b0 b1) (by decide)⟩ (RT_0 fu) (by omega) (fun c hc => absurd hc List.not_mem_nil) (by decide) rfl rfl rfl t1 (by omega)
  · have lt : (0 : Int32) < nI b := nI_lt (a := 0) (by omega) (by omega)
    rw [if_pos lt]
    obtain ⟨w, m2, g2, e2, s2, t2⟩ := nx_w L xs fu (k := 4) t1 (by omega) hL (by omega) (by omega)
    rw [show (4 : Int32) = nI 4 from rfl, e2, bd_s]
    dsimp only
    have ew : nI 3 + nI w = nI (3 + w) := nI_add 3 w
    rw [ew, gBk_nI (by omega), bd_s]
    have t2' : rd (mw m2 0 0 (nI (3 + w))) 0 10 = nI (0 + 1 + 1) := by rw [rd_mw, if_neg (by decide)]; exact t2
    obtain ⟨h, m3, g3, e3, s3, t3⟩ := nx_w L xs fu (k := 4) t2' (by omega) hL (by omega) (by omega)
    rw [e3, bd_s]
    dsimp only
    have eh : nI 3 + nI h = nI (3 + h) := nI_add 3 h
    rw [eh, gBk_nI (by omega), bd_s]
    have hI0 := InvR_00
    obtain ⟨hI', hE'⟩ := s_board hI0 rfl rfl (x := ((3 + w : Nat) : Int)) (y := ((3 + h : Nat) : Int)) (by omega) (by omega)
    have hT := RT_board (w := 3 + w) (h := 3 + h) (by omega) (by omega) (by omega) (by omega) hI0 rfl (RT_0 fu)
    have eW : up1 (up1 s00 0 ((3 + w : Nat) : Int)) 1 ((3 + h : Nat) : Int) 0 = ((3 + w : Nat) : Int) := (up1_ne (by decide)).trans (up1_eq _ _ _)
    have eH : up1 (up1 s00 0 ((3 + w : Nat) : Int)) 1 ((3 + h : Nat) : Int) 1 = ((3 + h : Nat) : Int) := up1_eq _ _ _
    have h120 : ∀ j, 120 ≤ j → up1 (up1 s00 0 ((3 + w : Nat) : Int)) 1 ((3 + h : Nat) : Int) j = 0 := fun j hj => (hE' j (by omega)).trans (if_neg (by omega))
    have hLW : LW 0 0 (mw m3 0 1 (nI (3 + h))) (up1 (up1 s00 0 ((3 + w : Nat) : Int)) 1 ((3 + h : Nat) : Int)) := by
      have hB2 := LW_same hB0 s2
      obtain ⟨⟨a1, a2⟩, ⟨b1, b2, b3⟩, ⟨d1, d2, d3⟩, _, _⟩ := hB2
      refine ⟨⟨(hE' 2 (by decide)).trans rfl, (hE' 6 (by decide)).trans rfl⟩, ⟨?_, ?_, fun x y h1 h2 h3 h4 => ?_⟩, ⟨?_, ?_, ?_⟩, fun p hp => absurd hp (Nat.not_lt_zero p), fun p hp => absurd hp (Nat.not_lt_zero p)⟩
      · rw [rd_mw, if_neg (by decide), s3 0 0 (by decide), rd_mw, if_pos ⟨rfl, rfl⟩, eW, nI_zi]
      · rw [rd_mw, if_pos ⟨rfl, rfl⟩, eH, nI_zi]
      · rw [rd_mw, if_neg (by omega), s3 _ _ (by omega), rd_mw, if_neg (by omega), h120 _ (by omega), b3 x y h1 h2 h3 h4]
        exact congrArg zi (if_neg (by omega))
      · rw [rd_mw, if_neg (by decide), s3 0 2 (by decide), rd_mw, if_neg (by decide), hE' 4 (by decide)]
        exact d1
      · rw [rd_mw, if_neg (by decide), s3 0 3 (by decide), rd_mw, if_neg (by decide), hE' 5 (by decide)]
        exact d2
      · rw [rd_mw, if_neg (by decide), s3 0 4 (by decide), rd_mw, if_neg (by decide), hE' 7 (by decide)]
        exact d3
    refine w0_tot (W := 3 + w) (H := 3 + h) hL hfu (by omega) (by omega) (s := up1 (up1 s00 0 ((3 + w : Nat) : Int)) 1 ((3 + h : Nat) : Int)) ⟨hLW, hI', XO_00 h120 (hE' 2 (by decide)) (hE' 3 (by decide)) (hE' 5 (by decide)), ⟨by omega, by omega⟩, fun b b0 b1 => ?_⟩ hT (by omega) ?_ (by exact (by decide : 10 ≤ 10)) (hE' 3 (by decide)) eW eH (by rw [rd_mw, if_neg (by decide)]; exact t3) (by omega)
    · have : up1 (up1 s00 0 ((3 + w : Nat) : Int)) 1 ((3 + h : Nat) : Int) 6 = 0 := hE' 6 (by decide)
      omega
    · refine st128 (a := []) (by decide) (st128 (a := tcs 1 ++ [48 + (3 + w)] ++ tcs 2 ++ [48 + (3 + h)]) (st128 (st128 (st128 (tcs_128 _) ?_) (tcs_128 _)) ?_) (tcs_128 _)) <;> intro c hc <;> simp only [List.mem_cons, List.not_mem_nil, or_false] at hc <;> omega
end REE
