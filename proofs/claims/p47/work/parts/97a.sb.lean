section SBB
theorem fW_1 (tx : List Nat) (k : Nat) (g : Nat → Nat) (hg : ∀ i, fch tx i = nI (g i)) (h : ∀ i, g i < 128) : fW tx k 20 1 = nI (w4 (g (k + 4)) (g (k + 5)) (g (k + 6)) (g (k + 7))) := by
  have e : fW tx k 20 1 = (((((((0 : Int32) <<< ((8 : Int32) &&& 31)) ||| fch tx (k + 4)) <<< ((8 : Int32) &&& 31)) ||| fch tx (k + 5)) <<< ((8 : Int32) &&& 31)) ||| fch tx (k + 6)) <<< ((8 : Int32) &&& 31) ||| fch tx (k + 7) := rfl
  have h0 := h (k + 4)
  have h1 := h (k + 5)
  have h2 := h (k + 6)
  have h3 := h (k + 7)
  rw [e, hg, hg, hg, hg, show (0 : Int32) = nI 0 from rfl, nI_or8 0 _ (by omega) (by omega), nI_or8 _ _ (by omega) (by omega), nI_or8 _ _ (by omega) (by omega), nI_or8 _ _ (by omega) (by omega)]
  unfold w4
  rw [Nat.zero_mul, Nat.zero_add]
theorem fW_2 (tx : List Nat) (k : Nat) (g : Nat → Nat) (hg : ∀ i, fch tx i = nI (g i)) (h : ∀ i, g i < 128) : fW tx k 20 2 = nI (w4 (g (k + 8)) (g (k + 9)) (g (k + 10)) (g (k + 11))) := by
  have e : fW tx k 20 2 = (((((((0 : Int32) <<< ((8 : Int32) &&& 31)) ||| fch tx (k + 8)) <<< ((8 : Int32) &&& 31)) ||| fch tx (k + 9)) <<< ((8 : Int32) &&& 31)) ||| fch tx (k + 10)) <<< ((8 : Int32) &&& 31) ||| fch tx (k + 11) := rfl
  have h0 := h (k + 8)
  have h1 := h (k + 9)
  have h2 := h (k + 10)
  have h3 := h (k + 11)
  rw [e, hg, hg, hg, hg, show (0 : Int32) = nI 0 from rfl, nI_or8 0 _ (by omega) (by omega), nI_or8 _ _ (by omega) (by omega), nI_or8 _ _ (by omega) (by omega), nI_or8 _ _ (by omega) (by omega)]
  unfold w4
  rw [Nat.zero_mul, Nat.zero_add]
theorem fW_3 (tx : List Nat) (k : Nat) (g : Nat → Nat) (hg : ∀ i, fch tx i = nI (g i)) (h : ∀ i, g i < 128) : fW tx k 20 3 = nI (w4 (g (k + 12)) (g (k + 13)) (g (k + 14)) (g (k + 15))) := by
  have e : fW tx k 20 3 = (((((((0 : Int32) <<< ((8 : Int32) &&& 31)) ||| fch tx (k + 12)) <<< ((8 : Int32) &&& 31)) ||| fch tx (k + 13)) <<< ((8 : Int32) &&& 31)) ||| fch tx (k + 14)) <<< ((8 : Int32) &&& 31) ||| fch tx (k + 15) := rfl
  have h0 := h (k + 12)
  have h1 := h (k + 13)
  have h2 := h (k + 14)
  have h3 := h (k + 15)
  rw [e, hg, hg, hg, hg, show (0 : Int32) = nI 0 from rfl, nI_or8 0 _ (by omega) (by omega), nI_or8 _ _ (by omega) (by omega), nI_or8 _ _ (by omega) (by omega), nI_or8 _ _ (by omega) (by omega)]
  unfold w4
  rw [Nat.zero_mul, Nat.zero_add]
theorem fW_4 (tx : List Nat) (k : Nat) (g : Nat → Nat) (hg : ∀ i, fch tx i = nI (g i)) (h : ∀ i, g i < 128) : fW tx k 20 4 = nI (w4 (g (k + 16)) (g (k + 17)) (g (k + 18)) (g (k + 19))) := by
  have e : fW tx k 20 4 = (((((((0 : Int32) <<< ((8 : Int32) &&& 31)) ||| fch tx (k + 16)) <<< ((8 : Int32) &&& 31)) ||| fch tx (k + 17)) <<< ((8 : Int32) &&& 31)) ||| fch tx (k + 18)) <<< ((8 : Int32) &&& 31) ||| fch tx (k + 19) := rfl
  have h0 := h (k + 16)
  have h1 := h (k + 17)
  have h2 := h (k + 18)
  have h3 := h (k + 19)
  rw [e, hg, hg, hg, hg, show (0 : Int32) = nI 0 from rfl, nI_or8 0 _ (by omega) (by omega), nI_or8 _ _ (by omega) (by omega), nI_or8 _ _ (by omega) (by omega), nI_or8 _ _ (by omega) (by omega)]
  unfold w4
  rw [Nat.zero_mul, Nat.zero_add]
/-- the class's text so far -/
def TXf (c : Mem) (g : Nat → Nat) (n : Nat) : Prop := rd c 2 1 = zi (n : Int) ∧ ∀ i, i < n → rd c 3 i = zi (g i : Int)
theorem a_ap (fu : Nat) {v : Nat} (hv : v < 2 ^ 31) {c : Mem} {g : Nat → Nat} {L : Nat} (hX : TXf c g L) (hL : L < 700) {x2 k : Nat} (hk : ((zi (x2 : Int) &&& zi 31 : Int32).toBitVec.smod 32).toNat = k) (h1 : x2 ≤ 24) (hg : v / 2 ^ k % 256 = g L) (h128 : g L < 128) (n : Nat) : ∃ c2, K_X9_append_3 fu (n + 1) (nI v) (zi (x2 : Int)) c = K_X9_append_3 fu n (nI v) (zi ((x2 : Int) + -8)) c2 ∧ TXf c2 g (L + 1) ∧ Fr PFc c c2 := by
  obtain ⟨p3, p4⟩ := hX
  have i0 : (zi (x2 : Int) < (0 : Int32)) = ((x2 : Int) < 0) := zi_lt (b_ := 0) (by omega) (by omega) (by decide) (by decide)
  have i7 : (zi (L : Int) < (700 : Int32)) = ((L : Int) < 700) := zi_lt (b_ := 700) (by omega) (by omega) (by decide) (by decide)
  have e8 : zi (x2 : Int) + (-8) = zi ((x2 : Int) + -8) := by
    rw [show (-8 : Int32) = zi (-8) from rfl, zi_add]
  have e1 : zi (L : Int) + 1 = zi ((L + 1 : Nat) : Int) := zi_add (L : Int) 1
  have eb : vp_nar .byte (Int8.toInt32 (Int32.toInt8 (nI v >>> (zi (x2 : Int) &&& zi 31)))) = zi (g L : Int) := by
    rw [pk_shrN hv _ k hk]
    exact by8 hg h128
  have eb' : vp_nar .byte (Int8.toInt32 (Int32.toInt8 (nI v >>> (zi (x2 : Int) &&& 31)))) = zi (g L : Int) := eb
  have f1 : Fr PFc c (mw c 3 L (zi (g L : Int))) := Fr_mw _ _ (by unfold PFc; exact Bool.or_true _)
  have r1 : rd (mw c 3 L (zi (g L : Int))) 2 1 = zi (L : Int) := by
    rw [rd_mw, if_neg (fun h => absurd h.1 (by decide))]
    exact p3
  refine ⟨mw (mw c 3 L (zi (g L : Int))) 2 1 (zi ((L + 1 : Nat) : Int)), ?_, ⟨?_, fun i hi => ?_⟩, Fr_tr f1 (Fr_mw _ _ rfl)⟩
  · rw [K_X9_append_3, if_neg (fun h => by have := i0.mp h; omega), p3, if_pos (i7.mpr (by omega)), gi_zi (by omega) (by omega) (by decide), cl4 (by omega), eb', ltf, r1, ltf, e1, e8]
  · rw [rd_mw, if_pos ⟨rfl, rfl⟩]
  · rw [rd_mw, if_neg (fun h => absurd h.1 (by decide)), rd_mw]
    by_cases q : i = L
    · rw [if_pos ⟨rfl, q⟩, q]
    · rw [if_neg (fun h => q h.2)]
      exact p4 i (by omega)
theorem a_four (fu : Nat) (hfu : 1000 ≤ fu) {c : Mem} {g : Nat → Nat} (h128 : ∀ i, g i < 128) {L : Nat} (hX : TXf c g L) (hL : L + 4 ≤ 700) : ∃ c2, K_X9_append fu (nI (w4 (g L) (g (L + 1)) (g (L + 2)) (g (L + 3)))) c = some c2 ∧ TXf c2 g (L + 4) ∧ Fr PFc c c2 := by
  have b0 := h128 L
  have b1 := h128 (L + 1)
  have b2 := h128 (L + 2)
  have b3 := h128 (L + 3)
  obtain ⟨v, hv⟩ : ∃ v, v = w4 (g L) (g (L + 1)) (g (L + 2)) (g (L + 3)) := ⟨_, rfl⟩
  have hv31 : v < 2 ^ 31 := by
    rw [hv]
    unfold w4
    omega
  rw [← hv]
  unfold w4 at hv
  obtain ⟨n, hn⟩ : ∃ n, fu = n + 5 := ⟨fu - 5, by omega⟩
  obtain ⟨c1, a1, h1, f1⟩ := a_ap fu hv31 hX (by omega) (x2 := 24) (k := 24) (by decide +kernel) (by decide) (by omega) (by omega) (n + 4)
  obtain ⟨c2, a2, h2, f2⟩ := a_ap fu hv31 h1 (by omega) (x2 := 16) (k := 16) (by decide +kernel) (by decide) (by omega) (by omega) (n + 3)
  obtain ⟨c3, a3, h3, f3⟩ := a_ap fu hv31 h2 (by omega) (x2 := 8) (k := 8) (by decide +kernel) (by decide) (by show v / 2 ^ 8 % 256 = g (L + 2); omega) (h128 _) (n + 2)
  obtain ⟨c4, a4, h4, f4⟩ := a_ap fu hv31 h3 (by omega) (x2 := 0) (k := 0) (by decide +kernel) (by decide) (by show v / 2 ^ 0 % 256 = g (L + 3); omega) (h128 _) (n + 1)
  have z : zi (((0 : Nat) : Int) + -8) < (0 : Int32) := by decide
  have a5 : K_X9_append_3 fu (n + 1) (nI v) (zi (((0 : Nat) : Int) + -8)) c4 = some c4 := by
    rw [K_X9_append_3, if_pos z]
  have a6 : K_X9_append_3 fu (n + 5) (nI v) (zi 24) c = some c4 := a1.trans (a2.trans (a3.trans (a4.trans a5)))
  rw [← hn] at a6
  exact ⟨c4, a6, h4, Fr_tr (Fr_tr (Fr_tr f1 f2) f3) f4⟩
theorem a_feed (fu : Nat) (hfu : 1000 ≤ fu) {c : Mem} {tx : List Nat} {g : Nat → Nat} (hg : ∀ i, fch tx i = nI (g i)) (h128 : ∀ i, g i < 128) {k : Nat} (hX : TXf c g k) (hk : k + 20 ≤ 700) : ∃ c2, K_X11_feed fu (fW tx k 20 0) (fW tx k 20 1) (fW tx k 20 2) (fW tx k 20 3) (fW tx k 20 4) c = some (0, zi ((k + 20 : Nat) : Int), c2) ∧ TXf c2 g (k + 20) ∧ Fr PFc c c2 := by
  have e20 : zi (k : Int) + 20 = zi ((k : Int) + 20) := zi_add (k : Int) 20
  have i7 : ((700 : Int32) < zi ((k : Int) + 20)) = ((700 : Int) < (k : Int) + 20) := zi_lt (a_ := 700) (by decide) (by decide) (by omega) (by omega)
  obtain ⟨c1, a1, h1, f1⟩ := a_four fu hfu h128 hX (by omega)
  obtain ⟨c2, a2, h2, f2⟩ := a_four fu hfu h128 h1 (by omega)
  obtain ⟨c3, a3, h3, f3⟩ := a_four fu hfu h128 h2 (by omega)
  obtain ⟨c4, a4, h4, f4⟩ := a_four fu hfu h128 h3 (by omega)
  obtain ⟨c5, a5, h5, f5⟩ := a_four fu hfu h128 h4 (by omega)
  refine ⟨c5, ?_, h5, Fr_tr (Fr_tr (Fr_tr (Fr_tr f1 f2) f3) f4) f5⟩
  unfold K_X11_feed
  have a1' : K_X9_append fu (fW tx k 20 0) c = some c1 := by rw [fW_0 tx k g hg h128]; exact a1
  have a2' : K_X9_append fu (fW tx k 20 1) c1 = some c2 := by rw [fW_1 tx k g hg h128]; exact a2
  have a3' : K_X9_append fu (fW tx k 20 2) c2 = some c3 := by rw [fW_2 tx k g hg h128]; exact a3
  have a4' : K_X9_append fu (fW tx k 20 3) c3 = some c4 := by rw [fW_3 tx k g hg h128]; exact a4
  have a5' : K_X9_append fu (fW tx k 20 4) c4 = some c5 := by rw [fW_4 tx k g hg h128]; exact a5
  rw [hX.1, e20, if_neg (fun z => by have := i7.mp z; omega), a1', bd_s, a2', bd_s, a3', bd_s, a4', bd_s, a5', bd_s, h5.1]
theorem Fr_ms {P : Nat → Nat → Bool} {mem m : Mem} (f : Fr P mem m) : Fr P mem (mset 0 255 mem m) := by
  refine ⟨fun k j h => ?_, fun k j h => ?_⟩
  · show (mset 0 255 mem m k).1 j = _
    unfold mset
    split
    · exact f.1 k j h
    · rfl
  · show (mset 0 255 mem m k).2 j = _
    unfold mset
    split
    · exact f.2 k j h
    · rfl
theorem rd_ms {mem m : Mem} {k : Nat} (hk : k < 255) (j : Nat) : rd (mset 0 255 mem m) k j = rd m k j := by
  show (mset 0 255 mem m k).1 j = _
  unfold mset
  rw [if_pos (by omega)]
  rfl
theorem TXf_ms {mem m : Mem} {g : Nat → Nat} {n : Nat} (h : TXf m g n) : TXf (mset 0 255 mem m) g n := ⟨(rd_ms (by decide) 1).trans h.1, fun i hi => (rd_ms (by decide) i).trans (h.2 i hi)⟩
theorem feedL_tot (fu : Nat) (hfu : 1000 ≤ fu) {tx : List Nat} {g : Nat → Nat} (hg : ∀ i, fch tx i = nI (g i)) (h128 : ∀ i, g i < 128) (hl : tx.length ≤ 400) : ∀ (f k : Nat) (mem : Mem), (tx.length = 0 → k = 0) → k ≤ tx.length + 19 → tx.length + 20 ≤ k + 20 * f → TXf mem g k → ∃ m1, KL_feedL fu tx f k (zi (k : Int)) mem = some (1, m1) ∧ TXf m1 g tx.length ∧ Fr PFc mem m1 ∧ lwM m1 = lwM mem := by
  intro f
  induction f with
  | zero => exact fun k mem hk0 h1 h2 hX => by omega
  | succ f ih =>
    intro k mem hk0 h1 h2 hX
    rw [KL_feedL]
    by_cases q : k < tx.length
    · obtain ⟨c2, a1, a2, a3⟩ := a_feed fu hfu hg h128 hX (by omega)
      obtain ⟨m1, b1, b2, b3, b4⟩ := ih (k + 20) (mset 0 255 mem c2) (fun h => by omega) (by omega) (by omega) (TXf_ms a2)
      rw [if_pos q, a1, bdT_s]
      exact ⟨m1, b1, b2, Fr_tr (Fr_ms a3) b3, b4.trans (lw_mc _ _)⟩
    · rw [if_neg q]
      by_cases w : tx.length = 0
      · rw [if_pos w]
        refine ⟨mem, rfl, ?_, Fr_rf _ _, rfl⟩
        have e := hk0 w
        rw [w]
        rw [e] at hX
        exact hX
      · have lt : (zi (k : Int) < nI tx.length) = ((k : Int) < (tx.length : Int)) := by
          rw [nI_zi]
          exact zi_lt (by omega) (by omega) (by omega) (by omega)
        have e1 : (nI tx.length < (0 : Int32)) = ((tx.length : Int) < 0) := by
          rw [nI_zi]
          exact zi_lt (b_ := 0) (by omega) (by omega) (by decide) (by decide)
        have ht : K_X11_truncate fu (nI tx.length) mem = some (0, nI tx.length, mw mem 2 1 (nI tx.length)) := by
          unfold K_X11_truncate
          rw [if_neg (fun h => by have := e1.mp h; omega), hX.1, if_neg (fun h => by have := lt.mp h; omega), ltf]
        rw [if_neg w, if_neg (fun h => by have := lt.mp h; omega), ht, bdT_s, if_pos rfl]
        refine ⟨_, rfl, TXf_ms ⟨?_, fun i hi => ?_⟩, Fr_ms (Fr_mw _ _ rfl), lw_mc _ _⟩
        · rw [rd_mw, if_pos ⟨rfl, rfl⟩, nI_zi]
        · rw [rd_mw, if_neg (fun h => absurd h.1 (by decide))]
          exact hX.2 i (by omega)
end SBB
