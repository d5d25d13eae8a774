section LZA
def ms (D : Nat → Int) : Nat → Nat
  | 0 => 0
  | n + 1 => ms D n + (D n).toNat
theorem ms_le {D : Nat → Int} (h : ∀ c, D c ≤ 1000) : ∀ n, ms D n ≤ 1000 * n := by
  intro n
  induction n with
  | zero => exact Nat.le_refl 0
  | succ n ih =>
    have := h n
    rw [ms]
    omega
theorem ms_up {D : Nat → Int} {u : Nat} {v : Int} (hv : v < D u) (h0 : 0 ≤ v) : ∀ n, ms (fun c => if c = u then v else D c) n ≤ ms D n ∧ (u < n → ms (fun c => if c = u then v else D c) n < ms D n) := by
  intro n
  induction n with
  | zero => exact ⟨Nat.le_refl 0, fun h => by omega⟩
  | succ n ih =>
    rw [ms, ms]
    by_cases c : n = u
    · have e : (if n = u then v else D n) = v := if_pos c
      subst c
      refine ⟨?_, fun _ => ?_⟩ <;> omega
    · have e : (if n = u then v else D n) = D n := if_neg c
      refine ⟨by omega, fun h => ?_⟩
      have := ih.2 (by omega)
      omega
/-- numbers over the cells: each the length of a way, or 1000 -/
def BFI (s : Nat → Int) (side : Int) (D : Nat → Int) : Prop := (∀ c, 0 ≤ D c ∧ D c ≤ 1000) ∧ (∀ c, Sd s side c → D c = 0) ∧ ∀ c, D c = 1000 ∨ Pth (op s) nbr (Sd s side) (D c).toNat c
def BG (s : Nat → Int) (side : Int) (d : Nat → Nat → Int32) (D : Nat → Int) : Prop := BFI s side D ∧ ∀ c, c < 81 → isCl s (xo c) (yo c) = true → d (c % 9) (c / 9) = zi (D c)
theorem BFI_up {s : Nat → Int} (hz : szO s) {side : Int} {D : Nat → Int} (h : BFI s side D) {u k : Nat} (hk : k < 4) (ho : op s u k = true) (hl : D (nbr u k) + 1 < D u) : BFI s side (fun c => if c = u then D (nbr u k) + 1 else D c) := by
  obtain ⟨h1, h2, h3⟩ := h
  have a := h1 (nbr u k)
  have b := h1 u
  refine ⟨fun c => ?_, fun c hc => ?_, fun c => ?_⟩
  · have := h1 c
    show 0 ≤ (if c = u then D (nbr u k) + 1 else D c) ∧ (if c = u then D (nbr u k) + 1 else D c) ≤ 1000
    split <;> omega
  · show (if c = u then D (nbr u k) + 1 else D c) = 0
    have e := h2 c hc
    rw [if_neg (fun q => by subst q; omega)]
    exact e
  · show (if c = u then D (nbr u k) + 1 else D c) = 1000 ∨ Pth _ _ _ (if c = u then D (nbr u k) + 1 else D c).toNat c
    by_cases q : c = u
    · subst q
      rw [if_pos rfl]
      refine Or.inr ?_
      rcases h3 (nbr c k) with e | e
      · omega
      · have sy := op_sym hz hk ho
        rw [show (D (nbr c k) + 1).toNat = (D (nbr c k)).toNat + 1 by omega]
        exact ⟨nbr c k, opp k, opp_lt k, e, sy.1, sy.2⟩
    · rw [if_neg q]
      exact h3 c
def DRes := Option (Nat × Nat × (Nat → Nat → Int32))
theorem w_d106 {np nb fu : Nat} {m : Mem} {s : Nat → Int} (hS : LWw m s) (hz : szO s) (hW : wlO s) {side : Int} {k73 : Nat → Nat → (Nat → Nat → Int32) → Int32 → Option (Nat × Nat × (Nat → Nat → Int32))} {k82 : Nat → Nat → (Nat → Nat → Int32) → Int32 → Int32 → Option (Nat × Nat × (Nat → Nat → Int32))} {k94 : Nat → Nat → (Nat → Nat → Int32) → Int32 → Int32 → Int32 → Option (Nat × Nat × (Nat → Nat → Int32))} {w h : Nat} (hw : (w : Int) = s 0) (hh : (h : Int) = s 1) {x y : Nat} (hx : (x : Int) < s 0) (hy : (y : Int) < s 1) : ∀ (q n k : Nat) (d : Nat → Nat → Int32) (D : Nat → Int) (fl : Int32), k + q = 4 → q < n → BG s side d D → ∃ d' D' fl', KW_distances_106 np nb fu m k73 k82 k94 n w h d fl (zi (x : Int)) (zi (y : Int)) (zi (k : Int)) = k94 w h d' fl' (zi (x : Int)) (zi ((y + 1 : Nat) : Int)) ∧ BG s side d' D' ∧ ((D' = D ∧ fl' = fl ∧ ∀ j, k ≤ j → j < 4 → op s (9 * y + x) j = true → D (9 * y + x) ≤ D (nbr (9 * y + x) j) + 1) ∨ (fl' = 1 ∧ ms D' 81 < ms D 81)) := by
  have hz' := hz
  obtain ⟨⟨z1, z2⟩, z3, z4⟩ := hz'
  have xu : xo (9 * y + x) = (x : Int) := by unfold xo; omega
  have yu : yo (9 * y + x) = (y : Int) := by unfold yo; omega
  have u81 : 9 * y + x < 81 := by omega
  have hcl : isCl s (x : Int) (y : Int) = true := isCl_iff.mpr ⟨⟨by omega, by omega⟩, by omega, by omega⟩
  intro q
  induction q with
  | zero =>
    intro n k d D fl hk hq hB
    obtain ⟨n, rfl⟩ : ∃ f, n = f + 1 := ⟨n - 1, by omega⟩
    obtain rfl : k = 4 := by omega
    refine ⟨d, D, fl, ?_, hB, Or.inl ⟨rfl, rfl, fun j h1 h2 => by omega⟩⟩
    rw [KW_distances_106, if_neg (by decide), show (1 : Int32) = zi 1 from rfl, zi_add]
    rfl
  | succ q ih =>
    intro n k d D fl hk hq hB
    obtain ⟨n, rfl⟩ : ∃ f, n = f + 1 := ⟨n - 1, by omega⟩
    have hk4 : k < 4 := by omega
    have hopu : op s (9 * y + x) k = !blk s (x : Int) (y : Int) (k : Int) := by
      unfold op
      rw [xu, yu, hcl, Bool.true_and]
    have k1 : (zi (k : Int) < (4 : Int32)) = ((k : Int) < 4) := by
      rw [show (4 : Int32) = zi 4 from rfl]
      exact zi_lt (by omega) (by omega) (by omega) (by omega)
    rw [KW_distances_106, if_pos (by rw [k1]; omega), w_isOpen hS hz hW hcl hk4, ← hopu, bd_s, show zi (k : Int) + 1 = zi ((k + 1 : Nat) : Int) by
      rw [show (1 : Int32) = zi 1 from rfl, zi_add]
      rfl]
    cases ho : op s (9 * y + x) k with
    | false =>
      rw [if_pos (by rfl)]
      obtain ⟨d', D', fl', e1, e2, e3⟩ := ih n (k + 1) d D fl (by omega) (by omega) hB
      refine ⟨d', D', fl', e1, e2, ?_⟩
      rcases e3 with ⟨e3, e4, e5⟩ | e3
      · refine Or.inl ⟨e3, e4, fun j h1 h2 h3 => ?_⟩
        by_cases c : j = k
        · rw [c, ho] at h3
          cases h3
        · exact e5 j (by omega) h2 h3
      · exact Or.inr e3
    | true =>
      obtain ⟨n1, n2, n3, n4, n5⟩ := op_nb hz u81 hk4 ho
      rw [xu] at n3
      rw [yu] at n4
      have hci := isCl_iff.mp n2
      have dv := hB.2 _ n1 n2
      have du := hB.2 _ u81 (by rw [xu, yu]; exact hcl)
      rw [show (9 * y + x) % 9 = x by omega, show (9 * y + x) / 9 = y by omega] at du
      have xv : (xo (nbr (9 * y + x) k)).toNat = nbr (9 * y + x) k % 9 := by unfold xo; omega
      have yv : (yo (nbr (9 * y + x) k)).toNat = nbr (9 * y + x) k / 9 := by unfold yo; omega
      rw [if_neg (by decide), zi_clamp (by omega) (by omega), Int.toNat_natCast, dxV_z hk4, dyV_z hk4, zi_add, zi_add, ← n3, ← n4]
      rw [gi_zi (by omega) (by omega) (by omega), gi_zi (by omega) (by omega) (by omega), gi_zi (by omega) (by omega) (by omega), gi_zi (by omega) (by omega) (by omega), gi_zi (by omega) (by omega) (by omega), gi_zi (by omega) (by omega) (by omega), zi_clamp (by omega) (by omega), zi_clamp (by omega) (by omega), zi_clamp (by omega) (by omega), zi_clamp (by omega) (by omega), xv, yv, Int.toNat_natCast, Int.toNat_natCast, dv, du]
      have bu := hB.1.1 (9 * y + x)
      have bv := hB.1.1 (nbr (9 * y + x) k)
      have k2 : (zi (D (nbr (9 * y + x) k)) + 1 < zi (D (9 * y + x))) = (D (nbr (9 * y + x) k) + 1 < D (9 * y + x)) := by
        rw [show (1 : Int32) = zi 1 from rfl, zi_add]
        exact zi_lt (by omega) (by omega) (by omega) (by omega)
      by_cases c1 : D (nbr (9 * y + x) k) + 1 < D (9 * y + x)
      · rw [if_pos (by rw [k2]; exact c1), gi_zi (by omega) (by omega) (by omega), gi_zi (by omega) (by omega) (by omega), gi_zi (by omega) (by omega) (by omega), gi_zi (by omega) (by omega) (by omega), gi_zi (by omega) (by omega) (by omega), gi_zi (by omega) (by omega) (by omega), ltf]
        have hB2 : BG s side (upD d x y (zi (D (nbr (9 * y + x) k)) + 1)) (fun c => if c = 9 * y + x then D (nbr (9 * y + x) k) + 1 else D c) := by
          refine ⟨BFI_up hz hB.1 hk4 ho c1, fun c hc hc2 => ?_⟩
          show upD d x y (zi (D (nbr (9 * y + x) k)) + 1) (c % 9) (c / 9) = zi (if c = 9 * y + x then D (nbr (9 * y + x) k) + 1 else D c)
          by_cases q2 : c = 9 * y + x
          · rw [if_pos q2, ← zi_add]
            unfold upD upd
            rw [if_pos (by omega), if_pos (by omega)]
            rfl
          · rw [if_neg q2, ← hB.2 c hc hc2]
            unfold upD upd
            by_cases q3 : c % 9 = x
            · rw [if_pos q3, if_neg (by omega), q3]
            · rw [if_neg q3]
        obtain ⟨d', D', fl', e1, e2, e3⟩ := ih n (k + 1) _ _ 1 (by omega) (by omega) hB2
        refine ⟨d', D', fl', e1, e2, Or.inr ?_⟩
        have mm := (ms_up (D := D) (u := 9 * y + x) (v := D (nbr (9 * y + x) k) + 1) c1 (by omega) 81).2 u81
        rcases e3 with ⟨e3, e4, e5⟩ | ⟨e3, e4⟩
        · rw [e3]
          exact ⟨e4, mm⟩
        · exact ⟨e3, by omega⟩
      · rw [if_neg (by rw [k2]; exact c1)]
        obtain ⟨d', D', fl', e1, e2, e3⟩ := ih n (k + 1) d D fl (by omega) (by omega) hB
        refine ⟨d', D', fl', e1, e2, ?_⟩
        rcases e3 with ⟨e3, e4, e5⟩ | e3
        · refine Or.inl ⟨e3, e4, fun j h1 h2 h3 => ?_⟩
          by_cases c : j = k
          · rw [c]
            omega
          · exact e5 j (by omega) h2 h3
        · exact Or.inr e3
theorem w_d94 {np nb fu : Nat} (hfu : 1000 ≤ fu) {m : Mem} {s : Nat → Int} (hS : LWw m s) (hz : szO s) (hW : wlO s) {side : Int} {k73 : Nat → Nat → (Nat → Nat → Int32) → Int32 → Option (Nat × Nat × (Nat → Nat → Int32))} {k82 : Nat → Nat → (Nat → Nat → Int32) → Int32 → Int32 → Option (Nat × Nat × (Nat → Nat → Int32))} {w h : Nat} (hw : (w : Int) = s 0) (hh : (h : Int) = s 1) {x : Nat} (hx : (x : Int) < s 0) : ∀ (q n y : Nat) (d : Nat → Nat → Int32) (D : Nat → Int) (fl : Int32), y + q = h → q < n → BG s side d D → ∃ d' D' fl', KW_distances_94 np nb fu m k73 k82 n w h d fl (zi (x : Int)) (zi (y : Int)) = k82 w h d' fl' (zi ((x + 1 : Nat) : Int)) ∧ BG s side d' D' ∧ ((D' = D ∧ fl' = fl ∧ ∀ y', y ≤ y' → y' < h → ∀ j, j < 4 → op s (9 * y' + x) j = true → D (9 * y' + x) ≤ D (nbr (9 * y' + x) j) + 1) ∨ (fl' = 1 ∧ ms D' 81 < ms D 81)) := by
  have hz' := hz
  obtain ⟨⟨z1, z2⟩, z3, z4⟩ := hz'
  intro q
  induction q with
  | zero =>
    intro n y d D fl hk hq hB
    obtain ⟨n, rfl⟩ : ∃ f, n = f + 1 := ⟨n - 1, by omega⟩
    refine ⟨d, D, fl, ?_, hB, Or.inl ⟨rfl, rfl, fun j h1 h2 => by omega⟩⟩
    rw [KW_distances_94, hS.2.1, if_neg (by rw [zi_lt (by omega) (by omega) (by omega) (by omega)]; omega), show (1 : Int32) = zi 1 from rfl, zi_add]
    rfl
  | succ q ih =>
    intro n y d D fl hk hq hB
    obtain ⟨n, rfl⟩ : ∃ f, n = f + 1 := ⟨n - 1, by omega⟩
    obtain ⟨d1, D1, f1, a1, a2, a3⟩ := w_d106 (np := np) (nb := nb) (fu := fu) (k73 := k73) (k82 := k82) (k94 := KW_distances_94 np nb fu m k73 k82 n) hS hz hW hw hh hx (y := y) (by omega) 4 fu 0 d D fl rfl (by omega) hB
    obtain ⟨d2, D2, f2, b1, b2, b3⟩ := ih n (y + 1) d1 D1 f1 (by omega) (by omega) a2
    refine ⟨d2, D2, f2, ?_, b2, ?_⟩
    · rw [KW_distances_94, hS.2.1, if_pos (by rw [zi_lt (by omega) (by omega) (by omega) (by omega)]; omega), show (0 : Int32) = zi ((0 : Nat) : Int) from rfl, a1, b1]
    · rcases a3 with ⟨a3, a4, a5⟩ | ⟨a3, a4⟩
      · rw [a3] at b3
        rw [a4] at b3
        rcases b3 with ⟨b3, b4, b5⟩ | b3
        · refine Or.inl ⟨b3, b4, fun y' h1 h2 j hj ho => ?_⟩
          by_cases c : y' = y
          · rw [c] at ho ⊢
            exact a5 j (by omega) hj ho
          · exact b5 y' (by omega) h2 j hj ho
        · exact Or.inr b3
      · rcases b3 with ⟨b3, b4, b5⟩ | ⟨b3, b4⟩
        · rw [b3, b4]
          exact Or.inr ⟨a3, a4⟩
        · exact Or.inr ⟨b3, by omega⟩
theorem w_d82 {np nb fu : Nat} (hfu : 1000 ≤ fu) {m : Mem} {s : Nat → Int} (hS : LWw m s) (hz : szO s) (hW : wlO s) {side : Int} {k73 : Nat → Nat → (Nat → Nat → Int32) → Int32 → Option (Nat × Nat × (Nat → Nat → Int32))} {w h : Nat} (hw : (w : Int) = s 0) (hh : (h : Int) = s 1) : ∀ (q n x : Nat) (d : Nat → Nat → Int32) (D : Nat → Int) (fl : Int32), x + q = w → q < n → BG s side d D → ∃ d' D' fl', KW_distances_82 np nb fu m k73 n w h d fl (zi (x : Int)) = k73 w h d' fl' ∧ BG s side d' D' ∧ ((D' = D ∧ fl' = fl ∧ ∀ x', x ≤ x' → x' < w → ∀ y', y' < h → ∀ j, j < 4 → op s (9 * y' + x') j = true → D (9 * y' + x') ≤ D (nbr (9 * y' + x') j) + 1) ∨ (fl' = 1 ∧ ms D' 81 < ms D 81)) := by
  have hz' := hz
  obtain ⟨⟨z1, z2⟩, z3, z4⟩ := hz'
  intro q
  induction q with
  | zero =>
    intro n x d D fl hk hq hB
    obtain ⟨n, rfl⟩ : ∃ f, n = f + 1 := ⟨n - 1, by omega⟩
    refine ⟨d, D, fl, ?_, hB, Or.inl ⟨rfl, rfl, fun j h1 h2 => by omega⟩⟩
    rw [KW_distances_82, hS.1, if_neg (by rw [zi_lt (by omega) (by omega) (by omega) (by omega)]; omega)]
  | succ q ih =>
    intro n x d D fl hk hq hB
    obtain ⟨n, rfl⟩ : ∃ f, n = f + 1 := ⟨n - 1, by omega⟩
    obtain ⟨d1, D1, f1, a1, a2, a3⟩ := w_d94 (np := np) (nb := nb) (fu := fu) hfu (k73 := k73) (k82 := KW_distances_82 np nb fu m k73 n) hS hz hW hw hh (x := x) (by omega) h fu 0 d D fl (by omega) (by omega) hB
    obtain ⟨d2, D2, f2, b1, b2, b3⟩ := ih n (x + 1) d1 D1 f1 (by omega) (by omega) a2
    refine ⟨d2, D2, f2, ?_, b2, ?_⟩
    · rw [KW_distances_82, hS.1, if_pos (by rw [zi_lt (by omega) (by omega) (by omega) (by omega)]; omega), show (0 : Int32) = zi ((0 : Nat) : Int) from rfl, a1, b1]
    · rcases a3 with ⟨a3, a4, a5⟩ | ⟨a3, a4⟩
      · rw [a3] at b3
        rw [a4] at b3
        rcases b3 with ⟨b3, b4, b5⟩ | b3
        · refine Or.inl ⟨b3, b4, fun x' h1 h2 y' hy' j hj ho => ?_⟩
          by_cases c : x' = x
          · rw [c] at ho ⊢
            exact a5 y' (by omega) hy' j hj ho
          · exact b5 x' (by omega) h2 y' hy' j hj ho
        · exact Or.inr b3
      · rcases b3 with ⟨b3, b4, b5⟩ | ⟨b3, b4⟩
        · rw [b3, b4]
          exact Or.inr ⟨a3, a4⟩
        · exact Or.inr ⟨b3, by omega⟩
def rlxd (s : Nat → Int) (D : Nat → Int) : Prop := ∀ u j, j < 4 → op s u j = true → D u ≤ D (nbr u j) + 1
theorem rlxd_of {s : Nat → Int} (hz : szO s) {w h : Nat} (hw : (w : Int) = s 0) (hh : (h : Int) = s 1) {D : Nat → Int} (g : ∀ x', 0 ≤ x' → x' < w → ∀ y', y' < h → ∀ j, j < 4 → op s (9 * y' + x') j = true → D (9 * y' + x') ≤ D (nbr (9 * y' + x') j) + 1) : rlxd s D := by
  intro u j hj ho
  have h1 := op_lt hz ho
  have h2 := isCl_iff.mp (op_iff.mp ho).1
  unfold xo yo at h2
  have := g (u % 9) (by omega) (by omega) (u / 9) (by omega) j hj
  rw [show 9 * (u / 9) + u % 9 = u by omega] at this
  exact this ho
theorem w_d73 {np nb fu : Nat} (hfu : 1000 ≤ fu) {m : Mem} {s : Nat → Int} (hS : LWw m s) (hz : szO s) (hW : wlO s) {side : Int} {w h : Nat} (hw : (w : Int) = s 0) (hh : (h : Int) = s 1) : ∀ (M n : Nat) (d : Nat → Nat → Int32) (D : Nat → Int) (fl : Int32), ms D 81 < M → M < n → BG s side d D → (fl = 0 ∧ rlxd s D ∨ fl = 1) → ∃ d' D', KW_distances_73 np nb fu m n w h d fl = some (w, h, d') ∧ BG s side d' D' ∧ rlxd s D' := by
  intro M
  have hz' := hz
  obtain ⟨⟨z1, z2⟩, z3, z4⟩ := hz'
  induction M with
  | zero => intro n d D fl h1; omega
  | succ M ih =>
    intro n d D fl h1 h2 hB hf
    obtain ⟨n, rfl⟩ : ∃ f, n = f + 1 := ⟨n - 1, by omega⟩
    rcases hf with ⟨rfl, hr⟩ | rfl
    · exact ⟨d, D, by rw [KW_distances_73, if_pos rfl], hB, hr⟩
    · obtain ⟨d1, D1, f1, a1, a2, a3⟩ := w_d82 (np := np) (nb := nb) hfu (k73 := KW_distances_73 np nb fu m n) hS hz hW hw hh w fu 0 d D 0 (by omega) (by omega) hB
      rw [KW_distances_73, if_neg (by decide)]
      rw [show (zi ((0 : Nat) : Int)) = 0 from rfl] at a1
      rw [a1]
      rcases a3 with ⟨rfl, rfl, a5⟩ | ⟨a3, a4⟩
      · obtain ⟨n, rfl⟩ : ∃ f, n = f + 1 := ⟨n - 1, by omega⟩
        exact ⟨d1, D1, by rw [KW_distances_73, if_pos rfl], a2, rlxd_of hz hw hh a5⟩
      · exact ih n d1 D1 f1 (by omega) (by omega) a2 (Or.inr a3)
/-- what a field of the law's distances holds -/
noncomputable def dl1 (s : Nat → Int) (side : Int) (c : Nat) : Int := if dl s side c = -1 then 1000 else dl s side c
theorem rlxd_dl {s : Nat → Int} (hz : szO s) (hW : wlO s) {side : Int} (hs1 : -1000 ≤ side) (hs2 : side < 1000) {D : Nat → Int} (hB : BFI s side D) (hr : rlxd s D) {c : Nat} (hc : c < 81) : D c = dl1 s side c := by
  obtain ⟨h1, h2, h3⟩ := hB
  have low : ∀ (n c : Nat), Pth (op s) nbr (Sd s side) n c → D c ≤ n := by
    intro n
    induction n with
    | zero =>
      intro c h
      rw [h2 c h]
      omega
    | succ n ih =>
      intro c h
      obtain ⟨u, d, hd, hp, ho, e⟩ := h
      have sy := op_sym hz hd ho
      have a := ih u hp
      have b := hr (nbr u d) (opp d) (opp_lt d) sy.1
      rw [sy.2, e] at b
      omega
  unfold dl1
  have b := dl_le hz hW hs1 hs2 hc
  rcases dlt_cases (op s) nbr (Sd s side) c with ⟨e1, e2⟩ | ⟨n, e1, e2⟩
  · have e3 : dl s side c = -1 := e1
    rw [if_pos e3]
    rcases h3 c with g | g
    · exact g
    · exact absurd g (e2 _)
  · have e3 : dl s side c = (n : Int) := e2
    rw [if_neg (by omega), e3]
    have l := low n c e1.1
    rcases h3 c with g | g
    · omega
    · have := e1.2 _ g
      have := h1 c
      omega
end LZA
