section CTRL
theorem and_or32 (a b c : Int32) : (a ||| b) &&& c = (a &&& c) ||| (b &&& c) := by
  apply Int32.toBitVec_inj.1
  simp only [Int32.toBitVec_and, Int32.toBitVec_or]
  ext i9
  simp [Bool.and_or_distrib_right]
theorem msk_or (f : Nat → Bool) {d : Nat} (hd : d < 4) : msk f ||| (zi 1 <<< (zi (d : Int) &&& zi 31)) = msk (fun e => f e || decide (e = d)) := by
  unfold msk
  rcases (show d = 0 ∨ d = 1 ∨ d = 2 ∨ d = 3 by omega) with rfl | rfl | rfl | rfl <;> cases h0 : f 0 <;> cases h1 : f 1 <;> cases h2 : f 2 <;> cases h3 : f 3 <;> simp only [h0, h1, h2, h3] <;> rfl
theorem xor2 {d : Nat} (hd : d < 4) : zi (d : Int) ^^^ zi 2 = zi ((opp d : Nat) : Int) := by
  rcases (show d = 0 ∨ d = 1 ∨ d = 2 ∨ d = 3 by omega) with rfl | rfl | rfl | rfl <;> rfl
theorem bi_or (a b : Bool) : zi (bi a) ||| zi (bi b) = zi (bi (a || b)) := by
  cases a <;> cases b <;> rfl
/-- which step leads nearer, as the search has it -/
def nrT (s : Nat → Int) (t : BS) (u d : Nat) : Bool := op s u d && (decide (0 < t.1 u) && decide (t.1 (nbr u d) = t.1 u - 1))
theorem op_off {s : Nat → Int} (hz : szO s) {u d : Nat} (hu : u < 81) (hd : d < 4) (ho : op s u d = true) : (u : Int) + (9 * dy (d : Int) + dx (d : Int)) = (nbr u d : Int) := by
  have hn := op_nb hz hu hd ho
  have hxy := xy_lt hu
  have hxy2 := xy_lt hn.1
  omega
theorem c_isNearer (fu w r : Nat) {mem : Mem} {s : Nat → Int} {t : BS} {u d : Nat} (hR : RB mem r s) (hz : szO s) (h : CM w mem t) (hu : u < 81) (hd : d < 4) : K_X10_isNearer fu w r (zi (u : Int)) (zi (d : Int)) mem = some (zi (bi (nrT s t u d))) := by
  have e := hR.2.2.2.2 u hu
  have e1 := h.1 u hu
  have b1 := h.2.2.2.1 u
  unfold K_X10_isNearer K_X10_isNearer_38 nrT
  simp (disch := omega) only [zi_lit, zl_lit, zi_add, zi_sub, zi_mul, zi_neg, zi_lt, zi_inj, zi_clamp, zl_of, gi_zi, bd_s, ltf, bi_0, bi_1, gb_bi, Int.reduceToNat, Int.reduceNeg, Int.toNat_natCast, e, msk_bit _ hd, offV_z hd]
  by_cases ho : op s u d = true
  · have hn := op_nb hz hu hd ho
    have hn1 := hn.1
    have e2 := h.1 _ hn.1
    have b2 := h.2.2.2.1 (nbr u d)
    rw [op_off hz hu hd ho, if_neg (by rw [ho]; decide)]
    unfold K_X10_isNearer_39
    simp (disch := omega) only [zi_lit, zl_lit, zi_add, zi_sub, zi_mul, zi_neg, zi_lt, zi_inj, zi_clamp, zl_of, gi_zi, bd_s, ltf, bi_0, bi_1, gb_bi, Int.reduceToNat, Int.reduceNeg, Int.toNat_natCast, e1, e2]
    rw [if_neg (by omega), if_pos (by omega), if_neg (by decide)]
    by_cases c1 : 0 < t.1 u <;> by_cases c2 : t.1 (nbr u d) = t.1 u - 1 <;> simp [ho, c1, c2, bi]
  · have ho2 : op s u d = false := by simpa using ho
    rw [if_pos ho2]
    unfold K_X10_isNearer_39
    rw [ho2]
    rfl
/-- from a cell that is not a seed a step leads nearer -/
theorem nr_ex {s : Nat → Int} (hz : szO s) {side : Int} {t : BS} {i : Nat} (hI : BI (op s) nbr (Sd s side) t i) {u : Nat} (hu : u < 81) {n : Nat} (hn : t.1 u = (n : Int) + 1) : ∃ d, d < 4 ∧ nrT s t u d = true := by
  have hg := op_hg hz
  have h1 := BI_ex Sd_lt hg hI hu (by omega)
  rcases dlt_cases (op s) nbr (Sd s side) u with ⟨h2, -⟩ | ⟨m, h2, h3⟩
  · omega
  · have hm : m = n + 1 := by omega
    subst hm
    obtain ⟨⟨v, d, hd, hp, ho, hv⟩, hmin⟩ := h2
    have hv2 := op_lt hz ho
    obtain ⟨g1, g2⟩ := op_sym hz hd ho
    have hlow : v < 81 ∧ t.1 v ≠ -1 ∧ t.1 v ≤ n := by
      refine BI_low Sd_lt hg hI n v hp ?_
      by_cases q : i = t.2.2
      · exact Or.inl q
      · have q1 := hI.2.2.2.2.2.2.2.2.2.1
        obtain ⟨k, q2, q3⟩ := hI.2.1 u hu (by omega)
        have q4 := hI.2.2.2.2.2.1 k q2 (by omega)
        rw [q3] at q4
        exact Or.inr ⟨by omega, by omega⟩
    have hex := BI_ex Sd_lt hg hI hv2 hlow.2.1
    have hpos := hI.2.2.2.1 v hlow.2.1
    have hd2 : t.1 v = (n : Int) := by
      have q5 := hI.2.2.2.2.2.2.2.1 v hv2 hlow.2.1
      have q6 := hmin ((t.1 v).toNat + 1) ⟨v, d, hd, q5, ho, hv⟩
      omega
    rw [hv] at g1 g2
    refine ⟨opp d, opp_lt d, ?_⟩
    unfold nrT
    rw [g1, g2, decide_eq_true (by omega), decide_eq_true (by omega)]
    rfl
/-- the marks of a pawn's trail -/
def TM (mem : Mem) (i : Nat) (T : Nat → Nat → Bool) : Prop := ∀ c, c < 81 → rd mem 18 (81 * i + c) = msk (T c)
def PT (i k j : Nat) : Bool := k == 18 && (decide (81 * i ≤ j) && decide (j < 81 * i + 81))
theorem PT_t {i c : Nat} (hc : c < 81) : PT i 18 (81 * i + c) = true := by
  unfold PT
  rw [decide_eq_true (by omega), decide_eq_true (by omega)]
  rfl
theorem TM_or {mem : Mem} {i : Nat} {T : Nat → Nat → Bool} (h : TM mem i T) {c d : Nat} (hc : c < 81) (hd : d < 4) : TM (mw mem 18 (81 * i + c) (rd mem 18 (81 * i + c) ||| (zi 1 <<< (zi (d : Int) &&& zi 31)))) i (fun a x => T a x || decide (a = c ∧ x = d)) := fun a ha => by
  rw [rd_mw, h c hc, msk_or _ hd]
  by_cases q : a = c
  · rw [if_pos ⟨rfl, by rw [q]⟩, q]
    refine msk_cg (fun e _ => ?_)
    show (T c e || decide (e = d)) = (T c e || decide (c = c ∧ e = d))
    by_cases q2 : e = d
    · rw [decide_eq_true q2, decide_eq_true (p := c = c ∧ e = d) ⟨rfl, q2⟩]
    · rw [decide_eq_false q2, decide_eq_false (p := c = c ∧ e = d) (fun x => q2 x.2)]
  · rw [if_neg (by omega), h a ha]
    refine msk_cg (fun e _ => ?_)
    show T a e = (T a e || decide (a = c ∧ e = d))
    rw [decide_eq_false (p := a = c ∧ e = d) (fun x => q x.1), Bool.or_false]
/-- a step of the trail is marked on both of its sides -/
def tmk (T : Nat → Nat → Bool) (u e : Nat) : Nat → Nat → Bool := fun a x => (T a x || decide (a = u ∧ x = e)) || decide (a = nbr u e ∧ x = opp e)
theorem c_mt26 (fu r : Nat) (k18 : Int32 → Int32 → Int32 → Mem → Option Mem) {s : Nat → Int} (hz : szO s) {t : BS} {i u : Nat} (hi : i < 4) (hu : u < 81) {x4 : Int} (h4 : 0 ≤ x4 ∧ x4 ≤ 1000) {mem : Mem} {T : Nat → Nat → Bool} (hR : RB mem r s) (hC : CM 0 mem t) (hT : TM mem i T) : ∀ (q n d : Nat), d + q = 4 → q < n → (∃ e, d ≤ e ∧ e < 4 ∧ nrT s t u e = true) → ∃ e mem2, e < 4 ∧ nrT s t u e = true ∧ K_X5_markTrail_26 fu r k18 n (zi (i : Int)) (zi (u : Int)) (zi x4) (zi (d : Int)) mem = k18 (zi (i : Int)) (zi (nbr u e : Int)) (zi (x4 - 1)) mem2 ∧ TM mem2 i (tmk T u e) ∧ Fr (PT i) mem mem2 := by
  intro q
  induction q with
  | zero =>
    rintro n d hd hn ⟨e, h1, h2, h3⟩
    omega
  | succ q ih =>
    rintro n d hd hn ⟨e, h1, h2, h3⟩
    obtain ⟨n, rfl⟩ : ∃ f, n = f + 1 := ⟨n - 1, by omega⟩
    have hd4 : d < 4 := by omega
    rw [K_X5_markTrail_26]
    simp (disch := omega) only [zi_lit, zl_lit, zi_add, zi_sub, zi_mul, zi_neg, zi_lt, zi_inj, zi_clamp, zl_of, gi_zi, bd_s, ltf, bi_0, bi_1, gb_bi, Int.reduceToNat, Int.reduceNeg, Int.toNat_natCast, c_isNearer fu 0 r hR hz hC hu hd4]
    rw [if_pos (by omega)]
    by_cases c1 : nrT s t u d = true
    · rw [if_neg (by rw [c1]; decide)]
      have ho : op s u d = true := by
        unfold nrT at c1
        rw [Bool.and_eq_true] at c1
        exact c1.1
      have hn := op_nb hz hu hd4 ho
      have hn1 := hn.1
      have hoff := op_off hz hu hd4 ho
      have i1 : ((i : Int) * 81 + (u : Int)).toNat = 81 * i + u := by omega
      have i2 : ((i : Int) * 81 + (nbr u d : Int)).toNat = 81 * i + nbr u d := by omega
      unfold K_X5_markTrail_55
      simp (disch := omega) only [zi_lit, zl_lit, zi_add, zi_sub, zi_mul, zi_neg, zi_lt, zi_inj, zi_clamp, zl_of, gi_zi, bd_s, ltf, bi_0, bi_1, gb_bi, Int.reduceToNat, Int.reduceNeg, Int.toNat_natCast, offV_z hd4, hoff, i1, i2, xor2 hd4]
      rw [if_neg (by omega)]
      exact ⟨d, _, hd4, c1, rfl, TM_or (TM_or hT hu hd4) hn.1 (opp_lt d), Fr_tr (Fr_mw _ _ (PT_t hu)) (Fr_mw _ _ (PT_t hn.1))⟩
    · rw [if_pos (by simpa using c1)]
      have h5 : d ≠ e := fun x => c1 (by rw [x]; exact h3)
      exact ih n (d + 1) (by omega) (by omega) ⟨e, by omega, h2, h3⟩
/-- the trail's steps are open, marked on both sides, and make a way -/
def TOK (s : Nat → Int) (T : Nat → Nat → Bool) : Prop := ∀ c e, e < 4 → T c e = true → op s c e = true ∧ T (nbr c e) (opp e) = true
def opT (s : Nat → Int) (T : Nat → Nat → Bool) (u d : Nat) : Bool := op s u d && T u d
theorem TOK_mk {s : Nat → Int} (hz : szO s) {T : Nat → Nat → Bool} (h : TOK s T) {u d : Nat} (hd : d < 4) (ho : op s u d = true) : TOK s (tmk T u d) := by
  obtain ⟨g1, g2⟩ := op_sym hz hd ho
  intro c e he hc
  unfold tmk at hc ⊢
  rw [Bool.or_eq_true, Bool.or_eq_true, decide_eq_true_iff, decide_eq_true_iff] at hc
  rcases hc with (hc | ⟨rfl, rfl⟩) | ⟨rfl, rfl⟩
  · obtain ⟨k1, k2⟩ := h c e he hc
    exact ⟨k1, by rw [k2]; rfl⟩
  · exact ⟨ho, by rw [decide_eq_true (p := nbr c e = nbr c e ∧ opp e = opp e) ⟨rfl, rfl⟩, Bool.or_true]⟩
  · refine ⟨g1, ?_⟩
    rw [g2, opp_opp hd, decide_eq_true (p := u = u ∧ d = d) ⟨rfl, rfl⟩, Bool.or_true]
    rfl
theorem tmk_ge {s : Nat → Int} {T : Nat → Nat → Bool} {u d : Nat} : ∀ a x, opT s T a x = true → opT s (tmk T u d) a x = true := fun a x h => by
  unfold opT tmk at *
  rw [Bool.and_eq_true] at h
  rw [h.1, h.2]
  rfl
theorem c_mt18 (fu r : Nat) (hfu : 1000 ≤ fu) {s : Nat → Int} (hz : szO s) {side : Int} {t : BS} {ix : Nat} (hI : BI (op s) nbr (Sd s side) t ix) {i c0 : Nat} (hi : i < 4) : ∀ (q n u p : Nat) (mem : Mem) (T : Nat → Nat → Bool), u < 81 → t.1 u = (q : Int) → q ≤ 100 → q < n → RB mem r s → CM 0 mem t → TM mem i T → TOK s T → Pth (opT s T) nbr (fun b => b = u) p c0 → ∃ mem2 T2, K_X5_markTrail_18 fu r n (zi (i : Int)) (zi (u : Int)) (zi (q : Int)) mem = some mem2 ∧ TM mem2 i T2 ∧ TOK s T2 ∧ Pth (opT s T2) nbr (Sd s side) (p + q) c0 ∧ Fr (PT i) mem mem2 := by
  intro q
  induction q with
  | zero =>
    intro n u p mem T hu ht hq hn hR hC hT hO hP
    obtain ⟨n, rfl⟩ : ∃ f, n = f + 1 := ⟨n - 1, by omega⟩
    rw [K_X5_markTrail_18]
    simp (disch := omega) only [zi_lit, zl_lit, zi_add, zi_sub, zi_mul, zi_neg, zi_lt, zi_inj, zi_clamp, zl_of, gi_zi, bd_s, ltf, bi_0, bi_1, gb_bi, Int.reduceToNat, Int.reduceNeg, Int.toNat_natCast]
    rw [if_neg (by omega)]
    have hS : Sd s side u := by
      have h1 := hI.2.2.2.2.2.2.2.1 u hu (by omega)
      rw [ht] at h1
      exact h1
    refine ⟨mem, T, rfl, hT, hO, ?_, Fr_rf _ mem⟩
    exact Pth_mono (fun _ _ h => h) (fun c hc => by rw [hc]; exact hS) hP
  | succ q ih =>
    intro n u p mem T hu ht hq hn hR hC hT hO hP
    obtain ⟨n, rfl⟩ : ∃ f, n = f + 1 := ⟨n - 1, by omega⟩
    obtain ⟨d, hd, hnr⟩ := nr_ex hz hI hu (n := q) (by omega)
    rw [K_X5_markTrail_18]
    simp (disch := omega) only [zi_lit, zl_lit, zi_add, zi_sub, zi_mul, zi_neg, zi_lt, zi_inj, zi_clamp, zl_of, gi_zi, bd_s, ltf, bi_0, bi_1, gb_bi, Int.reduceToNat, Int.reduceNeg, Int.toNat_natCast]
    rw [if_pos (by omega)]
    obtain ⟨e, m1, a1, a2, a3, a4, a5⟩ := c_mt26 fu r (K_X5_markTrail_18 fu r n) hz hi hu (x4 := ((q + 1 : Nat) : Int)) (by omega) hR hC hT 4 fu 0 (by omega) (by omega) ⟨d, by omega, hd, hnr⟩
    have a2' := a2
    unfold nrT at a2'
    rw [Bool.and_eq_true, Bool.and_eq_true, decide_eq_true_iff, decide_eq_true_iff] at a2'
    obtain ⟨b1, b2, b3⟩ := a2'
    have hn1 := op_nb hz hu a1 b1
    obtain ⟨g1, g2⟩ := op_sym hz a1 b1
    have f35 : ∀ k j, 35 ≤ k → PT i k j = false := fun k j hk => by
      unfold PT
      simp
      omega
    have hC2 : CM 0 m1 t := by
      obtain ⟨k1, k2, k3, k4⟩ := hC
      refine ⟨fun c hc => ?_, fun k hk => ?_, ?_, k4⟩
      · rw [a5.1 _ _ rfl]; exact k1 c hc
      · rw [a5.1 _ _ rfl]; exact k2 k hk
      · rw [a5.1 _ _ rfl]; exact k3
    obtain ⟨mem2, T2, c1, c2, c3, c4, c5⟩ := ih n (nbr u e) (p + 1) m1 (tmk T u e) hn1.1 (by omega) (by omega) (by omega) (RB_fr a5 f35 hR) hC2 a4 (TOK_mk hz hO a1 b1) (by
      refine Pth_cons (opp_lt e) ?_ ?_
      · unfold opT tmk
        rw [g1, decide_eq_true (p := nbr u e = nbr u e ∧ opp e = opp e) ⟨rfl, rfl⟩, Bool.or_true]
        rfl
      · rw [g2]
        exact Pth_mono tmk_ge (fun _ h => h) hP)
    refine ⟨mem2, T2, ?_, c2, c3, ?_, Fr_tr a5 c5⟩
    · rw [show zi (0 : Int) = zi ((0 : Nat) : Int) from rfl, a3, show ((q + 1 : Nat) : Int) - 1 = (q : Int) by omega]
      exact c1
    · rw [show p + (q + 1) = p + 1 + q by omega]
      exact c4
end CTRL
