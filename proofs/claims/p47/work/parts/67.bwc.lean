section BANWC
theorem c_begin (fu r : Nat) (hfu : 1000 ≤ fu) {s : Nat → Int} (hz : szO s) (hc : cnO s) (hb : basO s) {p : Nat} (hps : (p : Int) < s 2) (hpn : pnO s p) {x y : Int32} {mem : Mem} (hR : RC mem r s) (hB : BWx mem x y) : ∃ mem2, K_X1_begin fu r (zi (p : Int)) mem = some mem2 ∧ RC mem2 r s ∧ MBk mem2 s p (s 6).toNat ∧ BWx mem2 x y ∧ CWn mem2 x (n0W s p) ∧ Fr PWb mem mem2 := by
  have c2 := hc.2.1
  obtain ⟨m1, a1, a2, a3⟩ := c_fill fu 31 81 (zi 0) (by omega) (by omega) mem
  obtain ⟨m2, b1, b2, b3⟩ := c_fill fu 32 5 (zi 0) (by omega) (by omega) m1
  have f : Fr PM3 mem m2 := Fr_tr (Fr_mono a3 (fun k j h => by
    unfold PM3 at h
    rw [Bool.or_eq_false_iff] at h
    exact h.1)) (Fr_mono b3 (fun k j h => by
    unfold PM3 at h
    rw [Bool.or_eq_false_iff] at h
    exact h.2))
  have fW : Fr PWb mem m2 := Fr_mono f (fun _ _ => PM3_W)
  obtain ⟨m3, d1, d2, d3, d4, d5⟩ := c_bg18 fu r hfu hz hc hb hps hpn (x := x) (y := y) (s 6).toNat fu 0 m2 (by omega) (by omega) (RC_fr fW PWb_35 hR) ⟨(f.1 _ _ rfl).trans hB.1, (f.1 _ _ rfl).trans hB.2.1, hB.2.2⟩ ⟨fun c hc => by
    rw [b3.1 _ _ rfl, a2 c, if_pos hc]
    rfl, fun l hl => by
    rw [b2 l, if_pos hl]
    rfl⟩
  have fA := Fr_tr fW d5
  refine ⟨m3, ?_, RC_fr fA PWb_35 hR, d2, d3, d4, fA⟩
  unfold K_X1_begin
  simp only [zi_lit, zl_lit, zi_add, zi_sub, zi_mul, zi_neg, zi_lt, zi_inj, zi_clamp, zl_of, gi_zi, bd_s, ltf, bi_0, bi_1, gb_bi, Int.reduceToNat, Int.reduceNeg, Int.toNat_natCast]
  rw [a1]
  simp only [zi_lit, zl_lit, zi_add, zi_sub, zi_mul, zi_neg, zi_lt, zi_inj, zi_clamp, zl_of, gi_zi, bd_s, ltf, bi_0, bi_1, gb_bi, Int.reduceToNat, Int.reduceNeg, Int.toNat_natCast]
  rw [b1]
  exact d1
theorem c_bbn5 (fu r : Nat) {s : Nat → Int} (hc : cnO s) (hb : basO s) {mem : Mem} (hR : RC mem r s) {p num : Int} (hp : 0 ≤ p ∧ p ≤ 3) (hn : 0 ≤ num ∧ num ≤ 10000) : ∀ (q n k : Nat), (k : Int) + q = s 6 → q < n → K_X6_bannedByNumber_5 fu r mem n (zi p) (zi num) (msk (fun d => bN s p num d k)) (zi (k : Int)) = some (msk (fun d => bN s p num d (s 6).toNat)) := by
  have c1 := hc.1
  have c2 := hc.2.1
  intro q
  induction q with
  | zero =>
    intro n k hk hn2
    obtain ⟨n, rfl⟩ : ∃ f, n = f + 1 := ⟨n - 1, by omega⟩
    rw [K_X6_bannedByNumber_5]
    simp (disch := omega) only [zi_lit, zl_lit, zi_add, zi_sub, zi_mul, zi_neg, zi_lt, zi_inj, zi_clamp, zl_of, gi_zi, bd_s, ltf, bi_0, bi_1, gb_bi, Int.reduceToNat, Int.reduceNeg, Int.toNat_natCast, hR.2.1.2.1]
    rw [if_neg (by omega), show (s 6).toNat = k by omega]
  | succ q ih =>
    intro n k hk hn2
    obtain ⟨n, rfl⟩ : ∃ f, n = f + 1 := ⟨n - 1, by omega⟩
    have hbk := hb k (by omega) (by omega)
    have hRN := hR.2.2.2 k (by omega) (by omega)
    have h0 := hbk.1
    have h2 := ih n (k + 1) (by omega) (by omega)
    rw [K_X6_bannedByNumber_5]
    simp (disch := omega) only [zi_lit, zl_lit, zi_add, zi_sub, zi_mul, zi_neg, zi_lt, zi_inj, zi_clamp, zl_of, gi_zi, bd_s, ltf, bi_0, bi_1, gb_bi, Int.reduceToNat, Int.reduceNeg, Int.toNat_natCast, hR.2.1.2.1, hRN.1, c_byNumber fu r k hRN hbk hn]
    rw [if_pos (by omega)]
    by_cases c3 : bg s k 0 = p
    · rw [if_pos c3, msk_or2]
      refine Eq.trans ?_ h2
      congr 1
      refine msk_cg (fun e _ => ?_)
      show _ = (bN s p num e k || (decide (bg s k 0 = p) && kN s k num e))
      rw [decide_eq_true c3, Bool.true_and]
      rfl
    · rw [if_neg c3]
      refine Eq.trans ?_ h2
      congr 1
      refine msk_cg (fun e _ => ?_)
      show _ = (bN s p num e k || (decide (bg s k 0 = p) && kN s k num e))
      rw [decide_eq_false c3, Bool.false_and, Bool.or_false]
theorem msk_andn (f g : Nat → Bool) : msk f &&& (msk g ^^^ zi (-1)) = msk (fun d => f d && !g d) := by
  show zi (bi (f 0) + 2 * bi (f 1) + 4 * bi (f 2) + 8 * bi (f 3)) &&& (zi (bi (g 0) + 2 * bi (g 1) + 4 * bi (g 2) + 8 * bi (g 3)) ^^^ zi (-1)) = zi (bi (f 0 && !g 0) + 2 * bi (f 1 && !g 1) + 4 * bi (f 2 && !g 2) + 8 * bi (f 3 && !g 3))
  cases f 0 <;> cases f 1 <;> cases f 2 <;> cases f 3 <;> cases g 0 <;> cases g 1 <;> cases g 2 <;> cases g 3 <;> rfl
theorem tT_no {s : Nat → Int} {p num : Int} {N : Nat → Nat} {u d : Nat} (h : frB s p num u d = false) : tTw s p num N u d = 0 := sg_0 (fun l _ => by
  unfold cbT
  rw [h, Bool.false_and]
  rfl)
theorem tT_fr {s : Nat → Int} {p num : Int} {N : Nat → Nat} {u d : Nat} (h : tTw s p num N u d ≠ 0) : frB s p num u d = true ∧ op s u d = true := by
  cases q : frB s p num u d with
  | false => exact absurd (tT_no q) h
  | true =>
    refine ⟨rfl, ?_⟩
    unfold frB at q
    rw [Bool.and_eq_true] at q
    exact q.1
theorem c_wt5 (fu : Nat) {s : Nat → Int} {p num : Int} {N : Nat → Nat} {mem : Mem} {x y : Int32} (hB : BWx mem x y) (hM : MBk mem s p (s 6).toNat) (hC : CWn mem x N) {u d : Nat} (hu : u < 81) (hd : d < 4) (hf : frB s p num u d = true) : ∀ (q n l : Nat), l + q = 5 → q < n → K_X1_waysThat_5 fu mem n (zi (u : Int)) (zi (d : Int)) (zi (ph (sg (fun l => cbT s p num N u l d) l) : Int)) (zi (l : Int)) = some (zi (ph (tTw s p num N u d) : Int)) := by
  intro q
  induction q with
  | zero =>
    intro n l hl hn
    obtain ⟨n, rfl⟩ : ∃ f, n = f + 1 := ⟨n - 1, by omega⟩
    obtain rfl : l = 5 := by omega
    rw [K_X1_waysThat_5]
    simp (disch := omega) only [zi_lit, zl_lit, zi_add, zi_sub, zi_mul, zi_neg, zi_lt, zi_inj, zi_clamp, zl_of, gi_zi, bd_s, ltf, bi_0, bi_1, gb_bi, Int.reduceToNat, Int.reduceNeg, Int.toNat_natCast]
    rw [if_neg (by decide)]
    rfl
  | succ q ih =>
    intro n l hl hn
    obtain ⟨n, rfl⟩ : ∃ f, n = f + 1 := ⟨n - 1, by omega⟩
    have hl5 : l < 5 := by omega
    have h2 := ih n (l + 1) (by omega) (by omega)
    rw [sg] at h2
    have i1 : ((u : Int) * 5 + (l : Int)).toNat = 5 * u + l := by omega
    have e1 := hC (5 * u + l) (by omega)
    have eT : cbT s p num N u l d = if bL s p (latI l) d (s 6).toNat = false then N (5 * u + l) else 0 := by
      unfold cbT
      rw [hf, Bool.true_and]
      unfold blB
      cases bL s p (latI l) d (s 6).toNat <;> rfl
    rw [K_X1_waysThat_5]
    simp (disch := omega) only [zi_lit, zl_lit, zi_add, zi_sub, zi_mul, zi_neg, zi_lt, zi_inj, zi_clamp, zl_of, gi_zi, bd_s, ltf, bi_0, bi_1, gb_bi, Int.reduceToNat, Int.reduceNeg, Int.toNat_natCast, hM.2 l hl5, msk_bit _ hd, hB.1, i1, e1, c_sum]
    rw [if_pos (by omega)]
    cases c1 : bL s p (latI l) d (s 6).toNat with
    | true =>
      rw [c1, if_neg (by decide)] at eT
      rw [eT, Nat.add_zero] at h2
      rw [if_neg (by decide)]
      exact h2
    | false =>
      rw [c1, if_pos rfl] at eT
      rw [eT] at h2
      rw [if_pos rfl]
      exact h2
def aPw (s : Nat → Int) (p num : Int) (N : Nat → Nat) (u d : Nat) : Nat := sg (fun a => sg (arU s p num N a) 4) u + sg (arU s p num N u) d
def fPw (s : Nat → Int) (p num : Int) (N : Nat → Nat) (j u d : Nat) : Nat := sg (fun a => sg (nxU s p num N j a) 4) u + sg (nxU s p num N j u) d
theorem nx_inj {s : Nat → Int} (hz : szO s) {p num : Int} {N : Nat → Nat} {u d a e : Nat} (hd : d < 4) (he : e < 4) (h1 : tTw s p num N u d ≠ 0) (h2 : nxU s p num N (5 * nbr u d + d) a e ≠ 0) : a = u ∧ e = d := by
  unfold nxU at h2
  by_cases c1 : (!sdB s p (nbr a e) && decide (5 * nbr a e + e = 5 * nbr u d + d)) = true
  · rw [if_pos c1] at h2
    rw [Bool.and_eq_true, decide_eq_true_iff] at c1
    have o1 := (tT_fr h1).2
    have o2 := (tT_fr h2).2
    have hde : e = d := by omega
    subst hde
    have hn : nbr a e = nbr u e := by omega
    have k1 := (op_sym hz hd o1).2
    have k2 := (op_sym hz he o2).2
    rw [hn] at k2
    exact ⟨k2.symm.trans k1, rfl⟩
  · rw [if_neg c1] at h2
    exact absurd rfl h2
theorem fP_0 {s : Nat → Int} (hz : szO s) {p num : Int} {N : Nat → Nat} {u d : Nat} (hd : d < 4) (h1 : tTw s p num N u d ≠ 0) : fPw s p num N (5 * nbr u d + d) u d = 0 := by
  have e1 : sg (fun a => sg (nxU s p num N (5 * nbr u d + d) a) 4) u = 0 := sg_0 (fun a ha => sg_0 (fun e he => by
    by_cases q : nxU s p num N (5 * nbr u d + d) a e = 0
    · exact q
    · have := (nx_inj hz hd he h1 q).1
      omega))
  have e2 : sg (nxU s p num N (5 * nbr u d + d) u) d = 0 := sg_0 (fun e he => by
    by_cases q : nxU s p num N (5 * nbr u d + d) u e = 0
    · exact q
    · have := (nx_inj hz hd (by omega) h1 q).2
      omega)
  unfold fPw
  rw [e1, e2]
def NXc (mem : Mem) (s : Nat → Int) (p num : Int) (N : Nat → Nat) (y : Int32) (u d : Nat) : Prop := ∀ j, j < 405 → rd mem (pBW y) j = zi (ph (fPw s p num N j u d) : Int)
def STw (mem : Mem) (r : Nat) (s : Nat → Int) (p : Int) (x y : Int32) (N : Nat → Nat) : Prop := RC mem r s ∧ BWx mem x y ∧ MBk mem s p (s 6).toNat ∧ CWn mem x N
theorem STw_y {mem : Mem} {r : Nat} {s : Nat → Int} {p : Int} {x y : Int32} {N : Nat → Nat} (h : STw mem r s p x y N) {j : Nat} {v : Int32} : STw (mw mem (pBW y) j v) r s p x y N := by
  obtain ⟨h1, h2, h3, h4⟩ := h
  have nb : pBW y ≠ 28 ∧ pBW y ≠ 31 ∧ pBW y ≠ 32 := by
    rcases pBW_c y with h | h <;> rw [h] <;> decide
  refine ⟨RC_fr (P := PWb) (Fr_mw _ _ (PWb_B _ _)) PWb_35 h1, ⟨?_, ?_, h2.2.2⟩, ⟨fun c hc => ?_, fun l hl => ?_⟩, fun j2 hj => ?_⟩
  · rw [rd_mw, if_neg (fun h => nb.1 h.1.symm)]
    exact h2.1
  · rw [rd_mw, if_neg (fun h => nb.1 h.1.symm)]
    exact h2.2.1
  · rw [rd_mw, if_neg (fun h => nb.2.1 h.1.symm)]
    exact h3.1 c hc
  · rw [rd_mw, if_neg (fun h => nb.2.2 h.1.symm)]
    exact h3.2 l hl
  · rw [rd_mw, if_neg (fun h => h2.2.2 h.1)]
    exact h4 j2 hj
theorem c_g99 (fu r : Nat) {s : Nat → Int} (hz : szO s) (hc : cnO s) {p : Nat} (hps : (p : Int) < s 2) (hpn : pnO s p) (k36 : Nat → Int32 → Int32 → Int32 → Mem → Option (Int32 × Mem)) (k71 : Nat → Int32 → Int32 → Int32 → Int32 → Int32 → Mem → Option (Int32 × Mem)) {num : Int} {N : Nat → Nat} {x y x5 x8 : Int32} {u d : Nat} (hu : u < 81) (hd : d < 4) {mem : Mem} (hS : STw mem r s p x y N) (hN : NXc mem s p num N y u d) : ∃ mem2, K_X1_goOn_99 fu r k36 k71 p x5 (zi (ph (aPw s p num N u d) : Int)) (zi (u : Int)) x8 (zi (d : Int)) (zi (ph (tTw s p num N u d) : Int)) mem = k71 p x5 (zi (ph (aPw s p num N u (d + 1)) : Int)) (zi (u : Int)) x8 (zi ((d + 1 : Nat) : Int)) mem2 ∧ STw mem2 r s p x y N ∧ NXc mem2 s p num N y u (d + 1) ∧ Fr (fun k _ => k == pBW y) mem mem2 := by
  have c1 := hc.1
  have hRP := hS.1.2.2.1 p (by omega) hps
  have hside := hpn.2.1
  have eA : aPw s p num N u (d + 1) = aPw s p num N u d + arU s p num N u d := by
    unfold aPw
    rw [sg, Nat.add_assoc]
  have eF : ∀ j, fPw s p num N j u (d + 1) = fPw s p num N j u d + nxU s p num N j u d := fun j => by
    unfold fPw
    rw [sg, Nat.add_assoc]
  have hle := ph_le (tTw s p num N u d)
  unfold K_X1_goOn_99
  simp (disch := omega) only [zi_lit, zl_lit, zi_add, zi_sub, zi_mul, zi_neg, zi_lt, zi_inj, zi_clamp, zl_of, gi_zi, bd_s, ltf, bi_0, bi_1, gb_bi, Int.reduceToNat, Int.reduceNeg, Int.toNat_natCast, offV_z hd]
  by_cases q1 : tTw s p num N u d = 0
  · rw [q1, show ((ph 0 : Nat) : Int) = 0 from rfl, if_pos rfl]
    refine ⟨mem, ?_, hS, fun j hj => ?_, Fr_rf _ mem⟩
    · rw [eA, show arU s p num N u d = 0 by unfold arU; rw [q1]; split <;> rfl]
      rfl
    · rw [eF, show nxU s p num N j u d = 0 by unfold nxU; rw [q1]; split <;> rfl]
      exact hN j hj
  · have hph : ¬ ((ph (tTw s p num N u d) : Nat) : Int) = 0 := fun h => q1 ((ph_0 _).mp (by omega))
    have ho := (tT_fr q1).2
    have hn := op_nb hz hu hd ho
    have hn1 := hn.1
    have hla := c_liesAt fu r hS.1.1 hz hn1 (d := pg s p 2) (by omega) (by omega)
    rw [op_off hz hu hd ho, if_neg hph]
    simp (disch := omega) only [zi_lit, zl_lit, zi_add, zi_sub, zi_mul, zi_neg, zi_lt, zi_inj, zi_clamp, zl_of, gi_zi, bd_s, ltf, bi_0, bi_1, gb_bi, Int.reduceToNat, Int.reduceNeg, Int.toNat_natCast, hRP.2.1, hla, hS.2.1.2.1, c_sum]
    rw [if_neg (by omega), if_pos (by omega)]
    cases c2 : sdB s p (nbr u d) with
    | true =>
      have c3 : atS s (xo (nbr u d)) (yo (nbr u d)) (pg s p 2) = true := c2
      rw [if_neg (by rw [c3]; decide)]
      refine ⟨mem, ?_, hS, fun j hj => ?_, Fr_rf _ mem⟩
      · rw [eA, show arU s p num N u d = tTw s p num N u d by unfold arU; rw [c2]; rfl]
        rfl
      · rw [eF, show nxU s p num N j u d = 0 by unfold nxU; rw [c2]; rfl]
        exact hN j hj
    | false =>
      have c3 : atS s (xo (nbr u d)) (yo (nbr u d)) (pg s p 2) = false := c2
      rw [if_pos c3]
      have i1 : ((nbr u d : Int) * 5 + (d : Int)).toNat = 5 * nbr u d + d := by omega
      rw [i1]
      refine ⟨mw mem (pBW y) (5 * nbr u d + d) (zi (ph (tTw s p num N u d) : Int)), ?_, STw_y hS, fun j hj => ?_, Fr_mw _ _ (by simp)⟩
      · rw [eA, show arU s p num N u d = 0 by unfold arU; rw [c2]; rfl]
        rfl
      · rw [rd_mw, eF]
        by_cases q2 : j = 5 * nbr u d + d
        · rw [if_pos ⟨rfl, q2⟩, q2, fP_0 hz hd q1, Nat.zero_add, show nxU s p num N (5 * nbr u d + d) u d = tTw s p num N u d by unfold nxU; rw [c2, decide_eq_true rfl]; rfl]
        · rw [if_neg (fun h => q2 h.2), show nxU s p num N j u d = 0 by unfold nxU; rw [decide_eq_false (fun h => q2 h.symm), Bool.and_false]; rfl]
          exact hN j hj
theorem c_g71 (fu r : Nat) (hfu : 1000 ≤ fu) {s : Nat → Int} (hz : szO s) (hc : cnO s) {p : Nat} (hps : (p : Int) < s 2) (hpn : pnO s p) (k36 : Nat → Int32 → Int32 → Int32 → Mem → Option (Int32 × Mem)) {num : Int} {N : Nat → Nat} {x y x5 : Int32} {u : Nat} (hu : u < 81) : ∀ (q n d : Nat) (mem : Mem), d + q = 4 → q < n → STw mem r s p x y N → NXc mem s p num N y u d → ∃ mem2, K_X1_goOn_71 fu r k36 n p x5 (zi (ph (aPw s p num N u d) : Int)) (zi (u : Int)) (msk (fun e => frB s p num u e)) (zi (d : Int)) mem = k36 p x5 (zi (ph (aPw s p num N (u + 1) 0) : Int)) (zi ((u + 1 : Nat) : Int)) mem2 ∧ STw mem2 r s p x y N ∧ NXc mem2 s p num N y (u + 1) 0 ∧ Fr (fun k _ => k == pBW y) mem mem2 := by
  intro q
  induction q with
  | zero =>
    intro n d mem hd hn hS hN
    obtain ⟨n, rfl⟩ : ∃ f, n = f + 1 := ⟨n - 1, by omega⟩
    obtain rfl : d = 4 := by omega
    rw [K_X1_goOn_71]
    simp (disch := omega) only [zi_lit, zl_lit, zi_add, zi_sub, zi_mul, zi_neg, zi_lt, zi_inj, zi_clamp, zl_of, gi_zi, bd_s, ltf, bi_0, bi_1, gb_bi, Int.reduceToNat, Int.reduceNeg, Int.toNat_natCast]
    rw [if_neg (by decide)]
    exact ⟨mem, rfl, hS, hN, Fr_rf _ mem⟩
  | succ q ih =>
    intro n d mem hd hn hS hN
    obtain ⟨n, rfl⟩ : ∃ f, n = f + 1 := ⟨n - 1, by omega⟩
    have hd4 : d < 4 := by omega
    obtain ⟨m1, a1, a2, a3, a4⟩ := c_g99 fu r hz hc hps hpn k36 (K_X1_goOn_71 fu r k36 n) (x5 := x5) (x8 := msk (fun e => frB s p num u e)) hu hd4 hS hN
    obtain ⟨m2, b1, b2, b3, b4⟩ := ih n (d + 1) m1 (by omega) (by omega) a2 a3
    rw [K_X1_goOn_71]
    simp (disch := omega) only [zi_lit, zl_lit, zi_add, zi_sub, zi_mul, zi_neg, zi_lt, zi_inj, zi_clamp, zl_of, gi_zi, bd_s, ltf, bi_0, bi_1, gb_bi, Int.reduceToNat, Int.reduceNeg, Int.toNat_natCast, msk_bit _ hd4]
    rw [if_pos (by omega)]
    refine ⟨m2, ?_, b2, b3, Fr_tr a4 b4⟩
    cases c1 : frB s p num u d with
    | false =>
      rw [tT_no c1] at a1
      rw [if_pos rfl]
      exact a1.trans b1
    | true =>
      have h5 := c_wt5 fu hS.2.1 hS.2.2.1 hS.2.2.2 hu hd4 c1 5 fu 0 (by omega) (by omega)
      have h6 : K_X1_waysThat fu (zi (u : Int)) (zi (d : Int)) mem = some (zi (ph (tTw s p num N u d) : Int)) := h5
      rw [if_neg (by decide), h6]
      exact a1.trans b1
theorem c_g36 (fu r : Nat) (hfu : 1000 ≤ fu) {s : Nat → Int} (hz : szO s) (hc : cnO s) {p : Nat} (hps : (p : Int) < s 2) (hpn : pnO s p) {num : Int} {N : Nat → Nat} {x y : Int32} : ∀ (q n u : Nat) (mem : Mem), u + q = 81 → q < n → STw mem r s p x y N → NXc mem s p num N y u 0 → ∃ mem2, K_X1_goOn_36 fu r n p (msk (fun d => bN s p num d (s 6).toNat)) (zi (ph (aPw s p num N u 0) : Int)) (zi (u : Int)) mem = some (zi (ph (arW s p num N) : Int), mem2) ∧ STw mem2 r s p y x (nxW s p num N) ∧ Fr PWb mem mem2 := by
  intro q
  induction q with
  | zero =>
    intro n u mem hu hn hS hN
    obtain ⟨n, rfl⟩ : ∃ f, n = f + 1 := ⟨n - 1, by omega⟩
    obtain rfl : u = 81 := by omega
    obtain ⟨h1, h2, h3, h4⟩ := hS
    have f : Fr PWb mem (mw (mw mem 28 0 y) 28 1 x) := Fr_tr (Fr_mw _ _ rfl) (Fr_mw _ _ rfl)
    have nb : pBW y ≠ 28 := by
      rcases pBW_c y with h | h <;> rw [h] <;> decide
    rw [K_X1_goOn_36]
    simp (disch := omega) only [zi_lit, zl_lit, zi_add, zi_sub, zi_mul, zi_neg, zi_lt, zi_inj, zi_clamp, zl_of, gi_zi, bd_s, ltf, bi_0, bi_1, gb_bi, Int.reduceToNat, Int.reduceNeg, Int.toNat_natCast, h2.1, h2.2.1]
    have eA : aPw s p num N 81 0 = arW s p num N := show sg (fun a => sg (arU s p num N a) 4) 81 + 0 = arW s p num N from Nat.add_zero _
    have eF : ∀ j, fPw s p num N j 81 0 = nxW s p num N j := fun j => show sg (fun a => sg (nxU s p num N j a) 4) 81 + 0 = nxW s p num N j from Nat.add_zero _
    rw [if_neg (by decide), eA]
    refine ⟨_, rfl, ⟨RC_fr f PWb_35 h1, ⟨?_, ?_, h2.2.2.symm⟩, ⟨fun c hc => ?_, fun l hl => ?_⟩, fun j hj => ?_⟩, f⟩
    · rw [rd_mw, if_neg (by decide), rd_mw, if_pos ⟨rfl, rfl⟩]
    · rw [rd_mw, if_pos ⟨rfl, rfl⟩]
    · rw [rd_mw, if_neg (fun h => absurd h.1 (by decide)), rd_mw, if_neg (fun h => absurd h.1 (by decide))]
      exact h3.1 c hc
    · rw [rd_mw, if_neg (fun h => absurd h.1 (by decide)), rd_mw, if_neg (fun h => absurd h.1 (by decide))]
      exact h3.2 l hl
    · rw [rd_mw, if_neg (fun h => nb h.1), rd_mw, if_neg (fun h => nb h.1)]
      rw [← eF]
      exact hN j hj
  | succ q ih =>
    intro n u mem hu hn hS hN
    obtain ⟨n, rfl⟩ : ∃ f, n = f + 1 := ⟨n - 1, by omega⟩
    have hu81 : u < 81 := by omega
    have e1 := hS.1.1.2.2.2.2 u hu81
    have e2 := hS.2.2.1.1 u hu81
    obtain ⟨m1, a1, a2, a3, a4⟩ := c_g71 fu r hfu hz hc hps hpn (K_X1_goOn_36 fu r n) (num := num) (x5 := msk (fun d => bN s p num d (s 6).toNat)) hu81 4 fu 0 mem (by omega) (by omega) hS hN
    obtain ⟨m2, b1, b2, b3⟩ := ih n (u + 1) m1 (by omega) (by omega) a2 a3
    rw [K_X1_goOn_36]
    simp (disch := omega) only [zi_lit, zl_lit, zi_add, zi_sub, zi_mul, zi_neg, zi_lt, zi_inj, zi_clamp, zl_of, gi_zi, bd_s, ltf, bi_0, bi_1, gb_bi, Int.reduceToNat, Int.reduceNeg, Int.toNat_natCast, e1, e2, msk_or2, msk_andn]
    rw [if_pos (by omega)]
    exact ⟨m2, a1.trans b1, b2, Fr_tr (Fr_mono a4 (fun k j h => by
      by_cases e : k = pBW y
      · rw [e, PWb_B] at h
        cases h
      · simpa using e)) b3⟩
theorem c_goOn (fu r : Nat) (hfu : 1000 ≤ fu) {s : Nat → Int} (hz : szO s) (hc : cnO s) (hb : basO s) {p : Nat} (hps : (p : Int) < s 2) (hpn : pnO s p) {N : Nat → Nat} {x y : Int32} {n : Nat} (hn : n ≤ 1000) {mem : Mem} (hS : STw mem r s p x y N) : ∃ mem2, K_X1_goOn fu r (zi (p : Int)) (zi (n : Int)) mem = some (zi (ph (arW s p (pg s p 4 + (n : Int)) N) : Int), mem2) ∧ STw mem2 r s p y x (nxW s p (pg s p 4 + (n : Int)) N) ∧ Fr PWb mem mem2 := by
  have c1 := hc.1
  have c2 := hc.2.1
  have c4 := hc.2.2.2.1
  have h4 := hpn.2.2.2.1
  obtain ⟨m1, a1, a2, a3⟩ := c_fill fu (pBW y) 405 (zi 0) (by omega) (by omega) mem
  have f1 : Fr PWb mem m1 := Fr_mono a3 (fun k2 j h => by
    by_cases e : k2 = pBW y
    · rw [e, PWb_B] at h
      cases h
    · simpa using e)
  have nb : pBW y ≠ 28 ∧ pBW y ≠ 31 ∧ pBW y ≠ 32 := by
    rcases pBW_c y with h | h <;> rw [h] <;> decide
  have hS1 : STw m1 r s p x y N := by
    obtain ⟨h1, h2, h3, h4⟩ := hS
    refine ⟨RC_fr f1 PWb_35 h1, ⟨(a3.1 _ _ (by simpa using nb.1.symm)).trans h2.1, (a3.1 _ _ (by simpa using nb.1.symm)).trans h2.2.1, h2.2.2⟩, ⟨fun c hc => (a3.1 _ _ (by simpa using nb.2.1.symm)).trans (h3.1 c hc), fun l hl => (a3.1 _ _ (by simpa using nb.2.2.symm)).trans (h3.2 l hl)⟩, fun j hj => (a3.1 _ _ (by simpa using h2.2.2)).trans (h4 j hj)⟩
  have hRP := hS1.1.2.2.1 p (by omega) hps
  have hbb := c_bbn5 fu r hc hb hS1.1 (p := (p : Int)) (num := pg s p 4 + (n : Int)) (by omega) (by omega) (s 6).toNat fu 0 (by omega) (by omega)
  have hbb' : K_X6_bannedByNumber fu r (zi (p : Int)) (zi (pg s p 4 + (n : Int))) m1 = some (msk (fun d => bN s p (pg s p 4 + (n : Int)) d (s 6).toNat)) := hbb
  obtain ⟨m2, b1, b2, b3⟩ := c_g36 fu r hfu hz hc hps hpn (num := pg s p 4 + (n : Int)) 81 fu 0 m1 (by omega) (by omega) hS1 (fun j hj => by
    rw [a2 j, if_pos hj]
    rfl)
  unfold K_X1_goOn
  simp (disch := omega) only [zi_lit, zl_lit, zi_add, zi_sub, zi_mul, zi_neg, zi_lt, zi_inj, zi_clamp, zl_of, gi_zi, bd_s, ltf, bi_0, bi_1, gb_bi, Int.reduceToNat, Int.reduceNeg, Int.toNat_natCast, hS.2.1.2.1, a1, hRP.2.2.2.1, hbb']
  exact ⟨m2, b1, b2, Fr_tr f1 b3⟩
/-- the marks of the two rows, either way -/
def BWok (mem : Mem) : Prop := ∃ x y, BWx mem x y
theorem c_ls22 (fu r : Nat) (hfu : 1000 ≤ fu) {s : Nat → Int} (hz : szO s) (hc : cnO s) (hb : basO s) {p : Nat} (hps : (p : Int) < s 2) (hpn : pnO s p) : ∀ (q f n : Nat) (mem : Mem) (x y : Int32), n + q = 200 → q < f → STw mem r s p x y (wkN s p n) → ∃ mem2, K_X1_leastSteps_22 fu r f (zi (p : Int)) (zi ((n + 1 : Nat) : Int)) mem = some (zi (lwF s p q n), mem2) ∧ BWok mem2 ∧ Fr PWb mem mem2 := by
  intro q
  induction q with
  | zero =>
    intro f n mem x y hn hf hS
    obtain ⟨f, rfl⟩ : ∃ g, f = g + 1 := ⟨f - 1, by omega⟩
    rw [K_X1_leastSteps_22]
    simp (disch := omega) only [zi_lit, zl_lit, zi_add, zi_sub, zi_mul, zi_neg, zi_lt, zi_inj, zi_clamp, zl_of, gi_zi, bd_s, ltf, bi_0, bi_1, gb_bi, Int.reduceToNat, Int.reduceNeg, Int.toNat_natCast]
    rw [if_pos (by omega)]
    exact ⟨mem, rfl, ⟨x, y, hS.2.1⟩, Fr_rf _ mem⟩
  | succ q ih =>
    intro f n mem x y hn hf hS
    obtain ⟨f, rfl⟩ : ∃ g, f = g + 1 := ⟨f - 1, by omega⟩
    obtain ⟨m1, a1, a2, a3⟩ := c_goOn fu r hfu hz hc hb hps hpn (n := n) (by omega) hS
    obtain ⟨m2, b1, b2, b3⟩ := ih f (n + 1) m1 y x (by omega) (by omega) a2
    have hle := ph_le (arW s p (pg s p 4 + (n : Int)) (wkN s p n))
    rw [K_X1_leastSteps_22]
    simp (disch := omega) only [zi_lit, zl_lit, zi_add, zi_sub, zi_mul, zi_neg, zi_lt, zi_inj, zi_clamp, zl_of, gi_zi, bd_s, ltf, bi_0, bi_1, gb_bi, Int.reduceToNat, Int.reduceNeg, Int.toNat_natCast, show ((n + 1 : Nat) : Int) - 1 = (n : Int) by omega, a1]
    rw [if_neg (by omega), lwF]
    have e : wkA s p (n + 1) = arW s p (pg s p 4 + (n : Int)) (wkN s p n) := rfl
    by_cases c1 : wkA s p (n + 1) = 0
    · rw [if_pos c1]
      rw [e] at c1
      rw [c1, show ((ph 0 : Nat) : Int) = 0 from rfl, if_pos rfl]
      exact ⟨m2, b1, b2, Fr_tr a3 b3⟩
    · rw [if_neg c1]
      rw [e] at c1
      rw [if_neg (fun h => c1 ((ph_0 _).mp (by omega)))]
      exact ⟨m1, rfl, ⟨y, x, a2.2.1⟩, a3⟩
theorem c_leastSteps (fu r : Nat) (hfu : 1000 ≤ fu) {s : Nat → Int} (hz : szO s) (hc : cnO s) (hb : basO s) {p : Nat} (hps : (p : Int) < s 2) (hpn : pnO s p) {mem : Mem} (hR : RC mem r s) (hB : BWok mem) : ∃ mem2, K_X1_leastSteps fu r (zi (p : Int)) mem = some (zi (lwS s p), mem2) ∧ BWok mem2 ∧ Fr PWb mem mem2 := by
  have c1 := hc.1
  have c4 := hc.2.2.2.1
  have c5 := hc.2.2.2.2.1
  have h6 := hpn.2.2.2.2.2.1
  obtain ⟨x, y, hB⟩ := hB
  have hRP := hR.2.2.1 p (by omega) hps
  unfold K_X1_leastSteps lwS
  simp (disch := omega) only [zi_lit, zl_lit, zi_add, zi_sub, zi_mul, zi_neg, zi_lt, zi_inj, zi_clamp, zl_of, gi_zi, bd_s, ltf, bi_0, bi_1, gb_bi, Int.reduceToNat, Int.reduceNeg, Int.toNat_natCast, hRP.2.2.2.2.2]
  by_cases q1 : pg s p 6 = 0
  · rw [if_pos q1, if_neg (by omega)]
    obtain ⟨m1, a1, a2, a3, a4, a5, a6⟩ := c_begin fu r hfu hz hc hb hps hpn hR hB
    obtain ⟨m2, b1, b2, b3⟩ := c_ls22 fu r hfu hz hc hb hps hpn 200 fu 0 m1 x y (by omega) (by omega) ⟨a2, a4, a3, a5⟩
    rw [a1]
    exact ⟨m2, b1, b2, Fr_tr a6 b3⟩
  · rw [if_neg q1, if_pos (by omega)]
    exact ⟨mem, rfl, ⟨x, y, hB⟩, Fr_rf _ mem⟩
theorem c_cw34 (fu r : Nat) (hfu : 1000 ≤ fu) {s : Nat → Int} (hz : szO s) (hc : cnO s) (hb : basO s) {p : Nat} (hps : (p : Int) < s 2) (hpn : pnO s p) {tot : Nat} (htot : tot ≤ 200) : ∀ (q f n : Nat) (mem : Mem) (x y : Int32), n + q = tot → q < f → STw mem r s p x y (wkN s p n) → ∃ mem2, K_X1_countWays_34 fu r f (zi (p : Int)) (zi (tot : Int)) (zi (ph (wkA s p n) : Int)) (zi (n : Int)) mem = some (zi ((wkA s p tot % 1000003 : Nat) : Int), mem2) ∧ BWok mem2 ∧ Fr PWb mem mem2 := by
  intro q
  induction q with
  | zero =>
    intro f n mem x y hn hf hS
    obtain ⟨f, rfl⟩ : ∃ g, f = g + 1 := ⟨f - 1, by omega⟩
    obtain rfl : n = tot := by omega
    have hle := ph_le (wkA s p n)
    have hm := ph_mod (wkA s p n)
    rw [K_X1_countWays_34]
    simp (disch := omega) only [zi_mod, zi_lit, zl_lit, zi_add, zi_sub, zi_mul, zi_neg, zi_lt, zi_inj, zi_clamp, zl_of, gi_zi, bd_s, ltf, bi_0, bi_1, gb_bi, Int.reduceToNat, Int.reduceNeg, Int.toNat_natCast]
    rw [if_neg (by omega)]
    refine ⟨mem, ?_, ⟨x, y, hS.2.1⟩, Fr_rf _ mem⟩
    rw [← hm]
    rfl
  | succ q ih =>
    intro f n mem x y hn hf hS
    obtain ⟨f, rfl⟩ : ∃ g, f = g + 1 := ⟨f - 1, by omega⟩
    obtain ⟨m1, a1, a2, a3⟩ := c_goOn fu r hfu hz hc hb hps hpn (n := n) (by omega) hS
    obtain ⟨m2, b1, b2, b3⟩ := ih f (n + 1) m1 y x (by omega) (by omega) a2
    rw [K_X1_countWays_34]
    simp (disch := omega) only [zi_lit, zl_lit, zi_add, zi_sub, zi_mul, zi_neg, zi_lt, zi_inj, zi_clamp, zl_of, gi_zi, bd_s, ltf, bi_0, bi_1, gb_bi, Int.reduceToNat, Int.reduceNeg, Int.toNat_natCast, a1]
    rw [if_pos (by omega)]
    exact ⟨m2, b1, b2, Fr_tr a3 b3⟩
def wwS (s : Nat → Int) (p : Int) (n : Nat) : Int := if 0 < pg s p 6 then (if n = 0 then 1 else 0) else ((wkA s p n % 1000003 : Nat) : Int)
theorem c_bwCount (fu r : Nat) (hfu : 1000 ≤ fu) {s : Nat → Int} (hz : szO s) (hc : cnO s) (hb : basO s) {p : Nat} (hps : (p : Int) < s 2) (hpn : pnO s p) {tot : Nat} (htot : tot ≤ 200) {mem : Mem} (hR : RC mem r s) (hB : BWok mem) : ∃ mem2, K_X1_countWays fu r (zi (p : Int)) (zi (tot : Int)) mem = some (zi (wwS s p tot), mem2) ∧ BWok mem2 ∧ Fr PWb mem mem2 := by
  have c1 := hc.1
  have c4 := hc.2.2.2.1
  have c5 := hc.2.2.2.2.1
  have h6 := hpn.2.2.2.2.2.1
  obtain ⟨x, y, hB⟩ := hB
  have hRP := hR.2.2.1 p (by omega) hps
  unfold K_X1_countWays wwS
  simp (disch := omega) only [zi_lit, zl_lit, zi_add, zi_sub, zi_mul, zi_neg, zi_lt, zi_inj, zi_clamp, zl_of, gi_zi, bd_s, ltf, bi_0, bi_1, gb_bi, Int.reduceToNat, Int.reduceNeg, Int.toNat_natCast, hRP.2.2.2.2.2]
  by_cases q1 : pg s p 6 = 0
  · rw [if_pos q1, if_neg (by omega)]
    obtain ⟨m1, a1, a2, a3, a4, a5, a6⟩ := c_begin fu r hfu hz hc hb hps hpn hR hB
    obtain ⟨m2, b1, b2, b3⟩ := c_cw34 fu r hfu hz hc hb hps hpn htot tot fu 0 m1 x y (by omega) (by omega) ⟨a2, a4, a3, a5⟩
    rw [a1]
    exact ⟨m2, b1, b2, Fr_tr a6 b3⟩
  · rw [if_neg q1, if_pos (show 0 < pg s p 6 by omega)]
    refine ⟨mem, ?_, ⟨x, y, hB⟩, Fr_rf _ mem⟩
    by_cases q2 : (tot : Int) = 0
    · rw [if_pos q2, if_pos (by omega)]
    · rw [if_neg q2, if_neg (by omega)]
end BANWC
