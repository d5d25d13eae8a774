section BANWM
def aRw (s : Nat → Int) (p num : Int) (N : Nat → Nat) (k d : Nat) : Nat := if sdB s p (nbr (k / 5) d) = true then cbT s p num N (k / 5) (k % 5) d else 0
def nRw (s : Nat → Int) (p num : Int) (N : Nat → Nat) (j k d : Nat) : Nat := if (!sdB s p (nbr (k / 5) d) && decide (5 * nbr (k / 5) d + d = j)) = true then cbT s p num N (k / 5) (k % 5) d else 0
theorem sg_if (c : Bool) (f : Nat → Nat) (n : Nat) : sg (fun l => if c = true then f l else 0) n = if c = true then sg f n else 0 := by
  cases c with
  | true => rfl
  | false => exact sg_0 (fun _ _ => rfl)
theorem aR_W (s : Nat → Int) (p num : Int) (N : Nat → Nat) : sg (fun k => sg (aRw s p num N k) 4) 405 = arW s p num N := by
  rw [show 405 = 5 * 81 from rfl, sg_5]
  refine sg_cg (fun u hu => ?_)
  have h : sg (fun l => sg (aRw s p num N (5 * u + l)) 4) 5 = sg (fun l => sg (fun d => if sdB s p (nbr u d) = true then cbT s p num N u l d else 0) 4) 5 := sg_cg (fun l hl => sg_cg (fun d hd => by
    unfold aRw
    rw [show (5 * u + l) / 5 = u by omega, show (5 * u + l) % 5 = l by omega]))
  rw [h, sg_54]
  exact sg_cg (fun d hd => sg_if _ _ 5)
theorem nR_W (s : Nat → Int) (p num : Int) (N : Nat → Nat) (j : Nat) : sg (fun k => sg (nRw s p num N j k) 4) 405 = nxW s p num N j := by
  rw [show 405 = 5 * 81 from rfl, sg_5]
  refine sg_cg (fun u hu => ?_)
  have h : sg (fun l => sg (nRw s p num N j (5 * u + l)) 4) 5 = sg (fun l => sg (fun d => if (!sdB s p (nbr u d) && decide (5 * nbr u d + d = j)) = true then cbT s p num N u l d else 0) 4) 5 := sg_cg (fun l hl => sg_cg (fun d hd => by
    unfold nRw
    rw [show (5 * u + l) / 5 = u by omega, show (5 * u + l) % 5 = l by omega]))
  rw [h, sg_54]
  exact sg_cg (fun d hd => sg_if _ _ 5)
def WRm (mem : Mem) (N : Nat → Nat) : Prop := ∀ k, k < 405 → rd mem 14 k = zi (bi (decide (N k ≠ 0))) ∧ rd mem 12 k = zi ((N k % 1000003 : Nat) : Int)
def NXm (mem : Mem) (E : Nat → Nat) : Prop := ∀ k, k < 405 → rd mem 15 k = zi (bi (decide (E k ≠ 0))) ∧ rd mem 13 k = zi ((E k % 1000003 : Nat) : Int)
def ARm (mem : Mem) (A : Nat) : Prop := rd mem 0 34 = zi ((A % 1000003 : Nat) : Int) ∧ rd mem 0 35 = zi (bi (decide (A ≠ 0)))
def PWm (k j : Nat) : Bool := k == 13 || (k == 15 || (k == 0 && (j == 34 || j == 35)))
/-- where ways are, there is a cell -/
def NCl (s : Nat → Int) (N : Nat → Nat) : Prop := ∀ k, k < 405 → N k ≠ 0 → isCl s (xo (k / 5)) (yo (k / 5)) = true
theorem cb_0 {s : Nat → Int} {p num : Int} {N : Nat → Nat} {u l d : Nat} (h : (frB s p num u d && !blB s p l d) = false) : cbT s p num N u l d = 0 := by
  unfold cbT
  rw [h]
  rfl
theorem m_wo33 (fu : Nat) (hfu : 1000 ≤ fu) {s : Nat → Int} (hz : szO s) (hW : wlO s) (hc : cnO s) (hb : basO s) {p : Nat} (hps : (p : Int) < s 2) (hpn : pnO s p) {num : Int} (hnum : 0 ≤ num ∧ num ≤ 10000) {N E : Nat → Nat} {A k d : Nat} (hk : k < 405) (hd : d < 4) (hNk : N k ≠ 0) (hcl : isCl s (xo (k / 5)) (yo (k / 5)) = true) {mem : Mem} (hS : MS mem s) (h27 : rd mem 0 27 = zi (p : Int)) (hN : WRm mem N) (hE : NXm mem E) (hA : ARm mem A) : ∃ mem2, K_X12_walksOn_33 fu (zi (p : Int)) (zi (k : Int)) (zi num) (zi (d : Int)) (zi ((k / 5 : Nat) : Int)) (zi (xo (k / 5))) (zi (yo (k / 5))) (zi (latI (k % 5))) mem = some mem2 ∧ NXm mem2 (fun j => E j + nRw s p num N j k d) ∧ ARm mem2 (A + aRw s p num N k d) ∧ Fr PWm mem mem2 := by
  have c1 := hc.1
  have c2 := hc.2.1
  have hu : k / 5 < 81 := by omega
  have hxy := xy_lt hu
  have hdd := dxy d hd
  have hside := hpn.2.1
  have hlat : -1 ≤ latI (k % 5) ∧ latI (k % 5) ≤ 3 := by
    unfold latI
    split <;> omega
  have hbk : K_X12_blocks fu (zi (xo (k / 5))) (zi (yo (k / 5))) (zi (d : Int)) mem = some (zi (bi (!op s (k / 5) d))) := by
    rw [k_blocks fu hS hz hW (by omega) (by omega) (by omega) (by omega) (by omega) (by omega)]
    unfold op
    rw [hcl, Bool.true_and, Bool.not_not]
  have hfb := m_isForb fu hfu hS hz c1.2 c2 hb h27 (by omega) (x := xo (k / 5)) (y := yo (k / 5)) (last := latI (k % 5)) (num := num) (d := d) (by omega) (by omega) hlat hnum hd
  have hal := al_fr (s := s) hb c2.1 (p := (p : Int)) (num := num) (u := k / 5) (l := k % 5) (d := d)
  obtain ⟨u, hud⟩ : ∃ u, k / 5 = u := ⟨_, rfl⟩
  obtain ⟨l, hld⟩ : ∃ l, k % 5 = l := ⟨_, rfl⟩
  have hkk : 5 * u + l = k := by omega
  unfold K_X12_walksOn_33 nRw aRw
  rw [hud] at hu hxy hcl hbk hfb hal ⊢
  rw [hld] at hlat hfb hal ⊢
  simp (disch := omega) only [zi_lit, zl_lit, zi_add, zi_sub, zi_mul, zi_neg, zi_lt, zi_inj, zi_clamp, zl_of, gi_zi, bd_s, ltf, bi_0, bi_1, gb_bi, Int.reduceToNat, Int.reduceNeg, Int.toNat_natCast, hbk, hfb, k_across, k_up, k_of fu hS]
  have nothing : cbT s p num N u l d = 0 → ∃ mem2, (some mem : Option Mem) = some mem2 ∧ NXm mem2 (fun j => E j + (if (!sdB s p (nbr u d) && decide (5 * nbr u d + d = j)) = true then cbT s p num N u l d else 0)) ∧ ARm mem2 (A + (if sdB s p (nbr u d) = true then cbT s p num N u l d else 0)) ∧ Fr PWm mem mem2 := fun h => by
    rw [h]
    refine ⟨mem, rfl, fun j hj => ?_, ?_, Fr_rf _ mem⟩
    · have e : (E j + if (!sdB s p (nbr u d) && decide (5 * nbr u d + d = j)) = true then 0 else 0) = E j := by split <;> rfl
      show rd mem 15 j = zi (bi (decide ((E j + if (!sdB s p (nbr u d) && decide (5 * nbr u d + d = j)) = true then 0 else 0) ≠ 0))) ∧ rd mem 13 j = zi (((E j + if (!sdB s p (nbr u d) && decide (5 * nbr u d + d = j)) = true then 0 else 0) % 1000003 : Nat) : Int)
      rw [e]
      exact hE j hj
    · have e : (A + if sdB s p (nbr u d) = true then 0 else 0) = A := by split <;> rfl
      rw [e]
      exact hA
  cases ho : op s u d with
  | false =>
    rw [ho, Bool.false_and] at hal
    rw [if_neg (show ¬ (!false) = false by decide)]
    exact nothing (cb_0 hal.symm)
  | true =>
    rw [if_pos (show (!true) = false from rfl)]
    cases hf : fbB s p (xo u) (yo u) (latI l) num d with
    | true =>
      rw [ho, hf] at hal
      rw [if_neg (show ¬ true = false by decide)]
      exact nothing (cb_0 hal.symm)
    | false =>
      rw [ho, hf] at hal
      rw [if_pos (show false = false from rfl)]
      have hcb : cbT s p num N u l d = N k := by
        unfold cbT
        rw [← hal, hkk]
        rfl
      have hn := op_nb hz hu hd ho
      have hn1 := hn.1
      have hxn := xy_lt hn1
      have hoff := op_off hz hu hd ho
      rw [← hn.2.2.1, ← hn.2.2.2.1]
      simp (disch := omega) only [zi_lit, zl_lit, zi_add, zi_sub, zi_mul, zi_neg, zi_lt, zi_inj, zi_clamp, zl_of, gi_zi, bd_s, ltf, bi_0, bi_1, gb_bi, Int.reduceToNat, Int.reduceNeg, Int.toNat_natCast, k_isAtSide fu hS hz]
      have hNm := (hN k hk).2
      have a34 := hA.1
      rw [hcb]
      cases hs : sdB s p (nbr u d) with
      | true =>
        have hs2 : atS s (xo (nbr u d)) (yo (nbr u d)) (pg s p 2) = true := hs
        rw [if_neg (by rw [hs2]; decide)]
        have r34 : rd (mw mem 0 35 (zi 1)) 0 34 = zi ((A % 1000003 : Nat) : Int) := by
          rw [rd_mw, if_neg (by decide)]
          exact a34
        have r12 : rd (mw mem 0 35 (zi 1)) 12 k = zi ((N k % 1000003 : Nat) : Int) := by
          rw [rd_mw, if_neg (fun h => absurd h.1 (by decide))]
          exact hNm
        simp (disch := omega) only [zi_mod, zi_lit, zl_lit, zi_add, zi_sub, zi_mul, zi_neg, zi_lt, zi_inj, zi_clamp, zl_of, gi_zi, bd_s, ltf, bi_0, bi_1, gb_bi, Int.reduceToNat, Int.reduceNeg, Int.toNat_natCast, r34, r12]
        refine ⟨_, rfl, fun j hj => ?_, ⟨?_, ?_⟩, Fr_tr (Fr_mw _ _ rfl) (Fr_mw _ _ rfl)⟩
        · rw [rd_mw, if_neg (fun h => absurd h.1 (by decide)), rd_mw, if_neg (fun h => absurd h.1 (by decide)), rd_mw, if_neg (fun h => absurd h.1 (by decide)), rd_mw, if_neg (fun h => absurd h.1 (by decide))]
          exact hE j hj
        · rw [rd_mw, if_pos ⟨rfl, rfl⟩, if_pos trivial]
          exact congrArg zi (by omega)
        · rw [rd_mw, if_neg (by decide), rd_mw, if_pos ⟨rfl, rfl⟩, if_pos trivial, decide_eq_true (show A + N k ≠ 0 by omega)]
          rfl
      | false =>
        have hs2 : atS s (xo (nbr u d)) (yo (nbr u d)) (pg s p 2) = false := hs
        rw [if_pos hs2]
        obtain ⟨t, ht⟩ : ∃ t, t = 5 * nbr u d + d := ⟨_, rfl⟩
        have et : 5 * ((u : Int) + 9 * dy (d : Int) + dx (d : Int)) + (d : Int) = (t : Int) := by omega
        rw [et]
        have ht4 : t < 405 := by omega
        have hEt := hE t ht4
        have r13 : rd (mw mem 15 t (zi 1)) 13 t = zi ((E t % 1000003 : Nat) : Int) := by
          rw [rd_mw, if_neg (fun h => absurd h.1 (by decide))]
          exact hEt.2
        have r12 : rd (mw mem 15 t (zi 1)) 12 k = zi ((N k % 1000003 : Nat) : Int) := by
          rw [rd_mw, if_neg (fun h => absurd h.1 (by decide))]
          exact hNm
        simp (disch := omega) only [zi_mod, zi_lit, zl_lit, zi_add, zi_sub, zi_mul, zi_neg, zi_lt, zi_inj, zi_clamp, zl_of, gi_zi, bd_s, ltf, bi_0, bi_1, gb_bi, Int.reduceToNat, Int.reduceNeg, Int.toNat_natCast, nar1, r13, r12]
        refine ⟨_, rfl, fun j hj => ⟨?_, ?_⟩, ⟨?_, ?_⟩, Fr_tr (Fr_mw _ _ rfl) (Fr_mw _ _ rfl)⟩
        · rw [rd_mw, if_neg (fun h => absurd h.1 (by decide)), rd_mw]
          show _ = zi (bi (decide ((E j + if (!false && decide (5 * nbr u d + d = j)) = true then N k else 0) ≠ 0)))
          by_cases q : j = t
          · rw [if_pos ⟨rfl, q⟩, if_pos (by rw [decide_eq_true (by omega)]; rfl), decide_eq_true (show E j + N k ≠ 0 by omega)]
            rfl
          · rw [if_neg (fun h => q h.2), if_neg (by rw [decide_eq_false (by omega)]; decide), Nat.add_zero]
            exact (hE j hj).1
        · rw [rd_mw]
          show _ = zi (((E j + if (!false && decide (5 * nbr u d + d = j)) = true then N k else 0) % 1000003 : Nat) : Int)
          by_cases q : j = t
          · rw [if_pos ⟨rfl, q⟩, if_pos (by rw [decide_eq_true (by omega)]; rfl), q]
            exact congrArg zi (by omega)
          · rw [if_neg (fun h => q h.2), rd_mw, if_neg (fun h => absurd h.1 (by decide)), if_neg (by rw [decide_eq_false (by omega)]; decide), Nat.add_zero]
            exact (hE j hj).2
        · rw [rd_mw, if_neg (fun h => absurd h.1 (by decide)), rd_mw, if_neg (fun h => absurd h.1 (by decide))]
          exact a34
        · rw [rd_mw, if_neg (fun h => absurd h.1 (by decide)), rd_mw, if_neg (fun h => absurd h.1 (by decide))]
          exact hA.2
theorem WRm_o {mem m2 : Mem} {N : Nat → Nat} (h : WRm mem N) (f : Fr PWm mem m2) : WRm m2 N := fun k hk => ⟨(f.1 _ _ rfl).trans (h k hk).1, (f.1 _ _ rfl).trans (h k hk).2⟩
theorem m_wo (fu : Nat) (hfu : 1000 ≤ fu) {s : Nat → Int} (hz : szO s) (hW : wlO s) (hc : cnO s) (hb : basO s) {p : Nat} (hps : (p : Int) < s 2) (hpn : pnO s p) {num : Int} (hnum : 0 ≤ num ∧ num ≤ 10000) {N E : Nat → Nat} {A k d : Nat} (hk : k < 405) (hd : d < 4) (hNk : N k ≠ 0) (hcl : isCl s (xo (k / 5)) (yo (k / 5)) = true) {mem : Mem} (hS : MS mem s) (h27 : rd mem 0 27 = zi (p : Int)) (hN : WRm mem N) (hE : NXm mem E) (hA : ARm mem A) : ∃ mem2, K_X12_walksOn fu (zi (p : Int)) (zi (k : Int)) (zi num) (zi (d : Int)) mem = some mem2 ∧ NXm mem2 (fun j => E j + nRw s p num N j k d) ∧ ARm mem2 (A + aRw s p num N k d) ∧ Fr PWm mem mem2 := by
  obtain ⟨m2, a1, a2, a3, a4⟩ := m_wo33 fu hfu hz hW hc hb hps hpn hnum hk hd hNk hcl hS h27 hN hE hA
  refine ⟨m2, ?_, a2, a3, a4⟩
  have e1 : zi (k : Int) / zi 5 = zi ((k / 5 : Nat) : Int) := by
    rw [zi_div (by omega) (by omega) (by omega) (by omega)]
    exact congrArg zi (by omega)
  have e2 : zi ((k / 5 : Nat) : Int) - zi ((k / 5 : Nat) : Int) / zi 9 * zi 9 = zi (xo (k / 5)) := by
    rw [zi_mod (by omega) (by omega) (by omega) (by omega)]
    rfl
  have e3 : zi ((k / 5 : Nat) : Int) / zi 9 = zi (yo (k / 5)) := by
    rw [zi_div (by omega) (by omega) (by omega) (by omega)]
    rfl
  have e4 : zi (k : Int) - zi ((k / 5 : Nat) : Int) * zi 5 = zi ((k % 5 : Nat) : Int) := by
    rw [zi_mul, zi_sub]
    exact congrArg zi (by omega)
  unfold K_X12_walksOn
  rw [show (5 : Int32) = zi 5 from rfl, show (9 : Int32) = zi 9 from rfl, e1, ltf, e2, ltf, e3, ltf, e4, ltf, ltf]
  by_cases c1 : k % 5 = 4
  · have hl : latI (k % 5) = -1 := if_pos c1
    rw [hl] at a1
    rw [if_pos (by rw [c1]; rfl)]
    rw [c1] at *
    exact a1
  · have hl : latI (k % 5) = ((k % 5 : Nat) : Int) := if_neg c1
    rw [hl] at a1
    rw [if_neg (by rw [show (4 : Int32) = zi 4 from rfl, zi_inj (by omega) (by omega) (by omega) (by omega)]; omega)]
    exact a1
/-- all that the walk has in its hands -/
def WST (mem : Mem) (s : Nat → Int) (p : Int) (N E : Nat → Nat) (A : Nat) : Prop := MS mem s ∧ rd mem 0 27 = zi p ∧ WRm mem N ∧ NXm mem E ∧ ARm mem A
theorem m_w60 (fu : Nat) (hfu : 1000 ≤ fu) {s : Nat → Int} (hz : szO s) (hW : wlO s) (hc : cnO s) (hb : basO s) {p : Nat} (hps : (p : Int) < s 2) (hpn : pnO s p) {num : Int} (hnum : 0 ≤ num ∧ num ≤ 10000) (k41 : Int32 → Int32 → Int32 → Mem → Option Mem) {N E : Nat → Nat} {A k : Nat} (hk : k < 405) (hNk : N k ≠ 0) (hcl : isCl s (xo (k / 5)) (yo (k / 5)) = true) : ∀ (q n d : Nat) (mem : Mem), d + q = 4 → q < n → WST mem s p N (fun j => E j + sg (nRw s p num N j k) d) (A + sg (aRw s p num N k) d) → ∃ mem2, K_X12_walks_60 fu k41 n (zi (p : Int)) (zi num) (zi (k : Int)) (zi (d : Int)) mem = k41 (zi (p : Int)) (zi num) (zi ((k + 1 : Nat) : Int)) mem2 ∧ WST mem2 s p N (fun j => E j + sg (nRw s p num N j k) 4) (A + sg (aRw s p num N k) 4) ∧ Fr PWm mem mem2 := by
  intro q
  induction q with
  | zero =>
    intro n d mem hd hn hS
    obtain ⟨n, rfl⟩ : ∃ f, n = f + 1 := ⟨n - 1, by omega⟩
    obtain rfl : d = 4 := by omega
    rw [K_X12_walks_60]
    simp (disch := omega) only [zi_lit, zl_lit, zi_add, zi_sub, zi_mul, zi_neg, zi_lt, zi_inj, zi_clamp, zl_of, gi_zi, bd_s, ltf, bi_0, bi_1, gb_bi, Int.reduceToNat, Int.reduceNeg, Int.toNat_natCast]
    rw [if_neg (by decide)]
    exact ⟨mem, rfl, hS, Fr_rf _ mem⟩
  | succ q ih =>
    intro n d mem hd hn hS
    obtain ⟨n, rfl⟩ : ∃ f, n = f + 1 := ⟨n - 1, by omega⟩
    obtain ⟨h1, h2, h3, h4, h5⟩ := hS
    obtain ⟨m1, a1, a2, a3, a4⟩ := m_wo fu hfu hz hW hc hb hps hpn hnum hk (d := d) (by omega) hNk hcl h1 h2 h3 h4 h5
    have hS1 : WST m1 s p N (fun j => E j + sg (nRw s p num N j k) (d + 1)) (A + sg (aRw s p num N k) (d + 1)) := by
      refine ⟨MS_fr a4 (fun _ => rfl) h1, (a4.1 _ _ rfl).trans h2, WRm_o h3 a4, fun j hj => ?_, ?_⟩
      · have e : E j + sg (nRw s p num N j k) (d + 1) = E j + sg (nRw s p num N j k) d + nRw s p num N j k d := by
          rw [sg, Nat.add_assoc]
        show rd m1 15 j = zi (bi (decide (E j + sg (nRw s p num N j k) (d + 1) ≠ 0))) ∧ rd m1 13 j = zi (((E j + sg (nRw s p num N j k) (d + 1)) % 1000003 : Nat) : Int)
        rw [e]
        exact a2 j hj
      · rw [sg, ← Nat.add_assoc]
        exact a3
    obtain ⟨m2, b1, b2, b3⟩ := ih n (d + 1) m1 (by omega) (by omega) hS1
    rw [K_X12_walks_60]
    simp (disch := omega) only [zi_lit, zl_lit, zi_add, zi_sub, zi_mul, zi_neg, zi_lt, zi_inj, zi_clamp, zl_of, gi_zi, bd_s, ltf, bi_0, bi_1, gb_bi, Int.reduceToNat, Int.reduceNeg, Int.toNat_natCast, a1]
    rw [if_pos (by omega)]
    exact ⟨m2, b1, b2, Fr_tr a4 b3⟩
def PW4 (k j : Nat) : Bool := PWm k j || (k == 12 || k == 14)
theorem m_w89 (fu : Nat) {E : Nat → Nat} : ∀ (q n k : Nat) (mem : Mem), k + q = 405 → q < n → NXm mem E → (∀ j, j < k → rd mem 14 j = zi (bi (decide (E j ≠ 0))) ∧ rd mem 12 j = zi ((E j % 1000003 : Nat) : Int)) → ∃ mem2, K_X12_walks_89 fu n (zi (k : Int)) mem = some mem2 ∧ WRm mem2 E ∧ Fr (fun k _ => k == 12 || k == 14) mem mem2 := by
  intro q
  induction q with
  | zero =>
    intro n k mem hk hn hE hN
    obtain ⟨n, rfl⟩ : ∃ f, n = f + 1 := ⟨n - 1, by omega⟩
    obtain rfl : k = 405 := by omega
    rw [K_X12_walks_89]
    simp (disch := omega) only [zi_lit, zl_lit, zi_add, zi_sub, zi_mul, zi_neg, zi_lt, zi_inj, zi_clamp, zl_of, gi_zi, bd_s, ltf, bi_0, bi_1, gb_bi, Int.reduceToNat, Int.reduceNeg, Int.toNat_natCast]
    rw [if_neg (by decide)]
    exact ⟨mem, rfl, hN, Fr_rf _ mem⟩
  | succ q ih =>
    intro n k mem hk hn hE hN
    obtain ⟨n, rfl⟩ : ∃ f, n = f + 1 := ⟨n - 1, by omega⟩
    have h1 := hE k (by omega)
    have enar : vp_nar .boolean (zi (bi (decide (E k ≠ 0)))) = zi (bi (decide (E k ≠ 0))) := by
      cases decide (E k ≠ 0) <;> rfl
    have r13 : rd (mw mem 14 k (zi (bi (decide (E k ≠ 0))))) 13 k = zi ((E k % 1000003 : Nat) : Int) := by
      rw [rd_mw, if_neg (fun h => absurd h.1 (by decide))]
      exact h1.2
    have f : Fr (fun k _ => k == 12 || k == 14) mem (mw (mw mem 14 k (zi (bi (decide (E k ≠ 0))))) 12 k (zi ((E k % 1000003 : Nat) : Int))) := Fr_tr (Fr_mw _ _ rfl) (Fr_mw _ _ rfl)
    obtain ⟨m2, b1, b2, b3⟩ := ih n (k + 1) _ (by omega) (by omega) (fun j hj => ⟨(f.1 _ _ rfl).trans (hE j hj).1, (f.1 _ _ rfl).trans (hE j hj).2⟩) (fun j hj => by
      rw [rd_mw, if_neg (fun h => absurd h.1 (by decide)), rd_mw, rd_mw, rd_mw]
      by_cases q1 : j = k
      · rw [if_pos ⟨rfl, q1⟩, if_pos ⟨rfl, q1⟩, q1]
        exact ⟨rfl, rfl⟩
      · rw [if_neg (fun h => q1 h.2), if_neg (fun h => q1 h.2), if_neg (fun h => absurd h.1 (by decide))]
        exact hN j (by omega))
    rw [K_X12_walks_89]
    simp (disch := omega) only [zi_lit, zl_lit, zi_add, zi_sub, zi_mul, zi_neg, zi_lt, zi_inj, zi_clamp, zl_of, gi_zi, bd_s, ltf, bi_0, bi_1, gb_bi, Int.reduceToNat, Int.reduceNeg, Int.toNat_natCast, h1.1, enar, r13]
    rw [if_pos (by omega)]
    exact ⟨m2, b1, b2, Fr_tr f b3⟩
theorem PW4_m {k j : Nat} (h : PW4 k j = false) : PWm k j = false := by
  unfold PW4 at h
  rw [Bool.or_eq_false_iff] at h
  exact h.1
theorem PW4_c {k j : Nat} (h : PW4 k j = false) : (k == 12 || k == 14) = false := by
  unfold PW4 at h
  rw [Bool.or_eq_false_iff] at h
  exact h.2
theorem m_w41 (fu : Nat) (hfu : 1000 ≤ fu) {s : Nat → Int} (hz : szO s) (hW : wlO s) (hc : cnO s) (hb : basO s) {p : Nat} (hps : (p : Int) < s 2) (hpn : pnO s p) {num : Int} (hnum : 0 ≤ num ∧ num ≤ 10000) {N : Nat → Nat} (hcl : NCl s N) : ∀ (q n k : Nat) (mem : Mem), k + q = 405 → q < n → WST mem s p N (fun j => sg (fun a => sg (nRw s p num N j a) 4) k) (sg (fun a => sg (aRw s p num N a) 4) k) → ∃ mem2, K_X12_walks_41 fu n (zi (p : Int)) (zi num) (zi (k : Int)) mem = some mem2 ∧ MS mem2 s ∧ rd mem2 0 27 = zi (p : Int) ∧ WRm mem2 (nxW s p num N) ∧ ARm mem2 (arW s p num N) ∧ Fr PW4 mem mem2 := by
  intro q
  induction q with
  | zero =>
    intro n k mem hk hn hS
    obtain ⟨n, rfl⟩ : ∃ f, n = f + 1 := ⟨n - 1, by omega⟩
    obtain rfl : k = 405 := by omega
    obtain ⟨h1, h2, h3, h4, h5⟩ := hS
    obtain ⟨m2, a1, a2, a3⟩ := m_w89 fu (E := nxW s p num N) 405 fu 0 mem (by omega) (by omega) (fun j hj => by
      have := h4 j hj
      rw [show (fun j => sg (fun a => sg (nRw s p num N j a) 4) 405) j = nxW s p num N j from nR_W s p num N j] at this
      exact this) (fun j hj => absurd hj (Nat.not_lt_zero j))
    rw [K_X12_walks_41]
    simp (disch := omega) only [zi_lit, zl_lit, zi_add, zi_sub, zi_mul, zi_neg, zi_lt, zi_inj, zi_clamp, zl_of, gi_zi, bd_s, ltf, bi_0, bi_1, gb_bi, Int.reduceToNat, Int.reduceNeg, Int.toNat_natCast]
    rw [if_neg (by decide)]
    refine ⟨m2, a1, MS_fr a3 (fun _ => rfl) h1, (a3.1 _ _ rfl).trans h2, a2, ?_, Fr_mono a3 (fun _ _ => PW4_c)⟩
    rw [aR_W] at h5
    exact ⟨(a3.1 _ _ rfl).trans h5.1, (a3.1 _ _ rfl).trans h5.2⟩
  | succ q ih =>
    intro n k mem hk hn hS
    obtain ⟨n, rfl⟩ : ∃ f, n = f + 1 := ⟨n - 1, by omega⟩
    obtain ⟨h1, h2, h3, h4, h5⟩ := hS
    have hk4 : k < 405 := by omega
    rw [K_X12_walks_41]
    simp (disch := omega) only [zi_lit, zl_lit, zi_add, zi_sub, zi_mul, zi_neg, zi_lt, zi_inj, zi_clamp, zl_of, gi_zi, bd_s, ltf, bi_0, bi_1, gb_bi, Int.reduceToNat, Int.reduceNeg, Int.toNat_natCast, (h3 k hk4).1]
    rw [if_pos (by omega)]
    by_cases c1 : N k = 0
    · rw [if_pos (by rw [decide_eq_false (fun h => h c1)])]
      have hcb : ∀ d, cbT s p num N (k / 5) (k % 5) d = 0 := fun d => by
        unfold cbT
        rw [show 5 * (k / 5) + k % 5 = k by omega, c1]
        split <;> rfl
      have eA : sg (aRw s p num N k) 4 = 0 := sg_0 (fun d _ => by
        unfold aRw
        rw [hcb]
        split <;> rfl)
      have eN : ∀ j, sg (nRw s p num N j k) 4 = 0 := fun j => sg_0 (fun d _ => by
        unfold nRw
        rw [hcb]
        split <;> rfl)
      exact ih n (k + 1) mem (by omega) (by omega) ⟨h1, h2, h3, fun j hj => by
        have := h4 j hj
        show rd mem 15 j = zi (bi (decide (sg (fun a => sg (nRw s p num N j a) 4) k + sg (nRw s p num N j k) 4 ≠ 0))) ∧ rd mem 13 j = zi (((sg (fun a => sg (nRw s p num N j a) 4) k + sg (nRw s p num N j k) 4) % 1000003 : Nat) : Int)
        rw [eN, Nat.add_zero]
        exact this, by
        show ARm mem (sg (fun a => sg (aRw s p num N a) 4) k + sg (aRw s p num N k) 4)
        rw [eA, Nat.add_zero]
        exact h5⟩
    · rw [if_neg (by rw [decide_eq_true c1]; decide)]
      obtain ⟨m1, a1, a2, a3⟩ := m_w60 fu hfu hz hW hc hb hps hpn hnum (K_X12_walks_41 fu n) (E := fun j => sg (fun a => sg (nRw s p num N j a) 4) k) (A := sg (fun a => sg (aRw s p num N a) 4) k) hk4 c1 (hcl k hk4 c1) 4 fu 0 mem (by omega) (by omega) ⟨h1, h2, h3, h4, h5⟩
      obtain ⟨m2, b1, b2, b3, b4, b5, b6⟩ := ih n (k + 1) m1 (by omega) (by omega) a2
      exact ⟨m2, a1.trans b1, b2, b3, b4, b5, Fr_tr (Fr_mono a3 (fun _ _ => PW4_m)) b6⟩
theorem m_w12 (fu : Nat) (hfu : 1000 ≤ fu) {s : Nat → Int} (hz : szO s) (hW : wlO s) (hc : cnO s) (hb : basO s) {p : Nat} (hps : (p : Int) < s 2) (hpn : pnO s p) {num : Int} (hnum : 0 ≤ num ∧ num ≤ 10000) {N : Nat → Nat} (hcl : NCl s N) : ∀ (q n k : Nat) (mem : Mem), k + q = 405 → q < n → MS mem s → rd mem 0 27 = zi (p : Int) → WRm mem N → ARm mem 0 → (∀ j, j < k → rd mem 15 j = zi 0 ∧ rd mem 13 j = zi 0) → ∃ mem2, K_X12_walks_12 fu n (zi (p : Int)) (zi num) (zi (k : Int)) mem = some mem2 ∧ MS mem2 s ∧ rd mem2 0 27 = zi (p : Int) ∧ WRm mem2 (nxW s p num N) ∧ ARm mem2 (arW s p num N) ∧ Fr PW4 mem mem2 := by
  intro q
  induction q with
  | zero =>
    intro n k mem hk hn h1 h2 h3 h5 h4
    obtain ⟨n, rfl⟩ : ∃ f, n = f + 1 := ⟨n - 1, by omega⟩
    obtain ⟨m2, a1, a2⟩ := m_w41 fu hfu hz hW hc hb hps hpn hnum hcl 405 fu 0 mem (by omega) (by omega) ⟨h1, h2, h3, fun j hj => h4 j (by omega), h5⟩
    rw [K_X12_walks_12]
    simp (disch := omega) only [zi_lit, zl_lit, zi_add, zi_sub, zi_mul, zi_neg, zi_lt, zi_inj, zi_clamp, zl_of, gi_zi, bd_s, ltf, bi_0, bi_1, gb_bi, Int.reduceToNat, Int.reduceNeg, Int.toNat_natCast]
    rw [if_neg (by omega)]
    exact ⟨m2, a1, a2⟩
  | succ q ih =>
    intro n k mem hk hn h1 h2 h3 h5 h4
    obtain ⟨n, rfl⟩ : ∃ f, n = f + 1 := ⟨n - 1, by omega⟩
    have f : Fr PWm mem (mw (mw mem 15 k (zi 0)) 13 k (zi 0)) := Fr_tr (Fr_mw _ _ rfl) (Fr_mw _ _ rfl)
    obtain ⟨m2, b1, b2, b3, b4, b5, b6⟩ := ih n (k + 1) _ (by omega) (by omega) (MS_fr f (fun _ => rfl) h1) (by rw [rd_mw, if_neg (fun h => absurd h.1 (by decide)), rd_mw, if_neg (fun h => absurd h.1 (by decide))]; exact h2) (WRm_o h3 f) ⟨by rw [rd_mw, if_neg (fun h => absurd h.1 (by decide)), rd_mw, if_neg (fun h => absurd h.1 (by decide))]; exact h5.1, by rw [rd_mw, if_neg (fun h => absurd h.1 (by decide)), rd_mw, if_neg (fun h => absurd h.1 (by decide))]; exact h5.2⟩ (fun j hj => by
      rw [rd_mw, if_neg (fun h => absurd h.1 (by decide)), rd_mw, rd_mw, rd_mw]
      by_cases q1 : j = k
      · rw [if_pos ⟨rfl, q1⟩, if_pos ⟨rfl, q1⟩]
        exact ⟨rfl, rfl⟩
      · rw [if_neg (fun h => q1 h.2), if_neg (fun h => q1 h.2), if_neg (fun h => absurd h.1 (by decide))]
        exact h4 j (by omega))
    rw [K_X12_walks_12]
    simp (disch := omega) only [zi_lit, zl_lit, zi_add, zi_sub, zi_mul, zi_neg, zi_lt, zi_inj, zi_clamp, zl_of, gi_zi, bd_s, ltf, bi_0, bi_1, gb_bi, Int.reduceToNat, Int.reduceNeg, Int.toNat_natCast, nar0]
    rw [if_pos (by omega)]
    exact ⟨m2, b1, b2, b3, b4, b5, Fr_tr (Fr_mono f (fun _ _ => PW4_m)) b6⟩
theorem m_walks (fu : Nat) (hfu : 1000 ≤ fu) {s : Nat → Int} (hz : szO s) (hW : wlO s) (hc : cnO s) (hb : basO s) {p : Nat} (hps : (p : Int) < s 2) (hpn : pnO s p) {num : Int} (hnum : 0 ≤ num ∧ num ≤ 10000) {N : Nat → Nat} (hcl : NCl s N) {mem : Mem} (h1 : MS mem s) (h2 : rd mem 0 27 = zi (p : Int)) (h3 : WRm mem N) : ∃ mem2, K_X12_walks fu (zi (p : Int)) (zi num) mem = some mem2 ∧ MS mem2 s ∧ rd mem2 0 27 = zi (p : Int) ∧ WRm mem2 (nxW s p num N) ∧ ARm mem2 (arW s p num N) ∧ Fr PW4 mem mem2 := by
  have f : Fr PWm mem (mw (mw mem 0 34 (zi 0)) 0 35 (zi 0)) := Fr_tr (Fr_mw _ _ rfl) (Fr_mw _ _ rfl)
  obtain ⟨m2, b1, b2, b3, b4, b5, b6⟩ := m_w12 fu hfu hz hW hc hb hps hpn hnum hcl 405 fu 0 (mw (mw mem 0 34 (zi 0)) 0 35 (zi 0)) (by omega) (by omega) (MS_fr f (fun _ => rfl) h1) ((f.1 _ _ rfl).trans h2) (WRm_o h3 f) ⟨by rw [rd_mw, if_neg (by decide), rd_mw, if_pos ⟨rfl, rfl⟩]; rfl, by rw [rd_mw, if_pos ⟨rfl, rfl⟩]; rfl⟩ (fun j hj => absurd hj (Nat.not_lt_zero j))
  refine ⟨m2, ?_, b2, b3, b4, b5, Fr_tr (Fr_mono f (fun _ _ => PW4_m)) b6⟩
  unfold K_X12_walks
  simp only [zi_lit, zl_lit, zi_add, zi_sub, zi_mul, zi_neg, zi_lt, zi_inj, zi_clamp, zl_of, gi_zi, bd_s, ltf, bi_0, bi_1, gb_bi, Int.reduceToNat, Int.reduceNeg, Int.toNat_natCast]
  exact b1
theorem sg_ne {f : Nat → Nat} : ∀ {n : Nat}, sg f n ≠ 0 → ∃ k, k < n ∧ f k ≠ 0 := by
  intro n
  induction n with
  | zero => exact fun h => absurd rfl h
  | succ n ih =>
    intro h
    by_cases q : f n = 0
    · rw [sg, q, Nat.add_zero] at h
      obtain ⟨k, h1, h2⟩ := ih h
      exact ⟨k, by omega, h2⟩
    · exact ⟨n, by omega, q⟩
theorem nx_cl {s : Nat → Int} (hz : szO s) (p num : Int) (N : Nat → Nat) : NCl s (nxW s p num N) := fun k hk h => by
  obtain ⟨u, hu, h1⟩ := sg_ne h
  obtain ⟨d, hd, h2⟩ := sg_ne h1
  unfold nxU at h2
  by_cases c1 : (!sdB s p (nbr u d) && decide (5 * nbr u d + d = k)) = true
  · rw [if_pos c1] at h2
    rw [Bool.and_eq_true, decide_eq_true_iff] at c1
    have ho := (tT_fr h2).2
    have hn := op_nb hz hu hd ho
    rw [← c1.2, show (5 * nbr u d + d) / 5 = nbr u d by omega]
    exact hn.2.1
  · rw [if_neg c1] at h2
    exact absurd rfl h2
theorem n0_cl {s : Nat → Int} (hz : szO s) {p : Int} (hpn : pnO s p) : NCl s (n0W s p) := fun k hk h => by
  have hcl := cel_lt hz hpn
  have hlat := hpn.2.2.2.2.1
  unfold n0W at h
  by_cases c1 : (k : Int) = 5 * (celN s p : Int) + (if pg s p 5 = -1 then 4 else pg s p 5)
  · have e : k / 5 = celN s p := by
      by_cases q : pg s p 5 = -1
      · rw [if_pos q] at c1
        omega
      · rw [if_neg q] at c1
        omega
    rw [e, hcl.2.1, hcl.2.2]
    exact hpn.1
  · rw [if_neg c1] at h
    exact absurd rfl h
theorem wk_cl {s : Nat → Int} (hz : szO s) {p : Int} (hpn : pnO s p) (n : Nat) : NCl s (wkN s p n) := by
  cases n with
  | zero => exact n0_cl hz hpn
  | succ n => exact nx_cl hz p _ _
theorem m_bw14 (fu : Nat) {s : Nat → Int} (hz : szO s) (hc : cnO s) {p : Nat} (hps : (p : Int) < s 2) (hpn : pnO s p) : ∀ (q n k : Nat) (mem : Mem), k + q = 405 → q < n → MS mem s → (∀ j, j < k → rd mem 14 j = zi (bi (decide (n0W s p j ≠ 0))) ∧ rd mem 12 j = zi ((n0W s p j % 1000003 : Nat) : Int)) → ∃ mem2, K_X12_beginsWalk_14 fu n (zi (p : Int)) (zi (pg s p 5)) (zi (k : Int)) mem = some mem2 ∧ MS mem2 s ∧ WRm mem2 (n0W s p) ∧ Fr (fun k _ => k == 12 || k == 14) mem mem2 := by
  have c1 := hc.1
  have hlat := hpn.2.2.2.2.1
  have hxy := cl_nat hz hpn.1
  have hcl1 := (cel_lt hz hpn).1
  have e3 : 9 * pg s p 1 + pg s p 0 = (celN s p : Int) := by
    unfold celN
    omega
  intro q
  induction q with
  | zero =>
    intro n k mem hk hn hS hN
    obtain ⟨n, rfl⟩ : ∃ f, n = f + 1 := ⟨n - 1, by omega⟩
    obtain rfl : k = 405 := by omega
    rw [K_X12_beginsWalk_14]
    simp (disch := omega) only [zi_lit, zl_lit, zi_add, zi_sub, zi_mul, zi_neg, zi_lt, zi_inj, zi_clamp, zl_of, gi_zi, bd_s, ltf, bi_0, bi_1, gb_bi, Int.reduceToNat, Int.reduceNeg, Int.toNat_natCast]
    rw [if_neg (by decide)]
    exact ⟨mem, rfl, hS, hN, Fr_rf _ mem⟩
  | succ q ih =>
    intro n k mem hk hn hS hN
    obtain ⟨n, rfl⟩ : ∃ f, n = f + 1 := ⟨n - 1, by omega⟩
    have go : ∀ b : Bool, b = decide (n0W s p k ≠ 0) → ∃ mem2, K_X12_beginsWalk_53 fu (K_X12_beginsWalk_14 fu n) (zi (p : Int)) (zi (pg s p 5)) (zi (k : Int)) (zi (bi b)) (zi (k : Int)) mem = some mem2 ∧ MS mem2 s ∧ WRm mem2 (n0W s p) ∧ Fr (fun k _ => k == 12 || k == 14) mem mem2 := fun b hb => by
      have enar : vp_nar .boolean (zi (bi b)) = zi (bi b) := by cases b <;> rfl
      have r14 : rd (mw mem 14 k (zi (bi b))) 14 k = zi (bi b) := by rw [rd_mw, if_pos ⟨rfl, rfl⟩]
      have f : Fr (fun k _ => k == 12 || k == 14) mem (mw (mw mem 14 k (zi (bi b))) 12 k (zi (bi b))) := Fr_tr (Fr_mw _ _ rfl) (Fr_mw _ _ rfl)
      obtain ⟨m2, b1, b2, b3, b4⟩ := ih n (k + 1) _ (by omega) (by omega) (MS_fr f (fun _ => rfl) hS) (fun j hj => by
        rw [rd_mw, if_neg (fun h => absurd h.1 (by decide)), rd_mw, rd_mw, rd_mw]
        by_cases q1 : j = k
        · rw [if_pos ⟨rfl, q1⟩, if_pos ⟨rfl, q1⟩, q1, ← hb]
          refine ⟨rfl, ?_⟩
          rw [hb]
          unfold n0W
          by_cases q2 : (k : Int) = 5 * (celN s p : Int) + (if pg s p 5 = -1 then 4 else pg s p 5)
          · rw [if_pos q2]
            rfl
          · rw [if_neg q2]
            rfl
        · rw [if_neg (fun h => q1 h.2), if_neg (fun h => q1 h.2), if_neg (fun h => absurd h.1 (by decide))]
          exact hN j (by omega))
      unfold K_X12_beginsWalk_53
      simp (disch := omega) only [zi_lit, zl_lit, zi_add, zi_sub, zi_mul, zi_neg, zi_lt, zi_inj, zi_clamp, zl_of, gi_zi, bd_s, ltf, bi_0, bi_1, gb_bi, Int.reduceToNat, Int.reduceNeg, Int.toNat_natCast, enar, r14, k_truth]
      exact ⟨m2, b1, b2, b3, Fr_tr f b4⟩
    have go2 : ∀ v : Int, v = (if pg s p 5 = -1 then 4 else pg s p 5) → ∃ mem2, K_X12_beginsWalk_44 fu (K_X12_beginsWalk_14 fu n) (zi (p : Int)) (zi (pg s p 5)) (zi (k : Int)) (zi v) (zi (5 * (celN s p : Int))) (zi (k : Int)) (zi (k : Int)) mem = some mem2 ∧ MS mem2 s ∧ WRm mem2 (n0W s p) ∧ Fr (fun k _ => k == 12 || k == 14) mem mem2 := fun v hv => by
      have hv2 : 0 ≤ v ∧ v ≤ 4 := by
        rw [hv]
        split <;> omega
      unfold K_X12_beginsWalk_44
      simp (disch := omega) only [zi_lit, zl_lit, zi_add, zi_sub, zi_mul, zi_neg, zi_lt, zi_inj, zi_clamp, zl_of, gi_zi, bd_s, ltf, bi_0, bi_1, gb_bi, Int.reduceToNat, Int.reduceNeg, Int.toNat_natCast]
      by_cases q2 : (k : Int) = 5 * (celN s p : Int) + v
      · rw [if_pos q2]
        refine go true ?_
        unfold n0W
        rw [← hv, if_pos q2]
        rfl
      · rw [if_neg q2]
        refine go false ?_
        unfold n0W
        rw [← hv, if_neg q2]
        rfl
    rw [K_X12_beginsWalk_14]
    simp (disch := omega) only [zi_lit, zl_lit, zi_add, zi_sub, zi_mul, zi_neg, zi_lt, zi_inj, zi_clamp, zl_of, gi_zi, bd_s, ltf, bi_0, bi_1, gb_bi, Int.reduceToNat, Int.reduceNeg, Int.toNat_natCast, k_cellOf fu hS, e3]
    rw [if_pos (by omega)]
    by_cases q1 : pg s p 5 = -1
    · rw [if_pos q1]
      exact go2 4 (if_pos q1).symm
    · rw [if_neg q1]
      exact go2 _ (if_neg q1).symm
def PW5 (k j : Nat) : Bool := PW4 k j || (k == 0 && j == 27)
theorem PW5_4 {k j : Nat} (h : PW5 k j = false) : PW4 k j = false := by
  unfold PW5 at h
  rw [Bool.or_eq_false_iff] at h
  exact h.1
theorem m_beginsWalk (fu : Nat) (hfu : 1000 ≤ fu) {s : Nat → Int} (hz : szO s) (hc : cnO s) {p : Nat} (hps : (p : Int) < s 2) (hpn : pnO s p) {mem : Mem} (hS : MS mem s) : ∃ mem2, K_X12_beginsWalk fu (zi (p : Int)) mem = some mem2 ∧ MS mem2 s ∧ rd mem2 0 27 = zi (p : Int) ∧ WRm mem2 (n0W s p) ∧ Fr PW5 mem mem2 := by
  have c1 := hc.1
  have f : Fr PW5 mem (mw mem 0 27 (zi (p : Int))) := Fr_mw _ _ rfl
  have hS1 : MS (mw mem 0 27 (zi (p : Int))) s := MS_fr f (fun _ => rfl) hS
  obtain ⟨m2, b1, b2, b3, b4⟩ := m_bw14 fu hz hc hps hpn 405 fu 0 (mw mem 0 27 (zi (p : Int))) (by omega) (by omega) hS1 (fun j hj => absurd hj (Nat.not_lt_zero j))
  refine ⟨m2, ?_, b2, ?_, b3, Fr_tr f (Fr_mono b4 (fun _ _ h => PW4_c (PW5_4 h)))⟩
  · unfold K_X12_beginsWalk
    simp (disch := omega) only [zi_lit, zl_lit, zi_add, zi_sub, zi_mul, zi_neg, zi_lt, zi_inj, zi_clamp, zl_of, gi_zi, bd_s, ltf, bi_0, bi_1, gb_bi, Int.reduceToNat, Int.reduceNeg, Int.toNat_natCast, k_of fu hS1]
    exact b1
  · rw [b4.1 _ _ rfl, rd_mw, if_pos ⟨rfl, rfl⟩]
theorem m_lw17 (fu : Nat) (hfu : 1000 ≤ fu) {s : Nat → Int} (hz : szO s) (hW : wlO s) (hc : cnO s) (hb : basO s) {p : Nat} (hps : (p : Int) < s 2) (hpn : pnO s p) : ∀ (q f n : Nat) (mem : Mem), n + q = 200 → q < f → MS mem s → rd mem 0 27 = zi (p : Int) → WRm mem (wkN s p n) → ∃ mem2, K_X12_leastWithBans_17 fu f (zi (p : Int)) (zi ((n + 1 : Nat) : Int)) mem = some (zi (lwF s p q n), mem2) ∧ Fr PW4 mem mem2 := by
  have c1 := hc.1
  have c4 := hc.2.2.2.1
  have h4 := hpn.2.2.2.1
  intro q
  induction q with
  | zero =>
    intro f n mem hn hf h1 h2 h3
    obtain ⟨f, rfl⟩ : ∃ g, f = g + 1 := ⟨f - 1, by omega⟩
    rw [K_X12_leastWithBans_17]
    simp (disch := omega) only [zi_lit, zl_lit, zi_add, zi_sub, zi_mul, zi_neg, zi_lt, zi_inj, zi_clamp, zl_of, gi_zi, bd_s, ltf, bi_0, bi_1, gb_bi, Int.reduceToNat, Int.reduceNeg, Int.toNat_natCast]
    rw [if_pos (by omega)]
    exact ⟨mem, rfl, Fr_rf _ mem⟩
  | succ q ih =>
    intro f n mem hn hf h1 h2 h3
    obtain ⟨f, rfl⟩ : ∃ g, f = g + 1 := ⟨f - 1, by omega⟩
    obtain ⟨m1, a1, a2, a3, a4, a5, a6⟩ := m_walks fu hfu hz hW hc hb hps hpn (num := pg s p 4 + (n : Int)) (by omega) (wk_cl hz hpn n) h1 h2 h3
    obtain ⟨m2, b1, b2⟩ := ih f (n + 1) m1 (by omega) (by omega) a2 a3 a4
    rw [K_X12_leastWithBans_17]
    simp (disch := omega) only [zi_lit, zl_lit, zi_add, zi_sub, zi_mul, zi_neg, zi_lt, zi_inj, zi_clamp, zl_of, gi_zi, bd_s, ltf, bi_0, bi_1, gb_bi, Int.reduceToNat, Int.reduceNeg, Int.toNat_natCast, k_of fu h1, show pg s p 4 + ((n + 1 : Nat) : Int) - 1 = pg s p 4 + (n : Int) by omega, a1, a5.2]
    rw [if_neg (by omega), lwF]
    have e : wkA s p (n + 1) = arW s p (pg s p 4 + (n : Int)) (wkN s p n) := rfl
    by_cases c9 : wkA s p (n + 1) = 0
    · rw [if_pos c9]
      rw [e] at c9
      rw [if_pos (decide_eq_false (fun h => h c9))]
      exact ⟨m2, b1, Fr_tr a6 b2⟩
    · rw [if_neg c9]
      rw [e] at c9
      rw [if_neg (by rw [decide_eq_true c9]; decide)]
      exact ⟨m1, rfl, a6⟩
theorem m_leastWB (fu : Nat) (hfu : 1000 ≤ fu) {s : Nat → Int} (hz : szO s) (hW : wlO s) (hc : cnO s) (hb : basO s) {p : Nat} (hps : (p : Int) < s 2) (hpn : pnO s p) {mem : Mem} (hS : MS mem s) : ∃ mem2, K_X12_leastWithBans fu (zi (p : Int)) mem = some (zi (lwS s p), mem2) ∧ Fr PW5 mem mem2 := by
  have c1 := hc.1
  have c4 := hc.2.2.2.1
  have c5 := hc.2.2.2.2.1
  have h6 := hpn.2.2.2.2.2.1
  unfold K_X12_leastWithBans lwS
  simp (disch := omega) only [zi_lit, zl_lit, zi_add, zi_sub, zi_mul, zi_neg, zi_lt, zi_inj, zi_clamp, zl_of, gi_zi, bd_s, ltf, bi_0, bi_1, gb_bi, Int.reduceToNat, Int.reduceNeg, Int.toNat_natCast, k_fin fu hS]
  by_cases q1 : 0 < pg s p 6
  · rw [if_neg (by rw [decide_eq_true q1]; decide), if_pos q1]
    exact ⟨mem, rfl, Fr_rf _ mem⟩
  · rw [if_pos (decide_eq_false q1), if_neg q1]
    obtain ⟨m1, a1, a2, a3, a4, a5⟩ := m_beginsWalk fu hfu hz hc hps hpn hS
    obtain ⟨m2, b1, b2⟩ := m_lw17 fu hfu hz hW hc hb hps hpn 200 fu 0 m1 (by omega) (by omega) a2 a3 a4
    rw [a1]
    exact ⟨m2, b1, Fr_tr a5 (Fr_mono b2 (fun _ _ => PW5_4))⟩
theorem m_ww56 (fu : Nat) (hfu : 1000 ≤ fu) {s : Nat → Int} (hz : szO s) (hW : wlO s) (hc : cnO s) (hb : basO s) {p : Nat} (hps : (p : Int) < s 2) (hpn : pnO s p) {tot : Nat} (htot : tot ≤ 200) : ∀ (q f n : Nat) (mem : Mem), n + q = tot → q < f → MS mem s → rd mem 0 27 = zi (p : Int) → WRm mem (wkN s p n) → rd mem 0 34 = zi ((wkA s p n % 1000003 : Nat) : Int) → ∃ mem2, K_X12_waysWithBans_56 fu f (zi (p : Int)) (zi (tot : Int)) (zi (n : Int)) mem = some (zi ((wkA s p tot % 1000003 : Nat) : Int), mem2) ∧ Fr PW4 mem mem2 := by
  have c1 := hc.1
  have c4 := hc.2.2.2.1
  have h4 := hpn.2.2.2.1
  intro q
  induction q with
  | zero =>
    intro f n mem hn hf h1 h2 h3 h5
    obtain ⟨f, rfl⟩ : ∃ g, f = g + 1 := ⟨f - 1, by omega⟩
    obtain rfl : n = tot := by omega
    rw [K_X12_waysWithBans_56]
    simp (disch := omega) only [zi_lit, zl_lit, zi_add, zi_sub, zi_mul, zi_neg, zi_lt, zi_inj, zi_clamp, zl_of, gi_zi, bd_s, ltf, bi_0, bi_1, gb_bi, Int.reduceToNat, Int.reduceNeg, Int.toNat_natCast, h5]
    rw [if_neg (by omega)]
    exact ⟨mem, rfl, Fr_rf _ mem⟩
  | succ q ih =>
    intro f n mem hn hf h1 h2 h3 h5
    obtain ⟨f, rfl⟩ : ∃ g, f = g + 1 := ⟨f - 1, by omega⟩
    obtain ⟨m1, a1, a2, a3, a4, a5, a6⟩ := m_walks fu hfu hz hW hc hb hps hpn (num := pg s p 4 + (n : Int)) (by omega) (wk_cl hz hpn n) h1 h2 h3
    obtain ⟨m2, b1, b2⟩ := ih f (n + 1) m1 (by omega) (by omega) a2 a3 a4 a5.1
    rw [K_X12_waysWithBans_56]
    simp (disch := omega) only [zi_lit, zl_lit, zi_add, zi_sub, zi_mul, zi_neg, zi_lt, zi_inj, zi_clamp, zl_of, gi_zi, bd_s, ltf, bi_0, bi_1, gb_bi, Int.reduceToNat, Int.reduceNeg, Int.toNat_natCast, k_of fu h1, a1]
    rw [if_pos (by omega)]
    exact ⟨m2, b1, Fr_tr a6 b2⟩
end BANWM
