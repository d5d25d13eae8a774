section PGG
variable {np nb L fu : Nat} {xs : Nat → Int32}
theorem acts_end (hfu : 100000 ≤ fu) (h0 : np = 0 → nb = 0) {s : Nat → Int} {u : Nat} {ps : Nat → Nat → Int} {mem : Mem} (hJ : JQ np nb mem s u ps) (ho : ovB s = false) (hg : ∀ d : Nat, d < 4 → gB s (s 7) d = 0) : ∃ mem2 s2 ps2 u2, bd (KW_endTurn np nb fu (fun j => mem (255 + j))) (fun m_14 => lt_ (mset 255 (nW np nb) mem m_14) (fun m_15 => bdT (K_X11_pass fu m_15) (fun x_16 m_16 => lt_ (mset 0 255 m_15 m_16) (fun m_17 => bd (KW_isOver np nb fu (fun j => m_17 (255 + j))) (fun x_18 => (if x_18 = 0 then (if x_16 = (rd m_17 (255 + 0) 4) then some ((1 : Int32), m_17) else some (0, m_17)) else (if x_16 = (-1) then some (1, m_17) else some (0, m_17)))))))) = some (1, mem2) ∧ JQ np nb mem2 s2 u2 ps2 := by
  have hps : psB s = true := by
    unfold psB
    rw [ho, decide_eq_true ⟨hg 0 (by decide), hg 1 (by decide), hg 2 (by decide), hg 3 (by decide)⟩]
    rfl
  obtain ⟨mW, a1, a2⟩ := WI_et hfu hJ.2.1 ho
  have a1' : KW_endTurn np nb fu (fun j => mem (255 + j)) = some mW := a1
  have W1 := WI_w (mem := mem) a2 h0
  obtain ⟨c1, b1, b2⟩ := q_pass (fu := fu) (by omega) (CQ_w (n := nW np nb) (mW := mW) hJ.1) hps
  have J : JQ np nb (mset 0 255 (mset 255 (nW np nb) mem mW) c1) (etS s) (kpU u) (kpP u ps s) := ⟨CQ_c b2, by rw [lw_mc]; exact W1, XO_et hJ.2.2⟩
  obtain ⟨⟨r0, r1, r2, r3, r4⟩, e2, h4⟩ := JQ_r0 J
  have hov : KW_isOver np nb fu (fun j => (mset 0 255 (mset 255 (nW np nb) mem mW) c1) (255 + j)) = some (zi (bi (ovB (etS s)))) := w_isOver J.2.1.1 J.2.1.2.1.2.1
  refine ⟨_, _, _, _, ?_, J⟩
  rw [a1', bd_s, ltf, b1, bdT_s, ltf, hov, bd_s, r4]
  cases ovB (etS s) with
  | true => rfl
  | false => rw [if_pos (show zi (bi false) = 0 from rfl), if_neg (show ¬ false = true by decide), if_pos rfl]
theorem ac_91 (hfu : 100000 ≤ fu) (h0 : np = 0 → nb = 0) {s : Nat → Int} {u : Nat} {ps : Nat → Nat → Int} {v : Nat} (hv : v < 4000) (ho : ovB s = false) {mem : Mem} (hJ : JQ np nb mem s u ps) : ∀ (q n k : Nat), k + q = 4 → q < n → (∀ j, j < k → gB s (s 7) ((v + j) % 4) = 0) → ∃ mem2 s2 ps2 u2, KL_acts_91 L xs np nb fu n (zi (v : Int)) (zi (k : Int)) mem = some (1, mem2) ∧ JQ np nb mem2 s2 u2 ps2 := by
  obtain ⟨⟨r0, r1, r2, r3, r4⟩, e2, h4⟩ := JQ_r0 hJ
  have hI := hJ.2.1.2.1
  have hov := ov_2 hI.2.1 ho
  have c7 := hI.2.1.2.2.2.2.2.1
  obtain ⟨t, ht⟩ : ∃ t : Nat, s 7 = (t : Int) := ⟨(s 7).toNat, by omega⟩
  have hts : (t : Int) < s 2 := by omega
  intro q
  induction q with
  | zero =>
    intro n k hk hn hg
    obtain ⟨n, rfl⟩ : ∃ f, n = f + 1 := ⟨n - 1, by omega⟩
    obtain rfl : k = 4 := by omega
    have hg' : ∀ d : Nat, d < 4 → gB s (s 7) d = 0 := fun d hd => by
      have := hg ((d + 4 - v % 4) % 4) (by omega)
      rw [show (v + (d + 4 - v % 4) % 4) % 4 = d by omega] at this
      exact this
    rw [KL_acts_91, if_neg (by decide)]
    exact acts_end hfu h0 hJ ho hg'
  | succ q ih =>
    intro n k hk hn hg
    obtain ⟨n, rfl⟩ : ∃ f, n = f + 1 := ⟨n - 1, by omega⟩
    have k1 : (zi (k : Int) < (4 : Int32)) = ((k : Int) < 4) := zi_lt (b_ := 4) (by omega) (by omega) (by decide) (by decide)
    have ed : zi (v : Int) + zi (k : Int) - (zi (v : Int) + zi (k : Int)) / 4 * 4 = zi (((v + k) % 4 : Nat) : Int) := by
      rw [zi_add, show (4 : Int32) = zi 4 from rfl, zi_mod (by omega) (by omega) (by decide) (by decide)]
      exact congrArg zi (by omega)
    obtain ⟨d, hd⟩ : ∃ d, d = (v + k) % 4 := ⟨_, rfl⟩
    have hd4 : d < 4 := by omega
    rw [← hd] at ed
    have hl : KW_landing np nb fu (zi (t : Int)) (zi (d : Int)) (fun j => mem (255 + j)) = some (zi (if gB s t d = 0 then -1 else 10 * yo (ldN s t d) + xo (ldN s t d))) := w_landing (by omega) (WI_W hJ.2.1) (by omega) hd4
    rw [KL_acts_91, if_pos (by rw [k1]; omega), ed, r4, ht, q_canStep (by omega) hJ.1 hts hd4, bdT_s, ltf, mset_same, r4, ht, hl, bd_s, zs]
    by_cases c : gB s t d = 0
    · rw [if_pos c, if_pos c, if_pos (by decide), if_pos rfl, bd_s, if_pos (by decide)]
      exact ih n (k + 1) (by omega) (by omega) (fun j hj => by
        by_cases q2 : j = k
        · rw [q2, ← hd, ht]
          exact c
        · exact hg j (by omega))
    · obtain ⟨l1, l2, l3, l4, l5, l6, l7, l8, l9⟩ := gB_ld hI.1 (hI.2.2.2.1 t (by omega) hts) hd4 c
      have hci := isCl_iff.mp l5
      have hz := hI.1
      obtain ⟨⟨w1, w2⟩, w3, w4⟩ := hz
      have i0 : (zi (10 * yo (ldN s t d) + xo (ldN s t d)) < (0 : Int32)) = (10 * yo (ldN s t d) + xo (ldN s t d) < 0) := zi_lt (b_ := 0) (by omega) (by omega) (by decide) (by decide)
      rw [if_neg c, if_neg c, if_neg (fun z => by have := i0.mp z; omega), if_pos rfl, bd_s, if_neg (fun z => by have := i0.mp z; omega)]
      have c' : gB s (s 7) d ≠ 0 := by rw [ht]; exact c
      obtain ⟨c1, a1, a2⟩ := q_step (fu := fu) (by omega) hJ.1 hd4 ho c'
      obtain ⟨mW, b1, b2⟩ := w_step hfu hJ.2.1 hd4 c'
      have b1' : KW_step np nb fu (zi (d : Int)) (fun j => (mset 0 255 mem c1) (255 + j)) = some (zi (dst (mvSt s (s 7) (gB s (s 7) d) d) (s 7)), mW) := by
        have : (fun j => (mset 0 255 mem c1) (255 + j)) = lwM mem := lw_mc mem c1
        rw [this]
        exact b1
      have X2 : XO (mvSt s (s 7) (gB s (s 7) d) d) := by
        rw [ht]
        exact XO_mv hI hJ.2.2 hts hd4 c
      refine ⟨_, _, _, _, ?_, CQ_w (n := nW np nb) (mW := mW) (CQ_c (mem := mem) a2), WI_w b2 h0, X2⟩
      rw [a1, bdT_s, ltf, b1', bd_s, ltf, if_pos rfl]
theorem ac_211 (hfu : 100000 ≤ fu) (h0 : np = 0 → nb = 0) {s : Nat → Int} {u : Nat} {ps : Nat → Nat → Int} {v : Nat} (hv : v < 4000) (ho : ovB s = false) {mem : Mem} (hJ : JQ np nb mem s u ps) : ∃ mem2 s2 ps2 u2, KL_acts_211 L xs np nb fu (zi (v : Int)) mem = some (1, mem2) ∧ JQ np nb mem2 s2 u2 ps2 := by
  obtain ⟨⟨r0, r1, r2, r3, r4⟩, e2, h4⟩ := JQ_r0 hJ
  have hI := hJ.2.1.2.1
  have hov := ov_2 hI.2.1 ho
  have c7 := hI.2.1.2.2.2.2.2.1
  obtain ⟨t, ht⟩ : ∃ t : Nat, s 7 = (t : Int) := ⟨(s 7).toNat, by omega⟩
  have hts : (t : Int) < s 2 := by omega
  have hz := hI.1
  obtain ⟨⟨w1, w2⟩, w3, w4⟩ := hz
  obtain ⟨w, hw⟩ : ∃ w : Int, w = (v : Int) / 99 % 2 := ⟨_, rfl⟩
  have hw01 : w = 0 ∨ w = 1 := by omega
  have hpl : isPl s ((v : Int) % (s 0 - 1)) ((v : Int) / 9 % (s 1 - 1)) = true := isPl_iff.mpr ⟨⟨Int.emod_nonneg _ (by omega), by have := Int.emod_lt_of_pos (v : Int) (show 0 < s 0 - 1 by omega); omega⟩, Int.emod_nonneg _ (by omega), by have := Int.emod_lt_of_pos ((v : Int) / 9) (show 0 < s 1 - 1 by omega); omega⟩
  obtain ⟨x, hx⟩ : ∃ x : Int, x = (v : Int) % (s 0 - 1) := ⟨_, rfl⟩
  obtain ⟨y, hy⟩ : ∃ y : Int, y = (v : Int) / 9 % (s 1 - 1) := ⟨_, rfl⟩
  rw [← hx, ← hy] at hpl
  have ex : zi (v : Int) - zi (v : Int) / (zi (s 0) - 1) * (zi (s 0) - 1) = zi x := by
    rw [show (1 : Int32) = zi 1 from rfl, zi_sub, zi_mod (by omega) (by omega) (by omega) (by omega), hx]
  have ey : zi (v : Int) / 9 - zi (v : Int) / 9 / (zi (s 1) - 1) * (zi (s 1) - 1) = zi y := by
    rw [show (1 : Int32) = zi 1 from rfl, show (9 : Int32) = zi 9 from rfl, zi_sub, zi_div (by omega) (by omega) (by decide) (by decide), zi_mod (by omega) (by omega) (by omega) (by omega), hy]
  have ew : (1 : Int32) + (zi (v : Int) / 99 - zi (v : Int) / 99 / 2 * 2) = zi (w + 1) := by
    rw [show (99 : Int32) = zi 99 from rfl, show (2 : Int32) = zi 2 from rfl, zi_div (by omega) (by omega) (by decide) (by decide), zi_mod (by omega) (by omega) (by decide) (by decide), show (1 : Int32) = zi 1 from rfl, zi_add]
    exact congrArg zi (by omega)
  have g0 : ∀ {o : Option (Int32 × Mem)}, gz (zi (s 0) - 1) o = o := fun {o} => by
    rw [show (1 : Int32) = zi 1 from rfl, zi_sub]
    exact gz_zi (by omega) (by omega)
  have g1 : ∀ {o : Option (Int32 × Mem)}, gz (zi (s 1) - 1) o = o := fun {o} => by
    rw [show (1 : Int32) = zi 1 from rfl, zi_sub]
    exact gz_zi (by omega) (by omega)
  obtain ⟨mW, a1, a2⟩ := w_isAdmissible (fu := fu) hfu (WI_D hJ.2.1) hpl (w := w + 1) (by omega)
  have a1' : KW_isAdmissible np nb fu (zi x) (zi y) (zi (w + 1)) (fun j => mem (255 + j)) = some (zi (bi (adB s x y (w + 1))), mW) := a1
  have w2' : WI np nb mW s := ⟨a2.1, hJ.2.1.2⟩
  have W1 := WI_w (mem := mem) w2' h0
  have Q1 := CQ_w (n := nW np nb) (mW := mW) hJ.1
  obtain ⟨c1, b1, b2⟩ := q_adm (fu := fu) (by omega) Q1 hpl hw01
  have J2 : JQ np nb (mset 0 255 (mset 255 (nW np nb) mem mW) c1) s u ps := ⟨CQ_c b2, by rw [lw_mc]; exact W1, hJ.2.2⟩
  obtain ⟨⟨r0', r1', r2', r3', r4'⟩, _, _⟩ := JQ_r0 J2
  have b3 := (hI.2.2.2.1 t (by omega) hts).2.2.1
  have r3t : rd (mset 0 255 (mset 255 (nW np nb) mem mW) c1) (255 + (13 + t)) 3 = zi (pg s t 3) := (J2.2.1.1.2.2.2.1 t (by omega)).2.2.2.1
  have i3 : (zi (pg s t 3) = (0 : Int32)) = (pg s t 3 = 0) := zi_inj (b_ := 0) (by omega) (by omega) (by decide) (by decide)
  unfold KL_acts_211
  rw [r0, g0, ltf, ex, r1, g1, ltf, ey, ew, a1', bd_s, ltf]
  have fin : ∀ (hadT : adB s x y (w + 1) = true) (h3 : ¬ pg s t 3 = 0), ∃ c2 mW2, K_X11_build fu (zi x) (zi y) (zi w) (mset 0 255 (mset 255 (nW np nb) mem mW) c1) = some (0, zi (pg s (s 7) 3 - 1), c2) ∧ KW_build np nb fu (zi x) (zi y) (zi (w + 1)) (fun j => (mset 0 255 (mset 0 255 (mset 255 (nW np nb) mem mW) c1) c2) (255 + j)) = some (zi (pg s (s 7) 3 - 1), mW2) ∧ JQ np nb (mset 255 (nW np nb) (mset 0 255 (mset 0 255 (mset 255 (nW np nb) mem mW) c1) c2) mW2) (bdS s x y (w + 1)) (kpU u) (kpP u ps s) := fun hadT h3 => by
    obtain ⟨c2, d1, d2⟩ := q_build (fu := fu) (by omega) J2.1 hpl hw01 hadT ho (by rw [ht]; omega)
    obtain ⟨mW2, f1, f2⟩ := w_build hfu J2.2.1 hpl (v := w + 1) (by omega) hadT ho (by rw [ht]; omega)
    refine ⟨c2, mW2, d1, ?_, CQ_w (CQ_c d2), WI_w f2 h0, XO_bd hI hJ.2.2 hpl (by omega) hadT⟩
    have : (fun j => (mset 0 255 (mset 0 255 (mset 255 (nW np nb) mem mW) c1) c2) (255 + j)) = lwM (mset 0 255 (mset 255 (nW np nb) mem mW) c1) := lw_mc _ _
    rw [this]
    exact f1
  rcases hw01 with rfl | rfl
  · rw [if_neg (show ¬ zi (0 + 1) = (2 : Int32) by decide)]
    have b1' : K_X11_isAdmissible fu (zi x) (zi y) 0 (mset 255 (nW np nb) mem mW) = some (0, zi (bi (adB s x y (0 + 1))), c1) := b1
    dsimp only
    rw [b1', bdT_s, ltf, if_pos rfl, r4', ht, gi_zi (by omega) (by omega) (by omega), zi_clamp (by omega) (by omega), Int.toNat_natCast, r3t]
    cases had : adB s x y (0 + 1) with
    | false =>
      rw [if_pos (show zi (bi false) = 0 from rfl)]
      exact ⟨_, _, _, _, rfl, J2⟩
    | true =>
      rw [if_neg (show ¬ zi (bi true) = 0 by decide)]
      by_cases c3 : pg s t 3 = 0
      · rw [if_pos (i3.mpr c3)]
        exact ⟨_, _, _, _, rfl, J2⟩
      · rw [if_neg (fun z => c3 (i3.mp z)), if_neg (show ¬ zi (0 + 1) = (2 : Int32) by decide)]
        obtain ⟨c2, mW2, d1, d2, d3⟩ := fin had c3
        have d1' : K_X11_build fu (zi x) (zi y) 0 (mset 0 255 (mset 255 (nW np nb) mem mW) c1) = some (0, zi (pg s (s 7) 3 - 1), c2) := d1
        refine ⟨_, _, _, _, ?_, d3⟩
        rw [d1', bdT_s, ltf, d2, bd_s, ltf, if_pos rfl]
  · rw [if_pos (show zi (1 + 1) = (2 : Int32) from rfl)]
    have b1' : K_X11_isAdmissible fu (zi x) (zi y) 1 (mset 255 (nW np nb) mem mW) = some (0, zi (bi (adB s x y (1 + 1))), c1) := b1
    dsimp only
    rw [b1', bdT_s, ltf, if_pos rfl, r4', ht, gi_zi (by omega) (by omega) (by omega), zi_clamp (by omega) (by omega), Int.toNat_natCast, r3t]
    cases had : adB s x y (1 + 1) with
    | false =>
      rw [if_pos (show zi (bi false) = 0 from rfl)]
      exact ⟨_, _, _, _, rfl, J2⟩
    | true =>
      rw [if_neg (show ¬ zi (bi true) = 0 by decide)]
      by_cases c3 : pg s t 3 = 0
      · rw [if_pos (i3.mpr c3)]
        exact ⟨_, _, _, _, rfl, J2⟩
      · rw [if_neg (fun z => c3 (i3.mp z)), if_pos (show zi (1 + 1) = (2 : Int32) from rfl)]
        obtain ⟨c2, mW2, d1, d2, d3⟩ := fin had c3
        have d1' : K_X11_build fu (zi x) (zi y) 1 (mset 0 255 (mset 255 (nW np nb) mem mW) c1) = some (0, zi (pg s (s 7) 3 - 1), c2) := d1
        refine ⟨_, _, _, _, ?_, d3⟩
        rw [d1', bdT_s, ltf, d2, bd_s, ltf, if_pos rfl]
theorem ac_352 (hfu : 100000 ≤ fu) (h0 : np = 0 → nb = 0) {s : Nat → Int} {u : Nat} {ps : Nat → Nat → Int} {v : Nat} (hv : v < 4000) {mode : Int} (hm : mode = (v : Int) / 3 % 2) : ∀ (q n k : Nat) (t : Nat → Int) (mem : Mem), k + q = 1 + v % 3 → q < n → CQ mem s u ps → WI np nb (lwM mem) t → XO t → ∃ mem2, KL_acts_352 L xs np nb fu n (zi (v : Int)) (zi (k : Int)) mem = KL_acts_386 L xs np nb fu (zi (v : Int)) (zi ((plS mode q t k).2 : Int)) mem2 ∧ CQ mem2 s u ps ∧ WI np nb (lwM mem2) (plS mode q t k).1 ∧ XO (plS mode q t k).1 := by
  have et : (1 : Int32) + (zi (v : Int) - zi (v : Int) / 3 * 3) = zi ((1 + v % 3 : Nat) : Int) := by
    rw [show (3 : Int32) = zi 3 from rfl, zi_mod (by omega) (by omega) (by decide) (by decide), show (1 : Int32) = zi 1 from rfl, zi_add]
    exact congrArg zi (by omega)
  have em : zi (v : Int) / 3 - zi (v : Int) / 3 / 2 * 2 = zi mode := by
    rw [show (3 : Int32) = zi 3 from rfl, show (2 : Int32) = zi 2 from rfl, zi_div (by omega) (by omega) (by decide) (by decide), zi_mod (by omega) (by omega) (by decide) (by decide), hm]
  intro q
  induction q with
  | zero =>
    intro n k t mem hk hn hQ hW hX
    obtain ⟨n, rfl⟩ : ∃ f, n = f + 1 := ⟨n - 1, by omega⟩
    refine ⟨mem, ?_, hQ, hW, hX⟩
    rw [KL_acts_352, et, if_neg (by rw [zi_lt (by omega) (by omega) (by omega) (by omega)]; omega)]
    rfl
  | succ q ih =>
    intro n k t mem hk hn hQ hW hX
    obtain ⟨n, rfl⟩ : ∃ f, n = f + 1 := ⟨n - 1, by omega⟩
    have hov : KW_isOver np nb fu (fun j => mem (255 + j)) = some (zi (bi (ovB t))) := w_isOver hW.1 hW.2.1.2.1
    rw [KL_acts_352, et, if_pos (by rw [zi_lt (by omega) (by omega) (by omega) (by omega)]; omega), hov, bd_s, plS]
    cases ho : ovB t with
    | true =>
      rw [if_neg (by decide), if_pos rfl]
      exact ⟨mem, rfl, hQ, hW, hX⟩
    | false =>
      obtain ⟨mW, a1, a2⟩ := w_play hfu hW ho (mode := mode) (by omega)
      have a1' : KW_play np nb fu (zi mode) (fun j => mem (255 + j)) = some mW := a1
      obtain ⟨mem2, b1, b2⟩ := ih n (k + 1) (onS t mode) (mset 255 (nW np nb) mem mW) (by omega) (by omega) (CQ_w hQ) (WI_w a2 h0) (XO_on hW.2.1 hX ho mode)
      rw [if_pos (show zi (bi false) = 0 from rfl), if_neg (show ¬ false = true by decide), em, a1', bd_s, ltf, zs]
      exact ⟨mem2, b1, b2⟩
theorem ac_all (hfu : 100000 ≤ fu) (hL : L ≤ 260) (h0 : np = 0 → nb = 0) {i : Nat} (hi : i < 8) {s : Nat → Int} {u : Nat} {ps : Nat → Nat → Int} {mem : Mem} (hJ : JQ np nb mem s u ps) : ∃ mem2 s2 ps2 u2, KL_acts L xs np nb fu (zi (i : Int)) mem = some (1, mem2) ∧ JQ np nb mem2 s2 u2 ps2 := by
  obtain ⟨v, v1, v2⟩ := pick_some L xs fu (a := 340 + i) (k := 4000) (by omega) hL (by omega) (by omega)
  obtain ⟨z, z1, z2⟩ := pick_some L xs fu (a := 300 + i) (k := 7) (by omega) hL (by omega) (by omega)
  rw [nI_zi, nI_zi, nI_zi] at v2 z2
  have ad : ∀ k : Nat, zi ((k + i : Nat) : Int) = zi (k : Int) + zi (i : Int) := fun k => by
    rw [zi_add]
    rfl
  rw [ad] at v2 z2
  have v2' : KL_pick L xs fu (340 + zi (i : Int)) 4000 = some (zi (v : Int)) := v2
  have z2' : KL_pick L xs fu (300 + zi (i : Int)) 7 = some (zi (z : Int)) := z2
  have hov : KW_isOver np nb fu (fun j => mem (255 + j)) = some (zi (bi (ovB s))) := w_isOver hJ.2.1.1 hJ.2.1.2.1.2.1
  have z00 : zi ((0 : Nat) : Int) = (0 : Int32) := rfl
  unfold KL_acts
  rw [v2', bd_s, hov, bd_s]
  cases ho : ovB s with
  | true =>
    rw [if_neg (by decide), q_isOver hJ.1, bd_s, ho, if_neg (by decide)]
    obtain ⟨c1, a1, a2⟩ := q_play (fu := fu) (by omega) hJ.1 (mo := 0) (by omega) (n := 3) (by omega)
    have e : plS 0 3 s 0 = (s, 0) := by
      rw [plS, if_pos ho]
    rw [e] at a1 a2
    have a1' : K_X11_play fu 0 3 mem = some (0, zi ((0 : Nat) : Int), c1) := a1
    refine ⟨_, _, _, _, ?_, JQ_ask hJ a2⟩
    rw [a1', bdT_s, ltf, if_pos z00]
  | false =>
    rw [if_pos (show zi (bi false) = 0 from rfl), z2', bd_s]
    have h91 := ac_91 (L := L) (xs := xs) hfu h0 v1 ho hJ 4 5 0 (by omega) (by omega) (fun j hj => by omega)
    rw [z00] at h91
    have h211 := ac_211 (L := L) (xs := xs) hfu h0 v1 ho hJ
    have iz : ∀ k : Int, 0 ≤ k → k < 100 → (zi (z : Int) = zi k) = ((z : Int) = k) := fun k k0 k1 => zi_inj (by omega) (by omega) (by omega) (by omega)
    rcases (show z = 0 ∨ z = 1 ∨ z = 2 ∨ z = 3 ∨ z = 4 ∨ 5 ≤ z by omega) with rfl | rfl | rfl | rfl | rfl | hz
    · rw [if_pos (by decide)]
      exact h91
    · rw [if_neg (by decide), if_pos (by decide)]
      exact h91
    · rw [if_neg (by decide), if_neg (by decide), if_pos (by decide)]
      exact h91
    · rw [if_neg (by decide), if_neg (by decide), if_neg (by decide), if_pos (by decide)]
      exact h211
    · rw [if_neg (by decide), if_neg (by decide), if_neg (by decide), if_neg (by decide), if_pos (by decide)]
      exact h211
    · rw [if_neg (show ¬ zi (z : Int) = (0 : Int32) from fun q => by have := (iz 0 (by omega) (by omega)).mp q; omega), if_neg (show ¬ zi (z : Int) = (1 : Int32) from fun q => by have := (iz 1 (by omega) (by omega)).mp q; omega), if_neg (show ¬ zi (z : Int) = (2 : Int32) from fun q => by have := (iz 2 (by omega) (by omega)).mp q; omega), if_neg (show ¬ zi (z : Int) = (3 : Int32) from fun q => by have := (iz 3 (by omega) (by omega)).mp q; omega), if_neg (show ¬ zi (z : Int) = (4 : Int32) from fun q => by have := (iz 4 (by omega) (by omega)).mp q; omega)]
      obtain ⟨mem2, b1, b2, b3, b4⟩ := ac_352 (L := L) (xs := xs) hfu h0 v1 (mode := (v : Int) / 3 % 2) rfl (1 + v % 3) 4 0 s mem (by omega) (by omega) hJ.1 hJ.2.1 hJ.2.2
      rw [z00] at b1
      obtain ⟨c1, a1, a2⟩ := q_play (fu := fu) (by omega) b2 (mo := (v : Int) / 3 % 2) (by omega) (n := 1 + v % 3) (by omega)
      have et : (1 : Int32) + (zi (v : Int) - zi (v : Int) / 3 * 3) = zi ((1 + v % 3 : Nat) : Int) := by
        rw [show (3 : Int32) = zi 3 from rfl, zi_mod (by omega) (by omega) (by decide) (by decide), show (1 : Int32) = zi 1 from rfl, zi_add]
        exact congrArg zi (by omega)
      have em : zi (v : Int) / 3 - zi (v : Int) / 3 / 2 * 2 = zi ((v : Int) / 3 % 2) := by
        rw [show (3 : Int32) = zi 3 from rfl, show (2 : Int32) = zi 2 from rfl, zi_div (by omega) (by omega) (by decide) (by decide), zi_mod (by omega) (by omega) (by decide) (by decide)]
      refine ⟨_, _, _, _, ?_, CQ_c (mem := mem2) a2, by rw [lw_mc]; exact b3, b4⟩
      rw [b1]
      unfold KL_acts_386
      rw [em, et, a1, bdT_s, ltf, if_pos rfl]
/-- all eight turns, and the race played on -/
theorem it_all (hfu : 100000 ≤ fu) (hL : L ≤ 260) (h0 : np = 0 → nb = 0) : ∀ (q f i : Nat) (mem : Mem) (s : Nat → Int) (u : Nat) (ps : Nat → Nat → Int), i + q = 8 → q < f → JQ np nb mem s u ps → KL_it L xs np nb fu f (zi (i : Int)) mem = some 1 := by
  intro q
  induction q with
  | zero =>
    intro f i mem s u ps hi hf hJ
    obtain ⟨f, rfl⟩ : ∃ g, f = g + 1 := ⟨f - 1, by omega⟩
    obtain rfl : i = 8 := by omega
    obtain ⟨m2, a1⟩ := pl_all (L := L) (xs := xs) (fu := fu) (by omega) hJ
    rw [KL_it, if_neg (by decide), a1, bd_s]
  | succ q ih =>
    intro f i mem s u ps hi hf hJ
    obtain ⟨f, rfl⟩ : ∃ g, f = g + 1 := ⟨f - 1, by omega⟩
    have k1 : (zi (i : Int) < (8 : Int32)) = ((i : Int) < 8) := zi_lt (b_ := 8) (by omega) (by omega) (by decide) (by decide)
    obtain ⟨m1, s1, p1, u1, a1, a2⟩ := ac_all (L := L) (xs := xs) hfu hL h0 (i := i) (by omega) hJ
    obtain ⟨m2, b1, b2⟩ := fi_all (L := L) (xs := xs) (fu := fu) (by omega) a2
    obtain ⟨m3, c1, c2⟩ := ga_all (L := L) (xs := xs) (fu := fu) (by omega) b2
    obtain ⟨m4, p4, u4, d1, d2⟩ := bu_all (L := L) (xs := xs) (fu := fu) (by omega) hL (i := i) (by omega) c2
    have n1 : ¬ (1 : Int32) = 0 := by decide
    rw [KL_it, if_pos (by rw [k1]; omega), a1, bd_s, if_neg n1, b1, bd_s, if_neg n1, c1, bd_s, if_neg n1, d1, bd_s, if_neg n1, zs]
    exact ih f (i + 1) m4 s1 u4 p4 (by omega) (by omega) d2
end PGG
