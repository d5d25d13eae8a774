section REGS
/-- the class's search among cells that are not old -/
def CMo (O : Nat → Bool) (Jk : Nat → Int) (w : Nat) (mem : Mem) (t : BS) : Prop := (∀ c, c < 81 → rd mem (pDist w) c = zi (if O c = true then Jk c else t.1 c)) ∧ (∀ k, k < t.2.2 → rd mem (pQueue w) k = zi (t.2.1 k : Int)) ∧ rd mem (pWays w) 2 = zi (t.2.2 : Int) ∧ (∀ c, -1 ≤ t.1 c ∧ t.1 c ≤ 200) ∧ t.2.2 = cnt t.1 81
theorem CMo_push {O : Nat → Bool} {Jk : Nat → Int} {w : Nat} {mem : Mem} {t : BS} {c : Nat} {v : Int} (h : CMo O Jk w mem t) (hc : c < 81) (hO : O c = false) (ht : t.1 c = -1) (hv : 0 ≤ v) (hv2 : v ≤ 200) : CMo O Jk w (mw (mw (mw mem (pDist w) c (zi v)) (pQueue w) t.2.2 (zi (c : Int))) (pWays w) 2 (zi ((t.2.2 : Int) + 1))) (bpush t c v) ∧ Fr (PC w) mem (mw (mw (mw mem (pDist w) c (zi v)) (pQueue w) t.2.2 (zi (c : Int))) (pWays w) 2 (zi ((t.2.2 : Int) + 1))) := by
  obtain ⟨q1, q2, q3, q4, q5⟩ := h
  have n1 : pDist w ≠ pQueue w := by unfold pDist pQueue; omega
  have n2 : pDist w ≠ pWays w := by unfold pDist pWays; omega
  have n3 : pQueue w ≠ pWays w := by unfold pQueue pWays; omega
  unfold bpush
  rw [if_pos ht]
  refine ⟨⟨fun a ha => ?_, fun k hk => ?_, ?_, fun a => ?_, ?_⟩, Fr_tr (Fr_tr (Fr_mw _ _ (by unfold PC; simp)) (Fr_mw _ _ (by unfold PC; simp))) (Fr_mw _ _ (by unfold PC; simp))⟩
  · rw [rd_mw, if_neg (fun q => n2 q.1), rd_mw, if_neg (fun q => n1 q.1), rd_mw]
    show _ = zi (if O a = true then Jk a else (if a = c then v else t.1 a))
    by_cases q : a = c
    · rw [if_pos ⟨rfl, q⟩, if_pos q, q, hO, if_neg (by decide)]
    · rw [if_neg (fun q2 => q q2.2), if_neg q]
      exact q1 a ha
  · have hk2 : k < t.2.2 + 1 := hk
    rw [rd_mw, if_neg (fun q => n3 q.1), rd_mw]
    show _ = zi ((if k = t.2.2 then c else t.2.1 k : Nat) : Int)
    by_cases q : k = t.2.2
    · rw [if_pos ⟨rfl, q⟩, if_pos q]
    · rw [if_neg (fun q2 => q q2.2), if_neg q, rd_mw, if_neg (fun q => n1 q.1.symm)]
      exact q2 k (by omega)
  · rw [rd_mw, if_pos ⟨rfl, rfl⟩]
    rfl
  · show -1 ≤ (if a = c then v else t.1 a) ∧ (if a = c then v else t.1 a) ≤ 200
    have := q4 a
    split <;> omega
  · show t.2.2 + 1 = cnt (fun a => if a = c then v else t.1 a) 81
    rw [cnt_upd hc ht (by omega), q5]
theorem c_flo1 (fu w r n : Nat) (hw : w ≤ 1) (k3 : Int32 → Int32 → Int32 → Mem → Option Mem) {O : Nat → Bool} {Jk : Nat → Int} (hJ : ∀ c, O c = true → 0 ≤ Jk c ∧ Jk c ≤ 200) {mem : Mem} {s : Nat → Int} {t : BS} {u d : Nat} {tgt i : Int} (hR : RB mem r s) (hz : szO s) (h : CMo O Jk w mem t) (hu : u < 81) (hOu : O u = false) (hF : 0 ≤ t.1 u ∧ t.1 u ≤ 100) (hd : d < 4) : ∃ mem2, K_X10_flow_38 fu w r k3 (n + 1) (zi (-1)) (zi tgt) (zi i) (zi (u : Int)) (zi (d : Int)) mem = K_X10_flow_38 fu w r k3 n (zi (-1)) (zi tgt) (zi i) (zi (u : Int)) (zi ((d + 1 : Nat) : Int)) mem2 ∧ CMo O Jk w mem2 (bnb (opo s O) nbr t u d) ∧ Fr (PC w) mem mem2 := by
  have e := hR.2.2.2.2 u hu
  have e1 := h.1 u hu
  rw [if_neg (by rw [hOu]; decide)] at e1
  have e3 := h.2.2.1
  have n1 : pDist w ≠ pQueue w := by unfold pDist pQueue; omega
  have n2 : pDist w ≠ pWays w := by unfold pDist pWays; omega
  have n3 : pQueue w ≠ pWays w := by unfold pQueue pWays; omega
  have hdd := dxy d hd
  have h80 : ∀ (x2 x3 x4 x5 x6 x7 : Int32) (m : Mem), K_X10_flow_80 fu w r k3 (K_X10_flow_38 fu w r k3 n) x2 x3 x4 x5 x6 x7 m = K_X10_flow_38 fu w r k3 n x2 x3 x4 x5 (x6 + 1) m := fun _ _ _ _ _ _ _ => by unfold K_X10_flow_80 K_X10_flow_81; exact if_pos rfl
  rw [K_X10_flow_38]
  simp (disch := omega) only [zi_lit, zl_lit, zi_add, zi_sub, zi_mul, zi_neg, zi_lt, zi_inj, zi_clamp, zl_of, gi_zi, bd_s, ltf, bi_0, bi_1, gb_bi, Int.reduceToNat, Int.reduceNeg, Int.toNat_natCast, e, msk_bit _ hd, offV_z hd, h80]
  rw [if_pos (by omega)]
  unfold bnb opo
  by_cases ho : op s u d = true
  · have hn := op_nb hz hu hd ho
    have hnb : (u : Int) + (9 * dy (d : Int) + dx (d : Int)) = (nbr u d : Int) := op_off hz hu hd ho
    rw [hnb, if_neg (by rw [ho]; decide), if_neg (by omega)]
    have hv := h.1 _ hn.1
    have hb := h.2.2.2.1 (nbr u d)
    have hr1 := h.2.2.2.2
    have hn1 := hn.1
    unfold K_X10_flow_81
    rw [if_neg (by decide)]
    cases hO : O (nbr u d) with
    | true =>
      have hj := hJ _ hO
      rw [hO, if_pos rfl] at hv
      simp (disch := omega) only [zi_lit, zl_lit, zi_add, zi_sub, zi_mul, zi_neg, zi_lt, zi_inj, zi_clamp, zl_of, gi_zi, bd_s, ltf, bi_0, bi_1, gb_bi, Int.reduceToNat, Int.reduceNeg, Int.toNat_natCast, hv]
      rw [if_neg (by omega), if_pos (by omega), if_neg (by omega), if_neg (by simp)]
      exact ⟨mem, rfl, h, Fr_rf _ mem⟩
    | false =>
      rw [hO, if_neg (by decide)] at hv
      rw [if_pos (show (op s u d && !false) = true by rw [ho]; rfl)]
      by_cases ht : t.1 (nbr u d) = -1
      · have hr : t.2.2 < 81 := by
          rw [hr1]
          exact cnt_lt hn.1 ht
        obtain ⟨b1, b2⟩ := CMo_push h hn.1 hO ht (v := t.1 u + 1) (by omega) (by omega)
        rw [ht] at hv
        simp (disch := omega) only [zi_lit, zl_lit, zi_add, zi_sub, zi_mul, zi_neg, zi_lt, zi_inj, zi_clamp, zl_of, gi_zi, bd_s, ltf, bi_0, bi_1, gb_bi, Int.reduceToNat, Int.reduceNeg, Int.toNat_natCast, hv, e1, e3, rd_mw, n2.symm, n3.symm, false_and, ↓reduceIte]
        rw [if_neg (by omega), if_pos (by omega), if_pos (by omega)]
        exact ⟨_, rfl, b1, b2⟩
      · simp (disch := omega) only [zi_lit, zl_lit, zi_add, zi_sub, zi_mul, zi_neg, zi_lt, zi_inj, zi_clamp, zl_of, gi_zi, bd_s, ltf, bi_0, bi_1, gb_bi, Int.reduceToNat, Int.reduceNeg, Int.toNat_natCast, hv]
        rw [if_neg (by omega), if_pos (by omega), if_neg ht]
        unfold bpush
        rw [if_neg ht]
        exact ⟨mem, rfl, h, Fr_rf _ mem⟩
  · rw [if_pos (by simpa using ho), if_neg (by simp [ho])]
    exact ⟨mem, rfl, h, Fr_rf _ mem⟩
theorem c_flo4 (fu w r : Nat) (hfu : 1000 ≤ fu) (hw : w ≤ 1) (k3 : Int32 → Int32 → Int32 → Mem → Option Mem) {O : Nat → Bool} {Jk : Nat → Int} (hJ : ∀ c, O c = true → 0 ≤ Jk c ∧ Jk c ≤ 200) {mem : Mem} {s : Nat → Int} {t : BS} {u : Nat} {tgt i : Int} (hR : RB mem r s) (hz : szO s) (h : CMo O Jk w mem t) (hu : u < 81) (hOu : O u = false) (hF : 0 ≤ t.1 u ∧ t.1 u ≤ 100) : ∃ mem2, K_X10_flow_38 fu w r k3 fu (zi (-1)) (zi tgt) (zi i) (zi (u : Int)) (zi 0) mem = k3 (zi (-1)) (zi tgt) (zi (i + 1)) mem2 ∧ CMo O Jk w mem2 (bar (opo s O) nbr t u) ∧ Fr (PC w) mem mem2 := by
  obtain ⟨f, rfl⟩ : ∃ f, fu = f + 5 := ⟨fu - 5, by omega⟩
  have hne : t.1 u ≠ -1 := by omega
  have keep : ∀ (t2 : BS) (d : Nat), t2.1 u = t.1 u → (bnb (opo s O) nbr t2 u d).1 u = t.1 u := fun t2 d e => by rw [bnb_ne (by rw [e]; exact hne), e]
  have k1 := keep t 0 rfl
  have k2 := keep _ 1 k1
  have kk3 := keep _ 2 k2
  obtain ⟨m1, a1, b1, c1⟩ := c_flo1 (f + 5) w r (f + 4) hw k3 hJ (tgt := tgt) (i := i) hR hz h hu hOu hF (d := 0) (by decide)
  obtain ⟨m2, a2, b2, c2⟩ := c_flo1 (f + 5) w r (f + 3) hw k3 hJ (tgt := tgt) (i := i) (RB_fr c1 (PC_35 hw) hR) hz b1 hu hOu (by rw [k1]; exact hF) (d := 1) (by decide)
  have s2 := Fr_tr c1 c2
  obtain ⟨m3, a3, b3, c3⟩ := c_flo1 (f + 5) w r (f + 2) hw k3 hJ (tgt := tgt) (i := i) (RB_fr s2 (PC_35 hw) hR) hz b2 hu hOu (by rw [k2]; exact hF) (d := 2) (by decide)
  have s3 := Fr_tr s2 c3
  obtain ⟨m4, a4, b4, c4⟩ := c_flo1 (f + 5) w r (f + 1) hw k3 hJ (tgt := tgt) (i := i) (RB_fr s3 (PC_35 hw) hR) hz b3 hu hOu (by rw [kk3]; exact hF) (d := 3) (by decide)
  refine ⟨m4, ?_, b4, Fr_tr s3 c4⟩
  rw [show zi (0 : Int) = zi ((0 : Nat) : Int) from rfl, a1, a2, a3, a4, K_X10_flow_38]
  simp (disch := omega) only [zi_lit, zl_lit, zi_add, zi_sub, zi_mul, zi_neg, zi_lt, zi_inj, zi_clamp, zl_of, gi_zi, bd_s, ltf, bi_0, bi_1, gb_bi, Int.reduceToNat, Int.reduceNeg, Int.toNat_natCast]
  exact if_neg (by decide)
theorem c_flo3 (fu w r : Nat) (hfu : 1000 ≤ fu) (hw : w ≤ 1) {s : Nat → Int} (hz : szO s) {O : Nat → Bool} {Jk : Nat → Int} (hJ : ∀ c, O c = true → 0 ≤ Jk c ∧ Jk c ≤ 200) {S : Nat → Prop} : ∀ (q n i : Nat) (mem : Mem) (t : BS), i + q = 81 → q < n → RB mem r s → CMo O Jk w mem t → DJ O t → BI (opo s O) nbr S t i → ∃ mem2 t2, K_X10_flow_3 fu w r n (zi (-1)) (zi (-1)) (zi (i : Int)) mem = some mem2 ∧ CMo O Jk w mem2 t2 ∧ DJ O t2 ∧ BI (opo s O) nbr S t2 t2.2.2 ∧ Fr (PC w) mem mem2 := by
  intro q
  induction q with
  | zero =>
    intro n i mem t hi hn hR hC hD hI
    obtain ⟨n, rfl⟩ : ∃ f, n = f + 1 := ⟨n - 1, by omega⟩
    have hq : t.2.2 ≤ 81 := by rw [hI.2.2.1]; exact cnt_le _ _
    have hi2 : i ≤ t.2.2 := hI.2.2.2.2.2.2.2.2.2.1
    rw [K_X10_flow_3]
    simp (disch := omega) only [zi_lit, zl_lit, zi_add, zi_sub, zi_mul, zi_neg, zi_lt, zi_inj, zi_clamp, zl_of, gi_zi, bd_s, ltf, bi_0, bi_1, gb_bi, Int.reduceToNat, Int.reduceNeg, Int.toNat_natCast, hC.2.2.1]
    rw [if_neg (by omega)]
    exact ⟨mem, t, rfl, hC, hD, by rw [show t.2.2 = i by omega]; exact hI, Fr_rf _ mem⟩
  | succ q ih =>
    intro n i mem t hi hn hR hC hD hI
    obtain ⟨n, rfl⟩ : ∃ f, n = f + 1 := ⟨n - 1, by omega⟩
    have hq : t.2.2 ≤ 81 := by rw [hI.2.2.1]; exact cnt_le _ _
    have hi2 : i ≤ t.2.2 := hI.2.2.2.2.2.2.2.2.2.1
    rw [K_X10_flow_3]
    simp (disch := omega) only [zi_lit, zl_lit, zi_add, zi_sub, zi_mul, zi_neg, zi_lt, zi_inj, zi_clamp, zl_of, gi_zi, bd_s, ltf, bi_0, bi_1, gb_bi, Int.reduceToNat, Int.reduceNeg, Int.toNat_natCast, hC.2.2.1]
    by_cases c1 : i < t.2.2
    · rw [if_pos (by omega), if_pos (by omega)]
      have hu := hI.1 i c1
      have hu0 := hI.2.2.2.1 _ hu.2
      have hu1 := hI.2.2.2.2.2.2.2.2.2.2 i c1
      have hOu : O (t.2.1 i) = false := by
        cases h : O (t.2.1 i) with
        | false => rfl
        | true => exact absurd (hD _ h) hu.2
      rw [hC.2.1 i c1]
      have hul := hu.1
      simp (disch := omega) only [zi_lit, zl_lit, zi_add, zi_sub, zi_mul, zi_neg, zi_lt, zi_inj, zi_clamp, zl_of, gi_zi, bd_s, ltf, bi_0, bi_1, gb_bi, Int.reduceToNat, Int.reduceNeg, Int.toNat_natCast]
      rw [if_neg (by omega)]
      obtain ⟨m2, a1, a2, a3⟩ := c_flo4 fu w r hfu hw (K_X10_flow_3 fu w r n) hJ (tgt := -1) (i := (i : Int)) hR hz hC hu.1 hOu ⟨hu0, by omega⟩
      rw [a1]
      obtain ⟨mem2, t2, b1, b2, b3, b4, b5⟩ := ih n (i + 1) m2 _ (by omega) (by omega) (RB_fr a3 (PC_35 hw) hR) a2 (DJ_bar hD) (BI_step (opo_hg hz O) hI c1)
      exact ⟨mem2, t2, b1, b2, b3, b4, Fr_tr a3 b5⟩
    · rw [if_neg (by omega)]
      exact ⟨mem, t, rfl, hC, hD, by rw [show t.2.2 = i by omega]; exact hI, Fr_rf _ mem⟩
/-- cells that hang together -/
def cnx (s : Nat → Int) (a b : Nat) : Prop := ∃ n, Pth (op s) nbr (fun v => v = a) n b
theorem cnx_rf (s : Nat → Int) (a : Nat) : cnx s a a := ⟨0, rfl⟩
theorem cnx_tr {s : Nat → Int} {a b c : Nat} (h1 : cnx s a b) (h2 : cnx s b c) : cnx s a c := by
  obtain ⟨n, hn⟩ := h1
  obtain ⟨m, hm⟩ := h2
  exact ⟨n + m, Pth_app hn hm⟩
theorem cnx_sy {s : Nat → Int} (hz : szO s) {a b : Nat} (h : cnx s a b) : cnx s b a := by
  obtain ⟨n, hn⟩ := h
  exact ⟨n, Pth_rev (fun u d hd hg => ⟨opp d, opp_lt d, op_sym hz hd hg⟩) hn⟩
/-- the cells that hang together with one below c -/
def oldP (s : Nat → Int) (c v : Nat) : Prop := ∃ a, a < c ∧ isCl s (xo a) (yo a) = true ∧ cnx s a v
noncomputable def oldB (s : Nat → Int) (c v : Nat) : Bool := by
  classical
  exact decide (oldP s c v)
theorem oldB_t {s : Nat → Int} {c v : Nat} : oldB s c v = true ↔ oldP s c v := by
  unfold oldB
  simp
theorem oldB_f {s : Nat → Int} {c v : Nat} : oldB s c v = false ↔ ¬ oldP s c v := by
  unfold oldB
  simp
noncomputable def rgB (s : Nat → Int) (c : Nat) : Bool := isCl s (xo c) (yo c) && !oldB s c c
theorem old_s {s : Nat → Int} {c v : Nat} : oldP s (c + 1) v ↔ oldP s c v ∨ (isCl s (xo c) (yo c) = true ∧ cnx s c v) := by
  constructor
  · rintro ⟨a, h1, h2, h3⟩
    by_cases e : a = c
    · rw [e] at h2 h3
      exact Or.inr ⟨h2, h3⟩
    · exact Or.inl ⟨a, by omega, h2, h3⟩
  · rintro (⟨a, h1, h2, h3⟩ | ⟨h2, h3⟩)
    · exact ⟨a, by omega, h2, h3⟩
    · exact ⟨c, by omega, h2, h3⟩
theorem old_nc {s : Nat → Int} {c : Nat} (h : isCl s (xo c) (yo c) = false) : oldB s (c + 1) = oldB s c := by
  funext v9
  rw [Bool.eq_iff_iff, oldB_t, oldB_t, old_s]
  exact ⟨fun q => q.elim id (fun q => by rw [h] at q; exact absurd q.1 (by decide)), Or.inl⟩
theorem old_in {s : Nat → Int} {c : Nat} (h : oldB s c c = true) : oldB s (c + 1) = oldB s c := by
  funext v9
  rw [Bool.eq_iff_iff, oldB_t, oldB_t, old_s]
  refine ⟨fun q => q.elim id (fun q => ?_), Or.inl⟩
  obtain ⟨a, h1, h2, h3⟩ := oldB_t.mp h
  exact ⟨a, h1, h2, cnx_tr h3 q.2⟩
/-- a new region is laid wholly among cells that are not old -/
theorem old_pth {s : Nat → Int} (hz : szO s) {c : Nat} (h : oldB s c c = false) : ∀ {n v : Nat}, Pth (op s) nbr (fun b => b = c) n v → oldB s c v = false ∧ Pth (opo s (oldB s c)) nbr (fun b => b = c) n v := by
  have hno : ∀ v, cnx s c v → oldB s c v = false := fun v hv => by
    rw [oldB_f]
    rintro ⟨a, h1, h2, h3⟩
    exact oldB_f.mp h ⟨a, h1, h2, cnx_tr h3 (cnx_sy hz hv)⟩
  intro n
  induction n with
  | zero =>
    intro v hv
    exact ⟨by rw [show v = c from hv]; exact h, hv⟩
  | succ n ih =>
    rintro v ⟨u, d, hd, hp, hg, rfl⟩
    have h1 := hno _ ⟨n + 1, u, d, hd, hp, hg, rfl⟩
    refine ⟨h1, u, d, hd, (ih hp).2, ?_, rfl⟩
    unfold opo
    rw [hg, h1]
    rfl
/-- behind the search the old cells are those below the next one -/
theorem old_new {s : Nat → Int} (hz : szO s) {c : Nat} (hc : c < 81) (hcl : isCl s (xo c) (yo c) = true) (h : oldB s c c = false) {t : BS} (hI : BI (opo s (oldB s c)) nbr (fun b => b = c) t t.2.2) {v : Nat} (hv : v < 81) : oldB s (c + 1) v = true ↔ oldB s c v = true ∨ t.1 v ≠ -1 := by
  have e := BI_all (S := fun b => b = c) (fun a ha => by rw [show a = c from ha]; exact hc) (opo_hg hz (oldB s c)) hI hv
  rw [oldB_t, oldB_t, old_s, e, dlt_nn]
  constructor
  · rintro (q | ⟨-, n, q⟩)
    · exact Or.inl q
    · exact Or.inr ⟨n, (old_pth hz h q).2⟩
  · rintro (q | ⟨n, q⟩)
    · exact Or.inl q
    · exact Or.inr ⟨hcl, n, Pth_mono (fun _ _ g => (opo_op g).1) (fun _ g => g) q⟩
/-- the class's numbers for the cells below c -/
def JO (s : Nat → Int) (c : Nat) (Jk : Nat → Int) : Prop := ∀ v, v < 81 → (Jk v ≠ -1 ↔ oldB s c v = true) ∧ -1 ≤ Jk v ∧ Jk v ≤ 200
theorem JO_0 (s : Nat → Int) : JO s 0 (fun _ => -1) := fun v _ => ⟨⟨fun h => absurd rfl h, fun h => by
  obtain ⟨a, h1, _⟩ := oldB_t.mp h
  exact absurd h1 (Nat.not_lt_zero a)⟩, Int.le_refl _, (by decide : (-1 : Int) ≤ 200)⟩
theorem JO_up {s : Nat → Int} (hz : szO s) {c : Nat} (hc : c < 81) (hcl : isCl s (xo c) (yo c) = true) (h : oldB s c c = false) {t : BS} (hI : BI (opo s (oldB s c)) nbr (fun b => b = c) t t.2.2) (hb : ∀ v, -1 ≤ t.1 v ∧ t.1 v ≤ 200) {Jk : Nat → Int} (hJ : JO s c Jk) : JO s (c + 1) (fun v => if oldB s c v = true then Jk v else t.1 v) := fun v hv => by
  have h1 := hJ v hv
  have h2 := old_new hz hc hcl h hI hv
  have h3 := hb v
  show ((if oldB s c v = true then Jk v else t.1 v) ≠ -1 ↔ _) ∧ -1 ≤ (if oldB s c v = true then Jk v else t.1 v) ∧ (if oldB s c v = true then Jk v else t.1 v) ≤ 200
  by_cases q : oldB s c v = true
  · rw [if_pos q]
    exact ⟨⟨fun _ => h2.mpr (Or.inl q), fun _ => h1.1.mpr q⟩, h1.2⟩
  · rw [if_neg q]
    exact ⟨⟨fun g => h2.mpr (Or.inr g), fun g => (h2.mp g).elim (fun g2 => absurd g2 q) id⟩, h3⟩
theorem old_81 {s : Nat → Int} (hz : szO s) {c v : Nat} (hc : c ≤ 81) (h : oldB s c v = true) : v < 81 := by
  obtain ⟨a, h1, h2, n, h3⟩ := oldB_t.mp h
  cases n with
  | zero =>
    have : v = a := h3
    omega
  | succ n =>
    obtain ⟨u, d, hd, -, hg, rfl⟩ := h3
    exact (op_nb hz (op_lt hz hg) hd hg).1
theorem SI_one (g : Nat → Nat → Bool) (nb : Nat → Nat → Nat) {c : Nat} (hc : c < 81) : BI g nb (fun b => b = c) (bpush (fun _ => -1, fun _ => 0, 0) c 0) 0 := SI_BI (SI_push (S := fun b => b = c) (SI_0 (fun b => b = c) (fun _ => 0)) hc rfl) (fun a ha => by
  rw [show a = c from ha]
  exact bpush_self _ _ (by decide))
theorem one_F {c v : Nat} (h : (bpush (fun _ => -1, fun _ => 0, 0) c 0).1 v ≠ -1) : v = c := by
  by_cases e : v = c
  · exact e
  · refine absurd ?_ h
    show (if v = c then (0 : Int) else -1) = -1
    rw [if_neg e]
theorem c_rg17 (fu w r : Nat) (hfu : 1000 ≤ fu) (hw : w ≤ 1) {s : Nat → Int} (hz : szO s) : ∀ (q n c : Nat) (mem : Mem) (Jk : Nat → Int), c + q = 81 → q < n → RB mem r s → JO s c Jk → (∀ v, v < 81 → rd mem (pDist w) v = zi (Jk v)) → ∃ mem2, K_X10_countRegions_17 fu w r n (zi (cnB (rgB s) c : Int)) (zi (c : Int)) mem = some (zi (cnB (rgB s) 81 : Int), mem2) ∧ Fr (PC w) mem mem2 := by
  intro q
  induction q with
  | zero =>
    intro n c mem Jk hcq hn hR hJ hD
    obtain ⟨n, rfl⟩ : ∃ f, n = f + 1 := ⟨n - 1, by omega⟩
    obtain rfl : c = 81 := by omega
    rw [K_X10_countRegions_17]
    simp (disch := omega) only [zi_lit, zl_lit, zi_add, zi_sub, zi_mul, zi_neg, zi_lt, zi_inj, zi_clamp, zl_of, gi_zi, bd_s, ltf, bi_0, bi_1, gb_bi, Int.reduceToNat, Int.reduceNeg, Int.toNat_natCast]
    rw [if_neg (by decide)]
    exact ⟨mem, rfl, Fr_rf _ mem⟩
  | succ q ih =>
    intro n c mem Jk hcq hn hR hJ hD
    obtain ⟨n, rfl⟩ : ∃ f, n = f + 1 := ⟨n - 1, by omega⟩
    have hc : c < 81 := by omega
    have hxc := xy_lt hc
    have ex : (c : Int) - (c : Int) / 9 * 9 = xo c := by unfold xo; omega
    have ey : (c : Int) / 9 = yo c := by unfold yo; omega
    have hj := hJ c hc
    rw [K_X10_countRegions_17]
    simp (disch := omega) only [zi_lit, zl_lit, zi_add, zi_sub, zi_mul, zi_neg, zi_lt, zi_inj, zi_clamp, zl_of, gi_zi, bd_s, ltf, bi_0, bi_1, gb_bi, Int.reduceToNat, Int.reduceNeg, Int.toNat_natCast, zi_div]
    rw [if_pos (by omega), ex, ey]
    simp (disch := omega) only [zi_lit, zl_lit, zi_add, zi_sub, zi_mul, zi_neg, zi_lt, zi_inj, zi_clamp, zl_of, gi_zi, bd_s, ltf, bi_0, bi_1, gb_bi, Int.reduceToNat, Int.reduceNeg, Int.toNat_natCast, c_hasCell fu r hR hz, hD c hc]
    cases hcl : isCl s (xo c) (yo c) with
    | false =>
      rw [if_pos rfl]
      obtain ⟨m2, b1, b2⟩ := ih n (c + 1) mem Jk (by omega) (by omega) hR (by unfold JO; rw [old_nc hcl]; exact hJ) hD
      rw [cnB, show rgB s c = false by unfold rgB; rw [hcl]; rfl, if_neg (by decide), Nat.add_zero] at b1
      exact ⟨m2, b1, b2⟩
    | true =>
      rw [if_neg (by decide)]
      by_cases c1 : Jk c = -1
      · have hno : oldB s c c = false := by
          cases h : oldB s c c with
          | false => rfl
          | true => exact absurd c1 (hj.1.mpr h)
        rw [if_pos c1]
        have n2 : pDist w ≠ pWays w := by unfold pDist pWays; omega
        have f0 : Fr (PC w) mem (mw mem (pWays w) 2 (zi 0)) := Fr_mw _ _ (by unfold PC; simp)
        have hC0 : CMo (oldB s c) Jk w (mw mem (pWays w) 2 (zi 0)) (fun _ => -1, fun _ => 0, 0) := by
          refine ⟨fun v hv => ?_, fun k hk => absurd hk (Nat.not_lt_zero k), by rw [rd_mw, if_pos ⟨rfl, rfl⟩]; rfl, fun v => ⟨Int.le_refl _, (by decide : (-1 : Int) ≤ 200)⟩, (cnt_none 81).symm⟩
          rw [rd_mw, if_neg (fun h => n2 h.1), hD v hv]
          by_cases q1 : oldB s c v = true
          · rw [if_pos q1]
          · rw [if_neg q1]
            have := (hJ v hv).1
            by_cases q2 : Jk v = -1
            · rw [q2]
            · exact absurd (this.mp q2) q1
        have hJ2 : ∀ v, oldB s c v = true → 0 ≤ Jk v ∧ Jk v ≤ 200 := fun v h => by
          have h1 := hJ v (old_81 hz (by omega) h)
          have := h1.1.mpr h
          omega
        obtain ⟨b1, b2⟩ := CMo_push hC0 hc hno rfl (v := 0) (by omega) (by omega)
        obtain ⟨m1, hm1⟩ : ∃ m, m = mw (mw (mw (mw mem (pWays w) 2 (zi 0)) (pDist w) c (zi 0)) (pQueue w) 0 (zi (c : Int))) (pWays w) 2 (zi 1) := ⟨_, rfl⟩
        have b1' : CMo (oldB s c) Jk w m1 (bpush (fun _ => -1, fun _ => 0, 0) c 0) := by
          rw [hm1]
          exact b1
        have b2' : Fr (PC w) mem m1 := by
          rw [hm1]
          exact Fr_tr f0 b2
        have ebeg : K_X10_beginAt fu w (zi (c : Int)) (mw mem (pWays w) 2 (zi 0)) = some m1 := by
          have n1 : pDist w ≠ pQueue w := by unfold pDist pQueue; omega
          have n3 : pQueue w ≠ pWays w := by unfold pQueue pWays; omega
          rw [hm1]
          unfold K_X10_beginAt
          simp (disch := omega) only [zi_lit, zl_lit, zi_add, zi_sub, zi_mul, zi_neg, zi_lt, zi_inj, zi_clamp, zl_of, gi_zi, bd_s, ltf, bi_0, bi_1, gb_bi, Int.reduceToNat, Int.reduceNeg, Int.toNat_natCast, rd_mw, n2.symm, n3.symm, false_and, true_and, ↓reduceIte]
          rw [if_neg (by omega), if_pos (by omega), if_pos (by decide)]
          rfl
        obtain ⟨m2, t2, d1, d2, d3, d4, d5⟩ := c_flo3 fu w r hfu hw hz (O := oldB s c) (Jk := Jk) hJ2 (S := fun b => b = c) 81 fu 0 m1 (bpush (fun _ => -1, fun _ => 0, 0) c 0) (by omega) (by omega) (RB_fr b2' (PC_35 hw) hR) b1' (fun v hv => by
          by_cases e : (bpush (fun _ => -1, fun _ => 0, 0) c 0).1 v = -1
          · exact e
          · rw [one_F e, hno] at hv
            cases hv) (SI_one _ _ hc)
        have d1' : K_X10_flow fu w r (zi (-1)) (zi (-1)) m1 = some m2 := by
          unfold K_X10_flow
          rw [show K_X10_flow_3 fu w r fu (zi (-1)) (zi (-1)) 0 m1 = some m2 from d1]
        obtain ⟨m3, g1, g2⟩ := ih n (c + 1) m2 (fun v => if oldB s c v = true then Jk v else t2.1 v) (by omega) (by omega) (RB_fr d5 (PC_35 hw) (RB_fr b2' (PC_35 hw) hR)) (JO_up hz hc hcl hno d4 d2.2.2.2.1 hJ) d2.1
        rw [cnB, show rgB s c = true by unfold rgB; rw [hcl, hno]; rfl, if_pos rfl] at g1
        rw [ebeg]
        simp only [zi_lit, zl_lit, zi_add, zi_sub, zi_mul, zi_neg, zi_lt, zi_inj, zi_clamp, zl_of, gi_zi, bd_s, ltf, bi_0, bi_1, gb_bi, Int.reduceToNat, Int.reduceNeg, Int.toNat_natCast]
        rw [d1']
        exact ⟨m3, g1, Fr_tr (Fr_tr b2' d5) g2⟩
      · rw [if_neg c1]
        have hyes := hj.1.mp c1
        obtain ⟨m2, b1, b2⟩ := ih n (c + 1) mem Jk (by omega) (by omega) hR (by unfold JO; rw [old_in hyes]; exact hJ) hD
        rw [cnB, show rgB s c = false by unfold rgB; rw [hyes]; cases isCl s (xo c) (yo c) <;> rfl, if_neg (by decide), Nat.add_zero] at b1
        exact ⟨m2, b1, b2⟩
theorem c_regions (fu w r : Nat) (hfu : 1000 ≤ fu) (hw : w ≤ 1) {s : Nat → Int} (hz : szO s) {mem : Mem} (hR : RB mem r s) : ∃ mem2, K_X10_countRegions fu w r mem = some (zi (cnB (rgB s) 81 : Int), mem2) ∧ Fr (PC w) mem mem2 := by
  have n2 : pDist w ≠ pWays w := by unfold pDist pWays; omega
  obtain ⟨m1, a1, a2, a3⟩ := c_fill fu (pDist w) 81 (zi (-1)) (by omega) (by omega) mem
  have f1 : Fr (PC w) mem (mw m1 (pWays w) 2 (zi 0)) := Fr_tr (Fr_mono a3 (fun k j h => by
    unfold PC at h
    rw [Bool.or_eq_false_iff, Bool.or_eq_false_iff] at h
    exact h.1.1)) (Fr_mw _ _ (by unfold PC; simp))
  obtain ⟨m2, b1, b2⟩ := c_rg17 fu w r hfu hw hz 81 fu 0 (mw m1 (pWays w) 2 (zi 0)) (fun _ => -1) (by omega) (by omega) (RB_fr f1 (PC_35 hw) hR) (JO_0 s) (fun v hv => by
    rw [rd_mw, if_neg (fun h => n2 h.1), a2 v, if_pos hv])
  unfold K_X10_countRegions
  simp only [zi_lit, zl_lit, zi_add, zi_sub, zi_mul, zi_neg, zi_lt, zi_inj, zi_clamp, zl_of, gi_zi, bd_s, ltf, bi_0, bi_1, gb_bi, Int.reduceToNat, Int.reduceNeg, Int.toNat_natCast]
  rw [a1]
  exact ⟨m2, b1, Fr_tr f1 b2⟩
/-- the reference's -/
theorem m_rg95 (fu : Nat) (hfu : 1000 ≤ fu) {s : Nat → Int} (hz : szO s) (hW : wlO s) (k35 : Int32 → Int32 → Mem → Option (Int32 × Mem)) (k47 : Int32 → Int32 → Int32 → Mem → Option (Int32 × Mem)) {O : Nat → Bool} {Jk : Nat → Int} {o : Nat} (hO : OKo O Jk o) {S : Nat → Prop} {x1 x2 x3 : Int} : ∀ (r n i : Nat) (mem : Mem) (t : BS), i + r = 81 → r < n → MS mem s → BMo O Jk o mem t → DJ O t → CL s t → BI (opo s O) nbr S t i → ∃ mem2 t2, K_X12_regions_95 fu k35 k47 n (zi x1) (zi x2) (zi x3) (zi ((o + i : Nat) : Int)) mem = k47 (zi x1) (zi x2) (zi (x3 + 1)) mem2 ∧ BMo O Jk o mem2 t2 ∧ DJ O t2 ∧ BI (opo s O) nbr S t2 t2.2.2 ∧ Fr PB mem mem2 := by
  have fin : ∀ (n i : Nat) (mem : Mem) (t : BS), BMo O Jk o mem t → DJ O t → BI (opo s O) nbr S t i → ¬ i < t.2.2 → i ≤ 81 → ∃ mem2 t2, K_X12_regions_95 fu k35 k47 (n + 1) (zi x1) (zi x2) (zi x3) (zi ((o + i : Nat) : Int)) mem = k47 (zi x1) (zi x2) (zi (x3 + 1)) mem2 ∧ BMo O Jk o mem2 t2 ∧ DJ O t2 ∧ BI (opo s O) nbr S t2 t2.2.2 ∧ Fr PB mem mem2 := fun n i mem t hB hD hI hlt hi => by
    have hi2 : i ≤ t.2.2 := hI.2.2.2.2.2.2.2.2.2.1
    have e : i = t.2.2 := by omega
    have hcap := cap_le hD 81
    have ho := hO.2
    rw [K_X12_regions_95]
    simp (disch := omega) only [zi_lit, zl_lit, zi_add, zi_sub, zi_mul, zi_neg, zi_lt, zi_inj, zi_clamp, zl_of, gi_zi, bd_s, ltf, bi_0, bi_1, gb_bi, Int.reduceToNat, Int.reduceNeg, Int.toNat_natCast, hB.2.2.1]
    rw [if_neg (by omega)]
    exact ⟨mem, t, rfl, hB, hD, by rw [← e]; exact hI, Fr_rf PB mem⟩
  intro r
  induction r with
  | zero =>
    intro n i mem t hi hn hS hB hD hcl hI
    obtain ⟨n, rfl⟩ : ∃ f, n = f + 1 := ⟨n - 1, by omega⟩
    have hq : t.2.2 ≤ 81 := by rw [hI.2.2.1]; exact cnt_le _ _
    exact fin n i mem t hB hD hI (by omega) (by omega)
  | succ r ih =>
    intro n i mem t hi hn hS hB hD hcl hI
    obtain ⟨n, rfl⟩ : ∃ f, n = f + 1 := ⟨n - 1, by omega⟩
    by_cases c1 : i < t.2.2
    · have hu := hI.1 i c1
      have hul := hu.1
      have hu0 := hI.2.2.2.1 _ hu.2
      have hu1 := hI.2.2.2.2.2.2.2.2.2.2 i c1
      have hcap := cap_le hD 81
      have ho := hO.2
      have hcnt := hI.2.2.1
      have hOu : O (t.2.1 i) = false := by
        cases h : O (t.2.1 i) with
        | false => rfl
        | true => exact absurd (hD _ h) hu.2
      obtain ⟨m2, a1, a2, a3⟩ := mo_ga fu hfu hO hS hz hW hB hD hul hOu (hcl _ hul hu.2) ⟨hu0, by omega⟩
      obtain ⟨m3, t3, b1, b2, b3, b4, b5⟩ := ih n (i + 1) m2 _ (by omega) (by omega) (MS_fr a3 PB_2 hS) a2 (DJ_bar hD) (CL_bar hz hul hcl) (BI_step (opo_hg hz O) hI c1)
      rw [K_X12_regions_95]
      simp (disch := omega) only [zi_lit, zl_lit, zi_add, zi_sub, zi_mul, zi_neg, zi_lt, zi_inj, zi_clamp, zl_of, gi_zi, bd_s, ltf, bi_0, bi_1, gb_bi, Int.reduceToNat, Int.reduceNeg, Int.toNat_natCast, hB.2.2.1, hB.2.1 i c1, a1]
      rw [if_pos (by omega)]
      exact ⟨m3, t3, b1, b2, b3, b4, Fr_tr a3 b5⟩
    · exact fin n i mem t hB hD hI c1 (by omega)
theorem cnB_or {P Q : Nat → Bool} : ∀ {n : Nat}, (∀ v, v < n → P v = true → Q v = false) → cnB (fun v => P v || Q v) n = cnB P n + cnB Q n := by
  intro n
  induction n with
  | zero => exact fun _ => rfl
  | succ n ih =>
    intro h
    rw [cnB, cnB, cnB, ih (fun v hv => h v (by omega))]
    cases hP : P n with
    | true =>
      rw [h n (by omega) hP]
      simp
      omega
    | false => cases Q n <;> simp <;> omega
theorem old_gap {s : Nat → Int} {a : Nat} : ∀ (r : Nat), (∀ k, a ≤ k → k < a + r → isCl s (xo k) (yo k) = false) → oldB s (a + r) = oldB s a ∧ cnB (rgB s) (a + r) = cnB (rgB s) a := by
  intro r
  induction r with
  | zero => exact fun _ => ⟨rfl, rfl⟩
  | succ r ih =>
    intro h
    obtain ⟨h1, h2⟩ := ih (fun k k1 k2 => h k k1 (by omega))
    have h3 := h (a + r) (by omega) (by omega)
    refine ⟨(old_nc h3).trans h1, ?_⟩
    rw [show a + (r + 1) = a + r + 1 from rfl, cnB, h2, show rgB s (a + r) = false by unfold rgB; rw [h3]; rfl]
    rfl
/-- the reference, where it stands -/
def RGM (s : Nat → Int) (mem : Mem) (c : Nat) : Prop := ∃ (Jk : Nat → Int) (o : Nat), JO s c Jk ∧ o ≤ cnB (oldB s c) 81 ∧ (∀ v, v < 81 → rd mem 7 v = zi (Jk v)) ∧ rd mem 0 22 = zi (o : Int)
theorem m_rg47 (fu : Nat) (hfu : 1000 ≤ fu) {s : Nat → Int} (hz : szO s) (hW : wlO s) (k35 : Int32 → Int32 → Mem → Option (Int32 × Mem)) {y : Int} (hy : 0 ≤ y ∧ y < s 1) : ∀ (q n : Nat) (x : Int) (mem : Mem), x + q = s 0 → q < n → 0 ≤ x → MS mem s → RGM s mem (9 * y + x).toNat → ∃ mem2, K_X12_regions_47 fu k35 n (zi (cnB (rgB s) (9 * y + x).toNat : Int)) (zi y) (zi x) mem = k35 (zi (cnB (rgB s) (9 * (y + 1)).toNat : Int)) (zi (y + 1)) mem2 ∧ RGM s mem2 (9 * (y + 1)).toNat ∧ Fr PB mem mem2 := by
  have hz2 := hz
  obtain ⟨⟨w1, w2⟩, w3, w4⟩ := hz2
  intro q
  induction q with
  | zero =>
    intro n x mem hx hn hx0 hS hG
    obtain ⟨n, rfl⟩ : ∃ f, n = f + 1 := ⟨n - 1, by omega⟩
    obtain ⟨g1, g2⟩ := old_gap (s := s) (a := (9 * y + x).toNat) ((9 * (y + 1)).toNat - (9 * y + x).toNat) (fun k h1 h2 => no_cl hz hy.1 (by omega) (by omega))
    rw [show (9 * y + x).toNat + ((9 * (y + 1)).toNat - (9 * y + x).toNat) = (9 * (y + 1)).toNat by omega] at g1 g2
    rw [K_X12_regions_47]
    simp (disch := omega) only [zi_lit, zl_lit, zi_add, zi_sub, zi_mul, zi_neg, zi_lt, zi_inj, zi_clamp, zl_of, gi_zi, bd_s, ltf, bi_0, bi_1, gb_bi, Int.reduceToNat, Int.reduceNeg, Int.toNat_natCast, hS _]
    rw [if_neg (by omega), ← g2]
    refine ⟨mem, rfl, ?_, Fr_rf _ mem⟩
    unfold RGM JO
    rw [g1]
    exact hG
  | succ q ih =>
    intro n x mem hx hn hx0 hS hG
    obtain ⟨n, rfl⟩ : ∃ f, n = f + 1 := ⟨n - 1, by omega⟩
    obtain ⟨Jk, o, hJ, ho, hD, h22⟩ := hG
    have hxy : isCl s x y = true := isCl_iff.mpr ⟨⟨hx0, by omega⟩, hy.1, by omega⟩
    have hcn := cl_nat hz hxy
    obtain ⟨c, hcd⟩ : ∃ c : Nat, c = (9 * y + x).toNat := ⟨_, rfl⟩
    rw [← hcd] at hcn hJ ho ⊢
    have hc : c < 81 := hcn.2.2.2.2.1
    have hcl : isCl s (xo c) (yo c) = true := by
      rw [hcn.2.2.2.2.2.1, hcn.2.2.2.2.2.2]
      exact hxy
    have hj := hJ c hc
    have ec : 9 * y + x = (c : Int) := by omega
    have ec1 : (9 * y + (x + 1)).toNat = c + 1 := by omega
    have h81 := cnB_le (oldB s c) 81
    rw [K_X12_regions_47]
    simp (disch := omega) only [zi_lit, zl_lit, zi_add, zi_sub, zi_mul, zi_neg, zi_lt, zi_inj, zi_clamp, zl_of, gi_zi, bd_s, ltf, bi_0, bi_1, gb_bi, Int.reduceToNat, Int.reduceNeg, Int.toNat_natCast, hS _, ec, hD c hc, h22]
    rw [if_pos (by omega)]
    by_cases c1 : Jk c = -1
    · have hno : oldB s c c = false := by
        cases h : oldB s c c with
        | false => rfl
        | true => exact absurd c1 (hj.1.mpr h)
      rw [if_pos c1]
      have hO : OKo (oldB s c) Jk o := ⟨fun v h => by
        have h1 := hJ v (old_81 hz (by omega) h)
        have := h1.1.mpr h
        omega, ho⟩
      have hB0 : BMo (oldB s c) Jk o mem (fun _ => -1, fun _ => 0, 0) := by
        refine ⟨fun v hv => ?_, fun k hk => absurd hk (Nat.not_lt_zero k), h22, fun v => ⟨Int.le_refl _, (by decide : (-1 : Int) ≤ 200)⟩, (cnt_none 81).symm⟩
        rw [hD v hv]
        by_cases q1 : oldB s c v = true
        · rw [if_pos q1]
        · rw [if_neg q1]
          have := (hJ v hv).1
          by_cases q2 : Jk v = -1
          · rw [q2]
          · exact absurd (this.mp q2) q1
      obtain ⟨m1, a1, a2, a3⟩ := mo_into fu hO hB0 (fun _ _ => rfl) (x := x) (y := y) (v := 0) (by omega) (by omega) (by omega) (by omega) (by omega) (by omega)
      rw [← hcd, hno, if_neg (by decide)] at a2
      obtain ⟨m2, t2, b1, b2, b3, b4, b5⟩ := m_rg95 fu hfu hz hW k35 (K_X12_regions_47 fu k35 n) hO (S := fun b => b = c) (x1 := (cnB (rgB s) c : Int) + 1) (x2 := y) (x3 := x) 81 fu 0 m1 _ (by omega) (by omega) (MS_fr a3 PB_2 hS) a2 (fun v hv => by
        by_cases e : (bpush (fun _ => -1, fun _ => 0, 0) c 0).1 v = -1
        · exact e
        · rw [one_F e, hno] at hv
          cases hv) (fun v hv hF => by rw [one_F hF]; exact hcl) (SI_one _ _ hc)
      have hnew : cnB (oldB s (c + 1)) 81 = cnB (oldB s c) 81 + t2.2.2 := by
        rw [b4.2.2.1, cnt_cnB, ← cnB_or (P := oldB s c) (fun v _ h => decide_eq_false (fun q => q (b3 v h)))]
        refine cnB_same (fun v hv => ?_)
        rw [Bool.eq_iff_iff, Bool.or_eq_true, decide_eq_true_iff]
        exact old_new hz hc hcl hno b4 hv
      obtain ⟨m3, d1, d2, d3⟩ := ih n (x + 1) m2 (by omega) (by omega) (by omega) (MS_fr b5 PB_2 (MS_fr a3 PB_2 hS)) ⟨fun v => if oldB s c v = true then Jk v else t2.1 v, o + t2.2.2, by rw [ec1]; exact JO_up hz hc hcl hno b4 b2.2.2.2.1 hJ, by rw [ec1, hnew]; omega, b2.1, b2.2.2.1⟩
      rw [ec1, cnB, show rgB s c = true by unfold rgB; rw [hcl, hno]; rfl, if_pos rfl] at d1
      rw [a1]
      simp only [zi_lit, zl_lit, zi_add, zi_sub, zi_mul, zi_neg, zi_lt, zi_inj, zi_clamp, zl_of, gi_zi, bd_s, ltf, bi_0, bi_1, gb_bi, Int.reduceToNat, Int.reduceNeg, Int.toNat_natCast]
      refine ⟨m3, ?_, d2, Fr_tr (Fr_tr a3 b5) d3⟩
      exact b1.trans d1
    · rw [if_neg c1]
      have hyes := hj.1.mp c1
      obtain ⟨m2, b1, b2, b3⟩ := ih n (x + 1) mem (by omega) (by omega) (by omega) hS ⟨Jk, o, by rw [ec1]; unfold JO; rw [old_in hyes]; exact hJ, by rw [ec1, old_in hyes]; exact ho, hD, h22⟩
      rw [ec1, cnB, show rgB s c = false by unfold rgB; rw [hyes, hcl]; rfl, if_neg (by decide), Nat.add_zero] at b1
      exact ⟨m2, b1, b2, b3⟩
theorem m_rg35 (fu : Nat) (hfu : 1000 ≤ fu) {s : Nat → Int} (hz : szO s) (hW : wlO s) : ∀ (q n : Nat) (y : Int) (mem : Mem), y + q = s 1 → q < n → 0 ≤ y → MS mem s → RGM s mem (9 * y).toNat → ∃ mem2, K_X12_regions_35 fu n (zi (cnB (rgB s) (9 * y).toNat : Int)) (zi y) mem = some (zi (cnB (rgB s) 81 : Int), mem2) ∧ Fr PB mem mem2 := by
  have hz2 := hz
  obtain ⟨⟨w1, w2⟩, w3, w4⟩ := hz2
  intro q
  induction q with
  | zero =>
    intro n y mem hx hn hx0 hS hG
    obtain ⟨n, rfl⟩ : ∃ f, n = f + 1 := ⟨n - 1, by omega⟩
    obtain ⟨g1, g2⟩ := old_gap (s := s) (a := (9 * y).toNat) (81 - (9 * y).toNat) (fun k h1 h2 => no_cl2 hz (by omega) (by omega))
    rw [show (9 * y).toNat + (81 - (9 * y).toNat) = 81 by omega] at g2
    rw [K_X12_regions_35]
    simp (disch := omega) only [zi_lit, zl_lit, zi_add, zi_sub, zi_mul, zi_neg, zi_lt, zi_inj, zi_clamp, zl_of, gi_zi, bd_s, ltf, bi_0, bi_1, gb_bi, Int.reduceToNat, Int.reduceNeg, Int.toNat_natCast, hS _]
    rw [if_neg (by omega), ← g2]
    exact ⟨mem, rfl, Fr_rf _ mem⟩
  | succ q ih =>
    intro n y mem hx hn hx0 hS hG
    obtain ⟨n, rfl⟩ : ∃ f, n = f + 1 := ⟨n - 1, by omega⟩
    obtain ⟨m1, a1, a2, a3⟩ := m_rg47 fu hfu hz hW (K_X12_regions_35 fu n) (y := y) ⟨hx0, by omega⟩ (s 0).toNat fu 0 mem (by omega) (by omega) (by omega) hS (by rw [Int.add_zero]; exact hG)
    obtain ⟨m2, b1, b2⟩ := ih n (y + 1) m1 (by omega) (by omega) (by omega) (MS_fr a3 PB_2 hS) a2
    rw [Int.add_zero] at a1
    rw [K_X12_regions_35]
    simp (disch := omega) only [zi_lit, zl_lit, zi_add, zi_sub, zi_mul, zi_neg, zi_lt, zi_inj, zi_clamp, zl_of, gi_zi, bd_s, ltf, bi_0, bi_1, gb_bi, Int.reduceToNat, Int.reduceNeg, Int.toNat_natCast, hS _]
    rw [if_pos (by omega)]
    exact ⟨m2, a1.trans b1, Fr_tr a3 b2⟩
theorem m_rg14 (fu : Nat) (hfu : 1000 ≤ fu) {s : Nat → Int} (hz : szO s) (hW : wlO s) : ∀ (q n k : Nat) (mem : Mem), k + q = 81 → q < n → MS mem s → rd mem 0 22 = zi 0 → (∀ v, v < k → rd mem 7 v = zi (-1)) → ∃ mem2, K_X12_regions_14 fu n (zi 0) (zi (k : Int)) mem = some (zi (cnB (rgB s) 81 : Int), mem2) ∧ Fr PB mem mem2 := by
  have hz2 := hz
  obtain ⟨⟨w1, w2⟩, w3, w4⟩ := hz2
  intro q
  induction q with
  | zero =>
    intro n k mem hk hn hS h22 hN
    obtain ⟨n, rfl⟩ : ∃ f, n = f + 1 := ⟨n - 1, by omega⟩
    obtain ⟨m2, b1, b2⟩ := m_rg35 fu hfu hz hW (s 1).toNat fu 0 mem (by omega) (by omega) (by omega) hS ⟨fun _ => -1, 0, JO_0 s, Nat.zero_le _, fun v hv => hN v (by omega), h22⟩
    rw [K_X12_regions_14]
    simp (disch := omega) only [zi_lit, zl_lit, zi_add, zi_sub, zi_mul, zi_neg, zi_lt, zi_inj, zi_clamp, zl_of, gi_zi, bd_s, ltf, bi_0, bi_1, gb_bi, Int.reduceToNat, Int.reduceNeg, Int.toNat_natCast]
    rw [if_neg (by omega)]
    exact ⟨m2, b1, b2⟩
  | succ q ih =>
    intro n k mem hk hn hS h22 hN
    obtain ⟨n, rfl⟩ : ∃ f, n = f + 1 := ⟨n - 1, by omega⟩
    have f1 : Fr PB mem (mw mem 7 k (zi (-1))) := Fr_mw _ _ rfl
    obtain ⟨m2, b1, b2⟩ := ih n (k + 1) (mw mem 7 k (zi (-1))) (by omega) (by omega) (MS_fr f1 PB_2 hS) (by rw [rd_mw, if_neg (fun h => absurd h.1 (by decide))]; exact h22) (fun v hv => by
      rw [rd_mw]
      by_cases q1 : v = k
      · rw [if_pos ⟨rfl, q1⟩]
      · rw [if_neg (fun h => q1 h.2)]
        exact hN v (by omega))
    rw [K_X12_regions_14]
    simp (disch := omega) only [zi_lit, zl_lit, zi_add, zi_sub, zi_mul, zi_neg, zi_lt, zi_inj, zi_clamp, zl_of, gi_zi, bd_s, ltf, bi_0, bi_1, gb_bi, Int.reduceToNat, Int.reduceNeg, Int.toNat_natCast]
    rw [if_pos (by omega)]
    exact ⟨m2, b1, Fr_tr f1 b2⟩
end REGS
