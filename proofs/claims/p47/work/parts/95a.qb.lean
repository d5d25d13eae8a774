section QBB
def FLc (c : Mem) (b1 b2 : Bool) (w : Int) : Prop := rd c 7 5 = zi (bi b1) ∧ rd c 7 6 = zi (bi b2) ∧ rd c 7 7 = zi w
/-- the name of a pawn, packed -/
def nmV (i : Nat) : Nat := pkW ([97 + i] ++ if i % 2 = 1 then [97, 116] else [])
def NMc (c : Mem) (T : Nat → Int) (L u : Nat) (nm : Nat → Nat) : Prop := ∀ i, i < u → kkP T L (nm i) = 1 ∧ nm i ≤ 700 ∧ rd c 8 i = zi (nm i : Int) ∧ rd c 9 i = zi (tzi T L (nm i) : Int) ∧ nmW T L (nm i) = nmV i
/-- the class has read so far -/
def RSx (c : Mem) (T : Nat → Int) (L N n j : Nat) (s : Nat → Int) (u : Nat) (b1 b2 : Bool) (w : Int) (nm : Nat → Nat) : Prop := (CAr c T L N n ∧ Epo T L n j ∧ n ≤ j ∧ j ≤ L ∧ L ≤ 500) ∧ RC c 1 s ∧ FLc c b1 b2 w ∧ NMc c T L u nm ∧ s 2 = (u : Int)
theorem FLc_fr {c c2 : Mem} {P : Nat → Nat → Bool} {b1 b2 : Bool} {w : Int} (h : FLc c b1 b2 w) (f : Fr P c c2) (hP : ∀ j, 5 ≤ j → j ≤ 7 → P 7 j = false) : FLc c2 b1 b2 w := ⟨(f.1 _ _ (hP 5 (by decide) (by decide))).trans h.1, (f.1 _ _ (hP 6 (by decide) (by decide))).trans h.2.1, (f.1 _ _ (hP 7 (by decide) (by decide))).trans h.2.2⟩
theorem NMc_fr {c c2 : Mem} {P : Nat → Nat → Bool} {T : Nat → Int} {L u : Nat} {nm : Nat → Nat} (h : NMc c T L u nm) (f : Fr P c c2) (hP : ∀ j, P 8 j = false ∧ P 9 j = false) : NMc c2 T L u nm := fun i hi => by
  obtain ⟨k1, k2, k3, k4, k5⟩ := h i hi
  exact ⟨k1, k2, (f.1 _ _ (hP i).1).trans k3, (f.1 _ _ (hP i).2).trans k4, k5⟩
theorem RC_1 {c c2 : Mem} {P : Nat → Nat → Bool} {s : Nat → Int} (h : RC c 1 s) (f : Fr P c c2) (hP : ∀ k j, 57 ≤ k → k < 79 → P k j = false) : RC c2 1 s := RC_fr2 f (fun k j h1 h2 => hP k j (by omega) (by omega)) h
theorem P2_no {k j : Nat} (h : k ≠ 2) : P2t k j = false := by
  unfold P2t
  rw [show (k == 2) = false by simpa using h]
  rfl
theorem g1o {α : Type} (o : Option α) : gb (zi 1) o = o := gb_zi _ (Or.inr rfl)
theorem r_open {fu : Nat} {c : Mem} {T : Nat → Int} {L N n : Nat} (hA : CAr c T L N n) (hn : n ≤ 500) {f k : Nat} (hk : k ≤ 700) (hkk : kkP T L (tpo T L n) = 1) : ∃ c1, K_X7_readRace_31 fu (f + 1) (zi (k : Int)) c = bd (K_X7_readStatement fu c1) (fun p => (if p.1 = 0 then some (0, p.2) else K_X7_readRace_31 fu f (zi ((k + 1 : Nat) : Int)) p.2)) ∧ CBr c1 T L N n ∧ Fr P2t c c1 := by
  obtain ⟨c1, a1, hB, a3⟩ := p_adv fu hA (by omega)
  have i7 : ¬ ((700 : Int32) < zi (k : Int)) := by
    have : (zi 700 < zi (k : Int)) = ((700 : Int) < (k : Int)) := zi_lt (by decide) (by decide) (by omega) (by omega)
    exact fun h => absurd (this.mp h) (by omega)
  refine ⟨c1, ?_, hB, a3⟩
  rw [K_X7_readRace_31, if_neg i7, a1, bd_s, hB.2.1.2.1, hkk, if_neg (by decide), zs]
theorem r_end {fu : Nat} {c : Mem} {T : Nat → Int} {L N n j : Nat} {s : Nat → Int} {u : Nat} {b1 b2 : Bool} {w : Int} {nm : Nat → Nat} (h : RSx c T L N n j s u b1 b2 w nm) (hj : j = L) {f k : Nat} (hk : k ≤ 700) : ∃ c1, K_X7_readRace_31 fu (f + 1) (zi (k : Int)) c = some (1, c1) ∧ RC c1 1 s ∧ Fr P2t c c1 := by
  obtain ⟨⟨hA, hE, h1, h2, h3⟩, hR, _⟩ := h
  obtain ⟨c1, a1, hB, a3⟩ := p_adv fu hA (by omega)
  rw [hj] at hE
  have hkk := tk_e hE
  have i7 : ¬ ((700 : Int32) < zi (k : Int)) := by
    have : (zi 700 < zi (k : Int)) = ((700 : Int) < (k : Int)) := zi_lt (by decide) (by decide) (by omega) (by omega)
    exact fun h => absurd (this.mp h) (by omega)
  refine ⟨c1, ?_, RC_1 hR a3 (fun k j h1 h2 => P2_no (by omega)), a3⟩
  rw [K_X7_readRace_31, if_neg i7, a1, bd_s, hB.2.1.2.1, hkk, if_pos (show zi ((5 : Nat) : Int) = 5 from rfl)]
theorem r_disp {fu : Nat} (hfu : 1000 ≤ fu) {c : Mem} {T : Nat → Int} {L N n V : Nat} (hB : CBr c T L N n) (hk : kkP T L (tpo T L n) = 1) (hp : pkN T (tpo T L n) (tzi T L (tpo T L n)) = V) : K_X7_readStatement fu c = (if V = 2590276 then bd (K_X7_readBoard fu c) (fun p => gb p.1 (some (p.1, p.2))) else if V = 24162707 then bd (K_X7_readWalls fu c) (fun p => gb p.1 (some (p.1, p.2))) else if V = 526062 then bd (K_X7_readPawn fu c) (fun p => gb p.1 (some (p.1, p.2))) else if V = 2094 then bd (K_X7_readBan fu c) (fun p => gb p.1 (some (p.1, p.2))) else if V = 2505835 then bd (K_X7_readBlock fu c) (fun p => gb p.1 (some (p.1, p.2))) else bd (K_X9_fail fu 1 c) (fun p => gb p.1 (some (p.1, p.2)))) := by
  obtain ⟨⟨w0, w1, w2, w3, w4, w5, w6, w7⟩, w8, w9, w10, w11, w12, w13, w14, w15, w16⟩ := Wt_all
  have c0 := c_isWord fu hfu hB.1 hB.2.1 (t := 0) (by decide) w0
  have c1 := c_isWord fu hfu hB.1 hB.2.1 (t := 1) (by decide) w1
  have c2 := c_isWord fu hfu hB.1 hB.2.1 (t := 2) (by decide) w2
  have c7 := c_isWord fu hfu hB.1 hB.2.1 (t := 7) (by decide) w7
  have c14 := c_isWord fu hfu hB.1 hB.2.1 (t := 14) (by decide) w14
  rw [wB_of hk hp] at c0 c1 c2 c7 c14
  unfold K_X7_readStatement
  rw [c0, bd_s, c1, bd_s, c2, bd_s, c7, bd_s, c14, bd_s]
  dsimp only
  have e : ∀ (P : Prop) [Decidable P] (A B : Option (Int32 × Mem)), (if zi (bi (decide P)) = 0 then A else B) = if P then B else A := fun P _ A B => by
    by_cases q : P
    · rw [decide_eq_true q, if_neg (by decide), if_pos q]
    · rw [decide_eq_false q, if_pos (show zi (bi false) = 0 from rfl), if_neg q]
  rw [e, e, e, e, e]
/-- a statement's end -/
theorem r_fin {fu : Nat} {c1 c2 : Mem} {X : Mem → Option (Int32 × Mem)} (hX : X c1 = some (zi 1, c2)) (f k : Nat) : bd (bd (X c1) (fun p => gb p.1 (some (p.1, p.2)))) (fun p => (if p.1 = 0 then some (0, p.2) else K_X7_readRace_31 fu f (zi ((k + 1 : Nat) : Int)) p.2)) = K_X7_readRace_31 fu f (zi ((k + 1 : Nat) : Int)) c2 := by
  rw [hX, bd_s]
  dsimp only
  rw [g1o, bd_s]
  dsimp only
  rw [if_neg z10]
def stB1 (w h : Nat) : List Nat := tcs 1 ++ [48 + w] ++ tcs 2 ++ [48 + h] ++ tcs 3
theorem r_board {fu : Nat} (hfu : 1000 ≤ fu) {c : Mem} {T : Nat → Int} {L N n j : Nat} {s : Nat → Int} {b2 : Bool} {w0 : Int} {nm : Nat → Nat} (hR : RSx c T L N n j s 0 false b2 w0 nm) (hI : InvR s) (h3 : s 3 = 0) {w h : Nat} (hw : 3 ≤ w ∧ w ≤ 9) (hh : 3 ≤ h ∧ h ≤ 9) (hT : TXl T j (stB1 w h)) (hl : j + (stB1 w h).length ≤ L) {f k : Nat} (hk : k ≤ 600) : ∃ c2 n2, K_X7_readRace_31 fu (f + 1) (zi (k : Int)) c = K_X7_readRace_31 fu f (zi ((k + 1 : Nat) : Int)) c2 ∧ RSx c2 T L N n2 (j + (stB1 w h).length) (up1 (up1 s 0 (w : Int)) 1 (h : Int)) 0 true b2 w0 nm ∧ InvR (up1 (up1 s 0 (w : Int)) 1 (h : Int)) ∧ Fr PSc c c2 := by
  obtain ⟨⟨hA, hE, hnj, hjL, hL⟩, hRC, hF, hN, hu⟩ := hR
  have hl' : j + 10 ≤ L := hl
  have hT' : TXl T j ([98, 111, 97, 114, 100] ++ [32, 48 + w, 32, 48 + h, 59]) := hT
  obtain ⟨t0, t1, t2, t3, t4, t5, _⟩ := (TXl_app _ _ _).mp hT'
  obtain ⟨k1, k2, k3, k4, k5⟩ := tk_w hE t0 t1 (by decide) (by decide) (by decide) (by show j + 5 < L; omega)
  have k5' : Epo T L (n + 1) (j + 5 + 1) := Epo_ws k5 (ws := [32]) ⟨t1, trivial⟩ (by decide) (by show j + 5 + 1 ≤ L; omega)
  obtain ⟨m1, m2, m3, m4, m5⟩ := tk_d k5' t2 (by omega) t3 (by decide) (by omega)
  have m5' : Epo T L (n + 1 + 1) (j + 5 + 1 + 1 + 1) := Epo_ws m5 (ws := [32]) ⟨t3, trivial⟩ (by decide) (by show j + 5 + 1 + 1 + 1 ≤ L; omega)
  obtain ⟨p1, p2, p3, p4, p5⟩ := tk_d m5' t4 (by omega) t5 (by decide) (by omega)
  obtain ⟨q1, q2, q3⟩ := tk_s p5 t5 (by omega)
  rw [← k1] at k2 k4
  obtain ⟨c1, a1, hB, a3⟩ := r_open (fu := fu) hA (by omega) (f := f) (k := k) (by omega) k2
  have hd := r_disp hfu hB k2 (V := 2590276) (by rw [← k1] at k3; rw [k4]; decide)
  rw [if_pos rfl] at hd
  have f1 : Fr PSc c1 (mw c1 7 5 1) := Fr_mw _ _ rfl
  have hA1 : CAr (mw c1 7 5 1) T L N (n + 1) := CA_fr (CB_A hB) (P := fun k2 _ => k2 == 7) (Fr_mw _ _ rfl) P1_rd
  rw [← m1] at m2 m4
  obtain ⟨c5, v1, v2, v3, v4⟩ := g_num hfu hA1 (by omega) (a := 3) (b := 9) (v := (w : Int)) (by decide) m2 m4 (by omega)
  rw [← p1] at p2 p4
  obtain ⟨c6, w1, w2, w3, w4⟩ := g_num hfu (CB_A v2) (by omega) (a := 3) (b := 9) (v := (h : Int)) (by decide) p2 p4 (by omega)
  obtain ⟨hI', hE'⟩ := s_board hI (by rw [hu]; rfl) h3 (x := (w : Int)) (y := (h : Int)) (by omega) (by omega)
  obtain ⟨s', hs'⟩ : ∃ s', up1 (up1 s 0 (w : Int)) 1 (h : Int) = s' := ⟨_, rfl⟩
  rw [hs'] at hI' hE' ⊢
  have es0 : s' 0 = (w : Int) := by rw [← hs']; exact (up1_ne (by decide)).trans (up1_eq _ _ _)
  have es1 : s' 1 = (h : Int) := by rw [← hs']; exact up1_eq _ _ _
  have hs3 : s' 3 = 0 := by rw [hE' 3 (by decide)]; omega
  obtain ⟨c7, x1, x2, x3⟩ := c_clear fu 1 hfu (s := s') hI'.1.1.1 (fun j hj => hI'.2.2.1 hs3 j hj) hs3 c6
  rw [es0, es1] at x1
  have nPC : ∀ k j, k < 57 → PCl 1 k j = false := fun k j h => by
    unfold PCl pBoard pBuilt pOpen
    simp only [Bool.or_eq_false_iff, beq_eq_false_iff_ne, ne_eq]
    omega
  have hA7 : CAr c7 T L N (n + 1 + 1 + 1) := CA_fr (CB_A w2) x3 (fun k j h1 h2 => nPC k j (by omega))
  rw [← q1] at q2
  obtain ⟨c8, y1, y2, y3⟩ := g_sign (fu := fu) hA7 (by omega) q2
  have x3' : Fr PSc c6 c7 := Fr_mono x3 (fun k j h => by
    have := PSc_ne h
    unfold PCl pBoard pBuilt pOpen
    simp only [Bool.or_eq_false_iff, beq_eq_false_iff_ne, ne_eq]
    omega)
  have v1' : K_X9_needNumber fu 3 9 (mw c1 7 5 1) = some (zi 1, c5) := v1
  have w1' : K_X9_needNumber fu 3 9 c5 = some (zi 1, c6) := w1
  have hF1 := FLc_fr hF a3 (fun j _ _ => P2_no (by decide))
  have hR1 : RC c1 1 s := RC_1 hRC a3 (fun k j h1 h2 => P2_no (by omega))
  have hbd : K_X7_readBoard fu c1 = some (zi 1, c8) := by
    unfold K_X7_readBoard
    rw [hF1.1, if_pos (show zi (bi false) = 0 from rfl), hR1.2.1.1, hu, if_neg (by decide), hR1.1.2.2.1, h3, if_neg (by decide), ltf, v1', bd_s, if_neg z10, ltf, v3, w1', bd_s, if_neg z10, w3, x1, bd_s, y1, bd_s]
    exact g1o _
  have fG : Fr (fun k j => (k == 7 && j == 5) || (P2t k j || PCl 1 k j)) c c8 := by
    have mono2 : ∀ {a b : Mem}, Fr P2t a b → Fr (fun k j => (k == 7 && j == 5) || (P2t k j || PCl 1 k j)) a b := fun g => Fr_mono g (fun k j h => (Bool.or_eq_false_iff.mp (Bool.or_eq_false_iff.mp h).2).1)
    exact Fr_tr (Fr_tr (Fr_tr (Fr_tr (Fr_tr (mono2 a3) (Fr_mw _ _ rfl)) (mono2 v4)) (mono2 w4)) (Fr_mono x3 (fun k j h => (Bool.or_eq_false_iff.mp (Bool.or_eq_false_iff.mp h).2).2))) (mono2 y3)
  have gG : ∀ k j, ¬ (k = 7 ∧ j = 5) → k ≠ 2 → k < 57 → (fun k j => (k == 7 && j == 5) || (P2t k j || PCl 1 k j) : Nat → Nat → Bool) k j = false := fun k j h1 h2 h3 => by
    show ((k == 7 && j == 5) || (P2t k j || PCl 1 k j)) = false
    rw [nPC k j h3, P2_no h2]
    simp only [Bool.or_false, Bool.and_eq_false_iff, beq_eq_false_iff_ne, ne_eq]
    omega
  refine ⟨c8, n + 1 + 1 + 1 + 1, ?_, ⟨⟨CB_A y2, q3, by show n + 1 + 1 + 1 + 1 ≤ j + 10; omega, hl, hL⟩, ?_, ⟨?_, ?_, ?_⟩, fun i hi => absurd hi (Nat.not_lt_zero i), by rw [hE' 2 (by decide)]; exact hu⟩, hI', ?_⟩
  · rw [a1, hd]
    exact r_fin hbd f k
  · refine RC_1 (c := c7) ⟨x2, ?_, fun i hi hi2 => ?_, fun i hi hi2 => ?_⟩ y3 (fun k j h1 h2 => P2_no (by omega))
    · have hR6 : RC c6 1 s := RC_1 (RC_1 (RC_1 hR1 (P := fun k2 _ => k2 == 7) (Fr_mw c1 1 rfl) (fun k j h1 h2 => by simp only [beq_eq_false_iff_ne, ne_eq]; omega)) v4 (fun k j h1 h2 => P2_no (by omega))) w4 (fun k j h1 h2 => P2_no (by omega))
      obtain ⟨z1, z2, z3, z4, z5⟩ := hR6.2.1
      have gR : ∀ j, rd c7 (pRace 1) j = rd c6 (pRace 1) j := fun j => x3.1 _ _ (by unfold PCl pRace pBoard pBuilt pOpen; rfl)
      exact ⟨by rw [gR, z1, hE' 2 (by decide)], by rw [gR, z2, hE' 6 (by decide)], by rw [gR, z3, hE' 4 (by decide)], by rw [gR, z4, hE' 7 (by decide)], by rw [gR, z5, hE' 5 (by decide)]⟩
    · rw [hE' 2 (by decide), hu] at hi2
      omega
    · rw [hE' 6 (by decide)] at hi2
      have hb6 := hI'.1.1.2.2.2.2.1 i (by omega) (by rw [hE' 6 (by decide)]; exact hi2)
      have := hb6.1
      rw [hE' 2 (by decide), hu] at this
      omega
  · rw [y3.1 _ _ (P2_no (by decide)), x3.1 _ _ (nPC _ _ (by decide)), w4.1 _ _ (P2_no (by decide)), v4.1 _ _ (P2_no (by decide)), rd_mw, if_pos ⟨rfl, rfl⟩]
    rfl
  · rw [fG.1 _ _ (gG 7 6 (by decide) (by decide) (by decide))]
    exact hF.2.1
  · rw [fG.1 _ _ (gG 7 7 (by decide) (by decide) (by decide))]
    exact hF.2.2
  · exact Fr_tr (Fr_tr (Fr_tr (Fr_tr (Fr_tr (FSc a3) f1) (FSc v4)) (FSc w4)) x3') (FSc y3)
def stW1 (w : Nat) (z : Bool) : List Nat := tcs 4 ++ [48 + w] ++ tcs (if z = true then 5 else 3)
theorem r_walls {fu : Nat} (hfu : 1000 ≤ fu) {c : Mem} {T : Nat → Int} {L N n j : Nat} {s : Nat → Int} {u : Nat} {b1 : Bool} {w0 : Int} {nm : Nat → Nat} (hR : RSx c T L N n j s u b1 false w0 nm) {w : Nat} (hw : w < 10) {z : Bool} (hT : TXl T j (stW1 w z)) (hl : j + (stW1 w z).length ≤ L) {f k : Nat} (hk : k ≤ 600) : ∃ c2 n2, K_X7_readRace_31 fu (f + 1) (zi (k : Int)) c = K_X7_readRace_31 fu f (zi ((k + 1 : Nat) : Int)) c2 ∧ RSx c2 T L N n2 (j + (stW1 w z).length) s u b1 true (w : Int) nm ∧ Fr PSc c c2 := by
  obtain ⟨⟨hA, hE, hnj, hjL, hL⟩, hRC, hF, hN, hu⟩ := hR
  -- the tokens
  have tok : ∃ e, (tpo T L n = j ∧ kkP T L j = 1 ∧ pkN T j (tzi T L j) = 24162707) ∧ (kkP T L (tpo T L (n + 1)) = 2 ∧ vlI T (tpo T L (n + 1)) (tzi T L (tpo T L (n + 1))) = (w : Int)) ∧ sgB T L (tpo T L (n + 1 + 1)) 59 = true ∧ Epo T L (n + 1 + 1 + 1) e ∧ e = j + (stW1 w z).length ∧ j + 3 ≤ e := by
    cases z with
    | true =>
      have hl' : j + 10 ≤ L := hl
      have hT' : TXl T j ([119, 97, 108, 108, 115] ++ [32, 48 + w, 32, 59, 10]) := hT
      obtain ⟨t0, t1, t2, t3, t4, t5, _⟩ := (TXl_app _ _ _).mp hT'
      obtain ⟨k1, k2, k3, k4, k5⟩ := tk_w hE t0 t1 (by decide) (by decide) (by decide) (by show j + 5 < L; omega)
      have k5' : Epo T L (n + 1) (j + 5 + 1) := Epo_ws k5 (ws := [32]) ⟨t1, trivial⟩ (by decide) (by show j + 5 + 1 ≤ L; omega)
      obtain ⟨m1, m2, m3, m4, m5⟩ := tk_d k5' t2 (by omega) t3 (by decide) (by omega)
      have m5' : Epo T L (n + 1 + 1) (j + 5 + 1 + 1 + 1) := Epo_ws m5 (ws := [32]) ⟨t3, trivial⟩ (by decide) (by show j + 5 + 1 + 1 + 1 ≤ L; omega)
      obtain ⟨q1, q2, q3⟩ := tk_s m5' t4 (by omega)
      have q3' : Epo T L (n + 1 + 1 + 1) (j + 5 + 1 + 1 + 1 + 1 + 1) := Epo_ws q3 (ws := [10]) ⟨t5, trivial⟩ (by decide) (by show j + 5 + 1 + 1 + 1 + 1 + 1 ≤ L; omega)
      refine ⟨_, ⟨k1, k2, by rw [k4]; decide⟩, ⟨by rw [m1]; exact m2, by rw [m1]; exact m4⟩, by rw [q1]; exact q2, q3', rfl, by omega⟩
    | false =>
      have hl' : j + 8 ≤ L := hl
      have hT' : TXl T j ([119, 97, 108, 108, 115] ++ [32, 48 + w, 59]) := hT
      obtain ⟨t0, t1, t2, t3, _⟩ := (TXl_app _ _ _).mp hT'
      obtain ⟨k1, k2, k3, k4, k5⟩ := tk_w hE t0 t1 (by decide) (by decide) (by decide) (by show j + 5 < L; omega)
      have k5' : Epo T L (n + 1) (j + 5 + 1) := Epo_ws k5 (ws := [32]) ⟨t1, trivial⟩ (by decide) (by show j + 5 + 1 ≤ L; omega)
      obtain ⟨m1, m2, m3, m4, m5⟩ := tk_d k5' t2 (by omega) t3 (by decide) (by omega)
      obtain ⟨q1, q2, q3⟩ := tk_s m5 t3 (by omega)
      refine ⟨_, ⟨k1, k2, by rw [k4]; decide⟩, ⟨by rw [m1]; exact m2, by rw [m1]; exact m4⟩, by rw [q1]; exact q2, q3, rfl, by omega⟩
  obtain ⟨e, ⟨k1, k2, k4⟩, ⟨m2, m4⟩, q2, q3, he, hej⟩ := tok
  rw [← k1] at k2 k4
  obtain ⟨c1, a1, hB, a3⟩ := r_open (fu := fu) hA (by omega) (f := f) (k := k) (by omega) k2
  have hd := r_disp hfu hB k2 k4
  rw [if_neg (by decide), if_pos rfl] at hd
  have f1 : Fr PSc c1 (mw c1 7 6 1) := Fr_mw _ _ rfl
  have hA1 : CAr (mw c1 7 6 1) T L N (n + 1) := CA_fr (CB_A hB) (P := fun k2 _ => k2 == 7) (Fr_mw _ _ rfl) P1_rd
  obtain ⟨c5, v1, v2, v3, v4⟩ := g_num hfu hA1 (by omega) (a := 0) (b := 20) (v := (w : Int)) (by decide) m2 m4 (by omega)
  have hA2 : CAr (mw c5 7 7 (zi (w : Int))) T L N (n + 1 + 1) := CA_fr (CB_A v2) (P := fun k2 _ => k2 == 7) (Fr_mw _ _ rfl) P1_rd
  obtain ⟨c8, y1, y2, y3⟩ := g_sign (fu := fu) hA2 (by omega) q2
  have v1' : K_X9_needNumber fu 0 20 (mw c1 7 6 1) = some (zi 1, c5) := v1
  have hF1 := FLc_fr hF a3 (fun j _ _ => P2_no (by decide))
  have hbd : K_X7_readWalls fu c1 = some (zi 1, c8) := by
    unfold K_X7_readWalls
    rw [hF1.2.1, if_pos (show zi (bi false) = 0 from rfl), ltf, v1', bd_s, if_neg z10, ltf, v3, y1, bd_s]
    exact g1o _
  have fG : Fr (fun k j => (k == 7 && (j == 6 || j == 7)) || P2t k j) c c8 := by
    have mono2 : ∀ {a b : Mem}, Fr P2t a b → Fr (fun k j => (k == 7 && (j == 6 || j == 7)) || P2t k j) a b := fun g => Fr_mono g (fun k j h => (Bool.or_eq_false_iff.mp h).2)
    exact Fr_tr (Fr_tr (Fr_tr (Fr_tr (mono2 a3) (Fr_mw _ _ rfl)) (mono2 v4)) (Fr_mw _ _ rfl)) (mono2 y3)
  have gG : ∀ k j, ¬ (k = 7 ∧ (j = 6 ∨ j = 7)) → k ≠ 2 → (fun k j => (k == 7 && (j == 6 || j == 7)) || P2t k j : Nat → Nat → Bool) k j = false := fun k j h1 h2 => by
    show ((k == 7 && (j == 6 || j == 7)) || P2t k j) = false
    rw [P2_no h2]
    simp only [Bool.or_false, Bool.and_eq_false_iff, Bool.or_eq_false_iff, beq_eq_false_iff_ne, ne_eq]
    omega
  rw [he] at q3 hej
  refine ⟨c8, n + 1 + 1 + 1, ?_, ⟨⟨CB_A y2, q3, by omega, hl, hL⟩, RC_1 hRC fG (fun k j h1 h2 => gG k j (by omega) (by omega)), ⟨?_, ?_, ?_⟩, NMc_fr hN fG (fun j => ⟨gG 8 j (by omega) (by decide), gG 9 j (by omega) (by decide)⟩), hu⟩, ?_⟩
  · rw [a1, hd]
    exact r_fin hbd f k
  · rw [fG.1 _ _ (gG 7 5 (by decide) (by decide))]
    exact hF.1
  · rw [y3.1 _ _ (P2_no (by decide)), rd_mw, if_neg (by decide), v4.1 _ _ (P2_no (by decide)), rd_mw, if_pos ⟨rfl, rfl⟩]
    rfl
  · rw [y3.1 _ _ (P2_no (by decide)), rd_mw, if_pos ⟨rfl, rfl⟩]
  · exact Fr_tr (Fr_tr (Fr_tr (Fr_tr (FSc a3) f1) (FSc v4)) (Fr_mw _ _ rfl)) (FSc y3)
end QBB
