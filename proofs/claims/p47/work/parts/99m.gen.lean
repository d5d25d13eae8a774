section GENM
/-- all that holds between two calls but the race -/
def JW (c m : Mem) : Prop := ∃ (sv : Nat → Int) (u : Nat) (ps : Nat → Nat → Int) (L : Nat) (T : Nat → Int) (e p : Int) (hv : Bool) (rp : RLt), ((TXc c T L ∧ TXr m T L) ∧ (ECc c e p ∧ rd m 0 10 = zi e ∧ rd m 0 11 = zi p)) ∧ (u ≤ 6 ∧ HSc c u ps ∧ HSm m u ps ∧ ∀ i, i < u → InvH (ps i)) ∧ KPs c m hv sv rp
theorem JJ_JW {c m : Mem} (h : JJ c m) : ∃ s, RC c 0 s ∧ MS m s ∧ InvH s ∧ BWok c ∧ JW c m := by
  obtain ⟨s, sv, u, ps, L, T, e, p, hv, rp, ⟨⟨a1, a2, a3⟩, hX, hE⟩, hH, f, g, hB⟩ := h
  exact ⟨s, a1, a2, a3, hB, sv, u, ps, L, T, e, p, hv, rp, ⟨hX, hE⟩, hH, f, g, hB⟩
theorem JW_JJ {c m : Mem} {s : Nat → Int} (h : JW c m) (a1 : RC c 0 s) (a2 : MS m s) (a3 : InvH s) : JJ c m := by
  obtain ⟨sv, u, ps, L, T, e, p, hv, rp, ⟨hX, hE⟩, hH, hK⟩ := h
  exact ⟨s, sv, u, ps, L, T, e, p, hv, rp, ⟨⟨a1, a2, a3⟩, hX, hE⟩, hH, hK⟩
/-- the reference's frames, of ints alone -/
def Fn (m m2 : Mem) : Prop := ∀ k j, PSn k j = false → rd m2 k j = rd m k j
theorem Fn_P {m m2 : Mem} {P : Nat → Nat → Bool} (f : Fr P m m2) (hP : ∀ k j, PSn k j = false → P k j = false) : Fn m m2 := fun k j q => f.1 k j (hP k j q)
theorem Fn_tr {m m2 m3 : Mem} (f : Fn m m2) (g : Fn m2 m3) : Fn m m3 := fun k j q => (g k j q).trans (f k j q)
theorem JW_sc {c m c2 m2 : Mem} (h : JW c m) (f : Fr (fun k j => PSk k j || ZR 0 k j) c c2) (g : Fn m m2) (hB : BWok c2) : JW c2 m2 := by
  obtain ⟨sv, u, ps, L, T, e, p, hv, rp, ⟨⟨⟨b1, b2, b3, b4⟩, b5, b6, b7, b8⟩, ⟨d1, d2⟩, d3, d4⟩, ⟨e1, e2, e3, e4⟩, ⟨f1, f2, f3⟩, ⟨⟨g1, g2⟩, g3, g4⟩, g5⟩ := h
  have hi : ∀ k j, 101 ≤ k → (fun k j => PSk k j || ZR 0 k j : Nat → Nat → Bool) k j = false := fun k j q => by
    have z1 : PSk k j = false := by
      unfold PSk
      simp only [Bool.not_eq_false', Bool.or_eq_true, Bool.and_eq_true, beq_iff_eq, decide_eq_true_iff]
      omega
    have z2 : ZR 0 k j = false := by
      unfold ZR
      simp only [Bool.and_eq_false_iff, decide_eq_false_iff_not]
      omega
    simp only [z1, z2]
    rfl
  refine ⟨sv, u, ps, L, T, e, p, hv, rp, ⟨⟨⟨b1, b2, (f.1 _ _ rfl).trans b3, fun i hi => (f.1 _ _ rfl).trans (b4 i hi)⟩, b5, b6, (g _ _ rfl).trans b7, fun i hi => (g _ _ rfl).trans (b8 i hi)⟩, ⟨(f.1 _ _ rfl).trans d1, (f.1 _ _ rfl).trans d2⟩, (g _ _ rfl).trans d3, (g _ _ rfl).trans d4⟩, ⟨e1, ?_, ⟨(g _ _ rfl).trans e3.1, fun i j q1 q2 => (g _ _ rfl).trans (e3.2 i j q1 q2)⟩, e4⟩, ⟨(f.1 _ _ rfl).trans f1, (g _ _ rfl).trans f2, fun q => ?_⟩, ⟨⟨(f.1 _ _ rfl).trans g1, fun i hi => (f.1 _ _ rfl).trans (g2 i hi)⟩, g3, ?_⟩, hB⟩
  · obtain ⟨nx, n1, n2, n3, n4⟩ := e2
    exact ⟨nx, n1, (f.1 _ _ rfl).trans n2, (f.1 _ _ rfl).trans n3, fun i hi2 => RC_fr2 f (fun k j q1 q2 => hi k j (by omega)) (n4 i hi2)⟩
  · obtain ⟨q1, q2, q3⟩ := f3 q
    exact ⟨RC_fr2 f (fun k j x1 x2 => hi k j (by omega)) q1, q2, fun j hj => (g _ _ rfl).trans (q3 j hj)⟩
  · rcases g4 with ⟨q1, q2, q3⟩ | ⟨q1, q2⟩
    · exact Or.inl ⟨(g _ _ rfl).trans q1, (g _ _ rfl).trans q2, fun i hi => (g _ _ rfl).trans (q3 i hi)⟩
    · exact Or.inr ⟨(g _ _ rfl).trans q1, q2⟩
/-- the class has been asked -/
def AS (mem c2 : Mem) (s : Nat → Int) : Prop := Fr (fun k j => PSk k j || ZR 0 k j) mem c2 ∧ RC c2 0 s ∧ BWok c2
def PSo (k j : Nat) : Bool := PSn k j && !(k == 0 && j == 0)
theorem PSo_k {k j : Nat} (h : PSo k j = false) : k = 1 ∨ k = 2 ∨ k = 3 ∨ k = 4 ∨ k = 22 ∨ (k = 0 ∧ (j = 0 ∨ j = 2 ∨ j = 10 ∨ j = 11 ∨ j = 18 ∨ j = 19 ∨ j = 48 ∨ j = 49)) := by
  unfold PSo PSn at h
  simp only [Bool.and_eq_false_iff, Bool.not_eq_false', Bool.or_eq_true, Bool.and_eq_true, beq_iff_eq] at h
  omega
theorem PSo_n {k j : Nat} (h : PSn k j = false) : PSo k j = false := by
  unfold PSo
  rw [h]
  rfl
def Fo (m m2 : Mem) : Prop := ∀ k j, PSo k j = false → rd m2 k j = rd m k j
theorem Fo_P {m m2 : Mem} {P : Nat → Nat → Bool} (f : Fr P m m2) (hP : ∀ k j, PSo k j = false → P k j = false) : Fo m m2 := fun k j q => f.1 k j (hP k j q)
theorem Fo_rf (m : Mem) : Fo m m := fun _ _ _ => rfl
theorem Fo_tr {m m2 m3 : Mem} (f : Fo m m2) (g : Fo m2 m3) : Fo m m3 := fun k j q => (g k j q).trans (f k j q)
theorem Fo_n {m m2 : Mem} (f : Fo m m2) : Fn m m2 := fun k j q => f k j (PSo_n q)
theorem PSn_0 {k j : Nat} (h : PSn k j = false) : (fun k j => k == 0 && j == 0 : Nat → Nat → Bool) k j = false := by
  unfold PSn at h
  simp only [Bool.not_eq_false', Bool.or_eq_true, Bool.and_eq_true, beq_iff_eq] at h
  simp only [Bool.and_eq_false_iff, beq_eq_false_iff_ne, ne_eq]
  omega
theorem PSx_k {k j : Nat} (h : (PSk k j || ZR 0 k j) = false) : k = 0 ∨ k = 1 ∨ k = 2 ∨ k = 3 ∨ k = 33 ∨ 101 ≤ k := by
  unfold PSk ZR at h
  simp only [Bool.or_eq_false_iff, Bool.not_eq_false', Bool.or_eq_true, Bool.and_eq_true, beq_iff_eq, decide_eq_true_iff, Bool.and_eq_false_iff, decide_eq_false_iff_not] at h
  omega
theorem BW_P {c c2 : Mem} {P : Nat → Nat → Bool} (f : Fr P c c2) (hP : ∀ j, P 28 j = false) (hB : BWok c) : BWok c2 := by
  obtain ⟨x, y, h1, h2, h3⟩ := hB
  exact ⟨x, y, (f.1 _ _ (hP _)).trans h1, (f.1 _ _ (hP _)).trans h2, h3⟩
theorem AS_rf {mem : Mem} {s : Nat → Int} (hR : RC mem 0 s) (hB : BWok mem) : AS mem mem s := ⟨Fr_rf _ _, hR, hB⟩
theorem AS_g {mem c2 : Mem} {s : Nat → Int} {P : Nat → Nat → Bool} (f : Fr P mem c2) (hP : ∀ k j, k ≤ 3 ∨ k = 33 ∨ 101 ≤ k → P k j = false) (hR : RC c2 0 s) (hB : BWok c2) : AS mem c2 s := ⟨Fr_mono f (fun k j q => hP k j (by have := PSx_k q; omega)), hR, hB⟩
theorem AS_P {mem c2 : Mem} {s : Nat → Int} {P : Nat → Nat → Bool} (hR : RC mem 0 s) (hB : BWok mem) (f : Fr P mem c2) (hP : ∀ k j, k ≤ 3 ∨ k = 28 ∨ k = 33 ∨ (35 ≤ k ∧ k < 57) ∨ 101 ≤ k → P k j = false) : AS mem c2 s := AS_g f (fun k j q => hP k j (by omega)) (RC_fr2 f (fun k j q1 q2 => hP k j (by omega)) hR) (BW_P f (fun j => hP 28 j (by omega)) hB)
theorem So_27 {k j : Nat} (q : PSo k j = false) : P27 k j = false := by
  have := PSo_k q
  unfold P27
  simp only [Bool.and_eq_false_iff, beq_eq_false_iff_ne, ne_eq]
  omega
theorem So_B {k j : Nat} (q : PSo k j = false) : PB k j = false := by
  have := PSo_k q
  unfold PB
  simp only [Bool.or_eq_false_iff, Bool.and_eq_false_iff, beq_eq_false_iff_ne, ne_eq]
  omega
theorem So_BA {k j : Nat} (q : PSo k j = false) : PBA k j = false := by
  unfold PBA
  rw [So_B q, So_27 q]
  rfl
theorem So_S {k j : Nat} (q : PSo k j = false) : PS k j = false := by
  have := PSo_k q
  unfold PS
  rw [So_B q]
  simp only [Bool.false_or, Bool.and_eq_false_iff, beq_eq_false_iff_ne, ne_eq]
  omega
theorem So_W5 {k j : Nat} (q : PSo k j = false) : PW5 k j = false := by
  have := PSo_k q
  unfold PW5 PW4 PWm
  simp only [Bool.or_eq_false_iff, Bool.and_eq_false_iff, beq_eq_false_iff_ne, ne_eq]
  omega
theorem So_10 {k j : Nat} (q : PSo k j = false) : P10 k j = false := by
  have := PSo_k q
  unfold P10
  simp only [beq_eq_false_iff_ne, ne_eq]
  omega
theorem So_11 {k j : Nat} (q : PSo k j = false) : P11 k j = false := by
  have := PSo_k q
  unfold P11
  simp only [beq_eq_false_iff_ne, ne_eq]
  omega
theorem PC_lo {w k j : Nat} (hw : w ≤ 1) (h : k ≤ 3 ∨ 28 ≤ k) : PC w k j = false := by
  unfold PC pDist pQueue pWays
  simp only [Bool.or_eq_false_iff, Bool.and_eq_false_iff, beq_eq_false_iff_ne, ne_eq]
  omega
theorem PCN_lo {w k j : Nat} (hw : w ≤ 1) (h : k ≤ 3 ∨ 28 ≤ k) : PCN w k j = false := by
  unfold PCN PNb pNumb
  rw [PC_lo hw h]
  simp only [Bool.false_or, beq_eq_false_iff_ne, ne_eq]
  omega
theorem AS_PC {w : Nat} (hw : w ≤ 1) {mem c2 : Mem} {s : Nat → Int} (hR : RC mem 0 s) (hB : BWok mem) (f : Fr (PC w) mem c2) : AS mem c2 s := AS_P hR hB f (fun k j q => PC_lo hw (by omega))
theorem AS_PCN {w : Nat} (hw : w ≤ 1) {mem c2 : Mem} {s : Nat → Int} (hR : RC mem 0 s) (hB : BWok mem) (f : Fr (PCN w) mem c2) : AS mem c2 s := AS_P hR hB f (fun k j q => PCN_lo hw (by omega))
theorem cl4 {u : Nat} (h : u < 1000) : (zi (u : Int)).toNatClampNeg = u := by
  rw [zi_clamp (by omega) (by omega)]
  exact Int.toNat_natCast u
/-- the reference's two conditions -/
theorem gb18 (fu : Nat) (m : Mem) (v : Int32) : K_X12_goesBoth_18 fu v m = some (if v = 0 then 1 else 0, mw m 0 0 v) := by
  unfold K_X12_goesBoth_18
  have e : rd (mw m 0 0 v) 0 0 = v := by rw [rd_mw, if_pos ⟨rfl, rfl⟩]
  rw [ltf, e]
  by_cases q : v = 0
  · rw [if_pos q, if_pos q]
  · rw [if_neg q, if_neg q]
theorem gb_1 (fu : Nat) (m : Mem) (x : Int32) : K_X12_goesBoth fu (zi (bi false)) x m = some (0, mw m 0 0 1) := by
  unfold K_X12_goesBoth
  rw [if_pos (show zi (bi false) = 0 from rfl), gb18, if_neg (show ¬ (1 : Int32) = 0 by decide)]
theorem gb_2 (fu : Nat) (m : Mem) : K_X12_goesBoth fu (zi (bi true)) (zi (bi false)) m = some (0, mw m 0 0 2) := by
  unfold K_X12_goesBoth
  rw [if_neg (show ¬ zi (bi true) = 0 by decide), if_pos (show zi (bi false) = 0 from rfl), gb18, if_neg (show ¬ (2 : Int32) = 0 by decide)]
theorem gb_0 (fu : Nat) (m : Mem) : K_X12_goesBoth fu (zi (bi true)) (zi (bi true)) m = some (1, mw m 0 0 0) := by
  unfold K_X12_goesBoth
  rw [if_neg (show ¬ zi (bi true) = 0 by decide), if_neg (show ¬ zi (bi true) = 0 by decide), gb18, if_pos (show (0 : Int32) = 0 from rfl)]
/-- the arguments that both check -/
def pB (s : Nat → Int) (x : Int) : Bool := decide (0 ≤ x ∧ x ≤ s 2 - 1)
def dB (d : Int) : Bool := decide (0 ≤ d ∧ d ≤ 3)
theorem m_isPawn (fu : Nat) {m : Mem} {s : Nat → Int} (hS : MS m s) (h2 : 0 ≤ s 2 ∧ s 2 ≤ 4) {x : Int} (h3 : -2147483648 ≤ x) (h4 : x < 2147483648) : K_X12_isPawn fu (zi x) m = some (zi (bi (pB s x))) := by
  have e2 : rd m 2 (Int32.toNatClampNeg 2) = zi (s 2) := hS 2
  have g2 : ∀ o : Option Int32, gi 2 184 o = o := fun o => gi_zi (a_ := 2) (by decide) (by decide) (by decide)
  have e3 : (zi (s 2) - 1).toInt64 = zl (s 2 - 1) := by
    rw [show (1 : Int32) = zi 1 from rfl, zi_sub, zl_of (by omega) (by omega)]
  have hin : K_X12_isIn fu (zl x) 0 (zl (s 2 - 1)) m = _ := k_isIn fu m (v_ := x) (a_ := 0) (b_ := s 2 - 1) h3 h4 (by decide) (by decide) (by omega) (by omega)
  unfold K_X12_isPawn
  rw [g2, e2, e3, zl_of h3 h4, hin, bd_s, gb_bi]
  rfl
theorem m_isDir (fu : Nat) (m : Mem) {x : Int} (h3 : -2147483648 ≤ x) (h4 : x < 2147483648) : K_X12_isIn fu (Int32.toInt64 (zi x)) 0 3 m = some (zi (bi (dB x))) := by
  have hin : K_X12_isIn fu (zl x) 0 3 m = _ := k_isIn fu m (v_ := x) (a_ := 0) (b_ := 3) h3 h4 (by decide) (by decide) (by decide) (by decide)
  rw [zl_of h3 h4, hin]
  rfl
theorem c_chkP (fu : Nat) {c : Mem} {s : Nat → Int} (hR : RC c 0 s) (h2 : 0 ≤ s 2 ∧ s 2 ≤ 4) {x : Int} (h3 : -2147483648 ≤ x) (h4 : x < 2147483648) : (pB s x = true → K_X11_checkPawn fu (zi x) c = some 0) ∧ (pB s x = false → K_X11_checkPawn fu (zi x) c = some 3) := by
  have i0 : (zi x < (0 : Int32)) = (x < 0) := zi_lt (b_ := 0) h3 h4 (by decide) (by decide)
  have i1 : (zi x < zi (s 2)) = (x < s 2) := zi_lt h3 h4 (by omega) (by omega)
  unfold K_X11_checkPawn pB
  rw [hR.2.1.1]
  refine ⟨fun q1 => ?_, fun q1 => ?_⟩
  · have q := of_decide_eq_true q1
    rw [if_neg (fun z => by have := i0.mp z; omega), if_pos (i1.mpr (by omega))]
  · have q := of_decide_eq_false q1
    by_cases z : x < 0
    · rw [if_pos (i0.mpr z)]
    · rw [if_neg (fun y => z (i0.mp y)), if_neg (fun y => by have := i1.mp y; omega)]
theorem c_chkD (fu : Nat) (c : Mem) {x : Int} (h3 : -2147483648 ≤ x) (h4 : x < 2147483648) : (dB x = true → K_X11_checkDirection fu (zi x) c = some 0) ∧ (dB x = false → K_X11_checkDirection fu (zi x) c = some 1) := by
  have i0 : (zi x < (0 : Int32)) = (x < 0) := zi_lt (b_ := 0) h3 h4 (by decide) (by decide)
  have i1 : (zi x < (4 : Int32)) = (x < 4) := zi_lt (b_ := 4) h3 h4 (by decide) (by decide)
  unfold K_X11_checkDirection dB
  refine ⟨fun q1 => ?_, fun q1 => ?_⟩
  · have q := of_decide_eq_true q1
    rw [if_neg (fun z => by have := i0.mp z; omega), if_pos (i1.mpr (by omega))]
  · have q := of_decide_eq_false q1
    by_cases z : x < 0
    · rw [if_pos (i0.mpr z)]
    · rw [if_neg (fun y => z (i0.mp y)), if_neg (fun y => by have := i1.mp y; omega)]
theorem c_chkC (fu : Nat) {c : Mem} {s : Nat → Int} (hR : RB c 0 s) (hz : szO s) {x y : Int} (h1 : -2147483648 ≤ x) (h2 : x < 2147483648) (h3 : -2147483648 ≤ y) (h4 : y < 2147483648) : (isCl s x y = true → K_X11_checkCell fu (zi x) (zi y) c = some 0) ∧ (isCl s x y = false → K_X11_checkCell fu (zi x) (zi y) c = some 3) := by
  unfold K_X11_checkCell
  rw [c_hasCell fu 0 hR hz h1 h2 h3 h4, bd_s]
  refine ⟨fun q => ?_, fun q => ?_⟩
  · rw [q, if_neg (show ¬ zi (bi true) = 0 by decide)]
  · rw [q, if_pos (show zi (bi false) = 0 from rfl)]
theorem c_chkL (fu : Nat) {c : Mem} {s : Nat → Int} (hR : RB c 0 s) (hz : szO s) {x y : Int} (h1 : -2147483648 ≤ x) (h2 : x < 2147483648) (h3 : -2147483648 ≤ y) (h4 : y < 2147483648) : (isPl s x y = true → K_X11_checkPlace fu (zi x) (zi y) c = some 0) ∧ (isPl s x y = false → K_X11_checkPlace fu (zi x) (zi y) c = some 3) := by
  unfold K_X11_checkPlace
  rw [c_hasPlace fu 0 hR hz h1 h2 h3 h4, bd_s]
  refine ⟨fun q => ?_, fun q => ?_⟩
  · rw [q, if_neg (show ¬ zi (bi true) = 0 by decide)]
  · rw [q, if_pos (show zi (bi false) = 0 from rfl)]
/-- a call that only asks, with one condition -/
theorem askG (fu : Nat) {mem : Mem} (h : JJ mem (mMp mem)) {A : Option (Int32 × Mem)} {B : Mem → Option (Int32 × Mem)} (key : ∀ s, InvH s → RC mem 0 s → MS (mMp mem) s → BWok mem → ∃ (b : Bool) (G : Mem → Option (Int32 × Mem)), B (mMp mem) = bd (K_X12_goes fu (zi (bi b)) (mMp mem)) (fun p => (if p.1 = 0 then some (0, p.2) else G p.2)) ∧ (b = false → A = some (1, mset 0 255 mem mem)) ∧ (b = true → ∀ m1, MS m1 s → ∃ x c2 m2, A = some (0, ml (mset 0 255 mem c2) 255 0 (Int32.toInt64 x)) ∧ G m1 = some (x, m2) ∧ AS mem c2 s ∧ Fo m1 m2)) : ∃ mem2, rowA fu A B mem = some mem2 ∧ JJ mem2 (mMp mem2) := by
  obtain ⟨s, a1, a2, a3, hb, hW⟩ := JJ_JW h
  obtain ⟨b, G, k1, k2, k3⟩ := key s a3 a1 a2 hb
  obtain ⟨m1, n1, n2, n3⟩ := m_goes fu (mMp mem) b
  have hS := MS_P a2 n3 (fun _ => rfl)
  rw [n1, bd_s] at k1
  cases b with
  | false =>
    rw [if_pos (show zi (bi false) = 0 from rfl)] at k1
    exact ⟨_, rowA_no fu (by decide) (k2 rfl) k1 n2, rowA_JJ (P_no mem mem) (JJ_m0 h n3)⟩
  | true =>
    obtain ⟨x, c2, m2, y1, y2, ⟨y3, y4, y5⟩, y6⟩ := k3 rfl m1 hS
    rw [if_neg (show ¬ zi (bi true) = 0 by decide), y2] at k1
    exact ⟨_, rowA_ok fu y1 P_ok.2 k1 ((y6 _ _ rfl).trans n2), rowA_JJ P_ok.1 (JW_JJ (JW_sc hW y3 (Fn_tr (Fn_P n3 (fun _ _ q => PSn_0 q)) (Fo_n y6)) y5) y4 (fun j => (y6 _ _ rfl).trans (hS j)) a3)⟩
/-- with two conditions -/
theorem askH (fu : Nat) {mem : Mem} (h : JJ mem (mMp mem)) {A : Option (Int32 × Mem)} {B : Mem → Option (Int32 × Mem)} (key : ∀ s, InvH s → RC mem 0 s → MS (mMp mem) s → BWok mem → ∃ (b1 b2 : Bool) (G : Mem → Option (Int32 × Mem)) (mg : Mem), MS mg s ∧ Fn (mMp mem) mg ∧ B (mMp mem) = bd (K_X12_goesBoth fu (zi (bi b1)) (zi (bi b2)) mg) (fun p => (if p.1 = 0 then some (0, p.2) else G p.2)) ∧ (b1 = false → A = some (1, mset 0 255 mem mem)) ∧ (b1 = true → b2 = false → ∃ c2, A = some (2, mset 0 255 mem c2) ∧ AS mem c2 s) ∧ (b1 = true → b2 = true → ∀ m1, MS m1 s → ∃ x c2 m2, A = some (0, ml (mset 0 255 mem c2) 255 0 (Int32.toInt64 x)) ∧ G m1 = some (x, m2) ∧ AS mem c2 s ∧ Fo m1 m2)) : ∃ mem2, rowA fu A B mem = some mem2 ∧ JJ mem2 (mMp mem2) := by
  obtain ⟨s, a1, a2, a3, hb, hW⟩ := JJ_JW h
  obtain ⟨b1, b2, G, mg, hS, hg, k1, k2, k3, k4⟩ := key s a3 a1 a2 hb
  have fm : ∀ v, Fr (fun k j => k == 0 && j == 0) mg (mw mg 0 0 v) := fun v => Fr_mw _ _ rfl
  have hgo : ∀ v, Fn (mMp mem) (mw mg 0 0 v) := fun v => Fn_tr hg (Fn_P (fm v) (fun _ _ q => PSn_0 q))
  have r0 : ∀ v, rd (mw mg 0 0 v) 0 0 = v := fun v => by rw [rd_mw, if_pos ⟨rfl, rfl⟩]
  have hSv : ∀ v, MS (mw mg 0 0 v) s := fun v => MS_P hS (fm v) (fun _ => rfl)
  cases b1 with
  | false =>
    rw [gb_1, bd_s, if_pos (show (0 : Int32) = 0 from rfl)] at k1
    exact ⟨_, rowA_no fu (by decide) (k2 rfl) k1 (r0 _), rowA_JJ (P_no mem mem) (JW_JJ (JW_sc hW (Fr_rf _ _) (hgo _) hb) a1 (hSv _) a3)⟩
  | true =>
    cases b2 with
    | false =>
      rw [gb_2, bd_s, if_pos (show (0 : Int32) = 0 from rfl)] at k1
      obtain ⟨c2, y1, y3, y4, y5⟩ := k3 rfl rfl
      exact ⟨_, rowA_no fu (by decide) y1 k1 (r0 _), rowA_JJ (P_no mem c2) (JW_JJ (JW_sc hW y3 (hgo _) y5) y4 (hSv _) a3)⟩
    | true =>
      rw [gb_0, bd_s, if_neg (show ¬ (1 : Int32) = 0 by decide)] at k1
      obtain ⟨x, c2, m2, y1, y2, ⟨y3, y4, y5⟩, y6⟩ := k4 rfl rfl (mw mg 0 0 0) (hSv _)
      have k1' : B (mMp mem) = some (x, m2) := k1.trans y2
      exact ⟨_, rowA_ok fu y1 P_ok.2 k1' ((y6 _ _ rfl).trans (r0 _)), rowA_JJ P_ok.1 (JW_JJ (JW_sc hW y3 (Fn_tr (hgo _) (Fo_n y6)) y5) y4 (fun j => (y6 _ _ rfl).trans (hSv _ j)) a3)⟩
/-- the law's row of a call that may throw, of a truth -/
def rowB (fu : Nat) (A : Option (Int32 × Mem)) (B : Mem → Option (Int32 × Mem)) (mem : Mem) : Option Mem := bd A (fun p_1 => bd (B (fun j => (mset 0 256 mem p_1.2) (256 + j))) (fun p_2 => bd (K_X12_thrown fu (fun j => (mset 256 23 (mset 0 256 mem p_1.2) p_2.2) (256 + j))) (fun x_3 => (if x_3 = p_1.1 then (if p_1.1 = 0 then (if p_2.1 = 0 then (if (lg_cmp (rl (mset 256 23 (mset 256 23 (mset 0 256 mem p_1.2) p_2.2) (fun j => (mset 256 23 (mset 0 256 mem p_1.2) p_2.2) (256 + j))) 255 (Int32.toNatClampNeg 0)) 0) = 0 then some (mset 256 23 (mset 256 23 (mset 0 256 mem p_1.2) p_2.2) (fun j => (mset 256 23 (mset 0 256 mem p_1.2) p_2.2) (256 + j))) else none) else (if (lg_cmp (rl (mset 256 23 (mset 256 23 (mset 0 256 mem p_1.2) p_2.2) (fun j => (mset 256 23 (mset 0 256 mem p_1.2) p_2.2) (256 + j))) 255 (Int32.toNatClampNeg 0)) 1) = 0 then some (mset 256 23 (mset 256 23 (mset 0 256 mem p_1.2) p_2.2) (fun j => (mset 256 23 (mset 0 256 mem p_1.2) p_2.2) (256 + j))) else none)) else some (mset 256 23 (mset 256 23 (mset 0 256 mem p_1.2) p_2.2) (fun j => (mset 256 23 (mset 0 256 mem p_1.2) p_2.2) (256 + j)))) else none))))
theorem rowB_ok (fu : Nat) {A : Option (Int32 × Mem)} {B : Mem → Option (Int32 × Mem)} {mem P m2 : Mem} {b : Bool} (hA : A = some (0, P)) (hP : rl P 255 0 = (if b = true then 1 else 0)) (hB : B (mMp mem) = some (zi (bi b), m2)) (h0 : rd m2 0 0 = zi 0) : rowB fu A B mem = some (mAf2 mem P m2) := by
  unfold rowB
  rw [hA, bd_s]
  have e : (fun j => (mset 0 256 mem ((0 : Int32), P).2) (256 + j)) = mMp mem := mMp_se2 mem P
  have t : K_X12_thrown fu (fun j => (mset 256 23 (mset 0 256 mem ((0 : Int32), P).2) (zi (bi b), m2).2) (256 + j)) = some (rd m2 0 0) := thr_m fu mem P m2
  have l : rl (mset 256 23 (mset 256 23 (mset 0 256 mem ((0 : Int32), P).2) (zi (bi b), m2).2) (fun j => (mset 256 23 (mset 0 256 mem ((0 : Int32), P).2) (zi (bi b), m2).2) (256 + j))) 255 (Int32.toNatClampNeg 0) = (if b = true then 1 else 0) := by
    rw [← hP]
    show (mAf2 mem P m2 255).2 0 = (P 255).2 0
    rw [af2_lo (by decide)]
  rw [e, hB, bd_s, t, bd_s, h0, if_pos (show zi 0 = (0 : Int32) from rfl), if_pos (show (0 : Int32) = 0 from rfl), l]
  cases b with
  | true =>
    rw [if_neg (show ¬ zi (bi true) = 0 by decide), if_pos (show lg_cmp (if true = true then 1 else 0) 1 = 0 from lg_r 1)]
    rfl
  | false =>
    rw [if_pos (show zi (bi false) = 0 from rfl), if_pos (show lg_cmp (if false = true then 1 else 0) 0 = 0 from lg_r 0)]
    rfl
theorem rowB_no (fu : Nat) {A : Option (Int32 × Mem)} {B : Mem → Option (Int32 × Mem)} {mem P m2 : Mem} {x t : Int32} (ht : t ≠ 0) (hA : A = some (t, P)) (hB : B (mMp mem) = some (x, m2)) (h0 : rd m2 0 0 = t) : rowB fu A B mem = some (mAf2 mem P m2) := by
  unfold rowB
  rw [hA, bd_s]
  have e : (fun j => (mset 0 256 mem (t, P).2) (256 + j)) = mMp mem := mMp_se2 mem P
  have tt : K_X12_thrown fu (fun j => (mset 256 23 (mset 0 256 mem (t, P).2) (x, m2).2) (256 + j)) = some (rd m2 0 0) := thr_m fu mem P m2
  rw [e, hB, bd_s, tt, bd_s, h0, if_pos (show t = t from rfl), if_neg ht]
  rfl
theorem Pb_ok {mem c2 : Mem} {v : Int64} : cE c2 (ml (mset 0 255 mem c2) 255 0 v) ∧ rl (ml (mset 0 255 mem c2) 255 0 v) 255 0 = v := by
  refine ⟨fun k hk => ?_, ?_⟩
  · unfold ml mr
    have e : mset 0 255 mem c2 k = c2 k := by
      unfold mset
      rw [if_pos (by omega), Nat.sub_zero]
    rw [← e]
    show (if k = 255 then _ else mset 0 255 mem c2 k) = mset 0 255 mem c2 k
    rw [if_neg (by omega)]
  · rw [rl_ml, if_pos ⟨rfl, rfl⟩]
theorem askGb (fu : Nat) {mem : Mem} (h : JJ mem (mMp mem)) {A : Option (Int32 × Mem)} {B : Mem → Option (Int32 × Mem)} (key : ∀ s, InvH s → RC mem 0 s → MS (mMp mem) s → BWok mem → ∃ (b : Bool) (G : Mem → Option (Int32 × Mem)), B (mMp mem) = bd (K_X12_goes fu (zi (bi b)) (mMp mem)) (fun p => (if p.1 = 0 then some (0, p.2) else G p.2)) ∧ (b = false → A = some (1, mset 0 255 mem mem)) ∧ (b = true → ∀ m1, MS m1 s → ∃ (x : Bool) (c2 m2 : Mem), A = some (0, ml (mset 0 255 mem c2) 255 0 (if x = true then 1 else 0)) ∧ G m1 = some (zi (bi x), m2) ∧ AS mem c2 s ∧ Fo m1 m2)) : ∃ mem2, rowB fu A B mem = some mem2 ∧ JJ mem2 (mMp mem2) := by
  obtain ⟨s, a1, a2, a3, hb, hW⟩ := JJ_JW h
  obtain ⟨b, G, k1, k2, k3⟩ := key s a3 a1 a2 hb
  obtain ⟨m1, n1, n2, n3⟩ := m_goes fu (mMp mem) b
  have hS := MS_P a2 n3 (fun _ => rfl)
  rw [n1, bd_s] at k1
  cases b with
  | false =>
    rw [if_pos (show zi (bi false) = 0 from rfl)] at k1
    exact ⟨_, rowB_no fu (by decide) (k2 rfl) k1 n2, rowA_JJ (P_no mem mem) (JJ_m0 h n3)⟩
  | true =>
    obtain ⟨x, c2, m2, y1, y2, ⟨y3, y4, y5⟩, y6⟩ := k3 rfl m1 hS
    rw [if_neg (show ¬ zi (bi true) = 0 by decide), y2] at k1
    exact ⟨_, rowB_ok fu y1 Pb_ok.2 k1 ((y6 _ _ rfl).trans n2), rowA_JJ Pb_ok.1 (JW_JJ (JW_sc hW y3 (Fn_tr (Fn_P n3 (fun _ _ q => PSn_0 q)) (Fo_n y6)) y5) y4 (fun j => (y6 _ _ rfl).trans (hS j)) a3)⟩
theorem askHb (fu : Nat) {mem : Mem} (h : JJ mem (mMp mem)) {A : Option (Int32 × Mem)} {B : Mem → Option (Int32 × Mem)} (key : ∀ s, InvH s → RC mem 0 s → MS (mMp mem) s → BWok mem → ∃ (b1 b2 : Bool) (G : Mem → Option (Int32 × Mem)), B (mMp mem) = bd (K_X12_goesBoth fu (zi (bi b1)) (zi (bi b2)) (mMp mem)) (fun p => (if p.1 = 0 then some (0, p.2) else G p.2)) ∧ (b1 = false → A = some (1, mset 0 255 mem mem)) ∧ (b1 = true → b2 = false → A = some (2, mset 0 255 mem mem)) ∧ (b1 = true → b2 = true → ∀ m1, MS m1 s → ∃ (x : Bool) (c2 m2 : Mem), A = some (0, ml (mset 0 255 mem c2) 255 0 (if x = true then 1 else 0)) ∧ G m1 = some (zi (bi x), m2) ∧ AS mem c2 s ∧ Fo m1 m2)) : ∃ mem2, rowB fu A B mem = some mem2 ∧ JJ mem2 (mMp mem2) := by
  obtain ⟨s, a1, a2, a3, hb, hW⟩ := JJ_JW h
  obtain ⟨b1, b2, G, k1, k2, k3, k4⟩ := key s a3 a1 a2 hb
  have fm : ∀ v, Fr (fun k j => k == 0 && j == 0) (mMp mem) (mw (mMp mem) 0 0 v) := fun v => Fr_mw _ _ rfl
  have hgo : ∀ v, Fn (mMp mem) (mw (mMp mem) 0 0 v) := fun v => Fn_P (fm v) (fun _ _ q => PSn_0 q)
  have r0 : ∀ v, rd (mw (mMp mem) 0 0 v) 0 0 = v := fun v => by rw [rd_mw, if_pos ⟨rfl, rfl⟩]
  have hSv : ∀ v, MS (mw (mMp mem) 0 0 v) s := fun v => MS_P a2 (fm v) (fun _ => rfl)
  cases b1 with
  | false =>
    rw [gb_1, bd_s, if_pos (show (0 : Int32) = 0 from rfl)] at k1
    exact ⟨_, rowB_no fu (by decide) (k2 rfl) k1 (r0 _), rowA_JJ (P_no mem mem) (JJ_m0 h (fm _))⟩
  | true =>
    cases b2 with
    | false =>
      rw [gb_2, bd_s, if_pos (show (0 : Int32) = 0 from rfl)] at k1
      exact ⟨_, rowB_no fu (by decide) (k3 rfl rfl) k1 (r0 _), rowA_JJ (P_no mem mem) (JJ_m0 h (fm _))⟩
    | true =>
      rw [gb_0, bd_s, if_neg (show ¬ (1 : Int32) = 0 by decide)] at k1
      obtain ⟨x, c2, m2, y1, y2, ⟨y3, y4, y5⟩, y6⟩ := k4 rfl rfl (mw (mMp mem) 0 0 0) (hSv _)
      have k1' : B (mMp mem) = some (zi (bi x), m2) := k1.trans y2
      exact ⟨_, rowB_ok fu y1 Pb_ok.2 k1' ((y6 _ _ rfl).trans (r0 _)), rowA_JJ Pb_ok.1 (JW_JJ (JW_sc hW y3 (Fn_tr (hgo _) (Fo_n y6)) y5) y4 (fun j => (y6 _ _ rfl).trans (hSv _ j)) a3)⟩
/-- of a pawn alone -/
theorem askP (fu : Nat) {mem : Mem} (h : JJ mem (mMp mem)) (v : Int32) {A : Option (Int32 × Mem)} {F : Option TR} {G : Mem → Option (Int32 × Mem)} (hA : A = bdc (bdt (K_X11_checkPawn fu v mem) mem F) (fun x m1 => some (0, (ml (mset 0 255 mem m1) 255 (Int32.toNatClampNeg 0) (Int32.toInt64 x)))) (fun k m1 => if k = 3 then some (1, (mset 0 255 mem m1)) else none)) {B : Mem → Option (Int32 × Mem)} (hB : ∀ m, B m = bd (K_X12_isPawn fu v m) (fun x_1 => bd (K_X12_goes fu x_1 m) (fun p_2 => (if p_2.1 = 0 then some (0, p_2.2) else G p_2.2)))) (key : ∀ s, InvH s → RC mem 0 s → BWok mem → ∀ u : Nat, v = zi (u : Int) → (u : Int) < s 2 → ∀ m1, MS m1 s → ∃ x c2 m2, F = some (0, x, c2) ∧ G m1 = some (x, m2) ∧ AS mem c2 s ∧ Fo m1 m2) : ∃ mem2, rowA fu A B mem = some mem2 ∧ JJ mem2 (mMp mem2) := by
  refine askG fu h (fun s hI hR hS hb => ?_)
  obtain ⟨x, hx1, hx2, ex⟩ := zi_ex v
  have c2 := hI.1.2.1.1
  have hc := c_chkP fu hR c2 hx1 hx2
  rw [← ex] at hc
  have hm := m_isPawn fu hS c2 hx1 hx2
  rw [← ex] at hm
  refine ⟨pB s x, G, ?_, fun q => ?_, fun q m1 hS1 => ?_⟩
  · rw [hB, hm, bd_s]
  · rw [hA, hc.2 q]
    rfl
  · have q1 := of_decide_eq_true q
    obtain ⟨u, hu⟩ : ∃ u : Nat, x = u := ⟨x.toNat, by omega⟩
    obtain ⟨y, c2, m2, k1, k2, k3, k4⟩ := key s hI hR hb u (by rw [ex, hu]) (by omega) m1 hS1
    refine ⟨y, c2, m2, ?_, k2, k3, k4⟩
    rw [hA, hc.1 q, k1]
    rfl
end GENM
