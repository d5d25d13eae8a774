section STB
theorem n_toW {D : va_G} {tys : List (ClassId × FieldType)} {Z : (Nat → Prop) → State → Heap → Prop} {p : Program} {l : Launch} {e : Env} {R : Room} {s : State} {m : MethodId} {args : Array Value} {below : List Frame} {meth : Method} {c : Code} {cc : ByteArray} {nL : Nat} {own : String} {ret : Option FieldType} {cells slots : Nat} {Q : State → Prop} {ws : va_W} {pc : Nat} {lv : List (Nat × Value)} {st : List Value} {n : Nat} {ad : Nat → Nat} {cf : Nat → Row → va_E} {mem : Mem} (X : CN D tys (fun q => s.heap.size ≤ q) Z p s m args meth c cc nL own ret) (hZ : ZOK Z) (hp : (wf n ad cf mem).Perm ws) (kk : CX D tys n ad Z p s m args meth c cc nL own ret → (∀ k, k < n → s.heap.size ≤ ad k) → WW D n ad cf p l e R s m args below meth c nL cells slots Q mem pc lv st) : NN D (fun q => s.heap.size ≤ q) p l e R s m args below meth c nL cells slots Q ws pc lv st := by
  intro H locs ls hP hD hS hl
  have hD' := wd_perm hp hD
  have hP' := wp_sub (fun q hq => hp.mem_iff.mp hq) hP
  have hA : ∀ k, k < n → s.heap.size ≤ ad k := fun k hk => hD'.2 k _ (wf_at hk)
  have hI : ∀ i j, i < n → j < n → ad i = ad j → i = j := fun i j hi hj he => hD'.1 i j _ _ (wf_at hi) (wf_at hj) he
  have s1 : ∀ x, AA n ad s.heap.size x → s.heap.size ≤ x := fun x h => h.elim (fun ⟨k, h1, h2⟩ => by rw [h2]; exact hA k h1) id
  exact kk ⟨X.1, X.2.1, X.2.2.1, X.2.2.2.1, hI, hZ.2.1 _ _ _ _ X.2.2.2.2.2 s1⟩ hA H locs ls hP' ⟨hS.1, fun x h1 h2 => hS.2.1 x h1 (fun h => h2 (Or.inr h)), fun x hx => Or.inr (hS.2.2 x hx)⟩ hl
theorem arr_prim {args : Array Value} {s : State} {ty : FieldType} (h : (Cond.arrayClass ty).before args s = true) (hp : ∀ C, ty ≠ .object C) : ∃ cA : ClassId, ArrOfT s cA ty ∧ va_RA s cA ty := by
  obtain ⟨cA, kA, comp, h1, h2, h3⟩ := Cond.arrayClass_spec h
  refine ⟨cA, fun n z => ⟨(fun k h => (by cases h)), kA, h2, comp, h3⟩, ?_⟩
  cases ty with
  | object C => exact absurd rfl (hp C)
  | _ => exact h1
theorem arr_obj {args : Array Value} {s : State} {C : String} (h : (Cond.arrayOver (.object C)).before args s = true) : ∃ cA : ClassId, ArrOfT s cA (.object C) ∧ va_RA s cA (.object C) := by
  obtain ⟨comp, cA, kA, h1, h2, h3, h4, h5⟩ := Cond.arrayOver_spec h
  exact ⟨cA, fun n z => ⟨(fun k h => (by cases h)), kA, h3, comp, h4⟩, kA, comp, h3, h4, h1, h5⟩
theorem cRace_congr {ca ad ad1 : Nat → Nat} {r : Nat} (h : ∀ j, j < 22 → ad (35 + 22 * r + j) = ad1 (35 + 22 * r + j)) (j : Nat) (hj : j < 22) (f : Row) : cRace ca ad r j f = cRace ca ad1 r j f := by
  rw [cRace_shift (fr := fun j => ad1 (35 + 22 * r + j)) h j hj f, cRace_shift (fr := fun j => ad1 (35 + 22 * r + j)) (fun _ _ => rfl) j hj f]
theorem cTop_congr {ca ad ad1 : Nat → Nat} (h : ∀ j, j < 255 → ad j = ad1 j) (k : Nat) (hk : k < 35) (f : Row) : cTop ca ad k f = cTop ca ad1 k f := by
  rcases (show k = 0 ∨ k = 1 ∨ k = 2 ∨ k = 3 ∨ k = 4 ∨ k = 5 ∨ k = 6 ∨ k = 7 ∨ k = 8 ∨ k = 9 ∨ k = 10 ∨ k = 11 ∨ k = 12 ∨ k = 13 ∨ k = 14 ∨ k = 15 ∨ k = 16 ∨ k = 17 ∨ k = 18 ∨ k = 19 ∨ k = 20 ∨ k = 21 ∨ k = 22 ∨ k = 23 ∨ k = 24 ∨ k = 25 ∨ k = 26 ∨ k = 27 ∨ k = 28 ∨ k = 29 ∨ k = 30 ∨ k = 31 ∨ k = 32 ∨ k = 33 ∨ k = 34 by omega) with rfl | rfl | rfl | rfl | rfl | rfl | rfl | rfl | rfl | rfl | rfl | rfl | rfl | rfl | rfl | rfl | rfl | rfl | rfl | rfl | rfl | rfl | rfl | rfl | rfl | rfl | rfl | rfl | rfl | rfl | rfl | rfl | rfl | rfl | rfl
  · show (Sum.inr (11, [.ref (ad 2), .ref (ad 7), .ref (ad 10), .ref (ad 17), .ref (ad (pWays 1)), .ref (ad 28), .ref (ad (pRace 0)), .ref (ad (pRace 1)), .ref (ad (pRace 2)), .ref (ad (pRace 3)), .int (f.1 10), .ref (ad 33), .ref (ad 1), .int (f.1 13)]) : va_E) = _
    rw [h 2 (by decide), h 7 (by decide), h 10 (by decide), h 17 (by decide), h (pWays 1) (by decide), h 28 (by decide), h (pRace 0) (by decide), h (pRace 1) (by decide), h (pRace 2) (by decide), h (pRace 3) (by decide), h 33 (by decide), h 1 (by decide)]
    rfl
  · rfl
  · show (Sum.inr (9, [.ref (ad 3), .int (f.1 1), .ref (ad 4), .ref (ad 5), .ref (ad 6), .int (f.1 5), .int (f.1 6), .int (f.1 7), .int (f.1 8), .int (f.1 9), .int (f.1 10), .int (f.1 11), .int (f.1 12)]) : va_E) = _
    rw [h 3 (by decide), h 4 (by decide), h 5 (by decide), h 6 (by decide)]
    rfl
  · rfl
  · rfl
  · rfl
  · rfl
  · show (Sum.inr (7, [.ref (ad 2), .ref (ad (pRace 1)), .ref (ad 17), .ref (ad 8), .ref (ad 9), .int (f.1 5), .int (f.1 6), .int (f.1 7), .int (f.1 8)]) : va_E) = _
    rw [h 2 (by decide), h (pRace 1) (by decide), h 17 (by decide), h 8 (by decide), h 9 (by decide)]
    rfl
  · rfl
  · rfl
  · show (Sum.inr (8, [.ref (ad 2), .ref (ad 11), .ref (ad 12), .ref (ad 13), .ref (ad 14), .ref (ad 15), .int (f.1 6), .int (f.1 7), .ref (ad 16), .int (f.1 9)]) : va_E) = _
    rw [h 2 (by decide), h 11 (by decide), h 12 (by decide), h 13 (by decide), h 14 (by decide), h 15 (by decide), h 16 (by decide)]
    rfl
  · rfl
  · rfl
  · rfl
  · rfl
  · rfl
  · rfl
  · show (Sum.inr (5, [.ref (ad (pWays 0)), .ref (ad 18), .ref (ad 19), .int (f.1 3), .int (f.1 4), .int (f.1 5), .int (f.1 6)]) : va_E) = _
    rw [h (pWays 0) (by decide), h 18 (by decide), h 19 (by decide)]
    rfl
  · rfl
  · rfl
  · show (Sum.inr (10, [.ref (ad (pDist 0)), .ref (ad (pQueue 0)), .int (f.1 2), .ref (ad (pNumb 0))]) : va_E) = _
    rw [h (pDist 0) (by decide), h (pQueue 0) (by decide), h (pNumb 0) (by decide)]
    rfl
  · rfl
  · rfl
  · rfl
  · show (Sum.inr (10, [.ref (ad (pDist 1)), .ref (ad (pQueue 1)), .int (f.1 2), .ref (ad (pNumb 1))]) : va_E) = _
    rw [h (pDist 1) (by decide), h (pQueue 1) (by decide), h (pNumb 1) (by decide)]
    rfl
  · rfl
  · rfl
  · rfl
  · show (Sum.inr (1, [.ref (ad (pBW (f.1 0))), .ref (ad (pBW (f.1 1))), .ref (ad 31), .ref (ad 32)]) : va_E) = _
    rw [h (pBW (f.1 0)) (lt_BW), h (pBW (f.1 1)) (lt_BW), h 31 (by decide), h 32 (by decide)]
    rfl
  · rfl
  · rfl
  · rfl
  · rfl
  · show (Sum.inr (3, [.ref (ad 34), .int (f.1 1), .int (f.1 2)]) : va_E) = _
    rw [h 34 (by decide)]
    rfl
  · show (Sum.inl (ca 4, 6, _) : va_E) = Sum.inl (ca 4, 6, _)
    have e1 : (fun i => if i < 6 then some (ad (pRace (4 + i))) else none) = (fun i => if i < 6 then some (ad1 (pRace (4 + i))) else none) := by
      funext i
      by_cases hi : i < 6
      · rw [if_pos hi, if_pos hi, h (pRace (4 + i)) (lt_Race (by omega))]
      · rw [if_neg hi, if_neg hi]
    rw [e1]
theorem cC_congr {ca ad ad1 : Nat → Nat} (h : ∀ j, j < 255 → ad j = ad1 j) (k : Nat) (hk : k < 255) (f : Row) : cC ca ad k f = cC ca ad1 k f := by
  unfold cC
  by_cases h35 : k < 35
  · rw [if_pos h35, if_pos h35, cTop_congr h k h35]
  · rw [if_neg h35, if_neg h35]
    exact cRace_congr (fun j hj => h _ (by omega)) _ (Nat.mod_lt _ (by decide)) f
theorem cM_congr {ca ad ad1 : Nat → Nat} (h : ∀ j, j < 23 → ad j = ad1 j) (k : Nat) (hk : k < 23) (f : Row) : cM ca ad k f = cM ca ad1 k f := by
  rcases (show k = 0 ∨ k = 1 ∨ k = 2 ∨ k = 3 ∨ k = 4 ∨ k = 5 ∨ k = 6 ∨ k = 7 ∨ k = 8 ∨ k = 9 ∨ k = 10 ∨ k = 11 ∨ k = 12 ∨ k = 13 ∨ k = 14 ∨ k = 15 ∨ k = 16 ∨ k = 17 ∨ k = 18 ∨ k = 19 ∨ k = 20 ∨ k = 21 ∨ k = 22 by omega) with rfl | rfl | rfl | rfl | rfl | rfl | rfl | rfl | rfl | rfl | rfl | rfl | rfl | rfl | rfl | rfl | rfl | rfl | rfl | rfl | rfl | rfl | rfl
  · rw [mo_0, mo_0, h 1 (by decide), h 2 (by decide), h 3 (by decide), h 4 (by decide), h 5 (by decide), h 6 (by decide), h 7 (by decide), h 8 (by decide), h 9 (by decide), h 10 (by decide), h 11 (by decide), h 12 (by decide), h 13 (by decide), h 14 (by decide), h 15 (by decide), h 16 (by decide), h 17 (by decide), h 18 (by decide), h 19 (by decide), h 20 (by decide), h 21 (by decide), h 22 (by decide)]
  · rfl
  · rfl
  · rfl
  · rfl
  · rfl
  · rfl
  · rfl
  · rfl
  · rfl
  · rfl
  · rfl
  · rfl
  · rfl
  · rfl
  · rfl
  · rfl
  · rfl
  · rfl
  · rfl
  · rfl
  · rfl
  · rfl
/-- the law's memory at its loop's first beginning -/
def mW0 (memB memM : Mem) : Mem := fun k => if k < 255 then mC0 memB k else if k = 255 then z0 else memM (k - 256)
theorem wf_W {ca f1 f2 : Nat → Nat} {o1 : Nat} {memB memM : Mem} {ws1 : va_W} (h1 : (wf 255 f1 (cC ca f1) (mC0 memB)).Perm ws1) : ∃ ad : Nat → Nat, ad 0 = f1 0 ∧ ad 255 = o1 ∧ ad 256 = f2 0 ∧ (wf 279 ad (cW ca ad) (mW0 memB memM)).Perm ((([] ++ ws1) ++ wf 23 f2 (cM ca f2) memM) ++ [(o1, .inl (ca 5, 1, .inr (.inl (fun _ => 0))))]) := by
  obtain ⟨ad, had⟩ : ∃ ad : Nat → Nat, ad = fun k => if k < 255 then f1 k else if k = 255 then o1 else f2 (k - 256) := ⟨_, rfl⟩
  have a1 : ∀ k, k < 255 → ad k = f1 k := fun k hk => by rw [had]; exact if_pos hk
  have a2 : ad 255 = o1 := by rw [had]; rfl
  have a3 : ∀ j, ad (256 + j) = f2 j := fun j => by
    rw [had]
    show (if 256 + j < 255 then _ else if 256 + j = 255 then _ else _) = _
    rw [if_neg (by omega), if_neg (by omega), Nat.add_sub_cancel_left]
  refine ⟨ad, a1 0 (by decide), a2, a3 0, ?_⟩
  have e0 : List.range 279 = List.range 255 ++ (255 :: (List.range 23).map (256 + ·)) := by decide +kernel
  have e1 : wf 279 ad (cW ca ad) (mW0 memB memM) = wf 255 f1 (cC ca f1) (mC0 memB) ++ ((o1, .inl (ca 5, 1, .inr (.inl (fun _ => 0)))) :: wf 23 f2 (cM ca f2) memM) := by
    unfold wf
    rw [e0, List.map_append, List.map_cons, List.map_map]
    congr 1
    · refine List.map_congr_left (fun k hk => ?_)
      have hk : k < 255 := List.mem_range.mp hk
      have e2 : cW ca ad k (mW0 memB memM k) = cC ca ad k (mC0 memB k) := by
        rw [show mW0 memB memM k = mC0 memB k from if_pos hk]
        have := cW_C (ca := ca) (ad := ad) k (mC0 memB k) hk
        rwa [Nat.zero_add] at this
      rw [e2, a1 k hk, cC_congr a1 k hk]
    · congr 1
      · rw [a2, ko_W255]
        rfl
      · refine List.map_congr_left (fun j hj => ?_)
        have hj : j < 23 := List.mem_range.mp hj
        show (ad (256 + j), cW ca ad (256 + j) (mW0 memB memM (256 + j))) = _
        have e3 : mW0 memB memM (256 + j) = memM j := by
          unfold mW0
          rw [if_neg (by omega), if_neg (by omega), Nat.add_sub_cancel_left]
        rw [e3, cW_M j (memM j) hj, a3 j, cM_congr (ad1 := f2) (fun j _ => a3 j) j hj]
  rw [e1]
  refine (h1.append_right _).trans ?_
  rw [List.nil_append, List.append_assoc]
  refine List.Perm.append_left _ ?_
  exact (List.perm_append_comm (l₁ := wf 23 f2 (cM ca f2) memM) (l₂ := [(o1, .inl (ca 5, 1, .inr (.inl (fun _ => 0))))])).symm
/-- what the two programs' pure functions must keep: from the start, call by call -/
def MATH : Prop := ∃ (fu : Nat) (memB memM : Mem) (J : Nat → Mem → Prop), K_B_clear fu 5 5 (fun _ => z0) = some memB ∧ K_X12_clears fu mM1 = some memM ∧ J 0 (mW0 memB memM) ∧ ∀ (a : Nat → Int32) (t : Nat) (mem : Mem), t < 512 → J t mem → ∃ mem2, K_call fu a mem = some mem2 ∧ J (t + 1) mem2
def R_law : String := "PawnRaceLaw"
def lw_P (b : Addr) (xs : List Int32) (args : Array Value) (s : State) : Prop := args = #[.ref b] ∧ s.IntsAt b xs ∧ xs.length ≤ 3072 ∧ (Jvm.Cond.and given_1 narrow_1).before args s = true
def lw_Q (_ : Array Value) (s : State) (o : Outcome) (t : State) : Prop := o = .returned (some (.int 1)) ∧ Framed s o t [] room_1.cells room_1.slots
def lw_Z (below : List Frame) (a : Array Value) (s : State) : State → Prop := fun t => ∃ o, t.status = .running ∧ Ended t below o ∧ lw_Q a s o t
/-- the law's own end, with 1 on the stack, nothing written that was there before, its room as the claim has it -/
theorem lw_ret {p : Program} {l : Launch} {e : Env} {s : State} {m : MethodId} {below : List Frame} {meth : Method} {c : Code} {b : Nat} (hx : p.tables.exec = Jvm.exec) (hb : c.code = code) (hr : meth.sig.returnType = ret) (hlocks : meth.locks = false) {pc : Nat} {H : Heap} {ls : Array Slot} (hdg : decode code pc = .ok (.ireturn, 1)) : W p l e room_1 s m #[Value.ref b] below meth c H [] room_1.cells room_1.slots (lw_Z below #[Value.ref b] s) (F0 m pc ls [.int 1]) := by
  intro T hT X
  obtain ⟨fs, hret, hrun, hended, hW, hframe⟩ := X.leave (v := some (.int 1)) (hlocks := hlocks) (fun h => by rw [hr] at h; cases h)
  have hmeth' : T.vm.method? m = some meth := X.method'
  refine ⟨T.setFrames fs, ?_, .returned (some (.int 1)), hrun, hended, rfl, ⟨_, rfl⟩, hW, hframe⟩
  jvm_step X.here [X.here.top, hx, hb, hdg, hmeth', hr, ret, narrow_b1]
  (try refine ⟨rfl, ?_⟩); (try refine ⟨rfl, ?_⟩)
  first | (intro acts; rw [hret _ acts rfl rfl rfl]) | rw [hret _ _ rfl rfl rfl]
  exact Steps.refl _
/-- what holds at the law's entry: the machine, the code, the tables' words (any of lw_tbl by 'hts w (by decide +kernel)'), the script of L ints xs at the cell b, what the Statement gives of the start (any of its parts by flat_of_before) -/
def lw_At (p : Program) (s : State) (m : MethodId) (meth : Method) (c : Code) (b L : Nat) (xs : Nat → Int32) : Prop :=
  p.tables.exec = Jvm.exec ∧ c.code = code ∧ meth.sig.returnType = ret ∧ c.maxLocals = 7 ∧ s.vm.findClass R_law = some m.cls ∧ (∀ w ∈ lw_tbl, w.before #[Value.ref b] s = true) ∧ va_X b L xs s s.heap ∧ b < s.heap.size ∧ meth.locks = false ∧ (Jvm.Cond.and given_1 narrow_1).before #[Value.ref b] s = true
theorem law_K {args : Array Value} {s : State} (hts : ∀ w ∈ lw_tbl, w.before args s = true) : ∃ (D : va_G) (ca : Nat → ClassId), va_K D vwCl (tyL ca) s := by
  have hG : ∀ w ∈ GW, w.before args s = true := fun w hw => hts w (List.mem_filter.mp hw).1
  obtain ⟨c0, i0, g0⟩ := u_known (C := RX0) (T := TX0) (N := 9) (n := 9) hG in_X0 (hts _ (tb_2 _ (List.mem_of_getElem? (i := 30) rfl)))
  obtain ⟨c1, i1, g1⟩ := u_known (C := RX1) (T := TX1) (N := 4) (n := 4) hG in_X1 (hts _ (tb_1 _ (List.mem_of_getElem? (i := 147) rfl)))
  obtain ⟨c2, i2, g2⟩ := u_known (C := RX2) (T := TX2) (N := 5) (n := 5) hG in_X2 (hts _ (tb_1 _ (List.mem_of_getElem? (i := 172) rfl)))
  obtain ⟨c3, i3, g3⟩ := u_known (C := RX3) (T := TX3) (N := 3) (n := 3) hG in_X3 (hts _ (tb_2 _ (List.mem_of_getElem? (i := 183) rfl)))
  obtain ⟨c4, i4, g4⟩ := u_known (C := RX4) (T := TX4) (N := 6) (n := 6) hG in_X4 (hts _ (tb_1 _ (List.mem_of_getElem? (i := 220) rfl)))
  obtain ⟨c5, i5, g5⟩ := u_known (C := RX5) (T := TX5) (N := 7) (n := 7) hG in_X5 (hts _ (tb_1 _ (List.mem_of_getElem? (i := 93) rfl)))
  obtain ⟨c6, i6, g6⟩ := u_known (C := RX6) (T := TX6) (N := 8) (n := 8) hG in_X6 (hts _ (tb_1 _ (List.mem_of_getElem? (i := 166) rfl)))
  obtain ⟨c7, i7, g7⟩ := u_known (C := RX7) (T := TX7) (N := 9) (n := 9) hG in_X7 (hts _ (tb_2 _ (List.mem_of_getElem? (i := 112) rfl)))
  obtain ⟨c8, i8, g8⟩ := u_known (C := RX8) (T := TX8) (N := 10) (n := 10) hG in_X8 (hts _ (tb_2 _ (List.mem_of_getElem? (i := 146) rfl)))
  obtain ⟨c9, i9, g9⟩ := u_known (C := RX9) (T := TX9) (N := 13) (n := 13) hG in_X9 (hts _ (tb_1 _ (List.mem_of_getElem? (i := 36) rfl)))
  obtain ⟨c10, i10, g10⟩ := u_known (C := RX10) (T := TX10) (N := 4) (n := 4) hG in_X10 (hts _ (tb_1 _ (List.mem_of_getElem? (i := 99) rfl)))
  obtain ⟨c11, i11, g11⟩ := u_known (C := RX11) (T := TX11) (N := 14) (n := 14) hG in_X11 (hts _ (tb_1 _ (List.mem_of_getElem? (i := 28) rfl)))
  obtain ⟨c12, i12, g12⟩ := u_known (C := RX12) (T := TX12) (N := 50) (n := 50) hG in_X12 (hts _ (tb_7 _ (List.mem_of_getElem? (i := 71) rfl)))
  obtain ⟨b0, x0, y0⟩ := arr_prim (ty := .int) (hts _ (tb_1 _ (List.mem_of_getElem? (i := 91) rfl))) (fun C h => (by cases h))
  obtain ⟨b1, x1, y1⟩ := arr_prim (ty := .byte) (hts _ (tb_1 _ (List.mem_of_getElem? (i := 90) rfl))) (fun C h => (by cases h))
  obtain ⟨b5, x5, y5⟩ := arr_prim (ty := .long) (hts _ (tb_7 _ (List.mem_of_getElem? (i := 231) rfl))) (fun C h => (by cases h))
  obtain ⟨b6, x6, y6⟩ := arr_prim (ty := .boolean) (hts _ (tb_7 _ (List.mem_of_getElem? (i := 232) rfl))) (fun C h => (by cases h))
  obtain ⟨b2, x2, y2⟩ := arr_obj (C := "PawnRace$Pawn") (hts _ (tb_1 _ (List.mem_of_getElem? (i := 219) rfl)))
  obtain ⟨b3, x3, y3⟩ := arr_obj (C := "PawnRace$Ban") (hts _ (tb_2 _ (List.mem_of_getElem? (i := 29) rfl)))
  obtain ⟨b4, x4, y4⟩ := arr_obj (C := "PawnRace$Race") (hts _ (tb_2 _ (List.mem_of_getElem? (i := 189) rfl)))
  refine ⟨(fun k => [c0, c1, c2, c3, c4, c5, c6, c7, c8, c9, c10, c11, c12].getD k 0, fun k => [i0, i1, i2, i3, i4, i5, i6, i7, i8, i9, i10, i11, i12].getD k (fun _ => 0)), fun k => [b0, b1, b2, b3, b4, b5, b6].getD k 0, fun k q hq => ?_, fun k q hq => ?_⟩
  · have hk : k < 13 := (List.getElem?_eq_some_iff.mp hq).1
    rcases (show k = 0 ∨ k = 1 ∨ k = 2 ∨ k = 3 ∨ k = 4 ∨ k = 5 ∨ k = 6 ∨ k = 7 ∨ k = 8 ∨ k = 9 ∨ k = 10 ∨ k = 11 ∨ k = 12 by omega) with rfl | rfl | rfl | rfl | rfl | rfl | rfl | rfl | rfl | rfl | rfl | rfl | rfl
    · cases hq
      exact g0
    · cases hq
      exact g1
    · cases hq
      exact g2
    · cases hq
      exact g3
    · cases hq
      exact g4
    · cases hq
      exact g5
    · cases hq
      exact g6
    · cases hq
      exact g7
    · cases hq
      exact g8
    · cases hq
      exact g9
    · cases hq
      exact g10
    · cases hq
      exact g11
    · cases hq
      exact g12
  · have hk : k < 7 := (List.getElem?_eq_some_iff.mp hq).1
    rcases (show k = 0 ∨ k = 1 ∨ k = 2 ∨ k = 3 ∨ k = 4 ∨ k = 5 ∨ k = 6 by omega) with rfl | rfl | rfl | rfl | rfl | rfl | rfl
    · cases hq
      exact ⟨x0, y0⟩
    · cases hq
      exact ⟨x1, y1⟩
    · cases hq
      exact ⟨x2, y2⟩
    · cases hq
      exact ⟨x3, y3⟩
    · cases hq
      exact ⟨x4, y4⟩
    · cases hq
      exact ⟨x5, y5⟩
    · cases hq
      exact ⟨x6, y6⟩
theorem kC_LN_11 : Cond.classLink RL 8 RX11 ∈ GW := gw_c tb_1 27 rfl rfl
theorem kI_LN_11 : Cond.instantiable RX11 14 ∈ GW := gw_c tb_1 28 rfl rfl
theorem kC_LN_12 : Cond.classLink RL 125 RX12 ∈ GW := gw_c tb_7 70 rfl rfl
theorem kI_LN_12 : Cond.instantiable RX12 50 ∈ GW := gw_c tb_7 71 rfl rfl
theorem kLi_L_124 : Cond.methodLink RL 124 yX11_init ∈ GW := gw_c tb_1 29 rfl rfl
theorem kLi_L_127 : Cond.methodLink RL 127 yX12_init ∈ GW := gw_c tb_7 72 rfl rfl
set_option maxHeartbeats 4000000 in
set_option maxRecDepth 100000 in
theorem whole_of (hmath : MATH) {p : Program} {e : Env} {s : State} {m : MethodId} {below : List Frame} {meth : Method} {c : Code} (l : Launch) (hflags : l.flags = flags0) {b L : Nat} {xs : Nat → Int32} (hL : L ≤ 3072) (C0 : lw_At p s m meth c b L xs) : W p l e room_1 s m #[Value.ref b] below meth c s.heap [] 0 0 (lw_Z below #[Value.ref b] s) (entryFrame m ([Value.ref b] : List Value).toArray 7) := by
  obtain ⟨hx, hb, hr, hml, hown, hts, hXs, hbl, hlocks, hgv⟩ := C0
  have hst : l.stackTraces = false := by
    unfold Launch.stackTraces
    rw [hflags]
    decide +kernel
  obtain ⟨fu, memB, memM, J, hB, hM, hJ0, hstep⟩ := hmath
  obtain ⟨D, ca, hK⟩ := law_K hts
  obtain ⟨tO, sK, sV, hZs⟩ := zz_start (A := fun q => s.heap.size ≤ q) hgv hts (fun a h1 h2 => by omega)
  have hZ : ZOK (ZZ tO sK sV) := zz_ok
  have hX : ZX (ZZ tO sK sV) := zz_X
  have hO : ZO (ZZ tO sK sV) tO sK sV := zz_O
  have hA : ZA (ZZ tO sK sV) := zz_A
  have X : CN D (tyL ca) (fun q => s.heap.size ≤ q) (ZZ tO sK sV) p s m #[Value.ref b] meth c cL_law 7 RL ret := ⟨⟨hx, hb, hml, hown, fun w hw => hts w (List.mem_filter.mp hw).1⟩, hr, hlocks, hK, fun q h => h, hZs⟩
  rw [lg_entry_eq]
  refine (?_ : NN D (fun q => s.heap.size ≤ q) p l e room_1 s m #[Value.ref b] below meth c 7 0 0 (lw_Z below #[Value.ref b] s) [] 0 [(0, .ref b)] []) s.heap [] _ (fun k q h => (by cases h)) ⟨(fun i j p1 q1 h => (by cases h)), (fun k q h => (by cases h))⟩ va_S.rf (lv_entry [.ref b] (Nat.le_of_ble_eq_true rfl))
  refine n_new (ci := 11) (C := RX11) (T := TX11) (N := 14) X in_X11 tyX11 tyX11_ok kC_LN_11 kI_LN_11 kN_X11 rfl [.null, .null, .null, .null, .null, .null, .null, .null, .null, .null, .int 0, .null, .null, .int 0] (fun j hj => by rcases (show j = 0 ∨ j = 1 ∨ j = 2 ∨ j = 3 ∨ j = 4 ∨ j = 5 ∨ j = 6 ∨ j = 7 ∨ j = 8 ∨ j = 9 ∨ j = 10 ∨ j = 11 ∨ j = 12 ∨ j = 13 by omega) with rfl | rfl | rfl | rfl | rfl | rfl | rfl | rfl | rfl | rfl | rfl | rfl | rfl | rfl <;> rfl) ⟨Nat.le_of_ble_eq_true rfl, Nat.le_of_ble_eq_true rfl⟩ dL_law_0 3 rfl (fun q1 => ?_)
  refine n_dup X dL_law_3 rfl 4 rfl ?_
  refine n_ctor X hZ [] rfl kIB_X11 kLi_L_124 (ct_X11_init l hZ hO hA hB q1) rfl ⟨Nat.le_of_ble_eq_true rfl, Nat.le_of_ble_eq_true rfl⟩ (Nat.le_of_ble_eq_true rfl) ⟨Nat.le_of_ble_eq_true rfl, Nat.le_of_ble_eq_true rfl⟩ dL_law_4 7 rfl (fun w1 hw1 => ?_)
  obtain ⟨f1, hf1, hp1⟩ := cls_W hw1
  subst hf1
  refine n_astore_n X [(1, .ref (f1 0)), (0, .ref b)] dL_law_7 rfl (by decide) rfl 8 rfl ?_
  refine n_new (ci := 12) (C := RX12) (T := TX12) (N := 50) X in_X12 tyX12 tyX12_ok kC_LN_12 kI_LN_12 kN_X12 rfl [.int 0, .null, .int 0, .int 0, .int 0, .int 0, .int 0, .int 0, .int 0, .int 0, .int 0, .int 0, .long 0, .null, .null, .null, .null, .null, .int 0, .int 0, .null, .null, .int 0, .null, .int 0, .int 0, .int 0, .int 0, .null, .null, .null, .null, .null, .null, .int 0, .int 0, .int 0, .null, .null, .null, .null, .null, .null, .int 0, .int 0, .int 0, .int 0, .null, .int 0, .int 0] (fun j hj => by rcases (show j = 0 ∨ j = 1 ∨ j = 2 ∨ j = 3 ∨ j = 4 ∨ j = 5 ∨ j = 6 ∨ j = 7 ∨ j = 8 ∨ j = 9 ∨ j = 10 ∨ j = 11 ∨ j = 12 ∨ j = 13 ∨ j = 14 ∨ j = 15 ∨ j = 16 ∨ j = 17 ∨ j = 18 ∨ j = 19 ∨ j = 20 ∨ j = 21 ∨ j = 22 ∨ j = 23 ∨ j = 24 ∨ j = 25 ∨ j = 26 ∨ j = 27 ∨ j = 28 ∨ j = 29 ∨ j = 30 ∨ j = 31 ∨ j = 32 ∨ j = 33 ∨ j = 34 ∨ j = 35 ∨ j = 36 ∨ j = 37 ∨ j = 38 ∨ j = 39 ∨ j = 40 ∨ j = 41 ∨ j = 42 ∨ j = 43 ∨ j = 44 ∨ j = 45 ∨ j = 46 ∨ j = 47 ∨ j = 48 ∨ j = 49 by omega) with rfl | rfl | rfl | rfl | rfl | rfl | rfl | rfl | rfl | rfl | rfl | rfl | rfl | rfl | rfl | rfl | rfl | rfl | rfl | rfl | rfl | rfl | rfl | rfl | rfl | rfl | rfl | rfl | rfl | rfl | rfl | rfl | rfl | rfl | rfl | rfl | rfl | rfl | rfl | rfl | rfl | rfl | rfl | rfl | rfl | rfl | rfl | rfl | rfl | rfl <;> rfl) ⟨Nat.le_of_ble_eq_true rfl, Nat.le_of_ble_eq_true rfl⟩ dL_law_8 11 rfl (fun q2 => ?_)
  refine n_dup X dL_law_11 rfl 12 rfl ?_
  refine n_ctor X hZ [] rfl kIB_X12 kLi_L_127 (ct_X12_init l hZ hM q2) rfl ⟨Nat.le_of_ble_eq_true rfl, Nat.le_of_ble_eq_true rfl⟩ (Nat.le_of_ble_eq_true rfl) ⟨Nat.le_of_ble_eq_true rfl, Nat.le_of_ble_eq_true rfl⟩ dL_law_12 15 rfl (fun w2 hw2 => ?_)
  obtain ⟨f2, hf2, hw2⟩ := hw2
  subst hf2
  subst hw2
  refine n_astore_n X [(2, .ref (f2 0)), (1, .ref (f1 0)), (0, .ref b)] dL_law_15 rfl (by decide) rfl 16 rfl ?_
  refine n_iconst X 1 dL_law_16 rfl 17 rfl ?_
  refine n_newa (N' := 1) (t0 := 5) (ty := .long) (cT := ca 5) (1, .inr (.inl (fun _ => 0))) X rfl kA_long rfl (fun _ => rfl) (by decide) rfl (Nat.le_of_ble_eq_true rfl) ⟨Nat.le_of_ble_eq_true rfl, Nat.le_of_ble_eq_true rfl⟩ dL_law_17 19 rfl (fun o1 => ?_)
  refine n_astore_n X [(3, .ref o1), (2, .ref (f2 0)), (1, .ref (f1 0)), (0, .ref b)] dL_law_19 rfl (by decide) rfl 20 rfl ?_
  refine n_iconst X 0 dL_law_20 rfl 21 rfl ?_
  refine n_istore X [(4, .int 0), (3, .ref o1), (2, .ref (f2 0)), (1, .ref (f1 0)), (0, .ref b)] dL_law_21 (by decide) rfl 23 rfl ?_
  obtain ⟨ad, had0, had1, had2, hp2⟩ := wf_W (f2 := f2) (o1 := o1) (memM := memM) hp1
  rw [← had0, ← had1, ← had2]
  rw [← had1] at hp2
  refine n_toW X hZ hp2 (fun X2 hfr => ?_)
  have hbA : ¬ AA 279 ad s.heap.size b := fun h => h.elim (fun ⟨k, h1, h2⟩ => by have := hfr k h1; omega) (fun h => by omega)
  refine law_loop hst hZ hX hO fu X2 hL hXs hbl hbA J (fun t mem ht hJ => hstep _ t mem (by omega) hJ) (C0 := 0 + 1 + 254 + 1 + 22 + 1) (S0 := 0 + 14 + 8226 + 50 + 5132 + 1) ⟨Nat.le_of_ble_eq_true rfl, Nat.le_of_ble_eq_true rfl⟩ (fun mem x4 => ?_) 513 0 (mW0 memB memM) (by decide) (by omega) hJ0
  refine w_iconst X2 1 dL_law_2588 rfl 2589 rfl ?_
  intro H locs ls hP hS hl
  refine W.widen (k := room_1.cells) (n := room_1.slots) (Nat.le_of_ble_eq_true rfl) (Nat.le_of_ble_eq_true rfl) ?_
  refine va_forget (fun q hq => ?_) (lw_ret hx hb hr hlocks dL_law_2589)
  rcases hS.2.2 q hq with ⟨k, h1, h2⟩ | h
  · rw [h2]
    exact hfr k h1
  · exact h
end STB
