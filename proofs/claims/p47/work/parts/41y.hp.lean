section STB
/-- what the two programs' pure functions must keep, for every script -/
def MATH : Prop := ∀ (L : Nat) (xs : Nat → Int32), L ≤ 260 → ∃ (fu np nb : Nat) (memB memW m1 m2 : Mem) (tx : List Nat) (x1 : Int32), K_B_clear fu 5 5 (fun _ => z0) = some memB ∧ KG_grown L xs fu = some (np, nb, memW, tx) ∧ (np ≤ 4 ∧ nb ≤ 4 ∧ (np = 0 → nb = 0)) ∧ (∀ c ∈ tx, c < 128) ∧ tx.length ≤ 400 ∧ KL_feeds fu tx (mJ (mC0 memB) memW) = some (x1, m1) ∧ ¬ x1 = 0 ∧ K_X11_readText fu m1 = some (0, nI np, m2) ∧ KL_it L xs np nb fu 9 0 (mset 0 255 m1 m2) = some 1
def R_law : String := "PawnRaceLaw"
def lw_P (b : Addr) (xs : List Int32) (args : Array Value) (s : State) : Prop := args = #[.ref b] ∧ s.IntsAt b xs ∧ xs.length ≤ 260 ∧ (Jvm.Cond.and given_1 narrow_1).before args s = true
def lw_Q (_ : Array Value) (s : State) (o : Outcome) (t : State) : Prop := o = .returned (some (.int 1)) ∧ Framed s o t [] room_1.cells room_1.slots
def lw_Z (below : List Frame) (a : Array Value) (s : State) : State → Prop := fun t => ∃ o, t.status = .running ∧ Ended t below o ∧ lw_Q a s o t
/-- the law's own end, with 1 on the stack, nothing written that was there before, its room as the claim has it -/
theorem lw_ret {p : Program} {l : Launch} {e : Env} {s : State} {m : MethodId} {below : List Frame} {meth : Method} {c : Code} {b : Nat} (hx : p.tables.exec = Jvm.exec) (hb : c.code = code) (hr : meth.sig.returnType = ret) (hlocks : meth.locks = false) {pc : Nat} {H : Heap} {ls : Array Slot} (hdg : decode code pc = .ok (.ireturn, 1)) : W p l e room_1 s m #[Value.ref b] below meth c H [] room_1.cells room_1.slots (lw_Z below #[Value.ref b] s) (F0 m pc ls [.int 1]) := by
  intro T hT X
  obtain ⟨fs, hret, hrun, hended, hW, hframe⟩ := X.leave (v := some (.int 1)) (hlocks := hlocks) (fun h => by rw [hr] at h; cases h)
  have hmeth' : T.vm.method? m = some meth := X.method'
  refine ⟨T.setFrames fs, ?_, .returned (some (.int 1)), hrun, hended, rfl, ⟨_, rfl⟩, hW, hframe⟩
  jvm_step X.here [X.here.top, hx, hb, hdg, hmeth', hr, ret, narrow_b1]
  (try refine ⟨rfl, ?_⟩); (try refine ⟨rfl, ?_⟩)
  first | (intro acts; rw [hret _ acts rfl rfl rfl]) | rw [hret _ _ rfl rfl rfl]
  exact Steps.refl _
/-- what holds at the law's entry: the machine, the code, the tables' words (any of lw_tbl by 'hts w (by decide +kernel)'), the script of L ints xs at the cell b, what the Statement gives of the start (any of its parts by flat_of_before) -/
def lw_At (p : Program) (s : State) (m : MethodId) (meth : Method) (c : Code) (b L : Nat) (xs : Nat → Int32) : Prop :=
  p.tables.exec = Jvm.exec ∧ c.code = code ∧ meth.sig.returnType = ret ∧ c.maxLocals = 4 ∧ s.vm.findClass R_law = some m.cls ∧ (∀ w ∈ lw_tbl, w.before #[Value.ref b] s = true) ∧ va_X b L xs s s.heap ∧ b < s.heap.size ∧ meth.locks = false ∧ (Jvm.Cond.and given_1 narrow_1).before #[Value.ref b] s = true
theorem arr_arr {args : Array Value} {s : State} {t : FieldType} (h : (Cond.arrayOver (.array t)).before args s = true) : ∃ cA : ClassId, ArrOfT s cA (.array t) ∧ va_RA s cA (.array t) := by
  obtain ⟨comp, cA, kA, h1, h3, h4, h5⟩ := Cond.arrayOver_specA h
  exact ⟨cA, fun n z => ⟨(fun k h => (by cases h)), kA, h3, comp, h4⟩, h5⟩
theorem law_K {args : Array Value} {s : State} (hts : ∀ w ∈ lw_tbl, w.before args s = true) : ∃ (D : va_G) (ca : Nat → ClassId), va_K D vwCl (tyL ca) s := by
  have hG : ∀ w ∈ GW, w.before args s = true := fun w hw => hts w (List.mem_filter.mp hw).1
  obtain ⟨c0, i0, g0⟩ := u_known (C := RX0) (T := TX0) (N := 9) (n := 9) hG in_X0 (hts _ (tb_2 _ (List.mem_of_getElem? (i := 33) rfl)))
  obtain ⟨c1, i1, g1⟩ := u_known (C := RX1) (T := TX1) (N := 4) (n := 4) hG in_X1 (hts _ (tb_1 _ (List.mem_of_getElem? (i := 150) rfl)))
  obtain ⟨c2, i2, g2⟩ := u_known (C := RX2) (T := TX2) (N := 5) (n := 5) hG in_X2 (hts _ (tb_1 _ (List.mem_of_getElem? (i := 175) rfl)))
  obtain ⟨c3, i3, g3⟩ := u_known (C := RX3) (T := TX3) (N := 3) (n := 3) hG in_X3 (hts _ (tb_2 _ (List.mem_of_getElem? (i := 183) rfl)))
  obtain ⟨c4, i4, g4⟩ := u_known (C := RX4) (T := TX4) (N := 6) (n := 6) hG in_X4 (hts _ (tb_1 _ (List.mem_of_getElem? (i := 223) rfl)))
  obtain ⟨c5, i5, g5⟩ := u_known (C := RX5) (T := TX5) (N := 7) (n := 7) hG in_X5 (hts _ (tb_1 _ (List.mem_of_getElem? (i := 99) rfl)))
  obtain ⟨c6, i6, g6⟩ := u_known (C := RX6) (T := TX6) (N := 8) (n := 8) hG in_X6 (hts _ (tb_1 _ (List.mem_of_getElem? (i := 169) rfl)))
  obtain ⟨c7, i7, g7⟩ := u_known (C := RX7) (T := TX7) (N := 9) (n := 9) hG in_X7 (hts _ (tb_2 _ (List.mem_of_getElem? (i := 115) rfl)))
  obtain ⟨c8, i8, g8⟩ := u_known (C := RX8) (T := TX8) (N := 10) (n := 10) hG in_X8 (hts _ (tb_2 _ (List.mem_of_getElem? (i := 149) rfl)))
  obtain ⟨c9, i9, g9⟩ := u_known (C := RX9) (T := TX9) (N := 13) (n := 13) hG in_X9 (hts _ (tb_1 _ (List.mem_of_getElem? (i := 46) rfl)))
  obtain ⟨c10, i10, g10⟩ := u_known (C := RX10) (T := TX10) (N := 4) (n := 4) hG in_X10 (hts _ (tb_1 _ (List.mem_of_getElem? (i := 105) rfl)))
  obtain ⟨c11, i11, g11⟩ := u_known (C := RX11) (T := TX11) (N := 14) (n := 14) hG in_X11 (hts _ (tb_1 _ (List.mem_of_getElem? (i := 38) rfl)))
  obtain ⟨c12, i12, g12⟩ := u_known (C := RX12) (T := TX12) (N := 11) (n := 11) hG in_X12 (hts _ (tb_4 _ (List.mem_of_getElem? (i := 152) rfl)))
  obtain ⟨c13, i13, g13⟩ := u_known (C := RJ0) (T := TJ0) (N := 4) (n := 4) hG in_J0 (hts _ (tb_5 _ (List.mem_of_getElem? (i := 221) rfl)))
  obtain ⟨c14, i14, g14⟩ := u_known (C := RJ4) (T := TJ4) (N := 4) (n := 4) hG in_J4 (hts _ (tb_4 _ (List.mem_of_getElem? (i := 232) rfl)))
  obtain ⟨c15, i15, g15⟩ := u_known (C := RJx35411) (T := TJx35411) (N := 4) (n := 4) hG in_Jx35411 (hts _ (tb_7 _ (List.mem_of_getElem? (i := 99) rfl)))
  obtain ⟨c16, i16, g16⟩ := u_known (C := RJx4a65c) (T := TJx4a65c) (N := 3) (n := 3) hG in_Jx4a65c (hts _ (tb_4 _ (List.mem_of_getElem? (i := 158) rfl)))
  obtain ⟨b0, x0, y0⟩ := arr_prim (ty := .int) (hts _ (tb_1 _ (List.mem_of_getElem? (i := 97) rfl))) (fun C h => (by cases h))
  obtain ⟨b1, x1, y1⟩ := arr_prim (ty := .byte) (hts _ (tb_1 _ (List.mem_of_getElem? (i := 96) rfl))) (fun C h => (by cases h))
  obtain ⟨b2, x2, y2⟩ := arr_obj (C := "PawnRace$Pawn") (hts _ (tb_1 _ (List.mem_of_getElem? (i := 222) rfl)))
  obtain ⟨b3, x3, y3⟩ := arr_obj (C := "PawnRace$Ban") (hts _ (tb_2 _ (List.mem_of_getElem? (i := 32) rfl)))
  obtain ⟨b4, x4, y4⟩ := arr_obj (C := "PawnRace$Race") (hts _ (tb_2 _ (List.mem_of_getElem? (i := 189) rfl)))
  obtain ⟨b5, x5, y5⟩ := arr_obj (C := "java/lang/Object") (hts _ (tb_6 _ (List.mem_of_getElem? (i := 86) rfl)))
  obtain ⟨b6, x6, y6⟩ := arr_arr (t := .int) (hts _ (tb_4 _ (List.mem_of_getElem? (i := 187) rfl)))
  refine ⟨(fun k => [c0, c1, c2, c3, c4, c5, c6, c7, c8, c9, c10, c11, c12, c13, c14, c15, c16].getD k 0, fun k => [i0, i1, i2, i3, i4, i5, i6, i7, i8, i9, i10, i11, i12, i13, i14, i15, i16].getD k (fun _ => 0)), fun k => [b0, b1, b2, b3, b4, b5, b6].getD k 0, fun k q hq => ?_, fun k q hq => ?_⟩
  · have hk : k < 17 := (List.getElem?_eq_some_iff.mp hq).1
    rcases (show k = 0 ∨ k = 1 ∨ k = 2 ∨ k = 3 ∨ k = 4 ∨ k = 5 ∨ k = 6 ∨ k = 7 ∨ k = 8 ∨ k = 9 ∨ k = 10 ∨ k = 11 ∨ k = 12 ∨ k = 13 ∨ k = 14 ∨ k = 15 ∨ k = 16 by omega) with rfl | rfl | rfl | rfl | rfl | rfl | rfl | rfl | rfl | rfl | rfl | rfl | rfl | rfl | rfl | rfl | rfl
    · cases hq
      exact g0
    · cases hq
      exact g1
    · cases hq
      exact g2
    · cases hq
      exact g3
    · cases hq
      exact g4
    · cases hq
      exact g5
    · cases hq
      exact g6
    · cases hq
      exact g7
    · cases hq
      exact g8
    · cases hq
      exact g9
    · cases hq
      exact g10
    · cases hq
      exact g11
    · cases hq
      exact g12
    · cases hq
      exact g13
    · cases hq
      exact g14
    · cases hq
      exact g15
    · cases hq
      exact g16
  · have hk : k < 7 := (List.getElem?_eq_some_iff.mp hq).1
    rcases (show k = 0 ∨ k = 1 ∨ k = 2 ∨ k = 3 ∨ k = 4 ∨ k = 5 ∨ k = 6 by omega) with rfl | rfl | rfl | rfl | rfl | rfl | rfl
    · cases hq
      exact ⟨x0, y0⟩
    · cases hq
      exact ⟨x1, y1⟩
    · cases hq
      exact ⟨x2, y2⟩
    · cases hq
      exact ⟨x3, y3⟩
    · cases hq
      exact ⟨x4, y4⟩
    · cases hq
      exact ⟨x5, y5⟩
    · cases hq
      exact ⟨x6, y6⟩
set_option maxHeartbeats 4000000 in
set_option maxRecDepth 100000 in
theorem whole_of (hmath : MATH) {p : Program} {e : Env} {s : State} {m : MethodId} {below : List Frame} {meth : Method} {c : Code} (l : Launch) (hflags : l.flags = flags0) {b L : Nat} {xs : Nat → Int32} (hL : L ≤ 260) (C0 : lw_At p s m meth c b L xs) : W p l e room_1 s m #[Value.ref b] below meth c s.heap [] 0 0 (lw_Z below #[Value.ref b] s) (entryFrame m ([Value.ref b] : List Value).toArray 4) := by
  obtain ⟨hx, hb, hr, hml, hown, hts, hXs, hbl, hlocks, hgv⟩ := C0
  have hst : l.stackTraces = false := by
    unfold Launch.stackTraces
    rw [hflags]
    decide +kernel
  obtain ⟨fu, np, nb, memB, memW, m1, m2, tx, x1, hB, hgr, hg, hc, hn, hfe, hx1, hrd, hit⟩ := hmath L xs hL
  obtain ⟨D, ca, hK⟩ := law_K hts
  obtain ⟨tO, sK, sV, tA, tU, uK, uV, tD, tG, eD, hZs⟩ := zz_start (A := fun q => s.heap.size ≤ q) hgv hts (fun a h1 h2 => by omega) hXs hbl
  have X : CN D (tyL ca) (fun q => s.heap.size ≤ q) (ZZ tO sK sV tA tU b L xs uK uV tD tG eD) p s m #[Value.ref b] meth c cL_law 4 RL (some .boolean) := ⟨⟨hx, hb, hml, hown, fun w hw => hts w (List.mem_filter.mp hw).1⟩, hr, hlocks, hK, fun q h => h, hZs⟩
  rw [lg_entry_eq]
  refine (?_ : NN D (fun q => s.heap.size ≤ q) p l e room_1 s m #[Value.ref b] below meth c 4 0 0 (lw_Z below #[Value.ref b] s) [] 0 [(0, .ref b)] []) s.heap [] _ (fun k q h => (by cases h)) ⟨(fun i j p1 q1 h => (by cases h)), (fun k q h => (by cases h))⟩ va_S.rf (lv_entry [.ref b] (Nat.le_of_ble_eq_true rfl))
  refine lw_nn l hst zz_ok zz_X zz_O zz_A zz_V zz_W zz_U zz_G zz_E hB hgr hg hc hn hfe hx1 hrd hit X ⟨Nat.le_of_ble_eq_true rfl, Nat.le_of_ble_eq_true rfl, Nat.le_of_ble_eq_true rfl, Nat.le_of_ble_eq_true rfl⟩ (fun H locs ls hS hls => ?_)
  refine W.widen (k := room_1.cells) (n := room_1.slots) (Nat.le_of_ble_eq_true rfl) (Nat.le_of_ble_eq_true rfl) ?_
  exact va_forget (fun q hq => hS.2.2 q hq) (lw_ret hx hb hr hlocks dL_law_99)
end STB
