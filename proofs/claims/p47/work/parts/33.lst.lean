section LST
variable {D : va_G} {tys : List (ClassId × FieldType)} {n : Nat} {ad : Nat → Nat} {cf : Nat → Row → va_E} {Z : (Nat → Prop) → State → Heap → Prop} {l : Launch} {mem : Mem}
def rmA0 : Room := { frames := 0, cells := 0, slots := 0, locals := 0 }
def rmA1 : Room := { frames := 1, cells := 0, slots := 0, locals := 22 }
def rmA2 : Room := { frames := 2, cells := 0, slots := 0, locals := 43 }
set_option maxRecDepth 100000 in
theorem cw_ckI {x0 x1 : Int32} {o : Option Nat} (h0 : ¬ x0 < 0) (h1 : x0 < x1) : CJ l D tys n ad cf Z yJ3_checkIndex_8e157 cJ3_checkIndex_8e157 3 .int rmA0 [.int x0, .int x1, va_rf o] mem x0 mem := by
  refine xstart_i (own := RJ3) rfl (by decide) (by cases o <;> exact Nat.le_of_ble_eq_true rfl) ?_
  intro p e s m args below meth c Q hQ X
  have hF : (if x0 < 0 then none else if x0 < x1 then some () else none) = some () := by rw [if_neg h0, if_pos h1]
  refine x_iload_n X 0 dJ3_checkIndex_8e157_0 rfl rfl 1 rfl ?_
  refine x_if_lt X hF 9 4 dJ3_checkIndex_8e157_1 (by decide) rfl (fun hF => no_none hF) (fun hF => ?_)
  refine x_iload_n X 0 dJ3_checkIndex_8e157_4 rfl rfl 5 rfl ?_
  refine x_iload_n X 1 dJ3_checkIndex_8e157_5 rfl rfl 6 rfl ?_
  refine x_icmp_lt X hF 16 9 dJ3_checkIndex_8e157_6 (by decide) rfl (fun hF => ?_) (fun hF => no_none hF)
  refine x_iload_n X 0 dJ3_checkIndex_8e157_16 rfl rfl 17 rfl ?_
  exact x_iret X hQ rfl rfl rfl (Nat.le_refl _) (Nat.le_refl _) dJ3_checkIndex_8e157_17
set_option maxRecDepth 100000 in
theorem cw_ockI {x0 x1 : Int32} (hZ : ZOK Z) (h0 : ¬ x0 < 0) (h1 : x0 < x1) : CJ l D tys n ad cf Z yJ15_checkIndex_7cf53 cJ15_checkIndex_7cf53 2 .int rmA1 [.int x0, .int x1] mem x0 mem := by
  refine xstart_i (own := RJ15) rfl (by decide) (Nat.le_of_ble_eq_true rfl) ?_
  intro p e s m args below meth c Q hQ X
  refine x_iload_n X 0 dJ15_checkIndex_7cf53_0 rfl rfl 1 rfl ?_
  refine x_iload_n X 1 dJ15_checkIndex_7cf53_1 rfl rfl 2 rfl ?_
  refine x_anull X dJ15_checkIndex_7cf53_2 3 rfl ?_
  refine x_callSi (o := some ()) (F := fun _ => some ()) (res := ()) (fun _ => x0) (fun _ => mem) X hZ rfl [.int x0, .int x1, va_rf none] rfl kB_J3_checkIndex_8e157 kL_J15_105 (fun _ _ => cw_ckI h0 h1) rfl ⟨Nat.le_of_ble_eq_true rfl, Nat.le_of_ble_eq_true rfl⟩ (Nat.le_of_ble_eq_true rfl) ⟨Nat.le_of_ble_eq_true rfl, Nat.le_of_ble_eq_true rfl⟩ dJ15_checkIndex_7cf53_3 6 rfl (fun _ _ => ?_)
  exact x_iret X hQ rfl rfl rfl (Nat.le_refl _) (Nat.le_refl _) dJ15_checkIndex_7cf53_6
end LST
theorem vi_lt {x : Int32} {n : Nat} (hn : n < 2147483648) (h : vp_in x n) : x < Int32.ofNat n := by
  have h1 : ¬ x < 0 := fun q => h (Or.inl q)
  have h2 := vp_lt h
  have e : (Int32.ofNat n).toInt = (n : Int) := nI_toInt hn
  rw [Int32.lt_iff_toInt_lt, e]
  have h3 : x.toNatClampNeg = x.toInt.toNat := rfl
  omega
theorem vi_ge {x : Int32} {n : Nat} (h : vp_in x n) : ¬ x < 0 := fun q => h (Or.inl q)
theorem vi_mono {x : Int32} {n k : Nat} (hk : n ≤ k) (h : vp_in x n) : vp_in x k := fun q => q.elim (fun q => h (Or.inl q)) (fun q => h (Or.inr (Nat.le_trans hk q)))
section LSW
variable {D : va_G} {np nb eD tS sB : Nat} {ad : Nat → Nat} {Z : (Nat → Prop) → State → Heap → Prop} {l : Launch} {mem : Mem} {ca : Nat → Nat}
set_option maxRecDepth 100000 in
theorem cw_size1 : CJ l D (tyL ca) (nW np nb) ad (cWd ca ad np nb eD tS sB) Z yJx4a65c_size_8abf5 cJx4a65c_size_8abf5 1 .int rmA0 [.ref (ad 1)] mem (Int32.ofNat np) mem := by
  refine xstart_i (own := RJx4a65c) rfl (by decide) (Nat.le_of_ble_eq_true rfl) ?_
  intro p e s m args below meth c Q hQ X
  refine x_aload_n X 0 dJx4a65c_size_8abf5_0 rfl rfl 1 rfl ?_
  refine x_getV (v := .int (Int32.ofNat np)) X 1 nw_1 kw_1 (T := TJx4a65c) (N := 3) rfl in_Jx4a65c 2 (by decide) kF_Jx4a65c_48 rfl rfl dJx4a65c_size_8abf5_1 4 rfl ?_
  exact x_iret X hQ rfl rfl rfl (Nat.le_refl _) (Nat.le_refl _) dJx4a65c_size_8abf5_4
set_option maxRecDepth 100000 in
theorem cw_elem1 {x : Int32} (h4 : np ≤ 4) (hx : vp_in x np) : CJa l D (tyL ca) (nW np nb) ad (cWd ca ad np nb eD tS sB) Z yJx4a65c_elementData_915e3 cJx4a65c_elementData_915e3 2 (.object "java/lang/Object") rmA0 [.ref (ad 1), .int x] mem (ad (13 + x.toNatClampNeg)) := by
  have hlt := vp_lt hx
  refine xstart_a (own := RJx4a65c) rfl (by decide) (Nat.le_of_ble_eq_true rfl) ?_
  intro p e s m args below meth c Q hQ X
  refine x_aload_n X 0 dJx4a65c_elementData_915e3_0 rfl rfl 1 rfl ?_
  refine x_getV (v := .ref (ad 12)) X 1 nw_1 kw_1 (T := TJx4a65c) (N := 3) rfl in_Jx4a65c 1 (by decide) kF_Jx4a65c_9 rfl (by show some (qW eD np (ad 12)) = _; unfold qW; rw [if_neg (by omega)]) dJx4a65c_elementData_915e3_1 4 rfl ?_
  refine x_iload_n X 1 dJx4a65c_elementData_915e3_4 rfl rfl 5 rfl ?_
  have h10 : vp_in x 10 := vi_mono (by omega) hx
  refine x_aal X 12 (nw_e (by omega)) (13 + x.toNatClampNeg) kw_e (t0 := 5) rfl h10 (el_paw hlt) dJx4a65c_elementData_915e3_5 6 rfl ?_
  exact x_aretA X (Or.inl ⟨_, rfl⟩) hQ rfl rfl (Nat.le_refl _) (Nat.le_refl _) dJx4a65c_elementData_915e3_6
set_option maxRecDepth 100000 in
theorem cw_get1 {x : Int32} (hZ : ZOK Z) (h4 : np ≤ 4) (hx : vp_in x np) : CJa l D (tyL ca) (nW np nb) ad (cWd ca ad np nb eD tS sB) Z yJx4a65c_get_915e3 cJx4a65c_get_915e3 2 (.object "java/lang/Object") rmA2 [.ref (ad 1), .int x] mem (ad (13 + x.toNatClampNeg)) := by
  refine xstart_a (own := RJx4a65c) rfl (by decide) (Nat.le_of_ble_eq_true rfl) ?_
  intro p e s m args below meth c Q hQ X
  refine x_iload_n X 1 dJx4a65c_get_915e3_0 rfl rfl 1 rfl ?_
  refine x_aload_n X 0 dJx4a65c_get_915e3_1 rfl rfl 2 rfl ?_
  refine x_getV (v := .int (Int32.ofNat np)) X 1 nw_1 kw_1 (T := TJx4a65c) (N := 3) rfl in_Jx4a65c 2 (by decide) kF_Jx4a65c_48 rfl rfl dJx4a65c_get_915e3_2 5 rfl ?_
  refine x_callSi (o := some ()) (F := fun _ => some ()) (res := ()) (fun _ => x) (fun _ => mem) X hZ rfl [.int x, .int (Int32.ofNat np)] rfl kB_J15_checkIndex_7cf53 kL_Jx4a65c_118 (fun _ _ => cw_ockI hZ (vi_ge hx) (vi_lt (by omega) hx)) rfl ⟨Nat.le_of_ble_eq_true rfl, Nat.le_of_ble_eq_true rfl⟩ (Nat.le_of_ble_eq_true rfl) ⟨Nat.le_of_ble_eq_true rfl, Nat.le_of_ble_eq_true rfl⟩ dJx4a65c_get_915e3_5 8 rfl (fun _ _ => ?_)
  refine x_pop X dJx4a65c_get_915e3_8 rfl 9 rfl ?_
  refine x_aload_n X 0 dJx4a65c_get_915e3_9 rfl rfl 10 rfl ?_
  refine x_iload_n X 1 dJx4a65c_get_915e3_10 rfl rfl 11 rfl ?_
  refine x_callVa (o := some ()) (F := fun _ => some ()) (res := ()) (fun _ => ad (13 + x.toNatClampNeg)) X hZ rfl [.int x] 1 nw_1 kw_1 rfl rfl rfl kB_Jx4a65c_elementData_915e3 kL_Jx4a65c_123 (fun _ _ => cw_elem1 h4 hx) rfl ⟨Nat.le_of_ble_eq_true rfl, Nat.le_of_ble_eq_true rfl⟩ (Nat.le_of_ble_eq_true rfl) ⟨Nat.le_of_ble_eq_true rfl, Nat.le_of_ble_eq_true rfl⟩ dJx4a65c_get_915e3_11 14 rfl (fun _ _ => ?_)
  exact x_aretA X (Or.inl ⟨_, rfl⟩) hQ rfl rfl (Nat.le_refl _) (Nat.le_refl _) dJx4a65c_get_915e3_14
variable {p : Program} {e : Env} {R : Room} {s : State} {m : MethodId} {args : Array Value} {below : List Frame} {meth : Method} {c : Code} {cc : ByteArray} {nL : Nat} {own : String} {ret : Option FieldType} {cells slots : Nat} {Q : State → Prop} {ex : va_W} {pc : Nat} {lv : List (Nat × Value)} {st : List Value} {tA tU L : Nat} {xs : Nat → Int32}
/-- pawns.size() -/
theorem xw_size {index : Nat} (X : CX D (tyL ca) (nW np nb) ad Z p s m args meth c cc nL own ret) (hZ : ZOK Z) (hW : ZWO Z tA tU sB L xs) (w1 : Cond.methodLink own index yI_size ∈ GW) (hR : 1 ≤ R.frames ∧ 20 ≤ R.locals) (hst : (st.map fun v => v.category).sum ≤ 8) (hcs : cells ≤ R.cells ∧ slots ≤ R.slots) (hdg : decode cc pc = .ok (.invokeinterface index 1, 5)) (pc2 : Nat) (hp : pc + 5 = pc2) (kk : XX D (nW np nb) ad (cWd ca ad np nb eD tS sB) p l e R s m args below meth c nL cells slots Q mem ex pc2 lv (.int (Int32.ofNat np) :: st)) : XX D (nW np nb) ad (cWd ca ad np nb eD tS sB) p l e R s m args below meth c nL cells slots Q mem ex pc lv (.ref (ad 1) :: st) :=
  x_callFi (rm := rmA0) (o := some ()) (F := fun _ => some ()) (res := ()) (fun _ => Int32.ofNat np) (fun _ => mem) X hZ rfl [] 1 nw_1 kw_1 (q := ("java/util/ArrayList", TJx4a65c, 3)) rfl rfl kFB_size w1 ((hW _ _ _ X.2.2.2.2.2).2.2.2.2.1 ("java/util/ArrayList", yI_size, yJx4a65c_size_8abf5) (List.mem_of_getElem? (i := 0) rfl)) (fun _ _ => cw_size1) rfl hR hst hcs hdg pc2 hp (fun _ _ => kk)
/-- pawns.get(x), an int[] -/
theorem xw_get {index ic : Nat} {x : Int32} (X : CX D (tyL ca) (nW np nb) ad Z p s m args meth c cc nL own ret) (hZ : ZOK Z) (hW : ZWO Z tA tU sB L xs) (h4 : np ≤ 4) (hx : vp_in x np) (w1 : Cond.methodLink own index yI_get ∈ GW) (w2 : Cond.classLink own ic "[I" ∈ GW) (hR : 3 ≤ R.frames ∧ 64 ≤ R.locals) (hst : (st.map fun v => v.category).sum ≤ 8) (hcs : cells ≤ R.cells ∧ slots ≤ R.slots) (hdg : decode cc pc = .ok (.invokeinterface index 2, 5)) (pc2 : Nat) (hp : pc + 5 = pc2) (hdc : decode cc pc2 = .ok (.checkcast ic, 3)) (pc3 : Nat) (hp3 : pc2 + 3 = pc3) (kk : XX D (nW np nb) ad (cWd ca ad np nb eD tS sB) p l e R s m args below meth c nL cells slots Q mem ex pc3 lv (.ref (ad (13 + x.toNatClampNeg)) :: st)) : XX D (nW np nb) ad (cWd ca ad np nb eD tS sB) p l e R s m args below meth c nL cells slots Q mem ex pc lv (.int x :: .ref (ad 1) :: st) := by
  refine x_callFa (rm := rmA2) (o := some ()) (F := fun _ => some ()) (res := ()) (fun _ => ad (13 + x.toNatClampNeg)) X hZ rfl [.int x] 1 nw_1 kw_1 (q := ("java/util/ArrayList", TJx4a65c, 3)) rfl rfl kFB_get w1 ((hW _ _ _ X.2.2.2.2.2).2.2.2.2.1 ("java/util/ArrayList", yI_get, yJx4a65c_get_915e3) (List.mem_of_getElem? (i := 1) rfl)) (fun _ _ => cw_get1 hZ h4 hx) rfl hR hst hcs hdg pc2 hp (fun _ _ => ?_)
  exact x_castI X (13 + x.toNatClampNeg) (nw_p (vp_lt hx)) (x := (7, .inl (fun _ => 0))) (fun f => ⟨_, kw_p (vp_lt hx) f⟩) (t0 := 0) rfl rfl w2 hdc pc3 hp3 kk
end LSW
