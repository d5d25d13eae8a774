section ALI
variable {D : va_G} {A : Nat → Prop} {Z : (Nat → Prop) → State → Heap → Prop} {l : Launch} {ca : Nat → Nat} {tO : Nat} {sK sV : Nat → Nat}
/-- the empty row of a new list -/
def zE (eD : Nat) (A : Nat → Prop) (U : State) (H : Heap) : Prop := va_Z "java/util/ArrayList" "DEFAULTCAPACITY_EMPTY_ELEMENTDATA" "[Ljava/lang/Object;" (.ref eD) A U H ∧ va_T (.object "java/lang/Object") eD 0 (fun _ => .null) A U H
section
variable {tys : List (ClassId × FieldType)} {p : Program} {e : Env} {R : Room} {s : State} {m : MethodId} {args : Array Value} {below : List Frame} {meth : Method} {c : Code} {cc : ByteArray} {nL : Nat} {own : String} {ret : Option FieldType} {cells slots : Nat} {Q : State → Prop} {ws : va_W} {pc : Nat} {lv : List (Nat × Value)} {st : List Value}
theorem q_empL {eD : Nat} (X : CN D tys A Z p s m args meth c cc nL own ret) (hE : zE eD A s s.heap) (hdg : decode cc pc = .ok (.arraylength, 1)) (pc2 : Nat) (hp : pc + 1 = pc2) (kk : NN D A p l e R s m args below meth c nL cells slots Q ws pc2 lv (.int 0 :: st)) : NN D A p l e R s m args below meth c nL cells slots Q ws pc lv (.ref eD :: st) := by
  subst hp
  exact fun H locs ls hP hD hS hl => va_tlen X.1.1 X.1.2.1 hE.2 hS rfl hdg (kk H locs ls hP hD hS hl)
theorem q_empS {eD index : Nat} (X : CN D tys A Z p s m args meth c cc nL own ret) (hE : zE eD A s s.heap) (hlk : Cond.fieldLink own index "java/util/ArrayList" "DEFAULTCAPACITY_EMPTY_ELEMENTDATA" "[Ljava/lang/Object;" ∈ GW) (hdg : decode cc pc = .ok (.getstatic index, 3)) (pc2 : Nat) (hp : pc + 3 = pc2) (kk : NN D A p l e R s m args below meth c nL cells slots Q ws pc2 lv (.ref eD :: st)) : NN D A p l e R s m args below meth c nL cells slots Q ws pc lv st := by
  subst hp
  exact fun H locs ls hP hD1 hS hl => va_gets X.1.1 X.1.2.1 hE.1 hS X.1.2.2.2.1 (X.1.2.2.2.2 _ hlk) (fun _ h => h) hdg (kk H locs ls hP hD1 hS hl)
theorem q_acmpT {q : Nat} {off : Int} (X : CN D tys A Z p s m args meth c cc nL own ret) (tgt : Nat) (hdg : decode cc pc = .ok (.if_acmp .eq off, 3)) (ht : (pc : Int) + off = (tgt : Int)) (kk : NN D A p l e R s m args below meth c nL cells slots Q ws tgt lv st) : NN D A p l e R s m args below meth c nL cells slots Q ws pc lv (.ref q :: .ref q :: st) :=
  fun H locs ls hP hD hS hl => lv_acmp_eq (rx := some q) (ry := some q) X.1.1 X.1.2.1 hdg ht (fun _ => kk H locs ls hP hD hS hl) (fun z => absurd rfl z)
theorem q_getS {v : Value} (X : CN D tys A Z p s m args meth c cc nL own ret) (k : Nat) {a ci : Nat} {fs : List Value} (he : ws[k]? = some (a, .inr (ci, fs))) {C ref : String} {T : u_T} {N index : Nat} (hc : vwCl[ci]? = some (C, T, N)) (hin : ∀ w ∈ u_ws C T N, w ∈ GW) (j : Nat) (hj : j < N) (hlk : Cond.fieldLink own index ref (T j).2.1 (T j).2.2.1 ∈ GW) (hr : va_Nw (.sameField ref (T j).1 (T j).2.1 (T j).2.2.1) s) (hv : fs[j]? = some v) (hdg : decode cc pc = .ok (.getfield index, 3)) (pc2 : Nat) (hp : pc + 3 = pc2) (kk : NN D A p l e R s m args below meth c nL cells slots Q ws pc2 lv (v :: st)) : NN D A p l e R s m args below meth c nL cells slots Q ws pc lv (.ref a :: st) := by
  subst hp
  exact fun H locs ls hP hD hS hl => va_get X.1.1 X.1.2.1 X.1.2.2.2.2 hin X.1.2.2.2.1 X.2.2.2.1 hP k he hc j hj (X.1.2.2.2.2 _ hlk) (fun x h => u_same (args := #[]) hr x h) hv hdg (kk H locs ls hP hD hS hl)
theorem q_putS {v : Value} (X : CN D tys A Z p s m args meth c cc nL own ret) (k : Nat) {a ci : Nat} {fs : List Value} (w2 : va_W) (he : ws[k]? = some (a, .inr (ci, fs))) {C ref : String} {T : u_T} {N index : Nat} (hc : vwCl[ci]? = some (C, T, N)) (hin : ∀ w ∈ u_ws C T N, w ∈ GW) (ty0 : Nat → FieldType) (hty : ∀ k, k < N → parseFieldDescriptor (T k).2.2.1 = some (ty0 k)) (hnm : ∀ a, a < N → ∀ b, b < N → a ≠ b → (T a).2.1 ≠ (T b).2.1) (j : Nat) (hj : j < N) (hlk : Cond.fieldLink own index ref (T j).2.1 (T j).2.2.1 ∈ GW) (hr : va_Nw (.sameField ref (T j).1 (T j).2.1 (T j).2.2.1) s) (hfin : (T j).2.2.2 = false) (hn : narrow (ty0 j) v = v) (hfit : fits (ty0 j) v = true) (hl0 : j < fs.length) (hset : ws.set k (a, .inr (ci, fs.set j v)) = w2) (hdg : decode cc pc = .ok (.putfield index, 3)) (pc2 : Nat) (hp : pc + 3 = pc2) (kk : NN D A p l e R s m args below meth c nL cells slots Q w2 pc2 lv st) : NN D A p l e R s m args below meth c nL cells slots Q ws pc lv (v :: .ref a :: st) := by
  subst hp; subst hset
  exact fun H locs ls hP hD hS hl => va_put X.1.1 X.1.2.1 X.1.2.2.2.2 hin ty0 hty hnm X.1.2.2.2.1 X.2.2.2.1 hP hD hS k he hc j hj (X.1.2.2.2.2 _ hlk) (fun x h => u_same (args := #[]) hr x h) hfin (hty j hj) hn hfit hl0 hdg (fun H1 locs1 hP1 hD1 hS1 => kk H1 locs1 ls hP1 hD1 hS1 hl)
/-- a row of ints put into a row of objects -/
theorem q_astqA {a v n t0 t1 : Nat} {cA cI : ClassId} {E : String} {x : vp_A} {f : Nat → Option Nat} {i : Int32} (X : CN D tys A Z p s m args meth c cc nL own ret) (k kv : Nat) (iN : Nat) (w2 : va_W) (he : ws[k]? = some (a, .inl (cA, n, .inr (.inr (.inr (.inr f)))))) (ht : tys[t0]? = some (cA, .object E)) (hv : ws[kv]? = some (v, .inl (cI, x))) (ht1 : tys[t1]? = some (cI, .int)) (hca : va_Nw (.castable "[I" E) s) (hi : i = nI iN) (hin : iN < n) (hn : n < 2 ^ 31) (hset : ws.set k (a, .inl (cA, n, .inr (.inr (.inr (.inr (va_up f iN (some v))))))) = w2) (hdg : decode cc pc = .ok (.aastore, 1)) (pc2 : Nat) (hp : pc + 1 = pc2) (kk : NN D A p l e R s m args below meth c nL cells slots Q w2 pc2 lv st) : NN D A p l e R s m args below meth c nL cells slots Q ws pc lv (.ref v :: .int i :: .ref a :: st) := by
  subst hp; subst hset; subst hi
  intro H locs ls hP hD hS hl
  have hcl := ra_cls (X.2.2.2.1.2 t1 _ ht1).2
  have hcell := hP kv _ hv
  refine vb_astq (E := E) (C := "[I") X.1.1 X.1.2.1 X.2.2.2.1 hP hD hS k t0 he ht ⟨vp_cell cI x, hcell, ?_, ?_⟩ (fun comp c0 h1 h2 => ?_) (pk_in iN n hin rfl hn) hdg (fun H1 locs1 hP1 hD1 hS1 => ?_)
  · obtain ⟨n, f | f | f | f | f⟩ := x <;> rfl
  · have : (vp_cell cI x).cls = cI := by obtain ⟨n, f | f | f | f | f⟩ := x <;> rfl
    rw [this]
    exact hcl
  · obtain ⟨c1, t1, f1, f2, f3⟩ := Cond.castable_spec (va_Nw.use (A := args) rfl hca)
    cases f1.symm.trans h2
    cases f2.symm.trans h1
    exact f3
  · rw [nI_clamp (by omega)] at hP1 hD1
    exact kk H1 locs1 ls hP1 hD1 hS1 hl
theorem q_callF {x y : MethodName} {bytes : ByteArray} {nY index count na : Nat} {rt : Option FieldType} {rm : Room} {wc : va_W} {Qf : Option Value → va_W → Prop} {stk : List Value} (X : CN D tys A Z p s m args meth c cc nL own ret) (hZ : ZOK Z) (As : List Value) (wr : va_W) (hw : ws = wc ++ wr) (k : Nat) {a ci : Nat} {fs : List Value} {q : vw_C} (he : ws[k]? = some (a, .inr (ci, fs))) (hq : vwCl[ci]? = some q) (hs : As.reverse ++ .ref a :: st = stk) (b : FB q.1 x y bytes nY rt na) (w1 : Cond.methodLink own index x ∈ GW) (hFw : va_Fw q.1 x y s) (hM : LC l D tys Z y bytes nY rt rm (.ref a :: As) wc Qf) (hna : As.length = na) (hR : rm.frames + 1 ≤ R.frames ∧ 8 + (nY + 11) + rm.locals ≤ R.locals) (hst : (st.map fun v => v.category).sum ≤ 8) (hcs : cells + rm.cells ≤ R.cells ∧ slots + rm.slots ≤ R.slots) (hdg : decode cc pc = .ok (.invokeinterface index count, 5)) (pc2 : Nat) (hp : pc + 5 = pc2) (kk : ∀ (v : Option Value) (w1 : va_W), Qf v w1 → NN D A p l e R s m args below meth c nL (cells + rm.cells) (slots + rm.slots) Q (w1 ++ wr) pc2 lv (v.toList ++ st)) : NN D A p l e R s m args below meth c nL cells slots Q ws pc lv stk := by
  subst hs; subst hw
  intro H locs ls hP hD hS hl
  have hpre : ∀ U : State, U.heap = H → s.WarmedH U.vm → va_Pc (.ref a :: As) (PLq D tys Z wc H.size) ((.ref a :: As) : List Value).toArray U := fun U hU hW => ⟨rfl, PL_of X hZ hP hD hS hU hW⟩
  obtain ⟨w4, w2, w3, w5, hd⟩ := b
  have hg : GoodIn GW (va_wsF own index q.1 x y (Cond.code y bytes nY rt :: GW)) := fun w hw => by
    have hg0 : GoodIn GW (Cond.code y bytes nY rt :: GW) := gw_cons w5
    rcases List.mem_append.mp hw with h | h
    · simp only [List.mem_cons, List.not_mem_nil, or_false] at h
      rcases h with h | h | h | h
      · rw [h]; exact ⟨w1, gw_good w1⟩
      · rw [h]; exact ⟨w4, gw_good w4⟩
      · rw [h]; exact ⟨w2, gw_good w2⟩
      · rw [h]; exact ⟨w3, gw_good w3⟩
    · exact hg0 w h
  have cw : va_CI R s args own q.1 index x y bytes nY rt (Cond.code y bytes nY rt :: GW) rm rm.cells rm.slots na := va_cwF na X.1.2.2.2.2 hg rfl rfl rfl hFw hd hR
  have hr := va_runF (rest := st) (X.2.2.2.1.1 ci q hq).2 X.1 (hM H.size) cw ⟨PL_bl hZ, va_recv X.2.2.2.1 hP hq he, hpre⟩ (g := F0 m pc ls (As.reverse ++ .ref a :: st)) (H := H) (locs := locs) (cells := cells) (slots := slots) (below := below) (e := e) (meth := meth) rfl hna hl.1 rfl (lv_room hst) hdg hcs
  exact q_ranF X hP hD hS hl hp hr kk
end
theorem kT_Jx4a65c_init_da8c8 : IB yJx4a65c_init_da8c8 cJx4a65c_init_da8c8 1 0 := ⟨kIm_Jx4a65c_init_da8c8, kN_Jx4a65c, kIc_Jx4a65c_init_da8c8, rfl, ⟨by decide +kernel, by decide +kernel, by decide +kernel⟩⟩
theorem kT_Jxc12de_init_da8c8 : IB yJxc12de_init_da8c8 cJxc12de_init_da8c8 1 0 := ⟨kIm_Jxc12de_init_da8c8, kN_Jxc12de, kIc_Jxc12de_init_da8c8, rfl, ⟨by decide +kernel, by decide +kernel, by decide +kernel⟩⟩
theorem kT_Jxa1e45_init_da8c8 : IB yJxa1e45_init_da8c8 cJxa1e45_init_da8c8 1 0 := ⟨kIm_Jxa1e45_init_da8c8, kN_Jxa1e45, kIc_Jxa1e45_init_da8c8, rfl, ⟨by decide +kernel, by decide +kernel, by decide +kernel⟩⟩
def rmAa : Room := { frames := 1, cells := 0, slots := 0, locals := 30 }
def rmAb : Room := { frames := 2, cells := 0, slots := 0, locals := 60 }
def rmAc : Room := { frames := 3, cells := 0, slots := 0, locals := 90 }
set_option maxRecDepth 100000 in
theorem cl_ac {ls : Nat} : LC l D (tyL ca) Z yJxa1e45_init_da8c8 cJxa1e45_init_da8c8 1 none rmAa [.ref ls] [(ls, .inr (16, [.int 0, .null, .int 0]))] (fun v w => v = none ∧ w = [(ls, .inr (16, [.int 0, .null, .int 0]))]) := by
  refine qstart (own := RJxa1e45) rfl (by decide) (Nat.le_of_ble_eq_true rfl) ?_
  intro p e s m args below meth c Q hQ X hi
  refine q_aload_n X 0 dJxa1e45_init_da8c8_0 rfl rfl 1 rfl ?_
  refine n_obj X (gw_c tb_4 168 rfl rfl) kOb1 kOb2 ⟨Nat.le_of_ble_eq_true rfl, Nat.le_of_ble_eq_true rfl⟩ (Nat.le_of_ble_eq_true rfl) dJxa1e45_init_da8c8_1 4 rfl ?_
  exact q_vret X hQ ⟨rfl, rfl⟩ (by first | exact Nat.zero_le _ | exact Nat.le_of_ble_eq_true rfl | exact Nat.le_refl _ | (simp only [rmAa]; omega)) (by first | exact Nat.zero_le _ | exact Nat.le_of_ble_eq_true rfl | exact Nat.le_refl _ | (simp only [rmAa]; omega)) dJxa1e45_init_da8c8_4
set_option maxRecDepth 100000 in
theorem cl_al0 {ls : Nat} (hZ : ZOK Z) : LC l D (tyL ca) Z yJxc12de_init_da8c8 cJxc12de_init_da8c8 1 none rmAb [.ref ls] [(ls, .inr (16, [.int 0, .null, .int 0]))] (fun v w => v = none ∧ w = [(ls, .inr (16, [.int 0, .null, .int 0]))]) := by
  refine qstart (own := RJxc12de) rfl (by decide) (Nat.le_of_ble_eq_true rfl) ?_
  intro p e s m args below meth c Q hQ X hi
  refine q_aload_n X 0 dJxc12de_init_da8c8_0 rfl rfl 1 rfl ?_
  refine q_callI X hZ [] [] rfl rfl kT_Jxa1e45_init_da8c8 kL_Jxc12de_1 cl_ac rfl ⟨Nat.le_of_ble_eq_true rfl, Nat.le_of_ble_eq_true rfl⟩ (Nat.le_of_ble_eq_true rfl) ⟨Nat.le_of_ble_eq_true rfl, Nat.le_of_ble_eq_true rfl⟩ dJxc12de_init_da8c8_1 4 rfl ?_
  intro v_ w1 hq
  obtain ⟨rfl, rfl⟩ := hq
  refine q_aload_n X 0 dJxc12de_init_da8c8_4 rfl rfl 5 rfl ?_
  refine q_iconst X 0 dJxc12de_init_da8c8_5 rfl 6 rfl ?_
  refine q_put X 0 [(ls, .inr (16, [.int 0, .null, .int 0]))] rfl (T := TJx4a65c) (N := 3) rfl in_Jx4a65c tyJx4a65c tyJx4a65c_ok nmJx4a65c 0 (by decide) kF_Jxc12de_7 rfl rfl rfl rfl (Nat.le_of_ble_eq_true rfl) rfl dJxc12de_init_da8c8_6 9 rfl ?_
  exact q_vret X hQ ⟨rfl, rfl⟩ (by first | exact Nat.zero_le _ | exact Nat.le_of_ble_eq_true rfl | exact Nat.le_refl _ | (simp only [rmAb, rmAa]; omega)) (by first | exact Nat.zero_le _ | exact Nat.le_of_ble_eq_true rfl | exact Nat.le_refl _ | (simp only [rmAb, rmAa]; omega)) dJxc12de_init_da8c8_9
set_option maxRecDepth 100000 in
/-- new ArrayList() -/
theorem cl_ali {ls eD : Nat} (hZ : ZOK Z) (hE : ∀ A U H, Z A U H → zE eD A U H) : LC l D (tyL ca) Z yJx4a65c_init_da8c8 cJx4a65c_init_da8c8 1 none rmAc [.ref ls] [(ls, .inr (16, [.int 0, .null, .int 0]))] (fun v w => v = none ∧ w = [(ls, .inr (16, [.int 0, .ref eD, .int 0]))]) := by
  refine qstart (own := RJx4a65c) rfl (by decide) (Nat.le_of_ble_eq_true rfl) ?_
  intro p e s m args below meth c Q hQ X hi
  refine q_aload_n X 0 dJx4a65c_init_da8c8_0 rfl rfl 1 rfl ?_
  refine q_callI X hZ [] [] rfl rfl kT_Jxc12de_init_da8c8 kL_Jx4a65c_1 (cl_al0 hZ) rfl ⟨Nat.le_of_ble_eq_true rfl, Nat.le_of_ble_eq_true rfl⟩ (Nat.le_of_ble_eq_true rfl) ⟨Nat.le_of_ble_eq_true rfl, Nat.le_of_ble_eq_true rfl⟩ dJx4a65c_init_da8c8_1 4 rfl ?_
  intro v_ w1 hq
  obtain ⟨rfl, rfl⟩ := hq
  refine q_aload_n X 0 dJx4a65c_init_da8c8_4 rfl rfl 5 rfl ?_
  refine q_empS X (hE _ _ _ X.2.2.2.2.2) kF_Jx4a65c_39 dJx4a65c_init_da8c8_5 8 rfl ?_
  refine q_put X 0 [(ls, .inr (16, [.int 0, .ref eD, .int 0]))] rfl (T := TJx4a65c) (N := 3) rfl in_Jx4a65c tyJx4a65c tyJx4a65c_ok nmJx4a65c 1 (by decide) kF_Jx4a65c_9 rfl rfl rfl rfl (Nat.le_of_ble_eq_true rfl) rfl dJx4a65c_init_da8c8_8 11 rfl ?_
  exact q_vret X hQ ⟨rfl, rfl⟩ (by first | exact Nat.zero_le _ | exact Nat.le_of_ble_eq_true rfl | exact Nat.le_refl _ | (simp only [rmAc, rmAb]; omega)) (by first | exact Nat.zero_le _ | exact Nat.le_of_ble_eq_true rfl | exact Nat.le_refl _ | (simp only [rmAc, rmAb]; omega)) dJx4a65c_init_da8c8_11
def rmAd : Room := { frames := 1, cells := 1, slots := 10, locals := 32 }
def rmAe : Room := { frames := 2, cells := 1, slots := 10, locals := 60 }
def rmAf : Room := { frames := 3, cells := 1, slots := 10, locals := 90 }
def rmAg : Room := { frames := 4, cells := 1, slots := 10, locals := 120 }
set_option maxRecDepth 100000 in
theorem cl_gr1 {ls eD : Nat} {mc : Int32} (hZ : ZOK Z) (hE : ∀ A U H, Z A U H → zE eD A U H) (hO9 : ∀ A U H, Z A U H → va_AO "java/lang/Object" U) : LC l D (tyL ca) Z yJx4a65c_grow_92f84 cJx4a65c_grow_92f84 4 (some (.array (.object "java/lang/Object"))) rmAd [.ref ls, .int (nI 1)] [(ls, .inr (16, [.int mc, .ref eD, .int 0]))] (fun v w => ∃ dat : Nat, v = some (.ref dat) ∧ w = [(ls, .inr (16, [.int mc, .ref dat, .int 0])), (dat, .inl (ca 5, 10, .inr (.inr (.inr (.inr (fun _ => none))))))]) := by
  refine qstart (own := RJx4a65c) rfl (by decide) (Nat.le_of_ble_eq_true rfl) ?_
  intro p e s m args below meth c Q hQ X hi
  refine q_aload_n X 0 dJx4a65c_grow_92f84_0 rfl rfl 1 rfl ?_
  refine q_get X 0 rfl (T := TJx4a65c) (N := 3) rfl in_Jx4a65c 1 (by decide) kF_Jx4a65c_9 rfl rfl dJx4a65c_grow_92f84_1 4 rfl ?_
  refine q_empL X (hE _ _ _ X.2.2.2.2.2) dJx4a65c_grow_92f84_4 5 rfl ?_
  refine q_istore_n X [(2, .int 0), (0, .ref ls), (1, .int (nI 1))] dJx4a65c_grow_92f84_5 rfl (by decide) rfl 6 rfl ?_
  refine q_iload_n X 0 dJx4a65c_grow_92f84_6 rfl rfl 7 rfl ?_
  refine q_if_gt (A1 := none) (B1 := some ()) (res := ()) X (if_neg nI_npl) 20 10 dJx4a65c_grow_92f84_7 (by decide) rfl (fun z => nomatch z) (fun _ => ?_)
  refine q_aload_n X 1 dJx4a65c_grow_92f84_10 rfl rfl 11 rfl ?_
  refine q_get X 0 rfl (T := TJx4a65c) (N := 3) rfl in_Jx4a65c 1 (by decide) kF_Jx4a65c_9 rfl rfl dJx4a65c_grow_92f84_11 14 rfl ?_
  refine q_empS X (hE _ _ _ X.2.2.2.2.2) kF_Jx4a65c_39 dJx4a65c_grow_92f84_14 17 rfl ?_
  refine q_acmpT X 45 dJx4a65c_grow_92f84_17 (by decide) ?_
  refine q_aload_n X 1 dJx4a65c_grow_92f84_45 rfl rfl 46 rfl ?_
  refine q_bipush X 10 dJx4a65c_grow_92f84_46 rfl 48 rfl ?_
  refine q_iload_n X 2 dJx4a65c_grow_92f84_48 rfl rfl 49 rfl ?_
  refine q_mmax X 10 (by decide) kL_Jx4a65c_79 ⟨Nat.le_of_ble_eq_true rfl, Nat.le_of_ble_eq_true rfl⟩ (Nat.le_of_ble_eq_true rfl) ⟨Nat.le_of_ble_eq_true rfl, Nat.le_of_ble_eq_true rfl⟩ dJx4a65c_grow_92f84_49 52 rfl ?_
  refine n_newq (t0 := 5) (n := 10) (N' := 10) X (hO9 _ _ _ X.2.2.2.2.2) kCl_Jx4a65c_7 rfl (by decide) (by decide) (by decide) ⟨Nat.le_of_ble_eq_true rfl, Nat.le_of_ble_eq_true rfl⟩ dJx4a65c_grow_92f84_52 55 rfl ?_
  intro dat
  refine q_dup_x1 X dJx4a65c_grow_92f84_55 rfl rfl 56 rfl ?_
  refine q_put X 0 [(ls, .inr (16, [.int mc, .ref dat, .int 0])), (dat, .inl (ca 5, 10, .inr (.inr (.inr (.inr (fun _ => none))))))] rfl (T := TJx4a65c) (N := 3) rfl in_Jx4a65c tyJx4a65c tyJx4a65c_ok nmJx4a65c 1 (by decide) kF_Jx4a65c_9 rfl rfl rfl rfl (Nat.le_of_ble_eq_true rfl) rfl dJx4a65c_grow_92f84_56 59 rfl ?_
  exact q_aret X (Or.inr ⟨_, rfl⟩) hQ ⟨dat, rfl, rfl⟩ (by first | exact Nat.zero_le _ | exact Nat.le_of_ble_eq_true rfl | exact Nat.le_refl _ | (simp only [rmAd]; omega)) (by first | exact Nat.zero_le _ | exact Nat.le_of_ble_eq_true rfl | exact Nat.le_refl _ | (simp only [rmAd]; omega)) dJx4a65c_grow_92f84_59
set_option maxRecDepth 100000 in
theorem cl_gr0 {ls eD : Nat} {mc : Int32} (hZ : ZOK Z) (hE : ∀ A U H, Z A U H → zE eD A U H) (hO9 : ∀ A U H, Z A U H → va_AO "java/lang/Object" U) : LC l D (tyL ca) Z yJx4a65c_grow_d5877 cJx4a65c_grow_d5877 1 (some (.array (.object "java/lang/Object"))) rmAe [.ref ls] [(ls, .inr (16, [.int mc, .ref eD, .int 0]))] (fun v w => ∃ dat : Nat, v = some (.ref dat) ∧ w = [(ls, .inr (16, [.int mc, .ref dat, .int 0])), (dat, .inl (ca 5, 10, .inr (.inr (.inr (.inr (fun _ => none))))))]) := by
  refine qstart (own := RJx4a65c) rfl (by decide) (Nat.le_of_ble_eq_true rfl) ?_
  intro p e s m args below meth c Q hQ X hi
  refine q_aload_n X 0 dJx4a65c_grow_d5877_0 rfl rfl 1 rfl ?_
  refine q_aload_n X 0 dJx4a65c_grow_d5877_1 rfl rfl 2 rfl ?_
  refine q_get X 0 rfl (T := TJx4a65c) (N := 3) rfl in_Jx4a65c 2 (by decide) kF_Jx4a65c_48 rfl rfl dJx4a65c_grow_d5877_2 5 rfl ?_
  refine q_iconst X 1 dJx4a65c_grow_d5877_5 rfl 6 rfl ?_
  refine q_iadd X dJx4a65c_grow_d5877_6 7 rfl ?_
  refine q_as (nI 1) (by decide) ?_
  refine q_callV X hZ [.int (nI 1)] [] rfl 0 rfl (q := (RJx4a65c, TJx4a65c, 3)) rfl rfl rfl kB_Jx4a65c_grow_92f84 kL_Jx4a65c_69 (cl_gr1 hZ hE hO9) rfl ⟨Nat.le_of_ble_eq_true rfl, Nat.le_of_ble_eq_true rfl⟩ (Nat.le_of_ble_eq_true rfl) ⟨Nat.le_of_ble_eq_true rfl, Nat.le_of_ble_eq_true rfl⟩ dJx4a65c_grow_d5877_7 10 rfl ?_
  intro v_ w1 hq
  obtain ⟨dat, rfl, rfl⟩ := hq
  exact q_aret X (Or.inr ⟨_, rfl⟩) hQ ⟨dat, rfl, rfl⟩ (by first | exact Nat.zero_le _ | exact Nat.le_of_ble_eq_true rfl | exact Nat.le_refl _ | (simp only [rmAe, rmAd]; omega)) (by first | exact Nat.zero_le _ | exact Nat.le_of_ble_eq_true rfl | exact Nat.le_refl _ | (simp only [rmAe, rmAd]; omega)) dJx4a65c_grow_d5877_10
set_option maxRecDepth 100000 in
theorem cl_ad0 {ls eD v : Nat} {mc : Int32} {y : vp_A} (hZ : ZOK Z) (hE : ∀ A U H, Z A U H → zE eD A U H) (hO9 : ∀ A U H, Z A U H → va_AO "java/lang/Object" U) (hV : ZVO Z) : LC l D (tyL ca) Z yJx4a65c_add_72be8 cJx4a65c_add_72be8 4 none rmAf [.ref ls, .ref v, .ref eD, .int 0] [(ls, .inr (16, [.int mc, .ref eD, .int 0])), (v, .inl (ca 0, y))] (fun v_ w => v_ = none ∧ ∃ dat : Nat, w = [(ls, .inr (16, [.int mc, .ref dat, .int (nI 1)])), (dat, .inl (ca 5, 10, .inr (.inr (.inr (.inr (va_up (fun _ => none) 0 (some v))))))), (v, .inl (ca 0, y))]) := by
  refine qstart (own := RJx4a65c) rfl (by decide) (Nat.le_of_ble_eq_true rfl) ?_
  intro p e s m args below meth c Q hQ X hi
  refine q_iload_n X 3 dJx4a65c_add_72be8_0 rfl rfl 1 rfl ?_
  refine q_aload_n X 2 dJx4a65c_add_72be8_1 rfl rfl 2 rfl ?_
  refine q_empL X (hE _ _ _ X.2.2.2.2.2) dJx4a65c_add_72be8_2 3 rfl ?_
  refine q_icmp_ne (A1 := some ()) (B1 := none) (res := ()) X (if_pos (rfl : (0 : Int32) = 0)) 11 6 dJx4a65c_add_72be8_3 (by decide) rfl (fun _ => ?_) (fun z => nomatch z)
  refine q_aload_n X 0 dJx4a65c_add_72be8_6 rfl rfl 7 rfl ?_
  refine q_callV X hZ [] [(v, .inl (ca 0, y))] rfl 0 rfl (q := (RJx4a65c, TJx4a65c, 3)) rfl rfl rfl kB_Jx4a65c_grow_d5877 kL_Jx4a65c_129 (cl_gr0 hZ hE hO9) rfl ⟨Nat.le_of_ble_eq_true rfl, Nat.le_of_ble_eq_true rfl⟩ (Nat.le_of_ble_eq_true rfl) ⟨Nat.le_of_ble_eq_true rfl, Nat.le_of_ble_eq_true rfl⟩ dJx4a65c_add_72be8_7 10 rfl ?_
  intro v_ w1 hq
  obtain ⟨dat, rfl, rfl⟩ := hq
  refine q_astore_n X [(2, .ref dat), (0, .ref ls), (1, .ref v), (3, .int 0)] dJx4a65c_add_72be8_10 rfl (by decide) rfl 11 rfl ?_
  refine q_aload_n X 0 dJx4a65c_add_72be8_11 rfl rfl 12 rfl ?_
  refine q_iload_n X 3 dJx4a65c_add_72be8_12 rfl rfl 13 rfl ?_
  refine q_aload_n X 2 dJx4a65c_add_72be8_13 rfl rfl 14 rfl ?_
  refine q_astqA (t0 := 5) (t1 := 0) X 1 2 0 [(ls, .inr (16, [.int mc, .ref dat, .int 0])), (dat, .inl (ca 5, 10, .inr (.inr (.inr (.inr (va_up (fun _ => none) 0 (some v))))))), (v, .inl (ca 0, y))] rfl rfl rfl rfl (hV _ _ _ X.2.2.2.2.2 _ (List.mem_of_getElem? (i := 5) rfl)) nI_0.symm (by decide) (by decide) rfl dJx4a65c_add_72be8_14 15 rfl ?_
  refine q_aload_n X 1 dJx4a65c_add_72be8_15 rfl rfl 16 rfl ?_
  refine q_iload_n X 3 dJx4a65c_add_72be8_16 rfl rfl 17 rfl ?_
  refine q_iconst X 1 dJx4a65c_add_72be8_17 rfl 18 rfl ?_
  refine q_iadd X dJx4a65c_add_72be8_18 19 rfl ?_
  refine q_as (nI 1) (by decide) ?_
  refine q_put X 0 [(ls, .inr (16, [.int mc, .ref dat, .int (nI 1)])), (dat, .inl (ca 5, 10, .inr (.inr (.inr (.inr (va_up (fun _ => none) 0 (some v))))))), (v, .inl (ca 0, y))] rfl (T := TJx4a65c) (N := 3) rfl in_Jx4a65c tyJx4a65c tyJx4a65c_ok nmJx4a65c 2 (by decide) kF_Jx4a65c_48 rfl rfl rfl rfl (Nat.le_of_ble_eq_true rfl) rfl dJx4a65c_add_72be8_19 22 rfl ?_
  exact q_vret X hQ ⟨rfl, dat, rfl⟩ (by first | exact Nat.zero_le _ | exact Nat.le_of_ble_eq_true rfl | exact Nat.le_refl _ | (simp only [rmAf, rmAe]; omega)) (by first | exact Nat.zero_le _ | exact Nat.le_of_ble_eq_true rfl | exact Nat.le_refl _ | (simp only [rmAf, rmAe]; omega)) dJx4a65c_add_72be8_22
set_option maxRecDepth 100000 in
theorem cl_ad1 {ls dat v n : Nat} {mc : Int32} {y : vp_A} {f : Nat → Option Nat} (hZ : ZOK Z) (hV : ZVO Z) (hn : n < 10) : LC l D (tyL ca) Z yJx4a65c_add_72be8 cJx4a65c_add_72be8 4 none rmAf [.ref ls, .ref v, .ref dat, .int (nI n)] [(ls, .inr (16, [.int mc, .ref dat, .int (nI n)])), (dat, .inl (ca 5, 10, .inr (.inr (.inr (.inr f))))), (v, .inl (ca 0, y))] (fun v_ w => v_ = none ∧ w = [(ls, .inr (16, [.int mc, .ref dat, .int (nI (n + 1))])), (dat, .inl (ca 5, 10, .inr (.inr (.inr (.inr (va_up f n (some v))))))), (v, .inl (ca 0, y))]) := by
  refine qstart (own := RJx4a65c) rfl (by decide) (Nat.le_of_ble_eq_true rfl) ?_
  intro p e s m args below meth c Q hQ X hi
  refine q_iload_n X 3 dJx4a65c_add_72be8_0 rfl rfl 1 rfl ?_
  refine q_aload_n X 2 dJx4a65c_add_72be8_1 rfl rfl 2 rfl ?_
  refine q_alen X 1 (nI 10) rfl (t0 := 5) rfl rfl dJx4a65c_add_72be8_2 3 rfl ?_
  refine q_icmp_ne (A1 := none) (B1 := some ()) (res := ()) X (if_neg (nI_ne (by omega) (by omega) (by decide))) 11 6 dJx4a65c_add_72be8_3 (by decide) rfl (fun z => nomatch z) (fun _ => ?_)
  refine q_aload_n X 2 dJx4a65c_add_72be8_11 rfl rfl 12 rfl ?_
  refine q_iload_n X 3 dJx4a65c_add_72be8_12 rfl rfl 13 rfl ?_
  refine q_aload_n X 1 dJx4a65c_add_72be8_13 rfl rfl 14 rfl ?_
  refine q_astqA (t0 := 5) (t1 := 0) X 1 2 n [(ls, .inr (16, [.int mc, .ref dat, .int (nI n)])), (dat, .inl (ca 5, 10, .inr (.inr (.inr (.inr (va_up f n (some v))))))), (v, .inl (ca 0, y))] rfl rfl rfl rfl (hV _ _ _ X.2.2.2.2.2 _ (List.mem_of_getElem? (i := 5) rfl)) rfl hn (by decide) rfl dJx4a65c_add_72be8_14 15 rfl ?_
  refine q_aload_n X 0 dJx4a65c_add_72be8_15 rfl rfl 16 rfl ?_
  refine q_iload_n X 3 dJx4a65c_add_72be8_16 rfl rfl 17 rfl ?_
  refine q_iconst X 1 dJx4a65c_add_72be8_17 rfl 18 rfl ?_
  refine q_iadd X dJx4a65c_add_72be8_18 19 rfl ?_
  refine q_as (nI (n + 1)) (nI_1 _) ?_
  refine q_put X 0 [(ls, .inr (16, [.int mc, .ref dat, .int (nI (n + 1))])), (dat, .inl (ca 5, 10, .inr (.inr (.inr (.inr (va_up f n (some v))))))), (v, .inl (ca 0, y))] rfl (T := TJx4a65c) (N := 3) rfl in_Jx4a65c tyJx4a65c tyJx4a65c_ok nmJx4a65c 2 (by decide) kF_Jx4a65c_48 rfl rfl rfl rfl (Nat.le_of_ble_eq_true rfl) rfl dJx4a65c_add_72be8_19 22 rfl ?_
  exact q_vret X hQ ⟨rfl, rfl⟩ (by first | exact Nat.zero_le _ | exact Nat.le_of_ble_eq_true rfl | exact Nat.le_refl _ | (simp only [rmAf]; omega)) (by first | exact Nat.zero_le _ | exact Nat.le_of_ble_eq_true rfl | exact Nat.le_refl _ | (simp only [rmAf]; omega)) dJx4a65c_add_72be8_22
set_option maxRecDepth 100000 in
/-- the first add -/
theorem cl_add0 {ls eD v : Nat} {mc : Int32} {y : vp_A} (hZ : ZOK Z) (hE : ∀ A U H, Z A U H → zE eD A U H) (hO9 : ∀ A U H, Z A U H → va_AO "java/lang/Object" U) (hV : ZVO Z) (hS0 : ∀ A U H, Z A U H → va_Nw (.sameField "java/util/ArrayList" "java/util/AbstractList" "modCount" "I") U) : LC l D (tyL ca) Z yJx4a65c_add_9ea2d cJx4a65c_add_9ea2d 2 (some .boolean) rmAg [.ref ls, .ref v] [(ls, .inr (16, [.int mc, .ref eD, .int 0])), (v, .inl (ca 0, y))] (fun v_ w => v_ = some (.int 1) ∧ ∃ dat : Nat, w = [(ls, .inr (16, [.int (mc + 1), .ref dat, .int (nI 1)])), (dat, .inl (ca 5, 10, .inr (.inr (.inr (.inr (va_up (fun _ => none) 0 (some v))))))), (v, .inl (ca 0, y))]) := by
  refine qstart (own := RJx4a65c) rfl (by decide) (Nat.le_of_ble_eq_true rfl) ?_
  intro p e s m args below meth c Q hQ X hi
  refine q_aload_n X 0 dJx4a65c_add_9ea2d_0 rfl rfl 1 rfl ?_
  refine q_dup X dJx4a65c_add_9ea2d_1 rfl 2 rfl ?_
  refine q_getS X 0 rfl (T := TJx4a65c) (N := 3) rfl in_Jx4a65c 0 (by decide) kF_Jx4a65c_63 (hS0 _ _ _ X.2.2.2.2.2) rfl dJx4a65c_add_9ea2d_2 5 rfl ?_
  refine q_iconst X 1 dJx4a65c_add_9ea2d_5 rfl 6 rfl ?_
  refine q_iadd X dJx4a65c_add_9ea2d_6 7 rfl ?_
  refine q_putS X 0 [(ls, .inr (16, [.int (mc + 1), .ref eD, .int 0])), (v, .inl (ca 0, y))] rfl (T := TJx4a65c) (N := 3) rfl in_Jx4a65c tyJx4a65c tyJx4a65c_ok nmJx4a65c 0 (by decide) kF_Jx4a65c_63 (hS0 _ _ _ X.2.2.2.2.2) rfl rfl rfl (Nat.le_of_ble_eq_true rfl) rfl dJx4a65c_add_9ea2d_7 10 rfl ?_
  refine q_aload_n X 0 dJx4a65c_add_9ea2d_10 rfl rfl 11 rfl ?_
  refine q_aload_n X 1 dJx4a65c_add_9ea2d_11 rfl rfl 12 rfl ?_
  refine q_aload_n X 0 dJx4a65c_add_9ea2d_12 rfl rfl 13 rfl ?_
  refine q_get X 0 rfl (T := TJx4a65c) (N := 3) rfl in_Jx4a65c 1 (by decide) kF_Jx4a65c_9 rfl rfl dJx4a65c_add_9ea2d_13 16 rfl ?_
  refine q_aload_n X 0 dJx4a65c_add_9ea2d_16 rfl rfl 17 rfl ?_
  refine q_get X 0 rfl (T := TJx4a65c) (N := 3) rfl in_Jx4a65c 2 (by decide) kF_Jx4a65c_48 rfl rfl dJx4a65c_add_9ea2d_17 20 rfl ?_
  refine q_callV X hZ [.ref v, .ref eD, .int 0] [] rfl 0 rfl (q := (RJx4a65c, TJx4a65c, 3)) rfl rfl rfl kB_Jx4a65c_add_72be8 kL_Jx4a65c_131 (cl_ad0 hZ hE hO9 hV) rfl ⟨Nat.le_of_ble_eq_true rfl, Nat.le_of_ble_eq_true rfl⟩ (Nat.le_of_ble_eq_true rfl) ⟨Nat.le_of_ble_eq_true rfl, Nat.le_of_ble_eq_true rfl⟩ dJx4a65c_add_9ea2d_20 23 rfl ?_
  intro v_ w1 hq
  obtain ⟨rfl, dat, rfl⟩ := hq
  refine q_iconst X 1 dJx4a65c_add_9ea2d_23 rfl 24 rfl ?_
  exact q_iret X (rt := .boolean) hQ ⟨rfl, dat, rfl⟩ rfl (by first | exact Nat.zero_le _ | exact Nat.le_of_ble_eq_true rfl | exact Nat.le_refl _ | (simp only [rmAg, rmAf]; omega)) (by first | exact Nat.zero_le _ | exact Nat.le_of_ble_eq_true rfl | exact Nat.le_refl _ | (simp only [rmAg, rmAf]; omega)) dJx4a65c_add_9ea2d_24
set_option maxRecDepth 100000 in
/-- a later add -/
theorem cl_add1 {ls dat v n : Nat} {mc : Int32} {y : vp_A} {f : Nat → Option Nat} (hZ : ZOK Z) (hV : ZVO Z) (hn : n < 10) (hS0 : ∀ A U H, Z A U H → va_Nw (.sameField "java/util/ArrayList" "java/util/AbstractList" "modCount" "I") U) : LC l D (tyL ca) Z yJx4a65c_add_9ea2d cJx4a65c_add_9ea2d 2 (some .boolean) rmAg [.ref ls, .ref v] [(ls, .inr (16, [.int mc, .ref dat, .int (nI n)])), (dat, .inl (ca 5, 10, .inr (.inr (.inr (.inr f))))), (v, .inl (ca 0, y))] (fun v_ w => v_ = some (.int 1) ∧ w = [(ls, .inr (16, [.int (mc + 1), .ref dat, .int (nI (n + 1))])), (dat, .inl (ca 5, 10, .inr (.inr (.inr (.inr (va_up f n (some v))))))), (v, .inl (ca 0, y))]) := by
  refine qstart (own := RJx4a65c) rfl (by decide) (Nat.le_of_ble_eq_true rfl) ?_
  intro p e s m args below meth c Q hQ X hi
  refine q_aload_n X 0 dJx4a65c_add_9ea2d_0 rfl rfl 1 rfl ?_
  refine q_dup X dJx4a65c_add_9ea2d_1 rfl 2 rfl ?_
  refine q_getS X 0 rfl (T := TJx4a65c) (N := 3) rfl in_Jx4a65c 0 (by decide) kF_Jx4a65c_63 (hS0 _ _ _ X.2.2.2.2.2) rfl dJx4a65c_add_9ea2d_2 5 rfl ?_
  refine q_iconst X 1 dJx4a65c_add_9ea2d_5 rfl 6 rfl ?_
  refine q_iadd X dJx4a65c_add_9ea2d_6 7 rfl ?_
  refine q_putS X 0 [(ls, .inr (16, [.int (mc + 1), .ref dat, .int (nI n)])), (dat, .inl (ca 5, 10, .inr (.inr (.inr (.inr f))))), (v, .inl (ca 0, y))] rfl (T := TJx4a65c) (N := 3) rfl in_Jx4a65c tyJx4a65c tyJx4a65c_ok nmJx4a65c 0 (by decide) kF_Jx4a65c_63 (hS0 _ _ _ X.2.2.2.2.2) rfl rfl rfl (Nat.le_of_ble_eq_true rfl) rfl dJx4a65c_add_9ea2d_7 10 rfl ?_
  refine q_aload_n X 0 dJx4a65c_add_9ea2d_10 rfl rfl 11 rfl ?_
  refine q_aload_n X 1 dJx4a65c_add_9ea2d_11 rfl rfl 12 rfl ?_
  refine q_aload_n X 0 dJx4a65c_add_9ea2d_12 rfl rfl 13 rfl ?_
  refine q_get X 0 rfl (T := TJx4a65c) (N := 3) rfl in_Jx4a65c 1 (by decide) kF_Jx4a65c_9 rfl rfl dJx4a65c_add_9ea2d_13 16 rfl ?_
  refine q_aload_n X 0 dJx4a65c_add_9ea2d_16 rfl rfl 17 rfl ?_
  refine q_get X 0 rfl (T := TJx4a65c) (N := 3) rfl in_Jx4a65c 2 (by decide) kF_Jx4a65c_48 rfl rfl dJx4a65c_add_9ea2d_17 20 rfl ?_
  refine q_callV X hZ [.ref v, .ref dat, .int (nI n)] [] rfl 0 rfl (q := (RJx4a65c, TJx4a65c, 3)) rfl rfl rfl kB_Jx4a65c_add_72be8 kL_Jx4a65c_131 (cl_ad1 hZ hV hn) rfl ⟨Nat.le_of_ble_eq_true rfl, Nat.le_of_ble_eq_true rfl⟩ (Nat.le_of_ble_eq_true rfl) ⟨Nat.le_of_ble_eq_true rfl, Nat.le_of_ble_eq_true rfl⟩ dJx4a65c_add_9ea2d_20 23 rfl ?_
  intro v_ w1 hq
  obtain ⟨rfl, rfl⟩ := hq
  refine q_iconst X 1 dJx4a65c_add_9ea2d_23 rfl 24 rfl ?_
  exact q_iret X (rt := .boolean) hQ ⟨rfl, rfl⟩ rfl (by first | exact Nat.zero_le _ | exact Nat.le_of_ble_eq_true rfl | exact Nat.le_refl _ | (simp only [rmAg, rmAf]; omega)) (by first | exact Nat.zero_le _ | exact Nat.le_of_ble_eq_true rfl | exact Nat.le_refl _ | (simp only [rmAg, rmAf]; omega)) dJx4a65c_add_9ea2d_24
end ALI
