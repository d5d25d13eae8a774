section NEW
abbrev z0 : Row := (fun _ => 0, fun _ => 0)
/-- a constructor's ground: its machine, the classes and rows, where it may write, the statics -/
def CN (D : va_G) (tys : List (ClassId × FieldType)) (A : Nat → Prop) (Z : (Nat → Prop) → State → Heap → Prop) (p : Program) (s : State) (m : MethodId) (args : Array Value) (meth : Method) (c : Code) (cc : ByteArray) (nL : Nat) (own : String) (ret : Option FieldType) : Prop :=
  CallFix p m c cc nL s args GW own ∧ meth.sig.returnType = ret ∧ meth.locks = false ∧ va_K D vwCl tys s ∧ (∀ q : Nat, s.heap.size ≤ q → A q) ∧ Z A s s.heap
/-- the walk's judgement over a world that grows -/
def NN (D : va_G) (A : Nat → Prop) (p : Program) (l : Launch) (e : Env) (R : Room) (s : State) (m : MethodId) (args : Array Value) (below : List Frame) (meth : Method) (c : Code) (nL : Nat) (cells slots : Nat) (Q : State → Prop) (ws : va_W) (pc : Nat) (lv : List (Nat × Value)) (st : List Value) : Prop :=
  ∀ (H : Heap) (locs : List Loc) (ls : Array Slot), va_P D vwCl ws H → va_D A ws → va_S A s.heap H locs → lv_has ls nL lv → W p l e R s m args below meth c H locs cells slots Q (F0 m pc ls st)
/-- what a constructor does: the object that it is called on, and what it makes -/
def aQ (q : Nat) (sz : Nat) : Nat → Prop := fun x => x = q ∨ sz ≤ x
def CK (l : Launch) (D : va_G) (tys : List (ClassId × FieldType)) (Z : (Nat → Prop) → State → Heap → Prop) (y : MethodName) (cc : ByteArray) (nL : Nat) (rm : Room) (av : List Value) (q : Nat) (e0 : va_E) (B : va_W → Prop) : Prop :=
  ∀ sz : Nat, Met l y (Cond.code y cc nL none :: GW) rm (va_Pc (.ref q :: av) (fun U => U.heap.size = sz ∧ va_P D vwCl [(q, e0)] U.heap ∧ va_K D vwCl tys U ∧ Z (aQ q sz) U U.heap)) (va_Qv B (fun ws t => va_P D vwCl ws t.heap ∧ va_D (aQ q sz) ws) (aQ q sz)) rm.cells rm.slots (aQ q sz)
def IB (y : MethodName) (bytes : ByteArray) (nY : Nat) (na : Nat) : Prop := Cond.instanceMethod y ∈ GW ∧ Cond.initialized y.cls ∈ GW ∧ Cond.code y bytes nY none ∈ GW ∧ y.name = "<init>" ∧ (y.cls ≠ "java/lang/invoke/MethodHandle" ∧ y.cls ≠ "java/lang/invoke/VarHandle" ∧ (parseMethodDescriptor y.desc).map (fun d => d.parameters.length) = some na)
theorem wd_iff {A : Nat → Prop} {ws : va_W} : va_D A ws ↔ (ws.map Prod.fst).Nodup ∧ ∀ q ∈ ws, A q.1 := by
  constructor
  · intro h
    refine ⟨?_, fun q hq => ?_⟩
    · rw [List.Nodup, List.pairwise_iff_getElem]
      intro i j hi hj hij he
      have hi' : i < ws.length := by simpa using hi
      have hj' : j < ws.length := by simpa using hj
      have := h.1 i j ws[i] ws[j] (List.getElem?_eq_getElem hi') (List.getElem?_eq_getElem hj') (by simpa using he)
      omega
    · obtain ⟨i, hi⟩ := List.getElem?_of_mem hq
      exact h.2 i q hi
  · intro h
    refine ⟨fun i j p q hp hq he => ?_, fun k q hk => h.2 q (List.mem_of_getElem? hk)⟩
    have h1 : (ws.map Prod.fst)[i]? = some p.1 := by rw [List.getElem?_map, hp]; rfl
    have h2 : (ws.map Prod.fst)[j]? = some q.1 := by rw [List.getElem?_map, hq]; rfl
    have hi : i < (ws.map Prod.fst).length := (List.getElem?_eq_some_iff.mp h1).1
    exact (List.getElem?_inj hi h.1).mp (by rw [h1, h2, he])
theorem wp_sub {D : va_G} {ws ws' : va_W} {H : Heap} (h : ∀ q, q ∈ ws' → q ∈ ws) (hP : va_P D vwCl ws H) : va_P D vwCl ws' H := fun k q hk => by
  obtain ⟨i, hi⟩ := List.getElem?_of_mem (h q (List.mem_of_getElem? hk))
  exact hP i q hi
theorem wd_perm {A : Nat → Prop} {ws ws' : va_W} (h : ws'.Perm ws) (hD : va_D A ws) : va_D A ws' := by
  rw [wd_iff] at hD ⊢
  exact ⟨((h.map Prod.fst).nodup_iff).mpr hD.1, fun q hq => hD.2 q (h.mem_iff.mp hq)⟩
variable {D : va_G} {tys : List (ClassId × FieldType)} {A : Nat → Prop} {Z : (Nat → Prop) → State → Heap → Prop} {p : Program} {l : Launch} {e : Env} {R : Room} {s : State} {m : MethodId} {args : Array Value} {below : List Frame} {meth : Method} {c : Code} {cc : ByteArray} {nL : Nat} {own : String} {ret : Option FieldType} {cells slots : Nat} {Q : State → Prop} {ws : va_W} {pc : Nat} {lv : List (Nat × Value)} {st : List Value}
theorem n_iconst {i : Int} (X : CN D tys A Z p s m args meth c cc nL own ret) (v : Int32) (hdg : decode cc pc = .ok (.iconst i, 1)) (hv : Int32.ofInt i = v) (pc2 : Nat) (hp : pc + 1 = pc2) (kk : NN D A p l e R s m args below meth c nL cells slots Q ws pc2 lv (.int v :: st)) : NN D A p l e R s m args below meth c nL cells slots Q ws pc lv st := by
  subst hp
  exact fun H locs ls hP hD hS hl => lv_iconst X.1.1 X.1.2.1 hdg hv (kk H locs ls hP hD hS hl)
theorem n_bipush {i : Int} (X : CN D tys A Z p s m args meth c cc nL own ret) (v : Int32) (hdg : decode cc pc = .ok (.bipush i, 2)) (hv : (Int8.ofInt i).toInt32 = v) (pc2 : Nat) (hp : pc + 2 = pc2) (kk : NN D A p l e R s m args below meth c nL cells slots Q ws pc2 lv (.int v :: st)) : NN D A p l e R s m args below meth c nL cells slots Q ws pc lv st := by
  subst hp
  exact fun H locs ls hP hD hS hl => lv_bipush X.1.1 X.1.2.1 hdg hv (kk H locs ls hP hD hS hl)
theorem n_sipush {i : Int} (X : CN D tys A Z p s m args meth c cc nL own ret) (v : Int32) (hdg : decode cc pc = .ok (.sipush i, 3)) (hv : (Int16.ofInt i).toInt32 = v) (pc2 : Nat) (hp : pc + 3 = pc2) (kk : NN D A p l e R s m args below meth c nL cells slots Q ws pc2 lv (.int v :: st)) : NN D A p l e R s m args below meth c nL cells slots Q ws pc lv st := by
  subst hp
  exact fun H locs ls hP hD hS hl => lv_sipush X.1.1 X.1.2.1 hdg hv (kk H locs ls hP hD hS hl)
theorem n_iload_n {f : Fin 4} {i : Nat} {x : Int32} (X : CN D tys A Z p s m args meth c cc nL own ret) (k : Nat) (hdg : decode cc pc = .ok (.iload_n f, 1)) (hi : (f : Nat) = i) (hk : lv[k]? = some (i, .int x)) (pc2 : Nat) (hp : pc + 1 = pc2) (kk : NN D A p l e R s m args below meth c nL cells slots Q ws pc2 lv (.int x :: st)) : NN D A p l e R s m args below meth c nL cells slots Q ws pc lv st := by
  subst hp
  exact fun H locs ls hP hD hS hl => lv_iload_n X.1.1 X.1.2.1 hdg hi (lv_at hl k hk) (kk H locs ls hP hD hS hl)
theorem n_istore_n {f : Fin 4} {i : Nat} {x : Int32} (X : CN D tys A Z p s m args meth c cc nL own ret) (lv2 : List (Nat × Value)) (hdg : decode cc pc = .ok (.istore_n f, 1)) (hi : (f : Nat) = i) (hn : i < nL) (hv : (i, Value.int x) :: lv.filter (fun q => !(q.1 == i) && !(q.1 + 1 == i && q.2.category == 2)) = lv2) (pc2 : Nat) (hp : pc + 1 = pc2) (kk : NN D A p l e R s m args below meth c nL cells slots Q ws pc2 lv2 st) : NN D A p l e R s m args below meth c nL cells slots Q ws pc lv (.int x :: st) := by
  subst hp
  exact fun H locs ls hP hD hS hl => lv_istore_n X.1.1 X.1.2.1 hdg hi hl hn hv (fun ls hl => kk H locs ls hP hD hS hl)
theorem n_istore {i : Nat} {x : Int32} (X : CN D tys A Z p s m args meth c cc nL own ret) (lv2 : List (Nat × Value)) (hdg : decode cc pc = .ok (.istore i, 2)) (hn : i < nL) (hv : (i, Value.int x) :: lv.filter (fun q => !(q.1 == i) && !(q.1 + 1 == i && q.2.category == 2)) = lv2) (pc2 : Nat) (hp : pc + 2 = pc2) (kk : NN D A p l e R s m args below meth c nL cells slots Q ws pc2 lv2 st) : NN D A p l e R s m args below meth c nL cells slots Q ws pc lv (.int x :: st) := by
  subst hp
  exact fun H locs ls hP hD hS hl => lv_istore X.1.1 X.1.2.1 hdg hl hn hv (fun ls hl => kk H locs ls hP hD hS hl)
theorem n_aload_n {f : Fin 4} {i : Nat} {x : Nat} (X : CN D tys A Z p s m args meth c cc nL own ret) (k : Nat) (hdg : decode cc pc = .ok (.aload_n f, 1)) (hi : (f : Nat) = i) (hk : lv[k]? = some (i, .ref x)) (pc2 : Nat) (hp : pc + 1 = pc2) (kk : NN D A p l e R s m args below meth c nL cells slots Q ws pc2 lv (.ref x :: st)) : NN D A p l e R s m args below meth c nL cells slots Q ws pc lv st := by
  subst hp
  exact fun H locs ls hP hD hS hl => lv_aload_n X.1.1 X.1.2.1 hdg hi (lv_at hl k hk) (kk H locs ls hP hD hS hl)
theorem n_astore_n {f : Fin 4} {i : Nat} {x : Nat} (X : CN D tys A Z p s m args meth c cc nL own ret) (lv2 : List (Nat × Value)) (hdg : decode cc pc = .ok (.astore_n f, 1)) (hi : (f : Nat) = i) (hn : i < nL) (hv : (i, Value.ref x) :: lv.filter (fun q => !(q.1 == i) && !(q.1 + 1 == i && q.2.category == 2)) = lv2) (pc2 : Nat) (hp : pc + 1 = pc2) (kk : NN D A p l e R s m args below meth c nL cells slots Q ws pc2 lv2 st) : NN D A p l e R s m args below meth c nL cells slots Q ws pc lv (.ref x :: st) := by
  subst hp
  exact fun H locs ls hP hD hS hl => lv_astore_n X.1.1 X.1.2.1 hdg hi hl hn hv (fun ls hl => kk H locs ls hP hD hS hl)
theorem n_iinc {i : Nat} {d : Int} {x : Int32} (X : CN D tys A Z p s m args meth c cc nL own ret) (k : Nat) (v : Int32) (lv2 : List (Nat × Value)) (hdg : decode cc pc = .ok (.iinc i d, 3)) (hk : lv[k]? = some (i, .int x)) (hx : x + Int32.ofInt d = v) (hn : i < nL) (hv : (i, Value.int v) :: lv.filter (fun q => !(q.1 == i) && !(q.1 + 1 == i && q.2.category == 2)) = lv2) (pc2 : Nat) (hp : pc + 3 = pc2) (kk : NN D A p l e R s m args below meth c nL cells slots Q ws pc2 lv2 st) : NN D A p l e R s m args below meth c nL cells slots Q ws pc lv st := by
  subst hp
  exact fun H locs ls hP hD hS hl => lv_iinc X.1.1 X.1.2.1 hdg hl hk hx hn hv (fun ls hl => kk H locs ls hP hD hS hl)
theorem n_dup {v : Value} (X : CN D tys A Z p s m args meth c cc nL own ret) (hdg : decode cc pc = .ok (.dup, 1)) (hv : v.category = 1) (pc2 : Nat) (hp : pc + 1 = pc2) (kk : NN D A p l e R s m args below meth c nL cells slots Q ws pc2 lv (v :: v :: st)) : NN D A p l e R s m args below meth c nL cells slots Q ws pc lv (v :: st) := by
  subst hp
  exact fun H locs ls hP hD hS hl => lv_dup X.1.1 X.1.2.1 hdg hv (kk H locs ls hP hD hS hl)
theorem n_goto {off : Int} (X : CN D tys A Z p s m args meth c cc nL own ret) (tgt : Nat) (hdg : decode cc pc = .ok (.goto off, 3)) (ht : (pc : Int) + off = (tgt : Int)) (kk : NN D A p l e R s m args below meth c nL cells slots Q ws tgt lv st) : NN D A p l e R s m args below meth c nL cells slots Q ws pc lv st :=
  fun H locs ls hP hD hS hl => lv_goto X.1.1 X.1.2.1 hdg ht (kk H locs ls hP hD hS hl)
theorem n_ge {x y : Int32} {off : Int} (X : CN D tys A Z p s m args meth c cc nL own ret) (h : y ≤ x) (tgt : Nat) (hdg : decode cc pc = .ok (.if_icmp .ge off, 3)) (ht : (pc : Int) + off = (tgt : Int)) (kk : NN D A p l e R s m args below meth c nL cells slots Q ws tgt lv st) : NN D A p l e R s m args below meth c nL cells slots Q ws pc lv (.int y :: .int x :: st) :=
  fun H locs ls hP hD hS hl => lv_icmp_ge X.1.1 X.1.2.1 hdg ht (fun _ => kk H locs ls hP hD hS hl) (fun q => absurd h q)
theorem n_nge {x y : Int32} {off : Int} (X : CN D tys A Z p s m args meth c cc nL own ret) (h : ¬ y ≤ x) (hdg : decode cc pc = .ok (.if_icmp .ge off, 3)) (pc2 : Nat) (hp : pc + 3 = pc2) (tgt : Nat) (ht : (pc : Int) + off = (tgt : Int)) (kk : NN D A p l e R s m args below meth c nL cells slots Q ws pc2 lv st) : NN D A p l e R s m args below meth c nL cells slots Q ws pc lv (.int y :: .int x :: st) := by
  subst hp
  exact fun H locs ls hP hD hS hl => lv_icmp_ge X.1.1 X.1.2.1 hdg ht (fun q => absurd q h) (fun _ => kk H locs ls hP hD hS hl)
theorem n_keep {lv2 : List (Nat × Value)} (ks : List Nat) (h : lv_pick lv ks = lv2) (kk : NN D A p l e R s m args below meth c nL cells slots Q ws pc lv2 st) : NN D A p l e R s m args below meth c nL cells slots Q ws pc lv st := fun H locs ls hP hD hS hl => kk H locs ls hP hD hS (lv_sub hl ks h)
theorem n_perm {ws' : va_W} (h : ws'.Perm ws) (kk : NN D A p l e R s m args below meth c nL cells slots Q ws' pc lv st) : NN D A p l e R s m args below meth c nL cells slots Q ws pc lv st := fun H locs ls hP hD hS hl => kk H locs ls (wp_sub (fun q hq => h.mem_iff.mp hq) hP) (wd_perm h hD) hS hl
theorem n_eq {ws' : va_W} (h : ws' = ws) (kk : NN D A p l e R s m args below meth c nL cells slots Q ws' pc lv st) : NN D A p l e R s m args below meth c nL cells slots Q ws pc lv st := by
  subst h
  exact kk
theorem n_widen {k k2 : Nat} (h1 : cells ≤ k) (h2 : slots ≤ k2) (kk : NN D A p l e R s m args below meth c nL k k2 Q ws pc lv st) : NN D A p l e R s m args below meth c nL cells slots Q ws pc lv st := fun H locs ls hP hD hS hl => W.widen h1 h2 (kk H locs ls hP hD hS hl)
theorem n_obj {q : Nat} {index : Nat} (X : CN D tys A Z p s m args meth c cc nL own ret) (w1 : Cond.methodLink own index Lib.objectInit ∈ GW) (w2 : Cond.instanceMethod Lib.objectInit ∈ GW) (w3 : Cond.code Lib.objectInit ⟨#[0xb1]⟩ 1 none ∈ GW) (hR : 1 ≤ R.frames ∧ 20 ≤ R.locals) (hst : (st.map fun v => v.category).sum ≤ 8) (hdg : decode cc pc = .ok (.invokespecial index, 3)) (pc2 : Nat) (hp : pc + 3 = pc2) (kk : NN D A p l e R s m args below meth c nL cells slots Q ws pc2 lv st) : NN D A p l e R s m args below meth c nL cells slots Q ws pc lv (.ref q :: st) := by
  subst hp
  intro H locs ls hP hD hS hl
  have h2 := X.1.2.2.2.2
  exact W.objInit X.1.1 X.1.2.1 X.1.2.2.2.1 (h2 _ w1) (h2 _ w2) (h2 _ w3) rfl (by rw [X.1.2.2.1]; exact hl.1) rfl hdg hR.1 (by have h5 : 2 * (F0 m pc ls (Value.ref q :: st)).monitorRoom + (st.map fun v => v.category).sum ≤ 8 := lv_room hst; have := hR.2; omega) (kk H locs ls hP hD hS hl)
theorem n_new {C : String} {T : u_T} {N ci index : Nat} (X : CN D tys A Z p s m args meth c cc nL own ret) (hin : ∀ w ∈ u_ws C T N, w ∈ GW) (ty : Nat → FieldType) (hty : ∀ k, k < N → parseFieldDescriptor (T k).2.2.1 = some (ty k)) (w1 : Cond.classLink own index C ∈ GW) (w2 : Cond.instantiable C N ∈ GW) (w3 : Cond.initialized C ∈ GW) (hc : vwCl[ci]? = some (C, T, N)) (fs : List Value) (hfs : ∀ j, j < N → defaultValue (ty j) = vp_V fs j) (hcs : cells + 1 ≤ R.cells ∧ slots + N ≤ R.slots) (hdg : decode cc pc = .ok (.new index, 3)) (pc2 : Nat) (hp : pc + 3 = pc2) (kk : ∀ q : Nat, NN D A p l e R s m args below meth c nL (cells + 1) (slots + N) Q (ws ++ [(q, .inr (ci, fs))]) pc2 lv (.ref q :: st)) : NN D A p l e R s m args below meth c nL cells slots Q ws pc lv st := by
  subst hp
  intro H locs ls hP hD hS hl
  have h2 := X.1.2.2.2.2
  exact va_new (ci := ci) (fs := fs) X.1.1 X.1.2.1 h2 hin ty hty X.1.2.2.2.1 (h2 _ w1) (h2 _ w2) (h2 _ w3) X.2.2.2.1 hP hD hS X.2.2.2.2.1 hc hfs hcs.1 hcs.2 hdg (fun q H1 hP1 hD1 hS1 => kk q H1 locs ls hP1 hD1 hS1 hl)
theorem ra_cls {U : State} {cA : ClassId} {ty : FieldType} (h : va_RA U cA ty) : U.vm.findClass ("[" ++ ty.toString) = some cA := by
  cases ty with
  | object C =>
    obtain ⟨_, _, _, _, _, h⟩ := h
    exact h
  | _ => exact h
theorem ra_same {cA cT : ClassId} {ty : FieldType} {t0 : Nat} (hK : va_K D vwCl tys s) (ht : tys[t0]? = some (cT, ty)) (hK1 : va_K D vwCl (tys ++ [(cA, ty)]) s) : cA = cT := by
  have h1 := ra_cls (hK.2 t0 _ ht).2
  have h2 := ra_cls (hK1.2 tys.length (cA, ty) (by simp)).2
  exact Option.some.inj (h2.symm.trans h1)
theorem n_newa {atype : ArrayType} {ty : FieldType} {n : Int32} {N' : Nat} {cT : ClassId} {t0 : Nat} (a0 : vp_A) (X : CN D tys A Z p s m args meth c cc nL own ret) (hty : newarray.typeOf atype = ty) (w : Cond.arrayClass ty ∈ GW) (ht : tys[t0]? = some (cT, ty)) (ha : ∀ cA : ClassId, vp_cell cA a0 = arrV cA N' (fun _ => defaultValue ty)) (hn : ¬ n < 0) (hN : n.toNatClampNeg = N') (hbytes : N' * componentBytes ty ≤ 536870912) (hcs : cells + 1 ≤ R.cells ∧ slots + N' ≤ R.slots) (hdg : decode cc pc = .ok (.newarray atype, 2)) (pc2 : Nat) (hp : pc + 2 = pc2) (kk : ∀ q : Nat, NN D A p l e R s m args below meth c nL (cells + 1) (slots + N') Q (ws ++ [(q, .inl (cT, a0))]) pc2 lv (.ref q :: st)) : NN D A p l e R s m args below meth c nL cells slots Q ws pc lv (.int n :: st) := by
  subst hp
  intro H locs ls hP hD hS hl
  refine va_newa (a0 := a0) X.1.1 X.1.2.1 (by rw [hty]; exact X.1.2.2.2.2 _ w) hty X.2.2.2.1 hP hD hS X.2.2.2.2.1 ha hn hN hbytes hcs.1 hcs.2 hdg (fun q cA H1 hK1 hP1 hD1 hS1 => ?_)
  have e9 := ra_same X.2.2.2.1 ht hK1
  subst e9
  exact kk q H1 locs ls hP1 hD1 hS1 hl
theorem n_newq {C : String} {index : Nat} {n : Int32} {N' : Nat} {cT : ClassId} {t0 : Nat} (X : CN D tys A Z p s m args meth c cc nL own ret) (hAO : va_AO C s) (w : Cond.classLink own index C ∈ GW) (ht : tys[t0]? = some (cT, .object C)) (hn : ¬ n < 0) (hN : n.toNatClampNeg = N') (hbytes : N' * 4 ≤ 536870912) (hcs : cells + 1 ≤ R.cells ∧ slots + N' ≤ R.slots) (hdg : decode cc pc = .ok (.anewarray index, 3)) (pc2 : Nat) (hp : pc + 3 = pc2) (kk : ∀ q : Nat, NN D A p l e R s m args below meth c nL (cells + 1) (slots + N') Q (ws ++ [(q, .inl (cT, N', .inr (.inr (.inr (.inr (fun _ => none))))))]) pc2 lv (.ref q :: st)) : NN D A p l e R s m args below meth c nL cells slots Q ws pc lv (.int n :: st) := by
  subst hp
  intro H locs ls hP hD hS hl
  refine va_newq X.1.1 X.1.2.1 X.1.2.2.2.1 (X.1.2.2.2.2 _ w) hAO X.2.2.2.1 hP hD hS X.2.2.2.2.1 hn hN hbytes hcs.1 hcs.2 hdg (fun q cA H1 hK1 hP1 hD1 hS1 => ?_)
  have e9 := ra_same X.2.2.2.1 ht hK1
  subst e9
  exact kk q H1 locs ls hP1 hD1 hS1 hl
theorem n_get {a : Nat} {ci : Nat} {fs : List Value} {rest : va_W} {C ref : String} {T : u_T} {N index : Nat} {v : Value} (X : CN D tys A Z p s m args meth c cc nL own ret) (hc : vwCl[ci]? = some (C, T, N)) (hin : ∀ w ∈ u_ws C T N, w ∈ GW) (j : Nat) (hj : j < N) (hlk : Cond.fieldLink own index ref (T j).2.1 (T j).2.2.1 ∈ GW) (hr : (T j).1 = ref) (hv : fs[j]? = some v) (hdg : decode cc pc = .ok (.getfield index, 3)) (pc2 : Nat) (hp : pc + 3 = pc2) (kk : NN D A p l e R s m args below meth c nL cells slots Q ((a, .inr (ci, fs)) :: rest) pc2 lv (v :: st)) : NN D A p l e R s m args below meth c nL cells slots Q ((a, .inr (ci, fs)) :: rest) pc lv (.ref a :: st) := by
  subst hp
  exact fun H locs ls hP hD hS hl => va_get X.1.1 X.1.2.1 X.1.2.2.2.2 hin X.1.2.2.2.1 X.2.2.2.1 hP 0 rfl hc j hj (X.1.2.2.2.2 _ hlk) (fun _ h => by rw [hr] at h; exact h) hv hdg (kk H locs ls hP hD hS hl)
theorem n_put {a : Nat} {ci : Nat} {fs fs2 : List Value} {rest : va_W} {C ref : String} {T : u_T} {N index : Nat} {v : Value} (X : CN D tys A Z p s m args meth c cc nL own ret) (hi : meth.name = "<init>") (hc : vwCl[ci]? = some (C, T, N)) (hin : ∀ w ∈ u_ws C T N, w ∈ GW) (ty0 : Nat → FieldType) (hty : ∀ k, k < N → parseFieldDescriptor (T k).2.2.1 = some (ty0 k)) (hnm : ∀ a, a < N → ∀ b, b < N → a ≠ b → (T a).2.1 ≠ (T b).2.1) (j : Nat) (hj : j < N) (hlk : Cond.fieldLink own index ref (T j).2.1 (T j).2.2.1 ∈ GW) (hr : (T j).1 = ref) (ho : (T j).1 = own) (hn : narrow (ty0 j) v = v) (hfit : fits (ty0 j) v = true) (hl0 : j < fs.length) (hset : fs.set j v = fs2) (hdg : decode cc pc = .ok (.putfield index, 3)) (pc2 : Nat) (hp : pc + 3 = pc2) (kk : NN D A p l e R s m args below meth c nL cells slots Q ((a, .inr (ci, fs2)) :: rest) pc2 lv st) : NN D A p l e R s m args below meth c nL cells slots Q ((a, .inr (ci, fs)) :: rest) pc lv (v :: .ref a :: st) := by
  subst hp
  subst hset
  intro H locs ls hP hD hS hl
  by_cases hf : (T j).2.2.2 = true
  · exact va_putF X.1.1 X.1.2.1 X.1.2.2.2.2 hin ty0 hty hnm X.1.2.2.2.1 X.2.2.2.1 hP hD hS 0 rfl hc j hj (X.1.2.2.2.2 _ hlk) (fun _ h => by rw [hr] at h; exact h) hf hi ho (hty j hj) hn hfit hl0 hdg (fun H1 locs1 hP1 hD1 hS1 => kk H1 locs1 ls hP1 hD1 hS1 hl)
  · exact va_put X.1.1 X.1.2.1 X.1.2.2.2.2 hin ty0 hty hnm X.1.2.2.2.1 X.2.2.2.1 hP hD hS 0 rfl hc j hj (X.1.2.2.2.2 _ hlk) (fun _ h => by rw [hr] at h; exact h) (by simpa using hf) (hty j hj) hn hfit hl0 hdg (fun H1 locs1 hP1 hD1 hS1 => kk H1 locs1 ls hP1 hD1 hS1 hl)
theorem n_astq {h0 : Nat × va_E} {r r2 : va_W} {ar v n : Nat} {cA : ClassId} {ci t0 : Nat} {q : vw_C} {vs : List Value} {f : Nat → Option Nat} {i : Int32} (X : CN D tys A Z p s m args meth c cc nL own ret) (ht : tys[t0]? = some (cA, .object q.1)) (hv : (v, .inr (ci, vs)) ∈ r2) (hc : vwCl[ci]? = some q) (hin : vp_in i n) (iN : Nat) (hiN : i.toNatClampNeg = iN) (hdg : decode cc pc = .ok (.aastore, 1)) (pc2 : Nat) (hp : pc + 1 = pc2) (kk : NN D A p l e R s m args below meth c nL cells slots Q (h0 :: (r ++ (ar, .inl (cA, n, .inr (.inr (.inr (.inr (va_up f iN (some v))))))) :: r2)) pc2 lv st) : NN D A p l e R s m args below meth c nL cells slots Q (h0 :: (r ++ (ar, .inl (cA, n, .inr (.inr (.inr (.inr f))))) :: r2)) pc lv (.ref v :: .int i :: .ref ar :: st) := by
  subst hp
  subst hiN
  intro H locs ls hP hD hS hl
  obtain ⟨k, hk⟩ := List.getElem?_of_mem hv
  refine va_astq X.1.1 X.1.2.1 X.2.2.2.1 hP hD hS (r.length + 1) t0 (r.length + 2 + k) ci (a := ar) (cA := cA) (n := n) (f := f) (by simp [List.getElem?_append_right]) ht (by
    rw [show r.length + 2 + k = (r.length + 1 + k) + 1 by omega, List.getElem?_cons_succ, List.getElem?_append_right (by omega), show r.length + 1 + k - r.length = k + 1 by omega, List.getElem?_cons_succ]
    exact hk) hc hin hdg (fun H1 locs1 hP1 hD1 hS1 => ?_)
  have e9 : (h0 :: (r ++ (ar, (.inl (cA, n, .inr (.inr (.inr (.inr f)))) : va_E)) :: r2)).set (r.length + 1) (ar, .inl (cA, n, .inr (.inr (.inr (.inr (va_up f i.toNatClampNeg (some v))))))) = h0 :: (r ++ (ar, .inl (cA, n, .inr (.inr (.inr (.inr (va_up f i.toNatClampNeg (some v))))))) :: r2) := by
    rw [List.set_cons_succ, List.set_append_right _ _ (Nat.le_refl _), Nat.sub_self, List.set_cons_zero]
  rw [e9] at hP1 hD1
  exact kk H1 locs1 ls hP1 hD1 hS1 hl
/-- the classes of the rows of references: told by the statics' facts -/
def ZA (Z : (Nat → Prop) → State → Heap → Prop) : Prop := ∀ A U H, Z A U H → va_AO "PawnRace$Pawn" U ∧ va_AO "PawnRace$Ban" U ∧ va_AO "PawnRace$Race" U
/-- a constructor is called -/
theorem n_ctor {rm : Room} {y : MethodName} {bytes : ByteArray} {nY index na : Nat} {q : Nat} {e0 : va_E} {B : va_W → Prop} {stk : List Value} (X : CN D tys A Z p s m args meth c cc nL own ret) (hZ : ZOK Z) (As : List Value) (hs : As.reverse ++ .ref q :: st = stk) (b : IB y bytes nY na) (w1 : Cond.methodLink own index y ∈ GW) (hM : CK l D tys Z y bytes nY rm As q e0 B) (hna : As.length = na) (hR : rm.frames + 1 ≤ R.frames ∧ 8 + (nY + 11) + rm.locals ≤ R.locals) (hst : (st.map fun v => v.category).sum ≤ 8) (hcs : cells + rm.cells ≤ R.cells ∧ slots + rm.slots ≤ R.slots) (hdg : decode cc pc = .ok (.invokespecial index, 3)) (pc2 : Nat) (hp : pc + 3 = pc2) (kk : ∀ ws1 : va_W, B ws1 → NN D A p l e R s m args below meth c nL (cells + rm.cells) (slots + rm.slots) Q (ws ++ ws1) pc2 lv st) : NN D A p l e R s m args below meth c nL cells slots Q (ws ++ [(q, e0)]) pc lv stk := by
  subst hp
  subst hs
  intro H locs ls hP hD hS hl
  have hM := hM H.size
  have hq : q < H.size := (hP ws.length (q, e0) (by simp)).lt
  have hAq : A q := hD.2 ws.length (q, e0) (by simp)
  have hsub : ∀ x, aQ q H.size x → A x := fun x h => h.elim (fun h => by rw [h]; exact hAq) (fun h => X.2.2.2.2.1 x (Nat.le_trans hS.1 h))
  have hbl : FrameBlind (va_Pc (.ref q :: As) (fun U => U.heap.size = H.size ∧ va_P D vwCl [(q, e0)] U.heap ∧ va_K D vwCl tys U ∧ Z (aQ q H.size) U U.heap)) := fun a U g mk x => by
    obtain ⟨q0, q1, q2, q3, q4⟩ := x
    exact ⟨q0, q1, q2, va_K.moved (u := U) (U := U.calling g mk a) (Vm.Alike.refl U.vm) q3, hZ.2.2 _ U _ _ (Or.inl rfl) q4⟩
  have hpre : ∀ U : State, U.heap = H → s.WarmedH U.vm → va_Pc (.ref q :: As) (fun U => U.heap.size = H.size ∧ va_P D vwCl [(q, e0)] U.heap ∧ va_K D vwCl tys U ∧ Z (aQ q H.size) U U.heap) ((.ref q :: As) : List Value).toArray U := fun U hU hW => by
    refine ⟨rfl, by rw [hU], ?_, va_K.moved hW.alike X.2.2.2.1, ?_⟩
    · rw [hU]
      exact wp_sub (fun x hx => List.mem_append_right _ hx) hP
    · rw [hU]
      exact hZ.2.1 _ _ _ _ (hZ.2.2 _ s _ _ (Or.inr hW) (hZ.1 _ _ _ _ X.2.2.2.2.2 hS.2.1)) hsub
  obtain ⟨w2, w3, w5, hy, hd⟩ := b
  have hg : GoodIn GW (Cond.code y bytes nY none :: GW) := gw_cons w5
  have cw : CallB R s args own index y bytes nY none (Cond.code y bytes nY none :: GW) rm rm.cells rm.slots na ∧ y.name = "<init>" ∧ (Cond.instanceMethod y).before args s = true := ⟨callB_of na X.1.2.2.2.2 hg rfl rfl rfl (X.1.2.2.2.2 _ w3) (X.1.2.2.2.2 _ w1) hd hR, hy, X.1.2.2.2.2 _ w2⟩
  have hr := va_runI (rest := st) X.1 hM cw ⟨hbl, hpre⟩ (g := F0 m pc ls (As.reverse ++ .ref q :: st)) (H := H) (locs := locs) (cells := cells) (slots := slots) (below := below) (e := e) (meth := meth) rfl hna hl.1 rfl (lv_room hst) hdg hcs
  refine va_callv hr hS (fun x _ h => hsub x h) (fun x h => hsub x h) (fun ws1 t H1 locs1 ht hvm hw hB hz1 hk1 hS1 => ?_)
  obtain ⟨hP1, hD1⟩ := hB
  rw [ht] at hP1
  have hold : ∀ x ∈ ws, x.1 < H.size ∧ x.1 ≠ q := fun x hx => by
    obtain ⟨i, hi⟩ := List.getElem?_of_mem hx
    have hlt : i < ws.length := (List.getElem?_eq_some_iff.mp hi).1
    refine ⟨(hP i x (by rw [List.getElem?_append_left hlt]; exact hi)).lt, fun h => ?_⟩
    have := hD.1 i ws.length x (q, e0) (by rw [List.getElem?_append_left hlt]; exact hi) (by simp) h
    omega
  have hP0 : va_P D vwCl ws H1 := va_P.kept (wp_sub (fun x hx => List.mem_append_left _ hx) hP) (fun k x hx => by
    have h9 := hold x (List.mem_of_getElem? hx)
    refine hk1 x.1 h9.1 (fun h => ?_)
    rcases h with h | h
    · exact h9.2 h
    · omega)
  have hD0 : va_D A ws := by
    rw [wd_iff] at hD ⊢
    rw [List.map_append, List.nodup_append] at hD
    exact ⟨hD.1.1, fun x hx => hD.2 x (List.mem_append_left _ hx)⟩
  refine kk ws1 hw H1 locs1 ls (va_P.app hP0 hP1) (va_D.app hD0 (hD1.weaken (fun k x _ h => hsub x.1 h)) (fun i j x x1 hx hx1 he => ?_)) hS1 hl
  have h9 := hold x (List.mem_of_getElem? hx)
  rcases hD1.2 j x1 hx1 with h | h
  · exact h9.2 (by rw [he, h])
  · omega
theorem start_n {y : MethodName} {rm : Room} {av : List Value} {q : Nat} {e0 : va_E} {B : va_W → Prop} (ho : y.cls = own) (hy : plainName y.cls = true) (hy2 : y.name = "<init>") (hn : (lg_sl (.ref q :: av)).length ≤ nL)
    (body : ∀ p e s m args below meth c Q, Q = MQ below (va_Qv B (fun ws t => va_P D vwCl ws t.heap ∧ va_D (aQ q s.heap.size) ws) (aQ q s.heap.size)) args s rm.cells rm.slots (aQ q s.heap.size) → CN D tys (aQ q s.heap.size) Z p s m args meth c cc nL own none → meth.name = "<init>" → NN D (aQ q s.heap.size) p l e rm s m args below meth c nL 0 0 Q [(q, e0)] 0 (lv_args 0 (.ref q :: av)) []) : CK l D tys Z y cc nL rm av q e0 B := by
  subst ho
  intro sz
  refine Met.ofW (cc := cc) (maxL := nL) (ret := none) hy rfl ?_
  intro p e s m args below meth c s₁ BB hml hv
  obtain ⟨rfl, hsz, hP, hK, hZ⟩ := hv
  subst hsz
  have hts := atoms_spec (ws := Cond.code y cc nL none :: GW) BB.pre
  rw [lg_entry_eq]
  exact body p e s m _ below meth c _ rfl ⟨⟨BB.exec, BB.bytes, hml, findClass_of_methodNamed BB.named, fun w hw => hts w (List.mem_cons_of_mem _ hw)⟩, BB.returns, BB.notSynchronized, hK, fun x h => Or.inr h, hZ⟩ ((name_of_methodNamed BB.named BB.method).1.trans hy2) s.heap [] _ hP (wd_iff.mpr ⟨List.nodup_cons.mpr ⟨List.not_mem_nil, List.nodup_nil⟩, fun x hx => Or.inl (by rw [List.mem_singleton.mp hx])⟩) va_S.rf (lv_entry _ hn)
theorem n_ret {rm : Room} {B : va_W → Prop} (X : CN D tys A Z p s m args meth c cc nL own none) (hQ : Q = MQ below (va_Qv B (fun ws t => va_P D vwCl ws t.heap ∧ va_D A ws) A) args s rm.cells rm.slots A) (hB : B ws) (hcs : cells ≤ rm.cells ∧ slots ≤ rm.slots) (hdg : decode cc pc = .ok (.return_, 1)) : NN D A p l e R s m args below meth c nL cells slots Q ws pc lv [] := by
  subst hQ
  refine n_widen hcs.1 hcs.2 ?_
  exact fun H locs ls hP hD hS hl => by
    have hlocks := X.2.2.1
    exact W.vret X.1.1 X.1.2.1 X.2.1 (fun t ht hW => ⟨⟨ws, rfl, hB, ⟨by rw [ht]; exact hP, hD⟩⟩, hS.F ht⟩) hS.2.2 hdg
end NEW
