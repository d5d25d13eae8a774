section LLM
variable {D : va_G} {tys : List (ClassId × FieldType)} {A : Nat → Prop} {Z : (Nat → Prop) → State → Heap → Prop} {p : Program} {l : Launch} {e : Env} {R : Room} {s : State} {m : MethodId} {args : Array Value} {below : List Frame} {meth : Method} {c : Code} {cc : ByteArray} {nL : Nat} {own : String} {ret : Option FieldType} {cells slots : Nat} {Q : State → Prop} {ws : va_W} {pc : Nat} {lv : List (Nat × Value)} {st : List Value}
/-- a private method is what it is called, whatever the receiver's class -/
theorem sel_priv {C : String} {y : MethodName} {s : State} {args : Array Value} {n : Nat} (hy : y.cls ≠ "java/lang/invoke/MethodHandle" ∧ y.cls ≠ "java/lang/invoke/VarHandle") (hins : (Cond.instantiable C n).before args s = true) (hpriv : (Cond.privateMethod y).before args s = true) (hinst : (Cond.instanceMethod y).before args s = true) (hsm : (Cond.sameMethod y.cls y.cls y.name y.desc).before args s = true) : (Cond.selects C y y).before args s = true := by
  obtain ⟨c, k, hc, hk, -, hniab, -, -⟩ := Cond.instantiable_spec hins
  obtain ⟨mk, methM, hnamed, hmethM, -, -⟩ := Cond.instanceMethod_spec hinst
  have hfound : s.methodFound? y.cls y.name y.desc = some mk := State.methodFound?_of_named hnamed hy
  have hsel : selectMethod {} s.vm c mk = .method mk := selectMethod_private hmethM (Cond.privateMethod_at hpriv mk methM hnamed hmethM)
  obtain ⟨-, kP, hkP, hni⟩ := Cond.sameMethod_spec (findClass_of_methodNamed hnamed) hfound hsm
  simp only [Cond.before, Cond.holds, Cond.value, hc, hfound, hnamed, hsel, hkP]
  simp [hni]
/-- a method that the receiver's class has from its superclass -/
def UB (x y : MethodName) (bytes : ByteArray) (nY : Nat) (ret : Option FieldType) (na : Nat) : Prop := Cond.instanceMethod y ∈ GW ∧ Cond.initialized y.cls ∈ GW ∧ Cond.code y bytes nY ret ∈ GW ∧ Cond.sameMethod x.cls x.cls x.name x.desc ∈ GW ∧ (Cond.instanceMethod x ∈ GW ∧ ∃ b n r, Cond.code x b n r ∈ GW) ∧ (x.cls ≠ "java/lang/invoke/MethodHandle" ∧ x.cls ≠ "java/lang/invoke/VarHandle" ∧ (parseMethodDescriptor x.desc).map (fun d => d.parameters.length) = some na)
theorem UB.cu {C : String} {x y : MethodName} {bytes : ByteArray} {nY index na : Nat} {rt : Option FieldType} {rm : Room} (b : UB x y bytes nY rt na) (hsel : (Cond.selects C x y).before args s = true) (hts : ∀ w ∈ GW, w.before args s = true) (hgw : ∀ w ∈ Cond.code y bytes nY rt :: GW, ∀ (a' : Array Value) (U : State), s.WarmedH U.vm → w.before a' U = true) (w1 : Cond.methodLink own index x ∈ GW) (hR : rm.frames + 1 ≤ R.frames ∧ 8 + (nY + 11) + rm.locals ≤ R.locals) : va_CU R s args own C x.cls index x y bytes nY rt (Cond.code y bytes nY rt :: GW) rm rm.cells rm.slots na := by
  obtain ⟨b1, b2, b3, b4, ⟨b5, b6, b7, b8, b9⟩, b11, b12, b13⟩ := b
  refine ⟨⟨rfl, rfl, hR.1, hR.2, hgw, List.mem_cons_self⟩, hts _ b3, hts _ b2, ⟨b11, b12⟩, fun sig h => ?_, hts _ w1, hts _ b4, va_Decl.of (hts _ b5) (hts _ b9), hsel, hts _ b1⟩
  rw [h] at b13
  exact (Option.some.inj b13).symm
theorem q_callU {C : String} {x y : MethodName} {bytes : ByteArray} {nY index na : Nat} {rt : Option FieldType} {rm : Room} {wc : va_W} {Qf : Option Value → va_W → Prop} {stk : List Value} (X : CN D tys A Z p s m args meth c cc nL own ret) (hZ : ZOK Z) (As : List Value) (wr : va_W) (hw : ws = wc ++ wr) (k : Nat) {a ci : Nat} {fs : List Value} {q : vw_C} (he : ws[k]? = some (a, .inr (ci, fs))) (hq : vwCl[ci]? = some q) (hqy : C = q.1) (hs : As.reverse ++ .ref a :: st = stk) (b : UB x y bytes nY rt na) (hsel : (Cond.selects C x y).before args s = true) (w1 : Cond.methodLink own index x ∈ GW) (hM : LC l D tys Z y bytes nY rt rm (.ref a :: As) wc Qf) (hna : As.length = na) (hR : rm.frames + 1 ≤ R.frames ∧ 8 + (nY + 11) + rm.locals ≤ R.locals) (hst : (st.map fun v => v.category).sum ≤ 8) (hcs : cells + rm.cells ≤ R.cells ∧ slots + rm.slots ≤ R.slots) (hdg : decode cc pc = .ok (.invokevirtual index, 3)) (pc2 : Nat) (hp : pc + 3 = pc2) (kk : ∀ (v : Option Value) (w1 : va_W), Qf v w1 → NN D A p l e R s m args below meth c nL (cells + rm.cells) (slots + rm.slots) Q (w1 ++ wr) pc2 lv (v.toList ++ st)) : NN D A p l e R s m args below meth c nL cells slots Q ws pc lv stk := by
  subst hs; subst hw
  intro H locs ls hP hD hS hl
  have hpre : ∀ U : State, U.heap = H → s.WarmedH U.vm → va_Pc (.ref a :: As) (PLq D tys Z wc H.size) ((.ref a :: As) : List Value).toArray U := fun U hU hW => ⟨rfl, PL_of X hZ hP hD hS hU hW⟩
  have hg : GoodIn GW (Cond.code y bytes nY rt :: GW) := gw_cons b.2.2.1
  have cw := UB.cu (own := own) (R := R) (rm := rm) b hsel X.1.2.2.2.2 (pay_in X.1.2.2.2.2 hg) w1 hR
  have hrv : ∃ cellB : Cell, H[a]? = some cellB ∧ cellB.vm.isStatics = false ∧ s.vm.findClass C = some cellB.cls := by
    rw [hqy]
    exact va_recv X.2.2.2.1 hP hq he
  exact q_ran X hP hD hS hl hp (va_runU (rest := st) X.1 (hM H.size) cw ⟨PL_bl hZ, hrv, hpre⟩ (g := F0 m pc ls (As.reverse ++ .ref a :: st)) (H := H) (locs := locs) (cells := cells) (slots := slots) (below := below) (e := e) (meth := meth) rfl hna hl.1 rfl (lv_room hst) hdg hcs) kk
/-- super.y(..) -/
def HB (C : String) (y : MethodName) (bytes : ByteArray) (nY : Nat) (ret : Option FieldType) (na : Nat) : Prop := Cond.instanceMethod y ∈ GW ∧ Cond.initialized y.cls ∈ GW ∧ Cond.code y bytes nY ret ∈ GW ∧ Cond.sameMethod y.cls y.cls y.name y.desc ∈ GW ∧ Cond.superclass C y.cls ∈ GW ∧ (y.name ≠ "<init>" ∧ (parseMethodDescriptor y.desc).map (fun d => d.parameters.length) = some na)
theorem q_callH {y : MethodName} {bytes : ByteArray} {nY index na : Nat} {rt : Option FieldType} {rm : Room} {wc : va_W} {Qf : Option Value → va_W → Prop} {stk : List Value} (X : CN D tys A Z p s m args meth c cc nL own ret) (hZ : ZOK Z) (As : List Value) (wr : va_W) (hw : ws = wc ++ wr) (k : Nat) {a ci : Nat} {fs : List Value} {q : vw_C} (he : ws[k]? = some (a, .inr (ci, fs))) (hq : vwCl[ci]? = some q) (hs : As.reverse ++ .ref a :: st = stk) (b : HB own y bytes nY rt na) (w1 : Cond.methodLink own index y ∈ GW) (hM : LC l D tys Z y bytes nY rt rm (.ref a :: As) wc Qf) (hna : As.length = na) (hR : rm.frames + 1 ≤ R.frames ∧ 8 + (nY + 11) + rm.locals ≤ R.locals) (hst : (st.map fun v => v.category).sum ≤ 8) (hcs : cells + rm.cells ≤ R.cells ∧ slots + rm.slots ≤ R.slots) (hdg : decode cc pc = .ok (.invokespecial index, 3)) (pc2 : Nat) (hp : pc + 3 = pc2) (kk : ∀ (v : Option Value) (w1 : va_W), Qf v w1 → NN D A p l e R s m args below meth c nL (cells + rm.cells) (slots + rm.slots) Q (w1 ++ wr) pc2 lv (v.toList ++ st)) : NN D A p l e R s m args below meth c nL cells slots Q ws pc lv stk := by
  subst hs; subst hw
  intro H locs ls hP hD hS hl
  have hpre : ∀ U : State, U.heap = H → s.WarmedH U.vm → va_Pc (.ref a :: As) (PLq D tys Z wc H.size) ((.ref a :: As) : List Value).toArray U := fun U hU hW => ⟨rfl, PL_of X hZ hP hD hS hU hW⟩
  have hts := X.1.2.2.2.2
  obtain ⟨b1, b2, b3, b4, b5, b6, b7⟩ := b
  have hg : GoodIn GW (Cond.code y bytes nY rt :: GW) := gw_cons b3
  have cw : va_CS R s args own index y bytes nY rt (Cond.code y bytes nY rt :: GW) rm rm.cells rm.slots na := ⟨⟨rfl, rfl, hR.1, hR.2, pay_in hts hg, List.mem_cons_self⟩, hts _ w1, hts _ b4, hts _ b5, hts _ b1, hts _ b2, hts _ b3, b6, fun sig h => by
    rw [h] at b7
    exact (Option.some.inj b7).symm⟩
  exact q_ran X hP hD hS hl hp (va_runSU (rest := st) (X.2.2.2.1.1 ci q hq).2 X.1 (hM H.size) cw ⟨PL_bl hZ, va_recv X.2.2.2.1 hP hq he, hpre⟩ (g := F0 m pc ls (As.reverse ++ .ref a :: st)) (H := H) (locs := locs) (cells := cells) (slots := slots) (below := below) (e := e) (meth := meth) rfl hna hl.1 rfl (lv_room hst) hdg hcs) kk
/-- a row of bytes copied whole -/
theorem q_clone {ad : String} {index : Nat} {a t0 : Nat} {cA : ClassId} {x : vp_A} {ty : FieldType} (X : CN D tys A Z p s m args meth c cc nL own ret) (k : Nat) (he : ws[k]? = some (a, .inl (cA, x))) (ht : tys[t0]? = some (cA, ty)) (hnm : "[" ++ ty.toString = ad) (hfit : ∀ (i : Nat) (v : Value), (vp_cell cA x).slots[i]? = some v → fits ty v = true) (w1 : Cond.methodLink own index ⟨ad, "clone", "()Ljava/lang/Object;"⟩ ∈ GW) (w2 : Cond.sameMethod ad "java/lang/Object" "clone" "()Ljava/lang/Object;" ∈ GW) (w3 : Cond.native ⟨"java/lang/Object", "clone", "()Ljava/lang/Object;"⟩ ∈ GW) (w4 : Cond.instanceMethod ⟨"java/lang/Object", "clone", "()Ljava/lang/Object;"⟩ ∈ GW) (w5 : Cond.selects ad ⟨ad, "clone", "()Ljava/lang/Object;"⟩ ⟨"java/lang/Object", "clone", "()Ljava/lang/Object;"⟩ ∈ GW) (w6 : va_Nw (.castable ad "java/lang/Cloneable") s) (hfr : 1 ≤ R.frames) (hlo : (st.map fun v => v.category).sum + 14 ≤ R.locals) (hcs : cells + 1 ≤ R.cells ∧ slots + x.1 ≤ R.slots) (hdg : decode cc pc = .ok (.invokevirtual index, 3)) (pc2 : Nat) (hp : pc + 3 = pc2) (kk : ∀ q : Nat, NN D A p l e R s m args below meth c nL (cells + 1) (slots + x.1) Q (ws ++ [(q, .inl (cA, x))]) pc2 lv (.ref q :: st)) : NN D A p l e R s m args below meth c nL cells slots Q ws pc lv (.ref a :: st) := by
  subst hp; subst hnm
  have hts := X.1.2.2.2.2
  exact fun H locs ls hP hD hS hl => va_clone X.1.1 X.1.2.1 (X.1.2.2.1.trans hl.1.symm) X.1.2.2.2.1 (hts _ w1) (hts _ w2) (hts _ w3) (hts _ w4) (hts _ w5) w6 X.2.2.2.1 hP hD hS X.2.2.2.2.1 k t0 he ht (ra_cls (X.2.2.2.1.2 t0 _ ht).2) hfit hfr hlo hcs.1 hcs.2 hdg (fun q H1 hK1 hP1 hD1 hS1 => kk q H1 locs ls hP1 hD1 hS1 hl)
theorem q_castA {nm : String} {index a t0 : Nat} {cA : ClassId} {x : vp_A} {ty : FieldType} (X : CN D tys A Z p s m args meth c cc nL own ret) (k : Nat) (he : ws[k]? = some (a, .inl (cA, x))) (ht : tys[t0]? = some (cA, ty)) (hnm : "[" ++ ty.toString = nm) (hlk : Cond.classLink own index nm ∈ GW) (hdg : decode cc pc = .ok (.checkcast index, 3)) (pc2 : Nat) (hp : pc + 3 = pc2) (kk : NN D A p l e R s m args below meth c nL cells slots Q ws pc2 lv (.ref a :: st)) : NN D A p l e R s m args below meth c nL cells slots Q ws pc lv (.ref a :: st) := by
  subst hp; subst hnm
  exact fun H locs ls hP hD hS hl => va_castA X.1.1 X.1.2.1 X.1.2.2.2.1 (X.1.2.2.2.2 _ hlk) hP k he (ra_cls (X.2.2.2.1.2 t0 _ ht).2) hdg (kk H locs ls hP hD hS hl)
/-- what the private methods of a builder are: told by the facts -/
def selW : List Cond := [.selects RJ4 yJ5_ensureCapacityInternal_d00df yJ5_ensureCapacityInternal_d00df, .selects RJ4 yJ5_newCapacity_0f7a4 yJ5_newCapacity_0f7a4, .selects RJ4 yJ5_inflateIfNeededFor_a7421 yJ5_inflateIfNeededFor_a7421, .selects RJ4 yJ5_putStringAt_47b60 yJ5_putStringAt_47b60, .castable "[B" "java/lang/Cloneable", .castable "[I" "java/lang/Object"]
def ZVO (Z : (Nat → Prop) → State → Heap → Prop) : Prop := ∀ A U H, Z A U H → ∀ w ∈ selW, va_Nw w U
theorem sel_of (X : CN D tys A Z p s m args meth c cc nL own ret) (hV : ZVO Z) (k : Nat) {w : Cond} (hk : selW[k]? = some w) (ho : ∀ a, w.before a s = w.before #[] s) : w.before args s = true := (ho args).trans (hV _ _ _ X.2.2.2.2.2 w (List.mem_of_getElem? hk))
end LLM
