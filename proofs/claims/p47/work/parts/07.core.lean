section CORE
/-- the words of the tables that move along with every call -/
def GW : List Cond := lw_tbl.filter goodWord
theorem gw_in {w : Cond} (i : Nat) (h : lw_tbl[i]? = some w) (g : goodWord w = true) : w ∈ GW := List.mem_filter.mpr ⟨List.mem_of_getElem? h, g⟩
theorem gw_good {w : Cond} (h : w ∈ GW) : (w.onTables && w.keeps) = true ∨ ∃ ty, w = .arrayClass ty := good_of_word (List.mem_filter.mp h).2
theorem gw_cons {c : Cond} (h : c ∈ GW) : GoodIn GW (c :: GW) := fun w hw => by
  rcases List.mem_cons.mp hw with e | e
  · rw [e]; exact ⟨h, gw_good h⟩
  · exact ⟨e, gw_good e⟩
/-- what a place holds: ints by their slots, longs by their slots; a memory: by place -/
abbrev Row : Type := (Nat → Int32) × (Nat → Int64)
abbrev Mem : Type := Nat → Row
def rd (mem : Mem) (k j : Nat) : Int32 := (mem k).1 j
def rl (mem : Mem) (k j : Nat) : Int64 := (mem k).2 j
def mr (mem : Mem) (k : Nat) (r : Row) : Mem := fun a => if a = k then r else mem a
def mw (mem : Mem) (k j : Nat) (x : Int32) : Mem := mr mem k (upd (mem k).1 j x, (mem k).2)
def ml (mem : Mem) (k j : Nat) (x : Int64) : Mem := mr mem k ((mem k).1, vp_updL (mem k).2 j x)
/-- a value with a name; tests that an instruction asks; what comes behind a call -/
def lt_ {α β : Type} (a : α) (f : α → β) : β := f a
def gi {α : Type} (i : Int32) (n : Nat) (o : Option α) : Option α := if i < 0 ∨ n ≤ i.toNatClampNeg then none else o
def gz {α : Type} (y : Int32) (o : Option α) : Option α := if y = 0 then none else o
def gb {α : Type} (x : Int32) (o : Option α) : Option α := if x = 0 ∨ x = 1 then o else none
def bd {α β : Type} (o : Option α) (f : α → Option β) : Option β := match o with
  | some a => f a
  | none => none
theorem gi_some {α : Type} {i : Int32} {n : Nat} {o : Option α} {r : α} (h : gi i n o = some r) : vp_in i n ∧ o = some r := by
  unfold gi at h
  split at h
  · cases h
  · exact ⟨by assumption, h⟩
theorem gz_some {α : Type} {y : Int32} {o : Option α} {r : α} (h : gz y o = some r) : ¬ y = 0 ∧ o = some r := by
  unfold gz at h
  split at h
  · cases h
  · exact ⟨by assumption, h⟩
theorem gb_some {α : Type} {x : Int32} {o : Option α} {r : α} (h : gb x o = some r) : (x = 0 ∨ x = 1) ∧ o = some r := by
  unfold gb at h
  split at h
  · exact ⟨by assumption, h⟩
  · cases h
theorem bd_some {α β : Type} {o : Option α} {f : α → Option β} {r : β} (h : bd o f = some r) : ∃ a, o = some a ∧ f a = some r := by
  cases o with
  | none => cases h
  | some a => exact ⟨a, rfl, h⟩
theorem vp_lt {i : Int32} {n : Nat} (h : vp_in i n) : i.toNatClampNeg < n := Nat.lt_of_not_le fun q => h (Or.inr q)
/-- a system's cells: n places, their addresses, what stands there by the memory's row -/
def wf (n : Nat) (ad : Nat → Nat) (cf : Nat → Row → va_E) (mem : Mem) : va_W := (List.range n).map (fun k => (ad k, cf k (mem k)))
def AA (n : Nat) (ad : Nat → Nat) (sz : Nat) : Nat → Prop := fun q => (∃ k, k < n ∧ q = ad k) ∨ sz ≤ q
theorem wf_at {n k : Nat} {ad : Nat → Nat} {cf : Nat → Row → va_E} {mem : Mem} (h : k < n) : (wf n ad cf mem)[k]? = some (ad k, cf k (mem k)) := by
  simp [wf, h]
theorem wf_of {n j : Nat} {ad : Nat → Nat} {cf : Nat → Row → va_E} {mem : Mem} {q : Nat × va_E} (h : (wf n ad cf mem)[j]? = some q) : j < n ∧ q = (ad j, cf j (mem j)) := by
  have hj : j < (wf n ad cf mem).length := (List.getElem?_eq_some_iff.mp h).1
  have hn : j < n := by simpa [wf] using hj
  rw [wf_at hn] at h
  exact ⟨hn, (Option.some.inj h).symm⟩
theorem wf_set {n k : Nat} {ad : Nat → Nat} {cf : Nat → Row → va_E} {mem : Mem} {r : Row} {e : va_E} (he : cf k r = e) : (wf n ad cf mem).set k (ad k, e) = wf n ad cf (mr mem k r) := by
  subst he
  apply List.ext_getElem?
  intro j
  rw [List.getElem?_set]
  by_cases hj : j < n
  · rw [wf_at hj]
    by_cases hk : k = j
    · subst hk
      simp [wf, hj, mr]
    · rw [if_neg hk, wf_at hj]
      rw [show mr mem k r j = mem j from if_neg (fun e => hk e.symm)]
  · have e1 : (wf n ad cf mem)[j]? = none := by simp [wf]; omega
    have e2 : (wf n ad cf (mr mem k r))[j]? = none := by simp [wf]; omega
    rw [e1, e2]
    by_cases hk : k = j
    · rw [if_pos hk]
      have : ¬ k < (wf n ad cf mem).length := by simp [wf]; omega
      simp [this]
    · rw [if_neg hk]
theorem wf_D {n sz : Nat} {ad : Nat → Nat} {cf : Nat → Row → va_E} {mem : Mem} (h : ∀ i j, i < n → j < n → ad i = ad j → i = j) : va_D (AA n ad sz) (wf n ad cf mem) := by
  refine ⟨fun i j p q hp hq e => ?_, fun k q hq => ?_⟩
  · obtain ⟨h1, rfl⟩ := wf_of hp
    obtain ⟨h2, rfl⟩ := wf_of hq
    exact h i j h1 h2 e
  · obtain ⟨h1, rfl⟩ := wf_of hq
    exact Or.inl ⟨k, h1, rfl⟩
theorem AA_le {n sz sz' : Nat} {ad : Nat → Nat} (h : sz ≤ sz') : ∀ q, AA n ad sz' q → AA n ad sz q := fun q hq => hq.elim Or.inl (fun z => Or.inr (Nat.le_trans h z))
/-- facts of statics that nobody writes: they stay where nothing else changes, they move along with the machine's tables, and they hold for fewer writers -/
def ZOK (Z : (Nat → Prop) → State → Heap → Prop) : Prop := (∀ A U H H1, Z A U H → (∀ a : Nat, a < H.size → ¬ A a → H1[a]? = H[a]?) → Z A U H1) ∧ (∀ A B U H, Z A U H → (∀ q, B q → A q) → Z B U H) ∧ ∀ A u U H, (u.vm = U.vm ∨ u.WarmedH U.vm) → Z A u H → Z A U H
/-- what a method stands on -/
def CX (D : va_G) (tys : List (ClassId × FieldType)) (n : Nat) (ad : Nat → Nat) (Z : (Nat → Prop) → State → Heap → Prop) (p : Program) (s : State) (m : MethodId) (args : Array Value) (meth : Method) (c : Code) (cc : ByteArray) (nL : Nat) (own : String) (ret : Option FieldType) : Prop :=
  CallFix p m c cc nL s args GW own ∧ meth.sig.returnType = ret ∧ meth.locks = false ∧ va_K D vwCl tys s ∧ (∀ i j, i < n → j < n → ad i = ad j → i = j) ∧ Z (AA n ad s.heap.size) s s.heap
/-- the walk's judgement: memory, program counter, locals, stack -/
def WW (D : va_G) (n : Nat) (ad : Nat → Nat) (cf : Nat → Row → va_E) (p : Program) (l : Launch) (e : Env) (R : Room) (s : State) (m : MethodId) (args : Array Value) (below : List Frame) (meth : Method) (c : Code) (nL : Nat) (cells slots : Nat) (Q : State → Prop) (mem : Mem) (pc : Nat) (lv : List (Nat × Value)) (st : List Value) : Prop :=
  ∀ (H : Heap) (locs : List Loc) (ls : Array Slot), va_P D vwCl (wf n ad cf mem) H → va_S (AA n ad s.heap.size) s.heap H locs → lv_has ls nL lv → W p l e R s m args below meth c H locs cells slots Q (F0 m pc ls st)
/-- what a method is called with -/
def PW (D : va_G) (tys : List (ClassId × FieldType)) (n : Nat) (ad : Nat → Nat) (cf : Nat → Row → va_E) (Z : (Nat → Prop) → State → Heap → Prop) (mem : Mem) (sz : Nat) (U : State) : Prop :=
  U.heap.size = sz ∧ va_P D vwCl (wf n ad cf mem) U.heap ∧ va_K D vwCl tys U ∧ (∀ i j, i < n → j < n → ad i = ad j → i = j) ∧ Z (AA n ad sz) U U.heap
/-- contracts: a method that answers an int (with a memory), one that answers none -/
def CI (l : Launch) (D : va_G) (tys : List (ClassId × FieldType)) (n : Nat) (ad : Nat → Nat) (cf : Nat → Row → va_E) (Z : (Nat → Prop) → State → Heap → Prop) (y : MethodName) (cc : ByteArray) (nL : Nat) (ret : FieldType) (rm : Room) (av : List Value) (mem : Mem) (x : Int32) (mem' : Mem) : Prop :=
  ∀ sz : Nat, Met l y (Cond.code y cc nL (some ret) :: GW) rm (va_Pc av (PW D tys n ad cf Z mem sz)) (va_Qi (fun (r : Int32) (u : Unit) => r = x ∧ u = ()) (fun _ t => va_P D vwCl (wf n ad cf mem') t.heap) (AA n ad sz)) 0 0 (AA n ad sz)
def CV (l : Launch) (D : va_G) (tys : List (ClassId × FieldType)) (n : Nat) (ad : Nat → Nat) (cf : Nat → Row → va_E) (Z : (Nat → Prop) → State → Heap → Prop) (y : MethodName) (cc : ByteArray) (nL : Nat) (rm : Room) (av : List Value) (mem : Mem) (mem' : Mem) : Prop :=
  ∀ sz : Nat, Met l y (Cond.code y cc nL none :: GW) rm (va_Pc av (PW D tys n ad cf Z mem sz)) (va_Qv (fun (u : Unit) => u = ()) (fun _ t => va_P D vwCl (wf n ad cf mem') t.heap) (AA n ad sz)) 0 0 (AA n ad sz)
end CORE
section ROWS
variable {D : va_G} {tys : List (ClassId × FieldType)} {n : Nat} {ad : Nat → Nat} {cf : Nat → Row → va_E} {Z : (Nat → Prop) → State → Heap → Prop} {p : Program} {l : Launch} {e : Env} {R : Room} {s : State} {m : MethodId} {args : Array Value} {below : List Frame} {meth : Method} {c : Code} {cc : ByteArray} {nL : Nat} {own : String} {ret : Option FieldType} {cells slots : Nat} {Q : State → Prop} {mem : Mem} {pc : Nat} {lv : List (Nat × Value)} {st : List Value}
/-- the beginning of a walk: from the contract to the walk's judgement -/
theorem start_i {y : MethodName} {rt : FieldType} {rm : Room} {av : List Value} {x : Int32} {mem' : Mem} (ho : y.cls = own) (hy : plainName y.cls = true) (hn : (lg_sl av).length ≤ nL)
    (body : ∀ p e s m args below meth c Q, Q = MQ below (va_Qi (fun (r : Int32) (u : Unit) => r = x ∧ u = ()) (fun _ t => va_P D vwCl (wf n ad cf mem') t.heap) (AA n ad s.heap.size)) args s 0 0 (AA n ad s.heap.size) → CX D tys n ad Z p s m args meth c cc nL own (some rt) → WW D n ad cf p l e rm s m args below meth c nL 0 0 Q mem 0 (lv_args 0 av) []) : CI l D tys n ad cf Z y cc nL rt rm av mem x mem' := by
  subst ho
  intro sz
  refine Met.ofW (cc := cc) (maxL := nL) (ret := some rt) hy rfl ?_
  intro p e s m args below meth c s₁ B hml hv
  obtain ⟨rfl, hsz, hP, hK, hI, hZ⟩ := hv
  subst hsz
  have hts := atoms_spec (ws := Cond.code y cc nL (some rt) :: GW) B.pre
  rw [lg_entry_eq]
  exact body p e s m _ below meth c _ rfl ⟨⟨B.exec, B.bytes, hml, findClass_of_methodNamed B.named, fun w hw => hts w (List.mem_cons_of_mem _ hw)⟩, B.returns, B.notSynchronized, hK, hI, hZ⟩ s.heap [] _ hP va_S.rf (lv_entry av hn)
theorem start_v {y : MethodName} {rm : Room} {av : List Value} {mem' : Mem} (ho : y.cls = own) (hy : plainName y.cls = true) (hn : (lg_sl av).length ≤ nL)
    (body : ∀ p e s m args below meth c Q, Q = MQ below (va_Qv (fun (u : Unit) => u = ()) (fun _ t => va_P D vwCl (wf n ad cf mem') t.heap) (AA n ad s.heap.size)) args s 0 0 (AA n ad s.heap.size) → CX D tys n ad Z p s m args meth c cc nL own none → WW D n ad cf p l e rm s m args below meth c nL 0 0 Q mem 0 (lv_args 0 av) []) : CV l D tys n ad cf Z y cc nL rm av mem mem' := by
  subst ho
  intro sz
  refine Met.ofW (cc := cc) (maxL := nL) (ret := none) hy rfl ?_
  intro p e s m args below meth c s₁ B hml hv
  obtain ⟨rfl, hsz, hP, hK, hI, hZ⟩ := hv
  subst hsz
  have hts := atoms_spec (ws := Cond.code y cc nL none :: GW) B.pre
  rw [lg_entry_eq]
  exact body p e s m _ below meth c _ rfl ⟨⟨B.exec, B.bytes, hml, findClass_of_methodNamed B.named, fun w hw => hts w (List.mem_cons_of_mem _ hw)⟩, B.returns, B.notSynchronized, hK, hI, hZ⟩ s.heap [] _ hP va_S.rf (lv_entry av hn)
theorem w_iconst {i : Int} (X : CX D tys n ad Z p s m args meth c cc nL own ret) (v : Int32) (hdg : decode cc pc = .ok (.iconst i, 1)) (hv : Int32.ofInt i = v) (pc2 : Nat) (hp : pc + 1 = pc2) (kk : WW D n ad cf p l e R s m args below meth c nL cells slots Q mem pc2 lv (.int v :: st)) : WW D n ad cf p l e R s m args below meth c nL cells slots Q mem pc lv st := by
  subst hp
  exact fun H locs ls hP hS hl => lv_iconst X.1.1 X.1.2.1 hdg hv (kk H locs ls hP hS hl)
theorem w_bipush {i : Int} (X : CX D tys n ad Z p s m args meth c cc nL own ret) (v : Int32) (hdg : decode cc pc = .ok (.bipush i, 2)) (hv : (Int8.ofInt i).toInt32 = v) (pc2 : Nat) (hp : pc + 2 = pc2) (kk : WW D n ad cf p l e R s m args below meth c nL cells slots Q mem pc2 lv (.int v :: st)) : WW D n ad cf p l e R s m args below meth c nL cells slots Q mem pc lv st := by
  subst hp
  exact fun H locs ls hP hS hl => lv_bipush X.1.1 X.1.2.1 hdg hv (kk H locs ls hP hS hl)
theorem w_sipush {i : Int} (X : CX D tys n ad Z p s m args meth c cc nL own ret) (v : Int32) (hdg : decode cc pc = .ok (.sipush i, 3)) (hv : (Int16.ofInt i).toInt32 = v) (pc2 : Nat) (hp : pc + 3 = pc2) (kk : WW D n ad cf p l e R s m args below meth c nL cells slots Q mem pc2 lv (.int v :: st)) : WW D n ad cf p l e R s m args below meth c nL cells slots Q mem pc lv st := by
  subst hp
  exact fun H locs ls hP hS hl => lv_sipush X.1.1 X.1.2.1 hdg hv (kk H locs ls hP hS hl)
theorem w_ldc {ix : Nat} (X : CX D tys n ad Z p s m args meth c cc nL own ret) (v : Int32) (hw : Cond.constant own ix v ∈ GW) (hdg : decode cc pc = .ok (.ldc ix, 2)) (pc2 : Nat) (hp : pc + 2 = pc2) (kk : WW D n ad cf p l e R s m args below meth c nL cells slots Q mem pc2 lv (.int v :: st)) : WW D n ad cf p l e R s m args below meth c nL cells slots Q mem pc lv st := by
  subst hp
  exact fun H locs ls hP hS hl => lv_ldc X.1.1 X.1.2.1 X.1.2.2.2.1 (X.1.2.2.2.2 _ hw) hdg (kk H locs ls hP hS hl)
theorem w_ldcw {ix : Nat} (X : CX D tys n ad Z p s m args meth c cc nL own ret) (v : Int32) (hw : Cond.constant own ix v ∈ GW) (hdg : decode cc pc = .ok (.ldc_w ix, 3)) (pc2 : Nat) (hp : pc + 3 = pc2) (kk : WW D n ad cf p l e R s m args below meth c nL cells slots Q mem pc2 lv (.int v :: st)) : WW D n ad cf p l e R s m args below meth c nL cells slots Q mem pc lv st := by
  subst hp
  exact fun H locs ls hP hS hl => lv_ldcw X.1.1 X.1.2.1 X.1.2.2.2.1 (X.1.2.2.2.2 _ hw) hdg (kk H locs ls hP hS hl)
theorem w_ldc2 {ix : Nat} (X : CX D tys n ad Z p s m args meth c cc nL own ret) (v : Int64) (hw : Cond.constantLong own ix v ∈ GW) (hdg : decode cc pc = .ok (.ldc2_w ix, 3)) (pc2 : Nat) (hp : pc + 3 = pc2) (kk : WW D n ad cf p l e R s m args below meth c nL cells slots Q mem pc2 lv (.long v :: st)) : WW D n ad cf p l e R s m args below meth c nL cells slots Q mem pc lv st := by
  subst hp
  exact fun H locs ls hP hS hl => lv_ldc2 X.1.1 X.1.2.1 X.1.2.2.2.1 (X.1.2.2.2.2 _ hw) hdg (kk H locs ls hP hS hl)
theorem w_lconst {i : Fin 2} (X : CX D tys n ad Z p s m args meth c cc nL own ret) (v : Int64) (hdg : decode cc pc = .ok (.lconst i, 1)) (hv : Int64.ofNat (i : Nat) = v) (pc2 : Nat) (hp : pc + 1 = pc2) (kk : WW D n ad cf p l e R s m args below meth c nL cells slots Q mem pc2 lv (.long v :: st)) : WW D n ad cf p l e R s m args below meth c nL cells slots Q mem pc lv st := by
  subst hp
  exact fun H locs ls hP hS hl => lv_lconst X.1.1 X.1.2.1 hdg hv (kk H locs ls hP hS hl)
theorem w_iload_n {f : Fin 4} {i : Nat} {x : Int32} (X : CX D tys n ad Z p s m args meth c cc nL own ret) (k : Nat) (hdg : decode cc pc = .ok (.iload_n f, 1)) (hi : (f : Nat) = i) (hk : lv[k]? = some (i, .int x)) (pc2 : Nat) (hp : pc + 1 = pc2) (kk : WW D n ad cf p l e R s m args below meth c nL cells slots Q mem pc2 lv (.int x :: st)) : WW D n ad cf p l e R s m args below meth c nL cells slots Q mem pc lv st := by
  subst hp
  exact fun H locs ls hP hS hl => lv_iload_n X.1.1 X.1.2.1 hdg hi (lv_at hl k hk) (kk H locs ls hP hS hl)
theorem w_iload {i : Nat} {x : Int32} (X : CX D tys n ad Z p s m args meth c cc nL own ret) (k : Nat) (hdg : decode cc pc = .ok (.iload i, 2)) (hk : lv[k]? = some (i, .int x)) (pc2 : Nat) (hp : pc + 2 = pc2) (kk : WW D n ad cf p l e R s m args below meth c nL cells slots Q mem pc2 lv (.int x :: st)) : WW D n ad cf p l e R s m args below meth c nL cells slots Q mem pc lv st := by
  subst hp
  exact fun H locs ls hP hS hl => lv_iload X.1.1 X.1.2.1 hdg (lv_at hl k hk) (kk H locs ls hP hS hl)
theorem w_istore_n {f : Fin 4} {i : Nat} {x : Int32} (X : CX D tys n ad Z p s m args meth c cc nL own ret) (lv2 : List (Nat × Value)) (hdg : decode cc pc = .ok (.istore_n f, 1)) (hi : (f : Nat) = i) (hn : i < nL) (hv : (i, Value.int x) :: lv.filter (fun q => !(q.1 == i) && !(q.1 + 1 == i && q.2.category == 2)) = lv2) (pc2 : Nat) (hp : pc + 1 = pc2) (kk : WW D n ad cf p l e R s m args below meth c nL cells slots Q mem pc2 lv2 st) : WW D n ad cf p l e R s m args below meth c nL cells slots Q mem pc lv (.int x :: st) := by
  subst hp
  exact fun H locs ls hP hS hl => lv_istore_n X.1.1 X.1.2.1 hdg hi hl hn hv (fun ls hl => kk H locs ls hP hS hl)
theorem w_istore {i : Nat} {x : Int32} (X : CX D tys n ad Z p s m args meth c cc nL own ret) (lv2 : List (Nat × Value)) (hdg : decode cc pc = .ok (.istore i, 2)) (hn : i < nL) (hv : (i, Value.int x) :: lv.filter (fun q => !(q.1 == i) && !(q.1 + 1 == i && q.2.category == 2)) = lv2) (pc2 : Nat) (hp : pc + 2 = pc2) (kk : WW D n ad cf p l e R s m args below meth c nL cells slots Q mem pc2 lv2 st) : WW D n ad cf p l e R s m args below meth c nL cells slots Q mem pc lv (.int x :: st) := by
  subst hp
  exact fun H locs ls hP hS hl => lv_istore X.1.1 X.1.2.1 hdg hl hn hv (fun ls hl => kk H locs ls hP hS hl)
theorem w_aload_n {f : Fin 4} {i : Nat} {x : Nat} (X : CX D tys n ad Z p s m args meth c cc nL own ret) (k : Nat) (hdg : decode cc pc = .ok (.aload_n f, 1)) (hi : (f : Nat) = i) (hk : lv[k]? = some (i, .ref x)) (pc2 : Nat) (hp : pc + 1 = pc2) (kk : WW D n ad cf p l e R s m args below meth c nL cells slots Q mem pc2 lv (.ref x :: st)) : WW D n ad cf p l e R s m args below meth c nL cells slots Q mem pc lv st := by
  subst hp
  exact fun H locs ls hP hS hl => lv_aload_n X.1.1 X.1.2.1 hdg hi (lv_at hl k hk) (kk H locs ls hP hS hl)
theorem w_aload {i : Nat} {x : Nat} (X : CX D tys n ad Z p s m args meth c cc nL own ret) (k : Nat) (hdg : decode cc pc = .ok (.aload i, 2)) (hk : lv[k]? = some (i, .ref x)) (pc2 : Nat) (hp : pc + 2 = pc2) (kk : WW D n ad cf p l e R s m args below meth c nL cells slots Q mem pc2 lv (.ref x :: st)) : WW D n ad cf p l e R s m args below meth c nL cells slots Q mem pc lv st := by
  subst hp
  exact fun H locs ls hP hS hl => lv_aload X.1.1 X.1.2.1 hdg (lv_at hl k hk) (kk H locs ls hP hS hl)
theorem w_astore_n {f : Fin 4} {i : Nat} {x : Nat} (X : CX D tys n ad Z p s m args meth c cc nL own ret) (lv2 : List (Nat × Value)) (hdg : decode cc pc = .ok (.astore_n f, 1)) (hi : (f : Nat) = i) (hn : i < nL) (hv : (i, Value.ref x) :: lv.filter (fun q => !(q.1 == i) && !(q.1 + 1 == i && q.2.category == 2)) = lv2) (pc2 : Nat) (hp : pc + 1 = pc2) (kk : WW D n ad cf p l e R s m args below meth c nL cells slots Q mem pc2 lv2 st) : WW D n ad cf p l e R s m args below meth c nL cells slots Q mem pc lv (.ref x :: st) := by
  subst hp
  exact fun H locs ls hP hS hl => lv_astore_n X.1.1 X.1.2.1 hdg hi hl hn hv (fun ls hl => kk H locs ls hP hS hl)
theorem w_astore {i : Nat} {x : Nat} (X : CX D tys n ad Z p s m args meth c cc nL own ret) (lv2 : List (Nat × Value)) (hdg : decode cc pc = .ok (.astore i, 2)) (hn : i < nL) (hv : (i, Value.ref x) :: lv.filter (fun q => !(q.1 == i) && !(q.1 + 1 == i && q.2.category == 2)) = lv2) (pc2 : Nat) (hp : pc + 2 = pc2) (kk : WW D n ad cf p l e R s m args below meth c nL cells slots Q mem pc2 lv2 st) : WW D n ad cf p l e R s m args below meth c nL cells slots Q mem pc lv (.ref x :: st) := by
  subst hp
  exact fun H locs ls hP hS hl => lv_astore X.1.1 X.1.2.1 hdg hl hn hv (fun ls hl => kk H locs ls hP hS hl)
theorem w_lload_n {f : Fin 4} {i : Nat} {x : Int64} (X : CX D tys n ad Z p s m args meth c cc nL own ret) (k : Nat) (hdg : decode cc pc = .ok (.lload_n f, 1)) (hi : (f : Nat) = i) (hk : lv[k]? = some (i, .long x)) (pc2 : Nat) (hp : pc + 1 = pc2) (kk : WW D n ad cf p l e R s m args below meth c nL cells slots Q mem pc2 lv (.long x :: st)) : WW D n ad cf p l e R s m args below meth c nL cells slots Q mem pc lv st := by
  subst hp
  exact fun H locs ls hP hS hl => lv_lload_n X.1.1 X.1.2.1 hdg hi (lv_at hl k hk) (kk H locs ls hP hS hl)
theorem w_lload {i : Nat} {x : Int64} (X : CX D tys n ad Z p s m args meth c cc nL own ret) (k : Nat) (hdg : decode cc pc = .ok (.lload i, 2)) (hk : lv[k]? = some (i, .long x)) (pc2 : Nat) (hp : pc + 2 = pc2) (kk : WW D n ad cf p l e R s m args below meth c nL cells slots Q mem pc2 lv (.long x :: st)) : WW D n ad cf p l e R s m args below meth c nL cells slots Q mem pc lv st := by
  subst hp
  exact fun H locs ls hP hS hl => lv_lload X.1.1 X.1.2.1 hdg (lv_at hl k hk) (kk H locs ls hP hS hl)
theorem w_lstore_n {f : Fin 4} {i : Nat} {x : Int64} (X : CX D tys n ad Z p s m args meth c cc nL own ret) (lv2 : List (Nat × Value)) (hdg : decode cc pc = .ok (.lstore_n f, 1)) (hi : (f : Nat) = i) (hn : i + 1 < nL) (hv : (i, Value.long x) :: lv.filter (fun q => !(q.1 == i) && (!(q.1 == i + 1) && !(q.1 + 1 == i && q.2.category == 2))) = lv2) (pc2 : Nat) (hp : pc + 1 = pc2) (kk : WW D n ad cf p l e R s m args below meth c nL cells slots Q mem pc2 lv2 st) : WW D n ad cf p l e R s m args below meth c nL cells slots Q mem pc lv (.long x :: st) := by
  subst hp
  exact fun H locs ls hP hS hl => lv_lstore_n X.1.1 X.1.2.1 hdg hi hl hn hv (fun ls hl => kk H locs ls hP hS hl)
theorem w_lstore {i : Nat} {x : Int64} (X : CX D tys n ad Z p s m args meth c cc nL own ret) (lv2 : List (Nat × Value)) (hdg : decode cc pc = .ok (.lstore i, 2)) (hn : i + 1 < nL) (hv : (i, Value.long x) :: lv.filter (fun q => !(q.1 == i) && (!(q.1 == i + 1) && !(q.1 + 1 == i && q.2.category == 2))) = lv2) (pc2 : Nat) (hp : pc + 2 = pc2) (kk : WW D n ad cf p l e R s m args below meth c nL cells slots Q mem pc2 lv2 st) : WW D n ad cf p l e R s m args below meth c nL cells slots Q mem pc lv (.long x :: st) := by
  subst hp
  exact fun H locs ls hP hS hl => lv_lstore X.1.1 X.1.2.1 hdg hl hn hv (fun ls hl => kk H locs ls hP hS hl)
theorem w_iinc {i : Nat} {d : Int} {x : Int32} (X : CX D tys n ad Z p s m args meth c cc nL own ret) (k : Nat) (v : Int32) (lv2 : List (Nat × Value)) (hdg : decode cc pc = .ok (.iinc i d, 3)) (hk : lv[k]? = some (i, .int x)) (hx : x + Int32.ofInt d = v) (hn : i < nL) (hv : (i, Value.int v) :: lv.filter (fun q => !(q.1 == i) && !(q.1 + 1 == i && q.2.category == 2)) = lv2) (pc2 : Nat) (hp : pc + 3 = pc2) (kk : WW D n ad cf p l e R s m args below meth c nL cells slots Q mem pc2 lv2 st) : WW D n ad cf p l e R s m args below meth c nL cells slots Q mem pc lv st := by
  subst hp
  exact fun H locs ls hP hS hl => lv_iinc X.1.1 X.1.2.1 hdg hl hk hx hn hv (fun ls hl => kk H locs ls hP hS hl)
theorem w_iadd {x y : Int32} (X : CX D tys n ad Z p s m args meth c cc nL own ret) (hdg : decode cc pc = .ok (.iadd, 1)) (pc2 : Nat) (hp : pc + 1 = pc2) (kk : WW D n ad cf p l e R s m args below meth c nL cells slots Q mem pc2 lv (.int (x + y) :: st)) : WW D n ad cf p l e R s m args below meth c nL cells slots Q mem pc lv (.int y :: .int x :: st) := by
  subst hp
  exact fun H locs ls hP hS hl => lv_iadd X.1.1 X.1.2.1 hdg (kk H locs ls hP hS hl)
theorem w_isub {x y : Int32} (X : CX D tys n ad Z p s m args meth c cc nL own ret) (hdg : decode cc pc = .ok (.isub, 1)) (pc2 : Nat) (hp : pc + 1 = pc2) (kk : WW D n ad cf p l e R s m args below meth c nL cells slots Q mem pc2 lv (.int (x - y) :: st)) : WW D n ad cf p l e R s m args below meth c nL cells slots Q mem pc lv (.int y :: .int x :: st) := by
  subst hp
  exact fun H locs ls hP hS hl => lv_isub X.1.1 X.1.2.1 hdg (kk H locs ls hP hS hl)
theorem w_imul {x y : Int32} (X : CX D tys n ad Z p s m args meth c cc nL own ret) (hdg : decode cc pc = .ok (.imul, 1)) (pc2 : Nat) (hp : pc + 1 = pc2) (kk : WW D n ad cf p l e R s m args below meth c nL cells slots Q mem pc2 lv (.int (x * y) :: st)) : WW D n ad cf p l e R s m args below meth c nL cells slots Q mem pc lv (.int y :: .int x :: st) := by
  subst hp
  exact fun H locs ls hP hS hl => lv_imul X.1.1 X.1.2.1 hdg (kk H locs ls hP hS hl)
theorem w_iand {x y : Int32} (X : CX D tys n ad Z p s m args meth c cc nL own ret) (hdg : decode cc pc = .ok (.iand, 1)) (pc2 : Nat) (hp : pc + 1 = pc2) (kk : WW D n ad cf p l e R s m args below meth c nL cells slots Q mem pc2 lv (.int (x &&& y) :: st)) : WW D n ad cf p l e R s m args below meth c nL cells slots Q mem pc lv (.int y :: .int x :: st) := by
  subst hp
  exact fun H locs ls hP hS hl => lv_iand X.1.1 X.1.2.1 hdg (kk H locs ls hP hS hl)
theorem w_ior {x y : Int32} (X : CX D tys n ad Z p s m args meth c cc nL own ret) (hdg : decode cc pc = .ok (.ior, 1)) (pc2 : Nat) (hp : pc + 1 = pc2) (kk : WW D n ad cf p l e R s m args below meth c nL cells slots Q mem pc2 lv (.int (x ||| y) :: st)) : WW D n ad cf p l e R s m args below meth c nL cells slots Q mem pc lv (.int y :: .int x :: st) := by
  subst hp
  exact fun H locs ls hP hS hl => lv_ior X.1.1 X.1.2.1 hdg (kk H locs ls hP hS hl)
theorem w_ixor {x y : Int32} (X : CX D tys n ad Z p s m args meth c cc nL own ret) (hdg : decode cc pc = .ok (.ixor, 1)) (pc2 : Nat) (hp : pc + 1 = pc2) (kk : WW D n ad cf p l e R s m args below meth c nL cells slots Q mem pc2 lv (.int (x ^^^ y) :: st)) : WW D n ad cf p l e R s m args below meth c nL cells slots Q mem pc lv (.int y :: .int x :: st) := by
  subst hp
  exact fun H locs ls hP hS hl => lv_ixor X.1.1 X.1.2.1 hdg (kk H locs ls hP hS hl)
theorem w_ishl {x y : Int32} (X : CX D tys n ad Z p s m args meth c cc nL own ret) (hdg : decode cc pc = .ok (.ishl, 1)) (pc2 : Nat) (hp : pc + 1 = pc2) (kk : WW D n ad cf p l e R s m args below meth c nL cells slots Q mem pc2 lv (.int (x <<< (y &&& 31)) :: st)) : WW D n ad cf p l e R s m args below meth c nL cells slots Q mem pc lv (.int y :: .int x :: st) := by
  subst hp
  exact fun H locs ls hP hS hl => lv_ishl X.1.1 X.1.2.1 hdg (kk H locs ls hP hS hl)
theorem w_ishr {x y : Int32} (X : CX D tys n ad Z p s m args meth c cc nL own ret) (hdg : decode cc pc = .ok (.ishr, 1)) (pc2 : Nat) (hp : pc + 1 = pc2) (kk : WW D n ad cf p l e R s m args below meth c nL cells slots Q mem pc2 lv (.int (x >>> (y &&& 31)) :: st)) : WW D n ad cf p l e R s m args below meth c nL cells slots Q mem pc lv (.int y :: .int x :: st) := by
  subst hp
  exact fun H locs ls hP hS hl => lv_ishr X.1.1 X.1.2.1 hdg (kk H locs ls hP hS hl)
theorem w_idiv {x y : Int32} (X : CX D tys n ad Z p s m args meth c cc nL own ret) (hy : ¬ y = 0) (hdg : decode cc pc = .ok (.idiv, 1)) (pc2 : Nat) (hp : pc + 1 = pc2) (kk : WW D n ad cf p l e R s m args below meth c nL cells slots Q mem pc2 lv (.int (x / y) :: st)) : WW D n ad cf p l e R s m args below meth c nL cells slots Q mem pc lv (.int y :: .int x :: st) := by
  subst hp
  exact fun H locs ls hP hS hl => lv_idiv X.1.1 X.1.2.1 hdg hy (kk H locs ls hP hS hl)
theorem w_irem {x y : Int32} (X : CX D tys n ad Z p s m args meth c cc nL own ret) (hy : ¬ y = 0) (hdg : decode cc pc = .ok (.irem, 1)) (pc2 : Nat) (hp : pc + 1 = pc2) (kk : WW D n ad cf p l e R s m args below meth c nL cells slots Q mem pc2 lv (.int (x - x / y * y) :: st)) : WW D n ad cf p l e R s m args below meth c nL cells slots Q mem pc lv (.int y :: .int x :: st) := by
  subst hp
  exact fun H locs ls hP hS hl => lv_irem X.1.1 X.1.2.1 hdg hy (kk H locs ls hP hS hl)
theorem w_ineg {x : Int32} (X : CX D tys n ad Z p s m args meth c cc nL own ret) (hdg : decode cc pc = .ok (.ineg, 1)) (pc2 : Nat) (hp : pc + 1 = pc2) (kk : WW D n ad cf p l e R s m args below meth c nL cells slots Q mem pc2 lv (.int (-x) :: st)) : WW D n ad cf p l e R s m args below meth c nL cells slots Q mem pc lv (.int x :: st) := by
  subst hp
  exact fun H locs ls hP hS hl => lv_ineg X.1.1 X.1.2.1 hdg (kk H locs ls hP hS hl)
theorem w_lor {x y : Int64} (X : CX D tys n ad Z p s m args meth c cc nL own ret) (hdg : decode cc pc = .ok (.lor, 1)) (pc2 : Nat) (hp : pc + 1 = pc2) (kk : WW D n ad cf p l e R s m args below meth c nL cells slots Q mem pc2 lv (.long (x ||| y) :: st)) : WW D n ad cf p l e R s m args below meth c nL cells slots Q mem pc lv (.long y :: .long x :: st) := by
  subst hp
  exact fun H locs ls hP hS hl => lv_lor X.1.1 X.1.2.1 hdg (kk H locs ls hP hS hl)
theorem w_lshl {x : Int64} {y : Int32} (X : CX D tys n ad Z p s m args meth c cc nL own ret) (hdg : decode cc pc = .ok (.lshl, 1)) (pc2 : Nat) (hp : pc + 1 = pc2) (kk : WW D n ad cf p l e R s m args below meth c nL cells slots Q mem pc2 lv (.long (x <<< (y.toInt64 &&& 63)) :: st)) : WW D n ad cf p l e R s m args below meth c nL cells slots Q mem pc lv (.int y :: .long x :: st) := by
  subst hp
  exact fun H locs ls hP hS hl => lv_lshl X.1.1 X.1.2.1 hdg rfl (kk H locs ls hP hS hl)
theorem w_ladd {x y : Int64} (X : CX D tys n ad Z p s m args meth c cc nL own ret) (hdg : decode cc pc = .ok (.ladd, 1)) (pc2 : Nat) (hp : pc + 1 = pc2) (kk : WW D n ad cf p l e R s m args below meth c nL cells slots Q mem pc2 lv (.long (x + y) :: st)) : WW D n ad cf p l e R s m args below meth c nL cells slots Q mem pc lv (.long y :: .long x :: st) := by
  subst hp
  exact fun H locs ls hP hS hl => lv_ladd X.1.1 X.1.2.1 hdg (kk H locs ls hP hS hl)
theorem w_i2l {x : Int32} (X : CX D tys n ad Z p s m args meth c cc nL own ret) (hdg : decode cc pc = .ok (.i2l, 1)) (pc2 : Nat) (hp : pc + 1 = pc2) (kk : WW D n ad cf p l e R s m args below meth c nL cells slots Q mem pc2 lv (.long x.toInt64 :: st)) : WW D n ad cf p l e R s m args below meth c nL cells slots Q mem pc lv (.int x :: st) := by
  subst hp
  exact fun H locs ls hP hS hl => lv_i2l X.1.1 X.1.2.1 hdg rfl (kk H locs ls hP hS hl)
theorem w_i2b {x : Int32} (X : CX D tys n ad Z p s m args meth c cc nL own ret) (hdg : decode cc pc = .ok (.i2b, 1)) (pc2 : Nat) (hp : pc + 1 = pc2) (kk : WW D n ad cf p l e R s m args below meth c nL cells slots Q mem pc2 lv (.int x.toInt8.toInt32 :: st)) : WW D n ad cf p l e R s m args below meth c nL cells slots Q mem pc lv (.int x :: st) := by
  subst hp
  exact fun H locs ls hP hS hl => lv_i2b X.1.1 X.1.2.1 hdg rfl (kk H locs ls hP hS hl)
theorem w_lcmp {x y : Int64} (X : CX D tys n ad Z p s m args meth c cc nL own ret) (hdg : decode cc pc = .ok (.lcmp, 1)) (pc2 : Nat) (hp : pc + 1 = pc2) (kk : WW D n ad cf p l e R s m args below meth c nL cells slots Q mem pc2 lv (.int (lg_cmp x y) :: st)) : WW D n ad cf p l e R s m args below meth c nL cells slots Q mem pc lv (.long y :: .long x :: st) := by
  subst hp
  exact fun H locs ls hP hS hl => W.lcmp X.1.1 X.1.2.1 hdg (kk H locs ls hP hS hl)
theorem w_dup {v : Value} (X : CX D tys n ad Z p s m args meth c cc nL own ret) (hdg : decode cc pc = .ok (.dup, 1)) (hv : v.category = 1) (pc2 : Nat) (hp : pc + 1 = pc2) (kk : WW D n ad cf p l e R s m args below meth c nL cells slots Q mem pc2 lv (v :: v :: st)) : WW D n ad cf p l e R s m args below meth c nL cells slots Q mem pc lv (v :: st) := by
  subst hp
  exact fun H locs ls hP hS hl => lv_dup X.1.1 X.1.2.1 hdg hv (kk H locs ls hP hS hl)
theorem w_pop {v : Value} (X : CX D tys n ad Z p s m args meth c cc nL own ret) (hdg : decode cc pc = .ok (.pop, 1)) (hv : v.category = 1) (pc2 : Nat) (hp : pc + 1 = pc2) (kk : WW D n ad cf p l e R s m args below meth c nL cells slots Q mem pc2 lv st) : WW D n ad cf p l e R s m args below meth c nL cells slots Q mem pc lv (v :: st) := by
  subst hp
  exact fun H locs ls hP hS hl => lv_pop X.1.1 X.1.2.1 hdg hv (kk H locs ls hP hS hl)
theorem w_dup2 {u v : Value} (X : CX D tys n ad Z p s m args meth c cc nL own ret) (hdg : decode cc pc = .ok (.dup2, 1)) (hu : u.category = 1) (hv : v.category = 1) (pc2 : Nat) (hp : pc + 1 = pc2) (kk : WW D n ad cf p l e R s m args below meth c nL cells slots Q mem pc2 lv (u :: v :: u :: v :: st)) : WW D n ad cf p l e R s m args below meth c nL cells slots Q mem pc lv (u :: v :: st) := by
  subst hp
  exact fun H locs ls hP hS hl => lv_dup2_11 X.1.1 X.1.2.1 hdg hu hv (kk H locs ls hP hS hl)
theorem w_goto {off : Int} (X : CX D tys n ad Z p s m args meth c cc nL own ret) (tgt : Nat) (hdg : decode cc pc = .ok (.goto off, 3)) (ht : (pc : Int) + off = (tgt : Int)) (kk : WW D n ad cf p l e R s m args below meth c nL cells slots Q mem tgt lv st) : WW D n ad cf p l e R s m args below meth c nL cells slots Q mem pc lv st :=
  fun H locs ls hP hS hl => lv_goto X.1.1 X.1.2.1 hdg ht (kk H locs ls hP hS hl)
theorem w_let {ρ : Type} {x : Int32} {F : Int32 → Option ρ} {res : ρ} (hF : lt_ x F = some res) (kk : ∀ x : Int32, F x = some res → WW D n ad cf p l e R s m args below meth c nL cells slots Q mem pc lv (.int x :: st)) : WW D n ad cf p l e R s m args below meth c nL cells slots Q mem pc lv (.int x :: st) := kk x hF
theorem w_letl {ρ : Type} {x : Int64} {F : Int64 → Option ρ} {res : ρ} (hF : lt_ x F = some res) (kk : ∀ x : Int64, F x = some res → WW D n ad cf p l e R s m args below meth c nL cells slots Q mem pc lv (.long x :: st)) : WW D n ad cf p l e R s m args below meth c nL cells slots Q mem pc lv (.long x :: st) := kk x hF
theorem w_letm {ρ : Type} {F : Mem → Option ρ} {res : ρ} (hF : lt_ mem F = some res) (kk : ∀ mem : Mem, F mem = some res → WW D n ad cf p l e R s m args below meth c nL cells slots Q mem pc lv st) : WW D n ad cf p l e R s m args below meth c nL cells slots Q mem pc lv st := kk mem hF
theorem w_keep {lv2 : List (Nat × Value)} (ks : List Nat) (h : lv_pick lv ks = lv2) (kk : WW D n ad cf p l e R s m args below meth c nL cells slots Q mem pc lv2 st) : WW D n ad cf p l e R s m args below meth c nL cells slots Q mem pc lv st := fun H locs ls hP hS hl => kk H locs ls hP hS (lv_sub hl ks h)
theorem w_gi {ρ : Type} {o : Option ρ} {res : ρ} {i : Int32} {N : Nat} (hF : gi i N o = some res) (kk : vp_in i N → o = some res → WW D n ad cf p l e R s m args below meth c nL cells slots Q mem pc lv st) : WW D n ad cf p l e R s m args below meth c nL cells slots Q mem pc lv st := kk (gi_some hF).1 (gi_some hF).2
theorem w_gz {ρ : Type} {o : Option ρ} {res : ρ} {y : Int32} (hF : gz y o = some res) (kk : ¬ y = 0 → o = some res → WW D n ad cf p l e R s m args below meth c nL cells slots Q mem pc lv st) : WW D n ad cf p l e R s m args below meth c nL cells slots Q mem pc lv st := kk (gz_some hF).1 (gz_some hF).2
theorem w_gb {ρ : Type} {o : Option ρ} {res : ρ} {x : Int32} (hF : gb x o = some res) (kk : (x = 0 ∨ x = 1) → o = some res → WW D n ad cf p l e R s m args below meth c nL cells slots Q mem pc lv st) : WW D n ad cf p l e R s m args below meth c nL cells slots Q mem pc lv st := kk (gb_some hF).1 (gb_some hF).2
theorem w_icmp_eq {ρ : Type} {A B : Option ρ} {res : ρ} {x y : Int32} {off : Int} (X : CX D tys n ad Z p s m args meth c cc nL own ret) (hF : (if x = y then A else B) = some res) (tgt pc2 : Nat) (hdg : decode cc pc = .ok (.if_icmp .eq off, 3)) (ht : (pc : Int) + off = (tgt : Int)) (hp : pc + 3 = pc2) (kt : A = some res → WW D n ad cf p l e R s m args below meth c nL cells slots Q mem tgt lv st) (kf : B = some res → WW D n ad cf p l e R s m args below meth c nL cells slots Q mem pc2 lv st) : WW D n ad cf p l e R s m args below meth c nL cells slots Q mem pc lv (.int y :: .int x :: st) := by
  subst hp
  intro H locs ls hP hS hl
  by_cases hc : x = y
  · rw [if_pos hc] at hF
    exact lv_icmp_eq X.1.1 X.1.2.1 hdg ht (fun _ => kt hF H locs ls hP hS hl) (fun q => absurd hc q)
  · rw [if_neg hc] at hF
    exact lv_icmp_eq X.1.1 X.1.2.1 hdg ht (fun q => absurd q hc) (fun _ => kf hF H locs ls hP hS hl)
theorem w_icmp_ne {ρ : Type} {A B : Option ρ} {res : ρ} {x y : Int32} {off : Int} (X : CX D tys n ad Z p s m args meth c cc nL own ret) (hF : (if x = y then A else B) = some res) (tgt pc2 : Nat) (hdg : decode cc pc = .ok (.if_icmp .ne off, 3)) (ht : (pc : Int) + off = (tgt : Int)) (hp : pc + 3 = pc2) (kt : A = some res → WW D n ad cf p l e R s m args below meth c nL cells slots Q mem pc2 lv st) (kf : B = some res → WW D n ad cf p l e R s m args below meth c nL cells slots Q mem tgt lv st) : WW D n ad cf p l e R s m args below meth c nL cells slots Q mem pc lv (.int y :: .int x :: st) := by
  subst hp
  intro H locs ls hP hS hl
  by_cases hc : x = y
  · rw [if_pos hc] at hF
    exact lv_icmp_ne X.1.1 X.1.2.1 hdg ht (fun q => absurd hc q) (fun _ => kt hF H locs ls hP hS hl)
  · rw [if_neg hc] at hF
    exact lv_icmp_ne X.1.1 X.1.2.1 hdg ht (fun _ => kf hF H locs ls hP hS hl) (fun q => absurd q hc)
theorem w_icmp_lt {ρ : Type} {A B : Option ρ} {res : ρ} {x y : Int32} {off : Int} (X : CX D tys n ad Z p s m args meth c cc nL own ret) (hF : (if x < y then A else B) = some res) (tgt pc2 : Nat) (hdg : decode cc pc = .ok (.if_icmp .lt off, 3)) (ht : (pc : Int) + off = (tgt : Int)) (hp : pc + 3 = pc2) (kt : A = some res → WW D n ad cf p l e R s m args below meth c nL cells slots Q mem tgt lv st) (kf : B = some res → WW D n ad cf p l e R s m args below meth c nL cells slots Q mem pc2 lv st) : WW D n ad cf p l e R s m args below meth c nL cells slots Q mem pc lv (.int y :: .int x :: st) := by
  subst hp
  intro H locs ls hP hS hl
  by_cases hc : x < y
  · rw [if_pos hc] at hF
    exact lv_icmp_lt X.1.1 X.1.2.1 hdg ht (fun _ => kt hF H locs ls hP hS hl) (fun q => absurd hc q)
  · rw [if_neg hc] at hF
    exact lv_icmp_lt X.1.1 X.1.2.1 hdg ht (fun q => absurd q hc) (fun _ => kf hF H locs ls hP hS hl)
theorem w_icmp_ge {ρ : Type} {A B : Option ρ} {res : ρ} {x y : Int32} {off : Int} (X : CX D tys n ad Z p s m args meth c cc nL own ret) (hF : (if x < y then A else B) = some res) (tgt pc2 : Nat) (hdg : decode cc pc = .ok (.if_icmp .ge off, 3)) (ht : (pc : Int) + off = (tgt : Int)) (hp : pc + 3 = pc2) (kt : A = some res → WW D n ad cf p l e R s m args below meth c nL cells slots Q mem pc2 lv st) (kf : B = some res → WW D n ad cf p l e R s m args below meth c nL cells slots Q mem tgt lv st) : WW D n ad cf p l e R s m args below meth c nL cells slots Q mem pc lv (.int y :: .int x :: st) := by
  subst hp
  intro H locs ls hP hS hl
  by_cases hc : x < y
  · rw [if_pos hc] at hF
    exact lv_icmp_ge X.1.1 X.1.2.1 hdg ht (fun q => absurd hc (Int32.not_lt.mpr q)) (fun _ => kt hF H locs ls hP hS hl)
  · rw [if_neg hc] at hF
    exact lv_icmp_ge X.1.1 X.1.2.1 hdg ht (fun _ => kf hF H locs ls hP hS hl) (fun q => absurd (Int32.not_lt.mp hc) q)
theorem w_icmp_gt {ρ : Type} {A B : Option ρ} {res : ρ} {x y : Int32} {off : Int} (X : CX D tys n ad Z p s m args meth c cc nL own ret) (hF : (if y < x then A else B) = some res) (tgt pc2 : Nat) (hdg : decode cc pc = .ok (.if_icmp .gt off, 3)) (ht : (pc : Int) + off = (tgt : Int)) (hp : pc + 3 = pc2) (kt : A = some res → WW D n ad cf p l e R s m args below meth c nL cells slots Q mem tgt lv st) (kf : B = some res → WW D n ad cf p l e R s m args below meth c nL cells slots Q mem pc2 lv st) : WW D n ad cf p l e R s m args below meth c nL cells slots Q mem pc lv (.int y :: .int x :: st) := by
  subst hp
  intro H locs ls hP hS hl
  by_cases hc : y < x
  · rw [if_pos hc] at hF
    exact lv_icmp_gt X.1.1 X.1.2.1 hdg ht (fun _ => kt hF H locs ls hP hS hl) (fun q => absurd hc q)
  · rw [if_neg hc] at hF
    exact lv_icmp_gt X.1.1 X.1.2.1 hdg ht (fun q => absurd q hc) (fun _ => kf hF H locs ls hP hS hl)
theorem w_icmp_le {ρ : Type} {A B : Option ρ} {res : ρ} {x y : Int32} {off : Int} (X : CX D tys n ad Z p s m args meth c cc nL own ret) (hF : (if y < x then A else B) = some res) (tgt pc2 : Nat) (hdg : decode cc pc = .ok (.if_icmp .le off, 3)) (ht : (pc : Int) + off = (tgt : Int)) (hp : pc + 3 = pc2) (kt : A = some res → WW D n ad cf p l e R s m args below meth c nL cells slots Q mem pc2 lv st) (kf : B = some res → WW D n ad cf p l e R s m args below meth c nL cells slots Q mem tgt lv st) : WW D n ad cf p l e R s m args below meth c nL cells slots Q mem pc lv (.int y :: .int x :: st) := by
  subst hp
  intro H locs ls hP hS hl
  by_cases hc : y < x
  · rw [if_pos hc] at hF
    exact lv_icmp_le X.1.1 X.1.2.1 hdg ht (fun q => absurd hc (Int32.not_lt.mpr q)) (fun _ => kt hF H locs ls hP hS hl)
  · rw [if_neg hc] at hF
    exact lv_icmp_le X.1.1 X.1.2.1 hdg ht (fun _ => kf hF H locs ls hP hS hl) (fun q => absurd (Int32.not_lt.mp hc) q)
theorem w_if_eq {ρ : Type} {A B : Option ρ} {res : ρ} {x : Int32} {off : Int} (X : CX D tys n ad Z p s m args meth c cc nL own ret) (hF : (if x = 0 then A else B) = some res) (tgt pc2 : Nat) (hdg : decode cc pc = .ok (.ifCond .eq off, 3)) (ht : (pc : Int) + off = (tgt : Int)) (hp : pc + 3 = pc2) (kt : A = some res → WW D n ad cf p l e R s m args below meth c nL cells slots Q mem tgt lv st) (kf : B = some res → WW D n ad cf p l e R s m args below meth c nL cells slots Q mem pc2 lv st) : WW D n ad cf p l e R s m args below meth c nL cells slots Q mem pc lv (.int x :: st) := by
  subst hp
  intro H locs ls hP hS hl
  by_cases hc : x = 0
  · rw [if_pos hc] at hF
    exact lv_if_eq X.1.1 X.1.2.1 hdg ht (fun _ => kt hF H locs ls hP hS hl) (fun q => absurd hc q)
  · rw [if_neg hc] at hF
    exact lv_if_eq X.1.1 X.1.2.1 hdg ht (fun q => absurd q hc) (fun _ => kf hF H locs ls hP hS hl)
theorem w_if_ne {ρ : Type} {A B : Option ρ} {res : ρ} {x : Int32} {off : Int} (X : CX D tys n ad Z p s m args meth c cc nL own ret) (hF : (if x = 0 then A else B) = some res) (tgt pc2 : Nat) (hdg : decode cc pc = .ok (.ifCond .ne off, 3)) (ht : (pc : Int) + off = (tgt : Int)) (hp : pc + 3 = pc2) (kt : A = some res → WW D n ad cf p l e R s m args below meth c nL cells slots Q mem pc2 lv st) (kf : B = some res → WW D n ad cf p l e R s m args below meth c nL cells slots Q mem tgt lv st) : WW D n ad cf p l e R s m args below meth c nL cells slots Q mem pc lv (.int x :: st) := by
  subst hp
  intro H locs ls hP hS hl
  by_cases hc : x = 0
  · rw [if_pos hc] at hF
    exact lv_if_ne X.1.1 X.1.2.1 hdg ht (fun q => absurd hc q) (fun _ => kt hF H locs ls hP hS hl)
  · rw [if_neg hc] at hF
    exact lv_if_ne X.1.1 X.1.2.1 hdg ht (fun _ => kf hF H locs ls hP hS hl) (fun q => absurd q hc)
theorem w_if_lt {ρ : Type} {A B : Option ρ} {res : ρ} {x : Int32} {off : Int} (X : CX D tys n ad Z p s m args meth c cc nL own ret) (hF : (if x < 0 then A else B) = some res) (tgt pc2 : Nat) (hdg : decode cc pc = .ok (.ifCond .lt off, 3)) (ht : (pc : Int) + off = (tgt : Int)) (hp : pc + 3 = pc2) (kt : A = some res → WW D n ad cf p l e R s m args below meth c nL cells slots Q mem tgt lv st) (kf : B = some res → WW D n ad cf p l e R s m args below meth c nL cells slots Q mem pc2 lv st) : WW D n ad cf p l e R s m args below meth c nL cells slots Q mem pc lv (.int x :: st) := by
  subst hp
  intro H locs ls hP hS hl
  by_cases hc : x < 0
  · rw [if_pos hc] at hF
    exact lv_if_lt X.1.1 X.1.2.1 hdg ht (fun _ => kt hF H locs ls hP hS hl) (fun q => absurd hc q)
  · rw [if_neg hc] at hF
    exact lv_if_lt X.1.1 X.1.2.1 hdg ht (fun q => absurd q hc) (fun _ => kf hF H locs ls hP hS hl)
theorem w_if_ge {ρ : Type} {A B : Option ρ} {res : ρ} {x : Int32} {off : Int} (X : CX D tys n ad Z p s m args meth c cc nL own ret) (hF : (if x < 0 then A else B) = some res) (tgt pc2 : Nat) (hdg : decode cc pc = .ok (.ifCond .ge off, 3)) (ht : (pc : Int) + off = (tgt : Int)) (hp : pc + 3 = pc2) (kt : A = some res → WW D n ad cf p l e R s m args below meth c nL cells slots Q mem pc2 lv st) (kf : B = some res → WW D n ad cf p l e R s m args below meth c nL cells slots Q mem tgt lv st) : WW D n ad cf p l e R s m args below meth c nL cells slots Q mem pc lv (.int x :: st) := by
  subst hp
  intro H locs ls hP hS hl
  by_cases hc : x < 0
  · rw [if_pos hc] at hF
    exact lv_if_ge X.1.1 X.1.2.1 hdg ht (fun q => absurd hc (Int32.not_lt.mpr q)) (fun _ => kt hF H locs ls hP hS hl)
  · rw [if_neg hc] at hF
    exact lv_if_ge X.1.1 X.1.2.1 hdg ht (fun _ => kf hF H locs ls hP hS hl) (fun q => absurd (Int32.not_lt.mp hc) q)
theorem w_if_gt {ρ : Type} {A B : Option ρ} {res : ρ} {x : Int32} {off : Int} (X : CX D tys n ad Z p s m args meth c cc nL own ret) (hF : (if 0 < x then A else B) = some res) (tgt pc2 : Nat) (hdg : decode cc pc = .ok (.ifCond .gt off, 3)) (ht : (pc : Int) + off = (tgt : Int)) (hp : pc + 3 = pc2) (kt : A = some res → WW D n ad cf p l e R s m args below meth c nL cells slots Q mem tgt lv st) (kf : B = some res → WW D n ad cf p l e R s m args below meth c nL cells slots Q mem pc2 lv st) : WW D n ad cf p l e R s m args below meth c nL cells slots Q mem pc lv (.int x :: st) := by
  subst hp
  intro H locs ls hP hS hl
  by_cases hc : 0 < x
  · rw [if_pos hc] at hF
    exact lv_if_gt X.1.1 X.1.2.1 hdg ht (fun _ => kt hF H locs ls hP hS hl) (fun q => absurd hc q)
  · rw [if_neg hc] at hF
    exact lv_if_gt X.1.1 X.1.2.1 hdg ht (fun q => absurd q hc) (fun _ => kf hF H locs ls hP hS hl)
theorem w_if_le {ρ : Type} {A B : Option ρ} {res : ρ} {x : Int32} {off : Int} (X : CX D tys n ad Z p s m args meth c cc nL own ret) (hF : (if 0 < x then A else B) = some res) (tgt pc2 : Nat) (hdg : decode cc pc = .ok (.ifCond .le off, 3)) (ht : (pc : Int) + off = (tgt : Int)) (hp : pc + 3 = pc2) (kt : A = some res → WW D n ad cf p l e R s m args below meth c nL cells slots Q mem pc2 lv st) (kf : B = some res → WW D n ad cf p l e R s m args below meth c nL cells slots Q mem tgt lv st) : WW D n ad cf p l e R s m args below meth c nL cells slots Q mem pc lv (.int x :: st) := by
  subst hp
  intro H locs ls hP hS hl
  by_cases hc : 0 < x
  · rw [if_pos hc] at hF
    exact lv_if_le X.1.1 X.1.2.1 hdg ht (fun q => absurd hc (Int32.not_lt.mpr q)) (fun _ => kt hF H locs ls hP hS hl)
  · rw [if_neg hc] at hF
    exact lv_if_le X.1.1 X.1.2.1 hdg ht (fun _ => kf hF H locs ls hP hS hl) (fun q => absurd (Int32.not_lt.mp hc) q)
theorem w_case {ρ : Type} {A B : Option ρ} {res : ρ} {x v : Int32} (hF : (if x = v then A else B) = some res) (kt : x = v → A = some res → WW D n ad cf p l e R s m args below meth c nL cells slots Q mem pc lv st) (kf : ¬ x = v → B = some res → WW D n ad cf p l e R s m args below meth c nL cells slots Q mem pc lv st) : WW D n ad cf p l e R s m args below meth c nL cells slots Q mem pc lv st := by
  by_cases hc : x = v
  · rw [if_pos hc] at hF
    exact kt hc hF
  · rw [if_neg hc] at hF
    exact kf hc hF
theorem w_tin {x v : Int32} {dflt lo hi : Int} {offs : Array Int} {len : Nat} {off : Int} (X : CX D tys n ad Z p s m args meth c cc nL own ret) (tgt : Nat) (hdg : decode cc pc = .ok (.tableswitch dflt lo hi offs, len)) (hx : x = v) (h1 : ¬ v.toInt < lo) (h2 : ¬ hi < v.toInt) (ho : offs[(v.toInt - lo).toNat]? = some off) (ht : (pc : Int) + off = (tgt : Int)) (kk : WW D n ad cf p l e R s m args below meth c nL cells slots Q mem tgt lv st) : WW D n ad cf p l e R s m args below meth c nL cells slots Q mem pc lv (.int x :: st) := by
  subst hx
  exact fun H locs ls hP hS hl => lv_tableIn X.1.1 X.1.2.1 hdg h1 h2 ho ht (kk H locs ls hP hS hl)
theorem w_tout {x : Int32} {dflt lo hi : Int} {offs : Array Int} {len : Nat} (X : CX D tys n ad Z p s m args meth c cc nL own ret) (tgt : Nat) (hdg : decode cc pc = .ok (.tableswitch dflt lo hi offs, len)) (h : x.toInt < lo ∨ hi < x.toInt) (ht : (pc : Int) + dflt = (tgt : Int)) (kk : WW D n ad cf p l e R s m args below meth c nL cells slots Q mem tgt lv st) : WW D n ad cf p l e R s m args below meth c nL cells slots Q mem pc lv (.int x :: st) :=
  fun H locs ls hP hS hl => lv_tableOut X.1.1 X.1.2.1 hdg h ht (kk H locs ls hP hS hl)
theorem w_get {v : Value} (X : CX D tys n ad Z p s m args meth c cc nL own ret) (k : Nat) (hk : k < n) {ci : Nat} {fs : List Value} (he : cf k (mem k) = .inr (ci, fs)) {C ref : String} {T : u_T} {N index : Nat} (hc : vwCl[ci]? = some (C, T, N)) (hin : ∀ w ∈ u_ws C T N, w ∈ GW) (j : Nat) (hj : j < N) (hlk : Cond.fieldLink own index ref (T j).2.1 (T j).2.2.1 ∈ GW) (hr : (T j).1 = ref) (hv : fs[j]? = some v) (hdg : decode cc pc = .ok (.getfield index, 3)) (pc2 : Nat) (hp : pc + 3 = pc2) (kk : WW D n ad cf p l e R s m args below meth c nL cells slots Q mem pc2 lv (v :: st)) : WW D n ad cf p l e R s m args below meth c nL cells slots Q mem pc lv (.ref (ad k) :: st) := by
  subst hp
  exact fun H locs ls hP hS hl => va_get X.1.1 X.1.2.1 X.1.2.2.2.2 hin X.1.2.2.2.1 X.2.2.2.1 hP k (by rw [wf_at hk, he]) hc j hj (X.1.2.2.2.2 _ hlk) (fun _ h => by rw [hr] at h; exact h) hv hdg (kk H locs ls hP hS hl)
theorem w_put {v : Value} (X : CX D tys n ad Z p s m args meth c cc nL own ret) (k : Nat) (hk : k < n) {ci : Nat} {fs : List Value} (he : cf k (mem k) = .inr (ci, fs)) {C ref : String} {T : u_T} {N index : Nat} (hc : vwCl[ci]? = some (C, T, N)) (hin : ∀ w ∈ u_ws C T N, w ∈ GW) (j : Nat) (hj : j < N) (hlk : Cond.fieldLink own index ref (T j).2.1 (T j).2.2.1 ∈ GW) (hr : (T j).1 = ref) (ty0 : Nat → FieldType) (hty : ∀ k, k < N → parseFieldDescriptor (T k).2.2.1 = some (ty0 k)) (hnm : ∀ a, a < N → ∀ b, b < N → a ≠ b → (T a).2.1 ≠ (T b).2.1) (hfin : (T j).2.2.2 = false) (hn : narrow (ty0 j) v = v) (hfit : fits (ty0 j) v = true) (hl0 : j < fs.length) (r : Row) (hrow : cf k r = .inr (ci, fs.set j v)) (hdg : decode cc pc = .ok (.putfield index, 3)) (pc2 : Nat) (hp : pc + 3 = pc2) (kk : WW D n ad cf p l e R s m args below meth c nL cells slots Q (mr mem k r) pc2 lv st) : WW D n ad cf p l e R s m args below meth c nL cells slots Q mem pc lv (v :: .ref (ad k) :: st) := by
  subst hp
  intro H locs ls hP hS hl
  refine va_put X.1.1 X.1.2.1 X.1.2.2.2.2 hin ty0 hty hnm X.1.2.2.2.1 X.2.2.2.1 hP (wf_D X.2.2.2.2.1) hS k (by rw [wf_at hk, he]) hc j hj (X.1.2.2.2.2 _ hlk) (fun _ h => by rw [hr] at h; exact h) hfin (hty j hj) hn hfit hl0 hdg (fun H1 locs1 hP1 hD1 hS1 => kk H1 locs1 ls ?_ hS1 hl)
  rw [wf_set hrow] at hP1
  exact hP1
theorem w_iald (X : CX D tys n ad Z p s m args meth c cc nL own ret) (k : Nat) (hk : k < n) {cA : ClassId} {N t0 : Nat} {f : Nat → Int32} {i : Int32} (he : cf k (mem k) = .inl (cA, N, .inl f)) (ht : tys[t0]? = some (cA, .int)) (hi : vp_in i N) (hdg : decode cc pc = .ok (.iaload, 1)) (pc2 : Nat) (hp : pc + 1 = pc2) (kk : WW D n ad cf p l e R s m args below meth c nL cells slots Q mem pc2 lv (.int (f i.toNatClampNeg) :: st)) : WW D n ad cf p l e R s m args below meth c nL cells slots Q mem pc lv (.int i :: .ref (ad k) :: st) := by
  subst hp
  exact fun H locs ls hP hS hl => va_iald X.1.1 X.1.2.1 X.2.2.2.1 hP k t0 (by rw [wf_at hk, he]) ht hi hdg (kk H locs ls hP hS hl)
theorem w_bald (X : CX D tys n ad Z p s m args meth c cc nL own ret) (k : Nat) (hk : k < n) {cA : ClassId} {N t0 : Nat} {f : Nat → Int32} {i : Int32} (he : cf k (mem k) = .inl (cA, N, .inl f)) (ht : tys[t0]? = some (cA, .byte)) (hi : vp_in i N) (hdg : decode cc pc = .ok (.baload, 1)) (pc2 : Nat) (hp : pc + 1 = pc2) (kk : WW D n ad cf p l e R s m args below meth c nL cells slots Q mem pc2 lv (.int (f i.toNatClampNeg) :: st)) : WW D n ad cf p l e R s m args below meth c nL cells slots Q mem pc lv (.int i :: .ref (ad k) :: st) := by
  subst hp
  exact fun H locs ls hP hS hl => va_bald X.1.1 X.1.2.1 X.2.2.2.1 hP k t0 (by rw [wf_at hk, he]) ht hi hdg (kk H locs ls hP hS hl)
theorem w_zald (X : CX D tys n ad Z p s m args meth c cc nL own ret) (k : Nat) (hk : k < n) {cA : ClassId} {N t0 : Nat} {f : Nat → Int32} {i : Int32} (he : cf k (mem k) = .inl (cA, N, .inl f)) (ht : tys[t0]? = some (cA, .boolean)) (hi : vp_in i N) (hdg : decode cc pc = .ok (.baload, 1)) (pc2 : Nat) (hp : pc + 1 = pc2) (kk : WW D n ad cf p l e R s m args below meth c nL cells slots Q mem pc2 lv (.int (f i.toNatClampNeg) :: st)) : WW D n ad cf p l e R s m args below meth c nL cells slots Q mem pc lv (.int i :: .ref (ad k) :: st) := by
  subst hp
  exact fun H locs ls hP hS hl => va_zald X.1.1 X.1.2.1 X.2.2.2.1 hP k t0 (by rw [wf_at hk, he]) ht hi hdg (kk H locs ls hP hS hl)
theorem w_lald (X : CX D tys n ad Z p s m args meth c cc nL own ret) (k : Nat) (hk : k < n) {cA : ClassId} {N t0 : Nat} {f : Nat → Int64} {i : Int32} (he : cf k (mem k) = .inl (cA, N, .inr (.inl f))) (ht : tys[t0]? = some (cA, .long)) (hi : vp_in i N) (hdg : decode cc pc = .ok (.laload, 1)) (pc2 : Nat) (hp : pc + 1 = pc2) (kk : WW D n ad cf p l e R s m args below meth c nL cells slots Q mem pc2 lv (.long (f i.toNatClampNeg) :: st)) : WW D n ad cf p l e R s m args below meth c nL cells slots Q mem pc lv (.int i :: .ref (ad k) :: st) := by
  subst hp
  exact fun H locs ls hP hS hl => va_lald X.1.1 X.1.2.1 X.2.2.2.1 hP k t0 (by rw [wf_at hk, he]) ht hi hdg (kk H locs ls hP hS hl)
theorem w_iast (X : CX D tys n ad Z p s m args meth c cc nL own ret) (k : Nat) (hk : k < n) {cA : ClassId} {N t0 : Nat} {f : Nat → Int32} {i : Int32} {x : Int32} (he : cf k (mem k) = .inl (cA, N, .inl f)) (ht : tys[t0]? = some (cA, .int)) (hi : vp_in i N) (r : Row) (hrow : cf k r = .inl (cA, N, .inl (upd f i.toNatClampNeg x))) (hdg : decode cc pc = .ok (.iastore, 1)) (pc2 : Nat) (hp : pc + 1 = pc2) (kk : WW D n ad cf p l e R s m args below meth c nL cells slots Q (mr mem k r) pc2 lv st) : WW D n ad cf p l e R s m args below meth c nL cells slots Q mem pc lv (.int x :: .int i :: .ref (ad k) :: st) := by
  subst hp
  intro H locs ls hP hS hl
  refine va_iast X.1.1 X.1.2.1 X.2.2.2.1 hP (wf_D X.2.2.2.2.1) hS k t0 (by rw [wf_at hk, he]) ht hi hdg (fun H1 locs1 hP1 hD1 hS1 => kk H1 locs1 ls ?_ hS1 hl)
  rw [wf_set hrow] at hP1
  exact hP1
theorem w_bast (X : CX D tys n ad Z p s m args meth c cc nL own ret) (k : Nat) (hk : k < n) {cA : ClassId} {N t0 : Nat} {f : Nat → Int32} {i : Int32} {x : Int32} (he : cf k (mem k) = .inl (cA, N, .inl f)) (ht : tys[t0]? = some (cA, .byte)) (hi : vp_in i N) (r : Row) (hrow : cf k r = .inl (cA, N, .inl (upd f i.toNatClampNeg (vp_nar .byte x)))) (hdg : decode cc pc = .ok (.bastore, 1)) (pc2 : Nat) (hp : pc + 1 = pc2) (kk : WW D n ad cf p l e R s m args below meth c nL cells slots Q (mr mem k r) pc2 lv st) : WW D n ad cf p l e R s m args below meth c nL cells slots Q mem pc lv (.int x :: .int i :: .ref (ad k) :: st) := by
  subst hp
  intro H locs ls hP hS hl
  refine va_bast X.1.1 X.1.2.1 X.2.2.2.1 hP (wf_D X.2.2.2.2.1) hS k t0 (by rw [wf_at hk, he]) ht hi hdg (fun H1 locs1 hP1 hD1 hS1 => kk H1 locs1 ls ?_ hS1 hl)
  rw [wf_set hrow] at hP1
  exact hP1
theorem w_zast (X : CX D tys n ad Z p s m args meth c cc nL own ret) (k : Nat) (hk : k < n) {cA : ClassId} {N t0 : Nat} {f : Nat → Int32} {i : Int32} {x : Int32} (he : cf k (mem k) = .inl (cA, N, .inl f)) (ht : tys[t0]? = some (cA, .boolean)) (hi : vp_in i N) (r : Row) (hrow : cf k r = .inl (cA, N, .inl (upd f i.toNatClampNeg (vp_nar .boolean x)))) (hdg : decode cc pc = .ok (.bastore, 1)) (pc2 : Nat) (hp : pc + 1 = pc2) (kk : WW D n ad cf p l e R s m args below meth c nL cells slots Q (mr mem k r) pc2 lv st) : WW D n ad cf p l e R s m args below meth c nL cells slots Q mem pc lv (.int x :: .int i :: .ref (ad k) :: st) := by
  subst hp
  intro H locs ls hP hS hl
  refine va_zast X.1.1 X.1.2.1 X.2.2.2.1 hP (wf_D X.2.2.2.2.1) hS k t0 (by rw [wf_at hk, he]) ht hi hdg (fun H1 locs1 hP1 hD1 hS1 => kk H1 locs1 ls ?_ hS1 hl)
  rw [wf_set hrow] at hP1
  exact hP1
theorem w_last (X : CX D tys n ad Z p s m args meth c cc nL own ret) (k : Nat) (hk : k < n) {cA : ClassId} {N t0 : Nat} {f : Nat → Int64} {i : Int32} {x : Int64} (he : cf k (mem k) = .inl (cA, N, .inr (.inl f))) (ht : tys[t0]? = some (cA, .long)) (hi : vp_in i N) (r : Row) (hrow : cf k r = .inl (cA, N, .inr (.inl (vp_updL f i.toNatClampNeg x)))) (hdg : decode cc pc = .ok (.lastore, 1)) (pc2 : Nat) (hp : pc + 1 = pc2) (kk : WW D n ad cf p l e R s m args below meth c nL cells slots Q (mr mem k r) pc2 lv st) : WW D n ad cf p l e R s m args below meth c nL cells slots Q mem pc lv (.long x :: .int i :: .ref (ad k) :: st) := by
  subst hp
  intro H locs ls hP hS hl
  refine va_last X.1.1 X.1.2.1 X.2.2.2.1 hP (wf_D X.2.2.2.2.1) hS k t0 (by rw [wf_at hk, he]) ht hi hdg (fun H1 locs1 hP1 hD1 hS1 => kk H1 locs1 ls ?_ hS1 hl)
  rw [wf_set hrow] at hP1
  exact hP1
theorem w_aald (X : CX D tys n ad Z p s m args meth c cc nL own ret) (k : Nat) (hk : k < n) {cA : ClassId} {C : String} {N t0 : Nat} {f : Nat → Option Nat} {i : Int32} (q : Nat) (he : cf k (mem k) = .inl (cA, N, .inr (.inr (.inr (.inr f))))) (ht : tys[t0]? = some (cA, .object C)) (hi : vp_in i N) (hq : f i.toNatClampNeg = some (ad q)) (hdg : decode cc pc = .ok (.aaload, 1)) (pc2 : Nat) (hp : pc + 1 = pc2) (kk : WW D n ad cf p l e R s m args below meth c nL cells slots Q mem pc2 lv (.ref (ad q) :: st)) : WW D n ad cf p l e R s m args below meth c nL cells slots Q mem pc lv (.int i :: .ref (ad k) :: st) := by
  subst hp
  exact fun H locs ls hP hS hl => va_aldq X.1.1 X.1.2.1 X.2.2.2.1 hP k t0 (by rw [wf_at hk, he]) ht hi hdg (by rw [hq]; exact kk H locs ls hP hS hl)
theorem w_alen (X : CX D tys n ad Z p s m args meth c cc nL own ret) (k : Nat) (hk : k < n) {cA : ClassId} {N t0 : Nat} {ty : FieldType} {a : (Nat → Int32) ⊕ (Nat → Int64) ⊕ (Nat → UInt32) ⊕ (Nat → UInt64) ⊕ (Nat → Option Nat)} (v : Int32) (he : cf k (mem k) = .inl (cA, N, a)) (ht : tys[t0]? = some (cA, ty)) (hv : Int32.ofNat N = v) (hdg : decode cc pc = .ok (.arraylength, 1)) (pc2 : Nat) (hp : pc + 1 = pc2) (kk : WW D n ad cf p l e R s m args below meth c nL cells slots Q mem pc2 lv (.int v :: st)) : WW D n ad cf p l e R s m args below meth c nL cells slots Q mem pc lv (.ref (ad k) :: st) := by
  subst hp
  exact fun H locs ls hP hS hl => va_alen X.1.1 X.1.2.1 X.2.2.2.1 hP k t0 (by rw [wf_at hk, he]) ht hv hdg (kk H locs ls hP hS hl)
theorem w_getV {v : Value} (X : CX D tys n ad Z p s m args meth c cc nL own ret) (k : Nat) (hk : k < n) {ci : Nat} {fl : Row → List Value} (he : ∀ f : Row, cf k f = .inr (ci, fl f)) {C ref : String} {T : u_T} {N index : Nat} (hc : vwCl[ci]? = some (C, T, N)) (hin : ∀ w ∈ u_ws C T N, w ∈ GW) (j : Nat) (hj : j < N) (hlk : Cond.fieldLink own index ref (T j).2.1 (T j).2.2.1 ∈ GW) (hr : (T j).1 = ref) (hv : (fl (mem k))[j]? = some v) (hdg : decode cc pc = .ok (.getfield index, 3)) (pc2 : Nat) (hp : pc + 3 = pc2) (kk : WW D n ad cf p l e R s m args below meth c nL cells slots Q mem pc2 lv (v :: st)) : WW D n ad cf p l e R s m args below meth c nL cells slots Q mem pc lv (.ref (ad k) :: st) :=
  w_get X k hk (he _) hc hin j hj hlk hr hv hdg pc2 hp kk
theorem w_putI {x : Int32} (X : CX D tys n ad Z p s m args meth c cc nL own ret) (k : Nat) (hk : k < n) {ci : Nat} {fl : Row → List Value} (he : ∀ f : Row, cf k f = .inr (ci, fl f)) {C ref : String} {T : u_T} {N index : Nat} (hc : vwCl[ci]? = some (C, T, N)) (hin : ∀ w ∈ u_ws C T N, w ∈ GW) (ty0 : Nat → FieldType) (hty : ∀ k, k < N → parseFieldDescriptor (T k).2.2.1 = some (ty0 k)) (hnm : ∀ a, a < N → ∀ b, b < N → a ≠ b → (T a).2.1 ≠ (T b).2.1) (j : Nat) (hj : j < N) (hlk : Cond.fieldLink own index ref (T j).2.1 (T j).2.2.1 ∈ GW) (hr : (T j).1 = ref) (hfin : (T j).2.2.2 = false) (hn : narrow (ty0 j) (.int x) = .int x) (hfit : fits (ty0 j) (.int x) = true) (hl0 : j < (fl (mem k)).length) (hset : fl (upd (mem k).1 j x, (mem k).2) = (fl (mem k)).set j (.int x)) (hdg : decode cc pc = .ok (.putfield index, 3)) (pc2 : Nat) (hp : pc + 3 = pc2) (kk : WW D n ad cf p l e R s m args below meth c nL cells slots Q (mw mem k j x) pc2 lv st) : WW D n ad cf p l e R s m args below meth c nL cells slots Q mem pc lv (.int x :: .ref (ad k) :: st) :=
  w_put X k hk (he _) hc hin j hj hlk hr ty0 hty hnm hfin hn hfit hl0 (upd (mem k).1 j x, (mem k).2) (by rw [he, hset]) hdg pc2 hp kk
theorem w_putJ {x : Int64} (X : CX D tys n ad Z p s m args meth c cc nL own ret) (k : Nat) (hk : k < n) {ci : Nat} {fl : Row → List Value} (he : ∀ f : Row, cf k f = .inr (ci, fl f)) {C ref : String} {T : u_T} {N index : Nat} (hc : vwCl[ci]? = some (C, T, N)) (hin : ∀ w ∈ u_ws C T N, w ∈ GW) (ty0 : Nat → FieldType) (hty : ∀ k, k < N → parseFieldDescriptor (T k).2.2.1 = some (ty0 k)) (hnm : ∀ a, a < N → ∀ b, b < N → a ≠ b → (T a).2.1 ≠ (T b).2.1) (j : Nat) (hj : j < N) (hlk : Cond.fieldLink own index ref (T j).2.1 (T j).2.2.1 ∈ GW) (hr : (T j).1 = ref) (hfin : (T j).2.2.2 = false) (hn : narrow (ty0 j) (.long x) = .long x) (hfit : fits (ty0 j) (.long x) = true) (hl0 : j < (fl (mem k)).length) (hset : fl ((mem k).1, vp_updL (mem k).2 j x) = (fl (mem k)).set j (.long x)) (hdg : decode cc pc = .ok (.putfield index, 3)) (pc2 : Nat) (hp : pc + 3 = pc2) (kk : WW D n ad cf p l e R s m args below meth c nL cells slots Q (ml mem k j x) pc2 lv st) : WW D n ad cf p l e R s m args below meth c nL cells slots Q mem pc lv (.long x :: .ref (ad k) :: st) :=
  w_put X k hk (he _) hc hin j hj hlk hr ty0 hty hnm hfin hn hfit hl0 ((mem k).1, vp_updL (mem k).2 j x) (by rw [he, hset]) hdg pc2 hp kk
theorem w_ial (X : CX D tys n ad Z p s m args meth c cc nL own ret) (k : Nat) (hk : k < n) {cA : ClassId} {N t0 : Nat} {i : Int32} (he : ∀ f : Row, cf k f = .inl (cA, N, .inl f.1)) (ht : tys[t0]? = some (cA, .int)) (hi : vp_in i N) (hdg : decode cc pc = .ok (.iaload, 1)) (pc2 : Nat) (hp : pc + 1 = pc2) (kk : WW D n ad cf p l e R s m args below meth c nL cells slots Q mem pc2 lv (.int (rd mem k i.toNatClampNeg) :: st)) : WW D n ad cf p l e R s m args below meth c nL cells slots Q mem pc lv (.int i :: .ref (ad k) :: st) := w_iald X k hk (he _) ht hi hdg pc2 hp kk
theorem w_bal (X : CX D tys n ad Z p s m args meth c cc nL own ret) (k : Nat) (hk : k < n) {cA : ClassId} {N t0 : Nat} {i : Int32} (he : ∀ f : Row, cf k f = .inl (cA, N, .inl f.1)) (ht : tys[t0]? = some (cA, .byte)) (hi : vp_in i N) (hdg : decode cc pc = .ok (.baload, 1)) (pc2 : Nat) (hp : pc + 1 = pc2) (kk : WW D n ad cf p l e R s m args below meth c nL cells slots Q mem pc2 lv (.int (rd mem k i.toNatClampNeg) :: st)) : WW D n ad cf p l e R s m args below meth c nL cells slots Q mem pc lv (.int i :: .ref (ad k) :: st) := w_bald X k hk (he _) ht hi hdg pc2 hp kk
theorem w_zal (X : CX D tys n ad Z p s m args meth c cc nL own ret) (k : Nat) (hk : k < n) {cA : ClassId} {N t0 : Nat} {i : Int32} (he : ∀ f : Row, cf k f = .inl (cA, N, .inl f.1)) (ht : tys[t0]? = some (cA, .boolean)) (hi : vp_in i N) (hdg : decode cc pc = .ok (.baload, 1)) (pc2 : Nat) (hp : pc + 1 = pc2) (kk : WW D n ad cf p l e R s m args below meth c nL cells slots Q mem pc2 lv (.int (rd mem k i.toNatClampNeg) :: st)) : WW D n ad cf p l e R s m args below meth c nL cells slots Q mem pc lv (.int i :: .ref (ad k) :: st) := w_zald X k hk (he _) ht hi hdg pc2 hp kk
theorem w_lal (X : CX D tys n ad Z p s m args meth c cc nL own ret) (k : Nat) (hk : k < n) {cA : ClassId} {N t0 : Nat} {i : Int32} (he : ∀ f : Row, cf k f = .inl (cA, N, .inr (.inl f.2))) (ht : tys[t0]? = some (cA, .long)) (hi : vp_in i N) (hdg : decode cc pc = .ok (.laload, 1)) (pc2 : Nat) (hp : pc + 1 = pc2) (kk : WW D n ad cf p l e R s m args below meth c nL cells slots Q mem pc2 lv (.long (rl mem k i.toNatClampNeg) :: st)) : WW D n ad cf p l e R s m args below meth c nL cells slots Q mem pc lv (.int i :: .ref (ad k) :: st) := w_lald X k hk (he _) ht hi hdg pc2 hp kk
theorem w_ias (X : CX D tys n ad Z p s m args meth c cc nL own ret) (k : Nat) (hk : k < n) {cA : ClassId} {N t0 : Nat} {i x : Int32} (he : ∀ f : Row, cf k f = .inl (cA, N, .inl f.1)) (ht : tys[t0]? = some (cA, .int)) (hi : vp_in i N) (hdg : decode cc pc = .ok (.iastore, 1)) (pc2 : Nat) (hp : pc + 1 = pc2) (kk : WW D n ad cf p l e R s m args below meth c nL cells slots Q (mw mem k i.toNatClampNeg x) pc2 lv st) : WW D n ad cf p l e R s m args below meth c nL cells slots Q mem pc lv (.int x :: .int i :: .ref (ad k) :: st) := w_iast X k hk (he _) ht hi (upd (mem k).1 i.toNatClampNeg x, (mem k).2) (he _) hdg pc2 hp kk
theorem w_bas (X : CX D tys n ad Z p s m args meth c cc nL own ret) (k : Nat) (hk : k < n) {cA : ClassId} {N t0 : Nat} {i x : Int32} (he : ∀ f : Row, cf k f = .inl (cA, N, .inl f.1)) (ht : tys[t0]? = some (cA, .byte)) (hi : vp_in i N) (hdg : decode cc pc = .ok (.bastore, 1)) (pc2 : Nat) (hp : pc + 1 = pc2) (kk : WW D n ad cf p l e R s m args below meth c nL cells slots Q (mw mem k i.toNatClampNeg (vp_nar .byte x)) pc2 lv st) : WW D n ad cf p l e R s m args below meth c nL cells slots Q mem pc lv (.int x :: .int i :: .ref (ad k) :: st) := w_bast X k hk (he _) ht hi (upd (mem k).1 i.toNatClampNeg (vp_nar .byte x), (mem k).2) (he _) hdg pc2 hp kk
theorem w_zas (X : CX D tys n ad Z p s m args meth c cc nL own ret) (k : Nat) (hk : k < n) {cA : ClassId} {N t0 : Nat} {i x : Int32} (he : ∀ f : Row, cf k f = .inl (cA, N, .inl f.1)) (ht : tys[t0]? = some (cA, .boolean)) (hi : vp_in i N) (hdg : decode cc pc = .ok (.bastore, 1)) (pc2 : Nat) (hp : pc + 1 = pc2) (kk : WW D n ad cf p l e R s m args below meth c nL cells slots Q (mw mem k i.toNatClampNeg (vp_nar .boolean x)) pc2 lv st) : WW D n ad cf p l e R s m args below meth c nL cells slots Q mem pc lv (.int x :: .int i :: .ref (ad k) :: st) := w_zast X k hk (he _) ht hi (upd (mem k).1 i.toNatClampNeg (vp_nar .boolean x), (mem k).2) (he _) hdg pc2 hp kk
theorem w_las (X : CX D tys n ad Z p s m args meth c cc nL own ret) (k : Nat) (hk : k < n) {cA : ClassId} {N t0 : Nat} {i : Int32} {x : Int64} (he : ∀ f : Row, cf k f = .inl (cA, N, .inr (.inl f.2))) (ht : tys[t0]? = some (cA, .long)) (hi : vp_in i N) (hdg : decode cc pc = .ok (.lastore, 1)) (pc2 : Nat) (hp : pc + 1 = pc2) (kk : WW D n ad cf p l e R s m args below meth c nL cells slots Q (ml mem k i.toNatClampNeg x) pc2 lv st) : WW D n ad cf p l e R s m args below meth c nL cells slots Q mem pc lv (.long x :: .int i :: .ref (ad k) :: st) := w_last X k hk (he _) ht hi ((mem k).1, vp_updL (mem k).2 i.toNatClampNeg x) (he _) hdg pc2 hp kk
theorem w_aal (X : CX D tys n ad Z p s m args meth c cc nL own ret) (k : Nat) (hk : k < n) {cA : ClassId} {C : String} {N t0 : Nat} {g : Nat → Option Nat} {i : Int32} (q : Nat) (he : ∀ f : Row, cf k f = .inl (cA, N, .inr (.inr (.inr (.inr g))))) (ht : tys[t0]? = some (cA, .object C)) (hi : vp_in i N) (hq : g i.toNatClampNeg = some (ad q)) (hdg : decode cc pc = .ok (.aaload, 1)) (pc2 : Nat) (hp : pc + 1 = pc2) (kk : WW D n ad cf p l e R s m args below meth c nL cells slots Q mem pc2 lv (.ref (ad q) :: st)) : WW D n ad cf p l e R s m args below meth c nL cells slots Q mem pc lv (.int i :: .ref (ad k) :: st) := w_aald X k hk q (he _) ht hi hq hdg pc2 hp kk
/-- the table of offsets, a static row that nobody writes -/
def offV (j : Nat) : Int32 := match j with
  | 0 => 9
  | 1 => 1
  | 2 => -9
  | _ => -1
/-- the words of the texts: where they stand, their bytes -/
def strL : List (String × Nat × String) := [("PawnRace$RaceReader", 61, "board"), ("PawnRace$RaceReader", 70, "walls"), ("PawnRace$RaceReader", 75, "pawn"), ("PawnRace$Tokens", 70, "north"), ("PawnRace$Tokens", 76, "east"), ("PawnRace$Tokens", 78, "south"), ("PawnRace$Tokens", 80, "west"), ("PawnRace$RaceReader", 80, "ban"), ("PawnRace$RaceReader", 183, "back"), ("PawnRace$RaceReader", 186, "again"), ("PawnRace$RaceReader", 191, "every"), ("PawnRace$RaceReader", 202, "at"), ("PawnRace$RaceReader", 197, "from"), ("PawnRace$RaceReader", 207, "to"), ("PawnRace$RaceReader", 85, "block"), ("PawnRace$Tokens", 92, "level"), ("PawnRace$Tokens", 94, "upright")]
def lenS : List Nat := [5, 5, 4, 5, 4, 5, 4, 3, 4, 5, 5, 2, 4, 2, 5, 5, 7, 4, 4, 4, 4, 6]
def bytS : List (List Int32) := [[98, 111, 97, 114, 100], [119, 97, 108, 108, 115], [112, 97, 119, 110], [110, 111, 114, 116, 104], [101, 97, 115, 116], [115, 111, 117, 116, 104], [119, 101, 115, 116], [98, 97, 110], [98, 97, 99, 107], [97, 103, 97, 105, 110], [101, 118, 101, 114, 121], [97, 116], [102, 114, 111, 109], [116, 111], [98, 108, 111, 99, 107], [108, 101, 118, 101, 108], [117, 112, 114, 105, 103, 104, 116], [115, 116, 101, 112], [119, 97, 108, 108], [112, 97, 115, 115], [112, 108, 97, 121], [114, 101, 112, 101, 97, 116]]
def sLen (t : Nat) : Nat := lenS.getD t 0
def sByt (t j : Nat) : Int32 := (bytS.getD t []).getD j 0
def zS (sK sV : Nat → Nat) (A : Nat → Prop) (U : State) (H : Heap) : Prop := (∀ i, i < 17 → va_O "java/lang/String" (sK i) A U H ∧ va_OF "java/lang/String" "coder" "B" (.int 0) (sK i) A U H ∧ va_OF "java/lang/String" "value" "[B" (.ref (sV i)) (sK i) A U H ∧ va_T .byte (sV i) (sLen i) (fun j => .int (sByt i j)) A U H) ∧ (∀ i q, strL[i]? = some q → vk_R q.1 q.2.1 q.2.2 (sK i) U) ∧ va_Z "java/lang/String" "COMPACT_STRINGS" "Z" (.int 1) A U H ∧ va_Zq "jdk/internal/util/Preconditions" "SIOOBE_FORMATTER" "Ljava/util/function/BiFunction;" A U H
def zO (tO : Nat) (A : Nat → Prop) (U : State) (H : Heap) : Prop := va_Z "PawnRace" "OFFSETS" "[I" (.ref tO) A U H ∧ va_T .int tO 4 (fun j => .int (offV j)) A U H ∧ va_Nw (.fieldLinkNest RX1 99 "PawnRace" "OFFSETS" "[I" "PawnRace") U ∧ va_Nw (.fieldLinkNest RX2 52 "PawnRace" "OFFSETS" "[I" "PawnRace") U ∧ va_Nw (.fieldLinkNest RX5 98 "PawnRace" "OFFSETS" "[I" "PawnRace") U ∧ va_Nw (.fieldLinkNest RX10 49 "PawnRace" "OFFSETS" "[I" "PawnRace") U ∧ True
def ZO (Z : (Nat → Prop) → State → Heap → Prop) (tO : Nat) (sK sV : Nat → Nat) : Prop := ∀ A U H, Z A U H → zO tO A U H ∧ zS sK sV A U H
theorem w_offs {t index : Nat} {sK sV : Nat → Nat} (X : CX D tys n ad Z p s m args meth c cc nL own ret) (hO : ZO Z t sK sV) (hw : va_Nw (.fieldLinkNest own index "PawnRace" "OFFSETS" "[I" "PawnRace") s) (hdg : decode cc pc = .ok (.getstatic index, 3)) (pc2 : Nat) (hp : pc + 3 = pc2) (kk : WW D n ad cf p l e R s m args below meth c nL cells slots Q mem pc2 lv (.ref t :: st)) : WW D n ad cf p l e R s m args below meth c nL cells slots Q mem pc lv st := by
  subst hp
  exact fun H locs ls hP hS hl => va_getsN X.1.1 X.1.2.1 (hO _ _ _ X.2.2.2.2.2).1.1 hS X.1.2.2.2.1 (va_Nw.use rfl hw) (fun _ h => h) hdg (kk H locs ls hP hS hl)
theorem w_offl {t : Nat} {sK sV : Nat → Nat} {i : Int32} (X : CX D tys n ad Z p s m args meth c cc nL own ret) (hO : ZO Z t sK sV) (hi : vp_in i 4) (hdg : decode cc pc = .ok (.iaload, 1)) (pc2 : Nat) (hp : pc + 1 = pc2) (kk : WW D n ad cf p l e R s m args below meth c nL cells slots Q mem pc2 lv (.int (offV i.toNatClampNeg) :: st)) : WW D n ad cf p l e R s m args below meth c nL cells slots Q mem pc lv (.int i :: .ref t :: st) := by
  subst hp
  exact fun H locs ls hP hS hl => va_ti X.1.1 X.1.2.1 (hO _ _ _ X.2.2.2.2.2).1.2.1 hS hi rfl hdg (kk H locs ls hP hS hl)
theorem w_ldcS {tO index : Nat} {sK sV : Nat → Nat} {tx : String} (X : CX D tys n ad Z p s m args meth c cc nL own ret) (hO : ZO Z tO sK sV) (t : Nat) (ht : strL[t]? = some (own, index, tx)) (hdg : decode cc pc = .ok (.ldc index, 2)) (pc2 : Nat) (hp : pc + 2 = pc2) (kk : WW D n ad cf p l e R s m args below meth c nL cells slots Q mem pc2 lv (.ref (sK t) :: st)) : WW D n ad cf p l e R s m args below meth c nL cells slots Q mem pc lv st := by
  subst hp
  exact fun H locs ls hP hS hl => va_ldcS X.1.1 X.1.2.1 X.1.2.2.2.1 ((hO _ _ _ X.2.2.2.2.2).2.2.1 t _ ht) hdg (kk H locs ls hP hS hl)
theorem w_strV {tO index : Nat} {sK sV : Nat → Nat} (X : CX D tys n ad Z p s m args meth c cc nL own ret) (hO : ZO Z tO sK sV) {t : Nat} (ht : t < 17) (hlk : Cond.fieldLink own index "java/lang/String" "value" "[B" ∈ GW) (hdg : decode cc pc = .ok (.getfield index, 3)) (pc2 : Nat) (hp : pc + 3 = pc2) (kk : WW D n ad cf p l e R s m args below meth c nL cells slots Q mem pc2 lv (.ref (sV t) :: st)) : WW D n ad cf p l e R s m args below meth c nL cells slots Q mem pc lv (.ref (sK t) :: st) := by
  subst hp
  exact fun H locs ls hP hS hl => vk_getf X.1.1 X.1.2.1 ((hO _ _ _ X.2.2.2.2.2).2.1 t ht).2.2.1 hS X.1.2.2.2.1 (X.1.2.2.2.2 _ hlk) (fun _ h => h) hdg (kk H locs ls hP hS hl)
theorem w_strC {tO index : Nat} {sK sV : Nat → Nat} (X : CX D tys n ad Z p s m args meth c cc nL own ret) (hO : ZO Z tO sK sV) {t : Nat} (ht : t < 17) (hlk : Cond.fieldLink own index "java/lang/String" "coder" "B" ∈ GW) (hdg : decode cc pc = .ok (.getfield index, 3)) (pc2 : Nat) (hp : pc + 3 = pc2) (kk : WW D n ad cf p l e R s m args below meth c nL cells slots Q mem pc2 lv (.int 0 :: st)) : WW D n ad cf p l e R s m args below meth c nL cells slots Q mem pc lv (.ref (sK t) :: st) := by
  subst hp
  exact fun H locs ls hP hS hl => vk_getf X.1.1 X.1.2.1 ((hO _ _ _ X.2.2.2.2.2).2.1 t ht).2.1 hS X.1.2.2.2.1 (X.1.2.2.2.2 _ hlk) (fun _ h => h) hdg (kk H locs ls hP hS hl)
theorem w_strL {tO : Nat} {sK sV : Nat → Nat} (X : CX D tys n ad Z p s m args meth c cc nL own ret) (hO : ZO Z tO sK sV) {t : Nat} (ht : t < 17) (hdg : decode cc pc = .ok (.arraylength, 1)) (pc2 : Nat) (hp : pc + 1 = pc2) (kk : WW D n ad cf p l e R s m args below meth c nL cells slots Q mem pc2 lv (.int (Int32.ofNat (sLen t)) :: st)) : WW D n ad cf p l e R s m args below meth c nL cells slots Q mem pc lv (.ref (sV t) :: st) := by
  subst hp
  exact fun H locs ls hP hS hl => va_tlen X.1.1 X.1.2.1 ((hO _ _ _ X.2.2.2.2.2).2.1 t ht).2.2.2 hS rfl hdg (kk H locs ls hP hS hl)
theorem w_strB {tO : Nat} {sK sV : Nat → Nat} {i : Int32} (X : CX D tys n ad Z p s m args meth c cc nL own ret) (hO : ZO Z tO sK sV) {t : Nat} (ht : t < 17) (hi : vp_in i (sLen t)) (hdg : decode cc pc = .ok (.baload, 1)) (pc2 : Nat) (hp : pc + 1 = pc2) (kk : WW D n ad cf p l e R s m args below meth c nL cells slots Q mem pc2 lv (.int (sByt t i.toNatClampNeg) :: st)) : WW D n ad cf p l e R s m args below meth c nL cells slots Q mem pc lv (.int i :: .ref (sV t) :: st) := by
  subst hp
  exact fun H locs ls hP hS hl => va_tb X.1.1 X.1.2.1 ((hO _ _ _ X.2.2.2.2.2).2.1 t ht).2.2.2 hS hi rfl hdg (kk H locs ls hP hS hl)
theorem w_cmpS {tO index : Nat} {sK sV : Nat → Nat} (X : CX D tys n ad Z p s m args meth c cc nL own ret) (hO : ZO Z tO sK sV) (hlk : Cond.fieldLink own index "java/lang/String" "COMPACT_STRINGS" "Z" ∈ GW) (hdg : decode cc pc = .ok (.getstatic index, 3)) (pc2 : Nat) (hp : pc + 3 = pc2) (kk : WW D n ad cf p l e R s m args below meth c nL cells slots Q mem pc2 lv (.int 1 :: st)) : WW D n ad cf p l e R s m args below meth c nL cells slots Q mem pc lv st := by
  subst hp
  exact fun H locs ls hP hS hl => va_gets X.1.1 X.1.2.1 (hO _ _ _ X.2.2.2.2.2).2.2.2.1 hS X.1.2.2.2.1 (X.1.2.2.2.2 _ hlk) (fun _ h => h) hdg (kk H locs ls hP hS hl)
theorem w_fmtQ {tO index : Nat} {sK sV : Nat → Nat} (X : CX D tys n ad Z p s m args meth c cc nL own ret) (hO : ZO Z tO sK sV) (hlk : Cond.fieldLink own index "jdk/internal/util/Preconditions" "SIOOBE_FORMATTER" "Ljava/util/function/BiFunction;" ∈ GW) (hdg : decode cc pc = .ok (.getstatic index, 3)) (pc2 : Nat) (hp : pc + 3 = pc2) (kk : ∀ o : Option Nat, WW D n ad cf p l e R s m args below meth c nL cells slots Q mem pc2 lv (va_rf o :: st)) : WW D n ad cf p l e R s m args below meth c nL cells slots Q mem pc lv st := by
  subst hp
  intro H locs ls hP hS hl
  rcases (hO _ _ _ X.2.2.2.2.2).2.2.2.2 with h | ⟨t, h⟩
  · exact va_gets X.1.1 X.1.2.1 h hS X.1.2.2.2.1 (X.1.2.2.2.2 _ hlk) (fun _ h => h) hdg (kk none H locs ls hP hS hl)
  · exact va_gets X.1.1 X.1.2.1 h hS X.1.2.2.2.1 (X.1.2.2.2.2 _ hlk) (fun _ h => h) hdg (kk (some t) H locs ls hP hS hl)
theorem w_copy {index ks kd n0 n1 t0 : Nat} {cA : ClassId} {nn : Int32} (X : CX D tys n ad Z p s m args meth c cc nL own ret) (N : Nat) (hn : nn.toNatClampNeg = N) (h3 : ¬ nn < 0) (hks : ks < n) (hkd : kd < n) (he0 : ∀ f : Row, cf ks f = .inl (cA, n0, .inl f.1)) (he1 : ∀ f : Row, cf kd f = .inl (cA, n1, .inl f.1)) (ht : tys[t0]? = some (cA, .int)) (h4 : N ≤ n0) (h5 : N ≤ n1) (w1 : Cond.methodLink own index arraycopyName ∈ GW) (w2 : Cond.native arraycopyName ∈ GW) (w3 : Cond.static arraycopyName ∈ GW) (w4 : Cond.initialized "java/lang/System" ∈ GW) (hfr : 1 ≤ R.frames) (hlo : (st.map fun v => v.category).sum + (nativeFrameWords "java/lang/System" "arraycopy" 5 + 11) ≤ R.locals) (hdg : decode cc pc = .ok (.invokestatic index, 3)) (pc2 : Nat) (hp : pc + 3 = pc2) (kk : WW D n ad cf p l e R s m args below meth c nL cells slots Q (mr mem kd (va_cpy (mem ks).1 (mem kd).1 0 0 N, (mem kd).2)) pc2 lv st) : WW D n ad cf p l e R s m args below meth c nL cells slots Q mem pc lv (.int nn :: .int 0 :: .ref (ad kd) :: .int 0 :: .ref (ad ks) :: st) := by
  subst hp; subst hn
  intro H locs ls hP hS hl
  refine va_copyi X.1.1 X.1.2.1 (X.1.2.2.1.trans hl.1.symm) X.1.2.2.2.1 (X.1.2.2.2.2 _ w1) (X.1.2.2.2.2 _ w2) (X.1.2.2.2.2 _ w3) (X.1.2.2.2.2 _ w4) X.2.2.2.1 hP (wf_D X.2.2.2.2.1) hS ks kd t0 t0 (by rw [wf_at hks, he0]) (by rw [wf_at hkd, he1]) ht ht rfl (by decide) (by decide) h3 (by show 0 + _ ≤ _; omega) (by show 0 + _ ≤ _; omega) (fun _ _ => rfl) hfr hlo hdg (fun H1 locs1 hP1 hD1 hS1 => kk H1 locs1 ls ?_ hS1 hl)
  have hP1 : va_P D vwCl ((wf n ad cf mem).set kd (ad kd, .inl (cA, n1, .inl (va_cpy (mem ks).1 (mem kd).1 0 0 nn.toNatClampNeg)))) H1 := hP1
  rw [wf_set (r := (va_cpy (mem ks).1 (mem kd).1 0 0 nn.toNatClampNeg, (mem kd).2)) (he1 _)] at hP1
  exact hP1
theorem w_putR {x : Int32} {v : Value} (X : CX D tys n ad Z p s m args meth c cc nL own ret) (k : Nat) (hk : k < n) {ci : Nat} {fl : Row → List Value} (he : ∀ f : Row, cf k f = .inr (ci, fl f)) {C ref : String} {T : u_T} {N index : Nat} (hc : vwCl[ci]? = some (C, T, N)) (hin : ∀ w ∈ u_ws C T N, w ∈ GW) (ty0 : Nat → FieldType) (hty : ∀ k, k < N → parseFieldDescriptor (T k).2.2.1 = some (ty0 k)) (hnm : ∀ a, a < N → ∀ b, b < N → a ≠ b → (T a).2.1 ≠ (T b).2.1) (j : Nat) (hj : j < N) (hlk : Cond.fieldLink own index ref (T j).2.1 (T j).2.2.1 ∈ GW) (hr : (T j).1 = ref) (hfin : (T j).2.2.2 = false) (hn : narrow (ty0 j) v = v) (hfit : fits (ty0 j) v = true) (hl0 : j < (fl (mem k)).length) (hset : fl (upd (mem k).1 j x, (mem k).2) = (fl (mem k)).set j v) (hdg : decode cc pc = .ok (.putfield index, 3)) (pc2 : Nat) (hp : pc + 3 = pc2) (kk : WW D n ad cf p l e R s m args below meth c nL cells slots Q (mw mem k j x) pc2 lv st) : WW D n ad cf p l e R s m args below meth c nL cells slots Q mem pc lv (v :: .ref (ad k) :: st) :=
  w_put X k hk (he _) hc hin j hj hlk hr ty0 hty hnm hfin hn hfit hl0 (upd (mem k).1 j x, (mem k).2) (by rw [he, hset]) hdg pc2 hp kk
/-- a char that is one already -/
def gc {α : Type} (x : Int32) (o : Option α) : Option α := if (x.toUInt32 % 65536).toInt32 = x then o else none
theorem gc_some {α : Type} {x : Int32} {o : Option α} {r : α} (h : gc x o = some r) : narrow .char (.int x) = .int x ∧ o = some r := by
  unfold gc at h
  split at h
  · rename_i hx
    refine ⟨?_, h⟩
    rw [← hx]
    exact pk_nc x
  · cases h
theorem w_gc {ρ : Type} {o : Option ρ} {res : ρ} {x : Int32} (hF : gc x o = some res) (kk : narrow .char (.int x) = .int x → o = some res → WW D n ad cf p l e R s m args below meth c nL cells slots Q mem pc lv st) : WW D n ad cf p l e R s m args below meth c nL cells slots Q mem pc lv st := kk (gc_some hF).1 (gc_some hF).2
theorem w_i2c {x : Int32} (X : CX D tys n ad Z p s m args meth c cc nL own ret) (hdg : decode cc pc = .ok (.i2c, 1)) (pc2 : Nat) (hp : pc + 1 = pc2) (kk : WW D n ad cf p l e R s m args below meth c nL cells slots Q mem pc2 lv (.int (x.toUInt32 % 65536).toInt32 :: st)) : WW D n ad cf p l e R s m args below meth c nL cells slots Q mem pc lv (.int x :: st) := by
  subst hp
  exact fun H locs ls hP hS hl => lv_i2c X.1.1 X.1.2.1 hdg rfl (kk H locs ls hP hS hl)
theorem w_iret {x : Int32} {mem' : Mem} {x' : Int32} {rt : FieldType} (X : CX D tys n ad Z p s m args meth c cc nL own (some rt)) (hQ : Q = MQ below (va_Qi (fun (r : Int32) (u : Unit) => r = x' ∧ u = ()) (fun _ t => va_P D vwCl (wf n ad cf mem') t.heap) (AA n ad s.heap.size)) args s 0 0 (AA n ad s.heap.size)) (hx : x = x') (hm : mem = mem') (hn : narrow rt (.int x) = .int x) (hdg : decode cc pc = .ok (.ireturn, 1)) : WW D n ad cf p l e R s m args below meth c nL 0 0 Q mem pc lv [.int x] := by
  subst hm; subst hx; subst hQ
  exact fun H locs ls hP hS hl => W.zret X.1.1 X.1.2.1 X.2.1 hn (fun t ht hW => ⟨⟨x, (), rfl, ⟨rfl, rfl⟩, by rw [← ht] at hP; exact hP⟩, hS.F ht⟩) hS.2.2 hdg X.2.2.1
theorem w_vret {mem' : Mem} (X : CX D tys n ad Z p s m args meth c cc nL own none) (hQ : Q = MQ below (va_Qv (fun (u : Unit) => u = ()) (fun _ t => va_P D vwCl (wf n ad cf mem') t.heap) (AA n ad s.heap.size)) args s 0 0 (AA n ad s.heap.size)) (hm : mem = mem') (hdg : decode cc pc = .ok (.return_, 1)) : WW D n ad cf p l e R s m args below meth c nL 0 0 Q mem pc lv [] := by
  subst hm; subst hQ
  exact fun H locs ls hP hS hl => W.vret X.1.1 X.1.2.1 X.2.1 (fun t ht hW => ⟨⟨(), rfl, rfl, by rw [← ht] at hP; exact hP⟩, hS.F ht⟩) hS.2.2 hdg X.2.2.1
theorem no_none {ρ : Type} {r : ρ} {P : Prop} (h : (none : Option ρ) = some r) : P := by cases h
theorem o_inj {ρ : Type} {a b : ρ} (h : some a = some b) : a = b := Option.some.inj h
theorem o_inj1 {ρ τ : Type} {a c : ρ} {b d : τ} (h : some (a, b) = some (c, d)) : a = c := (Prod.mk.inj (Option.some.inj h)).1
theorem o_inj2 {ρ τ : Type} {a c : ρ} {b d : τ} (h : some (a, b) = some (c, d)) : b = d := (Prod.mk.inj (Option.some.inj h)).2
theorem bool_nar {x : Int32} (h : x = 0 ∨ x = 1) : narrow .boolean (.int x) = .int x := by rcases h with rfl | rfl <;> rfl
theorem bool_fit {x : Int32} (h : x = 0 ∨ x = 1) : fits .boolean (.int x) = true := by rcases h with rfl | rfl <;> rfl
theorem PW_bl (hZ : ZOK Z) {av : List Value} {sz : Nat} : FrameBlind (va_Pc av (PW D tys n ad cf Z mem sz)) := fun a U g mk q => by
  obtain ⟨q0, q1, qP, qK, qI, qZ⟩ := q
  exact ⟨q0, q1, qP, va_K.moved (u := U) (U := U.calling g mk a) (Vm.Alike.refl U.vm) qK, qI, hZ.2.2 _ U _ _ (Or.inl rfl) qZ⟩
theorem PW_of (X : CX D tys n ad Z p s m args meth c cc nL own ret) (hZ : ZOK Z) {H : Heap} {locs : List Loc} (hP : va_P D vwCl (wf n ad cf mem) H) (hS : va_S (AA n ad s.heap.size) s.heap H locs) {U : State} (hU : U.heap = H) (hW : s.WarmedH U.vm) : PW D tys n ad cf Z mem H.size U := by
  refine ⟨by rw [hU], by rw [hU]; exact hP, va_K.moved hW.alike X.2.2.2.1, X.2.2.2.2.1, ?_⟩
  refine hZ.2.2 _ s _ _ (Or.inr hW) ?_
  rw [hU]
  exact hZ.2.1 _ _ _ _ (hZ.1 _ _ _ _ X.2.2.2.2.2 (fun a ha hn => hS.2.1 a ha hn)) (AA_le hS.1)
/-- what the tables say of a method that is called: an instance's, a static one -/
def MB (y : MethodName) (bytes : ByteArray) (nY : Nat) (ret : Option FieldType) (na : Nat) : Prop := Cond.instanceMethod y ∈ GW ∧ Cond.selects y.cls y y ∈ GW ∧ Cond.initialized y.cls ∈ GW ∧ Cond.code y bytes nY ret ∈ GW ∧ (y.cls ≠ "java/lang/invoke/MethodHandle" ∧ y.cls ≠ "java/lang/invoke/VarHandle" ∧ (parseMethodDescriptor y.desc).map (fun d => d.parameters.length) = some na)
def SB (y : MethodName) (bytes : ByteArray) (nY : Nat) (ret : Option FieldType) (na : Nat) : Prop := Cond.static y ∈ GW ∧ Cond.initialized y.cls ∈ GW ∧ Cond.code y bytes nY ret ∈ GW ∧ (y.cls ≠ "java/lang/invoke/MethodHandle" ∧ y.cls ≠ "java/lang/invoke/VarHandle" ∧ (parseMethodDescriptor y.desc).map (fun d => d.parameters.length) = some na)
theorem w_callVi {ρ κ : Type} {o : Option κ} {F : κ → Option ρ} {res : ρ} {rty : FieldType} (vx : κ → Int32) (vm : κ → Mem) (X : CX D tys n ad Z p s m args meth c cc nL own ret) (hZ : ZOK Z) {y : MethodName} {bytes : ByteArray} {nY index na : Nat} {rm : Room} (hF : bd o F = some res) {stk : List Value} (As : List Value) (kb : Nat) (hk : kb < n) {ci : Nat} {fl : Row → List Value} {q : vw_C} (he : ∀ f : Row, cf kb f = .inr (ci, fl f)) (hq : vwCl[ci]? = some q) (hqy : y.cls = q.1) (hs : As.reverse ++ .ref (ad kb) :: st = stk) (b : MB y bytes nY (some rty) na) (w1 : Cond.methodLink own index y ∈ GW) (hM : ∀ r : κ, o = some r → CI l D tys n ad cf Z y bytes nY rty rm (.ref (ad kb) :: As) mem (vx r) (vm r)) (hna : As.length = na) (hrc : rm.cells = 0) (hrs : rm.slots = 0) (hR : rm.frames + 1 ≤ R.frames ∧ 8 + (nY + 11) + rm.locals ≤ R.locals) (hst : (st.map fun v => v.category).sum ≤ 8) (hcs : cells ≤ R.cells ∧ slots ≤ R.slots) (hdg : decode cc pc = .ok (.invokevirtual index, 3)) (pc2 : Nat) (hp : pc + 3 = pc2) (kk : ∀ r : κ, F r = some res → WW D n ad cf p l e R s m args below meth c nL cells slots Q (vm r) pc2 lv (.int (vx r) :: st)) : WW D n ad cf p l e R s m args below meth c nL cells slots Q mem pc lv stk := by
  subst hp
  subst hs
  obtain ⟨r, ho, hF⟩ := bd_some hF
  intro H locs ls hP hS hl
  have hM := hM r ho H.size
  have hbl : FrameBlind (va_Pc (.ref (ad kb) :: As) (PW D tys n ad cf Z mem H.size)) := PW_bl hZ
  have hpre : ∀ U : State, U.heap = H → s.WarmedH U.vm → va_Pc (.ref (ad kb) :: As) (PW D tys n ad cf Z mem H.size) ((.ref (ad kb) :: As) : List Value).toArray U := fun U hU hW => ⟨rfl, PW_of X hZ hP hS hU hW⟩
  obtain ⟨w2, w4, w3, w5, hd⟩ := b
  have hg : GoodIn GW (Cond.code y bytes nY (some rty) :: GW) := gw_cons w5
  have cw : CallW R s args own y.cls index y bytes nY (some rty) (Cond.code y bytes nY (some rty) :: GW) rm 0 0 na := ⟨callB_of na X.1.2.2.2.2 hg rfl hrc hrs (X.1.2.2.2.2 _ w3) (X.1.2.2.2.2 _ w1) hd hR, X.1.2.2.2.2 _ w2, X.1.2.2.2.2 _ w4⟩
  have hrv : ∃ cellB : Cell, H[ad kb]? = some cellB ∧ cellB.vm.isStatics = false ∧ s.vm.findClass y.cls = some cellB.cls := by
    rw [hqy]
    exact va_recv X.2.2.2.1 hP hq (q0 := kb) (a := ad kb) (by rw [wf_at hk, he])
  have hr := va_runV (rest := st) X.1 hM cw ⟨hbl, hrv, hpre⟩ (g := F0 m pc ls (As.reverse ++ .ref (ad kb) :: st)) (H := H) (locs := locs) (cells := cells) (slots := slots) (below := below) (e := e) (meth := meth) rfl hna hl.1 rfl (lv_room hst) hdg hcs
  refine va_calli hr hS (fun q _ h => AA_le hS.1 q h) (fun q h => AA_le hS.1 q h) (fun x u t H1 locs1 ht hvm hw hB hz1 hk1 hS1 => ?_)
  obtain ⟨rfl, -⟩ := hw
  rw [ht] at hB
  exact kk r hF H1 locs1 ls hB hS1 hl
theorem w_callVv {ρ κ : Type} {o : Option κ} {F : κ → Option ρ} {res : ρ} (vm : κ → Mem) (X : CX D tys n ad Z p s m args meth c cc nL own ret) (hZ : ZOK Z) {y : MethodName} {bytes : ByteArray} {nY index na : Nat} {rm : Room} (hF : bd o F = some res) {stk : List Value} (As : List Value) (kb : Nat) (hk : kb < n) {ci : Nat} {fl : Row → List Value} {q : vw_C} (he : ∀ f : Row, cf kb f = .inr (ci, fl f)) (hq : vwCl[ci]? = some q) (hqy : y.cls = q.1) (hs : As.reverse ++ .ref (ad kb) :: st = stk) (b : MB y bytes nY (none) na) (w1 : Cond.methodLink own index y ∈ GW) (hM : ∀ r : κ, o = some r → CV l D tys n ad cf Z y bytes nY rm (.ref (ad kb) :: As) mem (vm r)) (hna : As.length = na) (hrc : rm.cells = 0) (hrs : rm.slots = 0) (hR : rm.frames + 1 ≤ R.frames ∧ 8 + (nY + 11) + rm.locals ≤ R.locals) (hst : (st.map fun v => v.category).sum ≤ 8) (hcs : cells ≤ R.cells ∧ slots ≤ R.slots) (hdg : decode cc pc = .ok (.invokevirtual index, 3)) (pc2 : Nat) (hp : pc + 3 = pc2) (kk : ∀ r : κ, F r = some res → WW D n ad cf p l e R s m args below meth c nL cells slots Q (vm r) pc2 lv st) : WW D n ad cf p l e R s m args below meth c nL cells slots Q mem pc lv stk := by
  subst hp
  subst hs
  obtain ⟨r, ho, hF⟩ := bd_some hF
  intro H locs ls hP hS hl
  have hM := hM r ho H.size
  have hbl : FrameBlind (va_Pc (.ref (ad kb) :: As) (PW D tys n ad cf Z mem H.size)) := PW_bl hZ
  have hpre : ∀ U : State, U.heap = H → s.WarmedH U.vm → va_Pc (.ref (ad kb) :: As) (PW D tys n ad cf Z mem H.size) ((.ref (ad kb) :: As) : List Value).toArray U := fun U hU hW => ⟨rfl, PW_of X hZ hP hS hU hW⟩
  obtain ⟨w2, w4, w3, w5, hd⟩ := b
  have hg : GoodIn GW (Cond.code y bytes nY (none) :: GW) := gw_cons w5
  have cw : CallW R s args own y.cls index y bytes nY (none) (Cond.code y bytes nY (none) :: GW) rm 0 0 na := ⟨callB_of na X.1.2.2.2.2 hg rfl hrc hrs (X.1.2.2.2.2 _ w3) (X.1.2.2.2.2 _ w1) hd hR, X.1.2.2.2.2 _ w2, X.1.2.2.2.2 _ w4⟩
  have hrv : ∃ cellB : Cell, H[ad kb]? = some cellB ∧ cellB.vm.isStatics = false ∧ s.vm.findClass y.cls = some cellB.cls := by
    rw [hqy]
    exact va_recv X.2.2.2.1 hP hq (q0 := kb) (a := ad kb) (by rw [wf_at hk, he])
  have hr := va_runV (rest := st) X.1 hM cw ⟨hbl, hrv, hpre⟩ (g := F0 m pc ls (As.reverse ++ .ref (ad kb) :: st)) (H := H) (locs := locs) (cells := cells) (slots := slots) (below := below) (e := e) (meth := meth) rfl hna hl.1 rfl (lv_room hst) hdg hcs
  refine va_callv hr hS (fun q _ h => AA_le hS.1 q h) (fun q h => AA_le hS.1 q h) (fun u t H1 locs1 ht hvm hw hB hz1 hk1 hS1 => ?_)
  rw [ht] at hB
  exact kk r hF H1 locs1 ls hB hS1 hl
theorem w_callSi {ρ κ : Type} {o : Option κ} {F : κ → Option ρ} {res : ρ} {rty : FieldType} (vx : κ → Int32) (vm : κ → Mem) (X : CX D tys n ad Z p s m args meth c cc nL own ret) (hZ : ZOK Z) {y : MethodName} {bytes : ByteArray} {nY index na : Nat} {rm : Room} (hF : bd o F = some res) {stk : List Value} (As : List Value) (hs : As.reverse ++ st = stk) (b : SB y bytes nY (some rty) na) (w1 : Cond.methodLink own index y ∈ GW) (hM : ∀ r : κ, o = some r → CI l D tys n ad cf Z y bytes nY rty rm As mem (vx r) (vm r)) (hna : As.length = na) (hrc : rm.cells = 0) (hrs : rm.slots = 0) (hR : rm.frames + 1 ≤ R.frames ∧ 8 + (nY + 11) + rm.locals ≤ R.locals) (hst : (st.map fun v => v.category).sum ≤ 8) (hcs : cells ≤ R.cells ∧ slots ≤ R.slots) (hdg : decode cc pc = .ok (.invokestatic index, 3)) (pc2 : Nat) (hp : pc + 3 = pc2) (kk : ∀ r : κ, F r = some res → WW D n ad cf p l e R s m args below meth c nL cells slots Q (vm r) pc2 lv (.int (vx r) :: st)) : WW D n ad cf p l e R s m args below meth c nL cells slots Q mem pc lv stk := by
  subst hp
  subst hs
  obtain ⟨r, ho, hF⟩ := bd_some hF
  intro H locs ls hP hS hl
  have hM := hM r ho H.size
  have hbl : FrameBlind (va_Pc As (PW D tys n ad cf Z mem H.size)) := PW_bl hZ
  have hpre : ∀ U : State, U.heap = H → s.WarmedH U.vm → va_Pc As (PW D tys n ad cf Z mem H.size) (As : List Value).toArray U := fun U hU hW => ⟨rfl, PW_of X hZ hP hS hU hW⟩
  obtain ⟨w2, w3, w5, hd⟩ := b
  have hg : GoodIn GW (Cond.code y bytes nY (some rty) :: GW) := gw_cons w5
  have cw : CallB R s args own index y bytes nY (some rty) (Cond.code y bytes nY (some rty) :: GW) rm 0 0 na ∧ (Cond.static y).before args s = true := ⟨callB_of na X.1.2.2.2.2 hg rfl hrc hrs (X.1.2.2.2.2 _ w3) (X.1.2.2.2.2 _ w1) hd hR, X.1.2.2.2.2 _ w2⟩
  have hr := va_runS (rest := st) X.1 hM cw ⟨hbl, hpre⟩ (g := F0 m pc ls (As.reverse ++ st)) (H := H) (locs := locs) (cells := cells) (slots := slots) (below := below) (e := e) (meth := meth) rfl hna hl.1 rfl (lv_room hst) hdg hcs
  refine va_calli hr hS (fun q _ h => AA_le hS.1 q h) (fun q h => AA_le hS.1 q h) (fun x u t H1 locs1 ht hvm hw hB hz1 hk1 hS1 => ?_)
  obtain ⟨rfl, -⟩ := hw
  rw [ht] at hB
  exact kk r hF H1 locs1 ls hB hS1 hl
theorem w_callSv {ρ κ : Type} {o : Option κ} {F : κ → Option ρ} {res : ρ} (vm : κ → Mem) (X : CX D tys n ad Z p s m args meth c cc nL own ret) (hZ : ZOK Z) {y : MethodName} {bytes : ByteArray} {nY index na : Nat} {rm : Room} (hF : bd o F = some res) {stk : List Value} (As : List Value) (hs : As.reverse ++ st = stk) (b : SB y bytes nY (none) na) (w1 : Cond.methodLink own index y ∈ GW) (hM : ∀ r : κ, o = some r → CV l D tys n ad cf Z y bytes nY rm As mem (vm r)) (hna : As.length = na) (hrc : rm.cells = 0) (hrs : rm.slots = 0) (hR : rm.frames + 1 ≤ R.frames ∧ 8 + (nY + 11) + rm.locals ≤ R.locals) (hst : (st.map fun v => v.category).sum ≤ 8) (hcs : cells ≤ R.cells ∧ slots ≤ R.slots) (hdg : decode cc pc = .ok (.invokestatic index, 3)) (pc2 : Nat) (hp : pc + 3 = pc2) (kk : ∀ r : κ, F r = some res → WW D n ad cf p l e R s m args below meth c nL cells slots Q (vm r) pc2 lv st) : WW D n ad cf p l e R s m args below meth c nL cells slots Q mem pc lv stk := by
  subst hp
  subst hs
  obtain ⟨r, ho, hF⟩ := bd_some hF
  intro H locs ls hP hS hl
  have hM := hM r ho H.size
  have hbl : FrameBlind (va_Pc As (PW D tys n ad cf Z mem H.size)) := PW_bl hZ
  have hpre : ∀ U : State, U.heap = H → s.WarmedH U.vm → va_Pc As (PW D tys n ad cf Z mem H.size) (As : List Value).toArray U := fun U hU hW => ⟨rfl, PW_of X hZ hP hS hU hW⟩
  obtain ⟨w2, w3, w5, hd⟩ := b
  have hg : GoodIn GW (Cond.code y bytes nY (none) :: GW) := gw_cons w5
  have cw : CallB R s args own index y bytes nY (none) (Cond.code y bytes nY (none) :: GW) rm 0 0 na ∧ (Cond.static y).before args s = true := ⟨callB_of na X.1.2.2.2.2 hg rfl hrc hrs (X.1.2.2.2.2 _ w3) (X.1.2.2.2.2 _ w1) hd hR, X.1.2.2.2.2 _ w2⟩
  have hr := va_runS (rest := st) X.1 hM cw ⟨hbl, hpre⟩ (g := F0 m pc ls (As.reverse ++ st)) (H := H) (locs := locs) (cells := cells) (slots := slots) (below := below) (e := e) (meth := meth) rfl hna hl.1 rfl (lv_room hst) hdg hcs
  refine va_callv hr hS (fun q _ h => AA_le hS.1 q h) (fun q h => AA_le hS.1 q h) (fun u t H1 locs1 ht hvm hw hB hz1 hk1 hS1 => ?_)
  rw [ht] at hB
  exact kk r hF H1 locs1 ls hB hS1 hl
theorem w_callNi {ρ κ : Type} {o : Option κ} {F : κ → Option ρ} {res : ρ} {rty : FieldType} (vx : κ → Int32) (vm : κ → Mem) (X : CX D tys n ad Z p s m args meth c cc nL own ret) (hZ : ZOK Z) {y : MethodName} {bytes : ByteArray} {nY index na : Nat} {rm : Room} {host : String} (hF : bd o F = some res) {stk : List Value} (As : List Value) (hs : As.reverse ++ st = stk) (b : SB y bytes nY (some rty) na) (w1 : va_Nw (.methodLinkNest own index y host) s) (hM : ∀ r : κ, o = some r → CI l D tys n ad cf Z y bytes nY rty rm As mem (vx r) (vm r)) (hna : As.length = na) (hrc : rm.cells = 0) (hrs : rm.slots = 0) (hR : rm.frames + 1 ≤ R.frames ∧ 8 + (nY + 11) + rm.locals ≤ R.locals) (hst : (st.map fun v => v.category).sum ≤ 8) (hcs : cells ≤ R.cells ∧ slots ≤ R.slots) (hdg : decode cc pc = .ok (.invokestatic index, 3)) (pc2 : Nat) (hp : pc + 3 = pc2) (kk : ∀ r : κ, F r = some res → WW D n ad cf p l e R s m args below meth c nL cells slots Q (vm r) pc2 lv (.int (vx r) :: st)) : WW D n ad cf p l e R s m args below meth c nL cells slots Q mem pc lv stk := by
  subst hp
  subst hs
  obtain ⟨r, ho, hF⟩ := bd_some hF
  intro H locs ls hP hS hl
  have hM := hM r ho H.size
  have hbl : FrameBlind (va_Pc As (PW D tys n ad cf Z mem H.size)) := PW_bl hZ
  have hpre : ∀ U : State, U.heap = H → s.WarmedH U.vm → va_Pc As (PW D tys n ad cf Z mem H.size) (As : List Value).toArray U := fun U hU hW => ⟨rfl, PW_of X hZ hP hS hU hW⟩
  obtain ⟨w2, w3, w5, hd⟩ := b
  have hg : GoodIn GW (Cond.code y bytes nY (some rty) :: GW) := gw_cons w5
  have cw : va_CN R s args own index y host bytes nY (some rty) (Cond.code y bytes nY (some rty) :: GW) rm 0 0 na ∧ (Cond.static y).before args s = true ∧ True := ⟨va_cnB na X.1.2.2.2.2 hg rfl hrc hrs w1 (X.1.2.2.2.2 _ w3) hd hR, X.1.2.2.2.2 _ w2, trivial⟩
  have hr := va_runSN (rest := st) X.1 hM cw ⟨hbl, hpre⟩ (g := F0 m pc ls (As.reverse ++ st)) (H := H) (locs := locs) (cells := cells) (slots := slots) (below := below) (e := e) (meth := meth) rfl hna hl.1 rfl (lv_room hst) hdg hcs
  refine va_calli hr hS (fun q _ h => AA_le hS.1 q h) (fun q h => AA_le hS.1 q h) (fun x u t H1 locs1 ht hvm hw hB hz1 hk1 hS1 => ?_)
  obtain ⟨rfl, -⟩ := hw
  rw [ht] at hB
  exact kk r hF H1 locs1 ls hB hS1 hl
theorem w_callTi {ρ κ : Type} {o : Option κ} {F : κ → Option ρ} {res : ρ} {rty : FieldType} (vx : κ → Int32) (vm : κ → Mem) (X : CX D tys n ad Z p s m args meth c cc nL own ret) (hZ : ZOK Z) {y : MethodName} {bytes : ByteArray} {nY index na : Nat} {rm : Room} (hF : bd o F = some res) {stk : List Value} (As : List Value) {tO : Nat} {sK sV : Nat → Nat} (hO : ZO Z tO sK sV) {t : Nat} (ht : t < 17) (hqy : y.cls = "java/lang/String") (hs : As.reverse ++ .ref (sK t) :: st = stk) (b : MB y bytes nY (some rty) na) (w1 : Cond.methodLink own index y ∈ GW) (hM : ∀ r : κ, o = some r → CI l D tys n ad cf Z y bytes nY rty rm (.ref (sK t) :: As) mem (vx r) (vm r)) (hna : As.length = na) (hrc : rm.cells = 0) (hrs : rm.slots = 0) (hR : rm.frames + 1 ≤ R.frames ∧ 8 + (nY + 11) + rm.locals ≤ R.locals) (hst : (st.map fun v => v.category).sum ≤ 8) (hcs : cells ≤ R.cells ∧ slots ≤ R.slots) (hdg : decode cc pc = .ok (.invokevirtual index, 3)) (pc2 : Nat) (hp : pc + 3 = pc2) (kk : ∀ r : κ, F r = some res → WW D n ad cf p l e R s m args below meth c nL cells slots Q (vm r) pc2 lv (.int (vx r) :: st)) : WW D n ad cf p l e R s m args below meth c nL cells slots Q mem pc lv stk := by
  subst hp
  subst hs
  obtain ⟨r, ho, hF⟩ := bd_some hF
  intro H locs ls hP hS hl
  have hM := hM r ho H.size
  have hbl : FrameBlind (va_Pc (.ref (sK t) :: As) (PW D tys n ad cf Z mem H.size)) := PW_bl hZ
  have hpre : ∀ U : State, U.heap = H → s.WarmedH U.vm → va_Pc (.ref (sK t) :: As) (PW D tys n ad cf Z mem H.size) ((.ref (sK t) :: As) : List Value).toArray U := fun U hU hW => ⟨rfl, PW_of X hZ hP hS hU hW⟩
  obtain ⟨w2, w4, w3, w5, hd⟩ := b
  have hg : GoodIn GW (Cond.code y bytes nY (some rty) :: GW) := gw_cons w5
  have cw : CallW R s args own y.cls index y bytes nY (some rty) (Cond.code y bytes nY (some rty) :: GW) rm 0 0 na := ⟨callB_of na X.1.2.2.2.2 hg rfl hrc hrs (X.1.2.2.2.2 _ w3) (X.1.2.2.2.2 _ w1) hd hR, X.1.2.2.2.2 _ w2, X.1.2.2.2.2 _ w4⟩
  have hrv : ∃ cellB : Cell, H[sK t]? = some cellB ∧ cellB.vm.isStatics = false ∧ s.vm.findClass y.cls = some cellB.cls := by
    rw [hqy]
    obtain ⟨cell, g1, g2, g3, -⟩ := ((hO _ _ _ X.2.2.2.2.2).2.1 t ht).1.kept hS.2.1
    exact ⟨cell, g1, g2, g3⟩
  have hr := va_runV (rest := st) X.1 hM cw ⟨hbl, hrv, hpre⟩ (g := F0 m pc ls (As.reverse ++ .ref (sK t) :: st)) (H := H) (locs := locs) (cells := cells) (slots := slots) (below := below) (e := e) (meth := meth) rfl hna hl.1 rfl (lv_room hst) hdg hcs
  refine va_calli hr hS (fun q _ h => AA_le hS.1 q h) (fun q h => AA_le hS.1 q h) (fun x u t H1 locs1 ht hvm hw hB hz1 hk1 hS1 => ?_)
  obtain ⟨rfl, -⟩ := hw
  rw [ht] at hB
  exact kk r hF H1 locs1 ls hB hS1 hl
end ROWS
