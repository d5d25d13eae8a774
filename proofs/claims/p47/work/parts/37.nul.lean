section NUL
variable {D : va_G} {tys : List (ClassId × FieldType)} {n : Nat} {ad : Nat → Nat} {cf : Nat → Row → va_E} {Z : (Nat → Prop) → State → Heap → Prop} {p : Program} {l : Launch} {e : Env} {R : Room} {s : State} {m : MethodId} {args : Array Value} {below : List Frame} {meth : Method} {c : Code} {cc : ByteArray} {nL : Nat} {own : String} {ret : Option FieldType} {cells slots : Nat} {Q : State → Prop} {mem : Mem} {ex : va_W} {pc : Nat} {lv : List (Nat × Value)} {st : List Value}
/-- none, or a row of four ints -/
def vB (b : Option (Nat → Int32)) (q : Nat) : Value := match b with
  | none => .null
  | some _ => .ref q
def exB (ca : Nat → Nat) (b : Option (Nat → Int32)) (q : Nat) : va_W := match b with
  | none => []
  | some f => [(q, .inl (ca 0, 4, .inl f))]
def mtB {α : Type} (b : Option (Nat → Int32)) (A : Option α) (F : (Nat → Int32) → Option α) : Option α := match b with
  | none => A
  | some f => F f
theorem x_ifnullB {ca : Nat → Nat} {ρ : Type} {A : Option ρ} {F : (Nat → Int32) → Option ρ} {res : ρ} {off : Int} (X : CX D tys n ad Z p s m args meth c cc nL own ret) (lvf : Value → List (Nat × Value)) (b : Option (Nat → Int32)) (q : Nat) (hF : mtB b A F = some res) (tgt pc2 : Nat) (hdg : decode cc pc = .ok (.ifnull off, 3)) (ht : (pc : Int) + off = (tgt : Int)) (hp : pc + 3 = pc2) (kt : A = some res → XX D n ad cf p l e R s m args below meth c nL cells slots Q mem [] tgt (lvf .null) st) (kf : ∀ f, F f = some res → XX D n ad cf p l e R s m args below meth c nL cells slots Q mem [(q, .inl (ca 0, 4, .inl f))] pc2 (lvf (.ref q)) st) : XX D n ad cf p l e R s m args below meth c nL cells slots Q mem (exB ca b q) pc (lvf (vB b q)) (vB b q :: st) := by
  subst hp
  cases b with
  | none => exact fun H locs ls hP hD hS hl => lv_ifnullN X.1.1 X.1.2.1 hdg ht (kt hF H locs ls hP hD hS hl)
  | some f => exact fun H locs ls hP hD hS hl => lv_ifnull X.1.1 X.1.2.1 hdg (kf f hF H locs ls hP hD hS hl)
theorem x_anullB (X : CX D tys n ad Z p s m args meth c cc nL own ret) (hdg : decode cc pc = .ok (.aconst_null, 1)) (pc2 : Nat) (hp : pc + 1 = pc2) (kk : XX D n ad cf p l e R s m args below meth c nL cells slots Q mem ex pc2 lv (.null :: st)) : XX D n ad cf p l e R s m args below meth c nL cells slots Q mem ex pc lv st := x_anull X hdg pc2 hp kk
theorem vB_cat {b : Option (Nat → Int32)} {q : Nat} : (vB b q).category = 1 := by cases b <;> rfl
theorem x_aload_nB {f : Fin 4} {i : Nat} (X : CX D tys n ad Z p s m args meth c cc nL own ret) (b : Option (Nat → Int32)) (q : Nat) (k : Nat) (hdg : decode cc pc = .ok (.aload_n f, 1)) (hi : (f : Nat) = i) (hk : lv[k]? = some (i, vB b q)) (pc2 : Nat) (hp : pc + 1 = pc2) (kk : XX D n ad cf p l e R s m args below meth c nL cells slots Q mem ex pc2 lv (vB b q :: st)) : XX D n ad cf p l e R s m args below meth c nL cells slots Q mem ex pc lv st := by
  subst hp
  intro H locs ls hP hD hS hl
  cases b with
  | none => exact lv_aload_nN X.1.1 X.1.2.1 hdg hi (lv_at hl k hk) (kk H locs ls hP hD hS hl)
  | some g => exact lv_aload_n X.1.1 X.1.2.1 hdg hi (lv_at hl k hk) (kk H locs ls hP hD hS hl)
/-- what stood first is dropped -/
theorem x_skip (ex1 ex2 : va_W) (h : ex = ex1 ++ ex2) (kk : XX D n ad cf p l e R s m args below meth c nL cells slots Q mem ex2 pc lv st) : XX D n ad cf p l e R s m args below meth c nL cells slots Q mem ex pc lv st := by
  subst h
  intro H locs ls hP hD hS hl
  have hw : ∀ (k : Nat) (q : Nat × va_E), (wf n ad cf mem ++ ex2)[k]? = some q → (wf n ad cf mem ++ (ex1 ++ ex2))[if k < n then k else k + ex1.length]? = some q := fun k q hq => by
    by_cases hk : k < n
    · rw [if_pos hk]
      rw [List.getElem?_append_left (by rw [wf_len]; exact hk)] at hq ⊢
      exact hq
    · rw [if_neg hk]
      rw [List.getElem?_append_right (by rw [wf_len]; omega), wf_len] at hq
      rw [List.getElem?_append_right (by rw [wf_len]; omega), wf_len, List.getElem?_append_right (by omega), show k + ex1.length - n - ex1.length = k - n by omega]
      exact hq
  refine kk H locs ls (fun k q hq => hP _ q (hw k q hq)) ⟨fun i j x y hx hy he => ?_, fun k q hq => hD.2 _ q (hw k q hq)⟩ hS hl
  have := hD.1 _ _ x y (hw i x hx) (hw j y hy) he
  by_cases h1 : i < n <;> by_cases h2 : j < n
  · rw [if_pos h1, if_pos h2] at this; exact this
  · rw [if_pos h1, if_neg h2] at this; omega
  · rw [if_neg h1, if_pos h2] at this; omega
  · rw [if_neg h1, if_neg h2] at this; omega
/-- contract: none or a new row of four -/
def CJn (l : Launch) (D : va_G) (tys : List (ClassId × FieldType)) (n : Nat) (ad : Nat → Nat) (cf : Nat → Row → va_E) (Z : (Nat → Prop) → State → Heap → Prop) (ca : Nat → Nat) (y : MethodName) (cc : ByteArray) (nL : Nat) (ret : FieldType) (rm : Room) (av : List Value) (mem : Mem) (b : Option (Nat → Int32)) (mem' : Mem) : Prop :=
  ∀ sz : Nat, Met l y (Cond.code y cc nL (some ret) :: GW) rm (va_Pc av (PW D tys n ad cf Z mem sz)) (fun _ st oc t => (∃ q : Nat, oc = .returned (some (vB b q)) ∧ va_P D vwCl (wf n ad cf mem' ++ exB ca b q) t.heap ∧ va_D (AA n ad sz) (wf n ad cf mem' ++ exB ca b q) ∧ ∀ x ∈ exB ca b q, sz ≤ x.1) ∧ va_F (AA n ad sz) st t) rm.cells rm.slots (AA n ad sz)
def QN (D : va_G) (n : Nat) (ad : Nat → Nat) (cf : Nat → Row → va_E) (ca : Nat → Nat) (b : Option (Nat → Int32)) (mem' : Mem) (sz : Nat) : Array Value → State → Outcome → State → Prop := fun _ st oc t => (∃ q : Nat, oc = .returned (some (vB b q)) ∧ va_P D vwCl (wf n ad cf mem' ++ exB ca b q) t.heap ∧ va_D (AA n ad sz) (wf n ad cf mem' ++ exB ca b q) ∧ ∀ x ∈ exB ca b q, sz ≤ x.1) ∧ va_F (AA n ad sz) st t
theorem xstart_nn {ca : Nat → Nat} {y : MethodName} {rt : FieldType} {rm : Room} {av : List Value} {b : Option (Nat → Int32)} {mem' : Mem} (ho : y.cls = own) (hy : plainName y.cls = true) (hn : (lg_sl av).length ≤ nL)
    (body : ∀ p e s m args below meth c Q, Q = MQ below (QN D n ad cf ca b mem' s.heap.size) args s rm.cells rm.slots (AA n ad s.heap.size) → CX D tys n ad Z p s m args meth c cc nL own (some rt) → XX D n ad cf p l e rm s m args below meth c nL 0 0 Q mem [] 0 (lv_args 0 av) []) : CJn l D tys n ad cf Z ca y cc nL rt rm av mem b mem' := by
  subst ho
  intro sz
  refine Met.ofW (cc := cc) (maxL := nL) (ret := some rt) hy rfl ?_
  intro p e s m args below meth c s₁ B hml hv
  obtain ⟨rfl, hsz, hP, hK, hI, hZ⟩ := hv
  subst hsz
  have hts := atoms_spec (ws := Cond.code y cc nL (some rt) :: GW) B.pre
  rw [lg_entry_eq]
  exact body p e s m _ below meth c _ rfl ⟨⟨B.exec, B.bytes, hml, findClass_of_methodNamed B.named, fun w hw => hts w (List.mem_cons_of_mem _ hw)⟩, B.returns, B.notSynchronized, hK, hI, hZ⟩ s.heap [] _ (by rw [List.append_nil]; exact hP) (by rw [List.append_nil]; exact wf_D hI) va_S.rf (lv_entry av hn)
theorem x_aretN {ca : Nat → Nat} {b b' : Option (Nat → Int32)} {q : Nat} {mem' : Mem} {rt : FieldType} {k1 k2 : Nat} (X : CX D tys n ad Z p s m args meth c cc nL own (some rt)) (hrt : (∃ n, rt = .object n) ∨ ∃ t, rt = .array t) (hQ : Q = MQ below (QN D n ad cf ca b' mem' s.heap.size) args s k1 k2 (AA n ad s.heap.size)) (hb : b = b') (hm : mem = mem') (h1 : cells ≤ k1) (h2 : slots ≤ k2) (hdg : decode cc pc = .ok (.areturn, 1)) : XX D n ad cf p l e R s m args below meth c nL cells slots Q mem (exB ca b q) pc lv [vB b q] := by
  subst hm; subst hQ; subst hb
  exact fun H locs ls hP hD hS hl => W.widen h1 h2 (W.aret X.1.1 X.1.2.1 X.2.1 hrt (by cases b with
    | none => exact Or.inl rfl
    | some f => exact Or.inr ⟨q, rfl⟩) (fun t ht hW => ⟨⟨q, rfl, by rw [ht]; exact hP, hD, ex_new hD⟩, hS.F ht⟩) hS.2.2 hdg X.2.2.1)
theorem x_callVn {ρ κ : Type} {o : Option κ} {F : κ → Option ρ} {res : ρ} {rty : FieldType} {ca : Nat → Nat} (vb : κ → Option (Nat → Int32)) (vm : κ → Mem) (X : CX D tys n ad Z p s m args meth c cc nL own ret) (hZ : ZOK Z) {y : MethodName} {bytes : ByteArray} {nY index na : Nat} {rm : Room} (hF : bd o F = some res) {stk : List Value} (As : List Value) (kb : Nat) (hk : kb < n) {ci : Nat} {fl : Row → List Value} {q : vw_C} (he : ∀ f : Row, cf kb f = .inr (ci, fl f)) (hq : vwCl[ci]? = some q) (hqy : y.cls = q.1) (hs : As.reverse ++ .ref (ad kb) :: st = stk) (b : MB y bytes nY (some rty) na) (w1 : Cond.methodLink own index y ∈ GW) (hM : ∀ r : κ, o = some r → CJn l D tys n ad cf Z ca y bytes nY rty rm (.ref (ad kb) :: As) mem (vb r) (vm r)) (hna : As.length = na) (hR : rm.frames + 1 ≤ R.frames ∧ 8 + (nY + 11) + rm.locals ≤ R.locals) (hst : (st.map fun v => v.category).sum ≤ 8) (hcs : cells + rm.cells ≤ R.cells ∧ slots + rm.slots ≤ R.slots) (hdg : decode cc pc = .ok (.invokevirtual index, 3)) (pc2 : Nat) (hp : pc + 3 = pc2) (kk : ∀ (r : κ) (a : Nat), F r = some res → XX D n ad cf p l e R s m args below meth c nL (cells + rm.cells) (slots + rm.slots) Q (vm r) (ex ++ exB ca (vb r) a) pc2 lv (vB (vb r) a :: st)) : XX D n ad cf p l e R s m args below meth c nL cells slots Q mem ex pc lv stk := by
  subst hp
  subst hs
  obtain ⟨r, ho, hF⟩ := bd_some hF
  intro H locs ls hP hD hS hl
  have hM := hM r ho H.size
  have hbl : FrameBlind (va_Pc (.ref (ad kb) :: As) (PW D tys n ad cf Z mem H.size)) := PW_bl hZ
  have hpre : ∀ U : State, U.heap = H → s.WarmedH U.vm → va_Pc (.ref (ad kb) :: As) (PW D tys n ad cf Z mem H.size) ((.ref (ad kb) :: As) : List Value).toArray U := fun U hU hW => ⟨rfl, PX_of X hZ hP hS hU hW⟩
  obtain ⟨w2, w4, w3, w5, hd⟩ := b
  have hg : GoodIn GW (Cond.code y bytes nY (some rty) :: GW) := gw_cons w5
  have cw : CallW R s args own y.cls index y bytes nY (some rty) (Cond.code y bytes nY (some rty) :: GW) rm rm.cells rm.slots na := ⟨callB_of na X.1.2.2.2.2 hg rfl rfl rfl (X.1.2.2.2.2 _ w3) (X.1.2.2.2.2 _ w1) hd hR, X.1.2.2.2.2 _ w2, X.1.2.2.2.2 _ w4⟩
  have hrv : ∃ cellB : Cell, H[ad kb]? = some cellB ∧ cellB.vm.isStatics = false ∧ s.vm.findClass y.cls = some cellB.cls := by
    rw [hqy]
    exact va_recv X.2.2.2.1 hP hq (q0 := kb) (a := ad kb) (by rw [wx_at hk, he])
  have hr := va_runV (rest := st) X.1 hM cw ⟨hbl, hrv, hpre⟩ (g := F0 m pc ls (As.reverse ++ .ref (ad kb) :: st)) (H := H) (locs := locs) (cells := cells) (slots := slots) (below := below) (e := e) (meth := meth) rfl hna hl.1 rfl (lv_room hst) hdg hcs
  intro T hT XT
  obtain ⟨v, st₀, t, T', L, h0, X', hL, e1, e2, ⟨⟨q, hv, hB, hDB, hNB⟩, hz, hk⟩, st9⟩ := hr T hT XT
  cases hv
  rw [h0] at hz hk
  have hk1 : ∀ x : Nat, x < H.size → ¬ AA n ad H.size x → T'.heap[x]? = H[x]? := fun x h1 h2 => by rw [e1]; exact hk x h1 h2
  have hS1 : va_S (AA n ad s.heap.size) s.heap T'.heap (locs ++ L) := ⟨Nat.le_trans hS.1 (by rw [e1]; exact hz), fun x h1 h2 => by
    rw [e1, hk x (Nat.lt_of_lt_of_le h1 hS.1) (fun z => h2 (AA_le hS.1 x z))]
    exact hS.2.1 x h1 h2, fun x hx => by
    rcases List.mem_append.mp hx with h | h
    · exact hS.2.2 x h
    · exact AA_le hS.1 _ (hL x h)⟩
  rw [← e1] at hB
  obtain ⟨hP1, hD1⟩ := wx_fr2 hP hD hB hDB hNB hS.1 hk1
  obtain ⟨t2, a1, b1⟩ := kk r q hF T'.heap (locs ++ L) ls hP1 hD1 hS1 hl T' rfl X'
  exact ⟨t2, st9 t2 a1, b1⟩
theorem x_astore_nB {f : Fin 4} {i : Nat} (X : CX D tys n ad Z p s m args meth c cc nL own ret) (b : Option (Nat → Int32)) (q : Nat) (lv2 : List (Nat × Value)) (hdg : decode cc pc = .ok (.astore_n f, 1)) (hi : (f : Nat) = i) (hn : i < nL) (hv : (i, vB b q) :: lv.filter (fun q => !(q.1 == i) && !(q.1 + 1 == i && q.2.category == 2)) = lv2) (pc2 : Nat) (hp : pc + 1 = pc2) (kk : XX D n ad cf p l e R s m args below meth c nL cells slots Q mem ex pc2 lv2 st) : XX D n ad cf p l e R s m args below meth c nL cells slots Q mem ex pc lv (vB b q :: st) := by
  subst hp
  cases b with
  | none => exact fun H locs ls hP hD hS hl => lv_astore_nN X.1.1 X.1.2.1 hdg hi hl hn hv (fun ls hl => kk H locs ls hP hD hS hl)
  | some g => exact fun H locs ls hP hD hS hl => lv_astore_n X.1.1 X.1.2.1 hdg hi hl hn hv (fun ls hl => kk H locs ls hP hD hS hl)
end NUL
