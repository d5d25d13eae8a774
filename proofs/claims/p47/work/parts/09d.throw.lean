section THROW
abbrev TR : Type := Nat × Int32 × Mem
def exN (k : Nat) : String := if k = 1 then "java/lang/IllegalArgumentException" else if k = 2 then "java/lang/IllegalStateException" else "java/lang/IndexOutOfBoundsException"
def nmX : List String := ["java/lang/RuntimeException", "java/lang/Exception"]
def dcX : List Cond := [.declares (Bundle.initS "java/lang/RuntimeException"), .declares (Bundle.initS "java/lang/Exception"), .declares (Bundle.initS Bundle.tN)]
def strX : List (Nat × String) := [(95, "the buffer is full"), (106, "no such length"), (113, "the text has an error"), (167, "no such setting"), (198, "no such number of a pawn"), (303, "the wall is not admissible"), (319, "no such step now"), (330, "no such wall now"), (339, "no passing now"), (362, "no such pawn"), (368, "no such cell"), (373, "no such place"), (375, "no such direction"), (380, "no such mode or number of turns")]
def EXB (E : String) (ik ic : Nat) : Prop := Bundle.fit E = true ∧ Cond.classLink RX11 ik E ∈ GW ∧ Cond.initialized E ∈ GW ∧ (∀ w ∈ (vx_atS RX11 ic E nmX).filter goodWord, w ∈ GW) ∧ (∀ w ∈ (vx_atS RX11 ic E nmX).filter (fun w => !goodWord w), w ∈ Cond.castable E E :: dcX) ∧ (∀ w ∈ vx_atS RX11 ic E nmX, vx_ot w = true)
theorem exB_1 : EXB (exN 1) 104 108 := ⟨by decide +kernel, gw_c tb_4 58 rfl rfl, gw_c tb_1 34 rfl rfl, gw_sub [72, 842, 851, 855, 858, 860, 843, 844, 85, 86, 845, 850, 856, 876, 832, 877, 834, 878, 836, 846, 848, 838, 872, 873, 875, 838, 863, 864, 865, 866, 866, 867, 868, 869, 869, 870, 871, 872, 862, 821, 829, 830, 831, 833, 835, 837, 841, 840, 839] (by decide +kernel) (by decide +kernel), by decide +kernel, by decide +kernel⟩
theorem exB_2 : EXB (exN 2) 93 97 := ⟨by decide +kernel, gw_c tb_6 154 rfl rfl, gw_c tb_1 33 rfl rfl, gw_sub [72, 842, 851, 855, 858, 860, 843, 844, 85, 86, 845, 850, 856, 876, 832, 877, 834, 878, 836, 846, 848, 838, 872, 873, 875, 838, 1407, 1408, 1409, 866, 866, 867, 868, 869, 869, 870, 871, 872, 1406, 1397, 1399, 853, 1400, 1401, 1402, 1403, 841, 840, 1404] (by decide +kernel) (by decide +kernel), by decide +kernel, by decide +kernel⟩
theorem exB_3 : EXB (exN 3) 350 354 := ⟨by decide +kernel, gw_c tb_7 58 rfl rfl, gw_c tb_1 35 rfl rfl, gw_sub [72, 842, 851, 855, 858, 860, 843, 844, 85, 86, 845, 850, 856, 876, 832, 877, 834, 878, 836, 846, 848, 838, 872, 873, 875, 838, 1551, 1552, 1553, 866, 866, 867, 868, 869, 869, 870, 871, 872, 1550, 1541, 1543, 854, 1544, 1545, 1546, 1547, 841, 840, 1548] (by decide +kernel) (by decide +kernel), by decide +kernel, by decide +kernel⟩
/-- what the throws stand on -/
def zX (A : Nat → Prop) (U : State) (H : Heap) : Prop := vx_Zq Bundle.tN "UNASSIGNED_STACK" Bundle.steD A U H ∧ vx_Zq Bundle.tN "SUPPRESSED_SENTINEL" Bundle.listD A U H ∧ (∀ k, 1 ≤ k ∧ k ≤ 3 → va_Nw (.castable (exN k) (exN k)) U) ∧ (∀ w ∈ dcX, va_Nw w U) ∧ True ∧ ∀ (t : Nat) (q : Nat × String), strX[t]? = some q → ∃ a, vk_R RX11 q.1 q.2 a U
def ZX (Z : (Nat → Prop) → State → Heap → Prop) : Prop := ∀ A U H, Z A U H → zX A U H
/-- a callee that may throw comes back: 0, or the number of the class that it threw -/
def bdt (o : Option Nat) (mem : Mem) (r : Option TR) : Option TR := match o with
  | none => none
  | some 0 => r
  | some (k + 1) => some (k + 1, 0, mem)
/-- a method that answers an int or throws: its end and the memory behind it -/
def QI (D : va_G) (n : Nat) (ad : Nat → Nat) (cf : Nat → Row → va_E) (res : TR) (sz : Nat) : Array Value → State → Outcome → State → Prop := va_Qi (fun (r : Int32) (u : Unit) => (res.1 = 0 ∧ r = res.2.1) ∧ u = ()) (fun _ t => va_P D vwCl (wf n ad cf res.2.2) t.heap) (AA n ad sz)
def QV (D : va_G) (n : Nat) (ad : Nat → Nat) (cf : Nat → Row → va_E) (res : TR) (sz : Nat) : Array Value → State → Outcome → State → Prop := va_Qv (fun (u : Unit) => res.1 = 0 ∧ u = ()) (fun _ t => va_P D vwCl (wf n ad cf res.2.2) t.heap) (AA n ad sz)
def QX (D : va_G) (n : Nat) (ad : Nat → Nat) (cf : Nat → Row → va_E) (res : TR) (sz : Nat) : String → State → State → Prop := vx_X (fun u : Unit => u = ()) (fun E _ t => (1 ≤ res.1 ∧ res.1 ≤ 3) ∧ E = exN res.1 ∧ va_P D vwCl (wf n ad cf res.2.2) t.heap) (AA n ad sz)
def CT (l : Launch) (D : va_G) (tys : List (ClassId × FieldType)) (n : Nat) (ad : Nat → Nat) (cf : Nat → Row → va_E) (Z : (Nat → Prop) → State → Heap → Prop) (y : MethodName) (cc : ByteArray) (nL : Nat) (ret : FieldType) (rm : Room) (av : List Value) (mem : Mem) (res : TR) : Prop :=
  ∀ sz : Nat, vx_Met l y (Cond.code y cc nL (some ret) :: GW) rm (va_Pc av (PW D tys n ad cf Z mem sz)) (QI D n ad cf res sz) (QX D n ad cf res sz) 3 18 (AA n ad sz)
def CTv (l : Launch) (D : va_G) (tys : List (ClassId × FieldType)) (n : Nat) (ad : Nat → Nat) (cf : Nat → Row → va_E) (Z : (Nat → Prop) → State → Heap → Prop) (y : MethodName) (cc : ByteArray) (nL : Nat) (rm : Room) (av : List Value) (mem : Mem) (k : Nat) : Prop :=
  ∀ sz : Nat, vx_Met l y (Cond.code y cc nL none :: GW) rm (va_Pc av (PW D tys n ad cf Z mem sz)) (QV D n ad cf (k, 0, mem) sz) (QX D n ad cf (k, 0, mem) sz) 1 6 (AA n ad sz)
variable {D : va_G} {tys : List (ClassId × FieldType)} {n : Nat} {ad : Nat → Nat} {cf : Nat → Row → va_E} {Z : (Nat → Prop) → State → Heap → Prop} {p : Program} {l : Launch} {e : Env} {R : Room} {s : State} {m : MethodId} {args : Array Value} {below : List Frame} {meth : Method} {c : Code} {cc : ByteArray} {nL : Nat} {own : String} {ret : Option FieldType} {cells slots : Nat} {Q : State → Prop} {mem : Mem} {res : TR} {mc ms : Nat} {pc : Nat} {lv : List (Nat × Value)} {st : List Value}
theorem start_t {y : MethodName} {rt : FieldType} {rm : Room} {av : List Value} (ho : y.cls = own) (hy : plainName y.cls = true) (hn : (lg_sl av).length ≤ nL)
    (body : ∀ p e s m args below meth c Q, Q = vx_MQ below (QI D n ad cf res s.heap.size) (QX D n ad cf res s.heap.size) args s 3 18 (AA n ad s.heap.size) → (∀ x ∈ c.exceptionTable.toList, False) → CX D tys n ad Z p s m args meth c cc nL own (some rt) → WW D n ad cf p l e rm s m args below meth c nL 0 0 Q mem 0 (lv_args 0 av) []) : CT l D tys n ad cf Z y cc nL rt rm av mem res := by
  subst ho
  intro sz
  refine vx_ofW (cc := cc) (maxL := nL) (ret := some rt) hy rfl ?_
  intro p e s m args below meth c s₁ B hml htb hv
  obtain ⟨rfl, hsz, hP, hK, hI, hZ⟩ := hv
  subst hsz
  have hts := atoms_spec (ws := Cond.code y cc nL (some rt) :: GW) B.pre
  rw [lg_entry_eq]
  exact body p e s m _ below meth c _ rfl htb ⟨⟨B.exec, B.bytes, hml, findClass_of_methodNamed B.named, fun w hw => hts w (List.mem_cons_of_mem _ hw)⟩, B.returns, B.notSynchronized, hK, hI, hZ⟩ s.heap [] _ hP va_S.rf (lv_entry av hn)
theorem start_tv {y : MethodName} {rm : Room} {av : List Value} {k : Nat} (ho : y.cls = own) (hy : plainName y.cls = true) (hn : (lg_sl av).length ≤ nL)
    (body : ∀ p e s m args below meth c Q, Q = vx_MQ below (QV D n ad cf (k, 0, mem) s.heap.size) (QX D n ad cf (k, 0, mem) s.heap.size) args s 1 6 (AA n ad s.heap.size) → (∀ x ∈ c.exceptionTable.toList, False) → CX D tys n ad Z p s m args meth c cc nL own none → WW D n ad cf p l e rm s m args below meth c nL 0 0 Q mem 0 (lv_args 0 av) []) : CTv l D tys n ad cf Z y cc nL rm av mem k := by
  subst ho
  intro sz
  refine vx_ofW (cc := cc) (maxL := nL) (ret := none) hy rfl ?_
  intro p e s m args below meth c s₁ B hml htb hv
  obtain ⟨rfl, hsz, hP, hK, hI, hZ⟩ := hv
  subst hsz
  have hts := atoms_spec (ws := Cond.code y cc nL none :: GW) B.pre
  rw [lg_entry_eq]
  exact body p e s m _ below meth c _ rfl htb ⟨⟨B.exec, B.bytes, hml, findClass_of_methodNamed B.named, fun w hw => hts w (List.mem_cons_of_mem _ hw)⟩, B.returns, B.notSynchronized, hK, hI, hZ⟩ s.heap [] _ hP va_S.rf (lv_entry av hn)
/-- an int's return -/
theorem w_tret {x : Int32} {rt : FieldType} {XC : String → State → State → Prop} (X : CX D tys n ad Z p s m args meth c cc nL own (some rt)) (hQ : Q = vx_MQ below (QI D n ad cf res s.heap.size) XC args s mc ms (AA n ad s.heap.size)) (hr : (0, x, mem) = res) (hn : narrow rt (.int x) = .int x) (hcs : cells ≤ mc ∧ slots ≤ ms) (hdg : decode cc pc = .ok (.ireturn, 1)) : WW D n ad cf p l e R s m args below meth c nL cells slots Q mem pc lv [.int x] := by
  subst hr; subst hQ
  exact fun H locs ls hP hS hl => W.widen hcs.1 hcs.2 (vx_ret (W.zret X.1.1 X.1.2.1 X.2.1 hn (fun t ht hW => ⟨⟨x, (), rfl, ⟨⟨rfl, rfl⟩, rfl⟩, by rw [← ht] at hP; exact hP⟩, hS.F ht⟩) hS.2.2 hdg X.2.2.1))
theorem w_tvret {XC : String → State → State → Prop} (X : CX D tys n ad Z p s m args meth c cc nL own none) (hQ : Q = vx_MQ below (QV D n ad cf res s.heap.size) XC args s mc ms (AA n ad s.heap.size)) (hr : (0, 0, mem) = res) (hcs : cells ≤ mc ∧ slots ≤ ms) (hdg : decode cc pc = .ok (.return_, 1)) : WW D n ad cf p l e R s m args below meth c nL cells slots Q mem pc lv [] := by
  subst hr; subst hQ
  exact fun H locs ls hP hS hl => W.widen hcs.1 hcs.2 (vx_ret (W.vret X.1.1 X.1.2.1 X.2.1 (fun t ht hW => ⟨⟨(), rfl, ⟨rfl, rfl⟩, by rw [← ht] at hP; exact hP⟩, hS.F ht⟩) hS.2.2 hdg X.2.2.1))
/-- the heap only grows: what is there stays -/
theorem wP_lt {H H1 : Heap} (hP : va_P D vwCl (wf n ad cf mem) H) (hq : ∀ q : Nat, q < H.size → H1[q]? = H[q]?) : va_P D vwCl (wf n ad cf mem) H1 := hP.kept (fun k q hk => hq _ (vx_lt hP hk))
/-- 'throw new E("text")' -/
theorem w_thr {ik is ic : Nat} {text : String} {Qc : Array Value → State → Outcome → State → Prop} (X : CX D tys n ad Z p s m args meth c cc nL RX11 ret) (hX : ZX Z) (hl : l.stackTraces = false) (htb : ∀ x ∈ c.exceptionTable.toList, False) (hQ : Q = vx_MQ below Qc (QX D n ad cf res s.heap.size) args s mc ms (AA n ad s.heap.size)) (k : Nat) (hk : 1 ≤ k ∧ k ≤ 3) (hres : (k, 0, mem) = res) (b : EXB (exN k) ik ic) (t : Nat) (ht : strX[t]? = some (is, text)) (hR : 6 ≤ R.frames ∧ 82 ≤ R.locals) (hR2 : cells + 1 ≤ R.cells ∧ slots + 6 ≤ R.slots) (hcs : cells + 1 ≤ mc ∧ slots + 6 ≤ ms) (d0 : decode cc pc = .ok (.new ik, 3)) (d3 : decode cc (pc + 3) = .ok (.dup, 1)) (d4 : decode cc (pc + 4) = .ok (.ldc is, 2)) (d6 : decode cc (pc + 6) = .ok (.invokespecial ic, 3)) (d9 : decode cc (pc + 9) = .ok (.athrow, 1)) : WW D n ad cf p l e R s m args below meth c nL cells slots Q mem pc lv [] := by
  subst hres; subst hQ
  intro H locs ls hP hS hlv
  obtain ⟨zU, zN, zC, zD, -, zT⟩ := hX _ _ _ X.2.2.2.2.2
  obtain ⟨sa, hstr⟩ := zT t _ ht
  obtain ⟨b1, b2, b3, b4, b5, b6⟩ := b
  have hat : ∀ w ∈ vx_atS RX11 ic (exN k) nmX, w.before args s = true := vx_hat (B := Cond.castable (exN k) (exN k) :: dcX) (fun w hw => X.1.2.2.2.2 _ (b4 w hw)) b5 (fun w hw => by
    rcases List.mem_cons.mp hw with e | e
    · rw [e]; exact (zC k hk).use rfl
    · refine (zD w e).use ?_
      simp only [dcX, List.mem_cons, List.not_mem_nil, or_false] at e
      rcases e with e | e | e <;> rw [e] <;> rfl)
  have hgd : ∀ w : Cond, w ∈ GW → vx_ot w = true := fun w hw => by
    have := (List.mem_filter.mp hw).2
    simp [vx_ot, this]
  refine vx_throwS (mc := mc) (ms := ms) (sa := sa) (A := AA n ad s.heap.size) (names := nmX) (cls := exN k) (own := RX11) X.1.1 X.1.2.1 hl X.1.2.2.2.1 b1 (by decide) (X.1.2.2.2.2 _ b2) (X.1.2.2.2.2 _ b3) hstr hat (fun w hw => ?_) zU zN hS (hlv.1.trans X.1.2.2.1.symm) d0 d3 d4 d6 d9 (fun x hx => (htb x hx).elim) (by have := hR.1; simp only [nmX, List.length_cons, List.length_nil]; omega) (by have := hR.2; simp only [nmX, List.length_cons, List.length_nil, List.map_nil, List.sum_nil]; omega) hR2.1 hR2.2 X.2.2.1 (fun t _ h1 h2 => ?_) hS.2.2 hcs.1 hcs.2
  · rcases List.mem_cons.mp hw with e | e
    · rw [e]; exact hgd _ b2
    · rcases List.mem_cons.mp e with e | e
      · rw [e]; exact hgd _ b3
      · exact b6 w e
  · refine ⟨(), rfl, ⟨hk, rfl, wP_lt hP h2⟩, Nat.le_trans hS.1 h1, fun q hq hA => ?_⟩
    rw [h2 q (Nat.lt_of_lt_of_le hq hS.1)]
    exact hS.2.1 q hq hA
/-- .. the text by a wide index -/
theorem w_thrW {ik is ic : Nat} {text : String} {Qc : Array Value → State → Outcome → State → Prop} (X : CX D tys n ad Z p s m args meth c cc nL RX11 ret) (hX : ZX Z) (hl : l.stackTraces = false) (htb : ∀ x ∈ c.exceptionTable.toList, False) (hQ : Q = vx_MQ below Qc (QX D n ad cf res s.heap.size) args s mc ms (AA n ad s.heap.size)) (k : Nat) (hk : 1 ≤ k ∧ k ≤ 3) (hres : (k, 0, mem) = res) (b : EXB (exN k) ik ic) (t : Nat) (ht : strX[t]? = some (is, text)) (hR : 6 ≤ R.frames ∧ 82 ≤ R.locals) (hR2 : cells + 1 ≤ R.cells ∧ slots + 6 ≤ R.slots) (hcs : cells + 1 ≤ mc ∧ slots + 6 ≤ ms) (d0 : decode cc pc = .ok (.new ik, 3)) (d3 : decode cc (pc + 3) = .ok (.dup, 1)) (d4 : decode cc (pc + 4) = .ok (.ldc_w is, 3)) (d6 : decode cc (pc + 7) = .ok (.invokespecial ic, 3)) (d9 : decode cc (pc + 10) = .ok (.athrow, 1)) : WW D n ad cf p l e R s m args below meth c nL cells slots Q mem pc lv [] := by
  subst hres; subst hQ
  intro H locs ls hP hS hlv
  obtain ⟨zU, zN, zC, zD, -, zT⟩ := hX _ _ _ X.2.2.2.2.2
  obtain ⟨sa, hstr⟩ := zT t _ ht
  obtain ⟨b1, b2, b3, b4, b5, b6⟩ := b
  have hat : ∀ w ∈ vx_atS RX11 ic (exN k) nmX, w.before args s = true := vx_hat (B := Cond.castable (exN k) (exN k) :: dcX) (fun w hw => X.1.2.2.2.2 _ (b4 w hw)) b5 (fun w hw => by
    rcases List.mem_cons.mp hw with e | e
    · rw [e]; exact (zC k hk).use rfl
    · refine (zD w e).use ?_
      simp only [dcX, List.mem_cons, List.not_mem_nil, or_false] at e
      rcases e with e | e | e <;> rw [e] <;> rfl)
  have hgd : ∀ w : Cond, w ∈ GW → vx_ot w = true := fun w hw => by
    have := (List.mem_filter.mp hw).2
    simp [vx_ot, this]
  refine vx_throwSW (mc := mc) (ms := ms) (sa := sa) (A := AA n ad s.heap.size) (names := nmX) (cls := exN k) (own := RX11) X.1.1 X.1.2.1 hl X.1.2.2.2.1 b1 (by decide) (X.1.2.2.2.2 _ b2) (X.1.2.2.2.2 _ b3) hstr hat (fun w hw => ?_) zU zN hS (hlv.1.trans X.1.2.2.1.symm) d0 d3 d4 d6 d9 (fun x hx => (htb x hx).elim) (by have := hR.1; simp only [nmX, List.length_cons, List.length_nil]; omega) (by have := hR.2; simp only [nmX, List.length_cons, List.length_nil, List.map_nil, List.sum_nil]; omega) hR2.1 hR2.2 X.2.2.1 (fun t _ h1 h2 => ?_) hS.2.2 hcs.1 hcs.2
  · rcases List.mem_cons.mp hw with e | e
    · rw [e]; exact hgd _ b2
    · rcases List.mem_cons.mp e with e | e
      · rw [e]; exact hgd _ b3
      · exact b6 w e
  · refine ⟨(), rfl, ⟨hk, rfl, wP_lt hP h2⟩, Nat.le_trans hS.1 h1, fun q hq hA => ?_⟩
    rw [h2 q (Nat.lt_of_lt_of_le hq hS.1)]
    exact hS.2.1 q hq hA
/-- a call of a method that throws or comes back with nothing; what it throws goes on -/
theorem w_chk {o : Option Nat} {F : Option TR} {Qc : Array Value → State → Outcome → State → Prop} (X : CX D tys n ad Z p s m args meth c cc nL own ret) (hZ : ZOK Z) (htb : ∀ x ∈ c.exceptionTable.toList, False) (hQ : Q = vx_MQ below Qc (QX D n ad cf res s.heap.size) args s mc ms (AA n ad s.heap.size)) {y : MethodName} {bytes : ByteArray} {nY index na : Nat} {rm : Room} (hF : bdt o mem F = some res) {stk : List Value} (As : List Value) (kb : Nat) (hk : kb < n) {ci : Nat} {fl : Row → List Value} {q : vw_C} (he : ∀ f : Row, cf kb f = .inr (ci, fl f)) (hq : vwCl[ci]? = some q) (hqy : y.cls = q.1) (hs : As.reverse ++ .ref (ad kb) :: st = stk) (b : MB y bytes nY none na) (w1 : Cond.methodLink own index y ∈ GW) (hM : ∀ r : Nat, o = some r → CTv l D tys n ad cf Z y bytes nY rm (.ref (ad kb) :: As) mem r) (hna : As.length = na) (hrc : rm.cells = 1) (hrs : rm.slots = 6) (hR : rm.frames + 1 ≤ R.frames ∧ 8 + (nY + 11) + rm.locals ≤ R.locals) (hst : (st.map fun v => v.category).sum ≤ 8) (hcs : cells + 1 ≤ R.cells ∧ slots + 6 ≤ R.slots) (hms : cells + 1 ≤ mc ∧ slots + 6 ≤ ms) (hdg : decode cc pc = .ok (.invokevirtual index, 3)) (pc2 : Nat) (hp : pc + 3 = pc2) (kk : F = some res → WW D n ad cf p l e R s m args below meth c nL (cells + 1) (slots + 6) Q mem pc2 lv st) : WW D n ad cf p l e R s m args below meth c nL cells slots Q mem pc lv stk := by
  subst hp
  subst hs
  obtain ⟨r, ho⟩ : ∃ r, o = some r := by
    cases o with
    | none => cases hF
    | some r => exact ⟨r, rfl⟩
  intro H locs ls hP hS hl
  have hM := hM r ho H.size
  have hbl : FrameBlind (va_Pc (.ref (ad kb) :: As) (PW D tys n ad cf Z mem H.size)) := PW_bl hZ
  have hpre : ∀ U : State, U.heap = H → s.WarmedH U.vm → va_Pc (.ref (ad kb) :: As) (PW D tys n ad cf Z mem H.size) ((.ref (ad kb) :: As) : List Value).toArray U := fun U hU hW => ⟨rfl, PW_of X hZ hP hS hU hW⟩
  obtain ⟨w2, w4, w3, w5, hd⟩ := b
  have hg : GoodIn GW (Cond.code y bytes nY (none) :: GW) := gw_cons w5
  have cw : CallW R s args own y.cls index y bytes nY (none) (Cond.code y bytes nY (none) :: GW) rm 1 6 na := ⟨callB_of na X.1.2.2.2.2 hg rfl hrc hrs (X.1.2.2.2.2 _ w3) (X.1.2.2.2.2 _ w1) hd hR, X.1.2.2.2.2 _ w2, X.1.2.2.2.2 _ w4⟩
  have hrv : ∃ cellB : Cell, H[ad kb]? = some cellB ∧ cellB.vm.isStatics = false ∧ s.vm.findClass y.cls = some cellB.cls := by
    rw [hqy]
    exact va_recv X.2.2.2.1 hP hq (q0 := kb) (a := ad kb) (by rw [wf_at hk, he])
  have hr := vx_runV (rest := st) X.1 hM cw ⟨hbl, hrv, hpre⟩ (g := F0 m pc ls (As.reverse ++ .ref (ad kb) :: st)) (H := H) (locs := locs) (cells := cells) (slots := slots) (below := below) (e := e) (meth := meth) rfl hna hl.1 rfl (lv_room hst) hdg hcs
  refine vx_callv hr hS (fun q _ h => AA_le hS.1 q h) (fun q h => AA_le hS.1 q h) (fun q _ h => AA_le hS.1 q h) (fun E ce q9 u t H1 locs1 ht hvm hu hB hz1 hk1 hS1 hc9 hv9 hf9 => ?_) (fun u t H1 locs1 ht hvm hw hB hz1 hk1 hS1 => ?_)
  · obtain ⟨⟨hb1, hb2⟩, hE, hP1⟩ := hB
    rw [ht] at hP1
    have hres : res = (r, 0, mem) := by
      rw [ho] at hF
      cases r with
      | zero => exact absurd hb1 (Nat.not_succ_le_zero 0)
      | succ k => exact (Option.some.inj hF).symm
    subst hQ
    refine vx_out (fun x hx => (htb x hx).elim) X.2.2.1 hc9 hv9 hf9 (fun t1 ht1 _ => ⟨(), rfl, ⟨by rw [hres]; exact ⟨hb1, hb2⟩, by rw [hres]; exact hE, ?_⟩, hS1.F ht1⟩) hS1.2.2 hms.1 hms.2
    rw [hres, ht1]
    exact hP1
  · obtain ⟨h0, -⟩ := hw
    have h0 : r = 0 := h0
    subst h0
    rw [ho] at hF
    rw [ht] at hB
    exact kk hF H1 locs1 ls hB hS1 hl
end THROW
