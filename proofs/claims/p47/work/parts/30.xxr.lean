section XXC
/-- the walk's judgement: places, and further things behind them -/
def XX (D : va_G) (n : Nat) (ad : Nat → Nat) (cf : Nat → Row → va_E) (p : Program) (l : Launch) (e : Env) (R : Room) (s : State) (m : MethodId) (args : Array Value) (below : List Frame) (meth : Method) (c : Code) (nL : Nat) (cells slots : Nat) (Q : State → Prop) (mem : Mem) (ex : va_W) (pc : Nat) (lv : List (Nat × Value)) (st : List Value) : Prop :=
  ∀ (H : Heap) (locs : List Loc) (ls : Array Slot), va_P D vwCl (wf n ad cf mem ++ ex) H → va_D (AA n ad s.heap.size) (wf n ad cf mem ++ ex) → va_S (AA n ad s.heap.size) s.heap H locs → lv_has ls nL lv → W p l e R s m args below meth c H locs cells slots Q (F0 m pc ls st)
theorem wf_len {n : Nat} {ad : Nat → Nat} {cf : Nat → Row → va_E} {mem : Mem} : (wf n ad cf mem).length = n := by simp [wf]
theorem wx_at {n k : Nat} {ad : Nat → Nat} {cf : Nat → Row → va_E} {mem : Mem} {ex : va_W} (h : k < n) : (wf n ad cf mem ++ ex)[k]? = some (ad k, cf k (mem k)) := by
  rw [List.getElem?_append_left (by rw [wf_len]; exact h), wf_at h]
theorem wx_set {n k : Nat} {ad : Nat → Nat} {cf : Nat → Row → va_E} {mem : Mem} {ex : va_W} {r : Row} {e : va_E} (hk : k < n) (he : cf k r = e) : (wf n ad cf mem ++ ex).set k (ad k, e) = wf n ad cf (mr mem k r) ++ ex := by
  rw [List.set_append_left _ _ (by rw [wf_len]; exact hk), wf_set he]
theorem we_at {n j : Nat} {ad : Nat → Nat} {cf : Nat → Row → va_E} {mem : Mem} {ex : va_W} : (wf n ad cf mem ++ ex)[n + j]? = ex[j]? := by
  rw [List.getElem?_append_right (by rw [wf_len]; omega), wf_len, show n + j - n = j by omega]
theorem we_set {n j : Nat} {ad : Nat → Nat} {cf : Nat → Row → va_E} {mem : Mem} {ex : va_W} {q : Nat × va_E} : (wf n ad cf mem ++ ex).set (n + j) q = wf n ad cf mem ++ ex.set j q := by
  rw [List.set_append_right _ _ (by rw [wf_len]; omega), wf_len, show n + j - n = j by omega]
theorem wf_fst {n : Nat} {ad : Nat → Nat} {cf : Nat → Row → va_E} (mem mem2 : Mem) : (wf n ad cf mem).map Prod.fst = (wf n ad cf mem2).map Prod.fst := by
  unfold wf
  rw [List.map_map, List.map_map]
  rfl
theorem vD_fst {A : Nat → Prop} {ws ws2 : va_W} (h : ws.map Prod.fst = ws2.map Prod.fst) (hD : va_D A ws) : va_D A ws2 := by
  have e : ∀ (k : Nat) (q : Nat × va_E), ws2[k]? = some q → ∃ p : Nat × va_E, ws[k]? = some p ∧ p.1 = q.1 := fun k q hq => by
    have h1 : (ws2.map Prod.fst)[k]? = some q.1 := by rw [List.getElem?_map, hq]; rfl
    rw [← h, List.getElem?_map] at h1
    cases hw : ws[k]? with
    | none => rw [hw] at h1; cases h1
    | some p => rw [hw] at h1; exact ⟨p, rfl, Option.some.inj h1⟩
  refine ⟨fun i j p q hp hq he => ?_, fun k q hq => ?_⟩
  · obtain ⟨p', h1, h2⟩ := e i p hp
    obtain ⟨q', h3, h4⟩ := e j q hq
    exact hD.1 i j p' q' h1 h3 (by rw [h2, h4, he])
  · obtain ⟨p', h1, h2⟩ := e k q hq
    rw [← h2]
    exact hD.2 k p' h1
theorem wP_l {D : va_G} {ws ex : va_W} {H : Heap} (hP : va_P D vwCl (ws ++ ex) H) : va_P D vwCl ws H := fun k q hk => hP k q (by
  rw [List.getElem?_append_left (List.getElem?_eq_some_iff.mp hk).1]
  exact hk)
theorem wD_l {A : Nat → Prop} {ws ex : va_W} (hD : va_D A (ws ++ ex)) : va_D A ws := ⟨fun i j p q hp hq he => hD.1 i j p q (by
  rw [List.getElem?_append_left (List.getElem?_eq_some_iff.mp hp).1]
  exact hp) (by
  rw [List.getElem?_append_left (List.getElem?_eq_some_iff.mp hq).1]
  exact hq) he, fun k q hq => hD.2 k q (by
  rw [List.getElem?_append_left (List.getElem?_eq_some_iff.mp hq).1]
  exact hq)⟩
/-- behind a call that worked on the places alone -/
theorem wx_fr {D : va_G} {n : Nat} {ad : Nat → Nat} {cf : Nat → Row → va_E} {mem mem2 : Mem} {ex : va_W} {A : Nat → Prop} {H H1 : Heap} (hP : va_P D vwCl (wf n ad cf mem ++ ex) H) (hD : va_D A (wf n ad cf mem ++ ex)) (hP1 : va_P D vwCl (wf n ad cf mem2) H1) (hk : ∀ q : Nat, q < H.size → ¬ AA n ad H.size q → H1[q]? = H[q]?) : va_P D vwCl (wf n ad cf mem2 ++ ex) H1 ∧ va_D A (wf n ad cf mem2 ++ ex) := by
  refine ⟨fun k q hq => ?_, vD_fst (by rw [List.map_append, List.map_append, wf_fst mem mem2]) hD⟩
  by_cases hk2 : k < n
  · exact hP1 k q (by
      rw [List.getElem?_append_left (by rw [wf_len]; exact hk2)] at hq
      exact hq)
  · have hq2 : (wf n ad cf mem ++ ex)[k]? = some q := by
      rw [List.getElem?_append_right (by rw [wf_len]; omega), wf_len] at hq ⊢
      exact hq
    have h0 := hP k q hq2
    have hlt : q.1 < H.size := h0.lt
    refine (va_P.kept (ws := [q]) (H := H) (fun k3 q3 h3 => ?_) (fun k3 q3 h3 => ?_)) 0 q rfl
    · have : k3 = 0 := by
        have := (List.getElem?_eq_some_iff.mp h3).1
        simp at this
        exact this
      subst this
      cases h3
      exact h0
    · have : k3 = 0 := by
        have := (List.getElem?_eq_some_iff.mp h3).1
        simp at this
        exact this
      subst this
      cases h3
      refine hk _ hlt (fun h => ?_)
      rcases h with ⟨j, hj, he⟩ | h
      · have := hD.1 k j q (ad j, cf j (mem j)) hq2 (wx_at hj) he
        omega
      · omega
theorem wD_I {n : Nat} {ad : Nat → Nat} {cf : Nat → Row → va_E} {mem : Mem} {ex : va_W} {A : Nat → Prop} (hD : va_D A (wf n ad cf mem ++ ex)) : ∀ i j, i < n → j < n → ad i = ad j → i = j := fun i j hi hj he => hD.1 i j _ _ (wx_at hi) (wx_at hj) he
end XXC
section XXR
variable {D : va_G} {tys : List (ClassId × FieldType)} {n : Nat} {ad : Nat → Nat} {cf : Nat → Row → va_E} {Z : (Nat → Prop) → State → Heap → Prop} {p : Program} {l : Launch} {e : Env} {R : Room} {s : State} {m : MethodId} {args : Array Value} {below : List Frame} {meth : Method} {c : Code} {cc : ByteArray} {nL : Nat} {own : String} {ret : Option FieldType} {cells slots : Nat} {Q : State → Prop} {mem : Mem} {ex : va_W} {pc : Nat} {lv : List (Nat × Value)} {st : List Value}
theorem x_iconst {i : Int} (X : CX D tys n ad Z p s m args meth c cc nL own ret) (v : Int32) (hdg : decode cc pc = .ok (.iconst i, 1)) (hv : Int32.ofInt i = v) (pc2 : Nat) (hp : pc + 1 = pc2) (kk : XX D n ad cf p l e R s m args below meth c nL cells slots Q mem ex pc2 lv (.int v :: st)) : XX D n ad cf p l e R s m args below meth c nL cells slots Q mem ex pc lv st := by
  subst hp
  exact fun H locs ls hP hD hS hl => lv_iconst X.1.1 X.1.2.1 hdg hv (kk H locs ls hP hD hS hl)
theorem x_bipush {i : Int} (X : CX D tys n ad Z p s m args meth c cc nL own ret) (v : Int32) (hdg : decode cc pc = .ok (.bipush i, 2)) (hv : (Int8.ofInt i).toInt32 = v) (pc2 : Nat) (hp : pc + 2 = pc2) (kk : XX D n ad cf p l e R s m args below meth c nL cells slots Q mem ex pc2 lv (.int v :: st)) : XX D n ad cf p l e R s m args below meth c nL cells slots Q mem ex pc lv st := by
  subst hp
  exact fun H locs ls hP hD hS hl => lv_bipush X.1.1 X.1.2.1 hdg hv (kk H locs ls hP hD hS hl)
theorem x_sipush {i : Int} (X : CX D tys n ad Z p s m args meth c cc nL own ret) (v : Int32) (hdg : decode cc pc = .ok (.sipush i, 3)) (hv : (Int16.ofInt i).toInt32 = v) (pc2 : Nat) (hp : pc + 3 = pc2) (kk : XX D n ad cf p l e R s m args below meth c nL cells slots Q mem ex pc2 lv (.int v :: st)) : XX D n ad cf p l e R s m args below meth c nL cells slots Q mem ex pc lv st := by
  subst hp
  exact fun H locs ls hP hD hS hl => lv_sipush X.1.1 X.1.2.1 hdg hv (kk H locs ls hP hD hS hl)
theorem x_ldc {ix : Nat} (X : CX D tys n ad Z p s m args meth c cc nL own ret) (v : Int32) (hw : Cond.constant own ix v ∈ GW) (hdg : decode cc pc = .ok (.ldc ix, 2)) (pc2 : Nat) (hp : pc + 2 = pc2) (kk : XX D n ad cf p l e R s m args below meth c nL cells slots Q mem ex pc2 lv (.int v :: st)) : XX D n ad cf p l e R s m args below meth c nL cells slots Q mem ex pc lv st := by
  subst hp
  exact fun H locs ls hP hD hS hl => lv_ldc X.1.1 X.1.2.1 X.1.2.2.2.1 (X.1.2.2.2.2 _ hw) hdg (kk H locs ls hP hD hS hl)
theorem x_ldcw {ix : Nat} (X : CX D tys n ad Z p s m args meth c cc nL own ret) (v : Int32) (hw : Cond.constant own ix v ∈ GW) (hdg : decode cc pc = .ok (.ldc_w ix, 3)) (pc2 : Nat) (hp : pc + 3 = pc2) (kk : XX D n ad cf p l e R s m args below meth c nL cells slots Q mem ex pc2 lv (.int v :: st)) : XX D n ad cf p l e R s m args below meth c nL cells slots Q mem ex pc lv st := by
  subst hp
  exact fun H locs ls hP hD hS hl => lv_ldcw X.1.1 X.1.2.1 X.1.2.2.2.1 (X.1.2.2.2.2 _ hw) hdg (kk H locs ls hP hD hS hl)
theorem x_iload_n {f : Fin 4} {i : Nat} {x : Int32} (X : CX D tys n ad Z p s m args meth c cc nL own ret) (k : Nat) (hdg : decode cc pc = .ok (.iload_n f, 1)) (hi : (f : Nat) = i) (hk : lv[k]? = some (i, .int x)) (pc2 : Nat) (hp : pc + 1 = pc2) (kk : XX D n ad cf p l e R s m args below meth c nL cells slots Q mem ex pc2 lv (.int x :: st)) : XX D n ad cf p l e R s m args below meth c nL cells slots Q mem ex pc lv st := by
  subst hp
  exact fun H locs ls hP hD hS hl => lv_iload_n X.1.1 X.1.2.1 hdg hi (lv_at hl k hk) (kk H locs ls hP hD hS hl)
theorem x_iload {i : Nat} {x : Int32} (X : CX D tys n ad Z p s m args meth c cc nL own ret) (k : Nat) (hdg : decode cc pc = .ok (.iload i, 2)) (hk : lv[k]? = some (i, .int x)) (pc2 : Nat) (hp : pc + 2 = pc2) (kk : XX D n ad cf p l e R s m args below meth c nL cells slots Q mem ex pc2 lv (.int x :: st)) : XX D n ad cf p l e R s m args below meth c nL cells slots Q mem ex pc lv st := by
  subst hp
  exact fun H locs ls hP hD hS hl => lv_iload X.1.1 X.1.2.1 hdg (lv_at hl k hk) (kk H locs ls hP hD hS hl)
theorem x_istore_n {f : Fin 4} {i : Nat} {x : Int32} (X : CX D tys n ad Z p s m args meth c cc nL own ret) (lv2 : List (Nat × Value)) (hdg : decode cc pc = .ok (.istore_n f, 1)) (hi : (f : Nat) = i) (hn : i < nL) (hv : (i, Value.int x) :: lv.filter (fun q => !(q.1 == i) && !(q.1 + 1 == i && q.2.category == 2)) = lv2) (pc2 : Nat) (hp : pc + 1 = pc2) (kk : XX D n ad cf p l e R s m args below meth c nL cells slots Q mem ex pc2 lv2 st) : XX D n ad cf p l e R s m args below meth c nL cells slots Q mem ex pc lv (.int x :: st) := by
  subst hp
  exact fun H locs ls hP hD hS hl => lv_istore_n X.1.1 X.1.2.1 hdg hi hl hn hv (fun ls hl => kk H locs ls hP hD hS hl)
theorem x_istore {i : Nat} {x : Int32} (X : CX D tys n ad Z p s m args meth c cc nL own ret) (lv2 : List (Nat × Value)) (hdg : decode cc pc = .ok (.istore i, 2)) (hn : i < nL) (hv : (i, Value.int x) :: lv.filter (fun q => !(q.1 == i) && !(q.1 + 1 == i && q.2.category == 2)) = lv2) (pc2 : Nat) (hp : pc + 2 = pc2) (kk : XX D n ad cf p l e R s m args below meth c nL cells slots Q mem ex pc2 lv2 st) : XX D n ad cf p l e R s m args below meth c nL cells slots Q mem ex pc lv (.int x :: st) := by
  subst hp
  exact fun H locs ls hP hD hS hl => lv_istore X.1.1 X.1.2.1 hdg hl hn hv (fun ls hl => kk H locs ls hP hD hS hl)
theorem x_aload_n {f : Fin 4} {i : Nat} {x : Nat} (X : CX D tys n ad Z p s m args meth c cc nL own ret) (k : Nat) (hdg : decode cc pc = .ok (.aload_n f, 1)) (hi : (f : Nat) = i) (hk : lv[k]? = some (i, .ref x)) (pc2 : Nat) (hp : pc + 1 = pc2) (kk : XX D n ad cf p l e R s m args below meth c nL cells slots Q mem ex pc2 lv (.ref x :: st)) : XX D n ad cf p l e R s m args below meth c nL cells slots Q mem ex pc lv st := by
  subst hp
  exact fun H locs ls hP hD hS hl => lv_aload_n X.1.1 X.1.2.1 hdg hi (lv_at hl k hk) (kk H locs ls hP hD hS hl)
theorem x_aload {i : Nat} {x : Nat} (X : CX D tys n ad Z p s m args meth c cc nL own ret) (k : Nat) (hdg : decode cc pc = .ok (.aload i, 2)) (hk : lv[k]? = some (i, .ref x)) (pc2 : Nat) (hp : pc + 2 = pc2) (kk : XX D n ad cf p l e R s m args below meth c nL cells slots Q mem ex pc2 lv (.ref x :: st)) : XX D n ad cf p l e R s m args below meth c nL cells slots Q mem ex pc lv st := by
  subst hp
  exact fun H locs ls hP hD hS hl => lv_aload X.1.1 X.1.2.1 hdg (lv_at hl k hk) (kk H locs ls hP hD hS hl)
theorem x_astore_n {f : Fin 4} {i : Nat} {x : Nat} (X : CX D tys n ad Z p s m args meth c cc nL own ret) (lv2 : List (Nat × Value)) (hdg : decode cc pc = .ok (.astore_n f, 1)) (hi : (f : Nat) = i) (hn : i < nL) (hv : (i, Value.ref x) :: lv.filter (fun q => !(q.1 == i) && !(q.1 + 1 == i && q.2.category == 2)) = lv2) (pc2 : Nat) (hp : pc + 1 = pc2) (kk : XX D n ad cf p l e R s m args below meth c nL cells slots Q mem ex pc2 lv2 st) : XX D n ad cf p l e R s m args below meth c nL cells slots Q mem ex pc lv (.ref x :: st) := by
  subst hp
  exact fun H locs ls hP hD hS hl => lv_astore_n X.1.1 X.1.2.1 hdg hi hl hn hv (fun ls hl => kk H locs ls hP hD hS hl)
theorem x_astore {i : Nat} {x : Nat} (X : CX D tys n ad Z p s m args meth c cc nL own ret) (lv2 : List (Nat × Value)) (hdg : decode cc pc = .ok (.astore i, 2)) (hn : i < nL) (hv : (i, Value.ref x) :: lv.filter (fun q => !(q.1 == i) && !(q.1 + 1 == i && q.2.category == 2)) = lv2) (pc2 : Nat) (hp : pc + 2 = pc2) (kk : XX D n ad cf p l e R s m args below meth c nL cells slots Q mem ex pc2 lv2 st) : XX D n ad cf p l e R s m args below meth c nL cells slots Q mem ex pc lv (.ref x :: st) := by
  subst hp
  exact fun H locs ls hP hD hS hl => lv_astore X.1.1 X.1.2.1 hdg hl hn hv (fun ls hl => kk H locs ls hP hD hS hl)
theorem x_iinc {i : Nat} {d : Int} {x : Int32} (X : CX D tys n ad Z p s m args meth c cc nL own ret) (k : Nat) (v : Int32) (lv2 : List (Nat × Value)) (hdg : decode cc pc = .ok (.iinc i d, 3)) (hk : lv[k]? = some (i, .int x)) (hx : x + Int32.ofInt d = v) (hn : i < nL) (hv : (i, Value.int v) :: lv.filter (fun q => !(q.1 == i) && !(q.1 + 1 == i && q.2.category == 2)) = lv2) (pc2 : Nat) (hp : pc + 3 = pc2) (kk : XX D n ad cf p l e R s m args below meth c nL cells slots Q mem ex pc2 lv2 st) : XX D n ad cf p l e R s m args below meth c nL cells slots Q mem ex pc lv st := by
  subst hp
  exact fun H locs ls hP hD hS hl => lv_iinc X.1.1 X.1.2.1 hdg hl hk hx hn hv (fun ls hl => kk H locs ls hP hD hS hl)
theorem x_iadd {x y : Int32} (X : CX D tys n ad Z p s m args meth c cc nL own ret) (hdg : decode cc pc = .ok (.iadd, 1)) (pc2 : Nat) (hp : pc + 1 = pc2) (kk : XX D n ad cf p l e R s m args below meth c nL cells slots Q mem ex pc2 lv (.int (x + y) :: st)) : XX D n ad cf p l e R s m args below meth c nL cells slots Q mem ex pc lv (.int y :: .int x :: st) := by
  subst hp
  exact fun H locs ls hP hD hS hl => lv_iadd X.1.1 X.1.2.1 hdg (kk H locs ls hP hD hS hl)
theorem x_isub {x y : Int32} (X : CX D tys n ad Z p s m args meth c cc nL own ret) (hdg : decode cc pc = .ok (.isub, 1)) (pc2 : Nat) (hp : pc + 1 = pc2) (kk : XX D n ad cf p l e R s m args below meth c nL cells slots Q mem ex pc2 lv (.int (x - y) :: st)) : XX D n ad cf p l e R s m args below meth c nL cells slots Q mem ex pc lv (.int y :: .int x :: st) := by
  subst hp
  exact fun H locs ls hP hD hS hl => lv_isub X.1.1 X.1.2.1 hdg (kk H locs ls hP hD hS hl)
theorem x_imul {x y : Int32} (X : CX D tys n ad Z p s m args meth c cc nL own ret) (hdg : decode cc pc = .ok (.imul, 1)) (pc2 : Nat) (hp : pc + 1 = pc2) (kk : XX D n ad cf p l e R s m args below meth c nL cells slots Q mem ex pc2 lv (.int (x * y) :: st)) : XX D n ad cf p l e R s m args below meth c nL cells slots Q mem ex pc lv (.int y :: .int x :: st) := by
  subst hp
  exact fun H locs ls hP hD hS hl => lv_imul X.1.1 X.1.2.1 hdg (kk H locs ls hP hD hS hl)
theorem x_iand {x y : Int32} (X : CX D tys n ad Z p s m args meth c cc nL own ret) (hdg : decode cc pc = .ok (.iand, 1)) (pc2 : Nat) (hp : pc + 1 = pc2) (kk : XX D n ad cf p l e R s m args below meth c nL cells slots Q mem ex pc2 lv (.int (x &&& y) :: st)) : XX D n ad cf p l e R s m args below meth c nL cells slots Q mem ex pc lv (.int y :: .int x :: st) := by
  subst hp
  exact fun H locs ls hP hD hS hl => lv_iand X.1.1 X.1.2.1 hdg (kk H locs ls hP hD hS hl)
theorem x_ior {x y : Int32} (X : CX D tys n ad Z p s m args meth c cc nL own ret) (hdg : decode cc pc = .ok (.ior, 1)) (pc2 : Nat) (hp : pc + 1 = pc2) (kk : XX D n ad cf p l e R s m args below meth c nL cells slots Q mem ex pc2 lv (.int (x ||| y) :: st)) : XX D n ad cf p l e R s m args below meth c nL cells slots Q mem ex pc lv (.int y :: .int x :: st) := by
  subst hp
  exact fun H locs ls hP hD hS hl => lv_ior X.1.1 X.1.2.1 hdg (kk H locs ls hP hD hS hl)
theorem x_ixor {x y : Int32} (X : CX D tys n ad Z p s m args meth c cc nL own ret) (hdg : decode cc pc = .ok (.ixor, 1)) (pc2 : Nat) (hp : pc + 1 = pc2) (kk : XX D n ad cf p l e R s m args below meth c nL cells slots Q mem ex pc2 lv (.int (x ^^^ y) :: st)) : XX D n ad cf p l e R s m args below meth c nL cells slots Q mem ex pc lv (.int y :: .int x :: st) := by
  subst hp
  exact fun H locs ls hP hD hS hl => lv_ixor X.1.1 X.1.2.1 hdg (kk H locs ls hP hD hS hl)
theorem x_ishl {x y : Int32} (X : CX D tys n ad Z p s m args meth c cc nL own ret) (hdg : decode cc pc = .ok (.ishl, 1)) (pc2 : Nat) (hp : pc + 1 = pc2) (kk : XX D n ad cf p l e R s m args below meth c nL cells slots Q mem ex pc2 lv (.int (x <<< (y &&& 31)) :: st)) : XX D n ad cf p l e R s m args below meth c nL cells slots Q mem ex pc lv (.int y :: .int x :: st) := by
  subst hp
  exact fun H locs ls hP hD hS hl => lv_ishl X.1.1 X.1.2.1 hdg (kk H locs ls hP hD hS hl)
theorem x_ishr {x y : Int32} (X : CX D tys n ad Z p s m args meth c cc nL own ret) (hdg : decode cc pc = .ok (.ishr, 1)) (pc2 : Nat) (hp : pc + 1 = pc2) (kk : XX D n ad cf p l e R s m args below meth c nL cells slots Q mem ex pc2 lv (.int (x >>> (y &&& 31)) :: st)) : XX D n ad cf p l e R s m args below meth c nL cells slots Q mem ex pc lv (.int y :: .int x :: st) := by
  subst hp
  exact fun H locs ls hP hD hS hl => lv_ishr X.1.1 X.1.2.1 hdg (kk H locs ls hP hD hS hl)
theorem x_idiv {x y : Int32} (X : CX D tys n ad Z p s m args meth c cc nL own ret) (hy : ¬ y = 0) (hdg : decode cc pc = .ok (.idiv, 1)) (pc2 : Nat) (hp : pc + 1 = pc2) (kk : XX D n ad cf p l e R s m args below meth c nL cells slots Q mem ex pc2 lv (.int (x / y) :: st)) : XX D n ad cf p l e R s m args below meth c nL cells slots Q mem ex pc lv (.int y :: .int x :: st) := by
  subst hp
  exact fun H locs ls hP hD hS hl => lv_idiv X.1.1 X.1.2.1 hdg hy (kk H locs ls hP hD hS hl)
theorem x_irem {x y : Int32} (X : CX D tys n ad Z p s m args meth c cc nL own ret) (hy : ¬ y = 0) (hdg : decode cc pc = .ok (.irem, 1)) (pc2 : Nat) (hp : pc + 1 = pc2) (kk : XX D n ad cf p l e R s m args below meth c nL cells slots Q mem ex pc2 lv (.int (x - x / y * y) :: st)) : XX D n ad cf p l e R s m args below meth c nL cells slots Q mem ex pc lv (.int y :: .int x :: st) := by
  subst hp
  exact fun H locs ls hP hD hS hl => lv_irem X.1.1 X.1.2.1 hdg hy (kk H locs ls hP hD hS hl)
theorem x_ineg {x : Int32} (X : CX D tys n ad Z p s m args meth c cc nL own ret) (hdg : decode cc pc = .ok (.ineg, 1)) (pc2 : Nat) (hp : pc + 1 = pc2) (kk : XX D n ad cf p l e R s m args below meth c nL cells slots Q mem ex pc2 lv (.int (-x) :: st)) : XX D n ad cf p l e R s m args below meth c nL cells slots Q mem ex pc lv (.int x :: st) := by
  subst hp
  exact fun H locs ls hP hD hS hl => lv_ineg X.1.1 X.1.2.1 hdg (kk H locs ls hP hD hS hl)
theorem x_i2b {x : Int32} (X : CX D tys n ad Z p s m args meth c cc nL own ret) (hdg : decode cc pc = .ok (.i2b, 1)) (pc2 : Nat) (hp : pc + 1 = pc2) (kk : XX D n ad cf p l e R s m args below meth c nL cells slots Q mem ex pc2 lv (.int x.toInt8.toInt32 :: st)) : XX D n ad cf p l e R s m args below meth c nL cells slots Q mem ex pc lv (.int x :: st) := by
  subst hp
  exact fun H locs ls hP hD hS hl => lv_i2b X.1.1 X.1.2.1 hdg rfl (kk H locs ls hP hD hS hl)
theorem x_dup {v : Value} (X : CX D tys n ad Z p s m args meth c cc nL own ret) (hdg : decode cc pc = .ok (.dup, 1)) (hv : v.category = 1) (pc2 : Nat) (hp : pc + 1 = pc2) (kk : XX D n ad cf p l e R s m args below meth c nL cells slots Q mem ex pc2 lv (v :: v :: st)) : XX D n ad cf p l e R s m args below meth c nL cells slots Q mem ex pc lv (v :: st) := by
  subst hp
  exact fun H locs ls hP hD hS hl => lv_dup X.1.1 X.1.2.1 hdg hv (kk H locs ls hP hD hS hl)
theorem x_pop {v : Value} (X : CX D tys n ad Z p s m args meth c cc nL own ret) (hdg : decode cc pc = .ok (.pop, 1)) (hv : v.category = 1) (pc2 : Nat) (hp : pc + 1 = pc2) (kk : XX D n ad cf p l e R s m args below meth c nL cells slots Q mem ex pc2 lv st) : XX D n ad cf p l e R s m args below meth c nL cells slots Q mem ex pc lv (v :: st) := by
  subst hp
  exact fun H locs ls hP hD hS hl => lv_pop X.1.1 X.1.2.1 hdg hv (kk H locs ls hP hD hS hl)
theorem x_dup2 {u v : Value} (X : CX D tys n ad Z p s m args meth c cc nL own ret) (hdg : decode cc pc = .ok (.dup2, 1)) (hu : u.category = 1) (hv : v.category = 1) (pc2 : Nat) (hp : pc + 1 = pc2) (kk : XX D n ad cf p l e R s m args below meth c nL cells slots Q mem ex pc2 lv (u :: v :: u :: v :: st)) : XX D n ad cf p l e R s m args below meth c nL cells slots Q mem ex pc lv (u :: v :: st) := by
  subst hp
  exact fun H locs ls hP hD hS hl => lv_dup2_11 X.1.1 X.1.2.1 hdg hu hv (kk H locs ls hP hD hS hl)
theorem x_goto {off : Int} (X : CX D tys n ad Z p s m args meth c cc nL own ret) (tgt : Nat) (hdg : decode cc pc = .ok (.goto off, 3)) (ht : (pc : Int) + off = (tgt : Int)) (kk : XX D n ad cf p l e R s m args below meth c nL cells slots Q mem ex tgt lv st) : XX D n ad cf p l e R s m args below meth c nL cells slots Q mem ex pc lv st :=
  fun H locs ls hP hD hS hl => lv_goto X.1.1 X.1.2.1 hdg ht (kk H locs ls hP hD hS hl)
theorem x_let {ρ : Type} {x : Int32} {F : Int32 → Option ρ} {res : ρ} (hF : lt_ x F = some res) (kk : ∀ x : Int32, F x = some res → XX D n ad cf p l e R s m args below meth c nL cells slots Q mem ex pc lv (.int x :: st)) : XX D n ad cf p l e R s m args below meth c nL cells slots Q mem ex pc lv (.int x :: st) := kk x hF
theorem x_letm {ρ : Type} {F : Mem → Option ρ} {res : ρ} (hF : lt_ mem F = some res) (kk : ∀ mem : Mem, F mem = some res → XX D n ad cf p l e R s m args below meth c nL cells slots Q mem ex pc lv st) : XX D n ad cf p l e R s m args below meth c nL cells slots Q mem ex pc lv st := kk mem hF
theorem x_keep {lv2 : List (Nat × Value)} (ks : List Nat) (h : lv_pick lv ks = lv2) (kk : XX D n ad cf p l e R s m args below meth c nL cells slots Q mem ex pc lv2 st) : XX D n ad cf p l e R s m args below meth c nL cells slots Q mem ex pc lv st := fun H locs ls hP hD hS hl => kk H locs ls hP hD hS (lv_sub hl ks h)
theorem x_gi {ρ : Type} {o : Option ρ} {res : ρ} {i : Int32} {N : Nat} (hF : gi i N o = some res) (kk : vp_in i N → o = some res → XX D n ad cf p l e R s m args below meth c nL cells slots Q mem ex pc lv st) : XX D n ad cf p l e R s m args below meth c nL cells slots Q mem ex pc lv st := kk (gi_some hF).1 (gi_some hF).2
theorem x_gz {ρ : Type} {o : Option ρ} {res : ρ} {y : Int32} (hF : gz y o = some res) (kk : ¬ y = 0 → o = some res → XX D n ad cf p l e R s m args below meth c nL cells slots Q mem ex pc lv st) : XX D n ad cf p l e R s m args below meth c nL cells slots Q mem ex pc lv st := kk (gz_some hF).1 (gz_some hF).2
theorem x_gb {ρ : Type} {o : Option ρ} {res : ρ} {x : Int32} (hF : gb x o = some res) (kk : (x = 0 ∨ x = 1) → o = some res → XX D n ad cf p l e R s m args below meth c nL cells slots Q mem ex pc lv st) : XX D n ad cf p l e R s m args below meth c nL cells slots Q mem ex pc lv st := kk (gb_some hF).1 (gb_some hF).2
theorem x_icmp_eq {ρ : Type} {A B : Option ρ} {res : ρ} {x y : Int32} {off : Int} (X : CX D tys n ad Z p s m args meth c cc nL own ret) (hF : (if x = y then A else B) = some res) (tgt pc2 : Nat) (hdg : decode cc pc = .ok (.if_icmp .eq off, 3)) (ht : (pc : Int) + off = (tgt : Int)) (hp : pc + 3 = pc2) (kt : A = some res → XX D n ad cf p l e R s m args below meth c nL cells slots Q mem ex tgt lv st) (kf : B = some res → XX D n ad cf p l e R s m args below meth c nL cells slots Q mem ex pc2 lv st) : XX D n ad cf p l e R s m args below meth c nL cells slots Q mem ex pc lv (.int y :: .int x :: st) := by
  subst hp
  intro H locs ls hP hD hS hl
  by_cases hc : x = y
  · rw [if_pos hc] at hF
    exact lv_icmp_eq X.1.1 X.1.2.1 hdg ht (fun _ => kt hF H locs ls hP hD hS hl) (fun q => absurd hc q)
  · rw [if_neg hc] at hF
    exact lv_icmp_eq X.1.1 X.1.2.1 hdg ht (fun q => absurd q hc) (fun _ => kf hF H locs ls hP hD hS hl)
theorem x_icmp_ne {ρ : Type} {A B : Option ρ} {res : ρ} {x y : Int32} {off : Int} (X : CX D tys n ad Z p s m args meth c cc nL own ret) (hF : (if x = y then A else B) = some res) (tgt pc2 : Nat) (hdg : decode cc pc = .ok (.if_icmp .ne off, 3)) (ht : (pc : Int) + off = (tgt : Int)) (hp : pc + 3 = pc2) (kt : A = some res → XX D n ad cf p l e R s m args below meth c nL cells slots Q mem ex pc2 lv st) (kf : B = some res → XX D n ad cf p l e R s m args below meth c nL cells slots Q mem ex tgt lv st) : XX D n ad cf p l e R s m args below meth c nL cells slots Q mem ex pc lv (.int y :: .int x :: st) := by
  subst hp
  intro H locs ls hP hD hS hl
  by_cases hc : x = y
  · rw [if_pos hc] at hF
    exact lv_icmp_ne X.1.1 X.1.2.1 hdg ht (fun q => absurd hc q) (fun _ => kt hF H locs ls hP hD hS hl)
  · rw [if_neg hc] at hF
    exact lv_icmp_ne X.1.1 X.1.2.1 hdg ht (fun _ => kf hF H locs ls hP hD hS hl) (fun q => absurd q hc)
theorem x_icmp_lt {ρ : Type} {A B : Option ρ} {res : ρ} {x y : Int32} {off : Int} (X : CX D tys n ad Z p s m args meth c cc nL own ret) (hF : (if x < y then A else B) = some res) (tgt pc2 : Nat) (hdg : decode cc pc = .ok (.if_icmp .lt off, 3)) (ht : (pc : Int) + off = (tgt : Int)) (hp : pc + 3 = pc2) (kt : A = some res → XX D n ad cf p l e R s m args below meth c nL cells slots Q mem ex tgt lv st) (kf : B = some res → XX D n ad cf p l e R s m args below meth c nL cells slots Q mem ex pc2 lv st) : XX D n ad cf p l e R s m args below meth c nL cells slots Q mem ex pc lv (.int y :: .int x :: st) := by
  subst hp
  intro H locs ls hP hD hS hl
  by_cases hc : x < y
  · rw [if_pos hc] at hF
    exact lv_icmp_lt X.1.1 X.1.2.1 hdg ht (fun _ => kt hF H locs ls hP hD hS hl) (fun q => absurd hc q)
  · rw [if_neg hc] at hF
    exact lv_icmp_lt X.1.1 X.1.2.1 hdg ht (fun q => absurd q hc) (fun _ => kf hF H locs ls hP hD hS hl)
theorem x_icmp_ge {ρ : Type} {A B : Option ρ} {res : ρ} {x y : Int32} {off : Int} (X : CX D tys n ad Z p s m args meth c cc nL own ret) (hF : (if x < y then A else B) = some res) (tgt pc2 : Nat) (hdg : decode cc pc = .ok (.if_icmp .ge off, 3)) (ht : (pc : Int) + off = (tgt : Int)) (hp : pc + 3 = pc2) (kt : A = some res → XX D n ad cf p l e R s m args below meth c nL cells slots Q mem ex pc2 lv st) (kf : B = some res → XX D n ad cf p l e R s m args below meth c nL cells slots Q mem ex tgt lv st) : XX D n ad cf p l e R s m args below meth c nL cells slots Q mem ex pc lv (.int y :: .int x :: st) := by
  subst hp
  intro H locs ls hP hD hS hl
  by_cases hc : x < y
  · rw [if_pos hc] at hF
    exact lv_icmp_ge X.1.1 X.1.2.1 hdg ht (fun q => absurd hc (Int32.not_lt.mpr q)) (fun _ => kt hF H locs ls hP hD hS hl)
  · rw [if_neg hc] at hF
    exact lv_icmp_ge X.1.1 X.1.2.1 hdg ht (fun _ => kf hF H locs ls hP hD hS hl) (fun q => absurd (Int32.not_lt.mp hc) q)
theorem x_icmp_gt {ρ : Type} {A B : Option ρ} {res : ρ} {x y : Int32} {off : Int} (X : CX D tys n ad Z p s m args meth c cc nL own ret) (hF : (if y < x then A else B) = some res) (tgt pc2 : Nat) (hdg : decode cc pc = .ok (.if_icmp .gt off, 3)) (ht : (pc : Int) + off = (tgt : Int)) (hp : pc + 3 = pc2) (kt : A = some res → XX D n ad cf p l e R s m args below meth c nL cells slots Q mem ex tgt lv st) (kf : B = some res → XX D n ad cf p l e R s m args below meth c nL cells slots Q mem ex pc2 lv st) : XX D n ad cf p l e R s m args below meth c nL cells slots Q mem ex pc lv (.int y :: .int x :: st) := by
  subst hp
  intro H locs ls hP hD hS hl
  by_cases hc : y < x
  · rw [if_pos hc] at hF
    exact lv_icmp_gt X.1.1 X.1.2.1 hdg ht (fun _ => kt hF H locs ls hP hD hS hl) (fun q => absurd hc q)
  · rw [if_neg hc] at hF
    exact lv_icmp_gt X.1.1 X.1.2.1 hdg ht (fun q => absurd q hc) (fun _ => kf hF H locs ls hP hD hS hl)
theorem x_icmp_le {ρ : Type} {A B : Option ρ} {res : ρ} {x y : Int32} {off : Int} (X : CX D tys n ad Z p s m args meth c cc nL own ret) (hF : (if y < x then A else B) = some res) (tgt pc2 : Nat) (hdg : decode cc pc = .ok (.if_icmp .le off, 3)) (ht : (pc : Int) + off = (tgt : Int)) (hp : pc + 3 = pc2) (kt : A = some res → XX D n ad cf p l e R s m args below meth c nL cells slots Q mem ex pc2 lv st) (kf : B = some res → XX D n ad cf p l e R s m args below meth c nL cells slots Q mem ex tgt lv st) : XX D n ad cf p l e R s m args below meth c nL cells slots Q mem ex pc lv (.int y :: .int x :: st) := by
  subst hp
  intro H locs ls hP hD hS hl
  by_cases hc : y < x
  · rw [if_pos hc] at hF
    exact lv_icmp_le X.1.1 X.1.2.1 hdg ht (fun q => absurd hc (Int32.not_lt.mpr q)) (fun _ => kt hF H locs ls hP hD hS hl)
  · rw [if_neg hc] at hF
    exact lv_icmp_le X.1.1 X.1.2.1 hdg ht (fun _ => kf hF H locs ls hP hD hS hl) (fun q => absurd (Int32.not_lt.mp hc) q)
theorem x_if_eq {ρ : Type} {A B : Option ρ} {res : ρ} {x : Int32} {off : Int} (X : CX D tys n ad Z p s m args meth c cc nL own ret) (hF : (if x = 0 then A else B) = some res) (tgt pc2 : Nat) (hdg : decode cc pc = .ok (.ifCond .eq off, 3)) (ht : (pc : Int) + off = (tgt : Int)) (hp : pc + 3 = pc2) (kt : A = some res → XX D n ad cf p l e R s m args below meth c nL cells slots Q mem ex tgt lv st) (kf : B = some res → XX D n ad cf p l e R s m args below meth c nL cells slots Q mem ex pc2 lv st) : XX D n ad cf p l e R s m args below meth c nL cells slots Q mem ex pc lv (.int x :: st) := by
  subst hp
  intro H locs ls hP hD hS hl
  by_cases hc : x = 0
  · rw [if_pos hc] at hF
    exact lv_if_eq X.1.1 X.1.2.1 hdg ht (fun _ => kt hF H locs ls hP hD hS hl) (fun q => absurd hc q)
  · rw [if_neg hc] at hF
    exact lv_if_eq X.1.1 X.1.2.1 hdg ht (fun q => absurd q hc) (fun _ => kf hF H locs ls hP hD hS hl)
theorem x_if_ne {ρ : Type} {A B : Option ρ} {res : ρ} {x : Int32} {off : Int} (X : CX D tys n ad Z p s m args meth c cc nL own ret) (hF : (if x = 0 then A else B) = some res) (tgt pc2 : Nat) (hdg : decode cc pc = .ok (.ifCond .ne off, 3)) (ht : (pc : Int) + off = (tgt : Int)) (hp : pc + 3 = pc2) (kt : A = some res → XX D n ad cf p l e R s m args below meth c nL cells slots Q mem ex pc2 lv st) (kf : B = some res → XX D n ad cf p l e R s m args below meth c nL cells slots Q mem ex tgt lv st) : XX D n ad cf p l e R s m args below meth c nL cells slots Q mem ex pc lv (.int x :: st) := by
  subst hp
  intro H locs ls hP hD hS hl
  by_cases hc : x = 0
  · rw [if_pos hc] at hF
    exact lv_if_ne X.1.1 X.1.2.1 hdg ht (fun q => absurd hc q) (fun _ => kt hF H locs ls hP hD hS hl)
  · rw [if_neg hc] at hF
    exact lv_if_ne X.1.1 X.1.2.1 hdg ht (fun _ => kf hF H locs ls hP hD hS hl) (fun q => absurd q hc)
theorem x_if_lt {ρ : Type} {A B : Option ρ} {res : ρ} {x : Int32} {off : Int} (X : CX D tys n ad Z p s m args meth c cc nL own ret) (hF : (if x < 0 then A else B) = some res) (tgt pc2 : Nat) (hdg : decode cc pc = .ok (.ifCond .lt off, 3)) (ht : (pc : Int) + off = (tgt : Int)) (hp : pc + 3 = pc2) (kt : A = some res → XX D n ad cf p l e R s m args below meth c nL cells slots Q mem ex tgt lv st) (kf : B = some res → XX D n ad cf p l e R s m args below meth c nL cells slots Q mem ex pc2 lv st) : XX D n ad cf p l e R s m args below meth c nL cells slots Q mem ex pc lv (.int x :: st) := by
  subst hp
  intro H locs ls hP hD hS hl
  by_cases hc : x < 0
  · rw [if_pos hc] at hF
    exact lv_if_lt X.1.1 X.1.2.1 hdg ht (fun _ => kt hF H locs ls hP hD hS hl) (fun q => absurd hc q)
  · rw [if_neg hc] at hF
    exact lv_if_lt X.1.1 X.1.2.1 hdg ht (fun q => absurd q hc) (fun _ => kf hF H locs ls hP hD hS hl)
theorem x_if_ge {ρ : Type} {A B : Option ρ} {res : ρ} {x : Int32} {off : Int} (X : CX D tys n ad Z p s m args meth c cc nL own ret) (hF : (if x < 0 then A else B) = some res) (tgt pc2 : Nat) (hdg : decode cc pc = .ok (.ifCond .ge off, 3)) (ht : (pc : Int) + off = (tgt : Int)) (hp : pc + 3 = pc2) (kt : A = some res → XX D n ad cf p l e R s m args below meth c nL cells slots Q mem ex pc2 lv st) (kf : B = some res → XX D n ad cf p l e R s m args below meth c nL cells slots Q mem ex tgt lv st) : XX D n ad cf p l e R s m args below meth c nL cells slots Q mem ex pc lv (.int x :: st) := by
  subst hp
  intro H locs ls hP hD hS hl
  by_cases hc : x < 0
  · rw [if_pos hc] at hF
    exact lv_if_ge X.1.1 X.1.2.1 hdg ht (fun q => absurd hc (Int32.not_lt.mpr q)) (fun _ => kt hF H locs ls hP hD hS hl)
  · rw [if_neg hc] at hF
    exact lv_if_ge X.1.1 X.1.2.1 hdg ht (fun _ => kf hF H locs ls hP hD hS hl) (fun q => absurd (Int32.not_lt.mp hc) q)
theorem x_if_gt {ρ : Type} {A B : Option ρ} {res : ρ} {x : Int32} {off : Int} (X : CX D tys n ad Z p s m args meth c cc nL own ret) (hF : (if 0 < x then A else B) = some res) (tgt pc2 : Nat) (hdg : decode cc pc = .ok (.ifCond .gt off, 3)) (ht : (pc : Int) + off = (tgt : Int)) (hp : pc + 3 = pc2) (kt : A = some res → XX D n ad cf p l e R s m args below meth c nL cells slots Q mem ex tgt lv st) (kf : B = some res → XX D n ad cf p l e R s m args below meth c nL cells slots Q mem ex pc2 lv st) : XX D n ad cf p l e R s m args below meth c nL cells slots Q mem ex pc lv (.int x :: st) := by
  subst hp
  intro H locs ls hP hD hS hl
  by_cases hc : 0 < x
  · rw [if_pos hc] at hF
    exact lv_if_gt X.1.1 X.1.2.1 hdg ht (fun _ => kt hF H locs ls hP hD hS hl) (fun q => absurd hc q)
  · rw [if_neg hc] at hF
    exact lv_if_gt X.1.1 X.1.2.1 hdg ht (fun q => absurd q hc) (fun _ => kf hF H locs ls hP hD hS hl)
theorem x_if_le {ρ : Type} {A B : Option ρ} {res : ρ} {x : Int32} {off : Int} (X : CX D tys n ad Z p s m args meth c cc nL own ret) (hF : (if 0 < x then A else B) = some res) (tgt pc2 : Nat) (hdg : decode cc pc = .ok (.ifCond .le off, 3)) (ht : (pc : Int) + off = (tgt : Int)) (hp : pc + 3 = pc2) (kt : A = some res → XX D n ad cf p l e R s m args below meth c nL cells slots Q mem ex pc2 lv st) (kf : B = some res → XX D n ad cf p l e R s m args below meth c nL cells slots Q mem ex tgt lv st) : XX D n ad cf p l e R s m args below meth c nL cells slots Q mem ex pc lv (.int x :: st) := by
  subst hp
  intro H locs ls hP hD hS hl
  by_cases hc : 0 < x
  · rw [if_pos hc] at hF
    exact lv_if_le X.1.1 X.1.2.1 hdg ht (fun q => absurd hc (Int32.not_lt.mpr q)) (fun _ => kt hF H locs ls hP hD hS hl)
  · rw [if_neg hc] at hF
    exact lv_if_le X.1.1 X.1.2.1 hdg ht (fun _ => kf hF H locs ls hP hD hS hl) (fun q => absurd (Int32.not_lt.mp hc) q)
theorem x_case {ρ : Type} {A B : Option ρ} {res : ρ} {x v : Int32} (hF : (if x = v then A else B) = some res) (kt : x = v → A = some res → XX D n ad cf p l e R s m args below meth c nL cells slots Q mem ex pc lv st) (kf : ¬ x = v → B = some res → XX D n ad cf p l e R s m args below meth c nL cells slots Q mem ex pc lv st) : XX D n ad cf p l e R s m args below meth c nL cells slots Q mem ex pc lv st := by
  by_cases hc : x = v
  · rw [if_pos hc] at hF
    exact kt hc hF
  · rw [if_neg hc] at hF
    exact kf hc hF
theorem x_tin {x v : Int32} {dflt lo hi : Int} {offs : Array Int} {len : Nat} {off : Int} (X : CX D tys n ad Z p s m args meth c cc nL own ret) (tgt : Nat) (hdg : decode cc pc = .ok (.tableswitch dflt lo hi offs, len)) (hx : x = v) (h1 : ¬ v.toInt < lo) (h2 : ¬ hi < v.toInt) (ho : offs[(v.toInt - lo).toNat]? = some off) (ht : (pc : Int) + off = (tgt : Int)) (kk : XX D n ad cf p l e R s m args below meth c nL cells slots Q mem ex tgt lv st) : XX D n ad cf p l e R s m args below meth c nL cells slots Q mem ex pc lv (.int x :: st) := by
  subst hx
  exact fun H locs ls hP hD hS hl => lv_tableIn X.1.1 X.1.2.1 hdg h1 h2 ho ht (kk H locs ls hP hD hS hl)
theorem x_tout {x : Int32} {dflt lo hi : Int} {offs : Array Int} {len : Nat} (X : CX D tys n ad Z p s m args meth c cc nL own ret) (tgt : Nat) (hdg : decode cc pc = .ok (.tableswitch dflt lo hi offs, len)) (h : x.toInt < lo ∨ hi < x.toInt) (ht : (pc : Int) + dflt = (tgt : Int)) (kk : XX D n ad cf p l e R s m args below meth c nL cells slots Q mem ex tgt lv st) : XX D n ad cf p l e R s m args below meth c nL cells slots Q mem ex pc lv (.int x :: st) :=
  fun H locs ls hP hD hS hl => lv_tableOut X.1.1 X.1.2.1 hdg h ht (kk H locs ls hP hD hS hl)
theorem x_get {v : Value} (X : CX D tys n ad Z p s m args meth c cc nL own ret) (k : Nat) (hk : k < n) {ci : Nat} {fs : List Value} (he : cf k (mem k) = .inr (ci, fs)) {C ref : String} {T : u_T} {N index : Nat} (hc : vwCl[ci]? = some (C, T, N)) (hin : ∀ w ∈ u_ws C T N, w ∈ GW) (j : Nat) (hj : j < N) (hlk : Cond.fieldLink own index ref (T j).2.1 (T j).2.2.1 ∈ GW) (hr : (T j).1 = ref) (hv : fs[j]? = some v) (hdg : decode cc pc = .ok (.getfield index, 3)) (pc2 : Nat) (hp : pc + 3 = pc2) (kk : XX D n ad cf p l e R s m args below meth c nL cells slots Q mem ex pc2 lv (v :: st)) : XX D n ad cf p l e R s m args below meth c nL cells slots Q mem ex pc lv (.ref (ad k) :: st) := by
  subst hp
  exact fun H locs ls hP hD hS hl => va_get X.1.1 X.1.2.1 X.1.2.2.2.2 hin X.1.2.2.2.1 X.2.2.2.1 hP k (by rw [wx_at hk, he]) hc j hj (X.1.2.2.2.2 _ hlk) (fun _ h => by rw [hr] at h; exact h) hv hdg (kk H locs ls hP hD hS hl)
theorem x_put {v : Value} (X : CX D tys n ad Z p s m args meth c cc nL own ret) (k : Nat) (hk : k < n) {ci : Nat} {fs : List Value} (he : cf k (mem k) = .inr (ci, fs)) {C ref : String} {T : u_T} {N index : Nat} (hc : vwCl[ci]? = some (C, T, N)) (hin : ∀ w ∈ u_ws C T N, w ∈ GW) (j : Nat) (hj : j < N) (hlk : Cond.fieldLink own index ref (T j).2.1 (T j).2.2.1 ∈ GW) (hr : (T j).1 = ref) (ty0 : Nat → FieldType) (hty : ∀ k, k < N → parseFieldDescriptor (T k).2.2.1 = some (ty0 k)) (hnm : ∀ a, a < N → ∀ b, b < N → a ≠ b → (T a).2.1 ≠ (T b).2.1) (hfin : (T j).2.2.2 = false) (hn : narrow (ty0 j) v = v) (hfit : fits (ty0 j) v = true) (hl0 : j < fs.length) (r : Row) (hrow : cf k r = .inr (ci, fs.set j v)) (hdg : decode cc pc = .ok (.putfield index, 3)) (pc2 : Nat) (hp : pc + 3 = pc2) (kk : XX D n ad cf p l e R s m args below meth c nL cells slots Q (mr mem k r) ex pc2 lv st) : XX D n ad cf p l e R s m args below meth c nL cells slots Q mem ex pc lv (v :: .ref (ad k) :: st) := by
  subst hp
  intro H locs ls hP hD hS hl
  refine va_put X.1.1 X.1.2.1 X.1.2.2.2.2 hin ty0 hty hnm X.1.2.2.2.1 X.2.2.2.1 hP hD hS k (by rw [wx_at hk, he]) hc j hj (X.1.2.2.2.2 _ hlk) (fun _ h => by rw [hr] at h; exact h) hfin (hty j hj) hn hfit hl0 hdg (fun H1 locs1 hP1 hD1 hS1 => kk H1 locs1 ls ?_ ?_ hS1 hl)
  · rw [wx_set hk hrow] at hP1; exact hP1
  · rw [wx_set hk hrow] at hD1; exact hD1
theorem x_iald (X : CX D tys n ad Z p s m args meth c cc nL own ret) (k : Nat) (hk : k < n) {cA : ClassId} {N t0 : Nat} {f : Nat → Int32} {i : Int32} (he : cf k (mem k) = .inl (cA, N, .inl f)) (ht : tys[t0]? = some (cA, .int)) (hi : vp_in i N) (hdg : decode cc pc = .ok (.iaload, 1)) (pc2 : Nat) (hp : pc + 1 = pc2) (kk : XX D n ad cf p l e R s m args below meth c nL cells slots Q mem ex pc2 lv (.int (f i.toNatClampNeg) :: st)) : XX D n ad cf p l e R s m args below meth c nL cells slots Q mem ex pc lv (.int i :: .ref (ad k) :: st) := by
  subst hp
  exact fun H locs ls hP hD hS hl => va_iald X.1.1 X.1.2.1 X.2.2.2.1 hP k t0 (by rw [wx_at hk, he]) ht hi hdg (kk H locs ls hP hD hS hl)
theorem x_bald (X : CX D tys n ad Z p s m args meth c cc nL own ret) (k : Nat) (hk : k < n) {cA : ClassId} {N t0 : Nat} {f : Nat → Int32} {i : Int32} (he : cf k (mem k) = .inl (cA, N, .inl f)) (ht : tys[t0]? = some (cA, .byte)) (hi : vp_in i N) (hdg : decode cc pc = .ok (.baload, 1)) (pc2 : Nat) (hp : pc + 1 = pc2) (kk : XX D n ad cf p l e R s m args below meth c nL cells slots Q mem ex pc2 lv (.int (f i.toNatClampNeg) :: st)) : XX D n ad cf p l e R s m args below meth c nL cells slots Q mem ex pc lv (.int i :: .ref (ad k) :: st) := by
  subst hp
  exact fun H locs ls hP hD hS hl => va_bald X.1.1 X.1.2.1 X.2.2.2.1 hP k t0 (by rw [wx_at hk, he]) ht hi hdg (kk H locs ls hP hD hS hl)
theorem x_iast (X : CX D tys n ad Z p s m args meth c cc nL own ret) (k : Nat) (hk : k < n) {cA : ClassId} {N t0 : Nat} {f : Nat → Int32} {i : Int32} {x : Int32} (he : cf k (mem k) = .inl (cA, N, .inl f)) (ht : tys[t0]? = some (cA, .int)) (hi : vp_in i N) (r : Row) (hrow : cf k r = .inl (cA, N, .inl (upd f i.toNatClampNeg x))) (hdg : decode cc pc = .ok (.iastore, 1)) (pc2 : Nat) (hp : pc + 1 = pc2) (kk : XX D n ad cf p l e R s m args below meth c nL cells slots Q (mr mem k r) ex pc2 lv st) : XX D n ad cf p l e R s m args below meth c nL cells slots Q mem ex pc lv (.int x :: .int i :: .ref (ad k) :: st) := by
  subst hp
  intro H locs ls hP hD hS hl
  refine va_iast X.1.1 X.1.2.1 X.2.2.2.1 hP hD hS k t0 (by rw [wx_at hk, he]) ht hi hdg (fun H1 locs1 hP1 hD1 hS1 => kk H1 locs1 ls ?_ ?_ hS1 hl)
  · rw [wx_set hk hrow] at hP1; exact hP1
  · rw [wx_set hk hrow] at hD1; exact hD1
theorem x_bast (X : CX D tys n ad Z p s m args meth c cc nL own ret) (k : Nat) (hk : k < n) {cA : ClassId} {N t0 : Nat} {f : Nat → Int32} {i : Int32} {x : Int32} (he : cf k (mem k) = .inl (cA, N, .inl f)) (ht : tys[t0]? = some (cA, .byte)) (hi : vp_in i N) (r : Row) (hrow : cf k r = .inl (cA, N, .inl (upd f i.toNatClampNeg (vp_nar .byte x)))) (hdg : decode cc pc = .ok (.bastore, 1)) (pc2 : Nat) (hp : pc + 1 = pc2) (kk : XX D n ad cf p l e R s m args below meth c nL cells slots Q (mr mem k r) ex pc2 lv st) : XX D n ad cf p l e R s m args below meth c nL cells slots Q mem ex pc lv (.int x :: .int i :: .ref (ad k) :: st) := by
  subst hp
  intro H locs ls hP hD hS hl
  refine va_bast X.1.1 X.1.2.1 X.2.2.2.1 hP hD hS k t0 (by rw [wx_at hk, he]) ht hi hdg (fun H1 locs1 hP1 hD1 hS1 => kk H1 locs1 ls ?_ ?_ hS1 hl)
  · rw [wx_set hk hrow] at hP1; exact hP1
  · rw [wx_set hk hrow] at hD1; exact hD1
theorem x_aald (X : CX D tys n ad Z p s m args meth c cc nL own ret) (k : Nat) (hk : k < n) {cA : ClassId} {C : String} {N t0 : Nat} {f : Nat → Option Nat} {i : Int32} (q : Nat) (he : cf k (mem k) = .inl (cA, N, .inr (.inr (.inr (.inr f))))) (ht : tys[t0]? = some (cA, .object C)) (hi : vp_in i N) (hq : f i.toNatClampNeg = some (ad q)) (hdg : decode cc pc = .ok (.aaload, 1)) (pc2 : Nat) (hp : pc + 1 = pc2) (kk : XX D n ad cf p l e R s m args below meth c nL cells slots Q mem ex pc2 lv (.ref (ad q) :: st)) : XX D n ad cf p l e R s m args below meth c nL cells slots Q mem ex pc lv (.int i :: .ref (ad k) :: st) := by
  subst hp
  exact fun H locs ls hP hD hS hl => va_aldq X.1.1 X.1.2.1 X.2.2.2.1 hP k t0 (by rw [wx_at hk, he]) ht hi hdg (by rw [hq]; exact kk H locs ls hP hD hS hl)
theorem x_alen (X : CX D tys n ad Z p s m args meth c cc nL own ret) (k : Nat) (hk : k < n) {cA : ClassId} {N t0 : Nat} {ty : FieldType} {a : (Nat → Int32) ⊕ (Nat → Int64) ⊕ (Nat → UInt32) ⊕ (Nat → UInt64) ⊕ (Nat → Option Nat)} (v : Int32) (he : cf k (mem k) = .inl (cA, N, a)) (ht : tys[t0]? = some (cA, ty)) (hv : Int32.ofNat N = v) (hdg : decode cc pc = .ok (.arraylength, 1)) (pc2 : Nat) (hp : pc + 1 = pc2) (kk : XX D n ad cf p l e R s m args below meth c nL cells slots Q mem ex pc2 lv (.int v :: st)) : XX D n ad cf p l e R s m args below meth c nL cells slots Q mem ex pc lv (.ref (ad k) :: st) := by
  subst hp
  exact fun H locs ls hP hD hS hl => va_alen X.1.1 X.1.2.1 X.2.2.2.1 hP k t0 (by rw [wx_at hk, he]) ht hv hdg (kk H locs ls hP hD hS hl)
theorem x_getV {v : Value} (X : CX D tys n ad Z p s m args meth c cc nL own ret) (k : Nat) (hk : k < n) {ci : Nat} {fl : Row → List Value} (he : ∀ f : Row, cf k f = .inr (ci, fl f)) {C ref : String} {T : u_T} {N index : Nat} (hc : vwCl[ci]? = some (C, T, N)) (hin : ∀ w ∈ u_ws C T N, w ∈ GW) (j : Nat) (hj : j < N) (hlk : Cond.fieldLink own index ref (T j).2.1 (T j).2.2.1 ∈ GW) (hr : (T j).1 = ref) (hv : (fl (mem k))[j]? = some v) (hdg : decode cc pc = .ok (.getfield index, 3)) (pc2 : Nat) (hp : pc + 3 = pc2) (kk : XX D n ad cf p l e R s m args below meth c nL cells slots Q mem ex pc2 lv (v :: st)) : XX D n ad cf p l e R s m args below meth c nL cells slots Q mem ex pc lv (.ref (ad k) :: st) :=
  x_get X k hk (he _) hc hin j hj hlk hr hv hdg pc2 hp kk
theorem x_putI {x : Int32} (X : CX D tys n ad Z p s m args meth c cc nL own ret) (k : Nat) (hk : k < n) {ci : Nat} {fl : Row → List Value} (he : ∀ f : Row, cf k f = .inr (ci, fl f)) {C ref : String} {T : u_T} {N index : Nat} (hc : vwCl[ci]? = some (C, T, N)) (hin : ∀ w ∈ u_ws C T N, w ∈ GW) (ty0 : Nat → FieldType) (hty : ∀ k, k < N → parseFieldDescriptor (T k).2.2.1 = some (ty0 k)) (hnm : ∀ a, a < N → ∀ b, b < N → a ≠ b → (T a).2.1 ≠ (T b).2.1) (j : Nat) (hj : j < N) (hlk : Cond.fieldLink own index ref (T j).2.1 (T j).2.2.1 ∈ GW) (hr : (T j).1 = ref) (hfin : (T j).2.2.2 = false) (hn : narrow (ty0 j) (.int x) = .int x) (hfit : fits (ty0 j) (.int x) = true) (hl0 : j < (fl (mem k)).length) (hset : fl (upd (mem k).1 j x, (mem k).2) = (fl (mem k)).set j (.int x)) (hdg : decode cc pc = .ok (.putfield index, 3)) (pc2 : Nat) (hp : pc + 3 = pc2) (kk : XX D n ad cf p l e R s m args below meth c nL cells slots Q (mw mem k j x) ex pc2 lv st) : XX D n ad cf p l e R s m args below meth c nL cells slots Q mem ex pc lv (.int x :: .ref (ad k) :: st) :=
  x_put X k hk (he _) hc hin j hj hlk hr ty0 hty hnm hfin hn hfit hl0 (upd (mem k).1 j x, (mem k).2) (by rw [he, hset]) hdg pc2 hp kk
theorem x_ial (X : CX D tys n ad Z p s m args meth c cc nL own ret) (k : Nat) (hk : k < n) {cA : ClassId} {N t0 : Nat} {i : Int32} (he : ∀ f : Row, cf k f = .inl (cA, N, .inl f.1)) (ht : tys[t0]? = some (cA, .int)) (hi : vp_in i N) (hdg : decode cc pc = .ok (.iaload, 1)) (pc2 : Nat) (hp : pc + 1 = pc2) (kk : XX D n ad cf p l e R s m args below meth c nL cells slots Q mem ex pc2 lv (.int (rd mem k i.toNatClampNeg) :: st)) : XX D n ad cf p l e R s m args below meth c nL cells slots Q mem ex pc lv (.int i :: .ref (ad k) :: st) := x_iald X k hk (he _) ht hi hdg pc2 hp kk
theorem x_bal (X : CX D tys n ad Z p s m args meth c cc nL own ret) (k : Nat) (hk : k < n) {cA : ClassId} {N t0 : Nat} {i : Int32} (he : ∀ f : Row, cf k f = .inl (cA, N, .inl f.1)) (ht : tys[t0]? = some (cA, .byte)) (hi : vp_in i N) (hdg : decode cc pc = .ok (.baload, 1)) (pc2 : Nat) (hp : pc + 1 = pc2) (kk : XX D n ad cf p l e R s m args below meth c nL cells slots Q mem ex pc2 lv (.int (rd mem k i.toNatClampNeg) :: st)) : XX D n ad cf p l e R s m args below meth c nL cells slots Q mem ex pc lv (.int i :: .ref (ad k) :: st) := x_bald X k hk (he _) ht hi hdg pc2 hp kk
theorem x_ias (X : CX D tys n ad Z p s m args meth c cc nL own ret) (k : Nat) (hk : k < n) {cA : ClassId} {N t0 : Nat} {i x : Int32} (he : ∀ f : Row, cf k f = .inl (cA, N, .inl f.1)) (ht : tys[t0]? = some (cA, .int)) (hi : vp_in i N) (hdg : decode cc pc = .ok (.iastore, 1)) (pc2 : Nat) (hp : pc + 1 = pc2) (kk : XX D n ad cf p l e R s m args below meth c nL cells slots Q (mw mem k i.toNatClampNeg x) ex pc2 lv st) : XX D n ad cf p l e R s m args below meth c nL cells slots Q mem ex pc lv (.int x :: .int i :: .ref (ad k) :: st) := x_iast X k hk (he _) ht hi (upd (mem k).1 i.toNatClampNeg x, (mem k).2) (he _) hdg pc2 hp kk
theorem x_bas (X : CX D tys n ad Z p s m args meth c cc nL own ret) (k : Nat) (hk : k < n) {cA : ClassId} {N t0 : Nat} {i x : Int32} (he : ∀ f : Row, cf k f = .inl (cA, N, .inl f.1)) (ht : tys[t0]? = some (cA, .byte)) (hi : vp_in i N) (hdg : decode cc pc = .ok (.bastore, 1)) (pc2 : Nat) (hp : pc + 1 = pc2) (kk : XX D n ad cf p l e R s m args below meth c nL cells slots Q (mw mem k i.toNatClampNeg (vp_nar .byte x)) ex pc2 lv st) : XX D n ad cf p l e R s m args below meth c nL cells slots Q mem ex pc lv (.int x :: .int i :: .ref (ad k) :: st) := x_bast X k hk (he _) ht hi (upd (mem k).1 i.toNatClampNeg (vp_nar .byte x), (mem k).2) (he _) hdg pc2 hp kk
theorem x_aal (X : CX D tys n ad Z p s m args meth c cc nL own ret) (k : Nat) (hk : k < n) {cA : ClassId} {C : String} {N t0 : Nat} {g : Nat → Option Nat} {i : Int32} (q : Nat) (he : ∀ f : Row, cf k f = .inl (cA, N, .inr (.inr (.inr (.inr g))))) (ht : tys[t0]? = some (cA, .object C)) (hi : vp_in i N) (hq : g i.toNatClampNeg = some (ad q)) (hdg : decode cc pc = .ok (.aaload, 1)) (pc2 : Nat) (hp : pc + 1 = pc2) (kk : XX D n ad cf p l e R s m args below meth c nL cells slots Q mem ex pc2 lv (.ref (ad q) :: st)) : XX D n ad cf p l e R s m args below meth c nL cells slots Q mem ex pc lv (.int i :: .ref (ad k) :: st) := x_aald X k hk q (he _) ht hi hq hdg pc2 hp kk
theorem x_gc {ρ : Type} {o : Option ρ} {res : ρ} {x : Int32} (hF : gc x o = some res) (kk : narrow .char (.int x) = .int x → o = some res → XX D n ad cf p l e R s m args below meth c nL cells slots Q mem ex pc lv st) : XX D n ad cf p l e R s m args below meth c nL cells slots Q mem ex pc lv st := kk (gc_some hF).1 (gc_some hF).2
theorem x_i2c {x : Int32} (X : CX D tys n ad Z p s m args meth c cc nL own ret) (hdg : decode cc pc = .ok (.i2c, 1)) (pc2 : Nat) (hp : pc + 1 = pc2) (kk : XX D n ad cf p l e R s m args below meth c nL cells slots Q mem ex pc2 lv (.int (x.toUInt32 % 65536).toInt32 :: st)) : XX D n ad cf p l e R s m args below meth c nL cells slots Q mem ex pc lv (.int x :: st) := by
  subst hp
  exact fun H locs ls hP hD hS hl => lv_i2c X.1.1 X.1.2.1 hdg rfl (kk H locs ls hP hD hS hl)
theorem x_putR {x : Int32} {v : Value} (X : CX D tys n ad Z p s m args meth c cc nL own ret) (k : Nat) (hk : k < n) {ci : Nat} {fl : Row → List Value} (he : ∀ f : Row, cf k f = .inr (ci, fl f)) {C ref : String} {T : u_T} {N index : Nat} (hc : vwCl[ci]? = some (C, T, N)) (hin : ∀ w ∈ u_ws C T N, w ∈ GW) (ty0 : Nat → FieldType) (hty : ∀ k, k < N → parseFieldDescriptor (T k).2.2.1 = some (ty0 k)) (hnm : ∀ a, a < N → ∀ b, b < N → a ≠ b → (T a).2.1 ≠ (T b).2.1) (j : Nat) (hj : j < N) (hlk : Cond.fieldLink own index ref (T j).2.1 (T j).2.2.1 ∈ GW) (hr : (T j).1 = ref) (hfin : (T j).2.2.2 = false) (hn : narrow (ty0 j) v = v) (hfit : fits (ty0 j) v = true) (hl0 : j < (fl (mem k)).length) (hset : fl (upd (mem k).1 j x, (mem k).2) = (fl (mem k)).set j v) (hdg : decode cc pc = .ok (.putfield index, 3)) (pc2 : Nat) (hp : pc + 3 = pc2) (kk : XX D n ad cf p l e R s m args below meth c nL cells slots Q (mw mem k j x) ex pc2 lv st) : XX D n ad cf p l e R s m args below meth c nL cells slots Q mem ex pc lv (v :: .ref (ad k) :: st) :=
  x_put X k hk (he _) hc hin j hj hlk hr ty0 hty hnm hfin hn hfit hl0 (upd (mem k).1 j x, (mem k).2) (by rw [he, hset]) hdg pc2 hp kk
theorem ex_new {sz : Nat} (hD : va_D (AA n ad sz) (wf n ad cf mem ++ ex)) : ∀ q ∈ ex, sz ≤ q.1 := fun q hq => by
  obtain ⟨j, hj⟩ := List.getElem?_of_mem hq
  have h1 : (wf n ad cf mem ++ ex)[n + j]? = some q := we_at.trans hj
  rcases hD.2 _ _ h1 with ⟨k, hk, he⟩ | h
  · have := hD.1 k (n + j) (ad k, cf k (mem k)) q (wx_at hk) h1 he.symm
    omega
  · exact h
theorem x_widen {k k2 : Nat} (h1 : cells ≤ k) (h2 : slots ≤ k2) (kk : XX D n ad cf p l e R s m args below meth c nL k k2 Q mem ex pc lv st) : XX D n ad cf p l e R s m args below meth c nL cells slots Q mem ex pc lv st := fun H locs ls hP hD hS hl => W.widen h1 h2 (kk H locs ls hP hD hS hl)
/-- further things are dropped -/
theorem x_drop (kk : XX D n ad cf p l e R s m args below meth c nL cells slots Q mem [] pc lv st) : XX D n ad cf p l e R s m args below meth c nL cells slots Q mem ex pc lv st := fun H locs ls hP hD hS hl => kk H locs ls (by rw [List.append_nil]; exact wP_l hP) (by rw [List.append_nil]; exact wD_l hD) hS hl
theorem x_take (ex1 ex2 : va_W) (h : ex = ex1 ++ ex2) (kk : XX D n ad cf p l e R s m args below meth c nL cells slots Q mem ex1 pc lv st) : XX D n ad cf p l e R s m args below meth c nL cells slots Q mem ex pc lv st := by
  subst h
  exact fun H locs ls hP hD hS hl => kk H locs ls (wP_l (ex := ex2) (by rw [List.append_assoc]; exact hP)) (wD_l (ex := ex2) (by rw [List.append_assoc]; exact hD)) hS hl
/-- contracts: as CI and CV, with things made on the way -/
def CJ (l : Launch) (D : va_G) (tys : List (ClassId × FieldType)) (n : Nat) (ad : Nat → Nat) (cf : Nat → Row → va_E) (Z : (Nat → Prop) → State → Heap → Prop) (y : MethodName) (cc : ByteArray) (nL : Nat) (ret : FieldType) (rm : Room) (av : List Value) (mem : Mem) (x : Int32) (mem' : Mem) : Prop :=
  ∀ sz : Nat, Met l y (Cond.code y cc nL (some ret) :: GW) rm (va_Pc av (PW D tys n ad cf Z mem sz)) (va_Qi (fun (r : Int32) (u : Unit) => r = x ∧ u = ()) (fun _ t => va_P D vwCl (wf n ad cf mem') t.heap) (AA n ad sz)) rm.cells rm.slots (AA n ad sz)
def CJv (l : Launch) (D : va_G) (tys : List (ClassId × FieldType)) (n : Nat) (ad : Nat → Nat) (cf : Nat → Row → va_E) (Z : (Nat → Prop) → State → Heap → Prop) (y : MethodName) (cc : ByteArray) (nL : Nat) (rm : Room) (av : List Value) (mem : Mem) (mem' : Mem) : Prop :=
  ∀ sz : Nat, Met l y (Cond.code y cc nL none :: GW) rm (va_Pc av (PW D tys n ad cf Z mem sz)) (va_Qv (fun (u : Unit) => u = ()) (fun _ t => va_P D vwCl (wf n ad cf mem') t.heap) (AA n ad sz)) rm.cells rm.slots (AA n ad sz)
/-- a reference comes back: its address first in new things of a form that B tells -/
def CJr (l : Launch) (D : va_G) (tys : List (ClassId × FieldType)) (n : Nat) (ad : Nat → Nat) (cf : Nat → Row → va_E) (Z : (Nat → Prop) → State → Heap → Prop) (y : MethodName) (cc : ByteArray) (nL : Nat) (ret : FieldType) (rm : Room) (av : List Value) (mem : Mem) (B : Nat → va_W → Prop) (mem' : Mem) : Prop :=
  ∀ sz : Nat, Met l y (Cond.code y cc nL (some ret) :: GW) rm (va_Pc av (PW D tys n ad cf Z mem sz)) (va_Qr (fun (u : Nat × va_W) => B u.1 u.2) (fun u a t => a = u.1 ∧ va_P D vwCl (wf n ad cf mem' ++ u.2) t.heap ∧ va_D (AA n ad sz) (wf n ad cf mem' ++ u.2) ∧ ∀ q ∈ u.2, sz ≤ q.1) (AA n ad sz)) rm.cells rm.slots (AA n ad sz)
theorem xstart_i {y : MethodName} {rt : FieldType} {rm : Room} {av : List Value} {x : Int32} {mem' : Mem} (ho : y.cls = own) (hy : plainName y.cls = true) (hn : (lg_sl av).length ≤ nL)
    (body : ∀ p e s m args below meth c Q, Q = MQ below (va_Qi (fun (r : Int32) (u : Unit) => r = x ∧ u = ()) (fun _ t => va_P D vwCl (wf n ad cf mem') t.heap) (AA n ad s.heap.size)) args s rm.cells rm.slots (AA n ad s.heap.size) → CX D tys n ad Z p s m args meth c cc nL own (some rt) → XX D n ad cf p l e rm s m args below meth c nL 0 0 Q mem [] 0 (lv_args 0 av) []) : CJ l D tys n ad cf Z y cc nL rt rm av mem x mem' := by
  subst ho
  intro sz
  refine Met.ofW (cc := cc) (maxL := nL) (ret := some rt) hy rfl ?_
  intro p e s m args below meth c s₁ B hml hv
  obtain ⟨rfl, hsz, hP, hK, hI, hZ⟩ := hv
  subst hsz
  have hts := atoms_spec (ws := Cond.code y cc nL (some rt) :: GW) B.pre
  rw [lg_entry_eq]
  exact body p e s m _ below meth c _ rfl ⟨⟨B.exec, B.bytes, hml, findClass_of_methodNamed B.named, fun w hw => hts w (List.mem_cons_of_mem _ hw)⟩, B.returns, B.notSynchronized, hK, hI, hZ⟩ s.heap [] _ (by rw [List.append_nil]; exact hP) (by rw [List.append_nil]; exact wf_D hI) va_S.rf (lv_entry av hn)
theorem xstart_v {y : MethodName} {rm : Room} {av : List Value} {mem' : Mem} (ho : y.cls = own) (hy : plainName y.cls = true) (hn : (lg_sl av).length ≤ nL)
    (body : ∀ p e s m args below meth c Q, Q = MQ below (va_Qv (fun (u : Unit) => u = ()) (fun _ t => va_P D vwCl (wf n ad cf mem') t.heap) (AA n ad s.heap.size)) args s rm.cells rm.slots (AA n ad s.heap.size) → CX D tys n ad Z p s m args meth c cc nL own none → XX D n ad cf p l e rm s m args below meth c nL 0 0 Q mem [] 0 (lv_args 0 av) []) : CJv l D tys n ad cf Z y cc nL rm av mem mem' := by
  subst ho
  intro sz
  refine Met.ofW (cc := cc) (maxL := nL) (ret := none) hy rfl ?_
  intro p e s m args below meth c s₁ B hml hv
  obtain ⟨rfl, hsz, hP, hK, hI, hZ⟩ := hv
  subst hsz
  have hts := atoms_spec (ws := Cond.code y cc nL none :: GW) B.pre
  rw [lg_entry_eq]
  exact body p e s m _ below meth c _ rfl ⟨⟨B.exec, B.bytes, hml, findClass_of_methodNamed B.named, fun w hw => hts w (List.mem_cons_of_mem _ hw)⟩, B.returns, B.notSynchronized, hK, hI, hZ⟩ s.heap [] _ (by rw [List.append_nil]; exact hP) (by rw [List.append_nil]; exact wf_D hI) va_S.rf (lv_entry av hn)
theorem xstart_r {y : MethodName} {rt : FieldType} {rm : Room} {av : List Value} {B : Nat → va_W → Prop} {mem' : Mem} (ho : y.cls = own) (hy : plainName y.cls = true) (hn : (lg_sl av).length ≤ nL)
    (body : ∀ p e s m args below meth c Q, Q = MQ below (va_Qr (fun (u : Nat × va_W) => B u.1 u.2) (fun u a t => a = u.1 ∧ va_P D vwCl (wf n ad cf mem' ++ u.2) t.heap ∧ va_D (AA n ad s.heap.size) (wf n ad cf mem' ++ u.2) ∧ ∀ q ∈ u.2, s.heap.size ≤ q.1) (AA n ad s.heap.size)) args s rm.cells rm.slots (AA n ad s.heap.size) → CX D tys n ad Z p s m args meth c cc nL own (some rt) → XX D n ad cf p l e rm s m args below meth c nL 0 0 Q mem [] 0 (lv_args 0 av) []) : CJr l D tys n ad cf Z y cc nL rt rm av mem B mem' := by
  subst ho
  intro sz
  refine Met.ofW (cc := cc) (maxL := nL) (ret := some rt) hy rfl ?_
  intro p e s m args below meth c s₁ B hml hv
  obtain ⟨rfl, hsz, hP, hK, hI, hZ⟩ := hv
  subst hsz
  have hts := atoms_spec (ws := Cond.code y cc nL (some rt) :: GW) B.pre
  rw [lg_entry_eq]
  exact body p e s m _ below meth c _ rfl ⟨⟨B.exec, B.bytes, hml, findClass_of_methodNamed B.named, fun w hw => hts w (List.mem_cons_of_mem _ hw)⟩, B.returns, B.notSynchronized, hK, hI, hZ⟩ s.heap [] _ (by rw [List.append_nil]; exact hP) (by rw [List.append_nil]; exact wf_D hI) va_S.rf (lv_entry av hn)
theorem x_iret {x : Int32} {mem' : Mem} {x' : Int32} {rt : FieldType} {k1 k2 : Nat} (X : CX D tys n ad Z p s m args meth c cc nL own (some rt)) (hQ : Q = MQ below (va_Qi (fun (r : Int32) (u : Unit) => r = x' ∧ u = ()) (fun _ t => va_P D vwCl (wf n ad cf mem') t.heap) (AA n ad s.heap.size)) args s k1 k2 (AA n ad s.heap.size)) (hx : x = x') (hm : mem = mem') (hn : narrow rt (.int x) = .int x) (h1 : cells ≤ k1) (h2 : slots ≤ k2) (hdg : decode cc pc = .ok (.ireturn, 1)) : XX D n ad cf p l e R s m args below meth c nL cells slots Q mem ex pc lv [.int x] := by
  subst hm; subst hx; subst hQ
  exact fun H locs ls hP hD hS hl => W.widen h1 h2 (W.zret X.1.1 X.1.2.1 X.2.1 hn (fun t ht hW => ⟨⟨x, (), rfl, ⟨rfl, rfl⟩, by rw [← ht] at hP; exact wP_l hP⟩, hS.F ht⟩) hS.2.2 hdg X.2.2.1)
theorem x_vret {mem' : Mem} {k1 k2 : Nat} (X : CX D tys n ad Z p s m args meth c cc nL own none) (hQ : Q = MQ below (va_Qv (fun (u : Unit) => u = ()) (fun _ t => va_P D vwCl (wf n ad cf mem') t.heap) (AA n ad s.heap.size)) args s k1 k2 (AA n ad s.heap.size)) (hm : mem = mem') (h1 : cells ≤ k1) (h2 : slots ≤ k2) (hdg : decode cc pc = .ok (.return_, 1)) : XX D n ad cf p l e R s m args below meth c nL cells slots Q mem ex pc lv [] := by
  subst hm; subst hQ
  exact fun H locs ls hP hD hS hl => W.widen h1 h2 (W.vret X.1.1 X.1.2.1 X.2.1 (fun t ht hW => ⟨⟨(), rfl, rfl, by rw [← ht] at hP; exact wP_l hP⟩, hS.F ht⟩) hS.2.2 hdg X.2.2.1)
theorem x_aret {a : Nat} {B : Nat → va_W → Prop} {mem' : Mem} {rt : FieldType} {k1 k2 : Nat} (X : CX D tys n ad Z p s m args meth c cc nL own (some rt)) (hrt : (∃ n, rt = .object n) ∨ ∃ t, rt = .array t) (hQ : Q = MQ below (va_Qr (fun (u : Nat × va_W) => B u.1 u.2) (fun u a t => a = u.1 ∧ va_P D vwCl (wf n ad cf mem' ++ u.2) t.heap ∧ va_D (AA n ad s.heap.size) (wf n ad cf mem' ++ u.2) ∧ ∀ q ∈ u.2, s.heap.size ≤ q.1) (AA n ad s.heap.size)) args s k1 k2 (AA n ad s.heap.size)) (hB : B a ex) (hm : mem = mem') (h1 : cells ≤ k1) (h2 : slots ≤ k2) (hdg : decode cc pc = .ok (.areturn, 1)) : XX D n ad cf p l e R s m args below meth c nL cells slots Q mem ex pc lv [.ref a] := by
  subst hm; subst hQ
  exact fun H locs ls hP hD hS hl => W.widen h1 h2 (W.aret X.1.1 X.1.2.1 X.2.1 hrt (Or.inr ⟨a, rfl⟩) (fun t ht hW => ⟨⟨(a, ex), a, rfl, hB, rfl, by rw [ht]; exact hP, hD, ex_new hD⟩, hS.F ht⟩) hS.2.2 hdg X.2.2.1)
theorem PX_of (X : CX D tys n ad Z p s m args meth c cc nL own ret) (hZ : ZOK Z) {H : Heap} {locs : List Loc} (hP : va_P D vwCl (wf n ad cf mem ++ ex) H) (hS : va_S (AA n ad s.heap.size) s.heap H locs) {U : State} (hU : U.heap = H) (hW : s.WarmedH U.vm) : PW D tys n ad cf Z mem H.size U := PW_of X hZ (wP_l hP) hS hU hW
/-- a method of the places' own is called: of an object, by its name -/
theorem x_callVi {ρ κ : Type} {o : Option κ} {F : κ → Option ρ} {res : ρ} {rty : FieldType} (vx : κ → Int32) (vm : κ → Mem) (X : CX D tys n ad Z p s m args meth c cc nL own ret) (hZ : ZOK Z) {y : MethodName} {bytes : ByteArray} {nY index na : Nat} {rm : Room} (hF : bd o F = some res) {stk : List Value} (As : List Value) (kb : Nat) (hk : kb < n) {ci : Nat} {fl : Row → List Value} {q : vw_C} (he : ∀ f : Row, cf kb f = .inr (ci, fl f)) (hq : vwCl[ci]? = some q) (hqy : y.cls = q.1) (hs : As.reverse ++ .ref (ad kb) :: st = stk) (b : MB y bytes nY (some rty) na) (w1 : Cond.methodLink own index y ∈ GW) (hM : ∀ r : κ, o = some r → CJ l D tys n ad cf Z y bytes nY rty rm (.ref (ad kb) :: As) mem (vx r) (vm r)) (hna : As.length = na) (hR : rm.frames + 1 ≤ R.frames ∧ 8 + (nY + 11) + rm.locals ≤ R.locals) (hst : (st.map fun v => v.category).sum ≤ 8) (hcs : cells + rm.cells ≤ R.cells ∧ slots + rm.slots ≤ R.slots) (hdg : decode cc pc = .ok (.invokevirtual index, 3)) (pc2 : Nat) (hp : pc + 3 = pc2) (kk : ∀ r : κ, F r = some res → XX D n ad cf p l e R s m args below meth c nL (cells + rm.cells) (slots + rm.slots) Q (vm r) ex pc2 lv (.int (vx r) :: st)) : XX D n ad cf p l e R s m args below meth c nL cells slots Q mem ex pc lv stk := by
  subst hp
  subst hs
  obtain ⟨r, ho, hF⟩ := bd_some hF
  intro H locs ls hP hD hS hl
  have hM := hM r ho H.size
  have hbl : FrameBlind (va_Pc (.ref (ad kb) :: As) (PW D tys n ad cf Z mem H.size)) := PW_bl hZ
  have hpre : ∀ U : State, U.heap = H → s.WarmedH U.vm → va_Pc (.ref (ad kb) :: As) (PW D tys n ad cf Z mem H.size) ((.ref (ad kb) :: As) : List Value).toArray U := fun U hU hW => ⟨rfl, PX_of X hZ hP hS hU hW⟩
  obtain ⟨w2, w4, w3, w5, hd⟩ := b
  have hg : GoodIn GW (Cond.code y bytes nY (some rty) :: GW) := gw_cons w5
  have cw : CallW R s args own y.cls index y bytes nY (some rty) (Cond.code y bytes nY (some rty) :: GW) rm rm.cells rm.slots na := ⟨callB_of na X.1.2.2.2.2 hg rfl rfl rfl (X.1.2.2.2.2 _ w3) (X.1.2.2.2.2 _ w1) hd hR, X.1.2.2.2.2 _ w2, X.1.2.2.2.2 _ w4⟩
  have hrv : ∃ cellB : Cell, H[ad kb]? = some cellB ∧ cellB.vm.isStatics = false ∧ s.vm.findClass y.cls = some cellB.cls := by
    rw [hqy]
    exact va_recv X.2.2.2.1 hP hq (q0 := kb) (a := ad kb) (by rw [wx_at hk, he])
  have hr := va_runV (rest := st) X.1 hM cw ⟨hbl, hrv, hpre⟩ (g := F0 m pc ls (As.reverse ++ .ref (ad kb) :: st)) (H := H) (locs := locs) (cells := cells) (slots := slots) (below := below) (e := e) (meth := meth) rfl hna hl.1 rfl (lv_room hst) hdg hcs
  refine va_calli hr hS (fun q _ h => AA_le hS.1 q h) (fun q h => AA_le hS.1 q h) (fun x u t H1 locs1 ht hvm hw hB hz1 hk1 hS1 => ?_)
  obtain ⟨rfl, -⟩ := hw
  rw [ht] at hB
  obtain ⟨hP1, hD1⟩ := wx_fr hP hD hB hk1
  exact kk r hF H1 locs1 ls hP1 hD1 hS1 hl
theorem x_callVv {ρ κ : Type} {o : Option κ} {F : κ → Option ρ} {res : ρ} (vm : κ → Mem) (X : CX D tys n ad Z p s m args meth c cc nL own ret) (hZ : ZOK Z) {y : MethodName} {bytes : ByteArray} {nY index na : Nat} {rm : Room} (hF : bd o F = some res) {stk : List Value} (As : List Value) (kb : Nat) (hk : kb < n) {ci : Nat} {fl : Row → List Value} {q : vw_C} (he : ∀ f : Row, cf kb f = .inr (ci, fl f)) (hq : vwCl[ci]? = some q) (hqy : y.cls = q.1) (hs : As.reverse ++ .ref (ad kb) :: st = stk) (b : MB y bytes nY (none) na) (w1 : Cond.methodLink own index y ∈ GW) (hM : ∀ r : κ, o = some r → CJv l D tys n ad cf Z y bytes nY rm (.ref (ad kb) :: As) mem (vm r)) (hna : As.length = na) (hR : rm.frames + 1 ≤ R.frames ∧ 8 + (nY + 11) + rm.locals ≤ R.locals) (hst : (st.map fun v => v.category).sum ≤ 8) (hcs : cells + rm.cells ≤ R.cells ∧ slots + rm.slots ≤ R.slots) (hdg : decode cc pc = .ok (.invokevirtual index, 3)) (pc2 : Nat) (hp : pc + 3 = pc2) (kk : ∀ r : κ, F r = some res → XX D n ad cf p l e R s m args below meth c nL (cells + rm.cells) (slots + rm.slots) Q (vm r) ex pc2 lv st) : XX D n ad cf p l e R s m args below meth c nL cells slots Q mem ex pc lv stk := by
  subst hp
  subst hs
  obtain ⟨r, ho, hF⟩ := bd_some hF
  intro H locs ls hP hD hS hl
  have hM := hM r ho H.size
  have hbl : FrameBlind (va_Pc (.ref (ad kb) :: As) (PW D tys n ad cf Z mem H.size)) := PW_bl hZ
  have hpre : ∀ U : State, U.heap = H → s.WarmedH U.vm → va_Pc (.ref (ad kb) :: As) (PW D tys n ad cf Z mem H.size) ((.ref (ad kb) :: As) : List Value).toArray U := fun U hU hW => ⟨rfl, PX_of X hZ hP hS hU hW⟩
  obtain ⟨w2, w4, w3, w5, hd⟩ := b
  have hg : GoodIn GW (Cond.code y bytes nY (none) :: GW) := gw_cons w5
  have cw : CallW R s args own y.cls index y bytes nY (none) (Cond.code y bytes nY (none) :: GW) rm rm.cells rm.slots na := ⟨callB_of na X.1.2.2.2.2 hg rfl rfl rfl (X.1.2.2.2.2 _ w3) (X.1.2.2.2.2 _ w1) hd hR, X.1.2.2.2.2 _ w2, X.1.2.2.2.2 _ w4⟩
  have hrv : ∃ cellB : Cell, H[ad kb]? = some cellB ∧ cellB.vm.isStatics = false ∧ s.vm.findClass y.cls = some cellB.cls := by
    rw [hqy]
    exact va_recv X.2.2.2.1 hP hq (q0 := kb) (a := ad kb) (by rw [wx_at hk, he])
  have hr := va_runV (rest := st) X.1 hM cw ⟨hbl, hrv, hpre⟩ (g := F0 m pc ls (As.reverse ++ .ref (ad kb) :: st)) (H := H) (locs := locs) (cells := cells) (slots := slots) (below := below) (e := e) (meth := meth) rfl hna hl.1 rfl (lv_room hst) hdg hcs
  refine va_callv hr hS (fun q _ h => AA_le hS.1 q h) (fun q h => AA_le hS.1 q h) (fun u t H1 locs1 ht hvm hw hB hz1 hk1 hS1 => ?_)
  rw [ht] at hB
  obtain ⟨hP1, hD1⟩ := wx_fr hP hD hB hk1
  exact kk r hF H1 locs1 ls hP1 hD1 hS1 hl
end XXR
