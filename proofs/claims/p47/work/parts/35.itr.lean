section ITA
/-- one place more -/
def adI (ad : Nat → Nat) (n q : Nat) (k : Nat) : Nat := if k = n then q else ad k
def cfI (cf : Nat → Row → va_E) (n : Nat) (g : Row → va_E) (k : Nat) (f : Row) : va_E := if k = n then g f else cf k f
variable {ad : Nat → Nat} {cf : Nat → Row → va_E} {n q : Nat} {g : Row → va_E}
theorem adI_n : adI ad n q n = q := if_pos rfl
theorem adI_lt {k : Nat} (h : k < n) : adI ad n q k = ad k := if_neg (by omega)
theorem cfI_n (f : Row) : cfI cf n g n f = g f := if_pos rfl
theorem cfI_lt {k : Nat} (h : k < n) (f : Row) : cfI cf n g k f = cf k f := if_neg (by omega)
theorem wf_I (M : Mem) : wf (n + 1) (adI ad n q) (cfI cf n g) M = wf n ad cf M ++ [(q, g (M n))] := by
  unfold wf
  rw [List.range_succ, List.map_append]
  refine congr (congrArg _ ?_) ?_
  · apply List.map_congr_left
    intro k hk
    have := List.mem_range.mp hk
    rw [adI_lt this, cfI_lt this]
  · show [(adI ad n q n, cfI cf n g n (M n))] = _
    rw [adI_n, cfI_n]
theorem wf_mr (mem : Mem) (r : Row) : wf n ad cf (mr mem n r) = wf n ad cf mem := by
  unfold wf
  apply List.map_congr_left
  intro k hk
  have := List.mem_range.mp hk
  rw [show mr mem n r k = mem k from if_neg (by omega)]
theorem mr_n (mem : Mem) (n : Nat) (r : Row) : mr mem n r n = r := if_pos rfl
theorem AA_I {sz : Nat} (h : sz ≤ q) : AA (n + 1) (adI ad n q) sz = AA n ad sz := funext fun x => propext ⟨fun hx => by
  rcases hx with ⟨k, hk, he⟩ | hx
  · by_cases e : k = n
    · subst e
      rw [adI_n] at he
      exact Or.inr (by omega)
    · rw [adI_lt (by omega)] at he
      exact Or.inl ⟨k, by omega, he⟩
  · exact Or.inr hx, fun hx => by
  rcases hx with ⟨k, hk, he⟩ | hx
  · exact Or.inl ⟨k, by omega, by rw [adI_lt hk]; exact he⟩
  · exact Or.inr hx⟩
variable {D : va_G} {tys : List (ClassId × FieldType)} {Z : (Nat → Prop) → State → Heap → Prop} {p : Program} {l : Launch} {e : Env} {R : Room} {s : State} {m : MethodId} {args : Array Value} {below : List Frame} {meth : Method} {c : Code} {cc : ByteArray} {nL : Nat} {own : String} {ret : Option FieldType} {cells slots : Nat} {Q : State → Prop} {mem : Mem} {ex : va_W} {pc : Nat} {lv : List (Nat × Value)} {st : List Value}
/-- the only further thing becomes a place -/
theorem x_view {e0 : va_E} (g : Row → va_E) (r : Row) (he : g r = e0) (X : CX D tys n ad Z p s m args meth c cc nL own ret) (kk : s.heap.size ≤ q → CX D tys (n + 1) (adI ad n q) Z p s m args meth c cc nL own ret → XX D (n + 1) (adI ad n q) (cfI cf n g) p l e R s m args below meth c nL cells slots Q (mr mem n r) [] pc lv st) : XX D n ad cf p l e R s m args below meth c nL cells slots Q mem [(q, e0)] pc lv st := by
  subst he
  intro H locs ls hP hD hS hl
  have hq : s.heap.size ≤ q := ex_new hD (q, g r) (List.mem_singleton.mpr rfl)
  have eA : AA (n + 1) (adI ad n q) s.heap.size = AA n ad s.heap.size := AA_I hq
  have hw : wf (n + 1) (adI ad n q) (cfI cf n g) (mr mem n r) ++ [] = wf n ad cf mem ++ [(q, g r)] := by rw [List.append_nil, wf_I, wf_mr, mr_n]
  have hD' : va_D (AA (n + 1) (adI ad n q) s.heap.size) (wf (n + 1) (adI ad n q) (cfI cf n g) (mr mem n r) ++ []) := by rw [hw, eA]; exact hD
  exact kk hq ⟨X.1, X.2.1, X.2.2.1, X.2.2.2.1, wD_I hD', by rw [eA]; exact X.2.2.2.2.2⟩ H locs ls (by rw [hw]; exact hP) hD' (by rw [eA]; exact hS) hl
/-- .. and back -/
theorem x_back {r : Row} (hq : s.heap.size ≤ q) (kk : XX D n ad cf p l e R s m args below meth c nL cells slots Q mem [(q, g r)] pc lv st) : XX D (n + 1) (adI ad n q) (cfI cf n g) p l e R s m args below meth c nL cells slots Q (mr mem n r) [] pc lv st := by
  intro H locs ls hP hD hS hl
  have eA : AA (n + 1) (adI ad n q) s.heap.size = AA n ad s.heap.size := AA_I hq
  have hw : wf (n + 1) (adI ad n q) (cfI cf n g) (mr mem n r) ++ [] = wf n ad cf mem ++ [(q, g r)] := by rw [List.append_nil, wf_I, wf_mr, mr_n]
  rw [hw] at hP hD
  rw [eA] at hD hS
  exact kk H locs ls hP hD hS hl
/-- contract: a fixed reference comes back, the memory has changed -/
def CJb (l : Launch) (D : va_G) (tys : List (ClassId × FieldType)) (n : Nat) (ad : Nat → Nat) (cf : Nat → Row → va_E) (Z : (Nat → Prop) → State → Heap → Prop) (y : MethodName) (cc : ByteArray) (nL : Nat) (ret : FieldType) (rm : Room) (av : List Value) (mem : Mem) (ra : Nat) (mem' : Mem) : Prop :=
  ∀ sz : Nat, Met l y (Cond.code y cc nL (some ret) :: GW) rm (va_Pc av (PW D tys n ad cf Z mem sz)) (va_Qr (fun (u : Unit) => u = ()) (fun _ a t => a = ra ∧ va_P D vwCl (wf n ad cf mem') t.heap) (AA n ad sz)) rm.cells rm.slots (AA n ad sz)
theorem xstart_b {y : MethodName} {rt : FieldType} {rm : Room} {av : List Value} {ra : Nat} {mem' : Mem} (ho : y.cls = own) (hy : plainName y.cls = true) (hn : (lg_sl av).length ≤ nL)
    (body : ∀ p e s m args below meth c Q, Q = MQ below (va_Qr (fun (u : Unit) => u = ()) (fun _ a t => a = ra ∧ va_P D vwCl (wf n ad cf mem') t.heap) (AA n ad s.heap.size)) args s rm.cells rm.slots (AA n ad s.heap.size) → CX D tys n ad Z p s m args meth c cc nL own (some rt) → XX D n ad cf p l e rm s m args below meth c nL 0 0 Q mem [] 0 (lv_args 0 av) []) : CJb l D tys n ad cf Z y cc nL rt rm av mem ra mem' := by
  subst ho
  intro sz
  refine Met.ofW (cc := cc) (maxL := nL) (ret := some rt) hy rfl ?_
  intro p e s m args below meth c s₁ B hml hv
  obtain ⟨rfl, hsz, hP, hK, hI, hZ⟩ := hv
  subst hsz
  have hts := atoms_spec (ws := Cond.code y cc nL (some rt) :: GW) B.pre
  rw [lg_entry_eq]
  exact body p e s m _ below meth c _ rfl ⟨⟨B.exec, B.bytes, hml, findClass_of_methodNamed B.named, fun w hw => hts w (List.mem_cons_of_mem _ hw)⟩, B.returns, B.notSynchronized, hK, hI, hZ⟩ s.heap [] _ (by rw [List.append_nil]; exact hP) (by rw [List.append_nil]; exact wf_D hI) va_S.rf (lv_entry av hn)
theorem xstart_c {y : MethodName} {rm : Room} {av : List Value} {mem' : Mem} (ho : y.cls = own) (hy : plainName y.cls = true) (hy2 : y.name = "<init>") (hn : (lg_sl av).length ≤ nL)
    (body : ∀ p e s m args below meth c Q, Q = MQ below (va_Qv (fun (u : Unit) => u = ()) (fun _ t => va_P D vwCl (wf n ad cf mem') t.heap) (AA n ad s.heap.size)) args s rm.cells rm.slots (AA n ad s.heap.size) → CX D tys n ad Z p s m args meth c cc nL own none → meth.name = "<init>" → XX D n ad cf p l e rm s m args below meth c nL 0 0 Q mem [] 0 (lv_args 0 av) []) : CJv l D tys n ad cf Z y cc nL rm av mem mem' := by
  subst ho
  intro sz
  refine Met.ofW (cc := cc) (maxL := nL) (ret := none) hy rfl ?_
  intro p e s m args below meth c s₁ B hml hv
  obtain ⟨rfl, hsz, hP, hK, hI, hZ⟩ := hv
  subst hsz
  have hts := atoms_spec (ws := Cond.code y cc nL none :: GW) B.pre
  rw [lg_entry_eq]
  exact body p e s m _ below meth c _ rfl ⟨⟨B.exec, B.bytes, hml, findClass_of_methodNamed B.named, fun w hw => hts w (List.mem_cons_of_mem _ hw)⟩, B.returns, B.notSynchronized, hK, hI, hZ⟩ ((name_of_methodNamed B.named B.method).1.trans hy2) s.heap [] _ (by rw [List.append_nil]; exact hP) (by rw [List.append_nil]; exact wf_D hI) va_S.rf (lv_entry av hn)
/-- a getfield by another's name of the field, of a nest mate -/
theorem x_getS {v : Value} (X : CX D tys n ad Z p s m args meth c cc nL own ret) (k : Nat) (hk : k < n) {ci : Nat} {fl : Row → List Value} (he : ∀ f : Row, cf k f = .inr (ci, fl f)) {C ref : String} {T : u_T} {N index : Nat} (hc : vwCl[ci]? = some (C, T, N)) (hin : ∀ w ∈ u_ws C T N, w ∈ GW) (j : Nat) (hj : j < N) (hlk : Cond.fieldLink own index ref (T j).2.1 (T j).2.2.1 ∈ GW) (hr : va_Nw (.sameField ref (T j).1 (T j).2.1 (T j).2.2.1) s) (hv : (fl (mem k))[j]? = some v) (hdg : decode cc pc = .ok (.getfield index, 3)) (pc2 : Nat) (hp : pc + 3 = pc2) (kk : XX D n ad cf p l e R s m args below meth c nL cells slots Q mem ex pc2 lv (v :: st)) : XX D n ad cf p l e R s m args below meth c nL cells slots Q mem ex pc lv (.ref (ad k) :: st) := by
  subst hp
  exact fun H locs ls hP hD hS hl => va_get X.1.1 X.1.2.1 X.1.2.2.2.2 hin X.1.2.2.2.1 X.2.2.2.1 hP k (by rw [wx_at hk, he]) hc j hj (X.1.2.2.2.2 _ hlk) (fun x h => u_same (args := #[]) hr x h) hv hdg (kk H locs ls hP hD hS hl)
theorem x_getN {v : Value} {host : String} (X : CX D tys n ad Z p s m args meth c cc nL own ret) (k : Nat) (hk : k < n) {ci : Nat} {fl : Row → List Value} (he : ∀ f : Row, cf k f = .inr (ci, fl f)) {C ref : String} {T : u_T} {N index : Nat} (hc : vwCl[ci]? = some (C, T, N)) (hin : ∀ w ∈ u_ws C T N, w ∈ GW) (j : Nat) (hj : j < N) (hlk : va_Nw (.fieldLinkNest own index ref (T j).2.1 (T j).2.2.1 host) s) (hr : (T j).1 = ref) (hv : (fl (mem k))[j]? = some v) (hdg : decode cc pc = .ok (.getfield index, 3)) (pc2 : Nat) (hp : pc + 3 = pc2) (kk : XX D n ad cf p l e R s m args below meth c nL cells slots Q mem ex pc2 lv (v :: st)) : XX D n ad cf p l e R s m args below meth c nL cells slots Q mem ex pc lv (.ref (ad k) :: st) := by
  subst hp
  exact fun H locs ls hP hD hS hl => va_getN X.1.1 X.1.2.1 X.1.2.2.2.2 hin X.1.2.2.2.1 X.2.2.2.1 hP k (by rw [wx_at hk, he]) hc j hj (va_Nw.use rfl hlk) (fun _ h => by rw [hr] at h; exact h) hv hdg (kk H locs ls hP hD hS hl)
theorem x_ial2 (X : CX D tys n ad Z p s m args meth c cc nL own ret) (k : Nat) (hk : k < n) {cA : ClassId} {N t0 : Nat} {i : Int32} (v : Int32) (he : ∀ f : Row, cf k f = .inl (cA, N, .inl f.1)) (ht : tys[t0]? = some (cA, .int)) (hi : vp_in i N) (hv : rd mem k i.toNatClampNeg = v) (hdg : decode cc pc = .ok (.iaload, 1)) (pc2 : Nat) (hp : pc + 1 = pc2) (kk : XX D n ad cf p l e R s m args below meth c nL cells slots Q mem ex pc2 lv (.int v :: st)) : XX D n ad cf p l e R s m args below meth c nL cells slots Q mem ex pc lv (.int i :: .ref (ad k) :: st) := by
  subst hv
  exact x_ial X k hk he ht hi hdg pc2 hp kk
theorem x_putFR {v : Value} {x : Int32} (X : CX D tys n ad Z p s m args meth c cc nL own ret) (hi0 : meth.name = "<init>") (k : Nat) (hk : k < n) {ci : Nat} {fl : Row → List Value} (he : ∀ f : Row, cf k f = .inr (ci, fl f)) {C ref : String} {T : u_T} {N index : Nat} (hc : vwCl[ci]? = some (C, T, N)) (hin : ∀ w ∈ u_ws C T N, w ∈ GW) (ty0 : Nat → FieldType) (hty : ∀ k, k < N → parseFieldDescriptor (T k).2.2.1 = some (ty0 k)) (hnm : ∀ a, a < N → ∀ b, b < N → a ≠ b → (T a).2.1 ≠ (T b).2.1) (j : Nat) (hj : j < N) (hlk : Cond.fieldLink own index ref (T j).2.1 (T j).2.2.1 ∈ GW) (hr : (T j).1 = ref) (ho : (T j).1 = own) (hfin : (T j).2.2.2 = true) (hn : narrow (ty0 j) v = v) (hfit : fits (ty0 j) v = true) (hl0 : j < (fl (mem k)).length) (hset : fl (upd (mem k).1 j x, (mem k).2) = (fl (mem k)).set j v) (hdg : decode cc pc = .ok (.putfield index, 3)) (pc2 : Nat) (hp : pc + 3 = pc2) (kk : XX D n ad cf p l e R s m args below meth c nL cells slots Q (mw mem k j x) ex pc2 lv st) : XX D n ad cf p l e R s m args below meth c nL cells slots Q mem ex pc lv (v :: .ref (ad k) :: st) := by
  subst hp
  intro H locs ls hP hD hS hl
  refine va_putF X.1.1 X.1.2.1 X.1.2.2.2.2 hin ty0 hty hnm X.1.2.2.2.1 X.2.2.2.1 hP hD hS k (by rw [wx_at hk, he]) hc j hj (X.1.2.2.2.2 _ hlk) (fun _ h => by rw [hr] at h; exact h) hfin hi0 ho (hty j hj) hn hfit hl0 hdg (fun H1 locs1 hP1 hD1 hS1 => kk H1 locs1 ls ?_ ?_ hS1 hl)
  · rw [wx_set (r := (upd (mem k).1 j x, (mem k).2)) hk (by rw [he, hset])] at hP1; exact hP1
  · rw [wx_set (r := (upd (mem k).1 j x, (mem k).2)) hk (by rw [he, hset])] at hD1; exact hD1
theorem x_obj {q : Nat} {index : Nat} (X : CX D tys n ad Z p s m args meth c cc nL own ret) (w1 : Cond.methodLink own index Lib.objectInit ∈ GW) (hR : 1 ≤ R.frames ∧ 20 ≤ R.locals) (hst : (st.map fun v => v.category).sum ≤ 8) (hdg : decode cc pc = .ok (.invokespecial index, 3)) (pc2 : Nat) (hp : pc + 3 = pc2) (kk : XX D n ad cf p l e R s m args below meth c nL cells slots Q mem ex pc2 lv st) : XX D n ad cf p l e R s m args below meth c nL cells slots Q mem ex pc lv (.ref q :: st) := by
  subst hp
  intro H locs ls hP hD hS hl
  have h2 := X.1.2.2.2.2
  exact W.objInit X.1.1 X.1.2.1 X.1.2.2.2.1 (h2 _ w1) (h2 _ kOb1) (h2 _ kOb2) rfl (by rw [X.1.2.2.1]; exact hl.1) rfl hdg hR.1 (by have h5 : 2 * (F0 m pc ls (Value.ref q :: st)).monitorRoom + (st.map fun v => v.category).sum ≤ 8 := lv_room hst; have := hR.2; omega) (kk H locs ls hP hD hS hl)
theorem x_new {C : String} {T : u_T} {N ci index : Nat} (X : CX D tys n ad Z p s m args meth c cc nL own ret) (hin : ∀ w ∈ u_ws C T N, w ∈ GW) (ty : Nat → FieldType) (hty : ∀ k, k < N → parseFieldDescriptor (T k).2.2.1 = some (ty k)) (w1 : Cond.classLink own index C ∈ GW) (w2 : Cond.instantiable C N ∈ GW) (w3 : Cond.initialized C ∈ GW) (hc : vwCl[ci]? = some (C, T, N)) (fs : List Value) (hfs : ∀ j, j < N → defaultValue (ty j) = vp_V fs j) (hcs : cells + 1 ≤ R.cells ∧ slots + N ≤ R.slots) (hdg : decode cc pc = .ok (.new index, 3)) (pc2 : Nat) (hp : pc + 3 = pc2) (kk : ∀ q : Nat, XX D n ad cf p l e R s m args below meth c nL (cells + 1) (slots + N) Q mem (ex ++ [(q, .inr (ci, fs))]) pc2 lv (.ref q :: st)) : XX D n ad cf p l e R s m args below meth c nL cells slots Q mem ex pc lv st := by
  subst hp
  intro H locs ls hP hD hS hl
  have h2 := X.1.2.2.2.2
  refine va_new (ci := ci) (fs := fs) X.1.1 X.1.2.1 h2 hin ty hty X.1.2.2.2.1 (h2 _ w1) (h2 _ w2) (h2 _ w3) X.2.2.2.1 hP hD hS (fun q h => Or.inr h) hc hfs hcs.1 hcs.2 hdg (fun q H1 hP1 hD1 hS1 => ?_)
  rw [List.append_assoc] at hP1 hD1
  exact kk q H1 locs ls hP1 hD1 hS1 hl
/-- a constructor of a place -/
theorem x_callIv {κ : Type} {o : Option κ} {ρ : Type} {F : κ → Option ρ} {res : ρ} (vm : κ → Mem) (X : CX D tys n ad Z p s m args meth c cc nL own ret) (hZ : ZOK Z) {y : MethodName} {bytes : ByteArray} {nY index na : Nat} {rm : Room} (hF : bd o F = some res) {stk : List Value} (As : List Value) (kb : Nat) (hs : As.reverse ++ .ref (ad kb) :: st = stk) (b : IB y bytes nY na) (w1 : Cond.methodLink own index y ∈ GW) (hM : ∀ r : κ, o = some r → CJv l D tys n ad cf Z y bytes nY rm (.ref (ad kb) :: As) mem (vm r)) (hna : As.length = na) (hR : rm.frames + 1 ≤ R.frames ∧ 8 + (nY + 11) + rm.locals ≤ R.locals) (hst : (st.map fun v => v.category).sum ≤ 8) (hcs : cells + rm.cells ≤ R.cells ∧ slots + rm.slots ≤ R.slots) (hdg : decode cc pc = .ok (.invokespecial index, 3)) (pc2 : Nat) (hp : pc + 3 = pc2) (kk : ∀ r : κ, F r = some res → XX D n ad cf p l e R s m args below meth c nL (cells + rm.cells) (slots + rm.slots) Q (vm r) ex pc2 lv st) : XX D n ad cf p l e R s m args below meth c nL cells slots Q mem ex pc lv stk := by
  subst hp
  subst hs
  obtain ⟨r, ho, hF⟩ := bd_some hF
  intro H locs ls hP hD hS hl
  have hM := hM r ho H.size
  have hbl : FrameBlind (va_Pc (.ref (ad kb) :: As) (PW D tys n ad cf Z mem H.size)) := PW_bl hZ
  have hpre : ∀ U : State, U.heap = H → s.WarmedH U.vm → va_Pc (.ref (ad kb) :: As) (PW D tys n ad cf Z mem H.size) ((.ref (ad kb) :: As) : List Value).toArray U := fun U hU hW => ⟨rfl, PX_of X hZ hP hS hU hW⟩
  obtain ⟨w2, w3, w5, hy, hd⟩ := b
  have hg : GoodIn GW (Cond.code y bytes nY none :: GW) := gw_cons w5
  have cw : CallB R s args own index y bytes nY none (Cond.code y bytes nY none :: GW) rm rm.cells rm.slots na ∧ y.name = "<init>" ∧ (Cond.instanceMethod y).before args s = true := ⟨callB_of na X.1.2.2.2.2 hg rfl rfl rfl (X.1.2.2.2.2 _ w3) (X.1.2.2.2.2 _ w1) hd hR, hy, X.1.2.2.2.2 _ w2⟩
  have hr := va_runI (rest := st) X.1 hM cw ⟨hbl, hpre⟩ (g := F0 m pc ls (As.reverse ++ .ref (ad kb) :: st)) (H := H) (locs := locs) (cells := cells) (slots := slots) (below := below) (e := e) (meth := meth) rfl hna hl.1 rfl (lv_room hst) hdg hcs
  refine va_callv hr hS (fun q _ h => AA_le hS.1 q h) (fun q h => AA_le hS.1 q h) (fun u t H1 locs1 ht hvm hw hB hz1 hk1 hS1 => ?_)
  rw [ht] at hB
  obtain ⟨hP1, hD1⟩ := wx_fr hP hD hB hk1
  exact kk r hF H1 locs1 ls hP1 hD1 hS1 hl
end ITA
