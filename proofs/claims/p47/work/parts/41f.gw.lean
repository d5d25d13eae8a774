section GRW
variable {D : va_G} {tys : List (ClassId × FieldType)} {A : Nat → Prop} {Z : (Nat → Prop) → State → Heap → Prop} {p : Program} {l : Launch} {e : Env} {R : Room} {s : State} {m : MethodId} {args : Array Value} {below : List Frame} {meth : Method} {c : Code} {cc : ByteArray} {nL : Nat} {own : String} {ret : Option FieldType} {cells slots : Nat} {Q : State → Prop} {ws : va_W} {pc : Nat} {lv : List (Nat × Value)} {st : List Value}
variable {n : Nat} {ad : Nat → Nat} {cf : Nat → Row → va_E} {mem : Mem} {ex : va_W} {tO : Nat} {sK sV : Nat → Nat}
theorem AA_A (sz : Nat) : AA n ad sz = va_A (wf n ad cf mem) sz := by
  funext q
  apply propext
  constructor
  · rintro (⟨k, h1, h2⟩ | h)
    · exact Or.inl ⟨k, cf k (mem k), by rw [h2]; exact wf_at h1⟩
    · exact Or.inr h
  · rintro (⟨k, e, h⟩ | h)
    · obtain ⟨h1, h2⟩ := wf_of h
      exact Or.inl ⟨k, h1, congrArg Prod.fst h2⟩
    · exact Or.inr h
theorem wf_inj {A : Nat → Prop} (hD : va_D A (wf n ad cf mem)) : ∀ i j, i < n → j < n → ad i = ad j → i = j := fun i j hi hj h => hD.1 i j _ _ (wf_at hi) (wf_at hj) h
/-- a contract over places, as one over the list of them -/
theorem lc_i {y : MethodName} {rt : FieldType} {rm : Room} {av : List Value} {x : Int32} {mem' : Mem} (h : CJ l D tys n ad cf Z y cc nL rt rm av mem x mem') : LC l D tys Z y cc nL (some rt) rm av (wf n ad cf mem) (fun v w => v = some (.int x) ∧ w = wf n ad cf mem') := by
  intro sz
  have h := h sz
  rw [AA_A (cf := cf) (mem := mem) sz] at h
  refine Free.MetFree.mono h (fun a s hp => ?_) (fun _ _ _ _ _ _ => trivial) (fun a s o s' hp hq => ?_)
  · obtain ⟨h0, h1, h2, h3, h4, h5⟩ := hp
    exact ⟨h0, h1, h2, h4, wf_inj h3, by rw [AA_A (cf := cf) (mem := mem)]; exact h5⟩
  · obtain ⟨h0, h1, h2, h3, h4, h5⟩ := hp
    obtain ⟨⟨⟨r, u, e1, ⟨rfl, -⟩, e3⟩, e4⟩, e5⟩ := hq
    exact ⟨⟨⟨_, _, e1, ⟨rfl, rfl⟩, e3, vD_fst (wf_fst mem mem') h3⟩, e4⟩, e5⟩
theorem lc_v {y : MethodName} {rm : Room} {av : List Value} {mem' : Mem} (h : CJv l D tys n ad cf Z y cc nL rm av mem mem') : LC l D tys Z y cc nL none rm av (wf n ad cf mem) (fun v w => v = none ∧ w = wf n ad cf mem') := by
  intro sz
  have h := h sz
  rw [AA_A (cf := cf) (mem := mem) sz] at h
  refine Free.MetFree.mono h (fun a s hp => ?_) (fun _ _ _ _ _ _ => trivial) (fun a s o s' hp hq => ?_)
  · obtain ⟨h0, h1, h2, h3, h4, h5⟩ := hp
    exact ⟨h0, h1, h2, h4, wf_inj h3, by rw [AA_A (cf := cf) (mem := mem)]; exact h5⟩
  · obtain ⟨h0, h1, h2, h3, h4, h5⟩ := hp
    obtain ⟨⟨⟨u, e1, -, e3⟩, e4⟩, e5⟩ := hq
    exact ⟨⟨⟨_, _, e1, ⟨rfl, rfl⟩, e3, vD_fst (wf_fst mem mem') h3⟩, e4⟩, e5⟩
/-- places in front of further things, read and written -/
theorem y_getV {v : Value} (X : CN D tys A Z p s m args meth c cc nL own ret) (k : Nat) (hk : k < n) {ci : Nat} {fl : Row → List Value} (he : ∀ f : Row, cf k f = .inr (ci, fl f)) {C ref : String} {T : u_T} {N index : Nat} (hc : vwCl[ci]? = some (C, T, N)) (hin : ∀ w ∈ u_ws C T N, w ∈ GW) (j : Nat) (hj : j < N) (hlk : Cond.fieldLink own index ref (T j).2.1 (T j).2.2.1 ∈ GW) (hr : (T j).1 = ref) (hv : (fl (mem k))[j]? = some v) (hdg : decode cc pc = .ok (.getfield index, 3)) (pc2 : Nat) (hp : pc + 3 = pc2) (kk : NN D A p l e R s m args below meth c nL cells slots Q (wf n ad cf mem ++ ex) pc2 lv (v :: st)) : NN D A p l e R s m args below meth c nL cells slots Q (wf n ad cf mem ++ ex) pc lv (.ref (ad k) :: st) :=
  q_get X k ((wx_at hk).trans (by rw [he])) hc hin j hj hlk hr hv hdg pc2 hp kk
theorem y_putI {x : Int32} (X : CN D tys A Z p s m args meth c cc nL own ret) (k : Nat) (hk : k < n) {ci : Nat} {fl : Row → List Value} (he : ∀ f : Row, cf k f = .inr (ci, fl f)) {C ref : String} {T : u_T} {N index : Nat} (hc : vwCl[ci]? = some (C, T, N)) (hin : ∀ w ∈ u_ws C T N, w ∈ GW) (ty0 : Nat → FieldType) (hty : ∀ k, k < N → parseFieldDescriptor (T k).2.2.1 = some (ty0 k)) (hnm : ∀ a, a < N → ∀ b, b < N → a ≠ b → (T a).2.1 ≠ (T b).2.1) (j : Nat) (hj : j < N) (hlk : Cond.fieldLink own index ref (T j).2.1 (T j).2.2.1 ∈ GW) (hr : (T j).1 = ref) (hfin : (T j).2.2.2 = false) (hn : narrow (ty0 j) (.int x) = .int x) (hfit : fits (ty0 j) (.int x) = true) (hl0 : j < (fl (mem k)).length) (hset : fl (upd (mem k).1 j x, (mem k).2) = (fl (mem k)).set j (.int x)) (hdg : decode cc pc = .ok (.putfield index, 3)) (pc2 : Nat) (hp : pc + 3 = pc2) (kk : NN D A p l e R s m args below meth c nL cells slots Q (wf n ad cf (mw mem k j x) ++ ex) pc2 lv st) : NN D A p l e R s m args below meth c nL cells slots Q (wf n ad cf mem ++ ex) pc lv (.int x :: .ref (ad k) :: st) :=
  q_put X k _ ((wx_at hk).trans (by rw [he])) hc hin ty0 hty hnm j hj hlk hr hfin hn hfit hl0 (wx_set (r := (upd (mem k).1 j x, (mem k).2)) hk (by rw [he, hset])) hdg pc2 hp kk
theorem y_callI {y : MethodName} {bytes : ByteArray} {nY index na : Nat} {rty : FieldType} {rm : Room} {x : Int32} {mem' : Mem} {stk : List Value} (X : CN D tys A Z p s m args meth c cc nL own ret) (hZ : ZOK Z) (As : List Value) (kb : Nat) (hk : kb < n) {ci : Nat} {fl : Row → List Value} {q : vw_C} (he : ∀ f : Row, cf kb f = .inr (ci, fl f)) (hq : vwCl[ci]? = some q) (hqy : y.cls = q.1) (hs : As.reverse ++ .ref (ad kb) :: st = stk) (b : MB y bytes nY (some rty) na) (w1 : Cond.methodLink own index y ∈ GW) (hM : CJ l D tys n ad cf Z y bytes nY rty rm (.ref (ad kb) :: As) mem x mem') (hna : As.length = na) (hR : rm.frames + 1 ≤ R.frames ∧ 8 + (nY + 11) + rm.locals ≤ R.locals) (hst : (st.map fun v => v.category).sum ≤ 8) (hcs : cells + rm.cells ≤ R.cells ∧ slots + rm.slots ≤ R.slots) (hdg : decode cc pc = .ok (.invokevirtual index, 3)) (pc2 : Nat) (hp : pc + 3 = pc2) (kk : NN D A p l e R s m args below meth c nL (cells + rm.cells) (slots + rm.slots) Q (wf n ad cf mem' ++ ex) pc2 lv (.int x :: st)) : NN D A p l e R s m args below meth c nL cells slots Q (wf n ad cf mem ++ ex) pc lv stk :=
  q_callV X hZ As ex rfl kb ((wx_at hk).trans (by rw [he])) hq hqy hs b w1 (lc_i hM) hna hR hst hcs hdg pc2 hp (fun v w1 hv => by
    obtain ⟨rfl, rfl⟩ := hv
    exact kk)
theorem q_ias (X : CN D tys A Z p s m args meth c cc nL own ret) (k : Nat) {a : Nat} {cA : ClassId} {N t0 : Nat} {f : Nat → Int32} {i x : Int32} (iN : Nat) (w2 : va_W) (he : ws[k]? = some (a, .inl (cA, N, .inl f))) (ht : tys[t0]? = some (cA, .int)) (hi : i = nI iN) (hin : iN < N) (hN : N < 2 ^ 31) (hset : ws.set k (a, .inl (cA, N, .inl (upd f iN x))) = w2) (hdg : decode cc pc = .ok (.iastore, 1)) (pc2 : Nat) (hp : pc + 1 = pc2) (kk : NN D A p l e R s m args below meth c nL cells slots Q w2 pc2 lv st) : NN D A p l e R s m args below meth c nL cells slots Q ws pc lv (.int x :: .int i :: .ref a :: st) := by
  subst hp; subst hset; subst hi
  intro H locs ls hP hD hS hl
  refine va_iast X.1.1 X.1.2.1 X.2.2.2.1 hP hD hS k t0 he ht (pk_in iN N hin rfl hN) hdg (fun H1 locs1 hP1 hD1 hS1 => ?_)
  rw [nI_clamp (by omega)] at hP1 hD1
  exact kk H1 locs1 ls hP1 hD1 hS1 hl
theorem q_ial (X : CN D tys A Z p s m args meth c cc nL own ret) (k : Nat) {a : Nat} {cA : ClassId} {N t0 : Nat} {f : Nat → Int32} {i : Int32} (iN : Nat) (he : ws[k]? = some (a, .inl (cA, N, .inl f))) (ht : tys[t0]? = some (cA, .int)) (hi : i = nI iN) (hin : iN < N) (hN : N < 2 ^ 31) (hdg : decode cc pc = .ok (.iaload, 1)) (pc2 : Nat) (hp : pc + 1 = pc2) (kk : NN D A p l e R s m args below meth c nL cells slots Q ws pc2 lv (.int (f iN) :: st)) : NN D A p l e R s m args below meth c nL cells slots Q ws pc lv (.int i :: .ref a :: st) := by
  subst hp; subst hi
  intro H locs ls hP hD hS hl
  refine va_iald X.1.1 X.1.2.1 X.2.2.2.1 hP k t0 he ht (pk_in iN N hin rfl hN) hdg ?_
  rw [nI_clamp (by omega)]
  exact kk H locs ls hP hD hS hl
/-- a text among the things, as a fact for one that does not write it -/
theorem zt_of (X : CN D tys A Z p s m args meth c cc nL own ret) {str v0 len k1 k2 t0 : Nat} {cA : ClassId} {g : Nat → Int32} {H : Heap} {B : Nat → Prop} (hP : va_P D vwCl ws H) (h1 : ws[k1]? = some (str, .inr (13, [.ref v0, .int 0, .int 0, .int 0]))) (h2 : ws[k2]? = some (v0, .inl (cA, len, .inl g))) (ht : tys[t0]? = some (cA, .byte)) (hn1 : ¬ B str) (hn2 : ¬ B v0) (hl : len < 2 ^ 31) : zt str v0 len g B s H := by
  have hts := X.1.2.2.2.2
  obtain ⟨r, q1, cell, q2, q3, q4, q5⟩ := hP k1 _ h1
  have hr : r = (RJ0, TJ0, 4) := (Option.some.inj q1).symm
  subst hr
  obtain ⟨hS, hfc, kC, hkC, hkind⟩ := X.2.2.2.1.1 13 _ rfl
  have hf : ∀ (j : Nat) (hj : j < 4) (v : Value), vp_V [.ref v0, .int 0, .int 0, .int 0] j = v → va_OF (TJ0 j).1 (TJ0 j).2.1 (TJ0 j).2.2.1 v str B s H := fun j hj v hv => by
    obtain ⟨cf, kf, fi, f, hi, hsl⟩ := hS j hj
    refine ⟨cf, kf, fi, f, cell, hi, (u_facts hfc hkC (u_lays hts in_J0 hj) hi).1, q2, (by rw [q4]; exact fun h => nomatch h), ?_, hn1⟩
    rw [hsl, q5 j hj]
    exact congrArg some hv
  have hc2 := hP k2 _ h2
  refine ⟨⟨cell, q2, by rw [q4]; rfl, by rw [q3]; exact hfc, hn1⟩, hf 1 (by decide) _ rfl, hf 0 (by decide) _ rfl, ?_⟩
  refine ⟨_, hc2, (X.2.2.2.1.2 t0 _ ht).1 len (fun j => .int (g j)), ?_, ?_, ?_, fun j hj => ?_, hn2⟩
  · rw [vp_cell_i]
    exact fun h => nomatch h
  · rw [vp_cell_i, arrV_size]
    exact Nat.le_refl _
  · rw [vp_cell_i, arrV_size]
  · rw [vp_cell_i, arrV_read _ _ hj]
end GRW
