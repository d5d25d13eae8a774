section LAW0
/-- a part of a memory comes back -/
def mset (b n1 : Nat) (mem mem1 : Mem) : Mem := fun k => if b ≤ k ∧ k < b + n1 then mem1 (k - b) else mem k
theorem wf_out {D : va_G} {n n1 b : Nat} {ad : Nat → Nat} {cf cf1 : Nat → Row → va_E} {mem : Mem} {H : Heap} (hb : b + n1 ≤ n) (hcf : ∀ j f, j < n1 → cf (b + j) f = cf1 j f) (hP : va_P D vwCl (wf n ad cf mem) H) : va_P D vwCl (wf n1 (fun j => ad (b + j)) cf1 (fun j => mem (b + j))) H := by
  intro k q hk
  obtain ⟨h1, rfl⟩ := wf_of hk
  refine hP (b + k) _ ?_
  rw [wf_at (by omega), hcf k _ h1]
theorem AA_emb {n n1 b sz : Nat} {ad : Nat → Nat} (hb : b + n1 ≤ n) : ∀ q, AA n1 (fun j => ad (b + j)) sz q → AA n ad sz q := fun q h => h.elim (fun ⟨k, h1, h2⟩ => Or.inl ⟨b + k, by omega, h2⟩) Or.inr
theorem wf_in {D : va_G} {n n1 b : Nat} {ad : Nat → Nat} {cf cf1 : Nat → Row → va_E} {mem mem1 : Mem} {H H1 : Heap} (hb : b + n1 ≤ n) (hcf : ∀ j f, j < n1 → cf (b + j) f = cf1 j f) (hI : ∀ i j, i < n → j < n → ad i = ad j → i = j) (hP : va_P D vwCl (wf n ad cf mem) H) (hP1 : va_P D vwCl (wf n1 (fun j => ad (b + j)) cf1 mem1) H1) (hk : ∀ q : Nat, q < H.size → ¬ AA n1 (fun j => ad (b + j)) H.size q → H1[q]? = H[q]?) : va_P D vwCl (wf n ad cf (mset b n1 mem mem1)) H1 := by
  intro k q hkq
  obtain ⟨h1, rfl⟩ := wf_of hkq
  by_cases hc : b ≤ k ∧ k < b + n1
  · have e : mset b n1 mem mem1 k = mem1 (k - b) := if_pos hc
    rw [e]
    have h2 := hP1 (k - b) (ad (b + (k - b)), cf1 (k - b) (mem1 (k - b))) (wf_at (by omega))
    rw [← hcf _ _ (by omega)] at h2
    rw [show b + (k - b) = k by omega] at h2
    exact h2
  · have e : mset b n1 mem mem1 k = mem k := if_neg hc
    rw [e]
    have h2 := hP k (ad k, cf k (mem k)) (wf_at h1)
    refine h2.kept (hk _ (vx_lt hP (wf_at h1)) ?_)
    rintro (⟨j, hj, e2⟩ | h3)
    · have := hI _ _ h1 (by omega) e2
      omega
    · exact absurd (vx_lt hP (wf_at h1)) (Nat.not_lt.mpr h3)
/-- the class's world with the law's row of one long -/
def cL (ca ad : Nat → Nat) (k : Nat) (f : Row) : va_E := if k = 255 then .inl (ca 5, 1, .inr (.inl f.2)) else cC ca ad k f
theorem cL_lt {ca ad : Nat → Nat} (j : Nat) (f : Row) (h : j < 255) : cL ca ad (0 + j) f = cC ca ad j f := by
  rw [Nat.zero_add]
  exact if_neg (by omega)
theorem plt_255 : 255 < 256 := by decide
theorem ko_255 {ca ad : Nat → Nat} (f : Row) : cL ca ad 255 f = .inl (ca 5, 1, .inr (.inl f.2)) := if_pos rfl
/-- the law's world: the class's with the row, the reference's behind it -/
def cW (ca ad : Nat → Nat) (k : Nat) (f : Row) : va_E := if k < 256 then cL ca ad k f else cM ca (fun j => ad (256 + j)) (k - 256) f
theorem cW_C {ca ad : Nat → Nat} (j : Nat) (f : Row) (h : j < 255) : cW ca ad (0 + j) f = cC ca ad j f := by
  rw [Nat.zero_add, cW, if_pos (by omega)]
  exact if_neg (by omega)
theorem cW_L {ca ad : Nat → Nat} (j : Nat) (f : Row) (h : j < 256) : cW ca ad (0 + j) f = cL ca ad j f := by
  rw [Nat.zero_add, cW, if_pos h]
theorem cW_M {ca ad : Nat → Nat} (j : Nat) (f : Row) (h : j < 23) : cW ca ad (256 + j) f = cM ca (fun j => ad (256 + j)) j f := by
  rw [cW, if_neg (by omega), Nat.add_sub_cancel_left]
theorem ko_W255 {ca ad : Nat → Nat} (f : Row) : cW ca ad 255 f = .inl (ca 5, 1, .inr (.inl f.2)) := by
  rw [cW, if_pos (by decide)]
  exact if_pos rfl
theorem ad_0 {ad : Nat → Nat} : (fun j => ad (0 + j)) = ad := funext fun j => by rw [Nat.zero_add]
theorem mem_0 {mem : Mem} : (fun j => mem (0 + j)) = mem := funext fun j => by rw [Nat.zero_add]
def CW (l : Launch) (D : va_G) (tys : List (ClassId × FieldType)) (n : Nat) (ad : Nat → Nat) (cf : Nat → Row → va_E) (Z : (Nat → Prop) → State → Heap → Prop) (y : MethodName) (cc : ByteArray) (nL : Nat) (hh : List (Nat × Nat × Nat × Nat)) (rm : Room) (av : List Value) (mem : Mem) (x : Int32) (mem' : Mem) : Prop :=
  ∀ sz : Nat, Met l y (Cond.codeWith y cc nL (some .int) hh :: GW) rm (va_Pc av (PW D tys n ad cf Z mem sz)) (va_Qi (fun (r : Int32) (u : Unit) => r = x ∧ u = ()) (fun _ t => va_P D vwCl (wf n ad cf mem') t.heap) (AA n ad sz)) 3 18 (AA n ad sz)
/-- what a wrapper does behind the call of a method that may throw -/
def bdc {ρ : Type} (o : Option TR) (F : Int32 → Mem → Option ρ) (G : Nat → Mem → Option ρ) : Option ρ := match o with
  | none => none
  | some (0, x, m) => F x m
  | some (k + 1, _, m) => G (k + 1) m
variable {D : va_G} {tys : List (ClassId × FieldType)} {n : Nat} {ad : Nat → Nat} {cf : Nat → Row → va_E} {Z : (Nat → Prop) → State → Heap → Prop} {p : Program} {l : Launch} {e : Env} {R : Room} {s : State} {m : MethodId} {args : Array Value} {below : List Frame} {meth : Method} {c : Code} {cc : ByteArray} {nL : Nat} {own : String} {ret : Option FieldType} {cells slots : Nat} {Q : State → Prop} {mem : Mem} {pc : Nat} {lv : List (Nat × Value)} {st : List Value}
theorem PW_em {n1 b : Nat} {cf1 : Nat → Row → va_E} (hb : b + n1 ≤ n) (hcf : ∀ j f, j < n1 → cf (b + j) f = cf1 j f) (X : CX D tys n ad Z p s m args meth c cc nL own ret) (hZ : ZOK Z) {H : Heap} {locs : List Loc} (hP : va_P D vwCl (wf n ad cf mem) H) (hS : va_S (AA n ad s.heap.size) s.heap H locs) {U : State} (hU : U.heap = H) (hW : s.WarmedH U.vm) : PW D tys n1 (fun j => ad (b + j)) cf1 Z (fun j => mem (b + j)) H.size U := by
  obtain ⟨h1, h2, h3, h4, h5⟩ := PW_of X hZ hP hS hU hW
  exact ⟨h1, wf_out hb hcf h2, h3, fun i j hi hj e => by have := h4 _ _ (by omega) (by omega) e; omega, hZ.2.1 _ _ _ _ h5 (AA_emb hb)⟩
theorem start_w {y : MethodName} {hh : List (Nat × Nat × Nat × Nat)} {rm : Room} {av : List Value} {x : Int32} {mem' : Mem} (ho : y.cls = own) (hy : plainName y.cls = true) (hn : (lg_sl av).length ≤ nL)
    (body : ∀ p e s m args below meth c Q, Q = MQ below (va_Qi (fun (r : Int32) (u : Unit) => r = x ∧ u = ()) (fun _ t => va_P D vwCl (wf n ad cf mem') t.heap) (AA n ad s.heap.size)) args s 3 18 (AA n ad s.heap.size) → c.exceptionTable.toList = tableOf hh → CX D tys n ad Z p s m args meth c cc nL own (some .int) → WW D n ad cf p l e rm s m args below meth c nL 0 0 Q mem 0 (lv_args 0 av) []) : CW l D tys n ad cf Z y cc nL hh rm av mem x mem' := by
  subst ho
  intro sz
  refine va_MetW (cc := cc) (maxL := nL) (ret := some .int) (hh := hh) hy rfl ?_
  intro p e s m args below meth c s₁ B hml hv
  obtain ⟨rfl, hsz, hP, hK, hI, hZ⟩ := hv
  subst hsz
  have hts := atoms_spec (ws := Cond.codeWith y cc nL (some .int) hh :: GW) B.pre
  rw [lg_entry_eq]
  exact body p e s m _ below meth c _ rfl (vx_table (x := y) B (hts _ List.mem_cons_self)) ⟨⟨B.exec, B.bytes, hml, findClass_of_methodNamed B.named, fun w hw => hts w (List.mem_cons_of_mem _ hw)⟩, B.returns, B.notSynchronized, hK, hI, hZ⟩ s.heap [] _ hP va_S.rf (lv_entry av hn)
theorem w_wret {x : Int32} {mem' : Mem} {x' : Int32} (X : CX D tys n ad Z p s m args meth c cc nL own (some .int)) (hQ : Q = MQ below (va_Qi (fun (r : Int32) (u : Unit) => r = x' ∧ u = ()) (fun _ t => va_P D vwCl (wf n ad cf mem') t.heap) (AA n ad s.heap.size)) args s 3 18 (AA n ad s.heap.size)) (hx : x = x') (hm : mem = mem') (hdg : decode cc pc = .ok (.ireturn, 1)) : WW D n ad cf p l e R s m args below meth c nL 3 18 Q mem pc lv [.int x] := by
  subst hm; subst hx; subst hQ
  exact fun H locs ls hP hS hl => W.zret X.1.1 X.1.2.1 X.2.1 rfl (fun t ht hW => ⟨⟨x, (), rfl, ⟨rfl, rfl⟩, by rw [← ht] at hP; exact hP⟩, hS.F ht⟩) hS.2.2 hdg X.2.2.1
/-- a wrapper calls a method that may throw, and catches -/
theorem w_xc {ca : Nat → Nat} {ρ : Type} {res : ρ} {o : Option TR} {F : Int32 → Mem → Option ρ} {G : Nat → Mem → Option ρ} {hh : List (Nat × Nat × Nat × Nat)} {y : MethodName} {bytes : ByteArray} {nY index na : Nat} {rty : FieldType} {rm : Room} (X : CX D (tyL ca) 256 ad Z p s m args meth c cc nL "PawnRaceLaw" ret) (hZ : ZOK Z) (hX : ZX Z) (htb : c.exceptionTable.toList = tableOf hh) (hF : bdc o F G = some res) {stk : List Value} (As : List Value) (hqy : y.cls = "PawnRace") (hs : As.reverse ++ .ref (ad 0) :: st = stk) (b : MB y bytes nY (some rty) na) (w1 : Cond.methodLink "PawnRaceLaw" index y ∈ GW)
    (hM : ∀ r : TR, o = some r → CT l D (tyL ca) 255 ad (cC ca ad) Z y bytes nY rty rm (.ref (ad 0) :: As) mem r) (hna : As.length = na) (hrc : rm.cells = 3) (hrs : rm.slots = 18) (hR : rm.frames + 1 ≤ R.frames ∧ 8 + (nY + 11) + rm.locals ≤ R.locals) (hst : (st.map fun v => v.category).sum ≤ 8) (hcs : 3 ≤ R.cells ∧ 18 ≤ R.slots) (hdg : decode cc pc = .ok (.invokevirtual index, 3)) (pc2 : Nat) (hp : pc + 3 = pc2)
    (hcat : ∀ (k : Nat) (m' : Mem), 1 ≤ k → k ≤ 3 → G k m' = some res → ∃ (pre : List ExceptionTableEntry) (x : ExceptionTableEntry) (suf : List ExceptionTableEntry), tableOf hh = pre ++ x :: suf ∧ (∀ z ∈ pre, z.catchType ≠ 0 ∧ ∃ j, 1 ≤ j ∧ j ≤ 3 ∧ k ≠ j ∧ Cond.classLink "PawnRaceLaw" z.catchType (exN j) ∈ GW) ∧ covers x pc = true ∧ x.catchType ≠ 0 ∧ Cond.classLink "PawnRaceLaw" x.catchType (exN k) ∈ GW ∧ ∀ a : Nat, WW D 256 ad (cL ca ad) p l e R s m args below meth c nL 3 18 Q (mset 0 255 mem m') x.handlerPc lv [.ref a])
    (kk : ∀ (x : Int32) (m' : Mem), F x m' = some res → WW D 256 ad (cL ca ad) p l e R s m args below meth c nL 3 18 Q (mset 0 255 mem m') pc2 lv (.int x :: st)) : WW D 256 ad (cL ca ad) p l e R s m args below meth c nL 0 0 Q mem pc lv stk := by
  subst hp
  subst hs
  obtain ⟨r, ho⟩ : ∃ r, o = some r := by
    cases o with
    | none => cases hF
    | some r => exact ⟨r, rfl⟩
  intro H locs ls hP hS hl
  have hM := hM r ho H.size
  have hbl : FrameBlind (va_Pc (.ref (ad 0) :: As) (PW D (tyL ca) 255 ad (cC ca ad) Z mem H.size)) := PW_bl hZ
  have hpre : ∀ U : State, U.heap = H → s.WarmedH U.vm → va_Pc (.ref (ad 0) :: As) (PW D (tyL ca) 255 ad (cC ca ad) Z mem H.size) ((.ref (ad 0) :: As) : List Value).toArray U := fun U hU hW => ⟨rfl, by
    have := PW_em (b := 0) (n1 := 255) (cf1 := cC ca ad) (by decide) (fun j f h => cL_lt j f h) X hZ hP hS hU hW
    rw [ad_0, mem_0] at this
    exact this⟩
  obtain ⟨w2, w4, w3, w5, hd⟩ := b
  have hg : GoodIn GW (Cond.code y bytes nY (some rty) :: GW) := gw_cons w5
  have cw : CallW R s args "PawnRaceLaw" y.cls index y bytes nY (some rty) (Cond.code y bytes nY (some rty) :: GW) rm 3 18 na := ⟨callB_of na X.1.2.2.2.2 hg rfl hrc hrs (X.1.2.2.2.2 _ w3) (X.1.2.2.2.2 _ w1) hd hR, X.1.2.2.2.2 _ w2, X.1.2.2.2.2 _ w4⟩
  have hrv : ∃ cellB : Cell, H[ad 0]? = some cellB ∧ cellB.vm.isStatics = false ∧ s.vm.findClass y.cls = some cellB.cls := by
    rw [hqy]
    exact va_recv (q := ("PawnRace", TX11, 14)) (ci := 11) X.2.2.2.1 hP rfl (q0 := 0) (a := ad 0) (wf_at (by decide))
  have hsub : ∀ q, AA 255 ad H.size q → AA 256 ad s.heap.size q := fun q h => h.elim (fun ⟨k, h1, h2⟩ => Or.inl ⟨k, by omega, h2⟩) (fun h => Or.inr (Nat.le_trans hS.1 h))
  have hback : ∀ (m' : Mem) (H1 : Heap), va_P D vwCl (wf 255 ad (cC ca ad) m') H1 → (∀ q : Nat, q < H.size → ¬ AA 255 ad H.size q → H1[q]? = H[q]?) → va_P D vwCl (wf 256 ad (cL ca ad) (mset 0 255 mem m')) H1 := fun m' H1 h1 h2 =>
    wf_in (b := 0) (n1 := 255) (cf1 := cC ca ad) (by decide) (fun j f h => cL_lt j f h) X.2.2.2.2.1 hP (by rw [ad_0]; exact h1) (by rw [ad_0]; exact h2)
  have hr := vx_runV (rest := st) X.1 hM cw ⟨hbl, hrv, hpre⟩ (g := F0 m pc ls (As.reverse ++ .ref (ad 0) :: st)) (H := H) (locs := locs) (cells := 0) (slots := 0) (below := below) (e := e) (meth := meth) rfl hna hl.1 rfl (lv_room hst) hdg (by simpa using hcs)
  refine vx_calli hr hS (fun q _ h => hsub q h) (fun q h => hsub q h) (fun q _ h => hsub q h) (fun E ce q9 u t H1 locs1 ht hvm hu hB hz1 hk1 hS1 hc9 hv9 hf9 => ?_) (fun x u t H1 locs1 ht hvm hw hB hz1 hk1 hS1 => ?_)
  · obtain ⟨⟨hb1, hb2⟩, hE, hP1⟩ := hB
    rw [ht] at hP1
    obtain ⟨k, x, m'⟩ := r
    have hG : G k m' = some res := by
      rw [ho] at hF
      cases k with
      | zero => exact absurd hb1 (Nat.not_succ_le_zero 0)
      | succ k => exact hF
    obtain ⟨pre, x, suf, e1, e2, e3, e4, e5, e6⟩ := hcat k m' hb1 hb2 hG
    obtain ⟨-, -, zC, -, zN, -⟩ := hX _ _ _ X.2.2.2.2.2
    have hE : E = exN k := hE
    subst hE
    exact vx_catch X.1.2.2.2.1 pre x suf (htb.trans e1) (fun z hz => Or.inr (by
      obtain ⟨q1, j, q2, q3, q4, q5⟩ := e2 z hz
      exact ⟨q1, exN j, X.1.2.2.2.2 _ q5, zN k j ⟨hb1, hb2⟩ ⟨q2, q3⟩ q4⟩)) e3 e4 (X.1.2.2.2.2 _ e5) ((zC k ⟨hb1, hb2⟩).use rfl) hc9 hv9 hf9 (e6 q9 H1 locs1 ls (hback m' H1 hP1 hk1) hS1 hl)
  · obtain ⟨⟨h0, h1⟩, -⟩ := hw
    obtain ⟨k, x', m'⟩ := r
    have h0 : k = 0 := h0
    have h1 : x = x' := h1
    subst h0; subst h1
    rw [ho] at hF
    rw [ht] at hB
    exact kk x m' hF H1 locs1 ls (hback m' H1 hB hk1) hS1 hl
end LAW0
