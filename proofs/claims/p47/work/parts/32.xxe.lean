section XXE
def yI_size : MethodName := ⟨"java/util/List", "size", "()I"⟩
def yI_get : MethodName := ⟨"java/util/List", "get", "(I)Ljava/lang/Object;"⟩
def yI_add : MethodName := ⟨"java/util/List", "add", "(Ljava/lang/Object;)Z"⟩
def yI_isEmpty : MethodName := ⟨"java/util/List", "isEmpty", "()Z"⟩
def yI_iterator : MethodName := ⟨"java/util/List", "iterator", "()Ljava/util/Iterator;"⟩
def yI_hasNext : MethodName := ⟨"java/util/Iterator", "hasNext", "()Z"⟩
def yI_next : MethodName := ⟨"java/util/Iterator", "next", "()Ljava/lang/Object;"⟩
def lstI : List (String × MethodName × MethodName) := [("java/util/ArrayList", yI_size, yJx4a65c_size_8abf5), ("java/util/ArrayList", yI_get, yJx4a65c_get_915e3), ("java/util/ArrayList", yI_add, yJx4a65c_add_9ea2d), ("java/util/ArrayList", yI_isEmpty, yJx4a65c_isEmpty_aae02), ("java/util/ArrayList", yI_iterator, yJx4a65c_iterator_32c93), ("java/util/ArrayList$Itr", yI_hasNext, yJx35411_hasNext_aae02), ("java/util/ArrayList$Itr", yI_next, yJx35411_next_0502b)]
def dxV (j : Nat) : Int32 := match j with
  | 0 => 0
  | 1 => 1
  | 2 => 0
  | _ => -1
def dyV (j : Nat) : Int32 := match j with
  | 0 => 1
  | 1 => 0
  | 2 => -1
  | _ => 0
def nstW : List Cond := [.fieldLinkNest RX12 177 "PawnRaceLaw" "ACROSS" "[I" "PawnRaceLaw", .fieldLinkNest RX12 180 "PawnRaceLaw" "UP" "[I" "PawnRaceLaw", .fieldLinkNest RX12 115 "PawnRaceLaw" "SIDES" "[Ljava/lang/String;" "PawnRaceLaw", .methodLinkNest RX12 44 yL_pick "PawnRaceLaw", .methodLinkNest RL 111 yX12_endTurn "PawnRaceLaw", .fieldLinkNest RJx35411 28 "java/util/ArrayList" "size" "I" "java/util/ArrayList", .sameField "java/util/ArrayList" "java/util/AbstractList" "modCount" "I"]
/-- the law's statics, its script, what the tables say of nest mates and of interfaces -/
def zW (tA tU sB L : Nat) (xs : Nat → Int32) (A : Nat → Prop) (U : State) (H : Heap) : Prop := (va_Z "PawnRaceLaw" "ACROSS" "[I" (.ref tA) A U H ∧ va_T .int tA 4 (fun j => .int (dxV j)) A U H) ∧ (va_Z "PawnRaceLaw" "UP" "[I" (.ref tU) A U H ∧ va_T .int tU 4 (fun j => .int (dyV j)) A U H) ∧ va_T .int sB L (fun j => .int (xs j)) A U H ∧ (∀ w ∈ nstW, va_Nw w U) ∧ (∀ q ∈ lstI, va_Fw q.1 q.2.1 q.2.2 U) ∧ va_AOA .int U ∧ va_AO "java/lang/Object" U
def ZWO (Z : (Nat → Prop) → State → Heap → Prop) (tA tU sB L : Nat) (xs : Nat → Int32) : Prop := ∀ A U H, Z A U H → zW tA tU sB L xs A U H
/-- what the tables say of a method called by an interface -/
def FB (C : String) (x y : MethodName) (bytes : ByteArray) (nY : Nat) (ret : Option FieldType) (na : Nat) : Prop := Cond.selects C x y ∈ GW ∧ Cond.instanceMethod y ∈ GW ∧ Cond.initialized y.cls ∈ GW ∧ Cond.code y bytes nY ret ∈ GW ∧ (x.cls ≠ "java/lang/invoke/MethodHandle" ∧ x.cls ≠ "java/lang/invoke/VarHandle" ∧ (parseMethodDescriptor x.desc).map (fun d => d.parameters.length) = some na)
/-- contract: a fixed reference comes back -/
def CJa (l : Launch) (D : va_G) (tys : List (ClassId × FieldType)) (n : Nat) (ad : Nat → Nat) (cf : Nat → Row → va_E) (Z : (Nat → Prop) → State → Heap → Prop) (y : MethodName) (cc : ByteArray) (nL : Nat) (ret : FieldType) (rm : Room) (av : List Value) (mem : Mem) (ra : Nat) : Prop :=
  ∀ sz : Nat, Met l y (Cond.code y cc nL (some ret) :: GW) rm (va_Pc av (PW D tys n ad cf Z mem sz)) (va_Qr (fun (u : Unit) => u = ()) (fun _ a t => a = ra ∧ va_P D vwCl (wf n ad cf mem) t.heap) (AA n ad sz)) rm.cells rm.slots (AA n ad sz)
theorem kFB_size : FB "java/util/ArrayList" yI_size yJx4a65c_size_8abf5 cJx4a65c_size_8abf5 1 (some .int) 0 := ⟨gw_c tb_5 171 rfl rfl, gw_c tb_5 173 rfl rfl, kN_Jx4a65c, gw_c tb_5 175 rfl rfl, ⟨by decide +kernel, by decide +kernel, by decide +kernel⟩⟩
theorem kFB_get : FB "java/util/ArrayList" yI_get yJx4a65c_get_915e3 cJx4a65c_get_915e3 2 (some (.object "java/lang/Object")) 1 := ⟨gw_c tb_5 180 rfl rfl, gw_c tb_5 182 rfl rfl, kN_Jx4a65c, gw_c tb_5 184 rfl rfl, ⟨by decide +kernel, by decide +kernel, by decide +kernel⟩⟩
theorem kFB_add : FB "java/util/ArrayList" yI_add yJx4a65c_add_9ea2d cJx4a65c_add_9ea2d 2 (some .boolean) 1 := ⟨gw_c tb_6 37 rfl rfl, gw_c tb_6 39 rfl rfl, kN_Jx4a65c, gw_c tb_6 41 rfl rfl, ⟨by decide +kernel, by decide +kernel, by decide +kernel⟩⟩
theorem kFB_isEmpty : FB "java/util/ArrayList" yI_isEmpty yJx4a65c_isEmpty_aae02 cJx4a65c_isEmpty_aae02 1 (some .boolean) 0 := ⟨gw_c tb_6 94 rfl rfl, gw_c tb_6 96 rfl rfl, kN_Jx4a65c, gw_c tb_6 98 rfl rfl, ⟨by decide +kernel, by decide +kernel, by decide +kernel⟩⟩
theorem kFB_iterator : FB "java/util/ArrayList" yI_iterator yJx4a65c_iterator_32c93 cJx4a65c_iterator_32c93 1 (some (.object "java/util/Iterator")) 0 := ⟨gw_c tb_7 93 rfl rfl, gw_c tb_7 95 rfl rfl, kN_Jx4a65c, gw_c tb_7 97 rfl rfl, ⟨by decide +kernel, by decide +kernel, by decide +kernel⟩⟩
theorem kFB_hasNext : FB "java/util/ArrayList$Itr" yI_hasNext yJx35411_hasNext_aae02 cJx35411_hasNext_aae02 1 (some .boolean) 0 := ⟨gw_c tb_7 122 rfl rfl, gw_c tb_7 124 rfl rfl, kN_Jx35411, gw_c tb_7 126 rfl rfl, ⟨by decide +kernel, by decide +kernel, by decide +kernel⟩⟩
theorem kFB_next : FB "java/util/ArrayList$Itr" yI_next yJx35411_next_0502b cJx35411_next_0502b 3 (some (.object "java/lang/Object")) 0 := ⟨gw_c tb_7 131 rfl rfl, gw_c tb_7 133 rfl rfl, kN_Jx35411, gw_c tb_7 135 rfl rfl, ⟨by decide +kernel, by decide +kernel, by decide +kernel⟩⟩
theorem kCl_L_26 : Cond.classLink RL 26 "PawnRace" ∈ GW := gw_c tb_1 37 rfl rfl
theorem kCl_X11_9 : Cond.classLink RX11 9 "PawnRace$Tokens" ∈ GW := gw_c tb_1 45 rfl rfl
theorem kCl_X11_16 : Cond.classLink RX11 16 "PawnRace$Planner" ∈ GW := gw_c tb_1 98 rfl rfl
theorem kCl_X5_9 : Cond.classLink RX5 9 "PawnRace$Ways" ∈ GW := gw_c tb_1 104 rfl rfl
theorem kCl_X11_23 : Cond.classLink RX11 23 "PawnRace$Ways" ∈ GW := gw_c tb_1 147 rfl rfl
theorem kCl_X11_30 : Cond.classLink RX11 30 "PawnRace$BanWays" ∈ GW := gw_c tb_1 149 rfl rfl
theorem kCl_X11_37 : Cond.classLink RX11 37 "PawnRace$Race" ∈ GW := gw_c tb_1 168 rfl rfl
theorem kCl_X6_9 : Cond.classLink RX6 9 "PawnRace$Board" ∈ GW := gw_c tb_1 174 rfl rfl
theorem kCl_X6_18 : Cond.classLink RX6 18 "PawnRace$Pawn" ∈ GW := gw_c tb_1 221 rfl rfl
theorem kCl_X6_25 : Cond.classLink RX6 25 "PawnRace$Ban" ∈ GW := gw_c tb_2 31 rfl rfl
theorem kCl_X11_47 : Cond.classLink RX11 47 "PawnRace$RaceReader" ∈ GW := gw_c tb_2 114 rfl rfl
theorem kCl_X11_56 : Cond.classLink RX11 56 "PawnRace$Script" ∈ GW := gw_c tb_2 148 rfl rfl
theorem kCl_X11_75 : Cond.classLink RX11 75 "PawnRace$History" ∈ GW := gw_c tb_2 182 rfl rfl
theorem kCl_X3_9 : Cond.classLink RX3 9 "PawnRace$Race" ∈ GW := gw_c tb_2 188 rfl rfl
theorem kCl_X11_104 : Cond.classLink RX11 104 "java/lang/IllegalArgumentException" ∈ GW := gw_c tb_4 58 rfl rfl
theorem kCl_X12_8 : Cond.classLink RX12 8 "PawnRaceLaw$World" ∈ GW := gw_c tb_4 151 rfl rfl
theorem kCl_X12_16 : Cond.classLink RX12 16 "java/util/ArrayList" ∈ GW := gw_c tb_4 157 rfl rfl
theorem kCl_X12_26 : Cond.classLink RX12 26 "[[I" ∈ GW := gw_c tb_4 186 rfl rfl
theorem kCl_X12_51 : Cond.classLink RX12 51 "java/lang/StringBuilder" ∈ GW := gw_c tb_4 231 rfl rfl
theorem kCl_J7_311 : Cond.classLink RJ7 311 "[B" ∈ GW := gw_c tb_5 71 rfl rfl
theorem kL_X12_106 : Cond.methodLink RX12 106 yI_size ∈ GW := gw_c tb_5 167 rfl rfl
theorem kL_X12_193 : Cond.methodLink RX12 193 yI_get ∈ GW := gw_c tb_5 177 rfl rfl
theorem kCl_X12_169 : Cond.classLink RX12 169 "[I" ∈ GW := gw_c tb_5 193 rfl rfl
theorem kCl_J4_18 : Cond.classLink RJ4 18 "java/lang/String" ∈ GW := gw_c tb_5 220 rfl rfl
theorem kL_X12_121 : Cond.methodLink RX12 121 yI_add ∈ GW := gw_c tb_6 34 rfl rfl
theorem kCl_J7_110 : Cond.classLink RJ7 110 "[Ljava/lang/Object;" ∈ GW := gw_c tb_6 85 rfl rfl
theorem kCl_J7_2 : Cond.classLink RJ7 2 "java/lang/Object" ∈ GW := gw_c tb_6 87 rfl rfl
theorem kCl_Jx4a65c_7 : Cond.classLink RJx4a65c 7 "java/lang/Object" ∈ GW := gw_c tb_6 89 rfl rfl
theorem kL_X12_79 : Cond.methodLink RX12 79 yI_isEmpty ∈ GW := gw_c tb_6 91 rfl rfl
theorem kCl_X11_93 : Cond.classLink RX11 93 "java/lang/IllegalStateException" ∈ GW := gw_c tb_6 154 rfl rfl
theorem kCl_X11_350 : Cond.classLink RX11 350 "java/lang/IndexOutOfBoundsException" ∈ GW := gw_c tb_7 58 rfl rfl
theorem kL_X12_157 : Cond.methodLink RX12 157 yI_iterator ∈ GW := gw_c tb_7 90 rfl rfl
theorem kCl_Jx4a65c_267 : Cond.classLink RJx4a65c 267 "java/util/ArrayList$Itr" ∈ GW := gw_c tb_7 98 rfl rfl
theorem kL_X12_161 : Cond.methodLink RX12 161 yI_hasNext ∈ GW := gw_c tb_7 118 rfl rfl
theorem kL_X12_166 : Cond.methodLink RX12 166 yI_next ∈ GW := gw_c tb_7 128 rfl rfl
theorem kL_L_74 : Cond.methodLink RL 74 yI_get ∈ GW := gw_c tb_7 195 rfl rfl
theorem kCl_L_78 : Cond.classLink RL 78 "[I" ∈ GW := gw_c tb_7 196 rfl rfl
theorem kL_L_65 : Cond.methodLink RL 65 yI_size ∈ GW := gw_c tb_7 230 rfl rfl
theorem kCl_L_217 : Cond.classLink RL 217 "java/lang/IllegalStateException" ∈ GW := gw_c tb_8 117 rfl rfl
variable {D : va_G} {tys : List (ClassId × FieldType)} {n : Nat} {ad : Nat → Nat} {cf : Nat → Row → va_E} {Z : (Nat → Prop) → State → Heap → Prop} {p : Program} {l : Launch} {e : Env} {R : Room} {s : State} {m : MethodId} {args : Array Value} {below : List Frame} {meth : Method} {c : Code} {cc : ByteArray} {nL : Nat} {own : String} {ret : Option FieldType} {cells slots : Nat} {Q : State → Prop} {mem : Mem} {ex : va_W} {pc : Nat} {lv : List (Nat × Value)} {st : List Value}

theorem x_aretA {a ra : Nat} {mem' : Mem} {rt : FieldType} {k1 k2 : Nat} (X : CX D tys n ad Z p s m args meth c cc nL own (some rt)) (hrt : (∃ n, rt = .object n) ∨ ∃ t, rt = .array t) (hQ : Q = MQ below (va_Qr (fun (u : Unit) => u = ()) (fun _ a t => a = ra ∧ va_P D vwCl (wf n ad cf mem') t.heap) (AA n ad s.heap.size)) args s k1 k2 (AA n ad s.heap.size)) (ha : a = ra) (hm : mem = mem') (h1 : cells ≤ k1) (h2 : slots ≤ k2) (hdg : decode cc pc = .ok (.areturn, 1)) : XX D n ad cf p l e R s m args below meth c nL cells slots Q mem ex pc lv [.ref a] := by
  subst hm; subst hQ; subst ha
  exact fun H locs ls hP hD hS hl => W.widen h1 h2 (W.aret X.1.1 X.1.2.1 X.2.1 hrt (Or.inr ⟨a, rfl⟩) (fun t ht hW => ⟨⟨(), a, rfl, rfl, rfl, by rw [ht]; exact wP_l hP⟩, hS.F ht⟩) hS.2.2 hdg X.2.2.1)
theorem xstart_a {y : MethodName} {rt : FieldType} {rm : Room} {av : List Value} {ra : Nat} (ho : y.cls = own) (hy : plainName y.cls = true) (hn : (lg_sl av).length ≤ nL)
    (body : ∀ p e s m args below meth c Q, Q = MQ below (va_Qr (fun (u : Unit) => u = ()) (fun _ a t => a = ra ∧ va_P D vwCl (wf n ad cf mem) t.heap) (AA n ad s.heap.size)) args s rm.cells rm.slots (AA n ad s.heap.size) → CX D tys n ad Z p s m args meth c cc nL own (some rt) → XX D n ad cf p l e rm s m args below meth c nL 0 0 Q mem [] 0 (lv_args 0 av) []) : CJa l D tys n ad cf Z y cc nL rt rm av mem ra := by
  subst ho
  intro sz
  refine Met.ofW (cc := cc) (maxL := nL) (ret := some rt) hy rfl ?_
  intro p e s m args below meth c s₁ B hml hv
  obtain ⟨rfl, hsz, hP, hK, hI, hZ⟩ := hv
  subst hsz
  have hts := atoms_spec (ws := Cond.code y cc nL (some rt) :: GW) B.pre
  rw [lg_entry_eq]
  exact body p e s m _ below meth c _ rfl ⟨⟨B.exec, B.bytes, hml, findClass_of_methodNamed B.named, fun w hw => hts w (List.mem_cons_of_mem _ hw)⟩, B.returns, B.notSynchronized, hK, hI, hZ⟩ s.heap [] _ (by rw [List.append_nil]; exact hP) (by rw [List.append_nil]; exact wf_D hI) va_S.rf (lv_entry av hn)
/-- a static row of the law's, in a nest mate's hands -/
theorem x_acr {tA tU sB L index : Nat} {xs : Nat → Int32} (X : CX D tys n ad Z p s m args meth c cc nL own ret) (hW : ZWO Z tA tU sB L xs) (hw : Cond.fieldLinkNest own index "PawnRaceLaw" "ACROSS" "[I" "PawnRaceLaw" ∈ nstW) (hdg : decode cc pc = .ok (.getstatic index, 3)) (pc2 : Nat) (hp : pc + 3 = pc2) (kk : XX D n ad cf p l e R s m args below meth c nL cells slots Q mem ex pc2 lv (.ref tA :: st)) : XX D n ad cf p l e R s m args below meth c nL cells slots Q mem ex pc lv st := by
  subst hp
  exact fun H locs ls hP hD hS hl => va_getsN X.1.1 X.1.2.1 (hW _ _ _ X.2.2.2.2.2).1.1 hS X.1.2.2.2.1 (va_Nw.use rfl ((hW _ _ _ X.2.2.2.2.2).2.2.2.1 _ hw)) (fun _ h => h) hdg (kk H locs ls hP hD hS hl)
theorem x_ups {tA tU sB L index : Nat} {xs : Nat → Int32} (X : CX D tys n ad Z p s m args meth c cc nL own ret) (hW : ZWO Z tA tU sB L xs) (hw : Cond.fieldLinkNest own index "PawnRaceLaw" "UP" "[I" "PawnRaceLaw" ∈ nstW) (hdg : decode cc pc = .ok (.getstatic index, 3)) (pc2 : Nat) (hp : pc + 3 = pc2) (kk : XX D n ad cf p l e R s m args below meth c nL cells slots Q mem ex pc2 lv (.ref tU :: st)) : XX D n ad cf p l e R s m args below meth c nL cells slots Q mem ex pc lv st := by
  subst hp
  exact fun H locs ls hP hD hS hl => va_getsN X.1.1 X.1.2.1 (hW _ _ _ X.2.2.2.2.2).2.1.1 hS X.1.2.2.2.1 (va_Nw.use rfl ((hW _ _ _ X.2.2.2.2.2).2.2.2.1 _ hw)) (fun _ h => h) hdg (kk H locs ls hP hD hS hl)
theorem x_acl {tA tU sB L : Nat} {xs : Nat → Int32} {i : Int32} (X : CX D tys n ad Z p s m args meth c cc nL own ret) (hW : ZWO Z tA tU sB L xs) (hi : vp_in i 4) (hdg : decode cc pc = .ok (.iaload, 1)) (pc2 : Nat) (hp : pc + 1 = pc2) (kk : XX D n ad cf p l e R s m args below meth c nL cells slots Q mem ex pc2 lv (.int (dxV i.toNatClampNeg) :: st)) : XX D n ad cf p l e R s m args below meth c nL cells slots Q mem ex pc lv (.int i :: .ref tA :: st) := by
  subst hp
  exact fun H locs ls hP hD hS hl => va_ti X.1.1 X.1.2.1 (hW _ _ _ X.2.2.2.2.2).1.2 hS hi rfl hdg (kk H locs ls hP hD hS hl)
theorem x_upl {tA tU sB L : Nat} {xs : Nat → Int32} {i : Int32} (X : CX D tys n ad Z p s m args meth c cc nL own ret) (hW : ZWO Z tA tU sB L xs) (hi : vp_in i 4) (hdg : decode cc pc = .ok (.iaload, 1)) (pc2 : Nat) (hp : pc + 1 = pc2) (kk : XX D n ad cf p l e R s m args below meth c nL cells slots Q mem ex pc2 lv (.int (dyV i.toNatClampNeg) :: st)) : XX D n ad cf p l e R s m args below meth c nL cells slots Q mem ex pc lv (.int i :: .ref tU :: st) := by
  subst hp
  exact fun H locs ls hP hD hS hl => va_ti X.1.1 X.1.2.1 (hW _ _ _ X.2.2.2.2.2).2.1.2 hS hi rfl hdg (kk H locs ls hP hD hS hl)
theorem x_scl {tA tU sB L : Nat} {xs : Nat → Int32} {i : Int32} (X : CX D tys n ad Z p s m args meth c cc nL own ret) (hW : ZWO Z tA tU sB L xs) (hi : vp_in i L) (hdg : decode cc pc = .ok (.iaload, 1)) (pc2 : Nat) (hp : pc + 1 = pc2) (kk : XX D n ad cf p l e R s m args below meth c nL cells slots Q mem ex pc2 lv (.int (xs i.toNatClampNeg) :: st)) : XX D n ad cf p l e R s m args below meth c nL cells slots Q mem ex pc lv (.int i :: .ref sB :: st) := by
  subst hp
  exact fun H locs ls hP hD hS hl => va_ti X.1.1 X.1.2.1 (hW _ _ _ X.2.2.2.2.2).2.2.1 hS hi rfl hdg (kk H locs ls hP hD hS hl)
theorem x_scn {tA tU sB L : Nat} {xs : Nat → Int32} (X : CX D tys n ad Z p s m args meth c cc nL own ret) (hW : ZWO Z tA tU sB L xs) (hdg : decode cc pc = .ok (.arraylength, 1)) (pc2 : Nat) (hp : pc + 1 = pc2) (kk : XX D n ad cf p l e R s m args below meth c nL cells slots Q mem ex pc2 lv (.int (Int32.ofNat L) :: st)) : XX D n ad cf p l e R s m args below meth c nL cells slots Q mem ex pc lv (.ref sB :: st) := by
  subst hp
  exact fun H locs ls hP hD hS hl => va_tlen X.1.1 X.1.2.1 (hW _ _ _ X.2.2.2.2.2).2.2.1 hS rfl hdg (kk H locs ls hP hD hS hl)
/-- a row of rows: a place out of it -/
theorem x_aar (X : CX D tys n ad Z p s m args meth c cc nL own ret) (k : Nat) (hk : k < n) {cA : ClassId} {ty : FieldType} {N t0 : Nat} {g : Nat → Option Nat} {i : Int32} (q : Nat) (he : ∀ f : Row, cf k f = .inl (cA, N, .inr (.inr (.inr (.inr g))))) (ht : tys[t0]? = some (cA, .array ty)) (hi : vp_in i N) (hq : g i.toNatClampNeg = some (ad q)) (hdg : decode cc pc = .ok (.aaload, 1)) (pc2 : Nat) (hp : pc + 1 = pc2) (kk : XX D n ad cf p l e R s m args below meth c nL cells slots Q mem ex pc2 lv (.ref (ad q) :: st)) : XX D n ad cf p l e R s m args below meth c nL cells slots Q mem ex pc lv (.int i :: .ref (ad k) :: st) := by
  subst hp
  intro H locs ls hP hD hS hl
  have hlt : i.toNatClampNeg < N := Nat.not_le.mp fun q => hi (Or.inr q)
  have ha : (wf n ad cf mem ++ ex)[k]? = some (ad k, .inl (cA, N, .inr (.inr (.inr (.inr g))))) := by rw [wx_at hk, he]
  exact W.aald (v := va_rf (g i.toNatClampNeg)) (ty := .array ty) X.1.1 X.1.2.1 (hP k _ ha) ((X.2.2.2.1.2 t0 _ ht).1 N (fun j => va_rf (g j))) rfl (fun q => by cases q) (by show ¬ (i < 0 ∨ (arrV _ _ _).slots.size ≤ _); rw [arrV_size]; exact hi) (by show (arrV _ _ _).slots[_]? = _; rw [arrV_read _ _ hlt]) rfl rfl hdg (by rw [hq]; exact kk H locs ls hP hD hS hl)
/-- rows on the further things, by their place there -/
theorem e_aar (X : CX D tys n ad Z p s m args meth c cc nL own ret) (j : Nat) {a b : Nat} {cA : ClassId} {ty : FieldType} {N t0 : Nat} {g : Nat → Option Nat} {i : Int32} (he : ex[j]? = some (a, .inl (cA, N, .inr (.inr (.inr (.inr g)))))) (ht : tys[t0]? = some (cA, .array ty)) (hi : vp_in i N) (hq : g i.toNatClampNeg = some b) (hdg : decode cc pc = .ok (.aaload, 1)) (pc2 : Nat) (hp : pc + 1 = pc2) (kk : XX D n ad cf p l e R s m args below meth c nL cells slots Q mem ex pc2 lv (.ref b :: st)) : XX D n ad cf p l e R s m args below meth c nL cells slots Q mem ex pc lv (.int i :: .ref a :: st) := by
  subst hp
  intro H locs ls hP hD hS hl
  have hlt : i.toNatClampNeg < N := Nat.not_le.mp fun q => hi (Or.inr q)
  exact W.aald (v := va_rf (g i.toNatClampNeg)) (ty := .array ty) X.1.1 X.1.2.1 (hP (n + j) _ (we_at.trans he)) ((X.2.2.2.1.2 t0 _ ht).1 N (fun j => va_rf (g j))) rfl (fun q => by cases q) (by show ¬ (i < 0 ∨ (arrV _ _ _).slots.size ≤ _); rw [arrV_size]; exact hi) (by show (arrV _ _ _).slots[_]? = _; rw [arrV_read _ _ hlt]) rfl rfl hdg (by rw [hq]; exact kk H locs ls hP hD hS hl)
theorem e_ial (X : CX D tys n ad Z p s m args meth c cc nL own ret) (j : Nat) {a : Nat} {cA : ClassId} {N t0 : Nat} {f : Nat → Int32} {i : Int32} (he : ex[j]? = some (a, .inl (cA, N, .inl f))) (ht : tys[t0]? = some (cA, .int)) (hi : vp_in i N) (hdg : decode cc pc = .ok (.iaload, 1)) (pc2 : Nat) (hp : pc + 1 = pc2) (kk : XX D n ad cf p l e R s m args below meth c nL cells slots Q mem ex pc2 lv (.int (f i.toNatClampNeg) :: st)) : XX D n ad cf p l e R s m args below meth c nL cells slots Q mem ex pc lv (.int i :: .ref a :: st) := by
  subst hp
  exact fun H locs ls hP hD hS hl => va_iald X.1.1 X.1.2.1 X.2.2.2.1 hP (n + j) t0 (we_at.trans he) ht hi hdg (kk H locs ls hP hD hS hl)
theorem e_ias (X : CX D tys n ad Z p s m args meth c cc nL own ret) (j : Nat) {a : Nat} {cA : ClassId} {N t0 : Nat} {f : Nat → Int32} {i x : Int32} (ex2 : va_W) (he : ex[j]? = some (a, .inl (cA, N, .inl f))) (ht : tys[t0]? = some (cA, .int)) (hi : vp_in i N) (hx : ex.set j (a, .inl (cA, N, .inl (upd f i.toNatClampNeg x))) = ex2) (hdg : decode cc pc = .ok (.iastore, 1)) (pc2 : Nat) (hp : pc + 1 = pc2) (kk : XX D n ad cf p l e R s m args below meth c nL cells slots Q mem ex2 pc2 lv st) : XX D n ad cf p l e R s m args below meth c nL cells slots Q mem ex pc lv (.int x :: .int i :: .ref a :: st) := by
  subst hp; subst hx
  intro H locs ls hP hD hS hl
  exact va_iast X.1.1 X.1.2.1 X.2.2.2.1 hP hD hS (n + j) t0 (we_at.trans he) ht hi hdg (fun H1 locs1 hP1 hD1 hS1 => kk H1 locs1 ls (by rw [we_set] at hP1; exact hP1) (by rw [we_set] at hD1; exact hD1) hS1 hl)
theorem e_get {v : Value} (X : CX D tys n ad Z p s m args meth c cc nL own ret) (j : Nat) {a ci : Nat} {fs : List Value} (he : ex[j]? = some (a, .inr (ci, fs))) {C ref : String} {T : u_T} {N index : Nat} (hc : vwCl[ci]? = some (C, T, N)) (hin : ∀ w ∈ u_ws C T N, w ∈ GW) (k : Nat) (hk : k < N) (hlk : Cond.fieldLink own index ref (T k).2.1 (T k).2.2.1 ∈ GW) (hr : (T k).1 = ref) (hv : fs[k]? = some v) (hdg : decode cc pc = .ok (.getfield index, 3)) (pc2 : Nat) (hp : pc + 3 = pc2) (kk : XX D n ad cf p l e R s m args below meth c nL cells slots Q mem ex pc2 lv (v :: st)) : XX D n ad cf p l e R s m args below meth c nL cells slots Q mem ex pc lv (.ref a :: st) := by
  subst hp
  exact fun H locs ls hP hD hS hl => va_get X.1.1 X.1.2.1 X.1.2.2.2.2 hin X.1.2.2.2.1 X.2.2.2.1 hP (n + j) (we_at.trans he) hc k hk (X.1.2.2.2.2 _ hlk) (fun _ h => by rw [hr] at h; exact h) hv hdg (kk H locs ls hP hD hS hl)
theorem e_put {v : Value} (X : CX D tys n ad Z p s m args meth c cc nL own ret) (j : Nat) {a ci : Nat} {fs : List Value} (ex2 : va_W) (he : ex[j]? = some (a, .inr (ci, fs))) {C ref : String} {T : u_T} {N index : Nat} (hc : vwCl[ci]? = some (C, T, N)) (hin : ∀ w ∈ u_ws C T N, w ∈ GW) (ty0 : Nat → FieldType) (hty : ∀ k, k < N → parseFieldDescriptor (T k).2.2.1 = some (ty0 k)) (hnm : ∀ a, a < N → ∀ b, b < N → a ≠ b → (T a).2.1 ≠ (T b).2.1) (k : Nat) (hk : k < N) (hlk : Cond.fieldLink own index ref (T k).2.1 (T k).2.2.1 ∈ GW) (hr : (T k).1 = ref) (hfin : (T k).2.2.2 = false) (hn : narrow (ty0 k) v = v) (hfit : fits (ty0 k) v = true) (hl0 : k < fs.length) (hx : ex.set j (a, .inr (ci, fs.set k v)) = ex2) (hdg : decode cc pc = .ok (.putfield index, 3)) (pc2 : Nat) (hp : pc + 3 = pc2) (kk : XX D n ad cf p l e R s m args below meth c nL cells slots Q mem ex2 pc2 lv st) : XX D n ad cf p l e R s m args below meth c nL cells slots Q mem ex pc lv (v :: .ref a :: st) := by
  subst hp; subst hx
  intro H locs ls hP hD hS hl
  exact va_put X.1.1 X.1.2.1 X.1.2.2.2.2 hin ty0 hty hnm X.1.2.2.2.1 X.2.2.2.1 hP hD hS (n + j) (we_at.trans he) hc k hk (X.1.2.2.2.2 _ hlk) (fun _ h => by rw [hr] at h; exact h) hfin (hty k hk) hn hfit hl0 hdg (fun H1 locs1 hP1 hD1 hS1 => kk H1 locs1 ls (by rw [we_set] at hP1; exact hP1) (by rw [we_set] at hD1; exact hD1) hS1 hl)
/-- checkcast to a row's class, of a place -/
theorem x_castI {nm : String} {index : Nat} (X : CX D tys n ad Z p s m args meth c cc nL own ret) (k : Nat) (hk : k < n) {cA : ClassId} {ty : FieldType} {x : vp_A} {t0 : Nat} (he : ∀ f : Row, ∃ x : vp_A, cf k f = .inl (cA, x)) (ht : tys[t0]? = some (cA, ty)) (hnm : "[" ++ ty.toString = nm) (hlk : Cond.classLink own index nm ∈ GW) (hdg : decode cc pc = .ok (.checkcast index, 3)) (pc2 : Nat) (hp : pc + 3 = pc2) (kk : XX D n ad cf p l e R s m args below meth c nL cells slots Q mem ex pc2 lv (.ref (ad k) :: st)) : XX D n ad cf p l e R s m args below meth c nL cells slots Q mem ex pc lv (.ref (ad k) :: st) := by
  subst hp; subst hnm
  obtain ⟨x, hx⟩ := he (mem k)
  exact fun H locs ls hP hD hS hl => va_castA X.1.1 X.1.2.1 X.1.2.2.2.1 (X.1.2.2.2.2 _ hlk) hP k (by rw [wx_at hk, hx]) (ra_cls (X.2.2.2.1.2 t0 _ ht).2) hdg (kk H locs ls hP hD hS hl)
/-- a new row of ints, or of bytes -/
theorem x_newa {atype : ArrayType} {ty : FieldType} {len : Int32} {N' : Nat} {cT : ClassId} {t0 : Nat} (a0 : vp_A) (X : CX D tys n ad Z p s m args meth c cc nL own ret) (hty : newarray.typeOf atype = ty) (w : Cond.arrayClass ty ∈ GW) (ht : tys[t0]? = some (cT, ty)) (ha : ∀ cA : ClassId, vp_cell cA a0 = arrV cA N' (fun _ => defaultValue ty)) (hn : ¬ len < 0) (hN : len.toNatClampNeg = N') (hbytes : N' * componentBytes ty ≤ 536870912) (hcs : cells + 1 ≤ R.cells ∧ slots + N' ≤ R.slots) (hdg : decode cc pc = .ok (.newarray atype, 2)) (pc2 : Nat) (hp : pc + 2 = pc2) (kk : ∀ q : Nat, s.heap.size ≤ q → XX D n ad cf p l e R s m args below meth c nL (cells + 1) (slots + N') Q mem (ex ++ [(q, .inl (cT, a0))]) pc2 lv (.ref q :: st)) : XX D n ad cf p l e R s m args below meth c nL cells slots Q mem ex pc lv (.int len :: st) := by
  subst hp
  intro H locs ls hP hD hS hl
  refine va_newa (a0 := a0) X.1.1 X.1.2.1 (by rw [hty]; exact X.1.2.2.2.2 _ w) hty X.2.2.2.1 hP hD hS (fun q h => Or.inr h) ha hn hN hbytes hcs.1 hcs.2 hdg (fun q cA H1 hK1 hP1 hD1 hS1 => ?_)
  have e9 := ra_same X.2.2.2.1 ht hK1
  subst e9
  rw [List.append_assoc] at hP1 hD1
  exact kk q (ex_new hD1 (q, _) (List.mem_append_right _ (List.mem_singleton.mpr rfl))) H1 locs ls hP1 hD1 hS1 hl
/-- the law's rows of rows: new ones -/
def exD (ca : Nat → Nat) (q : Nat) (r : Nat → Nat) (w h : Nat) (d : Nat → Nat → Int32) : va_W := (q, .inl (ca 6, w, .inr (.inr (.inr (.inr (fun i => if i < w then some (r i) else none)))))) :: (List.range w).map (fun i => (r i, .inl (ca 0, h, .inl (d i))))
def upD (d : Nat → Nat → Int32) (i j : Nat) (v : Int32) : Nat → Nat → Int32 := fun a b => if a = i then upd (d i) j v b else d a b
theorem exD_0 {ca : Nat → Nat} {q w h : Nat} {r : Nat → Nat} {d : Nat → Nat → Int32} : (exD ca q r w h d)[0]? = some (q, .inl (ca 6, w, .inr (.inr (.inr (.inr (fun i => if i < w then some (r i) else none)))))) := rfl
theorem exD_r {ca : Nat → Nat} {q w h i : Nat} {r : Nat → Nat} {d : Nat → Nat → Int32} (hi : i < w) : (exD ca q r w h d)[1 + i]? = some (r i, .inl (ca 0, h, .inl (d i))) := by
  rw [exD, show 1 + i = i + 1 by omega, List.getElem?_cons_succ, List.getElem?_map, List.getElem?_range hi]
  rfl
theorem exD_s {ca : Nat → Nat} {q w h i j : Nat} {r : Nat → Nat} {d : Nat → Nat → Int32} {v : Int32} (hi : i < w) : (exD ca q r w h d).set (1 + i) (r i, .inl (ca 0, h, .inl (upd (d i) j v))) = exD ca q r w h (upD d i j v) := by
  rw [exD, show 1 + i = i + 1 by omega, List.set_cons_succ]
  refine congrArg (List.cons _) ?_
  have e0 : upD d i j v i = upd (d i) j v := funext (fun b => if_pos rfl)
  have e1 : ∀ k, i ≠ k → upD d i j v k = d k := fun k hk => funext (fun b => if_neg (fun h => hk h.symm))
  apply List.ext_getElem?
  intro k
  rw [List.getElem?_set]
  by_cases hk : k < w
  · rw [List.getElem?_map, List.getElem?_map, List.getElem?_range hk]
    by_cases e : i = k
    · subst e
      rw [if_pos rfl, if_pos (by rw [List.length_map, List.length_range]; exact hi)]
      show some ((r i, .inl (ca 0, h, .inl (upd (d i) j v))) : Nat × va_E) = some (r i, .inl (ca 0, h, .inl (upD d i j v i)))
      rw [e0]
    · rw [if_neg e]
      show some ((r k, .inl (ca 0, h, .inl (d k))) : Nat × va_E) = some (r k, .inl (ca 0, h, .inl (upD d i j v k)))
      rw [e1 k e]
  · have e2 : (List.range w)[k]? = none := List.getElem?_eq_none (by rw [List.length_range]; omega)
    rw [List.getElem?_map, List.getElem?_map, e2]
    by_cases e : i = k
    · omega
    · rw [if_neg e]
      rfl
def vn8 (x : Int32) : Prop := ¬ x < 0 ∧ x.toNatClampNeg ≤ 8
/-- new int[w][h] -/
theorem x_mna {index : Nat} {wI hI : Int32} {ca : Nat → Nat} (X : CX D (tyL ca) n ad Z p s m args meth c cc nL own ret) (hC : Cond.classLink own index "[[I" ∈ GW) (hA : Cond.arrayClass .int ∈ GW) (hO : va_AOA .int s) (hw : vn8 wI) (hh : vn8 hI) (hcs : cells + 9 ≤ R.cells ∧ slots + 72 ≤ R.slots) (hdg : decode cc pc = .ok (.multianewarray index 2, 4)) (pc2 : Nat) (hp : pc + 4 = pc2) (kk : ∀ (q : Nat) (r : Nat → Nat), XX D n ad cf p l e R s m args below meth c nL (cells + 9) (slots + 72) Q mem (ex ++ exD ca q r wI.toNatClampNeg hI.toNatClampNeg (fun _ _ => 0)) pc2 lv (.ref q :: st)) : XX D n ad cf p l e R s m args below meth c nL cells slots Q mem ex pc lv (.int hI :: .int wI :: st) := by
  subst hp
  intro H locs ls hP hD hS hl
  have h0 := ra_cls (X.2.2.2.1.2 0 (ca 0, .int) rfl).2
  have hP0 : va_P D vwCl ((wf n ad cf mem ++ ex) ++ va_pl [] (fun _ => .inr (0, []))) H := by rw [show va_pl [] (fun _ => (.inr (0, []) : va_E)) = [] from rfl, List.append_nil]; exact hP
  have hD0 : va_D (AA n ad s.heap.size) ((wf n ad cf mem ++ ex) ++ va_pl [] (fun _ => .inr (0, []))) := by rw [show va_pl [] (fun _ => (.inr (0, []) : va_E)) = [] from rfl, List.append_nil]; exact hD
  refine va_mna (ty := .int) (z := (hI.toNatClampNeg, .inl (fun _ => 0))) X.1.1 X.1.2.1 X.1.2.2.2.1 (X.1.2.2.2.2 _ hC) hO (X.1.2.2.2.2 _ hA) h0 X.2.2.2.1 hP0 hD0 hS (fun q h => Or.inr h) hw.1 hh.1 rfl rfl (by have := hw.2; omega) (by have := hh.2; show _ * 4 ≤ _; omega) (by have := hh.2; omega) rfl rfl (by have := hw.2; omega) (by
    have a1 := hw.2
    have a2 := hh.2
    have : wI.toNatClampNeg * hI.toNatClampNeg ≤ 8 * 8 := Nat.mul_le_mul a1 a2
    omega) (fun c => ?_) hdg (fun q r cA H1 hr hL hK1 hP1 hD1 hS1 => ?_)
  · exact arrV_new c _ (.int 0)
  · have e9 : cA = ca 6 := ra_same X.2.2.2.1 (t0 := 6) rfl hK1
    subst e9
    have e : ∀ v : va_E, va_pl ([] ++ (List.range wI.toNatClampNeg).map r) (vr_up (fun _ => .inr (0, [])) ((List.range wI.toNatClampNeg).map r) v) = (List.range wI.toNatClampNeg).map (fun i => (r i, v)) := fun v => by
      rw [List.nil_append, va_pl, List.map_map]
      apply List.map_congr_left
      intro i hi
      show (r i, vr_up _ _ v (r i)) = (r i, v)
      rw [vr_up_in (List.mem_map.mpr ⟨i, hi, rfl⟩)]
    rw [e, List.append_assoc, List.append_assoc, List.singleton_append] at hP1 hD1
    refine W.widen (by have := hw.2; omega) (by
      have a1 := hw.2
      have a2 := hh.2
      have : wI.toNatClampNeg * hI.toNatClampNeg ≤ 8 * 8 := Nat.mul_le_mul a1 a2
      omega) (kk q r H1 locs ls hP1 hD1 hS1 hl)
theorem x_callVa {ρ κ : Type} {o : Option κ} {F : κ → Option ρ} {res : ρ} {rty : FieldType} (vr : κ → Nat) (X : CX D tys n ad Z p s m args meth c cc nL own ret) (hZ : ZOK Z) {y : MethodName} {bytes : ByteArray} {nY index na : Nat} {rm : Room} (hF : bd o F = some res) {stk : List Value} (As : List Value) (kb : Nat) (hk : kb < n) {ci : Nat} {fl : Row → List Value} {q : vw_C} (he : ∀ f : Row, cf kb f = .inr (ci, fl f)) (hq : vwCl[ci]? = some q) (hqy : y.cls = q.1) (hs : As.reverse ++ .ref (ad kb) :: st = stk) (b : MB y bytes nY (some rty) na) (w1 : Cond.methodLink own index y ∈ GW) (hM : ∀ r : κ, o = some r → CJa l D tys n ad cf Z y bytes nY rty rm (.ref (ad kb) :: As) mem (vr r)) (hna : As.length = na) (hR : rm.frames + 1 ≤ R.frames ∧ 8 + (nY + 11) + rm.locals ≤ R.locals) (hst : (st.map fun v => v.category).sum ≤ 8) (hcs : cells + rm.cells ≤ R.cells ∧ slots + rm.slots ≤ R.slots) (hdg : decode cc pc = .ok (.invokevirtual index, 3)) (pc2 : Nat) (hp : pc + 3 = pc2) (kk : ∀ r : κ, F r = some res → XX D n ad cf p l e R s m args below meth c nL (cells + rm.cells) (slots + rm.slots) Q mem ex pc2 lv (.ref (vr r) :: st)) : XX D n ad cf p l e R s m args below meth c nL cells slots Q mem ex pc lv stk := by
  subst hp
  subst hs
  obtain ⟨r, ho, hF⟩ := bd_some hF
  intro H locs ls hP hD hS hl
  have hM := hM r ho H.size
  have hbl : FrameBlind (va_Pc (.ref (ad kb) :: As) (PW D tys n ad cf Z mem H.size)) := PW_bl hZ
  have hpre : ∀ U : State, U.heap = H → s.WarmedH U.vm → va_Pc (.ref (ad kb) :: As) (PW D tys n ad cf Z mem H.size) ((.ref (ad kb) :: As) : List Value).toArray U := fun U hU hW => ⟨rfl, PX_of X hZ hP hS hU hW⟩
  obtain ⟨w2, w4, w3, w5, hd⟩ := b
  have hg : GoodIn GW (Cond.code y bytes nY (some rty) :: GW) := gw_cons w5
  have cw : CallW R s args own y.cls index y bytes nY (some rty) (Cond.code y bytes nY (some rty) :: GW) rm rm.cells rm.slots na := ⟨callB_of na X.1.2.2.2.2 hg rfl rfl rfl (X.1.2.2.2.2 _ w3) (X.1.2.2.2.2 _ w1) hd hR, X.1.2.2.2.2 _ w2, X.1.2.2.2.2 _ w4⟩
  have hrv : ∃ cellB : Cell, H[ad kb]? = some cellB ∧ cellB.vm.isStatics = false ∧ s.vm.findClass y.cls = some cellB.cls := by
    rw [hqy]
    exact va_recv X.2.2.2.1 hP hq (q0 := kb) (a := ad kb) (by rw [wx_at hk, he])
  have hr := va_runV (rest := st) X.1 hM cw ⟨hbl, hrv, hpre⟩ (g := F0 m pc ls (As.reverse ++ .ref (ad kb) :: st)) (H := H) (locs := locs) (cells := cells) (slots := slots) (below := below) (e := e) (meth := meth) rfl hna hl.1 rfl (lv_room hst) hdg hcs
  refine va_callr hr hS (fun q _ h => AA_le hS.1 q h) (fun q h => AA_le hS.1 q h) (fun u ra t H1 locs1 ht hvm hw hB hz1 hk1 hS1 => ?_)
  obtain ⟨rfl, hB⟩ := hB
  rw [ht] at hB
  obtain ⟨hP1, hD1⟩ := wx_fr hP hD hB hk1
  exact kk r hF H1 locs1 ls hP1 hD1 hS1 hl
theorem wx_fr2 {D : va_G} {n : Nat} {ad : Nat → Nat} {cf : Nat → Row → va_E} {mem mem2 : Mem} {ex w1 : va_W} {sz : Nat} {H H1 : Heap} (hP : va_P D vwCl (wf n ad cf mem ++ ex) H) (hD : va_D (AA n ad sz) (wf n ad cf mem ++ ex)) (hP1 : va_P D vwCl (wf n ad cf mem2 ++ w1) H1) (hD1 : va_D (AA n ad H.size) (wf n ad cf mem2 ++ w1)) (hN : ∀ q ∈ w1, H.size ≤ q.1) (hsz : sz ≤ H.size) (hk : ∀ q : Nat, q < H.size → ¬ AA n ad H.size q → H1[q]? = H[q]?) : va_P D vwCl (wf n ad cf mem2 ++ (ex ++ w1)) H1 ∧ va_D (AA n ad sz) (wf n ad cf mem2 ++ (ex ++ w1)) := by
  obtain ⟨a1, a2⟩ := wx_fr hP hD (wP_l hP1) hk
  rw [← List.append_assoc]
  have hw : ∀ (k : Nat) (q : Nat × va_E), ((wf n ad cf mem2 ++ ex) ++ w1)[k]? = some q → (wf n ad cf mem2 ++ ex)[k]? = some q ∧ k < n + ex.length ∨ ∃ j, k = n + ex.length + j ∧ w1[j]? = some q := fun k q hq => by
    by_cases h : k < (wf n ad cf mem2 ++ ex).length
    · left
      rw [List.getElem?_append_left h] at hq
      rw [List.length_append, wf_len] at h
      exact ⟨hq, h⟩
    · right
      rw [List.getElem?_append_right (by omega)] at hq
      rw [List.length_append, wf_len] at h hq
      exact ⟨k - (n + ex.length), by omega, hq⟩
  have hlt : ∀ (k : Nat) (q : Nat × va_E), (wf n ad cf mem2 ++ ex)[k]? = some q → q.1 < H.size := fun k q hq => by
    have e : ((wf n ad cf mem2 ++ ex).map Prod.fst)[k]? = some q.1 := by rw [List.getElem?_map, hq]; rfl
    rw [List.map_append, wf_fst mem2 mem, ← List.map_append, List.getElem?_map] at e
    cases h2 : (wf n ad cf mem ++ ex)[k]? with
    | none => rw [h2] at e; cases e
    | some p =>
      rw [h2] at e
      have := (hP k p h2).lt
      rw [← Option.some.inj e]
      exact this
  refine ⟨fun k q hq => ?_, fun i j p q hp hq he => ?_, fun k q hq => ?_⟩
  · rcases hw k q hq with ⟨h, -⟩ | ⟨j, -, h⟩
    · exact a1 k q h
    · exact hP1 (n + j) q (we_at.trans h)
  · rcases hw i p hp with ⟨h1, b1⟩ | ⟨i2, e1, h1⟩ <;> rcases hw j q hq with ⟨h2, b2⟩ | ⟨j2, e2, h2⟩
    · exact a2.1 i j p q h1 h2 he
    · have := hlt i p h1
      have := hN q (List.mem_of_getElem? h2)
      omega
    · have := hlt j q h2
      have := hN p (List.mem_of_getElem? h1)
      omega
    · have := hD1.1 (n + i2) (n + j2) p q (we_at.trans h1) (we_at.trans h2) he
      omega
  · rcases hw k q hq with ⟨h, -⟩ | ⟨j, -, h⟩
    · exact a2.2 k q h
    · right
      have := hN q (List.mem_of_getElem? h)
      omega
theorem x_callVr {ρ κ : Type} {o : Option κ} {F : κ → Option ρ} {res : ρ} {rty : FieldType} (vB : κ → Nat → va_W → Prop) (vm : κ → Mem) (X : CX D tys n ad Z p s m args meth c cc nL own ret) (hZ : ZOK Z) {y : MethodName} {bytes : ByteArray} {nY index na : Nat} {rm : Room} (hF : bd o F = some res) {stk : List Value} (As : List Value) (kb : Nat) (hk : kb < n) {ci : Nat} {fl : Row → List Value} {q : vw_C} (he : ∀ f : Row, cf kb f = .inr (ci, fl f)) (hq : vwCl[ci]? = some q) (hqy : y.cls = q.1) (hs : As.reverse ++ .ref (ad kb) :: st = stk) (b : MB y bytes nY (some rty) na) (w1 : Cond.methodLink own index y ∈ GW) (hM : ∀ r : κ, o = some r → CJr l D tys n ad cf Z y bytes nY rty rm (.ref (ad kb) :: As) mem (vB r) (vm r)) (hna : As.length = na) (hR : rm.frames + 1 ≤ R.frames ∧ 8 + (nY + 11) + rm.locals ≤ R.locals) (hst : (st.map fun v => v.category).sum ≤ 8) (hcs : cells + rm.cells ≤ R.cells ∧ slots + rm.slots ≤ R.slots) (hdg : decode cc pc = .ok (.invokevirtual index, 3)) (pc2 : Nat) (hp : pc + 3 = pc2) (kk : ∀ (r : κ) (a : Nat) (w1 : va_W), F r = some res → vB r a w1 → XX D n ad cf p l e R s m args below meth c nL (cells + rm.cells) (slots + rm.slots) Q (vm r) (ex ++ w1) pc2 lv (.ref a :: st)) : XX D n ad cf p l e R s m args below meth c nL cells slots Q mem ex pc lv stk := by
  subst hp
  subst hs
  obtain ⟨r, ho, hF⟩ := bd_some hF
  intro H locs ls hP hD hS hl
  have hM := hM r ho H.size
  have hbl : FrameBlind (va_Pc (.ref (ad kb) :: As) (PW D tys n ad cf Z mem H.size)) := PW_bl hZ
  have hpre : ∀ U : State, U.heap = H → s.WarmedH U.vm → va_Pc (.ref (ad kb) :: As) (PW D tys n ad cf Z mem H.size) ((.ref (ad kb) :: As) : List Value).toArray U := fun U hU hW => ⟨rfl, PX_of X hZ hP hS hU hW⟩
  obtain ⟨w2, w4, w3, w5, hd⟩ := b
  have hg : GoodIn GW (Cond.code y bytes nY (some rty) :: GW) := gw_cons w5
  have cw : CallW R s args own y.cls index y bytes nY (some rty) (Cond.code y bytes nY (some rty) :: GW) rm rm.cells rm.slots na := ⟨callB_of na X.1.2.2.2.2 hg rfl rfl rfl (X.1.2.2.2.2 _ w3) (X.1.2.2.2.2 _ w1) hd hR, X.1.2.2.2.2 _ w2, X.1.2.2.2.2 _ w4⟩
  have hrv : ∃ cellB : Cell, H[ad kb]? = some cellB ∧ cellB.vm.isStatics = false ∧ s.vm.findClass y.cls = some cellB.cls := by
    rw [hqy]
    exact va_recv X.2.2.2.1 hP hq (q0 := kb) (a := ad kb) (by rw [wx_at hk, he])
  have hr := va_runV (rest := st) X.1 hM cw ⟨hbl, hrv, hpre⟩ (g := F0 m pc ls (As.reverse ++ .ref (ad kb) :: st)) (H := H) (locs := locs) (cells := cells) (slots := slots) (below := below) (e := e) (meth := meth) rfl hna hl.1 rfl (lv_room hst) hdg hcs
  refine va_callr hr hS (fun q _ h => AA_le hS.1 q h) (fun q h => AA_le hS.1 q h) (fun u ra t H1 locs1 ht hvm hw hB hz1 hk1 hS1 => ?_)
  obtain ⟨rfl, hB, hDB, hNB⟩ := hB
  rw [ht] at hB
  obtain ⟨hP1, hD1⟩ := wx_fr2 hP hD hB hDB hNB hS.1 hk1
  exact kk r u.1 u.2 hF hw H1 locs1 ls hP1 hD1 hS1 hl
theorem x_callFi {ρ κ : Type} {o : Option κ} {F : κ → Option ρ} {res : ρ} {rty : FieldType} (vx : κ → Int32) (vm : κ → Mem) (X : CX D tys n ad Z p s m args meth c cc nL own ret) (hZ : ZOK Z) {x y : MethodName} {count : Nat} {bytes : ByteArray} {nY index na : Nat} {rm : Room} (hF : bd o F = some res) {stk : List Value} (As : List Value) (kb : Nat) (hk : kb < n) {ci : Nat} {fl : Row → List Value} {q : vw_C} (he : ∀ f : Row, cf kb f = .inr (ci, fl f)) (hq : vwCl[ci]? = some q)  (hs : As.reverse ++ .ref (ad kb) :: st = stk) (b : FB q.1 x y bytes nY (some rty) na) (w1 : Cond.methodLink own index x ∈ GW) (hFw : va_Fw q.1 x y s) (hM : ∀ r : κ, o = some r → CJ l D tys n ad cf Z y bytes nY rty rm (.ref (ad kb) :: As) mem (vx r) (vm r)) (hna : As.length = na) (hR : rm.frames + 1 ≤ R.frames ∧ 8 + (nY + 11) + rm.locals ≤ R.locals) (hst : (st.map fun v => v.category).sum ≤ 8) (hcs : cells + rm.cells ≤ R.cells ∧ slots + rm.slots ≤ R.slots) (hdg : decode cc pc = .ok (.invokeinterface index count, 5)) (pc2 : Nat) (hp : pc + 5 = pc2) (kk : ∀ r : κ, F r = some res → XX D n ad cf p l e R s m args below meth c nL (cells + rm.cells) (slots + rm.slots) Q (vm r) ex pc2 lv (.int (vx r) :: st)) : XX D n ad cf p l e R s m args below meth c nL cells slots Q mem ex pc lv stk := by
  subst hp
  subst hs
  obtain ⟨r, ho, hF⟩ := bd_some hF
  intro H locs ls hP hD hS hl
  have hM := hM r ho H.size
  have hbl : FrameBlind (va_Pc (.ref (ad kb) :: As) (PW D tys n ad cf Z mem H.size)) := PW_bl hZ
  have hpre : ∀ U : State, U.heap = H → s.WarmedH U.vm → va_Pc (.ref (ad kb) :: As) (PW D tys n ad cf Z mem H.size) ((.ref (ad kb) :: As) : List Value).toArray U := fun U hU hW => ⟨rfl, PX_of X hZ hP hS hU hW⟩
  obtain ⟨w4, w2, w3, w5, hd⟩ := b
  have hg : GoodIn GW (va_wsF own index q.1 x y (Cond.code y bytes nY (some rty) :: GW)) := fun w hw => by
    have hg0 : GoodIn GW (Cond.code y bytes nY (some rty) :: GW) := gw_cons w5
    rcases List.mem_append.mp hw with h | h
    · simp only [List.mem_cons, List.not_mem_nil, or_false] at h
      rcases h with h | h | h | h
      · rw [h]; exact ⟨w1, gw_good w1⟩
      · rw [h]; exact ⟨w4, gw_good w4⟩
      · rw [h]; exact ⟨w2, gw_good w2⟩
      · rw [h]; exact ⟨w3, gw_good w3⟩
    · exact hg0 w h
  have cw : va_CI R s args own q.1 index x y bytes nY (some rty) (Cond.code y bytes nY (some rty) :: GW) rm rm.cells rm.slots na := va_cwF na X.1.2.2.2.2 hg rfl rfl rfl hFw hd hR
  have hrv : ∃ cellB : Cell, H[ad kb]? = some cellB ∧ cellB.vm.isStatics = false ∧ s.vm.findClass q.1 = some cellB.cls := va_recv X.2.2.2.1 hP hq (q0 := kb) (a := ad kb) (by rw [wx_at hk, he])
  have hr := va_runF (rest := st) (X.2.2.2.1.1 ci q hq).2 X.1 hM cw ⟨hbl, hrv, hpre⟩ (g := F0 m pc ls (As.reverse ++ .ref (ad kb) :: st)) (H := H) (locs := locs) (cells := cells) (slots := slots) (below := below) (e := e) (meth := meth) rfl hna hl.1 rfl (lv_room hst) hdg hcs
  refine va_callFi hr hS (fun q _ h => AA_le hS.1 q h) (fun q h => AA_le hS.1 q h) (fun x u t H1 locs1 ht hvm hw hB hz1 hk1 hS1 => ?_)
  obtain ⟨rfl, -⟩ := hw
  rw [ht] at hB
  obtain ⟨hP1, hD1⟩ := wx_fr hP hD hB hk1
  exact kk r hF H1 locs1 ls hP1 hD1 hS1 hl
theorem x_callFa {ρ κ : Type} {o : Option κ} {F : κ → Option ρ} {res : ρ} {rty : FieldType} (vr : κ → Nat) (X : CX D tys n ad Z p s m args meth c cc nL own ret) (hZ : ZOK Z) {x y : MethodName} {count : Nat} {bytes : ByteArray} {nY index na : Nat} {rm : Room} (hF : bd o F = some res) {stk : List Value} (As : List Value) (kb : Nat) (hk : kb < n) {ci : Nat} {fl : Row → List Value} {q : vw_C} (he : ∀ f : Row, cf kb f = .inr (ci, fl f)) (hq : vwCl[ci]? = some q)  (hs : As.reverse ++ .ref (ad kb) :: st = stk) (b : FB q.1 x y bytes nY (some rty) na) (w1 : Cond.methodLink own index x ∈ GW) (hFw : va_Fw q.1 x y s) (hM : ∀ r : κ, o = some r → CJa l D tys n ad cf Z y bytes nY rty rm (.ref (ad kb) :: As) mem (vr r)) (hna : As.length = na) (hR : rm.frames + 1 ≤ R.frames ∧ 8 + (nY + 11) + rm.locals ≤ R.locals) (hst : (st.map fun v => v.category).sum ≤ 8) (hcs : cells + rm.cells ≤ R.cells ∧ slots + rm.slots ≤ R.slots) (hdg : decode cc pc = .ok (.invokeinterface index count, 5)) (pc2 : Nat) (hp : pc + 5 = pc2) (kk : ∀ r : κ, F r = some res → XX D n ad cf p l e R s m args below meth c nL (cells + rm.cells) (slots + rm.slots) Q mem ex pc2 lv (.ref (vr r) :: st)) : XX D n ad cf p l e R s m args below meth c nL cells slots Q mem ex pc lv stk := by
  subst hp
  subst hs
  obtain ⟨r, ho, hF⟩ := bd_some hF
  intro H locs ls hP hD hS hl
  have hM := hM r ho H.size
  have hbl : FrameBlind (va_Pc (.ref (ad kb) :: As) (PW D tys n ad cf Z mem H.size)) := PW_bl hZ
  have hpre : ∀ U : State, U.heap = H → s.WarmedH U.vm → va_Pc (.ref (ad kb) :: As) (PW D tys n ad cf Z mem H.size) ((.ref (ad kb) :: As) : List Value).toArray U := fun U hU hW => ⟨rfl, PX_of X hZ hP hS hU hW⟩
  obtain ⟨w4, w2, w3, w5, hd⟩ := b
  have hg : GoodIn GW (va_wsF own index q.1 x y (Cond.code y bytes nY (some rty) :: GW)) := fun w hw => by
    have hg0 : GoodIn GW (Cond.code y bytes nY (some rty) :: GW) := gw_cons w5
    rcases List.mem_append.mp hw with h | h
    · simp only [List.mem_cons, List.not_mem_nil, or_false] at h
      rcases h with h | h | h | h
      · rw [h]; exact ⟨w1, gw_good w1⟩
      · rw [h]; exact ⟨w4, gw_good w4⟩
      · rw [h]; exact ⟨w2, gw_good w2⟩
      · rw [h]; exact ⟨w3, gw_good w3⟩
    · exact hg0 w h
  have cw : va_CI R s args own q.1 index x y bytes nY (some rty) (Cond.code y bytes nY (some rty) :: GW) rm rm.cells rm.slots na := va_cwF na X.1.2.2.2.2 hg rfl rfl rfl hFw hd hR
  have hrv : ∃ cellB : Cell, H[ad kb]? = some cellB ∧ cellB.vm.isStatics = false ∧ s.vm.findClass q.1 = some cellB.cls := va_recv X.2.2.2.1 hP hq (q0 := kb) (a := ad kb) (by rw [wx_at hk, he])
  have hr := va_runF (rest := st) (X.2.2.2.1.1 ci q hq).2 X.1 hM cw ⟨hbl, hrv, hpre⟩ (g := F0 m pc ls (As.reverse ++ .ref (ad kb) :: st)) (H := H) (locs := locs) (cells := cells) (slots := slots) (below := below) (e := e) (meth := meth) rfl hna hl.1 rfl (lv_room hst) hdg hcs
  refine va_callFr hr hS (fun q _ h => AA_le hS.1 q h) (fun q h => AA_le hS.1 q h) (fun u ra t H1 locs1 ht hvm hw hB hz1 hk1 hS1 => ?_)
  obtain ⟨rfl, hB⟩ := hB
  rw [ht] at hB
  obtain ⟨hP1, hD1⟩ := wx_fr hP hD hB hk1
  exact kk r hF H1 locs1 ls hP1 hD1 hS1 hl
theorem x_callSi {ρ κ : Type} {o : Option κ} {F : κ → Option ρ} {res : ρ} {rty : FieldType} (vx : κ → Int32) (vm : κ → Mem) (X : CX D tys n ad Z p s m args meth c cc nL own ret) (hZ : ZOK Z) {y : MethodName} {bytes : ByteArray} {nY index na : Nat} {rm : Room} (hF : bd o F = some res) {stk : List Value} (As : List Value) (hs : As.reverse ++ st = stk) (b : SB y bytes nY (some rty) na) (w1 : Cond.methodLink own index y ∈ GW) (hM : ∀ r : κ, o = some r → CJ l D tys n ad cf Z y bytes nY rty rm As mem (vx r) (vm r)) (hna : As.length = na) (hR : rm.frames + 1 ≤ R.frames ∧ 8 + (nY + 11) + rm.locals ≤ R.locals) (hst : (st.map fun v => v.category).sum ≤ 8) (hcs : cells + rm.cells ≤ R.cells ∧ slots + rm.slots ≤ R.slots) (hdg : decode cc pc = .ok (.invokestatic index, 3)) (pc2 : Nat) (hp : pc + 3 = pc2) (kk : ∀ r : κ, F r = some res → XX D n ad cf p l e R s m args below meth c nL (cells + rm.cells) (slots + rm.slots) Q (vm r) ex pc2 lv (.int (vx r) :: st)) : XX D n ad cf p l e R s m args below meth c nL cells slots Q mem ex pc lv stk := by
  subst hp
  subst hs
  obtain ⟨r, ho, hF⟩ := bd_some hF
  intro H locs ls hP hD hS hl
  have hM := hM r ho H.size
  have hbl : FrameBlind (va_Pc As (PW D tys n ad cf Z mem H.size)) := PW_bl hZ
  have hpre : ∀ U : State, U.heap = H → s.WarmedH U.vm → va_Pc As (PW D tys n ad cf Z mem H.size) (As : List Value).toArray U := fun U hU hW => ⟨rfl, PX_of X hZ hP hS hU hW⟩
  obtain ⟨w2, w3, w5, hd⟩ := b
  have hg : GoodIn GW (Cond.code y bytes nY (some rty) :: GW) := gw_cons w5
  have cw : CallB R s args own index y bytes nY (some rty) (Cond.code y bytes nY (some rty) :: GW) rm rm.cells rm.slots na ∧ (Cond.static y).before args s = true := ⟨callB_of na X.1.2.2.2.2 hg rfl rfl rfl (X.1.2.2.2.2 _ w3) (X.1.2.2.2.2 _ w1) hd hR, X.1.2.2.2.2 _ w2⟩
  have hr := va_runS (rest := st) X.1 hM cw ⟨hbl, hpre⟩ (g := F0 m pc ls (As.reverse ++ st)) (H := H) (locs := locs) (cells := cells) (slots := slots) (below := below) (e := e) (meth := meth) rfl hna hl.1 rfl (lv_room hst) hdg hcs
  refine va_calli hr hS (fun q _ h => AA_le hS.1 q h) (fun q h => AA_le hS.1 q h) (fun x u t H1 locs1 ht hvm hw hB hz1 hk1 hS1 => ?_)
  obtain ⟨rfl, -⟩ := hw
  rw [ht] at hB
  obtain ⟨hP1, hD1⟩ := wx_fr hP hD hB hk1
  exact kk r hF H1 locs1 ls hP1 hD1 hS1 hl
theorem x_callNi {ρ κ : Type} {o : Option κ} {F : κ → Option ρ} {res : ρ} {rty : FieldType} (vx : κ → Int32) (vm : κ → Mem) (X : CX D tys n ad Z p s m args meth c cc nL own ret) (hZ : ZOK Z) {y : MethodName} {bytes : ByteArray} {nY index na : Nat} {rm : Room} {host : String} (hF : bd o F = some res) {stk : List Value} (As : List Value) (hs : As.reverse ++ st = stk) (b : SB y bytes nY (some rty) na) (w1 : va_Nw (.methodLinkNest own index y host) s) (hM : ∀ r : κ, o = some r → CJ l D tys n ad cf Z y bytes nY rty rm As mem (vx r) (vm r)) (hna : As.length = na) (hR : rm.frames + 1 ≤ R.frames ∧ 8 + (nY + 11) + rm.locals ≤ R.locals) (hst : (st.map fun v => v.category).sum ≤ 8) (hcs : cells + rm.cells ≤ R.cells ∧ slots + rm.slots ≤ R.slots) (hdg : decode cc pc = .ok (.invokestatic index, 3)) (pc2 : Nat) (hp : pc + 3 = pc2) (kk : ∀ r : κ, F r = some res → XX D n ad cf p l e R s m args below meth c nL (cells + rm.cells) (slots + rm.slots) Q (vm r) ex pc2 lv (.int (vx r) :: st)) : XX D n ad cf p l e R s m args below meth c nL cells slots Q mem ex pc lv stk := by
  subst hp
  subst hs
  obtain ⟨r, ho, hF⟩ := bd_some hF
  intro H locs ls hP hD hS hl
  have hM := hM r ho H.size
  have hbl : FrameBlind (va_Pc As (PW D tys n ad cf Z mem H.size)) := PW_bl hZ
  have hpre : ∀ U : State, U.heap = H → s.WarmedH U.vm → va_Pc As (PW D tys n ad cf Z mem H.size) (As : List Value).toArray U := fun U hU hW => ⟨rfl, PX_of X hZ hP hS hU hW⟩
  obtain ⟨w2, w3, w5, hd⟩ := b
  have hg : GoodIn GW (Cond.code y bytes nY (some rty) :: GW) := gw_cons w5
  have cw : va_CN R s args own index y host bytes nY (some rty) (Cond.code y bytes nY (some rty) :: GW) rm rm.cells rm.slots na ∧ (Cond.static y).before args s = true ∧ True := ⟨va_cnB na X.1.2.2.2.2 hg rfl rfl rfl w1 (X.1.2.2.2.2 _ w3) hd hR, X.1.2.2.2.2 _ w2, trivial⟩
  have hr := va_runSN (rest := st) X.1 hM cw ⟨hbl, hpre⟩ (g := F0 m pc ls (As.reverse ++ st)) (H := H) (locs := locs) (cells := cells) (slots := slots) (below := below) (e := e) (meth := meth) rfl hna hl.1 rfl (lv_room hst) hdg hcs
  refine va_calli hr hS (fun q _ h => AA_le hS.1 q h) (fun q h => AA_le hS.1 q h) (fun x u t H1 locs1 ht hvm hw hB hz1 hk1 hS1 => ?_)
  obtain ⟨rfl, -⟩ := hw
  rw [ht] at hB
  obtain ⟨hP1, hD1⟩ := wx_fr hP hD hB hk1
  exact kk r hF H1 locs1 ls hP1 hD1 hS1 hl
theorem x_anull (X : CX D tys n ad Z p s m args meth c cc nL own ret) (hdg : decode cc pc = .ok (.aconst_null, 1)) (pc2 : Nat) (hp : pc + 1 = pc2) (kk : XX D n ad cf p l e R s m args below meth c nL cells slots Q mem ex pc2 lv (.null :: st)) : XX D n ad cf p l e R s m args below meth c nL cells slots Q mem ex pc lv st := by
  subst hp
  exact fun H locs ls hP hD hS hl => lv_null X.1.1 X.1.2.1 hdg (kk H locs ls hP hD hS hl)
theorem x_dup_x1 {u v : Value} (X : CX D tys n ad Z p s m args meth c cc nL own ret) (hdg : decode cc pc = .ok (.dup_x1, 1)) (hu : u.category = 1) (hv : v.category = 1) (pc2 : Nat) (hp : pc + 1 = pc2) (kk : XX D n ad cf p l e R s m args below meth c nL cells slots Q mem ex pc2 lv (u :: v :: u :: st)) : XX D n ad cf p l e R s m args below meth c nL cells slots Q mem ex pc lv (u :: v :: st) := by
  subst hp
  exact fun H locs ls hP hD hS hl => lv_dup_x1 X.1.1 X.1.2.1 hdg hu hv (kk H locs ls hP hD hS hl)
theorem x_letd {ca : Nat → Nat} {q w h : Nat} {r : Nat → Nat} {d : Nat → Nat → Int32} {ρ : Type} {F : (Nat → Nat → Int32) → Option ρ} {res : ρ} (hF : lt_ d F = some res) (kk : ∀ d : Nat → Nat → Int32, F d = some res → XX D n ad cf p l e R s m args below meth c nL cells slots Q mem (exD ca q r w h d) pc lv st) : XX D n ad cf p l e R s m args below meth c nL cells slots Q mem (exD ca q r w h d) pc lv st := kk d hF
def g8 {α : Type} (x : Int32) (o : Option α) : Option α := if ¬ x < 0 ∧ x.toNatClampNeg ≤ 8 then o else none
theorem g8_some {α : Type} {x : Int32} {o : Option α} {r : α} (h : g8 x o = some r) : vn8 x ∧ o = some r := by
  unfold g8 at h
  split at h
  · exact ⟨by assumption, h⟩
  · cases h
theorem x_g8 {ρ : Type} {o : Option ρ} {res : ρ} {x : Int32} (hF : g8 x o = some res) (kk : vn8 x → o = some res → XX D n ad cf p l e R s m args below meth c nL cells slots Q mem ex pc lv st) : XX D n ad cf p l e R s m args below meth c nL cells slots Q mem ex pc lv st := kk (g8_some hF).1 (g8_some hF).2

end XXE
