section GHE
/-- a letter of the text, a blank behind it -/
def fch (tx : List Nat) (i : Nat) : Int32 := nI (tx.getD i 32)
/-- the five words of the letters from k on, i of them -/
def fW (tx : List Nat) (k : Nat) : Nat → Nat → Int32
  | 0 => fun _ => 0
  | i + 1 => upd (fW tx k i) (i / 4) ((fW tx k i (i / 4) <<< ((8 : Int32) &&& 31)) ||| fch tx (k + i))
def KL_feedL (fu : Nat) (tx : List Nat) : Nat → Nat → Int32 → Mem → Option (Int32 × Mem)
  | 0, _, _, _ => none
  | f + 1, k, got, mem => if k < tx.length then bdT (K_X11_feed fu (fW tx k 20 0) (fW tx k 20 1) (fW tx k 20 2) (fW tx k 20 3) (fW tx k 20 4) mem) (fun x m => KL_feedL fu tx f (k + 20) x (mset 0 255 mem m)) else if tx.length = 0 then some (1, mem) else if got < nI tx.length then some (0, mem) else bdT (K_X11_truncate fu (nI tx.length) mem) (fun x m => if x = nI tx.length then some (1, mset 0 255 mem m) else some (0, mset 0 255 mem m))
def KL_feeds (fu : Nat) (tx : List Nat) (mem : Mem) : Option (Int32 × Mem) := KL_feedL fu tx 21 0 0 mem
def rl_feeds : Room := { frames := 30, cells := 90, slots := 520, locals := 900 }
variable {D : va_G} {ca ad : Nat → Nat} {np nb eD tS sB : Nat} {Z : (Nat → Prop) → State → Heap → Prop} {tA tU L tO : Nat} {xs : Nat → Int32} {sK sV : Nat → Nat}
theorem q_z0 {A : Nat → Prop} {p : Program} {l : Launch} {e : Env} {R rm : Room} {s : State} {m : MethodId} {args : Array Value} {below : List Frame} {meth : Method} {c : Code} {nL : Nat} {cells slots : Nat} {Q : State → Prop} {ws : va_W} {pc : Nat} {lv : List (Nat × Value)} {st : List Value} (h1 : rm.cells = 0) (h2 : rm.slots = 0) (kk : NN D A p l e R s m args below meth c nL cells slots Q ws pc lv st) : NN D A p l e R s m args below meth c nL (cells + rm.cells) (slots + rm.slots) Q ws pc lv st := by
  rw [h1, h2]
  exact kk
theorem cn_of {tys : List (ClassId × FieldType)} {n : Nat} {p : Program} {s : State} {m : MethodId} {args : Array Value} {meth : Method} {c : Code} {cc : ByteArray} {nL : Nat} {own : String} {ret : Option FieldType} (X : CX D tys n ad Z p s m args meth c cc nL own ret) : CN D tys (AA n ad s.heap.size) Z p s m args meth c cc nL own ret := ⟨X.1, X.2.1, X.2.2.1, X.2.2.2.1, fun q h => Or.inr h, X.2.2.2.2.2⟩
set_option maxRecDepth 100000 in
theorem fd_in (l : Launch) (hl : l.stackTraces = false) (hZ : ZOK Z) (hX : ZX Z) (hO : ZO Z tO sK sV) {fu : Nat} {tx : List Nat} {a v0 : Nat} {g : Nat → Int32} {mem : Mem} (hT : ∀ A U H, Z A U H → zt a v0 tx.length g A U H) (hgc : ∀ j c, tx[j]? = some c → g j = nI c) (hc : ∀ c ∈ tx, c < 128) (hn : tx.length ≤ 400) {p : Program} {e : Env} {s : State} {m : MethodId} {args : Array Value} {below : List Frame} {meth : Method} {c : Code} {Q : State → Prop} (XC : CX D (tyL ca) (255 + nW np nb) ad Z p s m args meth c cL_feeds 6 RL (some .boolean)) {w k : Nat} {got : Int32} {cells slots : Nat} (hk : k ≤ 400) (hcs : cells ≤ rl_feeds.cells ∧ slots ≤ rl_feeds.slots) (kk : NN D (AA (255 + nW np nb) ad s.heap.size) p l e rl_feeds s m args below meth c 6 cells slots Q (wf (255 + nW np nb) ad (cJ ca ad np nb eD tS sB) mem ++ [(w, .inl (ca 0, 5, .inl (fW tx k 20)))]) 75 [(5, .int (nI 20)), (4, .ref w), (3, .int (nI k)), (2, .int got), (0, .ref (ad 0)), (1, .ref a)] []) : ∀ j i, i + j = 20 → NN D (AA (255 + nW np nb) ad s.heap.size) p l e rl_feeds s m args below meth c 6 cells slots Q (wf (255 + nW np nb) ad (cJ ca ad np nb eD tS sB) mem ++ [(w, .inl (ca 0, 5, .inl (fW tx k i)))]) 20 [(5, .int (nI i)), (4, .ref w), (3, .int (nI k)), (2, .int got), (0, .ref (ad 0)), (1, .ref a)] [] := by
  have hTX := hT _ _ _ XC.2.2.2.2.2
  have X := cn_of XC
  intro j
  induction j with
  | zero =>
    intro i hij
    have hi20 : i = 20 := by omega
    refine q_iload X 0 dL_feeds_20 rfl 22 rfl ?_
    refine q_bipush X 20 dL_feeds_22 rfl 24 rfl ?_
    refine q_icmp_ge (A1 := none) (B1 := some ()) (res := ()) X (if_neg (by subst hi20; decide)) 75 27 dL_feeds_24 (by decide) rfl (fun z => nomatch z) (fun _ => ?_)
    subst hi20
    exact kk
  | succ j ih =>
    intro i hij
    have hi : i < 20 := by omega
    refine q_iload X 0 dL_feeds_20 rfl 22 rfl ?_
    refine q_bipush X 20 dL_feeds_22 rfl 24 rfl ?_
    refine q_icmp_ge (A1 := some ()) (B1 := none) (res := ()) X (if_pos (nI_lt (b := 20) hi (by decide))) 75 27 dL_feeds_24 (by decide) rfl (fun _ => ?_) (fun z => nomatch z)
    refine q_aload X 1 dL_feeds_27 rfl 29 rfl ?_
    refine q_iload X 0 dL_feeds_29 rfl 31 rfl ?_
    refine q_iconst X 4 dL_feeds_31 rfl 32 rfl ?_
    refine q_idiv X (by decide) dL_feeds_32 33 rfl ?_
    refine q_as (nI (i / 4)) (pk_div (a := i) (d := 4) (by omega) (by decide) (by decide)) ?_
    refine q_aload X 1 dL_feeds_33 rfl 35 rfl ?_
    refine q_iload X 0 dL_feeds_35 rfl 37 rfl ?_
    refine q_iconst X 4 dL_feeds_37 rfl 38 rfl ?_
    refine q_idiv X (by decide) dL_feeds_38 39 rfl ?_
    refine q_as (nI (i / 4)) (pk_div (a := i) (d := 4) (by omega) (by decide) (by decide)) ?_
    refine ya_ial (t0 := 0) (iN := i / 4) X (fW tx k i (i / 4)) rfl rfl (by omega) (by decide) rfl dL_feeds_39 40 rfl ?_
    refine q_bipush X 8 dL_feeds_40 rfl 42 rfl ?_
    refine q_ishl X dL_feeds_42 43 rfl ?_
    refine q_iload_n X 2 dL_feeds_43 rfl rfl 44 rfl ?_
    refine q_iload X 0 dL_feeds_44 rfl 46 rfl ?_
    refine q_iadd X dL_feeds_46 47 rfl ?_
    refine q_as (nI (k + i)) (nI_add _ _) ?_
    refine q_aload_n X 5 dL_feeds_47 rfl rfl 48 rfl ?_
    refine q_callT (rm := rmT1) (wc := []) X hZ [] _ rfl hTX rfl rfl kB_J0_length_8abf5 kL_L_15 (cl_len hZ hO hT (by omega)) rfl ⟨Nat.le_of_ble_eq_true rfl, Nat.le_of_ble_eq_true rfl⟩ (Nat.le_of_ble_eq_true rfl) ⟨hcs.1, hcs.2⟩ dL_feeds_48 51 rfl ?_
    intro v w1 hq
    obtain ⟨rfl, rfl⟩ := hq
    rw [List.nil_append]
    refine q_z0 rfl rfl ?_
    by_cases hlt : k + i < tx.length
    · refine q_icmp_ge (A1 := some ()) (B1 := none) (res := ()) X (if_pos (nI_lt hlt (by omega))) 65 54 dL_feeds_51 (by decide) rfl (fun _ => ?_) (fun z => nomatch z)
      refine q_aload_n X 5 dL_feeds_54 rfl rfl 55 rfl ?_
      refine q_iload_n X 2 dL_feeds_55 rfl rfl 56 rfl ?_
      refine q_iload X 0 dL_feeds_56 rfl 58 rfl ?_
      refine q_iadd X dL_feeds_58 59 rfl ?_
      refine q_as (nI (k + i)) (nI_add _ _) ?_
      obtain ⟨cc0, hcc⟩ : ∃ cc0, tx[k + i]? = some cc0 := ⟨_, List.getElem?_eq_getElem hlt⟩
      refine q_callT (rm := rmTe) (wc := []) X hZ [.int (nI (k + i))] _ rfl hTX rfl rfl kB_J0_charAt_5068e kL_L_21 (cl_cha hZ hO hT (by omega) hlt (hgc _ _ hcc) (hc _ (List.mem_of_getElem? hcc))) rfl ⟨Nat.le_of_ble_eq_true rfl, Nat.le_of_ble_eq_true rfl⟩ (Nat.le_of_ble_eq_true rfl) ⟨hcs.1, hcs.2⟩ dL_feeds_59 62 rfl ?_
      intro v w1 hq
      obtain ⟨rfl, rfl⟩ := hq
      rw [List.nil_append]
      refine q_z0 rfl rfl ?_
      refine q_goto X 67 dL_feeds_62 (by decide) ?_
      refine q_ior X dL_feeds_67 68 rfl ?_
      rw [show nI cc0 = fch tx (k + i) by unfold fch; rw [List.getD_eq_getElem?_getD, hcc]; rfl]
      refine ya_ias (t0 := 0) (iN := i / 4) X rfl rfl (by omega) (by decide) dL_feeds_68 69 rfl ?_
      refine q_iinc X 0 (nI (i + 1)) [(5, .int (nI (i + 1))), (4, .ref w), (3, .int (nI k)), (2, .int got), (0, .ref (ad 0)), (1, .ref a)] dL_feeds_69 rfl (nI_1 _) (by decide) rfl 72 rfl ?_
      refine q_goto X 20 dL_feeds_72 (by decide) ?_
      exact ih (i + 1) (by omega)
    · refine q_icmp_ge (A1 := none) (B1 := some ()) (res := ()) X (if_neg (nI_nlt (by omega) (by omega))) 65 54 dL_feeds_51 (by decide) rfl (fun z => nomatch z) (fun _ => ?_)
      refine q_bipush X 32 dL_feeds_65 rfl 67 rfl ?_
      refine q_ior X dL_feeds_67 68 rfl ?_
      rw [show (32 : Int32) = fch tx (k + i) by unfold fch; rw [List.getD_eq_getElem?_getD, List.getElem?_eq_none (by omega)]; rfl]
      refine ya_ias (t0 := 0) (iN := i / 4) X rfl rfl (by omega) (by decide) dL_feeds_68 69 rfl ?_
      refine q_iinc X 0 (nI (i + 1)) [(5, .int (nI (i + 1))), (4, .ref w), (3, .int (nI k)), (2, .int got), (0, .ref (ad 0)), (1, .ref a)] dL_feeds_69 rfl (nI_1 _) (by decide) rfl 72 rfl ?_
      refine q_goto X 20 dL_feeds_72 (by decide) ?_
      exact ih (i + 1) (by omega)
set_option maxRecDepth 100000 in
theorem fd_out (l : Launch) (hl : l.stackTraces = false) (hZ : ZOK Z) (hX : ZX Z) (hO : ZO Z tO sK sV) {fu : Nat} {tx : List Nat} {a v0 : Nat} {g : Nat → Int32} {mem : Mem} (hT : ∀ A U H, Z A U H → zt a v0 tx.length g A U H) (hgc : ∀ j c, tx[j]? = some c → g j = nI c) (hc : ∀ c ∈ tx, c < 128) (hn : tx.length ≤ 400) {p : Program} {e : Env} {s : State} {m : MethodId} {args : Array Value} {below : List Frame} {meth : Method} {c : Code} {Q : State → Prop} (XC : CX D (tyL ca) (255 + nW np nb) ad Z p s m args meth c cL_feeds 6 RL (some .boolean)) {res : Int32 × Mem} (hQ : Q = MQ below (va_Qi (fun (r : Int32) (u : Unit) => r = res.1 ∧ u = ()) (fun _ t => va_P D vwCl (wf (255 + nW np nb) ad (cJ ca ad np nb eD tS sB) res.2) t.heap) (AA (255 + nW np nb) ad s.heap.size)) args s rl_feeds.cells rl_feeds.slots (AA (255 + nW np nb) ad s.heap.size)) : ∀ (f : Nat) {k : Nat} {got : Int32} {mem : Mem} {cells slots : Nat}, k ≤ 420 → KL_feedL fu tx f k got mem = some res → cells + f * 4 ≤ 87 → slots + f * 23 ≤ 500 → NN D (AA (255 + nW np nb) ad s.heap.size) p l e rl_feeds s m args below meth c 6 cells slots Q (wf (255 + nW np nb) ad (cJ ca ad np nb eD tS sB) mem) 4 [(3, .int (nI k)), (2, .int got), (0, .ref (ad 0)), (1, .ref a)] [] := by
  have hTX := hT _ _ _ XC.2.2.2.2.2
  have X := cn_of XC
  intro f
  induction f with
  | zero =>
    intro k got mem cells slots hk4 hF
    cases hF
  | succ f ih =>
    intro k got mem cells slots hk4 hF hc1 hc2
    rw [KL_feedL] at hF
    refine q_iload_n X 0 dL_feeds_4 rfl rfl 5 rfl ?_
    refine q_aload_n X 3 dL_feeds_5 rfl rfl 6 rfl ?_
    refine q_callT (rm := rmT1) (wc := []) X hZ [] _ rfl hTX rfl rfl kB_J0_length_8abf5 kL_L_15 (cl_len hZ hO hT (by omega)) rfl ⟨Nat.le_of_ble_eq_true rfl, Nat.le_of_ble_eq_true rfl⟩ (Nat.le_of_ble_eq_true rfl) ⟨by show _ + 0 ≤ 90; omega, by show _ + 0 ≤ 520; omega⟩ dL_feeds_6 9 rfl ?_
    intro v w1 hq
    obtain ⟨rfl, rfl⟩ := hq
    rw [List.nil_append]
    refine q_z0 rfl rfl ?_
    by_cases hk : k < tx.length
    · rw [if_pos hk] at hF
      obtain ⟨x, m1, hr, hF⟩ := bdT_some hF
      refine q_icmp_ge (A1 := some ()) (B1 := none) (res := ()) X (if_pos (nI_lt hk (by omega))) 106 12 dL_feeds_9 (by decide) rfl (fun _ => ?_) (fun z => nomatch z)
      refine q_iconst X 5 dL_feeds_12 rfl 13 rfl ?_
      refine n_newa (atype := .int) (ty := .int) (t0 := 0) (N' := 5) (5, .inl (fun _ => 0)) X rfl kA_int rfl (fun _ => rfl) (by decide) (by decide) (by decide) ⟨by show cells + 0 + 1 ≤ 90; omega, by show slots + 0 + 5 ≤ 520; omega⟩ dL_feeds_13 15 rfl ?_
      intro w
      refine q_astore X [(4, .ref w), (3, .int (nI k)), (2, .int got), (0, .ref (ad 0)), (1, .ref a)] dL_feeds_15 (by decide) rfl 17 rfl ?_
      refine q_iconst X 0 dL_feeds_17 rfl 18 rfl ?_
      refine q_istore X [(5, .int 0), (4, .ref w), (3, .int (nI k)), (2, .int got), (0, .ref (ad 0)), (1, .ref a)] dL_feeds_18 (by decide) rfl 20 rfl ?_
      refine fd_in (fu := fu) l hl hZ hX hO hT hgc hc hn XC (by omega) ⟨by show cells + 0 + 1 ≤ 90; omega, by show slots + 0 + 5 ≤ 520; omega⟩ ?_ 20 0 rfl
      refine q_aload_n X 4 dL_feeds_75 rfl rfl 76 rfl ?_
      refine q_aload X 1 dL_feeds_76 rfl 78 rfl ?_
      refine q_iconst X 0 dL_feeds_78 rfl 79 rfl ?_
      refine ya_ial (t0 := 0) (iN := 0) X (fW tx k 20 0) rfl nI_0.symm (by decide) (by decide) rfl dL_feeds_79 80 rfl ?_
      refine q_aload X 1 dL_feeds_80 rfl 82 rfl ?_
      refine q_iconst X 1 dL_feeds_82 rfl 83 rfl ?_
      refine ya_ial (t0 := 0) (iN := 1) X (fW tx k 20 1) rfl rfl (by decide) (by decide) rfl dL_feeds_83 84 rfl ?_
      refine q_aload X 1 dL_feeds_84 rfl 86 rfl ?_
      refine q_iconst X 2 dL_feeds_86 rfl 87 rfl ?_
      refine ya_ial (t0 := 0) (iN := 2) X (fW tx k 20 2) rfl rfl (by decide) (by decide) rfl dL_feeds_87 88 rfl ?_
      refine q_aload X 1 dL_feeds_88 rfl 90 rfl ?_
      refine q_iconst X 3 dL_feeds_90 rfl 91 rfl ?_
      refine ya_ial (t0 := 0) (iN := 3) X (fW tx k 20 3) rfl rfl (by decide) (by decide) rfl dL_feeds_91 92 rfl ?_
      refine q_aload X 1 dL_feeds_92 rfl 94 rfl ?_
      refine q_iconst X 4 dL_feeds_94 rfl 95 rfl ?_
      refine ya_ial (t0 := 0) (iN := 4) X (fW tx k 20 4) rfl rfl (by decide) (by decide) rfl dL_feeds_95 96 rfl ?_
      change XX D (255 + nW np nb) ad (cJ ca ad np nb eD tS sB) p l e rl_feeds s m args below meth c 6 _ _ Q mem [(w, .inl (ca 0, 5, .inl (fW tx k 20)))] 96 _ _
      refine j_callT (o := K_X11_feed fu (fW tx k 20 0) (fW tx k 20 1) (fW tx k 20 2) (fW tx k 20 3) (fW tx k 20 4) mem) (F := fun x m => some (x, m)) (res := (x, m1)) (cf1 := cC ca ad) hb_C (fun j f h => cJ_C j f h) XC hZ (by rw [hr]; rfl) [.int (fW tx k 20 0), .int (fW tx k 20 1), .int (fW tx k 20 2), .int (fW tx k 20 3), .int (fW tx k 20 4)] 0 lj_c kj_c rfl rfl rfl kB_X11_feed kL_L_25 (fun r h => by rw [ad_0, mem_0]; exact ct_X11_feed l hl hZ hX hO fu _ _ _ _ _ mem r h) rfl rfl rfl ⟨Nat.le_of_ble_eq_true rfl, Nat.le_of_ble_eq_true rfl⟩ (Nat.le_of_ble_eq_true rfl) ⟨by show cells + 0 + 1 + 3 ≤ 90; omega, by show slots + 0 + 5 + 18 ≤ 520; omega⟩ dL_feeds_96 99 rfl (fun x2 m2 h2 => ?_)
      cases h2
      change NN D (AA (255 + nW np nb) ad s.heap.size) p l e rl_feeds s m args below meth c 6 _ _ Q (wf (255 + nW np nb) ad (cJ ca ad np nb eD tS sB) (mset 0 255 mem m1) ++ [(w, .inl (ca 0, 5, .inl (fW tx k 20)))]) 99 _ _
      refine q_istore_n X [(2, .int x), (5, .int (nI 20)), (4, .ref w), (3, .int (nI k)), (0, .ref (ad 0)), (1, .ref a)] dL_feeds_99 rfl (by decide) rfl 100 rfl ?_
      refine q_iinc X 3 (nI (k + 20)) [(3, .int (nI (k + 20))), (2, .int x), (5, .int (nI 20)), (4, .ref w), (0, .ref (ad 0)), (1, .ref a)] dL_feeds_100 rfl (nI_add k 20) (by decide) rfl 103 rfl ?_
      refine q_sub (wf (255 + nW np nb) ad (cJ ca ad np nb eD tS sB) (mset 0 255 mem m1)) (List.sublist_append_left _ _) ?_
      refine q_goto X 4 dL_feeds_103 (by decide) ?_
      refine n_keep [0, 1, 4, 5] rfl ?_
      exact ih (by omega) hF (by show cells + 0 + 1 + 3 + _ ≤ _; omega) (by show slots + 0 + 5 + 18 + _ ≤ _; omega)
    · rw [if_neg hk] at hF
      refine q_icmp_ge (A1 := none) (B1 := some ()) (res := ()) X (if_neg (nI_nlt (by omega) (by omega))) 106 12 dL_feeds_9 (by decide) rfl (fun z => nomatch z) (fun _ => ?_)
      refine q_aload_n X 3 dL_feeds_106 rfl rfl 107 rfl ?_
      refine q_callT (rm := rmT0) (wc := []) X hZ [] _ rfl hTX rfl rfl kB_J0_isEmpty_aae02 kL_L_31 (cl_sie hT (by omega)) rfl ⟨Nat.le_of_ble_eq_true rfl, Nat.le_of_ble_eq_true rfl⟩ (Nat.le_of_ble_eq_true rfl) ⟨by show _ + 0 ≤ 90; omega, by show _ + 0 ≤ 520; omega⟩ dL_feeds_107 110 rfl ?_
      intro v w1 hq
      obtain ⟨rfl, rfl⟩ := hq
      rw [List.nil_append]
      refine q_z0 rfl rfl ?_
      by_cases h0 : tx.length = 0
      · rw [if_pos h0] at hF
        refine q_if_ne (A1 := none) (B1 := some ()) (res := ()) X (if_neg (by rw [if_pos h0]; decide)) 136 113 dL_feeds_110 (by decide) rfl (fun z => nomatch z) (fun _ => ?_)
        refine q_iconst X 1 dL_feeds_136 rfl 137 rfl ?_
        refine q_goto X 141 dL_feeds_137 (by decide) ?_
        refine n_eq (ws' := wf (255 + nW np nb) ad (cJ ca ad np nb eD tS sB) mem ++ []) (List.append_nil _) ?_
        change XX D (255 + nW np nb) ad (cJ ca ad np nb eD tS sB) p l e rl_feeds s m args below meth c 6 _ _ Q mem [] 141 _ _
        exact x_iret XC hQ (o_inj1 hF) (o_inj2 hF) rfl (by show cells + 0 + 0 ≤ 90; omega) (by show slots + 0 + 0 ≤ 520; omega) dL_feeds_141
      · rw [if_neg h0] at hF
        refine q_if_ne (A1 := some ()) (B1 := none) (res := ()) X (if_pos (by rw [if_neg h0])) 136 113 dL_feeds_110 (by decide) rfl (fun _ => ?_) (fun z => nomatch z)
        refine q_iload_n X 1 dL_feeds_113 rfl rfl 114 rfl ?_
        refine q_aload_n X 3 dL_feeds_114 rfl rfl 115 rfl ?_
        refine q_callT (rm := rmT1) (wc := []) X hZ [] _ rfl hTX rfl rfl kB_J0_length_8abf5 kL_L_15 (cl_len hZ hO hT (by omega)) rfl ⟨Nat.le_of_ble_eq_true rfl, Nat.le_of_ble_eq_true rfl⟩ (Nat.le_of_ble_eq_true rfl) ⟨by show _ + 0 ≤ 90; omega, by show _ + 0 ≤ 520; omega⟩ dL_feeds_115 118 rfl ?_
        intro v w1 hq
        obtain ⟨rfl, rfl⟩ := hq
        rw [List.nil_append]
        refine q_z0 rfl rfl ?_
        by_cases hg : got < nI tx.length
        · rw [if_pos hg] at hF
          refine q_icmp_lt (A1 := some ()) (B1 := none) (res := ()) X (if_pos hg) 140 121 dL_feeds_118 (by decide) rfl (fun _ => ?_) (fun z => nomatch z)
          refine q_iconst X 0 dL_feeds_140 rfl 141 rfl ?_
          refine n_eq (ws' := wf (255 + nW np nb) ad (cJ ca ad np nb eD tS sB) mem ++ []) (List.append_nil _) ?_
          change XX D (255 + nW np nb) ad (cJ ca ad np nb eD tS sB) p l e rl_feeds s m args below meth c 6 _ _ Q mem [] 141 _ _
          exact x_iret XC hQ (o_inj1 hF) (o_inj2 hF) rfl (by show cells + 0 + 0 + 0 ≤ 90; omega) (by show slots + 0 + 0 + 0 ≤ 520; omega) dL_feeds_141
        · rw [if_neg hg] at hF
          obtain ⟨x, m1, hr, hF⟩ := bdT_some hF
          refine q_icmp_lt (A1 := none) (B1 := some ()) (res := ()) X (if_neg hg) 140 121 dL_feeds_118 (by decide) rfl (fun z => nomatch z) (fun _ => ?_)
          refine q_aload_n X 2 dL_feeds_121 rfl rfl 122 rfl ?_
          refine q_aload_n X 3 dL_feeds_122 rfl rfl 123 rfl ?_
          refine q_callT (rm := rmT1) (wc := []) X hZ [] _ rfl hTX rfl rfl kB_J0_length_8abf5 kL_L_15 (cl_len hZ hO hT (by omega)) rfl ⟨Nat.le_of_ble_eq_true rfl, Nat.le_of_ble_eq_true rfl⟩ (Nat.le_of_ble_eq_true rfl) ⟨by show _ + 0 ≤ 90; omega, by show _ + 0 ≤ 520; omega⟩ dL_feeds_123 126 rfl ?_
          intro v w1 hq
          obtain ⟨rfl, rfl⟩ := hq
          rw [List.nil_append]
          refine q_z0 rfl rfl ?_
          refine n_eq (ws' := wf (255 + nW np nb) ad (cJ ca ad np nb eD tS sB) mem ++ []) (List.append_nil _) ?_
          change XX D (255 + nW np nb) ad (cJ ca ad np nb eD tS sB) p l e rl_feeds s m args below meth c 6 _ _ Q mem [] 126 _ _
          refine j_callT (o := K_X11_truncate fu (nI tx.length) mem) (F := fun x m => some (x, m)) (res := (x, m1)) (cf1 := cC ca ad) hb_C (fun j f h => cJ_C j f h) XC hZ (by rw [hr]; rfl) [.int (nI tx.length)] 0 lj_c kj_c rfl rfl rfl kB_X11_truncate kL_L_35 (fun r h => by rw [ad_0, mem_0]; exact ct_X11_truncate l hl hZ hX hO fu _ mem r h) rfl rfl rfl ⟨Nat.le_of_ble_eq_true rfl, Nat.le_of_ble_eq_true rfl⟩ (Nat.le_of_ble_eq_true rfl) ⟨by show cells + 0 + 0 + 0 + 0 + 3 ≤ 90; omega, by show slots + 0 + 0 + 0 + 0 + 18 ≤ 520; omega⟩ dL_feeds_126 129 rfl (fun x2 m2 h2 => ?_)
          cases h2
          change NN D (AA (255 + nW np nb) ad s.heap.size) p l e rl_feeds s m args below meth c 6 _ _ Q (wf (255 + nW np nb) ad (cJ ca ad np nb eD tS sB) (mset 0 255 mem m1) ++ []) 129 _ _
          refine n_eq (ws' := wf (255 + nW np nb) ad (cJ ca ad np nb eD tS sB) (mset 0 255 mem m1)) (List.append_nil _).symm ?_
          refine q_aload_n X 3 dL_feeds_129 rfl rfl 130 rfl ?_
          refine q_callT (rm := rmT1) (wc := []) X hZ [] _ rfl hTX rfl rfl kB_J0_length_8abf5 kL_L_15 (cl_len hZ hO hT (by omega)) rfl ⟨Nat.le_of_ble_eq_true rfl, Nat.le_of_ble_eq_true rfl⟩ (Nat.le_of_ble_eq_true rfl) ⟨by show _ + 0 ≤ 90; omega, by show _ + 0 ≤ 520; omega⟩ dL_feeds_130 133 rfl ?_
          intro v w1 hq
          obtain ⟨rfl, rfl⟩ := hq
          rw [List.nil_append]
          refine q_z0 rfl rfl ?_
          by_cases hx : x = nI tx.length
          · rw [if_pos hx] at hF
            refine q_icmp_ne (A1 := some ()) (B1 := none) (res := ()) X (if_pos hx) 140 136 dL_feeds_133 (by decide) rfl (fun _ => ?_) (fun z => nomatch z)
            refine q_iconst X 1 dL_feeds_136 rfl 137 rfl ?_
            refine q_goto X 141 dL_feeds_137 (by decide) ?_
            refine n_eq (ws' := wf (255 + nW np nb) ad (cJ ca ad np nb eD tS sB) (mset 0 255 mem m1) ++ []) (List.append_nil _) ?_
            change XX D (255 + nW np nb) ad (cJ ca ad np nb eD tS sB) p l e rl_feeds s m args below meth c 6 _ _ Q (mset 0 255 mem m1) [] 141 _ _
            exact x_iret XC hQ (o_inj1 hF) (o_inj2 hF) rfl (by show cells + 0 + 0 + 0 + 0 + 3 + 0 ≤ 90; omega) (by show slots + 0 + 0 + 0 + 0 + 18 + 0 ≤ 520; omega) dL_feeds_141
          · rw [if_neg hx] at hF
            refine q_icmp_ne (A1 := none) (B1 := some ()) (res := ()) X (if_neg hx) 140 136 dL_feeds_133 (by decide) rfl (fun z => nomatch z) (fun _ => ?_)
            refine q_iconst X 0 dL_feeds_140 rfl 141 rfl ?_
            refine n_eq (ws' := wf (255 + nW np nb) ad (cJ ca ad np nb eD tS sB) (mset 0 255 mem m1) ++ []) (List.append_nil _) ?_
            change XX D (255 + nW np nb) ad (cJ ca ad np nb eD tS sB) p l e rl_feeds s m args below meth c 6 _ _ Q (mset 0 255 mem m1) [] 141 _ _
            exact x_iret XC hQ (o_inj1 hF) (o_inj2 hF) rfl (by show cells + 0 + 0 + 0 + 0 + 3 + 0 ≤ 90; omega) (by show slots + 0 + 0 + 0 + 0 + 18 + 0 ≤ 520; omega) dL_feeds_141
set_option maxRecDepth 100000 in
/-- feeds(o, text) -/
theorem cl_feeds (l : Launch) (hl : l.stackTraces = false) (hZ : ZOK Z) (hX : ZX Z) (hO : ZO Z tO sK sV) {fu : Nat} {tx : List Nat} {a v0 : Nat} {g : Nat → Int32} {mem : Mem} (hT : ∀ A U H, Z A U H → zt a v0 tx.length g A U H) (hgc : ∀ j c, tx[j]? = some c → g j = nI c) (hc : ∀ c ∈ tx, c < 128) (hn : tx.length ≤ 400) {res : Int32 × Mem} (hF : KL_feeds fu tx mem = some res) : CJ l D (tyL ca) (255 + nW np nb) ad (cJ ca ad np nb eD tS sB) Z yL_feeds cL_feeds 6 .boolean rl_feeds [.ref (ad 0), .ref a] mem res.1 res.2 := by
  refine xstart_i (own := RL) rfl (by decide) (Nat.le_of_ble_eq_true rfl) ?_
  intro p e s m args below meth c Q hQ XC
  have X := cn_of XC
  change NN D (AA (255 + nW np nb) ad s.heap.size) p l e rl_feeds s m args below meth c 6 0 0 Q (wf (255 + nW np nb) ad (cJ ca ad np nb eD tS sB) mem ++ []) 0 [(0, .ref (ad 0)), (1, .ref a)] []
  refine n_eq (ws' := wf (255 + nW np nb) ad (cJ ca ad np nb eD tS sB) mem) (List.append_nil _).symm ?_
  refine q_iconst X 0 dL_feeds_0 rfl 1 rfl ?_
  refine q_istore_n X [(2, .int 0), (0, .ref (ad 0)), (1, .ref a)] dL_feeds_1 rfl (by decide) rfl 2 rfl ?_
  refine q_iconst X 0 dL_feeds_2 rfl 3 rfl ?_
  refine q_istore_n X [(3, .int 0), (2, .int 0), (0, .ref (ad 0)), (1, .ref a)] dL_feeds_3 rfl (by decide) rfl 4 rfl ?_
  exact fd_out (mem := mem) l hl hZ hX hO hT hgc hc hn XC hQ 21 (by decide) hF (by decide) (by decide)
end GHE
