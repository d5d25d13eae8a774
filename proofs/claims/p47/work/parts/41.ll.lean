section LLR
variable {D : va_G} {tys : List (ClassId × FieldType)} {A : Nat → Prop} {Z : (Nat → Prop) → State → Heap → Prop} {p : Program} {l : Launch} {e : Env} {R : Room} {s : State} {m : MethodId} {args : Array Value} {below : List Frame} {meth : Method} {c : Code} {cc : ByteArray} {nL : Nat} {own : String} {ret : Option FieldType} {cells slots : Nat} {Q : State → Prop} {ws : va_W} {pc : Nat} {lv : List (Nat × Value)} {st : List Value}
theorem q_iconst {i : Int} (X : CN D tys A Z p s m args meth c cc nL own ret) (v : Int32) (hdg : decode cc pc = .ok (.iconst i, 1)) (hv : Int32.ofInt i = v) (pc2 : Nat) (hp : pc + 1 = pc2) (kk : NN D A p l e R s m args below meth c nL cells slots Q ws pc2 lv (.int v :: st)) : NN D A p l e R s m args below meth c nL cells slots Q ws pc lv st := by
  subst hp
  exact fun H locs ls hP hD hS hl => lv_iconst X.1.1 X.1.2.1 hdg hv (kk H locs ls hP hD hS hl)
theorem q_bipush {i : Int} (X : CN D tys A Z p s m args meth c cc nL own ret) (v : Int32) (hdg : decode cc pc = .ok (.bipush i, 2)) (hv : (Int8.ofInt i).toInt32 = v) (pc2 : Nat) (hp : pc + 2 = pc2) (kk : NN D A p l e R s m args below meth c nL cells slots Q ws pc2 lv (.int v :: st)) : NN D A p l e R s m args below meth c nL cells slots Q ws pc lv st := by
  subst hp
  exact fun H locs ls hP hD hS hl => lv_bipush X.1.1 X.1.2.1 hdg hv (kk H locs ls hP hD hS hl)
theorem q_sipush {i : Int} (X : CN D tys A Z p s m args meth c cc nL own ret) (v : Int32) (hdg : decode cc pc = .ok (.sipush i, 3)) (hv : (Int16.ofInt i).toInt32 = v) (pc2 : Nat) (hp : pc + 3 = pc2) (kk : NN D A p l e R s m args below meth c nL cells slots Q ws pc2 lv (.int v :: st)) : NN D A p l e R s m args below meth c nL cells slots Q ws pc lv st := by
  subst hp
  exact fun H locs ls hP hD hS hl => lv_sipush X.1.1 X.1.2.1 hdg hv (kk H locs ls hP hD hS hl)
theorem q_ldc {ix : Nat} (X : CN D tys A Z p s m args meth c cc nL own ret) (v : Int32) (hw : Cond.constant own ix v ∈ GW) (hdg : decode cc pc = .ok (.ldc ix, 2)) (pc2 : Nat) (hp : pc + 2 = pc2) (kk : NN D A p l e R s m args below meth c nL cells slots Q ws pc2 lv (.int v :: st)) : NN D A p l e R s m args below meth c nL cells slots Q ws pc lv st := by
  subst hp
  exact fun H locs ls hP hD hS hl => lv_ldc X.1.1 X.1.2.1 X.1.2.2.2.1 (X.1.2.2.2.2 _ hw) hdg (kk H locs ls hP hD hS hl)
theorem q_iload_n {f : Fin 4} {i : Nat} {x : Int32} (X : CN D tys A Z p s m args meth c cc nL own ret) (k : Nat) (hdg : decode cc pc = .ok (.iload_n f, 1)) (hi : (f : Nat) = i) (hk : lv[k]? = some (i, .int x)) (pc2 : Nat) (hp : pc + 1 = pc2) (kk : NN D A p l e R s m args below meth c nL cells slots Q ws pc2 lv (.int x :: st)) : NN D A p l e R s m args below meth c nL cells slots Q ws pc lv st := by
  subst hp
  exact fun H locs ls hP hD hS hl => lv_iload_n X.1.1 X.1.2.1 hdg hi (lv_at hl k hk) (kk H locs ls hP hD hS hl)
theorem q_iload {i : Nat} {x : Int32} (X : CN D tys A Z p s m args meth c cc nL own ret) (k : Nat) (hdg : decode cc pc = .ok (.iload i, 2)) (hk : lv[k]? = some (i, .int x)) (pc2 : Nat) (hp : pc + 2 = pc2) (kk : NN D A p l e R s m args below meth c nL cells slots Q ws pc2 lv (.int x :: st)) : NN D A p l e R s m args below meth c nL cells slots Q ws pc lv st := by
  subst hp
  exact fun H locs ls hP hD hS hl => lv_iload X.1.1 X.1.2.1 hdg (lv_at hl k hk) (kk H locs ls hP hD hS hl)
theorem q_istore_n {f : Fin 4} {i : Nat} {x : Int32} (X : CN D tys A Z p s m args meth c cc nL own ret) (lv2 : List (Nat × Value)) (hdg : decode cc pc = .ok (.istore_n f, 1)) (hi : (f : Nat) = i) (hn : i < nL) (hv : (i, Value.int x) :: lv.filter (fun q => !(q.1 == i) && !(q.1 + 1 == i && q.2.category == 2)) = lv2) (pc2 : Nat) (hp : pc + 1 = pc2) (kk : NN D A p l e R s m args below meth c nL cells slots Q ws pc2 lv2 st) : NN D A p l e R s m args below meth c nL cells slots Q ws pc lv (.int x :: st) := by
  subst hp
  exact fun H locs ls hP hD hS hl => lv_istore_n X.1.1 X.1.2.1 hdg hi hl hn hv (fun ls hl => kk H locs ls hP hD hS hl)
theorem q_istore {i : Nat} {x : Int32} (X : CN D tys A Z p s m args meth c cc nL own ret) (lv2 : List (Nat × Value)) (hdg : decode cc pc = .ok (.istore i, 2)) (hn : i < nL) (hv : (i, Value.int x) :: lv.filter (fun q => !(q.1 == i) && !(q.1 + 1 == i && q.2.category == 2)) = lv2) (pc2 : Nat) (hp : pc + 2 = pc2) (kk : NN D A p l e R s m args below meth c nL cells slots Q ws pc2 lv2 st) : NN D A p l e R s m args below meth c nL cells slots Q ws pc lv (.int x :: st) := by
  subst hp
  exact fun H locs ls hP hD hS hl => lv_istore X.1.1 X.1.2.1 hdg hl hn hv (fun ls hl => kk H locs ls hP hD hS hl)
theorem q_aload_n {f : Fin 4} {i : Nat} {x : Nat} (X : CN D tys A Z p s m args meth c cc nL own ret) (k : Nat) (hdg : decode cc pc = .ok (.aload_n f, 1)) (hi : (f : Nat) = i) (hk : lv[k]? = some (i, .ref x)) (pc2 : Nat) (hp : pc + 1 = pc2) (kk : NN D A p l e R s m args below meth c nL cells slots Q ws pc2 lv (.ref x :: st)) : NN D A p l e R s m args below meth c nL cells slots Q ws pc lv st := by
  subst hp
  exact fun H locs ls hP hD hS hl => lv_aload_n X.1.1 X.1.2.1 hdg hi (lv_at hl k hk) (kk H locs ls hP hD hS hl)
theorem q_aload {i : Nat} {x : Nat} (X : CN D tys A Z p s m args meth c cc nL own ret) (k : Nat) (hdg : decode cc pc = .ok (.aload i, 2)) (hk : lv[k]? = some (i, .ref x)) (pc2 : Nat) (hp : pc + 2 = pc2) (kk : NN D A p l e R s m args below meth c nL cells slots Q ws pc2 lv (.ref x :: st)) : NN D A p l e R s m args below meth c nL cells slots Q ws pc lv st := by
  subst hp
  exact fun H locs ls hP hD hS hl => lv_aload X.1.1 X.1.2.1 hdg (lv_at hl k hk) (kk H locs ls hP hD hS hl)
theorem q_astore_n {f : Fin 4} {i : Nat} {x : Nat} (X : CN D tys A Z p s m args meth c cc nL own ret) (lv2 : List (Nat × Value)) (hdg : decode cc pc = .ok (.astore_n f, 1)) (hi : (f : Nat) = i) (hn : i < nL) (hv : (i, Value.ref x) :: lv.filter (fun q => !(q.1 == i) && !(q.1 + 1 == i && q.2.category == 2)) = lv2) (pc2 : Nat) (hp : pc + 1 = pc2) (kk : NN D A p l e R s m args below meth c nL cells slots Q ws pc2 lv2 st) : NN D A p l e R s m args below meth c nL cells slots Q ws pc lv (.ref x :: st) := by
  subst hp
  exact fun H locs ls hP hD hS hl => lv_astore_n X.1.1 X.1.2.1 hdg hi hl hn hv (fun ls hl => kk H locs ls hP hD hS hl)
theorem q_astore {i : Nat} {x : Nat} (X : CN D tys A Z p s m args meth c cc nL own ret) (lv2 : List (Nat × Value)) (hdg : decode cc pc = .ok (.astore i, 2)) (hn : i < nL) (hv : (i, Value.ref x) :: lv.filter (fun q => !(q.1 == i) && !(q.1 + 1 == i && q.2.category == 2)) = lv2) (pc2 : Nat) (hp : pc + 2 = pc2) (kk : NN D A p l e R s m args below meth c nL cells slots Q ws pc2 lv2 st) : NN D A p l e R s m args below meth c nL cells slots Q ws pc lv (.ref x :: st) := by
  subst hp
  exact fun H locs ls hP hD hS hl => lv_astore X.1.1 X.1.2.1 hdg hl hn hv (fun ls hl => kk H locs ls hP hD hS hl)
theorem q_iinc {i : Nat} {d : Int} {x : Int32} (X : CN D tys A Z p s m args meth c cc nL own ret) (k : Nat) (v : Int32) (lv2 : List (Nat × Value)) (hdg : decode cc pc = .ok (.iinc i d, 3)) (hk : lv[k]? = some (i, .int x)) (hx : x + Int32.ofInt d = v) (hn : i < nL) (hv : (i, Value.int v) :: lv.filter (fun q => !(q.1 == i) && !(q.1 + 1 == i && q.2.category == 2)) = lv2) (pc2 : Nat) (hp : pc + 3 = pc2) (kk : NN D A p l e R s m args below meth c nL cells slots Q ws pc2 lv2 st) : NN D A p l e R s m args below meth c nL cells slots Q ws pc lv st := by
  subst hp
  exact fun H locs ls hP hD hS hl => lv_iinc X.1.1 X.1.2.1 hdg hl hk hx hn hv (fun ls hl => kk H locs ls hP hD hS hl)
theorem q_iadd {x y : Int32} (X : CN D tys A Z p s m args meth c cc nL own ret) (hdg : decode cc pc = .ok (.iadd, 1)) (pc2 : Nat) (hp : pc + 1 = pc2) (kk : NN D A p l e R s m args below meth c nL cells slots Q ws pc2 lv (.int (x + y) :: st)) : NN D A p l e R s m args below meth c nL cells slots Q ws pc lv (.int y :: .int x :: st) := by
  subst hp
  exact fun H locs ls hP hD hS hl => lv_iadd X.1.1 X.1.2.1 hdg (kk H locs ls hP hD hS hl)
theorem q_isub {x y : Int32} (X : CN D tys A Z p s m args meth c cc nL own ret) (hdg : decode cc pc = .ok (.isub, 1)) (pc2 : Nat) (hp : pc + 1 = pc2) (kk : NN D A p l e R s m args below meth c nL cells slots Q ws pc2 lv (.int (x - y) :: st)) : NN D A p l e R s m args below meth c nL cells slots Q ws pc lv (.int y :: .int x :: st) := by
  subst hp
  exact fun H locs ls hP hD hS hl => lv_isub X.1.1 X.1.2.1 hdg (kk H locs ls hP hD hS hl)
theorem q_imul {x y : Int32} (X : CN D tys A Z p s m args meth c cc nL own ret) (hdg : decode cc pc = .ok (.imul, 1)) (pc2 : Nat) (hp : pc + 1 = pc2) (kk : NN D A p l e R s m args below meth c nL cells slots Q ws pc2 lv (.int (x * y) :: st)) : NN D A p l e R s m args below meth c nL cells slots Q ws pc lv (.int y :: .int x :: st) := by
  subst hp
  exact fun H locs ls hP hD hS hl => lv_imul X.1.1 X.1.2.1 hdg (kk H locs ls hP hD hS hl)
theorem q_iand {x y : Int32} (X : CN D tys A Z p s m args meth c cc nL own ret) (hdg : decode cc pc = .ok (.iand, 1)) (pc2 : Nat) (hp : pc + 1 = pc2) (kk : NN D A p l e R s m args below meth c nL cells slots Q ws pc2 lv (.int (x &&& y) :: st)) : NN D A p l e R s m args below meth c nL cells slots Q ws pc lv (.int y :: .int x :: st) := by
  subst hp
  exact fun H locs ls hP hD hS hl => lv_iand X.1.1 X.1.2.1 hdg (kk H locs ls hP hD hS hl)
theorem q_ior {x y : Int32} (X : CN D tys A Z p s m args meth c cc nL own ret) (hdg : decode cc pc = .ok (.ior, 1)) (pc2 : Nat) (hp : pc + 1 = pc2) (kk : NN D A p l e R s m args below meth c nL cells slots Q ws pc2 lv (.int (x ||| y) :: st)) : NN D A p l e R s m args below meth c nL cells slots Q ws pc lv (.int y :: .int x :: st) := by
  subst hp
  exact fun H locs ls hP hD hS hl => lv_ior X.1.1 X.1.2.1 hdg (kk H locs ls hP hD hS hl)
theorem q_ishl {x y : Int32} (X : CN D tys A Z p s m args meth c cc nL own ret) (hdg : decode cc pc = .ok (.ishl, 1)) (pc2 : Nat) (hp : pc + 1 = pc2) (kk : NN D A p l e R s m args below meth c nL cells slots Q ws pc2 lv (.int (x <<< (y &&& 31)) :: st)) : NN D A p l e R s m args below meth c nL cells slots Q ws pc lv (.int y :: .int x :: st) := by
  subst hp
  exact fun H locs ls hP hD hS hl => lv_ishl X.1.1 X.1.2.1 hdg (kk H locs ls hP hD hS hl)
theorem q_ishr {x y : Int32} (X : CN D tys A Z p s m args meth c cc nL own ret) (hdg : decode cc pc = .ok (.ishr, 1)) (pc2 : Nat) (hp : pc + 1 = pc2) (kk : NN D A p l e R s m args below meth c nL cells slots Q ws pc2 lv (.int (x >>> (y &&& 31)) :: st)) : NN D A p l e R s m args below meth c nL cells slots Q ws pc lv (.int y :: .int x :: st) := by
  subst hp
  exact fun H locs ls hP hD hS hl => lv_ishr X.1.1 X.1.2.1 hdg (kk H locs ls hP hD hS hl)
theorem q_idiv {x y : Int32} (X : CN D tys A Z p s m args meth c cc nL own ret) (hy : ¬ y = 0) (hdg : decode cc pc = .ok (.idiv, 1)) (pc2 : Nat) (hp : pc + 1 = pc2) (kk : NN D A p l e R s m args below meth c nL cells slots Q ws pc2 lv (.int (x / y) :: st)) : NN D A p l e R s m args below meth c nL cells slots Q ws pc lv (.int y :: .int x :: st) := by
  subst hp
  exact fun H locs ls hP hD hS hl => lv_idiv X.1.1 X.1.2.1 hdg hy (kk H locs ls hP hD hS hl)
theorem q_irem {x y : Int32} (X : CN D tys A Z p s m args meth c cc nL own ret) (hy : ¬ y = 0) (hdg : decode cc pc = .ok (.irem, 1)) (pc2 : Nat) (hp : pc + 1 = pc2) (kk : NN D A p l e R s m args below meth c nL cells slots Q ws pc2 lv (.int (x - x / y * y) :: st)) : NN D A p l e R s m args below meth c nL cells slots Q ws pc lv (.int y :: .int x :: st) := by
  subst hp
  exact fun H locs ls hP hD hS hl => lv_irem X.1.1 X.1.2.1 hdg hy (kk H locs ls hP hD hS hl)
theorem q_ineg {x : Int32} (X : CN D tys A Z p s m args meth c cc nL own ret) (hdg : decode cc pc = .ok (.ineg, 1)) (pc2 : Nat) (hp : pc + 1 = pc2) (kk : NN D A p l e R s m args below meth c nL cells slots Q ws pc2 lv (.int (-x) :: st)) : NN D A p l e R s m args below meth c nL cells slots Q ws pc lv (.int x :: st) := by
  subst hp
  exact fun H locs ls hP hD hS hl => lv_ineg X.1.1 X.1.2.1 hdg (kk H locs ls hP hD hS hl)
theorem q_i2b {x : Int32} (X : CN D tys A Z p s m args meth c cc nL own ret) (hdg : decode cc pc = .ok (.i2b, 1)) (pc2 : Nat) (hp : pc + 1 = pc2) (kk : NN D A p l e R s m args below meth c nL cells slots Q ws pc2 lv (.int x.toInt8.toInt32 :: st)) : NN D A p l e R s m args below meth c nL cells slots Q ws pc lv (.int x :: st) := by
  subst hp
  exact fun H locs ls hP hD hS hl => lv_i2b X.1.1 X.1.2.1 hdg rfl (kk H locs ls hP hD hS hl)
theorem q_dup {v : Value} (X : CN D tys A Z p s m args meth c cc nL own ret) (hdg : decode cc pc = .ok (.dup, 1)) (hv : v.category = 1) (pc2 : Nat) (hp : pc + 1 = pc2) (kk : NN D A p l e R s m args below meth c nL cells slots Q ws pc2 lv (v :: v :: st)) : NN D A p l e R s m args below meth c nL cells slots Q ws pc lv (v :: st) := by
  subst hp
  exact fun H locs ls hP hD hS hl => lv_dup X.1.1 X.1.2.1 hdg hv (kk H locs ls hP hD hS hl)
theorem q_pop {v : Value} (X : CN D tys A Z p s m args meth c cc nL own ret) (hdg : decode cc pc = .ok (.pop, 1)) (hv : v.category = 1) (pc2 : Nat) (hp : pc + 1 = pc2) (kk : NN D A p l e R s m args below meth c nL cells slots Q ws pc2 lv st) : NN D A p l e R s m args below meth c nL cells slots Q ws pc lv (v :: st) := by
  subst hp
  exact fun H locs ls hP hD hS hl => lv_pop X.1.1 X.1.2.1 hdg hv (kk H locs ls hP hD hS hl)
theorem q_dup2 {u v : Value} (X : CN D tys A Z p s m args meth c cc nL own ret) (hdg : decode cc pc = .ok (.dup2, 1)) (hu : u.category = 1) (hv : v.category = 1) (pc2 : Nat) (hp : pc + 1 = pc2) (kk : NN D A p l e R s m args below meth c nL cells slots Q ws pc2 lv (u :: v :: u :: v :: st)) : NN D A p l e R s m args below meth c nL cells slots Q ws pc lv (u :: v :: st) := by
  subst hp
  exact fun H locs ls hP hD hS hl => lv_dup2_11 X.1.1 X.1.2.1 hdg hu hv (kk H locs ls hP hD hS hl)
theorem q_goto {off : Int} (X : CN D tys A Z p s m args meth c cc nL own ret) (tgt : Nat) (hdg : decode cc pc = .ok (.goto off, 3)) (ht : (pc : Int) + off = (tgt : Int)) (kk : NN D A p l e R s m args below meth c nL cells slots Q ws tgt lv st) : NN D A p l e R s m args below meth c nL cells slots Q ws pc lv st :=
  fun H locs ls hP hD hS hl => lv_goto X.1.1 X.1.2.1 hdg ht (kk H locs ls hP hD hS hl)
theorem q_icmp_eq {ρ : Type} {A1 B1 : Option ρ} {res : ρ} {x y : Int32} {off : Int} (X : CN D tys A Z p s m args meth c cc nL own ret) (hF : (if x = y then A1 else B1) = some res) (tgt pc2 : Nat) (hdg : decode cc pc = .ok (.if_icmp .eq off, 3)) (ht : (pc : Int) + off = (tgt : Int)) (hp : pc + 3 = pc2) (kt : A1 = some res → NN D A p l e R s m args below meth c nL cells slots Q ws tgt lv st) (kf : B1 = some res → NN D A p l e R s m args below meth c nL cells slots Q ws pc2 lv st) : NN D A p l e R s m args below meth c nL cells slots Q ws pc lv (.int y :: .int x :: st) := by
  subst hp
  intro H locs ls hP hD hS hl
  by_cases hc : x = y
  · rw [if_pos hc] at hF
    exact lv_icmp_eq X.1.1 X.1.2.1 hdg ht (fun _ => kt hF H locs ls hP hD hS hl) (fun q => absurd hc q)
  · rw [if_neg hc] at hF
    exact lv_icmp_eq X.1.1 X.1.2.1 hdg ht (fun q => absurd q hc) (fun _ => kf hF H locs ls hP hD hS hl)
theorem q_icmp_ne {ρ : Type} {A1 B1 : Option ρ} {res : ρ} {x y : Int32} {off : Int} (X : CN D tys A Z p s m args meth c cc nL own ret) (hF : (if x = y then A1 else B1) = some res) (tgt pc2 : Nat) (hdg : decode cc pc = .ok (.if_icmp .ne off, 3)) (ht : (pc : Int) + off = (tgt : Int)) (hp : pc + 3 = pc2) (kt : A1 = some res → NN D A p l e R s m args below meth c nL cells slots Q ws pc2 lv st) (kf : B1 = some res → NN D A p l e R s m args below meth c nL cells slots Q ws tgt lv st) : NN D A p l e R s m args below meth c nL cells slots Q ws pc lv (.int y :: .int x :: st) := by
  subst hp
  intro H locs ls hP hD hS hl
  by_cases hc : x = y
  · rw [if_pos hc] at hF
    exact lv_icmp_ne X.1.1 X.1.2.1 hdg ht (fun q => absurd hc q) (fun _ => kt hF H locs ls hP hD hS hl)
  · rw [if_neg hc] at hF
    exact lv_icmp_ne X.1.1 X.1.2.1 hdg ht (fun _ => kf hF H locs ls hP hD hS hl) (fun q => absurd q hc)
theorem q_icmp_lt {ρ : Type} {A1 B1 : Option ρ} {res : ρ} {x y : Int32} {off : Int} (X : CN D tys A Z p s m args meth c cc nL own ret) (hF : (if x < y then A1 else B1) = some res) (tgt pc2 : Nat) (hdg : decode cc pc = .ok (.if_icmp .lt off, 3)) (ht : (pc : Int) + off = (tgt : Int)) (hp : pc + 3 = pc2) (kt : A1 = some res → NN D A p l e R s m args below meth c nL cells slots Q ws tgt lv st) (kf : B1 = some res → NN D A p l e R s m args below meth c nL cells slots Q ws pc2 lv st) : NN D A p l e R s m args below meth c nL cells slots Q ws pc lv (.int y :: .int x :: st) := by
  subst hp
  intro H locs ls hP hD hS hl
  by_cases hc : x < y
  · rw [if_pos hc] at hF
    exact lv_icmp_lt X.1.1 X.1.2.1 hdg ht (fun _ => kt hF H locs ls hP hD hS hl) (fun q => absurd hc q)
  · rw [if_neg hc] at hF
    exact lv_icmp_lt X.1.1 X.1.2.1 hdg ht (fun q => absurd q hc) (fun _ => kf hF H locs ls hP hD hS hl)
theorem q_icmp_ge {ρ : Type} {A1 B1 : Option ρ} {res : ρ} {x y : Int32} {off : Int} (X : CN D tys A Z p s m args meth c cc nL own ret) (hF : (if x < y then A1 else B1) = some res) (tgt pc2 : Nat) (hdg : decode cc pc = .ok (.if_icmp .ge off, 3)) (ht : (pc : Int) + off = (tgt : Int)) (hp : pc + 3 = pc2) (kt : A1 = some res → NN D A p l e R s m args below meth c nL cells slots Q ws pc2 lv st) (kf : B1 = some res → NN D A p l e R s m args below meth c nL cells slots Q ws tgt lv st) : NN D A p l e R s m args below meth c nL cells slots Q ws pc lv (.int y :: .int x :: st) := by
  subst hp
  intro H locs ls hP hD hS hl
  by_cases hc : x < y
  · rw [if_pos hc] at hF
    exact lv_icmp_ge X.1.1 X.1.2.1 hdg ht (fun q => absurd hc (Int32.not_lt.mpr q)) (fun _ => kt hF H locs ls hP hD hS hl)
  · rw [if_neg hc] at hF
    exact lv_icmp_ge X.1.1 X.1.2.1 hdg ht (fun _ => kf hF H locs ls hP hD hS hl) (fun q => absurd (Int32.not_lt.mp hc) q)
theorem q_icmp_gt {ρ : Type} {A1 B1 : Option ρ} {res : ρ} {x y : Int32} {off : Int} (X : CN D tys A Z p s m args meth c cc nL own ret) (hF : (if y < x then A1 else B1) = some res) (tgt pc2 : Nat) (hdg : decode cc pc = .ok (.if_icmp .gt off, 3)) (ht : (pc : Int) + off = (tgt : Int)) (hp : pc + 3 = pc2) (kt : A1 = some res → NN D A p l e R s m args below meth c nL cells slots Q ws tgt lv st) (kf : B1 = some res → NN D A p l e R s m args below meth c nL cells slots Q ws pc2 lv st) : NN D A p l e R s m args below meth c nL cells slots Q ws pc lv (.int y :: .int x :: st) := by
  subst hp
  intro H locs ls hP hD hS hl
  by_cases hc : y < x
  · rw [if_pos hc] at hF
    exact lv_icmp_gt X.1.1 X.1.2.1 hdg ht (fun _ => kt hF H locs ls hP hD hS hl) (fun q => absurd hc q)
  · rw [if_neg hc] at hF
    exact lv_icmp_gt X.1.1 X.1.2.1 hdg ht (fun q => absurd q hc) (fun _ => kf hF H locs ls hP hD hS hl)
theorem q_icmp_le {ρ : Type} {A1 B1 : Option ρ} {res : ρ} {x y : Int32} {off : Int} (X : CN D tys A Z p s m args meth c cc nL own ret) (hF : (if y < x then A1 else B1) = some res) (tgt pc2 : Nat) (hdg : decode cc pc = .ok (.if_icmp .le off, 3)) (ht : (pc : Int) + off = (tgt : Int)) (hp : pc + 3 = pc2) (kt : A1 = some res → NN D A p l e R s m args below meth c nL cells slots Q ws pc2 lv st) (kf : B1 = some res → NN D A p l e R s m args below meth c nL cells slots Q ws tgt lv st) : NN D A p l e R s m args below meth c nL cells slots Q ws pc lv (.int y :: .int x :: st) := by
  subst hp
  intro H locs ls hP hD hS hl
  by_cases hc : y < x
  · rw [if_pos hc] at hF
    exact lv_icmp_le X.1.1 X.1.2.1 hdg ht (fun q => absurd hc (Int32.not_lt.mpr q)) (fun _ => kt hF H locs ls hP hD hS hl)
  · rw [if_neg hc] at hF
    exact lv_icmp_le X.1.1 X.1.2.1 hdg ht (fun _ => kf hF H locs ls hP hD hS hl) (fun q => absurd (Int32.not_lt.mp hc) q)
theorem q_if_eq {ρ : Type} {A1 B1 : Option ρ} {res : ρ} {x : Int32} {off : Int} (X : CN D tys A Z p s m args meth c cc nL own ret) (hF : (if x = 0 then A1 else B1) = some res) (tgt pc2 : Nat) (hdg : decode cc pc = .ok (.ifCond .eq off, 3)) (ht : (pc : Int) + off = (tgt : Int)) (hp : pc + 3 = pc2) (kt : A1 = some res → NN D A p l e R s m args below meth c nL cells slots Q ws tgt lv st) (kf : B1 = some res → NN D A p l e R s m args below meth c nL cells slots Q ws pc2 lv st) : NN D A p l e R s m args below meth c nL cells slots Q ws pc lv (.int x :: st) := by
  subst hp
  intro H locs ls hP hD hS hl
  by_cases hc : x = 0
  · rw [if_pos hc] at hF
    exact lv_if_eq X.1.1 X.1.2.1 hdg ht (fun _ => kt hF H locs ls hP hD hS hl) (fun q => absurd hc q)
  · rw [if_neg hc] at hF
    exact lv_if_eq X.1.1 X.1.2.1 hdg ht (fun q => absurd q hc) (fun _ => kf hF H locs ls hP hD hS hl)
theorem q_if_ne {ρ : Type} {A1 B1 : Option ρ} {res : ρ} {x : Int32} {off : Int} (X : CN D tys A Z p s m args meth c cc nL own ret) (hF : (if x = 0 then A1 else B1) = some res) (tgt pc2 : Nat) (hdg : decode cc pc = .ok (.ifCond .ne off, 3)) (ht : (pc : Int) + off = (tgt : Int)) (hp : pc + 3 = pc2) (kt : A1 = some res → NN D A p l e R s m args below meth c nL cells slots Q ws pc2 lv st) (kf : B1 = some res → NN D A p l e R s m args below meth c nL cells slots Q ws tgt lv st) : NN D A p l e R s m args below meth c nL cells slots Q ws pc lv (.int x :: st) := by
  subst hp
  intro H locs ls hP hD hS hl
  by_cases hc : x = 0
  · rw [if_pos hc] at hF
    exact lv_if_ne X.1.1 X.1.2.1 hdg ht (fun q => absurd hc q) (fun _ => kt hF H locs ls hP hD hS hl)
  · rw [if_neg hc] at hF
    exact lv_if_ne X.1.1 X.1.2.1 hdg ht (fun _ => kf hF H locs ls hP hD hS hl) (fun q => absurd q hc)
theorem q_if_lt {ρ : Type} {A1 B1 : Option ρ} {res : ρ} {x : Int32} {off : Int} (X : CN D tys A Z p s m args meth c cc nL own ret) (hF : (if x < 0 then A1 else B1) = some res) (tgt pc2 : Nat) (hdg : decode cc pc = .ok (.ifCond .lt off, 3)) (ht : (pc : Int) + off = (tgt : Int)) (hp : pc + 3 = pc2) (kt : A1 = some res → NN D A p l e R s m args below meth c nL cells slots Q ws tgt lv st) (kf : B1 = some res → NN D A p l e R s m args below meth c nL cells slots Q ws pc2 lv st) : NN D A p l e R s m args below meth c nL cells slots Q ws pc lv (.int x :: st) := by
  subst hp
  intro H locs ls hP hD hS hl
  by_cases hc : x < 0
  · rw [if_pos hc] at hF
    exact lv_if_lt X.1.1 X.1.2.1 hdg ht (fun _ => kt hF H locs ls hP hD hS hl) (fun q => absurd hc q)
  · rw [if_neg hc] at hF
    exact lv_if_lt X.1.1 X.1.2.1 hdg ht (fun q => absurd q hc) (fun _ => kf hF H locs ls hP hD hS hl)
theorem q_if_ge {ρ : Type} {A1 B1 : Option ρ} {res : ρ} {x : Int32} {off : Int} (X : CN D tys A Z p s m args meth c cc nL own ret) (hF : (if x < 0 then A1 else B1) = some res) (tgt pc2 : Nat) (hdg : decode cc pc = .ok (.ifCond .ge off, 3)) (ht : (pc : Int) + off = (tgt : Int)) (hp : pc + 3 = pc2) (kt : A1 = some res → NN D A p l e R s m args below meth c nL cells slots Q ws pc2 lv st) (kf : B1 = some res → NN D A p l e R s m args below meth c nL cells slots Q ws tgt lv st) : NN D A p l e R s m args below meth c nL cells slots Q ws pc lv (.int x :: st) := by
  subst hp
  intro H locs ls hP hD hS hl
  by_cases hc : x < 0
  · rw [if_pos hc] at hF
    exact lv_if_ge X.1.1 X.1.2.1 hdg ht (fun q => absurd hc (Int32.not_lt.mpr q)) (fun _ => kt hF H locs ls hP hD hS hl)
  · rw [if_neg hc] at hF
    exact lv_if_ge X.1.1 X.1.2.1 hdg ht (fun _ => kf hF H locs ls hP hD hS hl) (fun q => absurd (Int32.not_lt.mp hc) q)
theorem q_if_gt {ρ : Type} {A1 B1 : Option ρ} {res : ρ} {x : Int32} {off : Int} (X : CN D tys A Z p s m args meth c cc nL own ret) (hF : (if 0 < x then A1 else B1) = some res) (tgt pc2 : Nat) (hdg : decode cc pc = .ok (.ifCond .gt off, 3)) (ht : (pc : Int) + off = (tgt : Int)) (hp : pc + 3 = pc2) (kt : A1 = some res → NN D A p l e R s m args below meth c nL cells slots Q ws tgt lv st) (kf : B1 = some res → NN D A p l e R s m args below meth c nL cells slots Q ws pc2 lv st) : NN D A p l e R s m args below meth c nL cells slots Q ws pc lv (.int x :: st) := by
  subst hp
  intro H locs ls hP hD hS hl
  by_cases hc : 0 < x
  · rw [if_pos hc] at hF
    exact lv_if_gt X.1.1 X.1.2.1 hdg ht (fun _ => kt hF H locs ls hP hD hS hl) (fun q => absurd hc q)
  · rw [if_neg hc] at hF
    exact lv_if_gt X.1.1 X.1.2.1 hdg ht (fun q => absurd q hc) (fun _ => kf hF H locs ls hP hD hS hl)
theorem q_if_le {ρ : Type} {A1 B1 : Option ρ} {res : ρ} {x : Int32} {off : Int} (X : CN D tys A Z p s m args meth c cc nL own ret) (hF : (if 0 < x then A1 else B1) = some res) (tgt pc2 : Nat) (hdg : decode cc pc = .ok (.ifCond .le off, 3)) (ht : (pc : Int) + off = (tgt : Int)) (hp : pc + 3 = pc2) (kt : A1 = some res → NN D A p l e R s m args below meth c nL cells slots Q ws pc2 lv st) (kf : B1 = some res → NN D A p l e R s m args below meth c nL cells slots Q ws tgt lv st) : NN D A p l e R s m args below meth c nL cells slots Q ws pc lv (.int x :: st) := by
  subst hp
  intro H locs ls hP hD hS hl
  by_cases hc : 0 < x
  · rw [if_pos hc] at hF
    exact lv_if_le X.1.1 X.1.2.1 hdg ht (fun q => absurd hc (Int32.not_lt.mpr q)) (fun _ => kt hF H locs ls hP hD hS hl)
  · rw [if_neg hc] at hF
    exact lv_if_le X.1.1 X.1.2.1 hdg ht (fun _ => kf hF H locs ls hP hD hS hl) (fun q => absurd (Int32.not_lt.mp hc) q)
theorem q_keep {lv2 : List (Nat × Value)} (ks : List Nat) (h : lv_pick lv ks = lv2) (kk : NN D A p l e R s m args below meth c nL cells slots Q ws pc lv2 st) : NN D A p l e R s m args below meth c nL cells slots Q ws pc lv st := fun H locs ls hP hD hS hl => kk H locs ls hP hD hS (lv_sub hl ks h)
theorem q_i2c {x : Int32} (X : CN D tys A Z p s m args meth c cc nL own ret) (hdg : decode cc pc = .ok (.i2c, 1)) (pc2 : Nat) (hp : pc + 1 = pc2) (kk : NN D A p l e R s m args below meth c nL cells slots Q ws pc2 lv (.int (x.toUInt32 % 65536).toInt32 :: st)) : NN D A p l e R s m args below meth c nL cells slots Q ws pc lv (.int x :: st) := by
  subst hp
  exact fun H locs ls hP hD hS hl => lv_i2c X.1.1 X.1.2.1 hdg rfl (kk H locs ls hP hD hS hl)
theorem q_dup_x1 {u v : Value} (X : CN D tys A Z p s m args meth c cc nL own ret) (hdg : decode cc pc = .ok (.dup_x1, 1)) (hu : u.category = 1) (hv : v.category = 1) (pc2 : Nat) (hp : pc + 1 = pc2) (kk : NN D A p l e R s m args below meth c nL cells slots Q ws pc2 lv (u :: v :: u :: st)) : NN D A p l e R s m args below meth c nL cells slots Q ws pc lv (u :: v :: st) := by
  subst hp
  exact fun H locs ls hP hD hS hl => lv_dup_x1 X.1.1 X.1.2.1 hdg hu hv (kk H locs ls hP hD hS hl)
theorem q_null (X : CN D tys A Z p s m args meth c cc nL own ret) (hdg : decode cc pc = .ok (.aconst_null, 1)) (pc2 : Nat) (hp : pc + 1 = pc2) (kk : NN D A p l e R s m args below meth c nL cells slots Q ws pc2 lv (.null :: st)) : NN D A p l e R s m args below meth c nL cells slots Q ws pc lv st := by
  subst hp
  exact fun H locs ls hP hD hS hl => lv_null X.1.1 X.1.2.1 hdg (kk H locs ls hP hD hS hl)
theorem q_ifnonnull {q : Nat} {off : Int} (X : CN D tys A Z p s m args meth c cc nL own ret) (tgt : Nat) (hdg : decode cc pc = .ok (.ifnonnull off, 3)) (ht : (pc : Int) + off = (tgt : Int)) (kk : NN D A p l e R s m args below meth c nL cells slots Q ws tgt lv st) : NN D A p l e R s m args below meth c nL cells slots Q ws pc lv (.ref q :: st) :=
  fun H locs ls hP hD hS hl => lv_ifnonnull X.1.1 X.1.2.1 hdg ht (kk H locs ls hP hD hS hl)
/-- an int by another name -/
theorem q_as {x : Int32} (y : Int32) (h : x = y) (kk : NN D A p l e R s m args below meth c nL cells slots Q ws pc lv (.int y :: st)) : NN D A p l e R s m args below meth c nL cells slots Q ws pc lv (.int x :: st) := by
  subst h
  exact kk
theorem q_wd {k k2 : Nat} (h1 : cells ≤ k) (h2 : slots ≤ k2) (kk : NN D A p l e R s m args below meth c nL k k2 Q ws pc lv st) : NN D A p l e R s m args below meth c nL cells slots Q ws pc lv st := n_widen h1 h2 kk
/-- things by their place in the list -/
theorem q_get {v : Value} (X : CN D tys A Z p s m args meth c cc nL own ret) (k : Nat) {a ci : Nat} {fs : List Value} (he : ws[k]? = some (a, .inr (ci, fs))) {C ref : String} {T : u_T} {N index : Nat} (hc : vwCl[ci]? = some (C, T, N)) (hin : ∀ w ∈ u_ws C T N, w ∈ GW) (j : Nat) (hj : j < N) (hlk : Cond.fieldLink own index ref (T j).2.1 (T j).2.2.1 ∈ GW) (hr : (T j).1 = ref) (hv : fs[j]? = some v) (hdg : decode cc pc = .ok (.getfield index, 3)) (pc2 : Nat) (hp : pc + 3 = pc2) (kk : NN D A p l e R s m args below meth c nL cells slots Q ws pc2 lv (v :: st)) : NN D A p l e R s m args below meth c nL cells slots Q ws pc lv (.ref a :: st) := by
  subst hp
  exact fun H locs ls hP hD hS hl => va_get X.1.1 X.1.2.1 X.1.2.2.2.2 hin X.1.2.2.2.1 X.2.2.2.1 hP k he hc j hj (X.1.2.2.2.2 _ hlk) (fun _ h => by rw [hr] at h; exact h) hv hdg (kk H locs ls hP hD hS hl)
theorem q_put {v : Value} (X : CN D tys A Z p s m args meth c cc nL own ret) (k : Nat) {a ci : Nat} {fs : List Value} (w2 : va_W) (he : ws[k]? = some (a, .inr (ci, fs))) {C ref : String} {T : u_T} {N index : Nat} (hc : vwCl[ci]? = some (C, T, N)) (hin : ∀ w ∈ u_ws C T N, w ∈ GW) (ty0 : Nat → FieldType) (hty : ∀ k, k < N → parseFieldDescriptor (T k).2.2.1 = some (ty0 k)) (hnm : ∀ a, a < N → ∀ b, b < N → a ≠ b → (T a).2.1 ≠ (T b).2.1) (j : Nat) (hj : j < N) (hlk : Cond.fieldLink own index ref (T j).2.1 (T j).2.2.1 ∈ GW) (hr : (T j).1 = ref) (hfin : (T j).2.2.2 = false) (hn : narrow (ty0 j) v = v) (hfit : fits (ty0 j) v = true) (hl0 : j < fs.length) (hset : ws.set k (a, .inr (ci, fs.set j v)) = w2) (hdg : decode cc pc = .ok (.putfield index, 3)) (pc2 : Nat) (hp : pc + 3 = pc2) (kk : NN D A p l e R s m args below meth c nL cells slots Q w2 pc2 lv st) : NN D A p l e R s m args below meth c nL cells slots Q ws pc lv (v :: .ref a :: st) := by
  subst hp; subst hset
  exact fun H locs ls hP hD hS hl => va_put X.1.1 X.1.2.1 X.1.2.2.2.2 hin ty0 hty hnm X.1.2.2.2.1 X.2.2.2.1 hP hD hS k he hc j hj (X.1.2.2.2.2 _ hlk) (fun _ h => by rw [hr] at h; exact h) hfin (hty j hj) hn hfit hl0 hdg (fun H1 locs1 hP1 hD1 hS1 => kk H1 locs1 ls hP1 hD1 hS1 hl)
theorem q_putF {v : Value} (X : CN D tys A Z p s m args meth c cc nL own ret) (hi0 : meth.name = "<init>") (k : Nat) {a ci : Nat} {fs : List Value} (w2 : va_W) (he : ws[k]? = some (a, .inr (ci, fs))) {C ref : String} {T : u_T} {N index : Nat} (hc : vwCl[ci]? = some (C, T, N)) (hin : ∀ w ∈ u_ws C T N, w ∈ GW) (ty0 : Nat → FieldType) (hty : ∀ k, k < N → parseFieldDescriptor (T k).2.2.1 = some (ty0 k)) (hnm : ∀ a, a < N → ∀ b, b < N → a ≠ b → (T a).2.1 ≠ (T b).2.1) (j : Nat) (hj : j < N) (hlk : Cond.fieldLink own index ref (T j).2.1 (T j).2.2.1 ∈ GW) (hr : (T j).1 = ref) (ho : (T j).1 = own) (hfin : (T j).2.2.2 = true) (hn : narrow (ty0 j) v = v) (hfit : fits (ty0 j) v = true) (hl0 : j < fs.length) (hset : ws.set k (a, .inr (ci, fs.set j v)) = w2) (hdg : decode cc pc = .ok (.putfield index, 3)) (pc2 : Nat) (hp : pc + 3 = pc2) (kk : NN D A p l e R s m args below meth c nL cells slots Q w2 pc2 lv st) : NN D A p l e R s m args below meth c nL cells slots Q ws pc lv (v :: .ref a :: st) := by
  subst hp; subst hset
  exact fun H locs ls hP hD hS hl => va_putF X.1.1 X.1.2.1 X.1.2.2.2.2 hin ty0 hty hnm X.1.2.2.2.1 X.2.2.2.1 hP hD hS k he hc j hj (X.1.2.2.2.2 _ hlk) (fun _ h => by rw [hr] at h; exact h) hfin hi0 ho (hty j hj) hn hfit hl0 hdg (fun H1 locs1 hP1 hD1 hS1 => kk H1 locs1 ls hP1 hD1 hS1 hl)
theorem q_bal (X : CN D tys A Z p s m args meth c cc nL own ret) (k : Nat) {a : Nat} {cA : ClassId} {N t0 : Nat} {f : Nat → Int32} {i : Int32} (he : ws[k]? = some (a, .inl (cA, N, .inl f))) (ht : tys[t0]? = some (cA, .byte)) (hi : vp_in i N) (hdg : decode cc pc = .ok (.baload, 1)) (pc2 : Nat) (hp : pc + 1 = pc2) (kk : NN D A p l e R s m args below meth c nL cells slots Q ws pc2 lv (.int (f i.toNatClampNeg) :: st)) : NN D A p l e R s m args below meth c nL cells slots Q ws pc lv (.int i :: .ref a :: st) := by
  subst hp
  exact fun H locs ls hP hD hS hl => va_bald X.1.1 X.1.2.1 X.2.2.2.1 hP k t0 he ht hi hdg (kk H locs ls hP hD hS hl)
theorem q_bas (X : CN D tys A Z p s m args meth c cc nL own ret) (k : Nat) {a : Nat} {cA : ClassId} {N t0 : Nat} {f : Nat → Int32} {i x : Int32} (w2 : va_W) (he : ws[k]? = some (a, .inl (cA, N, .inl f))) (ht : tys[t0]? = some (cA, .byte)) (hi : vp_in i N) (hset : ws.set k (a, .inl (cA, N, .inl (upd f i.toNatClampNeg (vp_nar .byte x)))) = w2) (hdg : decode cc pc = .ok (.bastore, 1)) (pc2 : Nat) (hp : pc + 1 = pc2) (kk : NN D A p l e R s m args below meth c nL cells slots Q w2 pc2 lv st) : NN D A p l e R s m args below meth c nL cells slots Q ws pc lv (.int x :: .int i :: .ref a :: st) := by
  subst hp; subst hset
  exact fun H locs ls hP hD hS hl => va_bast X.1.1 X.1.2.1 X.2.2.2.1 hP hD hS k t0 he ht hi hdg (fun H1 locs1 hP1 hD1 hS1 => kk H1 locs1 ls hP1 hD1 hS1 hl)
theorem q_alen (X : CN D tys A Z p s m args meth c cc nL own ret) (k : Nat) (v : Int32) {a : Nat} {cA : ClassId} {ty : FieldType} {x : vp_A} {t0 : Nat} (he : ws[k]? = some (a, .inl (cA, x))) (ht : tys[t0]? = some (cA, ty)) (hv : Int32.ofNat x.1 = v) (hdg : decode cc pc = .ok (.arraylength, 1)) (pc2 : Nat) (hp : pc + 1 = pc2) (kk : NN D A p l e R s m args below meth c nL cells slots Q ws pc2 lv (.int v :: st)) : NN D A p l e R s m args below meth c nL cells slots Q ws pc lv (.ref a :: st) := by
  subst hp
  exact fun H locs ls hP hD hS hl => va_alen X.1.1 X.1.2.1 X.2.2.2.1 hP k t0 he ht hv hdg (kk H locs ls hP hD hS hl)
/-- System.arraycopy of bytes, both in the list; and out of a row that nobody writes -/
theorem q_copy {index : Nat} {a0 a1 n0 n1 t0 : Nat} {cA : ClassId} {f g : Nat → Int32} {sp dp nn : Int32} (X : CN D tys A Z p s m args meth c cc nL own ret) (k0 k1 : Nat) (w2 : va_W) (he0 : ws[k0]? = some (a0, .inl (cA, n0, .inl f))) (he1 : ws[k1]? = some (a1, .inl (cA, n1, .inl g))) (ht : tys[t0]? = some (cA, .byte)) (h1 : ¬ sp < 0) (h2 : ¬ dp < 0) (h3 : ¬ nn < 0) (h4 : sp.toNatClampNeg + nn.toNatClampNeg ≤ n0) (h5 : dp.toNatClampNeg + nn.toNatClampNeg ≤ n1) (hfit : ∀ i, fits .byte (.int (f i)) = true) (hset : ws.set k1 (a1, .inl (cA, n1, .inl (va_cpy f g sp.toNatClampNeg dp.toNatClampNeg nn.toNatClampNeg))) = w2) (w1 : Cond.methodLink own index arraycopyName ∈ GW) (hfr : 1 ≤ R.frames) (hlo : (st.map fun v => v.category).sum + (nativeFrameWords "java/lang/System" "arraycopy" 5 + 11) ≤ R.locals) (hdg : decode cc pc = .ok (.invokestatic index, 3)) (pc2 : Nat) (hp : pc + 3 = pc2) (kk : NN D A p l e R s m args below meth c nL cells slots Q w2 pc2 lv st) : NN D A p l e R s m args below meth c nL cells slots Q ws pc lv (.int nn :: .int dp :: .ref a1 :: .int sp :: .ref a0 :: st) := by
  subst hp; subst hset
  exact fun H locs ls hP hD hS hl => va_copyi X.1.1 X.1.2.1 (X.1.2.2.1.trans hl.1.symm) X.1.2.2.2.1 (X.1.2.2.2.2 _ w1) (X.1.2.2.2.2 _ kNat) (X.1.2.2.2.2 _ kStat) (X.1.2.2.2.2 _ kSys) X.2.2.2.1 hP hD hS k0 k1 t0 t0 he0 he1 ht ht rfl h1 h2 h3 h4 h5 (fun i _ => hfit _) hfr hlo hdg (fun H1 locs1 hP1 hD1 hS1 => kk H1 locs1 ls hP1 hD1 hS1 hl)
theorem q_copyT {index : Nat} {b0 a1 n0 n1 t0 : Nat} {cA : ClassId} {f g : Nat → Int32} {sp dp nn : Int32} (X : CN D tys A Z p s m args meth c cc nL own ret) (k1 : Nat) (w2 : va_W) (hT : va_T .byte b0 n0 (fun j => .int (f j)) A s s.heap) (he1 : ws[k1]? = some (a1, .inl (cA, n1, .inl g))) (ht : tys[t0]? = some (cA, .byte)) (h1 : ¬ sp < 0) (h2 : ¬ dp < 0) (h3 : ¬ nn < 0) (h4 : sp.toNatClampNeg + nn.toNatClampNeg ≤ n0) (h5 : dp.toNatClampNeg + nn.toNatClampNeg ≤ n1) (hfit : ∀ i, fits .byte (.int (f i)) = true) (hset : ws.set k1 (a1, .inl (cA, n1, .inl (va_cpy f g sp.toNatClampNeg dp.toNatClampNeg nn.toNatClampNeg))) = w2) (w1 : Cond.methodLink own index arraycopyName ∈ GW) (hfr : 1 ≤ R.frames) (hlo : (st.map fun v => v.category).sum + (nativeFrameWords "java/lang/System" "arraycopy" 5 + 11) ≤ R.locals) (hdg : decode cc pc = .ok (.invokestatic index, 3)) (pc2 : Nat) (hp : pc + 3 = pc2) (kk : NN D A p l e R s m args below meth c nL cells slots Q w2 pc2 lv st) : NN D A p l e R s m args below meth c nL cells slots Q ws pc lv (.int nn :: .int dp :: .ref a1 :: .int sp :: .ref b0 :: st) := by
  subst hp; subst hset
  exact fun H locs ls hP hD hS hl => vk_copyt X.1.1 X.1.2.1 (X.1.2.2.1.trans hl.1.symm) X.1.2.2.2.1 (X.1.2.2.2.2 _ w1) (X.1.2.2.2.2 _ kNat) (X.1.2.2.2.2 _ kStat) (X.1.2.2.2.2 _ kSys) X.2.2.2.1 hP hD hS hT k1 t0 he1 ht h1 h2 h3 h4 h5 (fun i _ => hfit _) hfr hlo hdg (fun H1 locs1 hP1 hD1 hS1 => kk H1 locs1 ls hP1 hD1 hS1 hl)
/-- String.COMPACT_STRINGS -/
theorem q_cmpS {tO index : Nat} {sK sV : Nat → Nat} (X : CN D tys A Z p s m args meth c cc nL own ret) (hO : ZO Z tO sK sV) (hlk : Cond.fieldLink own index "java/lang/String" "COMPACT_STRINGS" "Z" ∈ GW) (hdg : decode cc pc = .ok (.getstatic index, 3)) (pc2 : Nat) (hp : pc + 3 = pc2) (hA : A = A) (kk : NN D A p l e R s m args below meth c nL cells slots Q ws pc2 lv (.int 1 :: st)) : NN D A p l e R s m args below meth c nL cells slots Q ws pc lv st := by
  subst hp
  exact fun H locs ls hP hD hS hl => va_gets X.1.1 X.1.2.1 (hO _ _ _ X.2.2.2.2.2).2.2.2.1 hS X.1.2.2.2.1 (X.1.2.2.2.2 _ hlk) (fun _ h => h) hdg (kk H locs ls hP hD hS hl)
/-- what is known of a text that nobody writes -/
def zt (a v len : Nat) (f : Nat → Int32) (A : Nat → Prop) (U : State) (H : Heap) : Prop := va_O "java/lang/String" a A U H ∧ va_OF "java/lang/String" "coder" "B" (.int 0) a A U H ∧ va_OF "java/lang/String" "value" "[B" (.ref v) a A U H ∧ va_T .byte v len (fun j => .int (f j)) A U H
theorem q_txV {a v len index : Nat} {f : Nat → Int32} (X : CN D tys A Z p s m args meth c cc nL own ret) (hT : zt a v len f A s s.heap) (hlk : Cond.fieldLink own index "java/lang/String" "value" "[B" ∈ GW) (hdg : decode cc pc = .ok (.getfield index, 3)) (pc2 : Nat) (hp : pc + 3 = pc2) (kk : NN D A p l e R s m args below meth c nL cells slots Q ws pc2 lv (.ref v :: st)) : NN D A p l e R s m args below meth c nL cells slots Q ws pc lv (.ref a :: st) := by
  subst hp
  exact fun H locs ls hP hD hS hl => vk_getf X.1.1 X.1.2.1 hT.2.2.1 hS X.1.2.2.2.1 (X.1.2.2.2.2 _ hlk) (fun _ h => h) hdg (kk H locs ls hP hD hS hl)
theorem q_txC {a v len index : Nat} {f : Nat → Int32} (X : CN D tys A Z p s m args meth c cc nL own ret) (hT : zt a v len f A s s.heap) (hlk : Cond.fieldLink own index "java/lang/String" "coder" "B" ∈ GW) (hdg : decode cc pc = .ok (.getfield index, 3)) (pc2 : Nat) (hp : pc + 3 = pc2) (kk : NN D A p l e R s m args below meth c nL cells slots Q ws pc2 lv (.int 0 :: st)) : NN D A p l e R s m args below meth c nL cells slots Q ws pc lv (.ref a :: st) := by
  subst hp
  exact fun H locs ls hP hD hS hl => vk_getf X.1.1 X.1.2.1 hT.2.1 hS X.1.2.2.2.1 (X.1.2.2.2.2 _ hlk) (fun _ h => h) hdg (kk H locs ls hP hD hS hl)
theorem q_txL {a v len : Nat} {f : Nat → Int32} (X : CN D tys A Z p s m args meth c cc nL own ret) (hT : zt a v len f A s s.heap) (hdg : decode cc pc = .ok (.arraylength, 1)) (pc2 : Nat) (hp : pc + 1 = pc2) (kk : NN D A p l e R s m args below meth c nL cells slots Q ws pc2 lv (.int (Int32.ofNat len) :: st)) : NN D A p l e R s m args below meth c nL cells slots Q ws pc lv (.ref v :: st) := by
  subst hp
  exact fun H locs ls hP hD hS hl => va_tlen X.1.1 X.1.2.1 hT.2.2.2 hS rfl hdg (kk H locs ls hP hD hS hl)
theorem q_txB {a v len : Nat} {f : Nat → Int32} {i : Int32} (X : CN D tys A Z p s m args meth c cc nL own ret) (hT : zt a v len f A s s.heap) (hi : vp_in i len) (hdg : decode cc pc = .ok (.baload, 1)) (pc2 : Nat) (hp : pc + 1 = pc2) (kk : NN D A p l e R s m args below meth c nL cells slots Q ws pc2 lv (.int (f i.toNatClampNeg) :: st)) : NN D A p l e R s m args below meth c nL cells slots Q ws pc lv (.int i :: .ref v :: st) := by
  subst hp
  exact fun H locs ls hP hD hS hl => va_tb X.1.1 X.1.2.1 hT.2.2.2 hS hi rfl hdg (kk H locs ls hP hD hS hl)
/-- contracts over a list of things -/
def PLq (D : va_G) (tys : List (ClassId × FieldType)) (Z : (Nat → Prop) → State → Heap → Prop) (wc : va_W) (sz : Nat) (U : State) : Prop := U.heap.size = sz ∧ va_P D vwCl wc U.heap ∧ va_D (va_A wc sz) wc ∧ va_K D vwCl tys U ∧ Z (va_A wc sz) U U.heap
def QL (D : va_G) (wc : va_W) (Qf : Option Value → va_W → Prop) (sz : Nat) : Array Value → State → Outcome → State → Prop := fun _ st oc t => (∃ (v : Option Value) (w1 : va_W), oc = .returned v ∧ Qf v w1 ∧ va_P D vwCl w1 t.heap ∧ va_D (va_A wc sz) w1) ∧ va_F (va_A wc sz) st t
def LC (l : Launch) (D : va_G) (tys : List (ClassId × FieldType)) (Z : (Nat → Prop) → State → Heap → Prop) (y : MethodName) (cc : ByteArray) (nL : Nat) (ret : Option FieldType) (rm : Room) (av : List Value) (wc : va_W) (Qf : Option Value → va_W → Prop) : Prop :=
  ∀ sz : Nat, Met l y (Cond.code y cc nL ret :: GW) rm (va_Pc av (PLq D tys Z wc sz)) (QL D wc Qf sz) rm.cells rm.slots (va_A wc sz)
theorem va_A_le {wc : va_W} {sz sz' : Nat} (h : sz ≤ sz') : ∀ q, va_A wc sz' q → va_A wc sz q := fun q hq => hq.elim Or.inl (fun z => Or.inr (Nat.le_trans h z))
theorem qstart {y : MethodName} {rm : Room} {av : List Value} {wc : va_W} {Qf : Option Value → va_W → Prop} (ho : y.cls = own) (hy : plainName y.cls = true) (hn : (lg_sl av).length ≤ nL)
    (body : ∀ p e s m args below meth c Q, Q = MQ below (QL D wc Qf s.heap.size) args s rm.cells rm.slots (va_A wc s.heap.size) → CN D tys (va_A wc s.heap.size) Z p s m args meth c cc nL own ret → meth.name = y.name → NN D (va_A wc s.heap.size) p l e rm s m args below meth c nL 0 0 Q wc 0 (lv_args 0 av) []) : LC l D tys Z y cc nL ret rm av wc Qf := by
  subst ho
  intro sz
  refine Met.ofW (cc := cc) (maxL := nL) (ret := ret) hy rfl ?_
  intro p e s m args below meth c s₁ B hml hv
  obtain ⟨rfl, hsz, hP, hD, hK, hZ⟩ := hv
  subst hsz
  have hts := atoms_spec (ws := Cond.code y cc nL ret :: GW) B.pre
  rw [lg_entry_eq]
  exact body p e s m _ below meth c _ rfl ⟨⟨B.exec, B.bytes, hml, findClass_of_methodNamed B.named, fun w hw => hts w (List.mem_cons_of_mem _ hw)⟩, B.returns, B.notSynchronized, hK, fun x h => Or.inr h, hZ⟩ (name_of_methodNamed B.named B.method).1 s.heap [] _ hP hD va_S.rf (lv_entry av hn)
theorem q_iret {x : Int32} {wc : va_W} {Qf : Option Value → va_W → Prop} {rt : FieldType} {k1 k2 : Nat} (X : CN D tys (va_A wc s.heap.size) Z p s m args meth c cc nL own (some rt)) (hQ : Q = MQ below (QL D wc Qf s.heap.size) args s k1 k2 (va_A wc s.heap.size)) (hf : Qf (some (.int x)) ws) (hn : narrow rt (.int x) = .int x) (h1 : cells ≤ k1) (h2 : slots ≤ k2) (hdg : decode cc pc = .ok (.ireturn, 1)) : NN D (va_A wc s.heap.size) p l e R s m args below meth c nL cells slots Q ws pc lv [.int x] := by
  subst hQ
  exact fun H locs ls hP hD hS hl => W.widen h1 h2 (W.zret X.1.1 X.1.2.1 X.2.1 hn (fun t ht hW => ⟨⟨some (.int x), ws, rfl, hf, by rw [ht]; exact hP, hD⟩, hS.F ht⟩) hS.2.2 hdg X.2.2.1)
theorem q_vret {wc : va_W} {Qf : Option Value → va_W → Prop} {k1 k2 : Nat} (X : CN D tys (va_A wc s.heap.size) Z p s m args meth c cc nL own none) (hQ : Q = MQ below (QL D wc Qf s.heap.size) args s k1 k2 (va_A wc s.heap.size)) (hf : Qf none ws) (h1 : cells ≤ k1) (h2 : slots ≤ k2) (hdg : decode cc pc = .ok (.return_, 1)) : NN D (va_A wc s.heap.size) p l e R s m args below meth c nL cells slots Q ws pc lv [] := by
  subst hQ
  exact fun H locs ls hP hD hS hl => W.widen h1 h2 (W.vret X.1.1 X.1.2.1 X.2.1 (fun t ht hW => ⟨⟨none, ws, rfl, hf, by rw [ht]; exact hP, hD⟩, hS.F ht⟩) hS.2.2 hdg X.2.2.1)
theorem q_aret {a : Nat} {wc : va_W} {Qf : Option Value → va_W → Prop} {rt : FieldType} {k1 k2 : Nat} (X : CN D tys (va_A wc s.heap.size) Z p s m args meth c cc nL own (some rt)) (hrt : (∃ n, rt = .object n) ∨ ∃ t, rt = .array t) (hQ : Q = MQ below (QL D wc Qf s.heap.size) args s k1 k2 (va_A wc s.heap.size)) (hf : Qf (some (.ref a)) ws) (h1 : cells ≤ k1) (h2 : slots ≤ k2) (hdg : decode cc pc = .ok (.areturn, 1)) : NN D (va_A wc s.heap.size) p l e R s m args below meth c nL cells slots Q ws pc lv [.ref a] := by
  subst hQ
  exact fun H locs ls hP hD hS hl => W.widen h1 h2 (W.aret X.1.1 X.1.2.1 X.2.1 hrt (Or.inr ⟨a, rfl⟩) (fun t ht hW => ⟨⟨some (.ref a), ws, rfl, hf, by rw [ht]; exact hP, hD⟩, hS.F ht⟩) hS.2.2 hdg X.2.2.1)
/-- the frame rule: what a callee does to its part of the list -/
theorem wl_fr {wc wr w1 : va_W} {A : Nat → Prop} {H H1 : Heap} (hP : va_P D vwCl (wc ++ wr) H) (hD : va_D A (wc ++ wr)) (hP1 : va_P D vwCl w1 H1) (hD1 : va_D (va_A wc H.size) w1) (hsub : ∀ q, va_A wc H.size q → A q) (hk : ∀ q : Nat, q < H.size → ¬ va_A wc H.size q → H1[q]? = H[q]?) : va_P D vwCl (w1 ++ wr) H1 ∧ va_D A (w1 ++ wr) := by
  have hr : ∀ (j : Nat) (q : Nat × va_E), wr[j]? = some q → (wc ++ wr)[wc.length + j]? = some q := fun j q h => by
    rw [List.getElem?_append_right (by omega), show wc.length + j - wc.length = j by omega]
    exact h
  have hnot : ∀ (j : Nat) (q : Nat × va_E), wr[j]? = some q → q.1 < H.size ∧ ¬ va_A wc H.size q.1 := fun j q h => by
    have h0 := hP _ q (hr j q h)
    have hlt : q.1 < H.size := h0.lt
    refine ⟨hlt, fun hA => ?_⟩
    rcases hA with ⟨k, e, hk2⟩ | hA
    · have hk3 : (wc ++ wr)[k]? = some (q.1, e) := by
        rw [List.getElem?_append_left (List.getElem?_eq_some_iff.mp hk2).1]
        exact hk2
      have := hD.1 k (wc.length + j) (q.1, e) q hk3 (hr j q h) rfl
      have := (List.getElem?_eq_some_iff.mp hk2).1
      omega
    · omega
  have hw : ∀ (k : Nat) (q : Nat × va_E), (w1 ++ wr)[k]? = some q → (w1[k]? = some q ∧ k < w1.length) ∨ ∃ j, k = w1.length + j ∧ wr[j]? = some q := fun k q hq => by
    by_cases h : k < w1.length
    · rw [List.getElem?_append_left h] at hq
      exact Or.inl ⟨hq, h⟩
    · rw [List.getElem?_append_right (by omega)] at hq
      exact Or.inr ⟨k - w1.length, by omega, hq⟩
  refine ⟨fun k q hq => ?_, fun i j p q hp hq he => ?_, fun k q hq => ?_⟩
  · rcases hw k q hq with ⟨h, -⟩ | ⟨j, -, h⟩
    · exact hP1 k q h
    · obtain ⟨h1, h2⟩ := hnot j q h
      refine (va_P.kept (ws := [q]) (H := H) (fun k3 q3 h3 => ?_) (fun k3 q3 h3 => ?_)) 0 q rfl
      · have : k3 = 0 := by
          have := (List.getElem?_eq_some_iff.mp h3).1
          simp at this
          exact this
        subst this
        cases h3
        exact hP _ q (hr j q h)
      · have : k3 = 0 := by
          have := (List.getElem?_eq_some_iff.mp h3).1
          simp at this
          exact this
        subst this
        cases h3
        exact hk _ h1 h2
  · rcases hw i p hp with ⟨h1, b1⟩ | ⟨i2, e1, h1⟩ <;> rcases hw j q hq with ⟨h2, b2⟩ | ⟨j2, e2, h2⟩
    · exact hD1.1 i j p q h1 h2 he
    · exact absurd (hD1.2 i p h1) (by rw [he]; exact (hnot j2 q h2).2)
    · exact absurd (hD1.2 j q h2) (by rw [← he]; exact (hnot i2 p h1).2)
    · have := hD.1 _ _ p q (hr i2 p h1) (hr j2 q h2) he
      omega
  · rcases hw k q hq with ⟨h, -⟩ | ⟨j, -, h⟩
    · exact hsub _ (hD1.2 k q h)
    · exact hD.2 _ q (hr j q h)
theorem wl_sub {wc wr : va_W} {A : Nat → Prop} {sz0 sz : Nat} (hD : va_D A (wc ++ wr)) (hA : ∀ q : Nat, sz0 ≤ q → A q) (h : sz0 ≤ sz) : ∀ q, va_A wc sz q → A q := fun q hq => by
  rcases hq with ⟨k, e, hk⟩ | hq
  · exact hD.2 k (q, e) (by
      rw [List.getElem?_append_left (List.getElem?_eq_some_iff.mp hk).1]
      exact hk)
  · exact hA q (Nat.le_trans h hq)
theorem PL_bl (hZ : ZOK Z) {av : List Value} {wc : va_W} {sz : Nat} : FrameBlind (va_Pc av (PLq D tys Z wc sz)) := fun a U g mk q => by
  obtain ⟨q0, q1, qP, qD, qK, qZ⟩ := q
  exact ⟨q0, q1, qP, qD, va_K.moved (u := U) (U := U.calling g mk a) (Vm.Alike.refl U.vm) qK, hZ.2.2 _ U _ _ (Or.inl rfl) qZ⟩
theorem PL_of (X : CN D tys A Z p s m args meth c cc nL own ret) (hZ : ZOK Z) {wc wr : va_W} {H : Heap} {locs : List Loc} (hP : va_P D vwCl (wc ++ wr) H) (hD : va_D A (wc ++ wr)) (hS : va_S A s.heap H locs) {U : State} (hU : U.heap = H) (hW : s.WarmedH U.vm) : PLq D tys Z wc H.size U := by
  refine ⟨by rw [hU], by rw [hU]; exact wP_l hP, ⟨(wD_l hD).1, fun k q hk => Or.inl ⟨k, q.2, hk⟩⟩, va_K.moved hW.alike X.2.2.2.1, ?_⟩
  refine hZ.2.2 _ s _ _ (Or.inr hW) ?_
  rw [hU]
  exact hZ.2.1 _ _ _ _ (hZ.1 _ _ _ _ X.2.2.2.2.2 (fun a ha hn => hS.2.1 a ha hn)) (wl_sub hD X.2.2.2.2.1 hS.1)
/-- behind any call that ran -/
theorem q_ran {rm : Room} {wc wr : va_W} {Qf : Option Value → va_W → Prop} {pc2 : Nat} {stk : List Value} {H : Heap} {locs : List Loc} {ls : Array Slot} {a : Array Value} (X : CN D tys A Z p s m args meth c cc nL own ret) (hP : va_P D vwCl (wc ++ wr) H) (hD : va_D A (wc ++ wr)) (hS : va_S A s.heap H locs) (hl : lv_has ls nL lv) (hp : pc + 3 = pc2) (hr : va_Run p l e R s m args below meth c H locs cells slots rm.cells rm.slots (F0 m pc ls stk) st (QL D wc Qf H.size a) (va_A wc H.size)) (kk : ∀ (v : Option Value) (w1 : va_W), Qf v w1 → NN D A p l e R s m args below meth c nL (cells + rm.cells) (slots + rm.slots) Q (w1 ++ wr) pc2 lv (v.toList ++ st)) : W p l e R s m args below meth c H locs cells slots Q (F0 m pc ls stk) := by
  subst hp
  intro T hT XT
  obtain ⟨v, st₀, t, T', L, h0, X', hL, e1, e2, ⟨⟨v', w1, hv, hf, hB, hDB⟩, hz, hk⟩, st9⟩ := hr T hT XT
  cases hv
  rw [h0] at hz hk
  have hsub := wl_sub hD X.2.2.2.2.1 hS.1
  have hk1 : ∀ x : Nat, x < H.size → ¬ va_A wc H.size x → T'.heap[x]? = H[x]? := fun x h1 h2 => by rw [e1]; exact hk x h1 h2
  have hS1 : va_S A s.heap T'.heap (locs ++ L) := ⟨Nat.le_trans hS.1 (by rw [e1]; exact hz), fun x h1 h2 => by
    rw [e1, hk x (Nat.lt_of_lt_of_le h1 hS.1) (fun z => h2 (hsub x z))]
    exact hS.2.1 x h1 h2, fun x hx => by
    rcases List.mem_append.mp hx with h | h
    · exact hS.2.2 x h
    · exact hsub _ (hL x h)⟩
  rw [← e1] at hB
  obtain ⟨hP1, hD1⟩ := wl_fr hP hD hB hDB hsub hk1
  obtain ⟨t2, a1, b1⟩ := kk v w1 hf T'.heap (locs ++ L) ls hP1 hD1 hS1 hl T' rfl X'
  exact ⟨t2, st9 t2 a1, b1⟩
theorem q_ranF {rm : Room} {wc wr : va_W} {Qf : Option Value → va_W → Prop} {pc2 : Nat} {stk : List Value} {H : Heap} {locs : List Loc} {ls : Array Slot} {a : Array Value} (X : CN D tys A Z p s m args meth c cc nL own ret) (hP : va_P D vwCl (wc ++ wr) H) (hD : va_D A (wc ++ wr)) (hS : va_S A s.heap H locs) (hl : lv_has ls nL lv) (hp : pc + 5 = pc2) (hr : va_Run5 p l e R s m args below meth c H locs cells slots rm.cells rm.slots (F0 m pc ls stk) st (QL D wc Qf H.size a) (va_A wc H.size)) (kk : ∀ (v : Option Value) (w1 : va_W), Qf v w1 → NN D A p l e R s m args below meth c nL (cells + rm.cells) (slots + rm.slots) Q (w1 ++ wr) pc2 lv (v.toList ++ st)) : W p l e R s m args below meth c H locs cells slots Q (F0 m pc ls stk) := by
  subst hp
  intro T hT XT
  obtain ⟨v, st₀, t, T', L, h0, X', hL, e1, e2, ⟨⟨v', w1, hv, hf, hB, hDB⟩, hz, hk⟩, st9⟩ := hr T hT XT
  cases hv
  rw [h0] at hz hk
  have hsub := wl_sub hD X.2.2.2.2.1 hS.1
  have hk1 : ∀ x : Nat, x < H.size → ¬ va_A wc H.size x → T'.heap[x]? = H[x]? := fun x h1 h2 => by rw [e1]; exact hk x h1 h2
  have hS1 : va_S A s.heap T'.heap (locs ++ L) := ⟨Nat.le_trans hS.1 (by rw [e1]; exact hz), fun x h1 h2 => by
    rw [e1, hk x (Nat.lt_of_lt_of_le h1 hS.1) (fun z => h2 (hsub x z))]
    exact hS.2.1 x h1 h2, fun x hx => by
    rcases List.mem_append.mp hx with h | h
    · exact hS.2.2 x h
    · exact hsub _ (hL x h)⟩
  rw [← e1] at hB
  obtain ⟨hP1, hD1⟩ := wl_fr hP hD hB hDB hsub hk1
  obtain ⟨t2, a1, b1⟩ := kk v w1 hf T'.heap (locs ++ L) ls hP1 hD1 hS1 hl T' rfl X'
  exact ⟨t2, st9 t2 a1, b1⟩
theorem q_callV {y : MethodName} {bytes : ByteArray} {nY index na : Nat} {rt : Option FieldType} {rm : Room} {wc : va_W} {Qf : Option Value → va_W → Prop} {stk : List Value} (X : CN D tys A Z p s m args meth c cc nL own ret) (hZ : ZOK Z) (As : List Value) (wr : va_W) (hw : ws = wc ++ wr) (k : Nat) {a ci : Nat} {fs : List Value} {q : vw_C} (he : ws[k]? = some (a, .inr (ci, fs))) (hq : vwCl[ci]? = some q) (hqy : y.cls = q.1) (hs : As.reverse ++ .ref a :: st = stk) (b : MB y bytes nY rt na) (w1 : Cond.methodLink own index y ∈ GW) (hM : LC l D tys Z y bytes nY rt rm (.ref a :: As) wc Qf) (hna : As.length = na) (hR : rm.frames + 1 ≤ R.frames ∧ 8 + (nY + 11) + rm.locals ≤ R.locals) (hst : (st.map fun v => v.category).sum ≤ 8) (hcs : cells + rm.cells ≤ R.cells ∧ slots + rm.slots ≤ R.slots) (hdg : decode cc pc = .ok (.invokevirtual index, 3)) (pc2 : Nat) (hp : pc + 3 = pc2) (kk : ∀ (v : Option Value) (w1 : va_W), Qf v w1 → NN D A p l e R s m args below meth c nL (cells + rm.cells) (slots + rm.slots) Q (w1 ++ wr) pc2 lv (v.toList ++ st)) : NN D A p l e R s m args below meth c nL cells slots Q ws pc lv stk := by
  subst hs; subst hw
  intro H locs ls hP hD hS hl
  have hpre : ∀ U : State, U.heap = H → s.WarmedH U.vm → va_Pc (.ref a :: As) (PLq D tys Z wc H.size) ((.ref a :: As) : List Value).toArray U := fun U hU hW => ⟨rfl, PL_of X hZ hP hD hS hU hW⟩
  obtain ⟨w2, w4, w3, w5, hd⟩ := b
  have hg : GoodIn GW (Cond.code y bytes nY rt :: GW) := gw_cons w5
  have cw : CallW R s args own y.cls index y bytes nY rt (Cond.code y bytes nY rt :: GW) rm rm.cells rm.slots na := ⟨callB_of na X.1.2.2.2.2 hg rfl rfl rfl (X.1.2.2.2.2 _ w3) (X.1.2.2.2.2 _ w1) hd hR, X.1.2.2.2.2 _ w2, X.1.2.2.2.2 _ w4⟩
  have hrv : ∃ cellB : Cell, H[a]? = some cellB ∧ cellB.vm.isStatics = false ∧ s.vm.findClass y.cls = some cellB.cls := by
    rw [hqy]
    exact va_recv X.2.2.2.1 hP hq he
  exact q_ran X hP hD hS hl hp (va_runV (rest := st) X.1 (hM H.size) cw ⟨PL_bl hZ, hrv, hpre⟩ (g := F0 m pc ls (As.reverse ++ .ref a :: st)) (H := H) (locs := locs) (cells := cells) (slots := slots) (below := below) (e := e) (meth := meth) rfl hna hl.1 rfl (lv_room hst) hdg hcs) kk
/-- .. of a text that nobody writes -/
theorem q_callT {y : MethodName} {bytes : ByteArray} {nY index na : Nat} {rt : Option FieldType} {rm : Room} {wc : va_W} {Qf : Option Value → va_W → Prop} {stk : List Value} {a v len : Nat} {f : Nat → Int32} (X : CN D tys A Z p s m args meth c cc nL own ret) (hZ : ZOK Z) (As : List Value) (wr : va_W) (hw : ws = wc ++ wr) (hT : zt a v len f A s s.heap) (hqy : y.cls = "java/lang/String") (hs : As.reverse ++ .ref a :: st = stk) (b : MB y bytes nY rt na) (w1 : Cond.methodLink own index y ∈ GW) (hM : LC l D tys Z y bytes nY rt rm (.ref a :: As) wc Qf) (hna : As.length = na) (hR : rm.frames + 1 ≤ R.frames ∧ 8 + (nY + 11) + rm.locals ≤ R.locals) (hst : (st.map fun v => v.category).sum ≤ 8) (hcs : cells + rm.cells ≤ R.cells ∧ slots + rm.slots ≤ R.slots) (hdg : decode cc pc = .ok (.invokevirtual index, 3)) (pc2 : Nat) (hp : pc + 3 = pc2) (kk : ∀ (v : Option Value) (w1 : va_W), Qf v w1 → NN D A p l e R s m args below meth c nL (cells + rm.cells) (slots + rm.slots) Q (w1 ++ wr) pc2 lv (v.toList ++ st)) : NN D A p l e R s m args below meth c nL cells slots Q ws pc lv stk := by
  subst hs; subst hw
  intro H locs ls hP hD hS hl
  have hpre : ∀ U : State, U.heap = H → s.WarmedH U.vm → va_Pc (.ref a :: As) (PLq D tys Z wc H.size) ((.ref a :: As) : List Value).toArray U := fun U hU hW => ⟨rfl, PL_of X hZ hP hD hS hU hW⟩
  obtain ⟨w2, w4, w3, w5, hd⟩ := b
  have hg : GoodIn GW (Cond.code y bytes nY rt :: GW) := gw_cons w5
  have cw : CallW R s args own y.cls index y bytes nY rt (Cond.code y bytes nY rt :: GW) rm rm.cells rm.slots na := ⟨callB_of na X.1.2.2.2.2 hg rfl rfl rfl (X.1.2.2.2.2 _ w3) (X.1.2.2.2.2 _ w1) hd hR, X.1.2.2.2.2 _ w2, X.1.2.2.2.2 _ w4⟩
  have hrv : ∃ cellB : Cell, H[a]? = some cellB ∧ cellB.vm.isStatics = false ∧ s.vm.findClass y.cls = some cellB.cls := by
    rw [hqy]
    obtain ⟨cell, g1, g2, g3, -⟩ := hT.1.kept hS.2.1
    exact ⟨cell, g1, g2, g3⟩
  exact q_ran X hP hD hS hl hp (va_runV (rest := st) X.1 (hM H.size) cw ⟨PL_bl hZ, hrv, hpre⟩ (g := F0 m pc ls (As.reverse ++ .ref a :: st)) (H := H) (locs := locs) (cells := cells) (slots := slots) (below := below) (e := e) (meth := meth) rfl hna hl.1 rfl (lv_room hst) hdg hcs) kk
theorem q_callS {y : MethodName} {bytes : ByteArray} {nY index na : Nat} {rt : Option FieldType} {rm : Room} {wc : va_W} {Qf : Option Value → va_W → Prop} {stk : List Value} (X : CN D tys A Z p s m args meth c cc nL own ret) (hZ : ZOK Z) (As : List Value) (wr : va_W) (hw : ws = wc ++ wr) (hs : As.reverse ++ st = stk) (b : SB y bytes nY rt na) (w1 : Cond.methodLink own index y ∈ GW) (hM : LC l D tys Z y bytes nY rt rm As wc Qf) (hna : As.length = na) (hR : rm.frames + 1 ≤ R.frames ∧ 8 + (nY + 11) + rm.locals ≤ R.locals) (hst : (st.map fun v => v.category).sum ≤ 8) (hcs : cells + rm.cells ≤ R.cells ∧ slots + rm.slots ≤ R.slots) (hdg : decode cc pc = .ok (.invokestatic index, 3)) (pc2 : Nat) (hp : pc + 3 = pc2) (kk : ∀ (v : Option Value) (w1 : va_W), Qf v w1 → NN D A p l e R s m args below meth c nL (cells + rm.cells) (slots + rm.slots) Q (w1 ++ wr) pc2 lv (v.toList ++ st)) : NN D A p l e R s m args below meth c nL cells slots Q ws pc lv stk := by
  subst hs; subst hw
  intro H locs ls hP hD hS hl
  have hpre : ∀ U : State, U.heap = H → s.WarmedH U.vm → va_Pc As (PLq D tys Z wc H.size) (As : List Value).toArray U := fun U hU hW => ⟨rfl, PL_of X hZ hP hD hS hU hW⟩
  obtain ⟨w2, w3, w5, hd⟩ := b
  have hg : GoodIn GW (Cond.code y bytes nY rt :: GW) := gw_cons w5
  have cw : CallB R s args own index y bytes nY rt (Cond.code y bytes nY rt :: GW) rm rm.cells rm.slots na ∧ (Cond.static y).before args s = true := ⟨callB_of na X.1.2.2.2.2 hg rfl rfl rfl (X.1.2.2.2.2 _ w3) (X.1.2.2.2.2 _ w1) hd hR, X.1.2.2.2.2 _ w2⟩
  exact q_ran X hP hD hS hl hp (va_runS (rest := st) X.1 (hM H.size) cw ⟨PL_bl hZ, hpre⟩ (g := F0 m pc ls (As.reverse ++ st)) (H := H) (locs := locs) (cells := cells) (slots := slots) (below := below) (e := e) (meth := meth) rfl hna hl.1 rfl (lv_room hst) hdg hcs) kk
theorem q_callI {y : MethodName} {bytes : ByteArray} {nY index na : Nat} {rm : Room} {wc : va_W} {Qf : Option Value → va_W → Prop} {stk : List Value} {a : Nat} (X : CN D tys A Z p s m args meth c cc nL own ret) (hZ : ZOK Z) (As : List Value) (wr : va_W) (hw : ws = wc ++ wr) (hs : As.reverse ++ .ref a :: st = stk) (b : IB y bytes nY na) (w1 : Cond.methodLink own index y ∈ GW) (hM : LC l D tys Z y bytes nY none rm (.ref a :: As) wc Qf) (hna : As.length = na) (hR : rm.frames + 1 ≤ R.frames ∧ 8 + (nY + 11) + rm.locals ≤ R.locals) (hst : (st.map fun v => v.category).sum ≤ 8) (hcs : cells + rm.cells ≤ R.cells ∧ slots + rm.slots ≤ R.slots) (hdg : decode cc pc = .ok (.invokespecial index, 3)) (pc2 : Nat) (hp : pc + 3 = pc2) (kk : ∀ (v : Option Value) (w1 : va_W), Qf v w1 → NN D A p l e R s m args below meth c nL (cells + rm.cells) (slots + rm.slots) Q (w1 ++ wr) pc2 lv (v.toList ++ st)) : NN D A p l e R s m args below meth c nL cells slots Q ws pc lv stk := by
  subst hs; subst hw
  intro H locs ls hP hD hS hl
  have hpre : ∀ U : State, U.heap = H → s.WarmedH U.vm → va_Pc (.ref a :: As) (PLq D tys Z wc H.size) ((.ref a :: As) : List Value).toArray U := fun U hU hW => ⟨rfl, PL_of X hZ hP hD hS hU hW⟩
  obtain ⟨w2, w3, w5, hy, hd⟩ := b
  have hg : GoodIn GW (Cond.code y bytes nY none :: GW) := gw_cons w5
  have cw : CallB R s args own index y bytes nY none (Cond.code y bytes nY none :: GW) rm rm.cells rm.slots na ∧ y.name = "<init>" ∧ (Cond.instanceMethod y).before args s = true := ⟨callB_of na X.1.2.2.2.2 hg rfl rfl rfl (X.1.2.2.2.2 _ w3) (X.1.2.2.2.2 _ w1) hd hR, hy, X.1.2.2.2.2 _ w2⟩
  exact q_ran X hP hD hS hl hp (va_runI (rest := st) X.1 (hM H.size) cw ⟨PL_bl hZ, hpre⟩ (g := F0 m pc ls (As.reverse ++ .ref a :: st)) (H := H) (locs := locs) (cells := cells) (slots := slots) (below := below) (e := e) (meth := meth) rfl hna hl.1 rfl (lv_room hst) hdg hcs) kk
end LLR
