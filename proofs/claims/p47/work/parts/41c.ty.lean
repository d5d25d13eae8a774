section TXU
variable {D : va_G} {A : Nat → Prop} {Z : (Nat → Prop) → State → Heap → Prop} {l : Launch} {ca : Nat → Nat} {tO : Nat} {sK sV : Nat → Nat}
theorem fits_z : ∀ i : Nat, fits .byte (.int ((fun _ => (0 : Int32)) i)) = true := fun _ => rfl
theorem fits_cp {f g : Nat → Int32} {sp dp n : Nat} (hf : ∀ i, fits .byte (.int (f i)) = true) (hg : ∀ i, fits .byte (.int (g i)) = true) : ∀ i, fits .byte (.int (va_cpy f g sp dp n i)) = true := fun i => by
  unfold va_cpy
  by_cases h : dp ≤ i ∧ i < dp + n
  · rw [if_pos h]; exact hf _
  · rw [if_neg h]; exact hg _
theorem fits_up {f : Nat → Int32} {k : Nat} {x : Int32} (hf : ∀ i, fits .byte (.int (f i)) = true) (hx : fits .byte (.int x) = true) : ∀ i, fits .byte (.int (upd f k x i)) = true := fun i => by
  unfold upd
  by_cases h : i = k
  · rw [if_pos h]; exact hx
  · rw [if_neg h]; exact hf _
theorem b128 : ∀ c : Fin 128, (nI c).toInt8.toInt32 = nI c ∧ vp_nar .byte (nI c) = nI c ∧ fits .byte (.int (nI c)) = true := by decide +kernel
theorem nI_i2b {c : Nat} (h : c < 128) : (nI c).toInt8.toInt32 = nI c := (b128 ⟨c, h⟩).1
theorem nI_nar {c : Nat} (h : c < 128) : vp_nar .byte (nI c) = nI c := (b128 ⟨c, h⟩).2.1
theorem nI_fit {c : Nat} (h : c < 128) : fits .byte (.int (nI c)) = true := (b128 ⟨c, h⟩).2.2
theorem d10 : ∀ c : Fin 10, (-10 : Int32) < -nI c ∧ (-100 : Int32) < -nI c ∧ ¬ -nI c < (-9 : Int32) ∧ -(-nI c) = nI c ∧ ¬ nI c < 0 := by decide +kernel
theorem nI_m10 {c : Nat} (h : c < 10) : (-10 : Int32) < -nI c := (d10 ⟨c, h⟩).1
theorem nI_m100 {c : Nat} (h : c < 10) : (-100 : Int32) < -nI c := (d10 ⟨c, h⟩).2.1
theorem nI_m9 {c : Nat} (h : c < 10) : ¬ -nI c < (-9 : Int32) := (d10 ⟨c, h⟩).2.2.1
theorem nI_mm {c : Nat} (h : c < 10) : -(-nI c) = nI c := (d10 ⟨c, h⟩).2.2.2.1
theorem nI_m0 (n : Nat) : nI n - 0 = nI n := by rw [← nI_0]; exact pk_sub (Nat.zero_le _)
/-- the tables of digits -/
def dgO (j : Nat) : Int32 := nI (48 + j % 10)
def zDg (tD : Nat) (A : Nat → Prop) (U : State) (H : Heap) : Prop := va_Z "java/lang/Integer" "DigitOnes" "[B" (.ref tD) A U H ∧ va_T .byte tD 100 (fun j => .int (dgO j)) A U H
section
variable {tys : List (ClassId × FieldType)} {p : Program} {e : Env} {R : Room} {s : State} {m : MethodId} {args : Array Value} {below : List Frame} {meth : Method} {c : Code} {cc : ByteArray} {nL : Nat} {own : String} {ret : Option FieldType} {cells slots : Nat} {Q : State → Prop} {ws : va_W} {pc : Nat} {lv : List (Nat × Value)} {st : List Value}
theorem q_digO {tD index : Nat} (X : CN D tys A Z p s m args meth c cc nL own ret) (hD : zDg tD A s s.heap) (hlk : Cond.fieldLink own index "java/lang/Integer" "DigitOnes" "[B" ∈ GW) (hdg : decode cc pc = .ok (.getstatic index, 3)) (pc2 : Nat) (hp : pc + 3 = pc2) (kk : NN D A p l e R s m args below meth c nL cells slots Q ws pc2 lv (.ref tD :: st)) : NN D A p l e R s m args below meth c nL cells slots Q ws pc lv st := by
  subst hp
  exact fun H locs ls hP hD1 hS hl => va_gets X.1.1 X.1.2.1 hD.1 hS X.1.2.2.2.1 (X.1.2.2.2.2 _ hlk) (fun _ h => h) hdg (kk H locs ls hP hD1 hS hl)
theorem q_digB {tD k : Nat} {i : Int32} (X : CN D tys A Z p s m args meth c cc nL own ret) (hD : zDg tD A s s.heap) (hi : i = nI k) (hk : k < 100) (hdg : decode cc pc = .ok (.baload, 1)) (pc2 : Nat) (hp : pc + 1 = pc2) (kk : NN D A p l e R s m args below meth c nL cells slots Q ws pc2 lv (.int (dgO k) :: st)) : NN D A p l e R s m args below meth c nL cells slots Q ws pc lv (.int i :: .ref tD :: st) := by
  subst hp; subst hi
  exact fun H locs ls hP hD1 hS hl => va_tb X.1.1 X.1.2.1 hD.2 hS (pk_in k 100 hk) (by show Value.int (dgO (nI k).toNatClampNeg) = _; rw [nI_clamp (by omega)]) hdg (kk H locs ls hP hD1 hS hl)
theorem q_fmtQ {tO index : Nat} {sK sV : Nat → Nat} (X : CN D tys A Z p s m args meth c cc nL own ret) (hO : ZO Z tO sK sV) (hlk : Cond.fieldLink own index "jdk/internal/util/Preconditions" "SIOOBE_FORMATTER" "Ljava/util/function/BiFunction;" ∈ GW) (hdg : decode cc pc = .ok (.getstatic index, 3)) (pc2 : Nat) (hp : pc + 3 = pc2) (kk : ∀ o : Option Nat, NN D A p l e R s m args below meth c nL cells slots Q ws pc2 lv (va_rf o :: st)) : NN D A p l e R s m args below meth c nL cells slots Q ws pc lv st := by
  subst hp
  intro H locs ls hP hD hS hl
  rcases (hO _ _ _ X.2.2.2.2.2).2.2.2.2 with h | ⟨t, h⟩
  · exact va_gets X.1.1 X.1.2.1 h hS X.1.2.2.2.1 (X.1.2.2.2.2 _ hlk) (fun _ h => h) hdg (kk none H locs ls hP hD hS hl)
  · exact va_gets X.1.1 X.1.2.1 h hS X.1.2.2.2.1 (X.1.2.2.2.2 _ hlk) (fun _ h => h) hdg (kk (some t) H locs ls hP hD hS hl)
end
def rmT4 : Room := { frames := 3, cells := 1, slots := 1000, locals := 90 }
theorem cpy00 {f g : Nat → Int32} {n j : Nat} (h : j < n) : va_cpy f g 0 0 n j = f j := by
  rw [pk_cpy_in (Nat.zero_le _) (by omega)]
  congr 1
  omega
set_option maxRecDepth 100000 in
theorem cl_ens {sb V n cap q : Nat} {f : Nat → Int32} (hZ : ZOK Z) (hV : ZVO Z) (hq : q ≤ 400) (hc : cap ≤ 1000) (hn : n ≤ cap) (hf : ∀ i, fits .byte (.int (f i)) = true) : LC l D (tyL ca) Z yJ5_ensureCapacityInternal_d00df cJ5_ensureCapacityInternal_d00df 3 none rmT4 [.ref sb, .int (nI q)] [(sb, .inr (14, [.ref V, .int 0, .int 0, .int (nI n)])), (V, .inl (ca 1, cap, .inl f))] (fun v w => v = none ∧ ∃ (V2 cap2 : Nat) (f2 : Nat → Int32), w = [(sb, .inr (14, [.ref V2, .int 0, .int 0, .int (nI n)])), (V2, .inl (ca 1, cap2, .inl f2))] ∧ q ≤ cap2 ∧ cap2 ≤ 1000 ∧ (∀ i, fits .byte (.int (f2 i)) = true) ∧ ∀ j, j < n → f2 j = f j) := by
  refine qstart (own := RJ5) rfl (by decide) (Nat.le_of_ble_eq_true rfl) ?_
  intro p e s m args below meth c Q hQ X hi
  by_cases h : q ≤ cap
  · refine q_aload_n X 0 dJ5_ensureCapacityInternal_d00df_0 rfl rfl 1 rfl ?_
    refine q_get X 0 rfl (T := TJ4) (N := 4) rfl in_J4 0 (by decide) kF_J5_15 rfl rfl dJ5_ensureCapacityInternal_d00df_1 4 rfl ?_
    refine q_alen X 1 (nI cap) rfl (t0 := 1) rfl rfl dJ5_ensureCapacityInternal_d00df_4 5 rfl ?_
    refine q_aload_n X 0 dJ5_ensureCapacityInternal_d00df_5 rfl rfl 6 rfl ?_
    refine q_get X 0 rfl (T := TJ4) (N := 4) rfl in_J4 1 (by decide) kF_J5_22 rfl rfl dJ5_ensureCapacityInternal_d00df_6 9 rfl ?_
    refine q_ishr X dJ5_ensureCapacityInternal_d00df_9 10 rfl ?_
    refine q_as (nI cap) (nI_shr0 _ (by omega)) ?_
    refine q_istore_n X [(2, .int (nI cap)), (0, .ref sb), (1, .int (nI q))] dJ5_ensureCapacityInternal_d00df_10 rfl (by decide) rfl 11 rfl ?_
    refine q_iload_n X 2 dJ5_ensureCapacityInternal_d00df_11 rfl rfl 12 rfl ?_
    refine q_iload_n X 0 dJ5_ensureCapacityInternal_d00df_12 rfl rfl 13 rfl ?_
    refine q_isub X dJ5_ensureCapacityInternal_d00df_13 14 rfl ?_
    refine q_if_le (A1 := none) (B1 := some ()) (res := ()) X (if_neg (nI_snl (by omega) (by omega))) 38 17 dJ5_ensureCapacityInternal_d00df_14 (by decide) rfl (fun z => nomatch z) (fun _ => ?_)
    exact q_vret X hQ ⟨rfl, V, cap, f, rfl, h, hc, hf, fun _ _ => rfl⟩ (by first | exact Nat.zero_le _ | exact Nat.le_of_ble_eq_true rfl | exact Nat.le_refl _ | (simp only [rmT4]; omega)) (by first | exact Nat.zero_le _ | exact Nat.le_of_ble_eq_true rfl | exact Nat.le_refl _ | (simp only [rmT4]; omega)) dJ5_ensureCapacityInternal_d00df_38
  · refine q_aload_n X 0 dJ5_ensureCapacityInternal_d00df_0 rfl rfl 1 rfl ?_
    refine q_get X 0 rfl (T := TJ4) (N := 4) rfl in_J4 0 (by decide) kF_J5_15 rfl rfl dJ5_ensureCapacityInternal_d00df_1 4 rfl ?_
    refine q_alen X 1 (nI cap) rfl (t0 := 1) rfl rfl dJ5_ensureCapacityInternal_d00df_4 5 rfl ?_
    refine q_aload_n X 0 dJ5_ensureCapacityInternal_d00df_5 rfl rfl 6 rfl ?_
    refine q_get X 0 rfl (T := TJ4) (N := 4) rfl in_J4 1 (by decide) kF_J5_22 rfl rfl dJ5_ensureCapacityInternal_d00df_6 9 rfl ?_
    refine q_ishr X dJ5_ensureCapacityInternal_d00df_9 10 rfl ?_
    refine q_as (nI cap) (nI_shr0 _ (by omega)) ?_
    refine q_istore_n X [(2, .int (nI cap)), (0, .ref sb), (1, .int (nI q))] dJ5_ensureCapacityInternal_d00df_10 rfl (by decide) rfl 11 rfl ?_
    refine q_iload_n X 2 dJ5_ensureCapacityInternal_d00df_11 rfl rfl 12 rfl ?_
    refine q_iload_n X 0 dJ5_ensureCapacityInternal_d00df_12 rfl rfl 13 rfl ?_
    refine q_isub X dJ5_ensureCapacityInternal_d00df_13 14 rfl ?_
    refine q_if_le (A1 := some ()) (B1 := none) (res := ()) X (if_pos (nI_spl (by omega) (by omega))) 38 17 dJ5_ensureCapacityInternal_d00df_14 (by decide) rfl (fun _ => ?_) (fun z => nomatch z)
    refine q_aload_n X 1 dJ5_ensureCapacityInternal_d00df_17 rfl rfl 18 rfl ?_
    refine q_aload_n X 1 dJ5_ensureCapacityInternal_d00df_18 rfl rfl 19 rfl ?_
    refine q_get X 0 rfl (T := TJ4) (N := 4) rfl in_J4 0 (by decide) kF_J5_15 rfl rfl dJ5_ensureCapacityInternal_d00df_19 22 rfl ?_
    refine q_aload_n X 1 dJ5_ensureCapacityInternal_d00df_22 rfl rfl 23 rfl ?_
    refine q_iload_n X 2 dJ5_ensureCapacityInternal_d00df_23 rfl rfl 24 rfl ?_
    refine q_callU X hZ [.int (nI q)] [] rfl 0 rfl (q := (RJ4, TJ4, 4)) rfl rfl rfl kU_J5_newCapacity_0f7a4 (sel_of X hV 1 rfl (fun _ => rfl)) kL_J5_104 (cl_newCap hZ (by omega) hq) rfl ⟨Nat.le_of_ble_eq_true rfl, Nat.le_of_ble_eq_true rfl⟩ (Nat.le_of_ble_eq_true rfl) ⟨Nat.le_of_ble_eq_true rfl, Nat.le_of_ble_eq_true rfl⟩ dJ5_ensureCapacityInternal_d00df_24 27 rfl ?_
    intro v w1 hq
    obtain ⟨rfl, rfl⟩ := hq
    refine q_aload_n X 1 dJ5_ensureCapacityInternal_d00df_27 rfl rfl 28 rfl ?_
    refine q_get X 0 rfl (T := TJ4) (N := 4) rfl in_J4 1 (by decide) kF_J5_22 rfl rfl dJ5_ensureCapacityInternal_d00df_28 31 rfl ?_
    refine q_ishl X dJ5_ensureCapacityInternal_d00df_31 32 rfl ?_
    refine q_as (nI (cap + max (q - cap) (cap + 2))) (nI_shl0 _ (by omega)) ?_
    refine n_perm (ws' := [(V, .inl (ca 1, cap, .inl f)), (sb, .inr (14, [.ref V, .int 0, .int 0, .int (nI n)]))]) (List.Perm.swap _ _ _) ?_
    refine q_callS X hZ [.ref V, .int (nI (cap + max (q - cap) (cap + 2)))] [(sb, .inr (14, [.ref V, .int 0, .int 0, .int (nI n)]))] rfl rfl kB_J7_copyOf_9075b kL_J5_108 (cl_copyOf (by omega) (by omega) hf) rfl ⟨Nat.le_of_ble_eq_true rfl, Nat.le_of_ble_eq_true rfl⟩ (Nat.le_of_ble_eq_true rfl) ⟨Nat.le_of_ble_eq_true rfl, Nat.le_of_ble_eq_true rfl⟩ dJ5_ensureCapacityInternal_d00df_32 35 rfl ?_
    intro v w1 hq
    obtain ⟨V2, rfl, rfl⟩ := hq
    refine q_put X 2 [(V, .inl (ca 1, cap, .inl f)), (V2, .inl (ca 1, (cap + max (q - cap) (cap + 2)), .inl (va_cpy f (fun _ => 0) 0 0 cap))), (sb, .inr (14, [.ref V2, .int 0, .int 0, .int (nI n)]))] rfl (T := TJ4) (N := 4) rfl in_J4 tyJ4 tyJ4_ok nmJ4 0 (by decide) kF_J5_15 rfl rfl rfl rfl (Nat.le_of_ble_eq_true rfl) rfl dJ5_ensureCapacityInternal_d00df_35 38 rfl ?_
    refine q_sub [(V2, .inl (ca 1, (cap + max (q - cap) (cap + 2)), .inl (va_cpy f (fun _ => 0) 0 0 cap))), (sb, .inr (14, [.ref V2, .int 0, .int 0, .int (nI n)]))] (by repeat first | exact List.Sublist.refl _ | apply List.Sublist.cons₂ | apply List.Sublist.cons) ?_
    refine n_perm (ws' := [(sb, .inr (14, [.ref V2, .int 0, .int 0, .int (nI n)])), (V2, .inl (ca 1, (cap + max (q - cap) (cap + 2)), .inl (va_cpy f (fun _ => 0) 0 0 cap)))]) (List.Perm.swap _ _ _) ?_
    exact q_vret X hQ ⟨rfl, V2, _, _, rfl, by omega, by omega, fits_cp hf fits_z, fun j hj => cpy00 (by omega)⟩ (by first | exact Nat.zero_le _ | exact Nat.le_of_ble_eq_true rfl | exact Nat.le_refl _ | (simp only [rmT4, rmT2, rmT3]; omega)) (by first | exact Nat.zero_le _ | exact Nat.le_of_ble_eq_true rfl | exact Nat.le_refl _ | (simp only [rmT4, rmT2, rmT3]; omega)) dJ5_ensureCapacityInternal_d00df_38
set_option maxRecDepth 100000 in
theorem cl_coder {a v0 len : Nat} {g : Nat → Int32} (hO : ZO Z tO sK sV) (hT : ∀ A U H, Z A U H → zt a v0 len g A U H) : LC l D (tyL ca) Z yJ0_coder_7d493 cJ0_coder_7d493 1 (some .byte) rmT0 [.ref a] [] (fun v w => v = some (.int 0) ∧ w = []) := by
  refine qstart (own := RJ0) rfl (by decide) (Nat.le_of_ble_eq_true rfl) ?_
  intro p e s m args below meth c Q hQ X hi
  have hTX := hT _ _ _ X.2.2.2.2.2
  refine q_cmpS X hO kF_J0_38 dJ0_coder_7d493_0 3 rfl rfl ?_
  refine q_if_eq (A1 := none) (B1 := some ()) (res := ()) X (if_neg (by decide : ¬ (1 : Int32) = 0)) 13 6 dJ0_coder_7d493_3 (by decide) rfl (fun z => nomatch z) (fun _ => ?_)
  refine q_aload_n X 0 dJ0_coder_7d493_6 rfl rfl 7 rfl ?_
  refine q_txC X hTX kF_J0_15 dJ0_coder_7d493_7 10 rfl ?_
  refine q_goto X 14 dJ0_coder_7d493_10 (by decide) ?_
  exact q_iret X (rt := .byte) hQ ⟨rfl, rfl⟩ rfl (by first | exact Nat.zero_le _ | exact Nat.le_of_ble_eq_true rfl | exact Nat.le_refl _ | (simp only [rmT0]; omega)) (by first | exact Nat.zero_le _ | exact Nat.le_of_ble_eq_true rfl | exact Nat.le_refl _ | (simp only [rmT0]; omega)) dJ0_coder_7d493_14
set_option maxRecDepth 100000 in
theorem cl_len {a v0 len : Nat} {g : Nat → Int32} (hZ : ZOK Z) (hO : ZO Z tO sK sV) (hT : ∀ A U H, Z A U H → zt a v0 len g A U H) (hl : len ≤ 65536) : LC l D (tyL ca) Z yJ0_length_8abf5 cJ0_length_8abf5 1 (some .int) rmT1 [.ref a] [] (fun v w => v = some (.int (nI len)) ∧ w = []) := by
  refine qstart (own := RJ0) rfl (by decide) (Nat.le_of_ble_eq_true rfl) ?_
  intro p e s m args below meth c Q hQ X hi
  have hTX := hT _ _ _ X.2.2.2.2.2
  refine q_aload_n X 0 dJ0_length_8abf5_0 rfl rfl 1 rfl ?_
  refine q_txV X hTX kF_J0_9 dJ0_length_8abf5_1 4 rfl ?_
  refine q_txL X hTX dJ0_length_8abf5_4 5 rfl ?_
  refine q_aload_n X 0 dJ0_length_8abf5_5 rfl rfl 6 rfl ?_
  refine q_callT X hZ [] [] rfl hTX rfl rfl kB_J0_coder_7d493 kL_J0_335 (cl_coder hO hT) rfl ⟨Nat.le_of_ble_eq_true rfl, Nat.le_of_ble_eq_true rfl⟩ (Nat.le_of_ble_eq_true rfl) ⟨Nat.le_of_ble_eq_true rfl, Nat.le_of_ble_eq_true rfl⟩ dJ0_length_8abf5_6 9 rfl ?_
  intro v w1 hq
  obtain ⟨rfl, rfl⟩ := hq
  refine q_ishr X dJ0_length_8abf5_9 10 rfl ?_
  refine q_as (nI len) (nI_shr0 _ (by omega)) ?_
  exact q_iret X (rt := .int) hQ ⟨rfl, rfl⟩ rfl (by first | exact Nat.zero_le _ | exact Nat.le_of_ble_eq_true rfl | exact Nat.le_refl _ | (simp only [rmT1, rmT0]; omega)) (by first | exact Nat.zero_le _ | exact Nat.le_of_ble_eq_true rfl | exact Nat.le_refl _ | (simp only [rmT1, rmT0]; omega)) dJ0_length_8abf5_10
set_option maxRecDepth 100000 in
theorem cl_inf {sb V n : Nat} {a v0 len : Nat} {g : Nat → Int32} (hZ : ZOK Z) (hO : ZO Z tO sK sV) (hT : ∀ A U H, Z A U H → zt a v0 len g A U H) : LC l D (tyL ca) Z yJ5_inflateIfNeededFor_a7421 cJ5_inflateIfNeededFor_a7421 2 none rmT1 [.ref sb, .ref a] [(sb, .inr (14, [.ref V, .int 0, .int 0, .int (nI n)]))] (fun v w => v = none ∧ w = [(sb, .inr (14, [.ref V, .int 0, .int 0, .int (nI n)]))]) := by
  refine qstart (own := RJ5) rfl (by decide) (Nat.le_of_ble_eq_true rfl) ?_
  intro p e s m args below meth c Q hQ X hi
  have hTX := hT _ _ _ X.2.2.2.2.2
  refine q_cmpS X hO kF_J5_18 dJ5_inflateIfNeededFor_a7421_0 3 rfl rfl ?_
  refine q_if_eq (A1 := none) (B1 := some ()) (res := ()) X (if_neg (by decide : ¬ (1 : Int32) = 0)) 21 6 dJ5_inflateIfNeededFor_a7421_3 (by decide) rfl (fun z => nomatch z) (fun _ => ?_)
  refine q_aload_n X 0 dJ5_inflateIfNeededFor_a7421_6 rfl rfl 7 rfl ?_
  refine q_get X 0 rfl (T := TJ4) (N := 4) rfl in_J4 1 (by decide) kF_J5_22 rfl rfl dJ5_inflateIfNeededFor_a7421_7 10 rfl ?_
  refine q_aload_n X 1 dJ5_inflateIfNeededFor_a7421_10 rfl rfl 11 rfl ?_
  refine q_callT X hZ [] [(sb, .inr (14, [.ref V, .int 0, .int 0, .int (nI n)]))] rfl hTX rfl rfl kB_J0_coder_7d493 kL_J5_40 (cl_coder hO hT) rfl ⟨Nat.le_of_ble_eq_true rfl, Nat.le_of_ble_eq_true rfl⟩ (Nat.le_of_ble_eq_true rfl) ⟨Nat.le_of_ble_eq_true rfl, Nat.le_of_ble_eq_true rfl⟩ dJ5_inflateIfNeededFor_a7421_11 14 rfl ?_
  intro v w1 hq
  obtain ⟨rfl, rfl⟩ := hq
  refine q_icmp_eq (A1 := some ()) (B1 := none) (res := ()) X (if_pos (rfl : (0 : Int32) = 0)) 21 17 dJ5_inflateIfNeededFor_a7421_14 (by decide) rfl (fun _ => ?_) (fun z => nomatch z)
  exact q_vret X hQ ⟨rfl, rfl⟩ (by first | exact Nat.zero_le _ | exact Nat.le_of_ble_eq_true rfl | exact Nat.le_refl _ | (simp only [rmT1, rmT0]; omega)) (by first | exact Nat.zero_le _ | exact Nat.le_of_ble_eq_true rfl | exact Nat.le_refl _ | (simp only [rmT1, rmT0]; omega)) dJ5_inflateIfNeededFor_a7421_21
set_option maxRecDepth 100000 in
theorem cl_gby {V cap d : Nat} {f : Nat → Int32} {a v0 len : Nat} {g : Nat → Int32} (hZ : ZOK Z) (hO : ZO Z tO sK sV) (hT : ∀ A U H, Z A U H → zt a v0 len g A U H) (hg : ∀ i, fits .byte (.int (g i)) = true) (hl : len ≤ 65536) (hd : d + len ≤ cap) (hc : cap ≤ 1000) : LC l D (tyL ca) Z yJ0_getBytes_840e7 cJ0_getBytes_840e7 4 none rmT1 [.ref a, .ref V, .int (nI d), .int 0] [(V, .inl (ca 1, cap, .inl f))] (fun v w => v = none ∧ w = [(V, .inl (ca 1, cap, .inl (va_cpy g f 0 d len)))]) := by
  refine qstart (own := RJ0) rfl (by decide) (Nat.le_of_ble_eq_true rfl) ?_
  intro p e s m args below meth c Q hQ X hi
  have hTX := hT _ _ _ X.2.2.2.2.2
  refine q_aload_n X 0 dJ0_getBytes_840e7_0 rfl rfl 1 rfl ?_
  refine q_callT X hZ [] [(V, .inl (ca 1, cap, .inl f))] rfl hTX rfl rfl kB_J0_coder_7d493 kL_J0_335 (cl_coder hO hT) rfl ⟨Nat.le_of_ble_eq_true rfl, Nat.le_of_ble_eq_true rfl⟩ (Nat.le_of_ble_eq_true rfl) ⟨Nat.le_of_ble_eq_true rfl, Nat.le_of_ble_eq_true rfl⟩ dJ0_getBytes_840e7_1 4 rfl ?_
  intro v w1 hq
  obtain ⟨rfl, rfl⟩ := hq
  refine q_iload_n X 3 dJ0_getBytes_840e7_4 rfl rfl 5 rfl ?_
  refine q_icmp_ne (A1 := some ()) (B1 := none) (res := ()) X (if_pos (rfl : (0 : Int32) = 0)) 28 8 dJ0_getBytes_840e7_5 (by decide) rfl (fun _ => ?_) (fun z => nomatch z)
  refine q_aload_n X 0 dJ0_getBytes_840e7_8 rfl rfl 9 rfl ?_
  refine q_txV X hTX kF_J0_9 dJ0_getBytes_840e7_9 12 rfl ?_
  refine q_iconst X 0 dJ0_getBytes_840e7_12 rfl 13 rfl ?_
  refine q_aload_n X 1 dJ0_getBytes_840e7_13 rfl rfl 14 rfl ?_
  refine q_iload_n X 2 dJ0_getBytes_840e7_14 rfl rfl 15 rfl ?_
  refine q_iload_n X 3 dJ0_getBytes_840e7_15 rfl rfl 16 rfl ?_
  refine q_ishl X dJ0_getBytes_840e7_16 17 rfl ?_
  refine q_as (nI d) (nI_shl0 _ (by omega)) ?_
  refine q_aload_n X 0 dJ0_getBytes_840e7_17 rfl rfl 18 rfl ?_
  refine q_txV X hTX kF_J0_9 dJ0_getBytes_840e7_18 21 rfl ?_
  refine q_txL X hTX dJ0_getBytes_840e7_21 22 rfl ?_
  refine q_copyTN X 0 0 d len nI_0.symm rfl rfl hTX.2.2.2 [(V, .inl (ca 1, cap, .inl (va_cpy g f 0 d len)))] rfl (t0 := 1) rfl (by omega) (by omega) hg rfl kL_J0_212 (Nat.le_of_ble_eq_true rfl) (Nat.le_of_ble_eq_true rfl) dJ0_getBytes_840e7_22 25 rfl ?_
  refine q_goto X 43 dJ0_getBytes_840e7_25 (by decide) ?_
  exact q_vret X hQ ⟨rfl, rfl⟩ (by first | exact Nat.zero_le _ | exact Nat.le_of_ble_eq_true rfl | exact Nat.le_refl _ | (simp only [rmT1, rmT0]; omega)) (by first | exact Nat.zero_le _ | exact Nat.le_of_ble_eq_true rfl | exact Nat.le_refl _ | (simp only [rmT1, rmT0]; omega)) dJ0_getBytes_840e7_43
set_option maxRecDepth 100000 in
theorem cl_psa {sb V n cap d : Nat} {f : Nat → Int32} {a v0 len : Nat} {g : Nat → Int32} (hZ : ZOK Z) (hO : ZO Z tO sK sV) (hV : ZVO Z) (hT : ∀ A U H, Z A U H → zt a v0 len g A U H) (hg : ∀ i, fits .byte (.int (g i)) = true) (hl : len ≤ 65536) (hd : d + len ≤ cap) (hc : cap ≤ 1000) : LC l D (tyL ca) Z yJ5_putStringAt_47b60 cJ5_putStringAt_47b60 3 none rmT2 [.ref sb, .int (nI d), .ref a] [(sb, .inr (14, [.ref V, .int 0, .int 0, .int (nI n)])), (V, .inl (ca 1, cap, .inl f))] (fun v w => v = none ∧ w = [(sb, .inr (14, [.ref V, .int 0, .int 0, .int (nI n)])), (V, .inl (ca 1, cap, .inl (va_cpy g f 0 d len)))]) := by
  refine qstart (own := RJ5) rfl (by decide) (Nat.le_of_ble_eq_true rfl) ?_
  intro p e s m args below meth c Q hQ X hi
  have hTX := hT _ _ _ X.2.2.2.2.2
  refine q_aload_n X 0 dJ5_putStringAt_47b60_0 rfl rfl 1 rfl ?_
  refine q_aload_n X 2 dJ5_putStringAt_47b60_1 rfl rfl 2 rfl ?_
  refine q_callU X hZ [.ref a] [(V, .inl (ca 1, cap, .inl f))] rfl 0 rfl (q := (RJ4, TJ4, 4)) rfl rfl rfl kU_J5_inflateIfNeededFor_a7421 (sel_of X hV 2 rfl (fun _ => rfl)) kL_J5_397 (cl_inf (V := V) hZ hO hT) rfl ⟨Nat.le_of_ble_eq_true rfl, Nat.le_of_ble_eq_true rfl⟩ (Nat.le_of_ble_eq_true rfl) ⟨Nat.le_of_ble_eq_true rfl, Nat.le_of_ble_eq_true rfl⟩ dJ5_putStringAt_47b60_2 5 rfl ?_
  intro v w1 hq
  obtain ⟨rfl, rfl⟩ := hq
  refine q_aload_n X 2 dJ5_putStringAt_47b60_5 rfl rfl 6 rfl ?_
  refine q_aload_n X 0 dJ5_putStringAt_47b60_6 rfl rfl 7 rfl ?_
  refine q_get X 0 rfl (T := TJ4) (N := 4) rfl in_J4 0 (by decide) kF_J5_15 rfl rfl dJ5_putStringAt_47b60_7 10 rfl ?_
  refine q_iload_n X 1 dJ5_putStringAt_47b60_10 rfl rfl 11 rfl ?_
  refine q_aload_n X 0 dJ5_putStringAt_47b60_11 rfl rfl 12 rfl ?_
  refine q_get X 0 rfl (T := TJ4) (N := 4) rfl in_J4 1 (by decide) kF_J5_22 rfl rfl dJ5_putStringAt_47b60_12 15 rfl ?_
  refine n_perm (ws' := [(V, .inl (ca 1, cap, .inl f)), (sb, .inr (14, [.ref V, .int 0, .int 0, .int (nI n)]))]) (List.Perm.swap _ _ _) ?_
  refine q_callT X hZ [.ref V, .int (nI d), .int 0] [(sb, .inr (14, [.ref V, .int 0, .int 0, .int (nI n)]))] rfl hTX rfl rfl kB_J0_getBytes_840e7 kL_J5_399 (cl_gby hZ hO hT hg hl hd hc) rfl ⟨Nat.le_of_ble_eq_true rfl, Nat.le_of_ble_eq_true rfl⟩ (Nat.le_of_ble_eq_true rfl) ⟨Nat.le_of_ble_eq_true rfl, Nat.le_of_ble_eq_true rfl⟩ dJ5_putStringAt_47b60_15 18 rfl ?_
  intro v w1 hq
  obtain ⟨rfl, rfl⟩ := hq
  refine n_perm (ws' := [(sb, .inr (14, [.ref V, .int 0, .int 0, .int (nI n)])), (V, .inl (ca 1, cap, .inl (va_cpy g f 0 d len)))]) (List.Perm.swap _ _ _) ?_
  exact q_vret X hQ ⟨rfl, rfl⟩ (by first | exact Nat.zero_le _ | exact Nat.le_of_ble_eq_true rfl | exact Nat.le_refl _ | (simp only [rmT2, rmT1]; omega)) (by first | exact Nat.zero_le _ | exact Nat.le_of_ble_eq_true rfl | exact Nat.le_refl _ | (simp only [rmT2, rmT1]; omega)) dJ5_putStringAt_47b60_18
def rmT5 : Room := { frames := 4, cells := 1, slots := 1000, locals := 120 }
def rmT6 : Room := { frames := 5, cells := 1, slots := 1000, locals := 150 }
set_option maxRecDepth 100000 in
theorem cl_apS5 {sb V n cap : Nat} {f : Nat → Int32} {a v0 len : Nat} {g : Nat → Int32} (hZ : ZOK Z) (hO : ZO Z tO sK sV) (hV : ZVO Z) (hT : ∀ A U H, Z A U H → zt a v0 len g A U H) (hg : ∀ i, fits .byte (.int (g i)) = true) (hl : n + len ≤ 400) (hc : cap ≤ 1000) (hn : n ≤ cap) (hf : ∀ i, fits .byte (.int (f i)) = true) : LC l D (tyL ca) Z yJ5_append_cf1ce cJ5_append_cf1ce 3 (some (.object "java/lang/AbstractStringBuilder")) rmT5 [.ref sb, .ref a] [(sb, .inr (14, [.ref V, .int 0, .int 0, .int (nI n)])), (V, .inl (ca 1, cap, .inl f))] (fun v w => v = some (.ref sb) ∧ ∃ (V2 cap2 : Nat) (f2 : Nat → Int32), w = [(sb, .inr (14, [.ref V2, .int 0, .int 0, .int (nI (n + len))])), (V2, .inl (ca 1, cap2, .inl f2))] ∧ (n + len) ≤ cap2 ∧ cap2 ≤ 1000 ∧ (∀ i, fits .byte (.int (f2 i)) = true) ∧ (∀ j, j < n → f2 j = f j) ∧ ∀ j, j < len → f2 (n + j) = g j) := by
  refine qstart (own := RJ5) rfl (by decide) (Nat.le_of_ble_eq_true rfl) ?_
  intro p e s m args below meth c Q hQ X hi
  have hTX := hT _ _ _ X.2.2.2.2.2
  refine q_aload_n X 1 dJ5_append_cf1ce_0 rfl rfl 1 rfl ?_
  refine q_ifnonnull X 9 dJ5_append_cf1ce_1 (by decide) ?_
  refine q_aload_n X 1 dJ5_append_cf1ce_9 rfl rfl 10 rfl ?_
  refine q_callT X hZ [] [(sb, .inr (14, [.ref V, .int 0, .int 0, .int (nI n)])), (V, .inl (ca 1, cap, .inl f))] rfl hTX rfl rfl kB_J0_length_8abf5 kL_J5_32 (cl_len hZ hO hT (by omega)) rfl ⟨Nat.le_of_ble_eq_true rfl, Nat.le_of_ble_eq_true rfl⟩ (Nat.le_of_ble_eq_true rfl) ⟨Nat.le_of_ble_eq_true rfl, Nat.le_of_ble_eq_true rfl⟩ dJ5_append_cf1ce_10 13 rfl ?_
  intro v w1 hq
  obtain ⟨rfl, rfl⟩ := hq
  refine q_istore_n X [(2, .int (nI len)), (0, .ref sb), (1, .ref a)] dJ5_append_cf1ce_13 rfl (by decide) rfl 14 rfl ?_
  refine q_aload_n X 1 dJ5_append_cf1ce_14 rfl rfl 15 rfl ?_
  refine q_aload_n X 1 dJ5_append_cf1ce_15 rfl rfl 16 rfl ?_
  refine q_get X 0 rfl (T := TJ4) (N := 4) rfl in_J4 3 (by decide) kF_J5_79 rfl rfl dJ5_append_cf1ce_16 19 rfl ?_
  refine q_iload_n X 0 dJ5_append_cf1ce_19 rfl rfl 20 rfl ?_
  refine q_iadd X dJ5_append_cf1ce_20 21 rfl ?_
  refine q_as (nI (n + len)) (nI_add _ _) ?_
  refine q_callU X hZ [.int (nI (n + len))] [] rfl 0 rfl (q := (RJ4, TJ4, 4)) rfl rfl rfl kU_J5_ensureCapacityInternal_d00df (sel_of X hV 0 rfl (fun _ => rfl)) kL_J5_100 (cl_ens hZ hV (q := n + len) (by omega) hc hn hf) rfl ⟨Nat.le_of_ble_eq_true rfl, Nat.le_of_ble_eq_true rfl⟩ (Nat.le_of_ble_eq_true rfl) ⟨Nat.le_of_ble_eq_true rfl, Nat.le_of_ble_eq_true rfl⟩ dJ5_append_cf1ce_21 24 rfl ?_
  intro v w1 hq
  obtain ⟨rfl, V2, cap2, f2, rfl, e1, e2, e3, e4⟩ := hq
  refine q_aload_n X 1 dJ5_append_cf1ce_24 rfl rfl 25 rfl ?_
  refine q_aload_n X 1 dJ5_append_cf1ce_25 rfl rfl 26 rfl ?_
  refine q_get X 0 rfl (T := TJ4) (N := 4) rfl in_J4 3 (by decide) kF_J5_79 rfl rfl dJ5_append_cf1ce_26 29 rfl ?_
  refine q_aload_n X 2 dJ5_append_cf1ce_29 rfl rfl 30 rfl ?_
  refine q_callU X hZ [.int (nI n), .ref a] [] rfl 0 rfl (q := (RJ4, TJ4, 4)) rfl rfl rfl kU_J5_putStringAt_47b60 (sel_of X hV 3 rfl (fun _ => rfl)) kL_J5_208 (cl_psa hZ hO hV hT hg (by omega) e1 e2) rfl ⟨Nat.le_of_ble_eq_true rfl, Nat.le_of_ble_eq_true rfl⟩ (Nat.le_of_ble_eq_true rfl) ⟨Nat.le_of_ble_eq_true rfl, Nat.le_of_ble_eq_true rfl⟩ dJ5_append_cf1ce_30 33 rfl ?_
  intro v w1 hq
  obtain ⟨rfl, rfl⟩ := hq
  refine q_aload_n X 1 dJ5_append_cf1ce_33 rfl rfl 34 rfl ?_
  refine q_dup X dJ5_append_cf1ce_34 rfl 35 rfl ?_
  refine q_get X 0 rfl (T := TJ4) (N := 4) rfl in_J4 3 (by decide) kF_J5_79 rfl rfl dJ5_append_cf1ce_35 38 rfl ?_
  refine q_iload_n X 0 dJ5_append_cf1ce_38 rfl rfl 39 rfl ?_
  refine q_iadd X dJ5_append_cf1ce_39 40 rfl ?_
  refine q_as (nI (n + len)) (nI_add _ _) ?_
  refine q_put X 0 [(sb, .inr (14, [.ref V2, .int 0, .int 0, .int (nI (n + len))])), (V2, .inl (ca 1, cap2, .inl (va_cpy g f2 0 n len)))] rfl (T := TJ4) (N := 4) rfl in_J4 tyJ4 tyJ4_ok nmJ4 3 (by decide) kF_J5_79 rfl rfl rfl rfl (Nat.le_of_ble_eq_true rfl) rfl dJ5_append_cf1ce_40 43 rfl ?_
  refine q_aload_n X 1 dJ5_append_cf1ce_43 rfl rfl 44 rfl ?_
  exact q_aret X (Or.inl ⟨_, rfl⟩) hQ ⟨rfl, V2, cap2, _, rfl, e1, e2, fits_cp hg e3, fun j hj => (pk_cpy_out (Or.inl hj)).trans (e4 j hj), fun j hj => by rw [pk_cpy_in (by omega) (by omega)]; congr 1; omega⟩ (by first | exact Nat.zero_le _ | exact Nat.le_of_ble_eq_true rfl | exact Nat.le_refl _ | (simp only [rmT5, rmT1, rmT4, rmT2]; omega)) (by first | exact Nat.zero_le _ | exact Nat.le_of_ble_eq_true rfl | exact Nat.le_refl _ | (simp only [rmT5, rmT1, rmT4, rmT2]; omega)) dJ5_append_cf1ce_44
set_option maxRecDepth 100000 in
/-- append(String) -/
theorem cl_apS {sb V n cap : Nat} {f : Nat → Int32} {a v0 len : Nat} {g : Nat → Int32} (hZ : ZOK Z) (hO : ZO Z tO sK sV) (hV : ZVO Z) (hT : ∀ A U H, Z A U H → zt a v0 len g A U H) (hg : ∀ i, fits .byte (.int (g i)) = true) (hl : n + len ≤ 400) (hc : cap ≤ 1000) (hn : n ≤ cap) (hf : ∀ i, fits .byte (.int (f i)) = true) : LC l D (tyL ca) Z yJ4_append_15ec4 cJ4_append_15ec4 2 (some (.object "java/lang/StringBuilder")) rmT6 [.ref sb, .ref a] [(sb, .inr (14, [.ref V, .int 0, .int 0, .int (nI n)])), (V, .inl (ca 1, cap, .inl f))] (fun v w => v = some (.ref sb) ∧ ∃ (V2 cap2 : Nat) (f2 : Nat → Int32), w = [(sb, .inr (14, [.ref V2, .int 0, .int 0, .int (nI (n + len))])), (V2, .inl (ca 1, cap2, .inl f2))] ∧ (n + len) ≤ cap2 ∧ cap2 ≤ 1000 ∧ (∀ i, fits .byte (.int (f2 i)) = true) ∧ (∀ j, j < n → f2 j = f j) ∧ ∀ j, j < len → f2 (n + j) = g j) := by
  refine qstart (own := RJ4) rfl (by decide) (Nat.le_of_ble_eq_true rfl) ?_
  intro p e s m args below meth c Q hQ X hi
  refine q_aload_n X 0 dJ4_append_15ec4_0 rfl rfl 1 rfl ?_
  refine q_aload_n X 1 dJ4_append_15ec4_1 rfl rfl 2 rfl ?_
  refine q_callH X hZ [.ref a] [] rfl 0 rfl (q := (RJ4, TJ4, 4)) rfl rfl kH_J5_append_cf1ce kL_J4_29 (cl_apS5 hZ hO hV hT hg hl hc hn hf) rfl ⟨Nat.le_of_ble_eq_true rfl, Nat.le_of_ble_eq_true rfl⟩ (Nat.le_of_ble_eq_true rfl) ⟨Nat.le_of_ble_eq_true rfl, Nat.le_of_ble_eq_true rfl⟩ dJ4_append_15ec4_2 5 rfl ?_
  intro v w1 hq
  obtain ⟨rfl, V2, cap2, f2, rfl, e⟩ := hq
  refine q_pop X dJ4_append_15ec4_5 rfl 6 rfl ?_
  refine q_aload_n X 0 dJ4_append_15ec4_6 rfl rfl 7 rfl ?_
  exact q_aret X (Or.inl ⟨_, rfl⟩) hQ ⟨rfl, V2, cap2, f2, rfl, e⟩ (by first | exact Nat.zero_le _ | exact Nat.le_of_ble_eq_true rfl | exact Nat.le_refl _ | (simp only [rmT6, rmT5]; omega)) (by first | exact Nat.zero_le _ | exact Nat.le_of_ble_eq_true rfl | exact Nat.le_refl _ | (simp only [rmT6, rmT5]; omega)) dJ4_append_15ec4_7
set_option maxRecDepth 100000 in
theorem cl_enc {k : Nat} (hk : k < 128) : LC l D (tyL ca) Z yJ1_canEncode_fc78d cJ1_canEncode_fc78d 1 (some .boolean) rmT0 [.int (nI k)] [] (fun v w => v = some (.int 1) ∧ w = []) := by
  refine qstart (own := RJ1) rfl (by decide) (Nat.le_of_ble_eq_true rfl) ?_
  intro p e s m args below meth c Q hQ X hi
  refine q_iload_n X 0 dJ1_canEncode_fc78d_0 rfl rfl 1 rfl ?_
  refine q_sipush X 255 dJ1_canEncode_fc78d_1 rfl 4 rfl ?_
  refine q_icmp_gt (A1 := none) (B1 := some ()) (res := ()) X (if_neg (nI_nlt (a := 255) (by omega) (by decide))) 11 7 dJ1_canEncode_fc78d_4 (by decide) rfl (fun z => nomatch z) (fun _ => ?_)
  refine q_iconst X 1 dJ1_canEncode_fc78d_7 rfl 8 rfl ?_
  refine q_goto X 12 dJ1_canEncode_fc78d_8 (by decide) ?_
  exact q_iret X (rt := .boolean) hQ ⟨rfl, rfl⟩ rfl (by first | exact Nat.zero_le _ | exact Nat.le_of_ble_eq_true rfl | exact Nat.le_refl _ | (simp only [rmT0]; omega)) (by first | exact Nat.zero_le _ | exact Nat.le_of_ble_eq_true rfl | exact Nat.le_refl _ | (simp only [rmT0]; omega)) dJ1_canEncode_fc78d_12
set_option maxRecDepth 100000 in
theorem cl_apC5 {sb V n cap : Nat} {f : Nat → Int32} {k : Nat} (hZ : ZOK Z) (hO : ZO Z tO sK sV) (hV : ZVO Z) (hk : k < 128) (hl : n + 1 ≤ 400) (hc : cap ≤ 1000) (hn : n ≤ cap) (hf : ∀ i, fits .byte (.int (f i)) = true) : LC l D (tyL ca) Z yJ5_append_3fe6f cJ5_append_3fe6f 2 (some (.object "java/lang/AbstractStringBuilder")) rmT5 [.ref sb, .int (nI k)] [(sb, .inr (14, [.ref V, .int 0, .int 0, .int (nI n)])), (V, .inl (ca 1, cap, .inl f))] (fun v w => v = some (.ref sb) ∧ ∃ (V2 cap2 : Nat) (f2 : Nat → Int32), w = [(sb, .inr (14, [.ref V2, .int 0, .int 0, .int (nI (n + 1))])), (V2, .inl (ca 1, cap2, .inl f2))] ∧ (n + 1) ≤ cap2 ∧ cap2 ≤ 1000 ∧ (∀ i, fits .byte (.int (f2 i)) = true) ∧ (∀ j, j < n → f2 j = f j) ∧ f2 n = nI k) := by
  refine qstart (own := RJ5) rfl (by decide) (Nat.le_of_ble_eq_true rfl) ?_
  intro p e s m args below meth c Q hQ X hi
  refine q_aload_n X 0 dJ5_append_3fe6f_0 rfl rfl 1 rfl ?_
  refine q_aload_n X 0 dJ5_append_3fe6f_1 rfl rfl 2 rfl ?_
  refine q_get X 0 rfl (T := TJ4) (N := 4) rfl in_J4 3 (by decide) kF_J5_79 rfl rfl dJ5_append_3fe6f_2 5 rfl ?_
  refine q_iconst X 1 dJ5_append_3fe6f_5 rfl 6 rfl ?_
  refine q_iadd X dJ5_append_3fe6f_6 7 rfl ?_
  refine q_as (nI (n + 1)) (nI_1 _) ?_
  refine q_callU X hZ [.int (nI (n + 1))] [] rfl 0 rfl (q := (RJ4, TJ4, 4)) rfl rfl rfl kU_J5_ensureCapacityInternal_d00df (sel_of X hV 0 rfl (fun _ => rfl)) kL_J5_100 (cl_ens hZ hV (q := n + 1) (by omega) hc hn hf) rfl ⟨Nat.le_of_ble_eq_true rfl, Nat.le_of_ble_eq_true rfl⟩ (Nat.le_of_ble_eq_true rfl) ⟨Nat.le_of_ble_eq_true rfl, Nat.le_of_ble_eq_true rfl⟩ dJ5_append_3fe6f_7 10 rfl ?_
  intro v w1 hq
  obtain ⟨rfl, V2, cap2, f2, rfl, e1, e2, e3, e4⟩ := hq
  refine q_aload_n X 0 dJ5_append_3fe6f_10 rfl rfl 11 rfl ?_
  refine q_callU X hZ [] [(V2, .inl (ca 1, cap2, .inl f2))] rfl 0 rfl (q := (RJ4, TJ4, 4)) rfl rfl rfl kU_J5_isLatin1_aae02 (X.1.2.2.2.2 _ kS_J5_isLatin1_aae02) kL_J5_83 (cl_isL (V := V2) hO) rfl ⟨Nat.le_of_ble_eq_true rfl, Nat.le_of_ble_eq_true rfl⟩ (Nat.le_of_ble_eq_true rfl) ⟨Nat.le_of_ble_eq_true rfl, Nat.le_of_ble_eq_true rfl⟩ dJ5_append_3fe6f_11 14 rfl ?_
  intro v w1 hq
  obtain ⟨rfl, rfl⟩ := hq
  refine q_if_eq (A1 := none) (B1 := some ()) (res := ()) X (if_neg (by decide : ¬ (1 : Int32) = 0)) 45 17 dJ5_append_3fe6f_14 (by decide) rfl (fun z => nomatch z) (fun _ => ?_)
  refine q_iload_n X 1 dJ5_append_3fe6f_17 rfl rfl 18 rfl ?_
  refine q_callS X hZ [.int (nI k)] [(sb, .inr (14, [.ref V2, .int 0, .int 0, .int (nI n)])), (V2, .inl (ca 1, cap2, .inl f2))] rfl rfl kB_J1_canEncode_fc78d kL_J5_191 (cl_enc hk) rfl ⟨Nat.le_of_ble_eq_true rfl, Nat.le_of_ble_eq_true rfl⟩ (Nat.le_of_ble_eq_true rfl) ⟨Nat.le_of_ble_eq_true rfl, Nat.le_of_ble_eq_true rfl⟩ dJ5_append_3fe6f_18 21 rfl ?_
  intro v w1 hq
  obtain ⟨rfl, rfl⟩ := hq
  refine q_if_eq (A1 := none) (B1 := some ()) (res := ()) X (if_neg (by decide : ¬ (1 : Int32) = 0)) 45 24 dJ5_append_3fe6f_21 (by decide) rfl (fun z => nomatch z) (fun _ => ?_)
  refine q_aload_n X 0 dJ5_append_3fe6f_24 rfl rfl 25 rfl ?_
  refine q_get X 0 rfl (T := TJ4) (N := 4) rfl in_J4 0 (by decide) kF_J5_15 rfl rfl dJ5_append_3fe6f_25 28 rfl ?_
  refine q_aload_n X 0 dJ5_append_3fe6f_28 rfl rfl 29 rfl ?_
  refine q_dup X dJ5_append_3fe6f_29 rfl 30 rfl ?_
  refine q_get X 0 rfl (T := TJ4) (N := 4) rfl in_J4 3 (by decide) kF_J5_79 rfl rfl dJ5_append_3fe6f_30 33 rfl ?_
  refine q_dup_x1 X dJ5_append_3fe6f_33 rfl rfl 34 rfl ?_
  refine q_iconst X 1 dJ5_append_3fe6f_34 rfl 35 rfl ?_
  refine q_iadd X dJ5_append_3fe6f_35 36 rfl ?_
  refine q_as (nI (n + 1)) (nI_1 _) ?_
  refine q_put X 0 [(sb, .inr (14, [.ref V2, .int 0, .int 0, .int (nI (n + 1))])), (V2, .inl (ca 1, cap2, .inl f2))] rfl (T := TJ4) (N := 4) rfl in_J4 tyJ4 tyJ4_ok nmJ4 3 (by decide) kF_J5_79 rfl rfl rfl rfl (Nat.le_of_ble_eq_true rfl) rfl dJ5_append_3fe6f_36 39 rfl ?_
  refine q_iload_n X 1 dJ5_append_3fe6f_39 rfl rfl 40 rfl ?_
  refine q_i2b X dJ5_append_3fe6f_40 41 rfl ?_
  refine q_as (nI k) (nI_i2b hk) ?_
  refine q_bas X 1 [(sb, .inr (14, [.ref V2, .int 0, .int 0, .int (nI (n + 1))])), (V2, .inl (ca 1, cap2, .inl (upd f2 (nI n).toNatClampNeg (vp_nar .byte (nI k)))))] rfl (t0 := 1) rfl (pk_in n cap2 (by omega) rfl (by omega)) rfl dJ5_append_3fe6f_41 42 rfl ?_
  refine q_goto X 75 dJ5_append_3fe6f_42 (by decide) ?_
  refine q_aload_n X 0 dJ5_append_3fe6f_75 rfl rfl 76 rfl ?_
  exact q_aret X (Or.inl ⟨_, rfl⟩) hQ ⟨rfl, V2, cap2, _, rfl, e1, e2, by rw [nI_nar hk]; exact fits_up e3 (nI_fit hk), fun j hj => (pk_un (by rw [nI_clamp (by omega)]; omega)).trans (e4 j hj), by rw [nI_clamp (by omega), nI_nar hk]; exact pk_us⟩ (by first | exact Nat.zero_le _ | exact Nat.le_of_ble_eq_true rfl | exact Nat.le_refl _ | (simp only [rmT5, rmT4, rmT0]; omega)) (by first | exact Nat.zero_le _ | exact Nat.le_of_ble_eq_true rfl | exact Nat.le_refl _ | (simp only [rmT5, rmT4, rmT0]; omega)) dJ5_append_3fe6f_76
set_option maxRecDepth 100000 in
/-- append(char) -/
theorem cl_apC {sb V n cap : Nat} {f : Nat → Int32} {k : Nat} (hZ : ZOK Z) (hO : ZO Z tO sK sV) (hV : ZVO Z) (hk : k < 128) (hl : n + 1 ≤ 400) (hc : cap ≤ 1000) (hn : n ≤ cap) (hf : ∀ i, fits .byte (.int (f i)) = true) : LC l D (tyL ca) Z yJ4_append_cf468 cJ4_append_cf468 2 (some (.object "java/lang/StringBuilder")) rmT6 [.ref sb, .int (nI k)] [(sb, .inr (14, [.ref V, .int 0, .int 0, .int (nI n)])), (V, .inl (ca 1, cap, .inl f))] (fun v w => v = some (.ref sb) ∧ ∃ (V2 cap2 : Nat) (f2 : Nat → Int32), w = [(sb, .inr (14, [.ref V2, .int 0, .int 0, .int (nI (n + 1))])), (V2, .inl (ca 1, cap2, .inl f2))] ∧ (n + 1) ≤ cap2 ∧ cap2 ≤ 1000 ∧ (∀ i, fits .byte (.int (f2 i)) = true) ∧ (∀ j, j < n → f2 j = f j) ∧ f2 n = nI k) := by
  refine qstart (own := RJ4) rfl (by decide) (Nat.le_of_ble_eq_true rfl) ?_
  intro p e s m args below meth c Q hQ X hi
  refine q_aload_n X 0 dJ4_append_cf468_0 rfl rfl 1 rfl ?_
  refine q_iload_n X 1 dJ4_append_cf468_1 rfl rfl 2 rfl ?_
  refine q_callH X hZ [.int (nI k)] [] rfl 0 rfl (q := (RJ4, TJ4, 4)) rfl rfl kH_J5_append_3fe6f kL_J4_50 (cl_apC5 hZ hO hV hk hl hc hn hf) rfl ⟨Nat.le_of_ble_eq_true rfl, Nat.le_of_ble_eq_true rfl⟩ (Nat.le_of_ble_eq_true rfl) ⟨Nat.le_of_ble_eq_true rfl, Nat.le_of_ble_eq_true rfl⟩ dJ4_append_cf468_2 5 rfl ?_
  intro v w1 hq
  obtain ⟨rfl, V2, cap2, f2, rfl, e⟩ := hq
  refine q_pop X dJ4_append_cf468_5 rfl 6 rfl ?_
  refine q_aload_n X 0 dJ4_append_cf468_6 rfl rfl 7 rfl ?_
  exact q_aret X (Or.inl ⟨_, rfl⟩) hQ ⟨rfl, V2, cap2, f2, rfl, e⟩ (by first | exact Nat.zero_le _ | exact Nat.le_of_ble_eq_true rfl | exact Nat.le_refl _ | (simp only [rmT6, rmT5]; omega)) (by first | exact Nat.zero_le _ | exact Nat.le_of_ble_eq_true rfl | exact Nat.le_refl _ | (simp only [rmT6, rmT5]; omega)) dJ4_append_cf468_7
set_option maxRecDepth 100000 in
theorem cl_ssz {k : Nat} (hk : k < 10) : LC l D (tyL ca) Z yJ6_stringSize_0f7a4 cJ6_stringSize_0f7a4 4 (some .int) rmT0 [.int (nI k)] [] (fun v w => v = some (.int (nI 1)) ∧ w = []) := by
  refine qstart (own := RJ6) rfl (by decide) (Nat.le_of_ble_eq_true rfl) ?_
  intro p e s m args below meth c Q hQ X hi
  refine q_iconst X 1 dJ6_stringSize_0f7a4_0 rfl 1 rfl ?_
  refine q_istore_n X [(1, .int 1), (0, .int (nI k))] dJ6_stringSize_0f7a4_1 rfl (by decide) rfl 2 rfl ?_
  refine q_iload_n X 1 dJ6_stringSize_0f7a4_2 rfl rfl 3 rfl ?_
  refine q_if_lt (A1 := none) (B1 := some ()) (res := ()) X (if_neg (nI_pos (by omega))) 11 6 dJ6_stringSize_0f7a4_3 (by decide) rfl (fun z => nomatch z) (fun _ => ?_)
  refine q_iconst X 0 dJ6_stringSize_0f7a4_6 rfl 7 rfl ?_
  refine q_istore_n X [(1, .int 0), (0, .int (nI k))] dJ6_stringSize_0f7a4_7 rfl (by decide) rfl 8 rfl ?_
  refine q_iload_n X 1 dJ6_stringSize_0f7a4_8 rfl rfl 9 rfl ?_
  refine q_ineg X dJ6_stringSize_0f7a4_9 10 rfl ?_
  refine q_istore_n X [(0, .int (-(nI k))), (1, .int 0)] dJ6_stringSize_0f7a4_10 rfl (by decide) rfl 11 rfl ?_
  refine q_bipush X (-10) dJ6_stringSize_0f7a4_11 rfl 13 rfl ?_
  refine q_istore_n X [(2, .int (-10)), (0, .int (-(nI k))), (1, .int 0)] dJ6_stringSize_0f7a4_13 rfl (by decide) rfl 14 rfl ?_
  refine q_iconst X 1 dJ6_stringSize_0f7a4_14 rfl 15 rfl ?_
  refine q_istore_n X [(3, .int 1), (2, .int (-10)), (0, .int (-(nI k))), (1, .int 0)] dJ6_stringSize_0f7a4_15 rfl (by decide) rfl 16 rfl ?_
  refine q_iload_n X 0 dJ6_stringSize_0f7a4_16 rfl rfl 17 rfl ?_
  refine q_bipush X 10 dJ6_stringSize_0f7a4_17 rfl 19 rfl ?_
  refine q_icmp_ge (A1 := some ()) (B1 := none) (res := ()) X (if_pos (by decide : (1 : Int32) < 10)) 42 22 dJ6_stringSize_0f7a4_19 (by decide) rfl (fun _ => ?_) (fun z => nomatch z)
  refine q_iload_n X 2 dJ6_stringSize_0f7a4_22 rfl rfl 23 rfl ?_
  refine q_iload_n X 1 dJ6_stringSize_0f7a4_23 rfl rfl 24 rfl ?_
  refine q_icmp_le (A1 := some ()) (B1 := none) (res := ()) X (if_pos (nI_m10 hk)) 31 27 dJ6_stringSize_0f7a4_24 (by decide) rfl (fun _ => ?_) (fun z => nomatch z)
  refine q_iload_n X 0 dJ6_stringSize_0f7a4_27 rfl rfl 28 rfl ?_
  refine q_iload_n X 3 dJ6_stringSize_0f7a4_28 rfl rfl 29 rfl ?_
  refine q_iadd X dJ6_stringSize_0f7a4_29 30 rfl ?_
  refine q_as (nI 1) (by decide) ?_
  exact q_iret X (rt := .int) hQ ⟨rfl, rfl⟩ rfl (by first | exact Nat.zero_le _ | exact Nat.le_of_ble_eq_true rfl | exact Nat.le_refl _ | (simp only [rmT0]; omega)) (by first | exact Nat.zero_le _ | exact Nat.le_of_ble_eq_true rfl | exact Nat.le_refl _ | (simp only [rmT0]; omega)) dJ6_stringSize_0f7a4_30
set_option maxRecDepth 100000 in
theorem cl_gch {V n cap k tD : Nat} {f : Nat → Int32} (hG : ∀ A U H, Z A U H → zDg tD A U H) (hk : k < 10) (hd : n < cap) (hc : cap ≤ 1000) : LC l D (tyL ca) Z yJ6_getChars_ba4f3 cJ6_getChars_ba4f3 7 (some .int) rmT0 [.int (nI k), .int (nI (n + 1)), .ref V] [(V, .inl (ca 1, cap, .inl f))] (fun v w => v = some (.int (nI n)) ∧ w = [(V, .inl (ca 1, cap, .inl (upd f (nI n).toNatClampNeg (vp_nar .byte (dgO k)))))]) := by
  refine qstart (own := RJ6) rfl (by decide) (Nat.le_of_ble_eq_true rfl) ?_
  intro p e s m args below meth c Q hQ X hi
  refine q_iload_n X 1 dJ6_getChars_ba4f3_0 rfl rfl 1 rfl ?_
  refine q_istore X [(5, .int (nI (n + 1))), (0, .int (nI k)), (1, .int (nI (n + 1))), (2, .ref V)] dJ6_getChars_ba4f3_1 (by decide) rfl 3 rfl ?_
  refine q_iload_n X 1 dJ6_getChars_ba4f3_3 rfl rfl 4 rfl ?_
  refine q_if_ge (A1 := none) (B1 := some ()) (res := ()) X (if_neg (nI_pos (by omega))) 11 7 dJ6_getChars_ba4f3_4 (by decide) rfl (fun z => nomatch z) (fun _ => ?_)
  refine q_iconst X 0 dJ6_getChars_ba4f3_11 rfl 12 rfl ?_
  refine q_istore X [(6, .int 0), (5, .int (nI (n + 1))), (0, .int (nI k)), (1, .int (nI (n + 1))), (2, .ref V)] dJ6_getChars_ba4f3_12 (by decide) rfl 14 rfl ?_
  refine q_iload X 0 dJ6_getChars_ba4f3_14 rfl 16 rfl ?_
  refine q_if_ne (A1 := some ()) (B1 := none) (res := ()) X (if_pos (rfl : (0 : Int32) = 0)) 22 19 dJ6_getChars_ba4f3_16 (by decide) rfl (fun _ => ?_) (fun z => nomatch z)
  refine q_iload_n X 2 dJ6_getChars_ba4f3_19 rfl rfl 20 rfl ?_
  refine q_ineg X dJ6_getChars_ba4f3_20 21 rfl ?_
  refine q_istore_n X [(0, .int (-(nI k))), (6, .int 0), (5, .int (nI (n + 1))), (1, .int (nI (n + 1))), (2, .ref V)] dJ6_getChars_ba4f3_21 rfl (by decide) rfl 22 rfl ?_
  refine q_iload_n X 0 dJ6_getChars_ba4f3_22 rfl rfl 23 rfl ?_
  refine q_bipush X (-100) dJ6_getChars_ba4f3_23 rfl 25 rfl ?_
  refine q_icmp_gt (A1 := some ()) (B1 := none) (res := ()) X (if_pos (nI_m100 hk)) 72 28 dJ6_getChars_ba4f3_25 (by decide) rfl (fun _ => ?_) (fun z => nomatch z)
  refine q_aload_n X 4 dJ6_getChars_ba4f3_72 rfl rfl 73 rfl ?_
  refine q_iinc X 2 (nI n) [(5, .int (nI n)), (0, .int (-(nI k))), (6, .int 0), (1, .int (nI (n + 1))), (2, .ref V)] dJ6_getChars_ba4f3_73 rfl (pk_m1 n) (by decide) rfl 76 rfl ?_
  refine q_iload X 0 dJ6_getChars_ba4f3_76 rfl 78 rfl ?_
  refine q_digO X (hG _ _ _ X.2.2.2.2.2) kF_J6_83 dJ6_getChars_ba4f3_78 81 rfl ?_
  refine q_iload_n X 1 dJ6_getChars_ba4f3_81 rfl rfl 82 rfl ?_
  refine q_ineg X dJ6_getChars_ba4f3_82 83 rfl ?_
  refine q_as (nI k) (nI_mm hk) ?_
  refine q_digB X (hG _ _ _ X.2.2.2.2.2) rfl (by omega) dJ6_getChars_ba4f3_83 84 rfl ?_
  refine q_bas X 0 [(V, .inl (ca 1, cap, .inl (upd f (nI n).toNatClampNeg (vp_nar .byte (dgO k)))))] rfl (t0 := 1) rfl (pk_in n cap hd rfl (by omega)) rfl dJ6_getChars_ba4f3_84 85 rfl ?_
  refine q_iload_n X 1 dJ6_getChars_ba4f3_85 rfl rfl 86 rfl ?_
  refine q_bipush X (-9) dJ6_getChars_ba4f3_86 rfl 88 rfl ?_
  refine q_icmp_ge (A1 := none) (B1 := some ()) (res := ()) X (if_neg (nI_m9 hk)) 104 91 dJ6_getChars_ba4f3_88 (by decide) rfl (fun z => nomatch z) (fun _ => ?_)
  refine q_iload X 2 dJ6_getChars_ba4f3_104 rfl 106 rfl ?_
  refine q_if_eq (A1 := some ()) (B1 := none) (res := ()) X (if_pos (rfl : (0 : Int32) = 0)) 118 109 dJ6_getChars_ba4f3_106 (by decide) rfl (fun _ => ?_) (fun z => nomatch z)
  refine q_iload X 0 dJ6_getChars_ba4f3_118 rfl 120 rfl ?_
  exact q_iret X (rt := .int) hQ ⟨rfl, rfl⟩ rfl (by first | exact Nat.zero_le _ | exact Nat.le_of_ble_eq_true rfl | exact Nat.le_refl _ | (simp only [rmT0]; omega)) (by first | exact Nat.zero_le _ | exact Nat.le_of_ble_eq_true rfl | exact Nat.le_refl _ | (simp only [rmT0]; omega)) dJ6_getChars_ba4f3_120
theorem dgN {k : Nat} (hk : k < 10) : vp_nar .byte (dgO k) = nI (48 + k) := by
  unfold dgO
  rw [Nat.mod_eq_of_lt hk]
  exact nI_nar (by omega)
set_option maxRecDepth 100000 in
theorem cl_apI5 {sb V n cap : Nat} {f : Nat → Int32} {k tD : Nat} (hZ : ZOK Z) (hO : ZO Z tO sK sV) (hV : ZVO Z) (hG : ∀ A U H, Z A U H → zDg tD A U H) (hk : k < 10) (hl : n + 1 ≤ 400) (hc : cap ≤ 1000) (hn : n ≤ cap) (hf : ∀ i, fits .byte (.int (f i)) = true) : LC l D (tyL ca) Z yJ5_append_c97b9 cJ5_append_c97b9 4 (some (.object "java/lang/AbstractStringBuilder")) rmT5 [.ref sb, .int (nI k)] [(sb, .inr (14, [.ref V, .int 0, .int 0, .int (nI n)])), (V, .inl (ca 1, cap, .inl f))] (fun v w => v = some (.ref sb) ∧ ∃ (V2 cap2 : Nat) (f2 : Nat → Int32), w = [(sb, .inr (14, [.ref V2, .int 0, .int 0, .int (nI (n + 1))])), (V2, .inl (ca 1, cap2, .inl f2))] ∧ (n + 1) ≤ cap2 ∧ cap2 ≤ 1000 ∧ (∀ i, fits .byte (.int (f2 i)) = true) ∧ (∀ j, j < n → f2 j = f j) ∧ f2 n = nI (48 + k)) := by
  refine qstart (own := RJ5) rfl (by decide) (Nat.le_of_ble_eq_true rfl) ?_
  intro p e s m args below meth c Q hQ X hi
  refine q_aload_n X 0 dJ5_append_c97b9_0 rfl rfl 1 rfl ?_
  refine q_get X 0 rfl (T := TJ4) (N := 4) rfl in_J4 3 (by decide) kF_J5_79 rfl rfl dJ5_append_c97b9_1 4 rfl ?_
  refine q_istore_n X [(2, .int (nI n)), (0, .ref sb), (1, .int (nI k))] dJ5_append_c97b9_4 rfl (by decide) rfl 5 rfl ?_
  refine q_iload_n X 0 dJ5_append_c97b9_5 rfl rfl 6 rfl ?_
  refine q_iload_n X 2 dJ5_append_c97b9_6 rfl rfl 7 rfl ?_
  refine q_callS X hZ [.int (nI k)] [(sb, .inr (14, [.ref V, .int 0, .int 0, .int (nI n)])), (V, .inl (ca 1, cap, .inl f))] rfl rfl kB_J6_stringSize_0f7a4 kL_J5_245 (cl_ssz hk) rfl ⟨Nat.le_of_ble_eq_true rfl, Nat.le_of_ble_eq_true rfl⟩ (Nat.le_of_ble_eq_true rfl) ⟨Nat.le_of_ble_eq_true rfl, Nat.le_of_ble_eq_true rfl⟩ dJ5_append_c97b9_7 10 rfl ?_
  intro v w1 hq
  obtain ⟨rfl, rfl⟩ := hq
  refine q_iadd X dJ5_append_c97b9_10 11 rfl ?_
  refine q_as (nI (n + 1)) (nI_add _ _) ?_
  refine q_istore_n X [(3, .int (nI (n + 1))), (2, .int (nI n)), (0, .ref sb), (1, .int (nI k))] dJ5_append_c97b9_11 rfl (by decide) rfl 12 rfl ?_
  refine q_aload_n X 2 dJ5_append_c97b9_12 rfl rfl 13 rfl ?_
  refine q_iload_n X 0 dJ5_append_c97b9_13 rfl rfl 14 rfl ?_
  refine q_callU X hZ [.int (nI (n + 1))] [] rfl 0 rfl (q := (RJ4, TJ4, 4)) rfl rfl rfl kU_J5_ensureCapacityInternal_d00df (sel_of X hV 0 rfl (fun _ => rfl)) kL_J5_100 (cl_ens hZ hV (q := n + 1) (by omega) hc hn hf) rfl ⟨Nat.le_of_ble_eq_true rfl, Nat.le_of_ble_eq_true rfl⟩ (Nat.le_of_ble_eq_true rfl) ⟨Nat.le_of_ble_eq_true rfl, Nat.le_of_ble_eq_true rfl⟩ dJ5_append_c97b9_14 17 rfl ?_
  intro v w1 hq
  obtain ⟨rfl, V2, cap2, f2, rfl, e1, e2, e3, e4⟩ := hq
  refine q_aload_n X 2 dJ5_append_c97b9_17 rfl rfl 18 rfl ?_
  refine q_callU X hZ [] [(V2, .inl (ca 1, cap2, .inl f2))] rfl 0 rfl (q := (RJ4, TJ4, 4)) rfl rfl rfl kU_J5_isLatin1_aae02 (X.1.2.2.2.2 _ kS_J5_isLatin1_aae02) kL_J5_83 (cl_isL (V := V2) hO) rfl ⟨Nat.le_of_ble_eq_true rfl, Nat.le_of_ble_eq_true rfl⟩ (Nat.le_of_ble_eq_true rfl) ⟨Nat.le_of_ble_eq_true rfl, Nat.le_of_ble_eq_true rfl⟩ dJ5_append_c97b9_18 21 rfl ?_
  intro v w1 hq
  obtain ⟨rfl, rfl⟩ := hq
  refine q_if_eq (A1 := none) (B1 := some ()) (res := ()) X (if_neg (by decide : ¬ (1 : Int32) = 0)) 37 24 dJ5_append_c97b9_21 (by decide) rfl (fun z => nomatch z) (fun _ => ?_)
  refine q_iload_n X 3 dJ5_append_c97b9_24 rfl rfl 25 rfl ?_
  refine q_iload_n X 0 dJ5_append_c97b9_25 rfl rfl 26 rfl ?_
  refine q_aload_n X 2 dJ5_append_c97b9_26 rfl rfl 27 rfl ?_
  refine q_get X 0 rfl (T := TJ4) (N := 4) rfl in_J4 0 (by decide) kF_J5_15 rfl rfl dJ5_append_c97b9_27 30 rfl ?_
  refine n_perm (ws' := [(V2, .inl (ca 1, cap2, .inl f2)), (sb, .inr (14, [.ref V2, .int 0, .int 0, .int (nI n)]))]) (List.Perm.swap _ _ _) ?_
  refine q_callS X hZ [.int (nI k), .int (nI (n + 1)), .ref V2] [(sb, .inr (14, [.ref V2, .int 0, .int 0, .int (nI n)]))] rfl rfl kB_J6_getChars_ba4f3 kL_J5_248 (cl_gch hG hk (by omega) e2) rfl ⟨Nat.le_of_ble_eq_true rfl, Nat.le_of_ble_eq_true rfl⟩ (Nat.le_of_ble_eq_true rfl) ⟨Nat.le_of_ble_eq_true rfl, Nat.le_of_ble_eq_true rfl⟩ dJ5_append_c97b9_30 33 rfl ?_
  intro v w1 hq
  obtain ⟨rfl, rfl⟩ := hq
  refine q_pop X dJ5_append_c97b9_33 rfl 34 rfl ?_
  refine q_goto X 48 dJ5_append_c97b9_34 (by decide) ?_
  refine q_aload_n X 2 dJ5_append_c97b9_48 rfl rfl 49 rfl ?_
  refine q_iload_n X 0 dJ5_append_c97b9_49 rfl rfl 50 rfl ?_
  refine q_put X 1 [(V2, .inl (ca 1, cap2, .inl (upd f2 (nI n).toNatClampNeg (vp_nar .byte (dgO k))))), (sb, .inr (14, [.ref V2, .int 0, .int 0, .int (nI (n + 1))]))] rfl (T := TJ4) (N := 4) rfl in_J4 tyJ4 tyJ4_ok nmJ4 3 (by decide) kF_J5_79 rfl rfl rfl rfl (Nat.le_of_ble_eq_true rfl) rfl dJ5_append_c97b9_50 53 rfl ?_
  refine q_aload_n X 2 dJ5_append_c97b9_53 rfl rfl 54 rfl ?_
  refine n_perm (ws' := [(sb, .inr (14, [.ref V2, .int 0, .int 0, .int (nI (n + 1))])), (V2, .inl (ca 1, cap2, .inl (upd f2 (nI n).toNatClampNeg (vp_nar .byte (dgO k)))))]) (List.Perm.swap _ _ _) ?_
  exact q_aret X (Or.inl ⟨_, rfl⟩) hQ ⟨rfl, V2, cap2, _, rfl, e1, e2, by rw [dgN hk]; exact fits_up e3 (nI_fit (by omega)), fun j hj => (pk_un (by rw [nI_clamp (by omega)]; omega)).trans (e4 j hj), by rw [nI_clamp (by omega), dgN hk]; exact pk_us⟩ (by first | exact Nat.zero_le _ | exact Nat.le_of_ble_eq_true rfl | exact Nat.le_refl _ | (simp only [rmT5, rmT0, rmT4]; omega)) (by first | exact Nat.zero_le _ | exact Nat.le_of_ble_eq_true rfl | exact Nat.le_refl _ | (simp only [rmT5, rmT0, rmT4]; omega)) dJ5_append_c97b9_54
set_option maxRecDepth 100000 in
/-- append(int), one digit -/
theorem cl_apI {sb V n cap : Nat} {f : Nat → Int32} {k tD : Nat} (hZ : ZOK Z) (hO : ZO Z tO sK sV) (hV : ZVO Z) (hG : ∀ A U H, Z A U H → zDg tD A U H) (hk : k < 10) (hl : n + 1 ≤ 400) (hc : cap ≤ 1000) (hn : n ≤ cap) (hf : ∀ i, fits .byte (.int (f i)) = true) : LC l D (tyL ca) Z yJ4_append_bf812 cJ4_append_bf812 2 (some (.object "java/lang/StringBuilder")) rmT6 [.ref sb, .int (nI k)] [(sb, .inr (14, [.ref V, .int 0, .int 0, .int (nI n)])), (V, .inl (ca 1, cap, .inl f))] (fun v w => v = some (.ref sb) ∧ ∃ (V2 cap2 : Nat) (f2 : Nat → Int32), w = [(sb, .inr (14, [.ref V2, .int 0, .int 0, .int (nI (n + 1))])), (V2, .inl (ca 1, cap2, .inl f2))] ∧ (n + 1) ≤ cap2 ∧ cap2 ≤ 1000 ∧ (∀ i, fits .byte (.int (f2 i)) = true) ∧ (∀ j, j < n → f2 j = f j) ∧ f2 n = nI (48 + k)) := by
  refine qstart (own := RJ4) rfl (by decide) (Nat.le_of_ble_eq_true rfl) ?_
  intro p e s m args below meth c Q hQ X hi
  refine q_aload_n X 0 dJ4_append_bf812_0 rfl rfl 1 rfl ?_
  refine q_iload_n X 1 dJ4_append_bf812_1 rfl rfl 2 rfl ?_
  refine q_callH X hZ [.int (nI k)] [] rfl 0 rfl (q := (RJ4, TJ4, 4)) rfl rfl kH_J5_append_c97b9 kL_J4_53 (cl_apI5 hZ hO hV hG hk hl hc hn hf) rfl ⟨Nat.le_of_ble_eq_true rfl, Nat.le_of_ble_eq_true rfl⟩ (Nat.le_of_ble_eq_true rfl) ⟨Nat.le_of_ble_eq_true rfl, Nat.le_of_ble_eq_true rfl⟩ dJ4_append_bf812_2 5 rfl ?_
  intro v w1 hq
  obtain ⟨rfl, V2, cap2, f2, rfl, e⟩ := hq
  refine q_pop X dJ4_append_bf812_5 rfl 6 rfl ?_
  refine q_aload_n X 0 dJ4_append_bf812_6 rfl rfl 7 rfl ?_
  exact q_aret X (Or.inl ⟨_, rfl⟩) hQ ⟨rfl, V2, cap2, f2, rfl, e⟩ (by first | exact Nat.zero_le _ | exact Nat.le_of_ble_eq_true rfl | exact Nat.le_refl _ | (simp only [rmT6, rmT5]; omega)) (by first | exact Nat.zero_le _ | exact Nat.le_of_ble_eq_true rfl | exact Nat.le_refl _ | (simp only [rmT6, rmT5]; omega)) dJ4_append_bf812_7
end TXU
