section TXT
variable {D : va_G} {A : Nat → Prop} {Z : (Nat → Prop) → State → Heap → Prop} {l : Launch} {ca : Nat → Nat} {tO : Nat} {sK sV : Nat → Nat}
section
variable {tys : List (ClassId × FieldType)} {p : Program} {e : Env} {R : Room} {s : State} {m : MethodId} {args : Array Value} {below : List Frame} {meth : Method} {c : Code} {cc : ByteArray} {nL : Nat} {own : String} {ret : Option FieldType} {cells slots : Nat} {Q : State → Prop} {ws : va_W} {pc : Nat} {lv : List (Nat × Value)} {st : List Value}
theorem q_mmax {x y : Int32} {index : Nat} (X : CN D tys A Z p s m args meth c cc nL own ret) (v : Int32) (hv : (if x < y then y else x) = v) (w1 : Cond.methodLink own index yJ9_max_7cf53 ∈ GW) (hR : 1 ≤ R.frames ∧ 21 ≤ R.locals) (hst : (st.map fun v => v.category).sum ≤ 8) (hcs : cells ≤ R.cells ∧ slots ≤ R.slots) (hdg : decode cc pc = .ok (.invokestatic index, 3)) (pc2 : Nat) (hp : pc + 3 = pc2) (kk : NN D A p l e R s m args below meth c nL cells slots Q ws pc2 lv (.int v :: st)) : NN D A p l e R s m args below meth c nL cells slots Q ws pc lv (.int y :: .int x :: st) := by
  subst hp; subst hv
  have h2 := X.1.2.2.2.2
  exact fun H locs ls hP hD hS hl => va_mmax X.1.1 X.1.2.1 (X.1.2.2.1.trans hl.1.symm) X.1.2.2.2.1 (h2 _ w1) (h2 _ kB_J9_max_7cf53.1) (h2 _ kB_J9_max_7cf53.2.1) (h2 _ kB_J9_max_7cf53.2.2.1) hR.1 (by have := hR.2; omega) hcs.1 hcs.2 hdg (kk H locs ls hP hD hS hl)
theorem q_mmin {x y : Int32} {index : Nat} (X : CN D tys A Z p s m args meth c cc nL own ret) (v : Int32) (hv : (if y < x then y else x) = v) (w1 : Cond.methodLink own index yJ9_min_7cf53 ∈ GW) (hR : 1 ≤ R.frames ∧ 21 ≤ R.locals) (hst : (st.map fun v => v.category).sum ≤ 8) (hcs : cells ≤ R.cells ∧ slots ≤ R.slots) (hdg : decode cc pc = .ok (.invokestatic index, 3)) (pc2 : Nat) (hp : pc + 3 = pc2) (kk : NN D A p l e R s m args below meth c nL cells slots Q ws pc2 lv (.int v :: st)) : NN D A p l e R s m args below meth c nL cells slots Q ws pc lv (.int y :: .int x :: st) := by
  subst hp; subst hv
  have h2 := X.1.2.2.2.2
  exact fun H locs ls hP hD hS hl => va_mmin X.1.1 X.1.2.1 (X.1.2.2.1.trans hl.1.symm) X.1.2.2.2.1 (h2 _ w1) (h2 _ kB_J9_min_7cf53.1) (h2 _ kB_J9_min_7cf53.2.1) (h2 _ kB_J9_min_7cf53.2.2.1) hR.1 (by have := hR.2; omega) hcs.1 hcs.2 hdg (kk H locs ls hP hD hS hl)
theorem q_copyN {index : Nat} {a0 a1 n0 n1 t0 : Nat} {cA : ClassId} {f g : Nat → Int32} {x y z : Int32} (X : CN D tys A Z p s m args meth c cc nL own ret) (k0 k1 sp dp nn : Nat) (hx : x = nI sp) (hy : y = nI dp) (hz : z = nI nn) (w2 : va_W) (he0 : ws[k0]? = some (a0, .inl (cA, n0, .inl f))) (he1 : ws[k1]? = some (a1, .inl (cA, n1, .inl g))) (ht : tys[t0]? = some (cA, .byte)) (h4 : sp + nn ≤ n0 ∧ n0 ≤ 65536) (h5 : dp + nn ≤ n1 ∧ n1 ≤ 65536) (hfit : ∀ i, fits .byte (.int (f i)) = true) (hset : ws.set k1 (a1, .inl (cA, n1, .inl (va_cpy f g sp dp nn))) = w2) (w1 : Cond.methodLink own index arraycopyName ∈ GW) (hfr : 1 ≤ R.frames) (hlo : (st.map fun v => v.category).sum + (nativeFrameWords "java/lang/System" "arraycopy" 5 + 11) ≤ R.locals) (hdg : decode cc pc = .ok (.invokestatic index, 3)) (pc2 : Nat) (hp : pc + 3 = pc2) (kk : NN D A p l e R s m args below meth c nL cells slots Q w2 pc2 lv st) : NN D A p l e R s m args below meth c nL cells slots Q ws pc lv (.int z :: .int y :: .ref a1 :: .int x :: .ref a0 :: st) := by
  subst hx; subst hy; subst hz
  have e1 := nI_clamp (n := sp) (by omega)
  have e2 := nI_clamp (n := dp) (by omega)
  have e3 := nI_clamp (n := nn) (by omega)
  exact q_copy X k0 k1 w2 he0 he1 ht (nI_pos (by omega)) (nI_pos (by omega)) (nI_pos (by omega)) (by rw [e1, e3]; exact h4.1) (by rw [e2, e3]; exact h5.1) hfit (by rw [e1, e2, e3]; exact hset) w1 hfr hlo hdg pc2 hp kk
theorem q_copyTN {index : Nat} {b0 a1 n0 n1 t0 : Nat} {cA : ClassId} {f g : Nat → Int32} {x y z : Int32} (X : CN D tys A Z p s m args meth c cc nL own ret) (k1 sp dp nn : Nat) (hx : x = nI sp) (hy : y = nI dp) (hz : z = nI nn) (hT : va_T .byte b0 n0 (fun j => .int (f j)) A s s.heap) (w2 : va_W) (he1 : ws[k1]? = some (a1, .inl (cA, n1, .inl g))) (ht : tys[t0]? = some (cA, .byte)) (h4 : sp + nn ≤ n0 ∧ n0 ≤ 65536) (h5 : dp + nn ≤ n1 ∧ n1 ≤ 65536) (hfit : ∀ i, fits .byte (.int (f i)) = true) (hset : ws.set k1 (a1, .inl (cA, n1, .inl (va_cpy f g sp dp nn))) = w2) (w1 : Cond.methodLink own index arraycopyName ∈ GW) (hfr : 1 ≤ R.frames) (hlo : (st.map fun v => v.category).sum + (nativeFrameWords "java/lang/System" "arraycopy" 5 + 11) ≤ R.locals) (hdg : decode cc pc = .ok (.invokestatic index, 3)) (pc2 : Nat) (hp : pc + 3 = pc2) (kk : NN D A p l e R s m args below meth c nL cells slots Q w2 pc2 lv st) : NN D A p l e R s m args below meth c nL cells slots Q ws pc lv (.int z :: .int y :: .ref a1 :: .int x :: .ref b0 :: st) := by
  subst hx; subst hy; subst hz
  have e1 := nI_clamp (n := sp) (by omega)
  have e2 := nI_clamp (n := dp) (by omega)
  have e3 := nI_clamp (n := nn) (by omega)
  exact q_copyT X k1 w2 hT he1 ht (nI_pos (by omega)) (nI_pos (by omega)) (nI_pos (by omega)) (by rw [e1, e3]; exact h4.1) (by rw [e2, e3]; exact h5.1) hfit (by rw [e1, e2, e3]; exact hset) w1 hfr hlo hdg pc2 hp kk
end
theorem nI_pred1 {n : Nat} (h : 0 < n) : nI n + (-1) = nI (n - 1) := by
  obtain ⟨k, rfl⟩ : ∃ k, n = k + 1 := ⟨n - 1, by omega⟩
  exact pk_m1 k
theorem nI_shr0 (n : Nat) (h : n < 2 ^ 31) : nI n >>> ((0 : Int32) &&& 31) = nI n := by
  rw [pk_shrN h _ 0 (by decide +kernel)]
  simp
theorem nI_shl0 (n : Nat) (h : n < 2 ^ 31) : nI n <<< ((0 : Int32) &&& 31) = nI n := by
  rw [pk_shlN _ 0 (by decide +kernel) (by omega)]
  simp
theorem nI_max {a b : Nat} (ha : a < 2 ^ 31) (hb : b < 2 ^ 31) : (if nI a < nI b then nI b else nI a) = nI (max a b) := by
  by_cases h : a < b
  · rw [if_pos (nI_lt h hb), Nat.max_eq_right (by omega)]
  · rw [if_neg (nI_nlt (by omega) ha), Nat.max_eq_left (by omega)]
theorem nI_min {a b : Nat} (ha : a < 2 ^ 31) (hb : b < 2 ^ 31) : (if nI b < nI a then nI b else nI a) = nI (min a b) := by
  by_cases h : b < a
  · rw [if_pos (nI_lt h ha), Nat.min_eq_right (by omega)]
  · rw [if_neg (nI_nlt (by omega) hb), Nat.min_eq_left (by omega)]
theorem nI_pl {n : Nat} (h : 0 < n) (hn : n < 2 ^ 31) : (0 : Int32) < nI n := nI_lt (a := 0) h hn
theorem nI_npl : ¬ (0 : Int32) < 0 := by decide
theorem kU_J5_isLatin1_aae02 : UB yJ5_isLatin1_aae02 yJ5_isLatin1_aae02 cJ5_isLatin1_aae02 1 (some .boolean) 0 := ⟨gw_c tb_5 75 rfl rfl, kN_J5, gw_c tb_5 78 rfl rfl, gw_c tb_5 76 rfl rfl, ⟨gw_c tb_5 75 rfl rfl, _, _, _, gw_c tb_5 78 rfl rfl⟩, ⟨by decide +kernel, by decide +kernel, by decide +kernel⟩⟩
theorem kU_J5_ensureCapacityInternal_d00df : UB yJ5_ensureCapacityInternal_d00df yJ5_ensureCapacityInternal_d00df cJ5_ensureCapacityInternal_d00df 3 none 1 := ⟨gw_c tb_5 47 rfl rfl, kN_J5, gw_c tb_5 48 rfl rfl, gw_c tb_8 172 rfl rfl, ⟨gw_c tb_5 47 rfl rfl, _, _, _, gw_c tb_5 48 rfl rfl⟩, ⟨by decide +kernel, by decide +kernel, by decide +kernel⟩⟩
theorem kU_J5_newCapacity_0f7a4 : UB yJ5_newCapacity_0f7a4 yJ5_newCapacity_0f7a4 cJ5_newCapacity_0f7a4 6 (some .int) 1 := ⟨gw_c tb_5 51 rfl rfl, kN_J5, gw_c tb_5 52 rfl rfl, gw_c tb_8 173 rfl rfl, ⟨gw_c tb_5 51 rfl rfl, _, _, _, gw_c tb_5 52 rfl rfl⟩, ⟨by decide +kernel, by decide +kernel, by decide +kernel⟩⟩
theorem kU_J5_inflateIfNeededFor_a7421 : UB yJ5_inflateIfNeededFor_a7421 yJ5_inflateIfNeededFor_a7421 cJ5_inflateIfNeededFor_a7421 2 none 1 := ⟨gw_c tb_5 101 rfl rfl, kN_J5, gw_c tb_5 102 rfl rfl, gw_c tb_8 175 rfl rfl, ⟨gw_c tb_5 101 rfl rfl, _, _, _, gw_c tb_5 102 rfl rfl⟩, ⟨by decide +kernel, by decide +kernel, by decide +kernel⟩⟩
theorem kU_J5_putStringAt_47b60 : UB yJ5_putStringAt_47b60 yJ5_putStringAt_47b60 cJ5_putStringAt_47b60 3 none 2 := ⟨gw_c tb_5 97 rfl rfl, kN_J5, gw_c tb_5 98 rfl rfl, gw_c tb_8 174 rfl rfl, ⟨gw_c tb_5 97 rfl rfl, _, _, _, gw_c tb_5 98 rfl rfl⟩, ⟨by decide +kernel, by decide +kernel, by decide +kernel⟩⟩
theorem kU_J5_getValue_6d5f1 : UB yJ5_getValue_6d5f1 yJ5_getValue_6d5f1 cJ5_getValue_6d5f1 1 (some (.array .byte)) 0 := ⟨gw_c tb_5 230 rfl rfl, kN_J5, gw_c tb_5 233 rfl rfl, gw_c tb_5 231 rfl rfl, ⟨gw_c tb_5 230 rfl rfl, _, _, _, gw_c tb_5 233 rfl rfl⟩, ⟨by decide +kernel, by decide +kernel, by decide +kernel⟩⟩
theorem kU_J4_length_8abf5 : UB yJ5_length_8abf5 yJ4_length_8abf5 cJ4_length_8abf5 1 (some .int) 0 := ⟨gw_c tb_5 238 rfl rfl, kN_J4, gw_c tb_5 239 rfl rfl, gw_c tb_5 236 rfl rfl, ⟨gw_c tb_5 235 rfl rfl, _, _, _, gw_c tb_6 1 rfl rfl⟩, ⟨by decide +kernel, by decide +kernel, by decide +kernel⟩⟩
theorem kS_J5_isLatin1_aae02 : Cond.selects RJ4 yJ5_isLatin1_aae02 yJ5_isLatin1_aae02 ∈ GW := gw_c tb_5 77 rfl rfl
theorem kS_J5_getValue_6d5f1 : Cond.selects RJ4 yJ5_getValue_6d5f1 yJ5_getValue_6d5f1 ∈ GW := gw_c tb_5 232 rfl rfl
theorem kS_J4_length_8abf5 : Cond.selects RJ4 yJ5_length_8abf5 yJ4_length_8abf5 ∈ GW := gw_c tb_5 237 rfl rfl
theorem kH_J5_append_cf1ce : HB RJ4 yJ5_append_cf1ce cJ5_append_cf1ce 3 (some (.object "java/lang/AbstractStringBuilder")) 1 := ⟨gw_c tb_5 39 rfl rfl, kN_J5, gw_c tb_5 40 rfl rfl, gw_c tb_8 170 rfl rfl, gw_c tb_5 20 rfl rfl, ⟨by decide +kernel, by decide +kernel⟩⟩
theorem kH_J5_append_3fe6f : HB RJ4 yJ5_append_3fe6f cJ5_append_3fe6f 2 (some (.object "java/lang/AbstractStringBuilder")) 1 := ⟨gw_c tb_5 204 rfl rfl, kN_J5, gw_c tb_5 205 rfl rfl, gw_c tb_8 178 rfl rfl, gw_c tb_5 20 rfl rfl, ⟨by decide +kernel, by decide +kernel⟩⟩
theorem kH_J5_append_c97b9 : HB RJ4 yJ5_append_c97b9 cJ5_append_c97b9 4 (some (.object "java/lang/AbstractStringBuilder")) 1 := ⟨gw_c tb_5 134 rfl rfl, kN_J5, gw_c tb_5 135 rfl rfl, gw_c tb_8 177 rfl rfl, gw_c tb_5 20 rfl rfl, ⟨by decide +kernel, by decide +kernel⟩⟩
theorem kH_J5_length_8abf5 : HB RJ4 yJ5_length_8abf5 cJ5_length_8abf5 1 (some .int) 0 := ⟨gw_c tb_5 235 rfl rfl, kN_J5, gw_c tb_6 1 rfl rfl, gw_c tb_5 236 rfl rfl, gw_c tb_5 20 rfl rfl, ⟨by decide +kernel, by decide +kernel⟩⟩
theorem kT_J5_init_d00df : IB yJ5_init_d00df cJ5_init_d00df 2 1 := ⟨kIm_J5_init_d00df, kN_J5, kIc_J5_init_d00df, rfl, ⟨by decide +kernel, by decide +kernel, by decide +kernel⟩⟩
theorem kT_J4_init_da8c8 : IB yJ4_init_da8c8 cJ4_init_da8c8 1 0 := ⟨kIm_J4_init_da8c8, kN_J4, kIc_J4_init_da8c8, rfl, ⟨by decide +kernel, by decide +kernel, by decide +kernel⟩⟩
theorem kT_J0_init_81219 : IB yJ0_init_81219 cJ0_init_81219 2 1 := ⟨kIm_J0_init_81219, kN_J0, kIc_J0_init_81219, rfl, ⟨by decide +kernel, by decide +kernel, by decide +kernel⟩⟩
theorem kT_J0_init_db425 : IB yJ0_init_db425 cJ0_init_db425 5 2 := ⟨kIm_J0_init_db425, kN_J0, kIc_J0_init_db425, rfl, ⟨by decide +kernel, by decide +kernel, by decide +kernel⟩⟩
theorem q_sub {p : Program} {e : Env} {R : Room} {s : State} {m : MethodId} {args : Array Value} {below : List Frame} {meth : Method} {c : Code} {nL : Nat} {cells slots : Nat} {Q : State → Prop} {ws : va_W} {pc : Nat} {lv : List (Nat × Value)} {st : List Value} (ws' : va_W) (h : ws'.Sublist ws) (kk : NN D A p l e R s m args below meth c nL cells slots Q ws' pc lv st) : NN D A p l e R s m args below meth c nL cells slots Q ws pc lv st :=
  fun H locs ls hP hD hS hl => kk H locs ls (wp_sub (fun q hq => h.subset hq) hP) (wd_iff.mpr ⟨(h.map Prod.fst).nodup (wd_iff.mp hD).1, fun q hq => (wd_iff.mp hD).2 q (h.subset hq)⟩) hS hl
theorem nI_snl {a b : Nat} (h : a ≤ b) (hb : b < 2 ^ 30) : ¬ (0 : Int32) < nI a - nI b := by
  rw [Int32.lt_iff_toInt_lt, pk_sub_toInt (by omega) hb, Int32.toInt_zero]
  omega
theorem nI_spl {a b : Nat} (h : b < a) (ha : a < 2 ^ 30) : (0 : Int32) < nI a - nI b := by
  rw [Int32.lt_iff_toInt_lt, pk_sub_toInt ha (by omega), Int32.toInt_zero]
  omega
theorem nI_ne {a b : Nat} (h : a ≠ b) (ha : a < 2 ^ 31) (hb : b < 2 ^ 31) : ¬ nI a = nI b := fun z => h ((nI_eq ha hb).mp z)
def rmT3 : Room := { frames := 1, cells := 1, slots := 1000, locals := 32 }
def rmT0 : Room := { frames := 0, cells := 0, slots := 0, locals := 0 }
def rmT1 : Room := { frames := 1, cells := 0, slots := 0, locals := 32 }
def rmT2 : Room := { frames := 2, cells := 0, slots := 0, locals := 60 }
set_option maxRecDepth 100000 in
/-- the builder holds Latin letters -/
theorem cl_isL {sb V n : Nat} (hO : ZO Z tO sK sV) : LC l D (tyL ca) Z yJ5_isLatin1_aae02 cJ5_isLatin1_aae02 1 (some .boolean) rmT0 [.ref sb] [(sb, .inr (14, [.ref V, .int 0, .int 0, .int (nI n)]))] (fun v w => v = some (.int 1) ∧ w = [(sb, .inr (14, [.ref V, .int 0, .int 0, .int (nI n)]))]) := by
  refine qstart (own := RJ5) rfl (by decide) (Nat.le_of_ble_eq_true rfl) ?_
  intro p e s m args below meth c Q hQ X hi
  refine q_cmpS X hO kF_J5_18 dJ5_isLatin1_aae02_0 3 rfl rfl ?_
  refine q_if_eq (A1 := none) (B1 := some ()) (res := ()) X (if_neg (by decide : ¬ (1 : Int32) = 0)) 17 6 dJ5_isLatin1_aae02_3 (by decide) rfl (fun z => nomatch z) (fun _ => ?_)
  refine q_aload_n X 0 dJ5_isLatin1_aae02_6 rfl rfl 7 rfl ?_
  refine q_get X 0 rfl (T := TJ4) (N := 4) rfl in_J4 1 (by decide) kF_J5_22 rfl rfl dJ5_isLatin1_aae02_7 10 rfl ?_
  refine q_if_ne (A1 := some ()) (B1 := none) (res := ()) X (if_pos (rfl : (0 : Int32) = 0)) 17 13 dJ5_isLatin1_aae02_10 (by decide) rfl (fun _ => ?_) (fun z => nomatch z)
  refine q_iconst X 1 dJ5_isLatin1_aae02_13 rfl 14 rfl ?_
  refine q_goto X 18 dJ5_isLatin1_aae02_14 (by decide) ?_
  exact q_iret X (rt := .boolean) hQ ⟨rfl, rfl⟩ rfl (by first | exact Nat.zero_le _ | exact Nat.le_of_ble_eq_true rfl | exact Nat.le_refl _ | (simp only [rmT0]; omega)) (by first | exact Nat.zero_le _ | exact Nat.le_of_ble_eq_true rfl | exact Nat.le_refl _ | (simp only [rmT0]; omega)) dJ5_isLatin1_aae02_18
set_option maxRecDepth 100000 in
theorem cl_newLen {a g q : Nat} (h0 : 0 < a + max g q) (h1 : a + max g q ≤ 65536) : LC l D (tyL ca) Z yJ8_newLength_cabcc cJ8_newLength_cabcc 4 (some .int) rmT1 [.int (nI a), .int (nI g), .int (nI q)] [] (fun v w => v = some (.int (nI (a + max g q))) ∧ w = []) := by
  refine qstart (own := RJ8) rfl (by decide) (Nat.le_of_ble_eq_true rfl) ?_
  intro p e s m args below meth c Q hQ X hi
  refine q_iload_n X 0 dJ8_newLength_cabcc_0 rfl rfl 1 rfl ?_
  refine q_iload_n X 1 dJ8_newLength_cabcc_1 rfl rfl 2 rfl ?_
  refine q_iload_n X 2 dJ8_newLength_cabcc_2 rfl rfl 3 rfl ?_
  refine q_mmax X (nI (max g q)) (nI_max (by omega) (by omega)) kL_J8_194 ⟨Nat.le_of_ble_eq_true rfl, Nat.le_of_ble_eq_true rfl⟩ (Nat.le_of_ble_eq_true rfl) ⟨Nat.le_of_ble_eq_true rfl, Nat.le_of_ble_eq_true rfl⟩ dJ8_newLength_cabcc_3 6 rfl ?_
  refine q_iadd X dJ8_newLength_cabcc_6 7 rfl ?_
  refine q_as (nI (a + max g q)) (nI_add _ _) ?_
  refine q_istore_n X [(3, .int (nI (a + max g q))), (0, .int (nI a)), (1, .int (nI g)), (2, .int (nI q))] dJ8_newLength_cabcc_7 rfl (by decide) rfl 8 rfl ?_
  refine q_iconst X 0 dJ8_newLength_cabcc_8 rfl 9 rfl ?_
  refine q_iload_n X 0 dJ8_newLength_cabcc_9 rfl rfl 10 rfl ?_
  refine q_icmp_ge (A1 := some ()) (B1 := none) (res := ()) X (if_pos (nI_pl h0 (by omega))) 21 13 dJ8_newLength_cabcc_10 (by decide) rfl (fun _ => ?_) (fun z => nomatch z)
  refine q_iload_n X 0 dJ8_newLength_cabcc_13 rfl rfl 14 rfl ?_
  refine q_ldc X 2147483639 kK_J8_200 dJ8_newLength_cabcc_14 16 rfl ?_
  refine q_icmp_gt (A1 := none) (B1 := some ()) (res := ()) X (if_neg (nI_nlt (a := 2147483639) (by omega) (by decide))) 21 19 dJ8_newLength_cabcc_16 (by decide) rfl (fun z => nomatch z) (fun _ => ?_)
  refine q_iload_n X 0 dJ8_newLength_cabcc_19 rfl rfl 20 rfl ?_
  exact q_iret X (rt := .int) hQ ⟨rfl, rfl⟩ rfl (by first | exact Nat.zero_le _ | exact Nat.le_of_ble_eq_true rfl | exact Nat.le_refl _ | (simp only [rmT1]; omega)) (by first | exact Nat.zero_le _ | exact Nat.le_of_ble_eq_true rfl | exact Nat.le_refl _ | (simp only [rmT1]; omega)) dJ8_newLength_cabcc_20
set_option maxRecDepth 100000 in
theorem cl_newCap {sb V n cap q : Nat} {f : Nat → Int32} (hZ : ZOK Z) (h0 : cap < q) (h1 : q ≤ 400) : LC l D (tyL ca) Z yJ5_newCapacity_0f7a4 cJ5_newCapacity_0f7a4 6 (some .int) rmT2 [.ref sb, .int (nI q)] [(sb, .inr (14, [.ref V, .int 0, .int 0, .int (nI n)])), (V, .inl (ca 1, cap, .inl f))] (fun v w => v = some (.int (nI (cap + max (q - cap) (cap + 2)))) ∧ w = [(sb, .inr (14, [.ref V, .int 0, .int 0, .int (nI n)])), (V, .inl (ca 1, cap, .inl f))]) := by
  refine qstart (own := RJ5) rfl (by decide) (Nat.le_of_ble_eq_true rfl) ?_
  intro p e s m args below meth c Q hQ X hi
  refine q_aload_n X 0 dJ5_newCapacity_0f7a4_0 rfl rfl 1 rfl ?_
  refine q_get X 0 rfl (T := TJ4) (N := 4) rfl in_J4 0 (by decide) kF_J5_15 rfl rfl dJ5_newCapacity_0f7a4_1 4 rfl ?_
  refine q_alen X 1 (nI cap) rfl (t0 := 1) rfl rfl dJ5_newCapacity_0f7a4_4 5 rfl ?_
  refine q_istore_n X [(2, .int (nI cap)), (0, .ref sb), (1, .int (nI q))] dJ5_newCapacity_0f7a4_5 rfl (by decide) rfl 6 rfl ?_
  refine q_iload_n X 2 dJ5_newCapacity_0f7a4_6 rfl rfl 7 rfl ?_
  refine q_aload_n X 1 dJ5_newCapacity_0f7a4_7 rfl rfl 8 rfl ?_
  refine q_get X 0 rfl (T := TJ4) (N := 4) rfl in_J4 1 (by decide) kF_J5_22 rfl rfl dJ5_newCapacity_0f7a4_8 11 rfl ?_
  refine q_ishl X dJ5_newCapacity_0f7a4_11 12 rfl ?_
  refine q_as (nI q) (nI_shl0 _ (by omega)) ?_
  refine q_istore_n X [(3, .int (nI q)), (2, .int (nI cap)), (0, .ref sb), (1, .int (nI q))] dJ5_newCapacity_0f7a4_12 rfl (by decide) rfl 13 rfl ?_
  refine q_iload_n X 0 dJ5_newCapacity_0f7a4_13 rfl rfl 14 rfl ?_
  refine q_iload_n X 1 dJ5_newCapacity_0f7a4_14 rfl rfl 15 rfl ?_
  refine q_isub X dJ5_newCapacity_0f7a4_15 16 rfl ?_
  refine q_as (nI (q - cap)) (pk_sub (by omega)) ?_
  refine q_istore X [(4, .int (nI (q - cap))), (3, .int (nI q)), (2, .int (nI cap)), (0, .ref sb), (1, .int (nI q))] dJ5_newCapacity_0f7a4_16 (by decide) rfl 18 rfl ?_
  refine q_iload_n X 2 dJ5_newCapacity_0f7a4_18 rfl rfl 19 rfl ?_
  refine q_iload X 0 dJ5_newCapacity_0f7a4_19 rfl 21 rfl ?_
  refine q_iload_n X 2 dJ5_newCapacity_0f7a4_21 rfl rfl 22 rfl ?_
  refine q_iconst X 2 dJ5_newCapacity_0f7a4_22 rfl 23 rfl ?_
  refine q_aload_n X 3 dJ5_newCapacity_0f7a4_23 rfl rfl 24 rfl ?_
  refine q_get X 0 rfl (T := TJ4) (N := 4) rfl in_J4 1 (by decide) kF_J5_22 rfl rfl dJ5_newCapacity_0f7a4_24 27 rfl ?_
  refine q_ishl X dJ5_newCapacity_0f7a4_27 28 rfl ?_
  refine q_as (nI 2) (by decide +kernel) ?_
  refine q_iadd X dJ5_newCapacity_0f7a4_28 29 rfl ?_
  refine q_as (nI (cap + 2)) (nI_add _ _) ?_
  refine q_callS X hZ [.int (nI cap), .int (nI (q - cap)), .int (nI (cap + 2))] [(sb, .inr (14, [.ref V, .int 0, .int 0, .int (nI n)])), (V, .inl (ca 1, cap, .inl f))] rfl rfl kB_J8_newLength_cabcc kL_J5_114 (cl_newLen (a := cap) (g := q - cap) (q := cap + 2) (by omega) (by omega)) rfl ⟨Nat.le_of_ble_eq_true rfl, Nat.le_of_ble_eq_true rfl⟩ (Nat.le_of_ble_eq_true rfl) ⟨Nat.le_of_ble_eq_true rfl, Nat.le_of_ble_eq_true rfl⟩ dJ5_newCapacity_0f7a4_29 32 rfl ?_
  intro v w1 hq
  obtain ⟨rfl, rfl⟩ := hq
  refine q_istore X [(5, .int (nI (cap + max (q - cap) (cap + 2)))), (4, .int (nI (q - cap))), (3, .int (nI q)), (2, .int (nI cap)), (0, .ref sb), (1, .int (nI q))] dJ5_newCapacity_0f7a4_32 (by decide) rfl 34 rfl ?_
  refine q_iload X 0 dJ5_newCapacity_0f7a4_34 rfl 36 rfl ?_
  refine q_ldc X 2147483647 kK_J5_39 dJ5_newCapacity_0f7a4_36 38 rfl ?_
  refine q_icmp_ne (A1 := none) (B1 := some ()) (res := ()) X (if_neg (nI_ne (b := 2147483647) (by omega) (by omega) (by decide))) 51 41 dJ5_newCapacity_0f7a4_38 (by decide) rfl (fun z => nomatch z) (fun _ => ?_)
  refine q_iload X 0 dJ5_newCapacity_0f7a4_51 rfl 53 rfl ?_
  refine q_aload_n X 4 dJ5_newCapacity_0f7a4_53 rfl rfl 54 rfl ?_
  refine q_get X 0 rfl (T := TJ4) (N := 4) rfl in_J4 1 (by decide) kF_J5_22 rfl rfl dJ5_newCapacity_0f7a4_54 57 rfl ?_
  refine q_ishr X dJ5_newCapacity_0f7a4_57 58 rfl ?_
  refine q_as (nI (cap + max (q - cap) (cap + 2))) (nI_shr0 _ (by omega)) ?_
  exact q_iret X (rt := .int) hQ ⟨rfl, rfl⟩ rfl (by first | exact Nat.zero_le _ | exact Nat.le_of_ble_eq_true rfl | exact Nat.le_refl _ | (simp only [rmT2, rmT1]; omega)) (by first | exact Nat.zero_le _ | exact Nat.le_of_ble_eq_true rfl | exact Nat.le_refl _ | (simp only [rmT2, rmT1]; omega)) dJ5_newCapacity_0f7a4_58
set_option maxRecDepth 100000 in
theorem cl_copyOf {V cap q : Nat} {f : Nat → Int32} (h0 : cap < q) (h1 : q ≤ 1000) (hf : ∀ i, fits .byte (.int (f i)) = true) : LC l D (tyL ca) Z yJ7_copyOf_9075b cJ7_copyOf_9075b 3 (some (.array .byte)) rmT3 [.ref V, .int (nI q)] [(V, .inl (ca 1, cap, .inl f))] (fun v w => ∃ V2 : Nat, v = some (.ref V2) ∧ w = [(V, .inl (ca 1, cap, .inl f)), (V2, .inl (ca 1, q, .inl (va_cpy f (fun _ => 0) 0 0 cap)))]) := by
  refine qstart (own := RJ7) rfl (by decide) (Nat.le_of_ble_eq_true rfl) ?_
  intro p e s m args below meth c Q hQ X hi
  refine q_iload_n X 1 dJ7_copyOf_9075b_0 rfl rfl 1 rfl ?_
  refine q_aload_n X 0 dJ7_copyOf_9075b_1 rfl rfl 2 rfl ?_
  refine q_alen X 0 (nI cap) rfl (t0 := 1) rfl rfl dJ7_copyOf_9075b_2 3 rfl ?_
  refine q_icmp_ne (A1 := none) (B1 := some ()) (res := ()) X (if_neg (nI_ne (by omega) (by omega) (by omega))) 14 6 dJ7_copyOf_9075b_3 (by decide) rfl (fun z => nomatch z) (fun _ => ?_)
  refine q_iload_n X 1 dJ7_copyOf_9075b_14 rfl rfl 15 rfl ?_
  refine n_newa (atype := .byte) (ty := .byte) (t0 := 1) (N' := q) (q, .inl (fun _ => 0)) X rfl kA_byte rfl (fun _ => rfl) (nI_pos (by omega)) (nI_clamp (by omega)) (by show q * 1 ≤ _; omega) ⟨Nat.le_of_ble_eq_true rfl, by show 0 + q ≤ 1000; omega⟩ dJ7_copyOf_9075b_15 17 rfl ?_
  intro V2
  refine q_astore_n X [(2, .ref V2), (0, .ref V), (1, .int (nI q))] dJ7_copyOf_9075b_17 rfl (by decide) rfl 18 rfl ?_
  refine q_aload_n X 1 dJ7_copyOf_9075b_18 rfl rfl 19 rfl ?_
  refine q_iconst X 0 dJ7_copyOf_9075b_19 rfl 20 rfl ?_
  refine q_aload_n X 0 dJ7_copyOf_9075b_20 rfl rfl 21 rfl ?_
  refine q_iconst X 0 dJ7_copyOf_9075b_21 rfl 22 rfl ?_
  refine q_aload_n X 1 dJ7_copyOf_9075b_22 rfl rfl 23 rfl ?_
  refine q_alen X 0 (nI cap) rfl (t0 := 1) rfl rfl dJ7_copyOf_9075b_23 24 rfl ?_
  refine q_iload_n X 2 dJ7_copyOf_9075b_24 rfl rfl 25 rfl ?_
  refine q_mmin X (nI cap) (if_neg (nI_nlt (by omega) (by omega))) kL_J7_304 ⟨Nat.le_of_ble_eq_true rfl, Nat.le_of_ble_eq_true rfl⟩ (Nat.le_of_ble_eq_true rfl) ⟨Nat.le_of_ble_eq_true rfl, by show 0 + q ≤ 1000; omega⟩ dJ7_copyOf_9075b_25 28 rfl ?_
  refine q_copyN X 0 1 0 0 cap nI_0.symm nI_0.symm rfl [(V, .inl (ca 1, cap, .inl f)), (V2, .inl (ca 1, q, .inl (va_cpy f (fun _ => 0) 0 0 cap)))] rfl rfl (t0 := 1) rfl (by omega) (by omega) hf rfl kL_J7_150 (Nat.le_of_ble_eq_true rfl) (Nat.le_of_ble_eq_true rfl) dJ7_copyOf_9075b_28 31 rfl ?_
  refine q_aload_n X 0 dJ7_copyOf_9075b_31 rfl rfl 32 rfl ?_
  exact q_aret X (Or.inr ⟨_, rfl⟩) hQ ⟨V2, rfl, rfl⟩ (by first | exact Nat.zero_le _ | exact Nat.le_of_ble_eq_true rfl | exact Nat.le_refl _ | (simp only [rmT3]; omega)) (by first | exact Nat.zero_le _ | exact Nat.le_of_ble_eq_true rfl | exact Nat.le_refl _ | (simp only [rmT3]; omega)) dJ7_copyOf_9075b_32
end TXT
