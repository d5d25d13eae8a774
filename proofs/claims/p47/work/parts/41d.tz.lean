section TXV
variable {D : va_G} {A : Nat → Prop} {Z : (Nat → Prop) → State → Heap → Prop} {l : Launch} {ca : Nat → Nat} {tO : Nat} {sK sV : Nat → Nat}
set_option maxRecDepth 100000 in
theorem cl_gv {sb V n : Nat} : LC l D (tyL ca) Z yJ5_getValue_6d5f1 cJ5_getValue_6d5f1 1 (some (.array .byte)) rmT0 [.ref sb] [(sb, .inr (14, [.ref V, .int 0, .int 0, .int (nI n)]))] (fun v w => v = some (.ref V) ∧ w = [(sb, .inr (14, [.ref V, .int 0, .int 0, .int (nI n)]))]) := by
  refine qstart (own := RJ5) rfl (by decide) (Nat.le_of_ble_eq_true rfl) ?_
  intro p e s m args below meth c Q hQ X hi
  refine q_aload_n X 0 dJ5_getValue_6d5f1_0 rfl rfl 1 rfl ?_
  refine q_get X 0 rfl (T := TJ4) (N := 4) rfl in_J4 0 (by decide) kF_J5_15 rfl rfl dJ5_getValue_6d5f1_1 4 rfl ?_
  exact q_aret X (Or.inr ⟨_, rfl⟩) hQ ⟨rfl, rfl⟩ (by first | exact Nat.zero_le _ | exact Nat.le_of_ble_eq_true rfl | exact Nat.le_refl _ | (simp only [rmT0]; omega)) (by first | exact Nat.zero_le _ | exact Nat.le_of_ble_eq_true rfl | exact Nat.le_refl _ | (simp only [rmT0]; omega)) dJ5_getValue_6d5f1_4
set_option maxRecDepth 100000 in
theorem cl_l5 {sb V n : Nat} : LC l D (tyL ca) Z yJ5_length_8abf5 cJ5_length_8abf5 1 (some .int) rmT0 [.ref sb] [(sb, .inr (14, [.ref V, .int 0, .int 0, .int (nI n)]))] (fun v w => v = some (.int (nI n)) ∧ w = [(sb, .inr (14, [.ref V, .int 0, .int 0, .int (nI n)]))]) := by
  refine qstart (own := RJ5) rfl (by decide) (Nat.le_of_ble_eq_true rfl) ?_
  intro p e s m args below meth c Q hQ X hi
  refine q_aload_n X 0 dJ5_length_8abf5_0 rfl rfl 1 rfl ?_
  refine q_get X 0 rfl (T := TJ4) (N := 4) rfl in_J4 3 (by decide) kF_J5_79 rfl rfl dJ5_length_8abf5_1 4 rfl ?_
  exact q_iret X (rt := .int) hQ ⟨rfl, rfl⟩ rfl (by first | exact Nat.zero_le _ | exact Nat.le_of_ble_eq_true rfl | exact Nat.le_refl _ | (simp only [rmT0]; omega)) (by first | exact Nat.zero_le _ | exact Nat.le_of_ble_eq_true rfl | exact Nat.le_refl _ | (simp only [rmT0]; omega)) dJ5_length_8abf5_4
set_option maxRecDepth 100000 in
theorem cl_l4 {sb V n : Nat} (hZ : ZOK Z) : LC l D (tyL ca) Z yJ4_length_8abf5 cJ4_length_8abf5 1 (some .int) rmT1 [.ref sb] [(sb, .inr (14, [.ref V, .int 0, .int 0, .int (nI n)]))] (fun v w => v = some (.int (nI n)) ∧ w = [(sb, .inr (14, [.ref V, .int 0, .int 0, .int (nI n)]))]) := by
  refine qstart (own := RJ4) rfl (by decide) (Nat.le_of_ble_eq_true rfl) ?_
  intro p e s m args below meth c Q hQ X hi
  refine q_aload_n X 0 dJ4_length_8abf5_0 rfl rfl 1 rfl ?_
  refine q_callH X hZ [] [] rfl 0 rfl (q := (RJ4, TJ4, 4)) rfl rfl kH_J5_length_8abf5 kL_J4_343 cl_l5 rfl ⟨Nat.le_of_ble_eq_true rfl, Nat.le_of_ble_eq_true rfl⟩ (Nat.le_of_ble_eq_true rfl) ⟨Nat.le_of_ble_eq_true rfl, Nat.le_of_ble_eq_true rfl⟩ dJ4_length_8abf5_1 4 rfl ?_
  intro v w1 hq
  obtain ⟨rfl, rfl⟩ := hq
  exact q_iret X (rt := .int) hQ ⟨rfl, rfl⟩ rfl (by first | exact Nat.zero_le _ | exact Nat.le_of_ble_eq_true rfl | exact Nat.le_refl _ | (simp only [rmT1, rmT0]; omega)) (by first | exact Nat.zero_le _ | exact Nat.le_of_ble_eq_true rfl | exact Nat.le_refl _ | (simp only [rmT1, rmT0]; omega)) dJ4_length_8abf5_4
set_option maxRecDepth 100000 in
theorem cl_ckl {n : Nat} (hn : n ≤ 65536) : LC l D (tyL ca) Z yJ7_checkLength_df160 cJ7_checkLength_df160 2 none rmT0 [.int 0, .int (nI n)] [] (fun v w => v = none ∧ w = []) := by
  refine qstart (own := RJ7) rfl (by decide) (Nat.le_of_ble_eq_true rfl) ?_
  intro p e s m args below meth c Q hQ X hi
  refine q_iload_n X 1 dJ7_checkLength_df160_0 rfl rfl 1 rfl ?_
  refine q_iload_n X 0 dJ7_checkLength_df160_1 rfl rfl 2 rfl ?_
  refine q_icmp_ge (A1 := none) (B1 := some ()) (res := ()) X (if_neg (nI_pos (by omega))) 37 5 dJ7_checkLength_df160_2 (by decide) rfl (fun z => nomatch z) (fun _ => ?_)
  exact q_vret X hQ ⟨rfl, rfl⟩ (by first | exact Nat.zero_le _ | exact Nat.le_of_ble_eq_true rfl | exact Nat.le_refl _ | (simp only [rmT0]; omega)) (by first | exact Nat.zero_le _ | exact Nat.le_of_ble_eq_true rfl | exact Nat.le_refl _ | (simp only [rmT0]; omega)) dJ7_checkLength_df160_37
def rmT7 : Room := { frames := 1, cells := 1, slots := 1000, locals := 32 }
def rmT8 : Room := { frames := 2, cells := 1, slots := 1000, locals := 60 }
set_option maxRecDepth 100000 in
theorem cl_crb {V n cap : Nat} {f : Nat → Int32} (hZ : ZOK Z) (hV : ZVO Z) (hc : cap ≤ 1000) (hn : n ≤ cap) (hf : ∀ i, fits .byte (.int (f i)) = true) : LC l D (tyL ca) Z yJ7_copyOfRangeByte_39247 cJ7_copyOfRangeByte_39247 5 (some (.array .byte)) rmT7 [.ref V, .int 0, .int (nI n)] [(V, .inl (ca 1, cap, .inl f))] (fun v w => ∃ (V2 : Nat) (f2 : Nat → Int32), v = some (.ref V2) ∧ w = [(V, .inl (ca 1, cap, .inl f)), (V2, .inl (ca 1, n, .inl f2))] ∧ (∀ i, fits .byte (.int (f2 i)) = true) ∧ ∀ j, j < n → f2 j = f j) := by
  refine qstart (own := RJ7) rfl (by decide) (Nat.le_of_ble_eq_true rfl) ?_
  intro p e s m args below meth c Q hQ X hi
  refine q_iload_n X 1 dJ7_copyOfRangeByte_39247_0 rfl rfl 1 rfl ?_
  refine q_iload_n X 2 dJ7_copyOfRangeByte_39247_1 rfl rfl 2 rfl ?_
  refine q_callS X hZ [.int 0, .int (nI n)] [(V, .inl (ca 1, cap, .inl f))] rfl rfl kB_J7_checkLength_df160 kL_J7_343 (cl_ckl (by omega)) rfl ⟨Nat.le_of_ble_eq_true rfl, Nat.le_of_ble_eq_true rfl⟩ (Nat.le_of_ble_eq_true rfl) ⟨Nat.le_of_ble_eq_true rfl, Nat.le_of_ble_eq_true rfl⟩ dJ7_copyOfRangeByte_39247_2 5 rfl ?_
  intro v w1 hq
  obtain ⟨rfl, rfl⟩ := hq
  refine q_iload_n X 2 dJ7_copyOfRangeByte_39247_5 rfl rfl 6 rfl ?_
  refine q_iload_n X 1 dJ7_copyOfRangeByte_39247_6 rfl rfl 7 rfl ?_
  refine q_isub X dJ7_copyOfRangeByte_39247_7 8 rfl ?_
  refine q_as (nI n) (nI_m0 _) ?_
  refine q_istore_n X [(3, .int (nI n)), (0, .ref V), (1, .int 0), (2, .int (nI n))] dJ7_copyOfRangeByte_39247_8 rfl (by decide) rfl 9 rfl ?_
  refine q_iload_n X 0 dJ7_copyOfRangeByte_39247_9 rfl rfl 10 rfl ?_
  refine n_newa (atype := .byte) (ty := .byte) (t0 := 1) (N' := n) (n, .inl (fun _ => 0)) X rfl kA_byte rfl (fun _ => rfl) (nI_pos (by omega)) (nI_clamp (by omega)) (by show n * 1 ≤ _; omega) ⟨Nat.le_of_ble_eq_true rfl, by show 0 + 0 + n ≤ 1000; omega⟩ dJ7_copyOfRangeByte_39247_10 12 rfl ?_
  intro V2
  refine q_astore X [(4, .ref V2), (3, .int (nI n)), (0, .ref V), (1, .int 0), (2, .int (nI n))] dJ7_copyOfRangeByte_39247_12 (by decide) rfl 14 rfl ?_
  refine q_aload_n X 2 dJ7_copyOfRangeByte_39247_14 rfl rfl 15 rfl ?_
  refine q_iload_n X 3 dJ7_copyOfRangeByte_39247_15 rfl rfl 16 rfl ?_
  refine q_aload X 0 dJ7_copyOfRangeByte_39247_16 rfl 18 rfl ?_
  refine q_iconst X 0 dJ7_copyOfRangeByte_39247_18 rfl 19 rfl ?_
  refine q_aload_n X 2 dJ7_copyOfRangeByte_39247_19 rfl rfl 20 rfl ?_
  refine q_alen X 0 (nI cap) rfl (t0 := 1) rfl rfl dJ7_copyOfRangeByte_39247_20 21 rfl ?_
  refine q_iload_n X 3 dJ7_copyOfRangeByte_39247_21 rfl rfl 22 rfl ?_
  refine q_isub X dJ7_copyOfRangeByte_39247_22 23 rfl ?_
  refine q_as (nI cap) (nI_m0 _) ?_
  refine q_iload_n X 1 dJ7_copyOfRangeByte_39247_23 rfl rfl 24 rfl ?_
  refine q_mmin X (nI n) ((nI_min (by omega) (by omega)).trans (by rw [Nat.min_eq_right hn])) kL_J7_304 ⟨Nat.le_of_ble_eq_true rfl, Nat.le_of_ble_eq_true rfl⟩ (Nat.le_of_ble_eq_true rfl) ⟨Nat.le_of_ble_eq_true rfl, by show 0 + 0 + n ≤ 1000; omega⟩ dJ7_copyOfRangeByte_39247_24 27 rfl ?_
  refine q_copyN X 0 1 0 0 n nI_0.symm nI_0.symm rfl [(V, .inl (ca 1, cap, .inl f)), (V2, .inl (ca 1, n, .inl (va_cpy f (fun _ => 0) 0 0 n)))] rfl rfl (t0 := 1) rfl (by omega) (by omega) hf rfl kL_J7_150 (Nat.le_of_ble_eq_true rfl) (Nat.le_of_ble_eq_true rfl) dJ7_copyOfRangeByte_39247_27 30 rfl ?_
  refine q_aload X 0 dJ7_copyOfRangeByte_39247_30 rfl 32 rfl ?_
  exact q_aret X (Or.inr ⟨_, rfl⟩) hQ ⟨V2, _, rfl, rfl, fits_cp hf fits_z, fun j hj => cpy00 hj⟩ (by first | exact Nat.zero_le _ | exact Nat.le_of_ble_eq_true rfl | exact Nat.le_refl _ | (simp only [rmT7, rmT0]; omega)) (by first | exact Nat.zero_le _ | exact Nat.le_of_ble_eq_true rfl | exact Nat.le_refl _ | (simp only [rmT7, rmT0]; omega)) dJ7_copyOfRangeByte_39247_32
theorem cln_fit {cA : ClassId} {cap : Nat} {f : Nat → Int32} (hf : ∀ i, fits .byte (.int (f i)) = true) {i : Nat} {v : Value} (hv : (vp_cell cA (cap, .inl f)).slots[i]? = some v) : fits .byte v = true := by
  rw [vp_cell_i] at hv
  by_cases h : i < cap
  · rw [arrV_read _ _ h] at hv
    cases hv
    exact hf i
  · rw [Array.getElem?_eq_none (by rw [arrV_size]; omega)] at hv
    cases hv
set_option maxRecDepth 100000 in
theorem cl_cor {V n cap : Nat} {f : Nat → Int32} (hZ : ZOK Z) (hV : ZVO Z) (hc : cap ≤ 1000) (hn : n ≤ cap) (hf : ∀ i, fits .byte (.int (f i)) = true) : LC l D (tyL ca) Z yJ7_copyOfRange_39247 cJ7_copyOfRange_39247 3 (some (.array .byte)) rmT8 [.ref V, .int 0, .int (nI n)] [(V, .inl (ca 1, cap, .inl f))] (fun v w => ∃ (V2 : Nat) (f2 : Nat → Int32), v = some (.ref V2) ∧ w = [(V, .inl (ca 1, cap, .inl f)), (V2, .inl (ca 1, n, .inl f2))] ∧ (∀ i, fits .byte (.int (f2 i)) = true) ∧ ∀ j, j < n → f2 j = f j) := by
  refine qstart (own := RJ7) rfl (by decide) (Nat.le_of_ble_eq_true rfl) ?_
  intro p e s m args below meth c Q hQ X hi
  by_cases h : n = cap
  · refine q_iload_n X 1 dJ7_copyOfRange_39247_0 rfl rfl 1 rfl ?_
    refine q_if_ne (A1 := some ()) (B1 := none) (res := ()) X (if_pos (rfl : (0 : Int32) = 0)) 10 4 dJ7_copyOfRange_39247_1 (by decide) rfl (fun _ => ?_) (fun z => nomatch z)
    refine q_iload_n X 2 dJ7_copyOfRange_39247_4 rfl rfl 5 rfl ?_
    refine q_aload_n X 0 dJ7_copyOfRange_39247_5 rfl rfl 6 rfl ?_
    refine q_alen X 0 (nI cap) rfl (t0 := 1) rfl rfl dJ7_copyOfRange_39247_6 7 rfl ?_
    refine q_icmp_eq (A1 := some ()) (B1 := none) (res := ()) X (if_pos (by rw [h])) 17 10 dJ7_copyOfRange_39247_7 (by decide) rfl (fun _ => ?_) (fun z => nomatch z)
    refine q_aload_n X 0 dJ7_copyOfRange_39247_17 rfl rfl 18 rfl ?_
    refine q_clone X 0 rfl (t0 := 1) rfl rfl (fun i v hv => ?_) (gw_c tb_5 65 rfl rfl) (gw_c tb_5 66 rfl rfl) (gw_c tb_5 67 rfl rfl) (gw_c tb_5 68 rfl rfl) (gw_c tb_5 69 rfl rfl) (hV _ _ _ X.2.2.2.2.2 _ (List.mem_of_getElem? (i := 4) rfl)) (Nat.le_of_ble_eq_true rfl) (Nat.le_of_ble_eq_true rfl) ⟨Nat.le_of_ble_eq_true rfl, by show 0 + cap ≤ 1000; omega⟩ dJ7_copyOfRange_39247_18 21 rfl ?_
    · exact cln_fit hf hv
    intro V2
    refine q_castA X 1 rfl (t0 := 1) rfl rfl kCl_J7_311 dJ7_copyOfRange_39247_21 24 rfl ?_
    exact q_aret X (Or.inr ⟨_, rfl⟩) hQ ⟨V2, f, rfl, by rw [h]; rfl, hf, fun _ _ => rfl⟩ (by first | exact Nat.zero_le _ | exact Nat.le_of_ble_eq_true rfl | exact Nat.le_refl _ | (simp only [rmT8]; omega)) (by first | exact Nat.zero_le _ | exact Nat.le_of_ble_eq_true rfl | exact Nat.le_refl _ | (simp only [rmT8]; omega)) dJ7_copyOfRange_39247_24
  · refine q_iload_n X 1 dJ7_copyOfRange_39247_0 rfl rfl 1 rfl ?_
    refine q_if_ne (A1 := some ()) (B1 := none) (res := ()) X (if_pos (rfl : (0 : Int32) = 0)) 10 4 dJ7_copyOfRange_39247_1 (by decide) rfl (fun _ => ?_) (fun z => nomatch z)
    refine q_iload_n X 2 dJ7_copyOfRange_39247_4 rfl rfl 5 rfl ?_
    refine q_aload_n X 0 dJ7_copyOfRange_39247_5 rfl rfl 6 rfl ?_
    refine q_alen X 0 (nI cap) rfl (t0 := 1) rfl rfl dJ7_copyOfRange_39247_6 7 rfl ?_
    refine q_icmp_eq (A1 := none) (B1 := some ()) (res := ()) X (if_neg (nI_ne h (by omega) (by omega))) 17 10 dJ7_copyOfRange_39247_7 (by decide) rfl (fun z => nomatch z) (fun _ => ?_)
    refine q_aload_n X 0 dJ7_copyOfRange_39247_10 rfl rfl 11 rfl ?_
    refine q_iload_n X 1 dJ7_copyOfRange_39247_11 rfl rfl 12 rfl ?_
    refine q_iload_n X 2 dJ7_copyOfRange_39247_12 rfl rfl 13 rfl ?_
    refine q_callS X hZ [.ref V, .int 0, .int (nI n)] [] rfl rfl kB_J7_copyOfRangeByte_39247 kL_J7_339 (cl_crb hZ hV hc hn hf) rfl ⟨Nat.le_of_ble_eq_true rfl, Nat.le_of_ble_eq_true rfl⟩ (Nat.le_of_ble_eq_true rfl) ⟨Nat.le_of_ble_eq_true rfl, Nat.le_of_ble_eq_true rfl⟩ dJ7_copyOfRange_39247_13 16 rfl ?_
    intro v w1 hq
    obtain ⟨V2, f2, rfl, rfl, e1, e2⟩ := hq
    exact q_aret X (Or.inr ⟨_, rfl⟩) hQ ⟨V2, f2, rfl, rfl, e1, e2⟩ (by first | exact Nat.zero_le _ | exact Nat.le_of_ble_eq_true rfl | exact Nat.le_refl _ | (simp only [rmT8, rmT7]; omega)) (by first | exact Nat.zero_le _ | exact Nat.le_of_ble_eq_true rfl | exact Nat.le_refl _ | (simp only [rmT8, rmT7]; omega)) dJ7_copyOfRange_39247_16
theorem pm_3a {α : Type} {a b c : α} : [b, c, a].Perm [a, b, c] := (List.Perm.cons b (List.Perm.swap a c [])).trans (List.Perm.swap a b [c])
theorem pm_3b {α : Type} {a b c : α} : [b, a, c].Perm [a, b, c] := List.Perm.swap a b [c]
theorem pm_3c {α : Type} {a b c : α} : [c, a, b].Perm [a, b, c] := (List.Perm.swap a c [b]).trans (List.Perm.cons a (List.Perm.swap b c []))
theorem pm_rotE {α : Type} {a : α} {l ws ws' : List α} (h1 : ws = a :: l) (h2 : ws' = l ++ [a]) : ws'.Perm ws := by
  subst h1; subst h2
  exact List.perm_append_comm
def rmT9 : Room := { frames := 3, cells := 1, slots := 1000, locals := 90 }
def rmTa : Room := { frames := 4, cells := 1, slots := 1000, locals := 120 }
def rmTb : Room := { frames := 5, cells := 2, slots := 1004, locals := 150 }
set_option maxRecDepth 100000 in
theorem cl_sni {str sb V n cap : Nat} {f : Nat → Int32} (hZ : ZOK Z) (hO : ZO Z tO sK sV) (hV : ZVO Z) (hc : cap ≤ 1000) (hn : n ≤ cap) (hf : ∀ i, fits .byte (.int (f i)) = true) : LC l D (tyL ca) Z yJ0_init_db425 cJ0_init_db425 5 none rmT9 [.ref str, .ref sb, .null] [(str, .inr (13, [.null, .int 0, .int 0, .int 0])), (sb, .inr (14, [.ref V, .int 0, .int 0, .int (nI n)])), (V, .inl (ca 1, cap, .inl f))] (fun v w => v = none ∧ ∃ (V2 : Nat) (f2 : Nat → Int32), w = [(str, .inr (13, [.ref V2, .int 0, .int 0, .int 0])), (sb, .inr (14, [.ref V, .int 0, .int 0, .int (nI n)])), (V, .inl (ca 1, cap, .inl f)), (V2, .inl (ca 1, n, .inl f2))] ∧ (∀ i, fits .byte (.int (f2 i)) = true) ∧ ∀ j, j < n → f2 j = f j) := by
  refine qstart (own := RJ0) rfl (by decide) (Nat.le_of_ble_eq_true rfl) ?_
  intro p e s m args below meth c Q hQ X hi
  refine q_aload_n X 0 dJ0_init_db425_0 rfl rfl 1 rfl ?_
  refine n_obj X (gw_c tb_5 228 rfl rfl) kOb1 kOb2 ⟨Nat.le_of_ble_eq_true rfl, Nat.le_of_ble_eq_true rfl⟩ (Nat.le_of_ble_eq_true rfl) dJ0_init_db425_1 4 rfl ?_
  refine q_aload_n X 1 dJ0_init_db425_4 rfl rfl 5 rfl ?_
  refine n_perm (ws' := [(sb, .inr (14, [.ref V, .int 0, .int 0, .int (nI n)])), (V, .inl (ca 1, cap, .inl f)), (str, .inr (13, [.null, .int 0, .int 0, .int 0]))]) (pm_rotE rfl rfl) ?_
  refine q_callU X hZ [] [(V, .inl (ca 1, cap, .inl f)), (str, .inr (13, [.null, .int 0, .int 0, .int 0]))] rfl 0 rfl (q := (RJ4, TJ4, 4)) rfl rfl rfl kU_J5_getValue_6d5f1 (X.1.2.2.2.2 _ kS_J5_getValue_6d5f1) kL_J0_552 cl_gv rfl ⟨Nat.le_of_ble_eq_true rfl, Nat.le_of_ble_eq_true rfl⟩ (Nat.le_of_ble_eq_true rfl) ⟨Nat.le_of_ble_eq_true rfl, Nat.le_of_ble_eq_true rfl⟩ dJ0_init_db425_5 8 rfl ?_
  intro v w1 hq
  obtain ⟨rfl, rfl⟩ := hq
  refine q_astore_n X [(3, .ref V), (0, .ref str), (1, .ref sb), (2, .null)] dJ0_init_db425_8 rfl (by decide) rfl 9 rfl ?_
  refine q_aload_n X 2 dJ0_init_db425_9 rfl rfl 10 rfl ?_
  refine q_callU X hZ [] [(V, .inl (ca 1, cap, .inl f)), (str, .inr (13, [.null, .int 0, .int 0, .int 0]))] rfl 0 rfl (q := (RJ4, TJ4, 4)) rfl rfl rfl kU_J4_length_8abf5 (X.1.2.2.2.2 _ kS_J4_length_8abf5) kL_J0_549 (cl_l4 hZ) rfl ⟨Nat.le_of_ble_eq_true rfl, Nat.le_of_ble_eq_true rfl⟩ (Nat.le_of_ble_eq_true rfl) ⟨Nat.le_of_ble_eq_true rfl, Nat.le_of_ble_eq_true rfl⟩ dJ0_init_db425_10 13 rfl ?_
  intro v w1 hq
  obtain ⟨rfl, rfl⟩ := hq
  refine q_istore X [(4, .int (nI n)), (3, .ref V), (0, .ref str), (1, .ref sb), (2, .null)] dJ0_init_db425_13 (by decide) rfl 15 rfl ?_
  refine q_aload_n X 3 dJ0_init_db425_15 rfl rfl 16 rfl ?_
  refine q_callU X hZ [] [(V, .inl (ca 1, cap, .inl f)), (str, .inr (13, [.null, .int 0, .int 0, .int 0]))] rfl 0 rfl (q := (RJ4, TJ4, 4)) rfl rfl rfl kU_J5_isLatin1_aae02 (X.1.2.2.2.2 _ kS_J5_isLatin1_aae02) kL_J0_1047 (cl_isL (V := V) hO) rfl ⟨Nat.le_of_ble_eq_true rfl, Nat.le_of_ble_eq_true rfl⟩ (Nat.le_of_ble_eq_true rfl) ⟨Nat.le_of_ble_eq_true rfl, Nat.le_of_ble_eq_true rfl⟩ dJ0_init_db425_16 19 rfl ?_
  intro v w1 hq
  obtain ⟨rfl, rfl⟩ := hq
  refine q_if_eq (A1 := none) (B1 := some ()) (res := ()) X (if_neg (by decide : ¬ (1 : Int32) = 0)) 41 22 dJ0_init_db425_19 (by decide) rfl (fun z => nomatch z) (fun _ => ?_)
  refine q_aload_n X 2 dJ0_init_db425_22 rfl rfl 23 rfl ?_
  refine q_iconst X 0 dJ0_init_db425_23 rfl 24 rfl ?_
  refine q_putF X hi 2 [(sb, .inr (14, [.ref V, .int 0, .int 0, .int (nI n)])), (V, .inl (ca 1, cap, .inl f)), (str, .inr (13, [.null, .int 0, .int 0, .int 0]))] rfl (T := TJ0) (N := 4) rfl in_J0 tyJ0 tyJ0_ok nmJ0 1 (by decide) kF_J0_15 rfl rfl rfl rfl rfl (Nat.le_of_ble_eq_true rfl) rfl dJ0_init_db425_24 27 rfl ?_
  refine q_aload_n X 2 dJ0_init_db425_27 rfl rfl 28 rfl ?_
  refine q_aload_n X 1 dJ0_init_db425_28 rfl rfl 29 rfl ?_
  refine q_iconst X 0 dJ0_init_db425_29 rfl 30 rfl ?_
  refine q_iload X 0 dJ0_init_db425_30 rfl 32 rfl ?_
  refine n_perm (ws' := [(V, .inl (ca 1, cap, .inl f)), (str, .inr (13, [.null, .int 0, .int 0, .int 0])), (sb, .inr (14, [.ref V, .int 0, .int 0, .int (nI n)]))]) (pm_rotE rfl rfl) ?_
  refine q_callS X hZ [.ref V, .int 0, .int (nI n)] [(str, .inr (13, [.null, .int 0, .int 0, .int 0])), (sb, .inr (14, [.ref V, .int 0, .int 0, .int (nI n)]))] rfl rfl kB_J7_copyOfRange_39247 kL_J0_54 (cl_cor hZ hV hc hn hf) rfl ⟨Nat.le_of_ble_eq_true rfl, Nat.le_of_ble_eq_true rfl⟩ (Nat.le_of_ble_eq_true rfl) ⟨Nat.le_of_ble_eq_true rfl, Nat.le_of_ble_eq_true rfl⟩ dJ0_init_db425_32 35 rfl ?_
  intro v w1 hq
  obtain ⟨V2, f2, rfl, rfl, e1, e2⟩ := hq
  refine q_putF X hi 2 [(V, .inl (ca 1, cap, .inl f)), (V2, .inl (ca 1, n, .inl f2)), (str, .inr (13, [.ref V2, .int 0, .int 0, .int 0])), (sb, .inr (14, [.ref V, .int 0, .int 0, .int (nI n)]))] rfl (T := TJ0) (N := 4) rfl in_J0 tyJ0 tyJ0_ok nmJ0 0 (by decide) kF_J0_9 rfl rfl rfl rfl rfl (Nat.le_of_ble_eq_true rfl) rfl dJ0_init_db425_35 38 rfl ?_
  refine q_goto X 97 dJ0_init_db425_38 (by decide) ?_
  refine n_perm (ws' := [(V2, .inl (ca 1, n, .inl f2)), (str, .inr (13, [.ref V2, .int 0, .int 0, .int 0])), (sb, .inr (14, [.ref V, .int 0, .int 0, .int (nI n)])), (V, .inl (ca 1, cap, .inl f))]) (pm_rotE rfl rfl) ?_
  refine n_perm (ws' := [(str, .inr (13, [.ref V2, .int 0, .int 0, .int 0])), (sb, .inr (14, [.ref V, .int 0, .int 0, .int (nI n)])), (V, .inl (ca 1, cap, .inl f)), (V2, .inl (ca 1, n, .inl f2))]) (pm_rotE rfl rfl) ?_
  exact q_vret X hQ ⟨rfl, V2, f2, rfl, e1, e2⟩ (by first | exact Nat.zero_le _ | exact Nat.le_of_ble_eq_true rfl | exact Nat.le_refl _ | (simp only [rmT9, rmT0, rmT1, rmT8]; omega)) (by first | exact Nat.zero_le _ | exact Nat.le_of_ble_eq_true rfl | exact Nat.le_refl _ | (simp only [rmT9, rmT0, rmT1, rmT8]; omega)) dJ0_init_db425_97
set_option maxRecDepth 100000 in
theorem cl_snb {str sb V n cap : Nat} {f : Nat → Int32} (hZ : ZOK Z) (hO : ZO Z tO sK sV) (hV : ZVO Z) (hc : cap ≤ 1000) (hn : n ≤ cap) (hf : ∀ i, fits .byte (.int (f i)) = true) : LC l D (tyL ca) Z yJ0_init_81219 cJ0_init_81219 2 none rmTa [.ref str, .ref sb] [(str, .inr (13, [.null, .int 0, .int 0, .int 0])), (sb, .inr (14, [.ref V, .int 0, .int 0, .int (nI n)])), (V, .inl (ca 1, cap, .inl f))] (fun v w => v = none ∧ ∃ (V2 : Nat) (f2 : Nat → Int32), w = [(str, .inr (13, [.ref V2, .int 0, .int 0, .int 0])), (sb, .inr (14, [.ref V, .int 0, .int 0, .int (nI n)])), (V, .inl (ca 1, cap, .inl f)), (V2, .inl (ca 1, n, .inl f2))] ∧ (∀ i, fits .byte (.int (f2 i)) = true) ∧ ∀ j, j < n → f2 j = f j) := by
  refine qstart (own := RJ0) rfl (by decide) (Nat.le_of_ble_eq_true rfl) ?_
  intro p e s m args below meth c Q hQ X hi
  refine q_aload_n X 0 dJ0_init_81219_0 rfl rfl 1 rfl ?_
  refine q_aload_n X 1 dJ0_init_81219_1 rfl rfl 2 rfl ?_
  refine q_null X dJ0_init_81219_2 3 rfl ?_
  refine q_callI X hZ [.ref sb, .null] [] rfl rfl kT_J0_init_db425 kL_J0_489 (cl_sni hZ hO hV hc hn hf) rfl ⟨Nat.le_of_ble_eq_true rfl, Nat.le_of_ble_eq_true rfl⟩ (Nat.le_of_ble_eq_true rfl) ⟨Nat.le_of_ble_eq_true rfl, Nat.le_of_ble_eq_true rfl⟩ dJ0_init_81219_3 6 rfl ?_
  intro v w1 hq
  obtain ⟨rfl, V2, f2, rfl, e1, e2⟩ := hq
  exact q_vret X hQ ⟨rfl, V2, f2, rfl, e1, e2⟩ (by first | exact Nat.zero_le _ | exact Nat.le_of_ble_eq_true rfl | exact Nat.le_refl _ | (simp only [rmTa, rmT9]; omega)) (by first | exact Nat.zero_le _ | exact Nat.le_of_ble_eq_true rfl | exact Nat.le_refl _ | (simp only [rmTa, rmT9]; omega)) dJ0_init_81219_6
set_option maxRecDepth 100000 in
/-- toString() -/
theorem cl_tos {sb V n cap : Nat} {f : Nat → Int32} (hZ : ZOK Z) (hO : ZO Z tO sK sV) (hV : ZVO Z) (hc : cap ≤ 1000) (hn : n ≤ cap) (hf : ∀ i, fits .byte (.int (f i)) = true) : LC l D (tyL ca) Z yJ4_toString_0e30d cJ4_toString_0e30d 1 (some (.object "java/lang/String")) rmTb [.ref sb] [(sb, .inr (14, [.ref V, .int 0, .int 0, .int (nI n)])), (V, .inl (ca 1, cap, .inl f))] (fun v w => ∃ (str V2 : Nat) (f2 : Nat → Int32), v = some (.ref str) ∧ w = [(sb, .inr (14, [.ref V, .int 0, .int 0, .int (nI n)])), (V, .inl (ca 1, cap, .inl f)), (V2, .inl (ca 1, n, .inl f2)), (str, .inr (13, [.ref V2, .int 0, .int 0, .int 0]))] ∧ (∀ i, fits .byte (.int (f2 i)) = true) ∧ ∀ j, j < n → f2 j = f j) := by
  refine qstart (own := RJ4) rfl (by decide) (Nat.le_of_ble_eq_true rfl) ?_
  intro p e s m args below meth c Q hQ X hi
  refine n_new X in_J0 tyJ0 tyJ0_ok kCl_J4_18 (gw_c tb_5 221 rfl rfl) kN_J0 (ci := 13) rfl [.null, .int 0, .int 0, .int 0] (by decide +kernel) ⟨Nat.le_of_ble_eq_true rfl, Nat.le_of_ble_eq_true rfl⟩ dJ4_toString_0e30d_0 3 rfl ?_
  intro str
  refine q_dup X dJ4_toString_0e30d_3 rfl 4 rfl ?_
  refine q_aload_n X 0 dJ4_toString_0e30d_4 rfl rfl 5 rfl ?_
  refine n_perm (ws' := [(V, .inl (ca 1, cap, .inl f)), (str, .inr (13, [.null, .int 0, .int 0, .int 0])), (sb, .inr (14, [.ref V, .int 0, .int 0, .int (nI n)]))]) (pm_rotE rfl rfl) ?_
  refine n_perm (ws' := [(str, .inr (13, [.null, .int 0, .int 0, .int 0])), (sb, .inr (14, [.ref V, .int 0, .int 0, .int (nI n)])), (V, .inl (ca 1, cap, .inl f))]) (pm_rotE rfl rfl) ?_
  refine q_callI X hZ [.ref sb] [] rfl rfl kT_J0_init_81219 kL_J4_137 (cl_snb hZ hO hV hc hn hf) rfl ⟨Nat.le_of_ble_eq_true rfl, Nat.le_of_ble_eq_true rfl⟩ (Nat.le_of_ble_eq_true rfl) ⟨Nat.le_of_ble_eq_true rfl, Nat.le_of_ble_eq_true rfl⟩ dJ4_toString_0e30d_5 8 rfl ?_
  intro v w1 hq
  obtain ⟨rfl, V2, f2, rfl, e1, e2⟩ := hq
  refine n_perm (ws' := [(sb, .inr (14, [.ref V, .int 0, .int 0, .int (nI n)])), (V, .inl (ca 1, cap, .inl f)), (V2, .inl (ca 1, n, .inl f2)), (str, .inr (13, [.ref V2, .int 0, .int 0, .int 0]))]) (pm_rotE rfl rfl) ?_
  exact q_aret X (Or.inl ⟨_, rfl⟩) hQ ⟨str, V2, f2, rfl, rfl, e1, e2⟩ (by first | exact Nat.zero_le _ | exact Nat.le_of_ble_eq_true rfl | exact Nat.le_refl _ | (simp only [rmTb, rmTa]; omega)) (by first | exact Nat.zero_le _ | exact Nat.le_of_ble_eq_true rfl | exact Nat.le_refl _ | (simp only [rmTb, rmTa]; omega)) dJ4_toString_0e30d_8
def rmTc : Room := { frames := 1, cells := 1, slots := 16, locals := 32 }
def rmTd : Room := { frames := 2, cells := 1, slots := 16, locals := 60 }
set_option maxRecDepth 100000 in
theorem cl_sb5 {sb : Nat} (hZ : ZOK Z) (hO : ZO Z tO sK sV) : LC l D (tyL ca) Z yJ5_init_d00df cJ5_init_d00df 2 none rmTc [.ref sb, .int 16] [(sb, .inr (14, [.null, .int 0, .int 0, .int 0]))] (fun v w => v = none ∧ ∃ V : Nat, w = [(sb, .inr (14, [.ref V, .int 0, .int 0, .int 0])), (V, .inl (ca 1, 16, .inl (fun _ => 0)))]) := by
  refine qstart (own := RJ5) rfl (by decide) (Nat.le_of_ble_eq_true rfl) ?_
  intro p e s m args below meth c Q hQ X hi
  refine q_aload_n X 0 dJ5_init_d00df_0 rfl rfl 1 rfl ?_
  refine n_obj X (gw_c tb_4 239 rfl rfl) kOb1 kOb2 ⟨Nat.le_of_ble_eq_true rfl, Nat.le_of_ble_eq_true rfl⟩ (Nat.le_of_ble_eq_true rfl) dJ5_init_d00df_1 4 rfl ?_
  refine q_cmpS X hO kF_J5_18 dJ5_init_d00df_4 7 rfl rfl ?_
  refine q_if_eq (A1 := none) (B1 := some ()) (res := ()) X (if_neg (by decide : ¬ (1 : Int32) = 0)) 25 10 dJ5_init_d00df_7 (by decide) rfl (fun z => nomatch z) (fun _ => ?_)
  refine q_aload_n X 0 dJ5_init_d00df_10 rfl rfl 11 rfl ?_
  refine q_iload_n X 1 dJ5_init_d00df_11 rfl rfl 12 rfl ?_
  refine n_newa (atype := .byte) (ty := .byte) (t0 := 1) (N' := 16) (16, .inl (fun _ => 0)) X rfl kA_byte rfl (fun _ => rfl) (by decide) (by decide) (by decide) ⟨Nat.le_of_ble_eq_true rfl, Nat.le_of_ble_eq_true rfl⟩ dJ5_init_d00df_12 14 rfl ?_
  intro V
  refine q_put X 0 [(sb, .inr (14, [.ref V, .int 0, .int 0, .int 0])), (V, .inl (ca 1, 16, .inl (fun _ => 0)))] rfl (T := TJ4) (N := 4) rfl in_J4 tyJ4 tyJ4_ok nmJ4 0 (by decide) kF_J5_15 rfl rfl rfl rfl (Nat.le_of_ble_eq_true rfl) rfl dJ5_init_d00df_14 17 rfl ?_
  refine q_aload_n X 0 dJ5_init_d00df_17 rfl rfl 18 rfl ?_
  refine q_iconst X 0 dJ5_init_d00df_18 rfl 19 rfl ?_
  refine q_put X 0 [(sb, .inr (14, [.ref V, .int 0, .int 0, .int 0])), (V, .inl (ca 1, 16, .inl (fun _ => 0)))] rfl (T := TJ4) (N := 4) rfl in_J4 tyJ4 tyJ4_ok nmJ4 1 (by decide) kF_J5_22 rfl rfl rfl rfl (Nat.le_of_ble_eq_true rfl) rfl dJ5_init_d00df_19 22 rfl ?_
  refine q_goto X 38 dJ5_init_d00df_22 (by decide) ?_
  exact q_vret X hQ ⟨rfl, V, rfl⟩ (by first | exact Nat.zero_le _ | exact Nat.le_of_ble_eq_true rfl | exact Nat.le_refl _ | (simp only [rmTc]; omega)) (by first | exact Nat.zero_le _ | exact Nat.le_of_ble_eq_true rfl | exact Nat.le_refl _ | (simp only [rmTc]; omega)) dJ5_init_d00df_38
set_option maxRecDepth 100000 in
/-- new StringBuilder() -/
theorem cl_sb4 {sb : Nat} (hZ : ZOK Z) (hO : ZO Z tO sK sV) : LC l D (tyL ca) Z yJ4_init_da8c8 cJ4_init_da8c8 1 none rmTd [.ref sb] [(sb, .inr (14, [.null, .int 0, .int 0, .int 0]))] (fun v w => v = none ∧ ∃ V : Nat, w = [(sb, .inr (14, [.ref V, .int 0, .int 0, .int 0])), (V, .inl (ca 1, 16, .inl (fun _ => 0)))]) := by
  refine qstart (own := RJ4) rfl (by decide) (Nat.le_of_ble_eq_true rfl) ?_
  intro p e s m args below meth c Q hQ X hi
  refine q_aload_n X 0 dJ4_init_da8c8_0 rfl rfl 1 rfl ?_
  refine q_bipush X 16 dJ4_init_da8c8_1 rfl 3 rfl ?_
  refine q_callI X hZ [.int 16] [] rfl rfl kT_J5_init_d00df kL_J4_1 (cl_sb5 hZ hO) rfl ⟨Nat.le_of_ble_eq_true rfl, Nat.le_of_ble_eq_true rfl⟩ (Nat.le_of_ble_eq_true rfl) ⟨Nat.le_of_ble_eq_true rfl, Nat.le_of_ble_eq_true rfl⟩ dJ4_init_da8c8_3 6 rfl ?_
  intro v w1 hq
  obtain ⟨rfl, V, rfl⟩ := hq
  exact q_vret X hQ ⟨rfl, V, rfl⟩ (by first | exact Nat.zero_le _ | exact Nat.le_of_ble_eq_true rfl | exact Nat.le_refl _ | (simp only [rmTd, rmTc]; omega)) (by first | exact Nat.zero_le _ | exact Nat.le_of_ble_eq_true rfl | exact Nat.le_refl _ | (simp only [rmTd, rmTc]; omega)) dJ4_init_da8c8_6
set_option maxRecDepth 100000 in
theorem cl_sil {a v0 len : Nat} {g : Nat → Int32} (hO : ZO Z tO sK sV) (hT : ∀ A U H, Z A U H → zt a v0 len g A U H) : LC l D (tyL ca) Z yJ0_isLatin1_aae02 cJ0_isLatin1_aae02 1 (some .boolean) rmT0 [.ref a] [] (fun v w => v = some (.int 1) ∧ w = []) := by
  refine qstart (own := RJ0) rfl (by decide) (Nat.le_of_ble_eq_true rfl) ?_
  intro p e s m args below meth c Q hQ X hi
  have hTX := hT _ _ _ X.2.2.2.2.2
  refine q_cmpS X hO kF_J0_38 dJ0_isLatin1_aae02_0 3 rfl rfl ?_
  refine q_if_eq (A1 := none) (B1 := some ()) (res := ()) X (if_neg (by decide : ¬ (1 : Int32) = 0)) 17 6 dJ0_isLatin1_aae02_3 (by decide) rfl (fun z => nomatch z) (fun _ => ?_)
  refine q_aload_n X 0 dJ0_isLatin1_aae02_6 rfl rfl 7 rfl ?_
  refine q_txC X hTX kF_J0_15 dJ0_isLatin1_aae02_7 10 rfl ?_
  refine q_if_ne (A1 := some ()) (B1 := none) (res := ()) X (if_pos (rfl : (0 : Int32) = 0)) 17 13 dJ0_isLatin1_aae02_10 (by decide) rfl (fun _ => ?_) (fun z => nomatch z)
  refine q_iconst X 1 dJ0_isLatin1_aae02_13 rfl 14 rfl ?_
  refine q_goto X 18 dJ0_isLatin1_aae02_14 (by decide) ?_
  exact q_iret X (rt := .boolean) hQ ⟨rfl, rfl⟩ rfl (by first | exact Nat.zero_le _ | exact Nat.le_of_ble_eq_true rfl | exact Nat.le_refl _ | (simp only [rmT0]; omega)) (by first | exact Nat.zero_le _ | exact Nat.le_of_ble_eq_true rfl | exact Nat.le_refl _ | (simp only [rmT0]; omega)) dJ0_isLatin1_aae02_18
set_option maxRecDepth 100000 in
theorem cl_sie {a v0 len : Nat} {g : Nat → Int32} (hT : ∀ A U H, Z A U H → zt a v0 len g A U H) (hl : len ≤ 65536) : LC l D (tyL ca) Z yJ0_isEmpty_aae02 cJ0_isEmpty_aae02 1 (some .boolean) rmT0 [.ref a] [] (fun v w => v = some (.int (if len = 0 then 1 else 0)) ∧ w = []) := by
  refine qstart (own := RJ0) rfl (by decide) (Nat.le_of_ble_eq_true rfl) ?_
  intro p e s m args below meth c Q hQ X hi
  have hTX := hT _ _ _ X.2.2.2.2.2
  by_cases h : len = 0
  · refine q_aload_n X 0 dJ0_isEmpty_aae02_0 rfl rfl 1 rfl ?_
    refine q_txV X hTX kF_J0_9 dJ0_isEmpty_aae02_1 4 rfl ?_
    refine q_txL X hTX dJ0_isEmpty_aae02_4 5 rfl ?_
    refine q_if_ne (A1 := some ()) (B1 := none) (res := ()) X (if_pos (by rw [h]; rfl)) 12 8 dJ0_isEmpty_aae02_5 (by decide) rfl (fun _ => ?_) (fun z => nomatch z)
    refine q_iconst X 1 dJ0_isEmpty_aae02_8 rfl 9 rfl ?_
    refine q_goto X 13 dJ0_isEmpty_aae02_9 (by decide) ?_
    exact q_iret X (rt := .boolean) hQ ⟨by rw [if_pos h], rfl⟩ rfl (by first | exact Nat.zero_le _ | exact Nat.le_of_ble_eq_true rfl | exact Nat.le_refl _ | (simp only [rmT0]; omega)) (by first | exact Nat.zero_le _ | exact Nat.le_of_ble_eq_true rfl | exact Nat.le_refl _ | (simp only [rmT0]; omega)) dJ0_isEmpty_aae02_13
  · refine q_aload_n X 0 dJ0_isEmpty_aae02_0 rfl rfl 1 rfl ?_
    refine q_txV X hTX kF_J0_9 dJ0_isEmpty_aae02_1 4 rfl ?_
    refine q_txL X hTX dJ0_isEmpty_aae02_4 5 rfl ?_
    refine q_if_ne (A1 := none) (B1 := some ()) (res := ()) X (if_neg (nI_ne0 (by omega) (by omega))) 12 8 dJ0_isEmpty_aae02_5 (by decide) rfl (fun z => nomatch z) (fun _ => ?_)
    refine q_iconst X 0 dJ0_isEmpty_aae02_12 rfl 13 rfl ?_
    exact q_iret X (rt := .boolean) hQ ⟨by rw [if_neg h], rfl⟩ rfl (by first | exact Nat.zero_le _ | exact Nat.le_of_ble_eq_true rfl | exact Nat.le_refl _ | (simp only [rmT0]; omega)) (by first | exact Nat.zero_le _ | exact Nat.le_of_ble_eq_true rfl | exact Nat.le_refl _ | (simp only [rmT0]; omega)) dJ0_isEmpty_aae02_13
set_option maxRecDepth 100000 in
theorem cl_pci {i n : Nat} {o : Option Nat} (h : i < n) (hn : n ≤ 65536) : LC l D (tyL ca) Z yJ3_checkIndex_8e157 cJ3_checkIndex_8e157 3 (some .int) rmT0 [.int (nI i), .int (nI n), va_rf o] [] (fun v w => v = some (.int (nI i)) ∧ w = []) := by
  refine qstart (own := RJ3) rfl (by decide) (by cases o <;> exact Nat.le_of_ble_eq_true rfl) ?_
  intro p e s m args below meth c Q hQ X hi
  refine q_iload_n X 0 dJ3_checkIndex_8e157_0 rfl rfl 1 rfl ?_
  refine q_if_lt (A1 := none) (B1 := some ()) (res := ()) X (if_neg (nI_pos (by omega))) 9 4 dJ3_checkIndex_8e157_1 (by decide) rfl (fun z => nomatch z) (fun _ => ?_)
  refine q_iload_n X 0 dJ3_checkIndex_8e157_4 rfl rfl 5 rfl ?_
  refine q_iload_n X 1 dJ3_checkIndex_8e157_5 rfl rfl 6 rfl ?_
  refine q_icmp_lt (A1 := some ()) (B1 := none) (res := ()) X (if_pos (nI_lt h (by omega))) 16 9 dJ3_checkIndex_8e157_6 (by decide) rfl (fun _ => ?_) (fun z => nomatch z)
  refine q_iload_n X 0 dJ3_checkIndex_8e157_16 rfl rfl 17 rfl ?_
  exact q_iret X (rt := .int) hQ ⟨rfl, rfl⟩ rfl (by first | exact Nat.zero_le _ | exact Nat.le_of_ble_eq_true rfl | exact Nat.le_refl _ | (simp only [rmT0]; omega)) (by first | exact Nat.zero_le _ | exact Nat.le_of_ble_eq_true rfl | exact Nat.le_refl _ | (simp only [rmT0]; omega)) dJ3_checkIndex_8e157_17
set_option maxRecDepth 100000 in
theorem cl_sci {i n : Nat} (hZ : ZOK Z) (hO : ZO Z tO sK sV) (h : i < n) (hn : n ≤ 65536) : LC l D (tyL ca) Z yJ0_checkIndex_df160 cJ0_checkIndex_df160 2 none rmT1 [.int (nI i), .int (nI n)] [] (fun v w => v = none ∧ w = []) := by
  refine qstart (own := RJ0) rfl (by decide) (Nat.le_of_ble_eq_true rfl) ?_
  intro p e s m args below meth c Q hQ X hi
  refine q_iload_n X 0 dJ0_checkIndex_df160_0 rfl rfl 1 rfl ?_
  refine q_iload_n X 1 dJ0_checkIndex_df160_1 rfl rfl 2 rfl ?_
  refine q_fmtQ X hO kF_J0_1053 dJ0_checkIndex_df160_2 5 rfl ?_
  intro o
  refine q_callS X hZ [.int (nI i), .int (nI n), va_rf o] [] rfl rfl kB_J3_checkIndex_8e157 kL_J0_1059 (cl_pci h hn) rfl ⟨Nat.le_of_ble_eq_true rfl, Nat.le_of_ble_eq_true rfl⟩ (Nat.le_of_ble_eq_true rfl) ⟨Nat.le_of_ble_eq_true rfl, Nat.le_of_ble_eq_true rfl⟩ dJ0_checkIndex_df160_5 8 rfl ?_
  intro v w1 hq
  obtain ⟨rfl, rfl⟩ := hq
  refine q_pop X dJ0_checkIndex_df160_8 rfl 9 rfl ?_
  exact q_vret X hQ ⟨rfl, rfl⟩ (by first | exact Nat.zero_le _ | exact Nat.le_of_ble_eq_true rfl | exact Nat.le_refl _ | (simp only [rmT1, rmT0]; omega)) (by first | exact Nat.zero_le _ | exact Nat.le_of_ble_eq_true rfl | exact Nat.le_refl _ | (simp only [rmT1, rmT0]; omega)) dJ0_checkIndex_df160_9
theorem b128c : ∀ c : Fin 128, nI c &&& 255 = nI c ∧ ((nI c).toUInt32 % 65536).toInt32 = nI c ∧ narrow .char (.int (nI c)) = .int (nI c) := by decide +kernel
theorem nI_255 {c : Nat} (h : c < 128) : nI c &&& 255 = nI c := (b128c ⟨c, h⟩).1
theorem nI_65 {c : Nat} (h : c < 128) : ((nI c).toUInt32 % 65536).toInt32 = nI c := (b128c ⟨c, h⟩).2.1
theorem nI_chr {c : Nat} (h : c < 128) : narrow .char (.int (nI c)) = .int (nI c) := (b128c ⟨c, h⟩).2.2
set_option maxRecDepth 100000 in
theorem cl_lca {i k : Nat} {a v0 len : Nat} {g : Nat → Int32} (hZ : ZOK Z) (hO : ZO Z tO sK sV) (hT : ∀ A U H, Z A U H → zt a v0 len g A U H) (hl : len ≤ 65536) (h : i < len) (hk : g i = nI k) (hk1 : k < 128) : LC l D (tyL ca) Z yJ1_charAt_3b067 cJ1_charAt_3b067 2 (some .char) rmT2 [.ref v0, .int (nI i)] [] (fun v w => v = some (.int (nI k)) ∧ w = []) := by
  refine qstart (own := RJ1) rfl (by decide) (Nat.le_of_ble_eq_true rfl) ?_
  intro p e s m args below meth c Q hQ X hi
  have hTX := hT _ _ _ X.2.2.2.2.2
  refine q_iload_n X 1 dJ1_charAt_3b067_0 rfl rfl 1 rfl ?_
  refine q_aload_n X 0 dJ1_charAt_3b067_1 rfl rfl 2 rfl ?_
  refine q_txL X hTX dJ1_charAt_3b067_2 3 rfl ?_
  refine q_callS X hZ [.int (nI i), .int (nI len)] [] rfl rfl kB_J0_checkIndex_df160 kL_J1_9 (cl_sci hZ hO h hl) rfl ⟨Nat.le_of_ble_eq_true rfl, Nat.le_of_ble_eq_true rfl⟩ (Nat.le_of_ble_eq_true rfl) ⟨Nat.le_of_ble_eq_true rfl, Nat.le_of_ble_eq_true rfl⟩ dJ1_charAt_3b067_3 6 rfl ?_
  intro v w1 hq
  obtain ⟨rfl, rfl⟩ := hq
  refine q_aload_n X 0 dJ1_charAt_3b067_6 rfl rfl 7 rfl ?_
  refine q_iload_n X 1 dJ1_charAt_3b067_7 rfl rfl 8 rfl ?_
  refine q_txB X hTX (pk_in i len h rfl (by omega)) dJ1_charAt_3b067_8 9 rfl ?_
  refine q_sipush X 255 dJ1_charAt_3b067_9 rfl 12 rfl ?_
  refine q_iand X dJ1_charAt_3b067_12 13 rfl ?_
  refine q_as (nI k) (by rw [nI_clamp (by omega), hk]; exact nI_255 hk1) ?_
  refine q_i2c X dJ1_charAt_3b067_13 14 rfl ?_
  refine q_as (nI k) (nI_65 hk1) ?_
  exact q_iret X (rt := .char) hQ ⟨rfl, rfl⟩ (nI_chr hk1) (by first | exact Nat.zero_le _ | exact Nat.le_of_ble_eq_true rfl | exact Nat.le_refl _ | (simp only [rmT2, rmT1]; omega)) (by first | exact Nat.zero_le _ | exact Nat.le_of_ble_eq_true rfl | exact Nat.le_refl _ | (simp only [rmT2, rmT1]; omega)) dJ1_charAt_3b067_14
def rmTe : Room := { frames := 3, cells := 0, slots := 0, locals := 90 }
set_option maxRecDepth 100000 in
/-- charAt -/
theorem cl_cha {i k : Nat} {a v0 len : Nat} {g : Nat → Int32} (hZ : ZOK Z) (hO : ZO Z tO sK sV) (hT : ∀ A U H, Z A U H → zt a v0 len g A U H) (hl : len ≤ 65536) (h : i < len) (hk : g i = nI k) (hk1 : k < 128) : LC l D (tyL ca) Z yJ0_charAt_5068e cJ0_charAt_5068e 2 (some .char) rmTe [.ref a, .int (nI i)] [] (fun v w => v = some (.int (nI k)) ∧ w = []) := by
  refine qstart (own := RJ0) rfl (by decide) (Nat.le_of_ble_eq_true rfl) ?_
  intro p e s m args below meth c Q hQ X hi
  have hTX := hT _ _ _ X.2.2.2.2.2
  refine q_aload_n X 0 dJ0_charAt_5068e_0 rfl rfl 1 rfl ?_
  refine q_callT X hZ [] [] rfl hTX rfl rfl kB_J0_isLatin1_aae02 kL_J0_492 (cl_sil hO hT) rfl ⟨Nat.le_of_ble_eq_true rfl, Nat.le_of_ble_eq_true rfl⟩ (Nat.le_of_ble_eq_true rfl) ⟨Nat.le_of_ble_eq_true rfl, Nat.le_of_ble_eq_true rfl⟩ dJ0_charAt_5068e_1 4 rfl ?_
  intro v w1 hq
  obtain ⟨rfl, rfl⟩ := hq
  refine q_if_eq (A1 := none) (B1 := some ()) (res := ()) X (if_neg (by decide : ¬ (1 : Int32) = 0)) 16 7 dJ0_charAt_5068e_4 (by decide) rfl (fun z => nomatch z) (fun _ => ?_)
  refine q_aload_n X 0 dJ0_charAt_5068e_7 rfl rfl 8 rfl ?_
  refine q_txV X hTX kF_J0_9 dJ0_charAt_5068e_8 11 rfl ?_
  refine q_iload_n X 1 dJ0_charAt_5068e_11 rfl rfl 12 rfl ?_
  refine q_callS X hZ [.ref v0, .int (nI i)] [] rfl rfl kB_J1_charAt_3b067 kL_J0_495 (cl_lca hZ hO hT hl h hk hk1) rfl ⟨Nat.le_of_ble_eq_true rfl, Nat.le_of_ble_eq_true rfl⟩ (Nat.le_of_ble_eq_true rfl) ⟨Nat.le_of_ble_eq_true rfl, Nat.le_of_ble_eq_true rfl⟩ dJ0_charAt_5068e_12 15 rfl ?_
  intro v w1 hq
  obtain ⟨rfl, rfl⟩ := hq
  exact q_iret X (rt := .char) hQ ⟨rfl, rfl⟩ (nI_chr hk1) (by first | exact Nat.zero_le _ | exact Nat.le_of_ble_eq_true rfl | exact Nat.le_refl _ | (simp only [rmTe, rmT0, rmT2]; omega)) (by first | exact Nat.zero_le _ | exact Nat.le_of_ble_eq_true rfl | exact Nat.le_refl _ | (simp only [rmTe, rmT0, rmT2]; omega)) dJ0_charAt_5068e_15
end TXV
