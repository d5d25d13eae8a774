section SAA
theorem fa_byte_low (x : Int32) : (x &&& 255).toInt8 = x.toInt8 := by
  apply Int8.toBitVec_inj.1
  apply BitVec.eq_of_getLsbD_eq
  intro i hi
  have h2 : (255 : Int32).toBitVec.getLsbD i = true := by
    have : ∀ j : Fin 8, (255 : Int32).toBitVec.getLsbD j.val = true := by decide +kernel
    exact this ⟨i, hi⟩
  have h4 : (x &&& 255).toBitVec.getLsbD i = x.toBitVec.getLsbD i := by
    show (x.toBitVec &&& (255 : Int32).toBitVec).getLsbD i = _
    rw [BitVec.getLsbD_and, h2, Bool.and_true]
  have h3 : i < 32 := by omega
  show (((x &&& 255).toBitVec).signExtend 8).getLsbD i = (x.toBitVec.signExtend 8).getLsbD i
  rw [BitVec.getLsbD_signExtend, BitVec.getLsbD_signExtend, if_pos h3, if_pos h3, h4]
theorem lo8 (w : Int32) : 0 ≤ (w &&& 255).toInt ∧ (w &&& 255).toInt ≤ 255 := by
  have h : (w &&& 255).toBitVec.toNat ≤ 255 := by
    show (w.toBitVec &&& (255 : Int32).toBitVec).toNat ≤ 255
    rw [BitVec.toNat_and]
    exact Nat.le_trans Nat.and_le_right (by decide)
  have e : (w &&& 255).toInt = (w &&& 255).toBitVec.toInt := rfl
  rw [e, BitVec.toInt_eq_toNat_of_lt (by omega)]
  omega
theorem st8 (w : Int32) : vp_nar .byte (Int8.toInt32 (Int32.toInt8 w)) = zi (sgn8 (w &&& 255).toInt) := by
  have hd : ∀ n : Nat, n < 256 → vp_nar .byte (Int8.toInt32 (Int32.toInt8 (zi (n : Int)))) = zi (sgn8 (n : Int)) := by decide +kernel
  obtain ⟨h1, h2⟩ := lo8 w
  obtain ⟨b, hb⟩ : ∃ b : Nat, (w &&& 255).toInt = b := ⟨(w &&& 255).toInt.toNat, by omega⟩
  have e : w &&& 255 = zi (b : Int) := by
    rw [← hb]
    exact (zi_of _).symm
  have e2 : w.toInt8 = (zi (b : Int)).toInt8 := by rw [← e, fa_byte_low]
  rw [e2, hb]
  exact hd b (by omega)
def PFc (k j : Nat) : Bool := (k == 2 && j == 1) || k == 3
theorem nI_bv (n : Nat) : (nI n).toBitVec = BitVec.ofNat 32 n := rfl
theorem nI_or8 (a b : Nat) (ha : a < 8388608) (hb : b < 256) : (nI a <<< ((8 : Int32) &&& 31)) ||| nI b = nI (a * 256 + b) := by
  rw [pk_shlN _ 8 (by decide +kernel) (by omega)]
  apply Int32.toBitVec_inj.1
  rw [Int32.toBitVec_or, nI_bv, nI_bv, nI_bv]
  apply BitVec.eq_of_toNat_eq
  rw [BitVec.toNat_or]
  simp only [BitVec.toNat_ofNat]
  rw [Nat.mod_eq_of_lt (show a * 2 ^ 8 < 2 ^ 32 by omega), Nat.mod_eq_of_lt (show b < 2 ^ 32 by omega), Nat.mod_eq_of_lt (show a * 256 + b < 2 ^ 32 by omega)]
  rw [← Nat.shiftLeft_eq, ← Nat.shiftLeft_add_eq_or_of_lt (show b < 2 ^ 8 by omega), Nat.shiftLeft_eq]
theorem by8 {m b : Nat} (hb : m % 256 = b) (h : b < 128) : vp_nar .byte (Int8.toInt32 (Int32.toInt8 (nI m))) = zi (b : Int) := by
  rw [st8]
  have e : nI m &&& 255 = nI b := by
    rw [pk_and (nI m) 8 (by decide +kernel), nI_bv, BitVec.toNat_ofNat]
    exact congrArg nI (by omega)
  rw [e, nI_zi, zi_toInt (by omega) (by omega)]
  unfold sgn8
  rw [if_pos (by omega)]
/-- four letters in a word -/
def w4 (a b c d : Nat) : Nat := ((a * 256 + b) * 256 + c) * 256 + d
theorem fW_0 (tx : List Nat) (k : Nat) (g : Nat → Nat) (hg : ∀ i, fch tx i = nI (g i)) (h : ∀ i, g i < 128) : fW tx k 20 0 = nI (w4 (g (k + 0)) (g (k + 1)) (g (k + 2)) (g (k + 3))) := by
  have e : fW tx k 20 0 = (((((((0 : Int32) <<< ((8 : Int32) &&& 31)) ||| fch tx (k + 0)) <<< ((8 : Int32) &&& 31)) ||| fch tx (k + 1)) <<< ((8 : Int32) &&& 31)) ||| fch tx (k + 2)) <<< ((8 : Int32) &&& 31) ||| fch tx (k + 3) := rfl
  have h0 := h (k + 0)
  have h1 := h (k + 1)
  have h2 := h (k + 2)
  have h3 := h (k + 3)
  rw [e, hg, hg, hg, hg, show (0 : Int32) = nI 0 from rfl, nI_or8 0 _ (by omega) (by omega), nI_or8 _ _ (by omega) (by omega), nI_or8 _ _ (by omega) (by omega), nI_or8 _ _ (by omega) (by omega)]
  unfold w4
  rw [Nat.zero_mul, Nat.zero_add]
end SAA
