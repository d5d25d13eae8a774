section MBASE
/-- the 32 bits of a number -/
def zi (i : Int) : Int32 := Int32.ofInt i
/-- the 64 bits of a number -/
def zl (i : Int) : Int64 := Int64.ofInt i
/-- a truth as an int -/
def bi (b_ : Bool) : Int := if b_ = true then 1 else 0
theorem zi_toInt {a_ : Int} (ha_ : -2147483648 ≤ a_) (hb_ : a_ < 2147483648) : (zi a_).toInt = a_ := Int32.toInt_ofInt_of_le (by omega) (by omega)
theorem zi_of (x : Int32) : zi x.toInt = x := Int32.ofInt_toInt x
theorem zi_ex (x : Int32) : ∃ a_ : Int, -2147483648 ≤ a_ ∧ a_ < 2147483648 ∧ x = zi a_ := ⟨x.toInt, Int32.le_toInt x, Int32.toInt_lt x, (zi_of x).symm⟩
theorem zi_add (a_ b_ : Int) : zi a_ + zi b_ = zi (a_ + b_) := (Int32.ofInt_add a_ b_).symm
theorem zi_sub (a_ b_ : Int) : zi a_ - zi b_ = zi (a_ - b_) := (Int32.ofInt_sub a_ b_).symm
theorem zi_mul (a_ b_ : Int) : zi a_ * zi b_ = zi (a_ * b_) := (Int32.ofInt_mul a_ b_).symm
theorem zi_neg (a_ : Int) : -zi a_ = zi (-a_) := (Int32.ofInt_neg a_).symm
theorem zi_lit (n : Nat) : (OfNat.ofNat n : Int32) = zi (OfNat.ofNat n) := rfl
theorem zi_lt {a_ b_ : Int} (h1_ : -2147483648 ≤ a_) (h2_ : a_ < 2147483648) (h3_ : -2147483648 ≤ b_) (h4_ : b_ < 2147483648) : (zi a_ < zi b_) = (a_ < b_) := propext (by rw [Int32.lt_iff_toInt_lt, zi_toInt h1_ h2_, zi_toInt h3_ h4_])
theorem zi_le {a_ b_ : Int} (h1_ : -2147483648 ≤ a_) (h2_ : a_ < 2147483648) (h3_ : -2147483648 ≤ b_) (h4_ : b_ < 2147483648) : (zi a_ ≤ zi b_) = (a_ ≤ b_) := propext (by rw [Int32.le_iff_toInt_le, zi_toInt h1_ h2_, zi_toInt h3_ h4_])
theorem zi_inj {a_ b_ : Int} (h1_ : -2147483648 ≤ a_) (h2_ : a_ < 2147483648) (h3_ : -2147483648 ≤ b_) (h4_ : b_ < 2147483648) : (zi a_ = zi b_) = (a_ = b_) := propext ⟨fun h => by
  have h5_ := congrArg Int32.toInt h
  rwa [zi_toInt h1_ h2_, zi_toInt h3_ h4_] at h5_, fun h => by rw [h]⟩
theorem zi_div {a_ b_ : Int} (h1_ : 0 ≤ a_) (h2_ : a_ < 2147483648) (h3_ : 0 < b_) (h4_ : b_ < 2147483648) : zi a_ / zi b_ = zi (a_ / b_) := by
  rw [← Int.tdiv_eq_ediv_of_nonneg h1_]
  refine (Int32.ofInt_tdiv ?_ ?_ ?_ ?_).symm
  · rw [Int32.toInt_minValue]; omega
  · rw [Int32.toInt_maxValue]; omega
  · rw [Int32.toInt_minValue]; omega
  · rw [Int32.toInt_maxValue]; omega
theorem zi_clamp {a_ : Int} (h1_ : -2147483648 ≤ a_) (h2_ : a_ < 2147483648) : (zi a_).toNatClampNeg = a_.toNat := Int32.toNatClampNeg_ofInt_of_le (by omega) (by omega)
theorem gi_zi {α : Type} {a_ : Int} {n : Nat} {o_ : Option α} (h1_ : 0 ≤ a_) (h2_ : a_ < (n : Int)) (h3_ : n ≤ 2147483648) : gi (zi a_) n o_ = o_ := by
  unfold gi
  rw [if_neg]
  intro h
  rcases h with h | h
  · rw [show (0 : Int32) = zi 0 from rfl, zi_lt (by omega) (by omega) (by omega) (by omega)] at h
    omega
  · rw [zi_clamp (by omega) (by omega)] at h
    omega
theorem bd_s {α β : Type} (a_ : α) (f_ : α → Option β) : bd (some a_) f_ = f_ a_ := rfl
theorem ltf {α β : Type} (a_ : α) (f_ : α → β) : lt_ a_ f_ = f_ a_ := rfl
theorem zl_of {a_ : Int} (h1_ : -2147483648 ≤ a_) (h2_ : a_ < 2147483648) : Int32.toInt64 (zi a_) = zl a_ := Int32.toInt64_ofInt (by rw [Int32.toInt_minValue]; omega) (by rw [Int32.toInt_maxValue]; omega)
theorem zl_lit (n : Nat) : (OfNat.ofNat n : Int64) = zl (OfNat.ofNat n) := rfl
theorem zl_toInt {a_ : Int} (h1_ : -2147483648 ≤ a_) (h2_ : a_ < 2147483648) : (zl a_).toInt = a_ := Int64.toInt_ofInt_of_le (by omega) (by omega)
theorem tz_lt {a_ b_ : Int} (h1_ : -2147483648 ≤ a_) (h2_ : a_ < 2147483648) (h3_ : -2147483648 ≤ b_) (h4_ : b_ < 2147483648) : (zi a_ < zi b_) = (a_ < b_) := zi_lt h1_ h2_ h3_ h4_
theorem cmp_lt {a_ b_ : Int} (h1_ : -2147483648 ≤ a_) (h2_ : a_ < 2147483648) (h3_ : -2147483648 ≤ b_) (h4_ : b_ < 2147483648) : (lg_cmp (zl a_) (zl b_) < 0) = (a_ < b_) := by
  have e1_ : (zl a_ > zl b_) = (b_ < a_) := propext (by rw [gt_iff_lt, Int64.lt_iff_toInt_lt, zl_toInt h1_ h2_, zl_toInt h3_ h4_])
  have e2_ : (zl a_ = zl b_) = (a_ = b_) := propext ⟨fun h => by
    have h5_ := congrArg Int64.toInt h
    rwa [zl_toInt h1_ h2_, zl_toInt h3_ h4_] at h5_, fun h => by rw [h]⟩
  unfold lg_cmp
  simp only [e1_, e2_]
  by_cases q1_ : b_ < a_
  · rw [if_pos q1_]
    exact propext ⟨fun h => absurd h (by decide), fun h => by omega⟩
  · rw [if_neg q1_]
    by_cases q2_ : a_ = b_
    · rw [if_pos q2_]
      exact propext ⟨fun h => absurd h (by decide), fun h => by omega⟩
    · rw [if_neg q2_]
      exact propext ⟨fun _ => by omega, fun _ => by decide⟩
theorem cmp_gt {a_ b_ : Int} (h1_ : -2147483648 ≤ a_) (h2_ : a_ < 2147483648) (h3_ : -2147483648 ≤ b_) (h4_ : b_ < 2147483648) : (0 < lg_cmp (zl a_) (zl b_)) = (b_ < a_) := by
  have e1_ : (zl a_ > zl b_) = (b_ < a_) := propext (by rw [gt_iff_lt, Int64.lt_iff_toInt_lt, zl_toInt h1_ h2_, zl_toInt h3_ h4_])
  have e2_ : (zl a_ = zl b_) = (a_ = b_) := propext ⟨fun h => by
    have h5_ := congrArg Int64.toInt h
    rwa [zl_toInt h1_ h2_, zl_toInt h3_ h4_] at h5_, fun h => by rw [h]⟩
  unfold lg_cmp
  simp only [e1_, e2_]
  by_cases q1_ : b_ < a_
  · rw [if_pos q1_]
    exact propext ⟨fun _ => q1_, fun h => by decide⟩
  · rw [if_neg q1_]
    by_cases q2_ : a_ = b_
    · rw [if_pos q2_]
      exact propext ⟨fun h => absurd h (by decide), fun h => by omega⟩
    · rw [if_neg q2_]
      exact propext ⟨fun h => absurd h (by decide), fun h => by omega⟩
/-- is v from a to b -/
theorem k_isIn (fu : Nat) (mem : Mem) {v_ a_ b_ : Int} (h1_ : -2147483648 ≤ v_) (h2_ : v_ < 2147483648) (h3_ : -2147483648 ≤ a_) (h4_ : a_ < 2147483648) (h5_ : -2147483648 ≤ b_) (h6_ : b_ < 2147483648) : K_X12_isIn fu (zl v_) (zl a_) (zl b_) mem = some (zi (bi (decide (a_ ≤ v_ ∧ v_ ≤ b_)))) := by
  unfold K_X12_isIn
  simp only [cmp_lt h1_ h2_ h3_ h4_, cmp_gt h1_ h2_ h5_ h6_]
  by_cases q1_ : v_ < a_
  · rw [if_pos q1_, decide_eq_false (by omega)]
    rfl
  · rw [if_neg q1_]
    by_cases q2_ : b_ < v_
    · rw [if_pos q2_, decide_eq_false (by omega)]
      rfl
    · rw [if_neg q2_, decide_eq_true (by omega)]
      rfl
theorem bi_0 (b_ : Bool) : (zi (bi b_) = zi 0) = (b_ = false) := by
  cases b_
  · exact propext ⟨fun _ => rfl, fun _ => rfl⟩
  · exact propext ⟨fun h => absurd h (by decide), fun h => by cases h⟩
theorem bi_1 (b_ : Bool) : (zi (bi b_) = zi 1) = (b_ = true) := by
  cases b_
  · exact propext ⟨fun h => absurd h (by decide), fun h => by cases h⟩
  · exact propext ⟨fun _ => rfl, fun _ => rfl⟩
theorem bi_le (b_ : Bool) : 0 ≤ bi b_ ∧ bi b_ ≤ 1 := by cases b_ <;> decide
theorem gb_bi {α : Type} (b_ : Bool) (o_ : Option α) : gb (zi (bi b_)) o_ = o_ := by
  cases b_
  · rfl
  · rfl
theorem gb_zi {α : Type} {a_ : Int} (o_ : Option α) (h_ : a_ = 0 ∨ a_ = 1) : gb (zi a_) o_ = o_ := by
  rcases h_ with rfl | rfl <;> rfl
theorem gz_zi {α : Type} {a_ : Int} {o_ : Option α} (h1_ : 0 < a_) (h2_ : a_ < 2147483648) : gz (zi a_) o_ = o_ := by
  unfold gz
  rw [if_neg]
  intro h
  rw [show (0 : Int32) = zi 0 from rfl, zi_inj (by omega) (by omega) (by omega) (by omega)] at h
  omega
/-- memories: what is written, what is not -/
theorem rd_mw (mem : Mem) (k j k2 j2 : Nat) (x : Int32) : rd (mw mem k j x) k2 j2 = if k2 = k ∧ j2 = j then x else rd mem k2 j2 := by
  unfold mw mr rd
  by_cases h : k2 = k
  · subst h
    by_cases h2 : j2 = j
    · subst h2
      simp [upd]
    · simp [upd, h2]
  · simp [h]
theorem rd_ml (mem : Mem) (k j k2 j2 : Nat) (x : Int64) : rd (ml mem k j x) k2 j2 = rd mem k2 j2 := by
  unfold ml mr rd
  by_cases h : k2 = k
  · subst h
    simp
  · simp [h]
theorem rl_mw (mem : Mem) (k j k2 j2 : Nat) (x : Int32) : rl (mw mem k j x) k2 j2 = rl mem k2 j2 := by
  unfold mw mr rl
  by_cases h : k2 = k
  · subst h
    simp
  · simp [h]
theorem rl_ml (mem : Mem) (k j k2 j2 : Nat) (x : Int64) : rl (ml mem k j x) k2 j2 = if k2 = k ∧ j2 = j then x else rl mem k2 j2 := by
  unfold ml mr rl
  by_cases h : k2 = k
  · subst h
    by_cases h2 : j2 = j
    · subst h2
      simp [vp_updL]
    · simp [vp_updL, h2]
  · simp [h]
/-- outside of P nothing is written -/
def Fr (P : Nat → Nat → Bool) (m1 m2 : Mem) : Prop := (∀ k j, P k j = false → rd m2 k j = rd m1 k j) ∧ ∀ k j, P k j = false → rl m2 k j = rl m1 k j
theorem Fr_rf (P : Nat → Nat → Bool) (m1 : Mem) : Fr P m1 m1 := ⟨fun _ _ _ => rfl, fun _ _ _ => rfl⟩
theorem Fr_tr {P : Nat → Nat → Bool} {m1 m2 m3 : Mem} (h1 : Fr P m1 m2) (h2 : Fr P m2 m3) : Fr P m1 m3 := ⟨fun k j h => (h2.1 k j h).trans (h1.1 k j h), fun k j h => (h2.2 k j h).trans (h1.2 k j h)⟩
theorem Fr_mono {P P2 : Nat → Nat → Bool} {m1 m2 : Mem} (h1 : Fr P m1 m2) (h2 : ∀ k j, P2 k j = false → P k j = false) : Fr P2 m1 m2 := ⟨fun k j h => h1.1 k j (h2 k j h), fun k j h => h1.2 k j (h2 k j h)⟩
theorem Fr_mw {P : Nat → Nat → Bool} (m1 : Mem) {k j : Nat} (x : Int32) (h : P k j = true) : Fr P m1 (mw m1 k j x) := by
  refine ⟨fun k2 j2 h2 => ?_, fun k2 j2 h2 => rl_mw m1 k j k2 j2 x⟩
  rw [rd_mw, if_neg]
  rintro ⟨rfl, rfl⟩
  rw [h] at h2
  cases h2
theorem Fr_ml {P : Nat → Nat → Bool} (m1 : Mem) {k j : Nat} (x : Int64) (h : P k j = true) : Fr P m1 (ml m1 k j x) := by
  refine ⟨fun k2 j2 h2 => rd_ml m1 k j k2 j2 x, fun k2 j2 h2 => ?_⟩
  rw [rl_ml, if_neg]
  rintro ⟨rfl, rfl⟩
  rw [h] at h2
  cases h2
end MBASE
