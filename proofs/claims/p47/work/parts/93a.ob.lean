section OBB
theorem cnB_inj {R : Nat → Bool} {m : Nat} {f : Nat → Nat} {P : Nat → Bool} : ∀ (a : Nat) (R : Nat → Bool), (∀ d, d < a → P d = true → f d < m ∧ R (f d) = true) → (∀ d e, d < a → e < a → P d = true → P e = true → d ≠ e → f d ≠ f e) → cnB P a ≤ cnB R m := by
  intro a
  induction a with
  | zero => exact fun R _ _ => Nat.zero_le _
  | succ a ih =>
    intro R h1 h2
    rw [cnB]
    by_cases c : P a = true
    · rw [if_pos c]
      obtain ⟨f1, f2⟩ := h1 a (by omega) c
      rw [cnB_del f1 f2]
      refine Nat.succ_le_succ (ih _ (fun d hd hp => ?_) (fun d e hd he => h2 d e (by omega) (by omega)))
      obtain ⟨g1, g2⟩ := h1 d (by omega) hp
      refine ⟨g1, ?_⟩
      rw [g2, Bool.true_and, decide_eq_true_iff]
      exact h2 d a (by omega) (by omega) hp c (by omega)
    · rw [if_neg c, Nat.add_zero]
      exact ih R (fun d hd => h1 d (by omega)) (fun d e hd he => h2 d e (by omega) (by omega))
theorem cnB_all (n : Nat) : cnB (fun _ => true) n = n := by
  induction n with
  | zero => rfl
  | succ n ih =>
    rw [cnB, ih, if_pos rfl]
theorem cnB_ge {R : Nat → Bool} {m n : Nat} {f : Nat → Nat} (h1 : ∀ k, k < n → f k < m ∧ R (f k) = true) (h2 : ∀ i j, i < n → j < n → i ≠ j → f i ≠ f j) : n ≤ cnB R m := by
  have := cnB_inj (m := m) (f := f) (P := fun _ => true) (R := R) n R (fun d hd _ => h1 d hd) (fun d e hd he _ _ => h2 d e hd he)
  rw [cnB_all] at this
  exact this
theorem cnB_one {P : Nat → Bool} {m : Nat} (h : ∀ d e, d < m → e < m → P d = true → P e = true → d = e) : cnB P m ≤ 1 := by
  by_cases q : ∃ a, a < m ∧ P a = true
  · obtain ⟨a, a1, a2⟩ := q
    exact cnB_cov 1 (fun _ => a) P m (fun c hc hp => ⟨0, by omega, h a c a1 hc a2 hp⟩)
  · rw [cnB_same (Q := fun _ => false) (fun k hk => by
      cases hp : P k with
      | false => rfl
      | true => exact absurd ⟨k, hk, hp⟩ q), cnB_f]
    omega
theorem sg_le {P : Nat → Bool} {X : Nat → Nat} {B : Nat} : ∀ (a : Nat), (∀ d, d < a → P d = true → X d ≤ B) → sg (fun d => if P d = true then X d else 0) a ≤ cnB P a * B := by
  intro a
  induction a with
  | zero => exact fun _ => Nat.zero_le _
  | succ a ih =>
    intro h
    have i := ih (fun d hd => h d (by omega))
    rw [sg, cnB]
    by_cases c : P a = true
    · have := h a (by omega) c
      rw [if_pos c, if_pos c, Nat.add_mul, Nat.one_mul]
      omega
    · rw [if_neg c, if_neg c]
      exact i
theorem sg_ge1 {f : Nat → Nat} {k : Nat} : ∀ {n : Nat}, k < n → f k ≤ sg f n := by
  intro n
  induction n with
  | zero => exact fun h => absurd h (Nat.not_lt_zero k)
  | succ n ih =>
    intro h
    rw [sg]
    by_cases c : k = n
    · rw [c]
      omega
    · have := ih (by omega)
      omega
theorem sg_ge2 {f : Nat → Nat} {k l : Nat} (hkl : k < l) : ∀ {n : Nat}, l < n → f k + f l ≤ sg f n := by
  intro n
  induction n with
  | zero => exact fun h => absurd h (Nat.not_lt_zero l)
  | succ n ih =>
    intro h
    rw [sg]
    by_cases c : l = n
    · have := sg_ge1 (f := f) (k := k) (n := n) (by omega)
      rw [c]
      omega
    · have := ih (by omega)
      omega
theorem sg_add {f g : Nat → Nat} : ∀ n : Nat, sg (fun k => f k + g k) n = sg f n + sg g n := by
  intro n
  induction n with
  | zero => rfl
  | succ n ih =>
    rw [sg, sg, sg, ih]
    omega
/-- how many shortest ways, wholly -/
noncomputable def twN (s : Nat → Int) (side : Int) : Nat → Nat → Nat
  | 0, _ => 1
  | n + 1, c => sg (fun d => if nrD s side c d = true then twN s side n (nbr c d) else 0) 4
theorem wy_tw (s : Nat → Int) (side : Int) : ∀ n c, wyN s side n c = ((twN s side n c % 1000003 : Nat) : Int) := by
  intro n
  induction n with
  | zero => exact fun c => rfl
  | succ n ih =>
    intro c
    have e : ∀ d, (if nrD s side c d = true then wyN s side n (nbr c d) else 0) = (((if nrD s side c d = true then twN s side n (nbr c d) else 0) % 1000003 : Nat) : Int) := fun d => by
      by_cases q : nrD s side c d = true
      · rw [if_pos q, if_pos q]
        exact ih _
      · rw [if_neg q, if_neg q]
        rfl
    rw [wyN, twN]
    show ((((0 + (if nrD s side c 0 = true then wyN s side n (nbr c 0) else 0)) + (if nrD s side c 1 = true then wyN s side n (nbr c 1) else 0)) + (if nrD s side c 2 = true then wyN s side n (nbr c 2) else 0)) + (if nrD s side c 3 = true then wyN s side n (nbr c 3) else 0)) % 1000003 = (((((0 + (if nrD s side c 0 = true then twN s side n (nbr c 0) else 0)) + (if nrD s side c 1 = true then twN s side n (nbr c 1) else 0)) + (if nrD s side c 2 = true then twN s side n (nbr c 2) else 0)) + (if nrD s side c 3 = true then twN s side n (nbr c 3) else 0)) % 1000003 : Nat)
    rw [e 0, e 1, e 2, e 3]
    omega
theorem nbr_ne {s : Nat → Int} (hz : szO s) {u d e : Nat} (hd : d < 4) (he : e < 4) (hde : d ≠ e) (h1 : op s u d = true) (h2 : op s u e = true) : nbr u d ≠ nbr u e := by
  have hu := op_lt hz h1
  have a := op_off hz hu hd h1
  have b := op_off hz hu he h2
  have c := dxy d hd
  have g := dxy e he
  omega
theorem nrD_iff {s : Nat → Int} {side : Int} {u d : Nat} : nrD s side u d = true ↔ op s u d = true ∧ 0 < dl s side u ∧ dl s side (nbr u d) = dl s side u - 1 := by
  unfold nrD
  rw [Bool.and_eq_true, Bool.and_eq_true, decide_eq_true_iff, decide_eq_true_iff]
theorem nrx {s : Nat → Int} (hz : szO s) {side : Int} {u n : Nat} (h : dl s side u = ((n + 1 : Nat) : Int)) : ∃ d, d < 4 ∧ nrD s side u d = true := by
  rcases dlt_cases (op s) nbr (Sd s side) u with ⟨a1, a2⟩ | ⟨k, a1, a2⟩
  · have : dl s side u = -1 := a1
    omega
  · have e : dl s side u = (k : Int) := a2
    obtain rfl : k = n + 1 := by omega
    obtain ⟨v, d, hd, hp, ho, hc⟩ := a1.1
    have sy := op_sym hz hd ho
    rw [hc] at sy
    refine ⟨opp d, opp_lt d, nrD_iff.mpr ⟨sy.1, by omega, ?_⟩⟩
    rw [sy.2]
    rcases dlt_cases (op s) nbr (Sd s side) v with ⟨b1, b2⟩ | ⟨j, b1, b2⟩
    · exact absurd hp (b2 _)
    · have e2 : dl s side v = (j : Int) := b2
      have l1 := b1.2 _ hp
      have l2 := a1.2 (j + 1) ⟨v, d, hd, b1.1, ho, hc⟩
      omega
theorem tw_pos {s : Nat → Int} (hz : szO s) {side : Int} : ∀ (n c : Nat), dl s side c = (n : Int) → 1 ≤ twN s side n c := by
  intro n
  induction n with
  | zero => exact fun c _ => Nat.le_refl 1
  | succ n ih =>
    intro c h
    obtain ⟨d, hd, hn⟩ := nrx hz h
    have := ih (nbr c d) (by have := (nrD_iff.mp hn).2.2; omega)
    have g := sg_ge1 (f := fun d => if nrD s side c d = true then twN s side n (nbr c d) else 0) hd
    rw [if_pos hn] at g
    rw [twN]
    omega
theorem on_ex {s : Nat → Int} (hz : szO s) {side : Int} {c0 n : Nat} (h : dl s side c0 = (n : Int)) : ∀ k, k ≤ n → ∃ c, onR s side c0 k c := by
  intro k
  induction k with
  | zero => exact fun _ => ⟨c0, rfl⟩
  | succ k ih =>
    intro hk
    obtain ⟨c, hc⟩ := ih (by omega)
    have e := on_dl hc
    obtain ⟨d, hd, hn⟩ := nrx hz (u := c) (n := n - k - 1) (side := side) (by omega)
    exact ⟨nbr c d, c, d, hd, hc, hn, rfl⟩
theorem on_nn {s : Nat → Int} {side : Int} {c0 : Nat} (h0 : 0 ≤ dl s side c0) {k c : Nat} (h : onR s side c0 k c) : 0 ≤ dl s side c := by
  cases k with
  | zero =>
    rw [show c = c0 from h]
    exact h0
  | succ k =>
    obtain ⟨u, d, hd, h1, h2, rfl⟩ := h
    have := (nrD_iff.mp h2).2
    omega
theorem on_ge {s : Nat → Int} (hz : szO s) {side : Int} {c0 n : Nat} (hc : c0 < 81) (h : dl s side c0 = (n : Int)) : n + 1 ≤ onN s side c0 := by
  have ex := on_ex hz h
  let Q : Nat → Nat := fun k => if hk : k ≤ n then Classical.choose (ex k hk) else 0
  have hQ : ∀ k, k ≤ n → onR s side c0 k (Q k) := fun k hk => by
    show onR s side c0 k (if hk : k ≤ n then Classical.choose (ex k hk) else 0)
    rw [dif_pos hk]
    exact Classical.choose_spec (ex k hk)
  refine cnB_ge (f := Q) (fun k hk => ⟨on_c81 hz hc ⟨k, hQ k (by omega)⟩, onB_t.mpr ⟨k, hQ k (by omega)⟩⟩) (fun i j hi hj hij e => ?_)
  have a := on_dl (hQ i (by omega))
  have b := on_dl (hQ j (by omega))
  rw [e] at a
  omega
/-- how many cells on ways have a distance -/
noncomputable def lyN (s : Nat → Int) (side : Int) (c0 i : Nat) : Nat := cnB (fun c => onB s side c0 c && decide (dl s side c = (i : Int))) 81
noncomputable def prL (s : Nat → Int) (side : Int) (c0 : Nat) : Nat → Nat
  | 0 => 1
  | n + 1 => lyN s side c0 n * prL s side c0 n
theorem on_next {s : Nat → Int} {side : Int} {c0 u d : Nat} (hd : d < 4) (h : onP s side c0 u) (hn : nrD s side u d = true) : onP s side c0 (nbr u d) := by
  obtain ⟨k, hk⟩ := h
  exact ⟨k + 1, u, d, hd, hk, hn, rfl⟩
theorem deg_le {s : Nat → Int} (hz : szO s) {side : Int} {c0 : Nat} (hc : c0 < 81) {u j : Nat} (hu : onP s side c0 u) (hj : dl s side u = ((j + 1 : Nat) : Int)) : cnB (nrD s side u) 4 ≤ lyN s side c0 j := by
  unfold lyN
  refine cnB_inj (f := nbr u) (R := fun _ => true) 4 _ (fun d hd hn => ?_) (fun d e hd he h1 h2 hde => nbr_ne hz hd he hde (nrD_iff.mp h1).1 (nrD_iff.mp h2).1)
  have hp := on_next hd hu hn
  refine ⟨on_c81 hz hc hp, ?_⟩
  rw [onB_t.mpr hp, Bool.true_and, decide_eq_true_iff]
  have := (nrD_iff.mp hn).2.2
  omega
theorem tw_le {s : Nat → Int} (hz : szO s) {side : Int} {c0 : Nat} (hc : c0 < 81) : ∀ (j u : Nat), onP s side c0 u → dl s side u = (j : Int) → twN s side j u ≤ prL s side c0 j := by
  intro j
  induction j with
  | zero => exact fun u _ _ => Nat.le_refl 1
  | succ j ih =>
    intro u hu hj
    have a := sg_le (P := nrD s side u) (X := fun d => twN s side j (nbr u d)) (B := prL s side c0 j) 4 (fun d hd hn => ih _ (on_next hd hu hn) (by have := (nrD_iff.mp hn).2.2; omega))
    have b := Nat.mul_le_mul_right (prL s side c0 j) (deg_le hz hc hu hj)
    rw [twN, prL]
    exact Nat.le_trans a b
theorem cube36 : ∀ n, n < 82 → n * n * n ≤ 3 ^ n := by decide
theorem pr_cube {s : Nat → Int} {side : Int} {c0 : Nat} : ∀ n, prL s side c0 n * prL s side c0 n * prL s side c0 n ≤ 3 ^ sg (lyN s side c0) n := by
  intro n
  induction n with
  | zero => exact Nat.le_refl 1
  | succ n ih =>
    have a := cube36 (lyN s side c0 n) (by have := cnB_le (fun c => onB s side c0 c && decide (dl s side c = (n : Int))) 81; unfold lyN; omega)
    rw [prL, sg, Nat.pow_add]
    have e : lyN s side c0 n * prL s side c0 n * (lyN s side c0 n * prL s side c0 n) * (lyN s side c0 n * prL s side c0 n) = (prL s side c0 n * prL s side c0 n * prL s side c0 n) * (lyN s side c0 n * lyN s side c0 n * lyN s side c0 n) := by
      generalize lyN s side c0 n = l
      generalize prL s side c0 n = p
      simp only [Nat.mul_assoc, Nat.mul_comm, Nat.mul_left_comm]
    rw [e]
    exact Nat.mul_le_mul ih a
theorem ly_sum {P : Nat → Bool} {D : Nat → Int} (n : Nat) : ∀ m, sg (fun i => cnB (fun c => P c && decide (D c = (i : Int))) m) n ≤ cnB P m := by
  intro m
  induction m with
  | zero =>
    have : sg (fun i : Nat => cnB (fun c => P c && decide (D c = (i : Int))) 0) n = 0 := sg_0 (fun k _ => rfl)
    rw [this]
    exact Nat.le_refl 0
  | succ m ih =>
    have e : (fun i : Nat => cnB (fun c => P c && decide (D c = (i : Int))) (m + 1)) = fun i : Nat => cnB (fun c => P c && decide (D c = (i : Int))) m + (if (P m && decide (D m = (i : Int))) = true then 1 else 0) := rfl
    rw [e, sg_add, cnB]
    have g : sg (fun i : Nat => if (P m && decide (D m = (i : Int))) = true then 1 else 0) n ≤ if P m = true then 1 else 0 := by
      by_cases q : P m = true
      · rw [if_pos q]
        have a := sg_le (P := fun i : Nat => P m && decide (D m = (i : Int))) (X := fun _ => 1) (B := 1) n (fun _ _ _ => Nat.le_refl 1)
        have b := cnB_one (P := fun i : Nat => P m && decide (D m = (i : Int))) (m := n) (fun d e _ _ h1 h2 => by
          rw [Bool.and_eq_true, decide_eq_true_iff] at h1 h2
          omega)
        omega
      · rw [if_neg q, sg_0 (fun k _ => by rw [if_neg (fun h => q (Bool.and_eq_true_iff.mp h).1)])]
        exact Nat.le_refl 0
    omega
theorem on_isCl {s : Nat → Int} (hz : szO s) {side : Int} {c0 : Nat} (h0 : isCl s (xo c0) (yo c0) = true) {c : Nat} (h : onP s side c0 c) : isCl s (xo c) (yo c) = true := by
  obtain ⟨k, hk⟩ := h
  cases k with
  | zero =>
    rw [show c = c0 from hk]
    exact h0
  | succ k =>
    obtain ⟨u, d, hd, h1, h2, rfl⟩ := hk
    have ho := (nrD_iff.mp h2).1
    exact (op_nb hz (op_lt hz ho) hd ho).2.1
theorem on_36 {s : Nat → Int} (hz : szO s) (hsm : smO s) {side : Int} {c0 : Nat} (h0 : isCl s (xo c0) (yo c0) = true) : cnB (onB s side c0) 81 ≤ 36 := by
  have := cnB_inj (P := onB s side c0) (m := 36) (f := fun c => 6 * (c / 9) + c % 9) (R := fun _ => true) 81 (fun _ => true) (fun c hc hp => by
    have hcl := isCl_iff.mp (on_isCl hz h0 (onB_t.mp hp))
    obtain ⟨m1, m2⟩ := hsm
    unfold xo yo at hcl
    refine ⟨?_, rfl⟩
    omega) (fun c e hc he hp hq hce => by
    have h1 := isCl_iff.mp (on_isCl hz h0 (onB_t.mp hp))
    have h2 := isCl_iff.mp (on_isCl hz h0 (onB_t.mp hq))
    obtain ⟨m1, m2⟩ := hsm
    unfold xo yo at h1 h2
    omega)
  rw [cnB_all] at this
  exact this
theorem tw_lim {s : Nat → Int} (hz : szO s) (hsm : smO s) {side : Int} {c0 n : Nat} (hc : c0 < 81) (h0 : isCl s (xo c0) (yo c0) = true) (h : dl s side c0 = (n : Int)) : twN s side n c0 ≤ 531441 := by
  have a := tw_le hz hc n c0 ⟨0, rfl⟩ h
  have b := pr_cube (s := s) (side := side) (c0 := c0) n
  have c := ly_sum (P := onB s side c0) (D := dl s side) n 81
  have d := on_36 hz hsm (side := side) h0
  have e : sg (lyN s side c0) n ≤ 36 := Nat.le_trans c d
  have f := Nat.pow_le_pow_right (show 0 < 3 by omega) e
  have g := Nat.le_trans b f
  by_cases q : prL s side c0 n ≤ 531441
  · omega
  · have l : 531442 ≤ prL s side c0 n := by omega
    have l2 := Nat.mul_le_mul (Nat.mul_le_mul l l) l
    have l3 := Nat.le_trans l2 g
    exact absurd l3 (by decide)
theorem wyC_tw {s : Nat → Int} (hz : szO s) (hsm : smO s) {side : Int} {c0 n : Nat} (hc : c0 < 81) (h0 : isCl s (xo c0) (yo c0) = true) (h : dl s side c0 = (n : Int)) : wyC s side c0 = (twN s side n c0 : Int) := by
  have := tw_lim hz hsm hc h0 h
  unfold wyC
  rw [h, Int.toNat_natCast, wy_tw]
  omega
/-- on a single shortest way lies one cell more than its steps -/
theorem on_single {s : Nat → Int} (hz : szO s) {side : Int} {c0 n : Nat} (hc : c0 < 81) (h : dl s side c0 = (n : Int)) : onN s side c0 = n + 1 ↔ twN s side n c0 = 1 := by
  have ge := on_ge hz hc h
  have ex := on_ex hz h
  constructor
  · intro hN
    let Q : Nat → Nat := fun k => if hk : k ≤ n then Classical.choose (ex k hk) else 0
    have hQ : ∀ k, k ≤ n → onR s side c0 k (Q k) := fun k hk => by
      show onR s side c0 k (if hk : k ≤ n then Classical.choose (ex k hk) else 0)
      rw [dif_pos hk]
      exact Classical.choose_spec (ex k hk)
    have uni : ∀ k c, onR s side c0 k c → c = Q k := fun k c hk => by
      by_cases q : c = Q k
      · exact q
      · have dc := on_dl hk
        have nn := on_nn (by omega) hk
        have hkn : k ≤ n := by omega
        have := cnB_ge (R := onB s side c0) (m := 81) (n := n + 2) (f := fun i => if i = n + 1 then c else Q i) (fun i hi => by
          by_cases q2 : i = n + 1
          · rw [if_pos q2]
            exact ⟨on_c81 hz hc ⟨k, hk⟩, onB_t.mpr ⟨k, hk⟩⟩
          · rw [if_neg q2]
            exact ⟨on_c81 hz hc ⟨i, hQ i (by omega)⟩, onB_t.mpr ⟨i, hQ i (by omega)⟩⟩) (fun i j hi hj hij => by
          have neq : ∀ i, i ≤ n → c ≠ Q i := fun i hi e => by
            have a := on_dl (hQ i hi)
            rw [← e] at a
            have : i = k := by omega
            rw [this] at e
            exact q e
          by_cases q2 : i = n + 1
          · rw [if_pos q2, if_neg (by omega)]
            exact neq j (by omega)
          · rw [if_neg q2]
            by_cases q3 : j = n + 1
            · rw [if_pos q3]
              exact fun e => neq i (by omega) e.symm
            · rw [if_neg q3]
              intro e
              have a := on_dl (hQ i (by omega))
              have b := on_dl (hQ j (by omega))
              rw [e] at a
              omega)
        have : n + 2 ≤ onN s side c0 := this
        omega
    have one : ∀ (j u : Nat), onP s side c0 u → dl s side u = (j : Int) → twN s side j u ≤ 1 := by
      intro j
      induction j with
      | zero => exact fun u _ _ => Nat.le_refl 1
      | succ j ih =>
        intro u hu hj
        have a := sg_le (P := nrD s side u) (X := fun d => twN s side j (nbr u d)) (B := 1) 4 (fun d hd hn => ih _ (on_next hd hu hn) (by have := (nrD_iff.mp hn).2.2; omega))
        have b := cnB_one (P := nrD s side u) (m := 4) (fun d e hd he h1 h2 => by
          by_cases q : d = e
          · exact q
          · obtain ⟨k, hk⟩ := hu
            have a := uni (k + 1) (nbr u d) ⟨u, d, hd, hk, h1, rfl⟩
            have b := uni (k + 1) (nbr u e) ⟨u, e, he, hk, h2, rfl⟩
            exact absurd (a.trans b.symm) (nbr_ne hz hd he q (nrD_iff.mp h1).1 (nrD_iff.mp h2).1))
        rw [twN]
        omega
    have a := one n c0 ⟨0, rfl⟩ h
    have b := tw_pos hz n c0 h
    omega
  · intro hT
    have key : ∀ k, k ≤ n → ∃ q, (∀ c, onR s side c0 k c → c = q) ∧ dl s side q = ((n - k : Nat) : Int) ∧ twN s side (n - k) q = 1 := by
      intro k
      induction k with
      | zero => exact fun _ => ⟨c0, fun c hc => hc, h, hT⟩
      | succ k ih =>
        intro hk
        obtain ⟨q, q1, q2, q3⟩ := ih (by omega)
        rw [show n - k = (n - (k + 1)) + 1 by omega] at q2 q3
        obtain ⟨d, hd, hn⟩ := nrx hz q2
        have dn := (nrD_iff.mp hn).2.2
        rw [twN] at q3
        have pos : ∀ e, e < 4 → nrD s side q e = true → 1 ≤ twN s side (n - (k + 1)) (nbr q e) := fun e he hne => tw_pos hz _ _ (by have := (nrD_iff.mp hne).2.2; omega)
        have uq : ∀ e, e < 4 → nrD s side q e = true → e = d := fun e he hne => by
          by_cases z : e = d
          · exact z
          · have p1 := pos d hd hn
            have p2 := pos e he hne
            by_cases z2 : d < e
            · have g := sg_ge2 (f := fun d => if nrD s side q d = true then twN s side (n - (k + 1)) (nbr q d) else 0) z2 he
              rw [if_pos hn, if_pos hne] at g
              omega
            · have g := sg_ge2 (f := fun d => if nrD s side q d = true then twN s side (n - (k + 1)) (nbr q d) else 0) (show e < d by omega) hd
              rw [if_pos hn, if_pos hne] at g
              omega
        refine ⟨nbr q d, fun c hc => ?_, by omega, ?_⟩
        · obtain ⟨u, e, he, h1, h2, rfl⟩ := hc
          rw [q1 u h1] at h2 ⊢
          rw [uq e he h2]
        · have p1 := pos d hd hn
          have g := sg_ge1 (f := fun d => if nrD s side q d = true then twN s side (n - (k + 1)) (nbr q d) else 0) hd
          rw [if_pos hn] at g
          omega
    let Q : Nat → Nat := fun k => if hk : k ≤ n then Classical.choose (key k hk) else 0
    have hQ : ∀ k, k ≤ n → ∀ c, onR s side c0 k c → c = Q k := fun k hk c hc => by
      show c = if hk : k ≤ n then Classical.choose (key k hk) else 0
      rw [dif_pos hk]
      exact (Classical.choose_spec (key k hk)).1 c hc
    have le := cnB_cov (n + 1) Q (onB s side c0) 81 (fun c hc hp => by
      obtain ⟨k, hk⟩ := onB_t.mp hp
      have dc := on_dl hk
      have nn := on_nn (by omega) hk
      exact ⟨k, by omega, (hQ k (by omega) c hk).symm⟩)
    have : onN s side c0 ≤ n + 1 := le
    omega
end OBB
