section MEAM
/-- every open repeat is closed further on -/
theorem body_ex {R : Nat} {kd : Nat → Nat} {a b w : Nat → Int} {dp : Nat → Nat} {op : Nat → Nat → Nat} (h : WFs R kd a b w dp op) (hR : dp R = 0) : ∀ (q x k : Nat), x + q = R → k < dp x → ∃ e, x ≤ e ∧ e < R ∧ kd e = 5 ∧ dp e = k + 1 ∧ ∀ y, x ≤ y → y ≤ e → k < dp y ∧ op y k = op x k := by
  intro q
  induction q with
  | zero =>
    intro x k hx hk
    rw [show x = R by omega, hR] at hk
    omega
  | succ q ih =>
    intro x k hx hk
    obtain ⟨r5, r0, r1, r3, rr4, rr5, r9⟩ := h.2.1 x (by omega)
    have nx : (k < dp (x + 1) ∧ op (x + 1) k = op x k) → ∃ e, x ≤ e ∧ e < R ∧ kd e = 5 ∧ dp e = k + 1 ∧ ∀ y, x ≤ y → y ≤ e → k < dp y ∧ op y k = op x k := fun hh => by
      obtain ⟨e, e1, e2, e3, e4, e5⟩ := ih (x + 1) k (by omega) hh.1
      refine ⟨e, by omega, e2, e3, e4, fun y y1 y2 => ?_⟩
      by_cases q : y = x
      · rw [q]
        exact ⟨hk, rfl⟩
      · obtain ⟨z1, z2⟩ := e5 y (by omega) y2
        exact ⟨z1, z2.trans hh.2⟩
    by_cases k4 : kd x = 4
    · obtain ⟨_, u2, u3, u4⟩ := rr4 k4
      exact nx ⟨by omega, u4 k hk⟩
    · by_cases k5 : kd x = 5
      · obtain ⟨u1, u2, u3, u4⟩ := rr5 k5
        by_cases q : k = dp x - 1
        · refine ⟨x, Nat.le_refl x, by omega, k5, by omega, fun y y1 y2 => ?_⟩
          rw [show y = x by omega]
          exact ⟨hk, rfl⟩
        · exact nx ⟨by omega, u4 k (by omega)⟩
      · obtain ⟨u1, u2⟩ := r9 (by omega)
        exact nx ⟨by omega, u2 k hk⟩
def BODp (R : Nat) (kd dp : Nat → Nat) (op : Nat → Nat → Nat) (k e x : Nat) : Prop := op x k < x ∧ x ≤ e ∧ e < R ∧ kd e = 5 ∧ dp e = k + 1 ∧ ∀ y, op x k < y → y ≤ e → k < dp y ∧ op y k = op x k
def STn (R : Nat) (kd dp : Nat → Nat) (op : Nat → Nat → Nat) (x e0 e1 : Nat) : Prop := (0 < dp x → BODp R kd dp op 0 e0 x) ∧ (1 < dp x → BODp R kd dp op 1 e1 x ∧ e1 < e0 ∧ op x 0 < op x 1)
def mu (R : Nat) (dp : Nat → Nat) (op : Nat → Nat → Nat) (cn : Nat → Nat) (x e0 e1 : Nat) : Nat := if dp x = 0 then (R - x) * 441 else if dp x = 1 then (R - e0 - 1) * 441 + (cn 0 - 1) * ((e0 - op x 0) * 21) + (e0 - x + 1) * 21 else (R - e0 - 1) * 441 + (cn 0 - 1) * ((e0 - op x 0) * 21) + (e0 - e1) * 21 + (cn 1 - 1) * (e1 - op x 1) + (e1 - x + 1)
theorem mu_0 {R : Nat} {dp : Nat → Nat} {op : Nat → Nat → Nat} {cn : Nat → Nat} {x e0 e1 : Nat} (h : dp x = 0) : mu R dp op cn x e0 e1 = (R - x) * 441 := if_pos h
theorem mu_1 {R : Nat} {dp : Nat → Nat} {op : Nat → Nat → Nat} {cn : Nat → Nat} {x e0 e1 : Nat} (h : dp x = 1) : mu R dp op cn x e0 e1 = (R - e0 - 1) * 441 + (cn 0 - 1) * ((e0 - op x 0) * 21) + (e0 - x + 1) * 21 := by
  unfold mu
  rw [if_neg (by omega), if_pos h]
theorem mu_2 {R : Nat} {dp : Nat → Nat} {op : Nat → Nat → Nat} {cn : Nat → Nat} {x e0 e1 : Nat} (h : dp x = 2) : mu R dp op cn x e0 e1 = (R - e0 - 1) * 441 + (cn 0 - 1) * ((e0 - op x 0) * 21) + (e0 - e1) * 21 + (cn 1 - 1) * (e1 - op x 1) + (e1 - x + 1) := by
  unfold mu
  rw [if_neg (by omega), if_neg (by omega)]
/-- the same stack, further on within it -/
theorem ST_on {R : Nat} {kd dp : Nat → Nat} {op : Nat → Nat → Nat} {x x2 e0 e1 : Nat} (h : STn R kd dp op x e0 e1) (hd : dp x2 ≤ dp x) (ho : ∀ i, i < dp x2 → op x2 i = op x i) (hp : ∀ i, i < dp x2 → op x i < x2) (h0 : 0 < dp x2 → x2 ≤ e0) (h1 : 1 < dp x2 → x2 ≤ e1) : STn R kd dp op x2 e0 e1 := by
  refine ⟨fun q => ?_, fun q => ?_⟩
  · obtain ⟨a1, a2, a3, a4, a5, a6⟩ := h.1 (by omega)
    unfold BODp
    rw [ho 0 q]
    exact ⟨hp 0 q, h0 q, a3, a4, a5, a6⟩
  · obtain ⟨⟨a1, a2, a3, a4, a5, a6⟩, a7, a8⟩ := h.2 (by omega)
    unfold BODp
    rw [ho 1 q, ho 0 (by omega)]
    exact ⟨⟨hp 1 q, h1 q, a3, a4, a5, a6⟩, a7, a8⟩
theorem M_plain {R : Nat} {kd : Nat → Nat} {a b w : Nat → Int} {dp : Nat → Nat} {op : Nat → Nat → Nat} (h : WFs R kd a b w dp op) {cn : Nat → Nat} {x e0 e1 : Nat} (hx : x < R) (hk : kd x ≤ 3) (hS : STn R kd dp op x e0 e1) : STn R kd dp op (x + 1) e0 e1 ∧ mu R dp op cn (x + 1) e0 e1 < mu R dp op cn x e0 e1 ∧ dp (x + 1) = dp x ∧ ∀ i, i < dp x → op (x + 1) i = op x i := by
  obtain ⟨r5, r0, r1, r3, rr4, rr5, r9⟩ := h.2.1 x hx
  obtain ⟨d1, d2⟩ := r9 hk
  have hd2 := (h.2.2 x (by omega)).1
  have n0 : 0 < dp x → x + 1 ≤ e0 ∧ op x 0 < x := fun q => by
    obtain ⟨a1, a2, a3, a4, a5, a6⟩ := hS.1 q
    have : x ≠ e0 := fun hh => by
      rw [hh] at hk
      omega
    exact ⟨by omega, a1⟩
  have n1 : 1 < dp x → x + 1 ≤ e1 ∧ op x 1 < x := fun q => by
    obtain ⟨⟨a1, a2, a3, a4, a5, a6⟩, a7, a8⟩ := hS.2 q
    have : x ≠ e1 := fun hh => by
      rw [hh] at hk
      omega
    exact ⟨by omega, a1⟩
  refine ⟨ST_on hS (by omega) (fun i hi => d2 i (by omega)) (fun i hi => ?_) (fun q => (n0 (by omega)).1) (fun q => (n1 (by omega)).1), ?_, d1, d2⟩
  · have := ((h.2.2 x (by omega)).2 i (by omega)).1
    omega
  · have hc : dp x = 0 ∨ dp x = 1 ∨ dp x = 2 := by omega
    rcases hc with e | e | e
    · rw [mu_0 e, mu_0 (d1.trans e)]
      omega
    · have := n0 (by omega)
      rw [mu_1 e, mu_1 (d1.trans e), d2 0 (by omega)]
      omega
    · have := n1 (by omega)
      rw [mu_2 e, mu_2 (d1.trans e), d2 0 (by omega), d2 1 (by omega)]
      omega
theorem M_rep {R : Nat} {kd : Nat → Nat} {a b w : Nat → Int} {dp : Nat → Nat} {op : Nat → Nat → Nat} (h : WFs R kd a b w dp op) (hR0 : dp R = 0) {cn : Nat → Nat} {x e0 e1 v : Nat} (hx : x < R) (hk : kd x = 4) (hv : v ≤ 20) (hS : STn R kd dp op x e0 e1) : ∃ f0 f1, STn R kd dp op (x + 1) f0 f1 ∧ mu R dp op (upN cn (dp x) v) (x + 1) f0 f1 < mu R dp op cn x e0 e1 := by
  obtain ⟨r5, r0, r1, r3, rr4, rr5, r9⟩ := h.2.1 x hx
  obtain ⟨ra, d1, d2, d3⟩ := rr4 hk
  have hd2 := (h.2.2 (x + 1) (by omega)).1
  obtain ⟨e, u1, u2, u3, u4, u5⟩ := body_ex h hR0 (R - (x + 1)) (x + 1) (dp x) (by omega) (by omega)
  rw [d2] at u5
  have hc : dp x = 0 ∨ dp x = 1 := by omega
  rcases hc with c | c
  · rw [c] at d1 d2 u4 u5 ⊢
    refine ⟨e, 0, ⟨fun _ => ?_, fun q => by omega⟩, ?_⟩
    · unfold BODp
      rw [d2]
      exact ⟨by omega, u1, u2, u3, u4, fun y y1 y2 => u5 y (by omega) y2⟩
    · rw [mu_0 c, mu_1 d1, upN_eq, d2]
      have hm : (v - 1) * ((e - x) * 21) ≤ 19 * ((e - x) * 21) := Nat.mul_le_mul_right _ (by omega)
      omega
  · rw [c] at d1 d2 u4 u5 ⊢
    obtain ⟨a1, a2, a3, a4, a5, a6⟩ := hS.1 (by omega)
    have o0 := d3 0 (by omega)
    have hx0 : x ≠ e0 := fun hh => by
      rw [hh] at hk
      omega
    have hlt : e < e0 := by
      by_cases q : e < e0
      · exact q
      · have := (u5 e0 (by omega) (by omega)).1
        omega
    refine ⟨e0, e, ⟨fun _ => ?_, fun _ => ⟨?_, hlt, by rw [o0, d2]; exact a1⟩⟩, ?_⟩
    · unfold BODp
      rw [o0]
      exact ⟨by omega, by omega, a3, a4, a5, a6⟩
    · unfold BODp
      rw [d2]
      exact ⟨by omega, u1, u2, u3, u4, fun y y1 y2 => u5 y (by omega) y2⟩
    · rw [mu_1 c, mu_2 d1, upN_eq, d2, o0, upN_ne (by decide)]
      have hm : (v - 1) * (e - x) ≤ 19 * (e - x) := Nat.mul_le_mul_right _ (by omega)
      omega
theorem ST_e {R : Nat} {kd : Nat → Nat} {a b w : Nat → Int} {dp : Nat → Nat} {op : Nat → Nat → Nat} (h : WFs R kd a b w dp op) {x e k : Nat} (hx : x < R) (hk : kd x = 5) (hd : dp x = k + 1) (hB : BODp R kd dp op k e x) : x = e := by
  obtain ⟨r5, r0, r1, r3, rr4, rr5, r9⟩ := h.2.1 x hx
  obtain ⟨ra, d1, d2, d3⟩ := rr5 hk
  obtain ⟨a1, a2, a3, a4, a5, a6⟩ := hB
  by_cases q : x = e
  · exact q
  · have := (a6 (x + 1) (by omega) (by omega)).1
    omega
theorem M_back {R : Nat} {kd : Nat → Nat} {a b w : Nat → Int} {dp : Nat → Nat} {op : Nat → Nat → Nat} (h : WFs R kd a b w dp op) {cn : Nat → Nat} {x e0 e1 k : Nat} (hx : x < R) (hk : kd x = 5) (hd : dp x = k + 1) (hc : 1 < cn k) (hS : STn R kd dp op x e0 e1) : STn R kd dp op (op x k + 1) e0 e1 ∧ mu R dp op (upN cn k (cn k - 1)) (op x k + 1) e0 e1 < mu R dp op cn x e0 e1 ∧ dp (op x k + 1) = dp x ∧ ∀ i, i < dp x → op (op x k + 1) i = op x i := by
  have hd2 := (h.2.2 x (by omega)).1
  obtain ⟨j1, j2, j3, j4⟩ := (h.2.2 x (by omega)).2 k (by omega)
  obtain ⟨r5, r0, r1, r3, rr4, rr5, r9⟩ := h.2.1 (op x k) (by omega)
  obtain ⟨ra, d1, d2, d3⟩ := rr4 j2
  have dd : dp (op x k + 1) = dp x := by omega
  have oo : ∀ i, i < dp x → op (op x k + 1) i = op x i := fun i hi => by
    by_cases q : i = k
    · rw [q]
      rw [j3] at d2
      exact d2
    · exact (d3 i (by omega)).trans (j4 i (by omega))
  have hkc : k = 0 ∨ k = 1 := by omega
  have hle0 : x ≤ e0 := (hS.1 (by omega)).2.1
  have hst : STn R kd dp op (op x k + 1) e0 e1 := ST_on hS (by omega) (fun i hi => oo i (by omega)) (fun i hi => by
    by_cases q : i = k
    · rw [q]
      omega
    · have h1 := (hS.2 (by omega)).2.2
      have hi0 : i = 0 := by omega
      have hk1 : k = 1 := by omega
      rw [hi0, hk1]
      omega) (fun _ => by omega) (fun q => by
    have := (hS.2 (by omega)).1.2.1
    omega)
  refine ⟨hst, ?_, dd, oo⟩
  have hmul : ∀ t : Nat, (cn k - 1) * t = (cn k - 1 - 1) * t + t := fun t => by
    obtain ⟨z, hz⟩ : ∃ z, cn k = z + 2 := ⟨cn k - 2, by omega⟩
    rw [hz, show z + 2 - 1 = z + 1 by omega, show z + 1 - 1 = z by omega, Nat.succ_mul]
  rcases hkc with e | e
  · rw [e] at hd hmul j1 dd oo hc ⊢
    have hxe := ST_e h hx hk (k := 0) hd (hS.1 (by omega))
    rw [mu_1 hd, mu_1 (dd.trans hd), upN_eq, oo 0 (by omega), hmul]
    have b := (hS.1 (by omega)).1
    omega
  · rw [e] at hd hmul j1 dd oo hc ⊢
    have hxe := ST_e h hx hk (k := 1) hd (hS.2 (by omega)).1
    rw [mu_2 hd, mu_2 (dd.trans hd), upN_eq, oo 0 (by omega), oo 1 (by omega), upN_ne (by decide), hmul]
    omega
theorem M_out {R : Nat} {kd : Nat → Nat} {a b w : Nat → Int} {dp : Nat → Nat} {op : Nat → Nat → Nat} (h : WFs R kd a b w dp op) {cn : Nat → Nat} {x e0 e1 k : Nat} (hx : x < R) (hk : kd x = 5) (hd : dp x = k + 1) (hS : STn R kd dp op x e0 e1) : STn R kd dp op (x + 1) e0 e1 ∧ mu R dp op cn (x + 1) e0 e1 < mu R dp op cn x e0 e1 ∧ dp (x + 1) = k ∧ ∀ i, i < k → op (x + 1) i = op x i := by
  obtain ⟨r5, r0, r1, r3, rr4, rr5, r9⟩ := h.2.1 x hx
  obtain ⟨ra, d1, d2, d3⟩ := rr5 hk
  have hd2 := (h.2.2 x (by omega)).1
  have dd : dp (x + 1) = k := by omega
  have hkc : k = 0 ∨ k = 1 := by omega
  have hst : STn R kd dp op (x + 1) e0 e1 := ST_on hS (by omega) (fun i hi => d3 i (by omega)) (fun i hi => by
    have := ((h.2.2 x (by omega)).2 i (by omega)).1
    omega) (fun q => by
    obtain ⟨a1, a2, a3, a4, a5, a6⟩ := hS.1 (by omega)
    have : x ≠ e0 := fun hh => by
      rw [← hh] at a5
      omega
    omega) (fun q => by omega)
  refine ⟨hst, ?_, dd, fun i hi => d3 i (by omega)⟩
  rcases hkc with e | e
  · rw [e] at hd dd
    have hxe := ST_e h hx hk (k := 0) hd (hS.1 (by omega))
    rw [mu_1 hd, mu_0 dd]
    omega
  · rw [e] at hd dd
    have hxe := ST_e h hx hk (k := 1) hd (hS.2 (by omega)).1
    have h0 := hst.1 (by omega)
    rw [mu_2 hd, mu_1 dd, d3 0 (by omega)]
    have := h0.2.1
    omega
end MEAM
