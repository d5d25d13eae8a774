section MDD
/-- where a pawn that has a way lands there is one -/
theorem ld_way {s : Nat → Int} (hI : Inv s) {p d : Nat} (hps : (p : Int) < s 2) (hd : d < 4) (hg : gB s p d ≠ 0) : ldN s p d < 81 ∧ isCl s (xo (ldN s p d)) (yo (ldN s p d)) = true ∧ 0 ≤ dl s (pg s p 2) (ldN s p d) ∧ dl s (pg s p 2) (ldN s p d) ≤ 80 := by
  obtain ⟨hz, hc, hW, hp, hb, hwp, hds, hrk, hwy⟩ := hI
  have hpk := hp p (by omega) hps
  obtain ⟨l1, l2, l3, l4, l5, l6, l7, l8, n, hn⟩ := gB_ld hz hpk hd hg
  have b := dl_le hz hW (side := pg s p 2) (by have := hpk.2.1; omega) (by have := hpk.2.1; omega) l1
  refine ⟨l1, l5, ?_, b.2⟩
  have h1 := hwy p (by omega) hps
  rw [dst_dl hz hpk] at h1
  obtain ⟨m, hm⟩ := dlt_nn.mp h1
  have h2 : dl s (pg s p 2) (ldN s p d) ≠ -1 := dlt_nn.mpr ⟨m + n, Pth_app hm hn⟩
  omega
theorem w_av28 {np nb fu : Nat} (hfu : 100000 ≤ fu) {m : Mem} {s : Nat → Int} (h : WI np nb m s) {p : Nat} (hp : p < np) {w hh : Nat} (hw : (w : Int) = s 0) (hhh : (hh : Int) = s 1) {d : Nat → Nat → Int32} (hd : ∀ x y : Int, isCl s x y = true → d x.toNat y.toNat = zi (dl1 s (pg s p 2) (9 * y + x).toNat)) : ∀ (q n k : Nat) (b : BC), k + q = 4 → q < n → (-1 ≤ b.1 ∧ b.1 ≤ 3) → (-1 ≤ b.2 ∧ b.2 ≤ 80) → KW_advised_28 np nb fu m n w hh d (zi (p : Int)) (zi b.1) (zi b.2) (zi (k : Int)) = some (zi (avF s p q k b).1) := by
  have e2 := h.1.1.1
  intro q
  induction q with
  | zero =>
    intro n k b hk hn h1 h2
    obtain ⟨n, rfl⟩ : ∃ f, n = f + 1 := ⟨n - 1, by omega⟩
    obtain rfl : k = 4 := by omega
    rw [KW_advised_28, if_neg (by decide)]
    rfl
  | succ q ih =>
    intro n k b hk hn h1 h2
    obtain ⟨n, rfl⟩ : ∃ f, n = f + 1 := ⟨n - 1, by omega⟩
    have hk4 : k < 4 := by omega
    have hz := h.2.1.1
    have hz2 := hz
    obtain ⟨⟨hw1, hw2⟩, hh1, hh2⟩ := hz2
    have k1 : (zi (k : Int) < (4 : Int32)) = ((k : Int) < 4) := by
      rw [show (4 : Int32) = zi 4 from rfl]
      exact zi_lt (by omega) (by omega) (by omega) (by omega)
    have kn : zi (k : Int) + 1 = zi ((k + 1 : Nat) : Int) := by
      rw [show (1 : Int32) = zi 1 from rfl, zi_add]
      rfl
    rw [KW_advised_28, if_pos (by rw [k1]; omega), w_landing (by omega) (WI_W h) hp hk4, bd_s, kn, avF]
    unfold stA
    by_cases c1 : gB s p k = 0
    · rw [if_pos c1, if_pos c1, if_pos (by decide)]
      exact ih n (k + 1) b (by omega) (by omega) h1 h2
    · rw [if_neg c1, if_neg c1]
      obtain ⟨l1, l2, l3, l4⟩ := ld_way h.2.1 (p := p) (by omega) hk4 c1
      have hci := isCl_iff.mp l2
      have hxy := xy_lt l1
      have dv := hd _ _ l2
      rw [hxy.2.2.2.2.1] at dv
      unfold dl1 at dv
      rw [if_neg (by omega)] at dv
      rw [show (0 : Int32) = zi 0 from rfl, if_neg (by rw [zi_lt (by omega) (by omega) (by omega) (by omega)]; omega)]
      have e73 : KW_advised_73 np nb fu m (KW_advised_28 np nb fu m n) w hh d (zi (p : Int)) (zi (k : Int)) (zi (10 * yo (ldN s p k) + xo (ldN s p k))) = KW_advised_28 np nb fu m n w hh d (zi (p : Int)) (zi (k : Int)) (zi (dl s (pg s p 2) (ldN s p k))) (zi ((k + 1 : Nat) : Int)) := by
        unfold KW_advised_73
        rw [show (10 : Int32) = zi 10 from rfl, zi_mod (by omega) (by omega) (by omega) (by omega), zi_div (by omega) (by omega) (by omega) (by omega), show (10 * yo (ldN s p k) + xo (ldN s p k)) % 10 = xo (ldN s p k) by omega, show (10 * yo (ldN s p k) + xo (ldN s p k)) / 10 = yo (ldN s p k) by omega, gi_zi (by omega) (by omega) (by omega), gi_zi (by omega) (by omega) (by omega), ltf, zi_clamp (by omega) (by omega), zi_clamp (by omega) (by omega), dv, kn]
      rw [e73]
      by_cases c2 : b.1 = -1
      · rw [if_pos (by rw [zi_lt (by omega) (by omega) (by omega) (by omega)]; omega), if_pos (Or.inl c2)]
        exact ih n (k + 1) ((k : Int), dl s (pg s p 2) (ldN s p k)) (by omega) (by omega) ⟨by dsimp only; omega, by dsimp only; omega⟩ ⟨by dsimp only; omega, by dsimp only; omega⟩
      · rw [if_neg (by rw [zi_lt (by omega) (by omega) (by omega) (by omega)]; omega), show (10 : Int32) = zi 10 from rfl, zi_mod (by omega) (by omega) (by omega) (by omega), zi_div (by omega) (by omega) (by omega) (by omega), show (10 * yo (ldN s p k) + xo (ldN s p k)) % 10 = xo (ldN s p k) by omega, show (10 * yo (ldN s p k) + xo (ldN s p k)) / 10 = yo (ldN s p k) by omega, gi_zi (by omega) (by omega) (by omega), gi_zi (by omega) (by omega) (by omega), zi_clamp (by omega) (by omega), zi_clamp (by omega) (by omega), dv]
        by_cases c3 : dl s (pg s p 2) (ldN s p k) < b.2
        · rw [if_pos (by rw [zi_lt (by omega) (by omega) (by omega) (by omega)]; exact c3), if_pos (Or.inr c3)]
          exact ih n (k + 1) ((k : Int), dl s (pg s p 2) (ldN s p k)) (by omega) (by omega) ⟨by dsimp only; omega, by dsimp only; omega⟩ ⟨by dsimp only; omega, by dsimp only; omega⟩
        · rw [if_neg (by rw [zi_lt (by omega) (by omega) (by omega) (by omega)]; exact c3), if_neg (fun e => e.elim c2 c3)]
          exact ih n (k + 1) b (by omega) (by omega) h1 h2
theorem w_advised {np nb fu : Nat} (hfu : 100000 ≤ fu) {m : Mem} {s : Nat → Int} (h : WI np nb m s) {p : Nat} (hp : p < np) : KW_advised np nb fu (zi (p : Int)) m = some (zi (avS s p)) := by
  have h' := h
  obtain ⟨hS, hI, hsm, hbg, h7, h8⟩ := h'
  have e2 := hS.1.1
  have hpk := hI.2.2.2.1 p (by omega) (by omega)
  have hz := hI.1
  obtain ⟨⟨hw1, hw2⟩, hh1, hh2⟩ := hz
  obtain ⟨d, d1, d2⟩ := w_distances (np := np) (nb := nb) hfu hS.2.1 hI.1 hsm hI.2.2.1 (side := pg s p 2) hpk.2.1.1 hpk.2.1.2
  have e := w_av28 (np := np) (nb := nb) (fu := fu) hfu h hp (w := (s 0).toNat) (hh := (s 1).toNat) (by omega) (by omega) d2 4 5 0 (-1, 0) rfl (by omega) ⟨by decide, by decide⟩ ⟨by decide, by decide⟩
  have z1 : zi (-1) = (-1 : Int32) := rfl
  have z0 : zi 0 = (0 : Int32) := rfl
  have z00 : zi ((0 : Nat) : Int) = (0 : Int32) := rfl
  dsimp only at e
  rw [z1, z0, z00] at e
  unfold KW_advised
  rw [gi_zi (by omega) (by omega) (by omega), zi_clamp (by omega) (by omega), Int.toNat_natCast, (hS.2.2.2.1 p hp).2.2.1, d1, bd_s]
  dsimp only
  exact e
end MDD
