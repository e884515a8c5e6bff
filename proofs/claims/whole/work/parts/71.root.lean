/-! a polynomial has no more roots than its degree -/
theorem x5 (h g a b e : Nat) : ((h ^^^ g) ^^^ a) ^^^ (a ^^^ e) = (h ^^^ (g ^^^ (b ^^^ e))) ^^^ b := by
  refine Nat.eq_of_testBit_eq (fun i => ?_)
  simp only [Nat.testBit_xor]
  cases h.testBit i <;> cases g.testBit i <;> cases a.testBit i <;> cases b.testBit i <;> cases e.testBit i <;> rfl
theorem xor_ne {a b : Nat} (h : a ≠ b) : a ^^^ b ≠ 0 := fun q => h (by
  have e : (a ^^^ b) ^^^ b = a := by rw [Nat.xor_assoc, Nat.xor_self, Nat.xor_zero]
  rw [← e, q, Nat.zero_xor])
theorem g_mz {p a b : Nat} (hp : p ∈ grims) (ha : a < gq p) (hb : b < gq p) (a0 : a ≠ 0) (h : gmul p a b = 0) : b = 0 := by
  by_cases b0 : b = 0
  · exact b0
  · have := (g_mullog hp ha hb a0 b0).2
    omega
theorem g_roots {p : Nat} (hp : p ∈ grims) : ∀ (k : Nat) (c xs : Nat → Nat), (∀ i, c i < gq p) → (∀ i, i < k → xs i < gq p) → (∀ i j, i < k → j < k → xs i = xs j → i = j) → (∀ i, i < k → gsum p c (gpow p (xs i)) k = 0) → ∀ j, j < k → c j = 0
  | 0, _, _, _, _, _, _, j, hj => absurd hj (Nat.not_lt_zero _)
  | k + 1, c, xs, hc, hx, hi, h0, j, hj => by
    have hr := hx k (by omega)
    obtain ⟨H, hH⟩ : ∃ H : Nat → Nat, ∀ j, H j = gsum p (fun i => c (j + i)) (gpow p (xs k)) (k + 1 - j) := ⟨_, fun _ => rfl⟩
    have hl : ∀ j, H j < gq p := fun j => by rw [hH]; exact gsum_lt hp _ (fun i _ => ⟨hc _, gpow_lt hp hr i⟩)
    have hs : ∀ j, j ≤ k → H j = gmul p (H (j + 1)) (xs k) ^^^ c j := fun j hj => by
      have e := hor (d := c) hp hr hc j (k - j)
      rw [hH, hH, show k + 1 - j = (k - j) + 1 by omega, show k + 1 - (j + 1) = k - j by omega]
      exact e
    have hz : H (k + 1) = 0 := by rw [hH, Nat.sub_self]; rfl
    have h00 : H 0 = 0 := by
      rw [hH, Nat.sub_zero]
      exact (gsum_congr (k + 1) (fun i _ => ⟨by rw [Nat.zero_add], rfl⟩)).trans (h0 k (by omega))
    have key : ∀ x, x < gq p → ∀ m, m ≤ k + 1 → gsum p c (gpow p x) m = (H 0 ^^^ gmul p (x ^^^ xs k) (gsum p (fun j => H (j + 1)) (gpow p x) m)) ^^^ gmul p (H m) (gpow p x m) := by
      intro x hx m
      have hxr := (g_two hp hx hr).2.2.2
      induction m with
      | zero =>
        intro _
        show 0 = (H 0 ^^^ gmul p (x ^^^ xs k) 0) ^^^ gmul p (H 0) 1
        rw [g_zr hp hxr, g_1r hp (hl 0), Nat.xor_zero, Nat.xor_self]
      | succ m ih =>
        intro hm
        have pm := gpow_lt hp hx m
        have G := gsum_lt (f := fun j => H (j + 1)) (A := gpow p x) hp m (fun i _ => ⟨hl _, gpow_lt hp hx i⟩)
        have hp1 := (g_two hp (hl (m + 1)) pm).1
        have cm : c m = H m ^^^ gmul p (H (m + 1)) (xs k) := by
          have e := hs m (by omega)
          rw [e, Nat.xor_comm (gmul p (H (m + 1)) (xs k)) (c m), Nat.xor_assoc, Nat.xor_self, Nat.xor_zero]
        rw [gsum, gsum, ih (by omega)]
        have e1 : gmul p (c m) (gpow p x m) = gmul p (H m) (gpow p x m) ^^^ gmul p (xs k) (gmul p (H (m + 1)) (gpow p x m)) := by
          rw [cm, g_distl hp (hl m) (g_two hp (hl (m + 1)) hr).1 pm, (g_two hp (hl (m + 1)) hr).2.1, g_assoc hp hr (hl (m + 1)) pm]
        have e2 : gmul p (H (m + 1)) (gpow p x (m + 1)) = gmul p x (gmul p (H (m + 1)) (gpow p x m)) := by
          rw [show gpow p x (m + 1) = gmul p (gpow p x m) x from rfl, ← g_assoc hp (hl (m + 1)) pm hx, (g_two hp hp1 hx).2.1]
        rw [e1, e2, g_distr hp hxr G hp1, g_distl hp hx hr hp1]
        exact x5 _ _ _ _ _
    have ih := g_roots hp k (fun j => H (j + 1)) xs (fun j => hl _) (fun i hi => hx i (by omega)) (fun i j h1 h2 => hi i j (by omega) (by omega)) (fun i hik => by
      have e := key (xs i) (hx i (by omega)) (k + 1) (Nat.le_refl _)
      have hxi := hx i (by omega)
      rw [h0 i (by omega), h00, hz, (g_one hp (gpow_lt hp hxi (k + 1))).2.1, Nat.xor_zero, Nat.zero_xor, gsum, hz, (g_one hp (gpow_lt hp hxi k)).2.1, Nat.xor_zero] at e
      refine g_mz hp (g_two hp hxi hr).2.2.2 (gsum_lt hp k (fun j _ => ⟨hl _, gpow_lt hp hxi j⟩)) (xor_ne (fun q => ?_)) e.symm
      have := hi i k (by omega) (by omega) q
      omega)
    have hall : ∀ j, j ≤ k + 1 → H j = 0 := fun j hj => by
      by_cases e : j = k + 1
      · rw [e]; exact hz
      · cases j with
        | zero => exact h00
        | succ j => exact ih j (by omega)
    have e := hs j (by omega)
    rw [hall j (by omega), hall (j + 1) (by omega), (g_one hp hr).2.1, Nat.zero_xor] at e
    exact e.symm
