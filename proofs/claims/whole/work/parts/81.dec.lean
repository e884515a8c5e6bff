/-! the terms in their order -/
theorem kdec_at {k1 : Nat} (hk : 0 < k1) : ∀ w a, a ≤ w / k1 → kdec k1 (gprs k1 w + a) = (w, a)
  | 0, 0, _ => rfl
  | w + 1, 0, _ => by
    have ih := kdec_at hk w (w / k1) (Nat.le_refl _)
    have e : gprs k1 (w + 1) + 0 = (gprs k1 w + w / k1) + 1 := rfl
    rw [e, kdec, ih, if_neg]
    show ¬ k1 * (w / k1 + 1) ≤ w
    have h1 := Nat.div_add_mod w k1
    have h2 := Nat.mod_lt w hk
    rw [Nat.mul_add, Nat.mul_one]
    omega
  | w, a + 1, h => by
    have ih := kdec_at hk w a (by omega)
    rw [show gprs k1 w + (a + 1) = (gprs k1 w + a) + 1 from rfl, kdec, ih, if_pos]
    show k1 * (a + 1) ≤ w
    rw [Nat.mul_comm]
    exact (Nat.le_div_iff_mul_le hk).1 h
theorem gprs_mono {k1 : Nat} {v : Nat} : ∀ w, v ≤ w → gprs k1 v ≤ gprs k1 w
  | 0, h => by rw [show v = 0 by omega]; exact Nat.le_refl _
  | w + 1, h => by
    by_cases e : v = w + 1
    · rw [e]; exact Nat.le_refl _
    · have := gprs_mono (k1 := k1) w (show v ≤ w by omega)
      rw [gprs]
      generalize w / k1 = x
      omega
theorem gprs_in {k1 : Nat} : ∀ W b, b < gprs k1 W → ∃ w a, w < W ∧ a ≤ w / k1 ∧ b = gprs k1 w + a
  | 0, b, h => absurd h (Nat.not_lt_zero _)
  | W + 1, b, h => by
    by_cases hb : b < gprs k1 W
    · obtain ⟨w, a, h1, h2, h3⟩ := gprs_in W b hb
      exact ⟨w, a, by omega, h2, h3⟩
    · rw [gprs] at h
      exact ⟨W, b - gprs k1 W, by omega, by omega, by omega⟩
theorem jb_num : (List.range 121).all (fun c => (List.range 4).all (fun k1 => decide (k1 < 1) || (decide (c < gprs k1 (gbd c k1 + 1)) && decide (gbd c k1 / k1 + 1 ≤ 16)))) = true := by decide +kernel
theorem jb_ok {c k1 : Nat} (hc : c ≤ 120) (h1 : 1 ≤ k1) (h3 : k1 ≤ 3) : c < gprs k1 (gbd c k1 + 1) ∧ gbd c k1 / k1 + 1 ≤ 16 := by
  have h := List.all_eq_true.mp jb_num c (List.mem_range.mpr (by omega))
  have h := List.all_eq_true.mp h k1 (List.mem_range.mpr (by omega))
  rw [decide_eq_false (by omega), Bool.false_or, Bool.and_eq_true] at h
  exact ⟨of_decide_eq_true h.1, of_decide_eq_true h.2⟩
