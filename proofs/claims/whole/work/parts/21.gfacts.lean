/-! what the tables of a field say, one by one -/
theorem gp_b : ∀ p, p < 64 → 8 ≤ p → 3 ≤ gdeg p ∧ gdeg p ≤ 5 ∧ 8 ≤ gq p ∧ gq p ≤ 32 ∧ gq p ≤ p ∧ p < 2 * gq p := by decide
theorem gr_b : ∀ p ∈ grims, 8 ≤ p ∧ p < 64 := by decide
theorem gckp {p : Nat} (hp : p ∈ grims) : gck p = true := List.all_eq_true.mp gck_all p hp
theorem gq_b {p : Nat} (hp : p ∈ grims) : 8 ≤ gq p ∧ gq p ≤ 32 ∧ 3 ≤ gdeg p ∧ gdeg p ≤ 5 := by
  have h := gp_b p (gr_b p hp).2 (gr_b p hp).1
  omega
theorem g_one {p a : Nat} (hp : p ∈ grims) (ha : a < gq p) : gtx p a < gq p ∧ gmul p 0 a = 0 ∧ gmul p 1 a = a ∧ gmul p a 2 = gtx p a := by
  have h := gckp hp
  unfold gck at h
  simp only [Bool.and_eq_true, List.all_eq_true, List.mem_range, decide_eq_true_eq, beq_iff_eq] at h
  obtain ⟨⟨⟨⟨⟨h1, h2⟩, h3⟩, h4⟩, -⟩, -⟩ := h.1.1 a ha
  exact ⟨h1, h2, h3, h4⟩
theorem g_inv {p a : Nat} (hp : p ∈ grims) (ha : a < gq p) (h0 : a ≠ 0) : gpw p (glog p a) = a ∧ glog p a < gq p - 1 ∧ gmul p a (ginv p a) = 1 ∧ ginv p a < gq p ∧ 0 < ginv p a := by
  have h := gckp hp
  unfold gck at h
  simp only [Bool.and_eq_true, Bool.or_eq_true, List.all_eq_true, List.mem_range, decide_eq_true_eq, beq_iff_eq] at h
  obtain ⟨⟨-, h5⟩, -⟩ := h.1.1 a ha
  rcases h5 with h5 | ⟨⟨⟨⟨h5, h6⟩, h7⟩, h8⟩, h9⟩
  · exact absurd h5 h0
  · exact ⟨h5, h6, h7, h8, h9⟩
theorem g_two {p a b : Nat} (hp : p ∈ grims) (ha : a < gq p) (hb : b < gq p) : gmul p a b < gq p ∧ gmul p a b = gmul p b a ∧ gtx p (a ^^^ b) = gtx p a ^^^ gtx p b ∧ a ^^^ b < gq p := by
  have h := gckp hp
  unfold gck at h
  simp only [Bool.and_eq_true, Bool.or_eq_true, List.all_eq_true, List.mem_range, decide_eq_true_eq, beq_iff_eq] at h
  obtain ⟨-, h2⟩ := h.1.1 a ha
  obtain ⟨⟨⟨⟨⟨h3, h4⟩, h5⟩, h6⟩, -⟩, -⟩ := h2 b hb
  exact ⟨h3, h4, h5, h6⟩
theorem g_mullog {p a b : Nat} (hp : p ∈ grims) (ha : a < gq p) (hb : b < gq p) (ha0 : a ≠ 0) (hb0 : b ≠ 0) : gmul p a b = gpw p ((glog p a + glog p b) % (gq p - 1)) ∧ 0 < gmul p a b := by
  have h := gckp hp
  unfold gck at h
  simp only [Bool.and_eq_true, Bool.or_eq_true, List.all_eq_true, List.mem_range, decide_eq_true_eq, beq_iff_eq] at h
  obtain ⟨-, h2⟩ := h.1.1 a ha
  obtain ⟨⟨-, h3⟩, -⟩ := h2 b hb
  rcases h3 with (h3 | h3) | h3
  · exact absurd h3 ha0
  · exact absurd h3 hb0
  · exact h3
theorem g_multx {p a b : Nat} (hp : p ∈ grims) (ha : a < gq p) (hb : b < gq p) (ha0 : a ≠ 0) : gmul p a b = gtxs p (glog p a) b := by
  have h := gckp hp
  unfold gck at h
  simp only [Bool.and_eq_true, Bool.or_eq_true, List.all_eq_true, List.mem_range, decide_eq_true_eq, beq_iff_eq] at h
  obtain ⟨-, h2⟩ := h.1.1 a ha
  obtain ⟨-, h3⟩ := h2 b hb
  exact h3.resolve_left ha0
theorem g_pw {p e : Nat} (hp : p ∈ grims) (he : e < gq p - 1) : 0 < gpw p e ∧ gpw p e < gq p ∧ glog p (gpw p e) = e := by
  have h := gckp hp
  unfold gck at h
  simp only [Bool.and_eq_true, Bool.or_eq_true, List.all_eq_true, List.mem_range, decide_eq_true_eq, beq_iff_eq] at h
  obtain ⟨⟨h3, h4⟩, h5⟩ := h.1.2 e he
  exact ⟨h3, h4, h5⟩
theorem g_pwN {p : Nat} (hp : p ∈ grims) : gpw p (gq p - 1) = 1 := by
  have h := gckp hp
  unfold gck at h
  simp only [Bool.and_eq_true, Bool.or_eq_true, List.all_eq_true, List.mem_range, decide_eq_true_eq, beq_iff_eq] at h
  exact h.2
theorem g_tx_lt {p a : Nat} (h8 : 8 ≤ p) (hp : p < 64) (ha : a < gq p) : gtx p a < gq p := by
  have h := gp_b p hp h8
  unfold gtx
  split
  · assumption
  · have hd : gq p = 2 ^ gdeg p := rfl
    have h1 : 2 * a < 2 ^ (gdeg p + 1) := by rw [Nat.pow_succ]; omega
    have h2 : p < 2 ^ (gdeg p + 1) := by rw [Nat.pow_succ]; omega
    have t1 : (2 * a).testBit (gdeg p) = true := by
      rw [Nat.testBit_eq_decide_div_mod_eq]
      have : 2 * a / 2 ^ gdeg p = 1 := by
        apply Nat.div_eq_of_lt_le <;> omega
      rw [this]
      decide
    have t2 : p.testBit (gdeg p) = true := by
      rw [Nat.testBit_eq_decide_div_mod_eq]
      have : p / 2 ^ gdeg p = 1 := by
        apply Nat.div_eq_of_lt_le <;> omega
      rw [this]
      decide
    rw [hd]
    apply Nat.lt_pow_two_of_testBit
    intro i hi
    rw [Nat.testBit_xor]
    rcases Nat.lt_or_ge (gdeg p) i with h3 | h3
    · rw [Nat.testBit_lt_two_pow (Nat.lt_of_lt_of_le h1 (Nat.pow_le_pow_right (by decide) h3)), Nat.testBit_lt_two_pow (Nat.lt_of_lt_of_le h2 (Nat.pow_le_pow_right (by decide) h3))]
      rfl
    · have e : i = gdeg p := by omega
      rw [e, t1, t2]
      rfl
