/-! the weight is the same on both sides -/
theorem lmn_wt (b : Nat) (wt : Nat → Nat) {j : Nat} : ∀ P, j < P → lmn b wt P ≤ wt j
  | 0, h => absurd h (Nat.not_lt_zero _)
  | P + 1, h => by
    rw [lmn]
    by_cases e : j = P
    · rw [e]
      split <;> omega
    · have := lmn_wt b wt P (show j < P by omega)
      split <;> omega
theorem lmn_or (b : Nat) (wt : Nat → Nat) : ∀ P, lmn b wt P = b ∨ ∃ j, j < P ∧ lmn b wt P = wt j
  | 0 => Or.inl rfl
  | P + 1 => by
    rw [lmn]
    split
    · exact Or.inr ⟨P, by omega, rfl⟩
    · rcases lmn_or b wt P with h | ⟨j, h1, h2⟩
      · exact Or.inl h
      · exact Or.inr ⟨j, by omega, h2⟩
theorem kdec_ok {k1 : Nat} : ∀ b, k1 * (kdec k1 b).2 ≤ (kdec k1 b).1
  | 0 => by rw [kdec, Nat.mul_zero]; exact Nat.le_refl _
  | b + 1 => by
    rw [kdec]
    by_cases h : k1 * ((kdec k1 b).2 + 1) ≤ (kdec k1 b).1
    · rw [if_pos h]; exact h
    · rw [if_neg h, Nat.mul_zero]; exact Nat.zero_le _
theorem kperm {p s S o : Nat} {xs ys : Nat → Nat} (hp : p ∈ grims) (hs1 : 1 ≤ s) (hs3 : s ≤ 3) (hx : ∀ o, xs o < gq p) (hy : ∀ o, ys o < gq p) (hS : S = o * kblk s) {t : Nat} (ht : t < S) : ∃ t', t' < S ∧ ∀ i j, gterm p xs ys s i j t' = kE p xs ys s i j t ∧ kE p xs ys s i j t' = gterm p xs ys s i j t := by
  obtain ⟨-, kb6, kb1, -⟩ := kof_end s (by omega) hs1
  have hr := Nat.mod_lt t (show kblk s > 0 by omega)
  obtain ⟨v1, v2, -, -⟩ := kvu_ok s (by omega) (t % kblk s) hr
  obtain ⟨w1, w2, w3, -⟩ := (kof_ok s (by omega) (ku s (t % kblk s)) (by omega)).1 (kv s (t % kblk s)) (by omega)
  have e1 : (kblk s * (t / kblk s) + kof s (ku s (t % kblk s)) (kv s (t % kblk s))) / kblk s = t / kblk s := by rw [Nat.mul_add_div (by omega), Nat.div_eq_of_lt w1, Nat.add_zero]
  have e2 : (kblk s * (t / kblk s) + kof s (ku s (t % kblk s)) (kv s (t % kblk s))) % kblk s = kof s (ku s (t % kblk s)) (kv s (t % kblk s)) := by rw [Nat.mul_add_mod, Nat.mod_eq_of_lt w1]
  refine ⟨kblk s * (t / kblk s) + kof s (ku s (t % kblk s)) (kv s (t % kblk s)), ?_, fun i j => ⟨?_, ?_⟩⟩
  · have hq : t / kblk s < o := Nat.div_lt_of_lt_mul (by rw [Nat.mul_comm, ← hS]; exact ht)
    have h1 := Nat.mul_le_mul_left (kblk s) (show t / kblk s + 1 ≤ o from hq)
    rw [Nat.mul_add, Nat.mul_one] at h1
    rw [hS, Nat.mul_comm o]
    omega
  · rw [kE_c hp hs1 hs3 hx hy]
    unfold gterm
    rw [e1, e2, w2, w3]
  · rw [kE_c hp hs1 hs3 hx hy]
    unfold gterm
    rw [e1, e2, w2, w3]
