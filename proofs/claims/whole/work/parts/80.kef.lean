/-! the class's conditions are the reference's -/
theorem and1 (i : Nat) : (i &&& 1 = 1) ↔ i % 2 = 1 := by rw [Nat.and_one_is_mod]
theorem and2 (i : Nat) : (i &&& 2 = 2) ↔ 2 ≤ i % 4 := by
  have h1 : i &&& 2 ≤ 2 := Nat.and_le_right
  have h2 : (i &&& 2) % 2 ^ 2 = (i % 2 ^ 2) &&& (2 % 2 ^ 2) := Nat.and_mod_two_pow
  rw [Nat.mod_eq_of_lt (show i &&& 2 < 2 ^ 2 by omega)] at h2
  rw [h2]
  have h3 : ∀ r, r < 4 → ((r &&& 2 = 2) ↔ 2 ≤ r) := by decide
  exact h3 (i % 4) (Nat.mod_lt _ (by decide))
theorem gcond_s {p x y i j u v : Nat} (hp : p ∈ grims) (hx : x < gq p) (hy : y < gq p) (hu : u < 3) : gcond p x y (i + 1) j u v = gmul p x (gcond p x y i j u v) ^^^ (if u = 0 then 0 else gcond p x y i j (u - 1) v) := by
  have hY := gpow_lt hp hy (j - v)
  have px := fun e => gpow_lt hp hx e
  have st : ∀ e, gmul p x (gmul p (gpow p x e) (gpow p y (j - v))) = gmul p (gpow p x (e + 1)) (gpow p y (j - v)) := fun e => by
    rw [← g_assoc hp hx (px e) hY, (g_two hp hx (px e)).2.1]
    rfl
  unfold gcond
  by_cases hB : j &&& v = v
  · have hu' : u = 0 ∨ u = 1 ∨ u = 2 := by omega
    rcases hu' with rfl | rfl | rfl
    · rw [if_pos ⟨Nat.and_zero _, hB⟩, if_pos ⟨Nat.and_zero _, hB⟩, if_pos rfl, Nat.xor_zero, Nat.sub_zero, Nat.sub_zero, st]
    · rw [if_neg (by decide : ¬ (1 : Nat) = 0)]
      by_cases hi : i % 2 = 1
      · rw [if_neg (fun q => by have := (and1 (i + 1)).1 q.1; omega), if_pos ⟨(and1 i).2 hi, hB⟩, if_pos ⟨Nat.and_zero _, hB⟩, st, show i - 1 + 1 = i - (1 - 1) by omega, Nat.xor_self]
      · rw [if_pos ⟨(and1 (i + 1)).2 (by omega), hB⟩, if_neg (fun q => hi ((and1 i).1 q.1)), if_pos ⟨Nat.and_zero _, hB⟩, g_zr hp hx, Nat.zero_xor, show i + 1 - 1 = i - (1 - 1) by omega]
    · rw [if_neg (by decide : ¬ (2 : Nat) = 0)]
      have h4 : i % 4 = 0 ∨ i % 4 = 1 ∨ i % 4 = 2 ∨ i % 4 = 3 := by omega
      rcases h4 with h | h | h | h
      · rw [if_neg (fun q => by have := (and2 (i + 1)).1 q.1; omega), if_neg (fun q => by have := (and2 i).1 q.1; omega), if_neg (fun q => by have := (and1 i).1 q.1; omega), g_zr hp hx]; rfl
      · rw [if_pos ⟨(and2 (i + 1)).2 (by omega), hB⟩, if_neg (fun q => by have := (and2 i).1 q.1; omega), if_pos ⟨(and1 i).2 (by omega), hB⟩, g_zr hp hx, Nat.zero_xor, show i + 1 - 2 = i - (2 - 1) by omega]
      · rw [if_pos ⟨(and2 (i + 1)).2 (by omega), hB⟩, if_pos ⟨(and2 i).2 (by omega), hB⟩, if_neg (fun q => by have := (and1 i).1 q.1; omega), st, Nat.xor_zero, show i + 1 - 2 = i - 2 + 1 by omega]
      · rw [if_neg (fun q => by have := (and2 (i + 1)).1 q.1; omega), if_pos ⟨(and2 i).2 (by omega), hB⟩, if_pos ⟨(and1 i).2 (by omega), hB⟩, st, show i - 2 + 1 = i - (2 - 1) by omega, Nat.xor_self]
  · rw [if_neg (show ¬ (i + 1 &&& u = u ∧ j &&& v = v) from fun q => hB q.2), if_neg (show ¬ (i &&& u = u ∧ j &&& v = v) from fun q => hB q.2), if_neg (show ¬ (i &&& (u - 1) = u - 1 ∧ j &&& v = v) from fun q => hB q.2), g_zr hp hx]
    split <;> rfl
theorem kE_c {p s : Nat} {xs ys : Nat → Nat} (hp : p ∈ grims) (hs1 : 1 ≤ s) (hs3 : s ≤ 3) (hx : ∀ o, xs o < gq p) (hy : ∀ o, ys o < gq p) (j : Nat) : ∀ i t, kE p xs ys s i j t = gcond p (xs (t / kblk s)) (ys (t / kblk s)) i j (ku s (t % kblk s)) (kv s (t % kblk s))
  | 0, t => by
    rw [kE]
    unfold kval gcond
    by_cases h : ku s (t % kblk s) = 0 ∧ kbit (kv s (t % kblk s)) j = true
    · have hb : j &&& kv s (t % kblk s) = kv s (t % kblk s) := by
        have := h.2
        unfold kbit at this
        rw [Nat.and_comm]
        exact eq_of_beq this
      rw [if_pos h, if_pos ⟨by rw [h.1]; rfl, hb⟩, h.1, Nat.sub_zero, show gpow p (xs (t / kblk s)) 0 = 1 from rfl, (g_one hp (gpow_lt hp (hy _) _)).2.2.1]
    · rw [if_neg h, if_neg (fun q => h ⟨?_, ?_⟩)]
      · rw [← q.1, Nat.zero_and]
      · unfold kbit
        rw [Nat.and_comm, q.2, beq_self_eq_true]
  | i + 1, t => by
    obtain ⟨-, kb6, kb1, -⟩ := kof_end s (by omega) hs1
    have hr := Nat.mod_lt t (show kblk s > 0 by omega)
    obtain ⟨v1, v2, v3, v4⟩ := kvu_ok s (by omega) (t % kblk s) hr
    rw [kE, kE_c hp hs1 hs3 hx hy j i t, gcond_s hp (hx _) (hy _) (by omega)]
    congr 1
    by_cases hu : ku s (t % kblk s) = 0
    · rw [if_pos hu, if_pos hu]
    · rw [if_neg hu, if_neg hu, kE_c hp hs1 hs3 hx hy j i (t - 1)]
      obtain ⟨w1, w2, w3⟩ := v4 hu
      have hd := Nat.div_add_mod t (kblk s)
      have e : t - 1 = kblk s * (t / kblk s) + (t % kblk s - 1) := by omega
      have e1 : (t - 1) / kblk s = t / kblk s := by rw [e, Nat.mul_add_div (by omega), Nat.div_eq_of_lt (show t % kblk s - 1 < kblk s by omega), Nat.add_zero]
      have e2 : (t - 1) % kblk s = t % kblk s - 1 := by rw [e, Nat.mul_add_mod, Nat.mod_eq_of_lt (by omega)]
      rw [e1, e2, w2, w3]
