/-! the field's laws -/
theorem g_assoc {p a b c : Nat} (hp : p ∈ grims) (ha : a < gq p) (hb : b < gq p) (hc : c < gq p) : gmul p (gmul p a b) c = gmul p a (gmul p b c) := by
  have hq := gq_b hp
  have hab := (g_two hp ha hb).1
  have hbc := (g_two hp hb hc).1
  have x0 : ∀ x, x < gq p → gmul p x 0 = 0 := fun x hx => by rw [(g_two hp hx (by omega)).2.1, (g_one hp hx).2.1]
  by_cases a0 : a = 0
  · subst a0
    rw [(g_one hp hb).2.1, (g_one hp hc).2.1, (g_one hp hbc).2.1]
  · by_cases b0 : b = 0
    · subst b0
      rw [x0 a ha, (g_one hp hc).2.1, x0 a ha]
    · by_cases c0 : c = 0
      · subst c0
        rw [x0 _ hab, x0 b hb, x0 a ha]
      · obtain ⟨e1, p1⟩ := g_mullog hp ha hb a0 b0
        obtain ⟨e2, p2⟩ := g_mullog hp hb hc b0 c0
        have N0 : 0 < gq p - 1 := by omega
        rw [(g_mullog hp hab hc (by omega) c0).1, (g_mullog hp ha hbc a0 (by omega)).1, e1, e2, (g_pw hp (Nat.mod_lt _ N0)).2.2, (g_pw hp (Nat.mod_lt _ N0)).2.2]
        congr 1
        rw [Nat.mod_add_mod, Nat.add_mod_mod, Nat.add_assoc]
theorem gtxs_lt {p b : Nat} (hp : p ∈ grims) (hb : b < gq p) : ∀ e, gtxs p e b < gq p
  | 0 => hb
  | e + 1 => (g_one hp (gtxs_lt hp hb e)).1
theorem gtxs_xor {p b c : Nat} (hp : p ∈ grims) (hb : b < gq p) (hc : c < gq p) : ∀ e, gtxs p e (b ^^^ c) = gtxs p e b ^^^ gtxs p e c
  | 0 => rfl
  | e + 1 => by
    rw [gtxs, gtxs, gtxs, gtxs_xor hp hb hc e, (g_two hp (gtxs_lt hp hb e) (gtxs_lt hp hc e)).2.2.1]
theorem g_distr {p a b c : Nat} (hp : p ∈ grims) (ha : a < gq p) (hb : b < gq p) (hc : c < gq p) : gmul p a (b ^^^ c) = gmul p a b ^^^ gmul p a c := by
  have hbc := (g_two hp hb hc).2.2.2
  by_cases a0 : a = 0
  · subst a0
    rw [(g_one hp hbc).2.1, (g_one hp hb).2.1, (g_one hp hc).2.1]
    rfl
  · rw [g_multx hp ha hbc a0, g_multx hp ha hb a0, g_multx hp ha hc a0, gtxs_xor hp hb hc]
theorem g_distl {p a b c : Nat} (hp : p ∈ grims) (ha : a < gq p) (hb : b < gq p) (hc : c < gq p) : gmul p (a ^^^ b) c = gmul p a c ^^^ gmul p b c := by
  rw [(g_two hp (g_two hp ha hb).2.2.2 hc).2.1, g_distr hp hc ha hb, (g_two hp hc ha).2.1, (g_two hp hc hb).2.1]
theorem g_zr {p a : Nat} (hp : p ∈ grims) (ha : a < gq p) : gmul p a 0 = 0 := by
  have := gq_b hp
  rw [(g_two hp ha (by omega)).2.1, (g_one hp ha).2.1]
theorem g_1r {p a : Nat} (hp : p ∈ grims) (ha : a < gq p) : gmul p a 1 = a := by
  have := gq_b hp
  rw [(g_two hp ha (by omega)).2.1, (g_one hp ha).2.2.1]
theorem g_divmul {p a b : Nat} (hp : p ∈ grims) (ha : a < gq p) (hb : b < gq p) (b0 : b ≠ 0) : gmul p (gdiv p a b) b = a := by
  obtain ⟨-, -, h3, h4, -⟩ := g_inv hp hb b0
  unfold gdiv
  rw [g_assoc hp ha h4 hb, (g_two hp h4 hb).2.1, h3, g_1r hp ha]
theorem g_muldiv {p a b : Nat} (hp : p ∈ grims) (ha : a < gq p) (hb : b < gq p) (b0 : b ≠ 0) : gdiv p (gmul p a b) b = a := by
  obtain ⟨-, -, h3, h4, -⟩ := g_inv hp hb b0
  unfold gdiv
  rw [g_assoc hp ha hb h4, h3, g_1r hp ha]
theorem g_mul0 {p a b : Nat} (hp : p ∈ grims) (ha : a < gq p) (hb : b < gq p) (h : gmul p a b = 0) : a = 0 ∨ b = 0 := by
  by_cases a0 : a = 0
  · exact Or.inl a0
  · by_cases b0 : b = 0
    · exact Or.inr b0
    · have := (g_mullog hp ha hb a0 b0).2
      omega
/-! counting -/
def gcnt (f : Nat → Bool) : Nat → Nat
  | 0 => 0
  | i + 1 => gcnt f i + (if f i = true then 1 else 0)
theorem gcnt_le (f : Nat → Bool) : ∀ n, gcnt f n ≤ n
  | 0 => Nat.le_refl _
  | n + 1 => by
    have := gcnt_le f n
    rw [gcnt]
    split <;> omega
theorem gcnt_congr {f g : Nat → Bool} : ∀ n, (∀ i, i < n → f i = g i) → gcnt f n = gcnt g n
  | 0, _ => rfl
  | n + 1, h => by rw [gcnt, gcnt, gcnt_congr n (fun i hi => h i (by omega)), h n (by omega)]
theorem gcnt_add {f g h : Nat → Bool} : ∀ n, (∀ i, i < n → h i = (f i || g i) ∧ (f i && g i) = false) → gcnt h n = gcnt f n + gcnt g n
  | 0, _ => rfl
  | n + 1, hh => by
    rw [gcnt, gcnt, gcnt, gcnt_add n (fun i hi => hh i (by omega))]
    obtain ⟨h1, h2⟩ := hh n (by omega)
    rw [h1]
    cases hf : f n <;> cases hg : g n <;> simp [hf, hg] at h2 ⊢ <;> omega
