/-! two codewords that agree in k places are one -/
theorem gcnt_pos {f : Nat → Bool} : ∀ n, 0 < gcnt f n → ∃ i, i < n ∧ f i = true
  | 0, h => absurd h (Nat.lt_irrefl _)
  | n + 1, h => by
    cases hf : f n with
    | true => exact ⟨n, by omega, hf⟩
    | false =>
      rw [gcnt, hf] at h
      obtain ⟨i, h1, h2⟩ := gcnt_pos n h
      exact ⟨i, by omega, h2⟩
theorem gcnt_sub {f g : Nat → Bool} : ∀ n, (∀ i, i < n → g i = true → f i = true) → gcnt g n ≤ gcnt f n
  | 0, _ => Nat.le_refl _
  | n + 1, h => by
    have ih := gcnt_sub n (fun i hi => h i (by omega))
    rw [gcnt, gcnt]
    cases hg : g n with
    | true => rw [h n (by omega) hg]; omega
    | false =>
      rw [if_neg (by decide)]
      omega
theorem gcnt_less {f g : Nat → Bool} {s : Nat} : ∀ n, s < n → f s = true → g s = false → (∀ i, i < n → g i = true → f i = true) → gcnt g n + 1 ≤ gcnt f n
  | 0, hs, _, _, _ => absurd hs (Nat.not_lt_zero _)
  | n + 1, hs, h1, h2, h => by
    rw [gcnt, gcnt]
    by_cases e : s = n
    · have := gcnt_sub n (fun i hi => h i (by omega))
      rw [← e, h1, h2, if_pos rfl, if_neg (by decide)]
      rw [← e] at this
      omega
    · have ih := gcnt_less n (by omega) h1 h2 (fun i hi => h i (by omega))
      cases hg : g n with
      | true => rw [h n (by omega) hg]; omega
      | false =>
        rw [if_neg (by decide)]
        omega
theorem gcnt_enum {f : Nat → Bool} : ∀ n k, k ≤ gcnt f n → ∃ xs : Nat → Nat, ∀ a, a < k → xs a < n ∧ f (xs a) = true ∧ ∀ b, b < a → xs b < xs a
  | _, 0, _ => ⟨fun _ => 0, fun a ha => absurd ha (Nat.not_lt_zero _)⟩
  | 0, k + 1, h => absurd h (Nat.not_succ_le_zero _)
  | n + 1, k + 1, h => by
    rw [gcnt] at h
    cases hf : f n with
    | true =>
      rw [hf, if_pos rfl] at h
      obtain ⟨xs, hx⟩ := gcnt_enum (f := f) n k (by omega)
      refine ⟨fun a => if a = k then n else xs a, fun a ha => ?_⟩
      show (if a = k then n else xs a) < n + 1 ∧ f (if a = k then n else xs a) = true ∧ ∀ b, b < a → (if b = k then n else xs b) < (if a = k then n else xs a)
      by_cases e : a = k
      · rw [if_pos e]
        refine ⟨by omega, hf, fun b hb => ?_⟩
        rw [if_neg (by omega)]
        exact (hx b (by omega)).1
      · rw [if_neg e]
        obtain ⟨h1, h2, h3⟩ := hx a (by omega)
        refine ⟨by omega, h2, fun b hb => ?_⟩
        rw [if_neg (by omega)]
        exact h3 b hb
    | false =>
      rw [hf, if_neg (by decide), Nat.add_zero] at h
      obtain ⟨xs, hx⟩ := gcnt_enum (f := f) n (k + 1) h
      exact ⟨xs, fun a ha => ⟨by have := (hx a ha).1; omega, (hx a ha).2⟩⟩
/-- few places cannot meet as many power sums -/
theorem g_vand {p n : Nat} (hp : p ∈ grims) {xs : Nat → Nat} (hx : ∀ i, i < n → xs i < gq p) (hi : ∀ i j, i < n → j < n → xs i = xs j → i = j) : ∀ (m : Nat) (e : Nat → Nat), (∀ i, e i < gq p) → gcnt (fun i => e i != 0) n ≤ m → (∀ j, j < m → gsum p e (fun i => gpow p (xs i) j) n = 0) → ∀ i, i < n → e i = 0 := by
  intro m
  have hq := gq_b hp
  induction m with
  | zero =>
    intro e he hcnt _ i hin
    by_cases h0 : e i = 0
    · exact h0
    · have := gcnt_less (f := fun i => e i != 0) (g := fun _ => false) (s := i) n hin (by show (e i != 0) = true; rw [bne_iff_ne]; exact h0) rfl (fun _ _ q => by cases q)
      omega
  | succ m ih =>
    intro e he hcnt hS i hin
    by_cases hz : ∃ s, s < n ∧ e s ≠ 0
    · obtain ⟨s, hs, es⟩ := hz
      have hxs := hx s hs
      have ih := ih (fun i => if i < n then gmul p (e i) (xs i ^^^ xs s) else 0) (fun i => by
        show (if i < n then gmul p (e i) (xs i ^^^ xs s) else 0) < gq p
        split
        · rename_i hi'
          exact (g_two hp (he i) (g_two hp (hx i hi') hxs).2.2.2).1
        · omega) (by
        have := gcnt_less (f := fun i => e i != 0) (g := fun i => (if i < n then gmul p (e i) (xs i ^^^ xs s) else 0) != 0) (s := s) n hs (by show (e s != 0) = true; rw [bne_iff_ne]; exact es) (by
          show ((if s < n then gmul p (e s) (xs s ^^^ xs s) else 0) != 0) = false
          rw [if_pos hs, Nat.xor_self, g_zr hp (he s)]; rfl) (fun i hi' q => by
          show (e i != 0) = true
          rw [bne_iff_ne]
          intro e0
          have q' : ((if i < n then gmul p (e i) (xs i ^^^ xs s) else 0) != 0) = true := q
          rw [if_pos hi', e0, (g_one hp (g_two hp (hx i hi') hxs).2.2.2).2.1] at q'
          cases q')
        omega) (fun j hj => by
        have e1 := hS j (by omega)
        have e2 := hS (j + 1) (by omega)
        have l := gsum_rlin (z := xs s) (f := e) (a := fun i => if i < n then gpow p (xs i) (j + 1) else 0) (b := fun i => if i < n then gpow p (xs i) j else 0) hp hxs n (fun r hr => ⟨he r, by
          show (if r < n then gpow p (xs r) (j + 1) else 0) < gq p
          rw [if_pos hr]; exact gpow_lt hp (hx r hr) _, by
          show (if r < n then gpow p (xs r) j else 0) < gq p
          rw [if_pos hr]; exact gpow_lt hp (hx r hr) _⟩)
        have c1 : gsum p e (fun i => if i < n then gpow p (xs i) (j + 1) else 0) n = 0 := by
          rw [← e2]; exact gsum_congr n (fun i hi' => ⟨rfl, by rw [if_pos hi']⟩)
        have c2 : gsum p e (fun i => if i < n then gpow p (xs i) j else 0) n = 0 := by
          rw [← e1]; exact gsum_congr n (fun i hi' => ⟨rfl, by rw [if_pos hi']⟩)
        rw [c1, c2, (g_one hp hxs).2.1, Nat.xor_zero] at l
        have gen : ∀ m', m' ≤ n → gsum p (fun i => if i < n then gmul p (e i) (xs i ^^^ xs s) else 0) (fun i => gpow p (xs i) j) m' = gsum p e (fun i => (if i < n then gpow p (xs i) (j + 1) else 0) ^^^ gmul p (if i < n then gpow p (xs i) j else 0) (xs s)) m' := by
          intro m'
          induction m' with
          | zero => intro _; rfl
          | succ m' ihm =>
            intro hm'
            have hxm := hx m' (by omega)
            have pm := gpow_lt hp hxm j
            have hxx := (g_two hp hxm hxs).2.2.2
            rw [gsum, gsum, ihm (by omega), if_pos (by omega), if_pos (by omega), if_pos (by omega)]
            congr 1
            rw [show gpow p (xs m') (j + 1) = gmul p (gpow p (xs m') j) (xs m') from rfl, ← g_distr hp pm hxm hxs, g_assoc hp (he m') hxx pm, (g_two hp hxx pm).2.1]
        exact (gen n (Nat.le_refl _)).trans l)
      have zs : ∀ i, i < n → i ≠ s → e i = 0 := fun i hi' hne => by
        have q := ih i hi'
        replace q : (if i < n then gmul p (e i) (xs i ^^^ xs s) else 0) = 0 := q
        have hxx := (g_two hp (hx i hi') hxs).2.2.2
        rw [if_pos hi', (g_two hp (he i) hxx).2.1] at q
        exact g_mz hp hxx (he i) (xor_ne (fun r => hne (hi i s hi' hs r))) q
      have e0 := hS 0 (by omega)
      rw [gsum_one (j := s) hp n hs (fun x hx' => ⟨he x, gpow_lt hp (hx x hx') 0⟩) (fun x hx' hne => Or.inl (zs x hx' hne)), show gpow p (xs s) 0 = 1 from rfl, g_1r hp (he s)] at e0
      exact absurd e0 es
    · by_cases h0 : e i = 0
      · exact h0
      · exact absurd ⟨i, hin, h0⟩ hz
