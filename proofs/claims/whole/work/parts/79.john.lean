/-! no list is longer than 16 -/
def nsum (f : Nat → Nat) : Nat → Nat
  | 0 => 0
  | n + 1 => nsum f n + f n
theorem nsum_add (f g : Nat → Nat) : ∀ n, nsum (fun i => f i + g i) n = nsum f n + nsum g n
  | 0 => rfl
  | n + 1 => by rw [nsum, nsum, nsum, nsum_add f g n]; omega
theorem nsum_le {f g : Nat → Nat} : ∀ n, (∀ i, i < n → f i ≤ g i) → nsum f n ≤ nsum g n
  | 0, _ => Nat.le_refl _
  | n + 1, h => by
    have := nsum_le n (fun i hi => h i (by omega))
    have := h n (by omega)
    rw [nsum, nsum]
    omega
theorem nsum_zero : ∀ n, nsum (fun _ => 0) n = 0
  | 0 => rfl
  | n + 1 => by rw [nsum, nsum_zero n]
theorem nsum_swap (F : Nat → Nat → Nat) (n : Nat) : ∀ N, nsum (fun i => nsum (F i) N) n = nsum (fun b => nsum (fun i => F i b) n) N
  | 0 => nsum_zero n
  | N + 1 => by
    rw [nsum, ← nsum_swap F n N, ← nsum_add]
    rfl
theorem gcnt_nsum (f : Nat → Bool) : ∀ n, gcnt f n = nsum (fun i => if f i = true then 1 else 0) n
  | 0 => rfl
  | n + 1 => by rw [gcnt, nsum, gcnt_nsum f n]
theorem gcnt_swap (A : Nat → Nat → Bool) (n N : Nat) : nsum (fun i => gcnt (fun a => A a i) N) n = nsum (fun a => gcnt (A a) n) N := by
  have e := nsum_swap (fun i a => if A a i = true then 1 else 0) n N
  have h1 : (fun i => gcnt (fun a => A a i) N) = fun i => nsum (fun a => if A a i = true then 1 else 0) N := funext (fun i => gcnt_nsum _ _)
  have h2 : (fun a => gcnt (A a) n) = fun a => nsum (fun i => if A a i = true then 1 else 0) n := funext (fun a => gcnt_nsum _ _)
  rw [h1, h2]
  exact e
/-- the pairs of the first N that both stand -/
def npr (f : Nat → Bool) : Nat → Nat := nsum (fun b => gcnt (fun a => f a && f b) b)
theorem npr_sq (f : Nat → Bool) : ∀ N, 2 * npr f N + gcnt f N = gcnt f N * gcnt f N
  | 0 => rfl
  | N + 1 => by
    have ih := npr_sq f N
    have e : npr f (N + 1) = npr f N + gcnt (fun a => f a && f N) N := rfl
    rw [e, gcnt]
    cases hf : f N with
    | true =>
      have h1 : gcnt (fun a => f a && true) N = gcnt f N := gcnt_congr N (fun i _ => by cases f i <;> rfl)
      rw [h1, if_pos rfl, Nat.add_mul, Nat.mul_add 2, Nat.mul_add (gcnt f N), ← ih]
      omega
    | false =>
      have h1 : gcnt (fun a => f a && false) N = 0 := by
        have := gcnt_congr (f := fun a => f a && false) (g := fun _ => false) N (fun i _ => by cases f i <;> rfl)
        rw [this, gcnt_nsum]
        exact nsum_zero N
      rw [h1, if_neg (by decide), Nat.add_zero, Nat.add_zero]
      exact ih
theorem jn_sq : ∀ m, m < 18 → ∀ t, t < 18 → 2 * (t * m) + m ≤ m * m + t * (t + 1) := by decide +kernel
theorem jn_num : (List.range 5).all (fun k => decide (k < 2) || (List.range 21).all (fun d => decide (d < k) || (List.range 4).all (fun s => decide (s < 1) || (List.range 18).any (fun t => decide (272 * (k - 1) + d * (t * (t + 1)) < 34 * (t * (d - grad d k s))))))) = true := by decide +kernel
theorem jn_ex {k d s : Nat} (h2 : 2 ≤ k) (h4 : k ≤ 4) (hd : k ≤ d) (hd2 : d ≤ 20) (hs1 : 1 ≤ s) (hs3 : s ≤ 3) : ∃ t, t < 18 ∧ 272 * (k - 1) + d * (t * (t + 1)) < 34 * (t * (d - grad d k s)) := by
  have h := List.all_eq_true.mp jn_num k (List.mem_range.mpr (by omega))
  rw [decide_eq_false (by omega), Bool.false_or] at h
  have h := List.all_eq_true.mp h d (List.mem_range.mpr (by omega))
  rw [decide_eq_false (by omega), Bool.false_or] at h
  have h := List.all_eq_true.mp h s (List.mem_range.mpr (by omega))
  rw [decide_eq_false (by omega), Bool.false_or] at h
  obtain ⟨t, h1, h2⟩ := List.any_eq_true.mp h
  exact ⟨t, List.mem_range.mp h1, of_decide_eq_true h2⟩
section JN
variable {p kind n k : Nat} {w : Nat → Nat} {er : Nat → Bool}
theorem johnson (hc : okc p kind n k) {s : Nat} (hs1 : 1 ≤ s) (hs3 : s ≤ 3) (hk : k ≤ gopen er n) : (gfnd p kind n k w er (grad (gopen er n) k s) (gq p ^ k)).length ≤ 16 := by
  obtain ⟨o1, o2, o3, o4, o5, o6, o7⟩ := id hc
  have k4 := hc.k4
  have hop := gopen_le er n
  obtain ⟨t, ht, hnum⟩ := jn_ex o3 k4 hk (by omega) hs1 hs3
  by_cases hlen : (gfnd p kind n k w er (grad (gopen er n) k s) (gq p ^ k)).length ≤ 16
  · exact hlen
  exfalso
  have hgl : grad (gopen er n) k s ≤ gopen er n := by
    unfold grad
    generalize gbd (gopen er n * kblk s) (k - 1) / s = x
    split <;> omega
  generalize grad (gopen er n) k s = rad at hnum hlen hgl
  have hpw : (gfnd p kind n k w er rad (gq p ^ k)).Pairwise (· < ·) := by
    unfold gfnd
    exact List.pairwise_lt_range.filter _
  obtain ⟨T, hT⟩ : ∃ T : Nat → Nat, ∀ a, a < 17 → T a ∈ gfnd p kind n k w er rad (gq p ^ k) ∧ ∀ b, b < a → T b < T a := by
    have gt : ∀ a (ha : a < (gfnd p kind n k w er rad (gq p ^ k)).length), (gfnd p kind n k w er rad (gq p ^ k))[a]?.getD 0 = (gfnd p kind n k w er rad (gq p ^ k))[a] := fun a ha => by rw [List.getElem?_eq_getElem ha]; rfl
    refine ⟨fun a => (gfnd p kind n k w er rad (gq p ^ k))[a]?.getD 0, fun a ha => ⟨?_, fun b hb => ?_⟩⟩
    · show (gfnd p kind n k w er rad (gq p ^ k))[a]?.getD 0 ∈ _
      rw [gt a (by omega)]
      exact List.getElem_mem _
    · show (gfnd p kind n k w er rad (gq p ^ k))[b]?.getD 0 < (gfnd p kind n k w er rad (gq p ^ k))[a]?.getD 0
      rw [gt a (by omega), gt b (by omega)]
      exact List.pairwise_iff_getElem.mp hpw b a (by omega) (by omega) hb
  obtain ⟨A, hA⟩ : ∃ A : Nat → Nat → Bool, ∀ a i, A a i = (!er i && gcw p kind n k (T a) i == w i) := ⟨fun a i => !er i && gcw p kind n k (T a) i == w i, fun _ _ => rfl⟩
  have row : ∀ a, a < 17 → gopen er n - rad ≤ gcnt (A a) n := fun a ha => by
    have hd := (fnd_mem.1 (hT a ha).1).2
    have e := gcnt_add (f := A a) (g := fun i => !er i && gcw p kind n k (T a) i != w i) (h := fun i => !er i) n (fun i hi => by
      show (!er i) = (A a i || (!er i && gcw p kind n k (T a) i != w i)) ∧ (A a i && (!er i && gcw p kind n k (T a) i != w i)) = false
      rw [hA]
      unfold bne
      cases er i <;> cases (gcw p kind n k (T a) i == w i) <;> exact ⟨rfl, rfl⟩)
    rw [← gopen_cnt] at e
    unfold gdst at hd
    omega
  have two : ∀ b, b < 17 → ∀ a, a < b → gcnt (fun i => A a i && A b i) n ≤ k - 1 := fun b hb a ha => by
    by_cases h : gcnt (fun i => A a i && A b i) n ≤ k - 1
    · exact h
    · exfalso
      obtain ⟨u, u1, u2⟩ := sw_of hc (T a)
      obtain ⟨v, v1, v2⟩ := sw_of hc (T b)
      have m := mds hc (u := u) (v := v) (Nat.le_trans (show k ≤ gcnt (fun i => A a i && A b i) n by omega) (gcnt_sub n (fun i hi q => by
        show (gel p kind n k u i == gel p kind n k v i) = true
        replace q : (A a i && A b i) = true := q
        rw [hA, hA, u2 i hi, v2 i hi] at q
        simp only [Bool.and_eq_true, beq_iff_eq] at q
        rw [q.1.2, q.2.2, beq_self_eq_true])))
      have e1 := u2.key hc (fnd_mem.1 (hT a (by omega)).1).1
      have e2 := v2.key hc (fnd_mem.1 (hT b hb).1).1
      have e3 := gky_eq (q := gq p) (f := gel p kind n k u) (g := gel p kind n k v) k (fun j hj => m j (by omega))
      have := (hT b hb).2 a ha
      omega
  have s1 : 17 * (gopen er n - rad) ≤ nsum (fun i => gcnt (fun a => A a i) 17) n := by
    rw [gcnt_swap A n 17]
    have := nsum_le (f := fun _ => gopen er n - rad) (g := fun a => gcnt (A a) n) 17 (fun a ha => row a ha)
    have e : nsum (fun _ => gopen er n - rad) 17 = 17 * (gopen er n - rad) := by
      show 0 + (gopen er n - rad) + (gopen er n - rad) + (gopen er n - rad) + (gopen er n - rad) + (gopen er n - rad) + (gopen er n - rad) + (gopen er n - rad) + (gopen er n - rad) + (gopen er n - rad) + (gopen er n - rad) + (gopen er n - rad) + (gopen er n - rad) + (gopen er n - rad) + (gopen er n - rad) + (gopen er n - rad) + (gopen er n - rad) + (gopen er n - rad) = _
      omega
    omega
  have s2 : nsum (fun i => npr (fun a => A a i) 17) n ≤ 136 * (k - 1) := by
    have e1 : nsum (fun i => npr (fun a => A a i) 17) n = nsum (fun b => nsum (fun i => gcnt (fun a => A a i && A b i) b) n) 17 := nsum_swap (fun i b => gcnt (fun a => A a i && A b i) b) n 17
    rw [e1]
    have e2 := nsum_le (f := fun b => nsum (fun i => gcnt (fun a => A a i && A b i) b) n) (g := fun b => b * (k - 1)) 17 (fun b hb => by
      show nsum (fun i => gcnt (fun a => A a i && A b i) b) n ≤ b * (k - 1)
      rw [gcnt_swap (fun a i => A a i && A b i) n b]
      have c := nsum_le (f := fun a => gcnt (fun i => A a i && A b i) n) (g := fun _ => k - 1) b (fun a ha => two b hb a ha)
      have d : ∀ m, nsum (fun _ => k - 1) m = m * (k - 1) := by
        intro m
        induction m with
        | zero => rw [Nat.zero_mul]; rfl
        | succ m ih => rw [nsum, ih, Nat.add_mul, Nat.one_mul]
      rw [d] at c
      exact c)
    have e3 : nsum (fun b => b * (k - 1)) 17 = 136 * (k - 1) := by
      generalize k - 1 = x
      show 0 + 0 * x + 1 * x + 2 * x + 3 * x + 4 * x + 5 * x + 6 * x + 7 * x + 8 * x + 9 * x + 10 * x + 11 * x + 12 * x + 13 * x + 14 * x + 15 * x + 16 * x = _
      omega
    omega
  have s3 : ∀ m, m ≤ n → 2 * (t * nsum (fun i => gcnt (fun a => A a i) 17) m) ≤ 2 * nsum (fun i => npr (fun a => A a i) 17) m + gopen er m * (t * (t + 1)) := by
    intro m
    induction m with
    | zero => intro _; rw [nsum, Nat.mul_zero]; omega
    | succ m ih =>
      intro hm
      have ih := ih (by omega)
      have q1 := npr_sq (fun a => A a m) 17
      have q2 := gcnt_le (fun a => A a m) 17
      rw [nsum, nsum, gopen, Nat.mul_add, Nat.add_mul]
      cases he : er m with
      | false =>
        have q3 := jn_sq (gcnt (fun a => A a m) 17) (by omega) t ht
        rw [if_neg (by decide), Nat.one_mul]
        omega
      | true =>
        have z : gcnt (fun a => A a m) 17 = 0 := by
          rw [gcnt_congr (f := fun a => A a m) (g := fun _ => false) 17 (fun a _ => by show A a m = false; rw [hA, he]; rfl), gcnt_nsum]
          exact nsum_zero 17
        rw [z, if_pos rfl, Nat.mul_zero, Nat.zero_mul]
        omega
  have s4 := s3 n (Nat.le_refl _)
  have s5 := Nat.mul_le_mul_left t s1
  have s6 : t * (17 * (gopen er n - rad)) = 17 * (t * (gopen er n - rad)) := by rw [← Nat.mul_assoc, Nat.mul_comm t 17, Nat.mul_assoc]
  rw [s6] at s5
  omega
end JN
