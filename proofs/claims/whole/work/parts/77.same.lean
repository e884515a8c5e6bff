/-! decoding is the same on both sides -/
theorem gcnt_three {f a b c : Nat → Bool} : ∀ n, (∀ i, i < n → f i = true → a i = true ∨ b i = true ∨ c i = true) → gcnt f n ≤ gcnt a n + gcnt b n + gcnt c n
  | 0, _ => Nat.zero_le _
  | n + 1, h => by
    have ih := gcnt_three n (fun i hi => h i (by omega))
    have hn := h n (by omega)
    rw [gcnt, gcnt, gcnt, gcnt]
    cases hf : f n with
    | false => rw [if_neg (by decide)]; omega
    | true =>
      rw [if_pos rfl]
      rcases hn hf with q | q | q <;> rw [q, if_pos rfl] <;> omega
theorem gopen_cnt (er : Nat → Bool) : ∀ n, gopen er n = gcnt (fun i => !er i) n
  | 0 => rfl
  | n + 1 => by
    rw [gopen, gcnt, gopen_cnt er n]
    cases er n <;> rfl
theorem dig_inj {q : Nat} (hq : 0 < q) : ∀ k u v, u < q ^ k → v < q ^ k → (∀ x, x < k → tdg q u x = tdg q v x) → u = v
  | 0, u, v, hu, hv, _ => by rw [Nat.pow_zero] at hu hv; omega
  | k + 1, u, v, hu, hv, h => by
    rw [Nat.pow_succ, Nat.mul_comm] at hu hv
    have sh : ∀ a x, tdg q (a / q) x = tdg q a (x + 1) := fun a x => by
      unfold tdg
      rw [Nat.div_div_eq_div_mul, Nat.pow_succ, Nat.mul_comm q]
    have e := dig_inj hq k (u / q) (v / q) (Nat.div_lt_of_lt_mul hu) (Nat.div_lt_of_lt_mul hv) (fun x hx => by rw [sh, sh]; exact h (x + 1) (by omega))
    have e0 := h 0 (by omega)
    unfold tdg at e0
    rw [Nat.pow_zero, Nat.div_one, Nat.div_one] at e0
    rw [← Nat.div_add_mod u q, ← Nat.div_add_mod v q, e, e0]
def SW (p kind n k t u : Nat) : Prop := ∀ i, i < n → gcw p kind n k t i = gel p kind n k u i
section SM
variable {p kind n k : Nat} {w : Nat → Nat} {er : Nat → Bool}
theorem near_one (hc : okc p kind n k) {u v : Nat} (h : gdm p kind n k w er u + gdm p kind n k w er v + k ≤ gopen er n) : ∀ i, i < n → gel p kind n k u i = gel p kind n k v i := by
  refine mds hc ?_
  have t := gcnt_three (f := fun i => !er i) (a := fun i => gel p kind n k u i == gel p kind n k v i) (b := gdfm p kind n k w er u) (c := gdfm p kind n k w er v) n (fun i hi hf => ?_)
  · rw [← gopen_cnt] at t
    unfold gdm at h
    omega
  · replace hf : (!er i) = true := hf
    by_cases q1 : gel p kind n k u i = w i
    · by_cases q2 : gel p kind n k v i = w i
      · left
        show (gel p kind n k u i == gel p kind n k v i) = true
        rw [q1, q2, beq_self_eq_true]
      · right; right
        show (!er i && gel p kind n k v i != w i) = true
        rw [hf, bne_iff_ne.2 q2]; rfl
    · right; left
      show (!er i && gel p kind n k u i != w i) = true
      rw [hf, bne_iff_ne.2 q1]; rfl
theorem el_sent (hc : okc p kind n k) (u : Nat) {x : Nat} (hx : x < k) : gsum p (gel p kind n k u) (fun j => gld p kind n k j (n + x)) k = tdg (gq p) u x := by
  obtain ⟨o1, o2, o3, o4, o5, o6, o7⟩ := id hc
  have hq := gq_b o1
  have hl := gld_lt PVT_all hc
  have s := gsum_swap (a := tdg (gq p) u) (b := fun y r => gpl p kind n k y r) (A := fun r => gld p kind n k r (n + x)) (k2 := k) o1 k (fun j _ => tdg_lt o1) (fun j r hj hr => lk_A hc j r hj (by omega)) (fun r hr => hl r (n + x) hr (by omega))
  have e : gsum p (tdg (gq p) u) (fun y => gsum p (fun r => gpl p kind n k y r) (fun r => gld p kind n k r (n + x)) k) k = gsum p (tdg (gq p) u) (fun y => if y = x then 1 else 0) k := by
    refine gsum_congr k (fun y hy => ⟨rfl, ?_⟩)
    have g := gj_exp (w := n + k) (m := k) (fr := 0) o1 (by omega) (lk_A hc) (Nat.le_refl _) (pvt_at hc (Or.inl rfl)) hy k (Nat.le_refl _) (n + x) (by omega)
    rw [gpl_own] at g
    rw [g]
    refine gsum_congr k (fun r hr => ⟨?_, rfl⟩)
    rw [if_pos hr, Nat.zero_add]
  rw [e, gsum_one (j := x) o1 k hx (fun y _ => ⟨tdg_lt o1, by show (if y = x then 1 else 0) < gq p; split <;> omega⟩) (fun y _ hne => Or.inr (if_neg hne)), if_pos rfl, g_1r o1 (tdg_lt o1)] at s
  exact s.symm
theorem el_inj (hc : okc p kind n k) {u v : Nat} (hu : u < gq p ^ k) (hv : v < gq p ^ k) (h : ∀ i, i < n → gel p kind n k u i = gel p kind n k v i) : u = v := by
  have hq := gq_b hc.1
  have o4 := hc.2.2.2.1
  refine dig_inj (by omega) k u v hu hv (fun x hx => ?_)
  rw [← el_sent hc u hx, ← el_sent hc v hx]
  exact gsum_congr k (fun j hj => ⟨h j (by omega), rfl⟩)
theorem SW.dst {t u : Nat} (h : SW p kind n k t u) : gdst p kind n k w er t = gdm p kind n k w er u := by
  unfold gdst gdm
  exact gcnt_congr n (fun i hi => by unfold gdfm; rw [h i hi])
theorem SW.df {t u : Nat} (h : SW p kind n k t u) {i : Nat} (hi : i < n) : gdf p kind n k w er t i = gdfm p kind n k w er u i := by
  unfold gdf gdfm
  rw [h i hi, bne_comm]
theorem SW.sent (hc : okc p kind n k) {t u : Nat} (h : SW p kind n k t u) {x : Nat} (hx : x < k) : gsum p (gcw p kind n k t) (fun j => gld p kind n k j (n + x)) k = tdg (gq p) u x := by
  have o4 := hc.2.2.2.1
  rw [← el_sent hc u hx]
  exact gsum_congr k (fun j hj => ⟨h j (by omega), rfl⟩)
theorem sw_of (hc : okc p kind n k) (t : Nat) : ∃ u, u < gq p ^ k ∧ SW p kind n k t u := by
  obtain ⟨u, h1, h2, -⟩ := cw_el hc t
  exact ⟨u, h1, h2⟩
theorem sw_to (hc : okc p kind n k) (u : Nat) : ∃ t, t < gq p ^ k ∧ SW p kind n k t u := by
  obtain ⟨t, h1, h2⟩ := el_cw hc u
  exact ⟨t, h1, fun i hi => (h2 i hi).symm⟩
theorem fnd_mem {lim T t : Nat} : t ∈ gfnd p kind n k w er lim T ↔ t < T ∧ gdst p kind n k w er t ≤ lim := by
  unfold gfnd
  rw [List.mem_filter, List.mem_range, decide_eq_true_iff]
/-- what decode finds, or does not -/
theorem dec_none (hc : okc p kind n k) {lim : Nat} (h : gfnd p kind n k w er lim (gq p ^ k) = []) {u : Nat} (_hu : u < gq p ^ k) : lim < gdm p kind n k w er u := by
  obtain ⟨t, h1, h2⟩ := sw_to hc u
  have : ¬ t ∈ gfnd p kind n k w er lim (gq p ^ k) := by rw [h]; simp
  rw [fnd_mem, h2.dst] at this
  omega
theorem dec_one (hc : okc p kind n k) {t u : Nat} (hk : k ≤ gopen er n) (ht : t ∈ gfnd p kind n k w er ((gopen er n - k) / 2) (gq p ^ k)) (hu : gdm p kind n k w er u ≤ (gopen er n - k) / 2) : SW p kind n k t u := by
  obtain ⟨v, h1, h2⟩ := sw_of hc t
  have hd := (fnd_mem.1 ht).2
  rw [h2.dst] at hd
  have e := near_one (w := w) (er := er) hc (u := v) (v := u) (by omega)
  exact fun i hi => (h2 i hi).trans (e i hi)
theorem dec_ex (hc : okc p kind n k) {t lim : Nat} (ht : t ∈ gfnd p kind n k w er lim (gq p ^ k)) : ∃ u, u < gq p ^ k ∧ gdm p kind n k w er u ≤ lim := by
  obtain ⟨v, h1, h2⟩ := sw_of hc t
  have hd := (fnd_mem.1 ht).2
  rw [h2.dst] at hd
  exact ⟨v, h1, hd⟩
end SM
