/-! the class's codewords are the reference's -/
theorem gsum_swap {p k2 : Nat} {a A : Nat → Nat} {b : Nat → Nat → Nat} (hp : p ∈ grims) : ∀ k1, (∀ j, j < k1 → a j < gq p) → (∀ j x, j < k1 → x < k2 → b j x < gq p) → (∀ x, x < k2 → A x < gq p) → gsum p a (fun j => gsum p (b j) A k2) k1 = gsum p (fun x => gsum p a (fun j => b j x) k1) A k2
  | 0, _, _, hA => by
    show 0 = gsum p (fun _ => 0) A k2
    rw [gsum_none hp k2 (fun x hx => ⟨by have := gq_b hp; omega, hA x hx⟩) (fun x _ => Or.inl rfl)]
  | k1 + 1, ha, hb, hA => by
    have ih := gsum_swap (a := a) (b := b) hp k1 (fun j hj => ha j (by omega)) (fun j x hj hx => hb j x (by omega) hx) hA
    rw [gsum, ih, ← gsum_lin hp (ha k1 (by omega)) k2 (fun x hx => ⟨gsum_lt hp k1 (fun j hj => ⟨ha j (by omega), hb j x (by omega) hx⟩), hb k1 x (by omega) hx, hA x hx⟩)]
    exact gsum_congr k2 (fun x _ => ⟨rfl, rfl⟩)
theorem gky_div {q : Nat} {f : Nat → Nat} (hf : ∀ i, f i < q) (a : Nat) : ∀ d, gky q f (a + d) / q ^ d = gky q f a
  | 0 => by rw [Nat.pow_zero, Nat.div_one]; rfl
  | d + 1 => by
    have h0 := hf (a + d)
    rw [show a + (d + 1) = (a + d) + 1 by omega, gky, Nat.pow_succ, Nat.mul_comm (q ^ d), ← Nat.div_div_eq_div_mul, Nat.add_comm, Nat.add_mul_div_right _ _ (by omega), Nat.div_eq_of_lt h0, Nat.zero_add, gky_div hf a d]
theorem gky_lt {q : Nat} {f : Nat → Nat} (hf : ∀ i, f i < q) : ∀ k, gky q f k < q ^ k
  | 0 => by show 0 < 1; decide
  | k + 1 => by
    have ih := gky_lt hf k
    have := hf k
    rw [gky, Nat.pow_succ]
    have h1 := Nat.mul_le_mul_right q (show gky q f k + 1 ≤ q ^ k from ih)
    rw [Nat.add_mul, Nat.one_mul] at h1
    omega
theorem dig_gky {q k j : Nat} {f : Nat → Nat} (hf : ∀ i, f i < q) (hj : j < k) : dig q k (gky q f k) j = f j := by
  unfold dig
  have e := gky_div hf (j + 1) (k - 1 - j)
  rw [show j + 1 + (k - 1 - j) = k by omega] at e
  rw [e, gky, Nat.mul_comm, Nat.mul_add_mod, Nat.mod_eq_of_lt (hf j)]
theorem gky_dig {q k t : Nat} (ht : t < q ^ k) : ∀ a, a ≤ k → gky q (dig q k t) a = t / q ^ (k - a)
  | 0, _ => by rw [Nat.sub_zero, Nat.div_eq_of_lt ht]; rfl
  | a + 1, h => by
    rw [gky, gky_dig ht a (by omega)]
    unfold dig
    rw [show k - a = (k - (a + 1)) + 1 by omega, Nat.pow_succ, ← Nat.div_div_eq_div_mul, show k - 1 - a = k - (a + 1) by omega]
    have := Nat.div_add_mod (t / q ^ (k - (a + 1))) q
    rw [Nat.mul_comm] at this
    exact this
section LK
variable {p kind n k : Nat}
theorem lk_A (hc : okc p kind n k) : ∀ r c, r < k → c < n + k → gpl p kind n k r c < gq p := fun r c _ _ => gpl_lt hc.1 hc.2.2.2.2.1 (by have := hc.2.2.1; omega) hc.2.2.2.1 r c
theorem gld_unit (hc : okc p kind n k) {r j : Nat} (hr : r < k) (hj : j < k) : gld p kind n k r j = if r = j then 1 else 0 := by
  have h := gj_unit (w := n + k) (m := k) hc.1 (by omega) (lk_A hc) (Nat.le_refl _) (pvt_at hc (Or.inl rfl)) k (Nat.le_refl _) r j hr hj
  rw [Nat.zero_add] at h
  exact h
theorem gcw_low (hc : okc p kind n k) (t : Nat) {j : Nat} (hj : j < k) : gcw p kind n k t j = dig (gq p) k t j := by
  have hq := gq_b hc.1
  have o4 := hc.2.2.2.1
  have hl := gld_lt PVT_all hc
  unfold gcw
  rw [gsum_one (j := j) hc.1 k hj (fun x hx => ⟨dig_lt (by omega), hl x j hx (by omega)⟩) (fun x hx hne => Or.inr (by rw [gld_unit hc hx hj, if_neg hne])), gld_unit hc hj hj, if_pos rfl, g_1r hc.1 (dig_lt (by omega))]
/-- each of the class's codewords is one of the reference's -/
theorem cw_el (hc : okc p kind n k) (t : Nat) : ∃ u, u < gq p ^ k ∧ (∀ i, i < n → gcw p kind n k t i = gel p kind n k u i) ∧ ∀ x, x < k → gsum p (gcw p kind n k t) (fun j => gld p kind n k j (n + x)) k = tdg (gq p) u x := by
  obtain ⟨o1, o2, o3, o4, o5, o6, o7⟩ := id hc
  have hq := gq_b o1
  have hl := gld_lt PVT_all hc
  have dl : ∀ j, dig (gq p) k t j < gq p := fun j => dig_lt (by omega)
  have ml : ∀ x, x < k → gsum p (dig (gq p) k t) (fun j => gld p kind n k j (n + x)) k < gq p := fun x hx => gsum_lt o1 k (fun j hj => ⟨dl j, hl j (n + x) hj (by omega)⟩)
  have dg : ∀ x, x < k → tdg (gq p) (tnm (gq p) (fun x => gsum p (dig (gq p) k t) (fun j => gld p kind n k j (n + x)) k) 0 k) x = gsum p (dig (gq p) k t) (fun j => gld p kind n k j (n + x)) k := fun x hx => by
    have := tnm_dg (q := gq p) (d := fun x => gsum p (dig (gq p) k t) (fun j => gld p kind n k j (n + x)) k) (by omega) k 0 (fun i _ hi => ml i (by omega)) x hx
    rw [Nat.zero_add] at this
    exact this
  refine ⟨_, tnm_lt k 0 (fun i _ hi => ml i (by omega)), fun i hi => ?_, fun x hx => ?_⟩
  · have e1 : gcw p kind n k t i = gsum p (dig (gq p) k t) (fun j => gsum p (fun x => gld p kind n k j (n + x)) (fun x => gpl p kind n k x i) k) k := by
      unfold gcw
      refine gsum_congr k (fun j hj => ⟨rfl, ?_⟩)
      exact gj_trk (w := n + k) (m := k) o1 (by omega) (lk_A hc) (Nat.le_refl _) (pvt_at hc (Or.inl rfl)) (n := n) (Nat.le_refl _) (fun r x _ _ => gpl_own) k (Nat.le_refl _) j i hj (by omega)
    rw [e1, gsum_swap (b := fun j x => gld p kind n k j (n + x)) o1 k (fun j _ => dl j) (fun j x hj hx => hl j (n + x) hj (by omega)) (fun x hx => lk_A hc x i hx (by omega))]
    unfold gel
    exact gsum_congr k (fun x hx => ⟨(dg x hx).symm, rfl⟩)
  · rw [dg x hx]
    exact gsum_congr k (fun j hj => ⟨gcw_low hc t hj, rfl⟩)
/-- and the reverse -/
theorem el_cw (hc : okc p kind n k) (u : Nat) : ∃ t, t < gq p ^ k ∧ ∀ i, i < n → gel p kind n k u i = gcw p kind n k t i := by
  obtain ⟨o1, o2, o3, o4, o5, o6, o7⟩ := id hc
  have hq := gq_b o1
  have hl := gld_lt PVT_all hc
  have gl : ∀ i, gel p kind n k u i < gq p := fun i => gel_lt hc
  refine ⟨gky (gq p) (gel p kind n k u) k, gky_lt gl k, fun i hi => ?_⟩
  have e1 : gel p kind n k u i = gsum p (tdg (gq p) u) (fun x => gsum p (fun r => gpl p kind n k x r) (fun r => gld p kind n k r i) k) k := by
    show gsum p (tdg (gq p) u) (fun j => gpl p kind n k j i) k = _
    refine gsum_congr k (fun x hx => ⟨rfl, ?_⟩)
    rw [gj_exp (w := n + k) (m := k) (fr := 0) o1 (by omega) (lk_A hc) (Nat.le_refl _) (pvt_at hc (Or.inl rfl)) hx k (Nat.le_refl _) i (by omega)]
    refine gsum_congr k (fun r hr => ⟨?_, rfl⟩)
    rw [if_pos hr, Nat.zero_add]
  rw [e1, gsum_swap (b := fun x r => gpl p kind n k x r) o1 k (fun j _ => tdg_lt o1) (fun j x hj hx => lk_A hc j x hj (by omega)) (fun x hx => hl x i hx (by omega))]
  unfold gcw
  refine gsum_congr k (fun r hr => ⟨?_, rfl⟩)
  rw [dig_gky gl hr]
  rfl
/-- the class's order is the order of the codewords -/
theorem gcw_key (hc : okc p kind n k) {t : Nat} (ht : t < gq p ^ k) : gky (gq p) (gcw p kind n k t) k = t := by
  rw [gky_eq (g := dig (gq p) k t) k (fun j hj => gcw_low hc t hj), gky_dig ht k (Nat.le_refl _), Nat.sub_self, Nat.pow_zero, Nat.div_one]
end LK
