/-! what the unit rows span -/
theorem gsum_put {p i v : Nat} {L A : Nat → Nat} (hp : p ∈ grims) : ∀ m, (∀ r, r < m → L r < gq p) → gsum p (fun r => if r = i then v else L r) A m = gsum p L (fun r => if r = i then 0 else A r) m ^^^ (if i < m then gmul p v (A i) else 0)
  | 0, _ => by rw [if_neg (Nat.not_lt_zero _), Nat.xor_zero]; rfl
  | m + 1, h => by
    have ih := gsum_put (i := i) (v := v) (L := L) (A := A) hp m (fun r hr => h r (by omega))
    rw [gsum, gsum, ih]
    by_cases e : m = i
    · rw [if_pos e, if_pos e, if_neg (show ¬ i < m by omega), if_pos (show i < m + 1 by omega), g_zr hp (h m (by omega)), Nat.xor_zero, e]
    · rw [if_neg e, if_neg e]
      by_cases h2 : i < m
      · rw [if_pos h2, if_pos (show i < m + 1 by omega), Nat.xor_assoc, Nat.xor_comm (gmul p v (A i)), ← Nat.xor_assoc]
      · rw [if_neg h2, if_neg (show ¬ i < m + 1 by omega), Nat.xor_zero, Nat.xor_zero]
theorem gsum_rlin {p z : Nat} {f a b : Nat → Nat} (hp : p ∈ grims) (hz : z < gq p) : ∀ m, (∀ r, r < m → f r < gq p ∧ a r < gq p ∧ b r < gq p) → gsum p f (fun r => a r ^^^ gmul p (b r) z) m = gsum p f a m ^^^ gmul p (gsum p f b m) z
  | 0, _ => by show 0 = 0 ^^^ gmul p 0 z; rw [(g_one hp hz).2.1]; rfl
  | m + 1, h => by
    obtain ⟨h1, h2, h3⟩ := h m (by omega)
    have ih := gsum_rlin (f := f) (a := a) (b := b) hp hz m (fun i hi => h i (by omega))
    have hS := gsum_lt (f := f) (A := b) hp m (fun i hi => ⟨(h i (by omega)).1, (h i (by omega)).2.2⟩)
    rw [gsum, gsum, gsum, ih, g_distr hp h1 h2 (g_two hp h3 hz).1, ← g_assoc hp h1 h3 hz, g_distl hp hS (g_two hp h1 h3).1 hz]
    exact xor4 _ _ _ _
section GJ
variable {p fr k w m : Nat} {A : Nat → Nat → Nat}
theorem gj_back (hp : p ∈ grims) (hw : fr + k ≤ w) (h : ∀ r c, r < k → c < w → A r c < gq p) (hm : m ≤ k) (hpv : ∀ i, i < m → gga p fr A i i (fr + i) ≠ 0) {i : Nat} (hi : i < m) {r c : Nat} (hr : r < k) (hc : c < w) : gga p fr A i r c = (if r = i then 0 else gga p fr A (i + 1) r c) ^^^ gmul p (gga p fr A i r (fr + i)) (gga p fr A (i + 1) i c) := by
  have hq := gq_b hp
  have b := gga_lt hp hw h i (by omega) (fun j hj => hpv j (by omega))
  have pb := b i (fr + i) (by omega) (by omega)
  have p0 := hpv i hi
  have dl := g_div_lt (a := 1) hp (by omega) pb p0
  have dm := g_divmul (a := 1) hp (by omega) pb p0
  have ei : gga p fr A (i + 1) i c = gmul p (gdiv p 1 (gga p fr A i i (fr + i))) (gga p fr A i i c) := by
    show ggs p fr i (gga p fr A i) i c = _
    unfold ggs
    rw [if_pos rfl]
  have bi := b i c (by omega) hc
  by_cases e : r = i
  · rw [if_pos e, e, ei, Nat.zero_xor, ← g_assoc hp pb dl bi, (g_two hp pb dl).2.1, dm, (g_one hp bi).2.2.1]
  · have er : gga p fr A (i + 1) r c = gga p fr A i r c ^^^ gmul p (gga p fr A i r (fr + i)) (gga p fr A (i + 1) i c) := by
      rw [ei]
      show ggs p fr i (gga p fr A i) r c = _
      unfold ggs
      rw [if_neg e]
    rw [if_neg e]
    generalize gmul p (gga p fr A i r (fr + i)) (gga p fr A (i + 1) i c) = X at er
    rw [er, Nat.xor_assoc, Nat.xor_self, Nat.xor_zero]
theorem gj_exp (hp : p ∈ grims) (hw : fr + k ≤ w) (h : ∀ r c, r < k → c < w → A r c < gq p) (hm : m ≤ k) (hpv : ∀ i, i < m → gga p fr A i i (fr + i) ≠ 0) {x : Nat} (hx : x < k) : ∀ i, i ≤ m → ∀ c, c < w → A x c = gsum p (fun r => if r < i then A x (fr + r) else if r = x then 1 else 0) (fun r => gga p fr A i r c) k
  | 0, _, c, hc => by
    have hq := gq_b hp
    have e := gsum_put (i := x) (v := 1) (L := fun _ => 0) (A := fun r => A r c) hp k (fun _ _ => by omega)
    rw [if_pos hx, (g_one hp (h x c hx hc)).2.2.1] at e
    have z : ∀ m, m ≤ k → gsum p (fun _ => 0) (fun r => if r = x then 0 else A r c) m = 0 := by
      intro m
      induction m with
      | zero => intro _; rfl
      | succ m ih =>
        intro hm
        have hA : (if m = x then 0 else A m c) < gq p := by
          split
          · omega
          · exact h m c (by omega) hc
        rw [gsum, ih (by omega), (g_one hp hA).2.1]
        rfl
    rw [z k (Nat.le_refl _), Nat.zero_xor] at e
    rw [← e]
    refine (gsum_congr k (fun r _ => ⟨?_, rfl⟩)).symm
    rw [if_neg (Nat.not_lt_zero _)]
  | i + 1, hi, c, hc => by
    have hq := gq_b hp
    have ih := gj_exp hp hw h hm hpv hx i (by omega)
    have b := gga_lt hp hw h i (by omega) (fun j hj => hpv j (by omega))
    have b' := gga_lt hp hw h (i + 1) (by omega) (fun j hj => hpv j (by omega))
    have hL : ∀ r, r < k → (if r < i then A x (fr + r) else if r = x then 1 else 0) < gq p := fun r hr => by
      split
      · exact h x _ hx (by omega)
      · split <;> omega
    have e1 := ih c hc
    have e2 := ih (fr + i) (by omega)
    have zi := b' i c (by omega) hc
    have e3 : gsum p (fun r => if r < i then A x (fr + r) else if r = x then 1 else 0) (fun r => gga p fr A i r c) k = gsum p (fun r => if r < i then A x (fr + r) else if r = x then 1 else 0) (fun r => (if r = i then 0 else gga p fr A (i + 1) r c) ^^^ gmul p (gga p fr A i r (fr + i)) (gga p fr A (i + 1) i c)) k :=
      gsum_congr k (fun r hr => ⟨rfl, gj_back hp hw h hm hpv (by omega) hr hc⟩)
    have e4 := gsum_rlin (f := fun r => if r < i then A x (fr + r) else if r = x then 1 else 0) (a := fun r => if r = i then 0 else gga p fr A (i + 1) r c) (b := fun r => gga p fr A i r (fr + i)) hp zi k (fun r hr => ⟨hL r hr, by
      show (if r = i then 0 else gga p fr A (i + 1) r c) < gq p
      split
      · omega
      · exact b' r c hr hc, b r (fr + i) hr (by omega)⟩)
    have e5 := gsum_put (i := i) (v := A x (fr + i)) (L := fun r => if r < i then A x (fr + r) else if r = x then 1 else 0) (A := fun r => gga p fr A (i + 1) r c) hp k hL
    rw [if_pos (show i < k by omega)] at e5
    rw [e1, e3, e4, ← e2, ← e5]
    refine gsum_congr k (fun r hr => ⟨?_, rfl⟩)
    by_cases e : r = i
    · rw [if_pos e, e, if_pos (Nat.lt_succ_self i)]
    · rw [if_neg e]
      by_cases h2 : r < i
      · rw [if_pos h2, if_pos (show r < i + 1 by omega)]
      · rw [if_neg h2, if_neg (show ¬ r < i + 1 by omega)]
theorem gj_unit (hp : p ∈ grims) (hw : fr + k ≤ w) (h : ∀ r c, r < k → c < w → A r c < gq p) (hm : m ≤ k) (hpv : ∀ i, i < m → gga p fr A i i (fr + i) ≠ 0) : ∀ i, i ≤ m → ∀ r j, r < k → j < i → gga p fr A i r (fr + j) = if r = j then 1 else 0
  | 0, _, _, _, _, hj => absurd hj (Nat.not_lt_zero _)
  | i + 1, hi, r, j, hr, hj => by
    have hq := gq_b hp
    have ih := gj_unit hp hw h hm hpv i (by omega)
    have b := gga_lt hp hw h i (by omega) (fun j hj => hpv j (by omega))
    have pb := b i (fr + i) (by omega) (by omega)
    have p0 := hpv i (by omega)
    have dl := g_div_lt (a := 1) hp (by omega) pb p0
    have dm := g_divmul (a := 1) hp (by omega) pb p0
    have ei : ∀ c, ggs p fr i (gga p fr A i) i c = gmul p (gdiv p 1 (gga p fr A i i (fr + i))) (gga p fr A i i c) := fun c => by
      unfold ggs
      rw [if_pos rfl]
    have eii : gmul p (gdiv p 1 (gga p fr A i i (fr + i))) (gga p fr A i i (fr + j)) = if i = j then 1 else 0 := by
      by_cases e : i = j
      · rw [if_pos e, ← e, dm]
      · rw [if_neg e, ih i j (by omega) (by omega), if_neg e, g_zr hp dl]
    show ggs p fr i (gga p fr A i) r (fr + j) = _
    by_cases e : r = i
    · rw [e, ei, eii]
    · unfold ggs
      rw [if_neg e, eii]
      by_cases e2 : i = j
      · rw [if_pos e2, ← e2, g_1r hp (b r (fr + i) hr (by omega)), Nat.xor_self, if_neg e]
      · rw [if_neg e2, g_zr hp (b r (fr + i) hr (by omega)), Nat.xor_zero]
        exact ih r j hr (by omega)
theorem gj_trk (hp : p ∈ grims) (hw : fr + k ≤ w) (h : ∀ r c, r < k → c < w → A r c < gq p) (hm : m ≤ k) (hpv : ∀ i, i < m → gga p fr A i i (fr + i) ≠ 0) {n : Nat} (hn : n + k ≤ w) (hd : ∀ r x, r < k → x < k → A r (n + x) = if r = x then 1 else 0) : ∀ i, i ≤ m → ∀ r c, r < k → c < w → gga p fr A i r c = gsum p (fun x => gga p fr A i r (n + x)) (fun x => A x c) k
  | 0, _, r, c, hr, hc => by
    have hq := gq_b hp
    have e := gj_exp hp hw h hm hpv hr 0 (by omega) c hc
    show A r c = gsum p (fun x => A r (n + x)) (fun x => A x c) k
    rw [e]
    refine gsum_congr k (fun x hx => ⟨?_, rfl⟩)
    rw [if_neg (Nat.not_lt_zero _), hd r x hr hx]
    by_cases e : x = r
    · rw [if_pos e, if_pos e.symm]
    · rw [if_neg e, if_neg (fun q => e q.symm)]
  | i + 1, hi, r, c, hr, hc => by
    have hq := gq_b hp
    have ih := gj_trk hp hw h hm hpv hn hd i (by omega)
    have b := gga_lt hp hw h i (by omega) (fun j hj => hpv j (by omega))
    have b' := gga_lt hp hw h (i + 1) (by omega) (fun j hj => hpv j (by omega))
    have pb := b i (fr + i) (by omega) (by omega)
    have dl := g_div_lt (a := 1) hp (by omega) pb (hpv i (by omega))
    have ei : ∀ c, gga p fr A (i + 1) i c = gmul p (gdiv p 1 (gga p fr A i i (fr + i))) (gga p fr A i i c) := fun c => by
      show ggs p fr i (gga p fr A i) i c = _
      unfold ggs
      rw [if_pos rfl]
    have ii : gga p fr A (i + 1) i c = gsum p (fun x => gga p fr A (i + 1) i (n + x)) (fun x => A x c) k := by
      rw [ei, ih i c (by omega) hc, ← gsum_sc hp dl k (fun x hx => ⟨b i (n + x) (by omega) (by omega), h x c hx hc⟩)]
      exact gsum_congr k (fun x hx => ⟨(ei (n + x)).symm, rfl⟩)
    by_cases e : r = i
    · rw [e]; exact ii
    · have er : ∀ c, gga p fr A (i + 1) r c = gga p fr A i r c ^^^ gmul p (gga p fr A i r (fr + i)) (gga p fr A (i + 1) i c) := fun c => by
        rw [ei]
        show ggs p fr i (gga p fr A i) r c = _
        unfold ggs
        rw [if_neg e]
      have rb := b r (fr + i) hr (by omega)
      have l := gsum_lin (t := gga p fr A i r (fr + i)) (f := fun x => gga p fr A i r (n + x)) (g := fun x => gga p fr A (i + 1) i (n + x)) (A := fun x => A x c) hp rb k (fun x hx => ⟨b r (n + x) hr (by omega), b' i (n + x) (by omega) (by omega), h x c hx hc⟩)
      rw [er, ih r c hr hc, ii, ← l]
      exact gsum_congr k (fun x hx => ⟨(er (n + x)).symm, rfl⟩)
end GJ
/-- a row that has not been a pivot's keeps its own message place -/
theorem gj_own {p fr k w m n : Nat} {A : Nat → Nat → Nat} (hp : p ∈ grims) (hw : fr + k ≤ w) (h : ∀ r c, r < k → c < w → A r c < gq p) (hm : m ≤ k) (hpv : ∀ i, i < m → gga p fr A i i (fr + i) ≠ 0) (hn : n + k ≤ w) (hd : ∀ r x, r < k → x < k → A r (n + x) = if r = x then 1 else 0) : ∀ i, i ≤ m → ∀ r x, i ≤ r → r < k → i ≤ x → x < k → gga p fr A i r (n + x) = if r = x then 1 else 0
  | 0, _, r, x, _, hr, _, hx => hd r x hr hx
  | i + 1, hi, r, x, hir, hr, hix, hx => by
    have hq := gq_b hp
    have ih := gj_own hp hw h hm hpv hn hd i (by omega)
    have b := gga_lt hp hw h i (by omega) (fun j hj => hpv j (by omega))
    have pb := b i (fr + i) (by omega) (by omega)
    have dl := g_div_lt (a := 1) hp (by omega) pb (hpv i (by omega))
    show ggs p fr i (gga p fr A i) r (n + x) = _
    unfold ggs
    rw [if_neg (by omega), ih i x (by omega) (by omega) (by omega) hx, if_neg (by omega), g_zr hp dl, g_zr hp (b r (fr + i) hr (by omega)), Nat.xor_zero]
    exact ih r x (by omega) hr (by omega) hx
