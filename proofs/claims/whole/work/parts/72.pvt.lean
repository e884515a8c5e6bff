/-! no pivot is 0 -/
theorem gsum_none {p : Nat} {c A : Nat → Nat} (hp : p ∈ grims) : ∀ m, (∀ x, x < m → c x < gq p ∧ A x < gq p) → (∀ x, x < m → c x = 0 ∨ A x = 0) → gsum p c A m = 0
  | 0, _, _ => rfl
  | m + 1, hb, h => by
    rw [gsum, gsum_none hp m (fun x hx => hb x (by omega)) (fun x hx => h x (by omega)), Nat.zero_xor]
    rcases h m (by omega) with e | e
    · rw [e]; exact (g_one hp (hb m (by omega)).2).2.1
    · rw [e]; exact g_zr hp (hb m (by omega)).1
theorem gsum_one {p j : Nat} {c A : Nat → Nat} (hp : p ∈ grims) : ∀ m, j < m → (∀ x, x < m → c x < gq p ∧ A x < gq p) → (∀ x, x < m → x ≠ j → c x = 0 ∨ A x = 0) → gsum p c A m = gmul p (c j) (A j)
  | 0, h, _, _ => absurd h (Nat.not_lt_zero _)
  | m + 1, hj, hb, h => by
    rw [gsum]
    by_cases e : j = m
    · rw [gsum_none hp m (fun x hx => hb x (by omega)) (fun x hx => h x (by omega) (by omega)), Nat.zero_xor, e]
    · rw [gsum_one hp m (by omega) (fun x hx => hb x (by omega)) (fun x hx hn => h x (by omega) hn)]
      have z : gmul p (c m) (A m) = 0 := by
        rcases h m (by omega) (fun q => e q.symm) with e | e
        · rw [e]; exact (g_one hp (hb m (by omega)).2).2.1
        · rw [e]; exact g_zr hp (hb m (by omega)).1
      rw [z, Nat.xor_zero]
theorem ggen_top {p : Nat} (hp : p ∈ grims) : ∀ r, r < gq p - 1 → ggen p r r = 1
  | 0, _ => by rw [ggen, if_pos rfl]
  | r + 1, h => by
    rw [ggen, if_neg (by omega), show r + 1 - 1 = r from rfl, ggen_top hp r (by omega), ggen_0 hp r (by omega) (r + 1) (by omega), g_zr hp (g_pw hp h).2.1]
    rfl
theorem ggen_bot {p : Nat} (hp : p ∈ grims) : ∀ r, r < gq p - 1 → ggen p r 0 ≠ 0
  | 0, _ => by rw [ggen, if_pos rfl]; decide
  | r + 1, h => by
    rw [ggen, if_pos rfl]
    have h1 := g_pw hp h
    have := (g_mullog hp h1.2.1 (ggen_lt hp r (by omega) 0) (by omega) (ggen_bot hp r (by omega))).2
    omega
theorem gpl_own {p kind n k r x : Nat} : gpl p kind n k r (n + x) = if r = x then 1 else 0 := by
  unfold gpl
  rw [if_neg (by omega), show n + x - n = x by omega]
theorem pvt_at {p kind n k fr : Nat} (hc : okc p kind n k) (hfr : fr = 0 ∨ fr = n - k) : ∀ i, i < k → gga p fr (gpl p kind n k) i i (fr + i) ≠ 0 := by
  obtain ⟨o1, o2, o3, o4, o5, o6, o7⟩ := id hc
  have hq := gq_b o1
  have hfn : fr + k ≤ n := by omega
  have hA : ∀ r c, r < k → c < n + k → gpl p kind n k r c < gq p := fun r c _ _ => gpl_lt o1 o5 (by omega) o4 r c
  have st : ∀ i, i < k → (∀ j, j < i → gga p fr (gpl p kind n k) j j (fr + j) ≠ 0) → gga p fr (gpl p kind n k) i i (fr + i) ≠ 0 := by
    intro i hi hpv h0
    have b := gga_lt (w := n + k) o1 (by omega) hA i (by omega) hpv
    have trk := gj_trk (w := n + k) (m := i) o1 (by omega) hA (by omega) hpv (n := n) (Nat.le_refl _) (fun r x _ _ => gpl_own) i (Nat.le_refl _) i
    have unit := gj_unit (w := n + k) (m := i) o1 (by omega) hA (by omega) hpv i (Nat.le_refl _) i
    have own := gj_own (w := n + k) (m := i) (n := n) o1 (by omega) hA (by omega) hpv (Nat.le_refl _) (fun r x _ _ => gpl_own) i (Nat.le_refl _) i
    obtain ⟨d, hd⟩ : ∃ d : Nat → Nat, ∀ x, d x = if x < i + 1 then gga p fr (gpl p kind n k) i i (n + x) else 0 := ⟨_, fun _ => rfl⟩
    have dlt : ∀ x, d x < gq p := fun x => by
      rw [hd]
      split
      · exact b i (n + x) hi (by omega)
      · omega
    have di : d i = 1 := by rw [hd, if_pos (by omega), own i (Nat.le_refl _) hi (Nat.le_refl _) hi, if_pos rfl]
    have val : ∀ c, c < n → gga p fr (gpl p kind n k) i i c = gsum p d (fun x => gpl p kind n k x c) (i + 1) := fun c hcn => by
      have e := gsum_ext (g := d) (A := fun x => gpl p kind n k x c) o1 (m := i + 1) (k - (i + 1)) (fun x hx => by rw [hd, if_neg (by omega)]) (fun x => gpl_lt o1 o5 (by omega) o4 x c)
      rw [show i + 1 + (k - (i + 1)) = k by omega] at e
      rw [← e, trk c hi (by omega)]
      refine gsum_congr k (fun x hx => ⟨?_, rfl⟩)
      rw [hd]
      by_cases h1 : x < i + 1
      · rw [if_pos h1]
      · rw [if_neg h1, own x (Nat.le_refl _) hi (by omega) hx, if_neg (by omega)]
    have zer : ∀ j, j ≤ i → gsum p d (fun x => gpl p kind n k x (fr + j)) (i + 1) = 0 := fun j hj => by
      rw [← val (fr + j) (by omega)]
      by_cases e : j = i
      · rw [e]; exact h0
      · rw [unit j hi (by omega), if_neg (by omega)]
    have plb : ∀ x c, x < i + 1 → d x < gq p ∧ gpl p kind n k x c < gq p := fun x c _ => ⟨dlt x, gpl_lt o1 o5 (by omega) o4 x c⟩
    by_cases hk : kind = 0
    · have := g_roots o1 (i + 1) d (fun j => gpw p (fr + j)) dlt (fun j hj => (g_pw o1 (by omega)).2.1) (fun a c ha hc' e => by
        have := g_pw_inj o1 (by omega) (by omega) e
        omega) (fun j hj => by
        rw [← zer j (by omega)]
        refine gsum_congr (i + 1) (fun x hx => ⟨rfl, ?_⟩)
        unfold gpl
        rw [if_pos (by omega), if_pos hk]) i (by omega)
      omega
    · have pl : ∀ x c, c < n → gpl p kind n k x c = if c < x then 0 else ggen p (n - k) (c - x) := fun x c hcn => by
        unfold gpl
        rw [if_pos hcn, if_neg hk]
      rcases hfr with hf | hf
      · have g0 := ggen_bot o1 (n - k) (by omega)
        have gl := ggen_lt o1 (n - k) (by omega) 0
        have dj : ∀ N j, j < N → j < i + 1 → d j = 0 := by
          intro N
          induction N with
          | zero => intro j hj; exact absurd hj (Nat.not_lt_zero _)
          | succ N ih =>
            intro j hj hji
            have e := zer j (by omega)
            rw [gsum_one (j := j) o1 (i + 1) hji (fun x hx => plb x _ hx) (fun x hx hne => ?_)] at e
            · rw [pl j _ (by omega), if_neg (by omega), show fr + j - j = 0 by omega, (g_two o1 (dlt j) gl).2.1] at e
              exact g_mz o1 gl (dlt j) g0 e
            · by_cases hxj : x < j
              · exact Or.inl (ih x (by omega) hx)
              · right
                rw [pl x _ (by omega), if_pos (by omega)]
        have := dj (i + 1) i (by omega) (by omega)
        omega
      · have e := zer i (Nat.le_refl _)
        rw [gsum_one (j := i) o1 (i + 1) (by omega) (fun x hx => plb x _ hx) (fun x hx hne => ?_)] at e
        · rw [di, pl i _ (by omega), if_neg (by omega), show fr + i - i = n - k by omega, ggen_top o1 (n - k) (by omega), g_1r o1 (by omega)] at e
          omega
        · right
          rw [pl x _ (by omega), if_neg (by omega)]
          exact ggen_0 o1 (n - k) (by omega) _ (by omega)
  have all : ∀ N i, i < N → i < k → gga p fr (gpl p kind n k) i i (fr + i) ≠ 0 := by
    intro N
    induction N with
    | zero => intro i hi; exact absurd hi (Nat.not_lt_zero _)
    | succ N ih => exact fun i hi hik => st i hik (fun j hj => ih j (by omega) (by omega))
  exact fun i hi => all (i + 1) i (by omega) hi
theorem PVT_all : PVT := fun _ _ _ _ hc => ⟨pvt_at hc (Or.inl rfl), pvt_at hc (Or.inr rfl)⟩
