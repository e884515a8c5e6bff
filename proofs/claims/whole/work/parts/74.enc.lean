/-! encoding is the same on both sides -/
section EN
variable {p kind n k : Nat} {msg : Nat → Nat}
theorem gtr_unit (hc : okc p kind n k) {r j : Nat} (hr : r < k) (hj : j < k) : gtr p kind n k r (n - k + j) = if r = j then 1 else 0 :=
  gj_unit (w := n + k) (m := k) hc.1 (by have := hc.2.2.2.1; omega) (lk_A hc) (Nat.le_refl _) (pvt_at hc (Or.inr rfl)) k (Nat.le_refl _) r j hr hj
theorem enc_plain {t : Nat} (h : ∀ j, j < k → tdg (gq p) t j = msg j) (i : Nat) : gel p kind n k t i = genc p kind n k msg false i := by
  show gsum p (tdg (gq p) t) (fun j => gpl p kind n k j i) k = gsum p msg (fun j => if false = true then gtr p kind n k j i else gpl p kind n k j i) k
  exact gsum_congr k (fun j hj => ⟨h j hj, by rw [if_neg (by decide)]⟩)
theorem enc_sys (hc : okc p kind n k) {t : Nat} (h : ∀ j, j < k → gel p kind n k t (n - k + j) = msg j) {i : Nat} (hi : i < n) : gel p kind n k t i = genc p kind n k msg true i := by
  obtain ⟨o1, o2, o3, o4, o5, o6, o7⟩ := id hc
  have hl := gtr_lt PVT_all hc
  have e1 : gel p kind n k t i = gsum p (tdg (gq p) t) (fun x => gsum p (fun r => gpl p kind n k x (n - k + r)) (fun r => gtr p kind n k r i) k) k := by
    show gsum p (tdg (gq p) t) (fun j => gpl p kind n k j i) k = _
    refine gsum_congr k (fun x hx => ⟨rfl, ?_⟩)
    rw [gj_exp (w := n + k) (m := k) (fr := n - k) o1 (by omega) (lk_A hc) (Nat.le_refl _) (pvt_at hc (Or.inr rfl)) hx k (Nat.le_refl _) i (by omega)]
    exact gsum_congr k (fun r hr => ⟨by rw [if_pos hr], rfl⟩)
  rw [e1, gsum_swap (b := fun x r => gpl p kind n k x (n - k + r)) o1 k (fun j _ => tdg_lt o1) (fun j x hj hx => lk_A hc j _ hj (by omega)) (fun x hx => hl x i hx (by omega))]
  unfold genc
  exact gsum_congr k (fun r hr => ⟨h r hr, by rw [if_pos rfl]⟩)
theorem enc_ex (hc : okc p kind n k) (hm : ∀ i, i < k → msg i < gq p) : ∃ t, t < gq p ^ k ∧ ∀ j, j < k → gel p kind n k t (n - k + j) = msg j := by
  obtain ⟨o1, o2, o3, o4, o5, o6, o7⟩ := id hc
  have hq := gq_b o1
  have hl := gtr_lt PVT_all hc
  have ml : ∀ x, x < k → gsum p msg (fun j => gtr p kind n k j (n + x)) k < gq p := fun x hx => gsum_lt o1 k (fun j hj => ⟨hm j hj, hl j (n + x) hj (by omega)⟩)
  have dg : ∀ x, x < k → tdg (gq p) (tnm (gq p) (fun x => gsum p msg (fun j => gtr p kind n k j (n + x)) k) 0 k) x = gsum p msg (fun j => gtr p kind n k j (n + x)) k := fun x hx => by
    have := tnm_dg (q := gq p) (d := fun x => gsum p msg (fun j => gtr p kind n k j (n + x)) k) (by omega) k 0 (fun i _ hi => ml i (by omega)) x hx
    rw [Nat.zero_add] at this
    exact this
  refine ⟨_, tnm_lt k 0 (fun i _ hi => ml i (by omega)), fun r hr => ?_⟩
  have e1 : gsum p msg (fun j => gtr p kind n k j (n - k + r)) k = gsum p msg (fun j => gsum p (fun x => gtr p kind n k j (n + x)) (fun x => gpl p kind n k x (n - k + r)) k) k := by
    refine gsum_congr k (fun j hj => ⟨rfl, ?_⟩)
    exact gj_trk (w := n + k) (m := k) o1 (by omega) (lk_A hc) (Nat.le_refl _) (pvt_at hc (Or.inr rfl)) (n := n) (Nat.le_refl _) (fun r x _ _ => gpl_own) k (Nat.le_refl _) j (n - k + r) hj (by omega)
  rw [gsum_swap (b := fun j x => gtr p kind n k j (n + x)) o1 k (fun j hj => hm j hj) (fun j x hj hx => hl j (n + x) hj (by omega)) (fun x hx => lk_A hc x _ hx (by omega))] at e1
  have e2 : gsum p msg (fun j => gtr p kind n k j (n - k + r)) k = msg r := by
    rw [gsum_one (j := r) o1 k hr (fun x hx => ⟨hm x hx, hl x _ hx (by omega)⟩) (fun x hx hne => Or.inr (by rw [gtr_unit hc hx hr, if_neg hne])), gtr_unit hc hr hr, if_pos rfl, g_1r o1 (hm r hr)]
  rw [← e2, e1]
  show gsum p (tdg (gq p) _) (fun j => gpl p kind n k j (n - k + r)) k = _
  exact gsum_congr k (fun x hx => ⟨dg x hx, rfl⟩)
end EN
