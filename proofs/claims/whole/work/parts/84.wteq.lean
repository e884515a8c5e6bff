/-! the weight: the theorem -/
theorem weight_eq {p kind n k s z z' : Nat} {w : Nat → Nat} {er : Nat → Bool} (hc : okc p kind n k) (hw : ∀ i, i < n → w i < gq p) (hs1 : 1 ≤ s) (hs3 : s ≤ 3) (h1 : WC p kind n k w er s z) (h2 : WM p kind n k w er s z') : z = z' := by
  obtain ⟨hp, G, wt, hI, ez⟩ := h1
  obtain ⟨r, D, ez', hrS, D1, D2, D3, D4, D5⟩ := h2
  obtain ⟨o1, o2, o3, o4, o5, o6, o7⟩ := id hc
  have hq := gq_b hp
  have k4 := hc.k4
  have hop := gopen_le er n
  obtain ⟨-, kb6, kb1, -⟩ := kof_end s (by omega) hs1
  have hxl : ∀ o, gxs p n er o < gq p := fun o => gxs_lt hc o
  have hyl : ∀ o, gys p kind n w er o < gq p := fun o => gys_lt hc hw o
  have hS : gopen er n * kblk s ≤ 120 := by
    have h1 : gopen er n * kblk s ≤ 20 * kblk s := Nat.mul_le_mul_right _ (by omega)
    omega
  have pm := fun t ht => kperm (xs := gxs p n er) (ys := gys p kind n w er) (S := gopen er n * kblk s) (o := gopen er n) hp hs1 hs3 hxl hyl rfl (t := t) ht
  obtain ⟨j1, j2⟩ := jb_ok (c := gopen er n * kblk s) (k1 := k - 1) hS (by omega) (by omega)
  have hbl := gbdF_le (gopen er n * kblk s) (k - 1) (gopen er n * kblk s) 0
  have hbd : gbd (gopen er n * kblk s) (k - 1) ≤ 120 := by unfold gbd; omega
  have hPe : gpwN (gopen er n) k s = gbd (gopen er n * kblk s) (k - 1) / (k - 1) + 1 := by unfold gpwN; rw [if_neg (by omega)]
  rw [hPe] at hI ez
  have gTk : ∀ b c, gT p kind n k w er s b c = gterm p (gxs p n er) (gys p kind n w er) s ((kdec (k - 1) b).1 - (k - 1) * (kdec (k - 1) b).2) (kdec (k - 1) b).2 c := fun _ _ => rfl
  generalize gopen er n * kblk s = S at hS pm j1 hbd hI ez hrS D4 D5
  generalize gbd S (k - 1) = bd at j1 hbd hI ez
  have hk1 : 0 < k - 1 := by omega
  have hPw : ∀ v, v < bd + 1 → v / (k - 1) < bd / (k - 1) + 1 := fun v hv => Nat.lt_succ_of_le (Nat.div_le_div_right (by omega))
  generalize hP : bd / (k - 1) + 1 = P at hI ez hPw
  letI : Lean.Grind.Field (GE p) := gfield p hp
  have Ev : ∀ b t, (kEF hp (gxs p n er) (gys p kind n w er) s (k - 1) (kdec (k - 1) b).1 (kdec (k - 1) b).2 t).1 = kE p (gxs p n er) (gys p kind n w er) s ((kdec (k - 1) b).1 - (k - 1) * (kdec (k - 1) b).2) (kdec (k - 1) b).2 t := fun b t => by
    unfold kEF
    rw [if_pos (kdec_ok b)]
    exact fe_v hp (by rw [kE_c hp hs1 hs3 hxl hyl]; exact gcond_lt hp (hxl _) (hyl _))
  have gTl : ∀ b c, gT p kind n k w er s b c < gq p := fun b c => gcond_lt hp (hxl _) (hyl _)
  obtain ⟨v0, a0, q1, q2, q3⟩ := gprs_in (k1 := k - 1) (bd + 1) r (by omega)
  have kr : kdec (k - 1) r = (v0, a0) := by rw [q3]; exact kdec_at hk1 v0 a0 q2
  rw [kr] at ez'
  have ez' : z' = v0 := ez'
  have far : ∀ v, v0 < v → r < gprs (k - 1) v := fun v hv => by
    have h := gprs_mono (k1 := k - 1) v (show v0 + 1 ≤ v from hv)
    rw [gprs] at h
    omega
  have z0 : (0 : GE p).1 = 0 := rfl
  have up : z ≤ z' := by
    obtain ⟨Q, hQ⟩ : ∃ Q : Nat → Nat → GE p, ∀ v j, Q v j = if (k - 1) * j ≤ v then fe hp (D (gprs (k - 1) v + j)) else 0 := ⟨_, fun _ _ => rfl⟩
    have hne : ∀ v j, Q v j ≠ 0 → (k - 1) * j ≤ v ∧ gprs (k - 1) v + j ≤ r := fun v j h => by
      rw [hQ] at h
      by_cases h1 : (k - 1) * j ≤ v
      · rw [if_pos h1] at h
        refine ⟨h1, Nat.le_of_not_lt (fun h2 => h (ge_ext ?_))⟩
        rw [D3 _ h2, fe_v hp (by omega)]
        rfl
      · rw [if_neg h1] at h
        exact absurd rfl h
    have hvz : ∀ v j, Q v j ≠ 0 → v ≤ v0 := fun v j h => Nat.le_of_not_lt (fun h2 => by
      have := far v h2
      have := (hne v j h).2
      omega)
    have hsup : psup (k - 1) 1000 P Q := fun v j h => by
      have h1 := hne v j h
      have h2 := hvz v j h
      have h3 : j ≤ v / (k - 1) := (Nat.le_div_iff_mul_le hk1).2 (by rw [Nat.mul_comm]; exact h1.1)
      have h4 := hPw v (by omega)
      exact ⟨h1.1, by omega, by omega⟩
    have hv0 : (k - 1) * a0 ≤ v0 := by
      have := kdec_ok (k1 := k - 1) r
      rw [kr] at this
      exact this
    have hlead : lead Q v0 a0 := by
      refine ⟨fun h => ?_, fun v j hlt => Classical.byContradiction (fun h => ?_)⟩
      · rw [hQ, if_pos hv0, ← q3, D2] at h
        have := congrArg Subtype.val h
        rw [fe_v hp (by omega)] at this
        exact absurd this (by rw [show ((0 : GE p)).1 = 0 from rfl]; decide)
      · have h1 := hne v j h
        rcases hlt with h2 | ⟨h2, h3⟩
        · have := hvz v j h
          omega
        · rw [← h2] at h1
          omega
    have hpass : kpass (kEF hp (gxs p n er) (gys p kind n w er) s (k - 1)) 1000 P S Q := fun t ht => by
      obtain ⟨t', ht', hpm⟩ := pm t ht
      rw [ev_kd (W := bd + 1) hk1 (fun v j h => ⟨(hne v j h).1, by have := hvz v j h; omega⟩) (by omega) hPw t]
      apply ge_ext
      refine (sm_gsum hp _).trans ?_
      have e := gsum_ext (g := D) (A := fun b => gT p kind n k w er s b t') hp (m := r + 1) (gprs (k - 1) (bd + 1) - (r + 1)) (fun i hi => D3 i (by omega)) (fun i => gTl i t')
      rw [show r + 1 + (gprs (k - 1) (bd + 1) - (r + 1)) = gprs (k - 1) (bd + 1) by omega, D4 t' ht'] at e
      refine Eq.trans (gsum_congr _ (fun b hb => ⟨?_, ?_⟩)) e
      · obtain ⟨v, a, b1, b2, b3⟩ := gprs_in (k1 := k - 1) (bd + 1) b hb
        have hv := kdec_ok (k1 := k - 1) b
        have kb : kdec (k - 1) b = (v, a) := by rw [b3]; exact kdec_at hk1 v a b2
        rw [kb] at hv
        rw [kb, hQ, if_pos hv, ← b3, fe_v hp (D1 b)]
      · rw [Ev, gTk]
        exact ((hpm _ _).1).symm
    have hwt := hI.2 Q v0 a0 hsup hpass hlead
    have hl := lmn_wt bd wt P (hsup v0 a0 hlead.1).2.2
    omega
  have down : z' ≤ z := by
    rcases lmn_or bd wt P with h | ⟨j, hj, h⟩
    · omega
    · refine Nat.le_of_not_lt (fun hlt => ?_)
      have hwj : wt j < v0 := by omega
      obtain ⟨g1, g2, g3⟩ := hI.1 j hj
      have hne : ∀ v a, G j v a ≠ 0 → (k - 1) * a ≤ v ∧ v < v0 := fun v a h => ⟨(g2 v a h).1, by have := lead_sup g1 h; omega⟩
      have hEz : ∀ b, gprs (k - 1) v0 ≤ b → b < gprs (k - 1) (bd + 1) → G j (kdec (k - 1) b).1 (kdec (k - 1) b).2 = 0 := fun b hb hb2 => Classical.byContradiction (fun hx => by
        have h1 := (hne _ _ hx).2
        obtain ⟨v, a, b1, b2, b3⟩ := gprs_in (k1 := k - 1) (bd + 1) b hb2
        have kb : kdec (k - 1) b = (v, a) := by rw [b3]; exact kdec_at hk1 v a b2
        rw [kb] at h1
        have h3 := gprs_mono (k1 := k - 1) v0 (show v + 1 ≤ v0 from h1)
        rw [gprs] at h3
        omega)
      obtain ⟨E', hE'⟩ : ∃ E' : Nat → Nat, ∀ b, E' b = if b < r then (G j (kdec (k - 1) b).1 (kdec (k - 1) b).2).1 else 0 := ⟨_, fun _ => rfl⟩
      have hlow : gprs (k - 1) v0 ≤ r := by omega
      have E0 := D5 E' (fun b => by
        rw [hE']
        split
        · exact (G j (kdec (k - 1) b).1 (kdec (k - 1) b).2).2
        · omega) (fun b hb => by rw [hE', if_neg (by omega)]) (fun c hcS => by
        obtain ⟨t, ht, hpm⟩ := pm c hcS
        have e := gsum_ext (g := E') (A := fun b => gT p kind n k w er s b c) hp (m := gprs (k - 1) v0) (r - gprs (k - 1) v0) (fun b hb => by
          rw [hE']
          by_cases hbr : b < r
          · rw [if_pos hbr, hEz b hb (by omega)]; rfl
          · rw [if_neg hbr]) (fun b => gTl b c)
        rw [show gprs (k - 1) v0 + (r - gprs (k - 1) v0) = r by omega] at e
        rw [e]
        have ev0 := g3 t ht
        rw [ev_kd (W := v0) hk1 hne (by omega) (fun v hv => hPw v (by omega)) t] at ev0
        have ev1 := congrArg Subtype.val ev0
        rw [show ((0 : GE p)).1 = 0 from rfl] at ev1
        refine Eq.trans (Eq.trans (gsum_congr _ (fun b hb => ⟨?_, ?_⟩)) (sm_gsum hp _).symm) ev1
        · rw [hE', if_pos (by omega)]
        · rw [Ev, gTk]
          exact ((hpm _ _).2).symm)
      have hja : j ≤ wt j / (k - 1) := (Nat.le_div_iff_mul_le hk1).2 (by rw [Nat.mul_comm]; exact (g2 _ _ g1.1).1)
      have e := E0 (gprs (k - 1) (wt j) + j)
      have h3 := gprs_mono (k1 := k - 1) v0 (show wt j + 1 ≤ v0 from hwj)
      rw [gprs] at h3
      rw [hE', if_pos (by omega), kdec_at hk1 _ _ hja] at e
      exact g1.1 (ge_ext e)
  omega
