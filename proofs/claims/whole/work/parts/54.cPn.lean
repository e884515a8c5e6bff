/-! Passing.meet -/
theorem c_meet {nn : Nat} {R : xR} {M : xM} {P : xM → Prop} (hn : 78 ≤ nn) (hR : RC 78 R) {p c o pl blk pw : Nat} (hF : FI p M) (hpw : M 56 5 = pw) (h16 : pw ≤ 16) (hpl : M 56 3 = pl) (hp20 : pl ≤ 20) (hblk : M 56 4 = blk) (hb1 : 1 ≤ blk) (hb6 : blk ≤ 6) (ho : o < pl) (hco : o * blk ≤ c) (hco2 : c < o * blk + blk) (X wt : Nat → Nat) (V : Nat → Nat → Nat) (u0 : Nat → Bool) (hX : ∀ i, i < pl → M 57 i = X i ∧ X i < gq p) (hu : ∀ t, t < pl * blk → M 59 t = if u0 t = true then 1 else 0) (hu0 : ∀ i, u0 (i * blk) = true)
    (hV : ∀ j t, j < pw → o * blk ≤ t → t < pl * blk → M (62 + j) t = V j t ∧ V j t < gq p) (hw : ∀ j, j < pw → M 60 j = wt j ∧ wt j < 1000000)
    (h0 : (∀ j, j < pw → V j c = 0) → P M)
    (h1 : ∀ l : Nat, l < pw → V l c ≠ 0 → (∀ j, j < pw → V j c ≠ 0 → j = l ∨ ple (wt l) l (wt j) j) → ∀ M' : xM, (∀ d, d < 60 ∨ d = 61 ∨ 78 ≤ d → M' d = M d) → (∀ j, j < pw → M' 60 j = (if j = l then wt l + 1 else wt j : Nat)) →
      (∀ j t, j < pw → j ≠ l → o * blk ≤ t → t < pl * blk → M' (62 + j) t = (if c ≤ t then V j t ^^^ gmul p (gdiv p (V j c) (V l c)) (V l t) else V j t : Nat)) →
      (∀ t, o * blk ≤ t → t < pl * blk → M' (62 + l) t = ((if u0 t = true then 0 else V l (t - 1)) ^^^ gmul p (X (t / blk) ^^^ X o) (V l t) : Nat)) → P M') : Cv m_P_meet 2 nn R [vr 56, vi c, vi o] M P := by
  have hq := gq_b hF.1
  have hob := mul_blk (blk := blk) ho
  have hC : pl * blk ≤ 120 := by
    have h1 : pl * blk ≤ 20 * blk := Nat.mul_le_mul_right _ hp20
    omega
  refine E_P_meet hn hR (B_P_meet_0 hn hR ?_)
  refine c_failingLeast hn hR hF.1 hpw h16 (by omega) (fun j => V j c) wt (fun j hj => hV j c hj hco (by omega)) hw (fun hz => ⟨by decide, fun g => absurd g (by decide), fun _ => h0 hz⟩) (fun l hl hvl hmin => ?_)
  refine ⟨by omega, fun _ => ⟨by omega, ?_⟩, fun g => absurd (by omega) g⟩
  rw [Int.toNat_natCast]
  have hvl' : V l c < gq p := (hV l c hl hco (by omega)).2
  have hl1 : (0 : Int) ≤ ((l : Nat) : Int) ∧ ((l : Nat) : Int) < 16 := by omega
  have tt : ((l : Nat) : Int).toNat = l := Int.toNat_natCast l
  refine upto (σ := xM) (fun j M1 => Xv m_P_meet 2 nn R P 22 [some (vr 56), some (vi c), some (vi o), some (vi l), some (vr (62 + l)), some (vi j), none] [] M1) (fun j M1 => (∀ d, d < 62 ∨ 78 ≤ d → M1 d = M d) ∧ M1 (62 + l) = M (62 + l) ∧ (∀ i t, i < pw → i ≠ l → j ≤ i → M1 (62 + i) t = M (62 + i) t) ∧ ∀ i t, i < j → i ≠ l → o * blk ≤ t → t < pl * blk → M1 (62 + i) t = (if c ≤ t then V i t ^^^ gmul p (gdiv p (V i c) (V l c)) (V l t) else V i t : Nat)) pw (fun j M1 hj hI ih => ?_) (fun M1 hI => ?_) 0 M (by omega) ⟨fun _ _ => rfl, rfl, fun _ _ _ _ _ => rfl, fun i t hi => by omega⟩
  · obtain ⟨a1, a2, a3, a4⟩ := hI
    have hF1 : FI p M1 := hF.keep (fun d h1 h2 => a1 d (by omega))
    have B := B_P_meet_22 (M := M1) (P := P) hn hR (l1 := c) (l2 := o) (l3 := l) (l5 := j) (l4 := l) hl1
    rw [tt] at B
    refine B ?_
    rw [a1 56 (by omega), hpw, Int.toNat_natCast, Int.toNat_natCast]
    refine ⟨by omega, by omega, fun g => absurd g (by omega), fun _ => ⟨by omega, fun g => ?_, fun g => ?_⟩⟩
    · have hjl : j = l := by omega
      exact ih M1 ⟨a1, a2, fun i t h2 h3 h4 => a3 i t h2 h3 (by omega), fun i t h2 h3 h4 h5 => a4 i t (by omega) h3 h4 h5⟩
    · have hjl : j ≠ l := by omega
      have hvj := hV j c hj hco (by omega)
      have hr : M1 (62 + j) c = V j c := by rw [a3 j c hj hjl (Nat.le_refl _)]; exact hvj.1
      have hrl : M1 (62 + l) c = V l c := by rw [a2]; exact (hV l c hl hco (by omega)).1
      rw [hr, hrl]
      refine ⟨by omega, by omega, by omega, fun g2 => ?_, fun g2 => ?_⟩
      · have hz : V j c = 0 := by omega
        refine ih M1 ⟨a1, a2, fun i t h2 h3 h4 => a3 i t h2 h3 (by omega), fun i t h2 h3 h4 h5 => ?_⟩
        by_cases hij : i = j
        · rw [hij, a3 j t hj hjl (Nat.le_refl _), (hV j t hj h4 h5).1, hz]
          have e0 : gdiv p 0 (V l c) = 0 := (g_one hF.1 (g_inv hF.1 hvl' hvl).2.2.2.1).2.1
          rw [e0, (g_one hF.1 (hV l t hl h4 h5).2).2.1, Nat.xor_zero, ite_self]
        · exact a4 i t (by omega) h3 h4 h5
      · refine c_quotient hn hR hF1 hvj.2 hvl' hvl ?_
        rw [a1 56 (by omega), hpl, hblk, ← Int.natCast_mul]
        refine c_addMultiple hn hR hF1 (g_div_lt hF.1 hvj.2 hvl' hvl) (rowS_62 (by omega)) (by omega) (by decide) (rowS_62 (by omega)) (by omega) (by decide) (by omega) (by omega) (fun t => V j t) (fun t => V l t) (fun t h2 h3 => by rw [a3 j t hj hjl (Nat.le_refl _)]; exact hV j t hj (by omega) h3) (fun t h2 h3 => by rw [a2]; exact hV l t hl (by omega) h3) (by omega) (by omega) (by omega) (fun M2 d1 d2 => ?_)
        refine ih M2 ⟨fun d hd => by rw [d1 d (by omega)]; exact a1 d hd, by rw [d1 _ (by omega)]; exact a2, fun i t h2 h3 h4 => by rw [d1 _ (by omega)]; exact a3 i t h2 h3 (by omega), fun i t h2 h3 h4 h5 => ?_⟩
        by_cases hij : i = j
        · rw [hij, d2 t]
          by_cases hct : c ≤ t
          · rw [if_pos ⟨hct, h5⟩, if_pos hct]
          · rw [if_neg (by omega), if_neg hct, a3 j t hj hjl (Nat.le_refl _)]
            exact (hV j t hj h4 h5).1
        · rw [d1 _ (by omega)]
          exact a4 i t (by omega) h3 h4 h5
  · obtain ⟨a1, a2, a3, a4⟩ := hI
    have hF1 : FI p M1 := hF.keep (fun d h1 h2 => a1 d (by omega))
    have B := B_P_meet_22 (M := M1) (P := P) hn hR (l1 := c) (l2 := o) (l3 := l) (l5 := pw) (l4 := l) hl1
    rw [tt] at B
    refine B ?_
    rw [a1 56 (by omega), hpw]
    refine ⟨by omega, by omega, fun _ => ?_, fun g => absurd (Int.le_refl _) g⟩
    refine c_timesLinear hn hR hF1 (by omega) (by rw [a1 56 (by omega)]; exact hpl) hp20 (by rw [a1 56 (by omega)]; exact hblk) hb1 hb6 ho X (V l) u0 (fun i hi => by rw [a1 57 (by omega)]; exact hX i hi) (fun t ht => by rw [a1 59 (by omega)]; exact hu t ht) hu0 (fun t h2 h3 => by rw [a2]; exact hV l t hl h2 h3) (fun M2 d1 d2 => ?_)
    refine ⟨by omega, fun M3 e3 => h1 l hl hvl hmin M3 (fun d hd => by rw [e3, xU_o (by omega), d1 d (by omega)]; exact a1 d (by omega)) (fun j hj => ?_) (fun j t hj hjl h2 h3 => by rw [e3, xU_o (by omega), d1 _ (by omega)]; exact a4 j t hj hjl h2 h3) (fun t h2 h3 => by rw [e3, xU_o (by omega)]; exact d2 t h2 h3)⟩
    have e60 : M2 60 = M 60 := by rw [d1 60 (by omega)]; exact a1 60 (by omega)
    by_cases hjl : j = l
    · rw [hjl, e3, xU_s, e60, (hw l hl).1, if_pos rfl]
      rfl
    · rw [e3, xU_n hjl, e60, (hw j hj).1, if_neg hjl]
