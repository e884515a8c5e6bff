/-! Passing: failingLeast, timesLinear, meet -/
theorem c_failingLeast {nn : Nat} {R : xR} {M : xM} {P : Int → xM → Prop} (hn : 78 ≤ nn) (hR : RC 78 R) {p pw c : Nat} (hp : p ∈ grims) (hpw : M 56 5 = pw) (h16 : pw ≤ 16) (hc : c < 120) (V wt : Nat → Nat) (hV : ∀ j, j < pw → M (62 + j) c = V j ∧ V j < gq p) (hw : ∀ j, j < pw → M 60 j = wt j ∧ wt j < 1000000)
    (h0 : (∀ j, j < pw → V j = 0) → P (-1) M) (h1 : ∀ l : Nat, l < pw → V l ≠ 0 → (∀ j, j < pw → V j ≠ 0 → j = l ∨ ple (wt l) l (wt j) j) → P l M) : Ci m_P_failingLeast 0 nn R [vr 56, vi c] M P := by
  have hq := gq_b hp
  refine E_P_failingLeast hn hR (B_P_failingLeast_0 hn hR ?_)
  refine upto (σ := Int) (fun j z => Xi m_P_failingLeast 0 nn R P 4 [some (vr 56), some (vi c), some (vi z), some (vi j)] [] M) (fun j z => (z = -1 ∧ ∀ i, i < j → V i = 0) ∨ ∃ l : Nat, z = l ∧ l < j ∧ V l ≠ 0 ∧ ∀ i, i < j → V i ≠ 0 → i = l ∨ ple (wt l) l (wt i) i) pw (fun j z hj hI ih => ?_) (fun z hI => ?_) 0 (-1) (by omega) (Or.inl ⟨rfl, fun i hi => by omega⟩)
  · obtain ⟨v1, v2⟩ := hV j hj
    obtain ⟨w1, w2⟩ := hw j hj
    refine B_P_failingLeast_4 hn hR ?_
    rw [hpw, Int.toNat_natCast, Int.toNat_natCast, v1, w1]
    refine ⟨by omega, by omega, fun g => absurd g (by omega), fun _ => ⟨by omega, by omega, by omega, fun g => ?_, fun g => ?_⟩⟩
    · have vz : V j = 0 := by omega
      refine ih z ?_
      rcases hI with ⟨e, hz⟩ | ⟨l, e, hl, hv, hm⟩
      · refine Or.inl ⟨e, fun i hi => ?_⟩
        by_cases hij : i = j
        · rw [hij]; exact vz
        · exact hz i (by omega)
      · refine Or.inr ⟨l, e, by omega, hv, fun i hi hv2 => ?_⟩
        by_cases hij : i = j
        · rw [hij] at hv2; exact absurd vz hv2
        · exact hm i (by omega) hv2
    · have vz : V j ≠ 0 := by omega
      rcases hI with ⟨e, hz⟩ | ⟨l, e, hl, hv, hm⟩
      · subst e
        refine ⟨by decide, fun _ => ih j (Or.inr ⟨j, rfl, by omega, vz, fun i hi hv2 => ?_⟩), fun g2 => absurd (by decide) g2⟩
        by_cases hij : i = j
        · exact Or.inl hij
        · exact absurd (hz i (by omega)) hv2
      · subst e
        obtain ⟨w3, w4⟩ := hw l (by omega)
        rw [Int.toNat_natCast, w3]
        refine ⟨by omega, fun g2 => absurd g2 (by omega), fun _ => ⟨by omega, by omega, by omega, fun g3 => ih l (Or.inr ⟨l, rfl, by omega, hv, fun i hi hv2 => ?_⟩), fun g3 => ih j (Or.inr ⟨j, rfl, by omega, vz, fun i hi hv2 => ?_⟩)⟩⟩
        · by_cases hij : i = j
          · right
            rw [hij]
            unfold ple
            omega
          · exact hm i (by omega) hv2
        · by_cases hij : i = j
          · exact Or.inl hij
          · have := hm i (by omega) hv2
            right
            unfold ple at this ⊢
            rcases this with h2 | h2
            · subst h2
              omega
            · omega
  · refine B_P_failingLeast_4 hn hR ?_
    rw [hpw]
    refine ⟨by omega, by omega, fun _ => ?_, fun g => absurd (Int.le_refl _) g⟩
    rcases hI with ⟨e, hz⟩ | ⟨l, e, hl, hv, hm⟩
    · rw [e]; exact h0 hz
    · rw [e]; exact h1 l hl hv hm
theorem mul_blk {a b blk : Nat} (h : a < b) : a * blk + blk ≤ b * blk := by
  have := Nat.mul_le_mul_right blk (show a + 1 ≤ b from h)
  rw [Nat.succ_mul] at this
  exact this
theorem c_timesLinear {nn : Nat} {R : xR} {M : xM} {P : xM → Prop} (hn : 78 ≤ nn) (hR : RC 78 R) {p l o pl blk : Nat} (hF : FI p M) (hl : l < 16) (hpl : M 56 3 = pl) (hp20 : pl ≤ 20) (hblk : M 56 4 = blk) (hb1 : 1 ≤ blk) (hb6 : blk ≤ 6) (ho : o < pl) (X V : Nat → Nat) (u0 : Nat → Bool) (hX : ∀ i, i < pl → M 57 i = X i ∧ X i < gq p) (hu : ∀ t, t < pl * blk → M 59 t = if u0 t = true then 1 else 0) (hu0 : ∀ i, u0 (i * blk) = true) (hV : ∀ t, o * blk ≤ t → t < pl * blk → M (62 + l) t = V t ∧ V t < gq p)
    (h : ∀ M' : xM, (∀ c, c ≠ 62 + l → M' c = M c) → (∀ t, o * blk ≤ t → t < pl * blk → M' (62 + l) t = ((if u0 t = true then 0 else V (t - 1)) ^^^ gmul p (X (t / blk) ^^^ X o) (V t) : Nat)) → P M') : Cv m_P_timesLinear 1 nn R [vr 56, vr (62 + l), vi o] M P := by
  have hq := gq_b hF.1
  have hC : pl * blk ≤ 120 := by
    have h1 : pl * blk ≤ 20 * blk := Nat.mul_le_mul_right _ hp20
    omega
  have hl1 : (0 : Int) ≤ ((l : Nat) : Int) ∧ ((l : Nat) : Int) < 16 := by omega
  have tt : ((l : Nat) : Int).toNat = l := Int.toNat_natCast l
  have E := E_P_timesLinear (M := M) (P := P) hn hR (l2 := o) (l1 := l) hl1
  rw [tt] at E
  refine E ?_
  have B0 := B_P_timesLinear_0 (M := M) (P := P) hn hR (l2 := o) (l1 := l) hl1
  rw [tt] at B0
  refine B0 ?_
  refine upto (σ := xM) (fun i M1 => Xv m_P_timesLinear 1 nn R P 2 [some (vr 56), some (vr (62 + l)), some (vi o), some (vi i), none, none, none] [] M1) (fun i M1 => o ≤ i ∧ (∀ c, c ≠ 62 + l → M1 c = M c) ∧ (∀ t, o * blk ≤ t → t < i * blk → M1 (62 + l) t = ((if u0 t = true then 0 else V (t - 1)) ^^^ gmul p (X (t / blk) ^^^ X o) (V t) : Nat)) ∧ ∀ t, i * blk ≤ t → M1 (62 + l) t = M (62 + l) t) pl (fun i M1 hi hI ih => ?_) (fun M1 hI => ?_) o M (by omega) ⟨Nat.le_refl _, fun _ _ => rfl, fun t h1 h2 => by omega, fun _ _ => rfl⟩
  · obtain ⟨a0, a1, a2, a3⟩ := hI
    have hib := mul_blk (blk := blk) hi
    have hoi : o * blk ≤ i * blk := Nat.mul_le_mul_right _ a0
    have hxi := hX i hi
    have hxo := hX o ho
    have hgx := (g_two hF.1 hxi.2 hxo.2).2.2.2
    have B2 := B_P_timesLinear_2 (M := M1) (P := P) hn hR (l2 := o) (l3 := i) (l1 := l) hl1
    rw [tt] at B2
    refine B2 ?_
    rw [a1 56 (by omega), a1 57 (by omega), hpl, hblk, Int.toNat_natCast, Int.toNat_natCast, hxi.1, hxo.1, xXor_n (by omega) (by omega)]
    refine ⟨by omega, by omega, fun g => absurd g (by omega), fun _ => ⟨by omega, by omega, ?_⟩⟩
    have e0 : ((i : Int) + 1) * (blk : Int) - 1 = ((i * blk + blk : Nat) : Int) - 1 := by
      rw [Int.add_mul, Int.one_mul, ← Int.natCast_mul]
      omega
    rw [e0]
    have key := downto (σ := xM) (fun j M2 => Xv m_P_timesLinear 1 nn R P 37 [some (vr 56), some (vr (62 + l)), some (vi o), some (vi i), some (vi (X i ^^^ X o : Nat)), some (vi ((i * blk + j : Nat) - 1 : Int)), none] [] M2) (fun j M2 => j ≤ blk ∧ (∀ c, c ≠ 62 + l → M2 c = M c) ∧ (∀ t, t < i * blk + j → M2 (62 + l) t = M1 (62 + l) t) ∧ (∀ t, i * blk + j ≤ t → t < i * blk + blk → M2 (62 + l) t = ((if u0 t = true then 0 else V (t - 1)) ^^^ gmul p (X (t / blk) ^^^ X o) (V t) : Nat)) ∧ ∀ t, i * blk + blk ≤ t → M2 (62 + l) t = M (62 + l) t) (fun j M2 hJ jh => ?_) (fun M2 hJ => ?_) blk M1 ⟨Nat.le_refl _, a1, fun _ _ => rfl, fun t h1 h2 => by omega, fun t h1 => a3 t (by omega)⟩
    · exact key
    · obtain ⟨b0, b1, b2, b3, b4⟩ := hJ
      have hF2 : FI p M2 := hF.keep (fun c h1 h2 => b1 c (by omega))
      have hvt := hV (i * blk + j) (by omega) (by omega)
      have et : (((i * blk + (j + 1) : Nat) : Int) - 1).toNat = i * blk + j := by omega
      have hrow : M2 (62 + l) (i * blk + j) = V (i * blk + j) := by rw [b2 _ (by omega), a3 _ (by omega)]; exact hvt.1
      have hdv : (i * blk + j) / blk = i := by
        rw [Nat.mul_comm, Nat.mul_add_div (by omega), Nat.div_eq_of_lt (by omega), Nat.add_zero]
      have hm := (g_two hF.1 hgx hvt.2).1
      have next : ∀ (x : Nat) (M3 : xM), x = ((if u0 (i * blk + j) = true then 0 else V (i * blk + j - 1)) ^^^ gmul p (X i ^^^ X o) (V (i * blk + j))) → M3 = xU M2 (62 + l) (i * blk + j) x → Xv m_P_timesLinear 1 nn R P 37 [some (vr 56), some (vr (62 + l)), some (vi o), some (vi i), some (vi (X i ^^^ X o : Nat)), some (vi (((i * blk + (j + 1) : Nat) : Int) - 1 + (-1))), none] [] M3 := by
        intro x M3 ex e3
        have := jh M3 ⟨by omega, fun c hc => by rw [e3, xU_o hc]; exact b1 c hc, fun t ht => by rw [e3, xU_n (by omega)]; exact b2 t (by omega), fun t h1 h2 => ?_, fun t h1 => by rw [e3, xU_n (by omega)]; exact b4 t h1⟩
        · rw [show ((i * blk + (j + 1) : Nat) : Int) - 1 + (-1) = ((i * blk + j : Nat) : Int) - 1 by omega]
          exact this
        · by_cases htj : t = i * blk + j
          · rw [htj, e3, xU_s, ex, hdv]
          · rw [e3, xU_n htj]
            exact b3 t (by omega) h2
      have B3 := B_P_timesLinear_37 (M := M2) (P := P) hn hR (l2 := o) (l3 := i) (l4 := (X i ^^^ X o : Nat)) (l5 := ((i * blk + (j + 1) : Nat) : Int) - 1) (l1 := l) hl1
      rw [tt] at B3
      refine B3 ?_
      rw [et, b1 56 (by omega), b1 59 (by omega), hblk, hu _ (by omega), hrow, ← Int.natCast_mul]
      refine ⟨by omega, by omega, fun g => absurd g (by omega), fun _ => ⟨by omega, by split <;> omega, fun g => ?_, fun g => ?_⟩⟩
      · have hu1 : u0 (i * blk + j) = false := by
          cases hh : u0 (i * blk + j) with
          | false => rfl
          | true => rw [hh] at g; exact absurd g (by decide)
        have hj0 : j ≠ 0 := fun q => by
          rw [q, Nat.add_zero, hu0 i] at hu1
          exact absurd hu1 (by decide)
        have hv1 := hV (i * blk + j - 1) (by omega) (by omega)
        have hr1 : M2 (62 + l) (i * blk + j - 1) = V (i * blk + j - 1) := by rw [b2 _ (by omega), a3 _ (by omega)]; exact hv1.1
        rw [show (((i * blk + (j + 1) : Nat) : Int) - 1 - 1).toNat = i * blk + j - 1 by omega, hr1]
        refine ⟨by omega, c_product hn hR hF2 hgx hvt.2 ?_⟩
        rw [xXor_n (by omega) (by omega)]
        intro M3 e3
        exact next _ M3 (by rw [hu1]; rfl) e3
      · have hu1 : u0 (i * blk + j) = true := by
          cases hh : u0 (i * blk + j) with
          | true => rfl
          | false => rw [hh] at g; exact absurd rfl g
        refine c_product hn hR hF2 hgx hvt.2 ?_
        rw [show (0 : Int) = ((0 : Nat) : Int) from rfl, xXor_n (by omega) (by omega)]
        intro M3 e3
        exact next _ M3 (by rw [hu1]; rfl) e3
    · obtain ⟨b0, b1, b2, b3, b4⟩ := hJ
      have B3 := B_P_timesLinear_37 (M := M2) (P := P) hn hR (l2 := o) (l3 := i) (l4 := (X i ^^^ X o : Nat)) (l5 := ((i * blk + 0 : Nat) : Int) - 1) (l1 := l) hl1
      rw [tt] at B3
      refine B3 ?_
      rw [b1 56 (by omega), hblk, ← Int.natCast_mul]
      refine ⟨by omega, by omega, fun _ => ih M2 ⟨by omega, b1, fun t h1 h2 => ?_, fun t h1 => b4 t (by rw [Nat.succ_mul] at h1; exact h1)⟩, fun g => absurd (show ((i * blk + 0 : Nat) : Int) - 1 < ((i * blk : Nat) : Int) by omega) g⟩
      rw [Nat.succ_mul] at h2
      by_cases h3 : t < i * blk
      · rw [b2 t (by omega)]
        exact a2 t h1 h3
      · exact b3 t (by omega) h2
  · obtain ⟨a0, a1, a2, a3⟩ := hI
    have B2 := B_P_timesLinear_2 (M := M1) (P := P) hn hR (l2 := o) (l3 := pl) (l1 := l) hl1
    rw [tt] at B2
    refine B2 ?_
    rw [a1 56 (by omega), hpl]
    exact ⟨by omega, by omega, fun _ => h M1 a1 a2, fun g => absurd (Int.le_refl _) g⟩
