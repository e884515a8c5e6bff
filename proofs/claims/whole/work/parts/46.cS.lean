/-! contracts: Search.setStart, Search.countVotes -/
theorem c_setStart {nn : Nat} {R : xR} {M : xM} {P : xM → Prop} (hn : 78 ≤ nn) (hR : RC 78 R) {p head last : Nat} (hF : FI p M) (hh : head < 2147483648) (hl : last < 4) (h : ∀ M' : xM, (∀ c, c ≠ 30 → M' c = M c) → (∀ i, i < last → M' 30 i = (head / gq p ^ (last - 1 - i) % gq p : Nat)) → M' 30 last = 0 → P M') : Cv m_S_setStart 0 nn R [vr 29, vi head, vi last] M P := by
  have hq := gq_b hF.1
  have hd : gq p = 2 ^ gdeg p := rfl
  refine E_S_setStart hn hR (B_S_setStart_0 hn hR ?_)
  -- i places are left
  have key := downto (σ := xM) (fun i M1 => Xv m_S_setStart 0 nn R P 7 [some (vr 29), some (vi head), some (vi last), some (vi (head / gq p ^ (last - i) : Nat)), some (vi ((i : Int) - 1))] [] M1) (fun i M1 => i ≤ last ∧ (∀ c, c ≠ 30 → M1 c = M c) ∧ ∀ j, i ≤ j → j < last → M1 30 j = (head / gq p ^ (last - 1 - j) % gq p : Nat)) (fun i M1 hI ih => ?_) (fun M1 hI => ?_) last M ⟨Nat.le_refl _, fun _ _ => rfl, fun j h1 h2 => by omega⟩
  · rw [Nat.sub_self, Nat.pow_zero, Nat.div_one] at key
    exact key
  · obtain ⟨c0, c1, c2⟩ := hI
    have hle := Nat.div_le_self head (gq p ^ (last - (i + 1)))
    generalize hr : head / gq p ^ (last - (i + 1)) = r at hle
    have e1 : xAnd (r : Int) ((gq p : Int) - 1) = ((r % gq p : Nat) : Int) := by
      rw [show (gq p : Int) - 1 = ((gq p - 1 : Nat) : Int) by omega, xAnd_n (by omega) (by omega), hd, Nat.and_two_pow_sub_one_eq_mod]
    have e2 : xShr (r : Int) (gdeg p) = ((r / gq p : Nat) : Int) := xShr_n (by omega) (by omega)
    refine B_S_setStart_7 hn hR ?_
    rw [show (((i + 1 : Nat) : Int) - 1).toNat = i by omega, c1 1 (by decide), hF.2.2.1, e1]
    refine ⟨by omega, fun g => absurd g (by omega), fun _ => ⟨by omega, fun M2 m2 => ?_⟩⟩
    rw [m2, xU_o (by decide), c1 1 (by decide), hF.2.1, e2, show ((i + 1 : Nat) : Int) - 1 + (-1) = (i : Int) - 1 by omega]
    have e3 : r / gq p = head / gq p ^ (last - i) := by
      rw [← hr, Nat.div_div_eq_div_mul, ← Nat.pow_succ]
      congr 2
      omega
    rw [e3, ← m2]
    refine ih M2 ⟨by omega, fun c hc => by rw [m2, xU_o hc]; exact c1 c hc, fun j h1 h2 => ?_⟩
    by_cases hji : j = i
    · rw [hji, m2, xU_s, ← hr, show last - 1 - i = last - (i + 1) by omega]
    · rw [m2, xU_n hji]
      exact c2 j (by omega) h2
  · obtain ⟨c0, c1, c2⟩ := hI
    refine B_S_setStart_7 hn hR ?_
    rw [Int.toNat_natCast]
    refine ⟨by omega, fun _ => ⟨by omega, fun M2 m2 => h M2 (fun c hc => by rw [m2, xU_o hc]; exact c1 c hc) (fun i hi => by rw [m2, xU_n (by omega)]; exact c2 i (by omega) hi) (by rw [m2, xU_s])⟩, fun g => absurd (show ((0 : Nat) : Int) - 1 < 0 by omega) g⟩
theorem c_countVotes {nn : Nat} {R : xR} {M : xM} {P : xM → Prop} (hn : 78 ≤ nn) (hR : RC 78 R) {p kind n k : Nat} {w : Nat → Nat} {er : Nat → Bool} (hF : FI p M) (hC : CI p kind n k M) (hW : WI p n w er M) (hlt : ∀ r c, r < k → c < n + k → gld p kind n k r c < gq p) (u : Nat → Nat) (hu : ∀ i, i < k → M 30 i = u i ∧ u i < gq p) (base : Nat → Nat) (hbase : ∀ i, base i = gsum p u (fun j => gld p kind n k j i) k)
    (h : ∀ M' : xM, (∀ c, c ≠ 29 → c ≠ 31 → M' c = M c) → (∀ v, v < gq p → M' 31 v = (gcnt (fun i => !er i && (gld p kind n k (k - 1) i != 0 && gdiv p (w i ^^^ base i) (gld p kind n k (k - 1) i) == v)) n : Nat)) → M' 29 5 = (gcnt (fun i => !er i && (gld p kind n k (k - 1) i == 0 && w i ^^^ base i == 0)) n : Nat) → P M') : Cv m_S_countVotes 2 nn R [vr 29, vi (k - 1 : Nat)] M P := by
  obtain ⟨o1, o2, o3, o4, o5, o6, o7⟩ := hC.1
  have k4 := hC.1.k4
  have hq := gq_b o1
  refine E_S_countVotes hn hR (B_S_countVotes_0 hn hR ?_)
  have two : ∀ M1 : xM, (∀ c, c ≠ 29 → c ≠ 31 → M1 c = M c) → (∀ v, v < gq p → M1 31 v = 0) → M1 29 5 = 0 → Xv m_S_countVotes 2 nn R P 33 [some (vr 29), some (vi (k - 1 : Nat)), some (vi 0), none, none] [] M1 := by
    intro M1 a1 a2 a3
    refine upto (σ := xM) (fun i M2 => Xv m_S_countVotes 2 nn R P 33 [some (vr 29), some (vi (k - 1 : Nat)), some (vi i), none, none] [] M2) (fun i M2 => (∀ c, c ≠ 29 → c ≠ 31 → M2 c = M c) ∧ (∀ v, v < gq p → M2 31 v = (gcnt (fun i => !er i && (gld p kind n k (k - 1) i != 0 && gdiv p (w i ^^^ base i) (gld p kind n k (k - 1) i) == v)) i : Nat)) ∧ M2 29 5 = (gcnt (fun i => !er i && (gld p kind n k (k - 1) i == 0 && w i ^^^ base i == 0)) i : Nat)) n (fun i M2 hi hI ih => ?_) (fun M2 hI => ?_) 0 M1 (by omega) ⟨a1, a2, a3⟩
    · obtain ⟨b1, b2, b3⟩ := hI
      have hF2 : FI p M2 := hF.keep (fun c h1 h2 => b1 c (by omega) (by omega))
      have hC2 : CI p kind n k M2 := hC.keep (fun c h1 h2 => b1 c (by omega) (by omega))
      have hW2 : WI p n w er M2 := hW.keep (fun c h1 h2 => b1 c (by omega) (by omega))
      refine B_S_countVotes_33 hn hR ?_
      rw [hC2.2.2.1, Int.toNat_natCast, hW2.2.1 i hi, (hW2.1 i hi).1]
      have hwl := (hW2.1 i hi).2
      refine ⟨by omega, by omega, fun g => absurd g (by omega), fun _ => ⟨by omega, by split <;> omega, fun g => ?_, fun g => ?_⟩⟩
      · have he : er i = true := by
          cases h0 : er i with
          | true => rfl
          | false => rw [h0] at g; exact absurd rfl g
        refine ih M2 ⟨b1, fun v hv => ?_, ?_⟩
        · rw [b2 v hv, gcnt, he]; simp
        · rw [b3, gcnt, he]; simp
      · have he : er i = false := by
          cases h0 : er i with
          | false => rfl
          | true => rw [h0] at g; exact absurd g (by decide)
        refine c_mixed_l hn hR hF2 hC2.2.2.2.1 k4 (N2 := 4) rfl (by omega) (by decide) k4 u (fun a => gld p kind n k a i) (fun a ha => by rw [b1 30 (by decide) (by decide)]; exact hu a ha) (fun a ha => ⟨hC2.2.2.2.2.2.2.2.2.1 a i ha (by omega), hlt a i ha (by omega)⟩) (by omega) ?_
        rw [← hbase i]
        have hbl : base i < gq p := by rw [hbase i]; exact gsum_lt o1 k (fun a ha => ⟨(hu a ha).2, hlt a i ha (by omega)⟩)
        have hgl := (g_two o1 hwl hbl).2.2.2
        rw [Int.toNat_natCast, hC2.2.2.2.2.2.2.2.2.1 (k - 1) i (by omega) (by omega), xXor_n (by omega) (by omega)]
        have hpl := hlt (k - 1) i (by omega) (by omega)
        refine ⟨by omega, by omega, by omega, fun g1 => ⟨by omega, fun g2 => ?_, fun g2 M3 e3 => ?_⟩, fun g1 => ?_⟩
        · refine ih M2 ⟨b1, fun v hv => ?_, ?_⟩
          · have z : gld p kind n k (k - 1) i = 0 := by omega
            rw [b2 v hv, gcnt, he, z]; simp
          · have z : w i ^^^ base i ≠ 0 := by omega
            rw [b3, gcnt, he]; simp [z]
        · refine ih M3 ⟨fun c h1 h2 => by rw [e3, xU_o h1]; exact b1 c h1 h2, fun v hv => ?_, ?_⟩
          · have z : gld p kind n k (k - 1) i = 0 := by omega
            rw [e3, xU_o (by decide), b2 v hv, gcnt, he, z]; simp
          · have z : gld p kind n k (k - 1) i = 0 := by omega
            have z2 : w i ^^^ base i = 0 := by omega
            rw [e3, xU_s, b3, gcnt, he, z, z2]; simp
        · have z : gld p kind n k (k - 1) i ≠ 0 := by omega
          refine c_quotient hn hR hF2 hgl hpl z ?_
          have hdl := g_div_lt o1 hgl hpl z
          rw [Int.toNat_natCast]
          refine ⟨by omega, fun M3 e3 => ih M3 ⟨fun c h1 h2 => by rw [e3, xU_o h2]; exact b1 c h1 h2, fun v hv => ?_, ?_⟩⟩
          · by_cases hv2 : v = gdiv p (w i ^^^ base i) (gld p kind n k (k - 1) i)
            · rw [hv2, e3, xU_s, b2 _ hdl, gcnt, he]; simp [z]
            · rw [e3, xU_n hv2, b2 v hv, gcnt, he]
              have hv3 : ¬ gdiv p (w i ^^^ base i) (gld p kind n k (k - 1) i) = v := fun q => hv2 q.symm
              simp [z, hv3]
          · rw [e3, xU_o (by decide), b3, gcnt, he]; simp [z]
    · obtain ⟨b1, b2, b3⟩ := hI
      have hC2 : CI p kind n k M2 := hC.keep (fun c h1 h2 => b1 c (by omega) (by omega))
      refine B_S_countVotes_33 hn hR ?_
      rw [hC2.2.2.1]
      exact ⟨by omega, by omega, fun _ => h M2 b1 b2 b3, fun g => absurd (Int.le_refl _) g⟩
  refine upto (σ := xM) (fun i M1 => Xv m_S_countVotes 2 nn R P 2 [some (vr 29), some (vi (k - 1 : Nat)), some (vi i), none, none] [] M1) (fun i M1 => (∀ c, c ≠ 31 → M1 c = M c) ∧ ∀ v, v < i → M1 31 v = 0) (gq p) (fun i M1 hi hI ih => ?_) (fun M1 hI => ?_) 0 M (by omega) ⟨fun _ _ => rfl, fun v hv => by omega⟩
  · obtain ⟨b1, b2⟩ := hI
    refine B_S_countVotes_2 hn hR ?_
    rw [b1 1 (by decide), hF.2.2.1, Int.toNat_natCast]
    refine ⟨by omega, by omega, fun g => absurd g (by omega), fun _ => ⟨by omega, fun M2 e2 => ih M2 ⟨fun c hc => by rw [e2, xU_o hc]; exact b1 c hc, fun v hv => ?_⟩⟩⟩
    by_cases hvi : v = i
    · rw [hvi, e2, xU_s]
    · rw [e2, xU_n hvi]; exact b2 v (by omega)
  · obtain ⟨b1, b2⟩ := hI
    refine B_S_countVotes_2 hn hR ?_
    rw [b1 1 (by decide), hF.2.2.1]
    refine ⟨by omega, by omega, fun _ M2 e2 => two M2 (fun c h1 h2 => by rw [e2, xU_o h1]; exact b1 c h2) (fun v hv => by rw [e2, xU_o (by decide)]; exact b2 v hv) (by rw [e2, xU_s]), fun g => absurd (Int.le_refl _) g⟩
