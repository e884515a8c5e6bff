/-! Code.begin -/
def okc (p kind n k : Nat) : Prop := p ∈ grims ∧ kind ≤ 1 ∧ 2 ≤ k ∧ k < n ∧ n < gq p ∧ n ≤ 20 ∧ gdeg p * k ≤ 12
theorem okc.k4 {p kind n k : Nat} (h : okc p kind n k) : k ≤ 4 := by
  have hq := gq_b h.1
  have h7 := h.2.2.2.2.2.2
  have : 3 * k ≤ gdeg p * k := Nat.mul_le_mul_right k hq.2.2.1
  omega
def gld (p kind n k : Nat) : Nat → Nat → Nat := gga p 0 (gpl p kind n k) k
def gtr (p kind n k : Nat) : Nat → Nat → Nat := gga p (n - k) (gpl p kind n k) k
/-- no pivot is 0 -/
def pvt (p kind n k : Nat) : Prop := (∀ i, i < k → gga p 0 (gpl p kind n k) i i (0 + i) ≠ 0) ∧ ∀ i, i < k → gga p (n - k) (gpl p kind n k) i i (n - k + i) ≠ 0
def CI (p kind n k : Nat) (M : xM) : Prop := okc p kind n k ∧ M 5 1 = kind ∧ M 5 2 = n ∧ M 5 3 = k ∧ (∀ i, i < n → M 6 i = gpw p i) ∧ (∀ i, i < n → M 7 i = (gstr p kind n i : Nat)) ∧ (∀ i, i < n → M 8 i = (gchk p kind n i : Nat)) ∧
  (∀ r c, r < k → c < n + k → M (11 + r) c = (gpl p kind n k r c : Nat)) ∧ (∀ r c, r < k → c < n + k → M (16 + r) c = (gld p kind n k r c : Nat)) ∧ ∀ r c, r < k → c < n + k → M (21 + r) c = (gtr p kind n k r c : Nat)
theorem CI.keep {p kind n k : Nat} {M M' : xM} (h : CI p kind n k M) (hk : ∀ c, 5 ≤ c → c ≤ 24 → M' c = M c) : CI p kind n k M' := by
  obtain ⟨h0, h1, h2, h3, h4, h5, h6, h7, h8, h9⟩ := h
  have k4 := h0.k4
  refine ⟨h0, by rw [hk 5 (by omega) (by omega)]; exact h1, by rw [hk 5 (by omega) (by omega)]; exact h2, by rw [hk 5 (by omega) (by omega)]; exact h3, by rw [hk 6 (by omega) (by omega)]; exact h4, by rw [hk 7 (by omega) (by omega)]; exact h5, by rw [hk 8 (by omega) (by omega)]; exact h6, fun r c hr hc => ?_, fun r c hr hc => ?_, fun r c hr hc => ?_⟩
  · rw [hk _ (by omega) (by omega)]; exact h7 r c hr hc
  · rw [hk _ (by omega) (by omega)]; exact h8 r c hr hc
  · rw [hk _ (by omega) (by omega)]; exact h9 r c hr hc
theorem c_Cbegin {nn : Nat} {R : xR} {M : xM} {P : xM → Prop} (hn : 78 ≤ nn) (hR : RC 78 R) {p kind n k : Nat} (hF : FI p M) (hc : okc p kind n k) (hpv : pvt p kind n k) (h : ∀ M' : xM, CI p kind n k M' → (∀ c, c < 5 ∨ 25 ≤ c → M' c = M c) → P M') : Cv m_C_begin 3 nn R [vr 5, vi kind, vi n, vi k] M P := by
  obtain ⟨hp, hkd, hk2, hkn, hnq, hn20, hbits⟩ := hc
  have hc : okc p kind n k := ⟨hp, hkd, hk2, hkn, hnq, hn20, hbits⟩
  have k4 := hc.k4
  have hq := gq_b hp
  refine E_C_begin hn hR (B_C_begin_0 hn hR ?_)
  intro M1 e1 M2 e2 M3 e3
  have a1 : M3 5 1 = kind := by rw [e3, xU_n (by decide), e2, xU_n (by decide), e1, xU_s]
  have a2 : M3 5 2 = n := by rw [e3, xU_n (by decide), e2, xU_s]
  have a3 : M3 5 3 = k := by rw [e3, xU_s]
  have a4 : ∀ c, c ≠ 5 → M3 c = M c := fun c hc => by rw [e3, xU_o hc, e2, xU_o hc, e1, xU_o hc]
  -- the plain rows, and the two others
  have rowsL : ∀ M4 : xM, M4 5 = M3 5 → (∀ c, c < 5 ∨ 25 ≤ c → M4 c = M c) → (∀ i, i < n → M4 6 i = gpw p i) → (∀ i, i < n → M4 7 i = (gstr p kind n i : Nat)) → (∀ i, i < n → M4 8 i = (gchk p kind n i : Nat)) → (∀ j, j < n → M4 9 j = (ggen p (n - k) j : Nat)) →
      Xv m_C_begin 3 nn R P 75 [some (vr 5), some (vi kind), some (vi n), some (vi k), some (vi 0)] [] M4 := by
    intro M4 b5 b0 b6 b7 b8 b9
    refine upto (σ := xM) (fun i M5 => Xv m_C_begin 3 nn R P 75 [some (vr 5), some (vi kind), some (vi n), some (vi k), some (vi i)] [] M5) (fun i M5 => (∀ c, c < 11 ∨ 15 ≤ c → M5 c = M4 c) ∧ ∀ r c, r < i → c < n + k → M5 (11 + r) c = (gpl p kind n k r c : Nat)) k (fun i M5 hi hI ih => ?_) (fun M5 hI => ?_) 0 M4 (by omega) ⟨fun _ _ => rfl, fun r c hr => by omega⟩
    · obtain ⟨c1, c2⟩ := hI
      have hF5 : FI p M5 := hF.keep (fun c h1 h2 => by rw [c1 c (by omega)]; exact b0 c (by omega))
      have c5 : M5 5 = M3 5 := by rw [c1 5 (by decide)]; exact b5
      refine B_C_begin_75 hn hR ⟨by omega, by omega, fun g => absurd g (by omega), fun _ => ?_⟩
      refine c_fillPlainRow hn hR hF5 (by rw [c5]; exact a1) hkd (by rw [c5]; exact a2) (by rw [c5]; exact a3) hnq hn20 k4 hkn hi (fun j hj => by rw [c1 6 (by decide)]; exact b6 j hj) (fun j hj => by rw [c1 9 (by decide)]; exact b9 j hj) (fun M6 d1 d2 => ?_)
      refine ih M6 ⟨fun c hc => by rw [d1 c (by omega)]; exact c1 c hc, fun r c hr hc => ?_⟩
      by_cases hri : r = i
      · rw [hri]; exact d2 c hc
      · rw [d1 _ (by omega)]; exact c2 r c (by omega) hc
    · obtain ⟨c1, c2⟩ := hI
      have hF5 : FI p M5 := hF.keep (fun c h1 h2 => by rw [c1 c (by omega)]; exact b0 c (by omega))
      have c5 : M5 5 = M3 5 := by rw [c1 5 (by decide)]; exact b5
      refine B_C_begin_75 hn hR ⟨by omega, by omega, fun _ => ?_, fun g => absurd (Int.le_refl _) g⟩
      refine c_fillUnitRows_l (fr := 0) hn hR hF5 (by rw [c5]; exact a2) (by rw [c5]; exact a3) k4 hn20 (by omega) (gpl p kind n k) (fun r c hr hc => ⟨c2 r c hr hc, gpl_lt hp hnq (by omega) hkn r c⟩) hpv.1 (fun M6 d1 d2 => ?_)
      rw [show (n : Int) - (k : Int) = ((n - k : Nat) : Int) by omega]
      have hF6 : FI p M6 := hF5.keep (fun c h1 h2 => d1 c (by omega))
      have d5 : M6 5 = M3 5 := by rw [d1 5 (by decide)]; exact c5
      refine c_fillUnitRows_t (fr := n - k) hn hR hF6 (by rw [d5]; exact a2) (by rw [d5]; exact a3) k4 hn20 (by omega) (gpl p kind n k) (fun r c hr hc => ⟨by rw [d1 _ (by omega)]; exact c2 r c hr hc, gpl_lt hp hnq (by omega) hkn r c⟩) hpv.2 (fun M7 f1 f2 => ?_)
      have all : ∀ c, c < 11 → M7 c = M4 c := fun c hc => by rw [f1 c (by omega), d1 c (by omega)]; exact c1 c (by omega)
      refine h M7 ⟨hc, by rw [all 5 (by decide), b5]; exact a1, by rw [all 5 (by decide), b5]; exact a2, by rw [all 5 (by decide), b5]; exact a3, by rw [all 6 (by decide)]; exact b6, by rw [all 7 (by decide)]; exact b7, by rw [all 8 (by decide)]; exact b8, fun r c hr hc => ?_, fun r c hr hc => ?_, fun r c hr hc => f2 r c hr hc⟩ (fun c hc => ?_)
      · rw [f1 _ (by omega), d1 _ (by omega)]; exact c2 r c hr hc
      · rw [f1 _ (by omega)]; exact d2 r c hr hc
      · rw [f1 c (by omega), d1 c (by omega), c1 c (by omega)]; exact b0 c hc
  -- the factors, then the generator
  have fac : ∀ M4 : xM, (∀ c, c ≠ 6 → M4 c = M3 c) → (∀ i, i < n → M4 6 i = gpw p i) → Xv m_C_begin 3 nn R P 50 [some (vr 5), some (vi kind), some (vi n), some (vi k), some (vi 0)] [] M4 := by
    intro M4 b0 b6
    refine upto (σ := xM) (fun i M5 => Xv m_C_begin 3 nn R P 50 [some (vr 5), some (vi kind), some (vi n), some (vi k), some (vi i)] [] M5) (fun i M5 => (∀ c, c ≠ 7 → c ≠ 8 → M5 c = M4 c) ∧ ∀ j, j < i → M5 7 j = (gstr p kind n j : Nat) ∧ M5 8 j = (gchk p kind n j : Nat)) n (fun i M5 hi hI ih => ?_) (fun M5 hI => ?_) 0 M4 (by omega) ⟨fun _ _ _ => rfl, fun j hj => by omega⟩
    · obtain ⟨c1, c2⟩ := hI
      have c5 : M5 5 = M3 5 := by rw [c1 5 (by decide) (by decide)]; exact b0 5 (by decide)
      have hF5 : FI p M5 := hF.keep (fun c h1 h2 => by rw [c1 c (by omega) (by omega), b0 c (by omega)]; exact a4 c (by omega))
      refine B_C_begin_50 hn hR ⟨by omega, by omega, fun g => absurd g (by omega), fun _ => ?_⟩
      refine c_fillFactors hn hR hF5 (by rw [c5]; exact a1) hkd (by rw [c5]; exact a2) hnq hn20 (fun j hj => by rw [c1 6 (by decide) (by decide)]; exact b6 j hj) hi (fun M6 d1 d2 d3 d4 => ?_)
      refine ih M6 ⟨fun c h7 h8 => by rw [d1 c h7 h8]; exact c1 c h7 h8, fun j hj => ?_⟩
      by_cases hji : j = i
      · rw [hji]; exact ⟨d3, d4⟩
      · rw [(d2 j hji).1, (d2 j hji).2]; exact c2 j (by omega)
    · obtain ⟨c1, c2⟩ := hI
      have c5 : M5 5 = M3 5 := by rw [c1 5 (by decide) (by decide)]; exact b0 5 (by decide)
      have hF5 : FI p M5 := hF.keep (fun c h1 h2 => by rw [c1 c (by omega) (by omega), b0 c (by omega)]; exact a4 c (by omega))
      refine B_C_begin_50 hn hR ⟨by omega, by omega, fun _ => ?_, fun g => absurd (Int.le_refl _) g⟩
      refine c_fillGenerator hn hR hF5 (by rw [c5]; exact a2) (by rw [c5]; exact a3) hnq hn20 (by omega) hkn (fun j hj => by rw [c1 6 (by decide) (by decide)]; exact b6 j hj) (fun M6 d1 d2 => ?_)
      refine rowsL M6 (by rw [d1 5 (by decide)]; exact c5) (fun c hc => by rw [d1 c (by omega), c1 c (by omega) (by omega), b0 c (by omega)]; exact a4 c (by omega)) (fun i hi => by rw [d1 6 (by decide), c1 6 (by decide) (by decide)]; exact b6 i hi) (fun i hi => by rw [d1 7 (by decide)]; exact (c2 i hi).1) (fun i hi => by rw [d1 8 (by decide)]; exact (c2 i hi).2) d2
  refine upto (σ := xM) (fun i M4 => Xv m_C_begin 3 nn R P 18 [some (vr 5), some (vi kind), some (vi n), some (vi k), some (vi i)] [] M4) (fun i M4 => (∀ c, c ≠ 6 → M4 c = M3 c) ∧ ∀ j, j < i → M4 6 j = gpw p j) n (fun i M4 hi hI ih => ?_) (fun M4 hI => ?_) 0 M3 (by omega) ⟨fun _ _ => rfl, fun j hj => by omega⟩
  · obtain ⟨c1, c2⟩ := hI
    refine B_C_begin_18 hn hR ?_
    rw [Int.toNat_natCast, c1 2 (by decide), a4 2 (by decide), hF.2.2.2.1 i (by omega)]
    refine ⟨by omega, by omega, fun g => absurd g (by omega), fun _ => ⟨by omega, by omega, fun M5 e5 => ih M5 ⟨fun c hc => by rw [e5, xU_o hc]; exact c1 c hc, fun j hj => ?_⟩⟩⟩
    by_cases hji : j = i
    · rw [hji, e5, xU_s]
    · rw [e5, xU_n hji]; exact c2 j (by omega)
  · obtain ⟨c1, c2⟩ := hI
    exact B_C_begin_18 hn hR ⟨by omega, by omega, fun _ => fac M4 c1 c2, fun g => absurd (Int.le_refl _) g⟩
