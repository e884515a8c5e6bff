/-! contracts: the reference's code -/
def tdg (q t j : Nat) : Nat := t / q ^ j % q
def gel (p kind n k t i : Nat) : Nat := gsum p (tdg (gq p) t) (fun j => gpl p kind n k j i) k
theorem tdg_lt {p t j : Nat} (hp : p ∈ grims) : tdg (gq p) t j < gq p := Nat.mod_lt _ (by have := gq_b hp; omega)
theorem hor {p x : Nat} {d : Nat → Nat} (hp : p ∈ grims) (hx : x < gq p) (hd : ∀ i, d i < gq p) (j : Nat) : ∀ m, gsum p (fun i => d (j + i)) (gpow p x) (m + 1) = gmul p (gsum p (fun i => d (j + 1 + i)) (gpow p x) m) x ^^^ d j
  | 0 => by
    have hq := gq_b hp
    show 0 ^^^ gmul p (d (j + 0)) 1 = gmul p 0 x ^^^ d j
    rw [Nat.add_zero, g_1r hp (hd j), (g_one hp hx).2.1]
  | m + 1 => by
    have hS := gsum_lt (f := fun i => d (j + 1 + i)) (A := gpow p x) hp m (fun i _ => ⟨hd _, gpow_lt hp hx i⟩)
    have hm := (g_two hp (hd (j + 1 + m)) (gpow_lt hp hx m)).1
    rw [gsum, hor hp hx hd j m]
    rw [show gsum p (fun i => d (j + 1 + i)) (gpow p x) (m + 1) = gsum p (fun i => d (j + 1 + i)) (gpow p x) m ^^^ gmul p (d (j + 1 + m)) (gpow p x m) from rfl]
    rw [g_distl hp hS hm hx, g_assoc hp (hd _) (gpow_lt hp hx m) hx, show j + (m + 1) = j + 1 + m by omega, show gpow p x (m + 1) = gmul p (gpow p x m) x from rfl]
    rw [Nat.xor_assoc, Nat.xor_assoc]
    congr 1
    exact Nat.xor_comm _ _
def MC (p kind n k : Nat) (M : xM) : Prop := MF p M ∧ okc p kind n k ∧ M 78 4 = kind ∧ M 78 5 = n ∧ M 78 6 = k ∧ ∀ i, i < n → M 81 i = (ggen p (n - k) i : Nat)
theorem MC.keep {p kind n k : Nat} {M M' : xM} (h : MC p kind n k M) (h0 : ∀ j, j < 7 → M' 78 j = M 78 j) (h1 : ∀ c, 79 ≤ c → c ≤ 81 → M' c = M c) : MC p kind n k M' :=
  ⟨h.1.keep (h0 0 (by decide)) (h0 1 (by decide)) (h1 79 (by omega) (by omega)) (h1 80 (by omega) (by omega)), h.2.1, by rw [h0 4 (by decide)]; exact h.2.2.1, by rw [h0 5 (by decide)]; exact h.2.2.2.1, by rw [h0 6 (by decide)]; exact h.2.2.2.2.1, by rw [h1 81 (by omega) (by omega)]; exact h.2.2.2.2.2⟩
/-- what the reference holds -/
def MI (p kind n k : Nat) (msg w : Nat → Nat) (er : Nat → Bool) (fm : Option (Nat × (Nat → Bool))) (lm : List (Nat × Nat)) (M : xM) : Prop :=
  MC p kind n k M ∧ (∀ i, i < k → M 82 i = msg i ∧ msg i < gq p) ∧ (∀ i, i < n → M 83 i = w i ∧ w i < gq p) ∧ (∀ i, i < n → M 84 i = if er i = true then 1 else 0) ∧
  (fm = none → M 78 12 = -1) ∧ (∀ t df, fm = some (t, df) → M 78 12 = t ∧ t < gq p ^ k ∧ ∀ i, i < n → M 86 i = if df i = true then 1 else 0) ∧
  (M 78 15 = (lm.length : Nat) ∧ lm.length ≤ 4096 ∧ ∀ c x, lm[c]? = some x → M 88 c = (x.1 : Nat) ∧ M 89 c = (x.2 : Nat) ∧ x.1 < gq p ^ k)
theorem okc.pow {p kind n k : Nat} (h : okc p kind n k) : gq p ^ k = 2 ^ (gdeg p * k) ∧ gq p ^ k ≤ 4096 ∧ ∀ j, j ≤ k → gq p ^ j = 2 ^ (gdeg p * j) ∧ gdeg p * j ≤ 12 := by
  have h7 := h.2.2.2.2.2.2
  have e : ∀ j, gq p ^ j = 2 ^ (gdeg p * j) := fun j => by rw [show gq p = 2 ^ gdeg p from rfl, ← Nat.pow_mul]
  refine ⟨e k, by rw [e k]; exact Nat.pow_le_pow_right (by decide) h7, fun j hj => ⟨e j, Nat.le_trans (Nat.mul_le_mul_left _ hj) h7⟩⟩
section MCs
variable {nn : Nat} {R : xR} {M : xM} {p kind n k : Nat} {msg w : Nat → Nat} {er : Nat → Bool} {fm : Option (Nat × (Nat → Bool))} {lm : List (Nat × Nat)}
theorem cm_layCode {P : xM → Prop} (hn : 93 ≤ nn) (hR : RC 93 R) (hF : MF p M) (hc : okc p kind n k) (h : ∀ M' : xM, MI p kind n k (fun _ => 0) (fun _ => 0) (fun _ => false) none [] M' → (∀ c, c < 78 → M' c = M c) → P M') : Cv m_M_layCode 0 nn R [vr 78, vi kind, vi n, vi k] M P := by
  obtain ⟨o1, o2, o3, o4, o5, o6, o7⟩ := id hc
  have k4 := hc.k4
  have hq := gq_b o1
  refine E_M_layCode hn hR (B_M_layCode_0 hn hR ?_)
  intro M1 e1 M2 e2 M3 e3
  have a0 : ∀ c, c ≠ 78 → M3 c = M c := fun c hc => by rw [e3, xU_o hc, e2, xU_o hc, e1, xU_o hc]
  have a1 : ∀ j, j < 4 → M3 78 j = M 78 j := fun j hj => by rw [e3, xU_n (by omega), e2, xU_n (by omega), e1, xU_n (by omega)]
  have a4 : M3 78 4 = kind := by rw [e3, xU_n (by decide), e2, xU_n (by decide), e1, xU_s]
  have a5 : M3 78 5 = n := by rw [e3, xU_n (by decide), e2, xU_s]
  have a6 : M3 78 6 = k := by rw [e3, xU_s]
  have hF3 : MF p M3 := hF.keep (a1 0 (by decide)) (a1 1 (by decide)) (a0 79 (by decide)) (a0 80 (by decide))
  have fin : ∀ M4 : xM, (∀ c, c < 78 ∨ c = 79 ∨ c = 80 → M4 c = M3 c) → M4 78 = M3 78 → (∀ i, i < 4 → M4 82 i = 0) → (∀ i, i < 20 → M4 83 i = 0 ∧ M4 84 i = 0) → (∀ i, i < n → M4 81 i = (ggen p (n - k) i : Nat)) → ∀ M5 : xM, M5 = xU M4 78 12 (-1) → ∀ M6 : xM, M6 = xU M5 78 15 0 → P M6 := by
    intro M4 b0 b1 b2 b3 b4 M5 m5 M6 m6
    have c0 : ∀ c, c ≠ 78 → M6 c = M4 c := fun c hc => by rw [m6, xU_o hc, m5, xU_o hc]
    have c1 : ∀ j, j < 7 → M6 78 j = M3 78 j := fun j hj => by rw [m6, xU_n (by omega), m5, xU_n (by omega), b1]
    refine h M6 ⟨⟨hF3.keep (c1 0 (by decide)) (c1 1 (by decide)) (by rw [c0 79 (by decide)]; exact b0 79 (by omega)) (by rw [c0 80 (by decide)]; exact b0 80 (by omega)), hc, by rw [c1 4 (by decide)]; exact a4, by rw [c1 5 (by decide)]; exact a5, by rw [c1 6 (by decide)]; exact a6, by rw [c0 81 (by decide)]; exact b4⟩, fun i hi => ⟨by rw [c0 82 (by decide)]; exact b2 i (by omega), by show 0 < gq p; omega⟩, fun i hi => ⟨by rw [c0 83 (by decide)]; exact (b3 i (by omega)).1, by show 0 < gq p; omega⟩, fun i hi => by rw [c0 84 (by decide)]; exact (b3 i (by omega)).2, fun _ => by rw [m6, xU_n (by decide), m5, xU_s], fun t df e => (by cases e), by rw [m6, xU_s]; rfl, Nat.zero_le _, fun c x hx => by simp at hx⟩ (fun c hc => by rw [c0 c (by omega), b0 c (by omega)]; exact a0 c (by omega))
  have fac : ∀ M4 : xM, (∀ c, c < 78 ∨ c = 79 ∨ c = 80 → M4 c = M3 c) → M4 78 = M3 78 → (∀ i, i < 4 → M4 82 i = 0) → (∀ i, i < 20 → M4 83 i = 0 ∧ M4 84 i = 0) → (∀ i, i < 20 → M4 81 i = (ggen p 0 i : Nat)) → Xv m_M_layCode 0 nn R P 90 [some (vr 78), some (vi kind), some (vi n), some (vi k), some (vi 1), none] [] M4 := by
    intro M4 b0 b1 b2 b3 b4
    refine upto (σ := xM) (fun r M5 => Xv m_M_layCode 0 nn R P 90 [some (vr 78), some (vi kind), some (vi n), some (vi k), some (vi ((r : Int) + 1)), none] [] M5) (fun r M5 => (∀ c, c ≠ 81 → M5 c = M4 c) ∧ ∀ i, i < 20 → M5 81 i = (ggen p r i : Nat)) (n - k) (fun r M5 hr hI ih => ?_) (fun M5 hI => ?_) 0 M4 (by omega) ⟨fun _ _ => rfl, b4⟩
    · obtain ⟨d1, d2⟩ := hI
      have hx := g_pw o1 (show r + 1 < gq p - 1 by omega)
      have hg := ggen_lt o1 r (show r < gq p - 1 by omega)
      refine B_M_layCode_90 hn hR ?_
      rw [d1 78 (by decide), b1, a5, a6]
      refine ⟨by omega, by omega, fun g => absurd g (by omega), fun _ => ?_⟩
      have key := downto (σ := xM) (fun i M6 => Xv m_M_layCode 0 nn R P 108 [some (vr 78), some (vi kind), some (vi n), some (vi k), some (vi ((r : Int) + 1)), some (vi ((i : Int) - 1))] [] M6) (fun i M6 => i ≤ r + 2 ∧ (∀ c, c ≠ 81 → M6 c = M4 c) ∧ (∀ j, j < i → M6 81 j = (ggen p r j : Nat)) ∧ ∀ j, i ≤ j → j < 20 → M6 81 j = (ggen p (r + 1) j : Nat)) (fun i M6 hJ jh => ?_) (fun M6 hJ => ?_) (r + 2) M5 ⟨Nat.le_refl _, d1, fun j hj => d2 j (by omega), fun j h1 h2 => by rw [d2 j h2, ggen_0 o1 r (by omega) j (by omega), ggen_0 o1 (r + 1) (by omega) j (by omega)]⟩
      · rw [show (((r + 2 : Nat) : Int) - 1) = (r : Int) + 1 by omega] at key
        exact key
      · obtain ⟨c0, c1, c2, c3⟩ := hJ
        have hm := (g_two o1 (hg i) hx.2.1).1
        refine B_M_layCode_108 hn hR ?_
        have p80 : M6 80 (r + 1) = gpw p (r + 1) := by rw [c1 80 (by decide), b0 80 (by omega)]; exact hF3.2.2.2.2 (r + 1) (by omega)
        have hgi := hg i
        have p79 : M6 79 (32 * ggen p r i + gpw p (r + 1)) = gmul p (ggen p r i) (gpw p (r + 1)) := by rw [c1 79 (by decide), b0 79 (by omega)]; exact hF3.2.2.2.1 _ _ hgi hx.2.1
        rw [show (((i + 1 : Nat) : Int) - 1).toNat = i by omega, show ((r : Int) + 1).toNat = r + 1 by omega, c2 i (by omega), p80, show ((32 : Int) * (ggen p r i : Int) + (gpw p (r + 1) : Int)).toNat = 32 * ggen p r i + gpw p (r + 1) by omega, p79]
        have nxt : ∀ (v : Nat) (M7 : xM), v = ggen p (r + 1) i → M7 = xU M6 81 i v → Xv m_M_layCode 0 nn R P 108 [some (vr 78), some (vi kind), some (vi n), some (vi k), some (vi ((r : Int) + 1)), some (vi (((i + 1 : Nat) : Int) - 1 + (-1)))] [] M7 := by
          intro v M7 ev e7
          have := jh M7 ⟨by omega, fun c hc => by rw [e7, xU_o hc]; exact c1 c hc, fun j hj => by rw [e7, xU_n (by omega)]; exact c2 j (by omega), fun j h1 h2 => ?_⟩
          · rw [show ((i + 1 : Nat) : Int) - 1 + (-1) = (i : Int) - 1 by omega]
            exact this
          · by_cases hji : j = i
            · rw [hji, e7, xU_s, ev]
            · rw [e7, xU_n hji]; exact c3 j (by omega) h2
        refine ⟨by omega, fun g => absurd g (by omega), fun _ => ⟨by omega, by omega, by omega, fun g => ?_, fun g => ⟨by omega, ?_⟩⟩⟩
        · have i0 : i = 0 := by omega
          rw [show (0 : Int) = ((0 : Nat) : Int) from rfl, xXor_n (by omega) (by decide)]
          intro M7 e7
          refine nxt _ M7 ?_ e7
          rw [i0, ggen, if_pos rfl, Nat.xor_zero, (g_two o1 hx.2.1 (hg 0)).2.1]
        · rw [show (((i + 1 : Nat) : Int) - 1 - 1).toNat = i - 1 by omega, c2 (i - 1) (by omega), xXor_n (by omega) (by have := hg (i - 1); omega)]
          intro M7 e7
          refine nxt _ M7 ?_ e7
          rw [ggen, if_neg (by omega), (g_two o1 hx.2.1 (hg i)).2.1, Nat.xor_comm]
      · obtain ⟨c0, c1, c2, c3⟩ := hJ
        refine B_M_layCode_108 hn hR ⟨by omega, fun _ => ih M6 ⟨c1, fun i hi => c3 i (by omega) hi⟩, fun g => absurd (show ((0 : Nat) : Int) - 1 < 0 by omega) g⟩
    · obtain ⟨d1, d2⟩ := hI
      refine B_M_layCode_90 hn hR ?_
      rw [d1 78 (by decide), b1, a5, a6]
      refine ⟨by omega, by omega, fun _ => fin M5 (fun c hc => by rw [d1 c (by omega)]; exact b0 c hc) (by rw [d1 78 (by decide)]; exact b1) (by rw [d1 82 (by decide)]; exact b2) (by rw [d1 83 (by decide), d1 84 (by decide)]; exact b3) (fun i hi => d2 i (by omega)), fun g => absurd (show (n : Int) - k < ((n - k : Nat) : Int) + 1 by omega) g⟩
  have wrd : ∀ M4 : xM, (∀ c, c ≠ 82 → M4 c = M3 c) → (∀ i, i < 4 → M4 82 i = 0) → Xv m_M_layCode 0 nn R P 41 [some (vr 78), some (vi kind), some (vi n), some (vi k), some (vi 0), none] [] M4 := by
    intro M4 b0 b1
    refine upto (σ := xM) (fun i M5 => Xv m_M_layCode 0 nn R P 41 [some (vr 78), some (vi kind), some (vi n), some (vi k), some (vi i), none] [] M5) (fun i M5 => (∀ c, c ≠ 81 → c ≠ 83 → c ≠ 84 → M5 c = M4 c) ∧ ∀ j, j < i → M5 83 j = 0 ∧ M5 84 j = 0 ∧ M5 81 j = (ggen p 0 j : Nat)) 20 (fun i M5 hi hI ih => ?_) (fun M5 hI => ?_) 0 M4 (by omega) ⟨fun _ _ _ _ => rfl, fun j hj => by omega⟩
    · obtain ⟨d1, d2⟩ := hI
      have nxt : ∀ (v : Nat) (M6 M7 M8 : xM), v = ggen p 0 i → M6 = xU M5 83 i 0 → M7 = xU M6 84 i 0 → M8 = xU M7 81 i v → Xv m_M_layCode 0 nn R P 41 [some (vr 78), some (vi kind), some (vi n), some (vi k), some (vi ((i : Int) + 1)), none] [] M8 := by
        intro v M6 M7 M8 ev e6 e7 e8
        refine ih M8 ⟨fun c h1 h2 h3 => by rw [e8, xU_o h1, e7, xU_o h3, e6, xU_o h2]; exact d1 c h1 h2 h3, fun j hj => ?_⟩
        by_cases hji : j = i
        · rw [hji]
          exact ⟨by rw [e8, xU_o (by decide), e7, xU_o (by decide), e6, xU_s], by rw [e8, xU_o (by decide), e7, xU_s], by rw [e8, xU_s, ev]⟩
        · rw [e8, xU_o (by decide), xU_o (by decide), xU_n hji, e7, xU_o (by decide), xU_n hji, xU_o (by decide), e6, xU_n hji, xU_o (by decide), xU_o (by decide)]
          exact d2 j (by omega)
      refine B_M_layCode_41 hn hR ?_
      rw [Int.toNat_natCast]
      refine ⟨by omega, fun g => absurd g (by omega), fun _ => ⟨by omega, fun M6 e6 M7 e7 => ⟨fun g M8 e8 => nxt 0 M6 M7 M8 ?_ e6 e7 e8, fun g M8 e8 => nxt 1 M6 M7 M8 ?_ e6 e7 e8⟩⟩⟩
      · rw [ggen, if_neg (by omega)]
      · rw [ggen, if_pos (by omega)]
    · obtain ⟨d1, d2⟩ := hI
      refine B_M_layCode_41 hn hR ⟨by omega, fun _ => fac M5 (fun c hc => by rw [d1 c (by omega) (by omega) (by omega)]; exact b0 c (by omega)) (by rw [d1 78 (by decide) (by decide) (by decide)]; exact b0 78 (by decide)) (by rw [d1 82 (by decide) (by decide) (by decide)]; exact b1) (fun i hi => ⟨(d2 i hi).1, (d2 i hi).2.1⟩) (fun i hi => (d2 i hi).2.2), fun g => absurd (Int.le_refl _) g⟩
  refine upto (σ := xM) (fun i M4 => Xv m_M_layCode 0 nn R P 18 [some (vr 78), some (vi kind), some (vi n), some (vi k), some (vi i), none] [] M4) (fun i M4 => (∀ c, c ≠ 82 → M4 c = M3 c) ∧ ∀ j, j < i → M4 82 j = 0) 4 (fun i M4 hi hI ih => ?_) (fun M4 hI => ?_) 0 M3 (by omega) ⟨fun _ _ => rfl, fun j hj => by omega⟩
  · obtain ⟨d1, d2⟩ := hI
    refine B_M_layCode_18 hn hR ?_
    rw [Int.toNat_natCast]
    refine ⟨by omega, fun g => absurd g (by omega), fun _ => ⟨by omega, fun M5 e5 => ih M5 ⟨fun c hc => by rw [e5, xU_o hc]; exact d1 c hc, fun j hj => ?_⟩⟩⟩
    by_cases hji : j = i
    · rw [hji, e5, xU_s]
    · rw [e5, xU_n hji]; exact d2 j (by omega)
  · obtain ⟨d1, d2⟩ := hI
    exact B_M_layCode_18 hn hR ⟨by omega, fun _ => wrd M4 d1 d2, fun g => absurd (Int.le_refl _) g⟩
theorem cm_told {P : Int → xM → Prop} (hn : 93 ≤ nn) (hR : RC 93 R) (hC : MC p kind n k M) {t j : Nat} (ht : t < 2147483648) (hj : j ≤ k) (h : P (tdg (gq p) t j : Nat) M) : Ci m_M_told 0 nn R [vr 78, vi t, vi j] M P := by
  have hq := gq_b hC.2.1.1
  obtain ⟨e1, e2⟩ := hC.2.1.pow.2.2 j hj
  refine E_M_told hn hR (B_M_told_0 hn hR ?_)
  rw [hC.1.2.1, hC.1.2.2.1, ← Int.natCast_mul, xShr_n (by omega) ht, ← e1, show (gq p : Int) - 1 = ((gq p - 1 : Nat) : Int) by omega]
  have h1 := Nat.div_le_self t (gq p ^ j)
  rw [xAnd_n (by omega) (by omega), show gq p = 2 ^ gdeg p from rfl, Nat.and_two_pow_sub_one_eq_mod]
  exact h
theorem cm_messages {P : Int → xM → Prop} (hn : 93 ≤ nn) (hR : RC 93 R) (hC : MC p kind n k M) (h : P (gq p ^ k : Nat) M) : Ci m_M_messages 0 nn R [vr 78] M P := by
  obtain ⟨e1, e2, e3⟩ := hC.2.1.pow
  have h12 := (e3 k (Nat.le_refl _)).2
  refine E_M_messages hn hR (B_M_messages_0 hn hR ?_)
  rw [hC.1.2.1, hC.2.2.2.2.1, ← Int.natCast_mul]
  have := xShl_n (a := 1) (s := gdeg p * k) (by omega) (by rw [Nat.one_mul, ← e1]; omega)
  rw [Nat.one_mul, ← e1] at this
  rw [show (1 : Int) = ((1 : Nat) : Int) from rfl, this]
  exact h
theorem gel_lt (hc : okc p kind n k) {t i : Nat} : gel p kind n k t i < gq p := gsum_lt hc.1 k (fun j _ => ⟨tdg_lt hc.1, gpl_lt hc.1 hc.2.2.2.2.1 (by have := hc.2.2.1; omega) hc.2.2.2.1 j i⟩)
theorem cm_element {P : Int → xM → Prop} (hn : 93 ≤ nn) (hR : RC 93 R) (hC : MC p kind n k M) {t i : Nat} (ht : t < 2147483648) (hi : i < n) (h : P (gel p kind n k t i : Nat) M) : Ci m_M_element 1 nn R [vr 78, vi t, vi i] M P := by
  obtain ⟨o1, o2, o3, o4, o5, o6, o7⟩ := hC.2.1
  have hq := gq_b o1
  have k4 := hC.2.1.k4
  have hF := hC.1
  refine E_M_element hn hR (B_M_element_0 hn hR ?_)
  rw [hC.2.2.1, hC.2.2.2.2.1]
  refine ⟨by omega, fun g => ?_, fun g => ?_⟩
  · have k1 : kind = 1 := by omega
    refine upto (σ := Unit) (fun j _ => Xi m_M_element 1 nn R P 58 [some (vr 78), some (vi t), some (vi i), some (vi (gsum p (tdg (gq p) t) (fun j => gpl p kind n k j i) j : Nat)), some (vi j)] [] M) (fun _ _ => True) k (fun j _ hj _ ih => ?_) (fun _ _ => ?_) 0 () (by omega) trivial
    · have ih := ih () trivial
      rw [gsum] at ih
      have hS := gsum_lt (f := tdg (gq p) t) (A := fun j => gpl p kind n k j i) o1 j (fun a _ => ⟨tdg_lt o1, gpl_lt o1 o5 (by omega) o4 a i⟩)
      have hd := tdg_lt (p := p) (t := t) (j := j) o1
      have hpl : gpl p kind n k j i = if i < j then 0 else ggen p (n - k) (i - j) := by unfold gpl; rw [if_pos hi, if_neg (by omega)]
      refine B_M_element_58 hn hR ?_
      rw [hC.2.2.2.2.1, hC.2.2.2.1]
      refine ⟨by omega, by omega, fun g => absurd g (by omega), fun _ => ⟨by omega, fun g2 => ?_, fun g2 => ⟨by omega, fun g3 => ?_, fun g3 => ?_⟩⟩⟩
      · rw [hpl, if_pos (by omega), g_zr o1 hd, Nat.xor_zero] at ih
        exact ih
      · rw [hpl, if_neg (by omega), ggen_0 o1 (n - k) (by omega) (i - j) (by omega), g_zr o1 hd, Nat.xor_zero] at ih
        exact ih
      · have hgl := ggen_lt o1 (n - k) (by omega) (i - j)
        refine cm_told hn hR hC ht (by omega) ?_
        rw [show ((i : Int) - (j : Int)).toNat = i - j by omega, hC.2.2.2.2.2 (i - j) (by omega), show ((32 : Int) * (tdg (gq p) t j : Int) + (ggen p (n - k) (i - j) : Int)).toNat = 32 * tdg (gq p) t j + ggen p (n - k) (i - j) by omega, hF.2.2.2.1 _ _ hd hgl]
        have hm := (g_two o1 hd hgl).1
        rw [xXor_n (by omega) (by omega)]
        rw [hpl, if_neg (by omega)] at ih
        exact ⟨by omega, by omega, ih⟩
    · refine B_M_element_58 hn hR ?_
      rw [hC.2.2.2.2.1]
      exact ⟨by omega, by omega, fun _ => h, fun g => absurd (Int.le_refl _) g⟩
  · have k0 : kind = 0 := by omega
    have hx := (g_pw' o1 (show i < gq p by omega)).2
    have hH : ∀ j, gsum p (fun a => tdg (gq p) t (j + a)) (gpow p (gpw p i)) (k - j) < gq p := fun j => gsum_lt o1 _ (fun a _ => ⟨tdg_lt o1, gpow_lt o1 hx a⟩)
    have key := downto (σ := Unit) (fun j _ => Xi m_M_element 1 nn R P 17 [some (vr 78), some (vi t), some (vi i), some (vi (gsum p (fun a => tdg (gq p) t (j + a)) (gpow p (gpw p i)) (k - j) : Nat)), some (vi ((j : Int) - 1))] [] M) (fun j _ => j ≤ k) (fun j _ hj ih => ?_) (fun _ _ => ?_) k () (Nat.le_refl _)
    · rw [Nat.sub_self] at key
      exact key
    · have ih := ih () (by omega)
      have hS := hH (j + 1)
      have hd := tdg_lt (p := p) (t := t) (j := j) o1
      rw [show k - j = (k - (j + 1)) + 1 by omega, hor (d := tdg (gq p) t) o1 hx (fun a => tdg_lt o1) j] at ih
      have hm := (g_two o1 hS hx).1
      refine B_M_element_17 hn hR ?_
      rw [Int.toNat_natCast, hF.2.2.2.2 i (by omega), show ((32 : Int) * ((gsum p (fun a => tdg (gq p) t (j + 1 + a)) (gpow p (gpw p i)) (k - (j + 1)) : Nat) : Int) + (gpw p i : Int)).toNat = 32 * gsum p (fun a => tdg (gq p) t (j + 1 + a)) (gpow p (gpw p i)) (k - (j + 1)) + gpw p i by omega, hF.2.2.2.1 _ _ hS hx]
      refine ⟨by omega, fun g => absurd g (by omega), fun _ => ⟨by omega, by omega, ?_⟩⟩
      rw [show ((j + 1 : Nat) : Int) - 1 = (j : Int) by omega]
      refine cm_told hn hR hC ht (by omega) ?_
      rw [xXor_n (by omega) (by omega), show (j : Int) + (-1) = (j : Int) - 1 by omega]
      exact ih
    · refine B_M_element_17 hn hR ⟨by omega, fun _ => ?_, fun g => absurd (show ((0 : Nat) : Int) - 1 < 0 by omega) g⟩
      unfold gel at h
      have e : gsum p (fun a => tdg (gq p) t (0 + a)) (gpow p (gpw p i)) (k - 0) = gsum p (tdg (gq p) t) (fun j => gpl p kind n k j i) k := by
        rw [Nat.sub_zero]
        refine gsum_congr k (fun a ha => ⟨by rw [Nat.zero_add], ?_⟩)
        unfold gpl
        rw [if_pos hi, if_pos k0]
      rw [e]
      exact h
end MCs
