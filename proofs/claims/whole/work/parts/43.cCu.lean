/-! Code: the bases by units, sums of rows -/
def gsum (p : Nat) (f A : Nat → Nat) : Nat → Nat
  | 0 => 0
  | i + 1 => gsum p f A i ^^^ gmul p (f i) (A i)
theorem gsum_lt {p : Nat} {f A : Nat → Nat} (hp : p ∈ grims) : ∀ (k : Nat), (∀ i, i < k → f i < gq p ∧ A i < gq p) → gsum p f A k < gq p
  | 0, _ => by have := gq_b hp; show 0 < _; omega
  | k + 1, h => (g_two hp (gsum_lt hp k (fun i hi => h i (by omega))) (g_two hp (h k (by omega)).1 (h k (by omega)).2).1).2.2.2
theorem gsum_congr {p : Nat} {f A f' A' : Nat → Nat} : ∀ (k : Nat), (∀ i, i < k → f i = f' i ∧ A i = A' i) → gsum p f A k = gsum p f' A' k
  | 0, _ => rfl
  | k + 1, h => by
    rw [gsum, gsum, gsum_congr k (fun i hi => h i (by omega)), (h k (by omega)).1, (h k (by omega)).2]
def ggs (p fr i : Nat) (A : Nat → Nat → Nat) : Nat → Nat → Nat := fun r c => if r = i then gmul p (gdiv p 1 (A i (fr + i))) (A i c) else A r c ^^^ gmul p (A r (fr + i)) (gmul p (gdiv p 1 (A i (fr + i))) (A i c))
def gga (p fr : Nat) (A : Nat → Nat → Nat) : Nat → Nat → Nat → Nat
  | 0 => A
  | i + 1 => ggs p fr i (gga p fr A i)
theorem ggs_lt {p fr i k w : Nat} {A : Nat → Nat → Nat} (hp : p ∈ grims) (hi : i < k) (hw : fr + i < w) (h : ∀ r c, r < k → c < w → A r c < gq p) (h0 : A i (fr + i) ≠ 0) : ∀ r c, r < k → c < w → ggs p fr i A r c < gq p := by
  intro r c hr hc
  have hq := gq_b hp
  have h1 := g_div_lt (a := 1) hp (by omega) (h i (fr + i) hi hw) h0
  have h2 := (g_two hp h1 (h i c hi hc)).1
  unfold ggs
  split
  · exact h2
  · exact (g_two hp (h r c hr hc) (g_two hp (h r (fr + i) hr hw) h2).1).2.2.2
theorem gga_lt {p fr k w : Nat} {A : Nat → Nat → Nat} (hp : p ∈ grims) (hw : fr + k ≤ w) (h : ∀ r c, r < k → c < w → A r c < gq p) : ∀ (i : Nat), i ≤ k → (∀ j, j < i → gga p fr A j j (fr + j) ≠ 0) → ∀ r c, r < k → c < w → gga p fr A i r c < gq p
  | 0, _, _ => h
  | i + 1, hi, h0 => ggs_lt hp (by omega) (by omega) (gga_lt hp hw h i (by omega) (fun j hj => h0 j (by omega))) (h0 i (by omega))
theorem c_mixed_p {n : Nat} {R : xR} {M : xM} {P : Int → xM → Prop} (hn : 78 ≤ n) (hR : RC 78 R) {p k c q2 N2 : Nat} (hF : FI p M) (hdim : M 5 3 = k) (hk4 : k ≤ 4) (h2S : xS q2 = (0, N2)) (h2n : q2 < n) (h2N : N2 < 2147483648) (hkN : k ≤ N2) (f A : Nat → Nat) (hf : ∀ i, i < k → M q2 i = f i ∧ f i < gq p) (hA : ∀ i, i < k → M (11 + i) c = A i ∧ A i < gq p) (hc : c < 24) (h : P (gsum p f A k) M) : Ci m_C_mixed 1 n R [vr 5, vr 10, vr q2, vi c] M P := by
  have hq := gq_b hF.1
  refine E_C_mixed_p hn hR h2S h2n h2N (B_C_mixed_p_0 hn hR h2S h2n h2N ?_)
  refine upto (σ := Unit) (fun i _ => Xi m_C_mixed 1 n R P 6 [some (vr 5), some (vr 10), some (vr q2), some (vi c), some (vi (gsum p f A i)), some (vi i)] [] M) (fun _ _ => True) k (fun i _ hi _ ih => ?_) (fun _ _ => ?_) 0 () (by omega) trivial
  · refine B_C_mixed_p_6 hn hR h2S h2n h2N ?_
    have hg := gsum_lt hF.1 i (fun j hj => ⟨(hf j (by omega)).2, (hA j (by omega)).2⟩)
    have hm := (g_two hF.1 (hf i hi).2 (hA i hi).2).1
    rw [hdim, Int.toNat_natCast, Int.toNat_natCast, (hf i hi).1, (hA i hi).1]
    refine ⟨by omega, by omega, fun g => absurd g (by omega), fun _ => ⟨by omega, by omega, by omega, c_product hn hR hF (hf i hi).2 (hA i hi).2 ?_⟩⟩
    rw [xXor_n (by omega) (by omega)]
    exact ih () trivial
  · refine B_C_mixed_p_6 hn hR h2S h2n h2N ?_
    rw [hdim]
    exact ⟨by omega, by omega, fun _ => h, fun g => absurd (Int.le_refl _) g⟩
theorem c_mixed_l {n : Nat} {R : xR} {M : xM} {P : Int → xM → Prop} (hn : 78 ≤ n) (hR : RC 78 R) {p k c q2 N2 : Nat} (hF : FI p M) (hdim : M 5 3 = k) (hk4 : k ≤ 4) (h2S : xS q2 = (0, N2)) (h2n : q2 < n) (h2N : N2 < 2147483648) (hkN : k ≤ N2) (f A : Nat → Nat) (hf : ∀ i, i < k → M q2 i = f i ∧ f i < gq p) (hA : ∀ i, i < k → M (16 + i) c = A i ∧ A i < gq p) (hc : c < 24) (h : P (gsum p f A k) M) : Ci m_C_mixed 1 n R [vr 5, vr 15, vr q2, vi c] M P := by
  have hq := gq_b hF.1
  refine E_C_mixed_l hn hR h2S h2n h2N (B_C_mixed_l_0 hn hR h2S h2n h2N ?_)
  refine upto (σ := Unit) (fun i _ => Xi m_C_mixed 1 n R P 6 [some (vr 5), some (vr 15), some (vr q2), some (vi c), some (vi (gsum p f A i)), some (vi i)] [] M) (fun _ _ => True) k (fun i _ hi _ ih => ?_) (fun _ _ => ?_) 0 () (by omega) trivial
  · refine B_C_mixed_l_6 hn hR h2S h2n h2N ?_
    have hg := gsum_lt hF.1 i (fun j hj => ⟨(hf j (by omega)).2, (hA j (by omega)).2⟩)
    have hm := (g_two hF.1 (hf i hi).2 (hA i hi).2).1
    rw [hdim, Int.toNat_natCast, Int.toNat_natCast, (hf i hi).1, (hA i hi).1]
    refine ⟨by omega, by omega, fun g => absurd g (by omega), fun _ => ⟨by omega, by omega, by omega, c_product hn hR hF (hf i hi).2 (hA i hi).2 ?_⟩⟩
    rw [xXor_n (by omega) (by omega)]
    exact ih () trivial
  · refine B_C_mixed_l_6 hn hR h2S h2n h2N ?_
    rw [hdim]
    exact ⟨by omega, by omega, fun _ => h, fun g => absurd (Int.le_refl _) g⟩
theorem c_mixed_t {n : Nat} {R : xR} {M : xM} {P : Int → xM → Prop} (hn : 78 ≤ n) (hR : RC 78 R) {p k c q2 N2 : Nat} (hF : FI p M) (hdim : M 5 3 = k) (hk4 : k ≤ 4) (h2S : xS q2 = (0, N2)) (h2n : q2 < n) (h2N : N2 < 2147483648) (hkN : k ≤ N2) (f A : Nat → Nat) (hf : ∀ i, i < k → M q2 i = f i ∧ f i < gq p) (hA : ∀ i, i < k → M (21 + i) c = A i ∧ A i < gq p) (hc : c < 24) (h : P (gsum p f A k) M) : Ci m_C_mixed 1 n R [vr 5, vr 20, vr q2, vi c] M P := by
  have hq := gq_b hF.1
  refine E_C_mixed_t hn hR h2S h2n h2N (B_C_mixed_t_0 hn hR h2S h2n h2N ?_)
  refine upto (σ := Unit) (fun i _ => Xi m_C_mixed 1 n R P 6 [some (vr 5), some (vr 20), some (vr q2), some (vi c), some (vi (gsum p f A i)), some (vi i)] [] M) (fun _ _ => True) k (fun i _ hi _ ih => ?_) (fun _ _ => ?_) 0 () (by omega) trivial
  · refine B_C_mixed_t_6 hn hR h2S h2n h2N ?_
    have hg := gsum_lt hF.1 i (fun j hj => ⟨(hf j (by omega)).2, (hA j (by omega)).2⟩)
    have hm := (g_two hF.1 (hf i hi).2 (hA i hi).2).1
    rw [hdim, Int.toNat_natCast, Int.toNat_natCast, (hf i hi).1, (hA i hi).1]
    refine ⟨by omega, by omega, fun g => absurd g (by omega), fun _ => ⟨by omega, by omega, by omega, c_product hn hR hF (hf i hi).2 (hA i hi).2 ?_⟩⟩
    rw [xXor_n (by omega) (by omega)]
    exact ih () trivial
  · refine B_C_mixed_t_6 hn hR h2S h2n h2N ?_
    rw [hdim]
    exact ⟨by omega, by omega, fun _ => h, fun g => absurd (Int.le_refl _) g⟩
theorem c_fillUnitRows_l {n : Nat} {R : xR} {M : xM} {P : xM → Prop} (hn : 78 ≤ n) (hR : RC 78 R) {p nn k fr : Nat} (hF : FI p M) (hl : M 5 2 = nn) (hdim : M 5 3 = k) (hk4 : k ≤ 4) (hn20 : nn ≤ 20) (hfr : fr + k ≤ nn) (A : Nat → Nat → Nat) (hA : ∀ r c, r < k → c < nn + k → M (11 + r) c = A r c ∧ A r c < gq p) (hpv : ∀ i, i < k → gga p fr A i i (fr + i) ≠ 0)
    (h : ∀ M' : xM, (∀ c, c < 16 ∨ 16 + 4 ≤ c → M' c = M c) → (∀ r c, r < k → c < nn + k → M' (16 + r) c = (gga p fr A k r c : Nat)) → P M') : Cv m_C_fillUnitRows 1 n R [vr 5, vr 15, vi fr] M P := by
  have hq := gq_b hF.1
  have hlt : ∀ i, i ≤ k → ∀ r c, r < k → c < nn + k → gga p fr A i r c < gq p := fun i hi => gga_lt hF.1 (by omega) (fun r c hr hc => (hA r c hr hc).2) i hi (fun j hj => hpv j (by omega))
  refine E_C_fillUnitRows_l hn hR (B_C_fillUnitRows_l_0 hn hR ?_)
  rw [hl, hdim, show (nn : Int) + (k : Int) = ((nn + k : Nat) : Int) by omega]
  have two : ∀ M1 : xM, (∀ c, c < 16 ∨ 16 + 4 ≤ c → M1 c = M c) → (∀ r c, r < k → c < nn + k → M1 (16 + r) c = (A r c : Nat)) → Xv m_C_fillUnitRows 1 n R P 48 [some (vr 5), some (vr 15), some (vi fr), some (vi (nn + k : Nat)), some (vi 0), none, none] [] M1 := by
    intro M1 a1 a2
    refine upto (σ := xM) (fun i M2 => Xv m_C_fillUnitRows 1 n R P 48 [some (vr 5), some (vr 15), some (vi fr), some (vi (nn + k : Nat)), some (vi i), none, none] [] M2) (fun i M2 => (∀ c, c < 16 ∨ 16 + 4 ≤ c → M2 c = M c) ∧ ∀ r c, r < k → c < nn + k → M2 (16 + r) c = (gga p fr A i r c : Nat)) k (fun i M2 hi hI ih => ?_) (fun M2 hI => ?_) 0 M1 (by omega) ⟨a1, a2⟩
    · obtain ⟨b1, b2⟩ := hI
      have hF2 : FI p M2 := hF.keep (fun c h1 h2 => b1 c (by omega))
      have lt := hlt i (by omega)
      generalize hAi : gga p fr A i = Ai at b2 lt
      have pv : Ai i (fr + i) ≠ 0 := by rw [← hAi]; exact hpv i hi
      refine B_C_fillUnitRows_l_48 hn hR ?_
      rw [b1 5 (by decide), hdim, show ((fr : Int) + (i : Int)).toNat = fr + i by omega, Int.toNat_natCast, b2 i (fr + i) hi (by omega)]
      refine ⟨by omega, by omega, fun g => absurd g (by omega), fun _ => ⟨by omega, by omega, c_quotient (a := 1) hn hR hF2 (by omega) (lt i (fr + i) hi (by omega)) pv ?_⟩⟩
      have hiv := g_div_lt (a := 1) hF.1 (by omega) (lt i (fr + i) hi (by omega)) pv
      generalize hv : gdiv p 1 (Ai i (fr + i)) = iv at hiv
      refine upto (σ := xM) (fun c M3 => Xv m_C_fillUnitRows 1 n R P 79 [some (vr 5), some (vr 15), some (vi fr), some (vi (nn + k : Nat)), some (vi i), some (vi iv), some (vi c)] [] M3) (fun c M3 => (∀ d, d ≠ 16 + i → M3 d = M2 d) ∧ (∀ d, d < c → M3 (16 + i) d = (gmul p iv (Ai i d) : Nat)) ∧ ∀ d, c ≤ d → M3 (16 + i) d = M2 (16 + i) d) (nn + k) (fun c M3 hc hJ jh => ?_) (fun M3 hJ => ?_) 0 M2 (by omega) ⟨fun _ _ => rfl, fun d hd => by omega, fun _ _ => rfl⟩
      · obtain ⟨c1, c2, c3⟩ := hJ
        have hF3 : FI p M3 := hF2.keep (fun d h1 h2 => c1 d (by omega))
        refine B_C_fillUnitRows_l_79 hn hR ?_
        rw [Int.toNat_natCast, Int.toNat_natCast, c3 c (Nat.le_refl _), b2 i c hi hc]
        refine ⟨by omega, by omega, fun g => absurd g (by omega), fun _ => ⟨by omega, by omega, c_product hn hR hF3 hiv (lt i c hi hc) ?_⟩⟩
        intro M4 e4
        refine jh M4 ⟨fun d hd => by rw [e4, xU_o hd]; exact c1 d hd, fun d hd => ?_, fun d hd => by rw [e4, xU_n (by omega)]; exact c3 d (by omega)⟩
        by_cases hdc : d = c
        · rw [hdc, e4, xU_s]
        · rw [e4, xU_n hdc]
          exact c2 d (by omega)
      · obtain ⟨c1, c2, c3⟩ := hJ
        refine B_C_fillUnitRows_l_79 hn hR ⟨by omega, by omega, fun _ => ?_, fun g => absurd (Int.le_refl _) g⟩
        have hsc : ∀ d, d < nn + k → gmul p iv (Ai i d) < gq p := fun d hd => (g_two hF.1 hiv (lt i d hi hd)).1
        refine upto (σ := xM) (fun r M4 => Xv m_C_fillUnitRows 1 n R P 117 [some (vr 5), some (vr 15), some (vi fr), some (vi (nn + k : Nat)), some (vi i), some (vi iv), some (vi r)] [] M4) (fun r M4 => (∀ d, d < 16 ∨ 16 + 4 ≤ d → M4 d = M d) ∧ (∀ d, d < nn + k → M4 (16 + i) d = (gmul p iv (Ai i d) : Nat)) ∧ (∀ s d, s < k → s ≠ i → r ≤ s → d < nn + k → M4 (16 + s) d = (Ai s d : Nat)) ∧ ∀ s d, s < r → s ≠ i → d < nn + k → M4 (16 + s) d = (Ai s d ^^^ gmul p (Ai s (fr + i)) (gmul p iv (Ai i d)) : Nat)) k (fun r M4 hr hL lh => ?_) (fun M4 hL => ?_) 0 M3 (by omega) ⟨fun d hd => by rw [c1 d (by omega)]; exact b1 d hd, fun d hd => c2 d (by omega), fun s d hs hsi _ hd => by rw [c1 _ (by omega)]; exact b2 s d hs hd, fun s d hs => by omega⟩
        · obtain ⟨d1, d2, d3, d4⟩ := hL
          have hF4 : FI p M4 := hF.keep (fun d h1 h2 => d1 d (by omega))
          refine B_C_fillUnitRows_l_117 hn hR ?_
          rw [d1 5 (by decide), hdim, show ((fr : Int) + (i : Int)).toNat = fr + i by omega, Int.toNat_natCast, Int.toNat_natCast]
          refine ⟨by omega, by omega, fun g => absurd g (by omega), fun _ => ⟨by omega, fun g => ?_, fun g => ⟨by omega, by omega, by omega, ?_⟩⟩⟩
          · have hri : r = i := by omega
            exact lh M4 ⟨d1, d2, fun s d hs hsi h2 hd => d3 s d hs hsi (by omega) hd, fun s d hs hsi hd => d4 s d (by omega) hsi hd⟩
          · have hri : r ≠ i := by omega
            rw [d3 r (fr + i) hr hri (Nat.le_refl _) (by omega)]
            refine c_addMultiple (i0 := 0) hn hR hF4 (lt r (fr + i) hr (by omega)) (rowS_16 (by omega)) (by omega) (by decide) (rowS_16 (by omega)) (by omega) (by decide) (by omega) (by omega) (fun d => Ai r d) (fun d => gmul p iv (Ai i d)) (fun d _ hd => ⟨d3 r d hr hri (Nat.le_refl _) hd, lt r d hr hd⟩) (fun d _ hd => ⟨d2 d hd, hsc d hd⟩) (by omega) (by omega) (by omega) (fun M5 e1 e2 => ?_)
            refine lh M5 ⟨fun d hd => by rw [e1 d (by omega)]; exact d1 d hd, fun d hd => by rw [e1 _ (by omega)]; exact d2 d hd, fun s d hs hsi h2 hd => by rw [e1 _ (by omega)]; exact d3 s d hs hsi (by omega) hd, fun s d hs hsi hd => ?_⟩
            by_cases hsr : s = r
            · rw [hsr, e2 d, if_pos ⟨by omega, hd⟩]
            · rw [e1 _ (by omega)]
              exact d4 s d (by omega) hsi hd
        · obtain ⟨d1, d2, d3, d4⟩ := hL
          refine B_C_fillUnitRows_l_117 hn hR ?_
          rw [d1 5 (by decide), hdim]
          refine ⟨by omega, by omega, fun _ => ih M4 ⟨d1, fun r c hr hc => ?_⟩, fun g => absurd (Int.le_refl _) g⟩
          show _ = ((ggs p fr i (gga p fr A i) r c : Nat) : Int)
          rw [hAi]
          unfold ggs
          rw [hv]
          by_cases hri : r = i
          · rw [if_pos hri, hri]
            exact d2 c hc
          · rw [if_neg hri]
            exact d4 r c hr hri hc
    · obtain ⟨b1, b2⟩ := hI
      refine B_C_fillUnitRows_l_48 hn hR ?_
      rw [b1 5 (by decide), hdim]
      exact ⟨by omega, by omega, fun _ => h M2 b1 b2, fun g => absurd (Int.le_refl _) g⟩
  refine upto (σ := xM) (fun i M1 => Xv m_C_fillUnitRows 1 n R P 13 [some (vr 5), some (vr 15), some (vi fr), some (vi (nn + k : Nat)), some (vi i), none, none] [] M1) (fun i M1 => (∀ c, c < 16 ∨ 16 + 4 ≤ c → M1 c = M c) ∧ ∀ r c, r < i → c < nn + k → M1 (16 + r) c = (A r c : Nat)) k (fun i M1 hi hI ih => ?_) (fun M1 hI => ?_) 0 M (by omega) ⟨fun _ _ => rfl, fun r c hr => by omega⟩
  · obtain ⟨b1, b2⟩ := hI
    refine B_C_fillUnitRows_l_13 hn hR ?_
    rw [b1 5 (by decide), hdim, Int.toNat_natCast, Int.toNat_natCast]
    refine ⟨by omega, by omega, fun g => absurd g (by omega), fun _ => ⟨by omega, by omega, by omega, fun M2 e2 => ih M2 ⟨fun c hc => ?_, fun r c hr hc => ?_⟩⟩⟩
    · rw [← b1 c hc, e2]
      funext d
      unfold xCp
      rw [if_neg (by omega)]
    · rw [e2]
      unfold xCp
      by_cases hri : r = i
      · rw [hri, if_pos ⟨rfl, by omega, by omega⟩, b1 _ (by omega), show 0 + (c - 0) = c by omega]
        exact (hA i c hi hc).1
      · rw [if_neg (by omega)]
        exact b2 r c (by omega) hc
  · obtain ⟨b1, b2⟩ := hI
    refine B_C_fillUnitRows_l_13 hn hR ?_
    rw [b1 5 (by decide), hdim]
    exact ⟨by omega, by omega, fun _ => two M1 b1 b2, fun g => absurd (Int.le_refl _) g⟩
theorem c_fillUnitRows_t {n : Nat} {R : xR} {M : xM} {P : xM → Prop} (hn : 78 ≤ n) (hR : RC 78 R) {p nn k fr : Nat} (hF : FI p M) (hl : M 5 2 = nn) (hdim : M 5 3 = k) (hk4 : k ≤ 4) (hn20 : nn ≤ 20) (hfr : fr + k ≤ nn) (A : Nat → Nat → Nat) (hA : ∀ r c, r < k → c < nn + k → M (11 + r) c = A r c ∧ A r c < gq p) (hpv : ∀ i, i < k → gga p fr A i i (fr + i) ≠ 0)
    (h : ∀ M' : xM, (∀ c, c < 21 ∨ 21 + 4 ≤ c → M' c = M c) → (∀ r c, r < k → c < nn + k → M' (21 + r) c = (gga p fr A k r c : Nat)) → P M') : Cv m_C_fillUnitRows 1 n R [vr 5, vr 20, vi fr] M P := by
  have hq := gq_b hF.1
  have hlt : ∀ i, i ≤ k → ∀ r c, r < k → c < nn + k → gga p fr A i r c < gq p := fun i hi => gga_lt hF.1 (by omega) (fun r c hr hc => (hA r c hr hc).2) i hi (fun j hj => hpv j (by omega))
  refine E_C_fillUnitRows_t hn hR (B_C_fillUnitRows_t_0 hn hR ?_)
  rw [hl, hdim, show (nn : Int) + (k : Int) = ((nn + k : Nat) : Int) by omega]
  have two : ∀ M1 : xM, (∀ c, c < 21 ∨ 21 + 4 ≤ c → M1 c = M c) → (∀ r c, r < k → c < nn + k → M1 (21 + r) c = (A r c : Nat)) → Xv m_C_fillUnitRows 1 n R P 48 [some (vr 5), some (vr 20), some (vi fr), some (vi (nn + k : Nat)), some (vi 0), none, none] [] M1 := by
    intro M1 a1 a2
    refine upto (σ := xM) (fun i M2 => Xv m_C_fillUnitRows 1 n R P 48 [some (vr 5), some (vr 20), some (vi fr), some (vi (nn + k : Nat)), some (vi i), none, none] [] M2) (fun i M2 => (∀ c, c < 21 ∨ 21 + 4 ≤ c → M2 c = M c) ∧ ∀ r c, r < k → c < nn + k → M2 (21 + r) c = (gga p fr A i r c : Nat)) k (fun i M2 hi hI ih => ?_) (fun M2 hI => ?_) 0 M1 (by omega) ⟨a1, a2⟩
    · obtain ⟨b1, b2⟩ := hI
      have hF2 : FI p M2 := hF.keep (fun c h1 h2 => b1 c (by omega))
      have lt := hlt i (by omega)
      generalize hAi : gga p fr A i = Ai at b2 lt
      have pv : Ai i (fr + i) ≠ 0 := by rw [← hAi]; exact hpv i hi
      refine B_C_fillUnitRows_t_48 hn hR ?_
      rw [b1 5 (by decide), hdim, show ((fr : Int) + (i : Int)).toNat = fr + i by omega, Int.toNat_natCast, b2 i (fr + i) hi (by omega)]
      refine ⟨by omega, by omega, fun g => absurd g (by omega), fun _ => ⟨by omega, by omega, c_quotient (a := 1) hn hR hF2 (by omega) (lt i (fr + i) hi (by omega)) pv ?_⟩⟩
      have hiv := g_div_lt (a := 1) hF.1 (by omega) (lt i (fr + i) hi (by omega)) pv
      generalize hv : gdiv p 1 (Ai i (fr + i)) = iv at hiv
      refine upto (σ := xM) (fun c M3 => Xv m_C_fillUnitRows 1 n R P 79 [some (vr 5), some (vr 20), some (vi fr), some (vi (nn + k : Nat)), some (vi i), some (vi iv), some (vi c)] [] M3) (fun c M3 => (∀ d, d ≠ 21 + i → M3 d = M2 d) ∧ (∀ d, d < c → M3 (21 + i) d = (gmul p iv (Ai i d) : Nat)) ∧ ∀ d, c ≤ d → M3 (21 + i) d = M2 (21 + i) d) (nn + k) (fun c M3 hc hJ jh => ?_) (fun M3 hJ => ?_) 0 M2 (by omega) ⟨fun _ _ => rfl, fun d hd => by omega, fun _ _ => rfl⟩
      · obtain ⟨c1, c2, c3⟩ := hJ
        have hF3 : FI p M3 := hF2.keep (fun d h1 h2 => c1 d (by omega))
        refine B_C_fillUnitRows_t_79 hn hR ?_
        rw [Int.toNat_natCast, Int.toNat_natCast, c3 c (Nat.le_refl _), b2 i c hi hc]
        refine ⟨by omega, by omega, fun g => absurd g (by omega), fun _ => ⟨by omega, by omega, c_product hn hR hF3 hiv (lt i c hi hc) ?_⟩⟩
        intro M4 e4
        refine jh M4 ⟨fun d hd => by rw [e4, xU_o hd]; exact c1 d hd, fun d hd => ?_, fun d hd => by rw [e4, xU_n (by omega)]; exact c3 d (by omega)⟩
        by_cases hdc : d = c
        · rw [hdc, e4, xU_s]
        · rw [e4, xU_n hdc]
          exact c2 d (by omega)
      · obtain ⟨c1, c2, c3⟩ := hJ
        refine B_C_fillUnitRows_t_79 hn hR ⟨by omega, by omega, fun _ => ?_, fun g => absurd (Int.le_refl _) g⟩
        have hsc : ∀ d, d < nn + k → gmul p iv (Ai i d) < gq p := fun d hd => (g_two hF.1 hiv (lt i d hi hd)).1
        refine upto (σ := xM) (fun r M4 => Xv m_C_fillUnitRows 1 n R P 117 [some (vr 5), some (vr 20), some (vi fr), some (vi (nn + k : Nat)), some (vi i), some (vi iv), some (vi r)] [] M4) (fun r M4 => (∀ d, d < 21 ∨ 21 + 4 ≤ d → M4 d = M d) ∧ (∀ d, d < nn + k → M4 (21 + i) d = (gmul p iv (Ai i d) : Nat)) ∧ (∀ s d, s < k → s ≠ i → r ≤ s → d < nn + k → M4 (21 + s) d = (Ai s d : Nat)) ∧ ∀ s d, s < r → s ≠ i → d < nn + k → M4 (21 + s) d = (Ai s d ^^^ gmul p (Ai s (fr + i)) (gmul p iv (Ai i d)) : Nat)) k (fun r M4 hr hL lh => ?_) (fun M4 hL => ?_) 0 M3 (by omega) ⟨fun d hd => by rw [c1 d (by omega)]; exact b1 d hd, fun d hd => c2 d (by omega), fun s d hs hsi _ hd => by rw [c1 _ (by omega)]; exact b2 s d hs hd, fun s d hs => by omega⟩
        · obtain ⟨d1, d2, d3, d4⟩ := hL
          have hF4 : FI p M4 := hF.keep (fun d h1 h2 => d1 d (by omega))
          refine B_C_fillUnitRows_t_117 hn hR ?_
          rw [d1 5 (by decide), hdim, show ((fr : Int) + (i : Int)).toNat = fr + i by omega, Int.toNat_natCast, Int.toNat_natCast]
          refine ⟨by omega, by omega, fun g => absurd g (by omega), fun _ => ⟨by omega, fun g => ?_, fun g => ⟨by omega, by omega, by omega, ?_⟩⟩⟩
          · have hri : r = i := by omega
            exact lh M4 ⟨d1, d2, fun s d hs hsi h2 hd => d3 s d hs hsi (by omega) hd, fun s d hs hsi hd => d4 s d (by omega) hsi hd⟩
          · have hri : r ≠ i := by omega
            rw [d3 r (fr + i) hr hri (Nat.le_refl _) (by omega)]
            refine c_addMultiple (i0 := 0) hn hR hF4 (lt r (fr + i) hr (by omega)) (rowS_21 (by omega)) (by omega) (by decide) (rowS_21 (by omega)) (by omega) (by decide) (by omega) (by omega) (fun d => Ai r d) (fun d => gmul p iv (Ai i d)) (fun d _ hd => ⟨d3 r d hr hri (Nat.le_refl _) hd, lt r d hr hd⟩) (fun d _ hd => ⟨d2 d hd, hsc d hd⟩) (by omega) (by omega) (by omega) (fun M5 e1 e2 => ?_)
            refine lh M5 ⟨fun d hd => by rw [e1 d (by omega)]; exact d1 d hd, fun d hd => by rw [e1 _ (by omega)]; exact d2 d hd, fun s d hs hsi h2 hd => by rw [e1 _ (by omega)]; exact d3 s d hs hsi (by omega) hd, fun s d hs hsi hd => ?_⟩
            by_cases hsr : s = r
            · rw [hsr, e2 d, if_pos ⟨by omega, hd⟩]
            · rw [e1 _ (by omega)]
              exact d4 s d (by omega) hsi hd
        · obtain ⟨d1, d2, d3, d4⟩ := hL
          refine B_C_fillUnitRows_t_117 hn hR ?_
          rw [d1 5 (by decide), hdim]
          refine ⟨by omega, by omega, fun _ => ih M4 ⟨d1, fun r c hr hc => ?_⟩, fun g => absurd (Int.le_refl _) g⟩
          show _ = ((ggs p fr i (gga p fr A i) r c : Nat) : Int)
          rw [hAi]
          unfold ggs
          rw [hv]
          by_cases hri : r = i
          · rw [if_pos hri, hri]
            exact d2 c hc
          · rw [if_neg hri]
            exact d4 r c hr hri hc
    · obtain ⟨b1, b2⟩ := hI
      refine B_C_fillUnitRows_t_48 hn hR ?_
      rw [b1 5 (by decide), hdim]
      exact ⟨by omega, by omega, fun _ => h M2 b1 b2, fun g => absurd (Int.le_refl _) g⟩
  refine upto (σ := xM) (fun i M1 => Xv m_C_fillUnitRows 1 n R P 13 [some (vr 5), some (vr 20), some (vi fr), some (vi (nn + k : Nat)), some (vi i), none, none] [] M1) (fun i M1 => (∀ c, c < 21 ∨ 21 + 4 ≤ c → M1 c = M c) ∧ ∀ r c, r < i → c < nn + k → M1 (21 + r) c = (A r c : Nat)) k (fun i M1 hi hI ih => ?_) (fun M1 hI => ?_) 0 M (by omega) ⟨fun _ _ => rfl, fun r c hr => by omega⟩
  · obtain ⟨b1, b2⟩ := hI
    refine B_C_fillUnitRows_t_13 hn hR ?_
    rw [b1 5 (by decide), hdim, Int.toNat_natCast, Int.toNat_natCast]
    refine ⟨by omega, by omega, fun g => absurd g (by omega), fun _ => ⟨by omega, by omega, by omega, fun M2 e2 => ih M2 ⟨fun c hc => ?_, fun r c hr hc => ?_⟩⟩⟩
    · rw [← b1 c hc, e2]
      funext d
      unfold xCp
      rw [if_neg (by omega)]
    · rw [e2]
      unfold xCp
      by_cases hri : r = i
      · rw [hri, if_pos ⟨rfl, by omega, by omega⟩, b1 _ (by omega), show 0 + (c - 0) = c by omega]
        exact (hA i c hi hc).1
      · rw [if_neg (by omega)]
        exact b2 r c (by omega) hc
  · obtain ⟨b1, b2⟩ := hI
    refine B_C_fillUnitRows_t_13 hn hR ?_
    rw [b1 5 (by decide), hdim]
    exact ⟨by omega, by omega, fun _ => two M1 b1 b2, fun g => absurd (Int.le_refl _) g⟩
