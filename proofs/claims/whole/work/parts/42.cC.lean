/-! contracts: RadiusDecoder.Code -/
theorem nx0 {a b : Nat} (h : a ^^^ b = 0) : a = b := by
  have h1 : (a ^^^ b) ^^^ b = b := by rw [h, Nat.zero_xor]
  rwa [Nat.xor_assoc, Nat.xor_self, Nat.xor_zero] at h1
def gapt (p i : Nat) : Nat → Nat
  | 0 => 1
  | j + 1 => if j = i then gapt p i j else gmul p (gapt p i j) (gpw p i ^^^ gpw p j)
def gstr (p kind n i : Nat) : Nat := if kind = 0 then 1 else gdiv p 1 (gmul p (gpw p i) (gapt p i n))
def gchk (p kind n i : Nat) : Nat := if kind = 0 then gdiv p 1 (gapt p i n) else gpw p i
def ggen (p : Nat) : Nat → Nat → Nat
  | 0, i => if i = 0 then 1 else 0
  | r + 1, i => if i = 0 then gmul p (gpw p (r + 1)) (ggen p r 0) else ggen p r (i - 1) ^^^ gmul p (gpw p (r + 1)) (ggen p r i)
/-- row i of the plain basis: n elements, then k of the message -/
def gpl (p kind n k i j : Nat) : Nat := if j < n then (if kind = 0 then gpow p (gpw p j) i else if j < i then 0 else ggen p (n - k) (j - i)) else if i = j - n then 1 else 0
theorem g_pw_inj {p a b : Nat} (hp : p ∈ grims) (ha : a < gq p - 1) (hb : b < gq p - 1) (h : gpw p a = gpw p b) : a = b := by
  rw [← (g_pw hp ha).2.2, h, (g_pw hp hb).2.2]
theorem g_x0 {p a : Nat} (hp : p ∈ grims) (ha : a < gq p) : gmul p a 0 = 0 := by
  have := gq_b hp
  rw [(g_two hp ha (by omega)).2.1, (g_one hp ha).2.1]
theorem g_div_lt {p a b : Nat} (hp : p ∈ grims) (ha : a < gq p) (hb : b < gq p) (hb0 : b ≠ 0) : gdiv p a b < gq p := (g_two hp ha (g_inv hp hb hb0).2.2.2.1).1
theorem gapt_ok {p i n : Nat} (hp : p ∈ grims) (hi : i < gq p - 1) (hn : n ≤ gq p - 1) : ∀ j, j ≤ n → gapt p i j < gq p ∧ gapt p i j ≠ 0
  | 0, _ => by have := gq_b hp; exact ⟨by show 1 < _; omega, by show 1 ≠ 0; decide⟩
  | j + 1, hj => by
    obtain ⟨h1, h2⟩ := gapt_ok hp hi hn j (by omega)
    have hjq : j < gq p - 1 := by omega
    rw [gapt]
    by_cases h : j = i
    · rw [if_pos h]; exact ⟨h1, h2⟩
    · rw [if_neg h]
      have hx := (g_two hp (g_pw hp hi).2.1 (g_pw hp hjq).2.1).2.2.2
      have hx0 : gpw p i ^^^ gpw p j ≠ 0 := fun q => h (g_pw_inj hp hjq hi (nx0 q).symm)
      have := (g_mullog hp h1 hx h2 hx0).2
      exact ⟨(g_two hp h1 hx).1, by omega⟩
theorem ggen_lt {p : Nat} (hp : p ∈ grims) : ∀ (r : Nat), r < gq p - 1 → ∀ i, ggen p r i < gq p
  | 0, _, i => by
    have := gq_b hp
    rw [ggen]
    split <;> omega
  | r + 1, hr, i => by
    have h1 := ggen_lt hp r (by omega)
    have hx := (g_pw hp hr).2.1
    rw [ggen]
    split
    · exact (g_two hp hx (h1 0)).1
    · exact (g_two hp (h1 _) (g_two hp hx (h1 i)).1).2.2.2
theorem ggen_0 {p : Nat} (hp : p ∈ grims) : ∀ (r : Nat), r < gq p - 1 → ∀ i, r < i → ggen p r i = 0
  | 0, _, i, h => by rw [ggen, if_neg (by omega)]
  | r + 1, hr, i, h => by
    have hx := (g_pw hp hr).2.1
    rw [ggen, if_neg (by omega), ggen_0 hp r (by omega) (i - 1) (by omega), ggen_0 hp r (by omega) i (by omega), g_x0 hp hx]
    rfl
theorem gpl_lt {p kind n k : Nat} (hp : p ∈ grims) (hn : n < gq p) (hk0 : 0 < k) (hk : k < n) (i j : Nat) : gpl p kind n k i j < gq p := by
  have := gq_b hp
  unfold gpl
  split
  · split
    · exact gpow_lt hp (g_pw hp (by omega)).2.1 i
    · split
      · omega
      · exact ggen_lt hp _ (by omega) _
  · split <;> omega
theorem c_fillFactors {nn : Nat} {R : xR} {M : xM} {P : xM → Prop} (hn : 78 ≤ nn) (hR : RC 78 R) {p kind n i : Nat} (hF : FI p M) (hk : M 5 1 = kind) (hk1 : kind ≤ 1) (hl : M 5 2 = n) (hn1 : n < gq p) (hn2 : n ≤ 20) (hpt : ∀ j, j < n → M 6 j = gpw p j) (hi : i < n)
    (h : ∀ M' : xM, (∀ k, k ≠ 7 → k ≠ 8 → M' k = M k) → (∀ j, j ≠ i → M' 7 j = M 7 j ∧ M' 8 j = M 8 j) → M' 7 i = (gstr p kind n i : Nat) → M' 8 i = (gchk p kind n i : Nat) → P M') : Cv m_C_fillFactors 1 nn R [vr 5, vi i] M P := by
  have hq := gq_b hF.1
  refine E_C_fillFactors hn hR (B_C_fillFactors_0 hn hR ?_)
  refine upto (σ := Unit) (fun j _ => Xv m_C_fillFactors 1 nn R P 4 [some (vr 5), some (vi i), some (vi (gapt p i j)), some (vi j)] [] M) (fun _ _ => True) n (fun j _ hj _ ih => ?_) (fun _ _ => ?_) 0 () (by omega) trivial
  · have ih := ih () trivial
    rw [gapt] at ih
    obtain ⟨a1, a2⟩ := gapt_ok (i := i) hF.1 (by omega) (show n ≤ gq p - 1 by omega) j (by omega)
    have b1 := (g_pw hF.1 (show i < gq p - 1 by omega)).2.1
    have b2 := (g_pw hF.1 (show j < gq p - 1 by omega)).2.1
    have b3 := (g_two hF.1 b1 b2).2.2.2
    refine B_C_fillFactors_4 hn hR ?_
    rw [hl, hk, Int.toNat_natCast, Int.toNat_natCast, hpt i hi, hpt j hj, xXor_n (by omega) (by omega)]
    refine ⟨by omega, by omega, fun g => absurd g (by omega), fun _ => ⟨by omega, fun g => ?_, fun g => ⟨by omega, by omega, c_product hn hR hF a1 b3 ?_⟩⟩⟩
    · rw [if_pos (by omega)] at ih; exact ih
    · rw [if_neg (by omega)] at ih; exact ih
  · obtain ⟨a1, a2⟩ := gapt_ok (i := i) hF.1 (by omega) (show n ≤ gq p - 1 by omega) n (Nat.le_refl _)
    have b1 := g_pw hF.1 (show i < gq p - 1 by omega)
    refine B_C_fillFactors_4 hn hR ?_
    rw [hl, hk, Int.toNat_natCast, hpt i hi]
    refine ⟨by omega, by omega, fun _ => ⟨by omega, fun g => ⟨by omega, c_product hn hR hF b1.2.1 a1 ?_⟩, fun g => ⟨by omega, fun M5 e5 => ?_⟩⟩, fun g => absurd (Int.le_refl _) g⟩
    · have c1 := (g_mullog hF.1 b1.2.1 a1 (by omega) a2).2
      refine c_quotient (a := 1) hn hR hF (by omega) (g_two hF.1 b1.2.1 a1).1 (by omega) ?_
      intro M3 e3 M4 e4
      have hk0 : kind ≠ 0 := by omega
      refine h M4 (fun k h7 h8 => by rw [e4, xU_o h8, e3, xU_o h7]) (fun j hj => ⟨by rw [e4, xU_o (by decide), e3, xU_n hj], by rw [e4, xU_n hj, e3, xU_o (by decide)]⟩) ?_ ?_
      · rw [e4, xU_o (by decide), e3, xU_s, gstr, if_neg hk0]
      · rw [e4, xU_s, e3, xU_o (by decide), hpt i hi, gchk, if_neg hk0]
    · have hk0 : kind = 0 := by omega
      have hF5 : FI p M5 := by
        rw [e5]
        unfold FI
        rw [xU_o (by decide), xU_o (by decide), xU_o (by decide), xU_o (by decide)]
        exact hF
      refine c_quotient (a := 1) hn hR hF5 (by omega) a1 a2 ?_
      intro M7 e7
      refine h M7 (fun k h7 h8 => by rw [e7, xU_o h8, e5, xU_o h7]) (fun j hj => ⟨by rw [e7, xU_o (by decide), e5, xU_n hj], by rw [e7, xU_n hj, e5, xU_o (by decide)]⟩) ?_ ?_
      · rw [e7, xU_o (by decide), e5, xU_s, gstr, if_pos hk0]
        rfl
      · rw [e7, xU_s, gchk, if_pos hk0]

theorem FI.keep {p : Nat} {M M' : xM} (h : FI p M) (hk : ∀ k, 1 ≤ k → k ≤ 4 → M' k = M k) : FI p M' := by
  unfold FI
  rw [hk 1 (by decide) (by decide), hk 2 (by decide) (by decide), hk 3 (by decide) (by decide), hk 4 (by decide) (by decide)]
  exact h
theorem c_fillGenerator {nn : Nat} {R : xR} {M : xM} {P : xM → Prop} (hn : 78 ≤ nn) (hR : RC 78 R) {p n k : Nat} (hF : FI p M) (hl : M 5 2 = n) (hdim : M 5 3 = k) (hn1 : n < gq p) (hn2 : n ≤ 20) (hk0 : 0 < k) (hk : k < n) (hpt : ∀ j, j < n → M 6 j = gpw p j)
    (h : ∀ M' : xM, (∀ c, c ≠ 9 → M' c = M c) → (∀ j, j < n → M' 9 j = (ggen p (n - k) j : Nat)) → P M') : Cv m_C_fillGenerator 1 nn R [vr 5] M P := by
  have hq := gq_b hF.1
  refine E_C_fillGenerator hn hR (B_C_fillGenerator_0 hn hR ?_)
  -- the rows of factors
  have fac : ∀ M1 : xM, (∀ c, c ≠ 9 → M1 c = M c) → (∀ j, j < n → M1 9 j = (ggen p 0 j : Nat)) → Xv m_C_fillGenerator 1 nn R P 32 [some (vr 5), some (vi 1), none] [] M1 := by
    intro M1 a1 a2
    refine upto (σ := xM) (fun r M2 => Xv m_C_fillGenerator 1 nn R P 32 [some (vr 5), some (vi ((r : Int) + 1)), none] [] M2) (fun r M2 => (∀ c, c ≠ 9 → M2 c = M c) ∧ ∀ j, j < n → M2 9 j = (ggen p r j : Nat)) (n - k) (fun r M2 hr hI ih => ?_) (fun M2 hI => ?_) 0 M1 (by omega) ⟨a1, a2⟩
    · obtain ⟨b1, b2⟩ := hI
      have hF2 : FI p M2 := hF.keep (fun c h1 h2 => b1 c (by omega))
      have hx := (g_pw hF.1 (show r + 1 < gq p - 1 by omega)).2.1
      have hg := ggen_lt hF.1 r (show r < gq p - 1 by omega)
      have hg1 := ggen_lt hF.1 (r + 1) (show r + 1 < gq p - 1 by omega)
      refine B_C_fillGenerator_32 hn hR ?_
      rw [b1 5 (by decide), hl, hdim]
      refine ⟨by omega, by omega, fun g => absurd g (by omega), fun _ => ?_⟩
      have inner := downto (σ := xM) (fun i M3 => Xv m_C_fillGenerator 1 nn R P 47 [some (vr 5), some (vi ((r : Int) + 1)), some (vi i)] [] M3) (fun i M3 => i ≤ r + 1 ∧ (∀ c, c ≠ 9 → M3 c = M c) ∧ (∀ j, j ≤ i → M3 9 j = (ggen p r j : Nat)) ∧ ∀ j, i < j → j < n → M3 9 j = (ggen p (r + 1) j : Nat)) (fun i M3 hJ jh => ?_) (fun M3 hJ => ?_) (r + 1) M2 ⟨Nat.le_refl _, b1, fun j hj => b2 j (by omega), fun j h1 h2 => by rw [b2 j h2, ggen_0 hF.1 r (by omega) j (by omega), ggen_0 hF.1 (r + 1) (by omega) j (by omega)]⟩
      · exact inner
      · obtain ⟨c0, c1, c2, c3⟩ := hJ
        have hF3 : FI p M3 := hF.keep (fun c h1 h2 => c1 c (by omega))
        have hm := (g_two hF.1 hx (hg (i + 1))).1
        refine B_C_fillGenerator_47 hn hR ?_
        rw [show ((r : Int) + 1).toNat = r + 1 by omega, show (((i + 1 : Nat) : Int) - 1).toNat = i by omega, Int.toNat_natCast, c1 6 (by decide), hpt (r + 1) (by omega), c2 (i + 1) (Nat.le_refl _), c2 i (by omega)]
        refine ⟨by omega, fun g => absurd g (by omega), fun _ => ⟨by omega, by omega, by omega, c_product hn hR hF3 hx (hg (i + 1)) ?_⟩⟩
        rw [xXor_n (by have := hg i; omega) (by omega)]
        intro M4 e4
        have := jh M4 ⟨by omega, fun c hc => by rw [e4, xU_o hc]; exact c1 c hc, fun j hj => by rw [e4, xU_n (by omega)]; exact c2 j (by omega), fun j h1 h2 => ?_⟩
        · rw [show ((i + 1 : Nat) : Int) + (-1) = (i : Int) by omega]
          exact this
        · by_cases hji : j = i + 1
          · rw [hji, e4, xU_s, ggen, if_neg (by omega)]
            rfl
          · rw [e4, xU_n hji]
            exact c3 j (by omega) h2
      · obtain ⟨c0, c1, c2, c3⟩ := hJ
        have hF3 : FI p M3 := hF.keep (fun c h1 h2 => c1 c (by omega))
        refine B_C_fillGenerator_47 hn hR ?_
        rw [show ((r : Int) + 1).toNat = r + 1 by omega, c1 6 (by decide), hpt (r + 1) (by omega), c2 0 (Nat.le_refl _)]
        refine ⟨by omega, fun _ => ⟨by omega, c_product hn hR hF3 hx (hg 0) ?_⟩, fun g => absurd (Int.le_refl _) g⟩
        intro M4 e4
        have := ih M4 ⟨fun c hc => by rw [e4, xU_o hc]; exact c1 c hc, fun j hj => ?_⟩
        · exact this
        · by_cases hj0 : j = 0
          · rw [hj0, e4, xU_s, ggen, if_pos rfl]
          · rw [e4, xU_n hj0]
            exact c3 j (by omega) hj
    · obtain ⟨b1, b2⟩ := hI
      refine B_C_fillGenerator_32 hn hR ?_
      rw [b1 5 (by decide), hl, hdim]
      exact ⟨by omega, by omega, fun _ => h M2 b1 b2, fun g => absurd (show (n : Int) - k < ((n - k : Nat) : Int) + 1 by omega) g⟩
  refine upto (σ := xM) (fun i M1 => Xv m_C_fillGenerator 1 nn R P 2 [some (vr 5), some (vi i), none] [] M1) (fun i M1 => (∀ c, c ≠ 9 → M1 c = M c) ∧ ∀ j, j < i → M1 9 j = 0) n (fun i M1 hi hI ih => ?_) (fun M1 hI => ?_) 0 M (by omega) ⟨fun _ _ => rfl, fun j hj => by omega⟩
  · obtain ⟨b1, b2⟩ := hI
    refine B_C_fillGenerator_2 hn hR ?_
    rw [b1 5 (by decide), hl, Int.toNat_natCast]
    refine ⟨by omega, by omega, fun g => absurd g (by omega), fun _ => ⟨by omega, fun M2 e2 => ih M2 ⟨fun c hc => by rw [e2, xU_o hc]; exact b1 c hc, fun j hj => ?_⟩⟩⟩
    by_cases hji : j = i
    · rw [hji, e2, xU_s]
    · rw [e2, xU_n hji]
      exact b2 j (by omega)
  · obtain ⟨b1, b2⟩ := hI
    refine B_C_fillGenerator_2 hn hR ?_
    rw [b1 5 (by decide), hl]
    refine ⟨by omega, by omega, fun _ M2 e2 => fac M2 (fun c hc => by rw [e2, xU_o hc]; exact b1 c hc) (fun j hj => ?_), fun g => absurd (Int.le_refl _) g⟩
    by_cases hj0 : j = 0
    · rw [hj0, e2, xU_s, ggen, if_pos rfl]
      rfl
    · rw [e2, xU_n hj0, b2 j hj, ggen, if_neg hj0]
      rfl
theorem c_fillPlainRow {nn : Nat} {R : xR} {M : xM} {P : xM → Prop} (hn : 78 ≤ nn) (hR : RC 78 R) {p kind n k i : Nat} (hF : FI p M) (hkd : M 5 1 = kind) (hk1 : kind ≤ 1) (hl : M 5 2 = n) (hdim : M 5 3 = k) (hn1 : n < gq p) (hn2 : n ≤ 20) (hk4 : k ≤ 4) (hk : k < n) (hi : i < k) (hpt : ∀ j, j < n → M 6 j = gpw p j) (hgn : ∀ j, j < n → M 9 j = (ggen p (n - k) j : Nat))
    (h : ∀ M' : xM, (∀ c, c ≠ 11 + i → M' c = M c) → (∀ j, j < n + k → M' (11 + i) j = (gpl p kind n k i j : Nat)) → P M') : Cv m_C_fillPlainRow 2 nn R [vr 5, vi i] M P := by
  have hq := gq_b hF.1
  refine E_C_fillPlainRow hn hR (B_C_fillPlainRow_0 hn hR ?_)
  have tail : ∀ M1 : xM, (∀ c, c ≠ 11 + i → M1 c = M c) → (∀ j, j < n → M1 (11 + i) j = (gpl p kind n k i j : Nat)) → Xv m_C_fillPlainRow 2 nn R P 75 [some (vr 5), some (vi i), some (vi 0)] [] M1 := by
    intro M1 a1 a2
    refine upto (σ := xM) (fun j M2 => Xv m_C_fillPlainRow 2 nn R P 75 [some (vr 5), some (vi i), some (vi j)] [] M2) (fun j M2 => (∀ c, c ≠ 11 + i → M2 c = M c) ∧ ∀ t, t < n + j → M2 (11 + i) t = (gpl p kind n k i t : Nat)) k (fun j M2 hj hI ih => ?_) (fun M2 hI => ?_) 0 M1 (by omega) ⟨a1, a2⟩
    · obtain ⟨b1, b2⟩ := hI
      refine B_C_fillPlainRow_75 hn hR ?_
      rw [b1 5 (by omega), hl, hdim, show ((n : Int) + (j : Int)).toNat = n + j by omega, Int.toNat_natCast]
      have nx : ∀ (v : Int) (M3 : xM), v = (if i = j then 1 else 0 : Nat) → M3 = xU M2 (11 + i) (n + j) v → Xv m_C_fillPlainRow 2 nn R P 75 [some (vr 5), some (vi i), some (vi ((j : Int) + 1))] [] M3 := by
        intro v M3 ev e3
        refine ih M3 ⟨fun c hc => by rw [e3, xU_o hc]; exact b1 c hc, fun t ht => ?_⟩
        by_cases htj : t = n + j
        · rw [htj, e3, xU_s, ev, gpl, if_neg (show ¬ n + j < n by omega), show n + j - n = j by omega]
        · rw [e3, xU_n htj]
          exact b2 t (by omega)
      refine ⟨by omega, by omega, fun g => absurd g (by omega), fun _ => ⟨by omega, by omega, fun g => ⟨by omega, fun M3 e3 => nx 0 M3 (by rw [if_neg (by omega)]; rfl) e3⟩, fun g => ⟨by omega, fun M3 e3 => nx 1 M3 (by rw [if_pos (by omega)]; rfl) e3⟩⟩⟩
    · obtain ⟨b1, b2⟩ := hI
      refine B_C_fillPlainRow_75 hn hR ?_
      rw [b1 5 (by omega), hdim]
      exact ⟨by omega, by omega, fun _ => h M2 b1 b2, fun g => absurd (Int.le_refl _) g⟩
  refine upto (σ := xM) (fun j M1 => Xv m_C_fillPlainRow 2 nn R P 2 [some (vr 5), some (vi i), some (vi j)] [] M1) (fun j M1 => (∀ c, c ≠ 11 + i → M1 c = M c) ∧ ∀ t, t < j → M1 (11 + i) t = (gpl p kind n k i t : Nat)) n (fun j M1 hj hI ih => ?_) (fun M1 hI => ?_) 0 M (by omega) ⟨fun _ _ => rfl, fun t ht => by omega⟩
  · obtain ⟨b1, b2⟩ := hI
    have nx : ∀ (v : Int) (M3 : xM), v = (gpl p kind n k i j : Nat) → M3 = xU M1 (11 + i) j v → Xv m_C_fillPlainRow 2 nn R P 2 [some (vr 5), some (vi i), some (vi ((j : Int) + 1))] [] M3 := by
      intro v M3 ev e3
      refine ih M3 ⟨fun c hc => by rw [e3, xU_o hc]; exact b1 c hc, fun t ht => ?_⟩
      by_cases htj : t = j
      · rw [htj, e3, xU_s, ev]
      · rw [e3, xU_n htj]
        exact b2 t (by omega)
    have hF1 : FI p M1 := hF.keep (fun c h1 h2 => b1 c (by omega))
    refine B_C_fillPlainRow_2 hn hR ?_
    rw [b1 5 (by omega), b1 9 (by omega), b1 6 (by omega), hl, hkd, Int.toNat_natCast, Int.toNat_natCast, hpt j hj]
    refine ⟨by omega, by omega, fun g => absurd g (by omega), fun _ => ⟨by omega, fun g => ⟨by omega, by omega, fun g2 => ⟨by omega, by omega, fun M3 e3 => nx _ M3 ?_ e3⟩, fun g2 => ⟨by omega, fun M3 e3 => nx _ M3 ?_ e3⟩⟩, fun g => ⟨by omega, by omega, c_power hn hR hF1 (g_pw hF.1 (by omega)).2.1 (by omega) ⟨by omega, fun M3 e3 => nx _ M3 ?_ e3⟩⟩⟩⟩
    · rw [show ((j : Int) - (i : Int)).toNat = j - i by omega, hgn _ (by omega), gpl, if_pos hj, if_neg (by omega), if_neg (by omega)]
    · rw [gpl, if_pos hj, if_neg (by omega), if_pos (by omega)]
      rfl
    · rw [gpl, if_pos hj, if_pos (by omega)]
  · obtain ⟨b1, b2⟩ := hI
    refine B_C_fillPlainRow_2 hn hR ?_
    rw [b1 5 (by omega), hl]
    exact ⟨by omega, by omega, fun _ => tail M1 b1 b2, fun g => absurd (Int.le_refl _) g⟩
