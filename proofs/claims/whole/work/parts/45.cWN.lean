/-! contracts: Word, Finds -/
def gopen (er : Nat → Bool) : Nat → Nat
  | 0 => 0
  | i + 1 => gopen er i + (if er i = true then 0 else 1)
theorem gopen_le (er : Nat → Bool) : ∀ n, gopen er n ≤ n
  | 0 => Nat.le_refl _
  | n + 1 => by
    have := gopen_le er n
    rw [gopen]
    split <;> omega
def fset {α : Type} (f : Nat → α) (i : Nat) (v : α) : Nat → α := fun j => if j = i then v else f j
theorem gopen_far {er : Nat → Bool} {i : Nat} {b : Bool} : ∀ n, n ≤ i → gopen (fset er i b) n = gopen er n
  | 0, _ => rfl
  | n + 1, h => by
    rw [gopen, gopen, gopen_far n (by omega)]
    have e : fset er i b n = er n := if_neg (by omega)
    rw [e]
theorem gopen_put {er : Nat → Bool} {i : Nat} : ∀ n, i < n → gopen (fset er i false) n = gopen er n + (if er i = true then 1 else 0)
  | 0, h => by omega
  | n + 1, h => by
    by_cases e : i = n
    · subst e
      rw [gopen, gopen, gopen_far i (Nat.le_refl _)]
      have e : fset er i false i = false := if_pos rfl
      rw [e]
      cases er i <;> simp
    · rw [gopen, gopen, gopen_put n (by omega)]
      have e : fset er i false n = er n := if_neg (by omega)
      rw [e]
      omega
theorem gopen_strike {er : Nat → Bool} {i : Nat} (h0 : er i = false) : ∀ n, i < n → gopen (fset er i true) n + 1 = gopen er n
  | 0, h => by omega
  | n + 1, h => by
    by_cases e : i = n
    · subst e
      rw [gopen, gopen, gopen_far i (Nat.le_refl _)]
      have e : fset er i true i = true := if_pos rfl
      rw [e, h0]
      simp
    · rw [gopen, gopen, ← gopen_strike h0 n (by omega)]
      have e : fset er i true n = er n := if_neg (by omega)
      rw [e]
      omega
theorem gopen_none (n : Nat) : gopen (fun _ => false) n = n := by
  induction n with
  | zero => rfl
  | succ n ih => rw [gopen, ih]; simp
/-- the word: n elements, which are erased, how many are not -/
def WI (p n : Nat) (w : Nat → Nat) (er : Nat → Bool) (M : xM) : Prop := (∀ i, i < n → M 27 i = w i ∧ w i < gq p) ∧ (∀ i, i < n → M 28 i = if er i = true then 1 else 0) ∧ M 26 0 = gopen er n
theorem WI.keep {p n : Nat} {w : Nat → Nat} {er : Nat → Bool} {M M' : xM} (h : WI p n w er M) (hk : ∀ c, 26 ≤ c → c ≤ 28 → M' c = M c) : WI p n w er M' := by
  unfold WI
  rw [hk 26 (by omega) (by omega), hk 27 (by omega) (by omega), hk 28 (by omega) (by omega)]
  exact h
theorem c_Wbegin {nn : Nat} {R : xR} {M : xM} {P : xM → Prop} (hn : 78 ≤ nn) (hR : RC 78 R) {p n : Nat} (hp : p ∈ grims) (hn20 : n ≤ 20) (h : ∀ M' : xM, WI p n (fun _ => 0) (fun _ => false) M' → (∀ c, c < 26 ∨ 29 ≤ c → M' c = M c) → P M') : Cv m_W_begin 0 nn R [vr 26, vi n] M P := by
  have hq := gq_b hp
  refine E_W_begin hn hR (B_W_begin_0 hn hR ?_)
  refine upto (σ := xM) (fun i M1 => Xv m_W_begin 0 nn R P 2 [some (vr 26), some (vi n), some (vi i)] [] M1) (fun i M1 => (∀ c, c ≠ 27 → c ≠ 28 → M1 c = M c) ∧ ∀ j, j < i → M1 27 j = 0 ∧ M1 28 j = 0) 20 (fun i M1 hi hI ih => ?_) (fun M1 hI => ?_) 0 M (by omega) ⟨fun _ _ _ => rfl, fun j hj => by omega⟩
  · obtain ⟨c1, c2⟩ := hI
    refine B_W_begin_2 hn hR ?_
    rw [Int.toNat_natCast]
    refine ⟨by omega, fun g => absurd g (by omega), fun _ => ⟨by omega, fun M2 e2 M3 e3 => ih M3 ⟨fun c h1 h2 => by rw [e3, xU_o h2, e2, xU_o h1]; exact c1 c h1 h2, fun j hj => ?_⟩⟩⟩
    by_cases hji : j = i
    · rw [hji]
      exact ⟨by rw [e3, xU_o (by decide), e2, xU_s], by rw [e3, xU_s]⟩
    · exact ⟨by rw [e3, xU_o (by decide), e2, xU_n hji]; exact (c2 j (by omega)).1, by rw [e3, xU_n hji, e2, xU_o (by decide)]; exact (c2 j (by omega)).2⟩
  · obtain ⟨c1, c2⟩ := hI
    refine B_W_begin_2 hn hR ⟨by omega, fun _ M2 e2 => h M2 ⟨fun i hi => ⟨?_, by show 0 < gq p; omega⟩, fun i hi => ?_, ?_⟩ (fun c hc => ?_), fun g => absurd (Int.le_refl _) g⟩
    · rw [e2, xU_o (by decide)]; exact (c2 i (by omega)).1
    · rw [e2, xU_o (by decide)]; exact (c2 i (by omega)).2
    · rw [e2, xU_s, gopen_none]
    · rw [e2, xU_o (by omega)]; exact c1 c (by omega) (by omega)
theorem c_put {nn : Nat} {R : xR} {M : xM} {P : xM → Prop} (hn : 78 ≤ nn) (hR : RC 78 R) {p n i v : Nat} {w : Nat → Nat} {er : Nat → Bool} (hW : WI p n w er M) (hn20 : n ≤ 20) (hi : i < n) (hv : v < gq p) (h : ∀ M' : xM, WI p n (fset w i v) (fset er i false) M' → (∀ c, c < 26 ∨ 29 ≤ c → M' c = M c) → P M') : Cv m_W_put 0 nn R [vr 26, vi i, vi v] M P := by
  obtain ⟨h1, h2, h3⟩ := hW
  refine E_W_put hn hR (B_W_put_0 hn hR ?_)
  rw [Int.toNat_natCast, h2 i hi]
  have word : ∀ M5 : xM, (∀ j, j ≠ i → M5 27 j = M 27 j) → M5 27 i = v → ∀ j, j < n → M5 27 j = (fset w i v j : Nat) ∧ fset w i v j < gq p := by
    intro M5 a1 a2 j hj
    unfold fset
    by_cases hji : j = i
    · rw [if_pos hji, hji]; exact ⟨a2, hv⟩
    · rw [if_neg hji, a1 j hji]; exact h1 j hj
  have hop := gopen_put (er := er) n hi
  by_cases he : er i = true
  · rw [if_pos he]
    refine ⟨by omega, by decide, fun g => absurd g (by decide), fun _ M2 e2 M3 e3 M4 e4 => h M4 ⟨word M4 (fun j hj => by rw [e4, xU_n hj, e3, xU_o (by decide), e2, xU_o (by decide)]) (by rw [e4, xU_s]), fun j hj => ?_, ?_⟩ (fun c hc => by rw [e4, xU_o (by omega), e3, xU_o (by omega), e2, xU_o (by omega)])⟩
    · rw [e4, xU_o (by decide), e3, xU_o (by decide), e2]
      unfold fset
      by_cases hji : j = i
      · rw [hji, xU_s, if_pos rfl]; rfl
      · rw [xU_n hji, if_neg hji]; exact h2 j hj
    · rw [e4, xU_o (by decide), e3, xU_s, e2, xU_o (by decide), h3, hop, if_pos he]
      omega
  · rw [if_neg he]
    refine ⟨by omega, by decide, fun _ M4 e4 => h M4 ⟨word M4 (fun j hj => by rw [e4, xU_n hj]) (by rw [e4, xU_s]), fun j hj => ?_, ?_⟩ (fun c hc => by rw [e4, xU_o (by omega)]), fun g => absurd rfl g⟩
    · rw [e4, xU_o (by decide)]
      unfold fset
      by_cases hji : j = i
      · rw [hji, h2 i hi, if_neg he, if_pos rfl]; rfl
      · rw [if_neg hji]; exact h2 j hj
    · rw [e4, xU_o (by decide), h3, hop, if_neg he]
      rfl
theorem c_strike {nn : Nat} {R : xR} {M : xM} {P : xM → Prop} (hn : 78 ≤ nn) (hR : RC 78 R) {p n i : Nat} {w : Nat → Nat} {er : Nat → Bool} (hW : WI p n w er M) (hn20 : n ≤ 20) (hi : i < n) (he : er i = false) (h : ∀ M' : xM, WI p n w (fset er i true) M' → (∀ c, c < 26 ∨ 29 ≤ c → M' c = M c) → P M') : Cv m_W_strike 0 nn R [vr 26, vi i] M P := by
  obtain ⟨h1, h2, h3⟩ := hW
  refine E_W_strike hn hR (B_W_strike_0 hn hR ?_)
  rw [Int.toNat_natCast]
  have hop := gopen_strike he n hi
  refine ⟨by omega, fun M1 e1 M2 e2 => h M2 ⟨fun j hj => by rw [e2, xU_o (by decide), e1, xU_o (by decide)]; exact h1 j hj, fun j hj => ?_, ?_⟩ (fun c hc => by rw [e2, xU_o (by omega), e1, xU_o (by omega)])⟩
  · rw [e2, xU_o (by decide), e1]
    unfold fset
    by_cases hji : j = i
    · rw [hji, xU_s, if_pos rfl]; rfl
    · rw [xU_n hji, if_neg hji]; exact h2 j hj
  · rw [e2, xU_s, e1, xU_o (by decide), h3]
    omega
theorem c_Nhas_1 {nn : Nat} {R : xR} {M : xM} {P : Int → xM → Prop} (hn : 78 ≤ nn) (hR : RC 78 R) {c : Int} {ct : Nat} (hc : xin c) (hct : M 32 1 = ct) (hcap : ct ≤ 1) (h1 : 0 ≤ c → c < ct → P 1 M) (h0 : ¬ (0 ≤ c ∧ c < ct) → P 0 M) : Ci m_N_has 0 nn R [vr 32, vi c] M P := by
  refine E_N_has_1 hn hR (B_N_has_1_0 hn hR ?_)
  rw [hct]
  exact ⟨hc, fun g => h0 (by omega), fun g => ⟨by omega, fun g2 => h0 (by omega), fun g2 => h1 (by omega) (by omega)⟩⟩
theorem c_Nadd_1 {nn : Nat} {R : xR} {M : xM} {P : xM → Prop} (hn : 78 ≤ nn) (hR : RC 78 R) {p kind n k ct : Nat} {ms : Int} (hF : FI p M) (hC : CI p kind n k M) (hct : M 32 1 = ct) (hcap : ct ≤ 1) (u : Nat → Nat) (hu : ∀ i, i < k → M 30 i = u i ∧ u i < gq p) (hlt : ∀ r c, r < k → c < n + k → gld p kind n k r c < gq p)
    (hfull : ct = 1 → P M)
    (h : ct < 1 → ∀ M' : xM, (∀ c, c ≠ 32 → c ≠ 34 + ct → c ≠ 35 → M' c = M c) → M' 32 1 = (ct + 1 : Nat) → (∀ j, j ≠ 1 → M' 32 j = M 32 j) → (∀ j, j ≠ ct → M' 35 j = M 35 j) → M' 35 ct = ms → (∀ i, i < n → M' (34 + ct) i = (gsum p u (fun j => gld p kind n k j i) k : Nat)) → P M') : Cv m_N_add 2 nn R [vr 32, vr 30, vi ms] M P := by
  obtain ⟨o1, o2, o3, o4, o5, o6, o7⟩ := hC.1
  have k4 := hC.1.k4
  refine E_N_add_1 hn hR (B_N_add_1_0 hn hR ?_)
  rw [hct]
  refine ⟨by omega, fun g => hfull (by omega), fun g => ?_⟩
  have hlt' : ct < 1 := by omega
  refine upto (σ := xM) (fun i M1 => Xv m_N_add 2 nn R P 14 [some (vr 32), some (vr 30), some (vi ms), some (vi i)] [] M1) (fun i M1 => (∀ c, c ≠ 34 + ct → M1 c = M c) ∧ ∀ j, j < i → M1 (34 + ct) j = (gsum p u (fun a => gld p kind n k a j) k : Nat)) n (fun i M1 hi hI ih => ?_) (fun M1 hI => ?_) 0 M (by omega) ⟨fun _ _ => rfl, fun j hj => by omega⟩
  · obtain ⟨c1, c2⟩ := hI
    have hF1 : FI p M1 := hF.keep (fun c h1 h2 => c1 c (by omega))
    have hC1 : CI p kind n k M1 := hC.keep (fun c h1 h2 => c1 c (by omega))
    refine B_N_add_1_14 hn hR ?_
    rw [c1 32 (by omega), hct, hC1.2.2.1, Int.toNat_natCast, Int.toNat_natCast]
    refine ⟨by omega, by omega, fun g => absurd g (by omega), fun _ => ⟨by omega, ?_⟩⟩
    refine c_mixed_l hn hR hF1 hC1.2.2.2.1 k4 (N2 := 4) rfl (by omega) (by decide) k4 u (fun a => gld p kind n k a i) (fun a ha => by rw [c1 30 (by omega)]; exact hu a ha) (fun a ha => ⟨hC1.2.2.2.2.2.2.2.2.1 a i ha (by omega), hlt a i ha (by omega)⟩) (by omega) ?_
    refine ⟨by omega, fun M2 e2 => ih M2 ⟨fun c hc => by rw [e2, xU_o hc]; exact c1 c hc, fun j hj => ?_⟩⟩
    by_cases hji : j = i
    · rw [hji, e2, xU_s]
    · rw [e2, xU_n hji]; exact c2 j (by omega)
  · obtain ⟨c1, c2⟩ := hI
    have hC1 : CI p kind n k M1 := hC.keep (fun c h1 h2 => c1 c (by omega))
    refine B_N_add_1_14 hn hR ?_
    rw [c1 32 (by omega), hct, hC1.2.2.1, Int.toNat_natCast]
    refine ⟨by omega, by omega, fun _ => ⟨by omega, fun M2 e2 M3 e3 => h hlt' M3 (fun c h1 h2 h3 => ?_) ?_ (fun j hj => ?_) (fun j hj => ?_) ?_ (fun i hi => ?_)⟩, fun g => absurd (Int.le_refl _) g⟩
    · rw [e3, xU_o h1, e2, xU_o h3]; exact c1 c h2
    · rw [e3, xU_s, e2, xU_o (by decide), c1 32 (by omega), hct]; rfl
    · rw [e3, xU_n hj, e2, xU_o (by decide), c1 32 (by omega)]
    · rw [e3, xU_o (by decide), e2, xU_n hj, c1 35 (by omega)]
    · rw [e3, xU_o (by decide), e2, xU_s]
    · rw [e3, xU_o (by omega), e2, xU_o (by omega)]; exact c2 i hi
theorem c_Nhas_2 {nn : Nat} {R : xR} {M : xM} {P : Int → xM → Prop} (hn : 78 ≤ nn) (hR : RC 78 R) {c : Int} {ct : Nat} (hc : xin c) (hct : M 36 1 = ct) (hcap : ct ≤ 16) (h1 : 0 ≤ c → c < ct → P 1 M) (h0 : ¬ (0 ≤ c ∧ c < ct) → P 0 M) : Ci m_N_has 0 nn R [vr 36, vi c] M P := by
  refine E_N_has_2 hn hR (B_N_has_2_0 hn hR ?_)
  rw [hct]
  exact ⟨hc, fun g => h0 (by omega), fun g => ⟨by omega, fun g2 => h0 (by omega), fun g2 => h1 (by omega) (by omega)⟩⟩
theorem c_Nadd_2 {nn : Nat} {R : xR} {M : xM} {P : xM → Prop} (hn : 78 ≤ nn) (hR : RC 78 R) {p kind n k ct : Nat} {ms : Int} (hF : FI p M) (hC : CI p kind n k M) (hct : M 36 1 = ct) (hcap : ct ≤ 16) (u : Nat → Nat) (hu : ∀ i, i < k → M 30 i = u i ∧ u i < gq p) (hlt : ∀ r c, r < k → c < n + k → gld p kind n k r c < gq p)
    (hfull : ct = 16 → P M)
    (h : ct < 16 → ∀ M' : xM, (∀ c, c ≠ 36 → c ≠ 38 + ct → c ≠ 54 → M' c = M c) → M' 36 1 = (ct + 1 : Nat) → (∀ j, j ≠ 1 → M' 36 j = M 36 j) → (∀ j, j ≠ ct → M' 54 j = M 54 j) → M' 54 ct = ms → (∀ i, i < n → M' (38 + ct) i = (gsum p u (fun j => gld p kind n k j i) k : Nat)) → P M') : Cv m_N_add 2 nn R [vr 36, vr 30, vi ms] M P := by
  obtain ⟨o1, o2, o3, o4, o5, o6, o7⟩ := hC.1
  have k4 := hC.1.k4
  refine E_N_add_2 hn hR (B_N_add_2_0 hn hR ?_)
  rw [hct]
  refine ⟨by omega, fun g => hfull (by omega), fun g => ?_⟩
  have hlt' : ct < 16 := by omega
  refine upto (σ := xM) (fun i M1 => Xv m_N_add 2 nn R P 14 [some (vr 36), some (vr 30), some (vi ms), some (vi i)] [] M1) (fun i M1 => (∀ c, c ≠ 38 + ct → M1 c = M c) ∧ ∀ j, j < i → M1 (38 + ct) j = (gsum p u (fun a => gld p kind n k a j) k : Nat)) n (fun i M1 hi hI ih => ?_) (fun M1 hI => ?_) 0 M (by omega) ⟨fun _ _ => rfl, fun j hj => by omega⟩
  · obtain ⟨c1, c2⟩ := hI
    have hF1 : FI p M1 := hF.keep (fun c h1 h2 => c1 c (by omega))
    have hC1 : CI p kind n k M1 := hC.keep (fun c h1 h2 => c1 c (by omega))
    refine B_N_add_2_14 hn hR ?_
    rw [c1 36 (by omega), hct, hC1.2.2.1, Int.toNat_natCast, Int.toNat_natCast]
    refine ⟨by omega, by omega, fun g => absurd g (by omega), fun _ => ⟨by omega, ?_⟩⟩
    refine c_mixed_l hn hR hF1 hC1.2.2.2.1 k4 (N2 := 4) rfl (by omega) (by decide) k4 u (fun a => gld p kind n k a i) (fun a ha => by rw [c1 30 (by omega)]; exact hu a ha) (fun a ha => ⟨hC1.2.2.2.2.2.2.2.2.1 a i ha (by omega), hlt a i ha (by omega)⟩) (by omega) ?_
    refine ⟨by omega, fun M2 e2 => ih M2 ⟨fun c hc => by rw [e2, xU_o hc]; exact c1 c hc, fun j hj => ?_⟩⟩
    by_cases hji : j = i
    · rw [hji, e2, xU_s]
    · rw [e2, xU_n hji]; exact c2 j (by omega)
  · obtain ⟨c1, c2⟩ := hI
    have hC1 : CI p kind n k M1 := hC.keep (fun c h1 h2 => c1 c (by omega))
    refine B_N_add_2_14 hn hR ?_
    rw [c1 36 (by omega), hct, hC1.2.2.1, Int.toNat_natCast]
    refine ⟨by omega, by omega, fun _ => ⟨by omega, fun M2 e2 M3 e3 => h hlt' M3 (fun c h1 h2 h3 => ?_) ?_ (fun j hj => ?_) (fun j hj => ?_) ?_ (fun i hi => ?_)⟩, fun g => absurd (Int.le_refl _) g⟩
    · rw [e3, xU_o h1, e2, xU_o h3]; exact c1 c h2
    · rw [e3, xU_s, e2, xU_o (by decide), c1 36 (by omega), hct]; rfl
    · rw [e3, xU_n hj, e2, xU_o (by decide), c1 36 (by omega)]
    · rw [e3, xU_o (by decide), e2, xU_n hj, c1 54 (by omega)]
    · rw [e3, xU_o (by decide), e2, xU_s]
    · rw [e3, xU_o (by omega), e2, xU_o (by omega)]; exact c2 i hi
