/-! RadiusDecoder: encode, decode and what it shows, list and what it shows, radius, weight -/
section DE
variable {nn : Nat} {R : xR} {M : xM} {p kind n k : Nat} {msg w : Nat → Nat} {er : Nat → Bool} {fo : Option (Nat × (Nat → Bool))} {ls : List (Nat × Nat)}
def genc (p kind n k : Nat) (msg : Nat → Nat) (sys : Bool) (i : Nat) : Nat := gsum p msg (fun j => if sys = true then gtr p kind n k j i else gpl p kind n k j i) k
theorem c_encode {P : Int → xM → Prop} (hn : 78 ≤ nn) (hR : RC 78 R) (hPV : PVT) (hD : DI p kind n k msg w er fo ls M) {a : Int} (ha : xin a) (h : ∀ sys : Bool, (sys = true ↔ a ≠ 0) → ∀ M' : xM, DI p kind n k msg (genc p kind n k msg sys) (fun _ => false) fo ls M' → (∀ c, 78 ≤ c → M' c = M c) → P (gcnt (fun i => genc p kind n k msg sys i != 0) n : Nat) M') : Ci m_D_encode 2 nn R [vr 0, vi a] M P := by
  obtain ⟨o1, o2, o3, o4, o5, o6, o7⟩ := hD.2.2.1.1
  have k4 := hD.2.2.1.1.k4
  have hq := gq_b o1
  have hlt := gtr_lt hPV hD.2.2.1.1
  -- the loop, for either basis
  have loop : ∀ (sys : Bool) (g : Nat), (sys = true ↔ a ≠ 0) → (∀ (M1 : xM) (Q : Int → xM → Prop) (i : Nat), i < n → FI p M1 → CI p kind n k M1 → (∀ j, j < k → M1 25 j = msg j ∧ msg j < gq p) → Q (genc p kind n k msg sys i : Nat) M1 → Ci m_C_mixed 1 nn R [vr 5, vr g, vr 25, vi i] M1 Q) → (∀ i, i < n → genc p kind n k msg sys i < gq p) → Xi m_D_encode 2 nn R P 27 [some (vr 0), some (vi a), some (vr g), some (vi 0), some (vi 0), none] [] M := by
    intro sys g hs hmix hl
    refine upto (σ := xM) (fun i M1 => Xi m_D_encode 2 nn R P 27 [some (vr 0), some (vi a), some (vr g), some (vi (gcnt (fun i => genc p kind n k msg sys i != 0) i : Nat)), some (vi i), none] [] M1) (fun i M1 => WI p n (fun j => if j < i then genc p kind n k msg sys j else w j) (fun j => if j < i then false else er j) M1 ∧ ∀ c, c < 26 ∨ 29 ≤ c → M1 c = M c) n (fun i M1 hi hI ih => ?_) (fun M1 hI => ?_) 0 M (by omega) ⟨hD.2.2.2.2.1, fun _ _ => rfl⟩
    · obtain ⟨b1, b2⟩ := hI
      have hF1 : FI p M1 := hD.1.keep (fun c h1 h2 => b2 c (by omega))
      have hC1 : CI p kind n k M1 := hD.2.2.1.keep (fun c h1 h2 => b2 c (by omega))
      have hgc := gcnt_le (fun i => genc p kind n k msg sys i != 0) i
      refine B_D_encode_27 hn hR ?_
      rw [hC1.2.2.1]
      refine ⟨by omega, by omega, fun g => absurd g (by omega), fun _ => ?_⟩
      refine hmix M1 _ i hi hF1 hC1 (fun j hj => by rw [b2 25 (by omega)]; exact hD.2.2.2.1 j hj) ?_
      refine c_put hn hR b1 o6 hi (hl i hi) (fun M2 d1 d2 => ?_)
      have hli := hl i hi
      have ih' := ih M2 ⟨d1.ext (fun j hj => ?_) (fun j hj => ?_), fun c hc => by rw [d2 c hc]; exact b2 c hc⟩
      · rw [gcnt] at ih'
        refine ⟨by omega, fun g => ?_, fun g => ?_⟩
        · have hz : genc p kind n k msg sys i = 0 := by omega
          rw [hz] at ih'
          exact ih'
        · have hz : (genc p kind n k msg sys i != 0) = true := by simpa using (show genc p kind n k msg sys i ≠ 0 by omega)
          rw [if_pos hz] at ih'
          exact ih'
      · unfold fset
        by_cases hji : j = i
        · rw [if_pos hji, if_pos (by omega), hji]
        · rw [if_neg hji]
          dsimp only
          by_cases hlt2 : j < i
          · rw [if_pos hlt2, if_pos (by omega)]
          · rw [if_neg hlt2, if_neg (by omega)]
      · unfold fset
        by_cases hji : j = i
        · rw [if_pos hji, if_pos (by omega)]
        · rw [if_neg hji]
          dsimp only
          by_cases hlt2 : j < i
          · rw [if_pos hlt2, if_pos (by omega)]
          · rw [if_neg hlt2, if_neg (by omega)]
    · obtain ⟨b1, b2⟩ := hI
      have hC1 : CI p kind n k M1 := hD.2.2.1.keep (fun c h1 h2 => b2 c (by omega))
      refine B_D_encode_27 hn hR ?_
      rw [hC1.2.2.1]
      refine ⟨by omega, by omega, fun _ => h sys hs M1 (hD.word (b1.ext (fun j hj => if_pos hj) (fun j hj => if_pos hj)) b2) (fun c hc => b2 c (by omega)), fun g => absurd (Int.le_refl _) g⟩
  refine E_D_encode hn hR (B_D_encode_0 hn hR ⟨ha, fun g => ?_, fun g => ?_⟩)
  · refine loop false 10 ⟨fun q => (by cases q), fun q => absurd g q⟩ (fun M1 Q i hi hF1 hC1 hm hQ => ?_) (fun i hi => gsum_lt o1 k (fun j hj => ⟨(hD.2.2.2.1 j hj).2, gpl_lt o1 o5 (by omega) o4 j i⟩))
    exact c_mixed_p hn hR hF1 hC1.2.2.2.1 k4 (N2 := 4) rfl (by omega) (by decide) k4 msg (fun j => gpl p kind n k j i) hm (fun j hj => ⟨hC1.2.2.2.2.2.2.2.1 j i hj (by omega), gpl_lt o1 o5 (by omega) o4 j i⟩) (by omega) hQ
  · refine loop true 20 ⟨fun _ => g, fun _ => rfl⟩ (fun M1 Q i hi hF1 hC1 hm hQ => ?_) (fun i hi => gsum_lt o1 k (fun j hj => ⟨(hD.2.2.2.1 j hj).2, hlt j i hj (by omega)⟩))
    exact c_mixed_t hn hR hF1 hC1.2.2.2.1 k4 (N2 := 4) rfl (by omega) (by decide) k4 msg (fun j => gtr p kind n k j i) hm (fun j hj => ⟨hC1.2.2.2.2.2.2.2.2.2 j i hj (by omega), hlt j i hj (by omega)⟩) (by omega) hQ
/-- register becomes the locating polynomial of the places where the word is wrong -/
theorem c_locate {P : xM → Prop} (hn : 78 ≤ nn) (hR : RC 78 R) (hF : FI p M) (hC : CI p kind n k M) (hW : WI p n w er M) (cw : Nat → Nat) (hcw : ∀ i, i < n → M 34 i = cw i ∧ cw i < gq p) (df : Nat → Bool) (hdf : ∀ i, i < n → df i = (!er i && w i != cw i)) (h : ∀ M' : xM, (∀ c, c ≠ 55 → M' c = M c) → (∀ i, i < 20 → M' 55 i = (gloc p df n i : Nat)) → P M') : Cv m_D_locateWrongPlaces 1 nn R [vr 0] M P := by
  obtain ⟨o1, o2, o3, o4, o5, o6, o7⟩ := hC.1
  have hq := gq_b o1
  refine E_D_locateWrongPlaces hn hR (B_D_locateWrongPlaces_0 hn hR ?_)
  have main : ∀ M1 : xM, (∀ c, c ≠ 55 → M1 c = M c) → (∀ i, i < 20 → M1 55 i = (gloc p df 0 i : Nat)) → Xv m_D_locateWrongPlaces 1 nn R P 30 [some (vr 0), some (vi 0), none] [] M1 := by
    intro M1 a1 a2
    refine upto (σ := xM) (fun q M2 => Xv m_D_locateWrongPlaces 1 nn R P 30 [some (vr 0), some (vi q), none] [] M2) (fun q M2 => (∀ c, c ≠ 55 → M2 c = M c) ∧ ∀ i, i < 20 → M2 55 i = (gloc p df q i : Nat)) n (fun q M2 hq' hI ih => ?_) (fun M2 hI => ?_) 0 M1 (by omega) ⟨a1, a2⟩
    · obtain ⟨b1, b2⟩ := hI
      have hC2 : CI p kind n k M2 := hC.keep (fun c h1 h2 => b1 c (by omega))
      have hW2 : WI p n w er M2 := hW.keep (fun c h1 h2 => b1 c (by omega))
      have hF2 : FI p M2 := hF.keep (fun c h1 h2 => b1 c (by omega))
      have hwl := (hW2.1 q hq').2
      have hcl := (hcw q hq').2
      have hd := hdf q hq'
      have stay : df q = false → Xv m_D_locateWrongPlaces 1 nn R P 30 [some (vr 0), some (vi ((q : Int) + 1)), none] [] M2 := fun hz => ih M2 ⟨b1, fun i hi => by rw [gloc, if_neg (by rw [hz]; decide)]; exact b2 i hi⟩
      refine B_D_locateWrongPlaces_30 hn hR ?_
      rw [hC2.2.2.1, Int.toNat_natCast, hW2.2.1 q hq', (hW2.1 q hq').1, b1 34 (by omega), (hcw q hq').1]
      refine ⟨by omega, by omega, fun g => absurd g (by omega), fun _ => ⟨by omega, by split <;> omega, fun g => stay ?_, fun g => ⟨by omega, by omega, fun g2 => stay ?_, fun g2 => ?_⟩⟩⟩
      · rw [hd]
        cases he : er q with
        | true => rfl
        | false => rw [he] at g; exact absurd rfl g
      · rw [hd, show w q = cw q by omega]
        simp
      · have hdt : df q = true := by
          rw [hd]
          have he : er q = false := by
            cases he : er q with
            | false => rfl
            | true => rw [he] at g; exact absurd g (by decide)
          have hne : w q ≠ cw q := by omega
          simp [he, hne]
        have hx := (g_pw o1 (show q < gq p - 1 by omega)).2.1
        have hlq := gloc_lt (df := df) o1 q (by omega)
        have key := downto (σ := xM) (fun i M3 => Xv m_D_locateWrongPlaces 1 nn R P 79 [some (vr 0), some (vi q), some (vi i)] [] M3) (fun i M3 => i ≤ 19 ∧ (∀ c, c ≠ 55 → M3 c = M c) ∧ (∀ j, j ≤ i → M3 55 j = (gloc p df q j : Nat)) ∧ ∀ j, i < j → j < 20 → M3 55 j = (gloc p df (q + 1) j : Nat)) (fun i M3 hJ jh => ?_) (fun M3 hJ => ?_) 19 M2 ⟨Nat.le_refl _, b1, fun j hj => b2 j (by omega), fun j h1 h2 => by omega⟩
        · exact key
        · obtain ⟨c0, c1, c2, c3⟩ := hJ
          have hF3 : FI p M3 := hF.keep (fun c h1 h2 => c1 c (by omega))
          have hC3 : CI p kind n k M3 := hC.keep (fun c h1 h2 => c1 c (by omega))
          have hm := (g_two o1 hx (hlq i)).1
          have hl1 := hlq (i + 1)
          refine B_D_locateWrongPlaces_79 hn hR ?_
          rw [show (((i + 1 : Nat) : Int) - 1).toNat = i by omega, Int.toNat_natCast, Int.toNat_natCast, hC3.2.2.2.2.1 q hq', c2 i (by omega), c2 (i + 1) (Nat.le_refl _)]
          refine ⟨by omega, fun g => absurd g (by omega), fun _ => ⟨by omega, by omega, by omega, c_product hn hR hF3 hx (hlq i) ?_⟩⟩
          rw [xXor_n (by omega) (by omega)]
          intro M4 e4
          have := jh M4 ⟨by omega, fun c hc => by rw [e4, xU_o hc]; exact c1 c hc, fun j hj => by rw [e4, xU_n (by omega)]; exact c2 j (by omega), fun j h1 h2 => ?_⟩
          · rw [show ((i + 1 : Nat) : Int) + (-1) = (i : Int) by omega]
            exact this
          · by_cases hji : j = i + 1
            · rw [hji, e4, xU_s, gloc, if_pos hdt, if_neg (by omega)]
              rfl
            · rw [e4, xU_n hji]; exact c3 j (by omega) h2
        · obtain ⟨c0, c1, c2, c3⟩ := hJ
          refine B_D_locateWrongPlaces_79 hn hR ⟨by omega, fun _ => ih M3 ⟨c1, fun i hi => ?_⟩, fun g => absurd (Int.le_refl _) g⟩
          by_cases hi0 : i = 0
          · rw [hi0, c2 0 (Nat.le_refl _), gloc, if_pos hdt, if_pos rfl]
          · exact c3 i (by omega) hi
    · obtain ⟨b1, b2⟩ := hI
      have hC2 : CI p kind n k M2 := hC.keep (fun c h1 h2 => b1 c (by omega))
      refine B_D_locateWrongPlaces_30 hn hR ?_
      rw [hC2.2.2.1]
      exact ⟨by omega, by omega, fun _ => h M2 b1 b2, fun g => absurd (Int.le_refl _) g⟩
  refine upto (σ := xM) (fun i M1 => Xv m_D_locateWrongPlaces 1 nn R P 2 [some (vr 0), some (vi i), none] [] M1) (fun i M1 => (∀ c, c ≠ 55 → M1 c = M c) ∧ ∀ j, j < i → M1 55 j = 0) 20 (fun i M1 hi hI ih => ?_) (fun M1 hI => ?_) 0 M (by omega) ⟨fun _ _ => rfl, fun j hj => by omega⟩
  · obtain ⟨b1, b2⟩ := hI
    refine B_D_locateWrongPlaces_2 hn hR ?_
    rw [Int.toNat_natCast]
    refine ⟨by omega, fun g => absurd g (by omega), fun _ => ⟨by omega, fun M2 e2 => ih M2 ⟨fun c hc => by rw [e2, xU_o hc]; exact b1 c hc, fun j hj => ?_⟩⟩⟩
    by_cases hji : j = i
    · rw [hji, e2, xU_s]
    · rw [e2, xU_n hji]; exact b2 j (by omega)
  · obtain ⟨b1, b2⟩ := hI
    refine B_D_locateWrongPlaces_2 hn hR ⟨by omega, fun _ M2 e2 => main M2 (fun c hc => by rw [e2, xU_o hc]; exact b1 c hc) (fun i hi => ?_), fun g => absurd (Int.le_refl _) g⟩
    by_cases hi0 : i = 0
    · rw [hi0, e2, xU_s, gloc, if_pos rfl]; rfl
    · rw [e2, xU_n hi0, b2 i hi, gloc, if_neg hi0]; rfl
theorem gcw_lt (hPV : PVT) (hc : okc p kind n k) {t i : Nat} (hi : i < n + k) : gcw p kind n k t i < gq p := by
  have hq := gq_b hc.1
  exact gsum_lt hc.1 k (fun j hj => ⟨dig_lt (by omega), gld_lt hPV hc j i hj hi⟩)
def gdf (p kind n k : Nat) (w : Nat → Nat) (er : Nat → Bool) (t : Nat) : Nat → Bool := fun i => !er i && w i != gcw p kind n k t i
theorem c_decode {P : Int → xM → Prop} (hn : 78 ≤ nn) (hR : RC 78 R) (hPV : PVT) (hD : DI p kind n k msg w er fo ls M) {a : Int} (hmany : gopen er n < k → P (-3) M)
    (hnone : k ≤ gopen er n → gfnd p kind n k w er ((gopen er n - k) / 2) (gq p ^ k) = [] → ∀ M' : xM, DI p kind n k msg w er none ls M' → (∀ c, 78 ≤ c → M' c = M c) → P (-2) M')
    (hsome : k ≤ gopen er n → ∀ t, (gfnd p kind n k w er ((gopen er n - k) / 2) (gq p ^ k))[0]? = some t → ∀ M' : xM, DI p kind n k msg w er (some (t, gdf p kind n k w er t)) ls M' → (∀ c, 78 ≤ c → M' c = M c) → P (gdst p kind n k w er t : Nat) M') : Ci m_D_decode 4 nn R [vr 0, vi a] M P := by
  obtain ⟨d1, d2, d3, d4, d5, d6, d7, d8, d9, d10⟩ := id hD
  obtain ⟨o1, o2, o3, o4, o5, o6, o7⟩ := d3.1
  have hop := gopen_le er n
  refine E_D_decode hn hR (B_D_decode_0 hn hR ?_)
  refine c_isErased hn hR d3 d5 (fun g => ⟨by decide, fun g2 => absurd g2 (by decide), fun _ => hmany g⟩) (fun g => ⟨by decide, fun _ => ?_, fun g2 => absurd rfl g2⟩)
  refine c_half hn hR d3 d5 g ?_
  refine c_find_1 hn hR d1 d3 d5 (gld_lt hPV d3.1) (by omega) (fun M1 a1 a2 => ?_)
  have hnone := hnone g
  have hsome := hsome g
  generalize hS : gfnd p kind n k w er ((gopen er n - k) / 2) (gq p ^ k) = S at a1 hnone hsome
  have k1 : ∀ c, c < 29 → M1 c = M c := fun c hc => a2 c (by omega)
  have k2 : ∀ c, 36 ≤ c → M1 c = M c := fun c hc => a2 c (by omega)
  have hF1 : FI p M1 := d1.keep (fun c h1 h2 => k1 c (by omega))
  have hC1 : CI p kind n k M1 := d3.keep (fun c h1 h2 => k1 c (by omega))
  have hW1 : WI p n w er M1 := d5.keep (fun c h1 h2 => k1 c (by omega))
  have hls : ∀ M2 : xM, (∀ c, 36 ≤ c → c ≠ 55 → M2 c = M c) → M2 36 1 = (ls.length : Nat) ∧ ls.length ≤ 16 ∧ ∀ c x, ls[c]? = some x → (∀ i, i < n → M2 (38 + c) i = (gcw p kind n k x.1 i : Nat)) ∧ M2 54 c = (x.2 : Nat) := by
    intro M2 hk
    refine ⟨by rw [hk 36 (by omega) (by omega)]; exact d8, d9, fun c x hx => ?_⟩
    have hc := (List.getElem?_eq_some_iff.mp hx).1
    rw [hk (38 + c) (by omega) (by omega), hk 54 (by omega) (by omega)]
    exact d10 c x hx
  cases S with
  | nil =>
    have hc0 : M1 32 1 = 0 := a1.1
    refine ⟨by rw [hc0]; decide, fun g2 => absurd hc0 g2, fun _ => hnone rfl M1 ⟨hF1, fun a ha => by rw [k1 4 (by omega)]; exact d2 a ha, hC1, fun i hi => by rw [k1 25 (by omega)]; exact d4 i hi, hW1, fun _ => hc0, fun t df e => (by cases e), hls M1 (fun c h1 h2 => k2 c h1)⟩ (fun c hc => k2 c (by omega))⟩
  | cons t S' =>
    have hc1 : M1 32 1 = 1 := by
      rw [a1.1, List.length_cons]
      have : min (S'.length + 1) 1 = 1 := by omega
      rw [this]
      rfl
    obtain ⟨f1, f2⟩ := a1.2 0 t rfl (by decide)
    refine ⟨by rw [hc1]; decide, fun _ => ?_, fun g2 => absurd (hc1.symm.trans g2) (by decide)⟩
    refine c_locate hn hR hF1 hC1 hW1 (gcw p kind n k t) (fun i hi => ⟨f1 i hi, gcw_lt hPV d3.1 (by omega)⟩) (gdf p kind n k w er t) (fun i hi => rfl) (fun M2 b1 b2 => ?_)
    have e35 : M2 35 0 = (gdst p kind n k w er t : Nat) := by rw [b1 35 (by decide)]; exact f2
    rw [e35]
    refine hsome t rfl M2 ⟨hF1.keep (fun c h1 h2 => b1 c (by omega)), fun a ha => by rw [b1 4 (by omega), k1 4 (by omega)]; exact d2 a ha, hC1.keep (fun c h1 h2 => b1 c (by omega)), fun i hi => by rw [b1 25 (by omega), k1 25 (by omega)]; exact d4 i hi, hW1.keep (fun c h1 h2 => b1 c (by omega)), fun e => (by cases e), fun t' df' e => ?_, hls M2 (fun c h1 h2 => by rw [b1 c h2]; exact k2 c h1)⟩ (fun c hc => by rw [b1 c (by omega)]; exact k2 c (by omega))
    obtain ⟨rfl, rfl⟩ : t = t' ∧ gdf p kind n k w er t = df' := by
      have := Option.some.inj e
      exact ⟨congrArg Prod.fst this, congrArg Prod.snd this⟩
    exact ⟨by rw [b1 32 (by decide)]; exact hc1, fun i hi => by rw [b1 34 (by decide)]; exact f1 i hi, b2⟩
theorem c_decoded {P : Int → xM → Prop} (hn : 78 ≤ nn) (hR : RC 78 R) (hD : DI p kind n k msg w er fo ls M) {i : Int} (hi : xin i) (h0 : ¬ (0 ≤ i ∧ i < n) → P (-1) M) (h2 : 0 ≤ i → i < n → fo = none → P (-2) M) (h1 : ∀ (x t : Nat) (df : Nat → Bool), i = x → x < n → fo = some (t, df) → P (gcw p kind n k t x : Nat) M) : Ci m_D_decoded 1 nn R [vr 0, vi i] M P := by
  have n20 := hD.2.2.1.1.2.2.2.2.2.1
  obtain ⟨d1, d2, d3, d4, d5, d6, d7, -⟩ := id hD
  refine E_D_decoded hn hR (B_D_decoded_0 hn hR ?_)
  refine c_isPlace hn hR d3 hi (fun a0 a1 => ⟨by decide, fun _ => ?_, fun g => absurd g (by decide)⟩) (fun hx => ⟨by decide, fun g => absurd rfl g, fun _ => h0 hx⟩)
  cases hfo : fo with
  | none =>
    have := d6 hfo
    exact ⟨by rw [this]; decide, fun g => absurd this g, fun _ => h2 a0 a1 hfo⟩
  | some q =>
    obtain ⟨t, df⟩ := q
    obtain ⟨c1, c2, c3⟩ := d7 t df hfo
    obtain ⟨x, rfl⟩ := Int.eq_ofNat_of_zero_le a0
    rw [Int.toNat_natCast, c1, c2 x (by omega)]
    exact ⟨by decide, fun _ => ⟨by omega, h1 x t df rfl (by omega) hfo⟩, fun g => absurd g (by decide)⟩
theorem c_sent {P : Int → xM → Prop} (hn : 78 ≤ nn) (hR : RC 78 R) (hPV : PVT) (hD : DI p kind n k msg w er fo ls M) {i : Int} (hi : xin i) (h0 : ¬ (0 ≤ i ∧ i < k) → P (-1) M) (h2 : 0 ≤ i → i < k → fo = none → P (-2) M) (h1 : ∀ (x t : Nat) (df : Nat → Bool), i = x → x < k → fo = some (t, df) → P (gsum p (gcw p kind n k t) (fun j => gld p kind n k j (n + x)) k : Nat) M) : Ci m_D_sent 3 nn R [vr 0, vi i] M P := by
  have k4 := hD.2.2.1.1.k4
  obtain ⟨o1, o2, o3, o4, o5, o6, o7⟩ := hD.2.2.1.1
  obtain ⟨d1, d2, d3, d4, d5, d6, d7, -⟩ := id hD
  refine E_D_sent hn hR (B_D_sent_0 hn hR ?_)
  refine c_isInMessage hn hR d3 hi (fun a0 a1 => ⟨by decide, fun _ => ?_, fun g => absurd g (by decide)⟩) (fun hx => ⟨by decide, fun g => absurd rfl g, fun _ => h0 hx⟩)
  cases hfo : fo with
  | none =>
    have := d6 hfo
    exact ⟨by rw [this]; decide, fun g => absurd this g, fun _ => h2 a0 a1 hfo⟩
  | some q =>
    obtain ⟨t, df⟩ := q
    obtain ⟨c1, c2, c3⟩ := d7 t df hfo
    obtain ⟨x, rfl⟩ := Int.eq_ofNat_of_zero_le a0
    rw [c1]
    refine ⟨by decide, fun _ => ?_, fun g => absurd g (by decide)⟩
    refine E_C_toldBy hn hR (q1 := 34) (N1 := 20) rfl (by omega) (by decide) (B_C_toldBy_0 hn hR rfl (by omega) (by decide) ?_)
    rw [d3.2.2.1, show (n : Int) + (x : Int) = ((n + x : Nat) : Int) by omega]
    exact c_mixed_l hn hR d1 d3.2.2.2.1 k4 (N2 := 20) rfl (by omega) (by decide) (by omega) (gcw p kind n k t) (fun j => gld p kind n k j (n + x)) (fun j hj => ⟨c2 j (by omega), gcw_lt hPV d3.1 (by omega)⟩) (fun j hj => ⟨d3.2.2.2.2.2.2.2.2.1 j (n + x) hj (by omega), gld_lt hPV d3.1 j (n + x) hj (by omega)⟩) (by omega) (h1 x t df rfl (by omega) hfo)
theorem c_locator {P : Int → xM → Prop} (hn : 78 ≤ nn) (hR : RC 78 R) (hD : DI p kind n k msg w er fo ls M) {i : Int} (hi : xin i) (h0 : ¬ (0 ≤ i ∧ i ≤ (n : Int) - k) → P (-1) M) (h2 : 0 ≤ i → i ≤ (n : Int) - k → fo = none → P (-2) M) (h1 : ∀ (x t : Nat) (df : Nat → Bool), i = x → x ≤ n - k → fo = some (t, df) → P (gloc p df n x : Nat) M) : Ci m_D_locator 0 nn R [vr 0, vi i] M P := by
  obtain ⟨o1, o2, o3, o4, o5, o6, o7⟩ := hD.2.2.1.1
  obtain ⟨d1, d2, d3, d4, d5, d6, d7, -⟩ := id hD
  refine E_D_locator hn hR (B_D_locator_0 hn hR ?_)
  rw [d3.2.2.1, d3.2.2.2.1]
  refine ⟨hi, fun g => h0 (by omega), fun g => ⟨by omega, fun g2 => ?_, fun g2 => h0 (by omega)⟩⟩
  cases hfo : fo with
  | none =>
    have := d6 hfo
    exact ⟨by rw [this]; decide, fun g => absurd this g, fun _ => h2 (by omega) g2 hfo⟩
  | some q =>
    obtain ⟨t, df⟩ := q
    obtain ⟨c1, c2, c3⟩ := d7 t df hfo
    obtain ⟨x, rfl⟩ := Int.eq_ofNat_of_zero_le (show 0 ≤ i by omega)
    rw [Int.toNat_natCast, c1, c3 x (by omega)]
    exact ⟨by decide, fun _ => ⟨by omega, h1 x t df rfl (by omega) hfo⟩, fun g => absurd g (by decide)⟩
theorem c_list {P : Int → xM → Prop} (hn : 78 ≤ nn) (hR : RC 78 R) (hPV : PVT) (hD : DI p kind n k msg w er fo ls M) {a : Int} (ha : xin a) (h0 : ¬ (1 ≤ a ∧ a ≤ 3) → P (-1) M) (hmany : 1 ≤ a → a ≤ 3 → gopen er n < k → P (-3) M) (hJ : ∀ s : Nat, 1 ≤ s → s ≤ 3 → k ≤ gopen er n → (gfnd p kind n k w er (grad (gopen er n) k s) (gq p ^ k)).length ≤ 16)
    (h1 : ∀ s : Nat, a = s → 1 ≤ s → s ≤ 3 → k ≤ gopen er n → ∀ M' : xM, DI p kind n k msg w er fo ((gfnd p kind n k w er (grad (gopen er n) k s) (gq p ^ k)).map (fun t => (t, gdst p kind n k w er t))) M' → (∀ c, 78 ≤ c → M' c = M c) → P ((gfnd p kind n k w er (grad (gopen er n) k s) (gq p ^ k)).length : Nat) M') : Ci m_D_list 4 nn R [vr 0, vi a] M P := by
  obtain ⟨d1, d2, d3, d4, d5, d6, d7, d8, d9, d10⟩ := id hD
  obtain ⟨o1, o2, o3, o4, o5, o6, o7⟩ := d3.1
  have hop := gopen_le er n
  refine E_D_list hn hR (B_D_list_0 hn hR ?_)
  refine c_isTimes hn hR ha (fun a0 a1 => ⟨by decide, fun _ => ?_, fun g => absurd g (by decide)⟩) (fun hx => ⟨by decide, fun g => absurd rfl g, fun _ => h0 hx⟩)
  refine c_isErased hn hR d3 d5 (fun g => ⟨by decide, fun g2 => absurd g2 (by decide), fun _ => hmany a0 a1 g⟩) (fun g => ⟨by decide, fun _ => ?_, fun g2 => absurd rfl g2⟩)
  obtain ⟨s, rfl⟩ := Int.eq_ofNat_of_zero_le (show 0 ≤ a by omega)
  refine c_radiusFor hn hR d3 d5 g (by omega) (by omega) ?_
  have hr : grad (gopen er n) k s ≤ 20 := by unfold grad; generalize gbd (gopen er n * kblk s) (k - 1) / s = z; split <;> omega
  refine c_find_2 hn hR d1 d3 d5 (gld_lt hPV d3.1) (by omega) (fun M1 a1 a2 => ?_)
  have hJ := hJ s (by omega) (by omega) g
  have h1 := h1 s rfl (by omega) (by omega) g
  generalize gfnd p kind n k w er (grad (gopen er n) k s) (gq p ^ k) = S at a1 hJ h1
  have kp : ∀ c, c < 29 ∨ (31 < c ∧ c < 36) ∨ 54 < c → M1 c = M c := a2
  have e36 : M1 36 1 = (S.length : Nat) := by rw [a1.1, Nat.min_eq_left hJ]
  rw [e36]
  refine h1 M1 ⟨d1.keep (fun c h1 h2 => kp c (by omega)), fun a ha => by rw [kp 4 (by omega)]; exact d2 a ha, d3.keep (fun c h1 h2 => kp c (by omega)), fun i hi => by rw [kp 25 (by omega)]; exact d4 i hi, d5.keep (fun c h1 h2 => kp c (by omega)), fun e => by rw [kp 32 (by omega)]; exact d6 e, fun t df e => by rw [kp 32 (by omega), kp 34 (by omega), kp 55 (by omega)]; exact d7 t df e, by rw [List.length_map]; exact e36, by rw [List.length_map]; exact hJ, fun c x hx => ?_⟩ (fun c hc => kp c (by omega))
  rw [List.getElem?_map] at hx
  obtain ⟨t, ht, rfl⟩ := Option.map_eq_some_iff.mp hx
  exact a1.2 c t ht (by have := (List.getElem?_eq_some_iff.mp ht).1; omega)
theorem c_listed {P : Int → xM → Prop} (hn : 78 ≤ nn) (hR : RC 78 R) (hD : DI p kind n k msg w er fo ls M) {c i : Int} (hc : xin c) (hi : xin i) (h0 : ¬ (0 ≤ c ∧ c < ls.length ∧ 0 ≤ i ∧ i < n) → P (-1) M) (h1 : ∀ (x y : Nat) (q : Nat × Nat), c = x → i = y → ls[x]? = some q → y < n → P (gcw p kind n k q.1 y : Nat) M) : Ci m_D_listed 1 nn R [vr 0, vi c, vi i] M P := by
  have n20 := hD.2.2.1.1.2.2.2.2.2.1
  obtain ⟨d1, d2, d3, d4, d5, d6, d7, d8, d9, d10⟩ := id hD
  refine E_D_listed hn hR (B_D_listed_0 hn hR ?_)
  refine c_Nhas_2 hn hR hc d8 d9 (fun a0 a1 => ⟨by decide, fun g => absurd g (by decide), fun _ => ?_⟩) (fun hx => ⟨by decide, fun _ => h0 (fun q => hx ⟨q.1, q.2.1⟩), fun g => absurd rfl g⟩)
  refine c_isPlace hn hR d3 hi (fun b0 b1 => ⟨by decide, fun g => absurd g (by decide), fun _ => ?_⟩) (fun hx => ⟨by decide, fun _ => h0 (fun q => hx q.2.2), fun g => absurd rfl g⟩)
  obtain ⟨x, rfl⟩ := Int.eq_ofNat_of_zero_le a0
  obtain ⟨y, rfl⟩ := Int.eq_ofNat_of_zero_le b0
  have hx : x < ls.length := by omega
  have hq : ls[x]? = some ls[x] := List.getElem?_eq_getElem hx
  rw [Int.toNat_natCast, Int.toNat_natCast, (d10 x _ hq).1 y (by omega)]
  exact ⟨by omega, by omega, h1 x y _ rfl rfl hq (by omega)⟩
theorem c_distance {P : Int → xM → Prop} (hn : 78 ≤ nn) (hR : RC 78 R) (hD : DI p kind n k msg w er fo ls M) {c : Int} (hc : xin c) (h0 : ¬ (0 ≤ c ∧ c < ls.length) → P (-1) M) (h1 : ∀ (x : Nat) (q : Nat × Nat), c = x → ls[x]? = some q → P (q.2 : Nat) M) : Ci m_D_distance 1 nn R [vr 0, vi c] M P := by
  obtain ⟨d1, d2, d3, d4, d5, d6, d7, d8, d9, d10⟩ := id hD
  refine E_D_distance hn hR (B_D_distance_0 hn hR ?_)
  refine c_Nhas_2 hn hR hc d8 d9 (fun a0 a1 => ⟨by decide, fun g => absurd g (by decide), fun _ => ?_⟩) (fun hx => ⟨by decide, fun _ => h0 hx, fun g => absurd rfl g⟩)
  obtain ⟨x, rfl⟩ := Int.eq_ofNat_of_zero_le a0
  have hx : x < ls.length := by omega
  have hq : ls[x]? = some ls[x] := List.getElem?_eq_getElem hx
  rw [Int.toNat_natCast, (d10 x _ hq).2]
  exact ⟨by omega, h1 x _ rfl hq⟩
theorem c_radius {P : Int → xM → Prop} (hn : 78 ≤ nn) (hR : RC 78 R) (hD : DI p kind n k msg w er fo ls M) {a : Int} (ha : xin a) (h0 : ¬ (1 ≤ a ∧ a ≤ 3) → P (-1) M) (hmany : 1 ≤ a → a ≤ 3 → gopen er n < k → P (-3) M) (h1 : ∀ s : Nat, a = s → 1 ≤ s → s ≤ 3 → k ≤ gopen er n → P (grad (gopen er n) k s : Nat) M) : Ci m_D_radius 2 nn R [vr 0, vi a] M P := by
  obtain ⟨d1, d2, d3, d4, d5, -⟩ := id hD
  refine E_D_radius hn hR (B_D_radius_0 hn hR ?_)
  refine c_isTimes hn hR ha (fun a0 a1 => ⟨by decide, fun _ => ?_, fun g => absurd g (by decide)⟩) (fun hx => ⟨by decide, fun g => absurd rfl g, fun _ => h0 hx⟩)
  refine c_isErased hn hR d3 d5 (fun g => ⟨by decide, fun g2 => absurd g2 (by decide), fun _ => hmany a0 a1 g⟩) (fun g => ⟨by decide, fun _ => ?_, fun g2 => absurd rfl g2⟩)
  obtain ⟨s, rfl⟩ := Int.eq_ofNat_of_zero_le (show 0 ≤ a by omega)
  exact c_radiusFor hn hR d3 d5 g (by omega) (by omega) (h1 s rfl (by omega) (by omega) g)
/-- places' points and values, made total -/
def gxs (p n : Nat) (er : Nat → Bool) (o : Nat) : Nat := match (opl er n)[o]? with
  | some t => gpw p t
  | none => 0
def gys (p kind n : Nat) (w : Nat → Nat) (er : Nat → Bool) (o : Nat) : Nat := match (opl er n)[o]? with
  | some t => gyv p kind n w t
  | none => 0
theorem gxs_lt (hc : okc p kind n k) (o : Nat) : gxs p n er o < gq p := by
  have hq := gq_b hc.1
  have hnq := hc.2.2.2.2.1
  unfold gxs
  cases h : (opl er n)[o]? with
  | none => show 0 < _; omega
  | some t => exact (g_pw hc.1 (by have := (opl_lt h).1; omega)).2.1
theorem gys_lt (hc : okc p kind n k) (hw : ∀ i, i < n → w i < gq p) (o : Nat) : gys p kind n w er o < gq p := by
  have hq := gq_b hc.1
  have hnq := hc.2.2.2.2.1
  unfold gys
  cases h : (opl er n)[o]? with
  | none => show 0 < _; omega
  | some t =>
    have ht := (opl_lt h).1
    obtain ⟨s1, s2⟩ := gstr_ok (kind := kind) hc.1 hnq ht
    exact g_div_lt hc.1 (hw t ht) s1 s2
def gpwN (op k s : Nat) : Nat := if 16 < gbd (op * kblk s) (k - 1) / (k - 1) + 1 then 16 else gbd (op * kblk s) (k - 1) / (k - 1) + 1
/-- z is what the row of leading weights gives -/
def WC (p kind n k : Nat) (w : Nat → Nat) (er : Nat → Bool) (s z : Nat) : Prop := ∃ (hp : p ∈ grims) (G : Nat → Nat → Nat → GE p) (wt : Nat → Nat), @kInv (GE p) (gfield p hp) (kEF hp (gxs p n er) (gys p kind n w er) s (k - 1)) 1000 (gpwN (gopen er n) k s) (k - 1) (gopen er n * kblk s) G wt ∧ z = lmn (gbd (gopen er n * kblk s) (k - 1)) wt (gpwN (gopen er n) k s)
theorem c_weight {P : Int → xM → Prop} (hn : 78 ≤ nn) (hR : RC 78 R) (hD : DI p kind n k msg w er fo ls M) {a : Int} (ha : xin a) (h0 : ¬ (1 ≤ a ∧ a ≤ 3) → P (-1) M) (hmany : 1 ≤ a → a ≤ 3 → gopen er n < k → P (-3) M) (h1 : ∀ s : Nat, a = s → 1 ≤ s → s ≤ 3 → k ≤ gopen er n → ∀ z : Nat, WC p kind n k w er s z → ∀ M' : xM, DI p kind n k msg w er fo ls M' → (∀ c, 78 ≤ c → M' c = M c) → P z M') : Ci m_D_weight 4 nn R [vr 0, vi a] M P := by
  obtain ⟨d1, d2, d3, d4, d5, -⟩ := id hD
  obtain ⟨o1, o2, o3, o4, o5, o6, o7⟩ := d3.1
  have hop := gopen_le er n
  refine E_D_weight hn hR (B_D_weight_0 hn hR ?_)
  refine c_isTimes hn hR ha (fun a0 a1 => ⟨by decide, fun _ => ?_, fun g => absurd g (by decide)⟩) (fun hx => ⟨by decide, fun g => absurd rfl g, fun _ => h0 hx⟩)
  refine c_isErased hn hR d3 d5 (fun g => ⟨by decide, fun g2 => absurd g2 (by decide), fun _ => hmany a0 a1 g⟩) (fun g => ⟨by decide, fun _ => ?_, fun g2 => absurd rfl g2⟩)
  obtain ⟨s, rfl⟩ := Int.eq_ofNat_of_zero_le (show 0 ≤ a by omega)
  refine c_boundFor hn hR d3 d5 (by omega) (by omega) ?_
  obtain ⟨-, kb6, kb1, -⟩ := kof_end s (by omega) (by omega)
  have hc : gopen er n * kblk s ≤ 120 := by
    have h1 : gopen er n * kblk s ≤ 20 * kblk s := Nat.mul_le_mul_right _ (by omega)
    omega
  have hb := gbdF_le (gopen er n * kblk s) (k - 1) (gopen er n * kblk s) 0
  have hb2 : gbd (gopen er n * kblk s) (k - 1) ≤ 1000 := by unfold gbd; omega
  refine c_leastWeight hn hR d1 d3 d5 (by omega) (by omega) hb2 (gpwN (gopen er n) k s) rfl (gxs p n er) (gys p kind n w er) (fun o t ht => ?_) (gxs_lt d3.1) (gys_lt d3.1 (fun i hi => (d5.1 i hi).2)) (fun G wt hI M1 a1 => ?_)
  · unfold gxs gys
    rw [ht]
    exact ⟨rfl, rfl⟩
  · exact h1 s rfl (by omega) (by omega) g _ ⟨o1, G, wt, hI, rfl⟩ M1 (hD.keep (fun c h1 h2 h3 h4 => a1 c (by omega))) (fun c hc => a1 c (by omega))
end DE
