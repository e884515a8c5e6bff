/-! the reference: syndrome, decode, locator, radius -/
theorem gcnt_mono (f : Nat → Bool) (i : Nat) : ∀ n, i ≤ n → gcnt f i ≤ gcnt f n
  | 0, h => by rw [show i = 0 by omega]; exact Nat.le_refl _
  | n + 1, h => by
    by_cases hi : i = n + 1
    · rw [hi]; exact Nat.le_refl _
    · have := gcnt_mono f i n (by omega)
      rw [gcnt]
      omega
def gdfm (p kind n k : Nat) (w : Nat → Nat) (er : Nat → Bool) (t : Nat) : Nat → Bool := fun i => !er i && gel p kind n k t i != w i
def gdm (p kind n k : Nat) (w : Nat → Nat) (er : Nat → Bool) (t : Nat) : Nat := gcnt (gdfm p kind n k w er t) n
theorem gprs_ge (k1 : Nat) : ∀ v, v ≤ gprs k1 v
  | 0 => Nat.le_refl _
  | v + 1 => by
    have := gprs_ge k1 v
    rw [gprs]
    generalize v / k1 = a
    omega
section ME
variable {nn : Nat} {R : xR} {M : xM} {p kind n k : Nat} {msg w : Nat → Nat} {er : Nat → Bool} {fm : Option (Nat × (Nat → Bool))} {lm : List (Nat × Nat)}
theorem cm_away {P : Int → xM → Prop} (hn : 93 ≤ nn) (hR : RC 93 R) (hC : MC p kind n k M) {i : Nat} (hi : i < n) (h : P (gapt p i n : Nat) M) : Ci m_M_apart 0 nn R [vr 78, vi i] M P := by
  obtain ⟨o1, o2, o3, o4, o5, o6, o7⟩ := hC.2.1
  have hq := gq_b o1
  have hF := hC.1
  refine E_M_apart hn hR (B_M_apart_0 hn hR ?_)
  refine upto (σ := Unit) (fun j _ => Xi m_M_apart 0 nn R P 4 [some (vr 78), some (vi i), some (vi (gapt p i j : Nat)), some (vi j)] [] M) (fun _ _ => True) n (fun j _ hj _ ih => ?_) (fun _ _ => ?_) 0 () (by omega) trivial
  · have ih := ih () trivial
    rw [gapt] at ih
    have ga := (gapt_ok (i := i) o1 (by omega) (show n ≤ gq p - 1 by omega) j (by omega)).1
    have p1 := (g_pw o1 (show i < gq p - 1 by omega)).2.1
    have p2 := (g_pw o1 (show j < gq p - 1 by omega)).2.1
    have px := (g_two o1 p1 p2).2.2.2
    refine B_M_apart_4 hn hR ?_
    rw [hC.2.2.2.1, Int.toNat_natCast, Int.toNat_natCast, hF.2.2.2.2 i (by omega), hF.2.2.2.2 j (by omega), xXor_n (by omega) (by omega), show ((32 : Int) * (gapt p i j : Int) + ((gpw p i ^^^ gpw p j : Nat) : Int)).toNat = 32 * gapt p i j + (gpw p i ^^^ gpw p j) by omega, hF.2.2.2.1 _ _ ga px]
    refine ⟨by omega, by omega, fun g => absurd g (by omega), fun _ => ⟨by omega, fun g => ⟨by omega, by omega, by omega, ?_⟩, fun g => ?_⟩⟩
    · rw [if_neg (by omega)] at ih
      exact ih
    · rw [if_pos (by omega)] at ih
      exact ih
  · refine B_M_apart_4 hn hR ?_
    rw [hC.2.2.2.1]
    exact ⟨by omega, by omega, fun _ => h, fun g => absurd (Int.le_refl _) g⟩
theorem cm_syndrome {P : Int → xM → Prop} (hn : 93 ≤ nn) (hR : RC 93 R) (hD : MI p kind n k msg w er fm lm M) {j : Int} (hj : xin j) (h0 : ¬ (0 ≤ j ∧ j < (n : Int) - k) → P (-1) M) (h1 : ∀ x : Nat, j = x → x < n - k → P (gsyn p kind n w er x n : Nat) M) : Ci m_M_syndrome 1 nn R [vr 78, vi j] M P := by
  have hC := hD.1
  obtain ⟨o1, o2, o3, o4, o5, o6, o7⟩ := hC.2.1
  have hq := gq_b o1
  have hF := hC.1
  refine E_M_syndrome hn hR (B_M_syndrome_0 hn hR ?_)
  rw [hC.2.2.2.1, hC.2.2.2.2.1]
  refine ⟨hj, fun g => h0 (by omega), fun g => ⟨by omega, fun g2 => ?_, fun g2 => h0 (by omega)⟩⟩
  obtain ⟨x, rfl⟩ := Int.eq_ofNat_of_zero_le (show 0 ≤ j by omega)
  have hP := h1 x rfl (by omega)
  refine upto (σ := Unit) (fun i _ => Xi m_M_syndrome 1 nn R P 23 [some (vr 78), some (vi x), some (vi (gsyn p kind n w er x i : Nat)), some (vi i), none, none] [] M) (fun _ _ => True) n (fun i _ hi _ ih => ?_) (fun _ _ => ?_) 0 () (by omega) trivial
  · have ih := ih () trivial
    rw [gsyn] at ih
    have p1 := (g_pw o1 (show i < gq p - 1 by omega)).2.1
    have ew := hD.2.2.1 i hi
    have hs := gsyn_lt (kind := kind) (er := er) (j := x) o1 o5 (fun a ha => (hD.2.2.1 a ha).2) i (by omega)
    have hpx := gpow_lt o1 p1 x
    have hck := gchk_lt (kind := kind) o1 o5 hi
    have hv := (g_two o1 hck ew.2).1
    have hvv := (g_two o1 hv hpx).1
    refine B_M_syndrome_23 hn hR ?_
    rw [hC.2.2.2.1, hC.2.2.1, Int.toNat_natCast]
    refine ⟨by omega, by omega, fun g => absurd g (by omega), fun _ => ⟨by omega, fun gk => ?_, fun gk => ?_⟩⟩
    · have ec : gchk p kind n i = gpw p i := by unfold gchk; rw [if_neg (by omega)]
      rw [ec] at ih hv hvv
      rw [hF.2.2.2.2 i (by omega), ew.1, hD.2.2.2.1 i hi, show ((32 : Int) * (gpw p i : Int) + (w i : Int)).toNat = 32 * gpw p i + w i by omega, hF.2.2.2.1 _ _ p1 ew.2]
      refine ⟨by omega, by omega, by omega, ?_⟩
      cases he : er i with
      | true => rw [he, if_pos rfl] at ih; exact ⟨by decide, fun g => absurd g (by decide), fun _ => ih⟩
      | false =>
        rw [he, if_neg (by decide)] at ih
        refine ⟨by decide, fun _ => cm_power hn hR hF p1 (by omega) ?_, fun g => absurd rfl g⟩
        rw [show ((32 : Int) * (gmul p (gpw p i) (w i) : Int) + (gpow p (gpw p i) x : Int)).toNat = 32 * gmul p (gpw p i) (w i) + gpow p (gpw p i) x by omega, hF.2.2.2.1 _ _ hv hpx, xXor_n (by omega) (by omega)]
        exact ⟨by omega, ih⟩
    · obtain ⟨a1, a2⟩ := gapt_ok (i := i) o1 (by omega) (show n ≤ gq p - 1 by omega) n (Nat.le_refl _)
      have ec : gchk p kind n i = gdiv p 1 (gapt p i n) := by unfold gchk; rw [if_pos (by omega)]
      rw [ec] at ih hv hvv hck
      refine cm_away hn hR hC hi (cm_quotient (a := 1) hn hR hF (by omega) a1 a2 ?_)
      rw [ew.1, hD.2.2.2.1 i hi, hF.2.2.2.2 i (by omega), show ((32 : Int) * (gdiv p 1 (gapt p i n) : Int) + (w i : Int)).toNat = 32 * gdiv p 1 (gapt p i n) + w i by omega, hF.2.2.2.1 _ _ hck ew.2]
      refine ⟨by omega, by omega, ?_⟩
      cases he : er i with
      | true => rw [he, if_pos rfl] at ih; exact ⟨by decide, fun g => absurd g (by decide), fun _ => ih⟩
      | false =>
        rw [he, if_neg (by decide)] at ih
        refine ⟨by decide, fun _ => ⟨by omega, cm_power hn hR hF p1 (by omega) ?_⟩, fun g => absurd rfl g⟩
        rw [show ((32 : Int) * (gmul p (gdiv p 1 (gapt p i n)) (w i) : Int) + (gpow p (gpw p i) x : Int)).toNat = 32 * gmul p (gdiv p 1 (gapt p i n)) (w i) + gpow p (gpw p i) x by omega, hF.2.2.2.1 _ _ hv hpx, xXor_n (by omega) (by omega)]
        exact ⟨by omega, ih⟩
  · refine B_M_syndrome_23 hn hR ?_
    rw [hC.2.2.2.1]
    exact ⟨by omega, by omega, fun _ => hP, fun g => absurd (Int.le_refl _) g⟩
theorem cm_kept {P : Int → xM → Prop} (hn : 93 ≤ nn) (hR : RC 93 R) (hC : MC p kind n k M) (he : ∀ i, i < n → M 84 i = if er i = true then 1 else 0) (h : P (gopen er n : Nat) M) : Ci m_M_kept 0 nn R [vr 78] M P := by
  have n20 := hC.2.1.2.2.2.2.2.1
  refine E_M_kept hn hR (B_M_kept_0 hn hR ?_)
  refine upto (σ := Unit) (fun i _ => Xi m_M_kept 0 nn R P 4 [some (vr 78), some (vi (gopen er i : Nat)), some (vi i)] [] M) (fun _ _ => True) n (fun i _ hi _ ih => ?_) (fun _ _ => ?_) 0 () (by omega) trivial
  · have ih := ih () trivial
    rw [gopen] at ih
    refine B_M_kept_4 hn hR ?_
    rw [hC.2.2.2.1, Int.toNat_natCast, he i hi]
    refine ⟨by omega, by omega, fun g => absurd g (by omega), fun _ => ⟨by omega, ?_⟩⟩
    cases hb : er i with
    | true => rw [hb] at ih; exact ⟨by decide, fun g => absurd g (by decide), fun _ => ih⟩
    | false => rw [hb] at ih; exact ⟨by decide, fun _ => ih, fun g => absurd rfl g⟩
  · refine B_M_kept_4 hn hR ?_
    rw [hC.2.2.2.1]
    exact ⟨by omega, by omega, fun _ => h, fun g => absurd (Int.le_refl _) g⟩
theorem cm_distanceOf {P : Int → xM → Prop} (hn : 93 ≤ nn) (hR : RC 93 R) (hC : MC p kind n k M) (hw : ∀ i, i < n → M 83 i = w i ∧ w i < gq p) (he : ∀ i, i < n → M 84 i = if er i = true then 1 else 0) {t most : Nat} (ht : t < 2147483648) (hm : most ≤ 20) (h1 : gdm p kind n k w er t ≤ most → P (gdm p kind n k w er t : Nat) M) (h2 : most < gdm p kind n k w er t → ∀ z : Nat, most < z → z ≤ n → P (z : Nat) M) : Ci m_M_distanceOf 2 nn R [vr 78, vi t, vi most] M P := by
  have n20 := hC.2.1.2.2.2.2.2.1
  have hq := gq_b hC.1.1
  refine E_M_distanceOf hn hR (B_M_distanceOf_0 hn hR ?_)
  refine upto (σ := Unit) (fun i _ => Xi m_M_distanceOf 2 nn R P 5 [some (vr 78), some (vi t), some (vi most), some (vi (gcnt (gdfm p kind n k w er t) i : Nat)), some (vi i)] [] M) (fun _ _ => True) n (fun i _ hi _ ih => ?_) (fun _ _ => ?_) 0 () (by omega) trivial
  · have ih := ih () trivial
    have hci := gcnt_le (gdfm p kind n k w er t) i
    have hmo := gcnt_mono (gdfm p kind n k w er t) i n (by omega)
    have ew := hw i hi
    have hg := gel_lt (t := t) (i := i) hC.2.1
    rw [gcnt] at ih
    refine B_M_distanceOf_5 hn hR ?_
    rw [hC.2.2.2.1, Int.toNat_natCast, he i hi]
    refine ⟨by omega, by omega, fun g => absurd g (by omega), fun _ => ⟨by omega, by omega, fun g => h2 (by unfold gdm; omega) _ (by omega) (by omega), fun g => ⟨by omega, ?_⟩⟩⟩
    cases hb : er i with
    | true =>
      rw [show gdfm p kind n k w er t i = false by unfold gdfm; rw [hb]; rfl] at ih
      exact ⟨by decide, fun _ => ih, fun g => absurd g (by decide)⟩
    | false =>
      refine ⟨by decide, fun g => absurd rfl g, fun _ => cm_element hn hR hC ht hi ?_⟩
      rw [ew.1]
      refine ⟨by omega, by omega, fun g => ?_, fun g => ?_⟩
      · rw [show gdfm p kind n k w er t i = false by unfold gdfm; rw [hb, show gel p kind n k t i = w i by omega]; simp] at ih
        exact ih
      · rw [show gdfm p kind n k w er t i = true by unfold gdfm; rw [hb]; simp; omega] at ih
        exact ih
  · refine B_M_distanceOf_5 hn hR ?_
    rw [hC.2.2.2.1]
    refine ⟨by omega, by omega, fun _ => ?_, fun g => absurd (Int.le_refl _) g⟩
    by_cases hh : gdm p kind n k w er t ≤ most
    · exact h1 hh
    · exact h2 (by omega) _ (by unfold gdm at hh; omega) (gcnt_le _ _)
theorem cm_decode {P : Int → xM → Prop} (hn : 93 ≤ nn) (hR : RC 93 R) (hD : MI p kind n k msg w er fm lm M) {a : Int} (hmany : gopen er n < k → P (-3) M)
    (hnone : k ≤ gopen er n → (∀ t, t < gq p ^ k → (gopen er n - k) / 2 < gdm p kind n k w er t) → ∀ M' : xM, MI p kind n k msg w er none lm M' → (∀ c, c < 78 → M' c = M c) → P (-2) M')
    (hsome : k ≤ gopen er n → ∀ t, t < gq p ^ k → gdm p kind n k w er t ≤ (gopen er n - k) / 2 → ∀ M' : xM, MI p kind n k msg w er (some (t, gdfm p kind n k w er t)) lm M' → (∀ c, c < 78 → M' c = M c) → P (gdm p kind n k w er t : Nat) M') : Ci m_M_decode 3 nn R [vr 78, vi a] M P := by
  have hC := hD.1
  obtain ⟨o1, o2, o3, o4, o5, o6, o7⟩ := hC.2.1
  have hq := gq_b o1
  have k4 := hC.2.1.k4
  have hop := gopen_le er n
  obtain ⟨e1, e2, e3⟩ := hC.2.1.pow
  refine E_M_decode hn hR (B_M_decode_0 hn hR (cm_kept (er := er) hn hR hC hD.2.2.2.1 ?_))
  rw [hC.2.2.2.2.1]
  refine ⟨by omega, by omega, fun g => ⟨by omega, fun M1 m1 => ?_⟩, fun g => hmany (by omega)⟩
  have hk : k ≤ gopen er n := by omega
  rw [show (gopen er n : Int) - (k : Int) = ((gopen er n - k : Nat) : Int) by omega, show Int.tdiv ((gopen er n - k : Nat) : Int) 2 = (((gopen er n - k) / 2 : Nat) : Int) from rfl]
  have hnone := hnone hk
  have hsome := hsome hk
  have hh20 : (gopen er n - k) / 2 ≤ 20 := by omega
  generalize (gopen er n - k) / 2 = half at hnone hsome hh20
  have base : ∀ (v : Int) (M2 : xM), (∀ c, c ≠ 78 → M2 c = M c) → (∀ j, j ≠ 12 → M2 78 j = M 78 j) → M2 78 12 = v → MC p kind n k M2 := fun v M2 b1 b2 b3 => hC.keep (fun j hj => b2 j (by omega)) (fun c h1 h2 => b1 c (by omega))
  have fin : ∀ t, t < gq p ^ k → gdm p kind n k w er t ≤ half → ∀ M2 : xM, (∀ c, c ≠ 78 → M2 c = M c) → (∀ j, j ≠ 12 → M2 78 j = M 78 j) → M2 78 12 = t → ∀ x3 : Int, Xi m_M_decode 3 nn R P 92 [some (vr 78), some (vi a), some (vi (gopen er n)), some (vi x3), some (vi 0), some (vi 0)] [] M2 := by
    intro t ht hd M2 b1 b2 b3 x3
    have hC2 := base t M2 b1 b2 b3
    refine upto (σ := xM) (fun i M3 => Xi m_M_decode 3 nn R P 92 [some (vr 78), some (vi a), some (vi (gopen er n)), some (vi x3), some (vi (gcnt (gdfm p kind n k w er t) i : Nat)), some (vi i)] [] M3) (fun i M3 => (∀ c, c ≠ 86 → M3 c = M2 c) ∧ ∀ j, j < i → M3 86 j = if gdfm p kind n k w er t j = true then 1 else 0) n (fun i M3 hi hI ih => ?_) (fun M3 hI => ?_) 0 M2 (by omega) ⟨fun _ _ => rfl, fun j hj => by omega⟩
    · obtain ⟨d1, d2⟩ := hI
      have hC3 : MC p kind n k M3 := hC2.keep (fun j hj => by rw [d1 78 (by decide)]) (fun c h1 h2 => d1 c (by omega))
      have ew := hD.2.2.1 i hi
      have hg := gel_lt (t := t) (i := i) hC.2.1
      have nx : ∀ (b : Bool) (v : Int) (M4 : xM), gdfm p kind n k w er t i = b → v = (if b = true then 1 else 0) → M4 = xU M3 86 i v → (-2147483648 ≤ M4 86 i ∧ M4 86 i < 2147483648) ∧ (M4 86 i = 0 → Xi m_M_decode 3 nn R P 92 [some (vr 78), some (vi a), some (vi (gopen er n)), some (vi x3), some (vi (gcnt (gdfm p kind n k w er t) i : Nat)), some (vi ((i : Int) + 1))] [] M4) ∧ (¬ M4 86 i = 0 → Xi m_M_decode 3 nn R P 92 [some (vr 78), some (vi a), some (vi (gopen er n)), some (vi x3), some (vi ((gcnt (gdfm p kind n k w er t) i : Nat) + 1)), some (vi ((i : Int) + 1))] [] M4) := by
        intro b v M4 hb hv m4
        have ih := ih M4 ⟨fun c hc => by rw [m4, xU_o hc]; exact d1 c hc, fun j hj => by
          by_cases hji : j = i
          · rw [hji, m4, xU_s, hb, hv]
          · rw [m4, xU_n hji]; exact d2 j (by omega)⟩
        rw [gcnt, hb] at ih
        have e : M4 86 i = v := by rw [m4, xU_s]
        rw [e, hv]
        cases b with
        | true => exact ⟨by decide, fun g => absurd g (by decide), fun _ => ih⟩
        | false => exact ⟨by decide, fun _ => ih, fun g => absurd rfl g⟩
      refine B_M_decode_92 hn hR ?_
      rw [hC3.2.2.2.1, Int.toNat_natCast, d1 84 (by decide), b1 84 (by decide), hD.2.2.2.1 i hi, d1 78 (by decide), b3]
      refine ⟨by omega, by omega, fun g => absurd g (by omega), fun _ => ⟨by omega, ?_⟩⟩
      cases hb : er i with
      | true => exact ⟨by decide, fun _ M4 m4 => nx false 0 M4 (by unfold gdfm; rw [hb]; rfl) rfl m4, fun g => absurd g (by decide)⟩
      | false =>
        refine ⟨by decide, fun g => absurd rfl g, fun _ => cm_element hn hR hC3 (by omega) hi ?_⟩
        rw [d1 83 (by decide), b1 83 (by decide), ew.1]
        exact ⟨by omega, by omega, fun g M4 m4 => nx false 0 M4 (by unfold gdfm; rw [hb, show gel p kind n k t i = w i by omega]; simp) rfl m4, fun g M4 m4 => nx true 1 M4 (by unfold gdfm; rw [hb]; simp; omega) rfl m4⟩
    · obtain ⟨d1, d2⟩ := hI
      refine B_M_decode_92 hn hR ?_
      rw [d1 78 (by decide), b2 5 (by decide), hC.2.2.2.1]
      refine ⟨by omega, by omega, fun _ => ?_, fun g => absurd (Int.le_refl _) g⟩
      obtain ⟨a1, a2, a3, a4, a5, a6, a7, a8, a9⟩ := hD
      refine hsome t ht hd M3 ⟨hC2.keep (fun j hj => by rw [d1 78 (by decide)]) (fun c h1 h2 => d1 c (by omega)), by rw [d1 82 (by decide), b1 82 (by decide)]; exact a2, by rw [d1 83 (by decide), b1 83 (by decide)]; exact a3, by rw [d1 84 (by decide), b1 84 (by decide)]; exact a4, fun e => (by cases e), fun t' df' e => ?_, by rw [d1 78 (by decide), b2 15 (by decide)]; exact a7, a8, by rw [d1 88 (by decide), b1 88 (by decide), d1 89 (by decide), b1 89 (by decide)]; exact a9⟩ (fun c hc => by rw [d1 c (by omega)]; exact b1 c (by omega))
      obtain ⟨rfl, rfl⟩ : t = t' ∧ gdfm p kind n k w er t = df' := by
        have := Option.some.inj e
        exact ⟨congrArg Prod.fst this, congrArg Prod.snd this⟩
      exact ⟨by rw [d1 78 (by decide)]; exact b3, ht, d2⟩
  have s1 : ∀ c, c ≠ 78 → M1 c = M c := fun c hc => by rw [m1, xU_o hc]
  have s2 : ∀ j, j ≠ 12 → M1 78 j = M 78 j := fun j hj => by rw [m1, xU_n hj]
  have s3 : M1 78 12 = -1 := by rw [m1, xU_s]
  refine upto (σ := xM) (fun t M2 => Xi m_M_decode 3 nn R P 33 [some (vr 78), some (vi a), some (vi (gopen er n)), some (vi half), some (vi t), none] [] M2) (fun t M2 => (∀ c, c ≠ 78 → M2 c = M c) ∧ (∀ j, j ≠ 12 → M2 78 j = M 78 j) ∧ M2 78 12 = -1 ∧ ∀ u, u < t → half < gdm p kind n k w er u) (gq p ^ k) (fun t M2 ht hI ih => ?_) (fun M2 hI => ?_) 0 M1 (by omega) ⟨s1, s2, s3, fun u hu => by omega⟩
  · obtain ⟨b1, b2, b3, b4⟩ := hI
    have hC2 := base (-1) M2 b1 b2 b3
    refine B_M_decode_33 hn hR (cm_messages hn hR hC2 ?_)
    rw [b3]
    refine ⟨by omega, by omega, fun g => absurd g (by omega), fun _ => ⟨by decide, fun g => absurd g (by decide), fun _ => ?_⟩⟩
    refine cm_distanceOf (w := w) (er := er) hn hR hC2 (by rw [b1 83 (by decide)]; exact hD.2.2.1) (by rw [b1 84 (by decide)]; exact hD.2.2.2.1) (by omega) hh20 (fun q => ?_) (fun q z z1 z2 => ?_)
    · have hz : gdm p kind n k w er t ≤ n := gcnt_le _ _
      refine ⟨by omega, by omega, fun g => absurd g (by omega), fun _ M3 m3 => ?_⟩
      have c1 : ∀ c, c ≠ 78 → M3 c = M c := fun c hc => by rw [m3, xU_o hc]; exact b1 c hc
      have c2 : ∀ j, j ≠ 12 → M3 78 j = M 78 j := fun j hj => by rw [m3, xU_n hj]; exact b2 j hj
      have c3 : M3 78 12 = t := by rw [m3, xU_s]
      have hf := fin t ht q M3 c1 c2 c3 half
      refine B_M_decode_33 hn hR (cm_messages hn hR (base t M3 c1 c2 c3) ?_)
      rw [c3]
      exact ⟨by omega, by omega, fun _ => ⟨by omega, fun _ => hf, fun g => absurd (by omega) g⟩, fun _ => ⟨by omega, fun _ => ⟨fun _ => hf, fun g => absurd (by omega) g⟩, fun g => absurd (by omega) g⟩⟩
    · refine ⟨by omega, by omega, fun _ M3 m3 => ih M3 ⟨fun c hc => by rw [m3, xU_o hc]; exact b1 c hc, fun j hj => by rw [m3, xU_n hj]; exact b2 j hj, by rw [m3, xU_s], fun u hu => ?_⟩, fun g => absurd (by omega) g⟩
      by_cases hut : u = t
      · rw [hut]; exact q
      · exact b4 u (by omega)
  · obtain ⟨b1, b2, b3, b4⟩ := hI
    refine B_M_decode_33 hn hR (cm_messages hn hR (base (-1) M2 b1 b2 b3) ?_)
    rw [b3]
    refine ⟨by omega, by omega, fun _ => ⟨by decide, fun g => absurd g (by decide), fun _ => ?_⟩, fun g => absurd (Int.le_refl _) g⟩
    obtain ⟨a1, a2, a3, a4, a5, a6, a7, a8, a9⟩ := hD
    exact hnone b4 M2 ⟨base (-1) M2 b1 b2 b3, by rw [b1 82 (by decide)]; exact a2, by rw [b1 83 (by decide)]; exact a3, by rw [b1 84 (by decide)]; exact a4, fun _ => b3, fun t' df' e => (by cases e), by rw [b2 15 (by decide)]; exact a7, a8, by rw [b1 88 (by decide), b1 89 (by decide)]; exact a9⟩ (fun c hc => b1 c (by omega))
end ME
