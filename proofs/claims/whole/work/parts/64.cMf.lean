/-! the reference: decoded, sent, locator, radius, the list -/
def gky (q : Nat) (f : Nat → Nat) : Nat → Nat
  | 0 => 0
  | i + 1 => gky q f i * q + f i
theorem gky_eq {q : Nat} {f g : Nat → Nat} : ∀ i, (∀ j, j < i → f j = g j) → gky q f i = gky q g i
  | 0, _ => rfl
  | i + 1, h => by rw [gky, gky, gky_eq i (fun j hj => h j (by omega)), h i (by omega)]
theorem gky_up {q : Nat} {f g : Nat → Nat} (hf : ∀ i, f i < q) {a : Nat} (h : gky q f a < gky q g a) : ∀ b, a ≤ b → gky q f b < gky q g b
  | 0, hb => by rw [show a = 0 by omega] at h; exact h
  | b + 1, hb => by
    by_cases hab : a = b + 1
    · rw [hab] at h; exact h
    · have ih := gky_up hf h b (by omega)
      rw [gky, gky]
      have h1 := Nat.mul_le_mul_right q (show gky q f b + 1 ≤ gky q g b from ih)
      rw [Nat.add_mul, Nat.one_mul] at h1
      have := hf b
      omega
theorem gky_first {q : Nat} {f g : Nat → Nat} (hf : ∀ i, f i < q) {i n : Nat} (hi : i < n) (he : ∀ j, j < i → f j = g j) (hl : f i < g i) : gky q f n < gky q g n := by
  refine gky_up hf (a := i + 1) ?_ n (by omega)
  rw [gky, gky, gky_eq i he]
  omega
section MF1
variable {nn : Nat} {R : xR} {M : xM} {p kind n k : Nat} {msg w : Nat → Nat} {er : Nat → Bool} {fm : Option (Nat × (Nat → Bool))} {lm : List (Nat × Nat)}
theorem MI.fnd (hD : MI p kind n k msg w er fm lm M) : (fm = none ∧ M 78 12 = -1) ∨ ∃ t df, fm = some (t, df) ∧ M 78 12 = (t : Nat) ∧ t < gq p ^ k ∧ t < 2147483648 ∧ ∀ i, i < n → M 86 i = if df i = true then 1 else 0 := by
  have e2 := hD.1.2.1.pow.2.1
  cases hf : fm with
  | none => exact Or.inl ⟨rfl, hD.2.2.2.2.1 hf⟩
  | some x =>
    obtain ⟨t, df⟩ := x
    obtain ⟨a, b, c⟩ := hD.2.2.2.2.2.1 t df hf
    exact Or.inr ⟨t, df, rfl, a, b, by omega, c⟩
theorem cm_decoded {P : Int → xM → Prop} (hn : 93 ≤ nn) (hR : RC 93 R) (hD : MI p kind n k msg w er fm lm M) {i : Int} (hi : xin i) (h0 : ¬ (0 ≤ i ∧ i < n) → P (-1) M) (h2 : 0 ≤ i → i < n → fm = none → P (-2) M) (h1 : ∀ (x t : Nat) (df : Nat → Bool), i = x → x < n → fm = some (t, df) → P (gel p kind n k t x : Nat) M) : Ci m_M_decoded 2 nn R [vr 78, vi i] M P := by
  refine E_M_decoded hn hR (B_M_decoded_0 hn hR ?_)
  refine cm_isPlace hn hR hD.1 hi (fun a0 a1 => ⟨by decide, fun _ => ?_, fun g => absurd g (by decide)⟩) (fun hx => ⟨by decide, fun g => absurd rfl g, fun _ => h0 hx⟩)
  rcases hD.fnd with ⟨q1, q2⟩ | ⟨t, df, q1, q2, q3, q4, q5⟩
  · rw [q2]; exact ⟨by decide, fun g => absurd g (by decide), fun _ => h2 a0 a1 q1⟩
  · rw [q2]
    obtain ⟨x, rfl⟩ := Int.eq_ofNat_of_zero_le a0
    exact ⟨by omega, fun _ => cm_element hn hR hD.1 q4 (by omega) (h1 x t df rfl (by omega) q1), fun g => absurd (by omega) g⟩
theorem cm_sent {P : Int → xM → Prop} (hn : 93 ≤ nn) (hR : RC 93 R) (hD : MI p kind n k msg w er fm lm M) {i : Int} (hi : xin i) (h0 : ¬ (0 ≤ i ∧ i < k) → P (-1) M) (h2 : 0 ≤ i → i < k → fm = none → P (-2) M) (h1 : ∀ (x t : Nat) (df : Nat → Bool), i = x → x < k → fm = some (t, df) → P (tdg (gq p) t x : Nat) M) : Ci m_M_sent 1 nn R [vr 78, vi i] M P := by
  have k4 := hD.1.2.1.k4
  refine E_M_sent hn hR (B_M_sent_0 hn hR ?_)
  rw [hD.1.2.2.2.2.1]
  refine ⟨hi, fun g => h0 (by omega), fun g => ⟨by omega, fun g2 => ?_, fun g2 => h0 (by omega)⟩⟩
  rcases hD.fnd with ⟨q1, q2⟩ | ⟨t, df, q1, q2, q3, q4, q5⟩
  · rw [q2]; exact ⟨by decide, fun g => absurd g (by decide), fun _ => h2 (by omega) g2 q1⟩
  · rw [q2]
    obtain ⟨x, rfl⟩ := Int.eq_ofNat_of_zero_le (show 0 ≤ i by omega)
    exact ⟨by omega, fun _ => cm_told hn hR hD.1 q4 (by omega) (h1 x t df rfl (by omega) q1), fun g => absurd (by omega) g⟩
theorem cm_locator {P : Int → xM → Prop} (hn : 93 ≤ nn) (hR : RC 93 R) (hD : MI p kind n k msg w er fm lm M) {i : Int} (hi : xin i) (h0 : ¬ (0 ≤ i ∧ i ≤ (n : Int) - k) → P (-1) M) (h2 : 0 ≤ i → i ≤ (n : Int) - k → fm = none → P (-2) M) (h1 : ∀ (x t : Nat) (df : Nat → Bool), i = x → x ≤ n - k → fm = some (t, df) → ∀ M' : xM, MI p kind n k msg w er fm lm M' → (∀ c, c < 78 → M' c = M c) → P (gloc p df n x : Nat) M') : Ci m_M_locator 0 nn R [vr 78, vi i] M P := by
  have hC := hD.1
  obtain ⟨o1, o2, o3, o4, o5, o6, o7⟩ := hC.2.1
  have hq := gq_b o1
  have hF := hC.1
  refine E_M_locator hn hR (B_M_locator_0 hn hR ?_)
  rw [hC.2.2.2.1, hC.2.2.2.2.1]
  refine ⟨hi, fun g => h0 (by omega), fun g => ⟨by omega, fun g2 => ?_, fun g2 => h0 (by omega)⟩⟩
  rcases hD.fnd with ⟨q1, q2⟩ | ⟨t, df, q1, q2, q3, q4, q5⟩
  · rw [q2]; exact ⟨by decide, fun g => absurd g (by decide), fun _ => h2 (by omega) g2 q1⟩
  rw [q2]
  obtain ⟨x, rfl⟩ := Int.eq_ofNat_of_zero_le (show 0 ≤ i by omega)
  refine ⟨by omega, fun _ => ?_, fun g => absurd (by omega) g⟩
  have main : ∀ M1 : xM, (∀ c, c ≠ 87 → M1 c = M c) → (∀ j, j < 21 → M1 87 j = (gloc p df 0 j : Nat)) → Xi m_M_locator 0 nn R P 60 [some (vr 78), some (vi x), some (vi 0), none] [] M1 := by
    intro M1 b1 b2
    refine upto (σ := xM) (fun q M2 => Xi m_M_locator 0 nn R P 60 [some (vr 78), some (vi x), some (vi q), none] [] M2) (fun q M2 => (∀ c, c ≠ 87 → M2 c = M c) ∧ ∀ j, j ≤ n → M2 87 j = (gloc p df q j : Nat)) n (fun q M2 hq' hI ih => ?_) (fun M2 hI => ?_) 0 M1 (by omega) ⟨b1, fun j hj => b2 j (by omega)⟩
    · obtain ⟨d1, d2⟩ := hI
      refine B_M_locator_60 hn hR ?_
      rw [d1 78 (by decide), hC.2.2.2.1]
      refine ⟨by omega, by omega, fun g => absurd g (by omega), fun _ => ?_⟩
      refine downto (σ := xM) (fun j M3 => Xi m_M_locator 0 nn R P 73 [some (vr 78), some (vi x), some (vi q), some (vi j)] [] M3) (fun j M3 => j ≤ n ∧ (df q = false → M3 = M2) ∧ (∀ c, c ≠ 87 → M3 c = M c) ∧ (∀ y, y ≤ j → M3 87 y = (gloc p df q y : Nat)) ∧ (df q = true → ∀ y, j < y → y ≤ n → M3 87 y = (gloc p df (q + 1) y : Nat))) (fun j M3 hJ jh => ?_) (fun M3 hJ => ?_) n M2 ⟨Nat.le_refl _, fun _ => rfl, d1, d2, fun _ y h1 h2 => by omega⟩
      · obtain ⟨c0, c1, c2, c3, c4⟩ := hJ
        have pq := (g_pw o1 (show q < gq p - 1 by omega)).2.1
        have l1 := gloc_lt (df := df) o1 q (by omega) (j + 1)
        have l0 := gloc_lt (df := df) o1 q (by omega) j
        have lm' := g_two o1 l0 pq
        refine B_M_locator_73 hn hR ?_
        rw [Int.toNat_natCast, Int.toNat_natCast, show (((j + 1 : Nat) : Int) - 1).toNat = j by omega, c2 86 (by decide), q5 q hq', c2 80 (by decide), c2 79 (by decide), hF.2.2.2.2 q (by omega), c3 (j + 1) (by omega), c3 j (by omega), show ((32 : Int) * (gloc p df q j : Int) + (gpw p q : Int)).toNat = 32 * gloc p df q j + gpw p q by omega, hF.2.2.2.1 _ _ l0 pq, xXor_n (by omega) (by omega)]
        refine ⟨by omega, fun g => absurd g (by omega), fun _ => ⟨by omega, ?_⟩⟩
        cases hb : df q with
        | false =>
          refine ⟨by decide, fun _ => ih M3 ⟨c2, fun y hy => ?_⟩, fun g => absurd rfl g⟩
          rw [c1 hb, d2 y hy, gloc, hb]
          rfl
        | true =>
          refine ⟨by decide, fun g => absurd g (by decide), fun _ => ⟨by omega, by omega, by omega, by omega, fun M4 m4 => ?_⟩⟩
          have := jh M4 ⟨by omega, fun e => (by rw [hb] at e; cases e), fun c hc => by rw [m4, xU_o hc]; exact c2 c hc, fun y hy => by rw [m4, xU_n (by omega)]; exact c3 y (by omega), fun _ y h1 h2 => ?_⟩
          · rw [show ((j + 1 : Nat) : Int) + (-1) = (j : Int) by omega]
            exact this
          · by_cases hyj : y = j + 1
            · rw [hyj, m4, xU_s, gloc, if_pos hb, if_neg (by omega), show j + 1 - 1 = j by omega, lm'.2.1]
            · rw [m4, xU_n hyj]; exact c4 hb y (by omega) h2
      · obtain ⟨c0, c1, c2, c3, c4⟩ := hJ
        refine B_M_locator_73 hn hR ⟨by omega, fun _ => ih M3 ⟨c2, fun y hy => ?_⟩, fun g => absurd (Int.le_refl _) g⟩
        cases hb : df q with
        | false =>
          rw [c1 hb, d2 y hy, gloc, hb]
          rfl
        | true =>
          by_cases hy0 : y = 0
          · rw [hy0, c3 0 (Nat.le_refl _), gloc, if_pos hb, if_pos rfl]
          · exact c4 hb y (by omega) hy
    · obtain ⟨d1, d2⟩ := hI
      refine B_M_locator_60 hn hR ?_
      rw [d1 78 (by decide), hC.2.2.2.1, Int.toNat_natCast, d2 x (by omega)]
      exact ⟨by omega, by omega, fun _ => ⟨by omega, h1 x t df rfl (by omega) q1 M2 (hD.keep (fun j hj => by rw [d1 78 (by decide)]) (fun c h1 h2 h3 h4 => d1 c h4)) (fun c hc => d1 c (by omega))⟩, fun g => absurd (Int.le_refl _) g⟩
  refine upto (σ := xM) (fun j M1 => Xi m_M_locator 0 nn R P 31 [some (vr 78), some (vi x), some (vi j), none] [] M1) (fun j M1 => (∀ c, c ≠ 87 → M1 c = M c) ∧ ∀ y, y < j → M1 87 y = (gloc p df 0 y : Nat)) 21 (fun j M1 hj hI ih => ?_) (fun M1 hI => ?_) 0 M (by omega) ⟨fun _ _ => rfl, fun y hy => by omega⟩
  · obtain ⟨b1, b2⟩ := hI
    have nx : ∀ (v : Int) (M2 : xM), v = (gloc p df 0 j : Nat) → M2 = xU M1 87 j v → Xi m_M_locator 0 nn R P 31 [some (vr 78), some (vi x), some (vi ((j : Int) + 1)), none] [] M2 := by
      intro v M2 ev m2
      refine ih M2 ⟨fun c hc => by rw [m2, xU_o hc]; exact b1 c hc, fun y hy => ?_⟩
      by_cases hyj : y = j
      · rw [hyj, m2, xU_s, ev]
      · rw [m2, xU_n hyj]; exact b2 y (by omega)
    refine B_M_locator_31 hn hR ?_
    rw [Int.toNat_natCast]
    refine ⟨by omega, fun g => absurd g (by omega), fun _ => ⟨fun g => ⟨by omega, fun M2 m2 => nx 0 M2 ?_ m2⟩, fun g => ⟨by omega, fun M2 m2 => nx 1 M2 ?_ m2⟩⟩⟩
    · rw [gloc, if_neg (by omega)]; rfl
    · rw [gloc, if_pos (by omega)]; rfl
  · obtain ⟨b1, b2⟩ := hI
    exact B_M_locator_31 hn hR ⟨by omega, fun _ => main M1 b1 b2, fun g => absurd (Int.le_refl _) g⟩
theorem cm_pairs {P : Int → xM → Prop} (hn : 93 ≤ nn) (hR : RC 93 R) {s : Nat} (hs3 : s ≤ 3) (h : P (kblk s : Nat) M) : Ci m_M_pairs 0 nn R [vr 78, vi s] M P := by
  refine E_M_pairs hn hR (B_M_pairs_0 hn hR ?_)
  have e : (s : Int) * ((s : Int) + 1) = ((s * (s + 1) : Nat) : Int) := by rw [Int.natCast_mul]; rfl
  have h4 : s * (s + 1) ≤ 3 * 4 := Nat.mul_le_mul hs3 (by omega)
  rw [e]
  exact ⟨by omega, h⟩
theorem cm_boundFor {P : Int → xM → Prop} (hn : 93 ≤ nn) (hR : RC 93 R) (hC : MC p kind n k M) {s op : Nat} (hs1 : 1 ≤ s) (hs3 : s ≤ 3) (hop : op ≤ n) (h : P (gbd (op * kblk s) (k - 1) : Nat) M) : Ci m_M_boundFor 1 nn R [vr 78, vi s, vi op] M P := by
  have k4 := hC.2.1.k4
  have k2 := hC.2.1.2.2.1
  have n20 := hC.2.1.2.2.2.2.2.1
  obtain ⟨-, kb6, kb1, -⟩ := kof_end s (by omega) hs1
  have hc : op * kblk s ≤ 120 := by
    have h1 : op * kblk s ≤ 20 * kblk s := Nat.mul_le_mul_right _ (by omega)
    omega
  have ec : (op : Int) * (kblk s : Int) = ((op * kblk s : Nat) : Int) := (Int.natCast_mul _ _).symm
  unfold gbd at h
  generalize hcd : op * kblk s = cond at h hc ec
  have key : ∀ (f v : Nat), v + f = cond → gprs (k - 1) v ≤ cond → P (gbdF cond (k - 1) f v : Nat) M → Xi m_M_boundFor 1 nn R P 5 [some (vr 78), some (vi s), some (vi op), some (vi v), some (vi (gprs (k - 1) (v + 1) : Nat))] [] M := by
    intro f
    induction f with
    | zero =>
      intro v hv hg hP
      rw [Nat.add_zero] at hv
      have g1 := gprs_ge (k - 1) (v + 1)
      have e5 := Nat.div_le_self v (k - 1)
      have g2 : gprs (k - 1) (v + 1) = gprs (k - 1) v + (v / (k - 1) + 1) := rfl
      generalize v / (k - 1) = vd at e5 g2
      refine B_M_boundFor_5 hn hR (cm_pairs hn hR hs3 ?_)
      rw [ec]
      rw [gbdF] at hP
      exact ⟨by omega, by omega, fun _ => hP, fun g => absurd (by omega) g⟩
    | succ f ih =>
      intro v hv hg hP
      have e5 := Nat.div_le_self v (k - 1)
      have g2 : gprs (k - 1) (v + 1) = gprs (k - 1) v + (v / (k - 1) + 1) := rfl
      have ih' := ih (v + 1)
      have g3 : gprs (k - 1) (v + 1 + 1) = gprs (k - 1) (v + 1) + ((v + 1) / (k - 1) + 1) := rfl
      have e6 : Int.tdiv ((v : Int) + 1) ((k : Int) - 1) = (((v + 1) / (k - 1) : Nat) : Int) := by rw [show (k : Int) - 1 = ((k - 1 : Nat) : Int) by omega]; rfl
      refine B_M_boundFor_5 hn hR (cm_pairs hn hR hs3 ?_)
      rw [ec, hC.2.2.2.2.1, e6]
      rw [gbdF] at hP
      rw [g3] at ih'
      generalize (v + 1) / (k - 1) = ve at ih'
      generalize v / (k - 1) = vd at e5 g2
      refine ⟨by omega, by omega, fun g => ?_, fun g => ⟨by omega, by omega, by omega, by omega, ?_⟩⟩
      · rw [if_pos (by omega)] at hP
        exact hP
      · rw [if_neg (by omega)] at hP
        exact ih' (by omega) (by omega) hP
  refine E_M_boundFor hn hR (B_M_boundFor_0 hn hR ?_)
  refine B_M_boundFor_5 hn hR (cm_pairs hn hR hs3 ?_)
  have k0 := key cond 0 (by omega) (Nat.zero_le _) h
  rw [show gprs (k - 1) (0 + 1) = 1 by show 0 + (0 / (k - 1) + 1) = 1; rw [Nat.zero_div]] at k0
  rw [ec, hC.2.2.2.2.1]
  refine ⟨by omega, by omega, fun g => absurd g (by omega), fun _ => ⟨by decide, by omega, by omega, by omega, ?_⟩⟩
  rw [show Int.tdiv ((-1 : Int) + 1) ((k : Int) - 1) = 0 from Int.zero_tdiv _]
  exact k0
theorem cm_radiusFor {P : Int → xM → Prop} (hn : 93 ≤ nn) (hR : RC 93 R) (hC : MC p kind n k M) {s op : Nat} (hs1 : 1 ≤ s) (hs3 : s ≤ 3) (hop : op ≤ n) (hk : k ≤ op) (h : P (grad op k s : Nat) M) : Ci m_M_radiusFor 2 nn R [vr 78, vi s, vi op] M P := by
  have k4 := hC.2.1.k4
  have k2 := hC.2.1.2.2.1
  have n20 := hC.2.1.2.2.2.2.2.1
  obtain ⟨-, kb6, kb1, -⟩ := kof_end s (by omega) hs1
  have hc : op * kblk s ≤ 120 := by
    have h1 : op * kblk s ≤ 20 * kblk s := Nat.mul_le_mul_right _ (by omega)
    omega
  refine E_M_radiusFor hn hR (B_M_radiusFor_0 hn hR ?_)
  rw [hC.2.2.2.2.1, show (op : Int) - (k : Int) = ((op - k : Nat) : Int) by omega, show Int.tdiv ((op - k : Nat) : Int) 2 = (((op - k) / 2 : Nat) : Int) from rfl]
  refine ⟨by omega, cm_boundFor hn hR hC hs1 hs3 hop ?_⟩
  have hb := gbdF_le (op * kblk s) (k - 1) (op * kblk s) 0
  unfold grad at h
  have hb2 : gbd (op * kblk s) (k - 1) ≤ 120 := by unfold gbd; omega
  generalize gbd (op * kblk s) (k - 1) = b at h hb2
  have e4 : Int.tdiv (b : Int) (s : Int) = ((b / s : Nat) : Int) := rfl
  have e5 := Nat.div_le_self b s
  rw [e4]
  generalize b / s = bs at h e5
  refine ⟨by omega, by omega, by omega, by omega, by omega, by omega, fun g => ?_, fun g => ?_⟩
  · rw [if_neg (by omega)] at h
    exact h
  · rw [if_pos (by omega)] at h
    rw [show (op : Int) - 1 - (bs : Int) = ((op - 1 - bs : Nat) : Int) by omega]
    exact h
theorem cm_radius {P : Int → xM → Prop} (hn : 93 ≤ nn) (hR : RC 93 R) (hD : MI p kind n k msg w er fm lm M) {a : Int} (ha : xin a) (h0 : ¬ (1 ≤ a ∧ a ≤ 3) → P (-1) M) (hmany : 1 ≤ a → a ≤ 3 → gopen er n < k → P (-3) M) (h1 : ∀ s : Nat, a = s → 1 ≤ s → s ≤ 3 → k ≤ gopen er n → P (grad (gopen er n) k s : Nat) M) : Ci m_M_radius 3 nn R [vr 78, vi a] M P := by
  have hop := gopen_le er n
  have n20 := hD.1.2.1.2.2.2.2.2.1
  have k4 := hD.1.2.1.k4
  refine E_M_radius hn hR (B_M_radius_0 hn hR ⟨ha, fun g => h0 (by omega), fun g => ⟨fun g2 => cm_kept (er := er) hn hR hD.1 hD.2.2.2.1 ?_, fun g2 => h0 (by omega)⟩⟩)
  rw [hD.1.2.2.2.2.1]
  refine ⟨by omega, by omega, fun g3 => ?_, fun g3 => hmany (by omega) g2 (by omega)⟩
  obtain ⟨s, rfl⟩ := Int.eq_ofNat_of_zero_le (show 0 ≤ a by omega)
  exact cm_radiusFor hn hR hD.1 (by omega) (by omega) hop (by omega) (h1 s rfl (by omega) (by omega) (by omega))
theorem cm_listed {P : Int → xM → Prop} (hn : 93 ≤ nn) (hR : RC 93 R) (hD : MI p kind n k msg w er fm lm M) {c i : Int} (hc : xin c) (hi : xin i) (h0 : ¬ (0 ≤ c ∧ c < lm.length ∧ 0 ≤ i ∧ i < n) → P (-1) M) (h1 : ∀ (x y : Nat) (q : Nat × Nat), c = x → i = y → lm[x]? = some q → y < n → P (gel p kind n k q.1 y : Nat) M) : Ci m_M_listed 2 nn R [vr 78, vi c, vi i] M P := by
  obtain ⟨b1, b2, b3⟩ := hD.2.2.2.2.2.2
  have e2 := hD.1.2.1.pow.2.1
  refine E_M_listed hn hR (B_M_listed_0 hn hR ?_)
  rw [b1]
  refine ⟨hc, fun g => h0 (by omega), fun g => ⟨by omega, fun g2 => h0 (by omega), fun g2 => ?_⟩⟩
  refine cm_isPlace hn hR hD.1 hi (fun a0 a1 => ⟨by decide, fun _ => ?_, fun g => absurd g (by decide)⟩) (fun hx => ⟨by decide, fun g => absurd rfl g, fun _ => h0 (fun q => hx q.2.2)⟩)
  obtain ⟨x, rfl⟩ := Int.eq_ofNat_of_zero_le (show 0 ≤ c by omega)
  obtain ⟨y, rfl⟩ := Int.eq_ofNat_of_zero_le a0
  have hx : x < lm.length := by omega
  obtain ⟨d1, d2, d3⟩ := b3 x lm[x] (List.getElem?_eq_getElem hx)
  rw [Int.toNat_natCast, d1]
  exact ⟨by omega, cm_element hn hR hD.1 (by omega) (by omega) (h1 x y lm[x] rfl rfl (List.getElem?_eq_getElem hx) (by omega))⟩
theorem cm_distance {P : Int → xM → Prop} (hn : 93 ≤ nn) (hR : RC 93 R) (hD : MI p kind n k msg w er fm lm M) {c : Int} (hc : xin c) (h0 : ¬ (0 ≤ c ∧ c < lm.length) → P (-1) M) (h1 : ∀ (x : Nat) (q : Nat × Nat), c = x → lm[x]? = some q → P (q.2 : Nat) M) : Ci m_M_distance 0 nn R [vr 78, vi c] M P := by
  obtain ⟨b1, b2, b3⟩ := hD.2.2.2.2.2.2
  refine E_M_distance hn hR (B_M_distance_0 hn hR ?_)
  rw [b1]
  refine ⟨hc, fun g => h0 (by omega), fun g => ⟨by omega, fun g2 => ?_, fun g2 => h0 (by omega)⟩⟩
  obtain ⟨x, rfl⟩ := Int.eq_ofNat_of_zero_le (show 0 ≤ c by omega)
  have hx : x < lm.length := by omega
  obtain ⟨d1, d2, d3⟩ := b3 x lm[x] (List.getElem?_eq_getElem hx)
  rw [Int.toNat_natCast, d2]
  exact ⟨by omega, h1 x lm[x] rfl (List.getElem?_eq_getElem hx)⟩
theorem cm_isBefore {P : Int → xM → Prop} (hn : 93 ≤ nn) (hR : RC 93 R) (hC : MC p kind n k M) {t u : Nat} (ht : t < 2147483648) (hu : u < 2147483648) (h : P (if gky (gq p) (gel p kind n k t) n < gky (gq p) (gel p kind n k u) n then 1 else 0) M) : Ci m_M_isBefore 2 nn R [vr 78, vi t, vi u] M P := by
  obtain ⟨o1, o2, o3, o4, o5, o6, o7⟩ := hC.2.1
  have hq := gq_b o1
  have gt : ∀ i, gel p kind n k t i < gq p := fun i => gel_lt hC.2.1
  have gu : ∀ i, gel p kind n k u i < gq p := fun i => gel_lt hC.2.1
  have dec : ∀ i, i < n → (∀ j, j < i → gel p kind n k t j = gel p kind n k u j) → (gel p kind n k t i ≠ gel p kind n k u i ∨ i = n - 1) → (((gel p kind n k u i : Nat) : Int) ≤ ((gel p kind n k t i : Nat) : Int) → P 0 M) ∧ (¬ ((gel p kind n k u i : Nat) : Int) ≤ ((gel p kind n k t i : Nat) : Int) → P 1 M) := by
    intro i hi he hor
    refine ⟨fun g => ?_, fun g => ?_⟩
    · rw [if_neg ?_] at h
      · exact h
      · by_cases hlt : gel p kind n k u i < gel p kind n k t i
        · have := gky_first (n := n) gu hi (fun j hj => (he j hj).symm) hlt
          omega
        · have hin : i = n - 1 := by omega
          have e := gky_eq (q := gq p) (f := gel p kind n k t) (g := gel p kind n k u) n (fun j hj => by
            by_cases hji : j = i
            · rw [hji]; omega
            · exact he j (by omega))
          omega
    · rw [if_pos (gky_first gt hi he (by omega))] at h
      exact h
  refine E_M_isBefore hn hR (B_M_isBefore_0 hn hR ?_)
  refine upto (σ := Unit) (fun i _ => Xi m_M_isBefore 2 nn R P 2 [some (vr 78), some (vi t), some (vi u), some (vi i)] [] M) (fun i _ => ∀ j, j < i → gel p kind n k t j = gel p kind n k u j) (n - 1) (fun i _ hi hI ih => ?_) (fun _ hI => ?_) 0 () (by omega) (fun j hj => by omega)
  · have g1 := gt i
    have g2 := gu i
    refine B_M_isBefore_2 hn hR ?_
    rw [hC.2.2.2.1]
    refine ⟨by omega, by omega, fun g => absurd g (by omega), fun _ => cm_element hn hR hC ht (by omega) (cm_element hn hR hC hu (by omega) ⟨by omega, by omega, fun g => ?_, fun g => ?_⟩)⟩
    · exact cm_element hn hR hC ht (by omega) (cm_element hn hR hC hu (by omega) ⟨by omega, by omega, dec i (by omega) hI (Or.inl (by omega))⟩)
    · refine ih () (fun j hj => ?_)
      by_cases hji : j = i
      · rw [hji]; omega
      · exact hI j (by omega)
  · have g1 := gt (n - 1)
    have g2 := gu (n - 1)
    refine B_M_isBefore_2 hn hR ?_
    rw [hC.2.2.2.1]
    exact ⟨by omega, by omega, fun _ => cm_element hn hR hC ht (by omega) (cm_element hn hR hC hu (by omega) ⟨by omega, by omega, dec (n - 1) (by omega) hI (Or.inr rfl)⟩), fun g => absurd (by omega) g⟩
end MF1
