/-! the reference: one condition, one term -/
def gcond (p x y i j a b : Nat) : Nat := if i &&& a = a ∧ j &&& b = b then gmul p (gpow p x (i - a)) (gpow p y (j - b)) else 0
def gterm (p : Nat) (xs ys : Nat → Nat) (s i j c : Nat) : Nat := gcond p (xs (c / kblk s)) (ys (c / kblk s)) i j (kv s (c % kblk s)) (ku s (c % kblk s))
theorem gcond_lt {p x y i j a b : Nat} (hp : p ∈ grims) (hx : x < gq p) (hy : y < gq p) : gcond p x y i j a b < gq p := by
  have := gq_b hp
  unfold gcond
  split
  · exact (g_two hp (gpow_lt hp hx _) (gpow_lt hp hy _)).1
  · omega
theorem opl_at {er : Nat → Bool} {q : Nat} (he : er q = false) : ∀ n, q < n → (opl er n)[gopen er q]? = some q
  | 0, h => absurd h (Nat.not_lt_zero _)
  | n + 1, h => by
    rw [opl_s, List.getElem?_append]
    by_cases e : q = n
    · rw [if_neg (by rw [opl_len, e]; exact Nat.lt_irrefl _), opl_len, e, Nat.sub_self, if_neg (by rw [← e, he]; decide)]
      rfl
    · have ih := opl_at he n (by omega)
      rw [if_pos (List.getElem?_eq_some_iff.mp ih).1]
      exact ih
def kc (s : Nat) : Nat → Nat := gcnt (fun c => decide (c / s + c % s < s))
theorem kc_ok : ∀ s, s < 4 → ∀ c, c < s * s → (c / s + c % s < s → kv s (kc s c) = c / s ∧ ku s (kc s c) = c % s ∧ kc s c < kblk s ∧ kc s (c + 1) = kc s c + 1) ∧ (¬ c / s + c % s < s → kc s (c + 1) = kc s c) := by decide
theorem kc_end : ∀ s, s < 4 → kc s (s * s) = kblk s := by decide
section MH
variable {nn : Nat} {R : xR} {M : xM} {p kind n k : Nat} {msg w : Nat → Nat} {er : Nat → Bool} {fm : Option (Nat × (Nat → Bool))} {lm : List (Nat × Nat)}
theorem cm_condition {P : Int → xM → Prop} (hn : 93 ≤ nn) (hR : RC 93 R) (hC : MC p kind n k M) (hw : ∀ i, i < n → M 83 i = w i ∧ w i < gq p) {i j a b q : Nat} (hi : i < 1000) (hj : j < 1000) (ha : a < 4) (hb : b < 4) (hq : q < n) (h : P (gcond p (gpw p q) (gyv p kind n w q) i j a b : Nat) M) : Ci m_M_condition 1 nn R [vr 78, vi i, vi j, vi a, vi b, vi q] M P := by
  obtain ⟨o1, o2, o3, o4, o5, o6, o7⟩ := hC.2.1
  have hqb := gq_b o1
  have hF := hC.1
  have ai := Nat.and_le_left (n := i) (m := a)
  have bj := Nat.and_le_left (n := j) (m := b)
  have p1 := g_pw o1 (show q < gq p - 1 by omega)
  have ew := hw q hq
  obtain ⟨s1, s2⟩ := gstr_ok (kind := kind) o1 o5 hq
  have hyv : gyv p kind n w q < gq p := g_div_lt o1 ew.2 s1 s2
  refine E_M_condition hn hR (B_M_condition_0 hn hR ?_)
  rw [xAnd_n (by omega) (by omega), xAnd_n (by omega) (by omega), hC.2.2.1, Int.toNat_natCast, hF.2.2.2.2 q (by omega)]
  unfold gcond at h
  refine ⟨by omega, by omega, fun g => ?_, fun g => ⟨by omega, by omega, fun g2 => ?_, fun g2 => ⟨by omega, fun gk => ?_, fun gk => ?_⟩⟩⟩
  · rw [if_neg (by omega)] at h
    exact h
  · rw [if_neg (by omega)] at h
    exact h
  · rw [if_pos ⟨by omega, by omega⟩] at h
    have e1 := gpow_lt o1 p1.2.1 (i - a)
    have e2 := gpow_lt o1 hyv (j - b)
    have hg : gstr p kind n q = gdiv p 1 (gmul p (gpw p q) (gapt p q n)) := by unfold gstr; rw [if_neg (by omega)]
    obtain ⟨a1, a2⟩ := gapt_ok (i := q) o1 (by omega) (show n ≤ gq p - 1 by omega) n (Nat.le_refl _)
    have c1 := (g_mullog o1 p1.2.1 a1 (by omega) a2).2
    have c2 := (g_two o1 p1.2.1 a1).1
    refine ⟨by omega, cm_away hn hR hC hq ?_⟩
    rw [show ((32 : Int) * (gpw p q : Int) + (gapt p q n : Int)).toNat = 32 * gpw p q + gapt p q n by omega, hF.2.2.2.1 _ _ p1.2.1 a1]
    refine ⟨by omega, cm_quotient (a := 1) hn hR hF (by omega) c2 (by omega) ?_⟩
    rw [← hg, ew.1]
    refine ⟨by omega, cm_quotient hn hR hF ew.2 s1 s2 ?_⟩
    rw [hF.2.2.2.2 q (by omega), show (i : Int) - (a : Int) = ((i - a : Nat) : Int) by omega, show (j : Int) - (b : Int) = ((j - b : Nat) : Int) by omega]
    refine cm_power hn hR hF p1.2.1 (by omega) (cm_power hn hR hF hyv (by omega) ?_)
    have e3 : gpow p (gdiv p (w q) (gstr p kind n q)) (j - b) = gpow p (gyv p kind n w q) (j - b) := rfl
    rw [e3, show ((32 : Int) * (gpow p (gpw p q) (i - a) : Int) + (gpow p (gyv p kind n w q) (j - b) : Int)).toNat = 32 * gpow p (gpw p q) (i - a) + gpow p (gyv p kind n w q) (j - b) by omega, hF.2.2.2.1 _ _ e1 e2]
    exact ⟨by omega, h⟩
  · rw [if_pos ⟨by omega, by omega⟩] at h
    have e1 := gpow_lt o1 p1.2.1 (i - a)
    have e2 := gpow_lt o1 hyv (j - b)
    have hg : gstr p kind n q = 1 := by unfold gstr; rw [if_pos (by omega)]
    rw [ew.1]
    have hyd : gdiv p (w q) 1 = gyv p kind n w q := by unfold gyv; rw [hg]
    refine ⟨by omega, cm_quotient (b := 1) hn hR hF ew.2 (by omega) (by decide) ?_⟩
    rw [hyd, hF.2.2.2.2 q (by omega), show (i : Int) - (a : Int) = ((i - a : Nat) : Int) by omega, show (j : Int) - (b : Int) = ((j - b : Nat) : Int) by omega]
    refine ⟨by omega, cm_power hn hR hF p1.2.1 (by omega) (cm_power hn hR hF hyv (by omega) ?_)⟩
    rw [show ((32 : Int) * (gpow p (gpw p q) (i - a) : Int) + (gpow p (gyv p kind n w q) (j - b) : Int)).toNat = 32 * gpow p (gpw p q) (i - a) + gpow p (gyv p kind n w q) (j - b) by omega, hF.2.2.2.1 _ _ e1 e2]
    exact ⟨by omega, h⟩
theorem cm_layTerm {P : Int → xM → Prop} (hn : 93 ≤ nn) (hR : RC 93 R) (hC : MC p kind n k M) (hw : ∀ i, i < n → M 83 i = w i ∧ w i < gq p) (he : ∀ i, i < n → M 84 i = if er i = true then 1 else 0) {i j s : Nat} (hi : i < 1000) (hj : j < 1000) (hs1 : 1 ≤ s) (hs3 : s ≤ 3) (h : ∀ M' : xM, (∀ c, c ≠ 92 → M' c = M c) → (∀ c, c < gopen er n * kblk s → M' 92 c = (gterm p (gxs p n er) (gys p kind n w er) s i j c : Nat)) → P (gopen er n * kblk s : Nat) M') : Ci m_M_layTerm 2 nn R [vr 78, vi i, vi j, vi s] M P := by
  have n20 := hC.2.1.2.2.2.2.2.1
  obtain ⟨-, kb6, kb1, -⟩ := kof_end s (by omega) hs1
  have ss9 : s * s ≤ 3 * 3 := Nat.mul_le_mul hs3 hs3
  have ss1 : 1 * 1 ≤ s * s := Nat.mul_le_mul hs1 hs1
  have ess : (s : Int) * (s : Int) = ((s * s : Nat) : Int) := (Int.natCast_mul _ _).symm
  have hop : ∀ q, q ≤ n → gopen er q * kblk s ≤ 120 := fun q hq => by
    have h0 := gopen_le er q
    have h1 : gopen er q * kblk s ≤ 20 * 6 := Nat.mul_le_mul (by omega) kb6
    omega
  refine E_M_layTerm hn hR (B_M_layTerm_0 hn hR ?_)
  have start := upto (σ := xM) (fun q M1 => Xi m_M_layTerm 2 nn R P 6 [some (vr 78), some (vi i), some (vi j), some (vi s), some (vi (gopen er q * kblk s : Nat)), some (vi q), none, none, none] [] M1) (fun q M1 => (∀ c, c ≠ 92 → M1 c = M c) ∧ ∀ c, c < gopen er q * kblk s → M1 92 c = (gterm p (gxs p n er) (gys p kind n w er) s i j c : Nat)) n (fun q M1 hq hI ih => ?_) (fun M1 hI => ?_) 0 M (by omega) ⟨fun _ _ => rfl, fun c hc => by rw [gopen, Nat.zero_mul] at hc; omega⟩
  · rw [gopen, Nat.zero_mul] at start
    exact start
  · obtain ⟨b1, b2⟩ := hI
    have hC1 : MC p kind n k M1 := hC.keep (fun j hj => by rw [b1 78 (by decide)]) (fun c h1 h2 => b1 c (by omega))
    have hq1 := hop (q + 1) (by omega)
    refine B_M_layTerm_6 hn hR ?_
    rw [hC1.2.2.2.1]
    refine ⟨by omega, by omega, fun g => absurd g (by omega), fun _ => ?_⟩
    cases hb : er q with
    | true =>
      have ih := ih M1 ⟨b1, by rw [gopen, if_pos hb, Nat.add_zero]; exact b2⟩
      rw [gopen, if_pos hb, Nat.add_zero] at ih
      refine B_M_layTerm_18 hn hR ?_
      rw [ess, Int.toNat_natCast, b1 84 (by decide), he q hq, hb]
      exact ⟨by decide, by omega, fun g => absurd g (by omega), fun _ => ⟨by omega, by decide, fun _ => ih, fun g => absurd g (by decide)⟩⟩
    | false =>
      have eo : gopen er (q + 1) = gopen er q + 1 := by rw [gopen, hb]; rfl
      rw [eo] at hq1
      have em : (gopen er q + 1) * kblk s = gopen er q * kblk s + kblk s := by rw [Nat.add_mul, Nat.one_mul]
      rw [em] at hq1
      have ex : gxs p n er (gopen er q) = gpw p q := by unfold gxs; rw [opl_at hb n hq]
      have ey : gys p kind n w er (gopen er q) = gyv p kind n w q := by unfold gys; rw [opl_at hb n hq]
      refine upto (σ := xM) (fun c M2 => Xi m_M_layTerm 2 nn R P 18 [some (vr 78), some (vi i), some (vi j), some (vi s), some (vi (gopen er q * kblk s + kc s c : Nat)), some (vi q), some (vi c), none, none] [] M2) (fun c M2 => (∀ x, x ≠ 92 → M2 x = M x) ∧ ∀ x, x < gopen er q * kblk s + kc s c → M2 92 x = (gterm p (gxs p n er) (gys p kind n w er) s i j x : Nat)) (s * s) (fun c M2 hc hJ jh => ?_) (fun M2 hJ => ?_) 0 M1 (by omega) ⟨b1, b2⟩
      · obtain ⟨d1, d2⟩ := hJ
        have hC2 : MC p kind n k M2 := hC.keep (fun j hj => by rw [d1 78 (by decide)]) (fun c h1 h2 => d1 c (by omega))
        obtain ⟨z1, z2⟩ := kc_ok s (by omega) c hc
        have et : Int.tdiv (c : Int) (s : Int) = ((c / s : Nat) : Int) := rfl
        have er' : (c : Int) - ((c / s : Nat) : Int) * (s : Int) = ((c % s : Nat) : Int) := by
          have h1 := Nat.div_add_mod c s
          rw [Nat.mul_comm] at h1
          have h2 : ((c / s : Nat) : Int) * (s : Int) = ((c / s * s : Nat) : Int) := (Int.natCast_mul _ _).symm
          omega
        have hcs := Nat.div_le_self c s
        have hms := Nat.mod_lt c (show s > 0 by omega)
        refine B_M_layTerm_18 hn hR ?_
        rw [ess, Int.toNat_natCast, Int.toNat_natCast, d1 84 (by decide), he q hq, hb, et, er']
        refine ⟨by omega, by omega, fun g => absurd g (by omega), fun _ => ⟨by omega, by decide, fun g => absurd rfl g, fun _ => ⟨by omega, by omega, by omega, by omega, fun g => ?_, fun g => ?_⟩⟩⟩
        · have := jh M2 ⟨d1, by rw [z2 (by omega)]; exact d2⟩
          rw [z2 (by omega)] at this
          exact this
        · obtain ⟨y1, y2, y3, y4⟩ := z1 (by omega)
          refine cm_condition (w := w) hn hR hC2 (by rw [d1 83 (by decide)]; exact hw) hi hj (by omega) (by omega) hq ?_
          refine ⟨by omega, fun M3 m3 => ?_⟩
          have := jh M3 ⟨fun x hx => by rw [m3, xU_o hx]; exact d1 x hx, fun x hx => ?_⟩
          · rw [y4] at this
            exact this
          · rw [y4] at hx
            by_cases hxe : x = gopen er q * kblk s + kc s c
            · rw [hxe, m3, xU_s]
              unfold gterm
              have q1 : (gopen er q * kblk s + kc s c) / kblk s = gopen er q := by rw [Nat.add_comm, Nat.add_mul_div_right _ _ (by omega), Nat.div_eq_of_lt y3, Nat.zero_add]
              have q2 : (gopen er q * kblk s + kc s c) % kblk s = kc s c := by rw [Nat.mul_comm, Nat.mul_add_mod, Nat.mod_eq_of_lt y3]
              rw [q1, q2, ex, ey, y1, y2]
            · rw [m3, xU_n hxe]; exact d2 x (by omega)
      · obtain ⟨d1, d2⟩ := hJ
        rw [kc_end s (by omega)] at d2 ⊢
        have ih := ih M2 ⟨d1, by rw [eo, em]; exact d2⟩
        rw [eo, em] at ih
        refine B_M_layTerm_18 hn hR ?_
        rw [ess]
        exact ⟨by omega, by omega, fun _ => ih, fun g => absurd (Int.le_refl _) g⟩
  · obtain ⟨b1, b2⟩ := hI
    refine B_M_layTerm_6 hn hR ?_
    rw [b1 78 (by decide), hC.2.2.2.1]
    exact ⟨by omega, by omega, fun _ => h M1 b1 b2, fun g => absurd (Int.le_refl _) g⟩
end MH
