/-! contracts: RadiusDecoder.Field -/
theorem c_degreeOf {n : Nat} {R : xR} {M : xM} {P : Int → xM → Prop} (hn : 78 ≤ n) (hR : RC 78 R) {p : Nat} (hp : p < 64) (h : P (gdeg p) M) : Ci m_F_degreeOf 0 n R [vi p] M P := by
  refine E_F_degreeOf hn hR (B_F_degreeOf_0 hn hR ?_)
  unfold gdeg at h
  refine ⟨by omega, fun h1 => ⟨fun h2 => ?_, fun h2 => ?_⟩, fun h1 => ?_⟩
  · rw [if_neg (by omega), if_neg (by omega)] at h
    exact h
  · rw [if_neg (by omega), if_pos (by omega)] at h
    exact h
  · rw [if_pos (by omega)] at h
    exact h
theorem c_timesX {n : Nat} {R : xR} {M : xM} {P : Int → xM → Prop} (hn : 78 ≤ n) (hR : RC 78 R) {a p : Nat} (h8 : 8 ≤ p) (hp : p < 64) (ha : a < gq p) (h : P (gtx p a) M) : Ci m_F_timesX 1 n R [vi a, vi p] M P := by
  refine E_F_timesX hn hR (B_F_timesX_0 hn hR (c_degreeOf hn hR hp ?_))
  have hb := gp_b p hp h8
  have e1 : xShl (a : Int) 1 = ((2 * a : Nat) : Int) := by
    have := xShl_n (a := a) (s := 1) (by decide) (by omega)
    rw [show ((1 : Nat) : Int) = 1 from rfl] at this
    rw [this]
    omega
  have e2 : xShr ((2 * a : Nat) : Int) (gdeg p) = ((2 * a / 2 ^ gdeg p : Nat) : Int) := xShr_n (by omega) (by omega)
  have hd : gq p = 2 ^ gdeg p := rfl
  have h2 : 2 * a / 2 ^ gdeg p ≤ 2 * a := Nat.div_le_self _ _
  rw [e1, e2]
  unfold gtx at h
  generalize hw : 2 * a / 2 ^ gdeg p = w at h2 ⊢
  refine ⟨by omega, fun h1 => ?_, fun h1 => ?_⟩
  · rw [xXor_n (by omega) (by omega)]
    rw [if_neg (fun q => h1 (by rw [hd] at q; rw [← hw, Nat.div_eq_of_lt q]; rfl))] at h
    exact h
  · rw [if_pos (by
      rw [hd]
      have h3 : 2 * a / 2 ^ gdeg p = 0 := by omega
      rcases Nat.div_eq_zero_iff.mp h3 with h4 | h4
      · have := Nat.two_pow_pos (gdeg p); omega
      · exact h4)] at h
    exact h
theorem c_isPrimitive {n : Nat} {R : xR} {M : xM} {P : Int → xM → Prop} (hn : 78 ≤ n) (hR : RC 78 R) {p : Nat} (h8 : 8 ≤ p) (hp : p < 64) (h : P (if gprim p = true then 1 else 0) M) : Ci m_F_isPrimitive 2 n R [vi p] M P := by
  refine E_F_isPrimitive hn hR (B_F_isPrimitive_0 hn hR (c_degreeOf hn hR hp ?_))
  have hb := gp_b p hp h8
  have hd : gq p = 2 ^ gdeg p := rfl
  have e1 : xShl 1 (gdeg p) = ((gq p : Nat) : Int) := by
    have := xShl_n (a := 1) (s := gdeg p) (by omega) (by rw [Nat.one_mul, ← hd]; omega)
    rw [Nat.one_mul, ← hd] at this
    exact this
  rw [e1]
  have key : ∀ (k x e : Nat), e + k = gq p - 1 → x < gq p → P (if gprimF p k x = true then 1 else 0) M → Xi m_F_isPrimitive 2 n R P 13 [some (vi p), some (vi ((gq p : Int) - 1)), some (vi x), some (vi e)] [] M := by
    intro k
    induction k with
    | zero =>
      intro x e he hx hP
      refine B_F_isPrimitive_13 hn hR ⟨by omega, by omega, fun h1 => c_timesX hn hR h8 hp hx ?_, fun h1 => absurd h1 (by omega)⟩
      have ht := g_tx_lt h8 hp hx
      refine ⟨by omega, fun h2 => ?_, fun h2 => ?_⟩
      · rw [if_neg (by simp only [gprimF, beq_iff_eq]; omega)] at hP
        exact hP
      · rw [if_pos (by simp only [gprimF, beq_iff_eq]; omega)] at hP
        exact hP
    | succ k ih =>
      intro x e he hx hP
      refine B_F_isPrimitive_13 hn hR ⟨by omega, by omega, fun h1 => absurd h1 (by omega), fun h1 => c_timesX hn hR h8 hp hx ?_⟩
      have ht := g_tx_lt h8 hp hx
      refine ⟨by omega, fun h2 => ?_, fun h2 => ?_⟩
      · refine ih (gtx p x) (e + 1) (by omega) ht ?_
        rw [gprimF, if_neg (show ¬ gtx p x = 1 by omega)] at hP
        exact hP
      · rw [gprimF, if_pos (show gtx p x = 1 by omega)] at hP
        exact hP
  exact key (gq p - 2) 1 1 (by omega) (by omega) h
/-- the field's tables hold p's field -/
def FI (p : Nat) (M : xM) : Prop := p ∈ grims ∧ M 1 0 = gdeg p ∧ M 1 1 = gq p ∧ (∀ e, e < gq p - 1 → M 2 e = gpw p e) ∧ (∀ a, 0 < a → a < gq p → M 3 a = glog p a) ∧ ∀ a b, a < gq p → b < gq p → M 4 (32 * a + b) = gmul p a b
def Z0 (M : xM) : Prop := ∀ a, a < 32 → M 4 (32 * a) = 0 ∧ M 4 a = 0
theorem c_product {n : Nat} {R : xR} {M : xM} {P : Int → xM → Prop} (hn : 78 ≤ n) (hR : RC 78 R) {p a b : Nat} (hF : FI p M) (ha : a < gq p) (hb : b < gq p) (h : P (gmul p a b) M) : Ci m_F_product 0 n R [vr 1, vi a, vi b] M P := by
  have hq := gq_b hF.1
  refine E_F_product hn hR (B_F_product_0 hn hR ?_)
  rw [xPair (by omega) (by omega)]
  refine ⟨by omega, ?_⟩
  rw [Int.toNat_natCast, hF.2.2.2.2.2 a b ha hb]
  exact h
theorem c_has {n : Nat} {R : xR} {M : xM} {P : Int → xM → Prop} (hn : 78 ≤ n) (hR : RC 78 R) {p : Nat} {a : Int} (hF : FI p M) (ha : xin a) (h1 : 0 ≤ a → a < gq p → P 1 M) (h0 : ¬ (0 ≤ a ∧ a < gq p) → P 0 M) : Ci m_F_has 0 n R [vr 1, vi a] M P := by
  have hq := gq_b hF.1
  refine E_F_has hn hR (B_F_has_0 hn hR ?_)
  rw [hF.2.2.1]
  exact ⟨ha, fun h => h0 (by omega), fun h => ⟨by omega, fun g => h0 (by omega), fun g => h1 (by omega) (by omega)⟩⟩
theorem g_divlog {p a b : Nat} (hp : p ∈ grims) (ha : a < gq p) (hb : b < gq p) (ha0 : a ≠ 0) (hb0 : b ≠ 0) : gdiv p a b = gpw p ((glog p a + (gq p - 1 - glog p b)) % (gq p - 1)) := by
  have hq := gq_b hp
  obtain ⟨i1, i2, i3, i4, i5⟩ := g_inv hp hb hb0
  obtain ⟨j1, j2, -⟩ := g_inv hp ha ha0
  unfold gdiv
  rw [(g_mullog hp ha i4 ha0 (by omega)).1]
  unfold ginv
  rw [(g_pw hp (Nat.mod_lt _ (by omega))).2.2, Nat.add_mod, Nat.mod_mod, ← Nat.add_mod]
theorem c_quotient {n : Nat} {R : xR} {M : xM} {P : Int → xM → Prop} (hn : 78 ≤ n) (hR : RC 78 R) {p a b : Nat} (hF : FI p M) (ha : a < gq p) (hb : b < gq p) (hb0 : b ≠ 0) (h : P (gdiv p a b) M) : Ci m_F_quotient 0 n R [vr 1, vi a, vi b] M P := by
  have hq := gq_b hF.1
  refine E_F_quotient hn hR (B_F_quotient_0 hn hR ?_)
  obtain ⟨-, i2, -, i4, -⟩ := g_inv hF.1 hb hb0
  refine ⟨by omega, fun h1 => ?_, fun h1 => ?_⟩
  · have ha0 : a ≠ 0 := by omega
    obtain ⟨-, j2, -⟩ := g_inv hF.1 ha ha0
    rw [g_divlog hF.1 ha hb ha0 hb0] at h
    rw [Int.toNat_natCast, Int.toNat_natCast, hF.2.2.2.2.1 a (by omega) ha, hF.2.2.2.2.1 b (by omega) hb, hF.2.2.1]
    refine ⟨by omega, by omega, by omega, fun h2 => ⟨by omega, ?_⟩, fun h2 => ⟨by omega, ?_⟩⟩
    · rw [hF.2.2.2.1 _ (by omega)]
      rw [Nat.mod_eq_of_lt (by omega)] at h
      rw [show ((glog p a : Int) - (glog p b : Int) + (gq p : Int) - 1).toNat = glog p a + (gq p - 1 - glog p b) by omega]
      exact h
    · rw [hF.2.2.2.1 _ (by omega)]
      rw [show glog p a + (gq p - 1 - glog p b) = (glog p a - glog p b) + (gq p - 1) by omega, Nat.add_mod_right, Nat.mod_eq_of_lt (by omega)] at h
      rw [show ((glog p a : Int) - (glog p b : Int)).toNat = glog p a - glog p b by omega]
      exact h
  · have ha0 : a = 0 := by omega
    subst ha0
    unfold gdiv at h
    rw [(g_one hF.1 i4).2.1] at h
    exact h
/-- x to the e -/
def gpow (p a : Nat) : Nat → Nat
  | 0 => 1
  | e + 1 => gmul p (gpow p a e) a
theorem gpow_lt {p a : Nat} (hp : p ∈ grims) (ha : a < gq p) : ∀ e, gpow p a e < gq p
  | 0 => by have := gq_b hp; show 1 < _; omega
  | e + 1 => (g_two hp (gpow_lt hp ha e) ha).1
theorem c_power {n : Nat} {R : xR} {M : xM} {P : Int → xM → Prop} (hn : 78 ≤ n) (hR : RC 78 R) {p a e : Nat} (hF : FI p M) (ha : a < gq p) (he : e < 2147483648) (h : P (gpow p a e) M) : Ci m_F_power 1 n R [vr 1, vi a, vi e] M P := by
  refine E_F_power hn hR (B_F_power_0 hn hR ?_)
  refine upto (σ := Unit) (fun i _ => Xi m_F_power 1 n R P 5 [some (vr 1), some (vi a), some (vi e), some (vi (gpow p a i)), some (vi i)] [] M) (fun _ _ => True) e (fun i _ hi _ ih => ?_) (fun _ _ => ?_) 0 () (by omega) trivial
  · refine B_F_power_5 hn hR ⟨by omega, by omega, fun h1 => absurd h1 (by omega), fun _ => c_product hn hR hF (gpow_lt hF.1 ha i) ha ?_⟩
    exact ih () trivial
  · exact B_F_power_5 hn hR ⟨by omega, by omega, fun _ => h, fun h1 => absurd (Int.le_refl _) h1⟩
