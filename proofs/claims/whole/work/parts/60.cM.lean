/-! contracts: the reference's field -/
set_option maxRecDepth 100000 in
theorem gmul2_all : (List.range 64).all (fun p => p < 8 || (List.range (gq p)).all (fun a => gmul p a 2 == gtx p a)) = true := by decide +kernel
theorem gmul2 {p a : Nat} (h8 : 8 ≤ p) (hp : p < 64) (ha : a < gq p) : gmul p a 2 = gtx p a := by
  have h1 := List.all_eq_true.mp gmul2_all p (List.mem_range.mpr hp)
  rw [Bool.or_eq_true] at h1
  rcases h1 with h1 | h1
  · have : p < 8 := by simpa using h1
    omega
  · have := List.all_eq_true.mp h1 a (List.mem_range.mpr ha)
    simpa using this
theorem bit_n {b i : Nat} (hb : b < 2147483648) (hi : i < 32) : xAnd (xShr (b : Int) (i : Int)) 1 = (((b >>> i) % 2 : Nat) : Int) := by
  rw [xShr_n hi hb, show (1 : Int) = ((1 : Nat) : Int) from rfl]
  have h1 := Nat.div_le_self b (2 ^ i)
  rw [xAnd_n (by omega) (by decide), Nat.shiftRight_eq_div_pow, Nat.and_one_is_mod]
theorem gcl_lt {a b : Nat} (ha : a < 32) : ∀ i, i ≤ 5 → gcl a b i < 1024
  | 0, _ => by show 0 < 1024; decide
  | i + 1, hi => by
    have ih := gcl_lt (b := b) ha i (by omega)
    rw [gcl]
    split
    · have h1 : a <<< i < 2 ^ 10 := by
        rw [Nat.shiftLeft_eq]
        have h2 : a * 2 ^ i < 32 * 2 ^ i := Nat.mul_lt_mul_of_pos_right ha (Nat.two_pow_pos i)
        have h3 : 2 ^ i ≤ 2 ^ 4 := Nat.pow_le_pow_right (by decide) (by omega)
        have h4 : 32 * 2 ^ i ≤ 32 * 2 ^ 4 := Nat.mul_le_mul_left _ h3
        omega
      exact Nat.xor_lt_two_pow (n := 10) ih h1
    · exact ih
theorem c_rest {nn : Nat} {R : xR} {M : xM} {P : Int → xM → Prop} (hn : 93 ≤ nn) (hR : RC 93 R) {p a b : Nat} (h8 : 8 ≤ p) (hp : p < 64) (ha : a < 32) (hb : b < 32) (h : P (gmul p a b) M) : Ci m_M_rest 0 nn R [vi a, vi b, vi p, vi (gdeg p)] M P := by
  have hg := gp_b p hp h8
  unfold gmul at h
  generalize gdeg p = m at h hg
  refine E_M_rest hn hR (B_M_rest_0 hn hR ?_)
  have two : ∀ (t r : Nat), t ≤ m - 1 → r < 1024 → P (gred p m t r) M → Xi m_M_rest 0 nn R P 49 [some (vi a), some (vi b), some (vi p), some (vi m), some (vi r), some (vi ((m + t : Nat) - 1 : Int))] [] M := by
    intro t
    induction t with
    | zero =>
      intro r ht hr hP
      exact B_M_rest_49 hn hR ⟨by omega, by omega, fun _ => hP, fun g => absurd (show ((m + 0 : Nat) : Int) - 1 < (m : Int) by omega) g⟩
    | succ t ih =>
      intro r ht hr hP
      refine B_M_rest_49 hn hR ?_
      rw [show ((m + (t + 1) : Nat) : Int) - 1 = ((m + t : Nat) : Int) by omega, bit_n (by omega) (by omega)]
      rw [gred] at hP
      refine ⟨by omega, by omega, fun g => absurd g (by omega), fun _ => ⟨by omega, fun g => ?_, fun g => ?_⟩⟩
      · rw [if_neg (by omega)] at hP
        have := ih r (by omega) hr hP
        rw [show ((m + t : Nat) : Int) + (-1) = ((m + t : Nat) : Int) - 1 by omega]
        exact this
      · rw [if_pos (by omega)] at hP
        have hsh : p <<< t < 2 ^ 10 := by
          rw [Nat.shiftLeft_eq]
          have h2 : p * 2 ^ t < 64 * 2 ^ t := Nat.mul_lt_mul_of_pos_right hp (Nat.two_pow_pos t)
          have h3 : 2 ^ t ≤ 2 ^ 4 := Nat.pow_le_pow_right (by decide) (by omega)
          have h4 : 64 * 2 ^ t ≤ 64 * 2 ^ 4 := Nat.mul_le_mul_left _ h3
          have h5 : t ≤ 3 := by omega
          have h6 : 2 ^ t ≤ 2 ^ 3 := Nat.pow_le_pow_right (by decide) h5
          have h7 : 64 * 2 ^ t ≤ 64 * 2 ^ 3 := Nat.mul_le_mul_left _ h6
          omega
        have es : xShl (p : Int) (((m + t : Nat) : Int) - (m : Int)) = ((p <<< t : Nat) : Int) := by
          rw [show ((m + t : Nat) : Int) - (m : Int) = (t : Int) by omega, xShl_n (by omega) (by rw [← Nat.shiftLeft_eq]; omega), Nat.shiftLeft_eq]
        rw [es, xXor_n (by omega) (by omega)]
        have := ih (r ^^^ p <<< t) (by omega) (Nat.xor_lt_two_pow (n := 10) hr hsh) hP
        rw [show ((m + t : Nat) : Int) + (-1) = ((m + t : Nat) : Int) - 1 by omega]
        exact this
  refine upto (σ := Unit) (fun i _ => Xi m_M_rest 0 nn R P 6 [some (vi a), some (vi b), some (vi p), some (vi m), some (vi (gcl a b i : Nat)), some (vi i)] [] M) (fun _ _ => True) m (fun i _ hi _ ih => ?_) (fun _ _ => ?_) 0 () (by omega) trivial
  · have ih := ih () trivial
    rw [gcl] at ih
    have hl := gcl_lt (b := b) ha i (by omega)
    refine B_M_rest_6 hn hR ?_
    rw [bit_n (by omega) (by omega)]
    refine ⟨by omega, by omega, fun g => absurd g (by omega), fun _ => ⟨by omega, fun g => ?_, fun g => ?_⟩⟩
    · rw [if_neg (by omega)] at ih
      exact ih
    · rw [if_pos (by omega)] at ih
      have hsh : a <<< i < 1024 := by
        rw [Nat.shiftLeft_eq]
        have h2 : a * 2 ^ i < 32 * 2 ^ i := Nat.mul_lt_mul_of_pos_right ha (Nat.two_pow_pos i)
        have h3 : 2 ^ i ≤ 2 ^ 4 := Nat.pow_le_pow_right (by decide) (by omega)
        have h4 : 32 * 2 ^ i ≤ 32 * 2 ^ 4 := Nat.mul_le_mul_left _ h3
        omega
      have es : xShl (a : Int) (i : Int) = ((a <<< i : Nat) : Int) := by rw [xShl_n (by omega) (by rw [← Nat.shiftLeft_eq]; omega), Nat.shiftLeft_eq]
      rw [es, xXor_n (by omega) (by omega)]
      exact ih
  · refine B_M_rest_6 hn hR ⟨by omega, by omega, fun _ => ?_, fun g => absurd (Int.le_refl _) g⟩
    have := two (m - 1) (gcl a b m) (Nat.le_refl _) (gcl_lt ha m (by omega)) h
    rw [show (2 : Int) * (m : Int) - 2 = ((m + (m - 1) : Nat) : Int) - 1 by omega]
    exact this
def MF (p : Nat) (M : xM) : Prop := p ∈ grims ∧ M 78 0 = gdeg p ∧ M 78 1 = gq p ∧ (∀ a b, a < gq p → b < gq p → M 79 (32 * a + b) = gmul p a b) ∧ ∀ i, i < gq p → M 80 i = gpw p i
theorem MF.keep {p : Nat} {M M' : xM} (h : MF p M) (h0 : M' 78 0 = M 78 0) (h1 : M' 78 1 = M 78 1) (h2 : M' 79 = M 79) (h3 : M' 80 = M 80) : MF p M' := by
  unfold MF
  rw [h0, h1, h2, h3]
  exact h
theorem g_pw' {p i : Nat} (hp : p ∈ grims) (hi : i < gq p) : 0 < gpw p i ∧ gpw p i < gq p := by
  have hq := gq_b hp
  by_cases h : i < gq p - 1
  · exact ⟨(g_pw hp h).1, (g_pw hp h).2.1⟩
  · rw [show i = gq p - 1 by omega, g_pwN hp]
    omega
section MM
variable {nn : Nat} {R : xR} {M : xM} {p : Nat}
theorem cm_layField {P : xM → Prop} (hn : 93 ≤ nn) (hR : RC 93 R) (hp : p ∈ grims) (h : ∀ M' : xM, MF p M' → (∀ c, c ≠ 78 → c ≠ 79 → c ≠ 80 → M' c = M c) → (∀ j, 2 ≤ j → M' 78 j = M 78 j) → P M') : Cv m_M_layField 1 nn R [vr 78, vi p, vi (gdeg p)] M P := by
  have hb := gr_b p hp
  have hq := gq_b hp
  have hd : gq p = 2 ^ gdeg p := rfl
  refine E_M_layField hn hR (B_M_layField_0 hn hR ?_)
  intro M1 e1 M2 e2
  have es : xShl 1 (gdeg p) = ((gq p : Nat) : Int) := by
    have := xShl_n (a := 1) (s := gdeg p) (by omega) (by rw [Nat.one_mul, ← hd]; omega)
    rw [Nat.one_mul, ← hd] at this
    exact this
  rw [es] at e2
  have a0 : M2 78 0 = gdeg p := by rw [e2, xU_n (by decide), e1, xU_s]
  have a1 : M2 78 1 = gq p := by rw [e2, xU_s]
  have a2 : ∀ c, c ≠ 78 → M2 c = M c := fun c hc => by rw [e2, xU_o hc, e1, xU_o hc]
  have a3 : ∀ j, 2 ≤ j → M2 78 j = M 78 j := fun j hj => by rw [e2, xU_n (by omega), e1, xU_n (by omega)]
  have pts : ∀ M3 : xM, M3 78 = M2 78 → (∀ c, c ≠ 78 → c ≠ 79 → c ≠ 80 → M3 c = M c) → (∀ a b, a < gq p → b < gq p → M3 79 (32 * a + b) = gmul p a b) → M3 80 0 = 1 → Xv m_M_layField 1 nn R P 75 [some (vr 78), some (vi p), some (vi (gdeg p)), some (vi 1), none] [] M3 := by
    intro M3 b1 b2 b3 b4
    refine upto (σ := xM) (fun i M4 => Xv m_M_layField 1 nn R P 75 [some (vr 78), some (vi p), some (vi (gdeg p)), some (vi i), none] [] M4) (fun i M4 => 1 ≤ i ∧ (∀ c, c ≠ 80 → M4 c = M3 c) ∧ ∀ j, j < i → M4 80 j = gpw p j) (gq p) (fun i M4 hi hI ih => ?_) (fun M4 hI => ?_) 1 M3 (by omega) ⟨by omega, fun _ _ => rfl, fun j hj => by rw [show j = 0 by omega, b4]; rfl⟩
    · obtain ⟨c0, c1, c2⟩ := hI
      have hpr := (g_pw' hp (show i - 1 < gq p by omega)).2
      refine B_M_layField_75 hn hR ?_
      rw [c1 78 (by decide), b1, a1, show ((i : Int) - 1).toNat = i - 1 by omega, c2 (i - 1) (by omega), show ((32 : Int) * (gpw p (i - 1) : Int) + 2).toNat = 32 * gpw p (i - 1) + 2 by omega, c1 79 (by decide), b3 _ 2 hpr (by omega), (g_one hp hpr).2.2.2, Int.toNat_natCast]
      refine ⟨by omega, by omega, fun g => absurd g (by omega), fun _ => ⟨by omega, by omega, by omega, fun M5 e5 => ih M5 ⟨by omega, fun c hc => by rw [e5, xU_o hc]; exact c1 c hc, fun j hj => ?_⟩⟩⟩
      by_cases hji : j = i
      · rw [hji, e5, xU_s]
        obtain ⟨i', rfl⟩ : ∃ i', i = i' + 1 := ⟨i - 1, by omega⟩
        rfl
      · rw [e5, xU_n hji]; exact c2 j (by omega)
    · obtain ⟨c0, c1, c2⟩ := hI
      refine B_M_layField_75 hn hR ?_
      rw [c1 78 (by decide), b1, a1]
      refine ⟨by omega, by omega, fun _ => h M4 ⟨hp, by rw [c1 78 (by decide), b1]; exact a0, by rw [c1 78 (by decide), b1]; exact a1, fun a b ha hb => by rw [c1 79 (by decide)]; exact b3 a b ha hb, c2⟩ (fun c h1 h2 h3 => by rw [c1 c h3]; exact b2 c h1 h2 h3) (fun j hj => by rw [c1 78 (by decide), b1]; exact a3 j hj), fun g => absurd (Int.le_refl _) g⟩
  refine upto (σ := xM) (fun a M3 => Xv m_M_layField 1 nn R P 14 [some (vr 78), some (vi p), some (vi (gdeg p)), some (vi a), none] [] M3) (fun a M3 => (∀ c, c ≠ 79 → M3 c = M2 c) ∧ ∀ x y, x < a → y < gq p → M3 79 (32 * x + y) = gmul p x y) (gq p) (fun a M3 ha hI ih => ?_) (fun M3 hI => ?_) 0 M2 (by omega) ⟨fun _ _ => rfl, fun x y hx => by omega⟩
  · obtain ⟨b1, b2⟩ := hI
    refine B_M_layField_14 hn hR ?_
    rw [b1 78 (by decide), a1]
    refine ⟨by omega, by omega, fun g => absurd g (by omega), fun _ => ?_⟩
    refine upto (σ := xM) (fun b M4 => Xv m_M_layField 1 nn R P 25 [some (vr 78), some (vi p), some (vi (gdeg p)), some (vi a), some (vi b)] [] M4) (fun b M4 => (∀ c, c ≠ 79 → M4 c = M2 c) ∧ ∀ x y, y < gq p → x < a ∨ (x = a ∧ y < b) → M4 79 (32 * x + y) = gmul p x y) (gq p) (fun b M4 hb' hJ jh => ?_) (fun M4 hJ => ?_) 0 M3 (by omega) ⟨b1, fun x y hy hx => b2 x y (by omega) hy⟩
    · obtain ⟨c1, c2⟩ := hJ
      refine B_M_layField_25 hn hR ?_
      rw [c1 78 (by decide), a1]
      refine ⟨by omega, by omega, fun g => absurd g (by omega), fun _ => c_rest hn hR hb.1 hb.2 (by omega) (by omega) ?_⟩
      rw [show ((32 : Int) * (a : Int) + (b : Int)).toNat = 32 * a + b by omega]
      refine ⟨by omega, fun M5 e5 => jh M5 ⟨fun c hc => by rw [e5, xU_o hc]; exact c1 c hc, fun x y hy hx => ?_⟩⟩
      by_cases he : 32 * x + y = 32 * a + b
      · rw [show x = a by omega, show y = b by omega, e5, xU_s]
      · rw [e5, xU_n he]
        exact c2 x y hy (by omega)
    · obtain ⟨c1, c2⟩ := hJ
      refine B_M_layField_25 hn hR ?_
      rw [c1 78 (by decide), a1]
      exact ⟨by omega, by omega, fun _ => ih M4 ⟨c1, fun x y hx hy => c2 x y hy (by omega)⟩, fun g => absurd (Int.le_refl _) g⟩
  · obtain ⟨b1, b2⟩ := hI
    refine B_M_layField_14 hn hR ?_
    rw [b1 78 (by decide), a1]
    exact ⟨by omega, by omega, fun _ M4 e4 => pts M4 (by rw [e4, xU_o (by decide)]; exact b1 78 (by decide)) (fun c h1 h2 h3 => by rw [e4, xU_o h3, b1 c h2]; exact a2 c h1) (fun a b ha hb => by rw [e4, xU_o (by decide)]; exact b2 a b ha hb) (by rw [e4, xU_s]), fun g => absurd (Int.le_refl _) g⟩
theorem cm_isPrimitive {P : Int → xM → Prop} (hn : 93 ≤ nn) (hR : RC 93 R) (h8 : 8 ≤ p) (hp : p < 64) (h : P (if gprim p = true then 1 else 0) M) : Ci m_M_isPrimitive 1 nn R [vi p, vi (gdeg p)] M P := by
  have hb := gp_b p hp h8
  have hd : gq p = 2 ^ gdeg p := rfl
  have es : xShl 1 (gdeg p) = ((gq p : Nat) : Int) := by
    have := xShl_n (a := 1) (s := gdeg p) (by omega) (by rw [Nat.one_mul, ← hd]; omega)
    rw [Nat.one_mul, ← hd] at this
    exact this
  refine E_M_isPrimitive hn hR (B_M_isPrimitive_0 hn hR ?_)
  have key : ∀ (k x e : Nat), e + k = gq p - 1 → x < gq p → P (if gprimF p k x = true then 1 else 0) M → Xi m_M_isPrimitive 1 nn R P 4 [some (vi p), some (vi (gdeg p)), some (vi x), some (vi e)] [] M := by
    intro k
    induction k with
    | zero =>
      intro x e he hx hP
      have ht := g_tx_lt h8 hp hx
      refine B_M_isPrimitive_4 hn hR ?_
      rw [es]
      refine ⟨by omega, by omega, fun g => absurd g (by omega), fun _ => c_rest (b := 2) hn hR h8 hp (by omega) (by omega) ?_⟩
      rw [gmul2 h8 hp hx]
      refine ⟨by omega, fun g => ?_, fun g => ⟨by omega, fun g2 => absurd (show (e : Int) = (gq p : Int) - 1 by omega) g2, fun _ => ?_⟩⟩
      · rw [if_neg (by simp only [gprimF, beq_iff_eq]; omega)] at hP
        refine B_M_isPrimitive_4 hn hR ?_
        rw [es]
        exact ⟨by omega, by omega, fun _ => hP, fun g2 => absurd (show (gq p : Int) ≤ (e : Int) + 1 by omega) g2⟩
      · rw [if_pos (by simp only [gprimF, beq_iff_eq]; omega)] at hP
        exact hP
    | succ k ih =>
      intro x e he hx hP
      have ht := g_tx_lt h8 hp hx
      refine B_M_isPrimitive_4 hn hR ?_
      rw [es]
      refine ⟨by omega, by omega, fun g => absurd g (by omega), fun _ => c_rest (b := 2) hn hR h8 hp (by omega) (by omega) ?_⟩
      rw [gmul2 h8 hp hx]
      refine ⟨by omega, fun g => ?_, fun g => ⟨by omega, fun g2 => ?_, fun g2 => absurd g2 (by omega)⟩⟩
      · rw [gprimF, if_neg (show ¬ gtx p x = 1 by omega)] at hP
        exact ih (gtx p x) (e + 1) (by omega) ht hP
      · rw [gprimF, if_pos (show gtx p x = 1 by omega)] at hP
        exact hP
  exact key (gq p - 2) 1 1 (by omega) (by omega) h
theorem cm_isElement {P : Int → xM → Prop} (hn : 93 ≤ nn) (hR : RC 93 R) (hF : MF p M) {a : Int} (ha : xin a) (h1 : 0 ≤ a → a < gq p → P 1 M) (h0 : ¬ (0 ≤ a ∧ a < gq p) → P 0 M) : Ci m_M_isElement 0 nn R [vr 78, vi a] M P := by
  have hq := gq_b hF.1
  refine E_M_isElement hn hR (B_M_isElement_0 hn hR ?_)
  rw [hF.2.2.1]
  exact ⟨ha, fun h => h0 (by omega), fun h => ⟨by omega, fun g => h0 (by omega), fun g => h1 (by omega) (by omega)⟩⟩
theorem cm_times {P : Int → xM → Prop} (hn : 93 ≤ nn) (hR : RC 93 R) (hF : MF p M) {a b : Int} (ha : xin a) (hb : xin b) (h1 : ∀ x y : Nat, a = x → b = y → x < gq p → y < gq p → P (gmul p x y : Nat) M) (h0 : ¬ (0 ≤ a ∧ a < gq p ∧ 0 ≤ b ∧ b < gq p) → P (-1) M) : Ci m_M_times 1 nn R [vr 78, vi a, vi b] M P := by
  have hq := gq_b hF.1
  refine E_M_times hn hR (B_M_times_0 hn hR ?_)
  refine cm_isElement hn hR hF ha (fun a0 a1 => ⟨by decide, fun g => absurd g (by decide), fun _ => ?_⟩) (fun hx => ⟨by decide, fun _ => h0 (fun q => hx ⟨q.1, q.2.1⟩), fun g => absurd rfl g⟩)
  refine cm_isElement hn hR hF hb (fun b0 b1 => ⟨by decide, fun g => absurd g (by decide), fun _ => ?_⟩) (fun hx => ⟨by decide, fun _ => h0 (fun q => hx q.2.2), fun g => absurd rfl g⟩)
  obtain ⟨x, rfl⟩ := Int.eq_ofNat_of_zero_le a0
  obtain ⟨y, rfl⟩ := Int.eq_ofNat_of_zero_le b0
  rw [show ((32 : Int) * (x : Int) + (y : Int)).toNat = 32 * x + y by omega, hF.2.2.2.1 x y (by omega) (by omega)]
  exact ⟨by omega, h1 x y rfl rfl (by omega) (by omega)⟩
theorem cm_quotient {P : Int → xM → Prop} (hn : 93 ≤ nn) (hR : RC 93 R) (hF : MF p M) {a b : Nat} (ha : a < gq p) (hb : b < gq p) (hb0 : b ≠ 0) (h : P (gdiv p a b) M) : Ci m_M_quotient 0 nn R [vr 78, vi a, vi b] M P := by
  have hq := gq_b hF.1
  have hl := g_div_lt hF.1 ha hb hb0
  refine E_M_quotient hn hR (B_M_quotient_0 hn hR ?_)
  refine upto (σ := Unit) (fun c _ => Xi m_M_quotient 0 nn R P 2 [some (vr 78), some (vi a), some (vi b), some (vi c)] [] M) (fun _ _ => True) (gdiv p a b) (fun c _ hc _ ih => ?_) (fun _ _ => ?_) 0 () (by omega) trivial
  · have ih := ih () trivial
    have hm := (g_two hF.1 (show c < gq p by omega) hb).1
    refine B_M_quotient_2 hn hR ?_
    rw [hF.2.2.1, show ((32 : Int) * (c : Int) + (b : Int)).toNat = 32 * c + b by omega, hF.2.2.2.1 c b (by omega) hb]
    refine ⟨by omega, by omega, fun g => absurd g (by omega), fun _ => ⟨by omega, by omega, by omega, fun g => ?_, fun _ => ih⟩⟩
    exfalso
    have e : gmul p c b = a := by omega
    rw [← e, g_muldiv hF.1 (by omega) hb hb0] at hc
    omega
  · refine B_M_quotient_2 hn hR ?_
    rw [hF.2.2.1, show ((32 : Int) * (gdiv p a b : Int) + (b : Int)).toNat = 32 * gdiv p a b + b by omega, hF.2.2.2.1 _ b hl hb, g_divmul hF.1 ha hb hb0]
    exact ⟨by omega, by omega, fun g => absurd g (by omega), fun _ => ⟨by omega, by omega, by omega, fun _ => h, fun g => absurd rfl g⟩⟩
theorem cm_over {P : Int → xM → Prop} (hn : 93 ≤ nn) (hR : RC 93 R) (hF : MF p M) {a b : Int} (ha : xin a) (hb : xin b) (h1 : ∀ x y : Nat, a = x → b = y → x < gq p → y < gq p → y ≠ 0 → P (gdiv p x y : Nat) M) (h2 : 0 ≤ a → a < gq p → b = 0 → P (-2) M) (h0 : ¬ (0 ≤ a ∧ a < gq p ∧ 0 ≤ b ∧ b < gq p) → P (-1) M) : Ci m_M_over 1 nn R [vr 78, vi a, vi b] M P := by
  refine E_M_over hn hR (B_M_over_0 hn hR ?_)
  refine cm_isElement hn hR hF ha (fun a0 a1 => ⟨by decide, fun g => absurd g (by decide), fun _ => ?_⟩) (fun hx => ⟨by decide, fun _ => h0 (fun q => hx ⟨q.1, q.2.1⟩), fun g => absurd rfl g⟩)
  refine cm_isElement hn hR hF hb (fun b0 b1 => ⟨by decide, fun _ => ⟨hb, fun g => ?_, fun g => h2 a0 a1 g⟩, fun g => absurd g (by decide)⟩) (fun hx => ⟨by decide, fun g => absurd rfl g, fun _ => h0 (fun q => hx q.2.2)⟩)
  obtain ⟨x, rfl⟩ := Int.eq_ofNat_of_zero_le a0
  obtain ⟨y, rfl⟩ := Int.eq_ofNat_of_zero_le b0
  exact cm_quotient hn hR hF (by omega) (by omega) (by omega) (h1 x y rfl rfl (by omega) (by omega) (by omega))
theorem cm_log {P : Int → xM → Prop} (hn : 93 ≤ nn) (hR : RC 93 R) (hF : MF p M) {a : Int} (ha : xin a) (h1 : ∀ x : Nat, a = x → x < gq p → x ≠ 0 → P (glog p x : Nat) M) (h2 : a = 0 → P (-2) M) (h0 : ¬ (0 ≤ a ∧ a < gq p) → P (-1) M) : Ci m_M_log 1 nn R [vr 78, vi a] M P := by
  have hq := gq_b hF.1
  refine E_M_log hn hR (B_M_log_0 hn hR ?_)
  refine cm_isElement hn hR hF ha (fun a0 a1 => ⟨by decide, fun _ => ?_, fun g => absurd g (by decide)⟩) (fun hx => ⟨by decide, fun g => absurd rfl g, fun _ => h0 hx⟩)
  obtain ⟨x, rfl⟩ := Int.eq_ofNat_of_zero_le a0
  by_cases x0 : x = 0
  · subst x0
    refine upto (σ := Unit) (fun e _ => Xi m_M_log 1 nn R P 12 [some (vr 78), some (vi (0 : Nat)), some (vi e)] [] M) (fun _ _ => True) (gq p - 1) (fun e _ he _ ih => ?_) (fun _ _ => ?_) 0 () (by omega) trivial
    · have ih := ih () trivial
      have hpw := g_pw hF.1 he
      refine B_M_log_12 hn hR ?_
      rw [hF.2.2.1, Int.toNat_natCast, hF.2.2.2.2 e (by omega)]
      exact ⟨by omega, by omega, fun g => absurd g (by omega), fun _ => ⟨by omega, by omega, by omega, fun g => absurd g (by omega), fun _ => ih⟩⟩
    · refine B_M_log_12 hn hR ?_
      rw [hF.2.2.1]
      exact ⟨by omega, by omega, fun _ => ⟨fun _ => h2 rfl, fun g => absurd (by omega) g⟩, fun g => absurd (by omega) g⟩
  · obtain ⟨i1, i2, -⟩ := g_inv hF.1 (show x < gq p by omega) x0
    refine upto (σ := Unit) (fun e _ => Xi m_M_log 1 nn R P 12 [some (vr 78), some (vi x), some (vi e)] [] M) (fun _ _ => True) (glog p x) (fun e _ he _ ih => ?_) (fun _ _ => ?_) 0 () (by omega) trivial
    · have ih := ih () trivial
      have hpw := g_pw hF.1 (show e < gq p - 1 by omega)
      refine B_M_log_12 hn hR ?_
      rw [hF.2.2.1, Int.toNat_natCast, hF.2.2.2.2 e (by omega)]
      refine ⟨by omega, by omega, fun g => absurd g (by omega), fun _ => ⟨by omega, by omega, by omega, fun g => ?_, fun _ => ih⟩⟩
      exfalso
      have hx : gpw p e = x := by omega
      rw [← hx, hpw.2.2] at he
      omega
    · refine B_M_log_12 hn hR ?_
      rw [hF.2.2.1, Int.toNat_natCast, hF.2.2.2.2 _ (by omega), i1]
      exact ⟨by omega, by omega, fun g => absurd g (by omega), fun _ => ⟨by omega, by omega, by omega, fun _ => ⟨fun g => absurd g (by omega), fun _ => h1 x rfl (by omega) x0⟩, fun g => absurd rfl g⟩⟩
theorem cm_power {P : Int → xM → Prop} (hn : 93 ≤ nn) (hR : RC 93 R) (hF : MF p M) {a e : Nat} (ha : a < gq p) (he : e < 2147483648) (h : P (gpow p a e) M) : Ci m_M_power 0 nn R [vr 78, vi a, vi e] M P := by
  have hq := gq_b hF.1
  refine E_M_power hn hR (B_M_power_0 hn hR ?_)
  refine upto (σ := Unit) (fun i _ => Xi m_M_power 0 nn R P 5 [some (vr 78), some (vi a), some (vi e), some (vi (gpow p a i)), some (vi i)] [] M) (fun _ _ => True) e (fun i _ hi _ ih => ?_) (fun _ _ => ?_) 0 () (by omega) trivial
  · have hl := gpow_lt hF.1 ha i
    refine B_M_power_5 hn hR ?_
    rw [show ((32 : Int) * (gpow p a i : Int) + (a : Int)).toNat = 32 * gpow p a i + a by omega, hF.2.2.2.1 _ a hl ha]
    exact ⟨by omega, by omega, fun g => absurd g (by omega), fun _ => ⟨by omega, ih () trivial⟩⟩
  · exact B_M_power_5 hn hR ⟨by omega, by omega, fun _ => h, fun g => absurd (Int.le_refl _) g⟩
end MM
