/-! the reference: field, code, tell, receive, erase, word, rows, encode -/
def tnm (q : Nat) (d : Nat → Nat) : Nat → Nat → Nat
  | _, 0 => 0
  | j, m + 1 => tnm q d (j + 1) m * q + d j
theorem tnm_lt {q : Nat} {d : Nat → Nat} : ∀ m j, (∀ i, j ≤ i → i < j + m → d i < q) → tnm q d j m < q ^ m
  | 0, _, _ => by show 0 < 1; decide
  | m + 1, j, h => by
    have ih := tnm_lt m (j + 1) (fun i h1 h2 => h i (by omega) (by omega))
    have hd := h j (by omega) (by omega)
    rw [tnm, Nat.pow_succ]
    have h1 := Nat.mul_le_mul_right q (show tnm q d (j + 1) m + 1 ≤ q ^ m from ih)
    rw [Nat.add_mul, Nat.one_mul] at h1
    omega
theorem tnm_dg {q : Nat} {d : Nat → Nat} (hq : 0 < q) : ∀ m j, (∀ i, j ≤ i → i < j + m → d i < q) → ∀ a, a < m → tdg q (tnm q d j m) a = d (j + a)
  | m + 1, j, h, 0, _ => by
    have hd := h j (by omega) (by omega)
    show (tnm q d (j + 1) m * q + d j) / q ^ 0 % q = d j
    rw [Nat.pow_zero, Nat.div_one, Nat.mul_comm, Nat.mul_add_mod, Nat.mod_eq_of_lt hd]
  | m + 1, j, h, a + 1, ha => by
    have ih := tnm_dg hq m (j + 1) (fun i h1 h2 => h i (by omega) (by omega)) a (by omega)
    have hd := h j (by omega) (by omega)
    show (tnm q d (j + 1) m * q + d j) / q ^ (a + 1) % q = d (j + (a + 1))
    rw [Nat.pow_succ, Nat.mul_comm (q ^ a), ← Nat.div_div_eq_div_mul, Nat.add_comm (tnm q d (j + 1) m * q), Nat.add_mul_div_right _ _ hq, Nat.div_eq_of_lt hd, Nat.zero_add, show j + (a + 1) = j + 1 + a by omega]
    exact ih
theorem xDig {g t v : Nat} (hg : g < 32) (hv : v < 2 ^ g) (h : t * 2 ^ g + v < 2147483648) : xOr (xShl (t : Int) (g : Int)) (v : Int) = ((t * 2 ^ g + v : Nat) : Int) := by
  rw [xShl_n hg (by omega), xOr_n (by omega) (by omega)]
  have h1 := Nat.two_pow_add_eq_or_of_lt (i := g) (b := v) hv t
  have h2 : t * 2 ^ g ||| v = t * 2 ^ g + v := by rw [Nat.mul_comm t, ← h1]
  rw [h2]
section MD
variable {nn : Nat} {R : xR} {M : xM} {p kind n k : Nat} {msg w : Nat → Nat} {er : Nat → Bool} {fm : Option (Nat × (Nat → Bool))} {lm : List (Nat × Nat)}
theorem MI.keep {M' : xM} (h : MI p kind n k msg w er fm lm M) (h0 : ∀ j, j < 7 ∨ j = 12 ∨ j = 15 → M' 78 j = M 78 j) (h1 : ∀ c, 79 ≤ c → c < 90 → c ≠ 85 → c ≠ 87 → M' c = M c) : MI p kind n k msg w er fm lm M' := by
  obtain ⟨a1, a2, a3, a4, a5, a6, a7, a8, a9⟩ := h
  exact ⟨a1.keep (fun j hj => h0 j (by omega)) (fun c h2 h3 => h1 c (by omega) (by omega) (by omega) (by omega)), by rw [h1 82 (by omega) (by omega) (by omega) (by omega)]; exact a2, by rw [h1 83 (by omega) (by omega) (by omega) (by omega)]; exact a3, by rw [h1 84 (by omega) (by omega) (by omega) (by omega)]; exact a4, by rw [h0 12 (by omega)]; exact a5, by rw [h0 12 (by omega), h1 86 (by omega) (by omega) (by omega) (by omega)]; exact a6, by rw [h0 15 (by omega)]; exact a7, a8, by rw [h1 88 (by omega) (by omega) (by omega) (by omega), h1 89 (by omega) (by omega) (by omega) (by omega)]; exact a9⟩
theorem MI.ext {w' : Nat → Nat} {er' : Nat → Bool} (h : MI p kind n k msg w er fm lm M) (hw : ∀ i, i < n → w i = w' i) (he : ∀ i, i < n → er i = er' i) : MI p kind n k msg w' er' fm lm M := by
  obtain ⟨a1, a2, a3, a4, a5⟩ := h
  exact ⟨a1, a2, fun i hi => by rw [← hw i hi]; exact a3 i hi, fun i hi => by rw [← he i hi]; exact a4 i hi, a5⟩
theorem MI.word {w' : Nat → Nat} {er' : Nat → Bool} {M' : xM} (h : MI p kind n k msg w er fm lm M) (hk : ∀ c, c ≠ 83 → c ≠ 84 → M' c = M c) (hw : ∀ i, i < n → M' 83 i = w' i ∧ w' i < gq p) (he : ∀ i, i < n → M' 84 i = if er' i = true then 1 else 0) : MI p kind n k msg w' er' fm lm M' := by
  obtain ⟨a1, a2, a3, a4, a5, a6, a7, a8, a9⟩ := h
  exact ⟨a1.keep (fun j hj => by rw [hk 78 (by decide) (by decide)]) (fun c h2 h3 => hk c (by omega) (by omega)), by rw [hk 82 (by decide) (by decide)]; exact a2, hw, he, by rw [hk 78 (by decide) (by decide)]; exact a5, by rw [hk 78 (by decide) (by decide), hk 86 (by decide) (by decide)]; exact a6, by rw [hk 78 (by decide) (by decide)]; exact a7, a8, by rw [hk 88 (by decide) (by decide), hk 89 (by decide) (by decide)]; exact a9⟩
theorem cm_field {P : Int → xM → Prop} (hn : 93 ≤ nn) (hR : RC 93 R) {a : Int} (ha : xin a) (hbad : ¬ (8 ≤ a ∧ a < 64) → P (-1) M) (hloose : ∀ x : Nat, a = x → 8 ≤ x → x < 64 → gprim x = false → P (-4) M) (hok : ∀ x : Nat, a = x → x ∈ grims → ∀ M' : xM, MI x 0 (gn0 x) 2 (fun _ => 0) (fun _ => 0) (fun _ => false) none [] M' → (∀ c, c < 78 → M' c = M c) → P (gdeg x : Nat) M') : Ci m_M_field 2 nn R [vr 78, vi a] M P := by
  have core : ∀ x : Nat, a = x → 8 ≤ x → x < 64 → ∀ g : Int, g = gdeg x → Ci m_M_isPrimitive 1 nn R [vi x, vi g] M (fun z2 M1 => xin z2 ∧ ((¬ z2 = 0 → Cv m_M_layField 1 nn R [vr 78, vi x, vi g] M1 (fun M2 => xin (M2 78 1) ∧ (((M2 78 1) ≤ 20 → Cv m_M_layCode 0 nn R [vr 78, vi 0, vi ((M2 78 1) - 1), vi 2] M2 (fun M3 => P (M3 78 0) M3)) ∧ (¬ (M2 78 1) ≤ 20 → Cv m_M_layCode 0 nn R [vr 78, vi 0, vi 20, vi 2] M2 (fun M4 => P (M4 78 0) M4))))) ∧ (z2 = 0 → P (-4) M1))) := by
    intro x ex h8 h64 g eg
    subst eg
    refine cm_isPrimitive hn hR h8 h64 ?_
    cases hx : gprim x with
    | false => exact ⟨⟨by decide, by decide⟩, fun g3 => absurd rfl g3, fun _ => hloose x ex h8 h64 hx⟩
    | true =>
      have hm : x ∈ grims := by
        have h1 := List.all_eq_true.mp gprim_all x (List.mem_range.mpr (by omega))
        rw [hx] at h1
        have h8 : ¬ x < 8 := by omega
        simpa [h8] using h1
      have hq := gq_b hm
      refine ⟨⟨by decide, by decide⟩, fun _ => cm_layField hn hR hm (fun M1 a1 a2 a3 => ?_), fun g3 => absurd g3 (by decide)⟩
      have fin : ∀ M2 : xM, MI x 0 (gn0 x) 2 (fun _ => 0) (fun _ => 0) (fun _ => false) none [] M2 → (∀ c, c < 78 → M2 c = M1 c) → P (M2 78 0) M2 := fun M2 d1 d2 => by
        rw [d1.1.1.2.1]
        exact hok x ex hm M2 d1 (fun c hc => by rw [d2 c hc]; exact a2 c (by omega) (by omega) (by omega))
      have ok0 := okc0 hm
      have e0 : gn0 x = if 20 < gq x - 1 then 20 else gq x - 1 := rfl
      rw [a1.2.2.1]
      refine ⟨⟨by omega, by omega⟩, fun g => ?_, fun g => ?_⟩
      · have e : gn0 x = gq x - 1 := by rw [e0, if_neg (by omega)]
        rw [show (gq x : Int) - 1 = ((gn0 x : Nat) : Int) by omega]
        exact cm_layCode (kind := 0) (k := 2) hn hR a1 ok0 (fun M2 d1 d2 => fin M2 d1 d2)
      · have e : gn0 x = 20 := by
          rw [e0]
          split <;> omega
        rw [show (20 : Int) = ((gn0 x : Nat) : Int) by omega]
        exact cm_layCode (kind := 0) (k := 2) hn hR a1 ok0 (fun M2 d1 d2 => fin M2 d1 d2)
  refine E_M_field hn hR (B_M_field_0 hn hR ⟨ha, fun g => hbad (by omega), fun g => ⟨fun g2 => ?_, fun g2 => hbad (by omega)⟩⟩)
  obtain ⟨x, rfl⟩ := Int.eq_ofNat_of_zero_le (show 0 ≤ a by omega)
  have h8 : 8 ≤ x := by omega
  have h64 : x < 64 := by omega
  have hg : gdeg x = if x < 16 then 3 else if x < 32 then 4 else 5 := rfl
  refine ⟨fun g3 => ⟨fun g4 => core x rfl h8 h64 5 ?_, fun g4 => core x rfl h8 h64 4 ?_⟩, fun g3 => core x rfl h8 h64 3 ?_⟩
  · rw [hg, if_neg (by omega), if_neg (by omega)]; rfl
  · rw [hg, if_neg (by omega), if_pos (by omega)]; rfl
  · rw [hg, if_pos (by omega)]; rfl
theorem cm_code {P : Int → xM → Prop} (hn : 93 ≤ nn) (hR : RC 93 R) (hF : MF p M) {a b c : Int} (ha : xin a) (hb : xin b) (hc : xin c) (h0 : ¬ (0 ≤ a ∧ a ≤ 1 ∧ b ≤ 20 ∧ b < gq p ∧ 2 ≤ c ∧ c < b ∧ (gdeg p : Int) * c ≤ 12) → P 0 M) (h1 : ∀ kd n' k' : Nat, a = kd → b = n' → c = k' → okc p kd n' k' → ∀ M' : xM, MI p kd n' k' (fun _ => 0) (fun _ => 0) (fun _ => false) none [] M' → (∀ c, c < 78 → M' c = M c) → P 1 M') : Ci m_M_code 1 nn R [vr 78, vi a, vi b, vi c] M P := by
  have hq := gq_b hF.1
  have A : P 0 M → xin a ∧ ((a < 0 → P 0 M) ∧ (¬ a < 0 → ((1 < a → P 0 M) ∧ (¬ 1 < a → P 0 M)))) := fun q => ⟨ha, fun _ => q, fun _ => ⟨fun _ => q, fun _ => q⟩⟩
  refine E_M_code hn hR (B_M_code_0 hn hR ?_)
  rw [hF.2.2.1, hF.2.1]
  refine ⟨hc, fun g => A (h0 (by omega)), fun g1 => ⟨hb, fun g => A (h0 (by omega)), fun g2 => ⟨by omega, fun g => A (h0 (by omega)), fun g3 => ⟨fun g => A (h0 (by omega)), fun g4 => ?_⟩⟩⟩⟩
  obtain ⟨n', rfl⟩ := Int.eq_ofNat_of_zero_le (show 0 ≤ b by omega)
  obtain ⟨k', rfl⟩ := Int.eq_ofNat_of_zero_le (show 0 ≤ c by omega)
  have em : (gdeg p : Int) * (k' : Int) = ((gdeg p * k' : Nat) : Int) := by rw [Int.natCast_mul]
  have hle : gdeg p * k' ≤ 5 * 20 := Nat.mul_le_mul (by omega) (by omega)
  rw [em] at h0 ⊢
  refine ⟨by omega, fun g => A (h0 (by omega)), fun g5 => ⟨ha, fun g => h0 (by omega), fun g6 => ⟨fun g => h0 (by omega), fun g7 => ?_⟩⟩⟩
  obtain ⟨kd, rfl⟩ := Int.eq_ofNat_of_zero_le (show 0 ≤ a by omega)
  have hok : okc p kd n' k' := ⟨hF.1, by omega, by omega, by omega, by omega, by omega, by omega⟩
  exact cm_layCode hn hR hF hok (fun M1 d1 d2 => h1 kd n' k' rfl rfl rfl hok M1 d1 d2)
theorem cm_tell {P : Int → xM → Prop} (hn : 93 ≤ nn) (hR : RC 93 R) (hD : MI p kind n k msg w er fm lm M) {i v : Int} (hi : xin i) (hv : xin v) (h0 : ¬ (0 ≤ i ∧ i < k ∧ 0 ≤ v ∧ v < gq p) → P 0 M) (h1 : ∀ x y : Nat, i = x → v = y → x < k → y < gq p → ∀ M' : xM, MI p kind n k (fset msg x y) w er fm lm M' → (∀ c, c < 78 → M' c = M c) → P 1 M') : Ci m_M_tell 1 nn R [vr 78, vi i, vi v] M P := by
  have k4 := hD.1.2.1.k4
  refine E_M_tell hn hR (B_M_tell_0 hn hR ?_)
  rw [hD.1.2.2.2.2.1]
  refine ⟨hi, fun g => h0 (by omega), fun g1 => ⟨by omega, fun g => h0 (by omega), fun g2 => ?_⟩⟩
  refine cm_isElement hn hR hD.1.1 hv (fun b0 b1 => ⟨by decide, fun _ => ⟨by omega, fun M3 e3 => ?_⟩, fun g => absurd g (by decide)⟩) (fun hx => ⟨by decide, fun g => absurd rfl g, fun _ => h0 (fun q => hx q.2.2)⟩)
  obtain ⟨x, rfl⟩ := Int.eq_ofNat_of_zero_le (show 0 ≤ i by omega)
  obtain ⟨y, rfl⟩ := Int.eq_ofNat_of_zero_le b0
  rw [Int.toNat_natCast] at e3
  obtain ⟨a1, a2, a3, a4, a5, a6, a7, a8, a9⟩ := hD
  have kp : ∀ c, c ≠ 82 → M3 c = M c := fun c hc => by rw [e3, xU_o hc]
  refine h1 x y rfl rfl (by omega) (by omega) M3 ⟨a1.keep (fun j hj => by rw [kp 78 (by decide)]) (fun c h2 h3 => kp c (by omega)), fun j hj => ?_, by rw [kp 83 (by decide)]; exact a3, by rw [kp 84 (by decide)]; exact a4, by rw [kp 78 (by decide)]; exact a5, by rw [kp 78 (by decide), kp 86 (by decide)]; exact a6, by rw [kp 78 (by decide)]; exact a7, a8, by rw [kp 88 (by decide), kp 89 (by decide)]; exact a9⟩ (fun c hc => kp c (by omega))
  unfold fset
  by_cases hjx : j = x
  · rw [hjx, e3, xU_s, if_pos rfl]; exact ⟨rfl, by omega⟩
  · rw [e3, xU_n hjx, if_neg hjx]; exact a2 j hj
theorem cm_isPlace {P : Int → xM → Prop} (hn : 93 ≤ nn) (hR : RC 93 R) (hC : MC p kind n k M) {i : Int} (hi : xin i) (h1 : 0 ≤ i → i < n → P 1 M) (h0 : ¬ (0 ≤ i ∧ i < n) → P 0 M) : Ci m_M_isPlace 0 nn R [vr 78, vi i] M P := by
  have n20 := hC.2.1.2.2.2.2.2.1
  refine E_M_isPlace hn hR (B_M_isPlace_0 hn hR ?_)
  rw [hC.2.2.2.1]
  exact ⟨hi, fun g => h0 (by omega), fun g => ⟨by omega, fun g2 => h0 (by omega), fun g2 => h1 (by omega) (by omega)⟩⟩
theorem cm_receive {P : Int → xM → Prop} (hn : 93 ≤ nn) (hR : RC 93 R) (hD : MI p kind n k msg w er fm lm M) {i v : Int} (hi : xin i) (hv : xin v) (h0 : ¬ (0 ≤ i ∧ i < n ∧ 0 ≤ v ∧ v < gq p) → P 0 M) (h1 : ∀ x y : Nat, i = x → v = y → x < n → y < gq p → ∀ M' : xM, MI p kind n k msg (fset w x y) (fset er x false) fm lm M' → (∀ c, c < 78 → M' c = M c) → P 1 M') : Ci m_M_receive 1 nn R [vr 78, vi i, vi v] M P := by
  have n20 := hD.1.2.1.2.2.2.2.2.1
  refine E_M_receive hn hR (B_M_receive_0 hn hR ?_)
  refine cm_isPlace hn hR hD.1 hi (fun a0 a1 => ⟨by decide, fun g => absurd g (by decide), fun _ => ?_⟩) (fun hx => ⟨by decide, fun _ => h0 (fun q => hx ⟨q.1, q.2.1⟩), fun g => absurd rfl g⟩)
  refine cm_isElement hn hR hD.1.1 hv (fun b0 b1 => ⟨by decide, fun _ => ⟨by omega, fun M3 e3 M4 e4 => ?_⟩, fun g => absurd g (by decide)⟩) (fun hx => ⟨by decide, fun g => absurd rfl g, fun _ => h0 (fun q => hx q.2.2)⟩)
  obtain ⟨x, rfl⟩ := Int.eq_ofNat_of_zero_le a0
  obtain ⟨y, rfl⟩ := Int.eq_ofNat_of_zero_le b0
  rw [Int.toNat_natCast] at e3 e4
  have kp : ∀ c, c ≠ 83 → c ≠ 84 → M4 c = M c := fun c h1 h2 => by rw [e4, xU_o h2, e3, xU_o h1]
  refine h1 x y rfl rfl (by omega) (by omega) M4 (hD.word kp (fun j hj => ?_) (fun j hj => ?_)) (fun c hc => kp c (by omega) (by omega))
  · unfold fset
    by_cases hjx : j = x
    · rw [hjx, if_pos rfl, e4, xU_o (by decide), e3, xU_s]; exact ⟨rfl, by omega⟩
    · rw [if_neg hjx, e4, xU_o (by decide), e3, xU_n hjx]; exact hD.2.2.1 j hj
  · unfold fset
    by_cases hjx : j = x
    · rw [hjx, if_pos rfl, e4, xU_s]; rfl
    · rw [if_neg hjx, e4, xU_n hjx, e3, xU_o (by decide)]; exact hD.2.2.2.1 j hj
theorem cm_erase {P : Int → xM → Prop} (hn : 93 ≤ nn) (hR : RC 93 R) (hD : MI p kind n k msg w er fm lm M) {i : Int} (hi : xin i) (h0 : ¬ (0 ≤ i ∧ i < n) → P 0 M) (h2 : ∀ x : Nat, i = x → x < n → er x = true → P 0 M) (h1 : ∀ x : Nat, i = x → x < n → er x = false → ∀ M' : xM, MI p kind n k msg w (fset er x true) fm lm M' → (∀ c, c < 78 → M' c = M c) → P 1 M') : Ci m_M_erase 1 nn R [vr 78, vi i] M P := by
  have n20 := hD.1.2.1.2.2.2.2.2.1
  refine E_M_erase hn hR (B_M_erase_0 hn hR ?_)
  refine cm_isPlace hn hR hD.1 hi (fun a0 a1 => ⟨by decide, fun g => absurd g (by decide), fun _ => ?_⟩) (fun hx => ⟨by decide, fun _ => h0 hx, fun g => absurd rfl g⟩)
  obtain ⟨x, rfl⟩ := Int.eq_ofNat_of_zero_le a0
  rw [Int.toNat_natCast, hD.2.2.2.1 x (by omega)]
  cases he : er x with
  | true => exact ⟨by omega, by decide, fun g => absurd g (by decide), fun _ => h2 x rfl (by omega) he⟩
  | false =>
    refine ⟨by omega, by decide, fun _ M1 e1 => ?_, fun g => absurd rfl g⟩
    have kp : ∀ c, c ≠ 84 → M1 c = M c := fun c h2 => by rw [e1, xU_o h2]
    refine h1 x rfl (by omega) he M1 (hD.word (fun c _ h => kp c h) (fun j hj => by rw [kp 83 (by decide)]; exact hD.2.2.1 j hj) (fun j hj => ?_)) (fun c hc => kp c (by omega))
    unfold fset
    by_cases hjx : j = x
    · rw [hjx, if_pos rfl, e1, xU_s]; rfl
    · rw [if_neg hjx, e1, xU_n hjx]; exact hD.2.2.2.1 j hj
theorem cm_word {P : Int → xM → Prop} (hn : 93 ≤ nn) (hR : RC 93 R) (hD : MI p kind n k msg w er fm lm M) {i : Int} (hi : xin i) (h0 : ¬ (0 ≤ i ∧ i < n) → P (-1) M) (h1 : ∀ x : Nat, i = x → x < n → P (if er x = true then -2 else (w x : Int)) M) : Ci m_M_word 1 nn R [vr 78, vi i] M P := by
  have n20 := hD.1.2.1.2.2.2.2.2.1
  refine E_M_word hn hR (B_M_word_0 hn hR ?_)
  refine cm_isPlace hn hR hD.1 hi (fun a0 a1 => ⟨by decide, fun _ => ?_, fun g => absurd g (by decide)⟩) (fun hx => ⟨by decide, fun g => absurd rfl g, fun _ => h0 hx⟩)
  obtain ⟨x, rfl⟩ := Int.eq_ofNat_of_zero_le a0
  have := h1 x rfl (by omega)
  rw [Int.toNat_natCast, hD.2.2.2.1 x (by omega), (hD.2.2.1 x (by omega)).1]
  cases he : er x with
  | true => rw [he] at this; exact ⟨by omega, by decide, fun g => absurd g (by decide), fun _ => this⟩
  | false => rw [he] at this; exact ⟨by omega, by decide, fun _ => this, fun g => absurd rfl g⟩
theorem cm_makeRow {P : xM → Prop} (hn : 93 ≤ nn) (hR : RC 93 R) (hC : MC p kind n k M) {t : Nat} (ht : t < 2147483648) (h : ∀ M' : xM, (∀ c, c ≠ 85 → M' c = M c) → (∀ i, i < n → M' 85 i = (gel p kind n k t i : Nat)) → P M') : Cv m_M_makeRow 2 nn R [vr 78, vi t] M P := by
  have n20 := hC.2.1.2.2.2.2.2.1
  refine E_M_makeRow hn hR (B_M_makeRow_0 hn hR ?_)
  refine upto (σ := xM) (fun i M1 => Xv m_M_makeRow 2 nn R P 2 [some (vr 78), some (vi t), some (vi i)] [] M1) (fun i M1 => (∀ c, c ≠ 85 → M1 c = M c) ∧ ∀ j, j < i → M1 85 j = (gel p kind n k t j : Nat)) n (fun i M1 hi hI ih => ?_) (fun M1 hI => ?_) 0 M (by omega) ⟨fun _ _ => rfl, fun j hj => by omega⟩
  · obtain ⟨b1, b2⟩ := hI
    have hC1 : MC p kind n k M1 := hC.keep (fun j hj => by rw [b1 78 (by decide)]) (fun c h1 h2 => b1 c (by omega))
    refine B_M_makeRow_2 hn hR ?_
    rw [hC1.2.2.2.1]
    refine ⟨by omega, by omega, fun g => absurd g (by omega), fun _ => cm_element hn hR hC1 ht hi ⟨by omega, fun M2 e2 => ih M2 ⟨fun c hc => by rw [e2, xU_o hc]; exact b1 c hc, fun j hj => ?_⟩⟩⟩
    rw [Int.toNat_natCast] at e2
    by_cases hji : j = i
    · rw [hji, e2, xU_s]
    · rw [e2, xU_n hji]; exact b2 j (by omega)
  · obtain ⟨b1, b2⟩ := hI
    refine B_M_makeRow_2 hn hR ?_
    rw [b1 78 (by decide), hC.2.2.2.1]
    exact ⟨by omega, by omega, fun _ => h M1 b1 b2, fun g => absurd (Int.le_refl _) g⟩
theorem cm_chosen {P : Int → xM → Prop} (hn : 93 ≤ nn) (hR : RC 93 R) (hC : MC p kind n k M) (hm : ∀ i, i < k → M 82 i = msg i ∧ msg i < gq p) {a : Int} (ha : xin a) (hex : a ≠ 0 → ∃ t, t < gq p ^ k ∧ ∀ j, j < k → gel p kind n k t (n - k + j) = msg j) (h : ∀ t, t < gq p ^ k → (a = 0 → ∀ j, j < k → tdg (gq p) t j = msg j) → (a ≠ 0 → ∀ j, j < k → gel p kind n k t (n - k + j) = msg j) → P (t : Nat) M) : Ci m_M_chosen 2 nn R [vr 78, vi a] M P := by
  obtain ⟨o1, o2, o3, o4, o5, o6, o7⟩ := hC.2.1
  have hq := gq_b o1
  have k4 := hC.2.1.k4
  obtain ⟨e1, e2, e3⟩ := hC.2.1.pow
  refine E_M_chosen hn hR (B_M_chosen_0 hn hR ?_)
  rw [hC.2.2.2.2.1]
  have key := downto (σ := Unit) (fun j _ => Xi m_M_chosen 2 nn R P 9 [some (vr 78), some (vi a), some (vi (tnm (gq p) msg j (k - j) : Nat)), some (vi ((j : Int) - 1)), none, none] [] M) (fun j _ => j ≤ k) (fun j _ hj ih => ?_) (fun _ _ => ?_) k () (Nat.le_refl _)
  · rw [Nat.sub_self] at key
    exact key
  · have ih := ih () (by omega)
    have hS := tnm_lt (q := gq p) (d := msg) (k - (j + 1)) (j + 1) (fun i h1 h2 => (hm i (by omega)).2)
    have hd := (hm j (by omega)).2
    have hpw : gq p ^ (k - j) ≤ gq p ^ k := Nat.pow_le_pow_right (by omega) (by omega)
    have hS2 := Nat.lt_of_lt_of_le (tnm_lt (q := gq p) (d := msg) (k - j) j (fun i h1 h2 => (hm i (by omega)).2)) hpw
    rw [show k - j = (k - (j + 1)) + 1 by omega, tnm] at ih
    rw [show k - j = (k - (j + 1)) + 1 by omega, tnm] at hS2
    refine B_M_chosen_9 hn hR ?_
    rw [hC.1.2.1, show (((j + 1 : Nat) : Int) - 1).toNat = j by omega, (hm j (by omega)).1]
    refine ⟨by omega, fun g => absurd g (by omega), fun _ => ⟨by omega, ?_⟩⟩
    have hqd : gq p = 2 ^ gdeg p := rfl
    have hx := xDig (g := gdeg p) (t := tnm (gq p) msg (j + 1) (k - (j + 1))) (v := msg j) (by omega) hd (by rw [← hqd]; omega)
    rw [hx, ← hqd, show ((j + 1 : Nat) : Int) - 1 + (-1) = (j : Int) - 1 by omega]
    exact ih
  · have hV := tnm_lt (q := gq p) (d := msg) (k - 0) 0 (fun i h1 h2 => (hm i (by omega)).2)
    rw [Nat.sub_zero] at hV
    rw [Nat.sub_zero]
    refine B_M_chosen_9 hn hR ⟨by omega, fun _ => ⟨ha, fun ga => ?_, fun ga => ?_⟩, fun g => absurd (show ((0 : Nat) : Int) - 1 < 0 by omega) g⟩
    · obtain ⟨t0, ht0, hh⟩ := hex ga
      refine upto (σ := Unit) (fun t _ => Xi m_M_chosen 2 nn R P 41 [some (vr 78), some (vi a), some (vi (tnm (gq p) msg 0 k : Nat)), some (vi t), none, none] [] M) (fun t _ => t ≤ t0) (gq p ^ k) (fun t _ ht hI ih => ?_) (fun _ hI => absurd hI (by omega)) 0 () (by omega) (by omega)
      refine B_M_chosen_41 hn hR (cm_messages hn hR hC ⟨by omega, by omega, fun g => absurd g (by omega), fun _ => ?_⟩)
      refine upto (σ := Bool) (fun j b => Xi m_M_chosen 2 nn R P 55 [some (vr 78), some (vi a), some (vi (tnm (gq p) msg 0 k : Nat)), some (vi t), some (vi (if b = true then 1 else 0)), some (vi j)] [] M) (fun j b => (b = true → ∀ x, x < j → gel p kind n k t (n - k + x) = msg x) ∧ (b = false → ¬ t = t0)) k (fun j b hj hJ jh => ?_) (fun b hJ => ?_) 0 true (by omega) ⟨fun _ x hx => by omega, fun q => by cases q⟩
      · obtain ⟨j1, j2⟩ := hJ
        refine B_M_chosen_55 hn hR ?_
        rw [hC.2.2.2.2.1, hC.2.2.2.1, Int.toNat_natCast]
        refine ⟨by omega, by omega, fun g => absurd g (by omega), fun _ => ?_⟩
        cases b with
        | false => exact ⟨by decide, fun _ => ⟨fun _ => ih () (by have := j2 rfl; omega), fun g => absurd rfl g⟩, fun g => absurd rfl g⟩
        | true =>
          refine ⟨by decide, fun g => absurd g (by decide), fun _ => ?_⟩
          rw [show (n : Int) - (k : Int) + (j : Int) = ((n - k + j : Nat) : Int) by omega]
          have hg := gel_lt (t := t) (i := n - k + j) hC.2.1
          have hmj := (hm j hj).2
          refine cm_element hn hR hC (by omega) (by omega) ?_
          rw [(hm j hj).1]
          refine ⟨by omega, by omega, by omega, fun g => jh false ⟨fun q => (by cases q), fun _ q => ?_⟩, fun g => jh true ⟨fun _ x hx => ?_, fun q => by cases q⟩⟩
          · rw [q, hh j hj] at g
            exact g rfl
          · by_cases hxj : x = j
            · rw [hxj]; omega
            · exact j1 rfl x (by omega)
      · obtain ⟨j1, j2⟩ := hJ
        refine B_M_chosen_55 hn hR ?_
        rw [hC.2.2.2.2.1]
        refine ⟨by omega, by omega, fun _ => ?_, fun g => absurd (Int.le_refl _) g⟩
        cases b with
        | false => exact ⟨by decide, fun _ => ih () (by have := j2 rfl; omega), fun g => absurd rfl g⟩
        | true => exact ⟨by decide, fun g => absurd g (by decide), fun _ => h t ht (fun q => absurd q ga) (fun _ => j1 rfl)⟩
    · refine h _ hV (fun _ j hj => ?_) (fun q => absurd ga q)
      have := tnm_dg (q := gq p) (d := msg) (by omega) k 0 (fun i h1 h2 => (hm i (by omega)).2) j hj
      rw [Nat.zero_add] at this
      exact this
theorem cm_encode {P : Int → xM → Prop} (hn : 93 ≤ nn) (hR : RC 93 R) (hD : MI p kind n k msg w er fm lm M) {a : Int} (ha : xin a) (hex : a ≠ 0 → ∃ t, t < gq p ^ k ∧ ∀ j, j < k → gel p kind n k t (n - k + j) = msg j) (h : ∀ t, t < gq p ^ k → (a = 0 → ∀ j, j < k → tdg (gq p) t j = msg j) → (a ≠ 0 → ∀ j, j < k → gel p kind n k t (n - k + j) = msg j) → ∀ M' : xM, MI p kind n k msg (gel p kind n k t) (fun _ => false) fm lm M' → (∀ c, c < 78 → M' c = M c) → P (gcnt (fun i => gel p kind n k t i != 0) n : Nat) M') : Ci m_M_encode 3 nn R [vr 78, vi a] M P := by
  have hC := hD.1
  obtain ⟨o1, o2, o3, o4, o5, o6, o7⟩ := hC.2.1
  have hq := gq_b o1
  obtain ⟨e1, e2, e3⟩ := hC.2.1.pow
  refine E_M_encode hn hR (B_M_encode_0 hn hR ?_)
  refine cm_chosen hn hR hC hD.2.1 ha hex (fun t ht t1 t2 => ?_)
  refine cm_makeRow hn hR hC (by omega) (fun M1 b1 b2 => ?_)
  have gl : ∀ i, gel p kind n k t i < gq p := fun i => gel_lt hC.2.1
  refine upto (σ := xM) (fun i M2 => Xi m_M_encode 3 nn R P 13 [some (vr 78), some (vi a), some (vi (gcnt (fun i => gel p kind n k t i != 0) i : Nat)), some (vi i)] [] M2) (fun i M2 => (∀ c, c ≠ 83 → c ≠ 84 → M2 c = M1 c) ∧ ∀ j, j < i → M2 83 j = (gel p kind n k t j : Nat) ∧ M2 84 j = 0) n (fun i M2 hi hI ih => ?_) (fun M2 hI => ?_) 0 M1 (by omega) ⟨fun _ _ _ => rfl, fun j hj => by omega⟩
  · obtain ⟨d1, d2⟩ := hI
    have gi := gl i
    refine B_M_encode_13 hn hR ?_
    rw [Int.toNat_natCast, d1 78 (by decide) (by decide), b1 78 (by decide), hC.2.2.2.1, d1 85 (by decide) (by decide), b2 i hi]
    refine ⟨by omega, by omega, fun g => absurd g (by omega), fun _ => ⟨by omega, fun M3 e3 M4 e4 => ?_⟩⟩
    have e85 : M4 85 i = (gel p kind n k t i : Nat) := by rw [e4, xU_o (by decide), e3, xU_o (by decide), d1 85 (by decide) (by decide)]; exact b2 i hi
    have nx : (∀ c, c ≠ 83 → c ≠ 84 → M4 c = M1 c) ∧ ∀ j, j < i + 1 → M4 83 j = (gel p kind n k t j : Nat) ∧ M4 84 j = 0 := by
      refine ⟨fun c h1 h2 => by rw [e4, xU_o h2, e3, xU_o h1]; exact d1 c h1 h2, fun j hj => ?_⟩
      by_cases hji : j = i
      · rw [hji]; exact ⟨by rw [e4, xU_o (by decide), e3, xU_s], by rw [e4, xU_s]⟩
      · rw [e4, xU_o (by decide), xU_n hji, e3, xU_n hji, xU_o (by decide)]; exact d2 j (by omega)
    have ih := ih M4 nx
    rw [gcnt] at ih
    rw [e85]
    refine ⟨by omega, fun g => ?_, fun g => ?_⟩
    · rw [show (gel p kind n k t i != 0) = false by rw [show gel p kind n k t i = 0 by omega]; rfl] at ih
      exact ih
    · rw [show (gel p kind n k t i != 0) = true by rw [bne_iff_ne]; omega] at ih
      exact ih
  · obtain ⟨d1, d2⟩ := hI
    refine B_M_encode_13 hn hR ?_
    rw [d1 78 (by decide) (by decide), b1 78 (by decide), hC.2.2.2.1]
    refine ⟨by omega, by omega, fun _ => h t ht t1 t2 M2 ?_ (fun c hc => by rw [d1 c (by omega) (by omega)]; exact b1 c (by omega)), fun g => absurd (Int.le_refl _) g⟩
    have h1 : MI p kind n k msg w er fm lm M1 := hD.keep (fun j hj => by rw [b1 78 (by decide)]) (fun c h1 h2 h3 h4 => b1 c h3)
    exact h1.word d1 (fun i hi => ⟨(d2 i hi).1, gl i⟩) (fun i hi => (d2 i hi).2)
end MD
