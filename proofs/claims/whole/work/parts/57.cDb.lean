/-! RadiusDecoder: field, code, tell, encode, receive, erase, word, syndrome -/
theorem gchk_lt {p kind n i : Nat} (hp : p ∈ grims) (hn : n < gq p) (hi : i < n) : gchk p kind n i < gq p := by
  have hq := gq_b hp
  unfold gchk
  split
  · obtain ⟨a1, a2⟩ := gapt_ok (i := i) hp (by omega) (show n ≤ gq p - 1 by omega) n (Nat.le_refl _)
    exact g_div_lt hp (by omega) a1 a2
  · exact (g_pw hp (by omega)).2.1
theorem gopen_congr {e f : Nat → Bool} : ∀ n, (∀ i, i < n → e i = f i) → gopen e n = gopen f n
  | 0, _ => rfl
  | n + 1, h => by rw [gopen, gopen, gopen_congr n (fun i hi => h i (by omega)), h n (by omega)]
theorem WI.ext {p n : Nat} {w w' : Nat → Nat} {er er' : Nat → Bool} {M : xM} (h : WI p n w er M) (hw : ∀ i, i < n → w i = w' i) (he : ∀ i, i < n → er i = er' i) : WI p n w' er' M :=
  ⟨fun i hi => by rw [← hw i hi]; exact h.1 i hi, fun i hi => by rw [← he i hi]; exact h.2.1 i hi, by rw [← gopen_congr n he]; exact h.2.2⟩
section DB
variable {nn : Nat} {R : xR} {M : xM} {p kind n k : Nat} {msg w : Nat → Nat} {er : Nat → Bool} {fo : Option (Nat × (Nat → Bool))} {ls : List (Nat × Nat)}
theorem c_beginCode {P : xM → Prop} (hn : 78 ≤ nn) (hR : RC 78 R) (hPV : PVT) (hF : FI p M) (hz : Z0 M) (hc : okc p kind n k) (h : ∀ M' : xM, DI p kind n k (fun _ => 0) (fun _ => 0) (fun _ => false) none [] M' → (∀ c, 78 ≤ c → M' c = M c) → P M') : Cv m_D_beginCode 4 nn R [vr 0, vi kind, vi n, vi k] M P := by
  have k4 := hc.k4
  have hq := gq_b hc.1
  refine E_D_beginCode hn hR (B_D_beginCode_0 hn hR ?_)
  refine c_Cbegin hn hR hF hc (hPV _ _ _ _ hc) (fun M1 a1 a2 => ?_)
  refine upto (σ := xM) (fun i M2 => Xv m_D_beginCode 4 nn R P 13 [some (vr 0), some (vi kind), some (vi n), some (vi k), some (vi i)] [] M2) (fun i M2 => (∀ c, c ≠ 25 → M2 c = M1 c) ∧ ∀ j, j < i → M2 25 j = 0) 4 (fun i M2 hi hI ih => ?_) (fun M2 hI => ?_) 0 M1 (by omega) ⟨fun _ _ => rfl, fun j hj => by omega⟩
  · obtain ⟨b1, b2⟩ := hI
    refine B_D_beginCode_13 hn hR ?_
    rw [Int.toNat_natCast]
    refine ⟨by omega, fun g => absurd g (by omega), fun _ => ⟨by omega, fun M3 e3 => ih M3 ⟨fun c hc => by rw [e3, xU_o hc]; exact b1 c hc, fun j hj => ?_⟩⟩⟩
    by_cases hji : j = i
    · rw [hji, e3, xU_s]
    · rw [e3, xU_n hji]; exact b2 j (by omega)
  · obtain ⟨b1, b2⟩ := hI
    refine B_D_beginCode_13 hn hR ⟨by omega, fun _ => ?_, fun g => absurd (Int.le_refl _) g⟩
    refine c_Wbegin (p := p) hn hR hc.1 hc.2.2.2.2.2.1 (fun M3 d1 d2 => ?_)
    intro M4 e4 M5 e5
    have kp : ∀ c, c ≠ 32 → c ≠ 36 → M5 c = M3 c := fun c h1 h2 => by rw [e5, xU_o h2, e4, xU_o h1]
    have kq : ∀ c, c < 26 → c ≠ 25 → M5 c = M1 c := fun c h1 h2 => by rw [kp c (by omega) (by omega), d2 c (by omega)]; exact b1 c h2
    refine h M5 ⟨hF.keep (fun c h1 h2 => by rw [kq c (by omega) (by omega)]; exact a2 c (by omega)), fun a ha => by rw [kq 4 (by omega) (by omega), a2 4 (by omega)]; exact hz a ha, a1.keep (fun c h1 h2 => kq c (by omega) (by omega)), fun i hi => ⟨?_, by show 0 < gq p; omega⟩, d1.keep (fun c h1 h2 => kp c (by omega) (by omega)), fun _ => ?_, fun t df e => (by cases e), ?_, Nat.zero_le _, fun c x hx => by simp at hx⟩ (fun c hc => ?_)
    · rw [kp 25 (by decide) (by decide), d2 25 (by omega)]; exact b2 i (by omega)
    · rw [e5, xU_o (by decide), e4, xU_s]
    · rw [e5, xU_s]; rfl
    · rw [kp c (by omega) (by omega), d2 c (by omega), b1 c (by omega)]; exact a2 c (by omega)
def gn0 (p : Nat) : Nat := if 20 < gq p - 1 then 20 else gq p - 1
theorem okc0 {p : Nat} (hp : p ∈ grims) : okc p 0 (gn0 p) 2 := by
  have hq := gq_b hp
  unfold gn0
  refine ⟨hp, by decide, by decide, ?_, ?_, ?_, by omega⟩ <;> split <;> omega
theorem c_beginField {P : xM → Prop} (hn : 78 ≤ nn) (hR : RC 78 R) (hPV : PVT) (hp : p ∈ grims) (hz : Z0 M) (h : ∀ M' : xM, DI p 0 (gn0 p) 2 (fun _ => 0) (fun _ => 0) (fun _ => false) none [] M' → (∀ c, 78 ≤ c → M' c = M c) → P M') : Cv m_D_beginField 5 nn R [vr 0, vi p] M P := by
  have hq := gq_b hp
  refine E_D_beginField hn hR (B_D_beginField_0 hn hR ?_)
  refine c_Fbegin hn hR hp hz (fun M1 a1 a2 a3 => ?_)
  have e : (if (20 : Int) < M1 1 1 - 1 then (20 : Int) else M1 1 1 - 1) = ((gn0 p : Nat) : Int) := by
    rw [a1.2.2.1]
    unfold gn0
    split <;> split <;> omega
  rw [e]
  refine ⟨by rw [a1.2.2.1]; omega, ?_⟩
  exact c_beginCode (kind := 0) (k := 2) hn hR hPV a1 a2 (okc0 hp) (fun M2 d1 d2 => h M2 d1 (fun c hc => by rw [d2 c hc]; exact a3 c (by omega)))
theorem c_field {P : Int → xM → Prop} (hn : 78 ≤ nn) (hR : RC 78 R) (hPV : PVT) (hz : Z0 M) {a : Int} (ha : xin a) (hbad : ¬ (8 ≤ a ∧ a < 64) → P (-1) M) (hloose : ∀ x : Nat, a = x → 8 ≤ x → x < 64 → gprim x = false → P (-4) M) (hok : ∀ x : Nat, a = x → x ∈ grims → ∀ M' : xM, DI x 0 (gn0 x) 2 (fun _ => 0) (fun _ => 0) (fun _ => false) none [] M' → (∀ c, 78 ≤ c → M' c = M c) → P (gdeg x : Nat) M') : Ci m_D_field 6 nn R [vr 0, vi a] M P := by
  refine E_D_field hn hR (B_D_field_0 hn hR ⟨ha, fun g => hbad (by omega), fun g => ⟨fun g2 => ?_, fun g2 => hbad (by omega)⟩⟩)
  obtain ⟨x, rfl⟩ := Int.eq_ofNat_of_zero_le (show 0 ≤ a by omega)
  refine c_isPrimitive hn hR (by omega) (by omega) ?_
  cases hx : gprim x with
  | false => exact ⟨by decide, fun g3 => absurd rfl g3, fun _ => hloose x rfl (by omega) (by omega) hx⟩
  | true =>
    have hm : x ∈ grims := by
      have h1 := List.all_eq_true.mp gprim_all x (List.mem_range.mpr (by omega))
      rw [hx] at h1
      have h8 : ¬ x < 8 := by omega
      simpa [h8] using h1
    refine ⟨by decide, fun _ => c_beginField hn hR hPV hm hz (fun M1 d1 d2 => ?_), fun g3 => absurd g3 (by decide)⟩
    have := hok x rfl hm M1 d1 d2
    rw [d1.1.2.1]
    exact this
theorem c_code {P : Int → xM → Prop} (hn : 78 ≤ nn) (hR : RC 78 R) (hPV : PVT) (hF : FI p M) (hz : Z0 M) {a b c : Int} (ha : xin a) (hb : xin b) (hc : xin c) (h0 : ¬ (0 ≤ a ∧ a ≤ 1 ∧ b ≤ 20 ∧ b < gq p ∧ 2 ≤ c ∧ c < b ∧ (gdeg p : Int) * c ≤ 12) → P 0 M) (h1 : ∀ kd n' k' : Nat, a = kd → b = n' → c = k' → okc p kd n' k' → ∀ M' : xM, DI p kd n' k' (fun _ => 0) (fun _ => 0) (fun _ => false) none [] M' → (∀ c, 78 ≤ c → M' c = M c) → P 1 M') : Ci m_D_code 5 nn R [vr 0, vi a, vi b, vi c] M P := by
  have hq := gq_b hF.1
  refine E_D_code hn hR (B_D_code_0 hn hR ?_)
  rw [hF.2.2.1, hF.2.1]
  refine ⟨ha, fun g => h0 (by omega), fun g1 => ⟨fun g => h0 (by omega), fun g2 => ⟨hb, fun g => h0 (by omega), fun g3 => ⟨by omega, fun g4 => ⟨hc, fun g => h0 (by omega), fun g5 => ⟨fun g => h0 (by omega), fun g6 => ?_⟩⟩, fun g => h0 (by omega)⟩⟩⟩⟩
  obtain ⟨kd, rfl⟩ := Int.eq_ofNat_of_zero_le (show 0 ≤ a by omega)
  obtain ⟨n', rfl⟩ := Int.eq_ofNat_of_zero_le (show 0 ≤ b by omega)
  obtain ⟨k', rfl⟩ := Int.eq_ofNat_of_zero_le (show 0 ≤ c by omega)
  have em : (gdeg p : Int) * (k' : Int) = ((gdeg p * k' : Nat) : Int) := by rw [Int.natCast_mul]
  have hle : gdeg p * k' ≤ 5 * 20 := Nat.mul_le_mul (by omega) (by omega)
  rw [em] at h0 ⊢
  refine ⟨by omega, fun g7 => ?_, fun g7 => h0 (by omega)⟩
  have hok : okc p kd n' k' := ⟨hF.1, by omega, by omega, by omega, by omega, by omega, by omega⟩
  exact c_beginCode hn hR hPV hF hz hok (fun M1 d1 d2 => h1 kd n' k' rfl rfl rfl hok M1 d1 d2)
theorem c_tell {P : Int → xM → Prop} (hn : 78 ≤ nn) (hR : RC 78 R) (hD : DI p kind n k msg w er fo ls M) {i v : Int} (hi : xin i) (hv : xin v) (h0 : ¬ (0 ≤ i ∧ i < k ∧ 0 ≤ v ∧ v < gq p) → P 0 M) (h1 : ∀ x y : Nat, i = x → v = y → x < k → y < gq p → ∀ M' : xM, DI p kind n k (fset msg x y) w er fo ls M' → (∀ c, 78 ≤ c → M' c = M c) → P 1 M') : Ci m_D_tell 1 nn R [vr 0, vi i, vi v] M P := by
  have k4 := hD.2.2.1.1.k4
  refine E_D_tell hn hR (B_D_tell_0 hn hR ?_)
  refine c_isInMessage hn hR hD.2.2.1 hi (fun a0 a1 => ⟨by decide, fun g => absurd g (by decide), fun _ => ?_⟩) (fun hx => ⟨by decide, fun _ => h0 (fun q => hx ⟨q.1, q.2.1⟩), fun g => absurd rfl g⟩)
  refine c_has hn hR hD.1 hv (fun b0 b1 => ⟨by decide, fun _ => ⟨by omega, fun M3 e3 => ?_⟩, fun g => absurd g (by decide)⟩) (fun hx => ⟨by decide, fun g => absurd rfl g, fun _ => h0 (fun q => hx q.2.2)⟩)
  obtain ⟨x, rfl⟩ := Int.eq_ofNat_of_zero_le a0
  obtain ⟨y, rfl⟩ := Int.eq_ofNat_of_zero_le b0
  rw [Int.toNat_natCast] at e3
  obtain ⟨d1, d2, d3, d4, d5, d6, d7, d8, d9, d10⟩ := hD
  have kp : ∀ c, c ≠ 25 → M3 c = M c := fun c hc => by rw [e3, xU_o hc]
  refine h1 x y rfl rfl (by omega) (by omega) M3 ⟨d1.keep (fun c h1 h2 => kp c (by omega)), fun a ha => by rw [kp 4 (by omega)]; exact d2 a ha, d3.keep (fun c h1 h2 => kp c (by omega)), fun j hj => ?_, d5.keep (fun c h1 h2 => kp c (by omega)), fun e => by rw [kp 32 (by omega)]; exact d6 e, fun t df e => by rw [kp 32 (by omega), kp 34 (by omega), kp 55 (by omega)]; exact d7 t df e, by rw [kp 36 (by omega)]; exact d8, d9, fun c x hx => by rw [kp (38 + c) (by omega), kp 54 (by omega)]; exact d10 c x hx⟩ (fun c hc => kp c (by omega))
  unfold fset
  by_cases hjx : j = x
  · rw [hjx, e3, xU_s, if_pos rfl]; exact ⟨rfl, by omega⟩
  · rw [e3, xU_n hjx, if_neg hjx]; exact d4 j hj
/-- a word that changes leaves the rest -/
theorem DI.word {w' : Nat → Nat} {er' : Nat → Bool} {M' : xM} (hD : DI p kind n k msg w er fo ls M) (hW : WI p n w' er' M') (hk : ∀ c, c < 26 ∨ 29 ≤ c → M' c = M c) : DI p kind n k msg w' er' fo ls M' := by
  obtain ⟨d1, d2, d3, d4, d5, d6, d7, d8, d9, d10⟩ := hD
  exact ⟨d1.keep (fun c h1 h2 => hk c (by omega)), fun a ha => by rw [hk 4 (by omega)]; exact d2 a ha, d3.keep (fun c h1 h2 => hk c (by omega)), fun j hj => by rw [hk 25 (by omega)]; exact d4 j hj, hW, fun e => by rw [hk 32 (by omega)]; exact d6 e, fun t df e => by rw [hk 32 (by omega), hk 34 (by omega), hk 55 (by omega)]; exact d7 t df e, by rw [hk 36 (by omega)]; exact d8, d9, fun c x hx => by rw [hk (38 + c) (by omega), hk 54 (by omega)]; exact d10 c x hx⟩
theorem c_receive {P : Int → xM → Prop} (hn : 78 ≤ nn) (hR : RC 78 R) (hD : DI p kind n k msg w er fo ls M) {i v : Int} (hi : xin i) (hv : xin v) (h0 : ¬ (0 ≤ i ∧ i < n ∧ 0 ≤ v ∧ v < gq p) → P 0 M) (h1 : ∀ x y : Nat, i = x → v = y → x < n → y < gq p → ∀ M' : xM, DI p kind n k msg (fset w x y) (fset er x false) fo ls M' → (∀ c, 78 ≤ c → M' c = M c) → P 1 M') : Ci m_D_receive 1 nn R [vr 0, vi i, vi v] M P := by
  refine E_D_receive hn hR (B_D_receive_0 hn hR ?_)
  refine c_isPlace hn hR hD.2.2.1 hi (fun a0 a1 => ⟨by decide, fun g => absurd g (by decide), fun _ => ?_⟩) (fun hx => ⟨by decide, fun _ => h0 (fun q => hx ⟨q.1, q.2.1⟩), fun g => absurd rfl g⟩)
  refine c_has hn hR hD.1 hv (fun b0 b1 => ⟨by decide, fun _ => ?_, fun g => absurd g (by decide)⟩) (fun hx => ⟨by decide, fun g => absurd rfl g, fun _ => h0 (fun q => hx q.2.2)⟩)
  obtain ⟨x, rfl⟩ := Int.eq_ofNat_of_zero_le a0
  obtain ⟨y, rfl⟩ := Int.eq_ofNat_of_zero_le b0
  exact c_put hn hR hD.2.2.2.2.1 hD.2.2.1.1.2.2.2.2.2.1 (by omega) (by omega) (fun M1 a1 a2 => h1 x y rfl rfl (by omega) (by omega) M1 (hD.word a1 a2) (fun c hc => a2 c (by omega)))
theorem c_erase {P : Int → xM → Prop} (hn : 78 ≤ nn) (hR : RC 78 R) (hD : DI p kind n k msg w er fo ls M) {i : Int} (hi : xin i) (h0 : ¬ (0 ≤ i ∧ i < n) → P 0 M) (h2 : ∀ x : Nat, i = x → x < n → er x = true → P 0 M) (h1 : ∀ x : Nat, i = x → x < n → er x = false → ∀ M' : xM, DI p kind n k msg w (fset er x true) fo ls M' → (∀ c, 78 ≤ c → M' c = M c) → P 1 M') : Ci m_D_erase 1 nn R [vr 0, vi i] M P := by
  have n20 := hD.2.2.1.1.2.2.2.2.2.1
  refine E_D_erase hn hR (B_D_erase_0 hn hR ?_)
  refine c_isPlace hn hR hD.2.2.1 hi (fun a0 a1 => ⟨by decide, fun g => absurd g (by decide), fun _ => ?_⟩) (fun hx => ⟨by decide, fun _ => h0 hx, fun g => absurd rfl g⟩)
  obtain ⟨x, rfl⟩ := Int.eq_ofNat_of_zero_le a0
  rw [Int.toNat_natCast, hD.2.2.2.2.1.2.1 x (by omega)]
  cases he : er x with
  | true => exact ⟨by omega, by decide, fun g => absurd g (by decide), fun _ => h2 x rfl (by omega) he⟩
  | false => exact ⟨by omega, by decide, fun _ => c_strike hn hR hD.2.2.2.2.1 n20 (by omega) he (fun M1 a1 a2 => h1 x rfl (by omega) he M1 (hD.word a1 a2) (fun c hc => a2 c (by omega))), fun g => absurd rfl g⟩
theorem c_word {P : Int → xM → Prop} (hn : 78 ≤ nn) (hR : RC 78 R) (hD : DI p kind n k msg w er fo ls M) {i : Int} (hi : xin i) (h0 : ¬ (0 ≤ i ∧ i < n) → P (-1) M) (h1 : ∀ x : Nat, i = x → x < n → P (if er x = true then -2 else (w x : Int)) M) : Ci m_D_word 1 nn R [vr 0, vi i] M P := by
  have n20 := hD.2.2.1.1.2.2.2.2.2.1
  refine E_D_word hn hR (B_D_word_0 hn hR ?_)
  refine c_isPlace hn hR hD.2.2.1 hi (fun a0 a1 => ⟨by decide, fun _ => ?_, fun g => absurd g (by decide)⟩) (fun hx => ⟨by decide, fun g => absurd rfl g, fun _ => h0 hx⟩)
  obtain ⟨x, rfl⟩ := Int.eq_ofNat_of_zero_le a0
  have := h1 x rfl (by omega)
  rw [Int.toNat_natCast, hD.2.2.2.2.1.2.1 x (by omega), (hD.2.2.2.2.1.1 x (by omega)).1]
  cases he : er x with
  | true => rw [he] at this; exact ⟨by omega, by decide, fun g => absurd g (by decide), fun _ => this⟩
  | false => rw [he] at this; exact ⟨by omega, by decide, fun _ => this, fun g => absurd rfl g⟩
def gsyn (p kind n : Nat) (w : Nat → Nat) (er : Nat → Bool) (j : Nat) : Nat → Nat
  | 0 => 0
  | i + 1 => if er i = true then gsyn p kind n w er j i else gsyn p kind n w er j i ^^^ gmul p (gmul p (gchk p kind n i) (w i)) (gpow p (gpw p i) j)
theorem gsyn_lt {j : Nat} (hp : p ∈ grims) (hn : n < gq p) (hw : ∀ i, i < n → w i < gq p) : ∀ i, i ≤ n → gsyn p kind n w er j i < gq p
  | 0, _ => by have := gq_b hp; show 0 < _; omega
  | i + 1, hi => by
    have ih := gsyn_lt (j := j) hp hn hw i (by omega)
    rw [gsyn]
    split
    · exact ih
    · exact (g_two hp ih (g_two hp (g_two hp (gchk_lt hp hn (by omega)) (hw i (by omega))).1 (gpow_lt hp (g_pw hp (by omega)).2.1 j)).1).2.2.2
theorem c_syndrome {P : Int → xM → Prop} (hn : 78 ≤ nn) (hR : RC 78 R) (hD : DI p kind n k msg w er fo ls M) {j : Int} (hj : xin j) (h0 : ¬ (0 ≤ j ∧ j < (n : Int) - k) → P (-1) M) (h1 : ∀ x : Nat, j = x → x < n - k → P (gsyn p kind n w er x n : Nat) M) : Ci m_D_syndrome 2 nn R [vr 0, vi j] M P := by
  obtain ⟨hF, -, hC, -, hW, -⟩ := hD
  obtain ⟨o1, o2, o3, o4, o5, o6, o7⟩ := hC.1
  have hq := gq_b o1
  refine E_D_syndrome hn hR (B_D_syndrome_0 hn hR ?_)
  rw [hC.2.2.1, hC.2.2.2.1]
  refine ⟨hj, fun g => h0 (by omega), fun g => ⟨by omega, fun g2 => ?_, fun g2 => h0 (by omega)⟩⟩
  obtain ⟨x, rfl⟩ := Int.eq_ofNat_of_zero_le (show 0 ≤ j by omega)
  have hP := h1 x rfl (by omega)
  refine upto (σ := Unit) (fun i _ => Xi m_D_syndrome 2 nn R P 29 [some (vr 0), some (vi x), some (vi (gsyn p kind n w er x i : Nat)), some (vi i), none] [] M) (fun _ _ => True) n (fun i _ hi _ ih => ?_) (fun _ _ => ?_) 0 () (by omega) trivial
  · have ih := ih () trivial
    rw [gsyn] at ih
    have hl := gsyn_lt (j := x) (er := er) (kind := kind) o1 o5 (fun i hi => (hW.1 i hi).2) i (by omega)
    have c1 := gchk_lt (kind := kind) o1 o5 hi
    have c2 := (g_two o1 c1 (hW.1 i hi).2).1
    have c3 := (g_pw o1 (show i < gq p - 1 by omega)).2.1
    have c4 := gpow_lt o1 c3 x
    have c5 := (g_two o1 c2 c4).1
    refine B_D_syndrome_29 hn hR ?_
    rw [hC.2.2.1, Int.toNat_natCast, hW.2.1 i hi, hC.2.2.2.2.2.2.1 i hi, (hW.1 i hi).1]
    refine ⟨by omega, by omega, fun g => absurd g (by omega), fun _ => ⟨by omega, by split <;> omega, fun g => ?_, fun g => ?_⟩⟩
    · have he : er i = true := by
        cases h0 : er i with
        | true => rfl
        | false => rw [h0] at g; exact absurd rfl g
      rw [if_pos he] at ih
      exact ih
    · have he : er i = false := by
        cases h0 : er i with
        | false => rfl
        | true => rw [h0] at g; exact absurd g (by decide)
      rw [if_neg (by rw [he]; decide)] at ih
      refine c_product hn hR hF c1 (hW.1 i hi).2 ?_
      rw [hC.2.2.2.2.1 i hi]
      refine c_power hn hR hF c3 (by omega) (c_product hn hR hF c2 c4 ?_)
      rw [xXor_n (by omega) (by omega)]
      exact ih
  · refine B_D_syndrome_29 hn hR ?_
    rw [hC.2.2.1]
    exact ⟨by omega, by omega, fun _ => hP, fun g => absurd (Int.le_refl _) g⟩
end DB
