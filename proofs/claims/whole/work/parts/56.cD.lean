/-! contracts: RadiusDecoder itself -/
def PVT : Prop := ∀ p kind n k, okc p kind n k → pvt p kind n k
theorem gld_lt {p kind n k : Nat} (hPV : PVT) (hc : okc p kind n k) : ∀ r c, r < k → c < n + k → gld p kind n k r c < gq p := by
  obtain ⟨o1, o2, o3, o4, o5, o6, o7⟩ := id hc
  exact gga_lt o1 (by omega) (fun r c _ _ => gpl_lt o1 o5 (by omega) o4 r c) k (Nat.le_refl _) (hPV _ _ _ _ hc).1
theorem gtr_lt {p kind n k : Nat} (hPV : PVT) (hc : okc p kind n k) : ∀ r c, r < k → c < n + k → gtr p kind n k r c < gq p := by
  obtain ⟨o1, o2, o3, o4, o5, o6, o7⟩ := id hc
  exact gga_lt o1 (by omega) (fun r c _ _ => gpl_lt o1 o5 (by omega) o4 r c) k (Nat.le_refl _) (hPV _ _ _ _ hc).2
/-- the polynomial that locates the places of df -/
def gloc (p : Nat) (df : Nat → Bool) : Nat → Nat → Nat
  | 0, i => if i = 0 then 1 else 0
  | q + 1, i => if df q = true then (if i = 0 then gloc p df q 0 else gloc p df q i ^^^ gmul p (gpw p q) (gloc p df q (i - 1))) else gloc p df q i
theorem gloc_lt {p : Nat} {df : Nat → Bool} (hp : p ∈ grims) : ∀ q, q ≤ gq p - 1 → ∀ i, gloc p df q i < gq p
  | 0, _, i => by
    have := gq_b hp
    rw [gloc]
    split <;> omega
  | q + 1, hq, i => by
    have ih := gloc_lt (df := df) hp q (by omega)
    rw [gloc]
    split
    · split
      · exact ih 0
      · exact (g_two hp (ih i) (g_two hp (g_pw hp (by omega)).2.1 (ih (i - 1))).1).2.2.2
    · exact ih i
/-- what the object holds: the field, the code, the message, the word; fo: what is decoded, and the places then wrong; ls: the list -/
def DI (p kind n k : Nat) (msg w : Nat → Nat) (er : Nat → Bool) (fo : Option (Nat × (Nat → Bool))) (ls : List (Nat × Nat)) (M : xM) : Prop :=
  FI p M ∧ Z0 M ∧ CI p kind n k M ∧ (∀ i, i < k → M 25 i = msg i ∧ msg i < gq p) ∧ WI p n w er M ∧
  (fo = none → M 32 1 = 0) ∧ (∀ t df, fo = some (t, df) → M 32 1 = 1 ∧ (∀ i, i < n → M 34 i = (gcw p kind n k t i : Nat)) ∧ ∀ i, i < 20 → M 55 i = (gloc p df n i : Nat)) ∧
  (M 36 1 = (ls.length : Nat) ∧ ls.length ≤ 16 ∧ ∀ c x, ls[c]? = some x → (∀ i, i < n → M (38 + c) i = (gcw p kind n k x.1 i : Nat)) ∧ M 54 c = (x.2 : Nat))
theorem DI.keep {p kind n k : Nat} {msg w : Nat → Nat} {er : Nat → Bool} {fo : Option (Nat × (Nat → Bool))} {ls : List (Nat × Nat)} {M M' : xM} (h : DI p kind n k msg w er fo ls M) (hk : ∀ c, c < 56 → c ≠ 29 → c ≠ 30 → c ≠ 31 → M' c = M c) : DI p kind n k msg w er fo ls M' := by
  obtain ⟨h1, h2, h3, h4, h5, h6, h7, h8, h9, h10⟩ := h
  refine ⟨h1.keep (fun c a b => hk c (by omega) (by omega) (by omega) (by omega)), fun a ha => by rw [hk 4 (by omega) (by omega) (by omega) (by omega)]; exact h2 a ha, h3.keep (fun c a b => hk c (by omega) (by omega) (by omega) (by omega)), fun i hi => by rw [hk 25 (by omega) (by omega) (by omega) (by omega)]; exact h4 i hi, h5.keep (fun c a b => hk c (by omega) (by omega) (by omega) (by omega)), fun e => by rw [hk 32 (by omega) (by omega) (by omega) (by omega)]; exact h6 e, fun t df e => ?_, by rw [hk 36 (by omega) (by omega) (by omega) (by omega)]; exact h8, h9, fun c x hx => ?_⟩
  · rw [hk 32 (by omega) (by omega) (by omega) (by omega), hk 34 (by omega) (by omega) (by omega) (by omega), hk 55 (by omega) (by omega) (by omega) (by omega)]
    exact h7 t df e
  · have hc := (List.getElem?_eq_some_iff.mp hx).1
    rw [hk (38 + c) (by omega) (by omega) (by omega) (by omega), hk 54 (by omega) (by omega) (by omega) (by omega)]
    exact h10 c x hx
section DC
variable {nn : Nat} {R : xR} {M : xM} {p kind n k : Nat} {msg w : Nat → Nat} {er : Nat → Bool} {fo : Option (Nat × (Nat → Bool))} {ls : List (Nat × Nat)}
theorem c_isPlace {P : Int → xM → Prop} (hn : 78 ≤ nn) (hR : RC 78 R) (hC : CI p kind n k M) {i : Int} (hi : xin i) (h1 : 0 ≤ i → i < n → P 1 M) (h0 : ¬ (0 ≤ i ∧ i < n) → P 0 M) : Ci m_D_isPlace 0 nn R [vr 0, vi i] M P := by
  have := hC.1.2.2.2.2.2.1
  refine E_D_isPlace hn hR (B_D_isPlace_0 hn hR ?_)
  rw [hC.2.2.1]
  exact ⟨hi, fun g => h0 (by omega), fun g => ⟨by omega, fun g2 => h0 (by omega), fun g2 => h1 (by omega) (by omega)⟩⟩
theorem c_isInMessage {P : Int → xM → Prop} (hn : 78 ≤ nn) (hR : RC 78 R) (hC : CI p kind n k M) {i : Int} (hi : xin i) (h1 : 0 ≤ i → i < k → P 1 M) (h0 : ¬ (0 ≤ i ∧ i < k) → P 0 M) : Ci m_D_isInMessage 0 nn R [vr 0, vi i] M P := by
  have := hC.1.k4
  refine E_D_isInMessage hn hR (B_D_isInMessage_0 hn hR ?_)
  rw [hC.2.2.2.1]
  exact ⟨hi, fun g => h0 (by omega), fun g => ⟨by omega, fun g2 => h0 (by omega), fun g2 => h1 (by omega) (by omega)⟩⟩
theorem c_isTimes {P : Int → xM → Prop} (hn : 78 ≤ nn) (hR : RC 78 R) {s : Int} (hs : xin s) (h1 : 1 ≤ s → s ≤ 3 → P 1 M) (h0 : ¬ (1 ≤ s ∧ s ≤ 3) → P 0 M) : Ci m_D_isTimes 0 nn R [vi s] M P := by
  refine E_D_isTimes hn hR (B_D_isTimes_0 hn hR ⟨hs, fun g => h0 (by omega), fun g => ⟨fun g2 => h0 (by omega), fun g2 => h1 (by omega) (by omega)⟩⟩)
theorem c_isErased {P : Int → xM → Prop} (hn : 78 ≤ nn) (hR : RC 78 R) (hC : CI p kind n k M) (hW : WI p n w er M) (h1 : gopen er n < k → P 1 M) (h0 : k ≤ gopen er n → P 0 M) : Ci m_D_isErasedTooMuch 0 nn R [vr 0] M P := by
  have := hC.1.k4
  have := hC.1.2.2.2.2.2.1
  have := gopen_le er n
  refine E_D_isErasedTooMuch hn hR (B_D_isErasedTooMuch_0 hn hR ?_)
  rw [hC.2.2.2.1, hW.2.2]
  exact ⟨by omega, by omega, fun g => h0 (by omega), fun g => h1 (by omega)⟩
theorem c_half {P : Int → xM → Prop} (hn : 78 ≤ nn) (hR : RC 78 R) (hC : CI p kind n k M) (hW : WI p n w er M) (hk : k ≤ gopen er n) (h : P ((gopen er n - k) / 2 : Nat) M) : Ci m_D_half 0 nn R [vr 0] M P := by
  have := hC.1.k4
  have := hC.1.2.2.2.2.2.1
  have := gopen_le er n
  refine E_D_half hn hR (B_D_half_0 hn hR ?_)
  rw [hC.2.2.2.1, hW.2.2, show (gopen er n : Int) - (k : Int) = ((gopen er n - k : Nat) : Int) by omega]
  exact ⟨by omega, h⟩
def gprs (k1 : Nat) : Nat → Nat
  | 0 => 0
  | w + 1 => gprs k1 w + (w / k1 + 1)
def gbdF (cond k1 : Nat) : Nat → Nat → Nat
  | 0, w => w
  | f + 1, w => if cond < gprs k1 (w + 1) then w else gbdF cond k1 f (w + 1)
def gbd (cond k1 : Nat) : Nat := gbdF cond k1 cond 0
theorem gbdF_le (cond k1 : Nat) : ∀ f w, gbdF cond k1 f w ≤ w + f
  | 0, w => Nat.le_refl _
  | f + 1, w => by
    rw [gbdF]
    split
    · omega
    · have := gbdF_le cond k1 f (w + 1)
      omega
theorem kblk_op : ∀ s, s < 4 → ∀ op, op * s * (s + 1) / 2 = op * kblk s := by
  intro s hs op
  have h : s = 0 ∨ s = 1 ∨ s = 2 ∨ s = 3 := by omega
  rcases h with rfl | rfl | rfl | rfl
  · rw [Nat.mul_zero, Nat.zero_mul]; exact (Nat.mul_zero op).symm
  · show op * 1 * 2 / 2 = op * 1; omega
  · show op * 2 * 3 / 2 = op * 3; omega
  · show op * 3 * 4 / 2 = op * 6; omega
theorem c_boundFor {P : Int → xM → Prop} (hn : 78 ≤ nn) (hR : RC 78 R) (hC : CI p kind n k M) (hW : WI p n w er M) {s : Nat} (hs1 : 1 ≤ s) (hs3 : s ≤ 3) (h : P (gbd (gopen er n * kblk s) (k - 1) : Nat) M) : Ci m_D_boundFor 0 nn R [vr 0, vi s] M P := by
  have k4 := hC.1.k4
  have k2 := hC.1.2.2.1
  have n20 := hC.1.2.2.2.2.2.1
  have hop := gopen_le er n
  obtain ⟨-, kb6, kb1, -⟩ := kof_end s (by omega) hs1
  have hc : gopen er n * kblk s ≤ 120 := by
    have h1 : gopen er n * kblk s ≤ 20 * kblk s := Nat.mul_le_mul_right _ (by omega)
    omega
  refine E_D_boundFor hn hR (B_D_boundFor_0 hn hR ?_)
  have e1 : (M 26 0 * (s : Int)) * ((s : Int) + 1) = ((gopen er n * s * (s + 1) : Nat) : Int) := by
    rw [hW.2.2, Int.natCast_mul, Int.natCast_mul]
    rfl
  have e2 : Int.tdiv ((gopen er n * s * (s + 1) : Nat) : Int) 2 = ((gopen er n * kblk s : Nat) : Int) := by
    rw [← kblk_op s (by omega)]
    rfl
  have e3 : gopen er n * s * (s + 1) ≤ 240 := by
    have h1 : gopen er n * s ≤ 20 * 3 := Nat.mul_le_mul (by omega) hs3
    have h2 : gopen er n * s * (s + 1) ≤ 60 * 4 := Nat.mul_le_mul h1 (by omega)
    omega
  rw [e1, e2]
  refine ⟨by omega, ?_⟩
  unfold gbd at h
  generalize gopen er n * kblk s = cond at h hc
  have key : ∀ (f v : Nat), v + f = cond → gprs (k - 1) v ≤ cond → P (gbdF cond (k - 1) f v : Nat) M → Xi m_D_boundFor 0 nn R P 21 [some (vr 0), some (vi s), some (vi cond), some (vi (gprs (k - 1) v : Nat)), some (vi v)] [] M := by
    intro f
    induction f with
    | zero =>
      intro v hv hg hP
      rw [Nat.add_zero] at hv
      subst hv
      exact B_D_boundFor_21 hn hR ⟨by omega, by omega, fun _ => hP, fun g => absurd (Int.le_refl _) g⟩
    | succ f ih =>
      intro v hv hg hP
      refine B_D_boundFor_21 hn hR ?_
      have e4 : Int.tdiv (v : Int) ((k : Int) - 1) = ((v / (k - 1) : Nat) : Int) := by rw [show (k : Int) - 1 = ((k - 1 : Nat) : Int) by omega]; rfl
      have e5 := Nat.div_le_self v (k - 1)
      rw [gbdF, gprs] at hP
      have ih' := ih (v + 1)
      rw [gprs] at ih'
      generalize v / (k - 1) = vd at e4 e5 hP ih'
      rw [hC.2.2.2.1, e4]
      refine ⟨by omega, by omega, fun g => absurd g (by omega), fun _ => ⟨by omega, by omega, by omega, by omega, fun g => ?_, fun g => ?_⟩⟩
      · rw [if_neg (by omega)] at hP
        exact ih' (by omega) (by omega) hP
      · rw [if_pos (by omega)] at hP
        exact hP
  exact key cond 0 (by omega) (Nat.zero_le _) h
def grad (op k s : Nat) : Nat := if (op - k) / 2 < op - 1 - gbd (op * kblk s) (k - 1) / s then op - 1 - gbd (op * kblk s) (k - 1) / s else (op - k) / 2
theorem c_radiusFor {P : Int → xM → Prop} (hn : 78 ≤ nn) (hR : RC 78 R) (hC : CI p kind n k M) (hW : WI p n w er M) (hk : k ≤ gopen er n) {s : Nat} (hs1 : 1 ≤ s) (hs3 : s ≤ 3) (h : P (grad (gopen er n) k s : Nat) M) : Ci m_D_radiusFor 1 nn R [vr 0, vi s] M P := by
  have k4 := hC.1.k4
  have k2 := hC.1.2.2.1
  have n20 := hC.1.2.2.2.2.2.1
  have hop := gopen_le er n
  obtain ⟨-, kb6, kb1, -⟩ := kof_end s (by omega) hs1
  have hc : gopen er n * kblk s ≤ 120 := by
    have h1 : gopen er n * kblk s ≤ 20 * kblk s := Nat.mul_le_mul_right _ (by omega)
    omega
  refine E_D_radiusFor hn hR (B_D_radiusFor_0 hn hR ?_)
  refine c_half hn hR hC hW hk ?_
  refine c_boundFor hn hR hC hW hs1 hs3 ?_
  have hb := gbdF_le (gopen er n * kblk s) (k - 1) (gopen er n * kblk s) 0
  unfold grad at h
  have hb2 : gbd (gopen er n * kblk s) (k - 1) ≤ 120 := by unfold gbd; omega
  generalize gbd (gopen er n * kblk s) (k - 1) = b at h hb2
  have e4 : Int.tdiv (b : Int) (s : Int) = ((b / s : Nat) : Int) := rfl
  have e5 := Nat.div_le_self b s
  rw [e4, hW.2.2]
  generalize b / s = bs at h e5
  refine ⟨by omega, by omega, by omega, by omega, by omega, by omega, ?_⟩
  by_cases hh : (gopen er n - k) / 2 < gopen er n - 1 - bs
  · rw [if_pos hh] at h
    rw [if_pos (by omega), show (gopen er n : Int) - 1 - (bs : Int) = ((gopen er n - 1 - bs : Nat) : Int) by omega]
    exact h
  · rw [if_neg hh] at h
    rw [if_neg (by omega)]
    exact h
theorem c_times {P : Int → xM → Prop} (hn : 78 ≤ nn) (hR : RC 78 R) (hF : FI p M) {a b : Int} (ha : xin a) (hb : xin b) (h1 : ∀ x y : Nat, a = x → b = y → x < gq p → y < gq p → P (gmul p x y : Nat) M) (h0 : ¬ (0 ≤ a ∧ a < gq p ∧ 0 ≤ b ∧ b < gq p) → P (-1) M) : Ci m_D_times 1 nn R [vr 0, vi a, vi b] M P := by
  refine E_D_times hn hR (B_D_times_0 hn hR ?_)
  refine c_has hn hR hF ha (fun a0 a1 => ⟨by decide, fun g => absurd g (by decide), fun _ => ?_⟩) (fun hx => ⟨by decide, fun _ => h0 (fun q => hx ⟨q.1, q.2.1⟩), fun g => absurd rfl g⟩)
  refine c_has hn hR hF hb (fun b0 b1 => ⟨by decide, fun g => absurd g (by decide), fun _ => ?_⟩) (fun hx => ⟨by decide, fun _ => h0 (fun q => hx q.2.2), fun g => absurd rfl g⟩)
  obtain ⟨x, rfl⟩ := Int.eq_ofNat_of_zero_le a0
  obtain ⟨y, rfl⟩ := Int.eq_ofNat_of_zero_le b0
  exact c_product hn hR hF (by omega) (by omega) (h1 x y rfl rfl (by omega) (by omega))
theorem c_over {P : Int → xM → Prop} (hn : 78 ≤ nn) (hR : RC 78 R) (hF : FI p M) {a b : Int} (ha : xin a) (hb : xin b) (h1 : ∀ x y : Nat, a = x → b = y → x < gq p → y < gq p → y ≠ 0 → P (gdiv p x y : Nat) M) (h2 : 0 ≤ a → a < gq p → b = 0 → P (-2) M) (h0 : ¬ (0 ≤ a ∧ a < gq p ∧ 0 ≤ b ∧ b < gq p) → P (-1) M) : Ci m_D_over 1 nn R [vr 0, vi a, vi b] M P := by
  refine E_D_over hn hR (B_D_over_0 hn hR ?_)
  refine c_has hn hR hF ha (fun a0 a1 => ⟨by decide, fun g => absurd g (by decide), fun _ => ?_⟩) (fun hx => ⟨by decide, fun _ => h0 (fun q => hx ⟨q.1, q.2.1⟩), fun g => absurd rfl g⟩)
  refine c_has hn hR hF hb (fun b0 b1 => ⟨by decide, fun _ => ⟨hb, fun g => ?_, fun g => h2 a0 a1 g⟩, fun g => absurd g (by decide)⟩) (fun hx => ⟨by decide, fun g => absurd rfl g, fun _ => h0 (fun q => hx q.2.2)⟩)
  obtain ⟨x, rfl⟩ := Int.eq_ofNat_of_zero_le a0
  obtain ⟨y, rfl⟩ := Int.eq_ofNat_of_zero_le b0
  exact c_quotient hn hR hF (by omega) (by omega) (by omega) (h1 x y rfl rfl (by omega) (by omega) (by omega))
theorem c_log {P : Int → xM → Prop} (hn : 78 ≤ nn) (hR : RC 78 R) (hF : FI p M) {a : Int} (ha : xin a) (h1 : ∀ x : Nat, a = x → x < gq p → x ≠ 0 → P (glog p x : Nat) M) (h2 : a = 0 → P (-2) M) (h0 : ¬ (0 ≤ a ∧ a < gq p) → P (-1) M) : Ci m_D_log 1 nn R [vr 0, vi a] M P := by
  have hq := gq_b hF.1
  refine E_D_log hn hR (B_D_log_0 hn hR ?_)
  refine c_has hn hR hF ha (fun a0 a1 => ⟨by decide, fun _ => ⟨ha, fun g => ?_, fun g => h2 g⟩, fun g => absurd g (by decide)⟩) (fun hx => ⟨by decide, fun g => absurd rfl g, fun _ => h0 hx⟩)
  obtain ⟨x, rfl⟩ := Int.eq_ofNat_of_zero_le a0
  rw [Int.toNat_natCast, hF.2.2.2.2.1 x (by omega) (by omega)]
  exact ⟨by omega, h1 x rfl (by omega) (by omega)⟩
end DC
