/-! contracts: RadiusDecoder.Passing -/
def opl (er : Nat → Bool) (n : Nat) : List Nat := (List.range n).filter (fun i => !er i)
theorem opl_s (er : Nat → Bool) (n : Nat) : opl er (n + 1) = opl er n ++ (if er n = true then [] else [n]) := by
  unfold opl
  rw [List.range_succ, List.filter_append]
  congr 1
  cases h : er n <;> simp [h]
theorem opl_len (er : Nat → Bool) : ∀ n, (opl er n).length = gopen er n
  | 0 => rfl
  | n + 1 => by
    rw [opl_s, List.length_append, opl_len er n, gopen]
    cases er n <;> simp
theorem opl_lt {er : Nat → Bool} {n o t : Nat} (h : (opl er n)[o]? = some t) : t < n ∧ er t = false ∧ o < gopen er n := by
  have h1 : t ∈ opl er n := List.mem_of_getElem? h
  unfold opl at h1
  rw [List.mem_filter, List.mem_range] at h1
  refine ⟨h1.1, by simpa using h1.2, ?_⟩
  rw [← opl_len]
  exact (List.getElem?_eq_some_iff.mp h).1
theorem gstr_ok {p kind n i : Nat} (hp : p ∈ grims) (hn : n < gq p) (hi : i < n) : gstr p kind n i < gq p ∧ gstr p kind n i ≠ 0 := by
  have hq := gq_b hp
  unfold gstr
  split
  · exact ⟨by omega, by decide⟩
  · obtain ⟨a1, a2⟩ := gapt_ok (i := i) hp (by omega) (show n ≤ gq p - 1 by omega) n (Nat.le_refl _)
    have b1 := g_pw hp (show i < gq p - 1 by omega)
    have c1 := (g_mullog hp b1.2.1 a1 (by omega) a2).2
    have c2 := (g_two hp b1.2.1 a1).1
    refine ⟨g_div_lt hp (by omega) c2 (by omega), fun q => ?_⟩
    have := g_divmul (a := 1) hp (by omega) c2 (by omega)
    rw [q, (g_one hp c2).2.1] at this
    omega
def gyv (p kind n : Nat) (w : Nat → Nat) (t : Nat) : Nat := gdiv p (w t) (gstr p kind n t)
theorem c_setPlaces {nn : Nat} {R : xR} {M : xM} {P : xM → Prop} (hn : 78 ≤ nn) (hR : RC 78 R) {p kind n k : Nat} {w : Nat → Nat} {er : Nat → Bool} (hF : FI p M) (hC : CI p kind n k M) (hW : WI p n w er M)
    (h : ∀ M' : xM, (∀ c, c ≠ 56 → c ≠ 57 → c ≠ 58 → M' c = M c) → M' 56 3 = (gopen er n : Nat) → (∀ o t, (opl er n)[o]? = some t → M' 57 o = gpw p t ∧ M' 58 o = (gyv p kind n w t : Nat)) → P M') : Cv m_P_setPlaces 1 nn R [vr 56] M P := by
  obtain ⟨o1, o2, o3, o4, o5, o6, o7⟩ := hC.1
  have hq := gq_b o1
  refine E_P_setPlaces hn hR (B_P_setPlaces_0 hn hR ?_)
  intro M1 e1
  refine upto (σ := xM) (fun i M2 => Xv m_P_setPlaces 1 nn R P 7 [some (vr 56), some (vi i)] [] M2) (fun i M2 => (∀ c, c ≠ 56 → c ≠ 57 → c ≠ 58 → M2 c = M c) ∧ M2 56 3 = ((opl er i).length : Nat) ∧ ∀ o t, (opl er i)[o]? = some t → M2 57 o = gpw p t ∧ M2 58 o = (gyv p kind n w t : Nat)) n (fun i M2 hi hI ih => ?_) (fun M2 hI => ?_) 0 M1 (by omega) ⟨fun c h1 _ _ => by rw [e1, xU_o h1], by rw [e1, xU_s]; rfl, fun o t h1 => by simp [opl] at h1⟩
  · obtain ⟨b1, b2, b3⟩ := hI
    have hF2 : FI p M2 := hF.keep (fun c h1 h2 => b1 c (by omega) (by omega) (by omega))
    have hC2 : CI p kind n k M2 := hC.keep (fun c h1 h2 => b1 c (by omega) (by omega) (by omega))
    have hW2 : WI p n w er M2 := hW.keep (fun c h1 h2 => b1 c (by omega) (by omega) (by omega))
    have hlen : (opl er i).length ≤ i := by rw [opl_len]; exact gopen_le er i
    refine B_P_setPlaces_7 hn hR ?_
    rw [hC2.2.2.1, Int.toNat_natCast, hW2.2.1 i hi, b2, Int.toNat_natCast]
    refine ⟨by omega, by omega, fun g => absurd g (by omega), fun _ => ⟨by omega, by split <;> omega, fun g => ?_, fun g => ⟨by omega, fun M3 e3 => ?_⟩⟩⟩
    · have he : er i = true := by
        cases h0 : er i with
        | true => rfl
        | false => rw [h0] at g; exact absurd rfl g
      refine ih M2 ⟨b1, ?_, ?_⟩
      · rw [opl_s, if_pos he, List.append_nil]; exact b2
      · rw [opl_s, if_pos he, List.append_nil]; exact b3
    · have he : er i = false := by
        cases h0 : er i with
        | false => rfl
        | true => rw [h0] at g; exact absurd g (by decide)
      obtain ⟨s1, s2⟩ := gstr_ok (kind := kind) o1 o5 hi
      have hF3 : FI p M3 := hF2.keep (fun c h1 h2 => by rw [e3, xU_o (by omega)])
      have w1 : M3 27 i = w i := by rw [e3, xU_o (by decide)]; exact (hW2.1 i hi).1
      have w2 : M3 7 i = (gstr p kind n i : Nat) := by rw [e3, xU_o (by decide)]; exact hC2.2.2.2.2.2.1 i hi
      have w3 : M3 56 3 = ((opl er i).length : Nat) := by rw [e3, xU_o (by decide)]; exact b2
      rw [w1, w2, w3]
      refine c_quotient hn hR hF3 (hW2.1 i hi).2 s1 s2 ?_
      rw [Int.toNat_natCast]
      refine ⟨by omega, fun M4 e4 M5 e5 => ih M5 ⟨fun c h1 h2 h3 => by rw [e5, xU_o h1, e4, xU_o h3, e3, xU_o h2]; exact b1 c h1 h2 h3, ?_, fun o t h1 => ?_⟩⟩
      · rw [e5, xU_s, e4, xU_o (by decide), w3, opl_s, he]
        simp
      · rw [opl_s, he, if_neg (by decide)] at h1
        by_cases ho : o < (opl er i).length
        · rw [List.getElem?_append_left ho] at h1
          rw [e5, xU_o (by decide), xU_o (by decide), e4, xU_o (by decide), xU_n (by omega), e3, xU_n (by omega), xU_o (by decide)]
          exact b3 o t h1
        · rw [List.getElem?_append_right (by omega)] at h1
          have ho2 : o = (opl er i).length := by
            have := (List.getElem?_eq_some_iff.mp h1).1
            simp only [List.length_cons, List.length_nil] at this
            omega
          rw [ho2, Nat.sub_self] at h1
          have ht : i = t := by simpa using h1
          rw [← ht, ho2, e5, xU_o (by decide), xU_o (by decide), e4, xU_o (by decide), xU_s, e3, xU_s]
          exact ⟨hC2.2.2.2.2.1 i hi, rfl⟩
  · obtain ⟨b1, b2, b3⟩ := hI
    have hC2 : CI p kind n k M2 := hC.keep (fun c h1 h2 => b1 c (by omega) (by omega) (by omega))
    refine B_P_setPlaces_7 hn hR ?_
    rw [hC2.2.2.1]
    rw [opl_len] at b2
    exact ⟨by omega, by omega, fun _ => h M2 b1 b2 b3, fun g => absurd (Int.le_refl _) g⟩
/-! the conditions of a place: v outermost, u inside -/
def kof (s v u : Nat) : Nat := v * s - v * (v - 1) / 2 + u
def kblk (s : Nat) : Nat := s * (s + 1) / 2
def kv (s c : Nat) : Nat := if c < s then 0 else if c < 2 * s - 1 then 1 else 2
def ku (s c : Nat) : Nat := c - kof s (kv s c) 0
theorem kof_ok : ∀ s, s < 4 → ∀ v, v < s → (∀ u, u < s - v → kof s v u < kblk s ∧ kv s (kof s v u) = v ∧ ku s (kof s v u) = u ∧ kof s v (u + 1) = kof s v u + 1) ∧ kof s (v + 1) 0 = kof s v (s - v) := by decide
theorem kof_end : ∀ s, s < 4 → 1 ≤ s → kof s s 0 = kblk s ∧ kblk s ≤ 6 ∧ 1 ≤ kblk s ∧ kof s 0 0 = 0 := by decide
theorem kvu_ok : ∀ s, s < 4 → ∀ c, c < kblk s → kv s c < s ∧ ku s c < s - kv s c ∧ kof s (kv s c) (ku s c) = c ∧ (ku s c ≠ 0 → c ≠ 0 ∧ kv s (c - 1) = kv s c ∧ ku s (c - 1) = ku s c - 1) := by decide
def kbit (v j : Nat) : Bool := v &&& j == v
theorem kbit_ok : ∀ v : Nat, v < 3 → ∀ j : Nat, j < 16 → -2147483648 ≤ xAnd (v : Int) (xXor (j : Int) (-1)) ∧ xAnd (v : Int) (xXor (j : Int) (-1)) < 2147483648 ∧ ((xAnd (v : Int) (xXor (j : Int) (-1)) = 0) ↔ kbit v j = true) ∧ (kbit v j = true → v ≤ j) := by decide
def kval (p y j s c : Nat) : Nat := if ku s c = 0 ∧ kbit (kv s c) j = true then gpow p y (j - kv s c) else 0
theorem c_setValues {nn : Nat} {R : xR} {M : xM} {P : xM → Prop} (hn : 78 ≤ nn) (hR : RC 78 R) {p j o s y : Nat} (hF : FI p M) (hs1 : 1 ≤ s) (hs3 : s ≤ 3) (hj : j < 16) (ho : o < 20) (hbl : M 56 4 = (kblk s : Nat)) (hy : M 58 o = y) (hyl : y < gq p)
    (h : ∀ M' : xM, (∀ c, c ≠ 59 → c ≠ 62 + j → M' c = M c) → (∀ t, t < o * kblk s ∨ o * kblk s + kblk s ≤ t → M' 59 t = M 59 t ∧ M' (62 + j) t = M (62 + j) t) → (∀ c, c < kblk s → M' 59 (o * kblk s + c) = (if ku s c = 0 then 1 else 0) ∧ M' (62 + j) (o * kblk s + c) = (kval p y j s c : Nat)) → P M') : Cv m_P_setValues 2 nn R [vr 56, vi j, vi o, vi s] M P := by
  obtain ⟨k1, k2, k3, k4⟩ := kof_end s (by omega) hs1
  have hob : o * kblk s + kblk s ≤ 120 := by
    have : o * kblk s ≤ 19 * kblk s := Nat.mul_le_mul_right _ (by omega)
    omega
  refine E_P_setValues hn hR (B_P_setValues_0 hn hR ?_)
  rw [hbl, show (o : Int) * ((kblk s : Nat) : Int) = ((o * kblk s : Nat) : Int) by rw [Int.natCast_mul]]
  generalize hB : o * kblk s = B at h hob
  -- what holds when the first c conditions are laid
  let I : Nat → xM → Prop := fun c M1 => (∀ d, d ≠ 59 → d ≠ 62 + j → M1 d = M d) ∧ (∀ t, t < B ∨ B + c ≤ t → M1 59 t = M 59 t ∧ M1 (62 + j) t = M (62 + j) t) ∧ ∀ d, d < c → M1 59 (B + d) = (if ku s d = 0 then 1 else 0) ∧ M1 (62 + j) (B + d) = (kval p y j s d : Nat)
  have nxt : ∀ (c : Nat) (M1 M2 M3 : xM) (a b : Int), I c M1 → a = (kval p y j s c : Nat) → b = (if ku s c = 0 then 1 else 0) → M2 = xU M1 (62 + j) (B + c) a → M3 = xU M2 59 (B + c) b → I (c + 1) M3 := by
    intro c M1 M2 M3 a b hI ha hb e2 e3
    obtain ⟨i1, i2, i3⟩ := hI
    refine ⟨fun d h1 h2 => by rw [e3, xU_o h1, e2, xU_o h2]; exact i1 d h1 h2, fun t ht => ?_, fun d hd => ?_⟩
    · rw [e3, xU_n (by omega), xU_o (by omega), e2, xU_o (by omega), xU_n (by omega)]
      exact i2 t (by omega)
    · by_cases hdc : d = c
      · rw [hdc, e3, xU_s, xU_o (by omega), e2, xU_s]
        exact ⟨hb, ha⟩
      · rw [e3, xU_n (by omega), xU_o (by omega), e2, xU_o (by omega), xU_n (by omega)]
        exact i3 d (by omega)
  have key := upto (σ := xM) (fun v M1 => Xv m_P_setValues 2 nn R P 11 [some (vr 56), some (vi j), some (vi o), some (vi s), some (vi (B + kof s v 0 : Nat)), some (vi v), none, none] [] M1) (fun v M1 => I (kof s v 0) M1) s (fun v M1 hv hI ih => ?_) (fun M1 hI => ?_) 0 M (by omega) (by rw [k4]; exact ⟨fun _ _ _ => rfl, fun _ _ => ⟨rfl, rfl⟩, fun d hd => by omega⟩)
  · rw [k4, Nat.add_zero] at key
    exact key
  · obtain ⟨q1, q2⟩ := kof_ok s (by omega) v hv
    refine B_P_setValues_11 hn hR ⟨by omega, by omega, fun g => absurd g (by omega), fun _ => ?_⟩
    refine upto (σ := xM) (fun u M2 => Xv m_P_setValues 2 nn R P 20 [some (vr 56), some (vi j), some (vi o), some (vi s), some (vi (B + kof s v u : Nat)), some (vi v), some (vi u), none] [] M2) (fun u M2 => I (kof s v u) M2) (s - v) (fun u M2 hu hJ jh => ?_) (fun M2 hJ => ?_) 0 M1 (by omega) hI
    · obtain ⟨r1, r2, r3, r4⟩ := q1 u hu
      obtain ⟨t1, t2, t3, t4⟩ := kbit_ok v (by omega) j hj
      rw [r4] at jh
      have hF2 : FI p M2 := hF.keep (fun c h1 h2 => hJ.1 c (by omega) (by omega))
      have hk : kval p y j s (kof s v u) = if u = 0 ∧ kbit v j = true then gpow p y (j - v) else 0 := by unfold kval; rw [r2, r3]
      refine B_P_setValues_20 hn hR ?_
      rw [Int.toNat_natCast, Int.toNat_natCast, Int.toNat_natCast, hJ.1 58 (by decide) (by omega), hy]
      refine ⟨by omega, by omega, fun g => absurd g (by omega), fun _ => ⟨fun g => ⟨by omega, by omega, fun M3 e3 => ⟨fun _ M4 e4 => ?_, fun g2 => absurd g2 g⟩⟩, fun g => ⟨⟨t1, t2⟩, fun g2 => ⟨by omega, by omega, fun M3 e3 => ⟨fun g3 => absurd g g3, fun _ M4 e4 => ?_⟩⟩, fun g2 => ⟨by omega, by omega, ?_⟩⟩⟩⟩
      · exact jh M4 (nxt _ M2 M3 M4 0 0 hJ (by rw [hk, if_neg (by omega)]; rfl) (by rw [r3, if_neg (by omega)]) e3 e4)
      · exact jh M4 (nxt _ M2 M3 M4 0 1 hJ (by rw [hk, if_neg (fun q => g2 (t3.mpr q.2))]; rfl) (by rw [r3, if_pos (by omega)]) e3 e4)
      · have hb := t3.mp g2
        have hvj := t4 hb
        rw [show (j : Int) - (v : Int) = ((j - v : Nat) : Int) by omega]
        refine c_power hn hR hF2 hyl (by omega) ⟨by omega, fun M3 e3 => ⟨fun g3 => absurd g g3, fun _ M4 e4 => ?_⟩⟩
        exact jh M4 (nxt _ M2 M3 M4 _ 1 hJ (by rw [hk, if_pos ⟨by omega, hb⟩]) (by rw [r3, if_pos (by omega)]) e3 e4)
    · refine B_P_setValues_20 hn hR ⟨by omega, by omega, fun _ => ?_, fun g => absurd (show (s : Int) - (v : Int) ≤ ((s - v : Nat) : Int) by omega) g⟩
      rw [← q2] at hJ ⊢
      exact ih M2 hJ
  · rw [k1] at hI
    obtain ⟨i1, i2, i3⟩ := hI
    exact B_P_setValues_11 hn hR ⟨by omega, by omega, fun _ => h M1 i1 i2 i3, fun g => absurd (Int.le_refl _) g⟩
