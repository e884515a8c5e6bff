/-! Field.begin, Field.addMultiple -/
theorem c_Fbegin {n : Nat} {R : xR} {M : xM} {P : xM → Prop} (hn : 78 ≤ n) (hR : RC 78 R) {p : Nat} (hp : p ∈ grims) (hz : Z0 M) (h : ∀ M', FI p M' → Z0 M' → (∀ k, k = 0 ∨ 5 ≤ k → M' k = M k) → P M') : Cv m_F_begin 2 n R [vr 1, vi p] M P := by
  have hb := gr_b p hp
  have hq := gq_b hp
  have hd : gq p = 2 ^ gdeg p := rfl
  refine E_F_begin hn hR (B_F_begin_0 hn hR (c_degreeOf hn hR hb.2 ?_))
  intro M2 e2 M3 e3
  have e1 : xShl 1 (gdeg p) = ((gq p : Nat) : Int) := by
    have := xShl_n (a := 1) (s := gdeg p) (by omega) (by rw [Nat.one_mul, ← hd]; omega)
    rw [Nat.one_mul, ← hd] at this
    exact this
  have a1 : M2 1 0 = gdeg p := by rw [e2]; exact xU_s
  have a2 : M3 1 0 = gdeg p := by rw [e3, xU_n (by decide)]; exact a1
  have a3 : M3 1 1 = gq p := by rw [e3, xU_s, a1, e1]
  have a4 : ∀ k, k ≠ 1 → M3 k = M k := fun k hk => by rw [e3, xU_o hk, e2, xU_o hk]
  have lg : ∀ x, 0 < x → x < gq p → ∃ e, e < gq p - 1 ∧ gpw p e = x ∧ glog p x = e := fun x h0 hx => ⟨glog p x, (g_inv hp hx (by omega)).2.1, (g_inv hp hx (by omega)).1, rfl⟩
  -- the second loops
  have two : ∀ (w : Int) (M4 : xM), M4 1 0 = gdeg p → M4 1 1 = gq p → (∀ e, e < gq p - 1 → M4 2 e = gpw p e) → (∀ a, 0 < a → a < gq p → M4 3 a = glog p a) → M4 4 = M 4 → (∀ k, k = 0 ∨ 5 ≤ k → M4 k = M k) →
      Xv m_F_begin 2 n R P 60 [some (vr 1), some (vi p), some (vi w), some (vi 1), none, none] [] M4 := by
    intro w M4 b1 b2 b3 b4 b5 b6
    refine upto (σ := xM) (fun a M5 => Xv m_F_begin 2 n R P 60 [some (vr 1), some (vi p), some (vi w), some (vi a), none, none] [] M5)
      (fun a M5 => 1 ≤ a ∧ (∀ k, k ≠ 4 → M5 k = M4 k) ∧ (∀ x y, 0 < x → x < a → 0 < y → y < gq p → M5 4 (32 * x + y) = gmul p x y) ∧ (∀ j, j < 32 ∨ j % 32 = 0 → M5 4 j = M 4 j)) (gq p) (fun a M5 ha hI ih => ?_) (fun M5 hI => ?_) 1 M4 (by omega) ⟨by omega, fun _ _ => rfl, fun x y h1 h2 => by omega, fun j _ => by rw [b5]⟩
    · obtain ⟨c0, c1, c2, c3⟩ := hI
      have d1 : M5 1 1 = gq p := by rw [c1 1 (by decide)]; exact b2
      refine B_F_begin_60 hn hR ⟨by omega, by rw [d1]; omega, fun g => absurd g (by rw [d1]; omega), fun _ => ?_⟩
      refine upto (σ := xM) (fun b M6 => Xv m_F_begin 2 n R P 71 [some (vr 1), some (vi p), some (vi w), some (vi a), some (vi b), none] [] M6)
        (fun b M6 => 1 ≤ b ∧ (∀ k, k ≠ 4 → M6 k = M4 k) ∧ (∀ x y, 0 < x → 0 < y → y < gq p → x < a ∨ (x = a ∧ y < b) → M6 4 (32 * x + y) = gmul p x y) ∧ (∀ j, j < 32 ∨ j % 32 = 0 → M6 4 j = M 4 j)) (gq p) (fun b M6 hb' hJ jh => ?_) (fun M6 hJ => ?_) 1 M5 (by omega) ⟨by omega, c1, fun x y h1 h2 h3 h4 => c2 x y h1 (by omega) h2 h3, c3⟩
      · obtain ⟨k0, k1, k2, k3⟩ := hJ
        have f1 : M6 1 1 = gq p := by rw [k1 1 (by decide)]; exact b2
        have f3 : M6 3 a = glog p a := by rw [k1 3 (by decide)]; exact b4 a (by omega) ha
        have f4 : M6 3 b = glog p b := by rw [k1 3 (by decide)]; exact b4 b (by omega) hb'
        obtain ⟨-, l1, -⟩ := g_inv hp ha (by omega)
        obtain ⟨-, l2, -⟩ := g_inv hp hb' (by omega)
        obtain ⟨m1, -⟩ := g_mullog hp ha hb' (by omega) (by omega)
        have next : ∀ M7 : xM, M7 = xU M6 4 (32 * a + b) (gmul p a b) → Xv m_F_begin 2 n R P 71 [some (vr 1), some (vi p), some (vi w), some (vi a), some (vi ((b : Int) + 1)), none] [] M7 := by
          intro M7 e7
          refine jh M7 ⟨by omega, fun k hk => by rw [e7, xU_o hk]; exact k1 k hk, fun x y h1 h2 h3 h4 => ?_, fun j hj => ?_⟩
          · rw [e7]
            by_cases he : 32 * x + y = 32 * a + b
            · have hxa : x = a := by omega
              have hyb : y = b := by omega
              rw [hxa, hyb]
              exact xU_s
            · rw [xU_n he]
              exact k2 x y h1 h2 h3 (by omega)
          · rw [e7, xU_n (by omega)]
            exact k3 j hj
        refine B_F_begin_71 hn hR ?_
        rw [Int.toNat_natCast, Int.toNat_natCast, f1, f3, f4, xPair (by omega) (by omega), Int.toNat_natCast]
        refine ⟨by omega, by omega, fun g => absurd g (by omega), fun _ => ⟨by omega, by omega, by omega, by omega, fun g => ⟨by omega, by omega, fun M7 e7 => next M7 ?_⟩, fun g => ⟨by omega, by omega, fun M7 e7 => next M7 ?_⟩⟩⟩
        · rw [e7, k1 2 (by decide), b3 _ (by omega), m1]
          congr 2
          rw [Nat.mod_eq_sub_mod (by omega), Nat.mod_eq_of_lt (by omega)]
          congr 1
          omega
        · rw [e7, k1 2 (by decide), b3 _ (by omega), m1]
          congr 2
          rw [Nat.mod_eq_of_lt (by omega)]
          congr 1
      · obtain ⟨k0, k1, k2, k3⟩ := hJ
        have f1 : M6 1 1 = gq p := by rw [k1 1 (by decide)]; exact b2
        refine B_F_begin_71 hn hR ?_
        rw [f1]
        refine ⟨by omega, by omega, fun _ => ih M6 ⟨by omega, k1, fun x y h1 h2 h3 h4 => k2 x y h1 h3 h4 (by omega), k3⟩, fun g => absurd (Int.le_refl _) g⟩
    · obtain ⟨c0, c1, c2, c3⟩ := hI
      have d1 : M5 1 1 = gq p := by rw [c1 1 (by decide)]; exact b2
      refine B_F_begin_60 hn hR ?_
      rw [d1]
      refine ⟨by omega, by omega, fun _ => h M5 ⟨hp, by rw [c1 1 (by decide)]; exact b1, d1, fun e he => by rw [c1 2 (by decide)]; exact b3 e he, fun x h1 h2 => by rw [c1 3 (by decide)]; exact b4 x h1 h2, fun x y hx hy => ?_⟩ (fun j hj => ?_) (fun k hk => ?_), fun g => absurd (Int.le_refl _) g⟩
      · by_cases hx0 : x = 0
        · subst hx0
          rw [c3 _ (by omega), (g_one hp hy).2.1]
          have := (hz y (by omega)).2
          rw [Nat.mul_zero, Nat.zero_add]
          exact this
        · by_cases hy0 : y = 0
          · subst hy0
            rw [c3 _ (by omega), (g_two hp hx hy).2.1, (g_one hp hx).2.1]
            exact (hz x (by omega)).1
          · exact c2 x y (by omega) hx (by omega) hy
      · exact ⟨by rw [c3 _ (by omega)]; exact (hz j hj).1, by rw [c3 _ (by omega)]; exact (hz j hj).2⟩
      · rw [c1 k (by omega)]
        exact b6 k hk
  refine upto (σ := xM) (fun i M4 => Xv m_F_begin 2 n R P 22 [some (vr 1), some (vi p), some (vi (gpw p i)), some (vi i), none, none] [] M4)
    (fun i M4 => M4 1 0 = gdeg p ∧ M4 1 1 = gq p ∧ (∀ e, e < i → M4 2 e = gpw p e ∧ M4 3 (gpw p e) = e) ∧ M4 4 = M 4 ∧ (∀ k, k = 0 ∨ 5 ≤ k → M4 k = M k)) (gq p - 1) (fun i M4 hi hI ih => ?_) (fun M4 hI => ?_) 0 M3 (by omega) ⟨a2, a3, fun e he => by omega, a4 4 (by decide), fun k hk => a4 k (by omega)⟩
  · obtain ⟨b1, b2, b3, b4, b5⟩ := hI
    obtain ⟨g1, g2, g3⟩ := g_pw hp hi
    refine B_F_begin_22 hn hR ?_
    rw [b2]
    refine ⟨by omega, by omega, fun g => absurd g (by omega), fun _ => ⟨by omega, fun M5 e5 => ⟨by omega, fun M6 e6 => c_timesX hn hR hb.1 hb.2 g2 ?_⟩⟩⟩
    rw [Int.toNat_natCast] at e5 e6
    refine ih M6 ⟨?_, ?_, fun e he => ?_, ?_, fun k hk => ?_⟩
    · rw [e6, xU_o (by decide), e5, xU_o (by decide)]; exact b1
    · rw [e6, xU_o (by decide), e5, xU_o (by decide)]; exact b2
    · by_cases hei : e = i
      · subst hei
        exact ⟨by rw [e6, xU_o (by decide), e5]; exact xU_s, by rw [e6]; exact xU_s⟩
      · have hlt : e < i := by omega
        have hne : gpw p e ≠ gpw p i := fun q => hei (by rw [← (g_pw hp (show e < gq p - 1 by omega)).2.2, q, g3])
        exact ⟨by rw [e6, xU_o (by decide), e5, xU_n hei]; exact (b3 e hlt).1, by rw [e6, xU_n hne, e5, xU_o (by decide)]; exact (b3 e hlt).2⟩
    · rw [e6, xU_o (by decide), e5, xU_o (by decide)]; exact b4
    · rw [e6, xU_o (by omega), e5, xU_o (by omega)]; exact b5 k hk
  · obtain ⟨b1, b2, b3, b4, b5⟩ := hI
    refine B_F_begin_22 hn hR ?_
    rw [b2]
    refine ⟨by omega, by omega, fun _ => two _ M4 b1 b2 (fun e he => (b3 e he).1) (fun x h0 hx => ?_) b4 b5, fun g => absurd (show (gq p : Int) - 1 ≤ ((gq p - 1 : Nat) : Int) by omega) g⟩
    obtain ⟨e, he, h1, h2⟩ := lg x h0 hx
    rw [h2, ← h1]
    exact (b3 e he).2
/-- row t ^= factor * other t, from .. to -/
theorem c_addMultiple {n : Nat} {R : xR} {M : xM} {P : xM → Prop} (hn : 78 ≤ n) (hR : RC 78 R) {p f q1 N1 q3 N3 i0 i1 : Nat} (hF : FI p M) (hf : f < gq p) (h1S : xS q1 = (0, N1)) (h1n : q1 < n) (h1N : N1 < 2147483648) (h3S : xS q3 = (0, N3)) (h3n : q3 < n) (h3N : N3 < 2147483648) (hq : q1 ≠ q3) (h5 : 5 ≤ q1) (u v : Nat → Nat) (hu : ∀ t, i0 ≤ t → t < i1 → M q1 t = u t ∧ u t < gq p) (hv : ∀ t, i0 ≤ t → t < i1 → M q3 t = v t ∧ v t < gq p) (h01 : i0 ≤ i1) (hi1 : i1 ≤ N1) (hi3 : i1 ≤ N3)
    (h : ∀ M', (∀ k, k ≠ q1 → M' k = M k) → (∀ t, M' q1 t = if i0 ≤ t ∧ t < i1 then ((u t ^^^ gmul p f (v t) : Nat) : Int) else M q1 t) → P M') : Cv m_F_addMultiple 0 n R [vr 1, vr q1, vi f, vr q3, vi i0, vi i1] M P := by
  have hqq := gq_b hF.1
  refine E_F_addMultiple hn hR h1S h1n h1N h3S h3n h3N (B_F_addMultiple_0 hn hR h1S h1n h1N h3S h3n h3N ?_)
  refine upto (σ := xM) (fun t M5 => Xv m_F_addMultiple 0 n R P 9 [some (vr 1), some (vr q1), some (vi f), some (vr q3), some (vi i0), some (vi i1), some (vi (xShl f 5)), some (vi t)] [] M5)
    (fun t M5 => i0 ≤ t ∧ (∀ k, k ≠ q1 → M5 k = M k) ∧ ∀ s, M5 q1 s = if i0 ≤ s ∧ s < t then ((u s ^^^ gmul p f (v s) : Nat) : Int) else M q1 s) i1 (fun t M5 ht hI ih => ?_) (fun M5 hI => ?_) i0 M h01 ⟨Nat.le_refl _, fun _ _ => rfl, fun s => by rw [if_neg (by omega)]⟩
  · obtain ⟨c0, c1, c2⟩ := hI
    have e1 : M5 q1 t = u t := by rw [c2 t, if_neg (by omega)]; exact (hu t c0 ht).1
    have e3 : M5 q3 t = v t := by rw [c1 q3 (fun q => hq q.symm)]; exact (hv t c0 ht).1
    have hut := (hu t c0 ht).2
    have hvt := (hv t c0 ht).2
    have e4 : M5 4 (32 * f + v t) = gmul p f (v t) := by rw [c1 4 (by omega)]; exact hF.2.2.2.2.2 f (v t) hf hvt
    have hm := (g_two hF.1 hf hvt).1
    refine B_F_addMultiple_9 hn hR h1S h1n h1N h3S h3n h3N ?_
    rw [Int.toNat_natCast, e1, e3, xPair (by omega) (by omega), Int.toNat_natCast, e4, xXor_n (by omega) (by omega)]
    refine ⟨by omega, by omega, fun g => absurd g (by omega), fun _ => ⟨by omega, by omega, by omega, fun M6 e6 => ?_⟩⟩
    refine ih M6 ⟨by omega, fun k hk => by rw [e6, xU_o hk]; exact c1 k hk, fun s => ?_⟩
    by_cases hs : s = t
    · subst hs
      rw [e6, xU_s, if_pos (by omega)]
    · rw [e6, xU_n hs, c2 s]
      by_cases hc : i0 ≤ s ∧ s < t
      · rw [if_pos hc, if_pos (by omega)]
      · rw [if_neg hc, if_neg (by omega)]
  · obtain ⟨c0, c1, c2⟩ := hI
    exact B_F_addMultiple_9 hn hR h1S h1n h1N h3S h3n h3N ⟨by omega, by omega, fun _ => h M5 c1 c2, fun g => absurd (Int.le_refl _) g⟩
