/-! the reference: the weight -/
theorem gsum_z {p : Nat} {g A : Nat → Nat} (hp : p ∈ grims) (h : ∀ i, g i = 0) (hA : ∀ i, A i < gq p) (m : Nat) : gsum p g A m = 0 := by
  have := gsum_ext (g := g) (A := A) hp (m := 0) m (fun i _ => h i) hA
  rw [Nat.zero_add] at this
  rw [this]
  rfl
theorem NIx.indep {p S r : Nat} {T C : Nat → Nat → Nat} {f : Nat → Nat} {M : xM} (hp : p ∈ grims) (hT : ∀ a c, T a c < gq p) (h : NIx p S T r C f M) : ∀ m, m ≤ r → ∀ E : Nat → Nat, (∀ b, E b < gq p) → (∀ b, m ≤ b → E b = 0) → (∀ a, a < m → gsum p E (fun b => T b (f a)) m = 0) → ∀ b, E b = 0
  | 0, _, E, _, h2, _ => fun b => h2 b (Nat.zero_le _)
  | m + 1, hm, E, h1, h2, h3 => by
    obtain ⟨i1, i2, i3, i4, i5, i6, i7, i8, i9⟩ := h m (by omega)
    have ht := g_div_lt hp (h1 m) (i5 m) i4
    have hd := g_divmul hp (h1 m) (i5 m) i4
    generalize gdiv p (E m) (C m m) = t at ht hd
    have lin : ∀ c, gsum p (fun b => E b ^^^ gmul p t (C m b)) (fun b => T b c) (m + 1) = gsum p E (fun b => T b c) (m + 1) ^^^ gmul p t (gV p T C m c) := fun c => gsum_lin (f := E) (g := C m) hp ht (m + 1) (fun i _ => ⟨h1 i, i5 i, hT i c⟩)
    have z : ∀ b, m ≤ b → E b ^^^ gmul p t (C m b) = 0 := fun b hb => by
      by_cases e : b = m
      · rw [e, hd, Nat.xor_self]
      · rw [h2 b (by omega), i6 b (by omega), g_zr hp ht]; rfl
    have ih := NIx.indep hp hT h m (by omega) (fun b => E b ^^^ gmul p t (C m b)) (fun b => (g_two hp (h1 b) (g_two hp ht (i5 b)).1).2.2.2) z (fun a ha => by
      have e := gsum_ext (g := fun b => E b ^^^ gmul p t (C m b)) (A := fun b => T b (f a)) hp (m := m) 1 z (fun i => hT i _)
      rw [← e, lin, h3 a (by omega), i9 a ha, g_zr hp ht]
      rfl)
    have ih : ∀ b, E b ^^^ gmul p t (C m b) = 0 := ih
    have t0 : t = 0 := by
      have e := lin (f m)
      rw [gsum_z hp ih (fun i => hT i _), h3 m (by omega), i7, g_1r hp ht, Nat.zero_xor] at e
      exact e.symm
    intro b
    have e := ih b
    rw [t0, (g_one hp (i5 b)).2.1, Nat.xor_zero] at e
    exact e
def kdec (k1 : Nat) : Nat → Nat × Nat
  | 0 => (0, 0)
  | a + 1 => if k1 * ((kdec k1 a).2 + 1) ≤ (kdec k1 a).1 then ((kdec k1 a).1, (kdec k1 a).2 + 1) else ((kdec k1 a).1 + 1, 0)
def gT (p kind n k : Nat) (w : Nat → Nat) (er : Nat → Bool) (s a c : Nat) : Nat := gterm p (gxs p n er) (gys p kind n w er) s ((kdec (k - 1) a).1 - (k - 1) * (kdec (k - 1) a).2) (kdec (k - 1) a).2 c
/-- z is the weight of the first term that hangs on those before it -/
def WM (p kind n k : Nat) (w : Nat → Nat) (er : Nat → Bool) (s z : Nat) : Prop := ∃ (r : Nat) (D : Nat → Nat), z = (kdec (k - 1) r).1 ∧ r ≤ gopen er n * kblk s ∧ (∀ b, D b < gq p) ∧ D r = 1 ∧ (∀ b, r < b → D b = 0) ∧ (∀ c, c < gopen er n * kblk s → gsum p D (fun b => gT p kind n k w er s b c) (r + 1) = 0) ∧ ∀ E : Nat → Nat, (∀ b, E b < gq p) → (∀ b, r ≤ b → E b = 0) → (∀ c, c < gopen er n * kblk s → gsum p E (fun b => gT p kind n k w er s b c) r = 0) → ∀ b, E b = 0
section MJ
variable {nn : Nat} {R : xR} {M : xM} {p kind n k : Nat} {msg w : Nat → Nat} {er : Nat → Bool} {fm : Option (Nat × (Nat → Bool))} {lm : List (Nat × Nat)}
theorem cm_weight {P : Int → xM → Prop} (hn : 93 ≤ nn) (hR : RC 93 R) (hD : MI p kind n k msg w er fm lm M) {a : Int} (ha : xin a) (h0 : ¬ (1 ≤ a ∧ a ≤ 3) → P (-1) M) (hmany : 1 ≤ a → a ≤ 3 → gopen er n < k → P (-3) M) (h1 : ∀ s : Nat, a = s → 1 ≤ s → s ≤ 3 → k ≤ gopen er n → ∀ z : Nat, WM p kind n k w er s z → ∀ M' : xM, MI p kind n k msg w er fm lm M' → (∀ c, c < 78 → M' c = M c) → P z M') : Ci m_M_weight 3 nn R [vr 78, vi a] M P := by
  have hC := hD.1
  obtain ⟨o1, o2, o3, o4, o5, o6, o7⟩ := hC.2.1
  have hq := gq_b o1
  have k4 := hC.2.1.k4
  have hop := gopen_le er n
  have ek : (k : Int) - 1 = ((k - 1 : Nat) : Int) := by omega
  refine E_M_weight hn hR (B_M_weight_0 hn hR ⟨ha, fun g => h0 (by omega), fun g => ⟨fun g2 => cm_kept (er := er) hn hR hC hD.2.2.2.1 ?_, fun g2 => h0 (by omega)⟩⟩)
  rw [hC.2.2.2.2.1]
  refine ⟨by omega, by omega, fun g3 => ?_, fun g3 => hmany (by omega) g2 (by omega)⟩
  obtain ⟨s, rfl⟩ := Int.eq_ofNat_of_zero_le (show 0 ≤ a by omega)
  have hN := h1 s rfl (by omega) (by omega) (by omega)
  have hs1 : 1 ≤ s := by omega
  have hs3 : s ≤ 3 := by omega
  obtain ⟨-, kb6, kb1, -⟩ := kof_end s (by omega) hs1
  have hS : gopen er n * kblk s ≤ 120 := by
    have h1 : gopen er n * kblk s ≤ 20 * kblk s := Nat.mul_le_mul_right _ (by omega)
    omega
  have hT : ∀ a c, gT p kind n k w er s a c < gq p := fun a c => gcond_lt o1 (gxs_lt hC.2.1 _) (gys_lt hC.2.1 (fun i hi => (hD.2.2.1 i hi).2) _)
  have key : ∀ (d r v j : Nat) (M1 : xM) (C : Nat → Nat → Nat) (f : Nat → Nat), r + d = 121 → kdec (k - 1) r = (v, j) → (k - 1) * j ≤ v → v ≤ r → (∀ c, c ≠ 90 → c ≠ 91 → c ≠ 92 → M1 c = M c) → NIx p (gopen er n * kblk s) (gT p kind n k w er s) r C f M1 → Xi m_M_weight 3 nn R P 40 [some (vr 78), some (vi s), some (vi r), some (vi v), some (vi j), none] [] M1 := by
    intro d
    induction d with
    | zero =>
      intro r v j M1 C f e1 e2 e3 e4 e5 e6
      have := e6.le
      omega
    | succ d ih =>
      intro r v j M1 C f e1 e2 e3 e4 e5 e6
      have hrS := e6.le
      have hC1 : MC p kind n k M1 := hC.keep (fun j hj => by rw [e5 78 (by decide) (by decide) (by decide)]) (fun c h1 h2 => e5 c (by omega) (by omega) (by omega))
      have hjv : j ≤ v := Nat.le_trans (Nat.le_mul_of_pos_left j (show 0 < k - 1 by omega)) e3
      refine B_M_weight_40 hn hR ?_
      rw [hC1.2.2.2.2.1, ek, ← Int.natCast_mul]
      refine ⟨by omega, by omega, fun g => absurd g (by omega), fun _ => ?_⟩
      rw [show (v : Int) - (((k - 1) * j : Nat) : Int) = ((v - (k - 1) * j : Nat) : Int) by omega]
      refine cm_layTerm (w := w) (er := er) hn hR hC1 (by rw [e5 83 (by decide) (by decide) (by decide)]; exact hD.2.2.1) (by rw [e5 84 (by decide) (by decide) (by decide)]; exact hD.2.2.2.1) (by omega) (by omega) hs1 hs3 (fun M2 c1 c2 => ?_)
      have hF2 : MF p M2 := hC1.1.keep (by rw [c1 78 (by decide)]) (by rw [c1 78 (by decide)]) (c1 79 (by decide)) (c1 80 (by decide))
      refine cm_isNew (T := gT p kind n k w er s) (C := C) (f := f) hn hR hF2 hT hS (e6.keep (c1 90 (by decide)) (c1 91 (by decide))) (fun c hc => ?_) (fun M3 D d1 d2 d3 d4 d5 => ?_) (fun M3 C' f' d1 d2 => ?_)
      · rw [c2 c hc]
        unfold gT
        rw [e2]
      · refine ⟨by decide, fun g => absurd rfl g, fun _ => ?_⟩
        refine hN v ⟨r, D, by rw [e2], hrS, d2, d3, d4, d5, fun E E1 E2 E3 => NIx.indep o1 hT e6 r (Nat.le_refl _) E E1 E2 (fun a ha => E3 (f a) (e6 a ha).2.1)⟩ M3 (hD.keep (fun j hj => ?_) (fun c h1 h2 h3 h4 => ?_)) (fun c hc => ?_)
        · rw [d1 78 (by decide), c1 78 (by decide), e5 78 (by decide) (by decide) (by decide)]
        · rw [d1 c (by omega), c1 c (by omega), e5 c (by omega) (by omega) (by omega)]
        · rw [d1 c (by omega), c1 c (by omega), e5 c (by omega) (by omega) (by omega)]
      · refine ⟨by decide, fun _ => ?_, fun g => absurd g (by decide)⟩
        have fr : ∀ c, c ≠ 90 → c ≠ 91 → c ≠ 92 → M3 c = M c := fun c h1 h2 h3 => by rw [d1 c h1 h2 h3, c1 c h3]; exact e5 c h1 h2 h3
        have hdc : kdec (k - 1) (r + 1) = if (k - 1) * (j + 1) ≤ v then (v, j + 1) else (v + 1, 0) := by rw [kdec, e2]
        by_cases hj : (k - 1) * (j + 1) ≤ v
        · rw [if_pos hj] at hdc
          exact ih (r + 1) v (j + 1) M3 C' f' (by omega) hdc hj (by omega) fr d2
        · rw [if_neg hj] at hdc
          have hC3 : MC p kind n k M3 := hC.keep (fun j hj => by rw [fr 78 (by decide) (by decide) (by decide)]) (fun c h1 h2 => fr c (by omega) (by omega) (by omega))
          have hms : (k - 1) * (j + 1) = (k - 1) * j + (k - 1) := Nat.mul_succ _ _
          refine B_M_weight_40 hn hR ?_
          rw [hC3.2.2.2.2.1, ek, show (j : Int) + 1 = ((j + 1 : Nat) : Int) from rfl, ← Int.natCast_mul]
          refine ⟨by omega, by omega, fun _ => ?_, fun g => absurd (by omega) g⟩
          refine B_M_weight_30 hn hR ⟨by omega, fun g => absurd g (by omega), fun _ => ?_⟩
          exact ih (r + 1) (v + 1) 0 M3 C' f' (by omega) hdc (by rw [Nat.mul_zero]; omega) (by omega) fr d2
  refine B_M_weight_30 hn hR ⟨by decide, fun g => absurd g (by decide), fun _ => ?_⟩
  exact key 121 0 0 0 M (fun _ _ => 0) (fun _ => 0) (by omega) rfl (by omega) (by omega) (fun _ _ _ _ => rfl) (fun a ha => absurd ha (Nat.not_lt_zero _))
end MJ
