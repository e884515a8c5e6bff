/-! the reference: is a term new -/
theorem xor4 (a b c d : Nat) : (a ^^^ b) ^^^ (c ^^^ d) = (a ^^^ c) ^^^ (b ^^^ d) := by
  rw [Nat.xor_assoc, Nat.xor_assoc, ← Nat.xor_assoc b c d, Nat.xor_comm b c, Nat.xor_assoc c b d]
theorem gsum_lin {p t : Nat} {f g A : Nat → Nat} (hp : p ∈ grims) (ht : t < gq p) : ∀ m, (∀ i, i < m → f i < gq p ∧ g i < gq p ∧ A i < gq p) → gsum p (fun b => f b ^^^ gmul p t (g b)) A m = gsum p f A m ^^^ gmul p t (gsum p g A m)
  | 0, _ => by show 0 = 0 ^^^ gmul p t 0; rw [g_zr hp ht]; rfl
  | m + 1, h => by
    obtain ⟨h1, h2, h3⟩ := h m (by omega)
    have ih := gsum_lin (f := f) (g := g) (A := A) hp ht m (fun i hi => h i (by omega))
    have hS := gsum_lt (f := g) (A := A) hp m (fun i hi => ⟨(h i (by omega)).2.1, (h i (by omega)).2.2⟩)
    have tg := (g_two hp ht h2).1
    have ga := (g_two hp h2 h3).1
    rw [gsum, gsum, gsum, ih, g_distl hp h1 tg h3, g_assoc hp ht h2 h3, g_distr hp ht hS ga]
    exact xor4 _ _ _ _
theorem gsum_sc {p t : Nat} {g A : Nat → Nat} (hp : p ∈ grims) (ht : t < gq p) : ∀ m, (∀ i, i < m → g i < gq p ∧ A i < gq p) → gsum p (fun b => gmul p t (g b)) A m = gmul p t (gsum p g A m)
  | 0, _ => by show 0 = gmul p t 0; rw [g_zr hp ht]
  | m + 1, h => by
    obtain ⟨h2, h3⟩ := h m (by omega)
    have ih := gsum_sc (g := g) (A := A) hp ht m (fun i hi => h i (by omega))
    have hS := gsum_lt (f := g) (A := A) hp m (fun i hi => h i (by omega))
    have ga := (g_two hp h2 h3).1
    rw [gsum, gsum, ih, g_assoc hp ht h2 h3, g_distr hp ht hS ga]
theorem gsum_ext {p : Nat} {g A : Nat → Nat} (hp : p ∈ grims) {m : Nat} : ∀ d, (∀ i, m ≤ i → g i = 0) → (∀ i, A i < gq p) → gsum p g A (m + d) = gsum p g A m
  | 0, _, _ => rfl
  | d + 1, h, hA => by
    rw [show m + (d + 1) = (m + d) + 1 by omega, gsum, gsum_ext hp d h hA, h (m + d) (by omega), (g_one hp (hA (m + d))).2.1, Nat.xor_zero]
theorem inj_le : ∀ (S m : Nat) (f : Nat → Nat), (∀ a, a < m → f a < S) → (∀ a b, a < m → b < m → f a = f b → a = b) → m ≤ S
  | 0, m, f, h, _ => by
    cases m with
    | zero => exact Nat.le_refl _
    | succ m => exact absurd (h 0 (by omega)) (Nat.not_lt_zero _)
  | S + 1, m, f, h, hi => by
    by_cases hx : ∃ a, a < m ∧ f a = S
    · obtain ⟨a0, h0, e0⟩ := hx
      have := inj_le S (m - 1) (fun a => f (if a < a0 then a else a + 1)) (fun a ha => by
        have h1 : (if a < a0 then a else a + 1) < m ∧ (if a < a0 then a else a + 1) ≠ a0 := by split <;> omega
        have h2 := h _ h1.1
        have h3 : f (if a < a0 then a else a + 1) ≠ S := fun q => h1.2 (hi _ _ h1.1 h0 (q.trans e0.symm))
        show f (if a < a0 then a else a + 1) < S
        omega) (fun a b ha hb e => by
        have h1 : (if a < a0 then a else a + 1) < m := by split <;> omega
        have h2 : (if b < a0 then b else b + 1) < m := by split <;> omega
        have h3 := hi _ _ h1 h2 e
        split at h3 <;> split at h3 <;> omega)
      omega
    · have := inj_le S m f (fun a ha => by
        have h1 := h a ha
        have h2 : f a ≠ S := fun q => hx ⟨a, ha, q⟩
        omega) hi
      omega
def gV (p : Nat) (T C : Nat → Nat → Nat) (a c : Nat) : Nat := gsum p (C a) (fun b => T b c) (a + 1)
def NIx (p S : Nat) (T : Nat → Nat → Nat) (r : Nat) (C : Nat → Nat → Nat) (f : Nat → Nat) (M : xM) : Prop := ∀ a, a < r → M 91 a = (f a : Nat) ∧ f a < S ∧ (∀ c, c < S → M 90 (120 * a + c) = (gV p T C a c : Nat)) ∧ C a a ≠ 0 ∧ (∀ b, C a b < gq p) ∧ (∀ b, a < b → C a b = 0) ∧ gV p T C a (f a) = 1 ∧ (∀ c, c < f a → gV p T C a c = 0) ∧ ∀ b, b < a → gV p T C a (f b) = 0
theorem NIx.le {p S r : Nat} {T C : Nat → Nat → Nat} {f : Nat → Nat} {M : xM} (h : NIx p S T r C f M) : r ≤ S := by
  have ne : ∀ a b, a < r → b < a → f b ≠ f a := fun a b ha hb q => by
    obtain ⟨-, -, -, -, -, -, h1, -, h2⟩ := h a ha
    have := h2 b hb
    rw [q, h1] at this
    omega
  refine inj_le S r f (fun a ha => (h a ha).2.1) (fun a b ha hb q => ?_)
  by_cases h1 : a < b
  · exact absurd q (ne b a hb h1)
  · by_cases h2 : b < a
    · exact absurd q.symm (ne a b ha h2)
    · omega
theorem NIx.keep {p S r : Nat} {T C : Nat → Nat → Nat} {f : Nat → Nat} {M M' : xM} (h : NIx p S T r C f M) (h1 : M' 90 = M 90) (h2 : M' 91 = M 91) : NIx p S T r C f M' := by
  intro a ha
  rw [h1, h2]
  exact h a ha
section MI1
variable {nn : Nat} {R : xR} {M : xM} {p S r : Nat} {T C : Nat → Nat → Nat} {f : Nat → Nat}
theorem cm_isNew {P : Int → xM → Prop} (hn : 93 ≤ nn) (hR : RC 93 R) (hF : MF p M) (hT : ∀ a c, T a c < gq p) (hS : S ≤ 120) (hI : NIx p S T r C f M) (h92 : ∀ c, c < S → M 92 c = (T r c : Nat))
    (h0 : ∀ (M' : xM) (D : Nat → Nat), (∀ c, c ≠ 92 → M' c = M c) → (∀ b, D b < gq p) → D r = 1 → (∀ b, r < b → D b = 0) → (∀ c, c < S → gsum p D (fun b => T b c) (r + 1) = 0) → P 0 M')
    (h1 : ∀ (M' : xM) (C' : Nat → Nat → Nat) (f' : Nat → Nat), (∀ c, c ≠ 90 → c ≠ 91 → c ≠ 92 → M' c = M c) → NIx p S T (r + 1) C' f' M' → P 1 M') : Ci m_M_isNew 1 nn R [vr 78, vi S, vi r] M P := by
  have hp := hF.1
  have hq := gq_b hp
  have hrS := hI.le
  have Ult : ∀ D : Nat → Nat, (∀ b, D b < gq p) → ∀ c, gsum p D (fun b => T b c) (r + 1) < gq p := fun D hD c => gsum_lt hp _ (fun b _ => ⟨hD b, hT b c⟩)
  have Vlt : ∀ a, a < r → ∀ c, gV p T C a c < gq p := fun a ha c => gsum_lt hp _ (fun b _ => ⟨(hI a ha).2.2.2.2.1 b, hT b c⟩)
  refine E_M_isNew hn hR (B_M_isNew_0 hn hR ?_)
  have last : ∀ (D : Nat → Nat) (M1 : xM), (∀ c, c ≠ 92 → M1 c = M c) → (∀ b, D b < gq p) → D r = 1 → (∀ b, r < b → D b = 0) → (∀ c, c < S → M1 92 c = (gsum p D (fun b => T b c) (r + 1) : Nat)) → (∀ b, b < r → gsum p D (fun x => T x (f b)) (r + 1) = 0) → Xi m_M_isNew 1 nn R P 91 [some (vr 78), some (vi S), some (vi r), some (vi 0), none, none] [] M1 := by
    intro D M1 b1 b2 b3 b3' b4 b5
    have hF1 : MF p M1 := hF.keep (by rw [b1 78 (by decide)]) (by rw [b1 78 (by decide)]) (b1 79 (by decide)) (b1 80 (by decide))
    refine upto (σ := Unit) (fun a _ => Xi m_M_isNew 1 nn R P 91 [some (vr 78), some (vi S), some (vi r), some (vi a), none, none] [] M1) (fun a _ => ∀ c, c < a → gsum p D (fun b => T b c) (r + 1) = 0) S (fun a _ ha hJ ih => ?_) (fun _ hJ => ?_) 0 () (by omega) (fun c hc => by omega)
    · have hu := Ult D b2 a
      refine B_M_isNew_91 hn hR ?_
      rw [Int.toNat_natCast, Int.toNat_natCast, b4 a ha]
      refine ⟨by omega, by omega, fun g => absurd g (by omega), fun _ => ⟨by omega, by omega, fun g => ⟨fun g2 => ?_, fun g2 => absurd g2 (by omega)⟩, fun g => ih () (fun c hc => ?_)⟩⟩
      · have hne : ∀ b, b < r → f b ≠ a := fun b hb q => by
          have := b5 b hb
          rw [q] at this
          omega
        have hr1 : r + 1 ≤ S := by
          refine inj_le S (r + 1) (fun x => if x = r then a else f x) (fun x hx => ?_) (fun x y hx hy e => ?_)
          · show (if x = r then a else f x) < S
            split
            · exact ha
            · exact (hI x (by omega)).2.1
          · replace e : (if x = r then a else f x) = (if y = r then a else f y) := e
            by_cases ex : x = r
            · by_cases ey : y = r
              · omega
              · rw [if_pos ex, if_neg ey] at e
                exact absurd e.symm (hne y (by omega))
            · by_cases ey : y = r
              · rw [if_neg ex, if_pos ey] at e
                exact absurd e (hne x (by omega))
              · rw [if_neg ex, if_neg ey] at e
                have ne : ∀ a b, a < r → b < a → f b ≠ f a := fun a b ha hb q => by
                  obtain ⟨-, -, -, -, -, -, h1, -, h2⟩ := hI a ha
                  have := h2 b hb
                  rw [q, h1] at this
                  omega
                by_cases hxy : x < y
                · exact absurd e (ne y x (by omega) hxy)
                · by_cases hyx : y < x
                  · exact absurd e.symm (ne x y (by omega) hyx)
                  · omega
        refine ⟨by omega, fun M2 m2 => ?_⟩
        have c1 : ∀ c, c ≠ 91 → M2 c = M1 c := fun c hc => by rw [m2, xU_o hc]
        have hF2 : MF p M2 := hF1.keep (by rw [c1 78 (by decide)]) (by rw [c1 78 (by decide)]) (c1 79 (by decide)) (c1 80 (by decide))
        have hu0 : gsum p D (fun b => T b a) (r + 1) ≠ 0 := by omega
        rw [c1 92 (by decide), b4 a ha]
        refine cm_quotient (a := 1) hn hR hF2 (by omega) hu hu0 ?_
        have hby := g_div_lt (a := 1) hp (by omega) hu hu0
        have hdm := g_divmul (a := 1) hp (by omega) hu hu0
        generalize hbe : gdiv p 1 (gsum p D (fun b => T b a) (r + 1)) = by' at hby hdm
        have hby0 : by' ≠ 0 := fun q => by
          rw [q, (g_one hp hu).2.1] at hdm
          omega
        refine upto (σ := xM) (fun c M3 => Xi m_M_isNew 1 nn R P 141 [some (vr 78), some (vi S), some (vi r), some (vi a), some (vi by'), some (vi c)] [] M3) (fun c M3 => (∀ x, x ≠ 90 → M3 x = M2 x) ∧ (∀ x, x < 120 * r → M3 90 x = M 90 x) ∧ ∀ x, x < c → M3 90 (120 * r + x) = (gmul p by' (gsum p D (fun b => T b x) (r + 1)) : Nat)) S (fun c M3 hc hK kh => ?_) (fun M3 hK => ?_) 0 M2 (by omega) ⟨fun _ _ => rfl, fun x hx => by rw [c1 90 (by decide), b1 90 (by decide)], fun x hx => by omega⟩
        · obtain ⟨d1, d2, d3⟩ := hK
          have huc := Ult D b2 c
          refine B_M_isNew_141 hn hR ?_
          rw [Int.toNat_natCast, d1 92 (by decide), c1 92 (by decide), b4 c hc, show ((120 : Int) * (r : Int) + (c : Int)).toNat = 120 * r + c by omega, d1 79 (by decide), show ((32 : Int) * (by' : Int) + ((gsum p D (fun b => T b c) (r + 1) : Nat) : Int)).toNat = 32 * by' + gsum p D (fun b => T b c) (r + 1) by omega, hF2.2.2.2.1 _ _ hby huc]
          refine ⟨by omega, by omega, fun g => absurd g (by omega), fun _ => ⟨by omega, by omega, by omega, fun M4 m4 => kh M4 ⟨fun x hx => by rw [m4, xU_o hx]; exact d1 x hx, fun x hx => by rw [m4, xU_n (by omega)]; exact d2 x hx, fun x hx => ?_⟩⟩⟩
          by_cases hxc : x = c
          · rw [hxc, m4, xU_s]
          · rw [m4, xU_n (by omega)]; exact d3 x (by omega)
        · obtain ⟨d1, d2, d3⟩ := hK
          refine B_M_isNew_141 hn hR ⟨by omega, by omega, fun _ => ?_, fun g => absurd (Int.le_refl _) g⟩
          have e91 : M3 91 = M2 91 := d1 91 (by decide)
          obtain ⟨C', cr, co⟩ : ∃ C' : Nat → Nat → Nat, C' r = (fun b => gmul p by' (D b)) ∧ ∀ x, x ≠ r → C' x = C x := ⟨fun x => if x = r then (fun b => gmul p by' (D b)) else C x, if_pos rfl, fun x hx => if_neg hx⟩
          obtain ⟨f', fr, fo⟩ : ∃ f' : Nat → Nat, f' r = a ∧ ∀ x, x ≠ r → f' x = f x := ⟨fun x => if x = r then a else f x, if_pos rfl, fun x hx => if_neg hx⟩
          have cb : ∀ b, C' r b = gmul p by' (D b) := fun b => by rw [cr]
          have Vo : ∀ y, y < r → ∀ c, gV p T C' y c = gV p T C y c := fun y hy c => by unfold gV; rw [co y (by omega)]
          have Vr : ∀ c, gV p T C' r c = gmul p by' (gsum p D (fun b => T b c) (r + 1)) := fun c => by
            unfold gV
            rw [cr]
            exact gsum_sc hp hby _ (fun i _ => ⟨b2 i, hT i c⟩)
          refine h1 M3 C' f' (fun c h1 h2 h3 => by rw [d1 c h1, c1 c h2]; exact b1 c h3) (fun x hx => ?_)
          by_cases ex : x = r
          · rw [ex, fr]
            refine ⟨by rw [e91, m2, xU_s], ha, fun c hc => by rw [Vr]; exact d3 c hc, ?_, fun b => by rw [cb]; exact (g_two hp hby (b2 b)).1, fun b hb => ?_, ?_, fun c hc => ?_, fun b hb => ?_⟩
            · rw [cb, b3, g_1r hp hby]; exact hby0
            · rw [cb, b3' b hb]; exact g_zr hp hby
            · rw [Vr]; exact hdm
            · rw [Vr, hJ c hc]; exact g_zr hp hby
            · rw [fo b (by omega), Vr, b5 b hb]; exact g_zr hp hby
          · obtain ⟨i1, i2, i3, i4, i5, i6, i7, i8, i9⟩ := hI x (by omega)
            rw [fo x ex, co x ex]
            refine ⟨by rw [e91, m2, xU_n ex, b1 91 (by decide)]; exact i1, i2, fun c hc => ?_, i4, i5, i6, ?_, fun c hc => ?_, fun b hb => ?_⟩
            · rw [Vo x (by omega), d2 _ (by omega)]; exact i3 c hc
            · rw [Vo x (by omega)]; exact i7
            · rw [Vo x (by omega)]; exact i8 c hc
            · rw [fo b (by omega), Vo x (by omega)]; exact i9 b hb
      · by_cases hca : c = a
        · rw [hca]; omega
        · exact hJ c (by omega)
    · refine B_M_isNew_91 hn hR ⟨by omega, by omega, fun _ => ⟨fun g => absurd rfl g, fun _ => h0 M1 D b1 b2 b3 b3' hJ⟩, fun g => absurd (Int.le_refl _) g⟩
  refine upto (σ := xM × (Nat → Nat)) (fun a q => Xi m_M_isNew 1 nn R P 2 [some (vr 78), some (vi S), some (vi r), some (vi a), none, none] [] q.1) (fun a q => (∀ c, c ≠ 92 → q.1 c = M c) ∧ (∀ b, q.2 b < gq p) ∧ q.2 r = 1 ∧ (∀ b, r < b → q.2 b = 0) ∧ (∀ c, c < S → q.1 92 c = (gsum p q.2 (fun b => T b c) (r + 1) : Nat)) ∧ ∀ b, b < a → gsum p q.2 (fun x => T x (f b)) (r + 1) = 0) r (fun a q ha hJ ih => ?_) (fun q hJ => ?_) 0 (M, fun b => if b = r then 1 else 0) (by omega) ⟨fun _ _ => rfl, fun b => by show (if b = r then 1 else 0) < gq p; split <;> omega, if_pos rfl, fun b hb => if_neg (by omega), fun c hc => ?_, fun b hb => by omega⟩
  · obtain ⟨M1, D⟩ := q
    obtain ⟨b1, b2, b3, b3', b4, b5⟩ := hJ
    dsimp only at b1 b2 b3 b3' b4 b5
    obtain ⟨i1, i2, i3, i4, i5, i6, i7, i8, i9⟩ := hI a ha
    have hF1 : MF p M1 := hF.keep (by rw [b1 78 (by decide)]) (by rw [b1 78 (by decide)]) (b1 79 (by decide)) (b1 80 (by decide))
    show Xi m_M_isNew 1 nn R P 2 [some (vr 78), some (vi S), some (vi r), some (vi a), none, none] [] M1
    refine B_M_isNew_2 hn hR ?_
    rw [Int.toNat_natCast, b1 91 (by decide), i1, Int.toNat_natCast, b4 (f a) i2]
    refine ⟨by omega, by omega, fun g => absurd g (by omega), fun _ => ⟨by omega, by omega, ?_⟩⟩
    have ht := Ult D b2 (f a)
    have lin : ∀ c, gsum p (fun b => D b ^^^ gmul p (gsum p D (fun b => T b (f a)) (r + 1)) (C a b)) (fun b => T b c) (r + 1) = gsum p D (fun b => T b c) (r + 1) ^^^ gmul p (gsum p D (fun b => T b (f a)) (r + 1)) (gV p T C a c) := fun c => by
      rw [gsum_lin (f := D) (g := C a) hp ht (r + 1) (fun i _ => ⟨b2 i, i5 i, hT i c⟩)]
      have := gsum_ext (g := C a) (A := fun b => T b c) hp (m := a + 1) (r - a) (fun i hi => i6 i (by omega)) (fun i => hT i c)
      rw [show a + 1 + (r - a) = r + 1 by omega] at this
      rw [this]
      rfl
    generalize hte : gsum p D (fun b => T b (f a)) (r + 1) = tm at ht lin
    have fin : ∀ M2 : xM, (∀ c, c ≠ 92 → M2 c = M c) → (∀ c, c < S → M2 92 c = (gsum p D (fun b => T b c) (r + 1) ^^^ gmul p tm (gV p T C a c) : Nat)) → Xi m_M_isNew 1 nn R P 2 [some (vr 78), some (vi S), some (vi r), some (vi ((a : Int) + 1)), none, none] [] M2 := by
      intro M2 d1 d2
      refine ih (M2, fun b => D b ^^^ gmul p tm (C a b)) ⟨d1, fun b => (g_two hp (b2 b) (g_two hp ht (i5 b)).1).2.2.2, ?_, fun b hb => ?_, fun c hc => ?_, fun b hb => ?_⟩
      · show D r ^^^ gmul p tm (C a r) = 1
        rw [b3, i6 r ha, g_zr hp ht]; rfl
      · show D b ^^^ gmul p tm (C a b) = 0
        rw [b3' b hb, i6 b (by omega), g_zr hp ht]; rfl
      · show M2 92 c = (gsum p (fun b => D b ^^^ gmul p tm (C a b)) (fun b => T b c) (r + 1) : Nat)
        rw [lin]; exact d2 c hc
      · show gsum p (fun b => D b ^^^ gmul p tm (C a b)) (fun x => T x (f b)) (r + 1) = 0
        rw [lin]
        by_cases hba : b = a
        · rw [hba, hte, i7, g_1r hp ht, Nat.xor_self]
        · rw [b5 b (by omega), i9 b (by omega), g_zr hp ht]; rfl
    refine upto (σ := xM) (fun c M2 => Xi m_M_isNew 1 nn R P 28 [some (vr 78), some (vi S), some (vi r), some (vi a), some (vi tm), some (vi c)] [] M2) (fun c M2 => (∀ x, x ≠ 92 → M2 x = M x) ∧ (∀ x, x < c → x < S → M2 92 x = (gsum p D (fun b => T b x) (r + 1) ^^^ gmul p tm (gV p T C a x) : Nat)) ∧ ∀ x, c ≤ x → x < S → M2 92 x = (gsum p D (fun b => T b x) (r + 1) : Nat)) S (fun c M2 hc hK kh => ?_) (fun M2 hK => ?_) (f a) M1 (by omega) ⟨b1, fun x h1 h2 => by rw [b4 x h2, i8 x h1, g_zr hp ht, Nat.xor_zero], fun x h1 h2 => b4 x h2⟩
    · obtain ⟨d1, d2, d3⟩ := hK
      have hv := Vlt a ha c
      have hu := Ult D b2 c
      have hm := (g_two hp ht hv).1
      refine B_M_isNew_28 hn hR ?_
      rw [show ((120 : Int) * (a : Int) + (c : Int)).toNat = 120 * a + c by omega, d1 90 (by decide), i3 c hc, Int.toNat_natCast, d3 c (Nat.le_refl _) hc, d1 79 (by decide), show ((32 : Int) * (tm : Int) + (gV p T C a c : Int)).toNat = 32 * tm + gV p T C a c by omega, hF.2.2.2.1 _ _ ht hv, xXor_n (by omega) (by omega)]
      refine ⟨by omega, by omega, fun g => absurd g (by omega), fun _ => ⟨by omega, fun g => fin M2 d1 (fun x hx => ?_), fun g => ⟨by omega, by omega, by omega, fun M3 m3 => kh M3 ⟨fun x hx => by rw [m3, xU_o hx]; exact d1 x hx, fun x h1 h2 => ?_, fun x h1 h2 => by rw [m3, xU_n (by omega)]; exact d3 x (by omega) h2⟩⟩⟩⟩
      · by_cases hxc : x < c
        · exact d2 x hxc hx
        · rw [d3 x (by omega) hx, show tm = 0 by omega, (g_one hp (Vlt a ha x)).2.1, Nat.xor_zero]
      · by_cases hxc : x = c
        · rw [hxc, m3, xU_s]
        · rw [m3, xU_n hxc]; exact d2 x (by omega) h2
    · obtain ⟨d1, d2, d3⟩ := hK
      exact B_M_isNew_28 hn hR ⟨by omega, by omega, fun _ => fin M2 d1 (fun c hc => d2 c hc hc), fun g => absurd (Int.le_refl _) g⟩
  · obtain ⟨M1, D⟩ := q
    obtain ⟨b1, b2, b3, b3', b4, b5⟩ := hJ
    exact B_M_isNew_2 hn hR ⟨by omega, by omega, fun _ => last D M1 b1 b2 b3 b3' b4 b5, fun g => absurd (Int.le_refl _) g⟩
  · show M 92 c = (gsum p (fun b => if b = r then 1 else 0) (fun b => T b c) (r + 1) : Nat)
    rw [h92 c hc, gsum, if_pos rfl, (g_one hp (hT r c)).2.2.1]
    have z : ∀ m, m ≤ r → gsum p (fun b => if b = r then 1 else 0) (fun b => T b c) m = 0 := by
      intro m
      induction m with
      | zero => intro _; rfl
      | succ m ih =>
        intro hm
        rw [gsum, ih (by omega), if_neg (by omega), (g_one hp (hT m c)).2.1]
        rfl
    rw [z r (Nat.le_refl _), Nat.zero_xor]
end MI1
