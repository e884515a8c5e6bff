/-! a value as one sum over the terms -/
theorem sm_app {F : Type} [Lean.Grind.Field F] (f : Nat → F) (a : Nat) : ∀ b, sm f (a + b) = sm f a + sm (fun i => f (a + i)) b
  | 0 => by
    show sm f a = sm f a + 0
    grind
  | b + 1 => by
    show sm f (a + b) + f (a + b) = sm f a + (sm (fun i => f (a + i)) b + f (a + b))
    rw [sm_app f a b]
    grind
theorem sm_cut {F : Type} [Lean.Grind.Field F] {f : Nat → F} {a b : Nat} (hab : a ≤ b) (h : ∀ i, a ≤ i → i < b → f i = 0) : sm f b = sm f a := by
  have e := sm_app f a (b - a)
  rw [show a + (b - a) = b by omega, sm_zero (fun i hi => h (a + i) (by omega) (by omega))] at e
  rw [e]
  grind
theorem ev_row {F : Type} [Lean.Grind.Field F] {E : Nat → Nat → Nat → F} {P k1 : Nat} {q : Nat → Nat → F} (hk : 0 < k1) (hz : ∀ w j, q w j ≠ 0 → k1 * j ≤ w) (t : Nat) : ∀ W, (∀ w, w < W → w / k1 < P) → sm (fun w => sm (fun j => q w j * E w j t) P) W = sm (fun b => q (kdec k1 b).1 (kdec k1 b).2 * E (kdec k1 b).1 (kdec k1 b).2 t) (gprs k1 W)
  | 0, _ => rfl
  | W + 1, hP => by
    have hPW := hP W (by omega)
    rw [sm, ev_row hk hz t W (fun w hw => hP w (by omega)), gprs, sm_app]
    congr 1
    rw [sm_cut (f := fun j => q W j * E W j t) (a := W / k1 + 1) (b := P) (by omega) (fun j hj _ => ?_)]
    · refine sm_congr (fun a ha => ?_)
      rw [kdec_at hk W a (by omega)]
    · have q0 : q W j = 0 := Classical.byContradiction (fun h => by
        have h1 := hz W j h
        have h2 : j ≤ W / k1 := (Nat.le_div_iff_mul_le hk).2 (by rw [Nat.mul_comm]; exact h1)
        omega)
      show q W j * E W j t = 0
      rw [q0]
      grind
theorem ev_kd {F : Type} [Lean.Grind.Field F] {E : Nat → Nat → Nat → F} {B P W k1 : Nat} {q : Nat → Nat → F} (hk : 0 < k1) (hz : ∀ w j, q w j ≠ 0 → k1 * j ≤ w ∧ w < W) (hW : W ≤ B) (hP : ∀ w, w < W → w / k1 < P) (t : Nat) : ev E B P q t = sm (fun b => q (kdec k1 b).1 (kdec k1 b).2 * E (kdec k1 b).1 (kdec k1 b).2 t) (gprs k1 W) := by
  unfold ev
  rw [sm_cut (a := W) (b := B) hW (fun w hw _ => ?_)]
  · exact ev_row hk (fun w j h => (hz w j h).1) t W hP
  · refine sm_zero (fun j _ => ?_)
    have q0 : q w j = 0 := Classical.byContradiction (fun h => by
      have := (hz w j h).2
      omega)
    rw [q0]
    grind
/-- a sum in the field of elements is a sum of the numbers -/
theorem sm_gsum {p : Nat} (hp : p ∈ grims) {f g : Nat → GE p} : ∀ m, (@sm (GE p) (gfield p hp) (fun b => @HMul.hMul (GE p) (GE p) (GE p) (@instHMul (GE p) (gfield p hp).toMul) (f b) (g b)) m).1 = gsum p (fun b => (f b).1) (fun b => (g b).1) m
  | 0 => rfl
  | m + 1 => by
    rw [gsum, ← sm_gsum hp m]
    rfl
