/-! sums, and polynomials by weight: why the least leading weight is found, condition by condition -/
def sm {F : Type} [Lean.Grind.Field F] (f : Nat → F) : Nat → F
  | 0 => 0
  | n + 1 => sm f n + f n
theorem sm_congr {F : Type} [Lean.Grind.Field F] {f g : Nat → F} : ∀ {n : Nat}, (∀ i, i < n → f i = g i) → sm f n = sm g n
  | 0, _ => rfl
  | n + 1, h => by
    rw [sm, sm, sm_congr (fun i hi => h i (by omega)), h n (by omega)]
theorem sm_add {F : Type} [Lean.Grind.Field F] (f g : Nat → F) : ∀ n, sm (fun i => f i + g i) n = sm f n + sm g n
  | 0 => by simp only [sm]; grind
  | n + 1 => by
    simp only [sm]
    rw [sm_add f g n]
    grind
theorem sm_mul {F : Type} [Lean.Grind.Field F] (c : F) (f : Nat → F) : ∀ n, sm (fun i => c * f i) n = c * sm f n
  | 0 => by simp only [sm]; grind
  | n + 1 => by
    simp only [sm]
    rw [sm_mul c f n]
    grind
theorem sm_zero {F : Type} [Lean.Grind.Field F] {f : Nat → F} : ∀ {n : Nat}, (∀ i, i < n → f i = 0) → sm f n = 0
  | 0, _ => rfl
  | n + 1, h => by
    rw [sm, sm_zero (fun i hi => h i (by omega)), h n (by omega)]
    grind
theorem sm_shift {F : Type} [Lean.Grind.Field F] (f : Nat → F) : ∀ n, sm f (n + 1) = f 0 + sm (fun i => f (i + 1)) n
  | 0 => by simp only [sm]; grind
  | n + 1 => by
    have h := sm_shift f n
    rw [sm, h, sm]
    grind
def ev {F : Type} [Lean.Grind.Field F] (E : Nat → Nat → Nat → F) (B P : Nat) (q : Nat → Nat → F) (t : Nat) : F := sm (fun w => sm (fun j => q w j * E w j t) P) B
def xmul {F : Type} [Lean.Grind.Field F] (q : Nat → Nat → F) : Nat → Nat → F
  | 0, _ => 0
  | w + 1, j => q w j
def ple (w j w' j' : Nat) : Prop := w < w' ∨ (w = w' ∧ j < j')
def lead {F : Type} [Lean.Grind.Field F] (q : Nat → Nat → F) (w j : Nat) : Prop := q w j ≠ 0 ∧ ∀ w' j', ple w j w' j' → q w' j' = 0
def psup {F : Type} [Lean.Grind.Field F] (k1 B P : Nat) (q : Nat → Nat → F) : Prop := ∀ w j, q w j ≠ 0 → k1 * j ≤ w ∧ w < B ∧ j < P
theorem ev_lin {F : Type} [Lean.Grind.Field F] (E : Nat → Nat → Nat → F) (B P : Nat) (q r : Nat → Nat → F) (c : F) (t : Nat) : ev E B P (fun w j => q w j + c * r w j) t = ev E B P q t + c * ev E B P r t := by
  unfold ev
  rw [← sm_mul, ← sm_add]
  refine sm_congr (fun w _ => ?_)
  rw [← sm_mul, ← sm_add]
  refine sm_congr (fun j _ => ?_)
  grind
theorem ev_x {F : Type} [Lean.Grind.Field F] {E : Nat → Nat → Nat → F} {B P k1 : Nat} {q : Nat → Nat → F} {t t' : Nat} {a b : F} (hE : ∀ w j, k1 * j ≤ w → E (w + 1) j t = a * E w j t + b * E w j t') (hs : psup k1 B P q) (hB : ∀ j, q (B - 1) j = 0) : ev E B P (xmul q) t = a * ev E B P q t + b * ev E B P q t' := by
  cases B with
  | zero => unfold ev; simp only [sm]; grind
  | succ B =>
    unfold ev
    rw [← sm_mul, ← sm_mul, ← sm_add]
    rw [sm_shift, sm]
    have h0 : sm (fun j => xmul q 0 j * E 0 j t) P = 0 := sm_zero (fun j _ => by show (0 : F) * _ = 0; grind)
    have h1 : a * sm (fun j => q B j * E B j t) P + b * sm (fun j => q B j * E B j t') P = 0 := by
      rw [sm_zero (fun j _ => by rw [show q B j = 0 from hB j]; grind), sm_zero (fun j _ => by rw [show q B j = 0 from hB j]; grind)]
      grind
    rw [h0, h1]
    have h2 : sm (fun i => sm (fun j => xmul q (i + 1) j * E (i + 1) j t) P) B = sm (fun w => a * sm (fun j => q w j * E w j t) P + b * sm (fun j => q w j * E w j t') P) B := by
      refine sm_congr (fun w _ => ?_)
      rw [← sm_mul, ← sm_mul, ← sm_add]
      refine sm_congr (fun j _ => ?_)
      show q w j * _ = _
      by_cases hz : q w j = 0
      · rw [hz]; grind
      · rw [hE w j (hs w j hz).1]; grind
    rw [h2]
    grind
theorem lead_ex {F : Type} [Lean.Grind.Field F] {P : Nat} {q : Nat → Nat → F} (hP : 0 < P) (hj : ∀ w j, q w j ≠ 0 → j < P) : ∀ (N : Nat), (∀ w j, q w j ≠ 0 → w * P + j < N) → (∃ w j, q w j ≠ 0) → ∃ w j, lead q w j
  | 0, hN, ⟨w, j, h⟩ => absurd (hN w j h) (Nat.not_lt_zero _)
  | N + 1, hN, hex => by
    by_cases h : q (N / P) (N % P) = 0
    · refine lead_ex hP hj N (fun w j hq => ?_) hex
      have h1 := hN w j hq
      have h2 := hj w j hq
      by_cases he : w * P + j = N
      · exfalso
        have e1 : N / P = w := by rw [← he, Nat.mul_comm w P, Nat.mul_add_div hP, Nat.div_eq_of_lt h2, Nat.add_zero]
        have e2 : N % P = j := by rw [← he, Nat.mul_comm w P, Nat.mul_add_mod, Nat.mod_eq_of_lt h2]
        rw [e1, e2] at h
        exact hq h
      · omega
    · refine ⟨N / P, N % P, h, fun w' j' hlt => Classical.byContradiction fun hne => ?_⟩
      have h1 := hN w' j' hne
      have h2 := hj w' j' hne
      have h3 : N / P * P + N % P = N := by rw [Nat.mul_comm]; exact Nat.div_add_mod N P
      rcases hlt with h4 | ⟨h4, h5⟩
      · have h6 : (N / P + 1) * P ≤ w' * P := Nat.mul_le_mul_right P h4
        have h7 := Nat.mod_lt N hP
        rw [Nat.succ_mul] at h6
        omega
      · rw [← h4] at h1
        omega
def xpow {F : Type} [Lean.Grind.Field F] (q : Nat → Nat → F) : Nat → Nat → Nat → F
  | 0 => q
  | s + 1 => xmul (xpow q s)
theorem xmul_lead {F : Type} [Lean.Grind.Field F] {q : Nat → Nat → F} {w j : Nat} (h : lead q w j) : lead (xmul q) (w + 1) j := by
  refine ⟨h.1, fun w' j' hlt => ?_⟩
  cases w' with
  | zero => rcases hlt with h1 | ⟨h1, _⟩ <;> omega
  | succ w' =>
    refine h.2 w' j' ?_
    rcases hlt with h1 | ⟨h1, h2⟩
    · exact Or.inl (by omega)
    · exact Or.inr ⟨by omega, h2⟩
theorem xpow_lead {F : Type} [Lean.Grind.Field F] {q : Nat → Nat → F} {w j : Nat} (h : lead q w j) : ∀ s, lead (xpow q s) (w + s) j
  | 0 => h
  | s + 1 => xmul_lead (xpow_lead h s)
/-- what lies at or below the lead -/
theorem lead_sup {F : Type} [Lean.Grind.Field F] {q : Nat → Nat → F} {w j w' j' : Nat} (h : lead q w j) (hq : q w' j' ≠ 0) : w' ≤ w := by
  rcases Nat.lt_or_ge w w' with h1 | h1
  · exact absurd (h.2 w' j' (Or.inl h1)) hq
  · exact h1
def kpass {F : Type} [Lean.Grind.Field F] (E : Nat → Nat → Nat → F) (B P c : Nat) (q : Nat → Nat → F) : Prop := ∀ t, t < c → ev E B P q t = 0
theorem xmul_sup {F : Type} [Lean.Grind.Field F] {k1 B P : Nat} {q : Nat → Nat → F} (hs : psup k1 B P q) (hB : ∀ w j, q w j ≠ 0 → w + 1 < B) : psup k1 B P (xmul q) := by
  intro w j h
  cases w with
  | zero => exact absurd rfl h
  | succ w =>
    have h1 := hs w j h
    exact ⟨by omega, hB w j h, h1.2.2⟩
/-- the conditions: place by place, each with its number a t, and the one before it unless it is the first of its row -/
def kcond {F : Type} [Lean.Grind.Field F] (E : Nat → Nat → Nat → F) (k1 : Nat) (a : Nat → F) (u0 : Nat → Bool) : Prop := ∀ t w j, k1 * j ≤ w → E (w + 1) j t = a t * E w j t + (if u0 t then 0 else 1) * E w j (t - 1)
theorem kx_pass {F : Type} [Lean.Grind.Field F] {E : Nat → Nat → Nat → F} {B P k1 c : Nat} {a : Nat → F} {u0 : Nat → Bool} {q : Nat → Nat → F} (hE : kcond E k1 a u0) (h00 : u0 0 = true) (hs : psup k1 B P q) (hB : ∀ j, q (B - 1) j = 0) (hp : kpass E B P c q) :
    kpass E B P c (xmul q) ∧ ev E B P (xmul q) c = a c * ev E B P q c := by
  have key : ∀ t, t ≤ c → ev E B P (xmul q) t = a t * ev E B P q t := by
    intro t ht
    rw [ev_x (hE t) hs hB]
    by_cases hu : u0 t = true
    · rw [if_pos hu]; grind
    · have h0 : t ≠ 0 := fun q => hu (by rw [q]; exact h00)
      rw [hp (t - 1) (by omega)]
      grind
  refine ⟨fun t ht => ?_, key c (Nat.le_refl c)⟩
  rw [key t (by omega), hp t ht]
  grind
theorem kxp {F : Type} [Lean.Grind.Field F] {E : Nat → Nat → Nat → F} {B P k1 c : Nat} {a : Nat → F} {u0 : Nat → Bool} {q : Nat → Nat → F} {w j : Nat} (hE : kcond E k1 a u0) (h00 : u0 0 = true) (hs : psup k1 B P q) (hl : lead q w j) (hp : kpass E B P c q) :
    ∀ s, w + s < B → psup k1 B P (xpow q s) ∧ kpass E B P c (xpow q s) ∧ (ev E B P q c = 0 → ev E B P (xpow q s) c = 0)
  | 0, _ => ⟨hs, hp, fun h => h⟩
  | s + 1, hB => by
    obtain ⟨h1, h2, h3⟩ := kxp hE h00 hs hl hp s (by omega)
    have hl' := xpow_lead hl s
    have hb : ∀ j', xpow q s (B - 1) j' = 0 := fun j' => hl'.2 _ _ (Or.inl (by omega))
    obtain ⟨g1, g2⟩ := kx_pass hE h00 h1 hb h2
    refine ⟨xmul_sup h1 (fun w' j' hq => ?_), g1, fun h => ?_⟩
    · have := lead_sup hl' hq
      omega
    · show ev E B P (xmul (xpow q s)) c = 0
      rw [g2, h3 h]
      grind
def kInv {F : Type} [Lean.Grind.Field F] (E : Nat → Nat → Nat → F) (B P k1 c : Nat) (G : Nat → Nat → Nat → F) (wt : Nat → Nat) : Prop :=
  (∀ j, j < P → lead (G j) (wt j) j ∧ psup k1 B P (G j) ∧ kpass E B P c (G j)) ∧ ∀ q w j, psup k1 B P q → kpass E B P c q → lead q w j → wt j ≤ w
/-- what passes the first conditions and fails the next leads no lower than a failing one of the row -/
theorem k_fail {F : Type} [Lean.Grind.Field F] {E : Nat → Nat → Nat → F} {B P k1 c : Nat} {a : Nat → F} {u0 : Nat → Bool} {G : Nat → Nat → Nat → F} {wt : Nat → Nat} (hE : kcond E k1 a u0) (h00 : u0 0 = true) (hP : 0 < P) (hI : kInv E B P k1 c G wt) {l : Nat} (hl : l < P)
    (hmin : ∀ j, j < P → ev E B P (G j) c ≠ 0 → j = l ∨ ple (wt l) l (wt j) j) : ∀ (N : Nat) (q : Nat → Nat → F) (w j : Nat), w * P + j < N → psup k1 B P q → kpass E B P c q → lead q w j → ev E B P q c ≠ 0 → (w = wt l ∧ j = l) ∨ ple (wt l) l w j
  | 0, _, _, _, h, _, _, _, _ => absurd h (Nat.not_lt_zero _)
  | N + 1, q, w, j, hN, hs, hp, hq, hne => by
    have hj : j < P := (hs w j hq.1).2.2
    have hw : w < B := (hs w j hq.1).2.1
    have hle := hI.2 q w j hs hp hq
    obtain ⟨gl, gs, gp⟩ := hI.1 j hj
    by_cases hf : ev E B P (G j) c = 0
    · -- reduce by x^s G j
      have hb : wt j + (w - wt j) < B := by omega
      obtain ⟨x1, x2, x3⟩ := kxp hE h00 gs gl gp (w - wt j) hb
      have xl := xpow_lead gl (w - wt j)
      rw [show wt j + (w - wt j) = w by omega] at xl
      generalize xpow (G j) (w - wt j) = g at x1 x2 x3 xl
      have hev := ev_lin E B P q g (-(q w j * (g w j)⁻¹))
      generalize hr : (fun w' j' => q w' j' + -(q w j * (g w j)⁻¹) * g w' j') = r at hev
      have hrz : ∀ w' j', (w = w' ∧ j = j') ∨ ple w j w' j' → r w' j' = 0 := by
        intro w' j' h
        rw [← hr]
        show q w' j' + -(q w j * (g w j)⁻¹) * g w' j' = 0
        rcases h with ⟨rfl, rfl⟩ | h
        · have h1 := Lean.Grind.Field.mul_inv_cancel xl.1
          grind
        · rw [hq.2 w' j' h, xl.2 w' j' h]
          grind
      have hrs : psup k1 B P r := by
        intro w' j' h
        by_cases h1 : q w' j' = 0
        · by_cases h2 : g w' j' = 0
          · exfalso
            apply h
            rw [← hr]
            show q w' j' + _ * g w' j' = 0
            rw [h1, h2]
            grind
          · exact x1 w' j' h2
        · exact hs w' j' h1
      have hrp : kpass E B P c r := by
        intro t ht
        rw [hev t, hp t ht, x2 t ht]
        grind
      have hrc : ev E B P r c ≠ 0 := by
        rw [hev c, x3 hf]
        intro h
        apply hne
        grind
      have hex : ∃ w' j', r w' j' ≠ 0 := by
        apply Classical.byContradiction
        intro h
        apply hrc
        unfold ev
        refine sm_zero (fun w' _ => sm_zero (fun j' _ => ?_))
        have h1 : r w' j' = 0 := Classical.byContradiction fun h2 => h ⟨w', j', h2⟩
        rw [h1]
        grind
      obtain ⟨w', j', hl'⟩ := lead_ex hP (fun w j h => (hrs w j h).2.2) (B * P) (fun w j h => by
        have h1 := hrs w j h
        have h2 : (w + 1) * P ≤ B * P := Nat.mul_le_mul_right P h1.2.1
        rw [Nat.succ_mul] at h2
        omega) hex
      have hlt : ple w' j' w j := by
        have h1 : ¬ ((w = w' ∧ j = j') ∨ ple w j w' j') := fun h => hl'.1 (hrz w' j' h)
        unfold ple at h1 ⊢
        omega
      have hj' : j' < P := (hrs w' j' hl'.1).2.2
      have hsm : w' * P + j' < N := by
        rcases hlt with h1 | ⟨h1, h2⟩
        · have h2 : (w' + 1) * P ≤ w * P := Nat.mul_le_mul_right P h1
          rw [Nat.succ_mul] at h2
          omega
        · rw [h1]
          omega
      have ih := k_fail hE h00 hP hI hl hmin N r w' j' hsm hrs hrp hl' hrc
      right
      unfold ple at ih hlt ⊢
      omega
    · rcases hmin j hj hf with rfl | h
      · by_cases he : w = wt j
        · exact Or.inl ⟨he, rfl⟩
        · exact Or.inr (Or.inl (by omega))
      · right
        unfold ple at h ⊢
        omega
/-- one condition met -/
theorem k_step {F : Type} [Lean.Grind.Field F] {E : Nat → Nat → Nat → F} {B P k1 c : Nat} {a : Nat → F} {u0 : Nat → Bool} {G : Nat → Nat → Nat → F} {wt : Nat → Nat} (hE : kcond E k1 a u0) (h00 : u0 0 = true) (hI : kInv E B P k1 c G wt) {l : Nat} (hl : l < P) (hB : wt l + 1 < B) (hlf : ev E B P (G l) c ≠ 0)
    (hmin : ∀ j, j < P → ev E B P (G j) c ≠ 0 → j = l ∨ ple (wt l) l (wt j) j) :
    kInv E B P k1 (c + 1) (fun j => if j = l then (fun w j' => xmul (G l) w j' + -(a c) * G l w j') else (fun w j' => G j w j' + -(ev E B P (G j) c * (ev E B P (G l) c)⁻¹) * G l w j')) (fun j => if j = l then wt l + 1 else wt j) := by
  obtain ⟨ll, ls, lp⟩ := hI.1 l hl
  have hinv := Lean.Grind.Field.mul_inv_cancel hlf
  have hb : ∀ j', G l (B - 1) j' = 0 := fun j' => ll.2 _ _ (Or.inl (by omega))
  obtain ⟨xp, xc⟩ := kx_pass hE h00 ls hb lp
  refine ⟨fun j hj => ?_, fun q w j hs hp hq => ?_⟩
  · by_cases h : j = l
    · subst h
      simp only [if_pos]
      have xl := xmul_lead ll
      refine ⟨⟨?_, fun w' j' hlt => ?_⟩, fun w' j' hne => ?_, fun t ht => ?_⟩
      · dsimp only
        rw [ll.2 (wt j + 1) j (Or.inl (by omega))]
        intro h1
        apply ll.1
        show G j (wt j) j = 0
        have h2 : xmul (G j) (wt j + 1) j = G j (wt j) j := rfl
        grind
      · dsimp only
        rw [xl.2 w' j' hlt, ll.2 w' j' (by unfold ple at hlt ⊢; omega)]
        grind
      · by_cases h1 : G j w' j' = 0
        · by_cases h2 : xmul (G j) w' j' = 0
          · exfalso
            apply hne
            dsimp only
            rw [h1, h2]
            grind
          · exact xmul_sup ls (fun w j'' hq => by have := lead_sup ll hq; omega) w' j' h2
        · exact ls w' j' h1
      · rw [ev_lin]
        by_cases h1 : t = c
        · subst h1
          rw [xc]
          grind
        · rw [xp t (by omega), lp t (by omega)]
          grind
    · simp only [if_neg h]
      obtain ⟨jl, js, jp⟩ := hI.1 j hj
      by_cases hz : ev E B P (G j) c = 0
      · have e : (fun w j' => G j w j' + -(ev E B P (G j) c * (ev E B P (G l) c)⁻¹) * G l w j') = G j := by
          funext w j'
          rw [hz]
          grind
        rw [e]
        refine ⟨jl, js, fun t ht => ?_⟩
        by_cases h1 : t = c
        · rw [h1]; exact hz
        · exact jp t (by omega)
      · have hpl : ple (wt l) l (wt j) j := (hmin j hj hz).resolve_left h
        have hz0 : ∀ w' j', (wt j = w' ∧ j = j') ∨ ple (wt j) j w' j' → G l w' j' = 0 := fun w' j' h1 => ll.2 w' j' (by unfold ple at hpl h1 ⊢; omega)
        refine ⟨⟨?_, fun w' j' hlt => ?_⟩, fun w' j' hne => ?_, fun t ht => ?_⟩
        · dsimp only
          rw [hz0 _ _ (Or.inl ⟨rfl, rfl⟩)]
          intro h1
          apply jl.1
          grind
        · dsimp only
          rw [jl.2 w' j' hlt, hz0 w' j' (Or.inr hlt)]
          grind
        · by_cases h1 : G j w' j' = 0
          · by_cases h2 : G l w' j' = 0
            · exfalso
              apply hne
              dsimp only
              rw [h1, h2]
              grind
            · exact ls w' j' h2
          · exact js w' j' h1
        · rw [ev_lin]
          by_cases h1 : t = c
          · subst h1
            grind
          · rw [jp t (by omega), lp t (by omega)]
            grind
  · have hp' : kpass E B P c q := fun t ht => hp t (by omega)
    have hle := hI.2 q w j hs hp' hq
    by_cases h : j = l
    · subst h
      simp only [if_pos]
      have hP : 0 < P := by omega
      by_cases he : w = wt j
      · exfalso
        subst he
        have hev := ev_lin E B P (G j) q (-(G j (wt j) j * (q (wt j) j)⁻¹))
        generalize hr : (fun w' j' => G j w' j' + -(G j (wt j) j * (q (wt j) j)⁻¹) * q w' j') = r at hev
        have hqi := Lean.Grind.Field.mul_inv_cancel hq.1
        have hrz : ∀ w' j', (wt j = w' ∧ j = j') ∨ ple (wt j) j w' j' → r w' j' = 0 := by
          intro w' j' h1
          rw [← hr]
          show G j w' j' + -(G j (wt j) j * (q (wt j) j)⁻¹) * q w' j' = 0
          rcases h1 with ⟨rfl, rfl⟩ | h1
          · grind
          · rw [hq.2 w' j' h1, ll.2 w' j' h1]
            grind
        have hrs : psup k1 B P r := by
          intro w' j' h2
          by_cases h1 : q w' j' = 0
          · by_cases h3 : G j w' j' = 0
            · exfalso
              apply h2
              rw [← hr]
              show G j w' j' + _ * q w' j' = 0
              rw [h1, h3]
              grind
            · exact ls w' j' h3
          · exact hs w' j' h1
        have hrp : kpass E B P c r := by
          intro t ht
          rw [hev t, hp' t ht, lp t ht]
          grind
        have hrc : ev E B P r c ≠ 0 := by
          rw [hev c, hp c (by omega)]
          intro h1
          apply hlf
          grind
        have hex : ∃ w' j', r w' j' ≠ 0 := by
          apply Classical.byContradiction
          intro h1
          apply hrc
          unfold ev
          refine sm_zero (fun w' _ => sm_zero (fun j' _ => ?_))
          have h2 : r w' j' = 0 := Classical.byContradiction fun h3 => h1 ⟨w', j', h3⟩
          rw [h2]
          grind
        obtain ⟨w', j', hl'⟩ := lead_ex hP (fun w j h => (hrs w j h).2.2) (B * P) (fun w j h => by
          have h1 := hrs w j h
          have h2 : (w + 1) * P ≤ B * P := Nat.mul_le_mul_right P h1.2.1
          rw [Nat.succ_mul] at h2
          omega) hex
        have hf := k_fail hE h00 hP hI hl hmin _ r w' j' (Nat.lt_succ_self _) hrs hrp hl' hrc
        apply hl'.1
        apply hrz
        rcases hf with ⟨h1, h2⟩ | h1
        · exact Or.inl ⟨h1.symm, h2.symm⟩
        · exact Or.inr h1
      · omega
    · simp only [if_neg h]
      exact hle
theorem k_same {F : Type} [Lean.Grind.Field F] {E : Nat → Nat → Nat → F} {B P k1 c : Nat} {G : Nat → Nat → Nat → F} {wt : Nat → Nat} (hI : kInv E B P k1 c G wt) (h : ∀ j, j < P → ev E B P (G j) c = 0) : kInv E B P k1 (c + 1) G wt := by
  refine ⟨fun j hj => ?_, fun q w j hs hp hq => hI.2 q w j hs (fun t ht => hp t (by omega)) hq⟩
  obtain ⟨h1, h2, h3⟩ := hI.1 j hj
  refine ⟨h1, h2, fun t ht => ?_⟩
  by_cases e : t = c
  · rw [e]; exact h j hj
  · exact h3 t (by omega)
