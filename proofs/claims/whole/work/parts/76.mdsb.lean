/-! two codewords that agree in k places are one: the theorem -/
theorem gw_add {p a : Nat} (hp : p ∈ grims) (ha : a < gq p) (m : Nat) : ∀ n, gpow p a (m + n) = gmul p (gpow p a m) (gpow p a n)
  | 0 => by rw [show gpow p a 0 = 1 from rfl, g_1r hp (gpow_lt hp ha m)]; rfl
  | n + 1 => by
    rw [show gpow p a (m + (n + 1)) = gmul p (gpow p a (m + n)) a from rfl, gw_add hp ha m n, g_assoc hp (gpow_lt hp ha m) (gpow_lt hp ha n) ha]
    rfl
theorem gw_mul {p a : Nat} (hp : p ∈ grims) (ha : a < gq p) (m : Nat) : ∀ n, gpow p (gpow p a m) n = gpow p a (m * n)
  | 0 => rfl
  | n + 1 => by
    rw [show gpow p (gpow p a m) (n + 1) = gmul p (gpow p (gpow p a m) n) (gpow p a m) from rfl, gw_mul hp ha m n, ← gw_add hp ha, Nat.mul_succ]
theorem gw_pw {p : Nat} (hp : p ∈ grims) : ∀ e, gpw p e = gpow p 2 e
  | 0 => rfl
  | e + 1 => by
    have hq := gq_b hp
    have h2 := gpow_lt (a := 2) hp (by omega) e
    rw [gpw, gw_pw hp e, show gpow p 2 (e + 1) = gmul p (gpow p 2 e) 2 from rfl, (g_one hp h2).2.2.2]
theorem gw_comm {p : Nat} (hp : p ∈ grims) (i j : Nat) : gpow p (gpw p j) i = gpow p (gpw p i) j := by
  have hq := gq_b hp
  rw [gw_pw hp j, gw_pw hp i, gw_mul hp (by omega), gw_mul hp (by omega), Nat.mul_comm]
theorem ggen_ev {p r b : Nat} (hp : p ∈ grims) (hr : r + 1 < gq p - 1) (hb : b < gq p) : ∀ N, gsum p (ggen p (r + 1)) (gpow p b) (N + 1) = gmul p (gpw p (r + 1)) (gsum p (ggen p r) (gpow p b) (N + 1)) ^^^ gmul p b (gsum p (ggen p r) (gpow p b) N)
  | 0 => by
    have hg := ggen_lt hp r (by omega) 0
    have hx := (g_pw hp hr).2.1
    show 0 ^^^ gmul p (ggen p (r + 1) 0) 1 = gmul p (gpw p (r + 1)) (0 ^^^ gmul p (ggen p r 0) 1) ^^^ gmul p b 0
    rw [g_zr hp hb, g_1r hp hg, Nat.zero_xor, Nat.zero_xor, Nat.xor_zero, ggen, if_pos rfl, g_1r hp (g_two hp hx hg).1]
  | N + 1 => by
    have hx := (g_pw hp hr).2.1
    have hg := ggen_lt hp r (by omega)
    have pb := gpow_lt hp hb
    have hS := fun m => gsum_lt (f := ggen p r) (A := gpow p b) hp m (fun i _ => ⟨hg i, pb i⟩)
    have ih := ggen_ev (r := r) hp hr hb N
    rw [gsum, ih]
    have e1 : ggen p (r + 1) (N + 1) = ggen p r N ^^^ gmul p (gpw p (r + 1)) (ggen p r (N + 1)) := by rw [ggen, if_neg (by omega)]; rfl
    have e2 : gsum p (ggen p r) (gpow p b) (N + 1 + 1) = gsum p (ggen p r) (gpow p b) (N + 1) ^^^ gmul p (ggen p r (N + 1)) (gpow p b (N + 1)) := rfl
    have e3 : gmul p b (gsum p (ggen p r) (gpow p b) (N + 1)) = gmul p b (gsum p (ggen p r) (gpow p b) N) ^^^ gmul p (ggen p r N) (gpow p b (N + 1)) := by
      rw [gsum, g_distr hp hb (hS N) (g_two hp (hg N) (pb N)).1, show gpow p b (N + 1) = gmul p (gpow p b N) b from rfl, ← g_assoc hp (hg N) (pb N) hb, (g_two hp (g_two hp (hg N) (pb N)).1 hb).2.1]
    rw [e2, g_distr hp hx (hS (N + 1)) (g_two hp (hg (N + 1)) (pb (N + 1))).1, e3, e1, g_distl hp (hg N) (g_two hp hx (hg (N + 1))).1 (pb (N + 1)), g_assoc hp hx (hg (N + 1)) (pb (N + 1))]
    generalize gmul p (gpw p (r + 1)) (gsum p (ggen p r) (gpow p b) (N + 1)) = a1
    generalize gmul p b (gsum p (ggen p r) (gpow p b) N) = a2
    generalize gmul p (ggen p r N) (gpow p b (N + 1)) = a3
    generalize gmul p (gpw p (r + 1)) (gmul p (ggen p r (N + 1)) (gpow p b (N + 1))) = a4
    rw [Nat.xor_comm a3 a4]
    exact xor4 _ _ _ _
theorem ggen_root {p j : Nat} (hp : p ∈ grims) (hj : 1 ≤ j) : ∀ r, j ≤ r → r < gq p - 1 → ∀ N, r + 1 ≤ N → gsum p (ggen p r) (gpow p (gpw p j)) N = 0
  | 0, h, _, _, _ => by omega
  | r + 1, h, hr, N, hN => by
    obtain ⟨N, rfl⟩ : ∃ M, N = M + 1 := ⟨N - 1, by omega⟩
    have hb := (g_pw hp (show j < gq p - 1 by omega)).2.1
    have hg := ggen_lt hp r (by omega)
    rw [ggen_ev hp hr hb N, gsum, ggen_0 hp r (by omega) N (by omega), (g_one hp (gpow_lt hp hb N)).2.1, Nat.xor_zero]
    by_cases e : j = r + 1
    · rw [← e, Nat.xor_self]
    · rw [ggen_root hp hj r (by omega) (by omega) N (by omega), g_zr hp (g_pw hp hr).2.1, g_zr hp hb]; rfl
theorem gsum_shift {p b x : Nat} {g : Nat → Nat} (hp : p ∈ grims) (hb : b < gq p) (hg : ∀ i, g i < gq p) : ∀ N, gsum p (fun i => if i < x then 0 else g (i - x)) (gpow p b) (x + N) = gmul p (gpow p b x) (gsum p g (gpow p b) N)
  | 0 => by
    have hq := gq_b hp
    rw [Nat.add_zero, show gsum p g (gpow p b) 0 = 0 from rfl, g_zr hp (gpow_lt hp hb x)]
    exact gsum_none hp x (fun i hi => ⟨by show (if i < x then 0 else g (i - x)) < gq p; rw [if_pos hi]; omega, gpow_lt hp hb i⟩) (fun i hi => Or.inl (if_pos hi))
  | N + 1 => by
    have px := gpow_lt hp hb x
    have pN := gpow_lt hp hb N
    have hS := gsum_lt (f := g) (A := gpow p b) hp N (fun i _ => ⟨hg i, gpow_lt hp hb i⟩)
    rw [show x + (N + 1) = (x + N) + 1 by omega, gsum, gsum, gsum_shift hp hb hg N, if_neg (by omega), show x + N - x = N by omega, gw_add hp hb, g_distr hp px hS (g_two hp (hg N) pN).1]
    congr 1
    rw [← g_assoc hp (hg N) px pN, (g_two hp (hg N) px).2.1, g_assoc hp px (hg N) pN]
section MDS
variable {p kind n k : Nat}
theorem gel_root (hc : okc p kind n k) (hk : kind ≠ 0) (u : Nat) {j : Nat} (h1 : 1 ≤ j) (h2 : j ≤ n - k) : gsum p (gel p kind n k u) (gpow p (gpw p j)) n = 0 := by
  obtain ⟨o1, o2, o3, o4, o5, o6, o7⟩ := id hc
  have hb := (g_pw o1 (show j < gq p - 1 by omega)).2.1
  have e := gsum_swap (a := tdg (gq p) u) (b := fun x i => gpl p kind n k x i) (A := gpow p (gpw p j)) (k2 := n) o1 k (fun x _ => tdg_lt o1) (fun x i hx hi => lk_A hc x i hx (by omega)) (fun i _ => gpow_lt o1 hb i)
  have z : ∀ x, x < k → gsum p (fun i => gpl p kind n k x i) (gpow p (gpw p j)) n = 0 := fun x hx => by
    have s := gsum_shift (x := x) (g := ggen p (n - k)) o1 hb (ggen_lt o1 (n - k) (by omega)) (n - x)
    rw [show x + (n - x) = n by omega, ggen_root o1 h1 (n - k) h2 (by omega) (n - x) (by omega), g_zr o1 (gpow_lt o1 hb x)] at s
    rw [← s]
    refine gsum_congr n (fun i hi => ⟨?_, rfl⟩)
    unfold gpl
    rw [if_pos hi, if_neg hk]
  rw [gsum_none o1 k (fun x hx => ⟨tdg_lt o1, gsum_lt o1 n (fun i hi => ⟨lk_A hc x i hx (by omega), gpow_lt o1 hb i⟩)⟩) (fun x hx => Or.inr (z x hx))] at e
  exact e.symm
theorem mds (hc : okc p kind n k) {u v : Nat} (h : k ≤ gcnt (fun i => gel p kind n k u i == gel p kind n k v i) n) : ∀ i, i < n → gel p kind n k u i = gel p kind n k v i := by
  obtain ⟨o1, o2, o3, o4, o5, o6, o7⟩ := id hc
  have hq := gq_b o1
  have gl : ∀ t i, gel p kind n k t i < gq p := fun t i => gel_lt hc
  have one : (1 : Nat) < gq p := by omega
  by_cases hk : kind = 0
  · have el : ∀ t i, i < n → gel p kind n k t i = gsum p (tdg (gq p) t) (gpow p (gpw p i)) k := fun t i hi => by
      unfold gel
      refine gsum_congr k (fun j _ => ⟨rfl, ?_⟩)
      unfold gpl
      rw [if_pos hi, if_pos hk]
    obtain ⟨xs, hxs⟩ := gcnt_enum n k h
    have inj : ∀ a b, a < k → b < k → gpw p (xs a) = gpw p (xs b) → a = b := fun a b ha hb e => by
      have h1 := (hxs a ha).1
      have h2 := (hxs b hb).1
      have e2 := g_pw_inj o1 (by omega) (by omega) e
      by_cases hab : a < b
      · have := (hxs b hb).2.2 a hab; omega
      · by_cases hba : b < a
        · have := (hxs a ha).2.2 b hba; omega
        · omega
    have r := g_roots o1 k (fun j => tdg (gq p) u j ^^^ gmul p 1 (tdg (gq p) v j)) (fun a => gpw p (xs a)) (fun j => (g_two o1 (tdg_lt o1) (g_two o1 one (tdg_lt o1)).1).2.2.2) (fun a ha => (g_pw o1 (by have := (hxs a ha).1; omega)).2.1) inj (fun a ha => by
      have h1 := (hxs a ha).1
      have hb := (g_pw o1 (show xs a < gq p - 1 by omega)).2.1
      rw [gsum_lin (f := tdg (gq p) u) (g := tdg (gq p) v) o1 one k (fun i _ => ⟨tdg_lt o1, tdg_lt o1, gpow_lt o1 hb i⟩), ← el u _ h1, ← el v _ h1, (g_one o1 (gl v _)).2.2.1, eq_of_beq (hxs a ha).2.1, Nat.xor_self])
    intro i hi
    rw [el u i hi, el v i hi]
    refine gsum_congr k (fun j hj => ⟨?_, rfl⟩)
    have e := r j hj
    replace e : tdg (gq p) u j ^^^ gmul p 1 (tdg (gq p) v j) = 0 := e
    rw [(g_one o1 (tdg_lt o1)).2.2.1] at e
    by_cases q : tdg (gq p) u j = tdg (gq p) v j
    · exact q
    · exact absurd e (xor_ne q)
  · have px : ∀ i, i < n → gpw p i < gq p := fun i hi => (g_pw o1 (by omega)).2.1
    obtain ⟨e, he⟩ : ∃ e : Nat → Nat, ∀ i, e i = if i < n then gmul p (gel p kind n k u i ^^^ gel p kind n k v i) (gpw p i) else 0 := ⟨_, fun _ => rfl⟩
    have xl : ∀ i, gel p kind n k u i ^^^ gel p kind n k v i < gq p := fun i => (g_two o1 (gl u i) (gl v i)).2.2.2
    have elt : ∀ i, e i < gq p := fun i => by
      rw [he]
      split
      · rename_i hi
        exact (g_two o1 (xl i) (px i hi)).1
      · omega
    have ez : ∀ i, i < n → (e i = 0 ↔ gel p kind n k u i = gel p kind n k v i) := fun i hi => by
      rw [he, if_pos hi]
      constructor
      · intro q
        by_cases r : gel p kind n k u i = gel p kind n k v i
        · exact r
        · have := g_pw o1 (show i < gq p - 1 by omega)
          rcases g_mul0 o1 (xl i) (px i hi) q with s | s
          · exact absurd s (xor_ne r)
          · omega
      · intro q
        rw [q, Nat.xor_self]
        exact (g_one o1 (px i hi)).2.1
    have cnt : gcnt (fun i => e i != 0) n ≤ n - k := by
      have a := gcnt_add (f := fun i => gel p kind n k u i == gel p kind n k v i) (g := fun i => e i != 0) (h := fun _ => true) n (fun i hi => by
        show true = ((gel p kind n k u i == gel p kind n k v i) || (e i != 0)) ∧ ((gel p kind n k u i == gel p kind n k v i) && (e i != 0)) = false
        by_cases q : gel p kind n k u i = gel p kind n k v i
        · rw [(ez i hi).2 q, q, beq_self_eq_true]; exact ⟨rfl, rfl⟩
        · rw [beq_eq_false_iff_ne.2 q, bne_iff_ne.2 (fun r => q ((ez i hi).1 r))]; exact ⟨rfl, rfl⟩)
      have b := gcnt_le (fun _ => true) n
      omega
    have r := g_vand (xs := gpw p) o1 px (fun i j hi hj q => g_pw_inj o1 (by omega) (by omega) q) (n - k) e elt cnt (fun j hj => by
      have r1 := gel_root hc hk u (j := j + 1) (by omega) (by omega)
      have r2 := gel_root hc hk v (j := j + 1) (by omega) (by omega)
      have hb := (g_pw o1 (show j + 1 < gq p - 1 by omega)).2.1
      have l := gsum_lin (f := gel p kind n k u) (g := gel p kind n k v) (A := gpow p (gpw p (j + 1))) o1 one n (fun i _ => ⟨gl u i, gl v i, gpow_lt o1 hb i⟩)
      rw [r1, r2, g_zr o1 one, Nat.xor_zero] at l
      refine Eq.trans ?_ l
      have gen : ∀ m, m ≤ n → gsum p e (fun i => gpow p (gpw p i) j) m = gsum p (fun b => gel p kind n k u b ^^^ gmul p 1 (gel p kind n k v b)) (gpow p (gpw p (j + 1))) m := by
        intro m
        induction m with
        | zero => intro _; rfl
        | succ m ih =>
          intro hm
          rw [gsum, gsum, ih (by omega), he, if_pos (by omega), (g_one o1 (gl v m)).2.2.1, gw_comm o1 m (j + 1)]
          congr 1
          have pm := px m (by omega)
          have pj := gpow_lt o1 pm j
          rw [show gpow p (gpw p m) (j + 1) = gmul p (gpow p (gpw p m) j) (gpw p m) from rfl, g_assoc o1 (xl m) pm pj, (g_two o1 pm pj).2.1]
      exact gen n (Nat.le_refl _))
    exact fun i hi => (ez i hi).1 (r i hi)
end MDS
