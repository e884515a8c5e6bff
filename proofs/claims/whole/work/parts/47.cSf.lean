/-! Search.find: what it finds -/
def dig (q k t j : Nat) : Nat := t / q ^ (k - 1 - j) % q
/-- the codeword whose first k elements are t's digits -/
def gcw (p kind n k t i : Nat) : Nat := gsum p (dig (gq p) k t) (fun j => gld p kind n k j i) k
def gdst (p kind n k : Nat) (w : Nat → Nat) (er : Nat → Bool) (t : Nat) : Nat := gcnt (fun i => !er i && gcw p kind n k t i != w i) n
def gfnd (p kind n k : Nat) (w : Nat → Nat) (er : Nat → Bool) (lim T : Nat) : List Nat := (List.range T).filter (fun t => decide (gdst p kind n k w er t ≤ lim))
theorem gfnd_s (p kind n k : Nat) (w : Nat → Nat) (er : Nat → Bool) (lim T : Nat) : gfnd p kind n k w er lim (T + 1) = gfnd p kind n k w er lim T ++ (if gdst p kind n k w er T ≤ lim then [T] else []) := by
  unfold gfnd
  rw [List.range_succ, List.filter_append]
  congr 1
  by_cases h : gdst p kind n k w er T ≤ lim <;> simp [h]
theorem dig_lt {q k t j : Nat} (hq : 0 < q) : dig q k t j < q := Nat.mod_lt _ hq
def gst (q head last i : Nat) : Nat := if i < last then head / q ^ (last - 1 - i) % q else 0
theorem gcw_eq {p kind n k head v i : Nat} (hp : p ∈ grims) (hk : 0 < k) (hv : v < gq p) (hlt : ∀ r, r < k → gld p kind n k r i < gq p) : gcw p kind n k (head * gq p + v) i = gsum p (gst (gq p) head (k - 1)) (fun j => gld p kind n k j i) k ^^^ gmul p v (gld p kind n k (k - 1) i) := by
  have hq := gq_b hp
  obtain ⟨last, rfl⟩ : ∃ l, k = l + 1 := ⟨k - 1, by omega⟩
  rw [gcw, gsum, gsum, show last + 1 - 1 = last from rfl]
  have e1 : dig (gq p) (last + 1) (head * gq p + v) last = v := by
    unfold dig
    rw [show last + 1 - 1 - last = 0 by omega, Nat.pow_zero, Nat.div_one, Nat.mul_add_mod_self_right, Nat.mod_eq_of_lt hv]
  have e2 : gst (gq p) head last last = 0 := if_neg (Nat.lt_irrefl _)
  have e3 : gsum p (dig (gq p) (last + 1) (head * gq p + v)) (fun j => gld p kind n (last + 1) j i) last = gsum p (gst (gq p) head last) (fun j => gld p kind n (last + 1) j i) last := by
    refine gsum_congr last (fun j hj => ⟨?_, rfl⟩)
    unfold dig gst
    rw [if_pos hj, show last + 1 - 1 - j = (last - 1 - j) + 1 by omega, Nat.pow_succ, Nat.mul_comm (gq p ^ _), ← Nat.div_div_eq_div_mul]
    congr 2
    rw [Nat.mul_comm, Nat.mul_add_div (by omega), Nat.div_eq_of_lt hv, Nat.add_zero]
  rw [e1, e2, e3, (g_one hp (hlt last (by omega))).2.1, Nat.xor_zero]
theorem votes_ok {p kind n k head v : Nat} {w : Nat → Nat} {er : Nat → Bool} (hp : p ∈ grims) (hk : 0 < k) (hv : v < gq p) (hlt : ∀ r c, r < k → c < n + k → gld p kind n k r c < gq p) (hw : ∀ i, i < n → w i < gq p) (base : Nat → Nat) (hb : ∀ i, base i = gsum p (gst (gq p) head (k - 1)) (fun j => gld p kind n k j i) k) :
    gopen er n = gcnt (fun i => !er i && (gld p kind n k (k - 1) i == 0 && w i ^^^ base i == 0)) n + gcnt (fun i => !er i && (gld p kind n k (k - 1) i != 0 && gdiv p (w i ^^^ base i) (gld p kind n k (k - 1) i) == v)) n + gdst p kind n k w er (head * gq p + v) := by
  have hq := gq_b hp
  have h1 : gopen er n = gcnt (fun i => !er i) n := by
    clear hlt hw hb
    induction n with
    | zero => rfl
    | succ n ih => rw [gopen, gcnt, ih]; cases er n <;> simp
  rw [h1, gdst]
  rw [← gcnt_add (f := fun i => !er i && (gld p kind n k (k - 1) i == 0 && w i ^^^ base i == 0)) (g := fun i => !er i && (gld p kind n k (k - 1) i != 0 && gdiv p (w i ^^^ base i) (gld p kind n k (k - 1) i) == v)) (h := fun i => !er i && ((gld p kind n k (k - 1) i == 0 && w i ^^^ base i == 0) || (gld p kind n k (k - 1) i != 0 && gdiv p (w i ^^^ base i) (gld p kind n k (k - 1) i) == v))) n ?_]
  · refine gcnt_add n (fun i hi => ?_)
    have hl := hlt (k - 1) i (by omega) (by omega)
    have hbl : base i < gq p := by
      rw [hb i]
      refine gsum_lt hp k (fun a ha => ⟨?_, hlt a i ha (by omega)⟩)
      unfold gst
      split
      · exact Nat.mod_lt _ (by omega)
      · omega
    have hg := (g_two hp (hw i hi) hbl).2.2.2
    have key : (((gld p kind n k (k - 1) i == 0 && w i ^^^ base i == 0) || (gld p kind n k (k - 1) i != 0 && gdiv p (w i ^^^ base i) (gld p kind n k (k - 1) i) == v)) = true) ↔ gcw p kind n k (head * gq p + v) i = w i := by
      rw [gcw_eq hp hk hv (fun r hr => hlt r i hr (by omega)), ← hb i]
      have hx : (base i ^^^ gmul p v (gld p kind n k (k - 1) i) = w i) ↔ gmul p v (gld p kind n k (k - 1) i) = w i ^^^ base i := by
        constructor
        · intro h
          rw [← h, Nat.xor_comm (base i), Nat.xor_assoc, Nat.xor_self, Nat.xor_zero]
        · intro h
          rw [h, Nat.xor_comm (w i), ← Nat.xor_assoc, Nat.xor_self, Nat.zero_xor]
      rw [hx]
      by_cases h0 : gld p kind n k (k - 1) i = 0
      · rw [h0, g_zr hp hv]
        simp only [beq_self_eq_true, Bool.true_and, bne_self_eq_false, Bool.false_and, Bool.or_false, beq_iff_eq]
        exact ⟨fun h => h.symm, fun h => h.symm⟩
      · have hb0 : (gld p kind n k (k - 1) i == 0) = false := by simpa using h0
        have hb1 : (gld p kind n k (k - 1) i != 0) = true := by simpa using h0
        rw [hb0, hb1, Bool.false_and, Bool.true_and, Bool.false_or, beq_iff_eq]
        constructor
        · intro h
          rw [← h, g_divmul hp hg hl h0]
        · intro h
          rw [← h, g_muldiv hp hv hl h0]
    cases her : er i with
    | true => simp [her]
    | false =>
      simp only [her, Bool.not_false, Bool.true_and]
      by_cases hc : gcw p kind n k (head * gq p + v) i = w i
      · rw [key.mpr hc]
        simp [hc]
      · have hk2 : ((gld p kind n k (k - 1) i == 0 && w i ^^^ base i == 0) || (gld p kind n k (k - 1) i != 0 && gdiv p (w i ^^^ base i) (gld p kind n k (k - 1) i) == v)) = false := by
          cases hh : ((gld p kind n k (k - 1) i == 0 && w i ^^^ base i == 0) || (gld p kind n k (k - 1) i != 0 && gdiv p (w i ^^^ base i) (gld p kind n k (k - 1) i) == v)) with
          | true => exact absurd (key.mp hh) hc
          | false => rfl
        rw [hk2]
        simp [hc]
  · intro i hi
    by_cases h0 : gld p kind n k (k - 1) i = 0 <;> cases er i <;> simp [h0]
/-- what a row of finds holds: of S the first K -/
def FS (O B Dd K p kind n k : Nat) (w : Nat → Nat) (er : Nat → Bool) (S : List Nat) (M : xM) : Prop := M O 1 = (min S.length K : Nat) ∧ ∀ c t, S[c]? = some t → c < K → (∀ i, i < n → M (B + c) i = (gcw p kind n k t i : Nat)) ∧ M Dd c = (gdst p kind n k w er t : Nat)
theorem c_find_1 {nn : Nat} {R : xR} {M : xM} {P : xM → Prop} (hn : 78 ≤ nn) (hR : RC 78 R) {p kind n k lim : Nat} {w : Nat → Nat} {er : Nat → Bool} (hF : FI p M) (hC : CI p kind n k M) (hW : WI p n w er M) (hlt : ∀ r c, r < k → c < n + k → gld p kind n k r c < gq p) (hlim : lim < 2147483648)
    (h : ∀ M' : xM, FS 32 34 35 1 p kind n k w er (gfnd p kind n k w er lim (gq p ^ k)) M' → (∀ c, c < 29 ∨ (31 < c ∧ c < 32) ∨ 35 < c → M' c = M c) → P M') : Cv m_S_find 3 nn R [vr 29, vi lim, vr 32] M P := by
  obtain ⟨o1, o2, o3, o4, o5, o6, o7⟩ := hC.1
  have k4 := hC.1.k4
  have hq := gq_b o1
  have hd : gq p = 2 ^ gdeg p := rfl
  have hpow : gq p ^ (k - 1) = 2 ^ (gdeg p * (k - 1)) := by rw [hd, ← Nat.pow_mul]
  have hdk : gdeg p * (k - 1) ≤ 12 := by
    have : gdeg p * (k - 1) ≤ gdeg p * k := Nat.mul_le_mul_left _ (by omega)
    omega
  have hp12 : gq p ^ (k - 1) ≤ 4096 := by
    rw [hpow]
    exact Nat.pow_le_pow_right (by decide) hdk
  have hkk : gq p ^ k = gq p ^ (k - 1) * gq p := by
    rw [← Nat.pow_succ]
    congr 1
    omega
  refine E_S_find_1 hn hR (B_S_find_1_0 hn hR ?_)
  intro M1 e1
  have f1 : ∀ c, c ≠ 32 → M1 c = M c := fun c hc => by rw [e1, xU_o hc]
  have hC1 : CI p kind n k M1 := hC.keep (fun c h1 h2 => f1 c (by omega))
  have hF1 : FI p M1 := hF.keep (fun c h1 h2 => f1 c (by omega))
  rw [hF1.2.1, hC1.2.2.2.1, show (k : Int) - 1 = ((k - 1 : Nat) : Int) by omega, show (gdeg p : Int) * ((k - 1 : Nat) : Int) = ((gdeg p * (k - 1) : Nat) : Int) by rw [Int.natCast_mul]]
  have e2 : xShl 1 ((gdeg p * (k - 1) : Nat) : Int) = ((gq p ^ (k - 1) : Nat) : Int) := by
    have := xShl_n (a := 1) (s := gdeg p * (k - 1)) (by omega) (by rw [Nat.one_mul, ← hpow]; omega)
    rw [Nat.one_mul, ← hpow] at this
    exact this
  rw [e2]
  refine upto (σ := xM) (fun hd' M2 => Xv m_S_find 3 nn R P 31 [some (vr 29), some (vi lim), some (vr 32), some (vi (k - 1 : Nat)), some (vi (gq p ^ (k - 1) : Nat)), some (vi hd'), none, none] [] M2) (fun hd' M2 => FS 32 34 35 1 p kind n k w er (gfnd p kind n k w er lim (hd' * gq p)) M2 ∧ ∀ c, c < 29 ∨ (31 < c ∧ c < 32) ∨ 35 < c → M2 c = M c) (gq p ^ (k - 1)) (fun hd' M2 hh hI ih => ?_) (fun M2 hI => ?_) 0 M1 (by omega) ⟨?_, fun c hc => f1 c (by omega)⟩
  · obtain ⟨b1, b2⟩ := hI
    have hF2 : FI p M2 := hF.keep (fun c h1 h2 => b2 c (by omega))
    refine B_S_find_1_31 hn hR ⟨by omega, by omega, fun g => absurd g (by omega), fun _ => ?_⟩
    refine c_setStart hn hR hF2 (by omega) (by omega) (fun M3 c1 c2 c3 => ?_)
    have hu : ∀ i, i < k → M3 30 i = gst (gq p) hd' (k - 1) i ∧ gst (gq p) hd' (k - 1) i < gq p := by
      intro i hi
      unfold gst
      by_cases hil : i < k - 1
      · rw [if_pos hil]
        exact ⟨c2 i hil, Nat.mod_lt _ (by omega)⟩
      · rw [if_neg hil, show i = k - 1 by omega]
        exact ⟨c3, by omega⟩
    have hF3 : FI p M3 := hF2.keep (fun c h1 h2 => c1 c (by omega))
    have hC3 : CI p kind n k M3 := hC.keep (fun c h1 h2 => by rw [c1 c (by omega)]; exact b2 c (by omega))
    have hW3 : WI p n w er M3 := hW.keep (fun c h1 h2 => by rw [c1 c (by omega)]; exact b2 c (by omega))
    obtain ⟨base, hb⟩ : ∃ base : Nat → Nat, ∀ i, base i = gsum p (gst (gq p) hd' (k - 1)) (fun j => gld p kind n k j i) k := ⟨_, fun _ => rfl⟩
    refine c_countVotes hn hR hF3 hC3 hW3 hlt (gst (gq p) hd' (k - 1)) hu base hb (fun M4 d1 d2 d3 => ?_)
    have hFS4 : FS 32 34 35 1 p kind n k w er (gfnd p kind n k w er lim (hd' * gq p)) M4 := by
      refine ⟨by rw [d1 32 (by decide) (by decide), c1 32 (by decide)]; exact b1.1, fun c t h1 h2 => ?_⟩
      rw [d1 _ (by omega) (by omega), c1 _ (by omega), d1 35 (by decide) (by decide), c1 35 (by decide)]
      exact b1.2 c t h1 h2
    refine upto (σ := xM) (fun v M5 => Xv m_S_find 3 nn R P 53 [some (vr 29), some (vi lim), some (vr 32), some (vi (k - 1 : Nat)), some (vi (gq p ^ (k - 1) : Nat)), some (vi hd'), some (vi v), none] [] M5) (fun v M5 => FS 32 34 35 1 p kind n k w er (gfnd p kind n k w er lim (hd' * gq p + v)) M5 ∧ (∀ c, c < 29 ∨ (31 < c ∧ c < 32) ∨ 35 < c → M5 c = M c) ∧ M5 29 5 = M4 29 5 ∧ (∀ x, x < gq p → M5 31 x = M4 31 x) ∧ ∀ i, i < k - 1 → M5 30 i = M4 30 i) (gq p) (fun v M5 hv hJ jh => ?_) (fun M5 hJ => ?_) 0 M4 (by omega) ⟨hFS4, fun c hc => by rw [d1 c (by omega) (by omega), c1 c (by omega)]; exact b2 c hc, rfl, fun _ _ => rfl, fun _ _ => rfl⟩
    · obtain ⟨j1, j2, j3, j4, j5⟩ := hJ
      have hF5 : FI p M5 := hF.keep (fun c h1 h2 => j2 c (by omega))
      have hC5 : CI p kind n k M5 := hC.keep (fun c h1 h2 => j2 c (by omega))
      have hW5 : WI p n w er M5 := hW.keep (fun c h1 h2 => j2 c (by omega))
      have hvo := votes_ok (er := er) (head := hd') (v := v) o1 (show 0 < k by omega) hv hlt (fun i hi => (hW.1 i hi).2) base hb
      have hms : M5 26 0 - M5 29 5 - M5 31 v = ((gdst p kind n k w er (hd' * gq p + v) : Nat) : Int) := by
        rw [hW5.2.2, j3, d3, j4 v hv, d2 v hv]
        omega
      have hdn := gcnt_le (fun i => !er i && gcw p kind n k (hd' * gq p + v) i != w i) n
      have hdl : gdst p kind n k w er (hd' * gq p + v) ≤ 20 := Nat.le_trans hdn o6
      refine B_S_find_1_53 hn hR ?_
      rw [hF5.2.2.1, Int.toNat_natCast, Int.toNat_natCast, hms]
      refine ⟨by omega, by omega, fun g => absurd g (by omega), fun _ => ⟨by omega, by omega, by omega, fun g => ?_, fun g => ⟨by omega, fun M6 e6 => ?_⟩⟩⟩
      · refine jh M5 ⟨?_, j2, j3, j4, j5⟩
        rw [← Nat.add_assoc, gfnd_s, if_neg (by omega), List.append_nil]
        exact j1
      · have hle : gdst p kind n k w er (hd' * gq p + v) ≤ lim := by omega
        have hF6 : FI p M6 := hF5.keep (fun c h1 h2 => by rw [e6, xU_o (by omega)])
        have hC6 : CI p kind n k M6 := hC5.keep (fun c h1 h2 => by rw [e6, xU_o (by omega)])
        have hu6 : ∀ i, i < k → M6 30 i = dig (gq p) k (hd' * gq p + v) i ∧ dig (gq p) k (hd' * gq p + v) i < gq p := by
          intro i hi
          refine ⟨?_, dig_lt (by omega)⟩
          unfold dig
          by_cases hil : i < k - 1
          · rw [e6, xU_n (by omega), j5 i hil, d1 30 (by decide) (by decide), c2 i hil, show k - 1 - i = (k - 1 - 1 - i) + 1 by omega, Nat.pow_succ, Nat.mul_comm (gq p ^ _), ← Nat.div_div_eq_div_mul]
            congr 3
            rw [Nat.mul_comm, Nat.mul_add_div (by omega), Nat.div_eq_of_lt hv, Nat.add_zero]
          · rw [show i = k - 1 by omega, e6, xU_s, Nat.sub_self, Nat.pow_zero, Nat.div_one, Nat.mul_add_mod_self_right, Nat.mod_eq_of_lt hv]
        have nxt : ∀ M7 : xM, FS 32 34 35 1 p kind n k w er (gfnd p kind n k w er lim (hd' * gq p + v) ++ [hd' * gq p + v]) M7 → (∀ c, c < 29 ∨ (31 < c ∧ c < 32) ∨ 35 < c → M7 c = M c) → (∀ c, c = 29 ∨ c = 31 → M7 c = M5 c) → (∀ i, i < k - 1 → M7 30 i = M5 30 i) → Xv m_S_find 3 nn R P 53 [some (vr 29), some (vi lim), some (vr 32), some (vi (k - 1 : Nat)), some (vi (gq p ^ (k - 1) : Nat)), some (vi hd'), some (vi ((v : Int) + 1)), none] [] M7 := by
          intro M7 a1 a2 a3 a4
          refine jh M7 ⟨?_, a2, by rw [a3 29 (Or.inl rfl)]; exact j3, fun x hx => by rw [a3 31 (Or.inr rfl)]; exact j4 x hx, fun i hi => by rw [a4 i hi]; exact j5 i hi⟩
          rw [← Nat.add_assoc, gfnd_s, if_pos hle]
          exact a1
        have hlen := j1.1
        generalize hS : gfnd p kind n k w er lim (hd' * gq p + v) = S at j1 hlen nxt
        refine c_Nadd_1 hn hR hF6 hC6 (ct := min S.length 1) (by rw [e6, xU_o (by decide)]; exact j1.1) (Nat.min_le_right _ _) (dig (gq p) k (hd' * gq p + v)) hu6 hlt (fun hfull => ?_) (fun hct M7 a1 a2 a3 a4 a5 a6 => ?_)
        · refine nxt M6 ⟨?_, fun c t h1 h2 => ?_⟩ (fun c hc => by rw [e6, xU_o (by omega)]; exact j2 c hc) (fun c hc => by rw [e6, xU_o (by omega)]) (fun i hi => by rw [e6, xU_n (by omega)])
          · rw [e6, xU_o (by decide), j1.1, List.length_append]
            congr 1
            simp only [List.length_cons, List.length_nil]
            omega
          · rw [List.getElem?_append_left (by omega)] at h1
            rw [e6, xU_o (by omega), xU_o (by omega)]
            exact j1.2 c t h1 h2
        · have hml : min S.length 1 = S.length := by omega
          rw [hml] at hct a1 a2 a4 a5 a6
          refine nxt M7 ⟨?_, fun c t h1 h2 => ?_⟩ (fun c hc => by rw [a1 c (by omega) (by omega) (by omega), e6, xU_o (by omega)]; exact j2 c hc) (fun c hc => by rw [a1 c (by omega) (by omega) (by omega), e6, xU_o (by omega)]) (fun i hi => by rw [a1 30 (by decide) (by omega) (by decide), e6, xU_n (by omega)])
          · rw [a2, List.length_append]
            congr 1
            simp only [List.length_cons, List.length_nil]
            omega
          · by_cases hcl : c < S.length
            · rw [List.getElem?_append_left hcl] at h1
              rw [a1 _ (by omega) (by omega) (by omega), a4 c (by omega), e6, xU_o (by omega), xU_o (by omega)]
              exact j1.2 c t h1 h2
            · rw [List.getElem?_append_right (by omega)] at h1
              have hc0 : c = S.length := by
                have := (List.getElem?_eq_some_iff.mp h1).1
                simp only [List.length_cons, List.length_nil] at this
                omega
              rw [hc0, Nat.sub_self] at h1
              have ht : hd' * gq p + v = t := by simpa using h1
              rw [hc0, ← ht]
              exact ⟨fun i hi => a6 i hi, a5⟩
    · obtain ⟨j1, j2, j3, j4, j5⟩ := hJ
      have hF5 : FI p M5 := hF.keep (fun c h1 h2 => j2 c (by omega))
      refine B_S_find_1_53 hn hR ?_
      rw [hF5.2.2.1]
      refine ⟨by omega, by omega, fun _ => ih M5 ⟨?_, j2⟩, fun g => absurd (Int.le_refl _) g⟩
      rw [Nat.succ_mul]
      exact j1
  · obtain ⟨b1, b2⟩ := hI
    rw [← hkk] at b1
    exact B_S_find_1_31 hn hR ⟨by omega, by omega, fun _ => h M2 b1 b2, fun g => absurd (Int.le_refl _) g⟩
  · refine ⟨?_, fun c t h1 => ?_⟩
    · rw [e1, xU_s, Nat.zero_mul]
      rfl
    · rw [Nat.zero_mul] at h1
      simp [gfnd] at h1
theorem c_find_2 {nn : Nat} {R : xR} {M : xM} {P : xM → Prop} (hn : 78 ≤ nn) (hR : RC 78 R) {p kind n k lim : Nat} {w : Nat → Nat} {er : Nat → Bool} (hF : FI p M) (hC : CI p kind n k M) (hW : WI p n w er M) (hlt : ∀ r c, r < k → c < n + k → gld p kind n k r c < gq p) (hlim : lim < 2147483648)
    (h : ∀ M' : xM, FS 36 38 54 16 p kind n k w er (gfnd p kind n k w er lim (gq p ^ k)) M' → (∀ c, c < 29 ∨ (31 < c ∧ c < 36) ∨ 54 < c → M' c = M c) → P M') : Cv m_S_find 3 nn R [vr 29, vi lim, vr 36] M P := by
  obtain ⟨o1, o2, o3, o4, o5, o6, o7⟩ := hC.1
  have k4 := hC.1.k4
  have hq := gq_b o1
  have hd : gq p = 2 ^ gdeg p := rfl
  have hpow : gq p ^ (k - 1) = 2 ^ (gdeg p * (k - 1)) := by rw [hd, ← Nat.pow_mul]
  have hdk : gdeg p * (k - 1) ≤ 12 := by
    have : gdeg p * (k - 1) ≤ gdeg p * k := Nat.mul_le_mul_left _ (by omega)
    omega
  have hp12 : gq p ^ (k - 1) ≤ 4096 := by
    rw [hpow]
    exact Nat.pow_le_pow_right (by decide) hdk
  have hkk : gq p ^ k = gq p ^ (k - 1) * gq p := by
    rw [← Nat.pow_succ]
    congr 1
    omega
  refine E_S_find_2 hn hR (B_S_find_2_0 hn hR ?_)
  intro M1 e1
  have f1 : ∀ c, c ≠ 36 → M1 c = M c := fun c hc => by rw [e1, xU_o hc]
  have hC1 : CI p kind n k M1 := hC.keep (fun c h1 h2 => f1 c (by omega))
  have hF1 : FI p M1 := hF.keep (fun c h1 h2 => f1 c (by omega))
  rw [hF1.2.1, hC1.2.2.2.1, show (k : Int) - 1 = ((k - 1 : Nat) : Int) by omega, show (gdeg p : Int) * ((k - 1 : Nat) : Int) = ((gdeg p * (k - 1) : Nat) : Int) by rw [Int.natCast_mul]]
  have e2 : xShl 1 ((gdeg p * (k - 1) : Nat) : Int) = ((gq p ^ (k - 1) : Nat) : Int) := by
    have := xShl_n (a := 1) (s := gdeg p * (k - 1)) (by omega) (by rw [Nat.one_mul, ← hpow]; omega)
    rw [Nat.one_mul, ← hpow] at this
    exact this
  rw [e2]
  refine upto (σ := xM) (fun hd' M2 => Xv m_S_find 3 nn R P 31 [some (vr 29), some (vi lim), some (vr 36), some (vi (k - 1 : Nat)), some (vi (gq p ^ (k - 1) : Nat)), some (vi hd'), none, none] [] M2) (fun hd' M2 => FS 36 38 54 16 p kind n k w er (gfnd p kind n k w er lim (hd' * gq p)) M2 ∧ ∀ c, c < 29 ∨ (31 < c ∧ c < 36) ∨ 54 < c → M2 c = M c) (gq p ^ (k - 1)) (fun hd' M2 hh hI ih => ?_) (fun M2 hI => ?_) 0 M1 (by omega) ⟨?_, fun c hc => f1 c (by omega)⟩
  · obtain ⟨b1, b2⟩ := hI
    have hF2 : FI p M2 := hF.keep (fun c h1 h2 => b2 c (by omega))
    refine B_S_find_2_31 hn hR ⟨by omega, by omega, fun g => absurd g (by omega), fun _ => ?_⟩
    refine c_setStart hn hR hF2 (by omega) (by omega) (fun M3 c1 c2 c3 => ?_)
    have hu : ∀ i, i < k → M3 30 i = gst (gq p) hd' (k - 1) i ∧ gst (gq p) hd' (k - 1) i < gq p := by
      intro i hi
      unfold gst
      by_cases hil : i < k - 1
      · rw [if_pos hil]
        exact ⟨c2 i hil, Nat.mod_lt _ (by omega)⟩
      · rw [if_neg hil, show i = k - 1 by omega]
        exact ⟨c3, by omega⟩
    have hF3 : FI p M3 := hF2.keep (fun c h1 h2 => c1 c (by omega))
    have hC3 : CI p kind n k M3 := hC.keep (fun c h1 h2 => by rw [c1 c (by omega)]; exact b2 c (by omega))
    have hW3 : WI p n w er M3 := hW.keep (fun c h1 h2 => by rw [c1 c (by omega)]; exact b2 c (by omega))
    obtain ⟨base, hb⟩ : ∃ base : Nat → Nat, ∀ i, base i = gsum p (gst (gq p) hd' (k - 1)) (fun j => gld p kind n k j i) k := ⟨_, fun _ => rfl⟩
    refine c_countVotes hn hR hF3 hC3 hW3 hlt (gst (gq p) hd' (k - 1)) hu base hb (fun M4 d1 d2 d3 => ?_)
    have hFS4 : FS 36 38 54 16 p kind n k w er (gfnd p kind n k w er lim (hd' * gq p)) M4 := by
      refine ⟨by rw [d1 36 (by decide) (by decide), c1 36 (by decide)]; exact b1.1, fun c t h1 h2 => ?_⟩
      rw [d1 _ (by omega) (by omega), c1 _ (by omega), d1 54 (by decide) (by decide), c1 54 (by decide)]
      exact b1.2 c t h1 h2
    refine upto (σ := xM) (fun v M5 => Xv m_S_find 3 nn R P 53 [some (vr 29), some (vi lim), some (vr 36), some (vi (k - 1 : Nat)), some (vi (gq p ^ (k - 1) : Nat)), some (vi hd'), some (vi v), none] [] M5) (fun v M5 => FS 36 38 54 16 p kind n k w er (gfnd p kind n k w er lim (hd' * gq p + v)) M5 ∧ (∀ c, c < 29 ∨ (31 < c ∧ c < 36) ∨ 54 < c → M5 c = M c) ∧ M5 29 5 = M4 29 5 ∧ (∀ x, x < gq p → M5 31 x = M4 31 x) ∧ ∀ i, i < k - 1 → M5 30 i = M4 30 i) (gq p) (fun v M5 hv hJ jh => ?_) (fun M5 hJ => ?_) 0 M4 (by omega) ⟨hFS4, fun c hc => by rw [d1 c (by omega) (by omega), c1 c (by omega)]; exact b2 c hc, rfl, fun _ _ => rfl, fun _ _ => rfl⟩
    · obtain ⟨j1, j2, j3, j4, j5⟩ := hJ
      have hF5 : FI p M5 := hF.keep (fun c h1 h2 => j2 c (by omega))
      have hC5 : CI p kind n k M5 := hC.keep (fun c h1 h2 => j2 c (by omega))
      have hW5 : WI p n w er M5 := hW.keep (fun c h1 h2 => j2 c (by omega))
      have hvo := votes_ok (er := er) (head := hd') (v := v) o1 (show 0 < k by omega) hv hlt (fun i hi => (hW.1 i hi).2) base hb
      have hms : M5 26 0 - M5 29 5 - M5 31 v = ((gdst p kind n k w er (hd' * gq p + v) : Nat) : Int) := by
        rw [hW5.2.2, j3, d3, j4 v hv, d2 v hv]
        omega
      have hdn := gcnt_le (fun i => !er i && gcw p kind n k (hd' * gq p + v) i != w i) n
      have hdl : gdst p kind n k w er (hd' * gq p + v) ≤ 20 := Nat.le_trans hdn o6
      refine B_S_find_2_53 hn hR ?_
      rw [hF5.2.2.1, Int.toNat_natCast, Int.toNat_natCast, hms]
      refine ⟨by omega, by omega, fun g => absurd g (by omega), fun _ => ⟨by omega, by omega, by omega, fun g => ?_, fun g => ⟨by omega, fun M6 e6 => ?_⟩⟩⟩
      · refine jh M5 ⟨?_, j2, j3, j4, j5⟩
        rw [← Nat.add_assoc, gfnd_s, if_neg (by omega), List.append_nil]
        exact j1
      · have hle : gdst p kind n k w er (hd' * gq p + v) ≤ lim := by omega
        have hF6 : FI p M6 := hF5.keep (fun c h1 h2 => by rw [e6, xU_o (by omega)])
        have hC6 : CI p kind n k M6 := hC5.keep (fun c h1 h2 => by rw [e6, xU_o (by omega)])
        have hu6 : ∀ i, i < k → M6 30 i = dig (gq p) k (hd' * gq p + v) i ∧ dig (gq p) k (hd' * gq p + v) i < gq p := by
          intro i hi
          refine ⟨?_, dig_lt (by omega)⟩
          unfold dig
          by_cases hil : i < k - 1
          · rw [e6, xU_n (by omega), j5 i hil, d1 30 (by decide) (by decide), c2 i hil, show k - 1 - i = (k - 1 - 1 - i) + 1 by omega, Nat.pow_succ, Nat.mul_comm (gq p ^ _), ← Nat.div_div_eq_div_mul]
            congr 3
            rw [Nat.mul_comm, Nat.mul_add_div (by omega), Nat.div_eq_of_lt hv, Nat.add_zero]
          · rw [show i = k - 1 by omega, e6, xU_s, Nat.sub_self, Nat.pow_zero, Nat.div_one, Nat.mul_add_mod_self_right, Nat.mod_eq_of_lt hv]
        have nxt : ∀ M7 : xM, FS 36 38 54 16 p kind n k w er (gfnd p kind n k w er lim (hd' * gq p + v) ++ [hd' * gq p + v]) M7 → (∀ c, c < 29 ∨ (31 < c ∧ c < 36) ∨ 54 < c → M7 c = M c) → (∀ c, c = 29 ∨ c = 31 → M7 c = M5 c) → (∀ i, i < k - 1 → M7 30 i = M5 30 i) → Xv m_S_find 3 nn R P 53 [some (vr 29), some (vi lim), some (vr 36), some (vi (k - 1 : Nat)), some (vi (gq p ^ (k - 1) : Nat)), some (vi hd'), some (vi ((v : Int) + 1)), none] [] M7 := by
          intro M7 a1 a2 a3 a4
          refine jh M7 ⟨?_, a2, by rw [a3 29 (Or.inl rfl)]; exact j3, fun x hx => by rw [a3 31 (Or.inr rfl)]; exact j4 x hx, fun i hi => by rw [a4 i hi]; exact j5 i hi⟩
          rw [← Nat.add_assoc, gfnd_s, if_pos hle]
          exact a1
        have hlen := j1.1
        generalize hS : gfnd p kind n k w er lim (hd' * gq p + v) = S at j1 hlen nxt
        refine c_Nadd_2 hn hR hF6 hC6 (ct := min S.length 16) (by rw [e6, xU_o (by decide)]; exact j1.1) (Nat.min_le_right _ _) (dig (gq p) k (hd' * gq p + v)) hu6 hlt (fun hfull => ?_) (fun hct M7 a1 a2 a3 a4 a5 a6 => ?_)
        · refine nxt M6 ⟨?_, fun c t h1 h2 => ?_⟩ (fun c hc => by rw [e6, xU_o (by omega)]; exact j2 c hc) (fun c hc => by rw [e6, xU_o (by omega)]) (fun i hi => by rw [e6, xU_n (by omega)])
          · rw [e6, xU_o (by decide), j1.1, List.length_append]
            congr 1
            simp only [List.length_cons, List.length_nil]
            omega
          · rw [List.getElem?_append_left (by omega)] at h1
            rw [e6, xU_o (by omega), xU_o (by omega)]
            exact j1.2 c t h1 h2
        · have hml : min S.length 16 = S.length := by omega
          rw [hml] at hct a1 a2 a4 a5 a6
          refine nxt M7 ⟨?_, fun c t h1 h2 => ?_⟩ (fun c hc => by rw [a1 c (by omega) (by omega) (by omega), e6, xU_o (by omega)]; exact j2 c hc) (fun c hc => by rw [a1 c (by omega) (by omega) (by omega), e6, xU_o (by omega)]) (fun i hi => by rw [a1 30 (by decide) (by omega) (by decide), e6, xU_n (by omega)])
          · rw [a2, List.length_append]
            congr 1
            simp only [List.length_cons, List.length_nil]
            omega
          · by_cases hcl : c < S.length
            · rw [List.getElem?_append_left hcl] at h1
              rw [a1 _ (by omega) (by omega) (by omega), a4 c (by omega), e6, xU_o (by omega), xU_o (by omega)]
              exact j1.2 c t h1 h2
            · rw [List.getElem?_append_right (by omega)] at h1
              have hc0 : c = S.length := by
                have := (List.getElem?_eq_some_iff.mp h1).1
                simp only [List.length_cons, List.length_nil] at this
                omega
              rw [hc0, Nat.sub_self] at h1
              have ht : hd' * gq p + v = t := by simpa using h1
              rw [hc0, ← ht]
              exact ⟨fun i hi => a6 i hi, a5⟩
    · obtain ⟨j1, j2, j3, j4, j5⟩ := hJ
      have hF5 : FI p M5 := hF.keep (fun c h1 h2 => j2 c (by omega))
      refine B_S_find_2_53 hn hR ?_
      rw [hF5.2.2.1]
      refine ⟨by omega, by omega, fun _ => ih M5 ⟨?_, j2⟩, fun g => absurd (Int.le_refl _) g⟩
      rw [Nat.succ_mul]
      exact j1
  · obtain ⟨b1, b2⟩ := hI
    rw [← hkk] at b1
    exact B_S_find_2_31 hn hR ⟨by omega, by omega, fun _ => h M2 b1 b2, fun g => absurd (Int.le_refl _) g⟩
  · refine ⟨?_, fun c t h1 => ?_⟩
    · rw [e1, xU_s, Nat.zero_mul]
      rfl
    · rw [Nat.zero_mul] at h1
      simp [gfnd] at h1
