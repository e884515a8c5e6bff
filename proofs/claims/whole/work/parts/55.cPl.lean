/-! Passing.leastWeight: the values are those of polynomials whose leading weights are least -/
def kE (p : Nat) (xs ys : Nat → Nat) (s : Nat) : Nat → Nat → Nat → Nat
  | 0, j, t => kval p (ys (t / kblk s)) j s (t % kblk s)
  | i + 1, j, t => gmul p (xs (t / kblk s)) (kE p xs ys s i j t) ^^^ (if ku s (t % kblk s) = 0 then 0 else kE p xs ys s i j (t - 1))
theorem kval_lt {p y j s c : Nat} (hp : p ∈ grims) (hy : y < gq p) : kval p y j s c < gq p := by
  have := gq_b hp
  unfold kval
  split
  · exact gpow_lt hp hy _
  · omega
theorem kE_lt {p s : Nat} {xs ys : Nat → Nat} (hp : p ∈ grims) (hx : ∀ o, xs o < gq p) (hy : ∀ o, ys o < gq p) : ∀ i j t, kE p xs ys s i j t < gq p
  | 0, j, t => kval_lt hp (hy _)
  | i + 1, j, t => by
    have := gq_b hp
    rw [kE]
    refine (g_two hp (g_two hp (hx _) (kE_lt hp hx hy i j t)).1 ?_).2.2.2
    split
    · omega
    · exact kE_lt hp hx hy i j (t - 1)
def fe {p : Nat} (hp : p ∈ grims) (a : Nat) : GE p := if h : a < gq p then ⟨a, h⟩ else ge0 hp
theorem fe_v {p a : Nat} (hp : p ∈ grims) (h : a < gq p) : (fe hp a).1 = a := by
  unfold fe
  rw [dif_pos h]
def kEF {p : Nat} (hp : p ∈ grims) (xs ys : Nat → Nat) (s k1 : Nat) : Nat → Nat → Nat → GE p := fun w j t => if k1 * j ≤ w then fe hp (kE p xs ys s (w - k1 * j) j t) else ge0 hp
theorem kEF_cond {p s k1 : Nat} (hp : p ∈ grims) {xs ys : Nat → Nat} (hx : ∀ o, xs o < gq p) (hy : ∀ o, ys o < gq p) : @kcond (GE p) (gfield p hp) (kEF hp xs ys s k1) k1 (fun t => fe hp (xs (t / kblk s))) (fun t => decide (ku s (t % kblk s) = 0)) := by
  intro t w j hw
  have h1 : k1 * j ≤ w + 1 := by omega
  apply ge_ext
  unfold kEF
  rw [if_pos h1, if_pos hw, if_pos hw]
  rw [show w + 1 - k1 * j = (w - k1 * j) + 1 by omega, fe_v hp (kE_lt hp hx hy _ _ _), kE]
  have e1 : ∀ a b : GE p, (@HAdd.hAdd _ _ _ (@instHAdd _ (gfield p hp).toAdd) a b).1 = a.1 ^^^ b.1 := fun _ _ => rfl
  have e2 : ∀ a b : GE p, (@HMul.hMul _ _ _ (@instHMul _ (gfield p hp).toMul) a b).1 = gmul p a.1 b.1 := fun _ _ => rfl
  rw [e1, e2, e2, fe_v hp (hx _), fe_v hp (kE_lt hp hx hy _ _ _), fe_v hp (kE_lt hp hx hy _ _ _)]
  congr 1
  by_cases hu : ku s (t % kblk s) = 0
  · rw [if_pos hu]
    simp only [hu, decide_true, if_true]
    exact ((g_one hp (kE_lt hp hx hy _ _ _)).2.1).symm
  · rw [if_neg hu]
    simp only [hu, decide_false]
    exact ((g_one hp (kE_lt hp hx hy _ _ _)).2.2.1).symm
def kmono {p : Nat} (hp : p ∈ grims) (w0 j0 : Nat) : Nat → Nat → GE p := fun w j => if w = w0 ∧ j = j0 then ge1 hp else ge0 hp
theorem sm_one {F : Type} [Lean.Grind.Field F] {f : Nat → F} {a : Nat} : ∀ {n : Nat}, a < n → (∀ i, i < n → i ≠ a → f i = 0) → sm f n = f a
  | 0, h, _ => absurd h (Nat.not_lt_zero _)
  | n + 1, h, hz => by
    rw [sm]
    by_cases e : a = n
    · subst e
      rw [sm_zero (fun i hi => hz i (by omega) (by omega))]
      grind
    · rw [sm_one (show a < n by omega) (fun i hi => hz i (by omega)), hz n (by omega) (fun q => e q.symm)]
      grind
theorem kmono_ev {p B P w0 j0 : Nat} (hp : p ∈ grims) (E : Nat → Nat → Nat → GE p) (hw : w0 < B) (hj : j0 < P) (t : Nat) : @ev (GE p) (gfield p hp) E B P (kmono hp w0 j0) t = E w0 j0 t := by
  letI := gfield p hp
  unfold ev
  rw [sm_one hw (fun w _ hne => sm_zero (fun j _ => ?_)), sm_one hj (fun j _ hne => ?_)]
  · unfold kmono
    rw [if_pos ⟨rfl, rfl⟩]
    show geM hp (ge1 hp) _ = _
    rw [geM_comm, geM_1]
  · unfold kmono
    rw [if_neg (fun q => hne q.2)]
    show geM hp (ge0 hp) _ = ge0 hp
    rw [geM_comm, geM_0]
  · unfold kmono
    rw [if_neg (fun q => hne q.1)]
    show geM hp (ge0 hp) _ = ge0 hp
    rw [geM_comm, geM_0]
theorem kInv_0 {p B P k1 : Nat} (hp : p ∈ grims) (E : Nat → Nat → Nat → GE p) (hB : k1 * P < B) : @kInv (GE p) (gfield p hp) E B P k1 0 (fun j => kmono hp (k1 * j) j) (fun j => k1 * j) := by
  letI := gfield p hp
  refine ⟨fun j hj => ⟨⟨?_, fun w' j' hlt => ?_⟩, fun w' j' h => ?_, fun t ht => absurd ht (Nat.not_lt_zero _)⟩, fun q w j hs _ hq => (hs w j hq.1).1⟩
  · unfold kmono
    dsimp only
    rw [if_pos ⟨rfl, rfl⟩]
    exact (ge01 hp).symm
  · unfold kmono
    unfold ple at hlt
    dsimp only at hlt ⊢
    rw [if_neg (fun q => by omega)]
    rfl
  · unfold kmono at h
    dsimp only at h
    by_cases hc : w' = k1 * j ∧ j' = j
    · obtain ⟨rfl, rfl⟩ := hc
      have : k1 * j' ≤ k1 * P := Nat.mul_le_mul_left _ (by omega)
      exact ⟨Nat.le_refl _, by omega, hj⟩
    · rw [if_neg hc] at h
      exact absurd rfl h
def lmn (b : Nat) (wt : Nat → Nat) : Nat → Nat
  | 0 => b
  | j + 1 => if wt j < lmn b wt j then wt j else lmn b wt j
theorem lmn_le (b : Nat) (wt : Nat → Nat) : ∀ j, lmn b wt j ≤ b
  | 0 => Nat.le_refl _
  | j + 1 => by
    have := lmn_le b wt j
    rw [lmn]
    split <;> omega

theorem c_leastWeight {nn : Nat} {R : xR} {M : xM} {P : Int → xM → Prop} (hn : 78 ≤ nn) (hR : RC 78 R) {p kind n k s bound : Nat} {w : Nat → Nat} {er : Nat → Bool} (hF : FI p M) (hC : CI p kind n k M) (hW : WI p n w er M) (hs1 : 1 ≤ s) (hs3 : s ≤ 3) (hbd : bound ≤ 1000) (pw : Nat) (hpw : pw = if 16 < bound / (k - 1) + 1 then 16 else bound / (k - 1) + 1) (xs ys : Nat → Nat) (hxs : ∀ o t, (opl er n)[o]? = some t → xs o = gpw p t ∧ ys o = gyv p kind n w t) (hxl : ∀ o, xs o < gq p) (hyl : ∀ o, ys o < gq p)
    (h : ∀ (G : Nat → Nat → Nat → GE p) (wt : Nat → Nat), @kInv (GE p) (gfield p hC.1.1) (kEF hC.1.1 xs ys s (k - 1)) 1000 pw (k - 1) (gopen er n * kblk s) G wt → ∀ M' : xM, (∀ c, c < 56 ∨ 78 ≤ c → M' c = M c) → P (lmn bound wt pw) M') : Ci m_P_leastWeight 3 nn R [vr 56, vi s, vi bound] M P := by
  obtain ⟨o1, o2, o3, o4, o5, o6, o7⟩ := hC.1
  have hp : p ∈ grims := o1
  have hq := gq_b o1
  have k4 := hC.1.k4
  have hop := gopen_le er n
  obtain ⟨-, kb6, kb1, -⟩ := kof_end s (by omega) hs1
  have hC120 : gopen er n * kblk s ≤ 120 := by
    have h1 : gopen er n * kblk s ≤ 20 * kblk s := Nat.mul_le_mul_right _ (by omega)
    omega
  generalize hpl : gopen er n = pl at h hop hC120
  generalize hblk : kblk s = blk at h kb6 kb1 hC120
  have hp16 : pw ≤ 16 := by rw [hpw]; generalize bound / (k - 1) = z; split <;> omega
  have hp1 : 1 ≤ pw := by rw [hpw]; generalize bound / (k - 1) = z; split <;> omega
  refine E_P_leastWeight hn hR (B_P_leastWeight_0 hn hR ?_)
  refine c_setPlaces hn hR hF hC hW (fun M1 a1 a2 a3 => ?_)
  rw [hpl] at a2
  have es : (s : Int) * ((s : Int) + 1) = ((s * (s + 1) : Nat) : Int) := by rw [Int.natCast_mul]; rfl
  have es2 : s * (s + 1) ≤ 12 := by
    have : s * (s + 1) ≤ 3 * 4 := Nat.mul_le_mul hs3 (by omega)
    omega
  rw [es]
  refine ⟨by omega, fun M2 e2 => ?_⟩
  have eb : Int.tdiv ((s * (s + 1) : Nat) : Int) 2 = (blk : Int) := by rw [← hblk]; rfl
  rw [eb] at e2
  have d1 : M2 5 3 = k := by rw [e2, xU_o (by decide), a1 5 (by decide) (by decide) (by decide)]; exact hC.2.2.2.1
  have ed : Int.tdiv (bound : Int) ((k : Int) - 1) = ((bound / (k - 1) : Nat) : Int) := by rw [show (k : Int) - 1 = ((k - 1 : Nat) : Int) by omega]; rfl
  have hbk : bound / (k - 1) ≤ bound := Nat.div_le_self _ _
  generalize hbq : bound / (k - 1) = bq at hpw hbk ed
  rw [d1, ed]
  refine ⟨by omega, by omega, by omega, by omega, by omega, fun M3 e3 => ?_⟩
  have epw : (if (16 : Int) < (bq : Int) + 1 then (16 : Int) else (bq : Int) + 1) = (pw : Int) := by
    rw [hpw]
    split <;> split <;> omega
  rw [epw] at e3
  have b0 : ∀ c, c < 56 ∨ 58 < c → M3 c = M c := fun c hc => by rw [e3, xU_o (by omega), e2, xU_o (by omega)]; exact a1 c (by omega) (by omega) (by omega)
  have b1 : M3 56 3 = pl := by rw [e3, xU_n (by decide), e2, xU_n (by decide)]; exact a2
  have b2 : M3 56 4 = blk := by rw [e3, xU_n (by decide), e2, xU_s]
  have b3 : M3 56 5 = pw := by rw [e3, xU_s]
  have b4 : ∀ o, o < pl → M3 57 o = xs o ∧ M3 58 o = ys o := by
    intro o ho
    have hl : o < (opl er n).length := by rw [opl_len, hpl]; exact ho
    have ht : (opl er n)[o]? = some (opl er n)[o] := List.getElem?_eq_getElem hl
    rw [(hxs o _ ht).1, (hxs o _ ht).2, e3, xU_o (by decide), xU_o (by decide), e2, xU_o (by decide), xU_o (by decide)]
    exact a3 o _ ht
  -- the last loop: the least of the weights
  have last : ∀ (G : Nat → Nat → Nat → GE p) (wt : Nat → Nat) (M9 : xM), @kInv (GE p) (gfield p hp) (kEF hp xs ys s (k - 1)) 1000 pw (k - 1) (pl * blk) G wt → (∀ c, c < 56 ∨ 78 ≤ c → M9 c = M c) → M9 56 5 = pw → (∀ j, j < pw → M9 60 j = wt j ∧ wt j < 1000000) → Xi m_P_leastWeight 3 nn R P 133 [some (vr 56), some (vi s), some (vi bound), some (vi bound), some (vi 0)] [] M9 := by
    intro G wt M9 hI9 f1 f2 f3
    refine upto (σ := Unit) (fun j _ => Xi m_P_leastWeight 3 nn R P 133 [some (vr 56), some (vi s), some (vi bound), some (vi (lmn bound wt j)), some (vi j)] [] M9) (fun _ _ => True) pw (fun j _ hj _ ih => ?_) (fun _ _ => ?_) 0 () (by omega) trivial
    · have ih := ih () trivial
      have hle := lmn_le bound wt j
      refine B_P_leastWeight_133 hn hR ?_
      rw [f2, Int.toNat_natCast, (f3 j hj).1]
      have := (f3 j hj).2
      refine ⟨by omega, by omega, fun g => absurd g (by omega), fun _ => ⟨by omega, by omega, by omega, ?_⟩⟩
      rw [lmn] at ih
      have e : (if (wt j : Int) < (lmn bound wt j : Int) then (wt j : Int) else (lmn bound wt j : Int)) = ((if wt j < lmn bound wt j then wt j else lmn bound wt j : Nat) : Int) := by
        split <;> split <;> omega
      rw [e]
      exact ih
    · refine B_P_leastWeight_133 hn hR ?_
      rw [f2]
      exact ⟨by omega, by omega, fun _ => h G wt hI9 M9 f1, fun g => absurd (Int.le_refl _) g⟩
  -- the conditions one by one
  have conds : ∀ M4 : xM, (∀ c, c < 56 ∨ 78 ≤ c → M4 c = M c) → M4 56 = M3 56 → M4 57 = M3 57 → (∀ j, j < pw → M4 60 j = ((k - 1) * j : Nat)) → (∀ t, t < pl * blk → M4 59 t = (if ku s (t % blk) = 0 then 1 else 0)) → (∀ j t, j < pw → t < pl * blk → M4 (62 + j) t = (kval p (ys (t / blk)) j s (t % blk) : Nat)) → Xi m_P_leastWeight 3 nn R P 98 [some (vr 56), some (vi s), some (vi bound), some (vi 0), none] [] M4 := by
    intro M4 c1 c2 c3 c4 c5 c6
    letI : Lean.Grind.Field (GE p) := gfield p hp
    have hE := kEF_cond (s := s) (k1 := k - 1) hp hxl hyl
    rw [hblk] at hE
    generalize hEE : kEF hp xs ys s (k - 1) = E at hE last
    refine upto (σ := xM) (fun c M5 => Xi m_P_leastWeight 3 nn R P 98 [some (vr 56), some (vi s), some (vi bound), some (vi c), none] [] M5) (fun c M5 => (∀ d, d < 56 ∨ 78 ≤ d → M5 d = M d) ∧ M5 56 = M3 56 ∧ M5 57 = M3 57 ∧ (∀ t, t < pl * blk → M5 59 t = (if ku s (t % blk) = 0 then 1 else 0)) ∧ ∃ (G : Nat → Nat → Nat → GE p) (wt : Nat → Nat), kInv E 1000 pw (k - 1) c G wt ∧ (∀ j, j < pw → M5 60 j = wt j ∧ wt j ≤ 48 + c) ∧ ∀ j t, j < pw → c / blk * blk ≤ t → t < pl * blk → M5 (62 + j) t = ((ev E 1000 pw (G j) t).1 : Nat)) (pl * blk) (fun c M5 hc hI ih => ?_) (fun M5 hI => ?_) 0 M4 (by omega) ⟨c1, c2, c3, c5, fun j => kmono hp ((k - 1) * j) j, fun j => (k - 1) * j, kInv_0 hp E ?_, fun j hj => ⟨c4 j hj, ?_⟩, fun j t hj _ ht => ?_⟩
    · obtain ⟨f1, f2, f3, f4, G, wt, g1, g2, g3⟩ := hI
      have hF5 : FI p M5 := hF.keep (fun d h1 h2 => f1 d (by omega))
      have hdv : c / blk < pl := Nat.div_lt_of_lt_mul (by rw [Nat.mul_comm]; exact hc)
      have hdm := Nat.div_add_mod c blk
      have hml := Nat.mod_lt c kb1
      rw [Nat.mul_comm] at hdm
      refine B_P_leastWeight_98 hn hR ?_
      rw [f2, b1, b2, ← Int.natCast_mul, show Int.tdiv (c : Int) (blk : Int) = ((c / blk : Nat) : Int) from rfl]
      refine ⟨by omega, by omega, fun g => absurd g (by omega), fun _ => ⟨by omega, by omega, by omega, ?_⟩⟩
      have hu0 : ∀ i, decide (ku s (i * blk % blk) = 0) = true := by
        intro i
        rw [Nat.mul_mod_left]
        have : ku s 0 = 0 := by unfold ku; exact Nat.zero_sub _
        rw [this]
        rfl
      refine c_meet hn hR hF5 (by rw [f2]; exact b3) hp16 (by rw [f2]; exact b1) (by omega) (by rw [f2]; exact b2) kb1 kb6 hdv (by omega) (by omega) xs wt (fun j t => (ev E 1000 pw (G j) t).1) (fun t => decide (ku s (t % blk) = 0)) (fun i hi => by rw [f3]; exact ⟨(b4 i hi).1, hxl i⟩) (fun t ht => ?_) hu0 (fun j t hj h1 h2 => ⟨g3 j t hj h1 h2, (ev E 1000 pw (G j) t).2⟩) (fun j hj => ⟨(g2 j hj).1, by have := (g2 j hj).2; omega⟩) (fun hz => ?_) (fun l hl hvl hmin M6 m1 m2 m3 m4 => ?_)
      · rw [f4 t ht]
        by_cases hk : ku s (t % blk) = 0 <;> simp [hk]
      · refine ih M5 ⟨f1, f2, f3, f4, G, wt, k_same g1 (fun j hj => ge_ext (hz j hj)), fun j hj => ⟨(g2 j hj).1, by have := (g2 j hj).2; omega⟩, fun j t hj h1 h2 => g3 j t hj ?_ h2⟩
        have : c / blk ≤ (c + 1) / blk := Nat.div_le_div_right (by omega)
        have := Nat.mul_le_mul_right blk this
        omega
      · have hlf : ev E 1000 pw (G l) c ≠ 0 := fun q => hvl (congrArg Subtype.val q)
        have h00 : (fun t => decide (ku s (t % blk) = 0)) 0 = true := by
          have := hu0 0
          rwa [Nat.zero_mul] at this
        have st := k_step (l := l) hE h00 g1 hl (by have := (g2 l hl).2; omega) hlf (fun j hj hne => hmin j hj (fun q => hne (ge_ext q)))
        refine ih M6 ⟨fun d hd => by rw [m1 d (by omega)]; exact f1 d hd, by rw [m1 56 (by decide)]; exact f2, by rw [m1 57 (by decide)]; exact f3, fun t ht => by rw [m1 59 (by decide)]; exact f4 t ht, _, _, st, fun j hj => ⟨m2 j hj, ?_⟩, fun j t hj h1 h2 => ?_⟩
        · have q1 := (g2 j hj).2
          have q2 := (g2 l hl).2
          try dsimp only
          split <;> omega
        · have hdd : c / blk ≤ (c + 1) / blk := Nat.div_le_div_right (by omega)
          have hdb := Nat.mul_le_mul_right blk hdd
          try dsimp only
          by_cases hjl : j = l
          · rw [hjl, if_pos rfl, m4 t (by omega) h2, ev_lin]
            have hls := (g1.1 l hl).2.1
            have hll := (g1.1 l hl).1
            have hb' : ∀ j', G l (1000 - 1) j' = 0 := fun j' => hll.2 _ _ (Or.inl (by have := (g2 l hl).2; omega))
            rw [ev_x (hE t) hls hb']
            have e1 : ∀ a b : GE p, (a + b).1 = a.1 ^^^ b.1 := fun _ _ => rfl
            have e2 : ∀ a b : GE p, (a * b).1 = gmul p a.1 b.1 := fun _ _ => rfl
            have e3 : ∀ a : GE p, (-a).1 = a.1 := fun _ => rfl
            rw [e1, e1, e2, e2, e2, e3, fe_v hp (hxl _), fe_v hp (hxl _)]
            have hvt := (ev E 1000 pw (G l) t).2
            rw [g_distl hp (hxl _) (hxl _) hvt]
            have h5 : gmul p (if (decide (ku s (t % blk) = 0)) = true then (0 : GE p) else 1).1 (ev E 1000 pw (G l) (t - 1)).1 = (if decide (ku s (t % blk) = 0) = true then 0 else (ev E 1000 pw (G l) (t - 1)).1) := by
              by_cases hk : decide (ku s (t % blk) = 0) = true
              · rw [if_pos hk, if_pos hk]
                exact (g_one hp (ev E 1000 pw (G l) (t - 1)).2).2.1
              · rw [if_neg hk, if_neg hk]
                exact (g_one hp (ev E 1000 pw (G l) (t - 1)).2).2.2.1
            rw [h5]
            congr 1
            rw [← Nat.xor_assoc]
            congr 1
            exact Nat.xor_comm _ _
          · rw [if_neg hjl, m3 j t hj hjl (by omega) h2, ev_lin]
            have e1 : ∀ a b : GE p, (a + b).1 = a.1 ^^^ b.1 := fun _ _ => rfl
            have e2 : ∀ a b : GE p, (a * b).1 = gmul p a.1 b.1 := fun _ _ => rfl
            have e3 : ∀ a : GE p, (-a).1 = a.1 := fun _ => rfl
            have e4 : ((ev E 1000 pw (G l) c)⁻¹).1 = ginv p (ev E 1000 pw (G l) c).1 := by
              show (geI hp (ev E 1000 pw (G l) c)).1 = _
              unfold geI
              rw [dif_neg hvl]
            rw [e1, e2, e3, e2, e4]
            by_cases hct : c ≤ t
            · rw [if_pos hct]
              rfl
            · rw [if_neg hct]
              have z1 : ev E 1000 pw (G l) t = 0 := (g1.1 l hl).2.2 t (by omega)
              rw [z1]
              have z2 : ((0 : GE p)).1 = 0 := rfl
              rw [z2, g_zr hp (g_two hp (ev E 1000 pw (G j) c).2 (g_inv hp (ev E 1000 pw (G l) c).2 hvl).2.2.2.1).1, Nat.xor_zero]
    · obtain ⟨f1, f2, f3, f4, G, wt, g1, g2, g3⟩ := hI
      refine B_P_leastWeight_98 hn hR ?_
      rw [f2, b1, b2, ← Int.natCast_mul]
      exact ⟨by omega, by omega, fun _ => last G wt M5 g1 f1 (by rw [f2]; exact b3) (fun j hj => ⟨(g2 j hj).1, by have := (g2 j hj).2; omega⟩), fun g => absurd (Int.le_refl _) g⟩
    · have : (k - 1) * pw ≤ 3 * 16 := Nat.mul_le_mul (by omega) hp16
      omega
    · have : (k - 1) * j ≤ 3 * 16 := Nat.mul_le_mul (by omega) (by omega)
      omega
    · have hkj : (k - 1) * j < 1000 := by
        have : (k - 1) * j ≤ 3 * 16 := Nat.mul_le_mul (by omega) (by omega)
        omega
      rw [c6 j t hj ht, kmono_ev hp E hkj hj, ← hEE]
      unfold kEF
      rw [if_pos (Nat.le_refl _), Nat.sub_self, fe_v hp (kE_lt hp hxl hyl _ _ _), kE, hblk]
  -- the values at the beginning
  have cell : ∀ t, t < pl * blk → t / blk < pl ∧ t % blk < blk ∧ t / blk * blk + t % blk = t := by
    intro t ht
    refine ⟨Nat.div_lt_of_lt_mul (by rw [Nat.mul_comm]; exact ht), Nat.mod_lt t kb1, ?_⟩
    have := Nat.div_add_mod t blk
    rw [Nat.mul_comm] at this
    exact this
  have cell2 : ∀ o c, c < blk → (o * blk + c) / blk = o ∧ (o * blk + c) % blk = c := by
    intro o c hc
    rw [Nat.mul_comm]
    exact ⟨by rw [Nat.mul_add_div (by omega), Nat.div_eq_of_lt hc, Nat.add_zero], by rw [Nat.mul_add_mod, Nat.mod_eq_of_lt hc]⟩
  refine upto (σ := xM) (fun j M4 => Xi m_P_leastWeight 3 nn R P 39 [some (vr 56), some (vi s), some (vi bound), some (vi j), none] [] M4) (fun j M4 => (∀ c, c < 59 ∨ c = 61 ∨ 78 ≤ c → M4 c = M3 c) ∧ (∀ i, i < j → M4 60 i = ((k - 1) * i : Nat)) ∧ (0 < j → ∀ t, t < pl * blk → M4 59 t = (if ku s (t % blk) = 0 then 1 else 0)) ∧ ∀ i t, i < j → t < pl * blk → M4 (62 + i) t = (kval p (ys (t / blk)) i s (t % blk) : Nat)) pw (fun j M4 hj hI ih => ?_) (fun M4 hI => ?_) 0 M3 (by omega) ⟨fun _ _ => rfl, fun i hi => by omega, fun hj => by omega, fun i t hi => by omega⟩
  · obtain ⟨c1, c2, c3, c4⟩ := hI
    refine B_P_leastWeight_39 hn hR ?_
    rw [c1 56 (by omega), c1 5 (by omega), b3, b0 5 (by omega), hC.2.2.2.1, Int.toNat_natCast]
    refine ⟨by omega, by omega, fun g => absurd g (by omega), fun _ => ⟨by omega, fun M5 e5 => ?_⟩⟩
    have ew : (j : Int) * ((k : Int) - 1) = (((k - 1) * j : Nat) : Int) := by
      rw [show (k : Int) - 1 = ((k - 1 : Nat) : Int) by omega, Int.mul_comm, ← Int.natCast_mul]
    rw [ew] at e5
    refine upto (σ := xM) (fun o M6 => Xi m_P_leastWeight 3 nn R P 67 [some (vr 56), some (vi s), some (vi bound), some (vi j), some (vi o)] [] M6) (fun o M6 => (∀ c, c ≠ 59 → c ≠ 62 + j → M6 c = M5 c) ∧ (∀ t, t < o * blk ∨ (0 < j ∧ t < pl * blk) → M6 59 t = (if ku s (t % blk) = 0 then 1 else 0)) ∧ ∀ t, t < o * blk → M6 (62 + j) t = (kval p (ys (t / blk)) j s (t % blk) : Nat)) pl (fun o M6 ho hJ jh => ?_) (fun M6 hJ => ?_) 0 M5 (by omega) ⟨fun _ _ _ => rfl, fun t ht => by rw [e5, xU_o (by decide)]; exact c3 (by omega) t (by omega), fun t ht => by omega⟩
    · obtain ⟨j1, j2, j3⟩ := hJ
      have m3 : ∀ c, c < 59 → M6 c = M3 c := fun c hc => by rw [j1 c (by omega) (by omega), e5, xU_o (by omega)]; exact c1 c (by omega)
      have hF6 : FI p M6 := hF.keep (fun c h1 h2 => by rw [m3 c (by omega)]; exact b0 c (by omega))
      have hobl := mul_blk (blk := blk) ho
      refine B_P_leastWeight_67 hn hR ?_
      rw [m3 56 (by decide), b1]
      refine ⟨by omega, by omega, fun g => absurd g (by omega), fun _ => ?_⟩
      have q1 : M6 56 4 = (kblk s : Nat) := by rw [m3 56 (by decide), hblk]; exact b2
      refine c_setValues hn hR hF6 hs1 hs3 (by omega) (by omega) q1 (by rw [m3 58 (by decide)]; exact (b4 o ho).2) (hyl o) (fun M7 r1 r2 r3 => ?_)
      rw [hblk] at r2 r3
      refine jh M7 ⟨fun c h1 h2 => by rw [r1 c h1 h2]; exact j1 c h1 h2, fun t ht => ?_, fun t ht => ?_⟩
      · rw [Nat.succ_mul] at ht
        by_cases hin : o * blk ≤ t ∧ t < o * blk + blk
        · have hc := (r3 (t - o * blk) (by omega)).1
          rw [show o * blk + (t - o * blk) = t by omega] at hc
          have hm := (cell2 o (t - o * blk) (by omega)).2
          rw [show o * blk + (t - o * blk) = t by omega] at hm
          rw [hc, hm]
        · rw [(r2 t (by omega)).1]
          exact j2 t (by omega)
      · rw [Nat.succ_mul] at ht
        by_cases hin : o * blk ≤ t
        · have hc := (r3 (t - o * blk) (by omega)).2
          have hm := cell2 o (t - o * blk) (by omega)
          rw [show o * blk + (t - o * blk) = t by omega] at hc hm
          rw [hc, hm.1, hm.2]
        · rw [(r2 t (by omega)).2]
          exact j3 t (by omega)
    · obtain ⟨j1, j2, j3⟩ := hJ
      have m3 : M6 56 = M3 56 := by rw [j1 56 (by omega) (by omega), e5, xU_o (by decide)]; exact c1 56 (by omega)
      refine B_P_leastWeight_67 hn hR ?_
      rw [m3, b1]
      refine ⟨by omega, by omega, fun _ => ih M6 ⟨fun c hc => by rw [j1 c (by omega) (by omega), e5, xU_o (by omega)]; exact c1 c hc, fun i hi => ?_, fun _ t ht => j2 t (Or.inl ht), fun i t hi ht => ?_⟩, fun g => absurd (Int.le_refl _) g⟩
      · rw [j1 60 (by decide) (by omega), e5]
        by_cases hij : i = j
        · rw [hij, xU_s]
        · rw [xU_n hij]; exact c2 i (by omega)
      · by_cases hij : i = j
        · rw [hij]; exact j3 t ht
        · rw [j1 _ (by omega) (by omega), e5, xU_o (by omega)]; exact c4 i t (by omega) ht
  · obtain ⟨c1, c2, c3, c4⟩ := hI
    refine B_P_leastWeight_39 hn hR ?_
    rw [c1 56 (by omega), b3]
    exact ⟨by omega, by omega, fun _ => conds M4 (fun c hc => by rw [c1 c (by omega)]; exact b0 c (by omega)) (c1 56 (by omega)) (c1 57 (by omega)) c2 (c3 (by omega)) c4, fun g => absurd (Int.le_refl _) g⟩
