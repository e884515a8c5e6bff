/-! the reference: the list -/
def MLS (D K : Nat → Nat) (rad T : Nat) (L : List (Nat × Nat)) : Prop := (∀ x, x ∈ L → x.1 < T ∧ D x.1 ≤ rad ∧ x.2 = D x.1) ∧ (∀ t, t < T → D t ≤ rad → (t, D t) ∈ L) ∧ L.Pairwise (fun x y => K x.1 ≤ K y.1 ∧ x.1 ≠ y.1)
theorem MLS.skip {D K : Nat → Nat} {rad T : Nat} {L : List (Nat × Nat)} (h : MLS D K rad T L) (hd : rad < D T) : MLS D K rad (T + 1) L :=
  ⟨fun x hx => ⟨by have := (h.1 x hx).1; omega, (h.1 x hx).2⟩, fun t ht hr => h.2.1 t (by
    by_cases e : t = T
    · rw [e] at hr; omega
    · omega) hr, h.2.2⟩
theorem MLS.put {D K : Nat → Nat} {rad T : Nat} {R B : List (Nat × Nat)} (h : MLS D K rad T (R.reverse ++ B)) (hd : D T ≤ rad) (hA : ∀ a, a ∈ R → K a.1 ≤ K T) (hB : ∀ b, b ∈ B → K T ≤ K b.1) : MLS D K rad (T + 1) (R.reverse ++ (T, D T) :: B) := by
  obtain ⟨h1, h2, h3⟩ := h
  rw [List.pairwise_append] at h3
  obtain ⟨p1, p2, p3⟩ := h3
  have lt : ∀ x, x ∈ R.reverse ++ B → x.1 < T := fun x hx => (h1 x hx).1
  refine ⟨fun x hx => ?_, fun t ht hr => ?_, ?_⟩
  · rw [List.mem_append, List.mem_cons] at hx
    rcases hx with hx | rfl | hx
    · have := h1 x (List.mem_append.2 (Or.inl hx)); exact ⟨by omega, this.2⟩
    · exact ⟨Nat.lt_succ_self _, hd, rfl⟩
    · have := h1 x (List.mem_append.2 (Or.inr hx)); exact ⟨by omega, this.2⟩
  · rw [List.mem_append, List.mem_cons]
    by_cases e : t = T
    · subst e; exact Or.inr (Or.inl rfl)
    · rcases List.mem_append.1 (h2 t (by omega) hr) with q | q
      · exact Or.inl q
      · exact Or.inr (Or.inr q)
  · rw [List.pairwise_append]
    refine ⟨p1, List.pairwise_cons.2 ⟨fun b hb => ⟨hB b hb, by have := lt b (List.mem_append.2 (Or.inr hb)); show T ≠ b.1; omega⟩, p2⟩, fun a ha b hb => ?_⟩
    rcases List.mem_cons.1 hb with rfl | hb
    · exact ⟨hA a (List.mem_reverse.1 ha), by have := lt a (List.mem_append.2 (Or.inl ha)); show a.1 ≠ T; omega⟩
    · exact p3 a ha b hb
section MG
variable {nn : Nat} {R : xR} {M : xM} {p kind n k : Nat} {msg w : Nat → Nat} {er : Nat → Bool} {fm : Option (Nat × (Nat → Bool))} {lm : List (Nat × Nat)}
theorem cm_before {P : Int → xM → Prop} (hn : 93 ≤ nn) (hR : RC 93 R) (hC : MC p kind n k M) {t u : Nat} (ht : t < 2147483648) (hu : u < 2147483648) (K : Nat → Nat) (hK : ∀ t, K t = gky (gq p) (gel p kind n k t) n) (h1 : K t < K u → P 1 M) (h0 : ¬ K t < K u → P 0 M) : Ci m_M_isBefore 2 nn R [vr 78, vi t, vi u] M P := by
  refine cm_isBefore hn hR hC ht hu ?_
  rw [← hK t, ← hK u]
  by_cases h : K t < K u
  · rw [if_pos h]; exact h1 h
  · rw [if_neg h]; exact h0 h
theorem cm_list {P : Int → xM → Prop} (hn : 93 ≤ nn) (hR : RC 93 R) (hD : MI p kind n k msg w er fm lm M) {a : Int} (ha : xin a) (K : Nat → Nat) (hK : ∀ t, K t = gky (gq p) (gel p kind n k t) n) (h0 : ¬ (1 ≤ a ∧ a ≤ 3) → P (-1) M) (hmany : 1 ≤ a → a ≤ 3 → gopen er n < k → P (-3) M) (h1 : ∀ s : Nat, a = s → 1 ≤ s → s ≤ 3 → k ≤ gopen er n → ∀ L, MLS (gdm p kind n k w er) K (grad (gopen er n) k s) (gq p ^ k) L → ∀ M' : xM, MI p kind n k msg w er fm L M' → (∀ c, c < 78 → M' c = M c) → P (L.length : Nat) M') : Ci m_M_list 3 nn R [vr 78, vi a] M P := by
  have hC := hD.1
  obtain ⟨o1, o2, o3, o4, o5, o6, o7⟩ := hC.2.1
  have hq := gq_b o1
  have k4 := hC.2.1.k4
  have hop := gopen_le er n
  obtain ⟨e1, e2, e3⟩ := hC.2.1.pow
  refine E_M_list hn hR (B_M_list_0 hn hR ⟨ha, fun g => h0 (by omega), fun g => ⟨fun g2 => cm_kept (er := er) hn hR hC hD.2.2.2.1 ?_, fun g2 => h0 (by omega)⟩⟩)
  rw [hC.2.2.2.2.1]
  refine ⟨by omega, by omega, fun g3 => ?_, fun g3 => hmany (by omega) g2 (by omega)⟩
  obtain ⟨s, rfl⟩ := Int.eq_ofNat_of_zero_le (show 0 ≤ a by omega)
  refine cm_radiusFor hn hR hC (by omega) (by omega) hop (by omega) ?_
  intro M1 m1
  have hN := h1 s rfl (by omega) (by omega) (by omega)
  have hr20 : grad (gopen er n) k s ≤ 20 := by
    unfold grad
    generalize gbd (gopen er n * kblk s) (k - 1) / s = x
    split <;> omega
  generalize grad (gopen er n) k s = rad at hN hr20
  refine upto (σ := xM × List (Nat × Nat)) (fun t q => Xi m_M_list 3 nn R P 43 [some (vr 78), some (vi s), some (vi (gopen er n)), some (vi rad), some (vi t), none, none] [] q.1) (fun t q => (∀ c, c ≠ 78 → c ≠ 88 → c ≠ 89 → q.1 c = M c) ∧ (∀ j, j ≠ 15 → q.1 78 j = M 78 j) ∧ q.1 78 15 = (q.2.length : Nat) ∧ (∀ c x, q.2[c]? = some x → q.1 88 c = (x.1 : Nat) ∧ q.1 89 c = (x.2 : Nat)) ∧ q.2.length ≤ t ∧ MLS (gdm p kind n k w er) K rad t q.2) (gq p ^ k) (fun t q ht hI ih => ?_) (fun q hI => ?_) 0 (M1, []) (by omega) ⟨fun c h1 h2 h3 => by show M1 c = M c; rw [m1, xU_o h1], fun j hj => by show M1 78 j = M 78 j; rw [m1, xU_n hj], by show M1 78 15 = 0; rw [m1, xU_s], fun c x hx => by simp at hx, Nat.le_refl _, fun x hx => by simp at hx, fun t ht => by omega, List.Pairwise.nil⟩
  · obtain ⟨M2, L⟩ := q
    obtain ⟨b1, b2, b3, b4, b5, b6⟩ := hI
    dsimp only at b1 b2 b3 b4 b5 b6
    have hC2 : MC p kind n k M2 := hC.keep (fun j hj => b2 j (by omega)) (fun c h1 h2 => b1 c (by omega) (by omega) (by omega))
    refine B_M_list_43 hn hR (cm_messages hn hR hC2 ?_)
    refine ⟨by omega, by omega, fun g => absurd g (by omega), fun _ => ?_⟩
    refine cm_distanceOf (w := w) (er := er) hn hR hC2 (by rw [b1 83 (by decide) (by decide) (by decide)]; exact hD.2.2.1) (by rw [b1 84 (by decide) (by decide) (by decide)]; exact hD.2.2.2.1) (by omega) hr20 (fun q => ?_) (fun q z z1 z2 => ?_)
    · have hz : gdm p kind n k w er t ≤ n := gcnt_le _ _
      refine ⟨by omega, by omega, fun g => absurd g (by omega), fun _ => ?_⟩
      rw [b3]
      have put : ∀ (Rv B : List (Nat × Nat)) (M3 : xM), (∀ c, c ≠ 88 → c ≠ 89 → M3 c = M2 c) → Rv.reverse ++ B = L → (∀ c x, Rv.reverse[c]? = some x → M3 88 c = (x.1 : Nat) ∧ M3 89 c = (x.2 : Nat)) → (∀ c x, B[c]? = some x → M3 88 (Rv.length + 1 + c) = (x.1 : Nat) ∧ M3 89 (Rv.length + 1 + c) = (x.2 : Nat)) → (∀ b, b ∈ B → K t ≤ K b.1) → (∀ b, b ∈ Rv → K b.1 ≤ K t) → ∀ M4 : xM, M4 = xU M3 88 Rv.length t → ∀ M5 : xM, M5 = xU M4 89 Rv.length (gdm p kind n k w er t : Nat) → ∀ M6 : xM, M6 = xU M5 78 15 (M5 78 15 + 1) → Xi m_M_list 3 nn R P 43 [some (vr 78), some (vi s), some (vi (gopen er n)), some (vi rad), some (vi ((t : Int) + 1)), none, none] [] M6 := by
        intro Rv B M3 f e rA rB hB hA M4 m4 M5 m5 M6 m6
        have hlen : L.length = Rv.length + B.length := by rw [← e, List.length_append, List.length_reverse]
        have f78 : M5 78 = M2 78 := by rw [m5, xU_o (by decide), m4, xU_o (by decide)]; exact f 78 (by decide) (by decide)
        have e88 : M6 88 = M4 88 := by rw [m6, xU_o (by decide), m5, xU_o (by decide)]
        have e89 : M6 89 = M5 89 := by rw [m6, xU_o (by decide)]
        have m89 : M4 89 = M3 89 := by rw [m4, xU_o (by decide)]
        refine ih (M6, Rv.reverse ++ (t, gdm p kind n k w er t) :: B) ⟨fun c h1 h2 h3 => ?_, fun j hj => ?_, ?_, fun c x hx => ?_, ?_, ?_⟩
        · show M6 c = M c
          rw [m6, xU_o h1, m5, xU_o h3, m4, xU_o h2, f c h2 h3]
          exact b1 c h1 h2 h3
        · show M6 78 j = M 78 j
          rw [m6, xU_n hj, f78]
          exact b2 j hj
        · show M6 78 15 = _
          rw [m6, xU_s, f78, b3, List.length_append, List.length_reverse, List.length_cons]
          omega
        · show M6 88 c = _ ∧ M6 89 c = _
          rw [e88, e89]
          replace hx : (Rv.reverse ++ (t, gdm p kind n k w er t) :: B)[c]? = some x := hx
          rw [List.getElem?_append, List.length_reverse] at hx
          by_cases hc : c < Rv.length
          · rw [if_pos hc] at hx
            rw [m4, xU_n (by omega), m5, xU_n (by omega), m89]
            exact rA c x hx
          · rw [if_neg hc] at hx
            by_cases hc2 : c = Rv.length
            · rw [hc2, Nat.sub_self] at hx
              obtain rfl : (t, gdm p kind n k w er t) = x := Option.some.inj hx
              rw [hc2, m4, xU_s, m5, xU_s]
              exact ⟨rfl, rfl⟩
            · obtain ⟨d, rfl⟩ : ∃ d, c = Rv.length + 1 + d := ⟨c - Rv.length - 1, by omega⟩
              rw [show Rv.length + 1 + d - Rv.length = d + 1 by omega, List.getElem?_cons_succ] at hx
              rw [m4, xU_n (by omega), m5, xU_n (by omega), m89]
              exact rB d x hx
        · show (Rv.reverse ++ (t, gdm p kind n k w er t) :: B).length ≤ t + 1
          rw [List.length_append, List.length_reverse, List.length_cons]
          have b5' : L.length ≤ t := b5
          omega
        · have b6' : MLS (gdm p kind n k w er) K rad t L := b6
          rw [← e] at b6'
          exact b6'.put q hA hB
      have ins : ∀ (Rv B : List (Nat × Nat)) (M3 : xM), (∀ c, c ≠ 88 → c ≠ 89 → M3 c = M2 c) → Rv.reverse ++ B = L → (∀ c x, Rv.reverse[c]? = some x → M3 88 c = (x.1 : Nat) ∧ M3 89 c = (x.2 : Nat)) → (∀ c x, B[c]? = some x → M3 88 (Rv.length + 1 + c) = (x.1 : Nat) ∧ M3 89 (Rv.length + 1 + c) = (x.2 : Nat)) → (∀ b, b ∈ B → K t ≤ K b.1) → Xi m_M_list 3 nn R P 73 [some (vr 78), some (vi s), some (vi (gopen er n)), some (vi rad), some (vi t), some (vi (gdm p kind n k w er t : Nat)), some (vi (Rv.length : Nat))] [] M3 := by
        intro Rv
        induction Rv with
        | nil =>
          intro B M3 f e rA rB hB
          refine B_M_list_73 hn hR ?_
          rw [Int.toNat_natCast]
          exact ⟨by decide, fun _ => ⟨by decide, put [] B M3 f e rA rB hB (fun b hb => by simp at hb)⟩, fun g => absurd (by decide) g⟩
        | cons y R' ih2 =>
          intro B M3 f e rA rB hB
          have b5' : L.length ≤ t := b5
          have hlen : L.length = R'.length + 1 + B.length := by rw [← e, List.length_append, List.length_reverse, List.length_cons]
          obtain ⟨y1, y2⟩ := rA R'.length y (by rw [List.reverse_cons, List.getElem?_append, List.length_reverse, if_neg (Nat.lt_irrefl _), Nat.sub_self]; rfl)
          have yt : y.1 < t := (b6.1 y (by show y ∈ L; rw [← e, List.reverse_cons]; simp)).1
          have hC3 : MC p kind n k M3 := hC2.keep (fun j hj => by rw [f 78 (by decide) (by decide)]) (fun c h1 h2 => f c (by omega) (by omega))
          rw [List.length_cons]
          refine B_M_list_73 hn hR ?_
          rw [Int.toNat_natCast, show (((R'.length + 1 : Nat) : Int) - 1).toNat = R'.length by omega, y1]
          refine ⟨by omega, fun g => absurd g (by omega), fun _ => ⟨by omega, cm_before hn hR hC3 (by omega) (by omega) K hK (fun q => ?_) (fun q => ?_)⟩⟩
          · refine ⟨by decide, fun g => absurd g (by decide), fun _ => ⟨by omega, fun M4 m4 M5 m5 => ?_⟩⟩
            have e88 : M5 88 = M4 88 := by rw [m5, xU_o (by decide)]
            have e89 : M4 89 = M3 89 := by rw [m4, xU_o (by decide)]
            have := ih2 (y :: B) M5 (fun c h1 h2 => by rw [m5, xU_o h2, m4, xU_o h1]; exact f c h1 h2) (by rw [← e, List.reverse_cons, List.append_assoc]; rfl) (fun c x hx => ?_) (fun c x hx => ?_) (fun b hb => ?_)
            · rw [show ((R'.length + 1 : Nat) : Int) + (-1) = (R'.length : Nat) by omega]
              exact this
            · have hc := (List.getElem?_eq_some_iff.mp hx).1
              rw [List.length_reverse] at hc
              rw [e88, m4, xU_n (by omega), m5, xU_n (by omega), e89]
              exact rA c x (by rw [List.reverse_cons, List.getElem?_append, List.length_reverse, if_pos hc]; exact hx)
            · cases c with
              | zero =>
                obtain rfl : y = x := Option.some.inj hx
                rw [Nat.add_zero, e88, m4, xU_s, m5, xU_s, e89]
                exact ⟨y1, y2⟩
              | succ d =>
                rw [List.getElem?_cons_succ] at hx
                rw [e88, m4, xU_n (by omega), m5, xU_n (by omega), e89, show R'.length + 1 + (d + 1) = R'.length + 1 + 1 + d by omega]
                exact rB d x hx
            · rcases List.mem_cons.1 hb with rfl | hb
              · omega
              · exact hB b hb
          · refine ⟨by decide, fun _ => ⟨by omega, put (y :: R') B M3 f e rA rB hB (fun b hb => ?_)⟩, fun g => absurd rfl g⟩
            rcases List.mem_cons.1 hb with rfl | hb
            · omega
            · have hp : L.Pairwise (fun x y => K x.1 ≤ K y.1 ∧ x.1 ≠ y.1) := b6.2.2
              rw [← e, List.pairwise_append, List.reverse_cons, List.pairwise_append] at hp
              have := (hp.1.2.2 b (List.mem_reverse.2 hb) y (List.mem_singleton.2 rfl)).1
              omega
      have := ins L.reverse [] M2 (fun _ _ _ => rfl) (by rw [List.reverse_reverse, List.append_nil]) (by rw [List.reverse_reverse]; exact b4) (fun c x hx => by simp at hx) (fun b hb => by simp at hb)
      rw [List.length_reverse] at this
      exact this
    · refine ⟨by omega, by omega, fun _ => ih (M2, L) ⟨b1, b2, b3, b4, Nat.le_succ_of_le b5, b6.skip q⟩, fun g => absurd (by omega) g⟩
  · obtain ⟨M2, L⟩ := q
    obtain ⟨b1, b2, b3, b4, b5, b6⟩ := hI
    dsimp only at b1 b2 b3 b4 b5 b6
    have hC2 : MC p kind n k M2 := hC.keep (fun j hj => b2 j (by omega)) (fun c h1 h2 => b1 c (by omega) (by omega) (by omega))
    refine B_M_list_43 hn hR (cm_messages hn hR hC2 ?_)
    refine ⟨by omega, by omega, fun _ => ?_, fun g => absurd (Int.le_refl _) g⟩
    show P (M2 78 15) M2
    rw [b3]
    obtain ⟨a1, a2, a3, a4, a5, a6, a7, a8, a9⟩ := hD
    have b5' : L.length ≤ gq p ^ k := b5
    exact hN L b6 M2 ⟨hC2, by rw [b1 82 (by decide) (by decide) (by decide)]; exact a2, by rw [b1 83 (by decide) (by decide) (by decide)]; exact a3, by rw [b1 84 (by decide) (by decide) (by decide)]; exact a4, by rw [b2 12 (by decide)]; exact a5, by rw [b2 12 (by decide), b1 86 (by decide) (by decide) (by decide)]; exact a6, b3, by omega, fun c x hx => ⟨(b4 c x hx).1, (b4 c x hx).2, (b6.1 x (List.mem_of_getElem? hx)).1⟩⟩ (fun c hc => b1 c (by omega) (by omega) (by omega))
end MG
