/-! the last pairs of calls -/
theorem gloc_congr {p : Nat} {d1 d2 : Nat → Bool} : ∀ n, (∀ i, i < n → d1 i = d2 i) → ∀ i, gloc p d1 n i = gloc p d2 n i
  | 0, _, _ => rfl
  | q + 1, h, i => by
    have ih := gloc_congr (p := p) q (fun i hi => h i (by omega))
    simp only [gloc, h q (by omega), ih]
theorem FLk.no {p kind n k : Nat} {fo fm : Option (Nat × (Nat → Bool))} (h : FLk p kind n k fo fm) (e : fo = none) : fm = none := by
  rcases h with ⟨_, h⟩ | ⟨t, u, d1, d2, h, _⟩
  · exact h
  · rw [e] at h
    cases h
theorem FLk.yes {p kind n k t : Nat} {d : Nat → Bool} {fo fm : Option (Nat × (Nat → Bool))} (h : FLk p kind n k fo fm) (e : fo = some (t, d)) : ∃ u d2, fm = some (u, d2) ∧ SW p kind n k t u ∧ ∀ i, i < n → d i = d2 i := by
  rcases h with ⟨h, _⟩ | ⟨t', u, d1, d2, h, h2, h3, h4⟩
  · rw [e] at h
    cases h
  · rw [e] at h
    cases h
    exact ⟨u, d2, h2, h3, h4⟩
section PR5
variable {nn : Nat} {R : xR} {M : xM}
theorem l_encode (hn : 93 ≤ nn) (hR : RC 93 R) (h : LI M) {a : Int} (ha : xin a) : Ci m_D_encode 2 nn R [vr 0, vi a] M (fun z1 M1 => Ci m_M_encode 3 nn R [vr 78, vi a] M1 (fun z2 M2 => z1 = z2 ∧ xin z1 ∧ LI M2)) := by
  have hL := h
  obtain ⟨p, kind, n, k, msg, w, er, fo, ls, fm, lm, hD, hM, hf, hl⟩ := h
  have hc := hM.1.2.1
  have hq := gq_b hc.1
  have n20 := hc.2.2.2.2.2.1
  refine c_encode (by omega) hR.low PVT_all hD ha (fun sys hs M1 d1 d2 => ?_)
  refine cm_encode hn hR (hM.low d2) ha (fun _ => enc_ex hc (fun i hi => (hM.2.1 i hi).2)) (fun t ht e1 e2 M2 g1 g2 => ?_)
  have e : ∀ i, i < n → gel p kind n k t i = genc p kind n k msg sys i := by
    intro i hi
    cases sys with
    | false => exact enc_plain (e1 (Classical.byContradiction (fun q => by cases hs.mpr q))) i
    | true => exact enc_sys hc (e2 (hs.mp rfl)) hi
  have hcn := gcnt_congr (f := fun i => genc p kind n k msg sys i != 0) (g := fun i => gel p kind n k t i != 0) n (fun i hi => by simp only [e i hi])
  have hle := gcnt_le (fun i => genc p kind n k msg sys i != 0) n
  exact ⟨by rw [hcn], ⟨by omega, by omega⟩, p, kind, n, k, msg, _, _, fo, ls, fm, lm, d1.high g2, g1.ext e (fun _ _ => rfl), hf, hl⟩
theorem l_decode (hn : 93 ≤ nn) (hR : RC 93 R) (h : LI M) {a : Int} : Ci m_D_decode 4 nn R [vr 0, vi a] M (fun z1 M1 => Ci m_M_decode 3 nn R [vr 78, vi a] M1 (fun z2 M2 => z1 = z2 ∧ xin z1 ∧ LI M2)) := by
  have hL := h
  obtain ⟨p, kind, n, k, msg, w, er, fo, ls, fm, lm, hD, hM, hf, hl⟩ := h
  have hc := hM.1.2.1
  have hq := gq_b hc.1
  have n20 := hc.2.2.2.2.2.1
  refine c_decode (by omega) hR.low PVT_all hD (fun h0 => ?_) (fun hk h0 M1 d1 d2 => ?_) (fun hk t ht M1 d1 d2 => ?_)
  · exact cm_decode hn hR hM (fun _ => ⟨rfl, ⟨by decide, by decide⟩, hL⟩) (fun q => absurd q (by omega)) (fun q => absurd q (by omega))
  · exact cm_decode hn hR (hM.low d2) (fun q => absurd q (by omega)) (fun _ _ M2 e1 e2 => ⟨rfl, ⟨by decide, by decide⟩, p, kind, n, k, msg, w, er, none, ls, none, lm, d1.high e2, e1, Or.inl ⟨rfl, rfl⟩, hl⟩) (fun _ u hu hd => absurd (dec_none hc h0 hu) (by omega))
  · have hm : t ∈ gfnd p kind n k w er ((gopen er n - k) / 2) (gq p ^ k) := List.mem_of_getElem? ht
    refine cm_decode hn hR (hM.low d2) (fun q => absurd q (by omega)) (fun _ h0 => ?_) (fun _ u hu hd M2 e1 e2 => ?_)
    · obtain ⟨u, hu, hd⟩ := dec_ex hc hm
      exact absurd (h0 u hu) (by omega)
    · have hs := dec_one hc hk hm hd
      have e := hs.dst (w := w) (er := er)
      have hle : gdm p kind n k w er u ≤ n := gcnt_le _ _
      exact ⟨by rw [e], ⟨by omega, by omega⟩, p, kind, n, k, msg, w, er, _, ls, _, lm, d1.high e2, e1, Or.inr ⟨t, u, _, _, rfl, rfl, hs, fun i hi => hs.df hi⟩, hl⟩
theorem l_decoded (hn : 93 ≤ nn) (hR : RC 93 R) (h : LI M) {i : Int} (hi : xin i) : Ci m_D_decoded 1 nn R [vr 0, vi i] M (fun z1 M1 => Ci m_M_decoded 2 nn R [vr 78, vi i] M1 (fun z2 M2 => z1 = z2 ∧ xin z1 ∧ LI M2)) := by
  have hL := h
  obtain ⟨p, kind, n, k, msg, w, er, fo, ls, fm, lm, hD, hM, hf, hl⟩ := h
  have hc := hM.1.2.1
  have hq := gq_b hc.1
  have n20 := hc.2.2.2.2.2.1
  have k4 := hc.2.2.2.1
  refine c_decoded (by omega) hR.low hD hi (fun h0 => ?_) (fun i0 i1 hno => ?_) (fun x t df ex hx ho => ?_)
  · exact cm_decoded hn hR hM hi (fun _ => ⟨rfl, ⟨by decide, by decide⟩, hL⟩) (fun q1 q2 => absurd ⟨q1, q2⟩ h0) (fun x t df ex hx => absurd ⟨by omega, by omega⟩ h0)
  · have hm := hf.no hno
    exact cm_decoded hn hR hM hi (fun h0 => absurd ⟨i0, i1⟩ h0) (fun _ _ _ => ⟨rfl, ⟨by decide, by decide⟩, hL⟩) (fun x t df ex hx ho => by rw [hm] at ho; cases ho)
  · obtain ⟨u, d2, hm, hs, hd⟩ := hf.yes ho
    refine cm_decoded hn hR hM hi (fun h0 => absurd ⟨by omega, by omega⟩ h0) (fun _ _ q => by rw [hm] at q; cases q) (fun y u' d' ey hy ho' => ?_)
    obtain rfl : x = y := by omega
    rw [hm] at ho'
    cases ho'
    have hb := gel_lt (t := u) (i := x) hc
    rw [hs x hx]
    exact ⟨rfl, ⟨by omega, by omega⟩, hL⟩
theorem l_sent (hn : 93 ≤ nn) (hR : RC 93 R) (h : LI M) {i : Int} (hi : xin i) : Ci m_D_sent 3 nn R [vr 0, vi i] M (fun z1 M1 => Ci m_M_sent 1 nn R [vr 78, vi i] M1 (fun z2 M2 => z1 = z2 ∧ xin z1 ∧ LI M2)) := by
  have hL := h
  obtain ⟨p, kind, n, k, msg, w, er, fo, ls, fm, lm, hD, hM, hf, hl⟩ := h
  have hc := hM.1.2.1
  have hq := gq_b hc.1
  have n20 := hc.2.2.2.2.2.1
  have k4 := hc.2.2.2.1
  refine c_sent (by omega) hR.low PVT_all hD hi (fun h0 => ?_) (fun i0 i1 hno => ?_) (fun x t df ex hx ho => ?_)
  · exact cm_sent hn hR hM hi (fun _ => ⟨rfl, ⟨by decide, by decide⟩, hL⟩) (fun q1 q2 => absurd ⟨q1, q2⟩ h0) (fun x t df ex hx => absurd ⟨by omega, by omega⟩ h0)
  · have hm := hf.no hno
    exact cm_sent hn hR hM hi (fun h0 => absurd ⟨i0, i1⟩ h0) (fun _ _ _ => ⟨rfl, ⟨by decide, by decide⟩, hL⟩) (fun x t df ex hx ho => by rw [hm] at ho; cases ho)
  · obtain ⟨u, d2, hm, hs, hd⟩ := hf.yes ho
    refine cm_sent hn hR hM hi (fun h0 => absurd ⟨by omega, by omega⟩ h0) (fun _ _ q => by rw [hm] at q; cases q) (fun y u' d' ey hy ho' => ?_)
    obtain rfl : x = y := by omega
    rw [hm] at ho'
    cases ho'
    have hb := tdg_lt (t := u) (j := x) hc.1
    rw [hs.sent hc hx]
    exact ⟨rfl, ⟨by omega, by omega⟩, hL⟩
theorem l_locator (hn : 93 ≤ nn) (hR : RC 93 R) (h : LI M) {i : Int} (hi : xin i) : Ci m_D_locator 0 nn R [vr 0, vi i] M (fun z1 M1 => Ci m_M_locator 0 nn R [vr 78, vi i] M1 (fun z2 M2 => z1 = z2 ∧ xin z1 ∧ LI M2)) := by
  have hL := h
  obtain ⟨p, kind, n, k, msg, w, er, fo, ls, fm, lm, hD, hM, hf, hl⟩ := h
  have hc := hM.1.2.1
  have hq := gq_b hc.1
  have n20 := hc.2.2.2.2.2.1
  have k4 := hc.2.2.2.1
  refine c_locator (by omega) hR.low hD hi (fun h0 => ?_) (fun i0 i1 hno => ?_) (fun x t df ex hx ho => ?_)
  · exact cm_locator hn hR hM hi (fun _ => ⟨rfl, ⟨by decide, by decide⟩, hL⟩) (fun q1 q2 => absurd ⟨q1, q2⟩ h0) (fun x t df ex hx => absurd ⟨by omega, by omega⟩ h0)
  · have hm := hf.no hno
    exact cm_locator hn hR hM hi (fun h0 => absurd ⟨i0, i1⟩ h0) (fun _ _ _ => ⟨rfl, ⟨by decide, by decide⟩, hL⟩) (fun x t df ex hx ho => by rw [hm] at ho; cases ho)
  · obtain ⟨u, d2, hm, hs, hd⟩ := hf.yes ho
    refine cm_locator hn hR hM hi (fun h0 => absurd ⟨by omega, by omega⟩ h0) (fun _ _ q => by rw [hm] at q; cases q) (fun y u' d' ey hy ho' M2 e1 e2 => ?_)
    obtain rfl : x = y := by omega
    rw [hm] at ho'
    cases ho'
    have hb := gloc_lt (df := d2) hc.1 n (by have := hc.2.2.2.2.1; omega) x
    rw [gloc_congr n hd x]
    exact ⟨rfl, ⟨by omega, by omega⟩, p, kind, n, k, msg, w, er, fo, ls, fm, lm, hD.high e2, e1, hf, hl⟩
theorem l_list (hn : 93 ≤ nn) (hR : RC 93 R) (h : LI M) {a : Int} (ha : xin a) : Ci m_D_list 4 nn R [vr 0, vi a] M (fun z1 M1 => Ci m_M_list 3 nn R [vr 78, vi a] M1 (fun z2 M2 => z1 = z2 ∧ xin z1 ∧ LI M2)) := by
  have hL := h
  obtain ⟨p, kind, n, k, msg, w, er, fo, ls, fm, lm, hD, hM, hf, hl⟩ := h
  have hc := hM.1.2.1
  have hq := gq_b hc.1
  have n20 := hc.2.2.2.2.2.1
  refine c_list (by omega) hR.low PVT_all hD ha (fun h0 => ?_) (fun a1 a3 h3 => ?_) (fun s s1 s3 hk => johnson hc s1 s3 hk) (fun s es s1 s3 hk M1 d1 d2 => ?_)
  · exact cm_list hn hR hM ha _ (fun _ => rfl) (fun _ => ⟨rfl, ⟨by decide, by decide⟩, hL⟩) (fun b1 b2 => absurd ⟨b1, b2⟩ h0) (fun s es s1 s3 => absurd ⟨by omega, by omega⟩ h0)
  · exact cm_list hn hR hM ha _ (fun _ => rfl) (fun h0 => absurd ⟨a1, a3⟩ h0) (fun _ _ _ => ⟨rfl, ⟨by decide, by decide⟩, hL⟩) (fun s es s1 s3 hk => absurd hk (by omega))
  · refine cm_list hn hR (hM.low d2) ha (fun t => gky (gq p) (gel p kind n k t) n) (fun _ => rfl) (fun h0 => absurd ⟨by omega, by omega⟩ h0) (fun _ _ q => absurd q (by omega)) (fun s' es' _ _ _ L hML M2 e1 e2 => ?_)
    obtain rfl : s = s' := by omega
    have e := list_link hc (fun _ => rfl) hML
    have hlen : L.length = (gfnd p kind n k w er (grad (gopen er n) k s) (gq p ^ k)).length := by rw [← e, List.length_map]
    have hj := johnson (w := w) (er := er) hc s1 s3 hk
    refine ⟨by rw [hlen], ⟨by omega, by omega⟩, p, kind, n, k, msg, w, er, fo, _, fm, L, d1.high e2, e1, hf, ?_, ?_⟩
    · rw [List.length_map, hlen]
    · intro c x y hx hy
      rw [← e, List.map_map, List.getElem?_map, hy] at hx
      have hs := (sw_key hc y.1).2
      have hy2 := (hML.1 y (List.mem_of_getElem? hy)).2.2
      have hd := hs.dst (w := w) (er := er)
      have hle : gdm p kind n k w er y.1 ≤ n := gcnt_le _ _
      have ex := Option.some.inj hx
      rw [← ex]
      exact ⟨hs, hd.trans hy2.symm, by rw [show ((fun t => (t, gdst p kind n k w er t)) ∘ fun x => gky (gq p) (gel p kind n k x.1) k) y = (gky (gq p) (gel p kind n k y.1) k, gdst p kind n k w er (gky (gq p) (gel p kind n k y.1) k)) from rfl]; show gdst p kind n k w er (gky (gq p) (gel p kind n k y.1) k) ≤ 20; rw [hd]; omega⟩
theorem l_listed (hn : 93 ≤ nn) (hR : RC 93 R) (h : LI M) {c i : Int} (hcc : xin c) (hi : xin i) : Ci m_D_listed 1 nn R [vr 0, vi c, vi i] M (fun z1 M1 => Ci m_M_listed 2 nn R [vr 78, vi c, vi i] M1 (fun z2 M2 => z1 = z2 ∧ xin z1 ∧ LI M2)) := by
  have hL := h
  obtain ⟨p, kind, n, k, msg, w, er, fo, ls, fm, lm, hD, hM, hf, hl⟩ := h
  have hc := hM.1.2.1
  have hq := gq_b hc.1
  have n20 := hc.2.2.2.2.2.1
  have hlen := hl.1
  refine c_listed (by omega) hR.low hD hcc hi (fun h0 => ?_) (fun x y q ex ey hx hy => ?_)
  · exact cm_listed hn hR hM hcc hi (fun _ => ⟨rfl, ⟨by decide, by decide⟩, hL⟩) (fun x y q ex ey hx hy => absurd ⟨by omega, by have := (List.getElem?_eq_some_iff.mp hx).1; omega, by omega, by omega⟩ h0)
  · have hlt := (List.getElem?_eq_some_iff.mp hx).1
    refine cm_listed hn hR hM hcc hi (fun h0 => absurd ⟨by omega, by omega, by omega, by omega⟩ h0) (fun x' y' q' ex' ey' hx' hy' => ?_)
    obtain rfl : x = x' := by omega
    obtain rfl : y = y' := by omega
    have hs := (hl.2 x q q' hx hx').1
    have hb := gel_lt (t := q'.1) (i := y) hc
    rw [hs y hy]
    exact ⟨rfl, ⟨by omega, by omega⟩, hL⟩
end PR5
