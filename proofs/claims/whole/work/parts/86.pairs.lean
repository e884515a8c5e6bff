/-! more pairs of calls -/
section PR2
variable {nn : Nat} {R : xR} {M : xM}
theorem l_receive (hn : 93 ≤ nn) (hR : RC 93 R) (h : LI M) {i v : Int} (hi : xin i) (hv : xin v) : Ci m_D_receive 1 nn R [vr 0, vi i, vi v] M (fun z1 M1 => Ci m_M_receive 1 nn R [vr 78, vi i, vi v] M1 (fun z2 M2 => z1 = z2 ∧ xin z1 ∧ LI M2)) := by
  have hL := h
  obtain ⟨p, kind, n, k, msg, w, er, fo, ls, fm, lm, hD, hM, hf, hl⟩ := h
  refine c_receive (by omega) hR.low hD hi hv (fun h0 => ?_) (fun x y ex ey hx hy M1 d1 d2 => ?_)
  · exact cm_receive hn hR hM hi hv (fun _ => ⟨rfl, ⟨by decide, by decide⟩, hL⟩) (fun x y ex ey hx hy => absurd ⟨by omega, by omega, by omega, by omega⟩ h0)
  · refine cm_receive hn hR (hM.low d2) hi hv (fun h0 => absurd ⟨by omega, by omega, by omega, by omega⟩ h0) (fun x' y' ex' ey' hx' hy' M2 e1 e2 => ?_)
    obtain rfl : x = x' := by omega
    obtain rfl : y = y' := by omega
    exact ⟨rfl, ⟨by decide, by decide⟩, p, kind, n, k, msg, _, _, fo, ls, fm, lm, d1.high e2, e1, hf, hl⟩
theorem l_erase (hn : 93 ≤ nn) (hR : RC 93 R) (h : LI M) {i : Int} (hi : xin i) : Ci m_D_erase 1 nn R [vr 0, vi i] M (fun z1 M1 => Ci m_M_erase 1 nn R [vr 78, vi i] M1 (fun z2 M2 => z1 = z2 ∧ xin z1 ∧ LI M2)) := by
  have hL := h
  obtain ⟨p, kind, n, k, msg, w, er, fo, ls, fm, lm, hD, hM, hf, hl⟩ := h
  refine c_erase (by omega) hR.low hD hi (fun h0 => ?_) (fun x ex hx he => ?_) (fun x ex hx he M1 d1 d2 => ?_)
  · exact cm_erase hn hR hM hi (fun _ => ⟨rfl, ⟨by decide, by decide⟩, hL⟩) (fun x ex hx => absurd ⟨by omega, by omega⟩ h0) (fun x ex hx => absurd ⟨by omega, by omega⟩ h0)
  · refine cm_erase hn hR hM hi (fun h0 => absurd ⟨by omega, by omega⟩ h0) (fun y ey hy he' => ⟨rfl, ⟨by decide, by decide⟩, hL⟩) (fun y ey hy he' => ?_)
    obtain rfl : x = y := by omega
    rw [he] at he'
    cases he'
  · refine cm_erase hn hR (hM.low d2) hi (fun h0 => absurd ⟨by omega, by omega⟩ h0) (fun y ey hy he' => ?_) (fun y ey hy he' M2 e1 e2 => ?_)
    · obtain rfl : x = y := by omega
      rw [he] at he'
      cases he'
    · obtain rfl : x = y := by omega
      exact ⟨rfl, ⟨by decide, by decide⟩, p, kind, n, k, msg, w, _, fo, ls, fm, lm, d1.high e2, e1, hf, hl⟩
theorem l_radius (hn : 93 ≤ nn) (hR : RC 93 R) (h : LI M) {a : Int} (ha : xin a) : Ci m_D_radius 2 nn R [vr 0, vi a] M (fun z1 M1 => Ci m_M_radius 3 nn R [vr 78, vi a] M1 (fun z2 M2 => z1 = z2 ∧ xin z1 ∧ LI M2)) := by
  have hL := h
  obtain ⟨p, kind, n, k, msg, w, er, fo, ls, fm, lm, hD, hM, hf, hl⟩ := h
  have hop := gopen_le er n
  have n20 := hM.1.2.1.2.2.2.2.2.1
  refine c_radius (by omega) hR.low hD ha (fun h0 => ?_) (fun a1 a2 h3 => ?_) (fun s es s1 s3 hk => ?_)
  · exact cm_radius hn hR hM ha (fun _ => ⟨rfl, ⟨by decide, by decide⟩, hL⟩) (fun b1 b2 => absurd ⟨b1, b2⟩ h0) (fun s es s1 s3 => absurd ⟨by omega, by omega⟩ h0)
  · exact cm_radius hn hR hM ha (fun h0 => absurd ⟨a1, a2⟩ h0) (fun _ _ _ => ⟨rfl, ⟨by decide, by decide⟩, hL⟩) (fun s es s1 s3 hk => absurd hk (by omega))
  · refine cm_radius hn hR hM ha (fun h0 => absurd ⟨by omega, by omega⟩ h0) (fun _ _ h3 => absurd hk (by omega)) (fun s' es' _ _ _ => ?_)
    obtain rfl : s = s' := by omega
    have hg : grad (gopen er n) k s ≤ 20 := by
      unfold grad
      generalize gbd (gopen er n * kblk s) (k - 1) / s = x
      split <;> omega
    exact ⟨rfl, ⟨by omega, by omega⟩, hL⟩
theorem l_field (hn : 93 ≤ nn) (hR : RC 93 R) (h : LI M) {a : Int} (ha : xin a) : Ci m_D_field 6 nn R [vr 0, vi a] M (fun z1 M1 => Ci m_M_field 2 nn R [vr 78, vi a] M1 (fun z2 M2 => z1 = z2 ∧ xin z1 ∧ LI M2)) := by
  have hL := h
  obtain ⟨p, kind, n, k, msg, w, er, fo, ls, fm, lm, hD, hM, hf, hl⟩ := h
  have pr : ∀ x, x ∈ grims → gprim x = true ∧ 8 ≤ x ∧ x < 64 := by decide
  refine c_field (by omega) hR.low PVT_all hD.2.1 ha (fun h0 => ?_) (fun x ex h8 h64 hx => ?_) (fun x ex hx M1 d1 d2 => ?_)
  · exact cm_field hn hR ha (fun _ => ⟨rfl, ⟨by decide, by decide⟩, hL⟩) (fun x ex h8 h64 => absurd ⟨by omega, by omega⟩ h0) (fun x ex hx => absurd ⟨by have := pr x hx; omega, by have := pr x hx; omega⟩ h0)
  · refine cm_field hn hR ha (fun h0 => absurd ⟨by omega, by omega⟩ h0) (fun y ey _ _ _ => ⟨rfl, ⟨by decide, by decide⟩, hL⟩) (fun y ey hy => ?_)
    obtain rfl : x = y := by omega
    have := (pr x hy).1
    rw [hx] at this
    cases this
  · have p1 := pr x hx
    have hq := gq_b hx
    refine cm_field hn hR ha (fun h0 => absurd ⟨by omega, by omega⟩ h0) (fun y ey _ _ hy => ?_) (fun y ey hy M2 e1 e2 => ?_)
    · obtain rfl : x = y := by omega
      rw [p1.1] at hy
      cases hy
    · obtain rfl : x = y := by omega
      exact ⟨rfl, ⟨by omega, by omega⟩, x, 0, gn0 x, 2, _, _, _, none, [], none, [], d1.high e2, e1, Or.inl ⟨rfl, rfl⟩, LLk.nil⟩
end PR2
