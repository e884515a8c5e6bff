/-! more pairs of calls: times, over, log, code, weight, encode -/
section PR3
variable {nn : Nat} {R : xR} {M : xM}
theorem l_times (hn : 93 ≤ nn) (hR : RC 93 R) (h : LI M) {a b : Int} (ha : xin a) (hb : xin b) : Ci m_D_times 1 nn R [vr 0, vi a, vi b] M (fun z1 M1 => Ci m_M_times 1 nn R [vr 78, vi a, vi b] M1 (fun z2 M2 => z1 = z2 ∧ xin z1 ∧ LI M2)) := by
  have hL := h
  obtain ⟨p, kind, n, k, msg, w, er, fo, ls, fm, lm, hD, hM, hf, hl⟩ := h
  have hp := hM.1.2.1.1
  have hq := gq_b hp
  refine c_times (by omega) hR.low hD.1 ha hb (fun x y ex ey hx hy => ?_) (fun h0 => ?_)
  · refine cm_times hn hR hM.1.1 ha hb (fun x' y' ex' ey' _ _ => ?_) (fun h0 => absurd ⟨by omega, by omega, by omega, by omega⟩ h0)
    obtain rfl : x = x' := by omega
    obtain rfl : y = y' := by omega
    have := (g_two hp hx hy).1
    exact ⟨rfl, ⟨by omega, by omega⟩, hL⟩
  · exact cm_times hn hR hM.1.1 ha hb (fun x' y' ex' ey' h1 h2 => absurd ⟨by omega, by omega, by omega, by omega⟩ h0) (fun _ => ⟨rfl, ⟨by decide, by decide⟩, hL⟩)
theorem l_over (hn : 93 ≤ nn) (hR : RC 93 R) (h : LI M) {a b : Int} (ha : xin a) (hb : xin b) : Ci m_D_over 1 nn R [vr 0, vi a, vi b] M (fun z1 M1 => Ci m_M_over 1 nn R [vr 78, vi a, vi b] M1 (fun z2 M2 => z1 = z2 ∧ xin z1 ∧ LI M2)) := by
  have hL := h
  obtain ⟨p, kind, n, k, msg, w, er, fo, ls, fm, lm, hD, hM, hf, hl⟩ := h
  have hp := hM.1.2.1.1
  have hq := gq_b hp
  refine c_over (by omega) hR.low hD.1 ha hb (fun x y ex ey hx hy y0 => ?_) (fun a0 a1 b0 => ?_) (fun h0 => ?_)
  · refine cm_over hn hR hM.1.1 ha hb (fun x' y' ex' ey' _ _ _ => ?_) (fun _ _ q => absurd q (by omega)) (fun h0 => absurd ⟨by omega, by omega, by omega, by omega⟩ h0)
    obtain rfl : x = x' := by omega
    obtain rfl : y = y' := by omega
    have := g_div_lt hp hx hy y0
    exact ⟨rfl, ⟨by omega, by omega⟩, hL⟩
  · exact cm_over hn hR hM.1.1 ha hb (fun x' y' ex' ey' _ _ q => absurd (show y' = 0 by omega) q) (fun _ _ _ => ⟨rfl, ⟨by decide, by decide⟩, hL⟩) (fun h0 => absurd ⟨by omega, by omega, by omega, by omega⟩ h0)
  · exact cm_over hn hR hM.1.1 ha hb (fun x' y' ex' ey' h1 h2 _ => absurd ⟨by omega, by omega, by omega, by omega⟩ h0) (fun h1 h2 h3 => absurd ⟨by omega, by omega, by omega, by omega⟩ h0) (fun _ => ⟨rfl, ⟨by decide, by decide⟩, hL⟩)
theorem l_log (hn : 93 ≤ nn) (hR : RC 93 R) (h : LI M) {a : Int} (ha : xin a) : Ci m_D_log 1 nn R [vr 0, vi a] M (fun z1 M1 => Ci m_M_log 1 nn R [vr 78, vi a] M1 (fun z2 M2 => z1 = z2 ∧ xin z1 ∧ LI M2)) := by
  have hL := h
  obtain ⟨p, kind, n, k, msg, w, er, fo, ls, fm, lm, hD, hM, hf, hl⟩ := h
  have hp := hM.1.2.1.1
  have hq := gq_b hp
  refine c_log (by omega) hR.low hD.1 ha (fun x ex hx x0 => ?_) (fun a0 => ?_) (fun h0 => ?_)
  · refine cm_log hn hR hM.1.1 ha (fun x' ex' _ _ => ?_) (fun q => absurd q (by omega)) (fun h0 => absurd ⟨by omega, by omega⟩ h0)
    obtain rfl : x = x' := by omega
    have := (g_inv hp hx x0).2.1
    exact ⟨rfl, ⟨by omega, by omega⟩, hL⟩
  · exact cm_log hn hR hM.1.1 ha (fun x' ex' _ q => absurd (show x' = 0 by omega) q) (fun _ => ⟨rfl, ⟨by decide, by decide⟩, hL⟩) (fun h0 => absurd ⟨by omega, by omega⟩ h0)
  · exact cm_log hn hR hM.1.1 ha (fun x' ex' h1 _ => absurd ⟨by omega, by omega⟩ h0) (fun q => absurd ⟨by omega, by omega⟩ h0) (fun _ => ⟨rfl, ⟨by decide, by decide⟩, hL⟩)
theorem l_weight (hn : 93 ≤ nn) (hR : RC 93 R) (h : LI M) {a : Int} (ha : xin a) : Ci m_D_weight 4 nn R [vr 0, vi a] M (fun z1 M1 => Ci m_M_weight 3 nn R [vr 78, vi a] M1 (fun z2 M2 => z1 = z2 ∧ xin z1 ∧ LI M2)) := by
  have hL := h
  obtain ⟨p, kind, n, k, msg, w, er, fo, ls, fm, lm, hD, hM, hf, hl⟩ := h
  have hc := hM.1.2.1
  have k4 := hc.k4
  have n20 := hc.2.2.2.2.2.1
  have hop := gopen_le er n
  refine c_weight (by omega) hR.low hD ha (fun h0 => ?_) (fun a1 a2 h3 => ?_) (fun s es s1 s3 hk z hz M1 d1 d2 => ?_)
  · exact cm_weight hn hR hM ha (fun _ => ⟨rfl, ⟨by decide, by decide⟩, hL⟩) (fun b1 b2 => absurd ⟨b1, b2⟩ h0) (fun s es s1 s3 => absurd ⟨by omega, by omega⟩ h0)
  · exact cm_weight hn hR hM ha (fun h0 => absurd ⟨a1, a2⟩ h0) (fun _ _ _ => ⟨rfl, ⟨by decide, by decide⟩, hL⟩) (fun s es s1 s3 hk => absurd hk (by omega))
  · refine cm_weight hn hR (hM.low d2) ha (fun h0 => absurd ⟨by omega, by omega⟩ h0) (fun _ _ h3 => absurd hk (by omega)) (fun s' es' _ _ _ z' hz' M2 e1 e2 => ?_)
    obtain rfl : s = s' := by omega
    have e := weight_eq hc (fun i hi => (hM.2.2.1 i hi).2) s1 s3 hz hz'
    have hb : z ≤ 120 := by
      obtain ⟨_, _, wt, _, ez⟩ := hz
      have h1 := lmn_le (gbd (gopen er n * kblk s) (k - 1)) wt (gpwN (gopen er n) k s)
      have h2 := gbdF_le (gopen er n * kblk s) (k - 1) (gopen er n * kblk s) 0
      obtain ⟨-, kb6, -, -⟩ := kof_end s (by omega) s1
      have h3 : gopen er n * kblk s ≤ 20 * 6 := Nat.mul_le_mul (by omega) kb6
      unfold gbd at h1 ez
      omega
    exact ⟨by rw [e], ⟨by omega, by omega⟩, p, kind, n, k, msg, w, er, fo, ls, fm, lm, d1.high e2, e1, hf, hl⟩
end PR3
