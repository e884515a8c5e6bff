/-! more pairs of calls: code, decoded, sent, listed, distance -/
section PR4
variable {nn : Nat} {R : xR} {M : xM}
theorem l_code (hn : 93 ≤ nn) (hR : RC 93 R) (h : LI M) {a b c : Int} (ha : xin a) (hb : xin b) (hc : xin c) : Ci m_D_code 5 nn R [vr 0, vi a, vi b, vi c] M (fun z1 M1 => Ci m_M_code 1 nn R [vr 78, vi a, vi b, vi c] M1 (fun z2 M2 => z1 = z2 ∧ xin z1 ∧ LI M2)) := by
  have hL := h
  obtain ⟨p, kind, n, k, msg, w, er, fo, ls, fm, lm, hD, hM, hf, hl⟩ := h
  have ok : ∀ x y z : Nat, a = x → b = y → c = z → okc p x y z → 0 ≤ a ∧ a ≤ 1 ∧ b ≤ 20 ∧ b < gq p ∧ 2 ≤ c ∧ c < b ∧ (gdeg p : Int) * c ≤ 12 := by
    intro x y z ex ey ez ⟨o1, o2, o3, o4, o5, o6, o7⟩
    have e : (gdeg p : Int) * c = ((gdeg p * z : Nat) : Int) := by rw [ez, Int.natCast_mul]
    rw [e]
    omega
  refine c_code (by omega) hR.low PVT_all hD.1 hD.2.1 ha hb hc (fun h0 => ?_) (fun x y z ex ey ez hok M1 d1 d2 => ?_)
  · exact cm_code hn hR hM.1.1 ha hb hc (fun _ => ⟨rfl, ⟨by decide, by decide⟩, hL⟩) (fun x y z ex ey ez hok => absurd (ok x y z ex ey ez hok) h0)
  · refine cm_code hn hR (hM.low d2).1.1 ha hb hc (fun h0 => absurd (ok x y z ex ey ez hok) h0) (fun x' y' z' ex' ey' ez' _ M2 e1 e2 => ?_)
    obtain rfl : x = x' := by omega
    obtain rfl : y = y' := by omega
    obtain rfl : z = z' := by omega
    exact ⟨rfl, ⟨by decide, by decide⟩, p, x, y, z, _, _, _, none, [], none, [], d1.high e2, e1, Or.inl ⟨rfl, rfl⟩, LLk.nil⟩
theorem l_distance (hn : 93 ≤ nn) (hR : RC 93 R) (h : LI M) {c : Int} (hc : xin c) : Ci m_D_distance 1 nn R [vr 0, vi c] M (fun z1 M1 => Ci m_M_distance 0 nn R [vr 78, vi c] M1 (fun z2 M2 => z1 = z2 ∧ xin z1 ∧ LI M2)) := by
  have hL := h
  obtain ⟨p, kind, n, k, msg, w, er, fo, ls, fm, lm, hD, hM, hf, hl⟩ := h
  refine c_distance (by omega) hR.low hD hc (fun h0 => ?_) (fun x q ex hx => ?_)
  · exact cm_distance hn hR hM hc (fun _ => ⟨rfl, ⟨by decide, by decide⟩, hL⟩) (fun x q ex hx => absurd ⟨by omega, by have := (List.getElem?_eq_some_iff.mp hx).1; have := hl.1; omega⟩ h0)
  · have hlt := (List.getElem?_eq_some_iff.mp hx).1
    refine cm_distance hn hR hM hc (fun h0 => absurd ⟨by omega, by have := hl.1; omega⟩ h0) (fun x' q' ex' hx' => ?_)
    obtain rfl : x = x' := by omega
    have e := (hl.2 x q q' hx hx').2
    exact ⟨by rw [e.1], ⟨by omega, by omega⟩, hL⟩
end PR4
