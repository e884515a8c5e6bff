/-! the law's invariant, and its first pairs of calls -/
def FLk (p kind n k : Nat) (fo fm : Option (Nat × (Nat → Bool))) : Prop := (fo = none ∧ fm = none) ∨ ∃ t u d1 d2, fo = some (t, d1) ∧ fm = some (u, d2) ∧ SW p kind n k t u ∧ ∀ i, i < n → d1 i = d2 i
def LLk (p kind n k : Nat) (ls lm : List (Nat × Nat)) : Prop := ls.length = lm.length ∧ ∀ (c : Nat) (x y : Nat × Nat), ls[c]? = some x → lm[c]? = some y → SW p kind n k x.1 y.1 ∧ x.2 = y.2 ∧ x.2 ≤ 20
/-- what both sides hold together -/
def LI (M : xM) : Prop := ∃ (p kind n k : Nat) (msg w : Nat → Nat) (er : Nat → Bool) (fo : Option (Nat × (Nat → Bool))) (ls : List (Nat × Nat)) (fm : Option (Nat × (Nat → Bool))) (lm : List (Nat × Nat)), DI p kind n k msg w er fo ls M ∧ MI p kind n k msg w er fm lm M ∧ FLk p kind n k fo fm ∧ LLk p kind n k ls lm
theorem RC.low {R : xR} (h : RC 93 R) : RC 78 R := fun k j hk => h k j (by omega)
theorem LLk.nil {p kind n k : Nat} : LLk p kind n k [] [] := ⟨rfl, fun c x y h => by simp at h⟩
section PR
variable {nn : Nat} {R : xR} {M : xM} {p kind n k : Nat} {msg w : Nat → Nat} {er : Nat → Bool} {fo fm : Option (Nat × (Nat → Bool))} {ls lm : List (Nat × Nat)}
theorem DI.high {M' : xM} (h : DI p kind n k msg w er fo ls M) (hk : ∀ c, c < 78 → M' c = M c) : DI p kind n k msg w er fo ls M' := h.keep (fun c h1 _ _ _ => hk c (by omega))
theorem MI.low {M' : xM} (h : MI p kind n k msg w er fm lm M) (hk : ∀ c, 78 ≤ c → M' c = M c) : MI p kind n k msg w er fm lm M' := h.keep (fun j _ => by rw [hk 78 (by omega)]) (fun c h1 _ _ _ => hk c (by omega))
theorem l_word (hn : 93 ≤ nn) (hR : RC 93 R) (h : LI M) {i : Int} (hi : xin i) : Ci m_D_word 1 nn R [vr 0, vi i] M (fun z1 M1 => Ci m_M_word 1 nn R [vr 78, vi i] M1 (fun z2 M2 => z1 = z2 ∧ xin z1 ∧ LI M2)) := by
  have hL := h
  obtain ⟨p, kind, n, k, msg, w, er, fo, ls, fm, lm, hD, hM, hf, hl⟩ := h
  have hq := gq_b hM.1.2.1.1
  refine c_word (by omega) hR.low hD hi (fun h0 => ?_) (fun x ex hx => ?_)
  · exact cm_word hn hR hM hi (fun _ => ⟨rfl, ⟨by decide, by decide⟩, hL⟩) (fun x ex hx => absurd ⟨by omega, by omega⟩ h0)
  · refine cm_word hn hR hM hi (fun h0 => absurd ⟨by omega, by omega⟩ h0) (fun y ey hy => ?_)
    have e : x = y := by omega
    have hw := (hM.2.2.1 x hx).2
    rw [← e]
    refine ⟨rfl, ?_, hL⟩
    split
    · exact ⟨by decide, by decide⟩
    · exact ⟨by omega, by omega⟩
theorem l_syndrome (hn : 93 ≤ nn) (hR : RC 93 R) (h : LI M) {i : Int} (hi : xin i) : Ci m_D_syndrome 2 nn R [vr 0, vi i] M (fun z1 M1 => Ci m_M_syndrome 1 nn R [vr 78, vi i] M1 (fun z2 M2 => z1 = z2 ∧ xin z1 ∧ LI M2)) := by
  have hL := h
  obtain ⟨p, kind, n, k, msg, w, er, fo, ls, fm, lm, hD, hM, hf, hl⟩ := h
  have hc := hM.1.2.1
  have hq := gq_b hc.1
  have o4 := hc.2.2.2.1
  refine c_syndrome (by omega) hR.low hD hi (fun h0 => ?_) (fun x ex hx => ?_)
  · exact cm_syndrome hn hR hM hi (fun _ => ⟨rfl, ⟨by decide, by decide⟩, hL⟩) (fun x ex hx => absurd ⟨by omega, by omega⟩ h0)
  · refine cm_syndrome hn hR hM hi (fun h0 => absurd ⟨by omega, by omega⟩ h0) (fun y ey hy => ?_)
    have e : x = y := by omega
    have hs := gsyn_lt (kind := kind) (er := er) (j := x) hc.1 hc.2.2.2.2.1 (fun a ha => (hM.2.2.1 a ha).2) n (Nat.le_refl _)
    rw [← e]
    exact ⟨rfl, ⟨by omega, by omega⟩, hL⟩
theorem l_tell (hn : 93 ≤ nn) (hR : RC 93 R) (h : LI M) {i v : Int} (hi : xin i) (hv : xin v) : Ci m_D_tell 1 nn R [vr 0, vi i, vi v] M (fun z1 M1 => Ci m_M_tell 1 nn R [vr 78, vi i, vi v] M1 (fun z2 M2 => z1 = z2 ∧ xin z1 ∧ LI M2)) := by
  have hL := h
  obtain ⟨p, kind, n, k, msg, w, er, fo, ls, fm, lm, hD, hM, hf, hl⟩ := h
  refine c_tell (by omega) hR.low hD hi hv (fun h0 => ?_) (fun x y ex ey hx hy M1 d1 d2 => ?_)
  · exact cm_tell hn hR hM hi hv (fun _ => ⟨rfl, ⟨by decide, by decide⟩, hL⟩) (fun x y ex ey hx hy => absurd ⟨by omega, by omega, by omega, by omega⟩ h0)
  · refine cm_tell hn hR (hM.low d2) hi hv (fun h0 => absurd ⟨by omega, by omega, by omega, by omega⟩ h0) (fun x' y' ex' ey' hx' hy' M2 e1 e2 => ?_)
    obtain rfl : x = x' := by omega
    obtain rfl : y = y' := by omega
    exact ⟨rfl, ⟨by decide, by decide⟩, p, kind, n, k, _, w, er, fo, ls, fm, lm, d1.high e2, e1, hf, hl⟩
end PR
