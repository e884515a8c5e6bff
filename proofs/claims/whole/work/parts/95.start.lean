/-! what the tables say at the law's entry -/
theorem nAO_out {s : State} (h : nAO s) : ∃ (c : Nat) (k : Class) (comp : ClassId), s.vm.classes[c]? = some k ∧ k.kind = .array comp (.array .int) ∧ s.vm.findClass ("[" ++ (FieldType.array .int).toString) = some c := by
  rw [nAO_eq] at h
  simp only [beq_iff_eq, Option.bind_eq_some_iff] at h
  obtain ⟨comp, -, c, -, h3⟩ := h
  unfold nAOk at h3
  rw [Option.map_eq_some_iff] at h3
  obtain ⟨k, g1, g2⟩ := h3
  cases hk : k.kind with
  | array comp' ty =>
    rw [hk] at g2
    simp only [Bool.and_eq_true, decide_eq_true_eq] at g2
    exact ⟨c, k, comp', g1, by rw [hk, g2.1], g2.2⟩
  | _ => rw [hk] at g2; cases g2
theorem xK_start {s : State} {A : Array Value} (hts : ∀ w ∈ lw_tbl, w.before A s = true) : ∃ (D : va_G) (cI cZ cG : ClassId), xK D cI cZ cG s := by
  have hW : ∀ w ∈ WS, w.before A s = true := fun w hw => hts w (List.mem_filter.mp hw).1
  obtain ⟨c0, i0, k0⟩ := u_known hW cok0.1 (hW _ w_53)
  obtain ⟨c1, i1, k1⟩ := u_known hW cok1.1 (hW _ w_61)
  obtain ⟨c2, i2, k2⟩ := u_known hW cok2.1 (hW _ w_90)
  obtain ⟨c3, i3, k3⟩ := u_known hW cok3.1 (hW _ w_147)
  obtain ⟨c4, i4, k4⟩ := u_known hW cok4.1 (hW _ w_172)
  obtain ⟨c5, i5, k5⟩ := u_known hW cok5.1 (hW _ w_197)
  obtain ⟨c6, i6, k6⟩ := u_known hW cok6.1 (hW _ w_221)
  obtain ⟨c7, i7, k7⟩ := u_known hW cok7.1 (hW _ w_548)
  obtain ⟨cI, kI, ccI, a1, a2, a3⟩ := Cond.arrayClass_spec (hW _ w_88)
  obtain ⟨cZ, kZ, ccZ, b1, b2, b3⟩ := Cond.arrayClass_spec (hW _ w_170)
  have hAO : nAO s := hts (Jvm.Cond.arrayOver (Jvm.ClassFile.FieldType.array Jvm.ClassFile.FieldType.int)) (List.mem_of_getElem? (i := 96) (by decide +kernel))
  obtain ⟨cG, kG, ccG, g1, g2, g3⟩ := nAO_out hAO
  refine ⟨(fun c => ([c0, c1, c2, c3, c4, c5, c6, c7] : List ClassId).getD c c0, fun c => ([i0, i1, i2, i3, i4, i5, i6, i7] : List (Nat → Nat)).getD c i0), cI, cZ, cG, ⟨fun c q hq => ?_, fun k q hk => ?_⟩, fun w hw => va_Nw.of (NW_tab w hw) (hts w (List.mem_filter.mp hw).1), hAO⟩
  · have hc : c < 8 := (List.getElem?_eq_some_iff.mp hq).1
    have h : c = 0 ∨ c = 1 ∨ c = 2 ∨ c = 3 ∨ c = 4 ∨ c = 5 ∨ c = 6 ∨ c = 7 := by omega
    rcases h with rfl | rfl | rfl | rfl | rfl | rfl | rfl | rfl
    · cases hq; exact k0
    · cases hq; exact k1
    · cases hq; exact k2
    · cases hq; exact k3
    · cases hq; exact k4
    · cases hq; exact k5
    · cases hq; exact k6
    · cases hq; exact k7
  · have hc : k < 3 := (List.getElem?_eq_some_iff.mp hk).1
    have h : k = 0 ∨ k = 1 ∨ k = 2 := by omega
    rcases h with rfl | rfl | rfl
    · cases hk; exact ⟨fun n z => ⟨fun k h => (by cases h), kI, a2, ccI, a3⟩, a1⟩
    · cases hk; exact ⟨fun n z => ⟨fun k h => (by cases h), kZ, b2, ccZ, b3⟩, b1⟩
    · cases hk; exact ⟨fun n z => ⟨fun k h => (by cases h), kG, g1, ccG, g2⟩, g3⟩
