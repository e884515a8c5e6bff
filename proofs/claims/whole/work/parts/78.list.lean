/-! the list is the same on both sides -/
theorem sorted_ext : ∀ l1 l2 : List Nat, l1.Pairwise (· < ·) → l2.Pairwise (· < ·) → (∀ x, x ∈ l1 ↔ x ∈ l2) → l1 = l2
  | [], [], _, _, _ => rfl
  | [], b :: bs, _, _, h => absurd ((h b).2 List.mem_cons_self) (by simp)
  | a :: as, [], _, _, h => absurd ((h a).1 List.mem_cons_self) (by simp)
  | a :: as, b :: bs, h1, h2, h => by
    rw [List.pairwise_cons] at h1 h2
    have e : a = b := by
      rcases List.mem_cons.1 ((h a).1 List.mem_cons_self) with q | q
      · exact q
      · rcases List.mem_cons.1 ((h b).2 List.mem_cons_self) with r | r
        · exact r.symm
        · have := h2.1 a q
          have := h1.1 b r
          omega
    rw [e]
    congr 1
    refine sorted_ext as bs h1.2 h2.2 (fun x => ⟨fun q => ?_, fun q => ?_⟩)
    · rcases List.mem_cons.1 ((h x).1 (List.mem_cons_of_mem _ q)) with r | r
      · have := h1.1 x q
        omega
      · exact r
    · rcases List.mem_cons.1 ((h x).2 (List.mem_cons_of_mem _ q)) with r | r
      · have := h2.1 x q
        omega
      · exact r
section LL
variable {p kind n k : Nat} {w : Nat → Nat} {er : Nat → Bool}
theorem sw_key (hc : okc p kind n k) (u : Nat) : gky (gq p) (gel p kind n k u) k < gq p ^ k ∧ SW p kind n k (gky (gq p) (gel p kind n k u) k) u := by
  obtain ⟨t, h1, h2⟩ := sw_to hc u
  have o4 := hc.2.2.2.1
  have e : gky (gq p) (gel p kind n k u) k = t := by
    rw [← gky_eq (f := gcw p kind n k t) k (fun j hj => h2 j (by omega))]
    exact gcw_key hc h1
  rw [e]
  exact ⟨h1, h2⟩
theorem SW.key (hc : okc p kind n k) {t u : Nat} (ht : t < gq p ^ k) (h : SW p kind n k t u) : gky (gq p) (gel p kind n k u) k = t := by
  have o4 := hc.2.2.2.1
  rw [← gky_eq (f := gcw p kind n k t) k (fun j hj => h j (by omega))]
  exact gcw_key hc ht
theorem list_link (hc : okc p kind n k) {K : Nat → Nat} (hK : ∀ t, K t = gky (gq p) (gel p kind n k t) n) {rad : Nat} {L : List (Nat × Nat)} (hL : MLS (gdm p kind n k w er) K rad (gq p ^ k) L) : L.map (fun x => gky (gq p) (gel p kind n k x.1) k) = gfnd p kind n k w er rad (gq p ^ k) := by
  obtain ⟨m1, m2, m3⟩ := hL
  have o4 := hc.2.2.2.1
  have gl : ∀ u i, gel p kind n k u i < gq p := fun u i => gel_lt hc
  refine sorted_ext _ _ ?_ ?_ (fun t => ⟨fun q => ?_, fun q => ?_⟩)
  · rw [List.pairwise_map]
    refine m3.imp_of_mem (fun {a b} ha hb r => ?_)
    have dv : ∀ u, K u / gq p ^ (n - k) = gky (gq p) (gel p kind n k u) k := fun u => by
      have e := gky_div (f := gel p kind n k u) (gl u) k (n - k)
      rw [show k + (n - k) = n by omega, ← hK] at e
      exact e
    have le : gky (gq p) (gel p kind n k a.1) k ≤ gky (gq p) (gel p kind n k b.1) k := by
      rw [← dv, ← dv]
      exact Nat.div_le_div_right r.1
    have ne : gky (gq p) (gel p kind n k a.1) k ≠ gky (gq p) (gel p kind n k b.1) k := fun q => by
      have s1 := (sw_key hc a.1).2
      have s2 := (sw_key hc b.1).2
      rw [← q] at s2
      exact r.2 (el_inj hc (m1 a ha).1 (m1 b hb).1 (fun i hi => (s1 i hi).symm.trans (s2 i hi)))
    omega
  · unfold gfnd
    exact List.pairwise_lt_range.filter _
  · obtain ⟨x, hx, rfl⟩ := List.mem_map.1 q
    obtain ⟨s1, s2⟩ := sw_key hc x.1
    rw [fnd_mem, s2.dst]
    exact ⟨s1, (m1 x hx).2.1⟩
  · obtain ⟨q1, q2⟩ := fnd_mem.1 q
    obtain ⟨u, h1, h2⟩ := sw_of hc t
    rw [h2.dst] at q2
    exact List.mem_map.2 ⟨(u, gdm p kind n k w er u), m2 u h1 q2, h2.key hc q1⟩
end LL
