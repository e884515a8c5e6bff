/-! the order in which the constructors lay the references -/
def xPut : List (Nat × Nat) := [(1, 2), (1, 3), (1, 4), (0, 0), (5, 4), (5, 5), (5, 6), (5, 7), (10, 0), (10, 1), (10, 2), (10, 3), (5, 8), (15, 0), (15, 1), (15, 2), (15, 3), (5, 9), (20, 0), (20, 1), (20, 2), (20, 3), (5, 10), (5, 0), (0, 1), (0, 2), (26, 1), (26, 2), (0, 3), (29, 3), (29, 4), (29, 0), (29, 1), (29, 2), (0, 4), (32, 0), (33, 0), (32, 2), (32, 3), (0, 5), (36, 0), (37, 0), (37, 1), (37, 2), (37, 3), (37, 4), (37, 5), (37, 6), (37, 7), (37, 8), (37, 9), (37, 10), (37, 11), (37, 12), (37, 13), (37, 14), (37, 15), (36, 2), (36, 3), (0, 6), (0, 7), (56, 6), (56, 7), (56, 8), (56, 9), (61, 0), (61, 1), (61, 2), (61, 3), (61, 4), (61, 5), (61, 6), (61, 7), (61, 8), (61, 9), (61, 10), (61, 11), (61, 12), (61, 13), (61, 14), (61, 15), (56, 10), (56, 0), (56, 1), (56, 2), (0, 8), (78, 2), (78, 3), (78, 7), (78, 8), (78, 9), (78, 10), (78, 11), (78, 13), (78, 14), (78, 16), (78, 17), (78, 18), (78, 19), (78, 20)]
def xHas (c k j : Nat) : Bool := (xPut.take c).any (fun q => Nat.beq q.1 k && Nat.beq q.2 j)
def xRc (c : Nat) : xR := fun k j => if xHas c k j = true then xR0 k j else none
theorem xHas_succ {c k0 j0 : Nat} (h : xPut[c]? = some (k0, j0)) (k j : Nat) : xHas (c + 1) k j = (xHas c k j || (Nat.beq k0 k && Nat.beq j0 j)) := by
  unfold xHas
  rw [List.take_succ, h, List.any_append]
  simp only [Option.toList_some, List.any_cons, List.any_nil, Bool.or_false]
theorem xRc_put {c k j t : Nat} (h : xPut[c]? = some (k, j)) (ht : xR0 k j = some t) : xUR (xRc c) k j (some t) = xRc (c + 1) := by
  funext k' j'
  unfold xUR xRc
  rw [xHas_succ h]
  by_cases e : k' = k ∧ j' = j
  · obtain ⟨rfl, rfl⟩ := e
    rw [if_pos ⟨rfl, rfl⟩, ht, if_pos (by rw [Nat.beq_refl, Nat.beq_refl, Bool.and_true, Bool.or_true])]
  · rw [if_neg e]
    have q : (Nat.beq k k' && Nat.beq j j') = false := by
      rw [Bool.eq_false_iff]
      intro q
      rw [Bool.and_eq_true] at q
      exact e ⟨(Nat.eq_of_beq_eq_true q.1).symm, (Nat.eq_of_beq_eq_true q.2).symm⟩
    rw [q, Bool.or_false]
theorem xRc_grid {c g : Nat} : ∀ N, (∀ j, j < N → xPut[c + j]? = some (g, j) ∧ xR0 g j = some (g + 1 + j)) → xUG (xRc c) g N = xRc (c + N)
  | 0, _ => by
    funext k j
    unfold xUG
    rw [if_neg (by omega)]
    rfl
  | N + 1, h => by
    have ih := xRc_grid N (fun j hj => h j (by omega))
    have hN := h N (by omega)
    rw [← Nat.add_assoc, ← xRc_put hN.1 hN.2, ← ih]
    funext k j
    unfold xUR xUG
    by_cases e : k = g ∧ j = N
    · obtain ⟨rfl, rfl⟩ := e
      rw [if_pos ⟨rfl, by omega⟩, if_pos ⟨rfl, rfl⟩]
    · rw [if_neg e]
      by_cases e2 : k = g ∧ j < N
      · rw [if_pos ⟨e2.1, by omega⟩, if_pos e2]
      · rw [if_neg (by omega), if_neg e2]
theorem xRc_none {c k : Nat} (h : ((xPut.take c).any fun q => Nat.beq q.1 k) = false) (j : Nat) : xRc c k j = none := by
  unfold xRc xHas
  rw [if_neg]
  intro q
  rw [List.any_eq_true] at q
  obtain ⟨x, h1, h2⟩ := q
  rw [Bool.and_eq_true] at h2
  exact List.any_eq_false.mp h x h1 h2.1
theorem xRc_all {c b : Nat} (hb : b ≤ 93) (hd : ∀ k, k < b → ∀ j, j < 24 → xHas c k j = true ∨ xR0 k j = none) : RC b (xRc c) := by
  intro k j hk
  unfold xRc
  by_cases hj : j < 24
  · rcases hd k hk j hj with h | h
    · rw [if_pos h]
    · rw [h]
      split <;> rfl
  · have hl : ∀ k, k < 93 → (xRl.getD k []).length ≤ 24 := by decide +kernel
    have hk' := hl k (by omega)
    have e : xR0 k j = none := by
      unfold xR0
      rw [List.getD_eq_getElem?_getD, List.getElem?_eq_none (by omega)]
      rfl
    rw [e]
    split <;> rfl
theorem xRc_mid : RC 78 (xRc 86) := xRc_all (by decide) (by decide +kernel)
theorem xRc_end : RC 93 (xRc 100) := xRc_all (by decide) (by decide +kernel)
theorem dv_0 : ∀ j, j < 9 → defaultValue (ty_D j) = if xIs 0 j = true then .null else .int 0 := by
  intro j hj
  have h : j = 0 ∨ j = 1 ∨ j = 2 ∨ j = 3 ∨ j = 4 ∨ j = 5 ∨ j = 6 ∨ j = 7 ∨ j = 8 := by omega
  rcases h with rfl | rfl | rfl | rfl | rfl | rfl | rfl | rfl | rfl <;> rfl
theorem dv_1 : ∀ j, j < 5 → defaultValue (ty_F j) = if xIs 1 j = true then .null else .int 0 := by
  intro j hj
  have h : j = 0 ∨ j = 1 ∨ j = 2 ∨ j = 3 ∨ j = 4 := by omega
  rcases h with rfl | rfl | rfl | rfl | rfl <;> rfl
theorem dv_2 : ∀ j, j < 11 → defaultValue (ty_C j) = if xIs 2 j = true then .null else .int 0 := by
  intro j hj
  have h : j = 0 ∨ j = 1 ∨ j = 2 ∨ j = 3 ∨ j = 4 ∨ j = 5 ∨ j = 6 ∨ j = 7 ∨ j = 8 ∨ j = 9 ∨ j = 10 := by omega
  rcases h with rfl | rfl | rfl | rfl | rfl | rfl | rfl | rfl | rfl | rfl | rfl <;> rfl
theorem dv_3 : ∀ j, j < 3 → defaultValue (ty_W j) = if xIs 3 j = true then .null else .int 0 := by
  intro j hj
  have h : j = 0 ∨ j = 1 ∨ j = 2 := by omega
  rcases h with rfl | rfl | rfl <;> rfl
theorem dv_4 : ∀ j, j < 6 → defaultValue (ty_S j) = if xIs 4 j = true then .null else .int 0 := by
  intro j hj
  have h : j = 0 ∨ j = 1 ∨ j = 2 ∨ j = 3 ∨ j = 4 ∨ j = 5 := by omega
  rcases h with rfl | rfl | rfl | rfl | rfl | rfl <;> rfl
theorem dv_5 : ∀ j, j < 4 → defaultValue (ty_N j) = if xIs 5 j = true then .null else .int 0 := by
  intro j hj
  have h : j = 0 ∨ j = 1 ∨ j = 2 ∨ j = 3 := by omega
  rcases h with rfl | rfl | rfl | rfl <;> rfl
theorem dv_6 : ∀ j, j < 11 → defaultValue (ty_P j) = if xIs 6 j = true then .null else .int 0 := by
  intro j hj
  have h : j = 0 ∨ j = 1 ∨ j = 2 ∨ j = 3 ∨ j = 4 ∨ j = 5 ∨ j = 6 ∨ j = 7 ∨ j = 8 ∨ j = 9 ∨ j = 10 := by omega
  rcases h with rfl | rfl | rfl | rfl | rfl | rfl | rfl | rfl | rfl | rfl | rfl <;> rfl
theorem dv_7 : ∀ j, j < 21 → defaultValue (ty_M j) = if xIs 7 j = true then .null else .int 0 := by
  intro j hj
  have h : j = 0 ∨ j = 1 ∨ j = 2 ∨ j = 3 ∨ j = 4 ∨ j = 5 ∨ j = 6 ∨ j = 7 ∨ j = 8 ∨ j = 9 ∨ j = 10 ∨ j = 11 ∨ j = 12 ∨ j = 13 ∨ j = 14 ∨ j = 15 ∨ j = 16 ∨ j = 17 ∨ j = 18 ∨ j = 19 ∨ j = 20 := by omega
  rcases h with rfl | rfl | rfl | rfl | rfl | rfl | rfl | rfl | rfl | rfl | rfl | rfl | rfl | rfl | rfl | rfl | rfl | rfl | rfl | rfl | rfl <;> rfl
theorem wcl_C : Cond.classLink (mO m_C_init) 24 ("[" ++ (FieldType.array .int).toString) ∈ WS := by
  rw [show ("[" ++ (FieldType.array .int).toString) = "[[I" from by decide +kernel]
  exact w_95
theorem wcl_N : Cond.classLink (mO m_N_init) 15 ("[" ++ (FieldType.array .int).toString) ∈ WS := by
  rw [show ("[" ++ (FieldType.array .int).toString) = "[[I" from by decide +kernel]
  exact w_202
theorem wcl_P : Cond.classLink (mO m_P_init) 25 ("[" ++ (FieldType.array .int).toString) ∈ WS := by
  rw [show ("[" ++ (FieldType.array .int).toString) = "[[I" from by decide +kernel]
  exact w_226
