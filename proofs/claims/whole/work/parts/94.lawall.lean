/-! the law: its loop, and all of it -/
set_option maxRecDepth 20000 in
theorem La_sw {ms su : Nat} {R : xR} {M : xM} {Lx : Nat} {xs : Nat → Int32} {Q : Option AV → xR → xM → Prop} {i : Int} {z : Int} (hz : 0 ≤ z ∧ z < 32) (hR : RC 93 R) (hL : LI M) (h0 : 0 ≤ i) (h4 : i + 4 ≤ Lx) (hLx : Lx < 2147483648) (hsu : su ≤ ms) (kk : ∀ M2, LI M2 → xX (some (Lx, xs)) m_L_law 7 0 93 ms Q 690 [some vs, some (vr 0), some (vr 78), some (vi i)] [] 93 su R M2) : xX (some (Lx, xs)) m_L_law 7 0 93 ms Q 32 [some vs, some (vr 0), some (vr 78), some (vi i)] [vi z] 93 su R M := by
  by_cases h20 : 19 < z
  · exact x_tswOut (tgt := 690) (pc := 32) d_L_law_32 ⟨by omega, by omega⟩ (Or.inr h20) rfl (kk _ hL)
  · have h : z = 0 ∨ z = 1 ∨ z = 2 ∨ z = 3 ∨ z = 4 ∨ z = 5 ∨ z = 6 ∨ z = 7 ∨ z = 8 ∨ z = 9 ∨ z = 10 ∨ z = 11 ∨ z = 12 ∨ z = 13 ∨ z = 14 ∨ z = 15 ∨ z = 16 ∨ z = 17 ∨ z = 18 ∨ z = 19 := by omega
    rcases h with rfl | rfl | rfl | rfl | rfl | rfl | rfl | rfl | rfl | rfl | rfl | rfl | rfl | rfl | rfl | rfl | rfl | rfl | rfl | rfl
    · exact x_tswIn (tgt := 128) (pc := 32) d_L_law_32 ⟨by decide, by decide⟩ (by decide) (by decide) rfl rfl (La_0 hR hL h0 h4 hLx hsu kk)
    · exact x_tswIn (tgt := 151) (pc := 32) d_L_law_32 ⟨by decide, by decide⟩ (by decide) (by decide) rfl rfl (La_1 hR hL h0 h4 hLx hsu kk)
    · exact x_tswIn (tgt := 184) (pc := 32) d_L_law_32 ⟨by decide, by decide⟩ (by decide) (by decide) rfl rfl (La_2 hR hL h0 h4 hLx hsu kk)
    · exact x_tswIn (tgt := 217) (pc := 32) d_L_law_32 ⟨by decide, by decide⟩ (by decide) (by decide) rfl rfl (La_3 hR hL h0 h4 hLx hsu kk)
    · exact x_tswIn (tgt := 240) (pc := 32) d_L_law_32 ⟨by decide, by decide⟩ (by decide) (by decide) rfl rfl (La_4 hR hL h0 h4 hLx hsu kk)
    · exact x_tswIn (tgt := 283) (pc := 32) d_L_law_32 ⟨by decide, by decide⟩ (by decide) (by decide) rfl rfl (La_5 hR hL h0 h4 hLx hsu kk)
    · exact x_tswIn (tgt := 316) (pc := 32) d_L_law_32 ⟨by decide, by decide⟩ (by decide) (by decide) rfl rfl (La_6 hR hL h0 h4 hLx hsu kk)
    · exact x_tswIn (tgt := 355) (pc := 32) d_L_law_32 ⟨by decide, by decide⟩ (by decide) (by decide) rfl rfl (La_7 hR hL h0 h4 hLx hsu kk)
    · exact x_tswIn (tgt := 388) (pc := 32) d_L_law_32 ⟨by decide, by decide⟩ (by decide) (by decide) rfl rfl (La_8 hR hL h0 h4 hLx hsu kk)
    · exact x_tswIn (tgt := 411) (pc := 32) d_L_law_32 ⟨by decide, by decide⟩ (by decide) (by decide) rfl rfl (La_9 hR hL h0 h4 hLx hsu kk)
    · exact x_tswIn (tgt := 434) (pc := 32) d_L_law_32 ⟨by decide, by decide⟩ (by decide) (by decide) rfl rfl (La_10 hR hL h0 h4 hLx hsu kk)
    · exact x_tswIn (tgt := 457) (pc := 32) d_L_law_32 ⟨by decide, by decide⟩ (by decide) (by decide) rfl rfl (La_11 hR hL h0 h4 hLx hsu kk)
    · exact x_tswIn (tgt := 496) (pc := 32) d_L_law_32 ⟨by decide, by decide⟩ (by decide) (by decide) rfl rfl (La_12 hR hL h0 h4 hLx hsu kk)
    · exact x_tswIn (tgt := 519) (pc := 32) d_L_law_32 ⟨by decide, by decide⟩ (by decide) (by decide) rfl rfl (La_13 hR hL h0 h4 hLx hsu kk)
    · exact x_tswIn (tgt := 542) (pc := 32) d_L_law_32 ⟨by decide, by decide⟩ (by decide) (by decide) rfl rfl (La_14 hR hL h0 h4 hLx hsu kk)
    · exact x_tswIn (tgt := 565) (pc := 32) d_L_law_32 ⟨by decide, by decide⟩ (by decide) (by decide) rfl rfl (La_15 hR hL h0 h4 hLx hsu kk)
    · exact x_tswIn (tgt := 588) (pc := 32) d_L_law_32 ⟨by decide, by decide⟩ (by decide) (by decide) rfl rfl (La_16 hR hL h0 h4 hLx hsu kk)
    · exact x_tswIn (tgt := 621) (pc := 32) d_L_law_32 ⟨by decide, by decide⟩ (by decide) (by decide) rfl rfl (La_17 hR hL h0 h4 hLx hsu kk)
    · exact x_tswIn (tgt := 644) (pc := 32) d_L_law_32 ⟨by decide, by decide⟩ (by decide) (by decide) rfl rfl (La_18 hR hL h0 h4 hLx hsu kk)
    · exact x_tswIn (tgt := 667) (pc := 32) d_L_law_32 ⟨by decide, by decide⟩ (by decide) (by decide) rfl rfl (La_19 hR hL h0 h4 hLx hsu kk)
set_option maxRecDepth 20000 in
theorem La_step {ms su : Nat} {R : xR} {M : xM} {Lx : Nat} {xs : Nat → Int32} {Q : Option AV → xR → xM → Prop} {i : Int} (hR : RC 93 R) (hL : LI M) (h0 : 0 ≤ i) (h4 : i + 4 ≤ Lx) (hLx : Lx < 2147483648) (hsu : su ≤ ms) (kk : ∀ M2, LI M2 → xX (some (Lx, xs)) m_L_law 7 0 93 ms Q 690 [some vs, some (vr 0), some (vr 78), some (vi i)] [] 93 su R M2) : xX (some (Lx, xs)) m_L_law 7 0 93 ms Q 26 [some vs, some (vr 0), some (vr 78), some (vi i)] [] 93 su R M := by
  refine x_aloads_n (pc := 26) d_L_law_26 rfl rfl ?_
  refine x_iload_n (pc := 27) d_L_law_27 rfl rfl ?_
  refine x_sld (pc := 28) rfl d_L_law_28 hLx (by omega) (by show _ < (Lx : Int); omega) ?_
  refine x_bipush (pc := 29) d_L_law_29 (by decide) ?_
  refine x_iand (pc := 31) d_L_law_31 ?_
  exact La_sw (xAnd31 _) hR hL h0 h4 hLx hsu kk
set_option maxRecDepth 20000 in
theorem La_loop {ms su : Nat} {R : xR} {Lx : Nat} {xs : Nat → Int32} {Q : Option AV → xR → xM → Prop} (hR : RC 93 R) (hLx : Lx < 2147483648) (hsu : su ≤ ms) (hQ : ∀ M, Q (some (vi 1)) R M) : ∀ (k : Nat) (M : xM) (i : Int), LI M → 0 ≤ i → i ≤ Lx → (Lx : Int) ≤ i + k → xX (some (Lx, xs)) m_L_law 7 0 93 ms Q 18 [some vs, some (vr 0), some (vr 78), some (vi i)] [] 93 su R M := by
  intro k
  induction k with
  | zero =>
    intro M i hL h0 h1 h2
    refine x_iload_n (pc := 18) d_L_law_18 rfl rfl ?_
    refine x_aloads_n (pc := 19) d_L_law_19 rfl rfl ?_
    refine x_slen (pc := 20) rfl d_L_law_20 ?_
    refine x_iconst (pc := 21) d_L_law_21 ?_
    refine x_isub (pc := 22) d_L_law_22 ?_
    refine x_icmp_gt (tgt := 696) (pc := 23) d_L_law_23 rfl ⟨by omega, by omega⟩ ⟨by show _ ≤ (Lx : Int) - 4; omega, by show (Lx : Int) - 4 < _; omega⟩ (fun _ => ?_) (fun hb => ?_)
    · refine x_iconst (pc := 696) d_L_law_696 ?_
      exact x_zret (pc := 697) d_L_law_697 rfl (Or.inr rfl) rfl hsu (hQ _)
    · have hb' : ¬ (Lx : Int) - 4 < i := hb
      omega
  | succ k ih =>
    intro M i hL h0 h1 h2
    refine x_iload_n (pc := 18) d_L_law_18 rfl rfl ?_
    refine x_aloads_n (pc := 19) d_L_law_19 rfl rfl ?_
    refine x_slen (pc := 20) rfl d_L_law_20 ?_
    refine x_iconst (pc := 21) d_L_law_21 ?_
    refine x_isub (pc := 22) d_L_law_22 ?_
    refine x_icmp_gt (tgt := 696) (pc := 23) d_L_law_23 rfl ⟨by omega, by omega⟩ ⟨by show _ ≤ (Lx : Int) - 4; omega, by show (Lx : Int) - 4 < _; omega⟩ (fun _ => ?_) (fun hb => ?_)
    · refine x_iconst (pc := 696) d_L_law_696 ?_
      exact x_zret (pc := 697) d_L_law_697 rfl (Or.inr rfl) rfl hsu (hQ _)
    · have hb' : ¬ (Lx : Int) - 4 < i := hb
      refine La_step hR hL h0 (by omega) hLx hsu (fun M2 hL2 => ?_)
      refine x_iinc (pc := 690) d_L_law_690 rfl (by decide) ?_
      refine x_goto (tgt := 18) (pc := 693) d_L_law_693 rfl ?_
      exact ih M2 (i + 4) hL2 (by omega) (by omega) (by omega)
set_option maxRecDepth 20000 in
theorem La_all {Lx : Nat} {xs : Nat → Int32} {Q : Option AV → xR → xM → Prop} (hLx : Lx < 2147483648) (hQ : ∀ R M, Q (some (vi 1)) R M) : xX (some (Lx, xs)) m_L_law 7 0 93 28141 Q 0 [some vs, none, none, none] [] 0 0 (xRc 0) (fun _ _ => 0) := by
  refine x_new R_D 9 0 7 (pc := 0) d_L_law_0 cok0 rfl w_52 w_53 w_42 rfl dv_0 (xRc_none (by decide +kernel)) (fun _ => rfl) (Nat.le_of_ble_eq_true rfl) (Nat.le_of_ble_eq_true rfl) ?_
  refine x_dup (pc := 3) d_L_law_3 ?_
  refine y_callI m_D_init 6 77 4098 9 0 [] [_] rfl (pc := 4) d_L_law_4 ok_D_init rfl rfl w_54 w_55 pn_D_init (by decide) (Nat.le_of_ble_eq_true rfl) (Nat.le_of_ble_eq_true rfl) (Nat.le_of_ble_eq_true rfl) (K_D_init (fun _ _ _ => rfl)) (fun M1 h1 => ?_)
  refine x_astore_n (pc := 7) d_L_law_7 rfl (by decide) ?_
  refine x_new R_M 21 7 10 (pc := 8) d_L_law_8 cok7 rfl w_547 w_548 w_51 rfl dv_7 (xRc_none (by decide +kernel)) (fun j => by rw [h1.2 _ (Nat.le_of_ble_eq_true rfl)]) (Nat.le_of_ble_eq_true rfl) (Nat.le_of_ble_eq_true rfl) ?_
  refine x_dup (pc := 11) d_L_law_11 ?_
  refine y_callI m_M_init 2 14 24013 12 78 [] [_] rfl (pc := 12) d_L_law_12 ok_M_init rfl rfl w_549 w_550 pn_M_init (by decide) (Nat.le_of_ble_eq_true rfl) (Nat.le_of_ble_eq_true rfl) (Nat.le_of_ble_eq_true rfl) (K_M_init (fun k hk j => by rw [h1.2 k hk])) (fun M2 h2 => ?_)
  refine x_astore_n (pc := 15) d_L_law_15 rfl (by decide) ?_
  refine x_iconst (pc := 16) d_L_law_16 ?_
  refine x_istore_n (pc := 17) d_L_law_17 rfl (by decide) ?_
  have hL : LI M2 := ⟨11, 0, 7, 2, _, _, _, none, [], none, [], h1.1.high h2.2, h2.1, Or.inl ⟨rfl, rfl⟩, LLk.nil⟩
  exact La_loop (su := 28141) xRc_end hLx (Nat.le_refl _) (fun M => hQ _ M) Lx M2 0 hL (by omega) (by omega) (by omega)
