/-! the constructors -/
set_option maxRecDepth 20000 in
theorem K_F_init {M : xM} (hM : ∀ k, 1 ≤ k → ∀ j, M k j = 0) (Q : Option AV → xR → xM → Prop) (hQ : ∀ M1, M1 = M → Q none (xRc 3) M1) : xC m_F_init 1 2 3 1088 [vr 1] (xRc 0) M Q := by
  refine xC.of [some (vr 1)] (by decide) rfl (Nat.le_of_ble_eq_true rfl) rfl ?_
  refine x_aload_n (pc := 0) d_F_init_0 rfl rfl ?_
  refine x_objInit 3 1 (pc := 1) d_F_init_1 w_65 w_58 w_59 (by decide) (Nat.le_of_ble_eq_true rfl) ?_
  refine x_aload_n (pc := 4) d_F_init_4 rfl rfl ?_
  refine x_bipush (pc := 5) d_F_init_5 (by decide) ?_
  refine x_newa 0 32 (pc := 7) d_F_init_7 rfl (Or.inl ⟨rfl, rfl⟩) rfl (by decide) w_88 rfl (hM _ (Nat.le_of_ble_eq_true rfl)) (Nat.le_of_ble_eq_true rfl) (Nat.le_of_ble_eq_true rfl) ?_
  refine x_putRF (k := 1) (ci := 1) (pc := 9) 2 d_F_init_9 cok1 rfl (Nat.le_of_ble_eq_true rfl) rfl (by decide) rfl rfl rfl rfl (fun _ => rfl) (fun _ => rfl) w_72 ?_
  refine x_Rto (show xUR (xRc 0) 1 2 (some 2) = xRc 1 from xRc_put rfl rfl) ?_
  refine x_aload_n (pc := 12) d_F_init_12 rfl rfl ?_
  refine x_bipush (pc := 13) d_F_init_13 (by decide) ?_
  refine x_newa 0 32 (pc := 15) d_F_init_15 rfl (Or.inl ⟨rfl, rfl⟩) rfl (by decide) w_88 rfl (hM _ (Nat.le_of_ble_eq_true rfl)) (Nat.le_of_ble_eq_true rfl) (Nat.le_of_ble_eq_true rfl) ?_
  refine x_putRF (k := 1) (ci := 1) (pc := 17) 3 d_F_init_17 cok1 rfl (Nat.le_of_ble_eq_true rfl) rfl (by decide) rfl rfl rfl rfl (fun _ => rfl) (fun _ => rfl) w_74 ?_
  refine x_Rto (show xUR (xRc 1) 1 3 (some 3) = xRc 2 from xRc_put rfl rfl) ?_
  refine x_aload_n (pc := 20) d_F_init_20 rfl rfl ?_
  refine x_sipush (pc := 21) d_F_init_21 (by decide) ?_
  refine x_newa 0 1024 (pc := 24) d_F_init_24 rfl (Or.inl ⟨rfl, rfl⟩) rfl (by decide) w_88 rfl (hM _ (Nat.le_of_ble_eq_true rfl)) (Nat.le_of_ble_eq_true rfl) (Nat.le_of_ble_eq_true rfl) ?_
  refine x_putRF (k := 1) (ci := 1) (pc := 26) 4 d_F_init_26 cok1 rfl (Nat.le_of_ble_eq_true rfl) rfl (by decide) rfl rfl rfl rfl (fun _ => rfl) (fun _ => rfl) w_76 ?_
  refine x_Rto (show xUR (xRc 2) 1 4 (some 4) = xRc 3 from xRc_put rfl rfl) ?_
  exact x_vret (pc := 29) d_F_init_29 rfl rfl (Nat.le_of_ble_eq_true rfl) (hQ _ rfl)
set_option maxRecDepth 20000 in
theorem K_C_init {M : xM} (hM : ∀ k, 5 ≤ k → ∀ j, M k j = 0) (Q : Option AV → xR → xM → Prop) (hQ : ∀ M1, M1 = M → Q none (xRc 24) M1) : xC m_C_init 1 6 19 380 [vr 5, vr 1] (xRc 4) M Q := by
  refine xC.of [some (vr 5), some (vr 1)] (by decide) rfl (Nat.le_of_ble_eq_true rfl) rfl ?_
  refine x_aload_n (pc := 0) d_C_init_0 rfl rfl ?_
  refine x_objInit 3 5 (pc := 1) d_C_init_1 w_94 w_58 w_59 (by decide) (Nat.le_of_ble_eq_true rfl) ?_
  refine x_aload_n (pc := 4) d_C_init_4 rfl rfl ?_
  refine x_bipush (pc := 5) d_C_init_5 (by decide) ?_
  refine x_newa 0 20 (pc := 7) d_C_init_7 rfl (Or.inl ⟨rfl, rfl⟩) rfl (by decide) w_88 rfl (hM _ (Nat.le_of_ble_eq_true rfl)) (Nat.le_of_ble_eq_true rfl) (Nat.le_of_ble_eq_true rfl) ?_
  refine x_putRF (k := 5) (ci := 2) (pc := 9) 4 d_C_init_9 cok2 rfl (Nat.le_of_ble_eq_true rfl) rfl (by decide) rfl rfl rfl rfl (fun _ => rfl) (fun _ => rfl) w_108 ?_
  refine x_Rto (show xUR (xRc 4) 5 4 (some 6) = xRc 5 from xRc_put rfl rfl) ?_
  refine x_aload_n (pc := 12) d_C_init_12 rfl rfl ?_
  refine x_bipush (pc := 13) d_C_init_13 (by decide) ?_
  refine x_newa 0 20 (pc := 15) d_C_init_15 rfl (Or.inl ⟨rfl, rfl⟩) rfl (by decide) w_88 rfl (hM _ (Nat.le_of_ble_eq_true rfl)) (Nat.le_of_ble_eq_true rfl) (Nat.le_of_ble_eq_true rfl) ?_
  refine x_putRF (k := 5) (ci := 2) (pc := 17) 5 d_C_init_17 cok2 rfl (Nat.le_of_ble_eq_true rfl) rfl (by decide) rfl rfl rfl rfl (fun _ => rfl) (fun _ => rfl) w_111 ?_
  refine x_Rto (show xUR (xRc 5) 5 5 (some 7) = xRc 6 from xRc_put rfl rfl) ?_
  refine x_aload_n (pc := 20) d_C_init_20 rfl rfl ?_
  refine x_bipush (pc := 21) d_C_init_21 (by decide) ?_
  refine x_newa 0 20 (pc := 23) d_C_init_23 rfl (Or.inl ⟨rfl, rfl⟩) rfl (by decide) w_88 rfl (hM _ (Nat.le_of_ble_eq_true rfl)) (Nat.le_of_ble_eq_true rfl) (Nat.le_of_ble_eq_true rfl) ?_
  refine x_putRF (k := 5) (ci := 2) (pc := 25) 6 d_C_init_25 cok2 rfl (Nat.le_of_ble_eq_true rfl) rfl (by decide) rfl rfl rfl rfl (fun _ => rfl) (fun _ => rfl) w_113 ?_
  refine x_Rto (show xUR (xRc 6) 5 6 (some 8) = xRc 7 from xRc_put rfl rfl) ?_
  refine x_aload_n (pc := 28) d_C_init_28 rfl rfl ?_
  refine x_bipush (pc := 29) d_C_init_29 (by decide) ?_
  refine x_newa 0 20 (pc := 31) d_C_init_31 rfl (Or.inl ⟨rfl, rfl⟩) rfl (by decide) w_88 rfl (hM _ (Nat.le_of_ble_eq_true rfl)) (Nat.le_of_ble_eq_true rfl) (Nat.le_of_ble_eq_true rfl) ?_
  refine x_putRF (k := 5) (ci := 2) (pc := 33) 7 d_C_init_33 cok2 rfl (Nat.le_of_ble_eq_true rfl) rfl (by decide) rfl rfl rfl rfl (fun _ => rfl) (fun _ => rfl) w_115 ?_
  refine x_Rto (show xUR (xRc 7) 5 7 (some 9) = xRc 8 from xRc_put rfl rfl) ?_
  refine x_aload_n (pc := 36) d_C_init_36 rfl rfl ?_
  refine x_iconst (pc := 37) d_C_init_37 ?_
  refine x_bipush (pc := 38) d_C_init_38 (by decide) ?_
  refine x_multi 24 4 24 (pc := 40) d_C_init_40 wcl_C w_88 rfl rfl (by decide) (by decide) rfl (by decide +kernel) (fun k hk => hM k (Nat.le_trans (Nat.le_of_ble_eq_true rfl) hk)) (Nat.le_of_ble_eq_true rfl) (Nat.le_of_ble_eq_true rfl) ?_
  refine x_Rto (show xUG (xRc 8) 10 4 = xRc 12 from xRc_grid 4 (by decide +kernel)) ?_
  refine x_putRF (k := 5) (ci := 2) (pc := 44) 8 d_C_init_44 cok2 rfl (Nat.le_of_ble_eq_true rfl) rfl (by decide) rfl rfl rfl rfl (fun _ => rfl) (fun _ => rfl) w_116 ?_
  refine x_Rto (show xUR (xRc 12) 5 8 (some 10) = xRc 13 from xRc_put rfl rfl) ?_
  refine x_aload_n (pc := 47) d_C_init_47 rfl rfl ?_
  refine x_iconst (pc := 48) d_C_init_48 ?_
  refine x_bipush (pc := 49) d_C_init_49 (by decide) ?_
  refine x_multi 24 4 24 (pc := 51) d_C_init_51 wcl_C w_88 rfl rfl (by decide) (by decide) rfl (by decide +kernel) (fun k hk => hM k (Nat.le_trans (Nat.le_of_ble_eq_true rfl) hk)) (Nat.le_of_ble_eq_true rfl) (Nat.le_of_ble_eq_true rfl) ?_
  refine x_Rto (show xUG (xRc 13) 15 4 = xRc 17 from xRc_grid 4 (by decide +kernel)) ?_
  refine x_putRF (k := 5) (ci := 2) (pc := 55) 9 d_C_init_55 cok2 rfl (Nat.le_of_ble_eq_true rfl) rfl (by decide) rfl rfl rfl rfl (fun _ => rfl) (fun _ => rfl) w_118 ?_
  refine x_Rto (show xUR (xRc 17) 5 9 (some 15) = xRc 18 from xRc_put rfl rfl) ?_
  refine x_aload_n (pc := 58) d_C_init_58 rfl rfl ?_
  refine x_iconst (pc := 59) d_C_init_59 ?_
  refine x_bipush (pc := 60) d_C_init_60 (by decide) ?_
  refine x_multi 24 4 24 (pc := 62) d_C_init_62 wcl_C w_88 rfl rfl (by decide) (by decide) rfl (by decide +kernel) (fun k hk => hM k (Nat.le_trans (Nat.le_of_ble_eq_true rfl) hk)) (Nat.le_of_ble_eq_true rfl) (Nat.le_of_ble_eq_true rfl) ?_
  refine x_Rto (show xUG (xRc 18) 20 4 = xRc 22 from xRc_grid 4 (by decide +kernel)) ?_
  refine x_putRF (k := 5) (ci := 2) (pc := 66) 10 d_C_init_66 cok2 rfl (Nat.le_of_ble_eq_true rfl) rfl (by decide) rfl rfl rfl rfl (fun _ => rfl) (fun _ => rfl) w_121 ?_
  refine x_Rto (show xUR (xRc 22) 5 10 (some 20) = xRc 23 from xRc_put rfl rfl) ?_
  refine x_aload_n (pc := 69) d_C_init_69 rfl rfl ?_
  refine x_aload_n (pc := 70) d_C_init_70 rfl rfl ?_
  refine x_putRF (k := 5) (ci := 2) (pc := 71) 0 d_C_init_71 cok2 rfl (Nat.le_of_ble_eq_true rfl) rfl (by decide) rfl rfl rfl rfl (fun _ => rfl) (fun _ => rfl) w_97 ?_
  refine x_Rto (show xUR (xRc 23) 5 0 (some 1) = xRc 24 from xRc_put rfl rfl) ?_
  exact x_vret (pc := 74) d_C_init_74 rfl rfl (Nat.le_of_ble_eq_true rfl) (hQ _ rfl)
set_option maxRecDepth 20000 in
theorem K_W_init {M : xM} (hM : ∀ k, 26 ≤ k → ∀ j, M k j = 0) (Q : Option AV → xR → xM → Prop) (hQ : ∀ M1, M1 = M → Q none (xRc 28) M1) : xC m_W_init 1 27 2 40 [vr 26] (xRc 26) M Q := by
  refine xC.of [some (vr 26)] (by decide) rfl (Nat.le_of_ble_eq_true rfl) rfl ?_
  refine x_aload_n (pc := 0) d_W_init_0 rfl rfl ?_
  refine x_objInit 3 26 (pc := 1) d_W_init_1 w_151 w_58 w_59 (by decide) (Nat.le_of_ble_eq_true rfl) ?_
  refine x_aload_n (pc := 4) d_W_init_4 rfl rfl ?_
  refine x_bipush (pc := 5) d_W_init_5 (by decide) ?_
  refine x_newa 0 20 (pc := 7) d_W_init_7 rfl (Or.inl ⟨rfl, rfl⟩) rfl (by decide) w_88 rfl (hM _ (Nat.le_of_ble_eq_true rfl)) (Nat.le_of_ble_eq_true rfl) (Nat.le_of_ble_eq_true rfl) ?_
  refine x_putRF (k := 26) (ci := 3) (pc := 9) 1 d_W_init_9 cok3 rfl (Nat.le_of_ble_eq_true rfl) rfl (by decide) rfl rfl rfl rfl (fun _ => rfl) (fun _ => rfl) w_155 ?_
  refine x_Rto (show xUR (xRc 26) 26 1 (some 27) = xRc 27 from xRc_put rfl rfl) ?_
  refine x_aload_n (pc := 12) d_W_init_12 rfl rfl ?_
  refine x_bipush (pc := 13) d_W_init_13 (by decide) ?_
  refine x_newa 1 20 (pc := 15) d_W_init_15 rfl (Or.inr ⟨rfl, rfl⟩) rfl (by decide) w_170 rfl (hM _ (Nat.le_of_ble_eq_true rfl)) (Nat.le_of_ble_eq_true rfl) (Nat.le_of_ble_eq_true rfl) ?_
  refine x_putRF (k := 26) (ci := 3) (pc := 17) 2 d_W_init_17 cok3 rfl (Nat.le_of_ble_eq_true rfl) rfl (by decide) rfl rfl rfl rfl (fun _ => rfl) (fun _ => rfl) w_159 ?_
  refine x_Rto (show xUR (xRc 27) 26 2 (some 28) = xRc 28 from xRc_put rfl rfl) ?_
  exact x_vret (pc := 20) d_W_init_20 rfl rfl (Nat.le_of_ble_eq_true rfl) (hQ _ rfl)
set_option maxRecDepth 20000 in
theorem K_S_init {M : xM} (hM : ∀ k, 29 ≤ k → ∀ j, M k j = 0) (Q : Option AV → xR → xM → Prop) (hQ : ∀ M1, M1 = M → Q none (xRc 34) M1) : xC m_S_init 1 30 2 36 [vr 29, vr 1, vr 5, vr 26] (xRc 29) M Q := by
  refine xC.of [some (vr 29), some (vr 1), some (vr 5), some (vr 26)] (by decide) rfl (Nat.le_of_ble_eq_true rfl) rfl ?_
  refine x_aload_n (pc := 0) d_S_init_0 rfl rfl ?_
  refine x_objInit 3 29 (pc := 1) d_S_init_1 w_176 w_58 w_59 (by decide) (Nat.le_of_ble_eq_true rfl) ?_
  refine x_aload_n (pc := 4) d_S_init_4 rfl rfl ?_
  refine x_iconst (pc := 5) d_S_init_5 ?_
  refine x_newa 0 4 (pc := 6) d_S_init_6 rfl (Or.inl ⟨rfl, rfl⟩) rfl (by decide) w_88 rfl (hM _ (Nat.le_of_ble_eq_true rfl)) (Nat.le_of_ble_eq_true rfl) (Nat.le_of_ble_eq_true rfl) ?_
  refine x_putRF (k := 29) (ci := 4) (pc := 8) 3 d_S_init_8 cok4 rfl (Nat.le_of_ble_eq_true rfl) rfl (by decide) rfl rfl rfl rfl (fun _ => rfl) (fun _ => rfl) w_180 ?_
  refine x_Rto (show xUR (xRc 29) 29 3 (some 30) = xRc 30 from xRc_put rfl rfl) ?_
  refine x_aload_n (pc := 11) d_S_init_11 rfl rfl ?_
  refine x_bipush (pc := 12) d_S_init_12 (by decide) ?_
  refine x_newa 0 32 (pc := 14) d_S_init_14 rfl (Or.inl ⟨rfl, rfl⟩) rfl (by decide) w_88 rfl (hM _ (Nat.le_of_ble_eq_true rfl)) (Nat.le_of_ble_eq_true rfl) (Nat.le_of_ble_eq_true rfl) ?_
  refine x_putRF (k := 29) (ci := 4) (pc := 16) 4 d_S_init_16 cok4 rfl (Nat.le_of_ble_eq_true rfl) rfl (by decide) rfl rfl rfl rfl (fun _ => rfl) (fun _ => rfl) w_181 ?_
  refine x_Rto (show xUR (xRc 30) 29 4 (some 31) = xRc 31 from xRc_put rfl rfl) ?_
  refine x_aload_n (pc := 19) d_S_init_19 rfl rfl ?_
  refine x_aload_n (pc := 20) d_S_init_20 rfl rfl ?_
  refine x_putRF (k := 29) (ci := 4) (pc := 21) 0 d_S_init_21 cok4 rfl (Nat.le_of_ble_eq_true rfl) rfl (by decide) rfl rfl rfl rfl (fun _ => rfl) (fun _ => rfl) w_177 ?_
  refine x_Rto (show xUR (xRc 31) 29 0 (some 1) = xRc 32 from xRc_put rfl rfl) ?_
  refine x_aload_n (pc := 24) d_S_init_24 rfl rfl ?_
  refine x_aload_n (pc := 25) d_S_init_25 rfl rfl ?_
  refine x_putRF (k := 29) (ci := 4) (pc := 26) 1 d_S_init_26 cok4 rfl (Nat.le_of_ble_eq_true rfl) rfl (by decide) rfl rfl rfl rfl (fun _ => rfl) (fun _ => rfl) w_178 ?_
  refine x_Rto (show xUR (xRc 32) 29 1 (some 5) = xRc 33 from xRc_put rfl rfl) ?_
  refine x_aload_n (pc := 29) d_S_init_29 rfl rfl ?_
  refine x_aload_n (pc := 30) d_S_init_30 rfl rfl ?_
  refine x_putRF (k := 29) (ci := 4) (pc := 31) 2 d_S_init_31 cok4 rfl (Nat.le_of_ble_eq_true rfl) rfl (by decide) rfl rfl rfl rfl (fun _ => rfl) (fun _ => rfl) w_179 ?_
  refine x_Rto (show xUR (xRc 33) 29 2 (some 26) = xRc 34 from xRc_put rfl rfl) ?_
  exact x_vret (pc := 34) d_S_init_34 rfl rfl (Nat.le_of_ble_eq_true rfl) (hQ _ rfl)
set_option maxRecDepth 20000 in
theorem K_N_init_1 {M : xM} (hM : ∀ k, 32 ≤ k → ∀ j, M k j = 0) (Q : Option AV → xR → xM → Prop) (hQ : ∀ M1, M1 = M → Q none (xRc 39) M1) : xC m_N_init 1 33 3 22 [vr 32, vr 5, vi 1] (xRc 35) M Q := by
  refine xC.of [some (vr 32), some (vr 5), some (vi 1)] (by decide) rfl (Nat.le_of_ble_eq_true rfl) rfl ?_
  refine x_aload_n (pc := 0) d_N_init_0 rfl rfl ?_
  refine x_objInit 3 32 (pc := 1) d_N_init_1 w_201 w_58 w_59 (by decide) (Nat.le_of_ble_eq_true rfl) ?_
  refine x_aload_n (pc := 4) d_N_init_4 rfl rfl ?_
  refine x_aload_n (pc := 5) d_N_init_5 rfl rfl ?_
  refine x_putRF (k := 32) (ci := 5) (pc := 6) 0 d_N_init_6 cok5 rfl (Nat.le_of_ble_eq_true rfl) rfl (by decide) rfl rfl rfl rfl (fun _ => rfl) (fun _ => rfl) w_203 ?_
  refine x_Rto (show xUR (xRc 35) 32 0 (some 5) = xRc 36 from xRc_put rfl rfl) ?_
  refine x_aload_n (pc := 9) d_N_init_9 rfl rfl ?_
  refine x_iload_n (pc := 10) d_N_init_10 rfl rfl ?_
  refine x_bipush (pc := 11) d_N_init_11 (by decide) ?_
  refine x_multi 15 1 20 (pc := 13) d_N_init_13 wcl_N w_88 rfl rfl (by decide) (by decide) rfl (by decide +kernel) (fun k hk => hM k (Nat.le_trans (Nat.le_of_ble_eq_true rfl) hk)) (Nat.le_of_ble_eq_true rfl) (Nat.le_of_ble_eq_true rfl) ?_
  refine x_Rto (show xUG (xRc 36) 33 1 = xRc 37 from xRc_grid 1 (by decide +kernel)) ?_
  refine x_putRF (k := 32) (ci := 5) (pc := 17) 2 d_N_init_17 cok5 rfl (Nat.le_of_ble_eq_true rfl) rfl (by decide) rfl rfl rfl rfl (fun _ => rfl) (fun _ => rfl) w_207 ?_
  refine x_Rto (show xUR (xRc 37) 32 2 (some 33) = xRc 38 from xRc_put rfl rfl) ?_
  refine x_aload_n (pc := 20) d_N_init_20 rfl rfl ?_
  refine x_iload_n (pc := 21) d_N_init_21 rfl rfl ?_
  refine x_newa 0 1 (pc := 22) d_N_init_22 rfl (Or.inl ⟨rfl, rfl⟩) rfl (by decide) w_88 rfl (hM _ (Nat.le_of_ble_eq_true rfl)) (Nat.le_of_ble_eq_true rfl) (Nat.le_of_ble_eq_true rfl) ?_
  refine x_putRF (k := 32) (ci := 5) (pc := 24) 3 d_N_init_24 cok5 rfl (Nat.le_of_ble_eq_true rfl) rfl (by decide) rfl rfl rfl rfl (fun _ => rfl) (fun _ => rfl) w_209 ?_
  refine x_Rto (show xUR (xRc 38) 32 3 (some 35) = xRc 39 from xRc_put rfl rfl) ?_
  exact x_vret (pc := 27) d_N_init_27 rfl rfl (Nat.le_of_ble_eq_true rfl) (hQ _ rfl)
set_option maxRecDepth 20000 in
theorem K_N_init_2 {M : xM} (hM : ∀ k, 36 ≤ k → ∀ j, M k j = 0) (Q : Option AV → xR → xM → Prop) (hQ : ∀ M1, M1 = M → Q none (xRc 59) M1) : xC m_N_init 1 37 18 352 [vr 36, vr 5, vi 16] (xRc 40) M Q := by
  refine xC.of [some (vr 36), some (vr 5), some (vi 16)] (by decide) rfl (Nat.le_of_ble_eq_true rfl) rfl ?_
  refine x_aload_n (pc := 0) d_N_init_0 rfl rfl ?_
  refine x_objInit 3 36 (pc := 1) d_N_init_1 w_201 w_58 w_59 (by decide) (Nat.le_of_ble_eq_true rfl) ?_
  refine x_aload_n (pc := 4) d_N_init_4 rfl rfl ?_
  refine x_aload_n (pc := 5) d_N_init_5 rfl rfl ?_
  refine x_putRF (k := 36) (ci := 5) (pc := 6) 0 d_N_init_6 cok5 rfl (Nat.le_of_ble_eq_true rfl) rfl (by decide) rfl rfl rfl rfl (fun _ => rfl) (fun _ => rfl) w_203 ?_
  refine x_Rto (show xUR (xRc 40) 36 0 (some 5) = xRc 41 from xRc_put rfl rfl) ?_
  refine x_aload_n (pc := 9) d_N_init_9 rfl rfl ?_
  refine x_iload_n (pc := 10) d_N_init_10 rfl rfl ?_
  refine x_bipush (pc := 11) d_N_init_11 (by decide) ?_
  refine x_multi 15 16 20 (pc := 13) d_N_init_13 wcl_N w_88 rfl rfl (by decide) (by decide) rfl (by decide +kernel) (fun k hk => hM k (Nat.le_trans (Nat.le_of_ble_eq_true rfl) hk)) (Nat.le_of_ble_eq_true rfl) (Nat.le_of_ble_eq_true rfl) ?_
  refine x_Rto (show xUG (xRc 41) 37 16 = xRc 57 from xRc_grid 16 (by decide +kernel)) ?_
  refine x_putRF (k := 36) (ci := 5) (pc := 17) 2 d_N_init_17 cok5 rfl (Nat.le_of_ble_eq_true rfl) rfl (by decide) rfl rfl rfl rfl (fun _ => rfl) (fun _ => rfl) w_207 ?_
  refine x_Rto (show xUR (xRc 57) 36 2 (some 37) = xRc 58 from xRc_put rfl rfl) ?_
  refine x_aload_n (pc := 20) d_N_init_20 rfl rfl ?_
  refine x_iload_n (pc := 21) d_N_init_21 rfl rfl ?_
  refine x_newa 0 16 (pc := 22) d_N_init_22 rfl (Or.inl ⟨rfl, rfl⟩) rfl (by decide) w_88 rfl (hM _ (Nat.le_of_ble_eq_true rfl)) (Nat.le_of_ble_eq_true rfl) (Nat.le_of_ble_eq_true rfl) ?_
  refine x_putRF (k := 36) (ci := 5) (pc := 24) 3 d_N_init_24 cok5 rfl (Nat.le_of_ble_eq_true rfl) rfl (by decide) rfl rfl rfl rfl (fun _ => rfl) (fun _ => rfl) w_209 ?_
  refine x_Rto (show xUR (xRc 58) 36 3 (some 54) = xRc 59 from xRc_put rfl rfl) ?_
  exact x_vret (pc := 27) d_N_init_27 rfl rfl (Nat.le_of_ble_eq_true rfl) (hQ _ rfl)
set_option maxRecDepth 20000 in
theorem K_P_init {M : xM} (hM : ∀ k, 56 ≤ k → ∀ j, M k j = 0) (Q : Option AV → xR → xM → Prop) (hQ : ∀ M1, M1 = M → Q none (xRc 85) M1) : xC m_P_init 1 57 21 2112 [vr 56, vr 1, vr 5, vr 26] (xRc 61) M Q := by
  refine xC.of [some (vr 56), some (vr 1), some (vr 5), some (vr 26)] (by decide) rfl (Nat.le_of_ble_eq_true rfl) rfl ?_
  refine x_aload_n (pc := 0) d_P_init_0 rfl rfl ?_
  refine x_objInit 3 56 (pc := 1) d_P_init_1 w_225 w_58 w_59 (by decide) (Nat.le_of_ble_eq_true rfl) ?_
  refine x_aload_n (pc := 4) d_P_init_4 rfl rfl ?_
  refine x_bipush (pc := 5) d_P_init_5 (by decide) ?_
  refine x_newa 0 20 (pc := 7) d_P_init_7 rfl (Or.inl ⟨rfl, rfl⟩) rfl (by decide) w_88 rfl (hM _ (Nat.le_of_ble_eq_true rfl)) (Nat.le_of_ble_eq_true rfl) (Nat.le_of_ble_eq_true rfl) ?_
  refine x_putRF (k := 56) (ci := 6) (pc := 9) 6 d_P_init_9 cok6 rfl (Nat.le_of_ble_eq_true rfl) rfl (by decide) rfl rfl rfl rfl (fun _ => rfl) (fun _ => rfl) w_233 ?_
  refine x_Rto (show xUR (xRc 61) 56 6 (some 57) = xRc 62 from xRc_put rfl rfl) ?_
  refine x_aload_n (pc := 12) d_P_init_12 rfl rfl ?_
  refine x_bipush (pc := 13) d_P_init_13 (by decide) ?_
  refine x_newa 0 20 (pc := 15) d_P_init_15 rfl (Or.inl ⟨rfl, rfl⟩) rfl (by decide) w_88 rfl (hM _ (Nat.le_of_ble_eq_true rfl)) (Nat.le_of_ble_eq_true rfl) (Nat.le_of_ble_eq_true rfl) ?_
  refine x_putRF (k := 56) (ci := 6) (pc := 17) 7 d_P_init_17 cok6 rfl (Nat.le_of_ble_eq_true rfl) rfl (by decide) rfl rfl rfl rfl (fun _ => rfl) (fun _ => rfl) w_234 ?_
  refine x_Rto (show xUR (xRc 62) 56 7 (some 58) = xRc 63 from xRc_put rfl rfl) ?_
  refine x_aload_n (pc := 20) d_P_init_20 rfl rfl ?_
  refine x_bipush (pc := 21) d_P_init_21 (by decide) ?_
  refine x_newa 1 120 (pc := 23) d_P_init_23 rfl (Or.inr ⟨rfl, rfl⟩) rfl (by decide) w_170 rfl (hM _ (Nat.le_of_ble_eq_true rfl)) (Nat.le_of_ble_eq_true rfl) (Nat.le_of_ble_eq_true rfl) ?_
  refine x_putRF (k := 56) (ci := 6) (pc := 25) 8 d_P_init_25 cok6 rfl (Nat.le_of_ble_eq_true rfl) rfl (by decide) rfl rfl rfl rfl (fun _ => rfl) (fun _ => rfl) w_235 ?_
  refine x_Rto (show xUR (xRc 63) 56 8 (some 59) = xRc 64 from xRc_put rfl rfl) ?_
  refine x_aload_n (pc := 28) d_P_init_28 rfl rfl ?_
  refine x_bipush (pc := 29) d_P_init_29 (by decide) ?_
  refine x_newa 0 16 (pc := 31) d_P_init_31 rfl (Or.inl ⟨rfl, rfl⟩) rfl (by decide) w_88 rfl (hM _ (Nat.le_of_ble_eq_true rfl)) (Nat.le_of_ble_eq_true rfl) (Nat.le_of_ble_eq_true rfl) ?_
  refine x_putRF (k := 56) (ci := 6) (pc := 33) 9 d_P_init_33 cok6 rfl (Nat.le_of_ble_eq_true rfl) rfl (by decide) rfl rfl rfl rfl (fun _ => rfl) (fun _ => rfl) w_236 ?_
  refine x_Rto (show xUR (xRc 64) 56 9 (some 60) = xRc 65 from xRc_put rfl rfl) ?_
  refine x_aload_n (pc := 36) d_P_init_36 rfl rfl ?_
  refine x_bipush (pc := 37) d_P_init_37 (by decide) ?_
  refine x_bipush (pc := 39) d_P_init_39 (by decide) ?_
  refine x_multi 25 16 120 (pc := 41) d_P_init_41 wcl_P w_88 rfl rfl (by decide) (by decide) rfl (by decide +kernel) (fun k hk => hM k (Nat.le_trans (Nat.le_of_ble_eq_true rfl) hk)) (Nat.le_of_ble_eq_true rfl) (Nat.le_of_ble_eq_true rfl) ?_
  refine x_Rto (show xUG (xRc 65) 61 16 = xRc 81 from xRc_grid 16 (by decide +kernel)) ?_
  refine x_putRF (k := 56) (ci := 6) (pc := 45) 10 d_P_init_45 cok6 rfl (Nat.le_of_ble_eq_true rfl) rfl (by decide) rfl rfl rfl rfl (fun _ => rfl) (fun _ => rfl) w_237 ?_
  refine x_Rto (show xUR (xRc 81) 56 10 (some 61) = xRc 82 from xRc_put rfl rfl) ?_
  refine x_aload_n (pc := 48) d_P_init_48 rfl rfl ?_
  refine x_aload_n (pc := 49) d_P_init_49 rfl rfl ?_
  refine x_putRF (k := 56) (ci := 6) (pc := 50) 0 d_P_init_50 cok6 rfl (Nat.le_of_ble_eq_true rfl) rfl (by decide) rfl rfl rfl rfl (fun _ => rfl) (fun _ => rfl) w_227 ?_
  refine x_Rto (show xUR (xRc 82) 56 0 (some 1) = xRc 83 from xRc_put rfl rfl) ?_
  refine x_aload_n (pc := 53) d_P_init_53 rfl rfl ?_
  refine x_aload_n (pc := 54) d_P_init_54 rfl rfl ?_
  refine x_putRF (k := 56) (ci := 6) (pc := 55) 1 d_P_init_55 cok6 rfl (Nat.le_of_ble_eq_true rfl) rfl (by decide) rfl rfl rfl rfl (fun _ => rfl) (fun _ => rfl) w_228 ?_
  refine x_Rto (show xUR (xRc 83) 56 1 (some 5) = xRc 84 from xRc_put rfl rfl) ?_
  refine x_aload_n (pc := 58) d_P_init_58 rfl rfl ?_
  refine x_aload_n (pc := 59) d_P_init_59 rfl rfl ?_
  refine x_putRF (k := 56) (ci := 6) (pc := 60) 2 d_P_init_60 cok6 rfl (Nat.le_of_ble_eq_true rfl) rfl (by decide) rfl rfl rfl rfl (fun _ => rfl) (fun _ => rfl) w_229 ?_
  refine x_Rto (show xUR (xRc 84) 56 2 (some 26) = xRc 85 from xRc_put rfl rfl) ?_
  exact x_vret (pc := 63) d_P_init_63 rfl rfl (Nat.le_of_ble_eq_true rfl) (hQ _ rfl)
set_option maxRecDepth 20000 in
theorem K_D_init {M : xM} (hM : ∀ k, 0 ≤ k → ∀ j, M k j = 0) (Q : Option AV → xR → xM → Prop) (hQ : ∀ M1, (DI 11 0 (gn0 11) 2 (fun _ => 0) (fun _ => 0) (fun _ => false) none [] M1 ∧ ∀ c, 78 ≤ c → M1 c = M c) → Q none (xRc 86) M1) : xC m_D_init 6 1 77 4098 [vr 0] (xRc 0) M Q := by
  refine xC.of [some (vr 0)] (by decide) rfl (Nat.le_of_ble_eq_true rfl) rfl ?_
  refine x_aload_n (pc := 0) d_D_init_0 rfl rfl ?_
  refine x_objInit 3 0 (pc := 1) d_D_init_1 w_57 w_58 w_59 (by decide) (Nat.le_of_ble_eq_true rfl) ?_
  refine x_aload_n (pc := 4) d_D_init_4 rfl rfl ?_
  refine x_new R_F 5 1 9 (pc := 5) d_D_init_5 cok1 rfl w_60 w_61 w_43 rfl dv_1 (xRc_none (by decide +kernel)) (hM _ (Nat.le_of_ble_eq_true rfl)) (Nat.le_of_ble_eq_true rfl) (Nat.le_of_ble_eq_true rfl) ?_
  refine x_dup (pc := 8) d_D_init_8 ?_
  refine y_callIN m_F_init 1 3 1088 11 1 "RadiusDecoder" [] [_, _] rfl (pc := 9) d_D_init_9 ok_F_init rfl rfl w_62 w_63 pn_F_init (by decide) (Nat.le_of_ble_eq_true rfl) (Nat.le_of_ble_eq_true rfl) (Nat.le_of_ble_eq_true rfl) (K_F_init (fun k hk => hM k (Nat.le_trans (Nat.le_of_ble_eq_true rfl) hk))) (fun M1 e1 => ?_)
  subst M1
  refine x_putRF (k := 0) (ci := 0) (pc := 12) 0 d_D_init_12 cok0 rfl (Nat.le_of_ble_eq_true rfl) rfl (by decide) rfl rfl rfl rfl (fun _ => rfl) (fun _ => rfl) w_326 ?_
  refine x_Rto (show xUR (xRc 3) 0 0 (some 1) = xRc 4 from xRc_put rfl rfl) ?_
  refine x_aload_n (pc := 15) d_D_init_15 rfl rfl ?_
  refine x_new R_C 11 2 16 (pc := 16) d_D_init_16 cok2 rfl w_89 w_90 w_44 rfl dv_2 (xRc_none (by decide +kernel)) (hM _ (Nat.le_of_ble_eq_true rfl)) (Nat.le_of_ble_eq_true rfl) (Nat.le_of_ble_eq_true rfl) ?_
  refine x_dup (pc := 19) d_D_init_19 ?_
  refine x_aload_n (pc := 20) d_D_init_20 rfl rfl ?_
  refine x_getR (k := 0) (ci := 0) (pc := 21) (t := 1) 0 d_D_init_21 cok0 rfl (Nat.le_of_ble_eq_true rfl) rfl (by decide) rfl (by decide +kernel) w_326 ?_
  refine y_callI m_C_init 1 19 380 18 5 [_] [_, _] rfl (pc := 24) d_D_init_24 ok_C_init rfl rfl w_91 w_92 pn_C_init (by decide) (Nat.le_of_ble_eq_true rfl) (Nat.le_of_ble_eq_true rfl) (Nat.le_of_ble_eq_true rfl) (K_C_init (fun k hk => hM k (Nat.le_trans (Nat.le_of_ble_eq_true rfl) hk))) (fun M1 e1 => ?_)
  subst M1
  refine x_putRF (k := 0) (ci := 0) (pc := 27) 1 d_D_init_27 cok0 rfl (Nat.le_of_ble_eq_true rfl) rfl (by decide) rfl rfl rfl rfl (fun _ => rfl) (fun _ => rfl) w_327 ?_
  refine x_Rto (show xUR (xRc 24) 0 1 (some 5) = xRc 25 from xRc_put rfl rfl) ?_
  refine x_aload_n (pc := 30) d_D_init_30 rfl rfl ?_
  refine x_iconst (pc := 31) d_D_init_31 ?_
  refine x_newa 0 4 (pc := 32) d_D_init_32 rfl (Or.inl ⟨rfl, rfl⟩) rfl (by decide) w_88 rfl (hM _ (Nat.le_of_ble_eq_true rfl)) (Nat.le_of_ble_eq_true rfl) (Nat.le_of_ble_eq_true rfl) ?_
  refine x_putRF (k := 0) (ci := 0) (pc := 34) 2 d_D_init_34 cok0 rfl (Nat.le_of_ble_eq_true rfl) rfl (by decide) rfl rfl rfl rfl (fun _ => rfl) (fun _ => rfl) w_328 ?_
  refine x_Rto (show xUR (xRc 25) 0 2 (some 25) = xRc 26 from xRc_put rfl rfl) ?_
  refine x_aload_n (pc := 37) d_D_init_37 rfl rfl ?_
  refine x_new R_W 3 3 29 (pc := 38) d_D_init_38 cok3 rfl w_146 w_147 w_45 rfl dv_3 (xRc_none (by decide +kernel)) (hM _ (Nat.le_of_ble_eq_true rfl)) (Nat.le_of_ble_eq_true rfl) (Nat.le_of_ble_eq_true rfl) ?_
  refine x_dup (pc := 41) d_D_init_41 ?_
  refine y_callIN m_W_init 1 2 40 31 26 "RadiusDecoder" [] [_, _] rfl (pc := 42) d_D_init_42 ok_W_init rfl rfl w_148 w_149 pn_W_init (by decide) (Nat.le_of_ble_eq_true rfl) (Nat.le_of_ble_eq_true rfl) (Nat.le_of_ble_eq_true rfl) (K_W_init (fun k hk => hM k (Nat.le_trans (Nat.le_of_ble_eq_true rfl) hk))) (fun M1 e1 => ?_)
  subst M1
  refine x_putRF (k := 0) (ci := 0) (pc := 45) 3 d_D_init_45 cok0 rfl (Nat.le_of_ble_eq_true rfl) rfl (by decide) rfl rfl rfl rfl (fun _ => rfl) (fun _ => rfl) w_329 ?_
  refine x_Rto (show xUR (xRc 28) 0 3 (some 26) = xRc 29 from xRc_put rfl rfl) ?_
  refine x_aload_n (pc := 48) d_D_init_48 rfl rfl ?_
  refine x_new R_S 6 4 36 (pc := 49) d_D_init_49 cok4 rfl w_171 w_172 w_46 rfl dv_4 (xRc_none (by decide +kernel)) (hM _ (Nat.le_of_ble_eq_true rfl)) (Nat.le_of_ble_eq_true rfl) (Nat.le_of_ble_eq_true rfl) ?_
  refine x_dup (pc := 52) d_D_init_52 ?_
  refine x_aload_n (pc := 53) d_D_init_53 rfl rfl ?_
  refine x_getR (k := 0) (ci := 0) (pc := 54) (t := 1) 0 d_D_init_54 cok0 rfl (Nat.le_of_ble_eq_true rfl) rfl (by decide) rfl (by decide +kernel) w_326 ?_
  refine x_aload_n (pc := 57) d_D_init_57 rfl rfl ?_
  refine x_getR (k := 0) (ci := 0) (pc := 58) (t := 5) 1 d_D_init_58 cok0 rfl (Nat.le_of_ble_eq_true rfl) rfl (by decide) rfl (by decide +kernel) w_327 ?_
  refine x_aload_n (pc := 61) d_D_init_61 rfl rfl ?_
  refine x_getR (k := 0) (ci := 0) (pc := 62) (t := 26) 3 d_D_init_62 cok0 rfl (Nat.le_of_ble_eq_true rfl) rfl (by decide) rfl (by decide +kernel) w_329 ?_
  refine y_callI m_S_init 1 2 36 38 29 [_, _, _] [_, _] rfl (pc := 65) d_D_init_65 ok_S_init rfl rfl w_173 w_174 pn_S_init (by decide) (Nat.le_of_ble_eq_true rfl) (Nat.le_of_ble_eq_true rfl) (Nat.le_of_ble_eq_true rfl) (K_S_init (fun k hk => hM k (Nat.le_trans (Nat.le_of_ble_eq_true rfl) hk))) (fun M1 e1 => ?_)
  subst M1
  refine x_putRF (k := 0) (ci := 0) (pc := 68) 4 d_D_init_68 cok0 rfl (Nat.le_of_ble_eq_true rfl) rfl (by decide) rfl rfl rfl rfl (fun _ => rfl) (fun _ => rfl) w_330 ?_
  refine x_Rto (show xUR (xRc 34) 0 4 (some 29) = xRc 35 from xRc_put rfl rfl) ?_
  refine x_aload_n (pc := 71) d_D_init_71 rfl rfl ?_
  refine x_new R_N 4 5 45 (pc := 72) d_D_init_72 cok5 rfl w_196 w_197 w_47 rfl dv_5 (xRc_none (by decide +kernel)) (hM _ (Nat.le_of_ble_eq_true rfl)) (Nat.le_of_ble_eq_true rfl) (Nat.le_of_ble_eq_true rfl) ?_
  refine x_dup (pc := 75) d_D_init_75 ?_
  refine x_aload_n (pc := 76) d_D_init_76 rfl rfl ?_
  refine x_getR (k := 0) (ci := 0) (pc := 77) (t := 5) 1 d_D_init_77 cok0 rfl (Nat.le_of_ble_eq_true rfl) rfl (by decide) rfl (by decide +kernel) w_327 ?_
  refine x_iconst (pc := 80) d_D_init_80 ?_
  refine y_callI m_N_init 1 3 22 47 32 [_, _] [_, _] rfl (pc := 81) d_D_init_81 ok_N_init rfl rfl w_198 w_199 pn_N_init (by decide) (Nat.le_of_ble_eq_true rfl) (Nat.le_of_ble_eq_true rfl) (Nat.le_of_ble_eq_true rfl) (K_N_init_1 (fun k hk => hM k (Nat.le_trans (Nat.le_of_ble_eq_true rfl) hk))) (fun M1 e1 => ?_)
  subst M1
  refine x_putRF (k := 0) (ci := 0) (pc := 84) 5 d_D_init_84 cok0 rfl (Nat.le_of_ble_eq_true rfl) rfl (by decide) rfl rfl rfl rfl (fun _ => rfl) (fun _ => rfl) w_331 ?_
  refine x_Rto (show xUR (xRc 39) 0 5 (some 32) = xRc 40 from xRc_put rfl rfl) ?_
  refine x_aload_n (pc := 87) d_D_init_87 rfl rfl ?_
  refine x_new R_N 4 5 45 (pc := 88) d_D_init_88 cok5 rfl w_196 w_197 w_47 rfl dv_5 (xRc_none (by decide +kernel)) (hM _ (Nat.le_of_ble_eq_true rfl)) (Nat.le_of_ble_eq_true rfl) (Nat.le_of_ble_eq_true rfl) ?_
  refine x_dup (pc := 91) d_D_init_91 ?_
  refine x_aload_n (pc := 92) d_D_init_92 rfl rfl ?_
  refine x_getR (k := 0) (ci := 0) (pc := 93) (t := 5) 1 d_D_init_93 cok0 rfl (Nat.le_of_ble_eq_true rfl) rfl (by decide) rfl (by decide +kernel) w_327 ?_
  refine x_bipush (pc := 96) d_D_init_96 (by decide) ?_
  refine y_callI m_N_init 1 18 352 47 36 [_, _] [_, _] rfl (pc := 98) d_D_init_98 ok_N_init rfl rfl w_198 w_199 pn_N_init (by decide) (Nat.le_of_ble_eq_true rfl) (Nat.le_of_ble_eq_true rfl) (Nat.le_of_ble_eq_true rfl) (K_N_init_2 (fun k hk => hM k (Nat.le_trans (Nat.le_of_ble_eq_true rfl) hk))) (fun M1 e1 => ?_)
  subst M1
  refine x_putRF (k := 0) (ci := 0) (pc := 101) 6 d_D_init_101 cok0 rfl (Nat.le_of_ble_eq_true rfl) rfl (by decide) rfl rfl rfl rfl (fun _ => rfl) (fun _ => rfl) w_332 ?_
  refine x_Rto (show xUR (xRc 59) 0 6 (some 36) = xRc 60 from xRc_put rfl rfl) ?_
  refine x_aload_n (pc := 104) d_D_init_104 rfl rfl ?_
  refine x_bipush (pc := 105) d_D_init_105 (by decide) ?_
  refine x_newa 0 20 (pc := 107) d_D_init_107 rfl (Or.inl ⟨rfl, rfl⟩) rfl (by decide) w_88 rfl (hM _ (Nat.le_of_ble_eq_true rfl)) (Nat.le_of_ble_eq_true rfl) (Nat.le_of_ble_eq_true rfl) ?_
  refine x_putRF (k := 0) (ci := 0) (pc := 109) 7 d_D_init_109 cok0 rfl (Nat.le_of_ble_eq_true rfl) rfl (by decide) rfl rfl rfl rfl (fun _ => rfl) (fun _ => rfl) w_333 ?_
  refine x_Rto (show xUR (xRc 60) 0 7 (some 55) = xRc 61 from xRc_put rfl rfl) ?_
  refine x_aload_n (pc := 112) d_D_init_112 rfl rfl ?_
  refine x_new R_P 11 6 60 (pc := 113) d_D_init_113 cok6 rfl w_220 w_221 w_48 rfl dv_6 (xRc_none (by decide +kernel)) (hM _ (Nat.le_of_ble_eq_true rfl)) (Nat.le_of_ble_eq_true rfl) (Nat.le_of_ble_eq_true rfl) ?_
  refine x_dup (pc := 116) d_D_init_116 ?_
  refine x_aload_n (pc := 117) d_D_init_117 rfl rfl ?_
  refine x_getR (k := 0) (ci := 0) (pc := 118) (t := 1) 0 d_D_init_118 cok0 rfl (Nat.le_of_ble_eq_true rfl) rfl (by decide) rfl (by decide +kernel) w_326 ?_
  refine x_aload_n (pc := 121) d_D_init_121 rfl rfl ?_
  refine x_getR (k := 0) (ci := 0) (pc := 122) (t := 5) 1 d_D_init_122 cok0 rfl (Nat.le_of_ble_eq_true rfl) rfl (by decide) rfl (by decide +kernel) w_327 ?_
  refine x_aload_n (pc := 125) d_D_init_125 rfl rfl ?_
  refine x_getR (k := 0) (ci := 0) (pc := 126) (t := 26) 3 d_D_init_126 cok0 rfl (Nat.le_of_ble_eq_true rfl) rfl (by decide) rfl (by decide +kernel) w_329 ?_
  refine y_callI m_P_init 1 21 2112 62 56 [_, _, _] [_, _] rfl (pc := 129) d_D_init_129 ok_P_init rfl rfl w_222 w_223 pn_P_init (by decide) (Nat.le_of_ble_eq_true rfl) (Nat.le_of_ble_eq_true rfl) (Nat.le_of_ble_eq_true rfl) (K_P_init (fun k hk => hM k (Nat.le_trans (Nat.le_of_ble_eq_true rfl) hk))) (fun M1 e1 => ?_)
  subst M1
  refine x_putRF (k := 0) (ci := 0) (pc := 132) 8 d_D_init_132 cok0 rfl (Nat.le_of_ble_eq_true rfl) rfl (by decide) rfl rfl rfl rfl (fun _ => rfl) (fun _ => rfl) w_334 ?_
  refine x_Rto (show xUR (xRc 85) 0 8 (some 56) = xRc 86 from xRc_put rfl rfl) ?_
  refine x_aload_n (pc := 135) d_D_init_135 rfl rfl ?_
  refine x_bipush (pc := 136) d_D_init_136 (by decide) ?_
  refine y_callVv m_D_beginField 5 67 0 0 9 [_] [] rfl (pc := 138) d_D_init_138 ok_D_beginField w_261 w_263 w_0 pn_D_beginField (Nat.le_of_ble_eq_true rfl) rfl rfl (by decide) (Nat.le_of_ble_eq_true rfl) (Nat.le_of_ble_eq_true rfl) (Nat.le_of_ble_eq_true rfl) (show Cv m_D_beginField 5 (1 + 77) (xRc 86) [vr 0, vi 11] M (fun M1 => (DI 11 0 (gn0 11) 2 (fun _ => 0) (fun _ => 0) (fun _ => false) none [] M1 ∧ ∀ c, 78 ≤ c → M1 c = M c)) from c_beginField (p := 11) (Nat.le_of_ble_eq_true rfl) xRc_mid PVT_all (by decide) (fun a _ => ⟨hM 4 (Nat.zero_le _) _, hM 4 (Nat.zero_le _) _⟩) (fun M1 h1 h2 => ⟨h1, h2⟩)) (fun M1 h1 => ?_)
  exact x_vret (pc := 141) d_D_init_141 rfl rfl (Nat.le_of_ble_eq_true rfl) (hQ _ h1)
set_option maxRecDepth 20000 in
theorem K_M_init {M : xM} (hM : ∀ k, 78 ≤ k → ∀ j, M k j = 0) (Q : Option AV → xR → xM → Prop) (hQ : ∀ M1, (MI 11 0 7 2 (fun _ => 0) (fun _ => 0) (fun _ => false) none [] M1 ∧ ∀ c, c < 78 → M1 c = M c) → Q none (xRc 100) M1) : xC m_M_init 2 79 14 24013 [vr 78] (xRc 86) M Q := by
  refine xC.of [some (vr 78)] (by decide) rfl (Nat.le_of_ble_eq_true rfl) rfl ?_
  refine x_aload_n (pc := 0) d_M_init_0 rfl rfl ?_
  refine x_objInit 1 78 (pc := 1) d_M_init_1 w_552 w_58 w_59 (by decide) (Nat.le_of_ble_eq_true rfl) ?_
  refine x_aload_n (pc := 4) d_M_init_4 rfl rfl ?_
  refine x_sipush (pc := 5) d_M_init_5 (by decide) ?_
  refine x_newa 0 1024 (pc := 8) d_M_init_8 rfl (Or.inl ⟨rfl, rfl⟩) rfl (by decide) w_88 rfl (hM _ (Nat.le_of_ble_eq_true rfl)) (Nat.le_of_ble_eq_true rfl) (Nat.le_of_ble_eq_true rfl) ?_
  refine x_putRF (k := 78) (ci := 7) (pc := 10) 2 d_M_init_10 cok7 rfl (Nat.le_of_ble_eq_true rfl) rfl (by decide) rfl rfl rfl rfl (fun _ => rfl) (fun _ => rfl) w_566 ?_
  refine x_Rto (show xUR (xRc 86) 78 2 (some 79) = xRc 87 from xRc_put rfl rfl) ?_
  refine x_aload_n (pc := 13) d_M_init_13 rfl rfl ?_
  refine x_bipush (pc := 14) d_M_init_14 (by decide) ?_
  refine x_newa 0 32 (pc := 16) d_M_init_16 rfl (Or.inl ⟨rfl, rfl⟩) rfl (by decide) w_88 rfl (hM _ (Nat.le_of_ble_eq_true rfl)) (Nat.le_of_ble_eq_true rfl) (Nat.le_of_ble_eq_true rfl) ?_
  refine x_putRF (k := 78) (ci := 7) (pc := 18) 3 d_M_init_18 cok7 rfl (Nat.le_of_ble_eq_true rfl) rfl (by decide) rfl rfl rfl rfl (fun _ => rfl) (fun _ => rfl) w_567 ?_
  refine x_Rto (show xUR (xRc 87) 78 3 (some 80) = xRc 88 from xRc_put rfl rfl) ?_
  refine x_aload_n (pc := 21) d_M_init_21 rfl rfl ?_
  refine x_bipush (pc := 22) d_M_init_22 (by decide) ?_
  refine x_newa 0 20 (pc := 24) d_M_init_24 rfl (Or.inl ⟨rfl, rfl⟩) rfl (by decide) w_88 rfl (hM _ (Nat.le_of_ble_eq_true rfl)) (Nat.le_of_ble_eq_true rfl) (Nat.le_of_ble_eq_true rfl) ?_
  refine x_putRF (k := 78) (ci := 7) (pc := 26) 7 d_M_init_26 cok7 rfl (Nat.le_of_ble_eq_true rfl) rfl (by decide) rfl rfl rfl rfl (fun _ => rfl) (fun _ => rfl) w_571 ?_
  refine x_Rto (show xUR (xRc 88) 78 7 (some 81) = xRc 89 from xRc_put rfl rfl) ?_
  refine x_aload_n (pc := 29) d_M_init_29 rfl rfl ?_
  refine x_iconst (pc := 30) d_M_init_30 ?_
  refine x_newa 0 4 (pc := 31) d_M_init_31 rfl (Or.inl ⟨rfl, rfl⟩) rfl (by decide) w_88 rfl (hM _ (Nat.le_of_ble_eq_true rfl)) (Nat.le_of_ble_eq_true rfl) (Nat.le_of_ble_eq_true rfl) ?_
  refine x_putRF (k := 78) (ci := 7) (pc := 33) 8 d_M_init_33 cok7 rfl (Nat.le_of_ble_eq_true rfl) rfl (by decide) rfl rfl rfl rfl (fun _ => rfl) (fun _ => rfl) w_572 ?_
  refine x_Rto (show xUR (xRc 89) 78 8 (some 82) = xRc 90 from xRc_put rfl rfl) ?_
  refine x_aload_n (pc := 36) d_M_init_36 rfl rfl ?_
  refine x_bipush (pc := 37) d_M_init_37 (by decide) ?_
  refine x_newa 0 20 (pc := 39) d_M_init_39 rfl (Or.inl ⟨rfl, rfl⟩) rfl (by decide) w_88 rfl (hM _ (Nat.le_of_ble_eq_true rfl)) (Nat.le_of_ble_eq_true rfl) (Nat.le_of_ble_eq_true rfl) ?_
  refine x_putRF (k := 78) (ci := 7) (pc := 41) 9 d_M_init_41 cok7 rfl (Nat.le_of_ble_eq_true rfl) rfl (by decide) rfl rfl rfl rfl (fun _ => rfl) (fun _ => rfl) w_573 ?_
  refine x_Rto (show xUR (xRc 90) 78 9 (some 83) = xRc 91 from xRc_put rfl rfl) ?_
  refine x_aload_n (pc := 44) d_M_init_44 rfl rfl ?_
  refine x_bipush (pc := 45) d_M_init_45 (by decide) ?_
  refine x_newa 1 20 (pc := 47) d_M_init_47 rfl (Or.inr ⟨rfl, rfl⟩) rfl (by decide) w_170 rfl (hM _ (Nat.le_of_ble_eq_true rfl)) (Nat.le_of_ble_eq_true rfl) (Nat.le_of_ble_eq_true rfl) ?_
  refine x_putRF (k := 78) (ci := 7) (pc := 49) 10 d_M_init_49 cok7 rfl (Nat.le_of_ble_eq_true rfl) rfl (by decide) rfl rfl rfl rfl (fun _ => rfl) (fun _ => rfl) w_574 ?_
  refine x_Rto (show xUR (xRc 91) 78 10 (some 84) = xRc 92 from xRc_put rfl rfl) ?_
  refine x_aload_n (pc := 52) d_M_init_52 rfl rfl ?_
  refine x_bipush (pc := 53) d_M_init_53 (by decide) ?_
  refine x_newa 0 20 (pc := 55) d_M_init_55 rfl (Or.inl ⟨rfl, rfl⟩) rfl (by decide) w_88 rfl (hM _ (Nat.le_of_ble_eq_true rfl)) (Nat.le_of_ble_eq_true rfl) (Nat.le_of_ble_eq_true rfl) ?_
  refine x_putRF (k := 78) (ci := 7) (pc := 57) 11 d_M_init_57 cok7 rfl (Nat.le_of_ble_eq_true rfl) rfl (by decide) rfl rfl rfl rfl (fun _ => rfl) (fun _ => rfl) w_575 ?_
  refine x_Rto (show xUR (xRc 92) 78 11 (some 85) = xRc 93 from xRc_put rfl rfl) ?_
  refine x_aload_n (pc := 60) d_M_init_60 rfl rfl ?_
  refine x_bipush (pc := 61) d_M_init_61 (by decide) ?_
  refine x_newa 1 20 (pc := 63) d_M_init_63 rfl (Or.inr ⟨rfl, rfl⟩) rfl (by decide) w_170 rfl (hM _ (Nat.le_of_ble_eq_true rfl)) (Nat.le_of_ble_eq_true rfl) (Nat.le_of_ble_eq_true rfl) ?_
  refine x_putRF (k := 78) (ci := 7) (pc := 65) 13 d_M_init_65 cok7 rfl (Nat.le_of_ble_eq_true rfl) rfl (by decide) rfl rfl rfl rfl (fun _ => rfl) (fun _ => rfl) w_577 ?_
  refine x_Rto (show xUR (xRc 93) 78 13 (some 86) = xRc 94 from xRc_put rfl rfl) ?_
  refine x_aload_n (pc := 68) d_M_init_68 rfl rfl ?_
  refine x_bipush (pc := 69) d_M_init_69 (by decide) ?_
  refine x_newa 0 21 (pc := 71) d_M_init_71 rfl (Or.inl ⟨rfl, rfl⟩) rfl (by decide) w_88 rfl (hM _ (Nat.le_of_ble_eq_true rfl)) (Nat.le_of_ble_eq_true rfl) (Nat.le_of_ble_eq_true rfl) ?_
  refine x_putRF (k := 78) (ci := 7) (pc := 73) 14 d_M_init_73 cok7 rfl (Nat.le_of_ble_eq_true rfl) rfl (by decide) rfl rfl rfl rfl (fun _ => rfl) (fun _ => rfl) w_578 ?_
  refine x_Rto (show xUR (xRc 94) 78 14 (some 87) = xRc 95 from xRc_put rfl rfl) ?_
  refine x_aload_n (pc := 76) d_M_init_76 rfl rfl ?_
  refine x_sipush (pc := 77) d_M_init_77 (by decide) ?_
  refine x_newa 0 4096 (pc := 80) d_M_init_80 rfl (Or.inl ⟨rfl, rfl⟩) rfl (by decide) w_88 rfl (hM _ (Nat.le_of_ble_eq_true rfl)) (Nat.le_of_ble_eq_true rfl) (Nat.le_of_ble_eq_true rfl) ?_
  refine x_putRF (k := 78) (ci := 7) (pc := 82) 16 d_M_init_82 cok7 rfl (Nat.le_of_ble_eq_true rfl) rfl (by decide) rfl rfl rfl rfl (fun _ => rfl) (fun _ => rfl) w_580 ?_
  refine x_Rto (show xUR (xRc 95) 78 16 (some 88) = xRc 96 from xRc_put rfl rfl) ?_
  refine x_aload_n (pc := 85) d_M_init_85 rfl rfl ?_
  refine x_sipush (pc := 86) d_M_init_86 (by decide) ?_
  refine x_newa 0 4096 (pc := 89) d_M_init_89 rfl (Or.inl ⟨rfl, rfl⟩) rfl (by decide) w_88 rfl (hM _ (Nat.le_of_ble_eq_true rfl)) (Nat.le_of_ble_eq_true rfl) (Nat.le_of_ble_eq_true rfl) ?_
  refine x_putRF (k := 78) (ci := 7) (pc := 91) 17 d_M_init_91 cok7 rfl (Nat.le_of_ble_eq_true rfl) rfl (by decide) rfl rfl rfl rfl (fun _ => rfl) (fun _ => rfl) w_581 ?_
  refine x_Rto (show xUR (xRc 96) 78 17 (some 89) = xRc 97 from xRc_put rfl rfl) ?_
  refine x_aload_n (pc := 94) d_M_init_94 rfl rfl ?_
  refine x_sipush (pc := 95) d_M_init_95 (by decide) ?_
  refine x_newa 0 14400 (pc := 98) d_M_init_98 rfl (Or.inl ⟨rfl, rfl⟩) rfl (by decide) w_88 rfl (hM _ (Nat.le_of_ble_eq_true rfl)) (Nat.le_of_ble_eq_true rfl) (Nat.le_of_ble_eq_true rfl) ?_
  refine x_putRF (k := 78) (ci := 7) (pc := 100) 18 d_M_init_100 cok7 rfl (Nat.le_of_ble_eq_true rfl) rfl (by decide) rfl rfl rfl rfl (fun _ => rfl) (fun _ => rfl) w_582 ?_
  refine x_Rto (show xUR (xRc 97) 78 18 (some 90) = xRc 98 from xRc_put rfl rfl) ?_
  refine x_aload_n (pc := 103) d_M_init_103 rfl rfl ?_
  refine x_bipush (pc := 104) d_M_init_104 (by decide) ?_
  refine x_newa 0 120 (pc := 106) d_M_init_106 rfl (Or.inl ⟨rfl, rfl⟩) rfl (by decide) w_88 rfl (hM _ (Nat.le_of_ble_eq_true rfl)) (Nat.le_of_ble_eq_true rfl) (Nat.le_of_ble_eq_true rfl) ?_
  refine x_putRF (k := 78) (ci := 7) (pc := 108) 19 d_M_init_108 cok7 rfl (Nat.le_of_ble_eq_true rfl) rfl (by decide) rfl rfl rfl rfl (fun _ => rfl) (fun _ => rfl) w_583 ?_
  refine x_Rto (show xUR (xRc 98) 78 19 (some 91) = xRc 99 from xRc_put rfl rfl) ?_
  refine x_aload_n (pc := 111) d_M_init_111 rfl rfl ?_
  refine x_bipush (pc := 112) d_M_init_112 (by decide) ?_
  refine x_newa 0 120 (pc := 114) d_M_init_114 rfl (Or.inl ⟨rfl, rfl⟩) rfl (by decide) w_88 rfl (hM _ (Nat.le_of_ble_eq_true rfl)) (Nat.le_of_ble_eq_true rfl) (Nat.le_of_ble_eq_true rfl) ?_
  refine x_putRF (k := 78) (ci := 7) (pc := 116) 20 d_M_init_116 cok7 rfl (Nat.le_of_ble_eq_true rfl) rfl (by decide) rfl rfl rfl rfl (fun _ => rfl) (fun _ => rfl) w_584 ?_
  refine x_Rto (show xUR (xRc 99) 78 20 (some 92) = xRc 100 from xRc_put rfl rfl) ?_
  refine x_aload_n (pc := 119) d_M_init_119 rfl rfl ?_
  refine x_bipush (pc := 120) d_M_init_120 (by decide) ?_
  refine x_iconst (pc := 122) d_M_init_122 ?_
  refine y_callVv m_M_layField 1 53 78 7 21 [_, _] [] rfl (pc := 123) d_M_init_123 ok_M_layField w_553 w_555 w_20 pn_M_layField (Nat.le_of_ble_eq_true rfl) rfl rfl (by decide) (Nat.le_of_ble_eq_true rfl) (Nat.le_of_ble_eq_true rfl) (Nat.le_of_ble_eq_true rfl) (show Cv m_M_layField 1 (79 + 14) (xRc 100) [vr 78, vi 11, vi 3] M (fun M1 => MF 11 M1 ∧ ∀ c, c < 78 → M1 c = M c) from cm_layField (p := 11) (Nat.le_of_ble_eq_true rfl) xRc_end (by decide) (fun M1 h1 h2 _ => ⟨h1, fun c hc => h2 c (by omega) (by omega) (by omega)⟩)) (fun M1 h1 => ?_)
  refine x_aload_n (pc := 126) d_M_init_126 rfl rfl ?_
  refine x_iconst (pc := 127) d_M_init_127 ?_
  refine x_bipush (pc := 128) d_M_init_128 (by decide) ?_
  refine x_iconst (pc := 130) d_M_init_130 ?_
  refine y_callVv m_M_layCode 0 57 78 7 21 [_, _, _] [] rfl (pc := 131) d_M_init_131 ok_M_layCode w_560 w_562 w_21 pn_M_layCode (Nat.le_of_ble_eq_true rfl) rfl rfl (by decide) (Nat.le_of_ble_eq_true rfl) (Nat.le_of_ble_eq_true rfl) (Nat.le_of_ble_eq_true rfl) (show Cv m_M_layCode 0 (79 + 14) (xRc 100) [vr 78, vi 0, vi 7, vi 2] M1 (fun M2 => (MI 11 0 7 2 (fun _ => 0) (fun _ => 0) (fun _ => false) none [] M2 ∧ ∀ c, c < 78 → M2 c = M c)) from cm_layCode (p := 11) (kind := 0) (n := 7) (k := 2) (Nat.le_of_ble_eq_true rfl) xRc_end h1.1 ⟨by decide, by decide, by decide, by decide, by decide, by decide, by decide⟩ (fun M2 g1 g2 => ⟨g1, fun c hc => (g2 c hc).trans (h1.2 c hc)⟩)) (fun M2 h2 => ?_)
  exact x_vret (pc := 134) d_M_init_134 rfl rfl (Nat.le_of_ble_eq_true rfl) (hQ _ h2)
