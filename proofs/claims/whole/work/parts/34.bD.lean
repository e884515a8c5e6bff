set_option maxRecDepth 20000 in
theorem B_D_field_0 {n : Nat} {R : xR} {M : xM} {P : Int → xM → Prop} (hn : 78 ≤ n) (hR : RC 78 R) {l1 : Int} (hvc : (-2147483648 ≤ l1 ∧ l1 < 2147483648) ∧ ((l1 < 8 → P ((-1)) M) ∧ (¬ l1 < 8 → ((l1 < 64 → Ci m_F_isPrimitive 2 n R [vi l1] M (fun z2 M1 => (-2147483648 ≤ z2 ∧ z2 < 2147483648) ∧ ((¬ z2 = 0 → Cv m_D_beginField 5 n R [vr 0, vi l1] M1 (fun M2 => P (M2 1 0) M2)) ∧ (z2 = 0 → P ((-4)) M1)))) ∧ (¬ l1 < 64 → P ((-1)) M))))) : Xi m_D_field 6 n R P 0 [some (vr 0), some (vi l1)] [] M := by
  intro Q hQ
  refine x_iload_n (pc := 0) d_D_field_0 rfl rfl ?_
  refine x_bipush (pc := 1) d_D_field_1 (by decide) ?_
  obtain ⟨h1, hvc⟩ := hvc
  refine x_icmp_lt (tgt := 12) (pc := 3) d_D_field_3 rfl h1 ⟨by decide, by decide⟩ (fun hb => ?_) (fun hb => ?_)
  · have hvc := hvc.1 hb
    refine x_iconst (pc := 12) d_D_field_12 ?_
    exact x_iret (pc := 13) d_D_field_13 rfl rfl (Nat.le_refl _) (hQ _ _ hvc)
  · have hvc := hvc.2 hb
    refine x_iload_n (pc := 6) d_D_field_6 rfl rfl ?_
    refine x_bipush (pc := 7) d_D_field_7 (by decide) ?_
    refine x_icmp_lt (tgt := 14) (pc := 9) d_D_field_9 rfl h1 ⟨by decide, by decide⟩ (fun hb => ?_) (fun hb => ?_)
    · have hvc := hvc.1 hb
      refine x_iload_n (pc := 14) d_D_field_14 rfl rfl ?_
      refine y_callSi m_F_isPrimitive 2 71 [_] [] rfl (pc := 15) d_D_field_15 ok_F_isPrimitive w_358 w_359 pn_F_isPrimitive (by decide) (Nat.le_of_ble_eq_true rfl) (Nat.le_refl _) (Nat.le_refl _) hvc (fun z2 M1 hvc => ?_)
      obtain ⟨h3, hvc⟩ := hvc
      refine x_if_ne (tgt := 24) (pc := 18) d_D_field_18 rfl h3 (fun hb => ?_) (fun hb => ?_)
      · have hvc := hvc.1 hb
        refine x_aload_n (pc := 24) d_D_field_24 rfl rfl ?_
        refine x_iload_n (pc := 25) d_D_field_25 rfl rfl ?_
        refine y_callVv m_D_beginField 5 67 0 0 9 [_] [] rfl (pc := 26) d_D_field_26 ok_D_beginField w_261 w_263 w_0 pn_D_beginField (Nat.lt_of_lt_of_le (by decide) hn) rfl rfl (by decide) (Nat.le_of_ble_eq_true rfl) (Nat.le_refl _) (Nat.le_refl _) hvc (fun M2 hvc => ?_)
        refine x_aload_n (pc := 29) d_D_field_29 rfl rfl ?_
        refine x_getR (k := 0) (ci := 0) (pc := 30) (t := 1) 0 d_D_field_30 cok0 rfl (Nat.lt_of_lt_of_le (by decide) hn) rfl (by decide) rfl (hR.at 0 0 rfl rfl) w_326 ?_
        refine x_getIN (k := 1) (ci := 1) (pc := 33) 0 d_D_field_33 cok1 rfl (Nat.lt_of_lt_of_le (by decide) hn) rfl (by decide) rfl w_67 ?_
        exact x_iret (pc := 36) d_D_field_36 rfl rfl (Nat.le_refl _) (hQ _ _ hvc)
      · have hvc := hvc.2 hb
        refine x_bipush (pc := 21) d_D_field_21 (by decide) ?_
        exact x_iret (pc := 23) d_D_field_23 rfl rfl (Nat.le_refl _) (hQ _ _ hvc)
    · have hvc := hvc.2 hb
      refine x_iconst (pc := 12) d_D_field_12 ?_
      exact x_iret (pc := 13) d_D_field_13 rfl rfl (Nat.le_refl _) (hQ _ _ hvc)
set_option maxRecDepth 20000 in
theorem E_D_field {n : Nat} {R : xR} {M : xM} {P : Int → xM → Prop} (hn : 78 ≤ n) (hR : RC 78 R) {l1 : Int} (h : Xi m_D_field 6 n R P 0 [some (vr 0), some (vi l1)] [] M) : Ci m_D_field 6 n R [vr 0, vi l1] M P :=
  Ci.of [some (vr 0), some (vi l1)] (by decide) rfl (Nat.le_of_ble_eq_true rfl) rfl h
set_option maxRecDepth 20000 in
theorem B_D_times_0 {n : Nat} {R : xR} {M : xM} {P : Int → xM → Prop} (hn : 78 ≤ n) (hR : RC 78 R) {l1 l2 : Int} (hvc : Ci m_F_has 0 n R [vr 1, vi l1] M (fun z1 M1 => (-2147483648 ≤ z1 ∧ z1 < 2147483648) ∧ ((z1 = 0 → P ((-1)) M1) ∧ (¬ z1 = 0 → Ci m_F_has 0 n R [vr 1, vi l2] M1 (fun z3 M2 => (-2147483648 ≤ z3 ∧ z3 < 2147483648) ∧ ((z3 = 0 → P ((-1)) M2) ∧ (¬ z3 = 0 → Ci m_F_product 0 n R [vr 1, vi l1, vi l2] M2 (fun z5 M3 => P z5 M3)))))))) : Xi m_D_times 1 n R P 0 [some (vr 0), some (vi l1), some (vi l2)] [] M := by
  intro Q hQ
  refine x_aload_n (pc := 0) d_D_times_0 rfl rfl ?_
  refine x_getR (k := 0) (ci := 0) (pc := 1) (t := 1) 0 d_D_times_1 cok0 rfl (Nat.lt_of_lt_of_le (by decide) hn) rfl (by decide) rfl (hR.at 0 0 rfl rfl) w_326 ?_
  refine x_iload_n (pc := 4) d_D_times_4 rfl rfl ?_
  refine y_callVi m_F_has 0 79 1 1 5 [_] [] rfl (pc := 5) d_D_times_5 ok_F_has w_365 w_366 w_367 pn_F_has (Nat.lt_of_lt_of_le (by decide) hn) rfl rfl (by decide) (Nat.le_of_ble_eq_true rfl) (Nat.le_refl _) (Nat.le_refl _) hvc (fun z1 M1 hvc => ?_)
  obtain ⟨h2, hvc⟩ := hvc
  refine x_if_eq (tgt := 34) (pc := 8) d_D_times_8 rfl h2 (fun hb => ?_) (fun hb => ?_)
  · have hvc := hvc.1 hb
    refine x_iconst (pc := 34) d_D_times_34 ?_
    exact x_iret (pc := 35) d_D_times_35 rfl rfl (Nat.le_refl _) (hQ _ _ hvc)
  · have hvc := hvc.2 hb
    refine x_aload_n (pc := 11) d_D_times_11 rfl rfl ?_
    refine x_getR (k := 0) (ci := 0) (pc := 12) (t := 1) 0 d_D_times_12 cok0 rfl (Nat.lt_of_lt_of_le (by decide) hn) rfl (by decide) rfl (hR.at 0 0 rfl rfl) w_326 ?_
    refine x_iload_n (pc := 15) d_D_times_15 rfl rfl ?_
    refine y_callVi m_F_has 0 79 1 1 5 [_] [] rfl (pc := 16) d_D_times_16 ok_F_has w_365 w_366 w_367 pn_F_has (Nat.lt_of_lt_of_le (by decide) hn) rfl rfl (by decide) (Nat.le_of_ble_eq_true rfl) (Nat.le_refl _) (Nat.le_refl _) hvc (fun z3 M2 hvc => ?_)
    obtain ⟨h4, hvc⟩ := hvc
    refine x_if_eq (tgt := 34) (pc := 19) d_D_times_19 rfl h4 (fun hb => ?_) (fun hb => ?_)
    · have hvc := hvc.1 hb
      refine x_iconst (pc := 34) d_D_times_34 ?_
      exact x_iret (pc := 35) d_D_times_35 rfl rfl (Nat.le_refl _) (hQ _ _ hvc)
    · have hvc := hvc.2 hb
      refine x_aload_n (pc := 22) d_D_times_22 rfl rfl ?_
      refine x_getR (k := 0) (ci := 0) (pc := 23) (t := 1) 0 d_D_times_23 cok0 rfl (Nat.lt_of_lt_of_le (by decide) hn) rfl (by decide) rfl (hR.at 0 0 rfl rfl) w_326 ?_
      refine x_iload_n (pc := 26) d_D_times_26 rfl rfl ?_
      refine x_iload_n (pc := 27) d_D_times_27 rfl rfl ?_
      refine y_callVi m_F_product 0 82 1 1 5 [_, _] [] rfl (pc := 28) d_D_times_28 ok_F_product w_369 w_291 w_292 pn_F_product (Nat.lt_of_lt_of_le (by decide) hn) rfl rfl (by decide) (Nat.le_of_ble_eq_true rfl) (Nat.le_refl _) (Nat.le_refl _) hvc (fun z5 M3 hvc => ?_)
      refine x_goto (tgt := 35) (pc := 31) d_D_times_31 rfl ?_
      exact x_iret (pc := 35) d_D_times_35 rfl rfl (Nat.le_refl _) (hQ _ _ hvc)
set_option maxRecDepth 20000 in
theorem E_D_times {n : Nat} {R : xR} {M : xM} {P : Int → xM → Prop} (hn : 78 ≤ n) (hR : RC 78 R) {l1 l2 : Int} (h : Xi m_D_times 1 n R P 0 [some (vr 0), some (vi l1), some (vi l2)] [] M) : Ci m_D_times 1 n R [vr 0, vi l1, vi l2] M P :=
  Ci.of [some (vr 0), some (vi l1), some (vi l2)] (by decide) rfl (Nat.le_of_ble_eq_true rfl) rfl h
set_option maxRecDepth 20000 in
theorem B_D_over_0 {n : Nat} {R : xR} {M : xM} {P : Int → xM → Prop} (hn : 78 ≤ n) (hR : RC 78 R) {l1 l2 : Int} (hvc : Ci m_F_has 0 n R [vr 1, vi l1] M (fun z1 M1 => (-2147483648 ≤ z1 ∧ z1 < 2147483648) ∧ ((z1 = 0 → P ((-1)) M1) ∧ (¬ z1 = 0 → Ci m_F_has 0 n R [vr 1, vi l2] M1 (fun z3 M2 => (-2147483648 ≤ z3 ∧ z3 < 2147483648) ∧ ((¬ z3 = 0 → (-2147483648 ≤ l2 ∧ l2 < 2147483648) ∧ ((¬ l2 = 0 → Ci m_F_quotient 0 n R [vr 1, vi l1, vi l2] M2 (fun z6 M3 => P z6 M3)) ∧ (l2 = 0 → P ((-2)) M2))) ∧ (z3 = 0 → P ((-1)) M2))))))) : Xi m_D_over 1 n R P 0 [some (vr 0), some (vi l1), some (vi l2)] [] M := by
  intro Q hQ
  refine x_aload_n (pc := 0) d_D_over_0 rfl rfl ?_
  refine x_getR (k := 0) (ci := 0) (pc := 1) (t := 1) 0 d_D_over_1 cok0 rfl (Nat.lt_of_lt_of_le (by decide) hn) rfl (by decide) rfl (hR.at 0 0 rfl rfl) w_326 ?_
  refine x_iload_n (pc := 4) d_D_over_4 rfl rfl ?_
  refine y_callVi m_F_has 0 79 1 1 5 [_] [] rfl (pc := 5) d_D_over_5 ok_F_has w_365 w_366 w_367 pn_F_has (Nat.lt_of_lt_of_le (by decide) hn) rfl rfl (by decide) (Nat.le_of_ble_eq_true rfl) (Nat.le_refl _) (Nat.le_refl _) hvc (fun z1 M1 hvc => ?_)
  obtain ⟨h2, hvc⟩ := hvc
  refine x_if_eq (tgt := 22) (pc := 8) d_D_over_8 rfl h2 (fun hb => ?_) (fun hb => ?_)
  · have hvc := hvc.1 hb
    refine x_iconst (pc := 22) d_D_over_22 ?_
    exact x_iret (pc := 23) d_D_over_23 rfl rfl (Nat.le_refl _) (hQ _ _ hvc)
  · have hvc := hvc.2 hb
    refine x_aload_n (pc := 11) d_D_over_11 rfl rfl ?_
    refine x_getR (k := 0) (ci := 0) (pc := 12) (t := 1) 0 d_D_over_12 cok0 rfl (Nat.lt_of_lt_of_le (by decide) hn) rfl (by decide) rfl (hR.at 0 0 rfl rfl) w_326 ?_
    refine x_iload_n (pc := 15) d_D_over_15 rfl rfl ?_
    refine y_callVi m_F_has 0 79 1 1 5 [_] [] rfl (pc := 16) d_D_over_16 ok_F_has w_365 w_366 w_367 pn_F_has (Nat.lt_of_lt_of_le (by decide) hn) rfl rfl (by decide) (Nat.le_of_ble_eq_true rfl) (Nat.le_refl _) (Nat.le_refl _) hvc (fun z3 M2 hvc => ?_)
    obtain ⟨h4, hvc⟩ := hvc
    refine x_if_ne (tgt := 24) (pc := 19) d_D_over_19 rfl h4 (fun hb => ?_) (fun hb => ?_)
    · have hvc := hvc.1 hb
      refine x_iload_n (pc := 24) d_D_over_24 rfl rfl ?_
      obtain ⟨h5, hvc⟩ := hvc
      refine x_if_ne (tgt := 33) (pc := 25) d_D_over_25 rfl h5 (fun hb => ?_) (fun hb => ?_)
      · have hvc := hvc.1 hb
        refine x_aload_n (pc := 33) d_D_over_33 rfl rfl ?_
        refine x_getR (k := 0) (ci := 0) (pc := 34) (t := 1) 0 d_D_over_34 cok0 rfl (Nat.lt_of_lt_of_le (by decide) hn) rfl (by decide) rfl (hR.at 0 0 rfl rfl) w_326 ?_
        refine x_iload_n (pc := 37) d_D_over_37 rfl rfl ?_
        refine x_iload_n (pc := 38) d_D_over_38 rfl rfl ?_
        refine y_callVi m_F_quotient 0 86 1 1 5 [_, _] [] rfl (pc := 39) d_D_over_39 ok_F_quotient w_374 w_295 w_296 pn_F_quotient (Nat.lt_of_lt_of_le (by decide) hn) rfl rfl (by decide) (Nat.le_of_ble_eq_true rfl) (Nat.le_refl _) (Nat.le_refl _) hvc (fun z6 M3 hvc => ?_)
        exact x_iret (pc := 42) d_D_over_42 rfl rfl (Nat.le_refl _) (hQ _ _ hvc)
      · have hvc := hvc.2 hb
        refine x_bipush (pc := 28) d_D_over_28 (by decide) ?_
        refine x_goto (tgt := 42) (pc := 30) d_D_over_30 rfl ?_
        exact x_iret (pc := 42) d_D_over_42 rfl rfl (Nat.le_refl _) (hQ _ _ hvc)
    · have hvc := hvc.2 hb
      refine x_iconst (pc := 22) d_D_over_22 ?_
      exact x_iret (pc := 23) d_D_over_23 rfl rfl (Nat.le_refl _) (hQ _ _ hvc)
set_option maxRecDepth 20000 in
theorem E_D_over {n : Nat} {R : xR} {M : xM} {P : Int → xM → Prop} (hn : 78 ≤ n) (hR : RC 78 R) {l1 l2 : Int} (h : Xi m_D_over 1 n R P 0 [some (vr 0), some (vi l1), some (vi l2)] [] M) : Ci m_D_over 1 n R [vr 0, vi l1, vi l2] M P :=
  Ci.of [some (vr 0), some (vi l1), some (vi l2)] (by decide) rfl (Nat.le_of_ble_eq_true rfl) rfl h
set_option maxRecDepth 20000 in
theorem B_D_log_0 {n : Nat} {R : xR} {M : xM} {P : Int → xM → Prop} (hn : 78 ≤ n) (hR : RC 78 R) {l1 : Int} (hvc : Ci m_F_has 0 n R [vr 1, vi l1] M (fun z1 M1 => (-2147483648 ≤ z1 ∧ z1 < 2147483648) ∧ ((¬ z1 = 0 → (-2147483648 ≤ l1 ∧ l1 < 2147483648) ∧ ((¬ l1 = 0 → (0 ≤ l1 ∧ l1 < 32) ∧ P (M1 3 l1.toNat) M1) ∧ (l1 = 0 → P ((-2)) M1))) ∧ (z1 = 0 → P ((-1)) M1)))) : Xi m_D_log 1 n R P 0 [some (vr 0), some (vi l1)] [] M := by
  intro Q hQ
  refine x_aload_n (pc := 0) d_D_log_0 rfl rfl ?_
  refine x_getR (k := 0) (ci := 0) (pc := 1) (t := 1) 0 d_D_log_1 cok0 rfl (Nat.lt_of_lt_of_le (by decide) hn) rfl (by decide) rfl (hR.at 0 0 rfl rfl) w_326 ?_
  refine x_iload_n (pc := 4) d_D_log_4 rfl rfl ?_
  refine y_callVi m_F_has 0 79 1 1 5 [_] [] rfl (pc := 5) d_D_log_5 ok_F_has w_365 w_366 w_367 pn_F_has (Nat.lt_of_lt_of_le (by decide) hn) rfl rfl (by decide) (Nat.le_of_ble_eq_true rfl) (Nat.le_refl _) (Nat.le_refl _) hvc (fun z1 M1 hvc => ?_)
  obtain ⟨h2, hvc⟩ := hvc
  refine x_if_ne (tgt := 13) (pc := 8) d_D_log_8 rfl h2 (fun hb => ?_) (fun hb => ?_)
  · have hvc := hvc.1 hb
    refine x_iload_n (pc := 13) d_D_log_13 rfl rfl ?_
    obtain ⟨h3, hvc⟩ := hvc
    refine x_if_ne (tgt := 22) (pc := 14) d_D_log_14 rfl h3 (fun hb => ?_) (fun hb => ?_)
    · have hvc := hvc.1 hb
      refine x_aload_n (pc := 22) d_D_log_22 rfl rfl ?_
      refine x_getR (k := 0) (ci := 0) (pc := 23) (t := 1) 0 d_D_log_23 cok0 rfl (Nat.lt_of_lt_of_le (by decide) hn) rfl (by decide) rfl (hR.at 0 0 rfl rfl) w_326 ?_
      refine x_getRN (k := 1) (ci := 1) (pc := 26) (t := 3) 3 d_D_log_26 cok1 rfl (Nat.lt_of_lt_of_le (by decide) hn) rfl (by decide) rfl (hR.at 1 3 rfl rfl) w_75 ?_
      refine x_iload_n (pc := 29) d_D_log_29 rfl rfl ?_
      obtain ⟨h4, hvc⟩ := hvc
      refine x_iald (N := 32) (pc := 30) d_D_log_30 (Nat.lt_of_lt_of_le (by decide) hn) rfl (by decide) h4.1 h4.2 ?_
      exact x_iret (pc := 31) d_D_log_31 rfl rfl (Nat.le_refl _) (hQ _ _ hvc)
    · have hvc := hvc.2 hb
      refine x_bipush (pc := 17) d_D_log_17 (by decide) ?_
      refine x_goto (tgt := 31) (pc := 19) d_D_log_19 rfl ?_
      exact x_iret (pc := 31) d_D_log_31 rfl rfl (Nat.le_refl _) (hQ _ _ hvc)
  · have hvc := hvc.2 hb
    refine x_iconst (pc := 11) d_D_log_11 ?_
    exact x_iret (pc := 12) d_D_log_12 rfl rfl (Nat.le_refl _) (hQ _ _ hvc)
set_option maxRecDepth 20000 in
theorem E_D_log {n : Nat} {R : xR} {M : xM} {P : Int → xM → Prop} (hn : 78 ≤ n) (hR : RC 78 R) {l1 : Int} (h : Xi m_D_log 1 n R P 0 [some (vr 0), some (vi l1)] [] M) : Ci m_D_log 1 n R [vr 0, vi l1] M P :=
  Ci.of [some (vr 0), some (vi l1)] (by decide) rfl (Nat.le_of_ble_eq_true rfl) rfl h
set_option maxRecDepth 20000 in
theorem B_D_code_0 {n : Nat} {R : xR} {M : xM} {P : Int → xM → Prop} (hn : 78 ≤ n) (hR : RC 78 R) {l1 l2 l3 : Int} (hvc : (-2147483648 ≤ l1 ∧ l1 < 2147483648) ∧ ((l1 < 0 → P 0 M) ∧ (¬ l1 < 0 → ((1 < l1 → P 0 M) ∧ (¬ 1 < l1 → (-2147483648 ≤ l2 ∧ l2 < 2147483648) ∧ ((20 < l2 → P 0 M) ∧ (¬ 20 < l2 → (-2147483648 ≤ M 1 1 ∧ M 1 1 < 2147483648) ∧ ((l2 < (M 1 1) → (-2147483648 ≤ l3 ∧ l3 < 2147483648) ∧ ((l3 < 2 → P 0 M) ∧ (¬ l3 < 2 → ((l2 ≤ l3 → P 0 M) ∧ (¬ l2 ≤ l3 → (-2147483648 ≤ (M 1 0) * l3 ∧ (M 1 0) * l3 < 2147483648) ∧ ((((M 1 0) * l3) ≤ 12 → Cv m_D_beginCode 4 n R [vr 0, vi l1, vi l2, vi l3] M (fun M1 => P 1 M1)) ∧ (¬ ((M 1 0) * l3) ≤ 12 → P 0 M))))))) ∧ (¬ l2 < (M 1 1) → P 0 M))))))))) : Xi m_D_code 5 n R P 0 [some (vr 0), some (vi l1), some (vi l2), some (vi l3)] [] M := by
  intro Q hQ
  refine x_iload_n (pc := 0) d_D_code_0 rfl rfl ?_
  obtain ⟨h1, hvc⟩ := hvc
  refine x_if_lt (tgt := 26) (pc := 1) d_D_code_1 rfl h1 (fun hb => ?_) (fun hb => ?_)
  · have hvc := hvc.1 hb
    refine x_iconst (pc := 26) d_D_code_26 ?_
    exact x_zret (pc := 27) d_D_code_27 rfl (by decide) rfl (Nat.le_refl _) (hQ _ _ hvc)
  · have hvc := hvc.2 hb
    refine x_iload_n (pc := 4) d_D_code_4 rfl rfl ?_
    refine x_iconst (pc := 5) d_D_code_5 ?_
    refine x_icmp_gt (tgt := 26) (pc := 6) d_D_code_6 rfl h1 ⟨by decide, by decide⟩ (fun hb => ?_) (fun hb => ?_)
    · have hvc := hvc.1 hb
      refine x_iconst (pc := 26) d_D_code_26 ?_
      exact x_zret (pc := 27) d_D_code_27 rfl (by decide) rfl (Nat.le_refl _) (hQ _ _ hvc)
    · have hvc := hvc.2 hb
      refine x_iload_n (pc := 9) d_D_code_9 rfl rfl ?_
      refine x_bipush (pc := 10) d_D_code_10 (by decide) ?_
      obtain ⟨h2, hvc⟩ := hvc
      refine x_icmp_gt (tgt := 26) (pc := 12) d_D_code_12 rfl h2 ⟨by decide, by decide⟩ (fun hb => ?_) (fun hb => ?_)
      · have hvc := hvc.1 hb
        refine x_iconst (pc := 26) d_D_code_26 ?_
        exact x_zret (pc := 27) d_D_code_27 rfl (by decide) rfl (Nat.le_refl _) (hQ _ _ hvc)
      · have hvc := hvc.2 hb
        refine x_iload_n (pc := 15) d_D_code_15 rfl rfl ?_
        refine x_aload_n (pc := 16) d_D_code_16 rfl rfl ?_
        refine x_getR (k := 0) (ci := 0) (pc := 17) (t := 1) 0 d_D_code_17 cok0 rfl (Nat.lt_of_lt_of_le (by decide) hn) rfl (by decide) rfl (hR.at 0 0 rfl rfl) w_326 ?_
        refine x_getIN (k := 1) (ci := 1) (pc := 20) 1 d_D_code_20 cok1 rfl (Nat.lt_of_lt_of_le (by decide) hn) rfl (by decide) rfl w_71 ?_
        obtain ⟨h3, hvc⟩ := hvc
        refine x_icmp_lt (tgt := 28) (pc := 23) d_D_code_23 rfl h2 h3 (fun hb => ?_) (fun hb => ?_)
        · have hvc := hvc.1 hb
          refine x_iload_n (pc := 28) d_D_code_28 rfl rfl ?_
          refine x_iconst (pc := 29) d_D_code_29 ?_
          obtain ⟨h4, hvc⟩ := hvc
          refine x_icmp_lt (tgt := 52) (pc := 30) d_D_code_30 rfl h4 ⟨by decide, by decide⟩ (fun hb => ?_) (fun hb => ?_)
          · have hvc := hvc.1 hb
            refine x_iconst (pc := 52) d_D_code_52 ?_
            exact x_zret (pc := 53) d_D_code_53 rfl (by decide) rfl (Nat.le_refl _) (hQ _ _ hvc)
          · have hvc := hvc.2 hb
            refine x_iload_n (pc := 33) d_D_code_33 rfl rfl ?_
            refine x_iload_n (pc := 34) d_D_code_34 rfl rfl ?_
            refine x_icmp_ge (tgt := 52) (pc := 35) d_D_code_35 rfl h4 h2 (fun hb => ?_) (fun hb => ?_)
            · have hvc := hvc.1 hb
              refine x_iconst (pc := 52) d_D_code_52 ?_
              exact x_zret (pc := 53) d_D_code_53 rfl (by decide) rfl (Nat.le_refl _) (hQ _ _ hvc)
            · have hvc := hvc.2 hb
              refine x_aload_n (pc := 38) d_D_code_38 rfl rfl ?_
              refine x_getR (k := 0) (ci := 0) (pc := 39) (t := 1) 0 d_D_code_39 cok0 rfl (Nat.lt_of_lt_of_le (by decide) hn) rfl (by decide) rfl (hR.at 0 0 rfl rfl) w_326 ?_
              refine x_getIN (k := 1) (ci := 1) (pc := 42) 0 d_D_code_42 cok1 rfl (Nat.lt_of_lt_of_le (by decide) hn) rfl (by decide) rfl w_67 ?_
              refine x_iload_n (pc := 45) d_D_code_45 rfl rfl ?_
              refine x_imul (pc := 46) d_D_code_46 ?_
              refine x_bipush (pc := 47) d_D_code_47 (by decide) ?_
              obtain ⟨h5, hvc⟩ := hvc
              refine x_icmp_le (tgt := 54) (pc := 49) d_D_code_49 rfl h5 ⟨by decide, by decide⟩ (fun hb => ?_) (fun hb => ?_)
              · have hvc := hvc.1 hb
                refine x_aload_n (pc := 54) d_D_code_54 rfl rfl ?_
                refine x_iload_n (pc := 55) d_D_code_55 rfl rfl ?_
                refine x_iload_n (pc := 56) d_D_code_56 rfl rfl ?_
                refine x_iload_n (pc := 57) d_D_code_57 rfl rfl ?_
                refine y_callVv m_D_beginCode 4 95 0 0 9 [_, _, _] [] rfl (pc := 58) d_D_code_58 ok_D_beginCode w_278 w_280 w_1 pn_D_beginCode (Nat.lt_of_lt_of_le (by decide) hn) rfl rfl (by decide) (Nat.le_of_ble_eq_true rfl) (Nat.le_refl _) (Nat.le_refl _) hvc (fun M1 hvc => ?_)
                refine x_iconst (pc := 61) d_D_code_61 ?_
                exact x_zret (pc := 62) d_D_code_62 rfl (by decide) rfl (Nat.le_refl _) (hQ _ _ hvc)
              · have hvc := hvc.2 hb
                refine x_iconst (pc := 52) d_D_code_52 ?_
                exact x_zret (pc := 53) d_D_code_53 rfl (by decide) rfl (Nat.le_refl _) (hQ _ _ hvc)
        · have hvc := hvc.2 hb
          refine x_iconst (pc := 26) d_D_code_26 ?_
          exact x_zret (pc := 27) d_D_code_27 rfl (by decide) rfl (Nat.le_refl _) (hQ _ _ hvc)
set_option maxRecDepth 20000 in
theorem E_D_code {n : Nat} {R : xR} {M : xM} {P : Int → xM → Prop} (hn : 78 ≤ n) (hR : RC 78 R) {l1 l2 l3 : Int} (h : Xi m_D_code 5 n R P 0 [some (vr 0), some (vi l1), some (vi l2), some (vi l3)] [] M) : Ci m_D_code 5 n R [vr 0, vi l1, vi l2, vi l3] M P :=
  Ci.of [some (vr 0), some (vi l1), some (vi l2), some (vi l3)] (by decide) rfl (Nat.le_of_ble_eq_true rfl) rfl h
set_option maxRecDepth 20000 in
theorem B_D_tell_0 {n : Nat} {R : xR} {M : xM} {P : Int → xM → Prop} (hn : 78 ≤ n) (hR : RC 78 R) {l1 l2 : Int} (hvc : Ci m_D_isInMessage 0 n R [vr 0, vi l1] M (fun z1 M1 => (-2147483648 ≤ z1 ∧ z1 < 2147483648) ∧ ((z1 = 0 → P 0 M1) ∧ (¬ z1 = 0 → Ci m_F_has 0 n R [vr 1, vi l2] M1 (fun z3 M2 => (-2147483648 ≤ z3 ∧ z3 < 2147483648) ∧ ((¬ z3 = 0 → (0 ≤ l1 ∧ l1 < 4) ∧ (∀ M3 : xM, M3 = xU M2 25 l1.toNat l2 → P 1 M3)) ∧ (z3 = 0 → P 0 M2))))))) : Xi m_D_tell 1 n R P 0 [some (vr 0), some (vi l1), some (vi l2)] [] M := by
  intro Q hQ
  refine x_aload_n (pc := 0) d_D_tell_0 rfl rfl ?_
  refine x_iload_n (pc := 1) d_D_tell_1 rfl rfl ?_
  refine y_callVi m_D_isInMessage 0 99 0 0 9 [_] [] rfl (pc := 2) d_D_tell_2 ok_D_isInMessage w_387 w_389 w_6 pn_D_isInMessage (Nat.lt_of_lt_of_le (by decide) hn) rfl rfl (by decide) (Nat.le_of_ble_eq_true rfl) (Nat.le_refl _) (Nat.le_refl _) hvc (fun z1 M1 hvc => ?_)
  obtain ⟨h2, hvc⟩ := hvc
  refine x_if_eq (tgt := 19) (pc := 5) d_D_tell_5 rfl h2 (fun hb => ?_) (fun hb => ?_)
  · have hvc := hvc.1 hb
    refine x_iconst (pc := 19) d_D_tell_19 ?_
    exact x_zret (pc := 20) d_D_tell_20 rfl (by decide) rfl (Nat.le_refl _) (hQ _ _ hvc)
  · have hvc := hvc.2 hb
    refine x_aload_n (pc := 8) d_D_tell_8 rfl rfl ?_
    refine x_getR (k := 0) (ci := 0) (pc := 9) (t := 1) 0 d_D_tell_9 cok0 rfl (Nat.lt_of_lt_of_le (by decide) hn) rfl (by decide) rfl (hR.at 0 0 rfl rfl) w_326 ?_
    refine x_iload_n (pc := 12) d_D_tell_12 rfl rfl ?_
    refine y_callVi m_F_has 0 79 1 1 5 [_] [] rfl (pc := 13) d_D_tell_13 ok_F_has w_365 w_366 w_367 pn_F_has (Nat.lt_of_lt_of_le (by decide) hn) rfl rfl (by decide) (Nat.le_of_ble_eq_true rfl) (Nat.le_refl _) (Nat.le_refl _) hvc (fun z3 M2 hvc => ?_)
    obtain ⟨h4, hvc⟩ := hvc
    refine x_if_ne (tgt := 21) (pc := 16) d_D_tell_16 rfl h4 (fun hb => ?_) (fun hb => ?_)
    · have hvc := hvc.1 hb
      refine x_aload_n (pc := 21) d_D_tell_21 rfl rfl ?_
      refine x_getR (k := 0) (ci := 0) (pc := 22) (t := 25) 2 d_D_tell_22 cok0 rfl (Nat.lt_of_lt_of_le (by decide) hn) rfl (by decide) rfl (hR.at 0 2 rfl rfl) w_328 ?_
      refine x_iload_n (pc := 25) d_D_tell_25 rfl rfl ?_
      refine x_iload_n (pc := 26) d_D_tell_26 rfl rfl ?_
      obtain ⟨h5, hvc⟩ := hvc
      refine x_iast (N := 4) (pc := 27) d_D_tell_27 (Nat.lt_of_lt_of_le (by decide) hn) rfl (by decide) h5.1 h5.2 (fun M3 eM3 => ?_)
      have hvc := hvc M3 eM3
      refine x_iconst (pc := 28) d_D_tell_28 ?_
      exact x_zret (pc := 29) d_D_tell_29 rfl (by decide) rfl (Nat.le_refl _) (hQ _ _ hvc)
    · have hvc := hvc.2 hb
      refine x_iconst (pc := 19) d_D_tell_19 ?_
      exact x_zret (pc := 20) d_D_tell_20 rfl (by decide) rfl (Nat.le_refl _) (hQ _ _ hvc)
set_option maxRecDepth 20000 in
theorem E_D_tell {n : Nat} {R : xR} {M : xM} {P : Int → xM → Prop} (hn : 78 ≤ n) (hR : RC 78 R) {l1 l2 : Int} (h : Xi m_D_tell 1 n R P 0 [some (vr 0), some (vi l1), some (vi l2)] [] M) : Ci m_D_tell 1 n R [vr 0, vi l1, vi l2] M P :=
  Ci.of [some (vr 0), some (vi l1), some (vi l2)] (by decide) rfl (Nat.le_of_ble_eq_true rfl) rfl h
set_option maxRecDepth 20000 in
theorem B_D_encode_0 {n : Nat} {R : xR} {M : xM} {P : Int → xM → Prop} (hn : 78 ≤ n) (hR : RC 78 R) {l1 : Int} (hvc : (-2147483648 ≤ l1 ∧ l1 < 2147483648) ∧ ((l1 = 0 → Xi m_D_encode 2 n R P 27 [some (vr 0), some (vi l1), some (vr 10), some (vi 0), some (vi 0), none] [] M) ∧ (¬ l1 = 0 → Xi m_D_encode 2 n R P 27 [some (vr 0), some (vi l1), some (vr 20), some (vi 0), some (vi 0), none] [] M))) : Xi m_D_encode 2 n R P 0 [some (vr 0), some (vi l1), none, none, none, none] [] M := by
  intro Q hQ
  refine x_iload_n (pc := 0) d_D_encode_0 rfl rfl ?_
  obtain ⟨h1, hvc⟩ := hvc
  refine x_if_eq (tgt := 14) (pc := 1) d_D_encode_1 rfl h1 (fun hb => ?_) (fun hb => ?_)
  · have hvc := hvc.1 hb
    refine x_aload_n (pc := 14) d_D_encode_14 rfl rfl ?_
    refine x_getR (k := 0) (ci := 0) (pc := 15) (t := 5) 1 d_D_encode_15 cok0 rfl (Nat.lt_of_lt_of_le (by decide) hn) rfl (by decide) rfl (hR.at 0 1 rfl rfl) w_327 ?_
    refine x_getRN (k := 5) (ci := 2) (pc := 18) (t := 10) 8 d_D_encode_18 cok2 rfl (Nat.lt_of_lt_of_le (by decide) hn) rfl (by decide) rfl (hR.at 5 8 rfl rfl) w_117 ?_
    refine x_astore_n (pc := 21) d_D_encode_21 rfl (by decide) ?_
    refine x_iconst (pc := 22) d_D_encode_22 ?_
    refine x_istore_n (pc := 23) d_D_encode_23 rfl (by decide) ?_
    refine x_iconst (pc := 24) d_D_encode_24 ?_
    refine x_istore (pc := 25) d_D_encode_25 (by decide) ?_
    exact x_locals (xmask [true, true, true, true, true, false] _) (xmask_sub _ _) (hvc Q hQ)
  · have hvc := hvc.2 hb
    refine x_aload_n (pc := 4) d_D_encode_4 rfl rfl ?_
    refine x_getR (k := 0) (ci := 0) (pc := 5) (t := 5) 1 d_D_encode_5 cok0 rfl (Nat.lt_of_lt_of_le (by decide) hn) rfl (by decide) rfl (hR.at 0 1 rfl rfl) w_327 ?_
    refine x_getRN (k := 5) (ci := 2) (pc := 8) (t := 20) 10 d_D_encode_8 cok2 rfl (Nat.lt_of_lt_of_le (by decide) hn) rfl (by decide) rfl (hR.at 5 10 rfl rfl) w_122 ?_
    refine x_goto (tgt := 21) (pc := 11) d_D_encode_11 rfl ?_
    refine x_astore_n (pc := 21) d_D_encode_21 rfl (by decide) ?_
    refine x_iconst (pc := 22) d_D_encode_22 ?_
    refine x_istore_n (pc := 23) d_D_encode_23 rfl (by decide) ?_
    refine x_iconst (pc := 24) d_D_encode_24 ?_
    refine x_istore (pc := 25) d_D_encode_25 (by decide) ?_
    exact x_locals (xmask [true, true, true, true, true, false] _) (xmask_sub _ _) (hvc Q hQ)
set_option maxRecDepth 20000 in
theorem B_D_encode_27 {n : Nat} {R : xR} {M : xM} {P : Int → xM → Prop} (hn : 78 ≤ n) (hR : RC 78 R) {l1 l3 l4 : Int} {l2 : Nat} (hvc : (-2147483648 ≤ l4 ∧ l4 < 2147483648) ∧ (-2147483648 ≤ M 5 2 ∧ M 5 2 < 2147483648) ∧ (((M 5 2) ≤ l4 → P l3 M) ∧ (¬ (M 5 2) ≤ l4 → Ci m_C_mixed 1 n R [vr 5, vr l2, vr 25, vi l4] M (fun z3 M1 => Cv m_W_put 0 n R [vr 26, vi l4, vi z3] M1 (fun M2 => (-2147483648 ≤ z3 ∧ z3 < 2147483648) ∧ ((z3 = 0 → Xi m_D_encode 2 n R P 27 [some (vr 0), some (vi l1), some (vr l2), some (vi l3), some (vi (l4 + 1)), none] [] M2) ∧ (¬ z3 = 0 → Xi m_D_encode 2 n R P 27 [some (vr 0), some (vi l1), some (vr l2), some (vi (l3 + 1)), some (vi (l4 + 1)), none] [] M2))))))) : Xi m_D_encode 2 n R P 27 [some (vr 0), some (vi l1), some (vr l2), some (vi l3), some (vi l4), none] [] M := by
  intro Q hQ
  refine x_iload (pc := 27) d_D_encode_27 rfl ?_
  refine x_aload_n (pc := 29) d_D_encode_29 rfl rfl ?_
  refine x_getR (k := 0) (ci := 0) (pc := 30) (t := 5) 1 d_D_encode_30 cok0 rfl (Nat.lt_of_lt_of_le (by decide) hn) rfl (by decide) rfl (hR.at 0 1 rfl rfl) w_327 ?_
  refine x_getIN (k := 5) (ci := 2) (pc := 33) 2 d_D_encode_33 cok2 rfl (Nat.lt_of_lt_of_le (by decide) hn) rfl (by decide) rfl w_103 ?_
  obtain ⟨h1, hvc⟩ := hvc
  obtain ⟨h2, hvc⟩ := hvc
  refine x_icmp_ge (tgt := 80) (pc := 36) d_D_encode_36 rfl h1 h2 (fun hb => ?_) (fun hb => ?_)
  · have hvc := hvc.1 hb
    refine x_iload_n (pc := 80) d_D_encode_80 rfl rfl ?_
    exact x_iret (pc := 81) d_D_encode_81 rfl rfl (Nat.le_refl _) (hQ _ _ hvc)
  · have hvc := hvc.2 hb
    refine x_aload_n (pc := 39) d_D_encode_39 rfl rfl ?_
    refine x_getR (k := 0) (ci := 0) (pc := 40) (t := 5) 1 d_D_encode_40 cok0 rfl (Nat.lt_of_lt_of_le (by decide) hn) rfl (by decide) rfl (hR.at 0 1 rfl rfl) w_327 ?_
    refine x_aload_n (pc := 43) d_D_encode_43 rfl rfl ?_
    refine x_aload_n (pc := 44) d_D_encode_44 rfl rfl ?_
    refine x_getR (k := 0) (ci := 0) (pc := 45) (t := 25) 2 d_D_encode_45 cok0 rfl (Nat.lt_of_lt_of_le (by decide) hn) rfl (by decide) rfl (hR.at 0 2 rfl rfl) w_328 ?_
    refine x_iload (pc := 48) d_D_encode_48 rfl ?_
    refine y_callVi m_C_mixed 1 112 5 2 11 [_, _, _] [] rfl (pc := 50) d_D_encode_50 ok_C_mixed w_395 w_396 w_397 pn_C_mixed (Nat.lt_of_lt_of_le (by decide) hn) rfl rfl (by decide) (Nat.le_of_ble_eq_true rfl) (Nat.le_refl _) (Nat.le_refl _) hvc (fun z3 M1 hvc => ?_)
    refine x_istore (pc := 53) d_D_encode_53 (by decide) ?_
    refine x_aload_n (pc := 55) d_D_encode_55 rfl rfl ?_
    refine x_getR (k := 0) (ci := 0) (pc := 56) (t := 26) 3 d_D_encode_56 cok0 rfl (Nat.lt_of_lt_of_le (by decide) hn) rfl (by decide) rfl (hR.at 0 3 rfl rfl) w_329 ?_
    refine x_iload (pc := 59) d_D_encode_59 rfl ?_
    refine x_iload (pc := 61) d_D_encode_61 rfl ?_
    refine y_callVv m_W_put 0 116 26 3 3 [_, _] [] rfl (pc := 63) d_D_encode_63 ok_W_put w_399 w_400 w_401 pn_W_put (Nat.lt_of_lt_of_le (by decide) hn) rfl rfl (by decide) (Nat.le_of_ble_eq_true rfl) (Nat.le_refl _) (Nat.le_refl _) hvc (fun M2 hvc => ?_)
    refine x_iload (pc := 66) d_D_encode_66 rfl ?_
    obtain ⟨h4, hvc⟩ := hvc
    refine x_if_eq (tgt := 74) (pc := 68) d_D_encode_68 rfl h4 (fun hb => ?_) (fun hb => ?_)
    · have hvc := hvc.1 hb
      refine x_iinc (pc := 74) d_D_encode_74 rfl (by decide) ?_
      refine x_goto (tgt := 27) (pc := 77) d_D_encode_77 rfl ?_
      exact x_locals (xmask [true, true, true, true, true, false] _) (xmask_sub _ _) (hvc Q hQ)
    · have hvc := hvc.2 hb
      refine x_iinc (pc := 71) d_D_encode_71 rfl (by decide) ?_
      refine x_iinc (pc := 74) d_D_encode_74 rfl (by decide) ?_
      refine x_goto (tgt := 27) (pc := 77) d_D_encode_77 rfl ?_
      exact x_locals (xmask [true, true, true, true, true, false] _) (xmask_sub _ _) (hvc Q hQ)
set_option maxRecDepth 20000 in
theorem E_D_encode {n : Nat} {R : xR} {M : xM} {P : Int → xM → Prop} (hn : 78 ≤ n) (hR : RC 78 R) {l1 : Int} (h : Xi m_D_encode 2 n R P 0 [some (vr 0), some (vi l1), none, none, none, none] [] M) : Ci m_D_encode 2 n R [vr 0, vi l1] M P :=
  Ci.of [some (vr 0), some (vi l1), none, none, none, none] (by decide) rfl (Nat.le_of_ble_eq_true rfl) rfl h
set_option maxRecDepth 20000 in
theorem B_D_receive_0 {n : Nat} {R : xR} {M : xM} {P : Int → xM → Prop} (hn : 78 ≤ n) (hR : RC 78 R) {l1 l2 : Int} (hvc : Ci m_D_isPlace 0 n R [vr 0, vi l1] M (fun z1 M1 => (-2147483648 ≤ z1 ∧ z1 < 2147483648) ∧ ((z1 = 0 → P 0 M1) ∧ (¬ z1 = 0 → Ci m_F_has 0 n R [vr 1, vi l2] M1 (fun z3 M2 => (-2147483648 ≤ z3 ∧ z3 < 2147483648) ∧ ((¬ z3 = 0 → Cv m_W_put 0 n R [vr 26, vi l1, vi l2] M2 (fun M3 => P 1 M3)) ∧ (z3 = 0 → P 0 M2))))))) : Xi m_D_receive 1 n R P 0 [some (vr 0), some (vi l1), some (vi l2)] [] M := by
  intro Q hQ
  refine x_aload_n (pc := 0) d_D_receive_0 rfl rfl ?_
  refine x_iload_n (pc := 1) d_D_receive_1 rfl rfl ?_
  refine y_callVi m_D_isPlace 0 120 0 0 9 [_] [] rfl (pc := 2) d_D_receive_2 ok_D_isPlace w_407 w_409 w_7 pn_D_isPlace (Nat.lt_of_lt_of_le (by decide) hn) rfl rfl (by decide) (Nat.le_of_ble_eq_true rfl) (Nat.le_refl _) (Nat.le_refl _) hvc (fun z1 M1 hvc => ?_)
  obtain ⟨h2, hvc⟩ := hvc
  refine x_if_eq (tgt := 19) (pc := 5) d_D_receive_5 rfl h2 (fun hb => ?_) (fun hb => ?_)
  · have hvc := hvc.1 hb
    refine x_iconst (pc := 19) d_D_receive_19 ?_
    exact x_zret (pc := 20) d_D_receive_20 rfl (by decide) rfl (Nat.le_refl _) (hQ _ _ hvc)
  · have hvc := hvc.2 hb
    refine x_aload_n (pc := 8) d_D_receive_8 rfl rfl ?_
    refine x_getR (k := 0) (ci := 0) (pc := 9) (t := 1) 0 d_D_receive_9 cok0 rfl (Nat.lt_of_lt_of_le (by decide) hn) rfl (by decide) rfl (hR.at 0 0 rfl rfl) w_326 ?_
    refine x_iload_n (pc := 12) d_D_receive_12 rfl rfl ?_
    refine y_callVi m_F_has 0 79 1 1 5 [_] [] rfl (pc := 13) d_D_receive_13 ok_F_has w_365 w_366 w_367 pn_F_has (Nat.lt_of_lt_of_le (by decide) hn) rfl rfl (by decide) (Nat.le_of_ble_eq_true rfl) (Nat.le_refl _) (Nat.le_refl _) hvc (fun z3 M2 hvc => ?_)
    obtain ⟨h4, hvc⟩ := hvc
    refine x_if_ne (tgt := 21) (pc := 16) d_D_receive_16 rfl h4 (fun hb => ?_) (fun hb => ?_)
    · have hvc := hvc.1 hb
      refine x_aload_n (pc := 21) d_D_receive_21 rfl rfl ?_
      refine x_getR (k := 0) (ci := 0) (pc := 22) (t := 26) 3 d_D_receive_22 cok0 rfl (Nat.lt_of_lt_of_le (by decide) hn) rfl (by decide) rfl (hR.at 0 3 rfl rfl) w_329 ?_
      refine x_iload_n (pc := 25) d_D_receive_25 rfl rfl ?_
      refine x_iload_n (pc := 26) d_D_receive_26 rfl rfl ?_
      refine y_callVv m_W_put 0 116 26 3 3 [_, _] [] rfl (pc := 27) d_D_receive_27 ok_W_put w_399 w_400 w_401 pn_W_put (Nat.lt_of_lt_of_le (by decide) hn) rfl rfl (by decide) (Nat.le_of_ble_eq_true rfl) (Nat.le_refl _) (Nat.le_refl _) hvc (fun M3 hvc => ?_)
      refine x_iconst (pc := 30) d_D_receive_30 ?_
      exact x_zret (pc := 31) d_D_receive_31 rfl (by decide) rfl (Nat.le_refl _) (hQ _ _ hvc)
    · have hvc := hvc.2 hb
      refine x_iconst (pc := 19) d_D_receive_19 ?_
      exact x_zret (pc := 20) d_D_receive_20 rfl (by decide) rfl (Nat.le_refl _) (hQ _ _ hvc)
set_option maxRecDepth 20000 in
theorem E_D_receive {n : Nat} {R : xR} {M : xM} {P : Int → xM → Prop} (hn : 78 ≤ n) (hR : RC 78 R) {l1 l2 : Int} (h : Xi m_D_receive 1 n R P 0 [some (vr 0), some (vi l1), some (vi l2)] [] M) : Ci m_D_receive 1 n R [vr 0, vi l1, vi l2] M P :=
  Ci.of [some (vr 0), some (vi l1), some (vi l2)] (by decide) rfl (Nat.le_of_ble_eq_true rfl) rfl h
set_option maxRecDepth 20000 in
theorem B_D_erase_0 {n : Nat} {R : xR} {M : xM} {P : Int → xM → Prop} (hn : 78 ≤ n) (hR : RC 78 R) {l1 : Int} (hvc : Ci m_D_isPlace 0 n R [vr 0, vi l1] M (fun z1 M1 => (-2147483648 ≤ z1 ∧ z1 < 2147483648) ∧ ((z1 = 0 → P 0 M1) ∧ (¬ z1 = 0 → (0 ≤ l1 ∧ l1 < 20) ∧ (-2147483648 ≤ M1 28 l1.toNat ∧ M1 28 l1.toNat < 2147483648) ∧ (((M1 28 l1.toNat) = 0 → Cv m_W_strike 0 n R [vr 26, vi l1] M1 (fun M2 => P 1 M2)) ∧ (¬ (M1 28 l1.toNat) = 0 → P 0 M1)))))) : Xi m_D_erase 1 n R P 0 [some (vr 0), some (vi l1)] [] M := by
  intro Q hQ
  refine x_aload_n (pc := 0) d_D_erase_0 rfl rfl ?_
  refine x_iload_n (pc := 1) d_D_erase_1 rfl rfl ?_
  refine y_callVi m_D_isPlace 0 120 0 0 9 [_] [] rfl (pc := 2) d_D_erase_2 ok_D_isPlace w_407 w_409 w_7 pn_D_isPlace (Nat.lt_of_lt_of_le (by decide) hn) rfl rfl (by decide) (Nat.le_of_ble_eq_true rfl) (Nat.le_refl _) (Nat.le_refl _) hvc (fun z1 M1 hvc => ?_)
  obtain ⟨h2, hvc⟩ := hvc
  refine x_if_eq (tgt := 20) (pc := 5) d_D_erase_5 rfl h2 (fun hb => ?_) (fun hb => ?_)
  · have hvc := hvc.1 hb
    refine x_iconst (pc := 20) d_D_erase_20 ?_
    exact x_zret (pc := 21) d_D_erase_21 rfl (by decide) rfl (Nat.le_refl _) (hQ _ _ hvc)
  · have hvc := hvc.2 hb
    refine x_aload_n (pc := 8) d_D_erase_8 rfl rfl ?_
    refine x_getR (k := 0) (ci := 0) (pc := 9) (t := 26) 3 d_D_erase_9 cok0 rfl (Nat.lt_of_lt_of_le (by decide) hn) rfl (by decide) rfl (hR.at 0 3 rfl rfl) w_329 ?_
    refine x_getRN (k := 26) (ci := 3) (pc := 12) (t := 28) 2 d_D_erase_12 cok3 rfl (Nat.lt_of_lt_of_le (by decide) hn) rfl (by decide) rfl (hR.at 26 2 rfl rfl) w_162 ?_
    refine x_iload_n (pc := 15) d_D_erase_15 rfl rfl ?_
    obtain ⟨h3, hvc⟩ := hvc
    refine x_zald (N := 20) (pc := 16) d_D_erase_16 (Nat.lt_of_lt_of_le (by decide) hn) rfl (by decide) h3.1 h3.2 ?_
    obtain ⟨h4, hvc⟩ := hvc
    refine x_if_eq (tgt := 22) (pc := 17) d_D_erase_17 rfl h4 (fun hb => ?_) (fun hb => ?_)
    · have hvc := hvc.1 hb
      refine x_aload_n (pc := 22) d_D_erase_22 rfl rfl ?_
      refine x_getR (k := 0) (ci := 0) (pc := 23) (t := 26) 3 d_D_erase_23 cok0 rfl (Nat.lt_of_lt_of_le (by decide) hn) rfl (by decide) rfl (hR.at 0 3 rfl rfl) w_329 ?_
      refine x_iload_n (pc := 26) d_D_erase_26 rfl rfl ?_
      refine y_callVv m_W_strike 0 127 26 3 3 [_] [] rfl (pc := 27) d_D_erase_27 ok_W_strike w_415 w_416 w_417 pn_W_strike (Nat.lt_of_lt_of_le (by decide) hn) rfl rfl (by decide) (Nat.le_of_ble_eq_true rfl) (Nat.le_refl _) (Nat.le_refl _) hvc (fun M2 hvc => ?_)
      refine x_iconst (pc := 30) d_D_erase_30 ?_
      exact x_zret (pc := 31) d_D_erase_31 rfl (by decide) rfl (Nat.le_refl _) (hQ _ _ hvc)
    · have hvc := hvc.2 hb
      refine x_iconst (pc := 20) d_D_erase_20 ?_
      exact x_zret (pc := 21) d_D_erase_21 rfl (by decide) rfl (Nat.le_refl _) (hQ _ _ hvc)
set_option maxRecDepth 20000 in
theorem E_D_erase {n : Nat} {R : xR} {M : xM} {P : Int → xM → Prop} (hn : 78 ≤ n) (hR : RC 78 R) {l1 : Int} (h : Xi m_D_erase 1 n R P 0 [some (vr 0), some (vi l1)] [] M) : Ci m_D_erase 1 n R [vr 0, vi l1] M P :=
  Ci.of [some (vr 0), some (vi l1)] (by decide) rfl (Nat.le_of_ble_eq_true rfl) rfl h
set_option maxRecDepth 20000 in
theorem B_D_word_0 {n : Nat} {R : xR} {M : xM} {P : Int → xM → Prop} (hn : 78 ≤ n) (hR : RC 78 R) {l1 : Int} (hvc : Ci m_D_isPlace 0 n R [vr 0, vi l1] M (fun z1 M1 => (-2147483648 ≤ z1 ∧ z1 < 2147483648) ∧ ((¬ z1 = 0 → (0 ≤ l1 ∧ l1 < 20) ∧ (-2147483648 ≤ M1 28 l1.toNat ∧ M1 28 l1.toNat < 2147483648) ∧ (((M1 28 l1.toNat) = 0 → P (M1 27 l1.toNat) M1) ∧ (¬ (M1 28 l1.toNat) = 0 → P ((-2)) M1))) ∧ (z1 = 0 → P ((-1)) M1)))) : Xi m_D_word 1 n R P 0 [some (vr 0), some (vi l1)] [] M := by
  intro Q hQ
  refine x_aload_n (pc := 0) d_D_word_0 rfl rfl ?_
  refine x_iload_n (pc := 1) d_D_word_1 rfl rfl ?_
  refine y_callVi m_D_isPlace 0 120 0 0 9 [_] [] rfl (pc := 2) d_D_word_2 ok_D_isPlace w_407 w_409 w_7 pn_D_isPlace (Nat.lt_of_lt_of_le (by decide) hn) rfl rfl (by decide) (Nat.le_of_ble_eq_true rfl) (Nat.le_refl _) (Nat.le_refl _) hvc (fun z1 M1 hvc => ?_)
  obtain ⟨h2, hvc⟩ := hvc
  refine x_if_ne (tgt := 10) (pc := 5) d_D_word_5 rfl h2 (fun hb => ?_) (fun hb => ?_)
  · have hvc := hvc.1 hb
    refine x_aload_n (pc := 10) d_D_word_10 rfl rfl ?_
    refine x_getR (k := 0) (ci := 0) (pc := 11) (t := 26) 3 d_D_word_11 cok0 rfl (Nat.lt_of_lt_of_le (by decide) hn) rfl (by decide) rfl (hR.at 0 3 rfl rfl) w_329 ?_
    refine x_getRN (k := 26) (ci := 3) (pc := 14) (t := 28) 2 d_D_word_14 cok3 rfl (Nat.lt_of_lt_of_le (by decide) hn) rfl (by decide) rfl (hR.at 26 2 rfl rfl) w_162 ?_
    refine x_iload_n (pc := 17) d_D_word_17 rfl rfl ?_
    obtain ⟨h3, hvc⟩ := hvc
    refine x_zald (N := 20) (pc := 18) d_D_word_18 (Nat.lt_of_lt_of_le (by decide) hn) rfl (by decide) h3.1 h3.2 ?_
    obtain ⟨h4, hvc⟩ := hvc
    refine x_if_eq (tgt := 27) (pc := 19) d_D_word_19 rfl h4 (fun hb => ?_) (fun hb => ?_)
    · have hvc := hvc.1 hb
      refine x_aload_n (pc := 27) d_D_word_27 rfl rfl ?_
      refine x_getR (k := 0) (ci := 0) (pc := 28) (t := 26) 3 d_D_word_28 cok0 rfl (Nat.lt_of_lt_of_le (by decide) hn) rfl (by decide) rfl (hR.at 0 3 rfl rfl) w_329 ?_
      refine x_getRN (k := 26) (ci := 3) (pc := 31) (t := 27) 1 d_D_word_31 cok3 rfl (Nat.lt_of_lt_of_le (by decide) hn) rfl (by decide) rfl (hR.at 26 1 rfl rfl) w_158 ?_
      refine x_iload_n (pc := 34) d_D_word_34 rfl rfl ?_
      refine x_iald (N := 20) (pc := 35) d_D_word_35 (Nat.lt_of_lt_of_le (by decide) hn) rfl (by decide) h3.1 h3.2 ?_
      exact x_iret (pc := 36) d_D_word_36 rfl rfl (Nat.le_refl _) (hQ _ _ hvc)
    · have hvc := hvc.2 hb
      refine x_bipush (pc := 22) d_D_word_22 (by decide) ?_
      refine x_goto (tgt := 36) (pc := 24) d_D_word_24 rfl ?_
      exact x_iret (pc := 36) d_D_word_36 rfl rfl (Nat.le_refl _) (hQ _ _ hvc)
  · have hvc := hvc.2 hb
    refine x_iconst (pc := 8) d_D_word_8 ?_
    exact x_iret (pc := 9) d_D_word_9 rfl rfl (Nat.le_refl _) (hQ _ _ hvc)
set_option maxRecDepth 20000 in
theorem E_D_word {n : Nat} {R : xR} {M : xM} {P : Int → xM → Prop} (hn : 78 ≤ n) (hR : RC 78 R) {l1 : Int} (h : Xi m_D_word 1 n R P 0 [some (vr 0), some (vi l1)] [] M) : Ci m_D_word 1 n R [vr 0, vi l1] M P :=
  Ci.of [some (vr 0), some (vi l1)] (by decide) rfl (Nat.le_of_ble_eq_true rfl) rfl h
set_option maxRecDepth 20000 in
theorem B_D_syndrome_0 {n : Nat} {R : xR} {M : xM} {P : Int → xM → Prop} (hn : 78 ≤ n) (hR : RC 78 R) {l1 : Int} (hvc : (-2147483648 ≤ l1 ∧ l1 < 2147483648) ∧ ((l1 < 0 → P ((-1)) M) ∧ (¬ l1 < 0 → (-2147483648 ≤ (M 5 2) - (M 5 3) ∧ (M 5 2) - (M 5 3) < 2147483648) ∧ ((l1 < ((M 5 2) - (M 5 3)) → Xi m_D_syndrome 2 n R P 29 [some (vr 0), some (vi l1), some (vi 0), some (vi 0), none] [] M) ∧ (¬ l1 < ((M 5 2) - (M 5 3)) → P ((-1)) M))))) : Xi m_D_syndrome 2 n R P 0 [some (vr 0), some (vi l1), none, none, none] [] M := by
  intro Q hQ
  refine x_iload_n (pc := 0) d_D_syndrome_0 rfl rfl ?_
  obtain ⟨h1, hvc⟩ := hvc
  refine x_if_lt (tgt := 23) (pc := 1) d_D_syndrome_1 rfl h1 (fun hb => ?_) (fun hb => ?_)
  · have hvc := hvc.1 hb
    refine x_iconst (pc := 23) d_D_syndrome_23 ?_
    exact x_iret (pc := 24) d_D_syndrome_24 rfl rfl (Nat.le_refl _) (hQ _ _ hvc)
  · have hvc := hvc.2 hb
    refine x_iload_n (pc := 4) d_D_syndrome_4 rfl rfl ?_
    refine x_aload_n (pc := 5) d_D_syndrome_5 rfl rfl ?_
    refine x_getR (k := 0) (ci := 0) (pc := 6) (t := 5) 1 d_D_syndrome_6 cok0 rfl (Nat.lt_of_lt_of_le (by decide) hn) rfl (by decide) rfl (hR.at 0 1 rfl rfl) w_327 ?_
    refine x_getIN (k := 5) (ci := 2) (pc := 9) 2 d_D_syndrome_9 cok2 rfl (Nat.lt_of_lt_of_le (by decide) hn) rfl (by decide) rfl w_103 ?_
    refine x_aload_n (pc := 12) d_D_syndrome_12 rfl rfl ?_
    refine x_getR (k := 0) (ci := 0) (pc := 13) (t := 5) 1 d_D_syndrome_13 cok0 rfl (Nat.lt_of_lt_of_le (by decide) hn) rfl (by decide) rfl (hR.at 0 1 rfl rfl) w_327 ?_
    refine x_getIN (k := 5) (ci := 2) (pc := 16) 3 d_D_syndrome_16 cok2 rfl (Nat.lt_of_lt_of_le (by decide) hn) rfl (by decide) rfl w_107 ?_
    refine x_isub (pc := 19) d_D_syndrome_19 ?_
    obtain ⟨h2, hvc⟩ := hvc
    refine x_icmp_lt (tgt := 25) (pc := 20) d_D_syndrome_20 rfl h1 h2 (fun hb => ?_) (fun hb => ?_)
    · have hvc := hvc.1 hb
      refine x_iconst (pc := 25) d_D_syndrome_25 ?_
      refine x_istore_n (pc := 26) d_D_syndrome_26 rfl (by decide) ?_
      refine x_iconst (pc := 27) d_D_syndrome_27 ?_
      refine x_istore_n (pc := 28) d_D_syndrome_28 rfl (by decide) ?_
      exact x_locals (xmask [true, true, true, true, false] _) (xmask_sub _ _) (hvc Q hQ)
    · have hvc := hvc.2 hb
      refine x_iconst (pc := 23) d_D_syndrome_23 ?_
      exact x_iret (pc := 24) d_D_syndrome_24 rfl rfl (Nat.le_refl _) (hQ _ _ hvc)
set_option maxRecDepth 20000 in
theorem B_D_syndrome_29 {n : Nat} {R : xR} {M : xM} {P : Int → xM → Prop} (hn : 78 ≤ n) (hR : RC 78 R) {l1 l2 l3 : Int} (hvc : (-2147483648 ≤ l3 ∧ l3 < 2147483648) ∧ (-2147483648 ≤ M 5 2 ∧ M 5 2 < 2147483648) ∧ (((M 5 2) ≤ l3 → P l2 M) ∧ (¬ (M 5 2) ≤ l3 → (0 ≤ l3 ∧ l3 < 20) ∧ (-2147483648 ≤ M 28 l3.toNat ∧ M 28 l3.toNat < 2147483648) ∧ ((¬ (M 28 l3.toNat) = 0 → Xi m_D_syndrome 2 n R P 29 [some (vr 0), some (vi l1), some (vi l2), some (vi (l3 + 1)), none] [] M) ∧ ((M 28 l3.toNat) = 0 → Ci m_F_product 0 n R [vr 1, vi (M 8 l3.toNat), vi (M 27 l3.toNat)] M (fun z5 M1 => Ci m_F_power 1 n R [vr 1, vi (M1 6 l3.toNat), vi l1] M1 (fun z6 M2 => Ci m_F_product 0 n R [vr 1, vi z5, vi z6] M2 (fun z7 M3 => Xi m_D_syndrome 2 n R P 29 [some (vr 0), some (vi l1), some (vi (xXor l2 z7)), some (vi (l3 + 1)), none] [] M3)))))))) : Xi m_D_syndrome 2 n R P 29 [some (vr 0), some (vi l1), some (vi l2), some (vi l3), none] [] M := by
  intro Q hQ
  refine x_iload_n (pc := 29) d_D_syndrome_29 rfl rfl ?_
  refine x_aload_n (pc := 30) d_D_syndrome_30 rfl rfl ?_
  refine x_getR (k := 0) (ci := 0) (pc := 31) (t := 5) 1 d_D_syndrome_31 cok0 rfl (Nat.lt_of_lt_of_le (by decide) hn) rfl (by decide) rfl (hR.at 0 1 rfl rfl) w_327 ?_
  refine x_getIN (k := 5) (ci := 2) (pc := 34) 2 d_D_syndrome_34 cok2 rfl (Nat.lt_of_lt_of_le (by decide) hn) rfl (by decide) rfl w_103 ?_
  obtain ⟨h1, hvc⟩ := hvc
  obtain ⟨h2, hvc⟩ := hvc
  refine x_icmp_ge (tgt := 114) (pc := 37) d_D_syndrome_37 rfl h1 h2 (fun hb => ?_) (fun hb => ?_)
  · have hvc := hvc.1 hb
    refine x_iload_n (pc := 114) d_D_syndrome_114 rfl rfl ?_
    exact x_iret (pc := 115) d_D_syndrome_115 rfl rfl (Nat.le_refl _) (hQ _ _ hvc)
  · have hvc := hvc.2 hb
    refine x_aload_n (pc := 40) d_D_syndrome_40 rfl rfl ?_
    refine x_getR (k := 0) (ci := 0) (pc := 41) (t := 26) 3 d_D_syndrome_41 cok0 rfl (Nat.lt_of_lt_of_le (by decide) hn) rfl (by decide) rfl (hR.at 0 3 rfl rfl) w_329 ?_
    refine x_getRN (k := 26) (ci := 3) (pc := 44) (t := 28) 2 d_D_syndrome_44 cok3 rfl (Nat.lt_of_lt_of_le (by decide) hn) rfl (by decide) rfl (hR.at 26 2 rfl rfl) w_162 ?_
    refine x_iload_n (pc := 47) d_D_syndrome_47 rfl rfl ?_
    obtain ⟨h3, hvc⟩ := hvc
    refine x_zald (N := 20) (pc := 48) d_D_syndrome_48 (Nat.lt_of_lt_of_le (by decide) hn) rfl (by decide) h3.1 h3.2 ?_
    obtain ⟨h4, hvc⟩ := hvc
    refine x_if_ne (tgt := 108) (pc := 49) d_D_syndrome_49 rfl h4 (fun hb => ?_) (fun hb => ?_)
    · have hvc := hvc.1 hb
      refine x_iinc (pc := 108) d_D_syndrome_108 rfl (by decide) ?_
      refine x_goto (tgt := 29) (pc := 111) d_D_syndrome_111 rfl ?_
      exact x_locals (xmask [true, true, true, true, false] _) (xmask_sub _ _) (hvc Q hQ)
    · have hvc := hvc.2 hb
      refine x_aload_n (pc := 52) d_D_syndrome_52 rfl rfl ?_
      refine x_getR (k := 0) (ci := 0) (pc := 53) (t := 1) 0 d_D_syndrome_53 cok0 rfl (Nat.lt_of_lt_of_le (by decide) hn) rfl (by decide) rfl (hR.at 0 0 rfl rfl) w_326 ?_
      refine x_aload_n (pc := 56) d_D_syndrome_56 rfl rfl ?_
      refine x_getR (k := 0) (ci := 0) (pc := 57) (t := 5) 1 d_D_syndrome_57 cok0 rfl (Nat.lt_of_lt_of_le (by decide) hn) rfl (by decide) rfl (hR.at 0 1 rfl rfl) w_327 ?_
      refine x_getRN (k := 5) (ci := 2) (pc := 60) (t := 8) 6 d_D_syndrome_60 cok2 rfl (Nat.lt_of_lt_of_le (by decide) hn) rfl (by decide) rfl (hR.at 5 6 rfl rfl) w_114 ?_
      refine x_iload_n (pc := 63) d_D_syndrome_63 rfl rfl ?_
      refine x_iald (N := 20) (pc := 64) d_D_syndrome_64 (Nat.lt_of_lt_of_le (by decide) hn) rfl (by decide) h3.1 h3.2 ?_
      refine x_aload_n (pc := 65) d_D_syndrome_65 rfl rfl ?_
      refine x_getR (k := 0) (ci := 0) (pc := 66) (t := 26) 3 d_D_syndrome_66 cok0 rfl (Nat.lt_of_lt_of_le (by decide) hn) rfl (by decide) rfl (hR.at 0 3 rfl rfl) w_329 ?_
      refine x_getRN (k := 26) (ci := 3) (pc := 69) (t := 27) 1 d_D_syndrome_69 cok3 rfl (Nat.lt_of_lt_of_le (by decide) hn) rfl (by decide) rfl (hR.at 26 1 rfl rfl) w_158 ?_
      refine x_iload_n (pc := 72) d_D_syndrome_72 rfl rfl ?_
      refine x_iald (N := 20) (pc := 73) d_D_syndrome_73 (Nat.lt_of_lt_of_le (by decide) hn) rfl (by decide) h3.1 h3.2 ?_
      refine y_callVi m_F_product 0 82 1 1 5 [_, _] [] rfl (pc := 74) d_D_syndrome_74 ok_F_product w_369 w_291 w_292 pn_F_product (Nat.lt_of_lt_of_le (by decide) hn) rfl rfl (by decide) (Nat.le_of_ble_eq_true rfl) (Nat.le_refl _) (Nat.le_refl _) hvc (fun z5 M1 hvc => ?_)
      refine x_istore (pc := 77) d_D_syndrome_77 (by decide) ?_
      refine x_iload_n (pc := 79) d_D_syndrome_79 rfl rfl ?_
      refine x_aload_n (pc := 80) d_D_syndrome_80 rfl rfl ?_
      refine x_getR (k := 0) (ci := 0) (pc := 81) (t := 1) 0 d_D_syndrome_81 cok0 rfl (Nat.lt_of_lt_of_le (by decide) hn) rfl (by decide) rfl (hR.at 0 0 rfl rfl) w_326 ?_
      refine x_iload (pc := 84) d_D_syndrome_84 rfl ?_
      refine x_aload_n (pc := 86) d_D_syndrome_86 rfl rfl ?_
      refine x_getR (k := 0) (ci := 0) (pc := 87) (t := 1) 0 d_D_syndrome_87 cok0 rfl (Nat.lt_of_lt_of_le (by decide) hn) rfl (by decide) rfl (hR.at 0 0 rfl rfl) w_326 ?_
      refine x_aload_n (pc := 90) d_D_syndrome_90 rfl rfl ?_
      refine x_getR (k := 0) (ci := 0) (pc := 91) (t := 5) 1 d_D_syndrome_91 cok0 rfl (Nat.lt_of_lt_of_le (by decide) hn) rfl (by decide) rfl (hR.at 0 1 rfl rfl) w_327 ?_
      refine x_getRN (k := 5) (ci := 2) (pc := 94) (t := 6) 4 d_D_syndrome_94 cok2 rfl (Nat.lt_of_lt_of_le (by decide) hn) rfl (by decide) rfl (hR.at 5 4 rfl rfl) w_110 ?_
      refine x_iload_n (pc := 97) d_D_syndrome_97 rfl rfl ?_
      refine x_iald (N := 20) (pc := 98) d_D_syndrome_98 (Nat.lt_of_lt_of_le (by decide) hn) rfl (by decide) h3.1 h3.2 ?_
      refine x_iload_n (pc := 99) d_D_syndrome_99 rfl rfl ?_
      refine y_callVi m_F_power 1 142 1 1 5 [_, _] [_, _, _] rfl (pc := 100) d_D_syndrome_100 ok_F_power w_427 w_307 w_308 pn_F_power (Nat.lt_of_lt_of_le (by decide) hn) rfl rfl (by decide) (Nat.le_of_ble_eq_true rfl) (Nat.le_refl _) (Nat.le_refl _) hvc (fun z6 M2 hvc => ?_)
      refine y_callVi m_F_product 0 82 1 1 5 [_, _] [_] rfl (pc := 103) d_D_syndrome_103 ok_F_product w_369 w_291 w_292 pn_F_product (Nat.lt_of_lt_of_le (by decide) hn) rfl rfl (by decide) (Nat.le_of_ble_eq_true rfl) (Nat.le_refl _) (Nat.le_refl _) hvc (fun z7 M3 hvc => ?_)
      refine x_ixor (pc := 106) d_D_syndrome_106 ?_
      refine x_istore_n (pc := 107) d_D_syndrome_107 rfl (by decide) ?_
      refine x_iinc (pc := 108) d_D_syndrome_108 rfl (by decide) ?_
      refine x_goto (tgt := 29) (pc := 111) d_D_syndrome_111 rfl ?_
      exact x_locals (xmask [true, true, true, true, false] _) (xmask_sub _ _) (hvc Q hQ)
set_option maxRecDepth 20000 in
theorem E_D_syndrome {n : Nat} {R : xR} {M : xM} {P : Int → xM → Prop} (hn : 78 ≤ n) (hR : RC 78 R) {l1 : Int} (h : Xi m_D_syndrome 2 n R P 0 [some (vr 0), some (vi l1), none, none, none] [] M) : Ci m_D_syndrome 2 n R [vr 0, vi l1] M P :=
  Ci.of [some (vr 0), some (vi l1), none, none, none] (by decide) rfl (Nat.le_of_ble_eq_true rfl) rfl h
set_option maxRecDepth 20000 in
theorem B_D_decode_0 {n : Nat} {R : xR} {M : xM} {P : Int → xM → Prop} (hn : 78 ≤ n) (hR : RC 78 R) {l1 : Int} (hvc : Ci m_D_isErasedTooMuch 0 n R [vr 0] M (fun z1 M1 => (-2147483648 ≤ z1 ∧ z1 < 2147483648) ∧ ((z1 = 0 → Ci m_D_half 0 n R [vr 0] M1 (fun z3 M2 => Cv m_S_find 3 n R [vr 29, vi z3, vr 32] M2 (fun M3 => (-2147483648 ≤ M3 32 1 ∧ M3 32 1 < 2147483648) ∧ ((¬ (M3 32 1) = 0 → Cv m_D_locateWrongPlaces 1 n R [vr 0] M3 (fun M4 => P (M4 35 0) M4)) ∧ ((M3 32 1) = 0 → P ((-2)) M3))))) ∧ (¬ z1 = 0 → P ((-3)) M1)))) : Xi m_D_decode 4 n R P 0 [some (vr 0), some (vi l1)] [] M := by
  intro Q hQ
  refine x_aload_n (pc := 0) d_D_decode_0 rfl rfl ?_
  refine y_callVi m_D_isErasedTooMuch 0 145 0 0 9 [] [] rfl (pc := 1) d_D_decode_1 ok_D_isErasedTooMuch w_432 w_434 w_8 pn_D_isErasedTooMuch (Nat.lt_of_lt_of_le (by decide) hn) rfl rfl (by decide) (Nat.le_of_ble_eq_true rfl) (Nat.le_refl _) (Nat.le_refl _) hvc (fun z1 M1 hvc => ?_)
  obtain ⟨h2, hvc⟩ := hvc
  refine x_if_eq (tgt := 10) (pc := 4) d_D_decode_4 rfl h2 (fun hb => ?_) (fun hb => ?_)
  · have hvc := hvc.1 hb
    refine x_aload_n (pc := 10) d_D_decode_10 rfl rfl ?_
    refine x_getR (k := 0) (ci := 0) (pc := 11) (t := 29) 4 d_D_decode_11 cok0 rfl (Nat.lt_of_lt_of_le (by decide) hn) rfl (by decide) rfl (hR.at 0 4 rfl rfl) w_330 ?_
    refine x_aload_n (pc := 14) d_D_decode_14 rfl rfl ?_
    refine y_callVi m_D_half 0 149 0 0 9 [] [_] rfl (pc := 15) d_D_decode_15 ok_D_half w_436 w_438 w_9 pn_D_half (Nat.lt_of_lt_of_le (by decide) hn) rfl rfl (by decide) (Nat.le_of_ble_eq_true rfl) (Nat.le_refl _) (Nat.le_refl _) hvc (fun z3 M2 hvc => ?_)
    refine x_aload_n (pc := 18) d_D_decode_18 rfl rfl ?_
    refine x_getR (k := 0) (ci := 0) (pc := 19) (t := 32) 5 d_D_decode_19 cok0 rfl (Nat.lt_of_lt_of_le (by decide) hn) rfl (by decide) rfl (hR.at 0 5 rfl rfl) w_331 ?_
    refine y_callVv m_S_find 3 153 29 4 6 [_, _] [] rfl (pc := 22) d_D_decode_22 ok_S_find w_440 w_441 w_442 pn_S_find (Nat.lt_of_lt_of_le (by decide) hn) rfl rfl (by decide) (Nat.le_of_ble_eq_true rfl) (Nat.le_refl _) (Nat.le_refl _) hvc (fun M3 hvc => ?_)
    refine x_aload_n (pc := 25) d_D_decode_25 rfl rfl ?_
    refine x_getR (k := 0) (ci := 0) (pc := 26) (t := 32) 5 d_D_decode_26 cok0 rfl (Nat.lt_of_lt_of_le (by decide) hn) rfl (by decide) rfl (hR.at 0 5 rfl rfl) w_331 ?_
    refine x_getIN (k := 32) (ci := 5) (pc := 29) 1 d_D_decode_29 cok5 rfl (Nat.lt_of_lt_of_le (by decide) hn) rfl (by decide) rfl w_206 ?_
    obtain ⟨h4, hvc⟩ := hvc
    refine x_if_ne (tgt := 38) (pc := 32) d_D_decode_32 rfl h4 (fun hb => ?_) (fun hb => ?_)
    · have hvc := hvc.1 hb
      refine x_aload_n (pc := 38) d_D_decode_38 rfl rfl ?_
      refine y_callVv m_D_locateWrongPlaces 1 160 0 0 9 [] [] rfl (pc := 39) d_D_decode_39 ok_D_locateWrongPlaces w_459 w_461 w_12 pn_D_locateWrongPlaces (Nat.lt_of_lt_of_le (by decide) hn) rfl rfl (by decide) (Nat.le_of_ble_eq_true rfl) (Nat.le_refl _) (Nat.le_refl _) hvc (fun M4 hvc => ?_)
      refine x_aload_n (pc := 42) d_D_decode_42 rfl rfl ?_
      refine x_getR (k := 0) (ci := 0) (pc := 43) (t := 32) 5 d_D_decode_43 cok0 rfl (Nat.lt_of_lt_of_le (by decide) hn) rfl (by decide) rfl (hR.at 0 5 rfl rfl) w_331 ?_
      refine x_getRN (k := 32) (ci := 5) (pc := 46) (t := 35) 3 d_D_decode_46 cok5 rfl (Nat.lt_of_lt_of_le (by decide) hn) rfl (by decide) rfl (hR.at 32 3 rfl rfl) w_210 ?_
      refine x_iconst (pc := 49) d_D_decode_49 ?_
      refine x_iald (N := 1) (pc := 50) d_D_decode_50 (Nat.lt_of_lt_of_le (by decide) hn) rfl (by decide) (by decide) (by decide) ?_
      exact x_iret (pc := 51) d_D_decode_51 rfl rfl (Nat.le_refl _) (hQ _ _ hvc)
    · have hvc := hvc.2 hb
      refine x_bipush (pc := 35) d_D_decode_35 (by decide) ?_
      exact x_iret (pc := 37) d_D_decode_37 rfl rfl (Nat.le_refl _) (hQ _ _ hvc)
  · have hvc := hvc.2 hb
    refine x_bipush (pc := 7) d_D_decode_7 (by decide) ?_
    exact x_iret (pc := 9) d_D_decode_9 rfl rfl (Nat.le_refl _) (hQ _ _ hvc)
set_option maxRecDepth 20000 in
theorem E_D_decode {n : Nat} {R : xR} {M : xM} {P : Int → xM → Prop} (hn : 78 ≤ n) (hR : RC 78 R) {l1 : Int} (h : Xi m_D_decode 4 n R P 0 [some (vr 0), some (vi l1)] [] M) : Ci m_D_decode 4 n R [vr 0, vi l1] M P :=
  Ci.of [some (vr 0), some (vi l1)] (by decide) rfl (Nat.le_of_ble_eq_true rfl) rfl h
set_option maxRecDepth 20000 in
theorem B_D_decoded_0 {n : Nat} {R : xR} {M : xM} {P : Int → xM → Prop} (hn : 78 ≤ n) (hR : RC 78 R) {l1 : Int} (hvc : Ci m_D_isPlace 0 n R [vr 0, vi l1] M (fun z1 M1 => (-2147483648 ≤ z1 ∧ z1 < 2147483648) ∧ ((¬ z1 = 0 → (-2147483648 ≤ M1 32 1 ∧ M1 32 1 < 2147483648) ∧ ((¬ (M1 32 1) = 0 → (0 ≤ l1 ∧ l1 < 20) ∧ P (M1 34 l1.toNat) M1) ∧ ((M1 32 1) = 0 → P ((-2)) M1))) ∧ (z1 = 0 → P ((-1)) M1)))) : Xi m_D_decoded 1 n R P 0 [some (vr 0), some (vi l1)] [] M := by
  intro Q hQ
  refine x_aload_n (pc := 0) d_D_decoded_0 rfl rfl ?_
  refine x_iload_n (pc := 1) d_D_decoded_1 rfl rfl ?_
  refine y_callVi m_D_isPlace 0 120 0 0 9 [_] [] rfl (pc := 2) d_D_decoded_2 ok_D_isPlace w_407 w_409 w_7 pn_D_isPlace (Nat.lt_of_lt_of_le (by decide) hn) rfl rfl (by decide) (Nat.le_of_ble_eq_true rfl) (Nat.le_refl _) (Nat.le_refl _) hvc (fun z1 M1 hvc => ?_)
  obtain ⟨h2, hvc⟩ := hvc
  refine x_if_ne (tgt := 10) (pc := 5) d_D_decoded_5 rfl h2 (fun hb => ?_) (fun hb => ?_)
  · have hvc := hvc.1 hb
    refine x_aload_n (pc := 10) d_D_decoded_10 rfl rfl ?_
    refine x_getR (k := 0) (ci := 0) (pc := 11) (t := 32) 5 d_D_decoded_11 cok0 rfl (Nat.lt_of_lt_of_le (by decide) hn) rfl (by decide) rfl (hR.at 0 5 rfl rfl) w_331 ?_
    refine x_getIN (k := 32) (ci := 5) (pc := 14) 1 d_D_decoded_14 cok5 rfl (Nat.lt_of_lt_of_le (by decide) hn) rfl (by decide) rfl w_206 ?_
    obtain ⟨h3, hvc⟩ := hvc
    refine x_if_ne (tgt := 25) (pc := 17) d_D_decoded_17 rfl h3 (fun hb => ?_) (fun hb => ?_)
    · have hvc := hvc.1 hb
      refine x_aload_n (pc := 25) d_D_decoded_25 rfl rfl ?_
      refine x_getR (k := 0) (ci := 0) (pc := 26) (t := 32) 5 d_D_decoded_26 cok0 rfl (Nat.lt_of_lt_of_le (by decide) hn) rfl (by decide) rfl (hR.at 0 5 rfl rfl) w_331 ?_
      refine x_getRN (k := 32) (ci := 5) (pc := 29) (t := 33) 2 d_D_decoded_29 cok5 rfl (Nat.lt_of_lt_of_le (by decide) hn) rfl (by decide) rfl (hR.at 32 2 rfl rfl) w_208 ?_
      refine x_iconst (pc := 32) d_D_decoded_32 ?_
      refine x_aald (k := 33) (N := 1) (pc := 33) d_D_decoded_33 (Nat.lt_of_lt_of_le (by decide) hn) rfl (by decide) (by decide) (by decide) (hR.row 33 34 1 rfl rfl (by decide) (by decide)) ?_
      refine x_iload_n (pc := 34) d_D_decoded_34 rfl rfl ?_
      obtain ⟨h4, hvc⟩ := hvc
      refine x_iald (N := 20) (pc := 35) d_D_decoded_35 (Nat.lt_of_lt_of_le (by decide) hn) rfl (by decide) h4.1 h4.2 ?_
      exact x_iret (pc := 36) d_D_decoded_36 rfl rfl (Nat.le_refl _) (hQ _ _ hvc)
    · have hvc := hvc.2 hb
      refine x_bipush (pc := 20) d_D_decoded_20 (by decide) ?_
      refine x_goto (tgt := 36) (pc := 22) d_D_decoded_22 rfl ?_
      exact x_iret (pc := 36) d_D_decoded_36 rfl rfl (Nat.le_refl _) (hQ _ _ hvc)
  · have hvc := hvc.2 hb
    refine x_iconst (pc := 8) d_D_decoded_8 ?_
    exact x_iret (pc := 9) d_D_decoded_9 rfl rfl (Nat.le_refl _) (hQ _ _ hvc)
set_option maxRecDepth 20000 in
theorem E_D_decoded {n : Nat} {R : xR} {M : xM} {P : Int → xM → Prop} (hn : 78 ≤ n) (hR : RC 78 R) {l1 : Int} (h : Xi m_D_decoded 1 n R P 0 [some (vr 0), some (vi l1)] [] M) : Ci m_D_decoded 1 n R [vr 0, vi l1] M P :=
  Ci.of [some (vr 0), some (vi l1)] (by decide) rfl (Nat.le_of_ble_eq_true rfl) rfl h
set_option maxRecDepth 20000 in
theorem B_D_sent_0 {n : Nat} {R : xR} {M : xM} {P : Int → xM → Prop} (hn : 78 ≤ n) (hR : RC 78 R) {l1 : Int} (hvc : Ci m_D_isInMessage 0 n R [vr 0, vi l1] M (fun z1 M1 => (-2147483648 ≤ z1 ∧ z1 < 2147483648) ∧ ((¬ z1 = 0 → (-2147483648 ≤ M1 32 1 ∧ M1 32 1 < 2147483648) ∧ ((¬ (M1 32 1) = 0 → Ci m_C_toldBy 2 n R [vr 5, vr 34, vi l1] M1 (fun z4 M2 => P z4 M2)) ∧ ((M1 32 1) = 0 → P ((-2)) M1))) ∧ (z1 = 0 → P ((-1)) M1)))) : Xi m_D_sent 3 n R P 0 [some (vr 0), some (vi l1)] [] M := by
  intro Q hQ
  refine x_aload_n (pc := 0) d_D_sent_0 rfl rfl ?_
  refine x_iload_n (pc := 1) d_D_sent_1 rfl rfl ?_
  refine y_callVi m_D_isInMessage 0 99 0 0 9 [_] [] rfl (pc := 2) d_D_sent_2 ok_D_isInMessage w_387 w_389 w_6 pn_D_isInMessage (Nat.lt_of_lt_of_le (by decide) hn) rfl rfl (by decide) (Nat.le_of_ble_eq_true rfl) (Nat.le_refl _) (Nat.le_refl _) hvc (fun z1 M1 hvc => ?_)
  obtain ⟨h2, hvc⟩ := hvc
  refine x_if_ne (tgt := 10) (pc := 5) d_D_sent_5 rfl h2 (fun hb => ?_) (fun hb => ?_)
  · have hvc := hvc.1 hb
    refine x_aload_n (pc := 10) d_D_sent_10 rfl rfl ?_
    refine x_getR (k := 0) (ci := 0) (pc := 11) (t := 32) 5 d_D_sent_11 cok0 rfl (Nat.lt_of_lt_of_le (by decide) hn) rfl (by decide) rfl (hR.at 0 5 rfl rfl) w_331 ?_
    refine x_getIN (k := 32) (ci := 5) (pc := 14) 1 d_D_sent_14 cok5 rfl (Nat.lt_of_lt_of_le (by decide) hn) rfl (by decide) rfl w_206 ?_
    obtain ⟨h3, hvc⟩ := hvc
    refine x_if_ne (tgt := 25) (pc := 17) d_D_sent_17 rfl h3 (fun hb => ?_) (fun hb => ?_)
    · have hvc := hvc.1 hb
      refine x_aload_n (pc := 25) d_D_sent_25 rfl rfl ?_
      refine x_getR (k := 0) (ci := 0) (pc := 26) (t := 5) 1 d_D_sent_26 cok0 rfl (Nat.lt_of_lt_of_le (by decide) hn) rfl (by decide) rfl (hR.at 0 1 rfl rfl) w_327 ?_
      refine x_aload_n (pc := 29) d_D_sent_29 rfl rfl ?_
      refine x_getR (k := 0) (ci := 0) (pc := 30) (t := 32) 5 d_D_sent_30 cok0 rfl (Nat.lt_of_lt_of_le (by decide) hn) rfl (by decide) rfl (hR.at 0 5 rfl rfl) w_331 ?_
      refine x_getRN (k := 32) (ci := 5) (pc := 33) (t := 33) 2 d_D_sent_33 cok5 rfl (Nat.lt_of_lt_of_le (by decide) hn) rfl (by decide) rfl (hR.at 32 2 rfl rfl) w_208 ?_
      refine x_iconst (pc := 36) d_D_sent_36 ?_
      refine x_aald (k := 33) (N := 1) (pc := 37) d_D_sent_37 (Nat.lt_of_lt_of_le (by decide) hn) rfl (by decide) (by decide) (by decide) (hR.row 33 34 1 rfl rfl (by decide) (by decide)) ?_
      refine x_iload_n (pc := 38) d_D_sent_38 rfl rfl ?_
      refine y_callVi m_C_toldBy 2 169 5 2 11 [_, _] [] rfl (pc := 39) d_D_sent_39 ok_C_toldBy w_471 w_472 w_473 pn_C_toldBy (Nat.lt_of_lt_of_le (by decide) hn) rfl rfl (by decide) (Nat.le_of_ble_eq_true rfl) (Nat.le_refl _) (Nat.le_refl _) hvc (fun z4 M2 hvc => ?_)
      exact x_iret (pc := 42) d_D_sent_42 rfl rfl (Nat.le_refl _) (hQ _ _ hvc)
    · have hvc := hvc.2 hb
      refine x_bipush (pc := 20) d_D_sent_20 (by decide) ?_
      refine x_goto (tgt := 42) (pc := 22) d_D_sent_22 rfl ?_
      exact x_iret (pc := 42) d_D_sent_42 rfl rfl (Nat.le_refl _) (hQ _ _ hvc)
  · have hvc := hvc.2 hb
    refine x_iconst (pc := 8) d_D_sent_8 ?_
    exact x_iret (pc := 9) d_D_sent_9 rfl rfl (Nat.le_refl _) (hQ _ _ hvc)
set_option maxRecDepth 20000 in
theorem E_D_sent {n : Nat} {R : xR} {M : xM} {P : Int → xM → Prop} (hn : 78 ≤ n) (hR : RC 78 R) {l1 : Int} (h : Xi m_D_sent 3 n R P 0 [some (vr 0), some (vi l1)] [] M) : Ci m_D_sent 3 n R [vr 0, vi l1] M P :=
  Ci.of [some (vr 0), some (vi l1)] (by decide) rfl (Nat.le_of_ble_eq_true rfl) rfl h
set_option maxRecDepth 20000 in
theorem B_D_locator_0 {n : Nat} {R : xR} {M : xM} {P : Int → xM → Prop} (hn : 78 ≤ n) (hR : RC 78 R) {l1 : Int} (hvc : (-2147483648 ≤ l1 ∧ l1 < 2147483648) ∧ ((l1 < 0 → P ((-1)) M) ∧ (¬ l1 < 0 → (-2147483648 ≤ (M 5 2) - (M 5 3) ∧ (M 5 2) - (M 5 3) < 2147483648) ∧ ((l1 ≤ ((M 5 2) - (M 5 3)) → (-2147483648 ≤ M 32 1 ∧ M 32 1 < 2147483648) ∧ ((¬ (M 32 1) = 0 → (0 ≤ l1 ∧ l1 < 20) ∧ P (M 55 l1.toNat) M) ∧ ((M 32 1) = 0 → P ((-2)) M))) ∧ (¬ l1 ≤ ((M 5 2) - (M 5 3)) → P ((-1)) M))))) : Xi m_D_locator 0 n R P 0 [some (vr 0), some (vi l1)] [] M := by
  intro Q hQ
  refine x_iload_n (pc := 0) d_D_locator_0 rfl rfl ?_
  obtain ⟨h1, hvc⟩ := hvc
  refine x_if_lt (tgt := 23) (pc := 1) d_D_locator_1 rfl h1 (fun hb => ?_) (fun hb => ?_)
  · have hvc := hvc.1 hb
    refine x_iconst (pc := 23) d_D_locator_23 ?_
    exact x_iret (pc := 24) d_D_locator_24 rfl rfl (Nat.le_refl _) (hQ _ _ hvc)
  · have hvc := hvc.2 hb
    refine x_iload_n (pc := 4) d_D_locator_4 rfl rfl ?_
    refine x_aload_n (pc := 5) d_D_locator_5 rfl rfl ?_
    refine x_getR (k := 0) (ci := 0) (pc := 6) (t := 5) 1 d_D_locator_6 cok0 rfl (Nat.lt_of_lt_of_le (by decide) hn) rfl (by decide) rfl (hR.at 0 1 rfl rfl) w_327 ?_
    refine x_getIN (k := 5) (ci := 2) (pc := 9) 2 d_D_locator_9 cok2 rfl (Nat.lt_of_lt_of_le (by decide) hn) rfl (by decide) rfl w_103 ?_
    refine x_aload_n (pc := 12) d_D_locator_12 rfl rfl ?_
    refine x_getR (k := 0) (ci := 0) (pc := 13) (t := 5) 1 d_D_locator_13 cok0 rfl (Nat.lt_of_lt_of_le (by decide) hn) rfl (by decide) rfl (hR.at 0 1 rfl rfl) w_327 ?_
    refine x_getIN (k := 5) (ci := 2) (pc := 16) 3 d_D_locator_16 cok2 rfl (Nat.lt_of_lt_of_le (by decide) hn) rfl (by decide) rfl w_107 ?_
    refine x_isub (pc := 19) d_D_locator_19 ?_
    obtain ⟨h2, hvc⟩ := hvc
    refine x_icmp_le (tgt := 25) (pc := 20) d_D_locator_20 rfl h1 h2 (fun hb => ?_) (fun hb => ?_)
    · have hvc := hvc.1 hb
      refine x_aload_n (pc := 25) d_D_locator_25 rfl rfl ?_
      refine x_getR (k := 0) (ci := 0) (pc := 26) (t := 32) 5 d_D_locator_26 cok0 rfl (Nat.lt_of_lt_of_le (by decide) hn) rfl (by decide) rfl (hR.at 0 5 rfl rfl) w_331 ?_
      refine x_getIN (k := 32) (ci := 5) (pc := 29) 1 d_D_locator_29 cok5 rfl (Nat.lt_of_lt_of_le (by decide) hn) rfl (by decide) rfl w_206 ?_
      obtain ⟨h3, hvc⟩ := hvc
      refine x_if_ne (tgt := 40) (pc := 32) d_D_locator_32 rfl h3 (fun hb => ?_) (fun hb => ?_)
      · have hvc := hvc.1 hb
        refine x_aload_n (pc := 40) d_D_locator_40 rfl rfl ?_
        refine x_getR (k := 0) (ci := 0) (pc := 41) (t := 55) 7 d_D_locator_41 cok0 rfl (Nat.lt_of_lt_of_le (by decide) hn) rfl (by decide) rfl (hR.at 0 7 rfl rfl) w_333 ?_
        refine x_iload_n (pc := 44) d_D_locator_44 rfl rfl ?_
        obtain ⟨h4, hvc⟩ := hvc
        refine x_iald (N := 20) (pc := 45) d_D_locator_45 (Nat.lt_of_lt_of_le (by decide) hn) rfl (by decide) h4.1 h4.2 ?_
        exact x_iret (pc := 46) d_D_locator_46 rfl rfl (Nat.le_refl _) (hQ _ _ hvc)
      · have hvc := hvc.2 hb
        refine x_bipush (pc := 35) d_D_locator_35 (by decide) ?_
        refine x_goto (tgt := 46) (pc := 37) d_D_locator_37 rfl ?_
        exact x_iret (pc := 46) d_D_locator_46 rfl rfl (Nat.le_refl _) (hQ _ _ hvc)
    · have hvc := hvc.2 hb
      refine x_iconst (pc := 23) d_D_locator_23 ?_
      exact x_iret (pc := 24) d_D_locator_24 rfl rfl (Nat.le_refl _) (hQ _ _ hvc)
set_option maxRecDepth 20000 in
theorem E_D_locator {n : Nat} {R : xR} {M : xM} {P : Int → xM → Prop} (hn : 78 ≤ n) (hR : RC 78 R) {l1 : Int} (h : Xi m_D_locator 0 n R P 0 [some (vr 0), some (vi l1)] [] M) : Ci m_D_locator 0 n R [vr 0, vi l1] M P :=
  Ci.of [some (vr 0), some (vi l1)] (by decide) rfl (Nat.le_of_ble_eq_true rfl) rfl h
set_option maxRecDepth 20000 in
theorem B_D_list_0 {n : Nat} {R : xR} {M : xM} {P : Int → xM → Prop} (hn : 78 ≤ n) (hR : RC 78 R) {l1 : Int} (hvc : Ci m_D_isTimes 0 n R [vi l1] M (fun z1 M1 => (-2147483648 ≤ z1 ∧ z1 < 2147483648) ∧ ((¬ z1 = 0 → Ci m_D_isErasedTooMuch 0 n R [vr 0] M1 (fun z3 M2 => (-2147483648 ≤ z3 ∧ z3 < 2147483648) ∧ ((z3 = 0 → Ci m_D_radiusFor 1 n R [vr 0, vi l1] M2 (fun z5 M3 => Cv m_S_find 3 n R [vr 29, vi z5, vr 36] M3 (fun M4 => P (M4 36 1) M4))) ∧ (¬ z3 = 0 → P ((-3)) M2)))) ∧ (z1 = 0 → P ((-1)) M1)))) : Xi m_D_list 4 n R P 0 [some (vr 0), some (vi l1)] [] M := by
  intro Q hQ
  refine x_iload_n (pc := 0) d_D_list_0 rfl rfl ?_
  refine y_callSi m_D_isTimes 0 173 [_] [] rfl (pc := 1) d_D_list_1 ok_D_isTimes w_484 w_485 pn_D_isTimes (by decide) (Nat.le_of_ble_eq_true rfl) (Nat.le_refl _) (Nat.le_refl _) hvc (fun z1 M1 hvc => ?_)
  obtain ⟨h2, hvc⟩ := hvc
  refine x_if_ne (tgt := 9) (pc := 4) d_D_list_4 rfl h2 (fun hb => ?_) (fun hb => ?_)
  · have hvc := hvc.1 hb
    refine x_aload_n (pc := 9) d_D_list_9 rfl rfl ?_
    refine y_callVi m_D_isErasedTooMuch 0 145 0 0 9 [] [] rfl (pc := 10) d_D_list_10 ok_D_isErasedTooMuch w_432 w_434 w_8 pn_D_isErasedTooMuch (Nat.lt_of_lt_of_le (by decide) hn) rfl rfl (by decide) (Nat.le_of_ble_eq_true rfl) (Nat.le_refl _) (Nat.le_refl _) hvc (fun z3 M2 hvc => ?_)
    obtain ⟨h4, hvc⟩ := hvc
    refine x_if_eq (tgt := 19) (pc := 13) d_D_list_13 rfl h4 (fun hb => ?_) (fun hb => ?_)
    · have hvc := hvc.1 hb
      refine x_aload_n (pc := 19) d_D_list_19 rfl rfl ?_
      refine x_getR (k := 0) (ci := 0) (pc := 20) (t := 29) 4 d_D_list_20 cok0 rfl (Nat.lt_of_lt_of_le (by decide) hn) rfl (by decide) rfl (hR.at 0 4 rfl rfl) w_330 ?_
      refine x_aload_n (pc := 23) d_D_list_23 rfl rfl ?_
      refine x_iload_n (pc := 24) d_D_list_24 rfl rfl ?_
      refine y_callVi m_D_radiusFor 1 176 0 0 9 [_] [_] rfl (pc := 25) d_D_list_25 ok_D_radiusFor w_487 w_489 w_13 pn_D_radiusFor (Nat.lt_of_lt_of_le (by decide) hn) rfl rfl (by decide) (Nat.le_of_ble_eq_true rfl) (Nat.le_refl _) (Nat.le_refl _) hvc (fun z5 M3 hvc => ?_)
      refine x_aload_n (pc := 28) d_D_list_28 rfl rfl ?_
      refine x_getR (k := 0) (ci := 0) (pc := 29) (t := 36) 6 d_D_list_29 cok0 rfl (Nat.lt_of_lt_of_le (by decide) hn) rfl (by decide) rfl (hR.at 0 6 rfl rfl) w_332 ?_
      refine y_callVv m_S_find 3 153 29 4 6 [_, _] [] rfl (pc := 32) d_D_list_32 ok_S_find w_440 w_441 w_442 pn_S_find (Nat.lt_of_lt_of_le (by decide) hn) rfl rfl (by decide) (Nat.le_of_ble_eq_true rfl) (Nat.le_refl _) (Nat.le_refl _) hvc (fun M4 hvc => ?_)
      refine x_aload_n (pc := 35) d_D_list_35 rfl rfl ?_
      refine x_getR (k := 0) (ci := 0) (pc := 36) (t := 36) 6 d_D_list_36 cok0 rfl (Nat.lt_of_lt_of_le (by decide) hn) rfl (by decide) rfl (hR.at 0 6 rfl rfl) w_332 ?_
      refine x_getIN (k := 36) (ci := 5) (pc := 39) 1 d_D_list_39 cok5 rfl (Nat.lt_of_lt_of_le (by decide) hn) rfl (by decide) rfl w_206 ?_
      exact x_iret (pc := 42) d_D_list_42 rfl rfl (Nat.le_refl _) (hQ _ _ hvc)
    · have hvc := hvc.2 hb
      refine x_bipush (pc := 16) d_D_list_16 (by decide) ?_
      exact x_iret (pc := 18) d_D_list_18 rfl rfl (Nat.le_refl _) (hQ _ _ hvc)
  · have hvc := hvc.2 hb
    refine x_iconst (pc := 7) d_D_list_7 ?_
    exact x_iret (pc := 8) d_D_list_8 rfl rfl (Nat.le_refl _) (hQ _ _ hvc)
set_option maxRecDepth 20000 in
theorem E_D_list {n : Nat} {R : xR} {M : xM} {P : Int → xM → Prop} (hn : 78 ≤ n) (hR : RC 78 R) {l1 : Int} (h : Xi m_D_list 4 n R P 0 [some (vr 0), some (vi l1)] [] M) : Ci m_D_list 4 n R [vr 0, vi l1] M P :=
  Ci.of [some (vr 0), some (vi l1)] (by decide) rfl (Nat.le_of_ble_eq_true rfl) rfl h
set_option maxRecDepth 20000 in
theorem B_D_listed_0 {n : Nat} {R : xR} {M : xM} {P : Int → xM → Prop} (hn : 78 ≤ n) (hR : RC 78 R) {l1 l2 : Int} (hvc : Ci m_N_has 0 n R [vr 36, vi l1] M (fun z1 M1 => (-2147483648 ≤ z1 ∧ z1 < 2147483648) ∧ ((z1 = 0 → P ((-1)) M1) ∧ (¬ z1 = 0 → Ci m_D_isPlace 0 n R [vr 0, vi l2] M1 (fun z3 M2 => (-2147483648 ≤ z3 ∧ z3 < 2147483648) ∧ ((z3 = 0 → P ((-1)) M2) ∧ (¬ z3 = 0 → (0 ≤ l1 ∧ l1 < 16) ∧ (0 ≤ l2 ∧ l2 < 20) ∧ P (M2 (38 + l1.toNat) l2.toNat) M2))))))) : Xi m_D_listed 1 n R P 0 [some (vr 0), some (vi l1), some (vi l2)] [] M := by
  intro Q hQ
  refine x_aload_n (pc := 0) d_D_listed_0 rfl rfl ?_
  refine x_getR (k := 0) (ci := 0) (pc := 1) (t := 36) 6 d_D_listed_1 cok0 rfl (Nat.lt_of_lt_of_le (by decide) hn) rfl (by decide) rfl (hR.at 0 6 rfl rfl) w_332 ?_
  refine x_iload_n (pc := 4) d_D_listed_4 rfl rfl ?_
  refine y_callVi m_N_has 0 180 36 5 4 [_] [] rfl (pc := 5) d_D_listed_5 ok_N_has w_502 w_503 w_504 pn_N_has (Nat.lt_of_lt_of_le (by decide) hn) rfl rfl (by decide) (Nat.le_of_ble_eq_true rfl) (Nat.le_refl _) (Nat.le_refl _) hvc (fun z1 M1 hvc => ?_)
  obtain ⟨h2, hvc⟩ := hvc
  refine x_if_eq (tgt := 33) (pc := 8) d_D_listed_8 rfl h2 (fun hb => ?_) (fun hb => ?_)
  · have hvc := hvc.1 hb
    refine x_iconst (pc := 33) d_D_listed_33 ?_
    exact x_iret (pc := 34) d_D_listed_34 rfl rfl (Nat.le_refl _) (hQ _ _ hvc)
  · have hvc := hvc.2 hb
    refine x_aload_n (pc := 11) d_D_listed_11 rfl rfl ?_
    refine x_iload_n (pc := 12) d_D_listed_12 rfl rfl ?_
    refine y_callVi m_D_isPlace 0 120 0 0 9 [_] [] rfl (pc := 13) d_D_listed_13 ok_D_isPlace w_407 w_409 w_7 pn_D_isPlace (Nat.lt_of_lt_of_le (by decide) hn) rfl rfl (by decide) (Nat.le_of_ble_eq_true rfl) (Nat.le_refl _) (Nat.le_refl _) hvc (fun z3 M2 hvc => ?_)
    obtain ⟨h4, hvc⟩ := hvc
    refine x_if_eq (tgt := 33) (pc := 16) d_D_listed_16 rfl h4 (fun hb => ?_) (fun hb => ?_)
    · have hvc := hvc.1 hb
      refine x_iconst (pc := 33) d_D_listed_33 ?_
      exact x_iret (pc := 34) d_D_listed_34 rfl rfl (Nat.le_refl _) (hQ _ _ hvc)
    · have hvc := hvc.2 hb
      refine x_aload_n (pc := 19) d_D_listed_19 rfl rfl ?_
      refine x_getR (k := 0) (ci := 0) (pc := 20) (t := 36) 6 d_D_listed_20 cok0 rfl (Nat.lt_of_lt_of_le (by decide) hn) rfl (by decide) rfl (hR.at 0 6 rfl rfl) w_332 ?_
      refine x_getRN (k := 36) (ci := 5) (pc := 23) (t := 37) 2 d_D_listed_23 cok5 rfl (Nat.lt_of_lt_of_le (by decide) hn) rfl (by decide) rfl (hR.at 36 2 rfl rfl) w_208 ?_
      refine x_iload_n (pc := 26) d_D_listed_26 rfl rfl ?_
      obtain ⟨h5, hvc⟩ := hvc
      refine x_aald (k := 37) (N := 16) (pc := 27) d_D_listed_27 (Nat.lt_of_lt_of_le (by decide) hn) rfl (by decide) h5.1 h5.2 (hR.row 37 38 16 rfl rfl h5.1 h5.2) ?_
      refine x_iload_n (pc := 28) d_D_listed_28 rfl rfl ?_
      obtain ⟨h6, hvc⟩ := hvc
      refine x_iald (N := 20) (pc := 29) d_D_listed_29 (Nat.lt_of_lt_of_le (rowN_38 (by omega)) hn) (rowS_38 (by omega)) (by decide) h6.1 h6.2 ?_
      refine x_goto (tgt := 34) (pc := 30) d_D_listed_30 rfl ?_
      exact x_iret (pc := 34) d_D_listed_34 rfl rfl (Nat.le_refl _) (hQ _ _ hvc)
set_option maxRecDepth 20000 in
theorem E_D_listed {n : Nat} {R : xR} {M : xM} {P : Int → xM → Prop} (hn : 78 ≤ n) (hR : RC 78 R) {l1 l2 : Int} (h : Xi m_D_listed 1 n R P 0 [some (vr 0), some (vi l1), some (vi l2)] [] M) : Ci m_D_listed 1 n R [vr 0, vi l1, vi l2] M P :=
  Ci.of [some (vr 0), some (vi l1), some (vi l2)] (by decide) rfl (Nat.le_of_ble_eq_true rfl) rfl h
set_option maxRecDepth 20000 in
theorem B_D_distance_0 {n : Nat} {R : xR} {M : xM} {P : Int → xM → Prop} (hn : 78 ≤ n) (hR : RC 78 R) {l1 : Int} (hvc : Ci m_N_has 0 n R [vr 36, vi l1] M (fun z1 M1 => (-2147483648 ≤ z1 ∧ z1 < 2147483648) ∧ ((z1 = 0 → P ((-1)) M1) ∧ (¬ z1 = 0 → (0 ≤ l1 ∧ l1 < 16) ∧ P (M1 54 l1.toNat) M1)))) : Xi m_D_distance 1 n R P 0 [some (vr 0), some (vi l1)] [] M := by
  intro Q hQ
  refine x_aload_n (pc := 0) d_D_distance_0 rfl rfl ?_
  refine x_getR (k := 0) (ci := 0) (pc := 1) (t := 36) 6 d_D_distance_1 cok0 rfl (Nat.lt_of_lt_of_le (by decide) hn) rfl (by decide) rfl (hR.at 0 6 rfl rfl) w_332 ?_
  refine x_iload_n (pc := 4) d_D_distance_4 rfl rfl ?_
  refine y_callVi m_N_has 0 180 36 5 4 [_] [] rfl (pc := 5) d_D_distance_5 ok_N_has w_502 w_503 w_504 pn_N_has (Nat.lt_of_lt_of_le (by decide) hn) rfl rfl (by decide) (Nat.le_of_ble_eq_true rfl) (Nat.le_refl _) (Nat.le_refl _) hvc (fun z1 M1 hvc => ?_)
  obtain ⟨h2, hvc⟩ := hvc
  refine x_if_eq (tgt := 23) (pc := 8) d_D_distance_8 rfl h2 (fun hb => ?_) (fun hb => ?_)
  · have hvc := hvc.1 hb
    refine x_iconst (pc := 23) d_D_distance_23 ?_
    exact x_iret (pc := 24) d_D_distance_24 rfl rfl (Nat.le_refl _) (hQ _ _ hvc)
  · have hvc := hvc.2 hb
    refine x_aload_n (pc := 11) d_D_distance_11 rfl rfl ?_
    refine x_getR (k := 0) (ci := 0) (pc := 12) (t := 36) 6 d_D_distance_12 cok0 rfl (Nat.lt_of_lt_of_le (by decide) hn) rfl (by decide) rfl (hR.at 0 6 rfl rfl) w_332 ?_
    refine x_getRN (k := 36) (ci := 5) (pc := 15) (t := 54) 3 d_D_distance_15 cok5 rfl (Nat.lt_of_lt_of_le (by decide) hn) rfl (by decide) rfl (hR.at 36 3 rfl rfl) w_210 ?_
    refine x_iload_n (pc := 18) d_D_distance_18 rfl rfl ?_
    obtain ⟨h3, hvc⟩ := hvc
    refine x_iald (N := 16) (pc := 19) d_D_distance_19 (Nat.lt_of_lt_of_le (by decide) hn) rfl (by decide) h3.1 h3.2 ?_
    refine x_goto (tgt := 24) (pc := 20) d_D_distance_20 rfl ?_
    exact x_iret (pc := 24) d_D_distance_24 rfl rfl (Nat.le_refl _) (hQ _ _ hvc)
set_option maxRecDepth 20000 in
theorem E_D_distance {n : Nat} {R : xR} {M : xM} {P : Int → xM → Prop} (hn : 78 ≤ n) (hR : RC 78 R) {l1 : Int} (h : Xi m_D_distance 1 n R P 0 [some (vr 0), some (vi l1)] [] M) : Ci m_D_distance 1 n R [vr 0, vi l1] M P :=
  Ci.of [some (vr 0), some (vi l1)] (by decide) rfl (Nat.le_of_ble_eq_true rfl) rfl h
set_option maxRecDepth 20000 in
theorem B_D_radius_0 {n : Nat} {R : xR} {M : xM} {P : Int → xM → Prop} (hn : 78 ≤ n) (hR : RC 78 R) {l1 : Int} (hvc : Ci m_D_isTimes 0 n R [vi l1] M (fun z1 M1 => (-2147483648 ≤ z1 ∧ z1 < 2147483648) ∧ ((¬ z1 = 0 → Ci m_D_isErasedTooMuch 0 n R [vr 0] M1 (fun z3 M2 => (-2147483648 ≤ z3 ∧ z3 < 2147483648) ∧ ((z3 = 0 → Ci m_D_radiusFor 1 n R [vr 0, vi l1] M2 (fun z5 M3 => P z5 M3)) ∧ (¬ z3 = 0 → P ((-3)) M2)))) ∧ (z1 = 0 → P ((-1)) M1)))) : Xi m_D_radius 2 n R P 0 [some (vr 0), some (vi l1)] [] M := by
  intro Q hQ
  refine x_iload_n (pc := 0) d_D_radius_0 rfl rfl ?_
  refine y_callSi m_D_isTimes 0 173 [_] [] rfl (pc := 1) d_D_radius_1 ok_D_isTimes w_484 w_485 pn_D_isTimes (by decide) (Nat.le_of_ble_eq_true rfl) (Nat.le_refl _) (Nat.le_refl _) hvc (fun z1 M1 hvc => ?_)
  obtain ⟨h2, hvc⟩ := hvc
  refine x_if_ne (tgt := 9) (pc := 4) d_D_radius_4 rfl h2 (fun hb => ?_) (fun hb => ?_)
  · have hvc := hvc.1 hb
    refine x_aload_n (pc := 9) d_D_radius_9 rfl rfl ?_
    refine y_callVi m_D_isErasedTooMuch 0 145 0 0 9 [] [] rfl (pc := 10) d_D_radius_10 ok_D_isErasedTooMuch w_432 w_434 w_8 pn_D_isErasedTooMuch (Nat.lt_of_lt_of_le (by decide) hn) rfl rfl (by decide) (Nat.le_of_ble_eq_true rfl) (Nat.le_refl _) (Nat.le_refl _) hvc (fun z3 M2 hvc => ?_)
    obtain ⟨h4, hvc⟩ := hvc
    refine x_if_eq (tgt := 21) (pc := 13) d_D_radius_13 rfl h4 (fun hb => ?_) (fun hb => ?_)
    · have hvc := hvc.1 hb
      refine x_aload_n (pc := 21) d_D_radius_21 rfl rfl ?_
      refine x_iload_n (pc := 22) d_D_radius_22 rfl rfl ?_
      refine y_callVi m_D_radiusFor 1 176 0 0 9 [_] [] rfl (pc := 23) d_D_radius_23 ok_D_radiusFor w_487 w_489 w_13 pn_D_radiusFor (Nat.lt_of_lt_of_le (by decide) hn) rfl rfl (by decide) (Nat.le_of_ble_eq_true rfl) (Nat.le_refl _) (Nat.le_refl _) hvc (fun z5 M3 hvc => ?_)
      exact x_iret (pc := 26) d_D_radius_26 rfl rfl (Nat.le_refl _) (hQ _ _ hvc)
    · have hvc := hvc.2 hb
      refine x_bipush (pc := 16) d_D_radius_16 (by decide) ?_
      refine x_goto (tgt := 26) (pc := 18) d_D_radius_18 rfl ?_
      exact x_iret (pc := 26) d_D_radius_26 rfl rfl (Nat.le_refl _) (hQ _ _ hvc)
  · have hvc := hvc.2 hb
    refine x_iconst (pc := 7) d_D_radius_7 ?_
    exact x_iret (pc := 8) d_D_radius_8 rfl rfl (Nat.le_refl _) (hQ _ _ hvc)
set_option maxRecDepth 20000 in
theorem E_D_radius {n : Nat} {R : xR} {M : xM} {P : Int → xM → Prop} (hn : 78 ≤ n) (hR : RC 78 R) {l1 : Int} (h : Xi m_D_radius 2 n R P 0 [some (vr 0), some (vi l1)] [] M) : Ci m_D_radius 2 n R [vr 0, vi l1] M P :=
  Ci.of [some (vr 0), some (vi l1)] (by decide) rfl (Nat.le_of_ble_eq_true rfl) rfl h
set_option maxRecDepth 20000 in
theorem B_D_weight_0 {n : Nat} {R : xR} {M : xM} {P : Int → xM → Prop} (hn : 78 ≤ n) (hR : RC 78 R) {l1 : Int} (hvc : Ci m_D_isTimes 0 n R [vi l1] M (fun z1 M1 => (-2147483648 ≤ z1 ∧ z1 < 2147483648) ∧ ((¬ z1 = 0 → Ci m_D_isErasedTooMuch 0 n R [vr 0] M1 (fun z3 M2 => (-2147483648 ≤ z3 ∧ z3 < 2147483648) ∧ ((z3 = 0 → Ci m_D_boundFor 0 n R [vr 0, vi l1] M2 (fun z5 M3 => Ci m_P_leastWeight 3 n R [vr 56, vi l1, vi z5] M3 (fun z6 M4 => P z6 M4))) ∧ (¬ z3 = 0 → P ((-3)) M2)))) ∧ (z1 = 0 → P ((-1)) M1)))) : Xi m_D_weight 4 n R P 0 [some (vr 0), some (vi l1)] [] M := by
  intro Q hQ
  refine x_iload_n (pc := 0) d_D_weight_0 rfl rfl ?_
  refine y_callSi m_D_isTimes 0 173 [_] [] rfl (pc := 1) d_D_weight_1 ok_D_isTimes w_484 w_485 pn_D_isTimes (by decide) (Nat.le_of_ble_eq_true rfl) (Nat.le_refl _) (Nat.le_refl _) hvc (fun z1 M1 hvc => ?_)
  obtain ⟨h2, hvc⟩ := hvc
  refine x_if_ne (tgt := 9) (pc := 4) d_D_weight_4 rfl h2 (fun hb => ?_) (fun hb => ?_)
  · have hvc := hvc.1 hb
    refine x_aload_n (pc := 9) d_D_weight_9 rfl rfl ?_
    refine y_callVi m_D_isErasedTooMuch 0 145 0 0 9 [] [] rfl (pc := 10) d_D_weight_10 ok_D_isErasedTooMuch w_432 w_434 w_8 pn_D_isErasedTooMuch (Nat.lt_of_lt_of_le (by decide) hn) rfl rfl (by decide) (Nat.le_of_ble_eq_true rfl) (Nat.le_refl _) (Nat.le_refl _) hvc (fun z3 M2 hvc => ?_)
    obtain ⟨h4, hvc⟩ := hvc
    refine x_if_eq (tgt := 21) (pc := 13) d_D_weight_13 rfl h4 (fun hb => ?_) (fun hb => ?_)
    · have hvc := hvc.1 hb
      refine x_aload_n (pc := 21) d_D_weight_21 rfl rfl ?_
      refine x_getR (k := 0) (ci := 0) (pc := 22) (t := 56) 8 d_D_weight_22 cok0 rfl (Nat.lt_of_lt_of_le (by decide) hn) rfl (by decide) rfl (hR.at 0 8 rfl rfl) w_334 ?_
      refine x_iload_n (pc := 25) d_D_weight_25 rfl rfl ?_
      refine x_aload_n (pc := 26) d_D_weight_26 rfl rfl ?_
      refine x_iload_n (pc := 27) d_D_weight_27 rfl rfl ?_
      refine y_callVi m_D_boundFor 0 181 0 0 9 [_] [_, _] rfl (pc := 28) d_D_weight_28 ok_D_boundFor w_491 w_493 w_14 pn_D_boundFor (Nat.lt_of_lt_of_le (by decide) hn) rfl rfl (by decide) (Nat.le_of_ble_eq_true rfl) (Nat.le_refl _) (Nat.le_refl _) hvc (fun z5 M3 hvc => ?_)
      refine y_callVi m_P_leastWeight 3 184 56 6 11 [_, _] [] rfl (pc := 31) d_D_weight_31 ok_P_leastWeight w_518 w_519 w_520 pn_P_leastWeight (Nat.lt_of_lt_of_le (by decide) hn) rfl rfl (by decide) (Nat.le_of_ble_eq_true rfl) (Nat.le_refl _) (Nat.le_refl _) hvc (fun z6 M4 hvc => ?_)
      exact x_iret (pc := 34) d_D_weight_34 rfl rfl (Nat.le_refl _) (hQ _ _ hvc)
    · have hvc := hvc.2 hb
      refine x_bipush (pc := 16) d_D_weight_16 (by decide) ?_
      refine x_goto (tgt := 34) (pc := 18) d_D_weight_18 rfl ?_
      exact x_iret (pc := 34) d_D_weight_34 rfl rfl (Nat.le_refl _) (hQ _ _ hvc)
  · have hvc := hvc.2 hb
    refine x_iconst (pc := 7) d_D_weight_7 ?_
    exact x_iret (pc := 8) d_D_weight_8 rfl rfl (Nat.le_refl _) (hQ _ _ hvc)
set_option maxRecDepth 20000 in
theorem E_D_weight {n : Nat} {R : xR} {M : xM} {P : Int → xM → Prop} (hn : 78 ≤ n) (hR : RC 78 R) {l1 : Int} (h : Xi m_D_weight 4 n R P 0 [some (vr 0), some (vi l1)] [] M) : Ci m_D_weight 4 n R [vr 0, vi l1] M P :=
  Ci.of [some (vr 0), some (vi l1)] (by decide) rfl (Nat.le_of_ble_eq_true rfl) rfl h
set_option maxRecDepth 20000 in
theorem B_D_beginField_0 {n : Nat} {R : xR} {M : xM} {P : xM → Prop} (hn : 78 ≤ n) (hR : RC 78 R) {l1 : Int} (hvc : Cv m_F_begin 2 n R [vr 1, vi l1] M (fun M1 => (-2147483648 ≤ (M1 1 1) - 1 ∧ (M1 1 1) - 1 < 2147483648) ∧ Cv m_D_beginCode 4 n R [vr 0, vi 0, vi (if 20 < ((M1 1 1) - 1) then 20 else (M1 1 1) - 1), vi 2] M1 (fun M2 => P M2))) : Xv m_D_beginField 5 n R P 0 [some (vr 0), some (vi l1)] [] M := by
  intro Q hQ
  refine x_aload_n (pc := 0) d_D_beginField_0 rfl rfl ?_
  refine x_getR (k := 0) (ci := 0) (pc := 1) (t := 1) 0 d_D_beginField_1 cok0 rfl (Nat.lt_of_lt_of_le (by decide) hn) rfl (by decide) rfl (hR.at 0 0 rfl rfl) w_326 ?_
  refine x_iload_n (pc := 4) d_D_beginField_4 rfl rfl ?_
  refine y_callVv m_F_begin 2 187 1 1 5 [_] [] rfl (pc := 5) d_D_beginField_5 ok_F_begin w_265 w_266 w_267 pn_F_begin (Nat.lt_of_lt_of_le (by decide) hn) rfl rfl (by decide) (Nat.le_of_ble_eq_true rfl) (Nat.le_refl _) (Nat.le_refl _) hvc (fun M1 hvc => ?_)
  refine x_aload_n (pc := 8) d_D_beginField_8 rfl rfl ?_
  refine x_iconst (pc := 9) d_D_beginField_9 ?_
  refine x_aload_n (pc := 10) d_D_beginField_10 rfl rfl ?_
  refine x_getR (k := 0) (ci := 0) (pc := 11) (t := 1) 0 d_D_beginField_11 cok0 rfl (Nat.lt_of_lt_of_le (by decide) hn) rfl (by decide) rfl (hR.at 0 0 rfl rfl) w_326 ?_
  refine x_getIN (k := 1) (ci := 1) (pc := 14) 1 d_D_beginField_14 cok1 rfl (Nat.lt_of_lt_of_le (by decide) hn) rfl (by decide) rfl w_71 ?_
  refine x_iconst (pc := 17) d_D_beginField_17 ?_
  refine x_isub (pc := 18) d_D_beginField_18 ?_
  refine x_bipush (pc := 19) d_D_beginField_19 (by decide) ?_
  obtain ⟨h1, hvc⟩ := hvc
  refine x_min 190 (pc := 21) d_D_beginField_21 w_275 w_276 w_49 w_277 (by decide) (Nat.le_of_ble_eq_true rfl) (Nat.le_refl _) (Nat.le_refl _) h1 ⟨by decide, by decide⟩ ?_
  refine x_iconst (pc := 24) d_D_beginField_24 ?_
  refine y_callVv m_D_beginCode 4 95 0 0 9 [_, _, _] [] rfl (pc := 25) d_D_beginField_25 ok_D_beginCode w_278 w_280 w_1 pn_D_beginCode (Nat.lt_of_lt_of_le (by decide) hn) rfl rfl (by decide) (Nat.le_of_ble_eq_true rfl) (Nat.le_refl _) (Nat.le_refl _) hvc (fun M2 hvc => ?_)
  exact x_vret (pc := 28) d_D_beginField_28 rfl rfl (Nat.le_refl _) (hQ _ hvc)
set_option maxRecDepth 20000 in
theorem E_D_beginField {n : Nat} {R : xR} {M : xM} {P : xM → Prop} (hn : 78 ≤ n) (hR : RC 78 R) {l1 : Int} (h : Xv m_D_beginField 5 n R P 0 [some (vr 0), some (vi l1)] [] M) : Cv m_D_beginField 5 n R [vr 0, vi l1] M P :=
  Cv.of [some (vr 0), some (vi l1)] (by decide) rfl (Nat.le_of_ble_eq_true rfl) rfl h
set_option maxRecDepth 20000 in
theorem B_D_beginCode_0 {n : Nat} {R : xR} {M : xM} {P : xM → Prop} (hn : 78 ≤ n) (hR : RC 78 R) {l1 l2 l3 : Int} (hvc : Cv m_C_begin 3 n R [vr 5, vi l1, vi l2, vi l3] M (fun M1 => Xv m_D_beginCode 4 n R P 13 [some (vr 0), some (vi l1), some (vi l2), some (vi l3), some (vi 0)] [] M1)) : Xv m_D_beginCode 4 n R P 0 [some (vr 0), some (vi l1), some (vi l2), some (vi l3), none] [] M := by
  intro Q hQ
  refine x_aload_n (pc := 0) d_D_beginCode_0 rfl rfl ?_
  refine x_getR (k := 0) (ci := 0) (pc := 1) (t := 5) 1 d_D_beginCode_1 cok0 rfl (Nat.lt_of_lt_of_le (by decide) hn) rfl (by decide) rfl (hR.at 0 1 rfl rfl) w_327 ?_
  refine x_iload_n (pc := 4) d_D_beginCode_4 rfl rfl ?_
  refine x_iload_n (pc := 5) d_D_beginCode_5 rfl rfl ?_
  refine x_iload_n (pc := 6) d_D_beginCode_6 rfl rfl ?_
  refine y_callVv m_C_begin 3 195 5 2 11 [_, _, _] [] rfl (pc := 7) d_D_beginCode_7 ok_C_begin w_282 w_283 w_284 pn_C_begin (Nat.lt_of_lt_of_le (by decide) hn) rfl rfl (by decide) (Nat.le_of_ble_eq_true rfl) (Nat.le_refl _) (Nat.le_refl _) hvc (fun M1 hvc => ?_)
  refine x_iconst (pc := 10) d_D_beginCode_10 ?_
  refine x_istore (pc := 11) d_D_beginCode_11 (by decide) ?_
  exact x_locals (xmask [true, true, true, true, true] _) (xmask_sub _ _) (hvc Q hQ)
set_option maxRecDepth 20000 in
theorem B_D_beginCode_13 {n : Nat} {R : xR} {M : xM} {P : xM → Prop} (hn : 78 ≤ n) (hR : RC 78 R) {l1 l2 l3 l4 : Int} (hvc : (-2147483648 ≤ l4 ∧ l4 < 2147483648) ∧ ((4 ≤ l4 → Cv m_W_begin 0 n R [vr 26, vi l2] M (fun M1 => (∀ M2 : xM, M2 = xU M1 32 1 0 → (∀ M3 : xM, M3 = xU M2 36 1 0 → P M3)))) ∧ (¬ 4 ≤ l4 → (0 ≤ l4 ∧ l4 < 4) ∧ (∀ M4 : xM, M4 = xU M 25 l4.toNat 0 → Xv m_D_beginCode 4 n R P 13 [some (vr 0), some (vi l1), some (vi l2), some (vi l3), some (vi (l4 + 1))] [] M4)))) : Xv m_D_beginCode 4 n R P 13 [some (vr 0), some (vi l1), some (vi l2), some (vi l3), some (vi l4)] [] M := by
  intro Q hQ
  refine x_iload (pc := 13) d_D_beginCode_13 rfl ?_
  refine x_iconst (pc := 15) d_D_beginCode_15 ?_
  obtain ⟨h1, hvc⟩ := hvc
  refine x_icmp_ge (tgt := 33) (pc := 16) d_D_beginCode_16 rfl h1 ⟨by decide, by decide⟩ (fun hb => ?_) (fun hb => ?_)
  · have hvc := hvc.1 hb
    refine x_aload_n (pc := 33) d_D_beginCode_33 rfl rfl ?_
    refine x_getR (k := 0) (ci := 0) (pc := 34) (t := 26) 3 d_D_beginCode_34 cok0 rfl (Nat.lt_of_lt_of_le (by decide) hn) rfl (by decide) rfl (hR.at 0 3 rfl rfl) w_329 ?_
    refine x_iload_n (pc := 37) d_D_beginCode_37 rfl rfl ?_
    refine y_callVv m_W_begin 0 197 26 3 3 [_] [] rfl (pc := 38) d_D_beginCode_38 ok_W_begin w_322 w_323 w_324 pn_W_begin (Nat.lt_of_lt_of_le (by decide) hn) rfl rfl (by decide) (Nat.le_of_ble_eq_true rfl) (Nat.le_refl _) (Nat.le_refl _) hvc (fun M1 hvc => ?_)
    refine x_aload_n (pc := 41) d_D_beginCode_41 rfl rfl ?_
    refine x_getR (k := 0) (ci := 0) (pc := 42) (t := 32) 5 d_D_beginCode_42 cok0 rfl (Nat.lt_of_lt_of_le (by decide) hn) rfl (by decide) rfl (hR.at 0 5 rfl rfl) w_331 ?_
    refine x_iconst (pc := 45) d_D_beginCode_45 ?_
    refine x_putIN (k := 32) (ci := 5) (pc := 46) 1 d_D_beginCode_46 cok5 rfl (Nat.lt_of_lt_of_le (by decide) hn) rfl (by decide) rfl rfl rfl w_206 (fun M2 eM2 => ?_)
    have hvc := hvc M2 eM2
    refine x_aload_n (pc := 49) d_D_beginCode_49 rfl rfl ?_
    refine x_getR (k := 0) (ci := 0) (pc := 50) (t := 36) 6 d_D_beginCode_50 cok0 rfl (Nat.lt_of_lt_of_le (by decide) hn) rfl (by decide) rfl (hR.at 0 6 rfl rfl) w_332 ?_
    refine x_iconst (pc := 53) d_D_beginCode_53 ?_
    refine x_putIN (k := 36) (ci := 5) (pc := 54) 1 d_D_beginCode_54 cok5 rfl (Nat.lt_of_lt_of_le (by decide) hn) rfl (by decide) rfl rfl rfl w_206 (fun M3 eM3 => ?_)
    have hvc := hvc M3 eM3
    exact x_vret (pc := 57) d_D_beginCode_57 rfl rfl (Nat.le_refl _) (hQ _ hvc)
  · have hvc := hvc.2 hb
    refine x_aload_n (pc := 19) d_D_beginCode_19 rfl rfl ?_
    refine x_getR (k := 0) (ci := 0) (pc := 20) (t := 25) 2 d_D_beginCode_20 cok0 rfl (Nat.lt_of_lt_of_le (by decide) hn) rfl (by decide) rfl (hR.at 0 2 rfl rfl) w_328 ?_
    refine x_iload (pc := 23) d_D_beginCode_23 rfl ?_
    refine x_iconst (pc := 25) d_D_beginCode_25 ?_
    obtain ⟨h2, hvc⟩ := hvc
    refine x_iast (N := 4) (pc := 26) d_D_beginCode_26 (Nat.lt_of_lt_of_le (by decide) hn) rfl (by decide) h2.1 h2.2 (fun M4 eM4 => ?_)
    have hvc := hvc M4 eM4
    refine x_iinc (pc := 27) d_D_beginCode_27 rfl (by decide) ?_
    refine x_goto (tgt := 13) (pc := 30) d_D_beginCode_30 rfl ?_
    exact x_locals (xmask [true, true, true, true, true] _) (xmask_sub _ _) (hvc Q hQ)
set_option maxRecDepth 20000 in
theorem E_D_beginCode {n : Nat} {R : xR} {M : xM} {P : xM → Prop} (hn : 78 ≤ n) (hR : RC 78 R) {l1 l2 l3 : Int} (h : Xv m_D_beginCode 4 n R P 0 [some (vr 0), some (vi l1), some (vi l2), some (vi l3), none] [] M) : Cv m_D_beginCode 4 n R [vr 0, vi l1, vi l2, vi l3] M P :=
  Cv.of [some (vr 0), some (vi l1), some (vi l2), some (vi l3), none] (by decide) rfl (Nat.le_of_ble_eq_true rfl) rfl h
set_option maxRecDepth 20000 in
theorem B_D_isPlace_0 {n : Nat} {R : xR} {M : xM} {P : Int → xM → Prop} (hn : 78 ≤ n) (hR : RC 78 R) {l1 : Int} (hvc : (-2147483648 ≤ l1 ∧ l1 < 2147483648) ∧ ((l1 < 0 → P 0 M) ∧ (¬ l1 < 0 → (-2147483648 ≤ M 5 2 ∧ M 5 2 < 2147483648) ∧ (((M 5 2) ≤ l1 → P 0 M) ∧ (¬ (M 5 2) ≤ l1 → P 1 M))))) : Xi m_D_isPlace 0 n R P 0 [some (vr 0), some (vi l1)] [] M := by
  intro Q hQ
  refine x_iload_n (pc := 0) d_D_isPlace_0 rfl rfl ?_
  obtain ⟨h1, hvc⟩ := hvc
  refine x_if_lt (tgt := 19) (pc := 1) d_D_isPlace_1 rfl h1 (fun hb => ?_) (fun hb => ?_)
  · have hvc := hvc.1 hb
    refine x_iconst (pc := 19) d_D_isPlace_19 ?_
    exact x_zret (pc := 20) d_D_isPlace_20 rfl (by decide) rfl (Nat.le_refl _) (hQ _ _ hvc)
  · have hvc := hvc.2 hb
    refine x_iload_n (pc := 4) d_D_isPlace_4 rfl rfl ?_
    refine x_aload_n (pc := 5) d_D_isPlace_5 rfl rfl ?_
    refine x_getR (k := 0) (ci := 0) (pc := 6) (t := 5) 1 d_D_isPlace_6 cok0 rfl (Nat.lt_of_lt_of_le (by decide) hn) rfl (by decide) rfl (hR.at 0 1 rfl rfl) w_327 ?_
    refine x_getIN (k := 5) (ci := 2) (pc := 9) 2 d_D_isPlace_9 cok2 rfl (Nat.lt_of_lt_of_le (by decide) hn) rfl (by decide) rfl w_103 ?_
    obtain ⟨h2, hvc⟩ := hvc
    refine x_icmp_ge (tgt := 19) (pc := 12) d_D_isPlace_12 rfl h1 h2 (fun hb => ?_) (fun hb => ?_)
    · have hvc := hvc.1 hb
      refine x_iconst (pc := 19) d_D_isPlace_19 ?_
      exact x_zret (pc := 20) d_D_isPlace_20 rfl (by decide) rfl (Nat.le_refl _) (hQ _ _ hvc)
    · have hvc := hvc.2 hb
      refine x_iconst (pc := 15) d_D_isPlace_15 ?_
      refine x_goto (tgt := 20) (pc := 16) d_D_isPlace_16 rfl ?_
      exact x_zret (pc := 20) d_D_isPlace_20 rfl (by decide) rfl (Nat.le_refl _) (hQ _ _ hvc)
set_option maxRecDepth 20000 in
theorem E_D_isPlace {n : Nat} {R : xR} {M : xM} {P : Int → xM → Prop} (hn : 78 ≤ n) (hR : RC 78 R) {l1 : Int} (h : Xi m_D_isPlace 0 n R P 0 [some (vr 0), some (vi l1)] [] M) : Ci m_D_isPlace 0 n R [vr 0, vi l1] M P :=
  Ci.of [some (vr 0), some (vi l1)] (by decide) rfl (Nat.le_of_ble_eq_true rfl) rfl h
set_option maxRecDepth 20000 in
theorem B_D_isInMessage_0 {n : Nat} {R : xR} {M : xM} {P : Int → xM → Prop} (hn : 78 ≤ n) (hR : RC 78 R) {l1 : Int} (hvc : (-2147483648 ≤ l1 ∧ l1 < 2147483648) ∧ ((l1 < 0 → P 0 M) ∧ (¬ l1 < 0 → (-2147483648 ≤ M 5 3 ∧ M 5 3 < 2147483648) ∧ (((M 5 3) ≤ l1 → P 0 M) ∧ (¬ (M 5 3) ≤ l1 → P 1 M))))) : Xi m_D_isInMessage 0 n R P 0 [some (vr 0), some (vi l1)] [] M := by
  intro Q hQ
  refine x_iload_n (pc := 0) d_D_isInMessage_0 rfl rfl ?_
  obtain ⟨h1, hvc⟩ := hvc
  refine x_if_lt (tgt := 19) (pc := 1) d_D_isInMessage_1 rfl h1 (fun hb => ?_) (fun hb => ?_)
  · have hvc := hvc.1 hb
    refine x_iconst (pc := 19) d_D_isInMessage_19 ?_
    exact x_zret (pc := 20) d_D_isInMessage_20 rfl (by decide) rfl (Nat.le_refl _) (hQ _ _ hvc)
  · have hvc := hvc.2 hb
    refine x_iload_n (pc := 4) d_D_isInMessage_4 rfl rfl ?_
    refine x_aload_n (pc := 5) d_D_isInMessage_5 rfl rfl ?_
    refine x_getR (k := 0) (ci := 0) (pc := 6) (t := 5) 1 d_D_isInMessage_6 cok0 rfl (Nat.lt_of_lt_of_le (by decide) hn) rfl (by decide) rfl (hR.at 0 1 rfl rfl) w_327 ?_
    refine x_getIN (k := 5) (ci := 2) (pc := 9) 3 d_D_isInMessage_9 cok2 rfl (Nat.lt_of_lt_of_le (by decide) hn) rfl (by decide) rfl w_107 ?_
    obtain ⟨h2, hvc⟩ := hvc
    refine x_icmp_ge (tgt := 19) (pc := 12) d_D_isInMessage_12 rfl h1 h2 (fun hb => ?_) (fun hb => ?_)
    · have hvc := hvc.1 hb
      refine x_iconst (pc := 19) d_D_isInMessage_19 ?_
      exact x_zret (pc := 20) d_D_isInMessage_20 rfl (by decide) rfl (Nat.le_refl _) (hQ _ _ hvc)
    · have hvc := hvc.2 hb
      refine x_iconst (pc := 15) d_D_isInMessage_15 ?_
      refine x_goto (tgt := 20) (pc := 16) d_D_isInMessage_16 rfl ?_
      exact x_zret (pc := 20) d_D_isInMessage_20 rfl (by decide) rfl (Nat.le_refl _) (hQ _ _ hvc)
set_option maxRecDepth 20000 in
theorem E_D_isInMessage {n : Nat} {R : xR} {M : xM} {P : Int → xM → Prop} (hn : 78 ≤ n) (hR : RC 78 R) {l1 : Int} (h : Xi m_D_isInMessage 0 n R P 0 [some (vr 0), some (vi l1)] [] M) : Ci m_D_isInMessage 0 n R [vr 0, vi l1] M P :=
  Ci.of [some (vr 0), some (vi l1)] (by decide) rfl (Nat.le_of_ble_eq_true rfl) rfl h
set_option maxRecDepth 20000 in
theorem B_D_isTimes_0 {n : Nat} {R : xR} {M : xM} {P : Int → xM → Prop} (hn : 78 ≤ n) (hR : RC 78 R) {l0 : Int} (hvc : (-2147483648 ≤ l0 ∧ l0 < 2147483648) ∧ ((l0 < 1 → P 0 M) ∧ (¬ l0 < 1 → ((3 < l0 → P 0 M) ∧ (¬ 3 < l0 → P 1 M))))) : Xi m_D_isTimes 0 n R P 0 [some (vi l0)] [] M := by
  intro Q hQ
  refine x_iload_n (pc := 0) d_D_isTimes_0 rfl rfl ?_
  refine x_iconst (pc := 1) d_D_isTimes_1 ?_
  obtain ⟨h1, hvc⟩ := hvc
  refine x_icmp_lt (tgt := 14) (pc := 2) d_D_isTimes_2 rfl h1 ⟨by decide, by decide⟩ (fun hb => ?_) (fun hb => ?_)
  · have hvc := hvc.1 hb
    refine x_iconst (pc := 14) d_D_isTimes_14 ?_
    exact x_zret (pc := 15) d_D_isTimes_15 rfl (by decide) rfl (Nat.le_refl _) (hQ _ _ hvc)
  · have hvc := hvc.2 hb
    refine x_iload_n (pc := 5) d_D_isTimes_5 rfl rfl ?_
    refine x_iconst (pc := 6) d_D_isTimes_6 ?_
    refine x_icmp_gt (tgt := 14) (pc := 7) d_D_isTimes_7 rfl h1 ⟨by decide, by decide⟩ (fun hb => ?_) (fun hb => ?_)
    · have hvc := hvc.1 hb
      refine x_iconst (pc := 14) d_D_isTimes_14 ?_
      exact x_zret (pc := 15) d_D_isTimes_15 rfl (by decide) rfl (Nat.le_refl _) (hQ _ _ hvc)
    · have hvc := hvc.2 hb
      refine x_iconst (pc := 10) d_D_isTimes_10 ?_
      refine x_goto (tgt := 15) (pc := 11) d_D_isTimes_11 rfl ?_
      exact x_zret (pc := 15) d_D_isTimes_15 rfl (by decide) rfl (Nat.le_refl _) (hQ _ _ hvc)
set_option maxRecDepth 20000 in
theorem E_D_isTimes {n : Nat} {R : xR} {M : xM} {P : Int → xM → Prop} (hn : 78 ≤ n) (hR : RC 78 R) {l0 : Int} (h : Xi m_D_isTimes 0 n R P 0 [some (vi l0)] [] M) : Ci m_D_isTimes 0 n R [vi l0] M P :=
  Ci.of [some (vi l0)] (by decide) rfl (Nat.le_of_ble_eq_true rfl) rfl h
set_option maxRecDepth 20000 in
theorem B_D_isErasedTooMuch_0 {n : Nat} {R : xR} {M : xM} {P : Int → xM → Prop} (hn : 78 ≤ n) (hR : RC 78 R) (hvc : (-2147483648 ≤ M 26 0 ∧ M 26 0 < 2147483648) ∧ (-2147483648 ≤ M 5 3 ∧ M 5 3 < 2147483648) ∧ (((M 5 3) ≤ (M 26 0) → P 0 M) ∧ (¬ (M 5 3) ≤ (M 26 0) → P 1 M))) : Xi m_D_isErasedTooMuch 0 n R P 0 [some (vr 0)] [] M := by
  intro Q hQ
  refine x_aload_n (pc := 0) d_D_isErasedTooMuch_0 rfl rfl ?_
  refine x_getR (k := 0) (ci := 0) (pc := 1) (t := 26) 3 d_D_isErasedTooMuch_1 cok0 rfl (Nat.lt_of_lt_of_le (by decide) hn) rfl (by decide) rfl (hR.at 0 3 rfl rfl) w_329 ?_
  refine x_getIN (k := 26) (ci := 3) (pc := 4) 0 d_D_isErasedTooMuch_4 cok3 rfl (Nat.lt_of_lt_of_le (by decide) hn) rfl (by decide) rfl w_154 ?_
  refine x_aload_n (pc := 7) d_D_isErasedTooMuch_7 rfl rfl ?_
  refine x_getR (k := 0) (ci := 0) (pc := 8) (t := 5) 1 d_D_isErasedTooMuch_8 cok0 rfl (Nat.lt_of_lt_of_le (by decide) hn) rfl (by decide) rfl (hR.at 0 1 rfl rfl) w_327 ?_
  refine x_getIN (k := 5) (ci := 2) (pc := 11) 3 d_D_isErasedTooMuch_11 cok2 rfl (Nat.lt_of_lt_of_le (by decide) hn) rfl (by decide) rfl w_107 ?_
  obtain ⟨h1, hvc⟩ := hvc
  obtain ⟨h2, hvc⟩ := hvc
  refine x_icmp_ge (tgt := 21) (pc := 14) d_D_isErasedTooMuch_14 rfl h1 h2 (fun hb => ?_) (fun hb => ?_)
  · have hvc := hvc.1 hb
    refine x_iconst (pc := 21) d_D_isErasedTooMuch_21 ?_
    exact x_zret (pc := 22) d_D_isErasedTooMuch_22 rfl (by decide) rfl (Nat.le_refl _) (hQ _ _ hvc)
  · have hvc := hvc.2 hb
    refine x_iconst (pc := 17) d_D_isErasedTooMuch_17 ?_
    refine x_goto (tgt := 22) (pc := 18) d_D_isErasedTooMuch_18 rfl ?_
    exact x_zret (pc := 22) d_D_isErasedTooMuch_22 rfl (by decide) rfl (Nat.le_refl _) (hQ _ _ hvc)
set_option maxRecDepth 20000 in
theorem E_D_isErasedTooMuch {n : Nat} {R : xR} {M : xM} {P : Int → xM → Prop} (hn : 78 ≤ n) (hR : RC 78 R) (h : Xi m_D_isErasedTooMuch 0 n R P 0 [some (vr 0)] [] M) : Ci m_D_isErasedTooMuch 0 n R [vr 0] M P :=
  Ci.of [some (vr 0)] (by decide) rfl (Nat.le_of_ble_eq_true rfl) rfl h
set_option maxRecDepth 20000 in
theorem B_D_half_0 {n : Nat} {R : xR} {M : xM} {P : Int → xM → Prop} (hn : 78 ≤ n) (hR : RC 78 R) (hvc : (-2147483648 ≤ (M 26 0) - (M 5 3) ∧ (M 26 0) - (M 5 3) < 2147483648) ∧ P (Int.tdiv ((M 26 0) - (M 5 3)) 2) M) : Xi m_D_half 0 n R P 0 [some (vr 0)] [] M := by
  intro Q hQ
  refine x_aload_n (pc := 0) d_D_half_0 rfl rfl ?_
  refine x_getR (k := 0) (ci := 0) (pc := 1) (t := 26) 3 d_D_half_1 cok0 rfl (Nat.lt_of_lt_of_le (by decide) hn) rfl (by decide) rfl (hR.at 0 3 rfl rfl) w_329 ?_
  refine x_getIN (k := 26) (ci := 3) (pc := 4) 0 d_D_half_4 cok3 rfl (Nat.lt_of_lt_of_le (by decide) hn) rfl (by decide) rfl w_154 ?_
  refine x_aload_n (pc := 7) d_D_half_7 rfl rfl ?_
  refine x_getR (k := 0) (ci := 0) (pc := 8) (t := 5) 1 d_D_half_8 cok0 rfl (Nat.lt_of_lt_of_le (by decide) hn) rfl (by decide) rfl (hR.at 0 1 rfl rfl) w_327 ?_
  refine x_getIN (k := 5) (ci := 2) (pc := 11) 3 d_D_half_11 cok2 rfl (Nat.lt_of_lt_of_le (by decide) hn) rfl (by decide) rfl w_107 ?_
  refine x_isub (pc := 14) d_D_half_14 ?_
  refine x_iconst (pc := 15) d_D_half_15 ?_
  obtain ⟨h1, hvc⟩ := hvc
  refine x_idiv (pc := 16) d_D_half_16 h1 ⟨by decide, by decide⟩ (by decide) (by decide) ?_
  exact x_iret (pc := 17) d_D_half_17 rfl rfl (Nat.le_refl _) (hQ _ _ hvc)
set_option maxRecDepth 20000 in
theorem E_D_half {n : Nat} {R : xR} {M : xM} {P : Int → xM → Prop} (hn : 78 ≤ n) (hR : RC 78 R) (h : Xi m_D_half 0 n R P 0 [some (vr 0)] [] M) : Ci m_D_half 0 n R [vr 0] M P :=
  Ci.of [some (vr 0)] (by decide) rfl (Nat.le_of_ble_eq_true rfl) rfl h
set_option maxRecDepth 20000 in
theorem B_D_boundFor_0 {n : Nat} {R : xR} {M : xM} {P : Int → xM → Prop} (hn : 78 ≤ n) (hR : RC 78 R) {l1 : Int} (hvc : (-2147483648 ≤ ((M 26 0) * l1) * (l1 + 1) ∧ ((M 26 0) * l1) * (l1 + 1) < 2147483648) ∧ Xi m_D_boundFor 0 n R P 21 [some (vr 0), some (vi l1), some (vi (Int.tdiv (((M 26 0) * l1) * (l1 + 1)) 2)), some (vi 0), some (vi 0)] [] M) : Xi m_D_boundFor 0 n R P 0 [some (vr 0), some (vi l1), none, none, none] [] M := by
  intro Q hQ
  refine x_aload_n (pc := 0) d_D_boundFor_0 rfl rfl ?_
  refine x_getR (k := 0) (ci := 0) (pc := 1) (t := 26) 3 d_D_boundFor_1 cok0 rfl (Nat.lt_of_lt_of_le (by decide) hn) rfl (by decide) rfl (hR.at 0 3 rfl rfl) w_329 ?_
  refine x_getIN (k := 26) (ci := 3) (pc := 4) 0 d_D_boundFor_4 cok3 rfl (Nat.lt_of_lt_of_le (by decide) hn) rfl (by decide) rfl w_154 ?_
  refine x_iload_n (pc := 7) d_D_boundFor_7 rfl rfl ?_
  refine x_imul (pc := 8) d_D_boundFor_8 ?_
  refine x_iload_n (pc := 9) d_D_boundFor_9 rfl rfl ?_
  refine x_iconst (pc := 10) d_D_boundFor_10 ?_
  refine x_iadd (pc := 11) d_D_boundFor_11 ?_
  refine x_imul (pc := 12) d_D_boundFor_12 ?_
  refine x_iconst (pc := 13) d_D_boundFor_13 ?_
  obtain ⟨h1, hvc⟩ := hvc
  refine x_idiv (pc := 14) d_D_boundFor_14 h1 ⟨by decide, by decide⟩ (by decide) (by decide) ?_
  refine x_istore_n (pc := 15) d_D_boundFor_15 rfl (by decide) ?_
  refine x_iconst (pc := 16) d_D_boundFor_16 ?_
  refine x_istore_n (pc := 17) d_D_boundFor_17 rfl (by decide) ?_
  refine x_iconst (pc := 18) d_D_boundFor_18 ?_
  refine x_istore (pc := 19) d_D_boundFor_19 (by decide) ?_
  exact x_locals (xmask [true, true, true, true, true] _) (xmask_sub _ _) (hvc Q hQ)
set_option maxRecDepth 20000 in
theorem B_D_boundFor_21 {n : Nat} {R : xR} {M : xM} {P : Int → xM → Prop} (hn : 78 ≤ n) (hR : RC 78 R) {l1 l2 l3 l4 : Int} (hvc : (-2147483648 ≤ l4 ∧ l4 < 2147483648) ∧ (-2147483648 ≤ l2 ∧ l2 < 2147483648) ∧ ((l2 ≤ l4 → P l2 M) ∧ (¬ l2 ≤ l4 → (-2147483648 ≤ (M 5 3) - 1 ∧ (M 5 3) - 1 < 2147483648) ∧ ((M 5 3) - 1 ≠ 0) ∧ ((M 5 3) - 1 ≠ -1) ∧ (-2147483648 ≤ l3 + ((Int.tdiv l4 ((M 5 3) - 1)) + 1) ∧ l3 + ((Int.tdiv l4 ((M 5 3) - 1)) + 1) < 2147483648) ∧ (((l3 + ((Int.tdiv l4 ((M 5 3) - 1)) + 1)) ≤ l2 → Xi m_D_boundFor 0 n R P 21 [some (vr 0), some (vi l1), some (vi l2), some (vi (l3 + ((Int.tdiv l4 ((M 5 3) - 1)) + 1))), some (vi (l4 + 1))] [] M) ∧ (¬ (l3 + ((Int.tdiv l4 ((M 5 3) - 1)) + 1)) ≤ l2 → P l4 M))))) : Xi m_D_boundFor 0 n R P 21 [some (vr 0), some (vi l1), some (vi l2), some (vi l3), some (vi l4)] [] M := by
  intro Q hQ
  refine x_iload (pc := 21) d_D_boundFor_21 rfl ?_
  refine x_iload_n (pc := 23) d_D_boundFor_23 rfl rfl ?_
  obtain ⟨h1, hvc⟩ := hvc
  obtain ⟨h2, hvc⟩ := hvc
  refine x_icmp_ge (tgt := 58) (pc := 24) d_D_boundFor_24 rfl h1 h2 (fun hb => ?_) (fun hb => ?_)
  · have hvc := hvc.1 hb
    refine x_iload_n (pc := 58) d_D_boundFor_58 rfl rfl ?_
    exact x_iret (pc := 59) d_D_boundFor_59 rfl rfl (Nat.le_refl _) (hQ _ _ hvc)
  · have hvc := hvc.2 hb
    refine x_iload_n (pc := 27) d_D_boundFor_27 rfl rfl ?_
    refine x_iload (pc := 28) d_D_boundFor_28 rfl ?_
    refine x_aload_n (pc := 30) d_D_boundFor_30 rfl rfl ?_
    refine x_getR (k := 0) (ci := 0) (pc := 31) (t := 5) 1 d_D_boundFor_31 cok0 rfl (Nat.lt_of_lt_of_le (by decide) hn) rfl (by decide) rfl (hR.at 0 1 rfl rfl) w_327 ?_
    refine x_getIN (k := 5) (ci := 2) (pc := 34) 3 d_D_boundFor_34 cok2 rfl (Nat.lt_of_lt_of_le (by decide) hn) rfl (by decide) rfl w_107 ?_
    refine x_iconst (pc := 37) d_D_boundFor_37 ?_
    refine x_isub (pc := 38) d_D_boundFor_38 ?_
    obtain ⟨h3, hvc⟩ := hvc
    obtain ⟨h4, hvc⟩ := hvc
    obtain ⟨h5, hvc⟩ := hvc
    refine x_idiv (pc := 39) d_D_boundFor_39 h1 h3 h4 h5 ?_
    refine x_iconst (pc := 40) d_D_boundFor_40 ?_
    refine x_iadd (pc := 41) d_D_boundFor_41 ?_
    refine x_iadd (pc := 42) d_D_boundFor_42 ?_
    refine x_istore_n (pc := 43) d_D_boundFor_43 rfl (by decide) ?_
    refine x_iload_n (pc := 44) d_D_boundFor_44 rfl rfl ?_
    refine x_iload_n (pc := 45) d_D_boundFor_45 rfl rfl ?_
    obtain ⟨h6, hvc⟩ := hvc
    refine x_icmp_le (tgt := 52) (pc := 46) d_D_boundFor_46 rfl h6 h2 (fun hb => ?_) (fun hb => ?_)
    · have hvc := hvc.1 hb
      refine x_iinc (pc := 52) d_D_boundFor_52 rfl (by decide) ?_
      refine x_goto (tgt := 21) (pc := 55) d_D_boundFor_55 rfl ?_
      exact x_locals (xmask [true, true, true, true, true] _) (xmask_sub _ _) (hvc Q hQ)
    · have hvc := hvc.2 hb
      refine x_iload (pc := 49) d_D_boundFor_49 rfl ?_
      exact x_iret (pc := 51) d_D_boundFor_51 rfl rfl (Nat.le_refl _) (hQ _ _ hvc)
set_option maxRecDepth 20000 in
theorem E_D_boundFor {n : Nat} {R : xR} {M : xM} {P : Int → xM → Prop} (hn : 78 ≤ n) (hR : RC 78 R) {l1 : Int} (h : Xi m_D_boundFor 0 n R P 0 [some (vr 0), some (vi l1), none, none, none] [] M) : Ci m_D_boundFor 0 n R [vr 0, vi l1] M P :=
  Ci.of [some (vr 0), some (vi l1), none, none, none] (by decide) rfl (Nat.le_of_ble_eq_true rfl) rfl h
set_option maxRecDepth 20000 in
theorem B_D_radiusFor_0 {n : Nat} {R : xR} {M : xM} {P : Int → xM → Prop} (hn : 78 ≤ n) (hR : RC 78 R) {l1 : Int} (hvc : Ci m_D_half 0 n R [vr 0] M (fun z1 M1 => Ci m_D_boundFor 0 n R [vr 0, vi l1] M1 (fun z2 M2 => (-2147483648 ≤ z2 ∧ z2 < 2147483648) ∧ (-2147483648 ≤ l1 ∧ l1 < 2147483648) ∧ (l1 ≠ 0) ∧ (l1 ≠ -1) ∧ (-2147483648 ≤ z1 ∧ z1 < 2147483648) ∧ (-2147483648 ≤ ((M1 26 0) - 1) - (Int.tdiv z2 l1) ∧ ((M1 26 0) - 1) - (Int.tdiv z2 l1) < 2147483648) ∧ P (if z1 < (((M1 26 0) - 1) - (Int.tdiv z2 l1)) then ((M1 26 0) - 1) - (Int.tdiv z2 l1) else z1) M2))) : Xi m_D_radiusFor 1 n R P 0 [some (vr 0), some (vi l1)] [] M := by
  intro Q hQ
  refine x_aload_n (pc := 0) d_D_radiusFor_0 rfl rfl ?_
  refine y_callVi m_D_half 0 149 0 0 9 [] [] rfl (pc := 1) d_D_radiusFor_1 ok_D_half w_436 w_438 w_9 pn_D_half (Nat.lt_of_lt_of_le (by decide) hn) rfl rfl (by decide) (Nat.le_of_ble_eq_true rfl) (Nat.le_refl _) (Nat.le_refl _) hvc (fun z1 M1 hvc => ?_)
  refine x_aload_n (pc := 4) d_D_radiusFor_4 rfl rfl ?_
  refine x_getR (k := 0) (ci := 0) (pc := 5) (t := 26) 3 d_D_radiusFor_5 cok0 rfl (Nat.lt_of_lt_of_le (by decide) hn) rfl (by decide) rfl (hR.at 0 3 rfl rfl) w_329 ?_
  refine x_getIN (k := 26) (ci := 3) (pc := 8) 0 d_D_radiusFor_8 cok3 rfl (Nat.lt_of_lt_of_le (by decide) hn) rfl (by decide) rfl w_154 ?_
  refine x_iconst (pc := 11) d_D_radiusFor_11 ?_
  refine x_isub (pc := 12) d_D_radiusFor_12 ?_
  refine x_aload_n (pc := 13) d_D_radiusFor_13 rfl rfl ?_
  refine x_iload_n (pc := 14) d_D_radiusFor_14 rfl rfl ?_
  refine y_callVi m_D_boundFor 0 181 0 0 9 [_] [_, _] rfl (pc := 15) d_D_radiusFor_15 ok_D_boundFor w_491 w_493 w_14 pn_D_boundFor (Nat.lt_of_lt_of_le (by decide) hn) rfl rfl (by decide) (Nat.le_of_ble_eq_true rfl) (Nat.le_refl _) (Nat.le_refl _) hvc (fun z2 M2 hvc => ?_)
  refine x_iload_n (pc := 18) d_D_radiusFor_18 rfl rfl ?_
  obtain ⟨h3, hvc⟩ := hvc
  obtain ⟨h4, hvc⟩ := hvc
  obtain ⟨h5, hvc⟩ := hvc
  obtain ⟨h6, hvc⟩ := hvc
  refine x_idiv (pc := 19) d_D_radiusFor_19 h3 h4 h5 h6 ?_
  refine x_isub (pc := 20) d_D_radiusFor_20 ?_
  obtain ⟨h7, hvc⟩ := hvc
  obtain ⟨h8, hvc⟩ := hvc
  refine x_max 201 (pc := 21) d_D_radiusFor_21 w_495 w_496 w_49 w_497 (by decide) (Nat.le_of_ble_eq_true rfl) (Nat.le_refl _) (Nat.le_refl _) h7 h8 ?_
  exact x_iret (pc := 24) d_D_radiusFor_24 rfl rfl (Nat.le_refl _) (hQ _ _ hvc)
set_option maxRecDepth 20000 in
theorem E_D_radiusFor {n : Nat} {R : xR} {M : xM} {P : Int → xM → Prop} (hn : 78 ≤ n) (hR : RC 78 R) {l1 : Int} (h : Xi m_D_radiusFor 1 n R P 0 [some (vr 0), some (vi l1)] [] M) : Ci m_D_radiusFor 1 n R [vr 0, vi l1] M P :=
  Ci.of [some (vr 0), some (vi l1)] (by decide) rfl (Nat.le_of_ble_eq_true rfl) rfl h
set_option maxRecDepth 20000 in
theorem B_D_locateWrongPlaces_0 {n : Nat} {R : xR} {M : xM} {P : xM → Prop} (hn : 78 ≤ n) (hR : RC 78 R) (hvc : Xv m_D_locateWrongPlaces 1 n R P 2 [some (vr 0), some (vi 0), none] [] M) : Xv m_D_locateWrongPlaces 1 n R P 0 [some (vr 0), none, none] [] M := by
  intro Q hQ
  refine x_iconst (pc := 0) d_D_locateWrongPlaces_0 ?_
  refine x_istore_n (pc := 1) d_D_locateWrongPlaces_1 rfl (by decide) ?_
  exact x_locals (xmask [true, true, false] _) (xmask_sub _ _) (hvc Q hQ)
set_option maxRecDepth 20000 in
theorem B_D_locateWrongPlaces_2 {n : Nat} {R : xR} {M : xM} {P : xM → Prop} (hn : 78 ≤ n) (hR : RC 78 R) {l1 : Int} (hvc : (-2147483648 ≤ l1 ∧ l1 < 2147483648) ∧ ((20 ≤ l1 → (∀ M1 : xM, M1 = xU M 55 0 1 → Xv m_D_locateWrongPlaces 1 n R P 30 [some (vr 0), some (vi 0), none] [] M1)) ∧ (¬ 20 ≤ l1 → (0 ≤ l1 ∧ l1 < 20) ∧ (∀ M2 : xM, M2 = xU M 55 l1.toNat 0 → Xv m_D_locateWrongPlaces 1 n R P 2 [some (vr 0), some (vi (l1 + 1)), none] [] M2)))) : Xv m_D_locateWrongPlaces 1 n R P 2 [some (vr 0), some (vi l1), none] [] M := by
  intro Q hQ
  refine x_iload_n (pc := 2) d_D_locateWrongPlaces_2 rfl rfl ?_
  refine x_bipush (pc := 3) d_D_locateWrongPlaces_3 (by decide) ?_
  obtain ⟨h1, hvc⟩ := hvc
  refine x_icmp_ge (tgt := 21) (pc := 5) d_D_locateWrongPlaces_5 rfl h1 ⟨by decide, by decide⟩ (fun hb => ?_) (fun hb => ?_)
  · have hvc := hvc.1 hb
    refine x_aload_n (pc := 21) d_D_locateWrongPlaces_21 rfl rfl ?_
    refine x_getR (k := 0) (ci := 0) (pc := 22) (t := 55) 7 d_D_locateWrongPlaces_22 cok0 rfl (Nat.lt_of_lt_of_le (by decide) hn) rfl (by decide) rfl (hR.at 0 7 rfl rfl) w_333 ?_
    refine x_iconst (pc := 25) d_D_locateWrongPlaces_25 ?_
    refine x_iconst (pc := 26) d_D_locateWrongPlaces_26 ?_
    refine x_iast (N := 20) (pc := 27) d_D_locateWrongPlaces_27 (Nat.lt_of_lt_of_le (by decide) hn) rfl (by decide) (by decide) (by decide) (fun M1 eM1 => ?_)
    have hvc := hvc M1 eM1
    refine x_iconst (pc := 28) d_D_locateWrongPlaces_28 ?_
    refine x_istore_n (pc := 29) d_D_locateWrongPlaces_29 rfl (by decide) ?_
    exact x_locals (xmask [true, true, false] _) (xmask_sub _ _) (hvc Q hQ)
  · have hvc := hvc.2 hb
    refine x_aload_n (pc := 8) d_D_locateWrongPlaces_8 rfl rfl ?_
    refine x_getR (k := 0) (ci := 0) (pc := 9) (t := 55) 7 d_D_locateWrongPlaces_9 cok0 rfl (Nat.lt_of_lt_of_le (by decide) hn) rfl (by decide) rfl (hR.at 0 7 rfl rfl) w_333 ?_
    refine x_iload_n (pc := 12) d_D_locateWrongPlaces_12 rfl rfl ?_
    refine x_iconst (pc := 13) d_D_locateWrongPlaces_13 ?_
    obtain ⟨h2, hvc⟩ := hvc
    refine x_iast (N := 20) (pc := 14) d_D_locateWrongPlaces_14 (Nat.lt_of_lt_of_le (by decide) hn) rfl (by decide) h2.1 h2.2 (fun M2 eM2 => ?_)
    have hvc := hvc M2 eM2
    refine x_iinc (pc := 15) d_D_locateWrongPlaces_15 rfl (by decide) ?_
    refine x_goto (tgt := 2) (pc := 18) d_D_locateWrongPlaces_18 rfl ?_
    exact x_locals (xmask [true, true, false] _) (xmask_sub _ _) (hvc Q hQ)
set_option maxRecDepth 20000 in
theorem B_D_locateWrongPlaces_30 {n : Nat} {R : xR} {M : xM} {P : xM → Prop} (hn : 78 ≤ n) (hR : RC 78 R) {l1 : Int} (hvc : (-2147483648 ≤ l1 ∧ l1 < 2147483648) ∧ (-2147483648 ≤ M 5 2 ∧ M 5 2 < 2147483648) ∧ (((M 5 2) ≤ l1 → P M) ∧ (¬ (M 5 2) ≤ l1 → (0 ≤ l1 ∧ l1 < 20) ∧ (-2147483648 ≤ M 28 l1.toNat ∧ M 28 l1.toNat < 2147483648) ∧ ((¬ (M 28 l1.toNat) = 0 → Xv m_D_locateWrongPlaces 1 n R P 30 [some (vr 0), some (vi (l1 + 1)), none] [] M) ∧ ((M 28 l1.toNat) = 0 → (-2147483648 ≤ M 27 l1.toNat ∧ M 27 l1.toNat < 2147483648) ∧ (-2147483648 ≤ M 34 l1.toNat ∧ M 34 l1.toNat < 2147483648) ∧ (((M 27 l1.toNat) = (M 34 l1.toNat) → Xv m_D_locateWrongPlaces 1 n R P 30 [some (vr 0), some (vi (l1 + 1)), none] [] M) ∧ (¬ (M 27 l1.toNat) = (M 34 l1.toNat) → Xv m_D_locateWrongPlaces 1 n R P 79 [some (vr 0), some (vi l1), some (vi 19)] [] M))))))) : Xv m_D_locateWrongPlaces 1 n R P 30 [some (vr 0), some (vi l1), none] [] M := by
  intro Q hQ
  refine x_iload_n (pc := 30) d_D_locateWrongPlaces_30 rfl rfl ?_
  refine x_aload_n (pc := 31) d_D_locateWrongPlaces_31 rfl rfl ?_
  refine x_getR (k := 0) (ci := 0) (pc := 32) (t := 5) 1 d_D_locateWrongPlaces_32 cok0 rfl (Nat.lt_of_lt_of_le (by decide) hn) rfl (by decide) rfl (hR.at 0 1 rfl rfl) w_327 ?_
  refine x_getIN (k := 5) (ci := 2) (pc := 35) 2 d_D_locateWrongPlaces_35 cok2 rfl (Nat.lt_of_lt_of_le (by decide) hn) rfl (by decide) rfl w_103 ?_
  obtain ⟨h1, hvc⟩ := hvc
  obtain ⟨h2, hvc⟩ := hvc
  refine x_icmp_ge (tgt := 128) (pc := 38) d_D_locateWrongPlaces_38 rfl h1 h2 (fun hb => ?_) (fun hb => ?_)
  · have hvc := hvc.1 hb
    exact x_vret (pc := 128) d_D_locateWrongPlaces_128 rfl rfl (Nat.le_refl _) (hQ _ hvc)
  · have hvc := hvc.2 hb
    refine x_aload_n (pc := 41) d_D_locateWrongPlaces_41 rfl rfl ?_
    refine x_getR (k := 0) (ci := 0) (pc := 42) (t := 26) 3 d_D_locateWrongPlaces_42 cok0 rfl (Nat.lt_of_lt_of_le (by decide) hn) rfl (by decide) rfl (hR.at 0 3 rfl rfl) w_329 ?_
    refine x_getRN (k := 26) (ci := 3) (pc := 45) (t := 28) 2 d_D_locateWrongPlaces_45 cok3 rfl (Nat.lt_of_lt_of_le (by decide) hn) rfl (by decide) rfl (hR.at 26 2 rfl rfl) w_162 ?_
    refine x_iload_n (pc := 48) d_D_locateWrongPlaces_48 rfl rfl ?_
    obtain ⟨h3, hvc⟩ := hvc
    refine x_zald (N := 20) (pc := 49) d_D_locateWrongPlaces_49 (Nat.lt_of_lt_of_le (by decide) hn) rfl (by decide) h3.1 h3.2 ?_
    obtain ⟨h4, hvc⟩ := hvc
    refine x_if_ne (tgt := 122) (pc := 50) d_D_locateWrongPlaces_50 rfl h4 (fun hb => ?_) (fun hb => ?_)
    · have hvc := hvc.1 hb
      refine x_iinc (pc := 122) d_D_locateWrongPlaces_122 rfl (by decide) ?_
      refine x_goto (tgt := 30) (pc := 125) d_D_locateWrongPlaces_125 rfl ?_
      exact x_locals (xmask [true, true, false] _) (xmask_sub _ _) (hvc Q hQ)
    · have hvc := hvc.2 hb
      refine x_aload_n (pc := 53) d_D_locateWrongPlaces_53 rfl rfl ?_
      refine x_getR (k := 0) (ci := 0) (pc := 54) (t := 26) 3 d_D_locateWrongPlaces_54 cok0 rfl (Nat.lt_of_lt_of_le (by decide) hn) rfl (by decide) rfl (hR.at 0 3 rfl rfl) w_329 ?_
      refine x_getRN (k := 26) (ci := 3) (pc := 57) (t := 27) 1 d_D_locateWrongPlaces_57 cok3 rfl (Nat.lt_of_lt_of_le (by decide) hn) rfl (by decide) rfl (hR.at 26 1 rfl rfl) w_158 ?_
      refine x_iload_n (pc := 60) d_D_locateWrongPlaces_60 rfl rfl ?_
      refine x_iald (N := 20) (pc := 61) d_D_locateWrongPlaces_61 (Nat.lt_of_lt_of_le (by decide) hn) rfl (by decide) h3.1 h3.2 ?_
      refine x_aload_n (pc := 62) d_D_locateWrongPlaces_62 rfl rfl ?_
      refine x_getR (k := 0) (ci := 0) (pc := 63) (t := 32) 5 d_D_locateWrongPlaces_63 cok0 rfl (Nat.lt_of_lt_of_le (by decide) hn) rfl (by decide) rfl (hR.at 0 5 rfl rfl) w_331 ?_
      refine x_getRN (k := 32) (ci := 5) (pc := 66) (t := 33) 2 d_D_locateWrongPlaces_66 cok5 rfl (Nat.lt_of_lt_of_le (by decide) hn) rfl (by decide) rfl (hR.at 32 2 rfl rfl) w_208 ?_
      refine x_iconst (pc := 69) d_D_locateWrongPlaces_69 ?_
      refine x_aald (k := 33) (N := 1) (pc := 70) d_D_locateWrongPlaces_70 (Nat.lt_of_lt_of_le (by decide) hn) rfl (by decide) (by decide) (by decide) (hR.row 33 34 1 rfl rfl (by decide) (by decide)) ?_
      refine x_iload_n (pc := 71) d_D_locateWrongPlaces_71 rfl rfl ?_
      refine x_iald (N := 20) (pc := 72) d_D_locateWrongPlaces_72 (Nat.lt_of_lt_of_le (by decide) hn) rfl (by decide) h3.1 h3.2 ?_
      obtain ⟨h5, hvc⟩ := hvc
      obtain ⟨h6, hvc⟩ := hvc
      refine x_icmp_eq (tgt := 122) (pc := 73) d_D_locateWrongPlaces_73 rfl h5 h6 (fun hb => ?_) (fun hb => ?_)
      · have hvc := hvc.1 hb
        refine x_iinc (pc := 122) d_D_locateWrongPlaces_122 rfl (by decide) ?_
        refine x_goto (tgt := 30) (pc := 125) d_D_locateWrongPlaces_125 rfl ?_
        exact x_locals (xmask [true, true, false] _) (xmask_sub _ _) (hvc Q hQ)
      · have hvc := hvc.2 hb
        refine x_bipush (pc := 76) d_D_locateWrongPlaces_76 (by decide) ?_
        refine x_istore_n (pc := 78) d_D_locateWrongPlaces_78 rfl (by decide) ?_
        exact x_locals (xmask [true, true, true] _) (xmask_sub _ _) (hvc Q hQ)
set_option maxRecDepth 20000 in
theorem B_D_locateWrongPlaces_79 {n : Nat} {R : xR} {M : xM} {P : xM → Prop} (hn : 78 ≤ n) (hR : RC 78 R) {l1 l2 : Int} (hvc : (-2147483648 ≤ l2 ∧ l2 < 2147483648) ∧ ((l2 ≤ 0 → Xv m_D_locateWrongPlaces 1 n R P 30 [some (vr 0), some (vi (l1 + 1)), none] [] M) ∧ (¬ l2 ≤ 0 → (0 ≤ l2 ∧ l2 < 20) ∧ (0 ≤ l1 ∧ l1 < 20) ∧ (0 ≤ l2 - 1 ∧ l2 - 1 < 20) ∧ Ci m_F_product 0 n R [vr 1, vi (M 6 l1.toNat), vi (M 55 (l2 - 1).toNat)] M (fun z5 M1 => (∀ M2 : xM, M2 = xU M1 55 l2.toNat (xXor (M 55 l2.toNat) z5) → Xv m_D_locateWrongPlaces 1 n R P 79 [some (vr 0), some (vi l1), some (vi (l2 + (-1)))] [] M2))))) : Xv m_D_locateWrongPlaces 1 n R P 79 [some (vr 0), some (vi l1), some (vi l2)] [] M := by
  intro Q hQ
  refine x_iload_n (pc := 79) d_D_locateWrongPlaces_79 rfl rfl ?_
  obtain ⟨h1, hvc⟩ := hvc
  refine x_if_le (tgt := 122) (pc := 80) d_D_locateWrongPlaces_80 rfl h1 (fun hb => ?_) (fun hb => ?_)
  · have hvc := hvc.1 hb
    refine x_iinc (pc := 122) d_D_locateWrongPlaces_122 rfl (by decide) ?_
    refine x_goto (tgt := 30) (pc := 125) d_D_locateWrongPlaces_125 rfl ?_
    exact x_locals (xmask [true, true, false] _) (xmask_sub _ _) (hvc Q hQ)
  · have hvc := hvc.2 hb
    refine x_aload_n (pc := 83) d_D_locateWrongPlaces_83 rfl rfl ?_
    refine x_getR (k := 0) (ci := 0) (pc := 84) (t := 55) 7 d_D_locateWrongPlaces_84 cok0 rfl (Nat.lt_of_lt_of_le (by decide) hn) rfl (by decide) rfl (hR.at 0 7 rfl rfl) w_333 ?_
    refine x_iload_n (pc := 87) d_D_locateWrongPlaces_87 rfl rfl ?_
    refine x_dup2 (pc := 88) d_D_locateWrongPlaces_88 ?_
    obtain ⟨h2, hvc⟩ := hvc
    refine x_iald (N := 20) (pc := 89) d_D_locateWrongPlaces_89 (Nat.lt_of_lt_of_le (by decide) hn) rfl (by decide) h2.1 h2.2 ?_
    refine x_aload_n (pc := 90) d_D_locateWrongPlaces_90 rfl rfl ?_
    refine x_getR (k := 0) (ci := 0) (pc := 91) (t := 1) 0 d_D_locateWrongPlaces_91 cok0 rfl (Nat.lt_of_lt_of_le (by decide) hn) rfl (by decide) rfl (hR.at 0 0 rfl rfl) w_326 ?_
    refine x_aload_n (pc := 94) d_D_locateWrongPlaces_94 rfl rfl ?_
    refine x_getR (k := 0) (ci := 0) (pc := 95) (t := 5) 1 d_D_locateWrongPlaces_95 cok0 rfl (Nat.lt_of_lt_of_le (by decide) hn) rfl (by decide) rfl (hR.at 0 1 rfl rfl) w_327 ?_
    refine x_getRN (k := 5) (ci := 2) (pc := 98) (t := 6) 4 d_D_locateWrongPlaces_98 cok2 rfl (Nat.lt_of_lt_of_le (by decide) hn) rfl (by decide) rfl (hR.at 5 4 rfl rfl) w_110 ?_
    refine x_iload_n (pc := 101) d_D_locateWrongPlaces_101 rfl rfl ?_
    obtain ⟨h3, hvc⟩ := hvc
    refine x_iald (N := 20) (pc := 102) d_D_locateWrongPlaces_102 (Nat.lt_of_lt_of_le (by decide) hn) rfl (by decide) h3.1 h3.2 ?_
    refine x_aload_n (pc := 103) d_D_locateWrongPlaces_103 rfl rfl ?_
    refine x_getR (k := 0) (ci := 0) (pc := 104) (t := 55) 7 d_D_locateWrongPlaces_104 cok0 rfl (Nat.lt_of_lt_of_le (by decide) hn) rfl (by decide) rfl (hR.at 0 7 rfl rfl) w_333 ?_
    refine x_iload_n (pc := 107) d_D_locateWrongPlaces_107 rfl rfl ?_
    refine x_iconst (pc := 108) d_D_locateWrongPlaces_108 ?_
    refine x_isub (pc := 109) d_D_locateWrongPlaces_109 ?_
    obtain ⟨h4, hvc⟩ := hvc
    refine x_iald (N := 20) (pc := 110) d_D_locateWrongPlaces_110 (Nat.lt_of_lt_of_le (by decide) hn) rfl (by decide) h4.1 h4.2 ?_
    refine y_callVi m_F_product 0 82 1 1 5 [_, _] [_, _, _] rfl (pc := 111) d_D_locateWrongPlaces_111 ok_F_product w_369 w_291 w_292 pn_F_product (Nat.lt_of_lt_of_le (by decide) hn) rfl rfl (by decide) (Nat.le_of_ble_eq_true rfl) (Nat.le_refl _) (Nat.le_refl _) hvc (fun z5 M1 hvc => ?_)
    refine x_ixor (pc := 114) d_D_locateWrongPlaces_114 ?_
    refine x_iast (N := 20) (pc := 115) d_D_locateWrongPlaces_115 (Nat.lt_of_lt_of_le (by decide) hn) rfl (by decide) h2.1 h2.2 (fun M2 eM2 => ?_)
    have hvc := hvc M2 eM2
    refine x_iinc (pc := 116) d_D_locateWrongPlaces_116 rfl (by decide) ?_
    refine x_goto (tgt := 79) (pc := 119) d_D_locateWrongPlaces_119 rfl ?_
    exact x_locals (xmask [true, true, true] _) (xmask_sub _ _) (hvc Q hQ)
set_option maxRecDepth 20000 in
theorem E_D_locateWrongPlaces {n : Nat} {R : xR} {M : xM} {P : xM → Prop} (hn : 78 ≤ n) (hR : RC 78 R) (h : Xv m_D_locateWrongPlaces 1 n R P 0 [some (vr 0), none, none] [] M) : Cv m_D_locateWrongPlaces 1 n R [vr 0] M P :=
  Cv.of [some (vr 0), none, none] (by decide) rfl (Nat.le_of_ble_eq_true rfl) rfl h
