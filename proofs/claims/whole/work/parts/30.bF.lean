set_option maxRecDepth 20000 in
theorem B_F_degreeOf_0 {n : Nat} {R : xR} {M : xM} {P : Int → xM → Prop} (hn : 78 ≤ n) (hR : RC 78 R) {l0 : Int} (hvc : (-2147483648 ≤ l0 ∧ l0 < 2147483648) ∧ ((16 ≤ l0 → ((32 ≤ l0 → P 5 M) ∧ (¬ 32 ≤ l0 → P 4 M))) ∧ (¬ 16 ≤ l0 → P 3 M))) : Xi m_F_degreeOf 0 n R P 0 [some (vi l0)] [] M := by
  intro Q hQ
  refine x_iload_n (pc := 0) d_F_degreeOf_0 rfl rfl ?_
  refine x_bipush (pc := 1) d_F_degreeOf_1 (by decide) ?_
  obtain ⟨h1, hvc⟩ := hvc
  refine x_icmp_ge (tgt := 10) (pc := 3) d_F_degreeOf_3 rfl h1 ⟨by decide, by decide⟩ (fun hb => ?_) (fun hb => ?_)
  · have hvc := hvc.1 hb
    refine x_iload_n (pc := 10) d_F_degreeOf_10 rfl rfl ?_
    refine x_bipush (pc := 11) d_F_degreeOf_11 (by decide) ?_
    refine x_icmp_ge (tgt := 20) (pc := 13) d_F_degreeOf_13 rfl h1 ⟨by decide, by decide⟩ (fun hb => ?_) (fun hb => ?_)
    · have hvc := hvc.1 hb
      refine x_iconst (pc := 20) d_F_degreeOf_20 ?_
      exact x_iret (pc := 21) d_F_degreeOf_21 rfl rfl (Nat.le_refl _) (hQ _ _ hvc)
    · have hvc := hvc.2 hb
      refine x_iconst (pc := 16) d_F_degreeOf_16 ?_
      refine x_goto (tgt := 21) (pc := 17) d_F_degreeOf_17 rfl ?_
      exact x_iret (pc := 21) d_F_degreeOf_21 rfl rfl (Nat.le_refl _) (hQ _ _ hvc)
  · have hvc := hvc.2 hb
    refine x_iconst (pc := 6) d_F_degreeOf_6 ?_
    refine x_goto (tgt := 21) (pc := 7) d_F_degreeOf_7 rfl ?_
    exact x_iret (pc := 21) d_F_degreeOf_21 rfl rfl (Nat.le_refl _) (hQ _ _ hvc)
set_option maxRecDepth 20000 in
theorem E_F_degreeOf {n : Nat} {R : xR} {M : xM} {P : Int → xM → Prop} (hn : 78 ≤ n) (hR : RC 78 R) {l0 : Int} (h : Xi m_F_degreeOf 0 n R P 0 [some (vi l0)] [] M) : Ci m_F_degreeOf 0 n R [vi l0] M P :=
  Ci.of [some (vi l0)] (by decide) rfl (Nat.le_of_ble_eq_true rfl) rfl h
set_option maxRecDepth 20000 in
theorem B_F_timesX_0 {n : Nat} {R : xR} {M : xM} {P : Int → xM → Prop} (hn : 78 ≤ n) (hR : RC 78 R) {l0 l1 : Int} (hvc : Ci m_F_degreeOf 0 n R [vi l1] M (fun z1 M1 => (-2147483648 ≤ xShr (xShl l0 1) z1 ∧ xShr (xShl l0 1) z1 < 2147483648) ∧ ((¬ (xShr (xShl l0 1) z1) = 0 → P (xXor (xShl l0 1) l1) M1) ∧ ((xShr (xShl l0 1) z1) = 0 → P (xShl l0 1) M1)))) : Xi m_F_timesX 1 n R P 0 [some (vi l0), some (vi l1), none] [] M := by
  intro Q hQ
  refine x_iload_n (pc := 0) d_F_timesX_0 rfl rfl ?_
  refine x_iconst (pc := 1) d_F_timesX_1 ?_
  refine x_ishl (pc := 2) d_F_timesX_2 ?_
  refine x_istore_n (pc := 3) d_F_timesX_3 rfl (by decide) ?_
  refine x_iload_n (pc := 4) d_F_timesX_4 rfl rfl ?_
  refine x_iload_n (pc := 5) d_F_timesX_5 rfl rfl ?_
  refine y_callSi m_F_degreeOf 0 21 [_] [_] rfl (pc := 6) d_F_timesX_6 ok_F_degreeOf w_269 w_270 pn_F_degreeOf (by decide) (Nat.le_of_ble_eq_true rfl) (Nat.le_refl _) (Nat.le_refl _) hvc (fun z1 M1 hvc => ?_)
  refine x_ishr (pc := 9) d_F_timesX_9 ?_
  obtain ⟨h2, hvc⟩ := hvc
  refine x_if_ne (tgt := 17) (pc := 10) d_F_timesX_10 rfl h2 (fun hb => ?_) (fun hb => ?_)
  · have hvc := hvc.1 hb
    refine x_iload_n (pc := 17) d_F_timesX_17 rfl rfl ?_
    refine x_iload_n (pc := 18) d_F_timesX_18 rfl rfl ?_
    refine x_ixor (pc := 19) d_F_timesX_19 ?_
    exact x_iret (pc := 20) d_F_timesX_20 rfl rfl (Nat.le_refl _) (hQ _ _ hvc)
  · have hvc := hvc.2 hb
    refine x_iload_n (pc := 13) d_F_timesX_13 rfl rfl ?_
    refine x_goto (tgt := 20) (pc := 14) d_F_timesX_14 rfl ?_
    exact x_iret (pc := 20) d_F_timesX_20 rfl rfl (Nat.le_refl _) (hQ _ _ hvc)
set_option maxRecDepth 20000 in
theorem E_F_timesX {n : Nat} {R : xR} {M : xM} {P : Int → xM → Prop} (hn : 78 ≤ n) (hR : RC 78 R) {l0 l1 : Int} (h : Xi m_F_timesX 1 n R P 0 [some (vi l0), some (vi l1), none] [] M) : Ci m_F_timesX 1 n R [vi l0, vi l1] M P :=
  Ci.of [some (vi l0), some (vi l1), none] (by decide) rfl (Nat.le_of_ble_eq_true rfl) rfl h
set_option maxRecDepth 20000 in
theorem B_F_isPrimitive_0 {n : Nat} {R : xR} {M : xM} {P : Int → xM → Prop} (hn : 78 ≤ n) (hR : RC 78 R) {l0 : Int} (hvc : Ci m_F_degreeOf 0 n R [vi l0] M (fun z1 M1 => Xi m_F_isPrimitive 2 n R P 13 [some (vi l0), some (vi ((xShl 1 z1) - 1)), some (vi 1), some (vi 1)] [] M1)) : Xi m_F_isPrimitive 2 n R P 0 [some (vi l0), none, none, none] [] M := by
  intro Q hQ
  refine x_iconst (pc := 0) d_F_isPrimitive_0 ?_
  refine x_iload_n (pc := 1) d_F_isPrimitive_1 rfl rfl ?_
  refine y_callSi m_F_degreeOf 0 21 [_] [_] rfl (pc := 2) d_F_isPrimitive_2 ok_F_degreeOf w_269 w_270 pn_F_degreeOf (by decide) (Nat.le_of_ble_eq_true rfl) (Nat.le_refl _) (Nat.le_refl _) hvc (fun z1 M1 hvc => ?_)
  refine x_ishl (pc := 5) d_F_isPrimitive_5 ?_
  refine x_iconst (pc := 6) d_F_isPrimitive_6 ?_
  refine x_isub (pc := 7) d_F_isPrimitive_7 ?_
  refine x_istore_n (pc := 8) d_F_isPrimitive_8 rfl (by decide) ?_
  refine x_iconst (pc := 9) d_F_isPrimitive_9 ?_
  refine x_istore_n (pc := 10) d_F_isPrimitive_10 rfl (by decide) ?_
  refine x_iconst (pc := 11) d_F_isPrimitive_11 ?_
  refine x_istore_n (pc := 12) d_F_isPrimitive_12 rfl (by decide) ?_
  exact x_locals (xmask [true, true, true, true] _) (xmask_sub _ _) (hvc Q hQ)
set_option maxRecDepth 20000 in
theorem B_F_isPrimitive_13 {n : Nat} {R : xR} {M : xM} {P : Int → xM → Prop} (hn : 78 ≤ n) (hR : RC 78 R) {l0 l1 l2 l3 : Int} (hvc : (-2147483648 ≤ l3 ∧ l3 < 2147483648) ∧ (-2147483648 ≤ l1 ∧ l1 < 2147483648) ∧ ((l1 ≤ l3 → Ci m_F_timesX 1 n R [vi l2, vi l0] M (fun z3 M1 => (-2147483648 ≤ z3 ∧ z3 < 2147483648) ∧ ((¬ z3 = 1 → P 0 M1) ∧ (z3 = 1 → P 1 M1)))) ∧ (¬ l1 ≤ l3 → Ci m_F_timesX 1 n R [vi l2, vi l0] M (fun z5 M2 => (-2147483648 ≤ z5 ∧ z5 < 2147483648) ∧ ((¬ z5 = 1 → Xi m_F_isPrimitive 2 n R P 13 [some (vi l0), some (vi l1), some (vi z5), some (vi (l3 + 1))] [] M2) ∧ (z5 = 1 → P 0 M2)))))) : Xi m_F_isPrimitive 2 n R P 13 [some (vi l0), some (vi l1), some (vi l2), some (vi l3)] [] M := by
  intro Q hQ
  refine x_iload_n (pc := 13) d_F_isPrimitive_13 rfl rfl ?_
  refine x_iload_n (pc := 14) d_F_isPrimitive_14 rfl rfl ?_
  obtain ⟨h1, hvc⟩ := hvc
  obtain ⟨h2, hvc⟩ := hvc
  refine x_icmp_ge (tgt := 37) (pc := 15) d_F_isPrimitive_15 rfl h1 h2 (fun hb => ?_) (fun hb => ?_)
  · have hvc := hvc.1 hb
    refine x_iload_n (pc := 37) d_F_isPrimitive_37 rfl rfl ?_
    refine x_iload_n (pc := 38) d_F_isPrimitive_38 rfl rfl ?_
    refine y_callSi m_F_timesX 1 25 [_, _] [] rfl (pc := 39) d_F_isPrimitive_39 ok_F_timesX w_272 w_273 pn_F_timesX (by decide) (Nat.le_of_ble_eq_true rfl) (Nat.le_refl _) (Nat.le_refl _) hvc (fun z3 M1 hvc => ?_)
    refine x_iconst (pc := 42) d_F_isPrimitive_42 ?_
    obtain ⟨h4, hvc⟩ := hvc
    refine x_icmp_ne (tgt := 50) (pc := 43) d_F_isPrimitive_43 rfl h4 ⟨by decide, by decide⟩ (fun hb => ?_) (fun hb => ?_)
    · have hvc := hvc.1 hb
      refine x_iconst (pc := 50) d_F_isPrimitive_50 ?_
      exact x_zret (pc := 51) d_F_isPrimitive_51 rfl (by decide) rfl (Nat.le_refl _) (hQ _ _ hvc)
    · have hvc := hvc.2 hb
      refine x_iconst (pc := 46) d_F_isPrimitive_46 ?_
      refine x_goto (tgt := 51) (pc := 47) d_F_isPrimitive_47 rfl ?_
      exact x_zret (pc := 51) d_F_isPrimitive_51 rfl (by decide) rfl (Nat.le_refl _) (hQ _ _ hvc)
  · have hvc := hvc.2 hb
    refine x_iload_n (pc := 18) d_F_isPrimitive_18 rfl rfl ?_
    refine x_iload_n (pc := 19) d_F_isPrimitive_19 rfl rfl ?_
    refine y_callSi m_F_timesX 1 25 [_, _] [] rfl (pc := 20) d_F_isPrimitive_20 ok_F_timesX w_272 w_273 pn_F_timesX (by decide) (Nat.le_of_ble_eq_true rfl) (Nat.le_refl _) (Nat.le_refl _) hvc (fun z5 M2 hvc => ?_)
    refine x_istore_n (pc := 23) d_F_isPrimitive_23 rfl (by decide) ?_
    refine x_iload_n (pc := 24) d_F_isPrimitive_24 rfl rfl ?_
    refine x_iconst (pc := 25) d_F_isPrimitive_25 ?_
    obtain ⟨h6, hvc⟩ := hvc
    refine x_icmp_ne (tgt := 31) (pc := 26) d_F_isPrimitive_26 rfl h6 ⟨by decide, by decide⟩ (fun hb => ?_) (fun hb => ?_)
    · have hvc := hvc.1 hb
      refine x_iinc (pc := 31) d_F_isPrimitive_31 rfl (by decide) ?_
      refine x_goto (tgt := 13) (pc := 34) d_F_isPrimitive_34 rfl ?_
      exact x_locals (xmask [true, true, true, true] _) (xmask_sub _ _) (hvc Q hQ)
    · have hvc := hvc.2 hb
      refine x_iconst (pc := 29) d_F_isPrimitive_29 ?_
      exact x_zret (pc := 30) d_F_isPrimitive_30 rfl (by decide) rfl (Nat.le_refl _) (hQ _ _ hvc)
set_option maxRecDepth 20000 in
theorem E_F_isPrimitive {n : Nat} {R : xR} {M : xM} {P : Int → xM → Prop} (hn : 78 ≤ n) (hR : RC 78 R) {l0 : Int} (h : Xi m_F_isPrimitive 2 n R P 0 [some (vi l0), none, none, none] [] M) : Ci m_F_isPrimitive 2 n R [vi l0] M P :=
  Ci.of [some (vi l0), none, none, none] (by decide) rfl (Nat.le_of_ble_eq_true rfl) rfl h
set_option maxRecDepth 20000 in
theorem B_F_begin_0 {n : Nat} {R : xR} {M : xM} {P : xM → Prop} (hn : 78 ≤ n) (hR : RC 78 R) {l1 : Int} (hvc : Ci m_F_degreeOf 0 n R [vi l1] M (fun z1 M1 => (∀ M2 : xM, M2 = xU M1 1 0 z1 → (∀ M3 : xM, M3 = xU M2 1 1 (xShl 1 (M2 1 0)) → Xv m_F_begin 2 n R P 22 [some (vr 1), some (vi l1), some (vi 1), some (vi 0), none, none] [] M3)))) : Xv m_F_begin 2 n R P 0 [some (vr 1), some (vi l1), none, none, none, none] [] M := by
  intro Q hQ
  refine x_aload_n (pc := 0) d_F_begin_0 rfl rfl ?_
  refine x_iload_n (pc := 1) d_F_begin_1 rfl rfl ?_
  refine y_callSi m_F_degreeOf 0 21 [_] [_] rfl (pc := 2) d_F_begin_2 ok_F_degreeOf w_269 w_270 pn_F_degreeOf (by decide) (Nat.le_of_ble_eq_true rfl) (Nat.le_refl _) (Nat.le_refl _) hvc (fun z1 M1 hvc => ?_)
  refine x_putI (k := 1) (ci := 1) (pc := 5) 0 d_F_begin_5 cok1 rfl (Nat.lt_of_lt_of_le (by decide) hn) rfl (by decide) rfl rfl rfl w_68 (fun M2 eM2 => ?_)
  have hvc := hvc M2 eM2
  refine x_aload_n (pc := 8) d_F_begin_8 rfl rfl ?_
  refine x_iconst (pc := 9) d_F_begin_9 ?_
  refine x_aload_n (pc := 10) d_F_begin_10 rfl rfl ?_
  refine x_getI (k := 1) (ci := 1) (pc := 11) 0 d_F_begin_11 cok1 rfl (Nat.lt_of_lt_of_le (by decide) hn) rfl (by decide) rfl w_68 ?_
  refine x_ishl (pc := 14) d_F_begin_14 ?_
  refine x_putI (k := 1) (ci := 1) (pc := 15) 1 d_F_begin_15 cok1 rfl (Nat.lt_of_lt_of_le (by decide) hn) rfl (by decide) rfl rfl rfl w_70 (fun M3 eM3 => ?_)
  have hvc := hvc M3 eM3
  refine x_iconst (pc := 18) d_F_begin_18 ?_
  refine x_istore_n (pc := 19) d_F_begin_19 rfl (by decide) ?_
  refine x_iconst (pc := 20) d_F_begin_20 ?_
  refine x_istore_n (pc := 21) d_F_begin_21 rfl (by decide) ?_
  exact x_locals (xmask [true, true, true, true, false, false] _) (xmask_sub _ _) (hvc Q hQ)
set_option maxRecDepth 20000 in
theorem B_F_begin_22 {n : Nat} {R : xR} {M : xM} {P : xM → Prop} (hn : 78 ≤ n) (hR : RC 78 R) {l1 l2 l3 : Int} (hvc : (-2147483648 ≤ l3 ∧ l3 < 2147483648) ∧ (-2147483648 ≤ (M 1 1) - 1 ∧ (M 1 1) - 1 < 2147483648) ∧ ((((M 1 1) - 1) ≤ l3 → Xv m_F_begin 2 n R P 60 [some (vr 1), some (vi l1), some (vi l2), some (vi 1), none, none] [] M) ∧ (¬ ((M 1 1) - 1) ≤ l3 → (0 ≤ l3 ∧ l3 < 32) ∧ (∀ M1 : xM, M1 = xU M 2 l3.toNat l2 → (0 ≤ l2 ∧ l2 < 32) ∧ (∀ M2 : xM, M2 = xU M1 3 l2.toNat l3 → Ci m_F_timesX 1 n R [vi l2, vi l1] M2 (fun z5 M3 => Xv m_F_begin 2 n R P 22 [some (vr 1), some (vi l1), some (vi z5), some (vi (l3 + 1)), none, none] [] M3)))))) : Xv m_F_begin 2 n R P 22 [some (vr 1), some (vi l1), some (vi l2), some (vi l3), none, none] [] M := by
  intro Q hQ
  refine x_iload_n (pc := 22) d_F_begin_22 rfl rfl ?_
  refine x_aload_n (pc := 23) d_F_begin_23 rfl rfl ?_
  refine x_getI (k := 1) (ci := 1) (pc := 24) 1 d_F_begin_24 cok1 rfl (Nat.lt_of_lt_of_le (by decide) hn) rfl (by decide) rfl w_70 ?_
  refine x_iconst (pc := 27) d_F_begin_27 ?_
  refine x_isub (pc := 28) d_F_begin_28 ?_
  obtain ⟨h1, hvc⟩ := hvc
  obtain ⟨h2, hvc⟩ := hvc
  refine x_icmp_ge (tgt := 58) (pc := 29) d_F_begin_29 rfl h1 h2 (fun hb => ?_) (fun hb => ?_)
  · have hvc := hvc.1 hb
    refine x_iconst (pc := 58) d_F_begin_58 ?_
    refine x_istore_n (pc := 59) d_F_begin_59 rfl (by decide) ?_
    exact x_locals (xmask [true, true, true, true, false, false] _) (xmask_sub _ _) (hvc Q hQ)
  · have hvc := hvc.2 hb
    refine x_aload_n (pc := 32) d_F_begin_32 rfl rfl ?_
    refine x_getR (k := 1) (ci := 1) (pc := 33) (t := 2) 2 d_F_begin_33 cok1 rfl (Nat.lt_of_lt_of_le (by decide) hn) rfl (by decide) rfl (hR.at 1 2 rfl rfl) w_72 ?_
    refine x_iload_n (pc := 36) d_F_begin_36 rfl rfl ?_
    refine x_iload_n (pc := 37) d_F_begin_37 rfl rfl ?_
    obtain ⟨h3, hvc⟩ := hvc
    refine x_iast (N := 32) (pc := 38) d_F_begin_38 (Nat.lt_of_lt_of_le (by decide) hn) rfl (by decide) h3.1 h3.2 (fun M1 eM1 => ?_)
    have hvc := hvc M1 eM1
    refine x_aload_n (pc := 39) d_F_begin_39 rfl rfl ?_
    refine x_getR (k := 1) (ci := 1) (pc := 40) (t := 3) 3 d_F_begin_40 cok1 rfl (Nat.lt_of_lt_of_le (by decide) hn) rfl (by decide) rfl (hR.at 1 3 rfl rfl) w_74 ?_
    refine x_iload_n (pc := 43) d_F_begin_43 rfl rfl ?_
    refine x_iload_n (pc := 44) d_F_begin_44 rfl rfl ?_
    obtain ⟨h4, hvc⟩ := hvc
    refine x_iast (N := 32) (pc := 45) d_F_begin_45 (Nat.lt_of_lt_of_le (by decide) hn) rfl (by decide) h4.1 h4.2 (fun M2 eM2 => ?_)
    have hvc := hvc M2 eM2
    refine x_iload_n (pc := 46) d_F_begin_46 rfl rfl ?_
    refine x_iload_n (pc := 47) d_F_begin_47 rfl rfl ?_
    refine y_callSi m_F_timesX 1 25 [_, _] [] rfl (pc := 48) d_F_begin_48 ok_F_timesX w_272 w_273 pn_F_timesX (by decide) (Nat.le_of_ble_eq_true rfl) (Nat.le_refl _) (Nat.le_refl _) hvc (fun z5 M3 hvc => ?_)
    refine x_istore_n (pc := 51) d_F_begin_51 rfl (by decide) ?_
    refine x_iinc (pc := 52) d_F_begin_52 rfl (by decide) ?_
    refine x_goto (tgt := 22) (pc := 55) d_F_begin_55 rfl ?_
    exact x_locals (xmask [true, true, true, true, false, false] _) (xmask_sub _ _) (hvc Q hQ)
set_option maxRecDepth 20000 in
theorem B_F_begin_60 {n : Nat} {R : xR} {M : xM} {P : xM → Prop} (hn : 78 ≤ n) (hR : RC 78 R) {l1 l2 l3 : Int} (hvc : (-2147483648 ≤ l3 ∧ l3 < 2147483648) ∧ (-2147483648 ≤ M 1 1 ∧ M 1 1 < 2147483648) ∧ (((M 1 1) ≤ l3 → P M) ∧ (¬ (M 1 1) ≤ l3 → Xv m_F_begin 2 n R P 71 [some (vr 1), some (vi l1), some (vi l2), some (vi l3), some (vi 1), none] [] M))) : Xv m_F_begin 2 n R P 60 [some (vr 1), some (vi l1), some (vi l2), some (vi l3), none, none] [] M := by
  intro Q hQ
  refine x_iload_n (pc := 60) d_F_begin_60 rfl rfl ?_
  refine x_aload_n (pc := 61) d_F_begin_61 rfl rfl ?_
  refine x_getI (k := 1) (ci := 1) (pc := 62) 1 d_F_begin_62 cok1 rfl (Nat.lt_of_lt_of_le (by decide) hn) rfl (by decide) rfl w_70 ?_
  obtain ⟨h1, hvc⟩ := hvc
  obtain ⟨h2, hvc⟩ := hvc
  refine x_icmp_ge (tgt := 149) (pc := 65) d_F_begin_65 rfl h1 h2 (fun hb => ?_) (fun hb => ?_)
  · have hvc := hvc.1 hb
    exact x_vret (pc := 149) d_F_begin_149 rfl rfl (Nat.le_refl _) (hQ _ hvc)
  · have hvc := hvc.2 hb
    refine x_iconst (pc := 68) d_F_begin_68 ?_
    refine x_istore (pc := 69) d_F_begin_69 (by decide) ?_
    exact x_locals (xmask [true, true, true, true, true, false] _) (xmask_sub _ _) (hvc Q hQ)
set_option maxRecDepth 20000 in
theorem B_F_begin_71 {n : Nat} {R : xR} {M : xM} {P : xM → Prop} (hn : 78 ≤ n) (hR : RC 78 R) {l1 l2 l3 l4 : Int} (hvc : (-2147483648 ≤ l4 ∧ l4 < 2147483648) ∧ (-2147483648 ≤ M 1 1 ∧ M 1 1 < 2147483648) ∧ (((M 1 1) ≤ l4 → Xv m_F_begin 2 n R P 60 [some (vr 1), some (vi l1), some (vi l2), some (vi (l3 + 1)), none, none] [] M) ∧ (¬ (M 1 1) ≤ l4 → (0 ≤ l3 ∧ l3 < 32) ∧ (0 ≤ l4 ∧ l4 < 32) ∧ (-2147483648 ≤ (M 3 l3.toNat) + (M 3 l4.toNat) ∧ (M 3 l3.toNat) + (M 3 l4.toNat) < 2147483648) ∧ (-2147483648 ≤ (M 1 1) - 1 ∧ (M 1 1) - 1 < 2147483648) ∧ ((((M 1 1) - 1) ≤ ((M 3 l3.toNat) + (M 3 l4.toNat)) → (0 ≤ (((M 3 l3.toNat) + (M 3 l4.toNat)) - (M 1 1)) + 1 ∧ (((M 3 l3.toNat) + (M 3 l4.toNat)) - (M 1 1)) + 1 < 32) ∧ (0 ≤ xOr (xShl l3 5) l4 ∧ xOr (xShl l3 5) l4 < 1024) ∧ (∀ M1 : xM, M1 = xU M 4 (xOr (xShl l3 5) l4).toNat (M 2 ((((M 3 l3.toNat) + (M 3 l4.toNat)) - (M 1 1)) + 1).toNat) → Xv m_F_begin 2 n R P 71 [some (vr 1), some (vi l1), some (vi l2), some (vi l3), some (vi (l4 + 1)), none] [] M1)) ∧ (¬ ((M 1 1) - 1) ≤ ((M 3 l3.toNat) + (M 3 l4.toNat)) → (0 ≤ (M 3 l3.toNat) + (M 3 l4.toNat) ∧ (M 3 l3.toNat) + (M 3 l4.toNat) < 32) ∧ (0 ≤ xOr (xShl l3 5) l4 ∧ xOr (xShl l3 5) l4 < 1024) ∧ (∀ M2 : xM, M2 = xU M 4 (xOr (xShl l3 5) l4).toNat (M 2 ((M 3 l3.toNat) + (M 3 l4.toNat)).toNat) → Xv m_F_begin 2 n R P 71 [some (vr 1), some (vi l1), some (vi l2), some (vi l3), some (vi (l4 + 1)), none] [] M2)))))) : Xv m_F_begin 2 n R P 71 [some (vr 1), some (vi l1), some (vi l2), some (vi l3), some (vi l4), none] [] M := by
  intro Q hQ
  refine x_iload (pc := 71) d_F_begin_71 rfl ?_
  refine x_aload_n (pc := 73) d_F_begin_73 rfl rfl ?_
  refine x_getI (k := 1) (ci := 1) (pc := 74) 1 d_F_begin_74 cok1 rfl (Nat.lt_of_lt_of_le (by decide) hn) rfl (by decide) rfl w_70 ?_
  obtain ⟨h1, hvc⟩ := hvc
  obtain ⟨h2, hvc⟩ := hvc
  refine x_icmp_ge (tgt := 143) (pc := 77) d_F_begin_77 rfl h1 h2 (fun hb => ?_) (fun hb => ?_)
  · have hvc := hvc.1 hb
    refine x_iinc (pc := 143) d_F_begin_143 rfl (by decide) ?_
    refine x_goto (tgt := 60) (pc := 146) d_F_begin_146 rfl ?_
    exact x_locals (xmask [true, true, true, true, false, false] _) (xmask_sub _ _) (hvc Q hQ)
  · have hvc := hvc.2 hb
    refine x_aload_n (pc := 80) d_F_begin_80 rfl rfl ?_
    refine x_getR (k := 1) (ci := 1) (pc := 81) (t := 3) 3 d_F_begin_81 cok1 rfl (Nat.lt_of_lt_of_le (by decide) hn) rfl (by decide) rfl (hR.at 1 3 rfl rfl) w_74 ?_
    refine x_iload_n (pc := 84) d_F_begin_84 rfl rfl ?_
    obtain ⟨h3, hvc⟩ := hvc
    refine x_iald (N := 32) (pc := 85) d_F_begin_85 (Nat.lt_of_lt_of_le (by decide) hn) rfl (by decide) h3.1 h3.2 ?_
    refine x_aload_n (pc := 86) d_F_begin_86 rfl rfl ?_
    refine x_getR (k := 1) (ci := 1) (pc := 87) (t := 3) 3 d_F_begin_87 cok1 rfl (Nat.lt_of_lt_of_le (by decide) hn) rfl (by decide) rfl (hR.at 1 3 rfl rfl) w_74 ?_
    refine x_iload (pc := 90) d_F_begin_90 rfl ?_
    obtain ⟨h4, hvc⟩ := hvc
    refine x_iald (N := 32) (pc := 92) d_F_begin_92 (Nat.lt_of_lt_of_le (by decide) hn) rfl (by decide) h4.1 h4.2 ?_
    refine x_iadd (pc := 93) d_F_begin_93 ?_
    refine x_istore (pc := 94) d_F_begin_94 (by decide) ?_
    refine x_aload_n (pc := 96) d_F_begin_96 rfl rfl ?_
    refine x_getR (k := 1) (ci := 1) (pc := 97) (t := 4) 4 d_F_begin_97 cok1 rfl (Nat.lt_of_lt_of_le (by decide) hn) rfl (by decide) rfl (hR.at 1 4 rfl rfl) w_76 ?_
    refine x_iload_n (pc := 100) d_F_begin_100 rfl rfl ?_
    refine x_iconst (pc := 101) d_F_begin_101 ?_
    refine x_ishl (pc := 102) d_F_begin_102 ?_
    refine x_iload (pc := 103) d_F_begin_103 rfl ?_
    refine x_ior (pc := 105) d_F_begin_105 ?_
    refine x_aload_n (pc := 106) d_F_begin_106 rfl rfl ?_
    refine x_getR (k := 1) (ci := 1) (pc := 107) (t := 2) 2 d_F_begin_107 cok1 rfl (Nat.lt_of_lt_of_le (by decide) hn) rfl (by decide) rfl (hR.at 1 2 rfl rfl) w_72 ?_
    refine x_iload (pc := 110) d_F_begin_110 rfl ?_
    refine x_aload_n (pc := 112) d_F_begin_112 rfl rfl ?_
    refine x_getI (k := 1) (ci := 1) (pc := 113) 1 d_F_begin_113 cok1 rfl (Nat.lt_of_lt_of_le (by decide) hn) rfl (by decide) rfl w_70 ?_
    refine x_iconst (pc := 116) d_F_begin_116 ?_
    refine x_isub (pc := 117) d_F_begin_117 ?_
    obtain ⟨h5, hvc⟩ := hvc
    obtain ⟨h6, hvc⟩ := hvc
    refine x_icmp_ge (tgt := 126) (pc := 118) d_F_begin_118 rfl h5 h6 (fun hb => ?_) (fun hb => ?_)
    · have hvc := hvc.1 hb
      refine x_iload (pc := 126) d_F_begin_126 rfl ?_
      refine x_aload_n (pc := 128) d_F_begin_128 rfl rfl ?_
      refine x_getI (k := 1) (ci := 1) (pc := 129) 1 d_F_begin_129 cok1 rfl (Nat.lt_of_lt_of_le (by decide) hn) rfl (by decide) rfl w_70 ?_
      refine x_isub (pc := 132) d_F_begin_132 ?_
      refine x_iconst (pc := 133) d_F_begin_133 ?_
      refine x_iadd (pc := 134) d_F_begin_134 ?_
      obtain ⟨h7, hvc⟩ := hvc
      refine x_iald (N := 32) (pc := 135) d_F_begin_135 (Nat.lt_of_lt_of_le (by decide) hn) rfl (by decide) h7.1 h7.2 ?_
      obtain ⟨h8, hvc⟩ := hvc
      refine x_iast (N := 1024) (pc := 136) d_F_begin_136 (Nat.lt_of_lt_of_le (by decide) hn) rfl (by decide) h8.1 h8.2 (fun M1 eM1 => ?_)
      have hvc := hvc M1 eM1
      refine x_iinc (pc := 137) d_F_begin_137 rfl (by decide) ?_
      refine x_goto (tgt := 71) (pc := 140) d_F_begin_140 rfl ?_
      exact x_locals (xmask [true, true, true, true, true, false] _) (xmask_sub _ _) (hvc Q hQ)
    · have hvc := hvc.2 hb
      refine x_iload (pc := 121) d_F_begin_121 rfl ?_
      refine x_goto (tgt := 135) (pc := 123) d_F_begin_123 rfl ?_
      obtain ⟨h9, hvc⟩ := hvc
      refine x_iald (N := 32) (pc := 135) d_F_begin_135 (Nat.lt_of_lt_of_le (by decide) hn) rfl (by decide) h9.1 h9.2 ?_
      obtain ⟨h10, hvc⟩ := hvc
      refine x_iast (N := 1024) (pc := 136) d_F_begin_136 (Nat.lt_of_lt_of_le (by decide) hn) rfl (by decide) h10.1 h10.2 (fun M2 eM2 => ?_)
      have hvc := hvc M2 eM2
      refine x_iinc (pc := 137) d_F_begin_137 rfl (by decide) ?_
      refine x_goto (tgt := 71) (pc := 140) d_F_begin_140 rfl ?_
      exact x_locals (xmask [true, true, true, true, true, false] _) (xmask_sub _ _) (hvc Q hQ)
set_option maxRecDepth 20000 in
theorem E_F_begin {n : Nat} {R : xR} {M : xM} {P : xM → Prop} (hn : 78 ≤ n) (hR : RC 78 R) {l1 : Int} (h : Xv m_F_begin 2 n R P 0 [some (vr 1), some (vi l1), none, none, none, none] [] M) : Cv m_F_begin 2 n R [vr 1, vi l1] M P :=
  Cv.of [some (vr 1), some (vi l1), none, none, none, none] (by decide) rfl (Nat.le_of_ble_eq_true rfl) rfl h
set_option maxRecDepth 20000 in
theorem B_F_has_0 {n : Nat} {R : xR} {M : xM} {P : Int → xM → Prop} (hn : 78 ≤ n) (hR : RC 78 R) {l1 : Int} (hvc : (-2147483648 ≤ l1 ∧ l1 < 2147483648) ∧ ((l1 < 0 → P 0 M) ∧ (¬ l1 < 0 → (-2147483648 ≤ M 1 1 ∧ M 1 1 < 2147483648) ∧ (((M 1 1) ≤ l1 → P 0 M) ∧ (¬ (M 1 1) ≤ l1 → P 1 M))))) : Xi m_F_has 0 n R P 0 [some (vr 1), some (vi l1)] [] M := by
  intro Q hQ
  refine x_iload_n (pc := 0) d_F_has_0 rfl rfl ?_
  obtain ⟨h1, hvc⟩ := hvc
  refine x_if_lt (tgt := 16) (pc := 1) d_F_has_1 rfl h1 (fun hb => ?_) (fun hb => ?_)
  · have hvc := hvc.1 hb
    refine x_iconst (pc := 16) d_F_has_16 ?_
    exact x_zret (pc := 17) d_F_has_17 rfl (by decide) rfl (Nat.le_refl _) (hQ _ _ hvc)
  · have hvc := hvc.2 hb
    refine x_iload_n (pc := 4) d_F_has_4 rfl rfl ?_
    refine x_aload_n (pc := 5) d_F_has_5 rfl rfl ?_
    refine x_getI (k := 1) (ci := 1) (pc := 6) 1 d_F_has_6 cok1 rfl (Nat.lt_of_lt_of_le (by decide) hn) rfl (by decide) rfl w_70 ?_
    obtain ⟨h2, hvc⟩ := hvc
    refine x_icmp_ge (tgt := 16) (pc := 9) d_F_has_9 rfl h1 h2 (fun hb => ?_) (fun hb => ?_)
    · have hvc := hvc.1 hb
      refine x_iconst (pc := 16) d_F_has_16 ?_
      exact x_zret (pc := 17) d_F_has_17 rfl (by decide) rfl (Nat.le_refl _) (hQ _ _ hvc)
    · have hvc := hvc.2 hb
      refine x_iconst (pc := 12) d_F_has_12 ?_
      refine x_goto (tgt := 17) (pc := 13) d_F_has_13 rfl ?_
      exact x_zret (pc := 17) d_F_has_17 rfl (by decide) rfl (Nat.le_refl _) (hQ _ _ hvc)
set_option maxRecDepth 20000 in
theorem E_F_has {n : Nat} {R : xR} {M : xM} {P : Int → xM → Prop} (hn : 78 ≤ n) (hR : RC 78 R) {l1 : Int} (h : Xi m_F_has 0 n R P 0 [some (vr 1), some (vi l1)] [] M) : Ci m_F_has 0 n R [vr 1, vi l1] M P :=
  Ci.of [some (vr 1), some (vi l1)] (by decide) rfl (Nat.le_of_ble_eq_true rfl) rfl h
set_option maxRecDepth 20000 in
theorem B_F_product_0 {n : Nat} {R : xR} {M : xM} {P : Int → xM → Prop} (hn : 78 ≤ n) (hR : RC 78 R) {l1 l2 : Int} (hvc : (0 ≤ xOr (xShl l1 5) l2 ∧ xOr (xShl l1 5) l2 < 1024) ∧ P (M 4 (xOr (xShl l1 5) l2).toNat) M) : Xi m_F_product 0 n R P 0 [some (vr 1), some (vi l1), some (vi l2)] [] M := by
  intro Q hQ
  refine x_aload_n (pc := 0) d_F_product_0 rfl rfl ?_
  refine x_getR (k := 1) (ci := 1) (pc := 1) (t := 4) 4 d_F_product_1 cok1 rfl (Nat.lt_of_lt_of_le (by decide) hn) rfl (by decide) rfl (hR.at 1 4 rfl rfl) w_76 ?_
  refine x_iload_n (pc := 4) d_F_product_4 rfl rfl ?_
  refine x_iconst (pc := 5) d_F_product_5 ?_
  refine x_ishl (pc := 6) d_F_product_6 ?_
  refine x_iload_n (pc := 7) d_F_product_7 rfl rfl ?_
  refine x_ior (pc := 8) d_F_product_8 ?_
  obtain ⟨h1, hvc⟩ := hvc
  refine x_iald (N := 1024) (pc := 9) d_F_product_9 (Nat.lt_of_lt_of_le (by decide) hn) rfl (by decide) h1.1 h1.2 ?_
  exact x_iret (pc := 10) d_F_product_10 rfl rfl (Nat.le_refl _) (hQ _ _ hvc)
set_option maxRecDepth 20000 in
theorem E_F_product {n : Nat} {R : xR} {M : xM} {P : Int → xM → Prop} (hn : 78 ≤ n) (hR : RC 78 R) {l1 l2 : Int} (h : Xi m_F_product 0 n R P 0 [some (vr 1), some (vi l1), some (vi l2)] [] M) : Ci m_F_product 0 n R [vr 1, vi l1, vi l2] M P :=
  Ci.of [some (vr 1), some (vi l1), some (vi l2)] (by decide) rfl (Nat.le_of_ble_eq_true rfl) rfl h
set_option maxRecDepth 20000 in
theorem B_F_quotient_0 {n : Nat} {R : xR} {M : xM} {P : Int → xM → Prop} (hn : 78 ≤ n) (hR : RC 78 R) {l1 l2 : Int} (hvc : (-2147483648 ≤ l1 ∧ l1 < 2147483648) ∧ ((¬ l1 = 0 → (0 ≤ l1 ∧ l1 < 32) ∧ (0 ≤ l2 ∧ l2 < 32) ∧ (-2147483648 ≤ (M 3 l1.toNat) - (M 3 l2.toNat) ∧ (M 3 l1.toNat) - (M 3 l2.toNat) < 2147483648) ∧ ((((M 3 l1.toNat) - (M 3 l2.toNat)) < 0 → (0 ≤ (((M 3 l1.toNat) - (M 3 l2.toNat)) + (M 1 1)) - 1 ∧ (((M 3 l1.toNat) - (M 3 l2.toNat)) + (M 1 1)) - 1 < 32) ∧ P (M 2 ((((M 3 l1.toNat) - (M 3 l2.toNat)) + (M 1 1)) - 1).toNat) M) ∧ (¬ ((M 3 l1.toNat) - (M 3 l2.toNat)) < 0 → (0 ≤ (M 3 l1.toNat) - (M 3 l2.toNat) ∧ (M 3 l1.toNat) - (M 3 l2.toNat) < 32) ∧ P (M 2 ((M 3 l1.toNat) - (M 3 l2.toNat)).toNat) M))) ∧ (l1 = 0 → P 0 M))) : Xi m_F_quotient 0 n R P 0 [some (vr 1), some (vi l1), some (vi l2), none] [] M := by
  intro Q hQ
  refine x_iload_n (pc := 0) d_F_quotient_0 rfl rfl ?_
  obtain ⟨h1, hvc⟩ := hvc
  refine x_if_ne (tgt := 6) (pc := 1) d_F_quotient_1 rfl h1 (fun hb => ?_) (fun hb => ?_)
  · have hvc := hvc.1 hb
    refine x_aload_n (pc := 6) d_F_quotient_6 rfl rfl ?_
    refine x_getR (k := 1) (ci := 1) (pc := 7) (t := 3) 3 d_F_quotient_7 cok1 rfl (Nat.lt_of_lt_of_le (by decide) hn) rfl (by decide) rfl (hR.at 1 3 rfl rfl) w_74 ?_
    refine x_iload_n (pc := 10) d_F_quotient_10 rfl rfl ?_
    obtain ⟨h2, hvc⟩ := hvc
    refine x_iald (N := 32) (pc := 11) d_F_quotient_11 (Nat.lt_of_lt_of_le (by decide) hn) rfl (by decide) h2.1 h2.2 ?_
    refine x_aload_n (pc := 12) d_F_quotient_12 rfl rfl ?_
    refine x_getR (k := 1) (ci := 1) (pc := 13) (t := 3) 3 d_F_quotient_13 cok1 rfl (Nat.lt_of_lt_of_le (by decide) hn) rfl (by decide) rfl (hR.at 1 3 rfl rfl) w_74 ?_
    refine x_iload_n (pc := 16) d_F_quotient_16 rfl rfl ?_
    obtain ⟨h3, hvc⟩ := hvc
    refine x_iald (N := 32) (pc := 17) d_F_quotient_17 (Nat.lt_of_lt_of_le (by decide) hn) rfl (by decide) h3.1 h3.2 ?_
    refine x_isub (pc := 18) d_F_quotient_18 ?_
    refine x_istore_n (pc := 19) d_F_quotient_19 rfl (by decide) ?_
    refine x_aload_n (pc := 20) d_F_quotient_20 rfl rfl ?_
    refine x_getR (k := 1) (ci := 1) (pc := 21) (t := 2) 2 d_F_quotient_21 cok1 rfl (Nat.lt_of_lt_of_le (by decide) hn) rfl (by decide) rfl (hR.at 1 2 rfl rfl) w_72 ?_
    refine x_iload_n (pc := 24) d_F_quotient_24 rfl rfl ?_
    obtain ⟨h4, hvc⟩ := hvc
    refine x_if_lt (tgt := 32) (pc := 25) d_F_quotient_25 rfl h4 (fun hb => ?_) (fun hb => ?_)
    · have hvc := hvc.1 hb
      refine x_iload_n (pc := 32) d_F_quotient_32 rfl rfl ?_
      refine x_aload_n (pc := 33) d_F_quotient_33 rfl rfl ?_
      refine x_getI (k := 1) (ci := 1) (pc := 34) 1 d_F_quotient_34 cok1 rfl (Nat.lt_of_lt_of_le (by decide) hn) rfl (by decide) rfl w_70 ?_
      refine x_iadd (pc := 37) d_F_quotient_37 ?_
      refine x_iconst (pc := 38) d_F_quotient_38 ?_
      refine x_isub (pc := 39) d_F_quotient_39 ?_
      obtain ⟨h5, hvc⟩ := hvc
      refine x_iald (N := 32) (pc := 40) d_F_quotient_40 (Nat.lt_of_lt_of_le (by decide) hn) rfl (by decide) h5.1 h5.2 ?_
      exact x_iret (pc := 41) d_F_quotient_41 rfl rfl (Nat.le_refl _) (hQ _ _ hvc)
    · have hvc := hvc.2 hb
      refine x_iload_n (pc := 28) d_F_quotient_28 rfl rfl ?_
      refine x_goto (tgt := 40) (pc := 29) d_F_quotient_29 rfl ?_
      obtain ⟨h6, hvc⟩ := hvc
      refine x_iald (N := 32) (pc := 40) d_F_quotient_40 (Nat.lt_of_lt_of_le (by decide) hn) rfl (by decide) h6.1 h6.2 ?_
      exact x_iret (pc := 41) d_F_quotient_41 rfl rfl (Nat.le_refl _) (hQ _ _ hvc)
  · have hvc := hvc.2 hb
    refine x_iconst (pc := 4) d_F_quotient_4 ?_
    exact x_iret (pc := 5) d_F_quotient_5 rfl rfl (Nat.le_refl _) (hQ _ _ hvc)
set_option maxRecDepth 20000 in
theorem E_F_quotient {n : Nat} {R : xR} {M : xM} {P : Int → xM → Prop} (hn : 78 ≤ n) (hR : RC 78 R) {l1 l2 : Int} (h : Xi m_F_quotient 0 n R P 0 [some (vr 1), some (vi l1), some (vi l2), none] [] M) : Ci m_F_quotient 0 n R [vr 1, vi l1, vi l2] M P :=
  Ci.of [some (vr 1), some (vi l1), some (vi l2), none] (by decide) rfl (Nat.le_of_ble_eq_true rfl) rfl h
set_option maxRecDepth 20000 in
theorem B_F_addMultiple_0 {n : Nat} {R : xR} {M : xM} {P : xM → Prop} (hn : 78 ≤ n) (hR : RC 78 R) {l2 l4 l5 : Int} {q1 N1 : Nat} (hq1S : xS q1 = (0, N1)) (hq1n : q1 < n) (hq1N : N1 < 2147483648) {q3 N3 : Nat} (hq3S : xS q3 = (0, N3)) (hq3n : q3 < n) (hq3N : N3 < 2147483648) (hvc : Xv m_F_addMultiple 0 n R P 9 [some (vr 1), some (vr q1), some (vi l2), some (vr q3), some (vi l4), some (vi l5), some (vi (xShl l2 5)), some (vi l4)] [] M) : Xv m_F_addMultiple 0 n R P 0 [some (vr 1), some (vr q1), some (vi l2), some (vr q3), some (vi l4), some (vi l5), none, none] [] M := by
  intro Q hQ
  refine x_iload_n (pc := 0) d_F_addMultiple_0 rfl rfl ?_
  refine x_iconst (pc := 1) d_F_addMultiple_1 ?_
  refine x_ishl (pc := 2) d_F_addMultiple_2 ?_
  refine x_istore (pc := 3) d_F_addMultiple_3 (by decide) ?_
  refine x_iload (pc := 5) d_F_addMultiple_5 rfl ?_
  refine x_istore (pc := 7) d_F_addMultiple_7 (by decide) ?_
  exact x_locals (xmask [true, true, true, true, true, true, true, true] _) (xmask_sub _ _) (hvc Q hQ)
set_option maxRecDepth 20000 in
theorem B_F_addMultiple_9 {n : Nat} {R : xR} {M : xM} {P : xM → Prop} (hn : 78 ≤ n) (hR : RC 78 R) {l2 l4 l5 l6 l7 : Int} {q1 N1 : Nat} (hq1S : xS q1 = (0, N1)) (hq1n : q1 < n) (hq1N : N1 < 2147483648) {q3 N3 : Nat} (hq3S : xS q3 = (0, N3)) (hq3n : q3 < n) (hq3N : N3 < 2147483648) (hvc : (-2147483648 ≤ l7 ∧ l7 < 2147483648) ∧ (-2147483648 ≤ l5 ∧ l5 < 2147483648) ∧ ((l5 ≤ l7 → P M) ∧ (¬ l5 ≤ l7 → (0 ≤ l7 ∧ l7 < N1) ∧ (0 ≤ l7 ∧ l7 < N3) ∧ (0 ≤ xOr l6 (M q3 l7.toNat) ∧ xOr l6 (M q3 l7.toNat) < 1024) ∧ (∀ M1 : xM, M1 = xU M q1 l7.toNat (xXor (M q1 l7.toNat) (M 4 (xOr l6 (M q3 l7.toNat)).toNat)) → Xv m_F_addMultiple 0 n R P 9 [some (vr 1), some (vr q1), some (vi l2), some (vr q3), some (vi l4), some (vi l5), some (vi l6), some (vi (l7 + 1))] [] M1)))) : Xv m_F_addMultiple 0 n R P 9 [some (vr 1), some (vr q1), some (vi l2), some (vr q3), some (vi l4), some (vi l5), some (vi l6), some (vi l7)] [] M := by
  intro Q hQ
  refine x_iload (pc := 9) d_F_addMultiple_9 rfl ?_
  refine x_iload (pc := 11) d_F_addMultiple_11 rfl ?_
  obtain ⟨h1, hvc⟩ := hvc
  obtain ⟨h2, hvc⟩ := hvc
  refine x_icmp_ge (tgt := 41) (pc := 13) d_F_addMultiple_13 rfl h1 h2 (fun hb => ?_) (fun hb => ?_)
  · have hvc := hvc.1 hb
    exact x_vret (pc := 41) d_F_addMultiple_41 rfl rfl (Nat.le_refl _) (hQ _ hvc)
  · have hvc := hvc.2 hb
    refine x_aload_n (pc := 16) d_F_addMultiple_16 rfl rfl ?_
    refine x_iload (pc := 17) d_F_addMultiple_17 rfl ?_
    refine x_dup2 (pc := 19) d_F_addMultiple_19 ?_
    obtain ⟨h3, hvc⟩ := hvc
    refine x_iald (N := N1) (pc := 20) d_F_addMultiple_20 hq1n hq1S hq1N h3.1 h3.2 ?_
    refine x_aload_n (pc := 21) d_F_addMultiple_21 rfl rfl ?_
    refine x_getR (k := 1) (ci := 1) (pc := 22) (t := 4) 4 d_F_addMultiple_22 cok1 rfl (Nat.lt_of_lt_of_le (by decide) hn) rfl (by decide) rfl (hR.at 1 4 rfl rfl) w_76 ?_
    refine x_iload (pc := 25) d_F_addMultiple_25 rfl ?_
    refine x_aload_n (pc := 27) d_F_addMultiple_27 rfl rfl ?_
    refine x_iload (pc := 28) d_F_addMultiple_28 rfl ?_
    obtain ⟨h4, hvc⟩ := hvc
    refine x_iald (N := N3) (pc := 30) d_F_addMultiple_30 hq3n hq3S hq3N h4.1 h4.2 ?_
    refine x_ior (pc := 31) d_F_addMultiple_31 ?_
    obtain ⟨h5, hvc⟩ := hvc
    refine x_iald (N := 1024) (pc := 32) d_F_addMultiple_32 (Nat.lt_of_lt_of_le (by decide) hn) rfl (by decide) h5.1 h5.2 ?_
    refine x_ixor (pc := 33) d_F_addMultiple_33 ?_
    refine x_iast (N := N1) (pc := 34) d_F_addMultiple_34 hq1n hq1S hq1N h3.1 h3.2 (fun M1 eM1 => ?_)
    have hvc := hvc M1 eM1
    refine x_iinc (pc := 35) d_F_addMultiple_35 rfl (by decide) ?_
    refine x_goto (tgt := 9) (pc := 38) d_F_addMultiple_38 rfl ?_
    exact x_locals (xmask [true, true, true, true, true, true, true, true] _) (xmask_sub _ _) (hvc Q hQ)
set_option maxRecDepth 20000 in
theorem E_F_addMultiple {n : Nat} {R : xR} {M : xM} {P : xM → Prop} (hn : 78 ≤ n) (hR : RC 78 R) {l2 l4 l5 : Int} {q1 N1 : Nat} (hq1S : xS q1 = (0, N1)) (hq1n : q1 < n) (hq1N : N1 < 2147483648) {q3 N3 : Nat} (hq3S : xS q3 = (0, N3)) (hq3n : q3 < n) (hq3N : N3 < 2147483648) (h : Xv m_F_addMultiple 0 n R P 0 [some (vr 1), some (vr q1), some (vi l2), some (vr q3), some (vi l4), some (vi l5), none, none] [] M) : Cv m_F_addMultiple 0 n R [vr 1, vr q1, vi l2, vr q3, vi l4, vi l5] M P :=
  Cv.of [some (vr 1), some (vr q1), some (vi l2), some (vr q3), some (vi l4), some (vi l5), none, none] (by decide) rfl (Nat.le_of_ble_eq_true rfl) rfl h
set_option maxRecDepth 20000 in
theorem B_F_power_0 {n : Nat} {R : xR} {M : xM} {P : Int → xM → Prop} (hn : 78 ≤ n) (hR : RC 78 R) {l1 l2 : Int} (hvc : Xi m_F_power 1 n R P 5 [some (vr 1), some (vi l1), some (vi l2), some (vi 1), some (vi 0)] [] M) : Xi m_F_power 1 n R P 0 [some (vr 1), some (vi l1), some (vi l2), none, none] [] M := by
  intro Q hQ
  refine x_iconst (pc := 0) d_F_power_0 ?_
  refine x_istore_n (pc := 1) d_F_power_1 rfl (by decide) ?_
  refine x_iconst (pc := 2) d_F_power_2 ?_
  refine x_istore (pc := 3) d_F_power_3 (by decide) ?_
  exact x_locals (xmask [true, true, true, true, true] _) (xmask_sub _ _) (hvc Q hQ)
set_option maxRecDepth 20000 in
theorem B_F_power_5 {n : Nat} {R : xR} {M : xM} {P : Int → xM → Prop} (hn : 78 ≤ n) (hR : RC 78 R) {l1 l2 l3 l4 : Int} (hvc : (-2147483648 ≤ l4 ∧ l4 < 2147483648) ∧ (-2147483648 ≤ l2 ∧ l2 < 2147483648) ∧ ((l2 ≤ l4 → P l3 M) ∧ (¬ l2 ≤ l4 → Ci m_F_product 0 n R [vr 1, vi l3, vi l1] M (fun z3 M1 => Xi m_F_power 1 n R P 5 [some (vr 1), some (vi l1), some (vi l2), some (vi z3), some (vi (l4 + 1))] [] M1)))) : Xi m_F_power 1 n R P 5 [some (vr 1), some (vi l1), some (vi l2), some (vi l3), some (vi l4)] [] M := by
  intro Q hQ
  refine x_iload (pc := 5) d_F_power_5 rfl ?_
  refine x_iload_n (pc := 7) d_F_power_7 rfl rfl ?_
  obtain ⟨h1, hvc⟩ := hvc
  obtain ⟨h2, hvc⟩ := hvc
  refine x_icmp_ge (tgt := 24) (pc := 8) d_F_power_8 rfl h1 h2 (fun hb => ?_) (fun hb => ?_)
  · have hvc := hvc.1 hb
    refine x_iload_n (pc := 24) d_F_power_24 rfl rfl ?_
    exact x_iret (pc := 25) d_F_power_25 rfl rfl (Nat.le_refl _) (hQ _ _ hvc)
  · have hvc := hvc.2 hb
    refine x_aload_n (pc := 11) d_F_power_11 rfl rfl ?_
    refine x_iload_n (pc := 12) d_F_power_12 rfl rfl ?_
    refine x_iload_n (pc := 13) d_F_power_13 rfl rfl ?_
    refine y_callVi m_F_product 0 36 1 1 5 [_, _] [] rfl (pc := 14) d_F_power_14 ok_F_product w_310 w_291 w_292 pn_F_product (Nat.lt_of_lt_of_le (by decide) hn) rfl rfl (by decide) (Nat.le_of_ble_eq_true rfl) (Nat.le_refl _) (Nat.le_refl _) hvc (fun z3 M1 hvc => ?_)
    refine x_istore_n (pc := 17) d_F_power_17 rfl (by decide) ?_
    refine x_iinc (pc := 18) d_F_power_18 rfl (by decide) ?_
    refine x_goto (tgt := 5) (pc := 21) d_F_power_21 rfl ?_
    exact x_locals (xmask [true, true, true, true, true] _) (xmask_sub _ _) (hvc Q hQ)
set_option maxRecDepth 20000 in
theorem E_F_power {n : Nat} {R : xR} {M : xM} {P : Int → xM → Prop} (hn : 78 ≤ n) (hR : RC 78 R) {l1 l2 : Int} (h : Xi m_F_power 1 n R P 0 [some (vr 1), some (vi l1), some (vi l2), none, none] [] M) : Ci m_F_power 1 n R [vr 1, vi l1, vi l2] M P :=
  Ci.of [some (vr 1), some (vi l1), some (vi l2), none, none] (by decide) rfl (Nat.le_of_ble_eq_true rfl) rfl h
