set_option maxRecDepth 20000 in
theorem B_M_rest_0 {n : Nat} {R : xR} {M : xM} {P : Int → xM → Prop} (hn : 93 ≤ n) (hR : RC 93 R) {l0 l1 l2 l3 : Int} (hvc : Xi m_M_rest 0 n R P 6 [some (vi l0), some (vi l1), some (vi l2), some (vi l3), some (vi 0), some (vi 0)] [] M) : Xi m_M_rest 0 n R P 0 [some (vi l0), some (vi l1), some (vi l2), some (vi l3), none, none] [] M := by
  intro Q hQ
  refine x_iconst (pc := 0) d_M_rest_0 ?_
  refine x_istore (pc := 1) d_M_rest_1 (by decide) ?_
  refine x_iconst (pc := 3) d_M_rest_3 ?_
  refine x_istore (pc := 4) d_M_rest_4 (by decide) ?_
  exact x_locals (xmask [true, true, true, true, true, true] _) (xmask_sub _ _) (hvc Q hQ)
set_option maxRecDepth 20000 in
theorem B_M_rest_6 {n : Nat} {R : xR} {M : xM} {P : Int → xM → Prop} (hn : 93 ≤ n) (hR : RC 93 R) {l0 l1 l2 l3 l4 l5 : Int} (hvc : (-2147483648 ≤ l5 ∧ l5 < 2147483648) ∧ (-2147483648 ≤ l3 ∧ l3 < 2147483648) ∧ ((l3 ≤ l5 → Xi m_M_rest 0 n R P 49 [some (vi l0), some (vi l1), some (vi l2), some (vi l3), some (vi l4), some (vi ((2 * l3) - 2))] [] M) ∧ (¬ l3 ≤ l5 → (-2147483648 ≤ xAnd (xShr l1 l5) 1 ∧ xAnd (xShr l1 l5) 1 < 2147483648) ∧ ((¬ (xAnd (xShr l1 l5) 1) = 1 → Xi m_M_rest 0 n R P 6 [some (vi l0), some (vi l1), some (vi l2), some (vi l3), some (vi l4), some (vi (l5 + 1))] [] M) ∧ ((xAnd (xShr l1 l5) 1) = 1 → Xi m_M_rest 0 n R P 6 [some (vi l0), some (vi l1), some (vi l2), some (vi l3), some (vi (xXor l4 (xShl l0 l5))), some (vi (l5 + 1))] [] M))))) : Xi m_M_rest 0 n R P 6 [some (vi l0), some (vi l1), some (vi l2), some (vi l3), some (vi l4), some (vi l5)] [] M := by
  intro Q hQ
  refine x_iload (pc := 6) d_M_rest_6 rfl ?_
  refine x_iload_n (pc := 8) d_M_rest_8 rfl rfl ?_
  obtain ⟨h1, hvc⟩ := hvc
  obtain ⟨h2, hvc⟩ := hvc
  refine x_icmp_ge (tgt := 42) (pc := 9) d_M_rest_9 rfl h1 h2 (fun hb => ?_) (fun hb => ?_)
  · have hvc := hvc.1 hb
    refine x_iconst (pc := 42) d_M_rest_42 ?_
    refine x_iload_n (pc := 43) d_M_rest_43 rfl rfl ?_
    refine x_imul (pc := 44) d_M_rest_44 ?_
    refine x_iconst (pc := 45) d_M_rest_45 ?_
    refine x_isub (pc := 46) d_M_rest_46 ?_
    refine x_istore (pc := 47) d_M_rest_47 (by decide) ?_
    exact x_locals (xmask [true, true, true, true, true, true] _) (xmask_sub _ _) (hvc Q hQ)
  · have hvc := hvc.2 hb
    refine x_iload_n (pc := 12) d_M_rest_12 rfl rfl ?_
    refine x_iload (pc := 13) d_M_rest_13 rfl ?_
    refine x_ishr (pc := 15) d_M_rest_15 ?_
    refine x_iconst (pc := 16) d_M_rest_16 ?_
    refine x_iand (pc := 17) d_M_rest_17 ?_
    refine x_iconst (pc := 18) d_M_rest_18 ?_
    obtain ⟨h3, hvc⟩ := hvc
    refine x_icmp_ne (tgt := 32) (pc := 19) d_M_rest_19 rfl h3 ⟨by decide, by decide⟩ (fun hb => ?_) (fun hb => ?_)
    · have hvc := hvc.1 hb
      refine x_iload (pc := 32) d_M_rest_32 rfl ?_
      refine x_istore (pc := 34) d_M_rest_34 (by decide) ?_
      refine x_iinc (pc := 36) d_M_rest_36 rfl (by decide) ?_
      refine x_goto (tgt := 6) (pc := 39) d_M_rest_39 rfl ?_
      exact x_locals (xmask [true, true, true, true, true, true] _) (xmask_sub _ _) (hvc Q hQ)
    · have hvc := hvc.2 hb
      refine x_iload (pc := 22) d_M_rest_22 rfl ?_
      refine x_iload_n (pc := 24) d_M_rest_24 rfl rfl ?_
      refine x_iload (pc := 25) d_M_rest_25 rfl ?_
      refine x_ishl (pc := 27) d_M_rest_27 ?_
      refine x_ixor (pc := 28) d_M_rest_28 ?_
      refine x_goto (tgt := 34) (pc := 29) d_M_rest_29 rfl ?_
      refine x_istore (pc := 34) d_M_rest_34 (by decide) ?_
      refine x_iinc (pc := 36) d_M_rest_36 rfl (by decide) ?_
      refine x_goto (tgt := 6) (pc := 39) d_M_rest_39 rfl ?_
      exact x_locals (xmask [true, true, true, true, true, true] _) (xmask_sub _ _) (hvc Q hQ)
set_option maxRecDepth 20000 in
theorem B_M_rest_49 {n : Nat} {R : xR} {M : xM} {P : Int → xM → Prop} (hn : 93 ≤ n) (hR : RC 93 R) {l0 l1 l2 l3 l4 l5 : Int} (hvc : (-2147483648 ≤ l5 ∧ l5 < 2147483648) ∧ (-2147483648 ≤ l3 ∧ l3 < 2147483648) ∧ ((l5 < l3 → P l4 M) ∧ (¬ l5 < l3 → (-2147483648 ≤ xAnd (xShr l4 l5) 1 ∧ xAnd (xShr l4 l5) 1 < 2147483648) ∧ ((¬ (xAnd (xShr l4 l5) 1) = 1 → Xi m_M_rest 0 n R P 49 [some (vi l0), some (vi l1), some (vi l2), some (vi l3), some (vi l4), some (vi (l5 + (-1)))] [] M) ∧ ((xAnd (xShr l4 l5) 1) = 1 → Xi m_M_rest 0 n R P 49 [some (vi l0), some (vi l1), some (vi l2), some (vi l3), some (vi (xXor l4 (xShl l2 (l5 - l3)))), some (vi (l5 + (-1)))] [] M))))) : Xi m_M_rest 0 n R P 49 [some (vi l0), some (vi l1), some (vi l2), some (vi l3), some (vi l4), some (vi l5)] [] M := by
  intro Q hQ
  refine x_iload (pc := 49) d_M_rest_49 rfl ?_
  refine x_iload_n (pc := 51) d_M_rest_51 rfl rfl ?_
  obtain ⟨h1, hvc⟩ := hvc
  obtain ⟨h2, hvc⟩ := hvc
  refine x_icmp_lt (tgt := 88) (pc := 52) d_M_rest_52 rfl h1 h2 (fun hb => ?_) (fun hb => ?_)
  · have hvc := hvc.1 hb
    refine x_iload (pc := 88) d_M_rest_88 rfl ?_
    exact x_iret (pc := 90) d_M_rest_90 rfl rfl (Nat.le_refl _) (hQ _ _ hvc)
  · have hvc := hvc.2 hb
    refine x_iload (pc := 55) d_M_rest_55 rfl ?_
    refine x_iload (pc := 57) d_M_rest_57 rfl ?_
    refine x_ishr (pc := 59) d_M_rest_59 ?_
    refine x_iconst (pc := 60) d_M_rest_60 ?_
    refine x_iand (pc := 61) d_M_rest_61 ?_
    refine x_iconst (pc := 62) d_M_rest_62 ?_
    obtain ⟨h3, hvc⟩ := hvc
    refine x_icmp_ne (tgt := 78) (pc := 63) d_M_rest_63 rfl h3 ⟨by decide, by decide⟩ (fun hb => ?_) (fun hb => ?_)
    · have hvc := hvc.1 hb
      refine x_iload (pc := 78) d_M_rest_78 rfl ?_
      refine x_istore (pc := 80) d_M_rest_80 (by decide) ?_
      refine x_iinc (pc := 82) d_M_rest_82 rfl (by decide) ?_
      refine x_goto (tgt := 49) (pc := 85) d_M_rest_85 rfl ?_
      exact x_locals (xmask [true, true, true, true, true, true] _) (xmask_sub _ _) (hvc Q hQ)
    · have hvc := hvc.2 hb
      refine x_iload (pc := 66) d_M_rest_66 rfl ?_
      refine x_iload_n (pc := 68) d_M_rest_68 rfl rfl ?_
      refine x_iload (pc := 69) d_M_rest_69 rfl ?_
      refine x_iload_n (pc := 71) d_M_rest_71 rfl rfl ?_
      refine x_isub (pc := 72) d_M_rest_72 ?_
      refine x_ishl (pc := 73) d_M_rest_73 ?_
      refine x_ixor (pc := 74) d_M_rest_74 ?_
      refine x_goto (tgt := 80) (pc := 75) d_M_rest_75 rfl ?_
      refine x_istore (pc := 80) d_M_rest_80 (by decide) ?_
      refine x_iinc (pc := 82) d_M_rest_82 rfl (by decide) ?_
      refine x_goto (tgt := 49) (pc := 85) d_M_rest_85 rfl ?_
      exact x_locals (xmask [true, true, true, true, true, true] _) (xmask_sub _ _) (hvc Q hQ)
set_option maxRecDepth 20000 in
theorem E_M_rest {n : Nat} {R : xR} {M : xM} {P : Int → xM → Prop} (hn : 93 ≤ n) (hR : RC 93 R) {l0 l1 l2 l3 : Int} (h : Xi m_M_rest 0 n R P 0 [some (vi l0), some (vi l1), some (vi l2), some (vi l3), none, none] [] M) : Ci m_M_rest 0 n R [vi l0, vi l1, vi l2, vi l3] M P :=
  Ci.of [some (vi l0), some (vi l1), some (vi l2), some (vi l3), none, none] (by decide) rfl (Nat.le_of_ble_eq_true rfl) rfl h
set_option maxRecDepth 20000 in
theorem B_M_layField_0 {n : Nat} {R : xR} {M : xM} {P : xM → Prop} (hn : 93 ≤ n) (hR : RC 93 R) {l1 l2 : Int} (hvc : (∀ M1 : xM, M1 = xU M 78 0 l2 → (∀ M2 : xM, M2 = xU M1 78 1 (xShl 1 l2) → Xv m_M_layField 1 n R P 14 [some (vr 78), some (vi l1), some (vi l2), some (vi 0), none] [] M2))) : Xv m_M_layField 1 n R P 0 [some (vr 78), some (vi l1), some (vi l2), none, none] [] M := by
  intro Q hQ
  refine x_aload_n (pc := 0) d_M_layField_0 rfl rfl ?_
  refine x_iload_n (pc := 1) d_M_layField_1 rfl rfl ?_
  refine x_putI (k := 78) (ci := 7) (pc := 2) 0 d_M_layField_2 cok7 rfl (Nat.lt_of_lt_of_le (by decide) hn) rfl (by decide) rfl rfl rfl w_564 (fun M1 eM1 => ?_)
  have hvc := hvc M1 eM1
  refine x_aload_n (pc := 5) d_M_layField_5 rfl rfl ?_
  refine x_iconst (pc := 6) d_M_layField_6 ?_
  refine x_iload_n (pc := 7) d_M_layField_7 rfl rfl ?_
  refine x_ishl (pc := 8) d_M_layField_8 ?_
  refine x_putI (k := 78) (ci := 7) (pc := 9) 1 d_M_layField_9 cok7 rfl (Nat.lt_of_lt_of_le (by decide) hn) rfl (by decide) rfl rfl rfl w_565 (fun M2 eM2 => ?_)
  have hvc := hvc M2 eM2
  refine x_iconst (pc := 12) d_M_layField_12 ?_
  refine x_istore_n (pc := 13) d_M_layField_13 rfl (by decide) ?_
  exact x_locals (xmask [true, true, true, true, false] _) (xmask_sub _ _) (hvc Q hQ)
set_option maxRecDepth 20000 in
theorem B_M_layField_14 {n : Nat} {R : xR} {M : xM} {P : xM → Prop} (hn : 93 ≤ n) (hR : RC 93 R) {l1 l2 l3 : Int} (hvc : (-2147483648 ≤ l3 ∧ l3 < 2147483648) ∧ (-2147483648 ≤ M 78 1 ∧ M 78 1 < 2147483648) ∧ (((M 78 1) ≤ l3 → (∀ M1 : xM, M1 = xU M 80 0 1 → Xv m_M_layField 1 n R P 75 [some (vr 78), some (vi l1), some (vi l2), some (vi 1), none] [] M1)) ∧ (¬ (M 78 1) ≤ l3 → Xv m_M_layField 1 n R P 25 [some (vr 78), some (vi l1), some (vi l2), some (vi l3), some (vi 0)] [] M))) : Xv m_M_layField 1 n R P 14 [some (vr 78), some (vi l1), some (vi l2), some (vi l3), none] [] M := by
  intro Q hQ
  refine x_iload_n (pc := 14) d_M_layField_14 rfl rfl ?_
  refine x_aload_n (pc := 15) d_M_layField_15 rfl rfl ?_
  refine x_getI (k := 78) (ci := 7) (pc := 16) 1 d_M_layField_16 cok7 rfl (Nat.lt_of_lt_of_le (by decide) hn) rfl (by decide) rfl w_565 ?_
  obtain ⟨h1, hvc⟩ := hvc
  obtain ⟨h2, hvc⟩ := hvc
  refine x_icmp_ge (tgt := 66) (pc := 19) d_M_layField_19 rfl h1 h2 (fun hb => ?_) (fun hb => ?_)
  · have hvc := hvc.1 hb
    refine x_aload_n (pc := 66) d_M_layField_66 rfl rfl ?_
    refine x_getR (k := 78) (ci := 7) (pc := 67) (t := 80) 3 d_M_layField_67 cok7 rfl (Nat.lt_of_lt_of_le (by decide) hn) rfl (by decide) rfl (hR.at 78 3 rfl rfl) w_567 ?_
    refine x_iconst (pc := 70) d_M_layField_70 ?_
    refine x_iconst (pc := 71) d_M_layField_71 ?_
    refine x_iast (N := 32) (pc := 72) d_M_layField_72 (Nat.lt_of_lt_of_le (by decide) hn) rfl (by decide) (by decide) (by decide) (fun M1 eM1 => ?_)
    have hvc := hvc M1 eM1
    refine x_iconst (pc := 73) d_M_layField_73 ?_
    refine x_istore_n (pc := 74) d_M_layField_74 rfl (by decide) ?_
    exact x_locals (xmask [true, true, true, true, false] _) (xmask_sub _ _) (hvc Q hQ)
  · have hvc := hvc.2 hb
    refine x_iconst (pc := 22) d_M_layField_22 ?_
    refine x_istore (pc := 23) d_M_layField_23 (by decide) ?_
    exact x_locals (xmask [true, true, true, true, true] _) (xmask_sub _ _) (hvc Q hQ)
set_option maxRecDepth 20000 in
theorem B_M_layField_25 {n : Nat} {R : xR} {M : xM} {P : xM → Prop} (hn : 93 ≤ n) (hR : RC 93 R) {l1 l2 l3 l4 : Int} (hvc : (-2147483648 ≤ l4 ∧ l4 < 2147483648) ∧ (-2147483648 ≤ M 78 1 ∧ M 78 1 < 2147483648) ∧ (((M 78 1) ≤ l4 → Xv m_M_layField 1 n R P 14 [some (vr 78), some (vi l1), some (vi l2), some (vi (l3 + 1)), none] [] M) ∧ (¬ (M 78 1) ≤ l4 → Ci m_M_rest 0 n R [vi l3, vi l4, vi l1, vi l2] M (fun z3 M1 => (0 ≤ (32 * l3) + l4 ∧ (32 * l3) + l4 < 1024) ∧ (∀ M2 : xM, M2 = xU M1 79 ((32 * l3) + l4).toNat z3 → Xv m_M_layField 1 n R P 25 [some (vr 78), some (vi l1), some (vi l2), some (vi l3), some (vi (l4 + 1))] [] M2))))) : Xv m_M_layField 1 n R P 25 [some (vr 78), some (vi l1), some (vi l2), some (vi l3), some (vi l4)] [] M := by
  intro Q hQ
  refine x_iload (pc := 25) d_M_layField_25 rfl ?_
  refine x_aload_n (pc := 27) d_M_layField_27 rfl rfl ?_
  refine x_getI (k := 78) (ci := 7) (pc := 28) 1 d_M_layField_28 cok7 rfl (Nat.lt_of_lt_of_le (by decide) hn) rfl (by decide) rfl w_565 ?_
  obtain ⟨h1, hvc⟩ := hvc
  obtain ⟨h2, hvc⟩ := hvc
  refine x_icmp_ge (tgt := 60) (pc := 31) d_M_layField_31 rfl h1 h2 (fun hb => ?_) (fun hb => ?_)
  · have hvc := hvc.1 hb
    refine x_iinc (pc := 60) d_M_layField_60 rfl (by decide) ?_
    refine x_goto (tgt := 14) (pc := 63) d_M_layField_63 rfl ?_
    exact x_locals (xmask [true, true, true, true, false] _) (xmask_sub _ _) (hvc Q hQ)
  · have hvc := hvc.2 hb
    refine x_aload_n (pc := 34) d_M_layField_34 rfl rfl ?_
    refine x_getR (k := 78) (ci := 7) (pc := 35) (t := 79) 2 d_M_layField_35 cok7 rfl (Nat.lt_of_lt_of_le (by decide) hn) rfl (by decide) rfl (hR.at 78 2 rfl rfl) w_566 ?_
    refine x_bipush (pc := 38) d_M_layField_38 (by decide) ?_
    refine x_iload_n (pc := 40) d_M_layField_40 rfl rfl ?_
    refine x_imul (pc := 41) d_M_layField_41 ?_
    refine x_iload (pc := 42) d_M_layField_42 rfl ?_
    refine x_iadd (pc := 44) d_M_layField_44 ?_
    refine x_iload_n (pc := 45) d_M_layField_45 rfl rfl ?_
    refine x_iload (pc := 46) d_M_layField_46 rfl ?_
    refine x_iload_n (pc := 48) d_M_layField_48 rfl rfl ?_
    refine x_iload_n (pc := 49) d_M_layField_49 rfl rfl ?_
    refine y_callSi m_M_rest 0 68 [_, _, _, _] [_, _] rfl (pc := 50) d_M_layField_50 ok_M_rest w_557 w_558 pn_M_rest (by decide) (Nat.le_of_ble_eq_true rfl) (Nat.le_refl _) (Nat.le_refl _) hvc (fun z3 M1 hvc => ?_)
    obtain ⟨h4, hvc⟩ := hvc
    refine x_iast (N := 1024) (pc := 53) d_M_layField_53 (Nat.lt_of_lt_of_le (by decide) hn) rfl (by decide) h4.1 h4.2 (fun M2 eM2 => ?_)
    have hvc := hvc M2 eM2
    refine x_iinc (pc := 54) d_M_layField_54 rfl (by decide) ?_
    refine x_goto (tgt := 25) (pc := 57) d_M_layField_57 rfl ?_
    exact x_locals (xmask [true, true, true, true, true] _) (xmask_sub _ _) (hvc Q hQ)
set_option maxRecDepth 20000 in
theorem B_M_layField_75 {n : Nat} {R : xR} {M : xM} {P : xM → Prop} (hn : 93 ≤ n) (hR : RC 93 R) {l1 l2 l3 : Int} (hvc : (-2147483648 ≤ l3 ∧ l3 < 2147483648) ∧ (-2147483648 ≤ M 78 1 ∧ M 78 1 < 2147483648) ∧ (((M 78 1) ≤ l3 → P M) ∧ (¬ (M 78 1) ≤ l3 → (0 ≤ l3 - 1 ∧ l3 - 1 < 32) ∧ (0 ≤ (32 * (M 80 (l3 - 1).toNat)) + 2 ∧ (32 * (M 80 (l3 - 1).toNat)) + 2 < 1024) ∧ (0 ≤ l3 ∧ l3 < 32) ∧ (∀ M1 : xM, M1 = xU M 80 l3.toNat (M 79 ((32 * (M 80 (l3 - 1).toNat)) + 2).toNat) → Xv m_M_layField 1 n R P 75 [some (vr 78), some (vi l1), some (vi l2), some (vi (l3 + 1)), none] [] M1)))) : Xv m_M_layField 1 n R P 75 [some (vr 78), some (vi l1), some (vi l2), some (vi l3), none] [] M := by
  intro Q hQ
  refine x_iload_n (pc := 75) d_M_layField_75 rfl rfl ?_
  refine x_aload_n (pc := 76) d_M_layField_76 rfl rfl ?_
  refine x_getI (k := 78) (ci := 7) (pc := 77) 1 d_M_layField_77 cok7 rfl (Nat.lt_of_lt_of_le (by decide) hn) rfl (by decide) rfl w_565 ?_
  obtain ⟨h1, hvc⟩ := hvc
  obtain ⟨h2, hvc⟩ := hvc
  refine x_icmp_ge (tgt := 113) (pc := 80) d_M_layField_80 rfl h1 h2 (fun hb => ?_) (fun hb => ?_)
  · have hvc := hvc.1 hb
    exact x_vret (pc := 113) d_M_layField_113 rfl rfl (Nat.le_refl _) (hQ _ hvc)
  · have hvc := hvc.2 hb
    refine x_aload_n (pc := 83) d_M_layField_83 rfl rfl ?_
    refine x_getR (k := 78) (ci := 7) (pc := 84) (t := 80) 3 d_M_layField_84 cok7 rfl (Nat.lt_of_lt_of_le (by decide) hn) rfl (by decide) rfl (hR.at 78 3 rfl rfl) w_567 ?_
    refine x_iload_n (pc := 87) d_M_layField_87 rfl rfl ?_
    refine x_aload_n (pc := 88) d_M_layField_88 rfl rfl ?_
    refine x_getR (k := 78) (ci := 7) (pc := 89) (t := 79) 2 d_M_layField_89 cok7 rfl (Nat.lt_of_lt_of_le (by decide) hn) rfl (by decide) rfl (hR.at 78 2 rfl rfl) w_566 ?_
    refine x_bipush (pc := 92) d_M_layField_92 (by decide) ?_
    refine x_aload_n (pc := 94) d_M_layField_94 rfl rfl ?_
    refine x_getR (k := 78) (ci := 7) (pc := 95) (t := 80) 3 d_M_layField_95 cok7 rfl (Nat.lt_of_lt_of_le (by decide) hn) rfl (by decide) rfl (hR.at 78 3 rfl rfl) w_567 ?_
    refine x_iload_n (pc := 98) d_M_layField_98 rfl rfl ?_
    refine x_iconst (pc := 99) d_M_layField_99 ?_
    refine x_isub (pc := 100) d_M_layField_100 ?_
    obtain ⟨h3, hvc⟩ := hvc
    refine x_iald (N := 32) (pc := 101) d_M_layField_101 (Nat.lt_of_lt_of_le (by decide) hn) rfl (by decide) h3.1 h3.2 ?_
    refine x_imul (pc := 102) d_M_layField_102 ?_
    refine x_iconst (pc := 103) d_M_layField_103 ?_
    refine x_iadd (pc := 104) d_M_layField_104 ?_
    obtain ⟨h4, hvc⟩ := hvc
    refine x_iald (N := 1024) (pc := 105) d_M_layField_105 (Nat.lt_of_lt_of_le (by decide) hn) rfl (by decide) h4.1 h4.2 ?_
    obtain ⟨h5, hvc⟩ := hvc
    refine x_iast (N := 32) (pc := 106) d_M_layField_106 (Nat.lt_of_lt_of_le (by decide) hn) rfl (by decide) h5.1 h5.2 (fun M1 eM1 => ?_)
    have hvc := hvc M1 eM1
    refine x_iinc (pc := 107) d_M_layField_107 rfl (by decide) ?_
    refine x_goto (tgt := 75) (pc := 110) d_M_layField_110 rfl ?_
    exact x_locals (xmask [true, true, true, true, false] _) (xmask_sub _ _) (hvc Q hQ)
set_option maxRecDepth 20000 in
theorem E_M_layField {n : Nat} {R : xR} {M : xM} {P : xM → Prop} (hn : 93 ≤ n) (hR : RC 93 R) {l1 l2 : Int} (h : Xv m_M_layField 1 n R P 0 [some (vr 78), some (vi l1), some (vi l2), none, none] [] M) : Cv m_M_layField 1 n R [vr 78, vi l1, vi l2] M P :=
  Cv.of [some (vr 78), some (vi l1), some (vi l2), none, none] (by decide) rfl (Nat.le_of_ble_eq_true rfl) rfl h
set_option maxRecDepth 20000 in
theorem B_M_isPrimitive_0 {n : Nat} {R : xR} {M : xM} {P : Int → xM → Prop} (hn : 93 ≤ n) (hR : RC 93 R) {l0 l1 : Int} (hvc : Xi m_M_isPrimitive 1 n R P 4 [some (vi l0), some (vi l1), some (vi 1), some (vi 1)] [] M) : Xi m_M_isPrimitive 1 n R P 0 [some (vi l0), some (vi l1), none, none] [] M := by
  intro Q hQ
  refine x_iconst (pc := 0) d_M_isPrimitive_0 ?_
  refine x_istore_n (pc := 1) d_M_isPrimitive_1 rfl (by decide) ?_
  refine x_iconst (pc := 2) d_M_isPrimitive_2 ?_
  refine x_istore_n (pc := 3) d_M_isPrimitive_3 rfl (by decide) ?_
  exact x_locals (xmask [true, true, true, true] _) (xmask_sub _ _) (hvc Q hQ)
set_option maxRecDepth 20000 in
theorem B_M_isPrimitive_4 {n : Nat} {R : xR} {M : xM} {P : Int → xM → Prop} (hn : 93 ≤ n) (hR : RC 93 R) {l0 l1 l2 l3 : Int} (hvc : (-2147483648 ≤ l3 ∧ l3 < 2147483648) ∧ (-2147483648 ≤ xShl 1 l1 ∧ xShl 1 l1 < 2147483648) ∧ (((xShl 1 l1) ≤ l3 → P 0 M) ∧ (¬ (xShl 1 l1) ≤ l3 → Ci m_M_rest 0 n R [vi l2, vi 2, vi l0, vi l1] M (fun z3 M1 => (-2147483648 ≤ z3 ∧ z3 < 2147483648) ∧ ((¬ z3 = 1 → Xi m_M_isPrimitive 1 n R P 4 [some (vi l0), some (vi l1), some (vi z3), some (vi (l3 + 1))] [] M1) ∧ (z3 = 1 → (-2147483648 ≤ (xShl 1 l1) - 1 ∧ (xShl 1 l1) - 1 < 2147483648) ∧ ((¬ l3 = ((xShl 1 l1) - 1) → P 0 M1) ∧ (l3 = ((xShl 1 l1) - 1) → P 1 M1)))))))) : Xi m_M_isPrimitive 1 n R P 4 [some (vi l0), some (vi l1), some (vi l2), some (vi l3)] [] M := by
  intro Q hQ
  refine x_iload_n (pc := 4) d_M_isPrimitive_4 rfl rfl ?_
  refine x_iconst (pc := 5) d_M_isPrimitive_5 ?_
  refine x_iload_n (pc := 6) d_M_isPrimitive_6 rfl rfl ?_
  refine x_ishl (pc := 7) d_M_isPrimitive_7 ?_
  obtain ⟨h1, hvc⟩ := hvc
  obtain ⟨h2, hvc⟩ := hvc
  refine x_icmp_ge (tgt := 45) (pc := 8) d_M_isPrimitive_8 rfl h1 h2 (fun hb => ?_) (fun hb => ?_)
  · have hvc := hvc.1 hb
    refine x_iconst (pc := 45) d_M_isPrimitive_45 ?_
    exact x_zret (pc := 46) d_M_isPrimitive_46 rfl (by decide) rfl (Nat.le_refl _) (hQ _ _ hvc)
  · have hvc := hvc.2 hb
    refine x_iload_n (pc := 11) d_M_isPrimitive_11 rfl rfl ?_
    refine x_iconst (pc := 12) d_M_isPrimitive_12 ?_
    refine x_iload_n (pc := 13) d_M_isPrimitive_13 rfl rfl ?_
    refine x_iload_n (pc := 14) d_M_isPrimitive_14 rfl rfl ?_
    refine y_callSi m_M_rest 0 68 [_, _, _, _] [] rfl (pc := 15) d_M_isPrimitive_15 ok_M_rest w_557 w_558 pn_M_rest (by decide) (Nat.le_of_ble_eq_true rfl) (Nat.le_refl _) (Nat.le_refl _) hvc (fun z3 M1 hvc => ?_)
    refine x_istore_n (pc := 18) d_M_isPrimitive_18 rfl (by decide) ?_
    refine x_iload_n (pc := 19) d_M_isPrimitive_19 rfl rfl ?_
    refine x_iconst (pc := 20) d_M_isPrimitive_20 ?_
    obtain ⟨h4, hvc⟩ := hvc
    refine x_icmp_ne (tgt := 39) (pc := 21) d_M_isPrimitive_21 rfl h4 ⟨by decide, by decide⟩ (fun hb => ?_) (fun hb => ?_)
    · have hvc := hvc.1 hb
      refine x_iinc (pc := 39) d_M_isPrimitive_39 rfl (by decide) ?_
      refine x_goto (tgt := 4) (pc := 42) d_M_isPrimitive_42 rfl ?_
      exact x_locals (xmask [true, true, true, true] _) (xmask_sub _ _) (hvc Q hQ)
    · have hvc := hvc.2 hb
      refine x_iload_n (pc := 24) d_M_isPrimitive_24 rfl rfl ?_
      refine x_iconst (pc := 25) d_M_isPrimitive_25 ?_
      refine x_iload_n (pc := 26) d_M_isPrimitive_26 rfl rfl ?_
      refine x_ishl (pc := 27) d_M_isPrimitive_27 ?_
      refine x_iconst (pc := 28) d_M_isPrimitive_28 ?_
      refine x_isub (pc := 29) d_M_isPrimitive_29 ?_
      obtain ⟨h5, hvc⟩ := hvc
      refine x_icmp_ne (tgt := 37) (pc := 30) d_M_isPrimitive_30 rfl h1 h5 (fun hb => ?_) (fun hb => ?_)
      · have hvc := hvc.1 hb
        refine x_iconst (pc := 37) d_M_isPrimitive_37 ?_
        exact x_zret (pc := 38) d_M_isPrimitive_38 rfl (by decide) rfl (Nat.le_refl _) (hQ _ _ hvc)
      · have hvc := hvc.2 hb
        refine x_iconst (pc := 33) d_M_isPrimitive_33 ?_
        refine x_goto (tgt := 38) (pc := 34) d_M_isPrimitive_34 rfl ?_
        exact x_zret (pc := 38) d_M_isPrimitive_38 rfl (by decide) rfl (Nat.le_refl _) (hQ _ _ hvc)
set_option maxRecDepth 20000 in
theorem E_M_isPrimitive {n : Nat} {R : xR} {M : xM} {P : Int → xM → Prop} (hn : 93 ≤ n) (hR : RC 93 R) {l0 l1 : Int} (h : Xi m_M_isPrimitive 1 n R P 0 [some (vi l0), some (vi l1), none, none] [] M) : Ci m_M_isPrimitive 1 n R [vi l0, vi l1] M P :=
  Ci.of [some (vi l0), some (vi l1), none, none] (by decide) rfl (Nat.le_of_ble_eq_true rfl) rfl h
set_option maxRecDepth 20000 in
theorem B_M_isElement_0 {n : Nat} {R : xR} {M : xM} {P : Int → xM → Prop} (hn : 93 ≤ n) (hR : RC 93 R) {l1 : Int} (hvc : (-2147483648 ≤ l1 ∧ l1 < 2147483648) ∧ ((l1 < 0 → P 0 M) ∧ (¬ l1 < 0 → (-2147483648 ≤ M 78 1 ∧ M 78 1 < 2147483648) ∧ (((M 78 1) ≤ l1 → P 0 M) ∧ (¬ (M 78 1) ≤ l1 → P 1 M))))) : Xi m_M_isElement 0 n R P 0 [some (vr 78), some (vi l1)] [] M := by
  intro Q hQ
  refine x_iload_n (pc := 0) d_M_isElement_0 rfl rfl ?_
  obtain ⟨h1, hvc⟩ := hvc
  refine x_if_lt (tgt := 16) (pc := 1) d_M_isElement_1 rfl h1 (fun hb => ?_) (fun hb => ?_)
  · have hvc := hvc.1 hb
    refine x_iconst (pc := 16) d_M_isElement_16 ?_
    exact x_zret (pc := 17) d_M_isElement_17 rfl (by decide) rfl (Nat.le_refl _) (hQ _ _ hvc)
  · have hvc := hvc.2 hb
    refine x_iload_n (pc := 4) d_M_isElement_4 rfl rfl ?_
    refine x_aload_n (pc := 5) d_M_isElement_5 rfl rfl ?_
    refine x_getI (k := 78) (ci := 7) (pc := 6) 1 d_M_isElement_6 cok7 rfl (Nat.lt_of_lt_of_le (by decide) hn) rfl (by decide) rfl w_565 ?_
    obtain ⟨h2, hvc⟩ := hvc
    refine x_icmp_ge (tgt := 16) (pc := 9) d_M_isElement_9 rfl h1 h2 (fun hb => ?_) (fun hb => ?_)
    · have hvc := hvc.1 hb
      refine x_iconst (pc := 16) d_M_isElement_16 ?_
      exact x_zret (pc := 17) d_M_isElement_17 rfl (by decide) rfl (Nat.le_refl _) (hQ _ _ hvc)
    · have hvc := hvc.2 hb
      refine x_iconst (pc := 12) d_M_isElement_12 ?_
      refine x_goto (tgt := 17) (pc := 13) d_M_isElement_13 rfl ?_
      exact x_zret (pc := 17) d_M_isElement_17 rfl (by decide) rfl (Nat.le_refl _) (hQ _ _ hvc)
set_option maxRecDepth 20000 in
theorem E_M_isElement {n : Nat} {R : xR} {M : xM} {P : Int → xM → Prop} (hn : 93 ≤ n) (hR : RC 93 R) {l1 : Int} (h : Xi m_M_isElement 0 n R P 0 [some (vr 78), some (vi l1)] [] M) : Ci m_M_isElement 0 n R [vr 78, vi l1] M P :=
  Ci.of [some (vr 78), some (vi l1)] (by decide) rfl (Nat.le_of_ble_eq_true rfl) rfl h
set_option maxRecDepth 20000 in
theorem B_M_field_0 {n : Nat} {R : xR} {M : xM} {P : Int → xM → Prop} (hn : 93 ≤ n) (hR : RC 93 R) {l1 : Int} (hvc : (-2147483648 ≤ l1 ∧ l1 < 2147483648) ∧ ((l1 < 8 → P ((-1)) M) ∧ (¬ l1 < 8 → ((l1 ≤ 63 → ((16 ≤ l1 → ((32 ≤ l1 → Ci m_M_isPrimitive 1 n R [vi l1, vi 5] M (fun z2 M1 => (-2147483648 ≤ z2 ∧ z2 < 2147483648) ∧ ((¬ z2 = 0 → Cv m_M_layField 1 n R [vr 78, vi l1, vi 5] M1 (fun M2 => (-2147483648 ≤ M2 78 1 ∧ M2 78 1 < 2147483648) ∧ (((M2 78 1) ≤ 20 → Cv m_M_layCode 0 n R [vr 78, vi 0, vi ((M2 78 1) - 1), vi 2] M2 (fun M3 => P (M3 78 0) M3)) ∧ (¬ (M2 78 1) ≤ 20 → Cv m_M_layCode 0 n R [vr 78, vi 0, vi 20, vi 2] M2 (fun M4 => P (M4 78 0) M4))))) ∧ (z2 = 0 → P ((-4)) M1)))) ∧ (¬ 32 ≤ l1 → Ci m_M_isPrimitive 1 n R [vi l1, vi 4] M (fun z5 M5 => (-2147483648 ≤ z5 ∧ z5 < 2147483648) ∧ ((¬ z5 = 0 → Cv m_M_layField 1 n R [vr 78, vi l1, vi 4] M5 (fun M6 => (-2147483648 ≤ M6 78 1 ∧ M6 78 1 < 2147483648) ∧ (((M6 78 1) ≤ 20 → Cv m_M_layCode 0 n R [vr 78, vi 0, vi ((M6 78 1) - 1), vi 2] M6 (fun M7 => P (M7 78 0) M7)) ∧ (¬ (M6 78 1) ≤ 20 → Cv m_M_layCode 0 n R [vr 78, vi 0, vi 20, vi 2] M6 (fun M8 => P (M8 78 0) M8))))) ∧ (z5 = 0 → P ((-4)) M5)))))) ∧ (¬ 16 ≤ l1 → Ci m_M_isPrimitive 1 n R [vi l1, vi 3] M (fun z8 M9 => (-2147483648 ≤ z8 ∧ z8 < 2147483648) ∧ ((¬ z8 = 0 → Cv m_M_layField 1 n R [vr 78, vi l1, vi 3] M9 (fun M10 => (-2147483648 ≤ M10 78 1 ∧ M10 78 1 < 2147483648) ∧ (((M10 78 1) ≤ 20 → Cv m_M_layCode 0 n R [vr 78, vi 0, vi ((M10 78 1) - 1), vi 2] M10 (fun M11 => P (M11 78 0) M11)) ∧ (¬ (M10 78 1) ≤ 20 → Cv m_M_layCode 0 n R [vr 78, vi 0, vi 20, vi 2] M10 (fun M12 => P (M12 78 0) M12))))) ∧ (z8 = 0 → P ((-4)) M9)))))) ∧ (¬ l1 ≤ 63 → P ((-1)) M))))) : Xi m_M_field 2 n R P 0 [some (vr 78), some (vi l1), none] [] M := by
  intro Q hQ
  refine x_iload_n (pc := 0) d_M_field_0 rfl rfl ?_
  refine x_bipush (pc := 1) d_M_field_1 (by decide) ?_
  obtain ⟨h1, hvc⟩ := hvc
  refine x_icmp_lt (tgt := 12) (pc := 3) d_M_field_3 rfl h1 ⟨by decide, by decide⟩ (fun hb => ?_) (fun hb => ?_)
  · have hvc := hvc.1 hb
    refine x_iconst (pc := 12) d_M_field_12 ?_
    exact x_iret (pc := 13) d_M_field_13 rfl rfl (Nat.le_refl _) (hQ _ _ hvc)
  · have hvc := hvc.2 hb
    refine x_iload_n (pc := 6) d_M_field_6 rfl rfl ?_
    refine x_bipush (pc := 7) d_M_field_7 (by decide) ?_
    refine x_icmp_le (tgt := 14) (pc := 9) d_M_field_9 rfl h1 ⟨by decide, by decide⟩ (fun hb => ?_) (fun hb => ?_)
    · have hvc := hvc.1 hb
      refine x_iload_n (pc := 14) d_M_field_14 rfl rfl ?_
      refine x_bipush (pc := 15) d_M_field_15 (by decide) ?_
      refine x_icmp_ge (tgt := 24) (pc := 17) d_M_field_17 rfl h1 ⟨by decide, by decide⟩ (fun hb => ?_) (fun hb => ?_)
      · have hvc := hvc.1 hb
        refine x_iload_n (pc := 24) d_M_field_24 rfl rfl ?_
        refine x_bipush (pc := 25) d_M_field_25 (by decide) ?_
        refine x_icmp_ge (tgt := 34) (pc := 27) d_M_field_27 rfl h1 ⟨by decide, by decide⟩ (fun hb => ?_) (fun hb => ?_)
        · have hvc := hvc.1 hb
          refine x_iconst (pc := 34) d_M_field_34 ?_
          refine x_istore_n (pc := 35) d_M_field_35 rfl (by decide) ?_
          refine x_iload_n (pc := 36) d_M_field_36 rfl rfl ?_
          refine x_iload_n (pc := 37) d_M_field_37 rfl rfl ?_
          refine y_callSi m_M_isPrimitive 1 72 [_, _] [] rfl (pc := 38) d_M_field_38 ok_M_isPrimitive w_632 w_633 pn_M_isPrimitive (by decide) (Nat.le_of_ble_eq_true rfl) (Nat.le_refl _) (Nat.le_refl _) hvc (fun z2 M1 hvc => ?_)
          obtain ⟨h3, hvc⟩ := hvc
          refine x_if_ne (tgt := 47) (pc := 41) d_M_field_41 rfl h3 (fun hb => ?_) (fun hb => ?_)
          · have hvc := hvc.1 hb
            refine x_aload_n (pc := 47) d_M_field_47 rfl rfl ?_
            refine x_iload_n (pc := 48) d_M_field_48 rfl rfl ?_
            refine x_iload_n (pc := 49) d_M_field_49 rfl rfl ?_
            refine y_callVv m_M_layField 1 53 78 7 21 [_, _] [] rfl (pc := 50) d_M_field_50 ok_M_layField w_553 w_555 w_20 pn_M_layField (Nat.lt_of_lt_of_le (by decide) hn) rfl rfl (by decide) (Nat.le_of_ble_eq_true rfl) (Nat.le_refl _) (Nat.le_refl _) hvc (fun M2 hvc => ?_)
            refine x_aload_n (pc := 53) d_M_field_53 rfl rfl ?_
            refine x_iconst (pc := 54) d_M_field_54 ?_
            refine x_aload_n (pc := 55) d_M_field_55 rfl rfl ?_
            refine x_getI (k := 78) (ci := 7) (pc := 56) 1 d_M_field_56 cok7 rfl (Nat.lt_of_lt_of_le (by decide) hn) rfl (by decide) rfl w_565 ?_
            refine x_bipush (pc := 59) d_M_field_59 (by decide) ?_
            obtain ⟨h4, hvc⟩ := hvc
            refine x_icmp_le (tgt := 69) (pc := 61) d_M_field_61 rfl h4 ⟨by decide, by decide⟩ (fun hb => ?_) (fun hb => ?_)
            · have hvc := hvc.1 hb
              refine x_aload_n (pc := 69) d_M_field_69 rfl rfl ?_
              refine x_getI (k := 78) (ci := 7) (pc := 70) 1 d_M_field_70 cok7 rfl (Nat.lt_of_lt_of_le (by decide) hn) rfl (by decide) rfl w_565 ?_
              refine x_iconst (pc := 73) d_M_field_73 ?_
              refine x_isub (pc := 74) d_M_field_74 ?_
              refine x_iconst (pc := 75) d_M_field_75 ?_
              refine y_callVv m_M_layCode 0 57 78 7 21 [_, _, _] [] rfl (pc := 76) d_M_field_76 ok_M_layCode w_560 w_562 w_21 pn_M_layCode (Nat.lt_of_lt_of_le (by decide) hn) rfl rfl (by decide) (Nat.le_of_ble_eq_true rfl) (Nat.le_refl _) (Nat.le_refl _) hvc (fun M3 hvc => ?_)
              refine x_aload_n (pc := 79) d_M_field_79 rfl rfl ?_
              refine x_getI (k := 78) (ci := 7) (pc := 80) 0 d_M_field_80 cok7 rfl (Nat.lt_of_lt_of_le (by decide) hn) rfl (by decide) rfl w_564 ?_
              exact x_iret (pc := 83) d_M_field_83 rfl rfl (Nat.le_refl _) (hQ _ _ hvc)
            · have hvc := hvc.2 hb
              refine x_bipush (pc := 64) d_M_field_64 (by decide) ?_
              refine x_goto (tgt := 75) (pc := 66) d_M_field_66 rfl ?_
              refine x_iconst (pc := 75) d_M_field_75 ?_
              refine y_callVv m_M_layCode 0 57 78 7 21 [_, _, _] [] rfl (pc := 76) d_M_field_76 ok_M_layCode w_560 w_562 w_21 pn_M_layCode (Nat.lt_of_lt_of_le (by decide) hn) rfl rfl (by decide) (Nat.le_of_ble_eq_true rfl) (Nat.le_refl _) (Nat.le_refl _) hvc (fun M4 hvc => ?_)
              refine x_aload_n (pc := 79) d_M_field_79 rfl rfl ?_
              refine x_getI (k := 78) (ci := 7) (pc := 80) 0 d_M_field_80 cok7 rfl (Nat.lt_of_lt_of_le (by decide) hn) rfl (by decide) rfl w_564 ?_
              exact x_iret (pc := 83) d_M_field_83 rfl rfl (Nat.le_refl _) (hQ _ _ hvc)
          · have hvc := hvc.2 hb
            refine x_bipush (pc := 44) d_M_field_44 (by decide) ?_
            exact x_iret (pc := 46) d_M_field_46 rfl rfl (Nat.le_refl _) (hQ _ _ hvc)
        · have hvc := hvc.2 hb
          refine x_iconst (pc := 30) d_M_field_30 ?_
          refine x_goto (tgt := 35) (pc := 31) d_M_field_31 rfl ?_
          refine x_istore_n (pc := 35) d_M_field_35 rfl (by decide) ?_
          refine x_iload_n (pc := 36) d_M_field_36 rfl rfl ?_
          refine x_iload_n (pc := 37) d_M_field_37 rfl rfl ?_
          refine y_callSi m_M_isPrimitive 1 72 [_, _] [] rfl (pc := 38) d_M_field_38 ok_M_isPrimitive w_632 w_633 pn_M_isPrimitive (by decide) (Nat.le_of_ble_eq_true rfl) (Nat.le_refl _) (Nat.le_refl _) hvc (fun z5 M5 hvc => ?_)
          obtain ⟨h6, hvc⟩ := hvc
          refine x_if_ne (tgt := 47) (pc := 41) d_M_field_41 rfl h6 (fun hb => ?_) (fun hb => ?_)
          · have hvc := hvc.1 hb
            refine x_aload_n (pc := 47) d_M_field_47 rfl rfl ?_
            refine x_iload_n (pc := 48) d_M_field_48 rfl rfl ?_
            refine x_iload_n (pc := 49) d_M_field_49 rfl rfl ?_
            refine y_callVv m_M_layField 1 53 78 7 21 [_, _] [] rfl (pc := 50) d_M_field_50 ok_M_layField w_553 w_555 w_20 pn_M_layField (Nat.lt_of_lt_of_le (by decide) hn) rfl rfl (by decide) (Nat.le_of_ble_eq_true rfl) (Nat.le_refl _) (Nat.le_refl _) hvc (fun M6 hvc => ?_)
            refine x_aload_n (pc := 53) d_M_field_53 rfl rfl ?_
            refine x_iconst (pc := 54) d_M_field_54 ?_
            refine x_aload_n (pc := 55) d_M_field_55 rfl rfl ?_
            refine x_getI (k := 78) (ci := 7) (pc := 56) 1 d_M_field_56 cok7 rfl (Nat.lt_of_lt_of_le (by decide) hn) rfl (by decide) rfl w_565 ?_
            refine x_bipush (pc := 59) d_M_field_59 (by decide) ?_
            obtain ⟨h7, hvc⟩ := hvc
            refine x_icmp_le (tgt := 69) (pc := 61) d_M_field_61 rfl h7 ⟨by decide, by decide⟩ (fun hb => ?_) (fun hb => ?_)
            · have hvc := hvc.1 hb
              refine x_aload_n (pc := 69) d_M_field_69 rfl rfl ?_
              refine x_getI (k := 78) (ci := 7) (pc := 70) 1 d_M_field_70 cok7 rfl (Nat.lt_of_lt_of_le (by decide) hn) rfl (by decide) rfl w_565 ?_
              refine x_iconst (pc := 73) d_M_field_73 ?_
              refine x_isub (pc := 74) d_M_field_74 ?_
              refine x_iconst (pc := 75) d_M_field_75 ?_
              refine y_callVv m_M_layCode 0 57 78 7 21 [_, _, _] [] rfl (pc := 76) d_M_field_76 ok_M_layCode w_560 w_562 w_21 pn_M_layCode (Nat.lt_of_lt_of_le (by decide) hn) rfl rfl (by decide) (Nat.le_of_ble_eq_true rfl) (Nat.le_refl _) (Nat.le_refl _) hvc (fun M7 hvc => ?_)
              refine x_aload_n (pc := 79) d_M_field_79 rfl rfl ?_
              refine x_getI (k := 78) (ci := 7) (pc := 80) 0 d_M_field_80 cok7 rfl (Nat.lt_of_lt_of_le (by decide) hn) rfl (by decide) rfl w_564 ?_
              exact x_iret (pc := 83) d_M_field_83 rfl rfl (Nat.le_refl _) (hQ _ _ hvc)
            · have hvc := hvc.2 hb
              refine x_bipush (pc := 64) d_M_field_64 (by decide) ?_
              refine x_goto (tgt := 75) (pc := 66) d_M_field_66 rfl ?_
              refine x_iconst (pc := 75) d_M_field_75 ?_
              refine y_callVv m_M_layCode 0 57 78 7 21 [_, _, _] [] rfl (pc := 76) d_M_field_76 ok_M_layCode w_560 w_562 w_21 pn_M_layCode (Nat.lt_of_lt_of_le (by decide) hn) rfl rfl (by decide) (Nat.le_of_ble_eq_true rfl) (Nat.le_refl _) (Nat.le_refl _) hvc (fun M8 hvc => ?_)
              refine x_aload_n (pc := 79) d_M_field_79 rfl rfl ?_
              refine x_getI (k := 78) (ci := 7) (pc := 80) 0 d_M_field_80 cok7 rfl (Nat.lt_of_lt_of_le (by decide) hn) rfl (by decide) rfl w_564 ?_
              exact x_iret (pc := 83) d_M_field_83 rfl rfl (Nat.le_refl _) (hQ _ _ hvc)
          · have hvc := hvc.2 hb
            refine x_bipush (pc := 44) d_M_field_44 (by decide) ?_
            exact x_iret (pc := 46) d_M_field_46 rfl rfl (Nat.le_refl _) (hQ _ _ hvc)
      · have hvc := hvc.2 hb
        refine x_iconst (pc := 20) d_M_field_20 ?_
        refine x_goto (tgt := 35) (pc := 21) d_M_field_21 rfl ?_
        refine x_istore_n (pc := 35) d_M_field_35 rfl (by decide) ?_
        refine x_iload_n (pc := 36) d_M_field_36 rfl rfl ?_
        refine x_iload_n (pc := 37) d_M_field_37 rfl rfl ?_
        refine y_callSi m_M_isPrimitive 1 72 [_, _] [] rfl (pc := 38) d_M_field_38 ok_M_isPrimitive w_632 w_633 pn_M_isPrimitive (by decide) (Nat.le_of_ble_eq_true rfl) (Nat.le_refl _) (Nat.le_refl _) hvc (fun z8 M9 hvc => ?_)
        obtain ⟨h9, hvc⟩ := hvc
        refine x_if_ne (tgt := 47) (pc := 41) d_M_field_41 rfl h9 (fun hb => ?_) (fun hb => ?_)
        · have hvc := hvc.1 hb
          refine x_aload_n (pc := 47) d_M_field_47 rfl rfl ?_
          refine x_iload_n (pc := 48) d_M_field_48 rfl rfl ?_
          refine x_iload_n (pc := 49) d_M_field_49 rfl rfl ?_
          refine y_callVv m_M_layField 1 53 78 7 21 [_, _] [] rfl (pc := 50) d_M_field_50 ok_M_layField w_553 w_555 w_20 pn_M_layField (Nat.lt_of_lt_of_le (by decide) hn) rfl rfl (by decide) (Nat.le_of_ble_eq_true rfl) (Nat.le_refl _) (Nat.le_refl _) hvc (fun M10 hvc => ?_)
          refine x_aload_n (pc := 53) d_M_field_53 rfl rfl ?_
          refine x_iconst (pc := 54) d_M_field_54 ?_
          refine x_aload_n (pc := 55) d_M_field_55 rfl rfl ?_
          refine x_getI (k := 78) (ci := 7) (pc := 56) 1 d_M_field_56 cok7 rfl (Nat.lt_of_lt_of_le (by decide) hn) rfl (by decide) rfl w_565 ?_
          refine x_bipush (pc := 59) d_M_field_59 (by decide) ?_
          obtain ⟨h10, hvc⟩ := hvc
          refine x_icmp_le (tgt := 69) (pc := 61) d_M_field_61 rfl h10 ⟨by decide, by decide⟩ (fun hb => ?_) (fun hb => ?_)
          · have hvc := hvc.1 hb
            refine x_aload_n (pc := 69) d_M_field_69 rfl rfl ?_
            refine x_getI (k := 78) (ci := 7) (pc := 70) 1 d_M_field_70 cok7 rfl (Nat.lt_of_lt_of_le (by decide) hn) rfl (by decide) rfl w_565 ?_
            refine x_iconst (pc := 73) d_M_field_73 ?_
            refine x_isub (pc := 74) d_M_field_74 ?_
            refine x_iconst (pc := 75) d_M_field_75 ?_
            refine y_callVv m_M_layCode 0 57 78 7 21 [_, _, _] [] rfl (pc := 76) d_M_field_76 ok_M_layCode w_560 w_562 w_21 pn_M_layCode (Nat.lt_of_lt_of_le (by decide) hn) rfl rfl (by decide) (Nat.le_of_ble_eq_true rfl) (Nat.le_refl _) (Nat.le_refl _) hvc (fun M11 hvc => ?_)
            refine x_aload_n (pc := 79) d_M_field_79 rfl rfl ?_
            refine x_getI (k := 78) (ci := 7) (pc := 80) 0 d_M_field_80 cok7 rfl (Nat.lt_of_lt_of_le (by decide) hn) rfl (by decide) rfl w_564 ?_
            exact x_iret (pc := 83) d_M_field_83 rfl rfl (Nat.le_refl _) (hQ _ _ hvc)
          · have hvc := hvc.2 hb
            refine x_bipush (pc := 64) d_M_field_64 (by decide) ?_
            refine x_goto (tgt := 75) (pc := 66) d_M_field_66 rfl ?_
            refine x_iconst (pc := 75) d_M_field_75 ?_
            refine y_callVv m_M_layCode 0 57 78 7 21 [_, _, _] [] rfl (pc := 76) d_M_field_76 ok_M_layCode w_560 w_562 w_21 pn_M_layCode (Nat.lt_of_lt_of_le (by decide) hn) rfl rfl (by decide) (Nat.le_of_ble_eq_true rfl) (Nat.le_refl _) (Nat.le_refl _) hvc (fun M12 hvc => ?_)
            refine x_aload_n (pc := 79) d_M_field_79 rfl rfl ?_
            refine x_getI (k := 78) (ci := 7) (pc := 80) 0 d_M_field_80 cok7 rfl (Nat.lt_of_lt_of_le (by decide) hn) rfl (by decide) rfl w_564 ?_
            exact x_iret (pc := 83) d_M_field_83 rfl rfl (Nat.le_refl _) (hQ _ _ hvc)
        · have hvc := hvc.2 hb
          refine x_bipush (pc := 44) d_M_field_44 (by decide) ?_
          exact x_iret (pc := 46) d_M_field_46 rfl rfl (Nat.le_refl _) (hQ _ _ hvc)
    · have hvc := hvc.2 hb
      refine x_iconst (pc := 12) d_M_field_12 ?_
      exact x_iret (pc := 13) d_M_field_13 rfl rfl (Nat.le_refl _) (hQ _ _ hvc)
set_option maxRecDepth 20000 in
theorem E_M_field {n : Nat} {R : xR} {M : xM} {P : Int → xM → Prop} (hn : 93 ≤ n) (hR : RC 93 R) {l1 : Int} (h : Xi m_M_field 2 n R P 0 [some (vr 78), some (vi l1), none] [] M) : Ci m_M_field 2 n R [vr 78, vi l1] M P :=
  Ci.of [some (vr 78), some (vi l1), none] (by decide) rfl (Nat.le_of_ble_eq_true rfl) rfl h
set_option maxRecDepth 20000 in
theorem B_M_times_0 {n : Nat} {R : xR} {M : xM} {P : Int → xM → Prop} (hn : 93 ≤ n) (hR : RC 93 R) {l1 l2 : Int} (hvc : Ci m_M_isElement 0 n R [vr 78, vi l1] M (fun z1 M1 => (-2147483648 ≤ z1 ∧ z1 < 2147483648) ∧ ((z1 = 0 → P ((-1)) M1) ∧ (¬ z1 = 0 → Ci m_M_isElement 0 n R [vr 78, vi l2] M1 (fun z3 M2 => (-2147483648 ≤ z3 ∧ z3 < 2147483648) ∧ ((z3 = 0 → P ((-1)) M2) ∧ (¬ z3 = 0 → (0 ≤ (32 * l1) + l2 ∧ (32 * l1) + l2 < 1024) ∧ P (M2 79 ((32 * l1) + l2).toNat) M2))))))) : Xi m_M_times 1 n R P 0 [some (vr 78), some (vi l1), some (vi l2)] [] M := by
  intro Q hQ
  refine x_aload_n (pc := 0) d_M_times_0 rfl rfl ?_
  refine x_iload_n (pc := 1) d_M_times_1 rfl rfl ?_
  refine y_callVi m_M_isElement 0 76 78 7 21 [_] [] rfl (pc := 2) d_M_times_2 ok_M_isElement w_639 w_641 w_22 pn_M_isElement (Nat.lt_of_lt_of_le (by decide) hn) rfl rfl (by decide) (Nat.le_of_ble_eq_true rfl) (Nat.le_refl _) (Nat.le_refl _) hvc (fun z1 M1 hvc => ?_)
  obtain ⟨h2, hvc⟩ := hvc
  refine x_if_eq (tgt := 30) (pc := 5) d_M_times_5 rfl h2 (fun hb => ?_) (fun hb => ?_)
  · have hvc := hvc.1 hb
    refine x_iconst (pc := 30) d_M_times_30 ?_
    exact x_iret (pc := 31) d_M_times_31 rfl rfl (Nat.le_refl _) (hQ _ _ hvc)
  · have hvc := hvc.2 hb
    refine x_aload_n (pc := 8) d_M_times_8 rfl rfl ?_
    refine x_iload_n (pc := 9) d_M_times_9 rfl rfl ?_
    refine y_callVi m_M_isElement 0 76 78 7 21 [_] [] rfl (pc := 10) d_M_times_10 ok_M_isElement w_639 w_641 w_22 pn_M_isElement (Nat.lt_of_lt_of_le (by decide) hn) rfl rfl (by decide) (Nat.le_of_ble_eq_true rfl) (Nat.le_refl _) (Nat.le_refl _) hvc (fun z3 M2 hvc => ?_)
    obtain ⟨h4, hvc⟩ := hvc
    refine x_if_eq (tgt := 30) (pc := 13) d_M_times_13 rfl h4 (fun hb => ?_) (fun hb => ?_)
    · have hvc := hvc.1 hb
      refine x_iconst (pc := 30) d_M_times_30 ?_
      exact x_iret (pc := 31) d_M_times_31 rfl rfl (Nat.le_refl _) (hQ _ _ hvc)
    · have hvc := hvc.2 hb
      refine x_aload_n (pc := 16) d_M_times_16 rfl rfl ?_
      refine x_getR (k := 78) (ci := 7) (pc := 17) (t := 79) 2 d_M_times_17 cok7 rfl (Nat.lt_of_lt_of_le (by decide) hn) rfl (by decide) rfl (hR.at 78 2 rfl rfl) w_566 ?_
      refine x_bipush (pc := 20) d_M_times_20 (by decide) ?_
      refine x_iload_n (pc := 22) d_M_times_22 rfl rfl ?_
      refine x_imul (pc := 23) d_M_times_23 ?_
      refine x_iload_n (pc := 24) d_M_times_24 rfl rfl ?_
      refine x_iadd (pc := 25) d_M_times_25 ?_
      obtain ⟨h5, hvc⟩ := hvc
      refine x_iald (N := 1024) (pc := 26) d_M_times_26 (Nat.lt_of_lt_of_le (by decide) hn) rfl (by decide) h5.1 h5.2 ?_
      refine x_goto (tgt := 31) (pc := 27) d_M_times_27 rfl ?_
      exact x_iret (pc := 31) d_M_times_31 rfl rfl (Nat.le_refl _) (hQ _ _ hvc)
set_option maxRecDepth 20000 in
theorem E_M_times {n : Nat} {R : xR} {M : xM} {P : Int → xM → Prop} (hn : 93 ≤ n) (hR : RC 93 R) {l1 l2 : Int} (h : Xi m_M_times 1 n R P 0 [some (vr 78), some (vi l1), some (vi l2)] [] M) : Ci m_M_times 1 n R [vr 78, vi l1, vi l2] M P :=
  Ci.of [some (vr 78), some (vi l1), some (vi l2)] (by decide) rfl (Nat.le_of_ble_eq_true rfl) rfl h
set_option maxRecDepth 20000 in
theorem B_M_quotient_0 {n : Nat} {R : xR} {M : xM} {P : Int → xM → Prop} (hn : 93 ≤ n) (hR : RC 93 R) {l1 l2 : Int} (hvc : Xi m_M_quotient 0 n R P 2 [some (vr 78), some (vi l1), some (vi l2), some (vi 0)] [] M) : Xi m_M_quotient 0 n R P 0 [some (vr 78), some (vi l1), some (vi l2), none] [] M := by
  intro Q hQ
  refine x_iconst (pc := 0) d_M_quotient_0 ?_
  refine x_istore_n (pc := 1) d_M_quotient_1 rfl (by decide) ?_
  exact x_locals (xmask [true, true, true, true] _) (xmask_sub _ _) (hvc Q hQ)
set_option maxRecDepth 20000 in
theorem B_M_quotient_2 {n : Nat} {R : xR} {M : xM} {P : Int → xM → Prop} (hn : 93 ≤ n) (hR : RC 93 R) {l1 l2 l3 : Int} (hvc : (-2147483648 ≤ l3 ∧ l3 < 2147483648) ∧ (-2147483648 ≤ M 78 1 ∧ M 78 1 < 2147483648) ∧ (((M 78 1) ≤ l3 → P l3 M) ∧ (¬ (M 78 1) ≤ l3 → (0 ≤ (32 * l3) + l2 ∧ (32 * l3) + l2 < 1024) ∧ (-2147483648 ≤ M 79 ((32 * l3) + l2).toNat ∧ M 79 ((32 * l3) + l2).toNat < 2147483648) ∧ (-2147483648 ≤ l1 ∧ l1 < 2147483648) ∧ (((M 79 ((32 * l3) + l2).toNat) = l1 → P l3 M) ∧ (¬ (M 79 ((32 * l3) + l2).toNat) = l1 → Xi m_M_quotient 0 n R P 2 [some (vr 78), some (vi l1), some (vi l2), some (vi (l3 + 1))] [] M))))) : Xi m_M_quotient 0 n R P 2 [some (vr 78), some (vi l1), some (vi l2), some (vi l3)] [] M := by
  intro Q hQ
  refine x_iload_n (pc := 2) d_M_quotient_2 rfl rfl ?_
  refine x_aload_n (pc := 3) d_M_quotient_3 rfl rfl ?_
  refine x_getI (k := 78) (ci := 7) (pc := 4) 1 d_M_quotient_4 cok7 rfl (Nat.lt_of_lt_of_le (by decide) hn) rfl (by decide) rfl w_565 ?_
  obtain ⟨h1, hvc⟩ := hvc
  obtain ⟨h2, hvc⟩ := hvc
  refine x_icmp_ge (tgt := 31) (pc := 7) d_M_quotient_7 rfl h1 h2 (fun hb => ?_) (fun hb => ?_)
  · have hvc := hvc.1 hb
    refine x_iload_n (pc := 31) d_M_quotient_31 rfl rfl ?_
    exact x_iret (pc := 32) d_M_quotient_32 rfl rfl (Nat.le_refl _) (hQ _ _ hvc)
  · have hvc := hvc.2 hb
    refine x_aload_n (pc := 10) d_M_quotient_10 rfl rfl ?_
    refine x_getR (k := 78) (ci := 7) (pc := 11) (t := 79) 2 d_M_quotient_11 cok7 rfl (Nat.lt_of_lt_of_le (by decide) hn) rfl (by decide) rfl (hR.at 78 2 rfl rfl) w_566 ?_
    refine x_bipush (pc := 14) d_M_quotient_14 (by decide) ?_
    refine x_iload_n (pc := 16) d_M_quotient_16 rfl rfl ?_
    refine x_imul (pc := 17) d_M_quotient_17 ?_
    refine x_iload_n (pc := 18) d_M_quotient_18 rfl rfl ?_
    refine x_iadd (pc := 19) d_M_quotient_19 ?_
    obtain ⟨h3, hvc⟩ := hvc
    refine x_iald (N := 1024) (pc := 20) d_M_quotient_20 (Nat.lt_of_lt_of_le (by decide) hn) rfl (by decide) h3.1 h3.2 ?_
    refine x_iload_n (pc := 21) d_M_quotient_21 rfl rfl ?_
    obtain ⟨h4, hvc⟩ := hvc
    obtain ⟨h5, hvc⟩ := hvc
    refine x_icmp_eq (tgt := 31) (pc := 22) d_M_quotient_22 rfl h4 h5 (fun hb => ?_) (fun hb => ?_)
    · have hvc := hvc.1 hb
      refine x_iload_n (pc := 31) d_M_quotient_31 rfl rfl ?_
      exact x_iret (pc := 32) d_M_quotient_32 rfl rfl (Nat.le_refl _) (hQ _ _ hvc)
    · have hvc := hvc.2 hb
      refine x_iinc (pc := 25) d_M_quotient_25 rfl (by decide) ?_
      refine x_goto (tgt := 2) (pc := 28) d_M_quotient_28 rfl ?_
      exact x_locals (xmask [true, true, true, true] _) (xmask_sub _ _) (hvc Q hQ)
set_option maxRecDepth 20000 in
theorem E_M_quotient {n : Nat} {R : xR} {M : xM} {P : Int → xM → Prop} (hn : 93 ≤ n) (hR : RC 93 R) {l1 l2 : Int} (h : Xi m_M_quotient 0 n R P 0 [some (vr 78), some (vi l1), some (vi l2), none] [] M) : Ci m_M_quotient 0 n R [vr 78, vi l1, vi l2] M P :=
  Ci.of [some (vr 78), some (vi l1), some (vi l2), none] (by decide) rfl (Nat.le_of_ble_eq_true rfl) rfl h
set_option maxRecDepth 20000 in
theorem B_M_over_0 {n : Nat} {R : xR} {M : xM} {P : Int → xM → Prop} (hn : 93 ≤ n) (hR : RC 93 R) {l1 l2 : Int} (hvc : Ci m_M_isElement 0 n R [vr 78, vi l1] M (fun z1 M1 => (-2147483648 ≤ z1 ∧ z1 < 2147483648) ∧ ((z1 = 0 → P ((-1)) M1) ∧ (¬ z1 = 0 → Ci m_M_isElement 0 n R [vr 78, vi l2] M1 (fun z3 M2 => (-2147483648 ≤ z3 ∧ z3 < 2147483648) ∧ ((¬ z3 = 0 → (-2147483648 ≤ l2 ∧ l2 < 2147483648) ∧ ((¬ l2 = 0 → Ci m_M_quotient 0 n R [vr 78, vi l1, vi l2] M2 (fun z6 M3 => P z6 M3)) ∧ (l2 = 0 → P ((-2)) M2))) ∧ (z3 = 0 → P ((-1)) M2))))))) : Xi m_M_over 1 n R P 0 [some (vr 78), some (vi l1), some (vi l2)] [] M := by
  intro Q hQ
  refine x_aload_n (pc := 0) d_M_over_0 rfl rfl ?_
  refine x_iload_n (pc := 1) d_M_over_1 rfl rfl ?_
  refine y_callVi m_M_isElement 0 76 78 7 21 [_] [] rfl (pc := 2) d_M_over_2 ok_M_isElement w_639 w_641 w_22 pn_M_isElement (Nat.lt_of_lt_of_le (by decide) hn) rfl rfl (by decide) (Nat.le_of_ble_eq_true rfl) (Nat.le_refl _) (Nat.le_refl _) hvc (fun z1 M1 hvc => ?_)
  obtain ⟨h2, hvc⟩ := hvc
  refine x_if_eq (tgt := 16) (pc := 5) d_M_over_5 rfl h2 (fun hb => ?_) (fun hb => ?_)
  · have hvc := hvc.1 hb
    refine x_iconst (pc := 16) d_M_over_16 ?_
    exact x_iret (pc := 17) d_M_over_17 rfl rfl (Nat.le_refl _) (hQ _ _ hvc)
  · have hvc := hvc.2 hb
    refine x_aload_n (pc := 8) d_M_over_8 rfl rfl ?_
    refine x_iload_n (pc := 9) d_M_over_9 rfl rfl ?_
    refine y_callVi m_M_isElement 0 76 78 7 21 [_] [] rfl (pc := 10) d_M_over_10 ok_M_isElement w_639 w_641 w_22 pn_M_isElement (Nat.lt_of_lt_of_le (by decide) hn) rfl rfl (by decide) (Nat.le_of_ble_eq_true rfl) (Nat.le_refl _) (Nat.le_refl _) hvc (fun z3 M2 hvc => ?_)
    obtain ⟨h4, hvc⟩ := hvc
    refine x_if_ne (tgt := 18) (pc := 13) d_M_over_13 rfl h4 (fun hb => ?_) (fun hb => ?_)
    · have hvc := hvc.1 hb
      refine x_iload_n (pc := 18) d_M_over_18 rfl rfl ?_
      obtain ⟨h5, hvc⟩ := hvc
      refine x_if_ne (tgt := 27) (pc := 19) d_M_over_19 rfl h5 (fun hb => ?_) (fun hb => ?_)
      · have hvc := hvc.1 hb
        refine x_aload_n (pc := 27) d_M_over_27 rfl rfl ?_
        refine x_iload_n (pc := 28) d_M_over_28 rfl rfl ?_
        refine x_iload_n (pc := 29) d_M_over_29 rfl rfl ?_
        refine y_callVi m_M_quotient 0 80 78 7 21 [_, _] [] rfl (pc := 30) d_M_over_30 ok_M_quotient w_647 w_649 w_23 pn_M_quotient (Nat.lt_of_lt_of_le (by decide) hn) rfl rfl (by decide) (Nat.le_of_ble_eq_true rfl) (Nat.le_refl _) (Nat.le_refl _) hvc (fun z6 M3 hvc => ?_)
        exact x_iret (pc := 33) d_M_over_33 rfl rfl (Nat.le_refl _) (hQ _ _ hvc)
      · have hvc := hvc.2 hb
        refine x_bipush (pc := 22) d_M_over_22 (by decide) ?_
        refine x_goto (tgt := 33) (pc := 24) d_M_over_24 rfl ?_
        exact x_iret (pc := 33) d_M_over_33 rfl rfl (Nat.le_refl _) (hQ _ _ hvc)
    · have hvc := hvc.2 hb
      refine x_iconst (pc := 16) d_M_over_16 ?_
      exact x_iret (pc := 17) d_M_over_17 rfl rfl (Nat.le_refl _) (hQ _ _ hvc)
set_option maxRecDepth 20000 in
theorem E_M_over {n : Nat} {R : xR} {M : xM} {P : Int → xM → Prop} (hn : 93 ≤ n) (hR : RC 93 R) {l1 l2 : Int} (h : Xi m_M_over 1 n R P 0 [some (vr 78), some (vi l1), some (vi l2)] [] M) : Ci m_M_over 1 n R [vr 78, vi l1, vi l2] M P :=
  Ci.of [some (vr 78), some (vi l1), some (vi l2)] (by decide) rfl (Nat.le_of_ble_eq_true rfl) rfl h
set_option maxRecDepth 20000 in
theorem B_M_log_0 {n : Nat} {R : xR} {M : xM} {P : Int → xM → Prop} (hn : 93 ≤ n) (hR : RC 93 R) {l1 : Int} (hvc : Ci m_M_isElement 0 n R [vr 78, vi l1] M (fun z1 M1 => (-2147483648 ≤ z1 ∧ z1 < 2147483648) ∧ ((¬ z1 = 0 → Xi m_M_log 1 n R P 12 [some (vr 78), some (vi l1), some (vi 0)] [] M1) ∧ (z1 = 0 → P ((-1)) M1)))) : Xi m_M_log 1 n R P 0 [some (vr 78), some (vi l1), none] [] M := by
  intro Q hQ
  refine x_aload_n (pc := 0) d_M_log_0 rfl rfl ?_
  refine x_iload_n (pc := 1) d_M_log_1 rfl rfl ?_
  refine y_callVi m_M_isElement 0 76 78 7 21 [_] [] rfl (pc := 2) d_M_log_2 ok_M_isElement w_639 w_641 w_22 pn_M_isElement (Nat.lt_of_lt_of_le (by decide) hn) rfl rfl (by decide) (Nat.le_of_ble_eq_true rfl) (Nat.le_refl _) (Nat.le_refl _) hvc (fun z1 M1 hvc => ?_)
  obtain ⟨h2, hvc⟩ := hvc
  refine x_if_ne (tgt := 10) (pc := 5) d_M_log_5 rfl h2 (fun hb => ?_) (fun hb => ?_)
  · have hvc := hvc.1 hb
    refine x_iconst (pc := 10) d_M_log_10 ?_
    refine x_istore_n (pc := 11) d_M_log_11 rfl (by decide) ?_
    exact x_locals (xmask [true, true, true] _) (xmask_sub _ _) (hvc Q hQ)
  · have hvc := hvc.2 hb
    refine x_iconst (pc := 8) d_M_log_8 ?_
    exact x_iret (pc := 9) d_M_log_9 rfl rfl (Nat.le_refl _) (hQ _ _ hvc)
set_option maxRecDepth 20000 in
theorem B_M_log_12 {n : Nat} {R : xR} {M : xM} {P : Int → xM → Prop} (hn : 93 ≤ n) (hR : RC 93 R) {l1 l2 : Int} (hvc : (-2147483648 ≤ l2 ∧ l2 < 2147483648) ∧ (-2147483648 ≤ (M 78 1) - 1 ∧ (M 78 1) - 1 < 2147483648) ∧ ((((M 78 1) - 1) ≤ l2 → ((((M 78 1) - 1) ≤ l2 → P ((-2)) M) ∧ (¬ ((M 78 1) - 1) ≤ l2 → P l2 M))) ∧ (¬ ((M 78 1) - 1) ≤ l2 → (0 ≤ l2 ∧ l2 < 32) ∧ (-2147483648 ≤ M 80 l2.toNat ∧ M 80 l2.toNat < 2147483648) ∧ (-2147483648 ≤ l1 ∧ l1 < 2147483648) ∧ (((M 80 l2.toNat) = l1 → ((((M 78 1) - 1) ≤ l2 → P ((-2)) M) ∧ (¬ ((M 78 1) - 1) ≤ l2 → P l2 M))) ∧ (¬ (M 80 l2.toNat) = l1 → Xi m_M_log 1 n R P 12 [some (vr 78), some (vi l1), some (vi (l2 + 1))] [] M))))) : Xi m_M_log 1 n R P 12 [some (vr 78), some (vi l1), some (vi l2)] [] M := by
  intro Q hQ
  refine x_iload_n (pc := 12) d_M_log_12 rfl rfl ?_
  refine x_aload_n (pc := 13) d_M_log_13 rfl rfl ?_
  refine x_getI (k := 78) (ci := 7) (pc := 14) 1 d_M_log_14 cok7 rfl (Nat.lt_of_lt_of_le (by decide) hn) rfl (by decide) rfl w_565 ?_
  refine x_iconst (pc := 17) d_M_log_17 ?_
  refine x_isub (pc := 18) d_M_log_18 ?_
  obtain ⟨h1, hvc⟩ := hvc
  obtain ⟨h2, hvc⟩ := hvc
  refine x_icmp_ge (tgt := 38) (pc := 19) d_M_log_19 rfl h1 h2 (fun hb => ?_) (fun hb => ?_)
  · have hvc := hvc.1 hb
    refine x_iload_n (pc := 38) d_M_log_38 rfl rfl ?_
    refine x_aload_n (pc := 39) d_M_log_39 rfl rfl ?_
    refine x_getI (k := 78) (ci := 7) (pc := 40) 1 d_M_log_40 cok7 rfl (Nat.lt_of_lt_of_le (by decide) hn) rfl (by decide) rfl w_565 ?_
    refine x_iconst (pc := 43) d_M_log_43 ?_
    refine x_isub (pc := 44) d_M_log_44 ?_
    refine x_icmp_ge (tgt := 52) (pc := 45) d_M_log_45 rfl h1 h2 (fun hb => ?_) (fun hb => ?_)
    · have hvc := hvc.1 hb
      refine x_bipush (pc := 52) d_M_log_52 (by decide) ?_
      exact x_iret (pc := 54) d_M_log_54 rfl rfl (Nat.le_refl _) (hQ _ _ hvc)
    · have hvc := hvc.2 hb
      refine x_iload_n (pc := 48) d_M_log_48 rfl rfl ?_
      refine x_goto (tgt := 54) (pc := 49) d_M_log_49 rfl ?_
      exact x_iret (pc := 54) d_M_log_54 rfl rfl (Nat.le_refl _) (hQ _ _ hvc)
  · have hvc := hvc.2 hb
    refine x_aload_n (pc := 22) d_M_log_22 rfl rfl ?_
    refine x_getR (k := 78) (ci := 7) (pc := 23) (t := 80) 3 d_M_log_23 cok7 rfl (Nat.lt_of_lt_of_le (by decide) hn) rfl (by decide) rfl (hR.at 78 3 rfl rfl) w_567 ?_
    refine x_iload_n (pc := 26) d_M_log_26 rfl rfl ?_
    obtain ⟨h3, hvc⟩ := hvc
    refine x_iald (N := 32) (pc := 27) d_M_log_27 (Nat.lt_of_lt_of_le (by decide) hn) rfl (by decide) h3.1 h3.2 ?_
    refine x_iload_n (pc := 28) d_M_log_28 rfl rfl ?_
    obtain ⟨h4, hvc⟩ := hvc
    obtain ⟨h5, hvc⟩ := hvc
    refine x_icmp_eq (tgt := 38) (pc := 29) d_M_log_29 rfl h4 h5 (fun hb => ?_) (fun hb => ?_)
    · have hvc := hvc.1 hb
      refine x_iload_n (pc := 38) d_M_log_38 rfl rfl ?_
      refine x_aload_n (pc := 39) d_M_log_39 rfl rfl ?_
      refine x_getI (k := 78) (ci := 7) (pc := 40) 1 d_M_log_40 cok7 rfl (Nat.lt_of_lt_of_le (by decide) hn) rfl (by decide) rfl w_565 ?_
      refine x_iconst (pc := 43) d_M_log_43 ?_
      refine x_isub (pc := 44) d_M_log_44 ?_
      refine x_icmp_ge (tgt := 52) (pc := 45) d_M_log_45 rfl h1 h2 (fun hb => ?_) (fun hb => ?_)
      · have hvc := hvc.1 hb
        refine x_bipush (pc := 52) d_M_log_52 (by decide) ?_
        exact x_iret (pc := 54) d_M_log_54 rfl rfl (Nat.le_refl _) (hQ _ _ hvc)
      · have hvc := hvc.2 hb
        refine x_iload_n (pc := 48) d_M_log_48 rfl rfl ?_
        refine x_goto (tgt := 54) (pc := 49) d_M_log_49 rfl ?_
        exact x_iret (pc := 54) d_M_log_54 rfl rfl (Nat.le_refl _) (hQ _ _ hvc)
    · have hvc := hvc.2 hb
      refine x_iinc (pc := 32) d_M_log_32 rfl (by decide) ?_
      refine x_goto (tgt := 12) (pc := 35) d_M_log_35 rfl ?_
      exact x_locals (xmask [true, true, true] _) (xmask_sub _ _) (hvc Q hQ)
set_option maxRecDepth 20000 in
theorem E_M_log {n : Nat} {R : xR} {M : xM} {P : Int → xM → Prop} (hn : 93 ≤ n) (hR : RC 93 R) {l1 : Int} (h : Xi m_M_log 1 n R P 0 [some (vr 78), some (vi l1), none] [] M) : Ci m_M_log 1 n R [vr 78, vi l1] M P :=
  Ci.of [some (vr 78), some (vi l1), none] (by decide) rfl (Nat.le_of_ble_eq_true rfl) rfl h
set_option maxRecDepth 20000 in
theorem B_M_power_0 {n : Nat} {R : xR} {M : xM} {P : Int → xM → Prop} (hn : 93 ≤ n) (hR : RC 93 R) {l1 l2 : Int} (hvc : Xi m_M_power 0 n R P 5 [some (vr 78), some (vi l1), some (vi l2), some (vi 1), some (vi 0)] [] M) : Xi m_M_power 0 n R P 0 [some (vr 78), some (vi l1), some (vi l2), none, none] [] M := by
  intro Q hQ
  refine x_iconst (pc := 0) d_M_power_0 ?_
  refine x_istore_n (pc := 1) d_M_power_1 rfl (by decide) ?_
  refine x_iconst (pc := 2) d_M_power_2 ?_
  refine x_istore (pc := 3) d_M_power_3 (by decide) ?_
  exact x_locals (xmask [true, true, true, true, true] _) (xmask_sub _ _) (hvc Q hQ)
set_option maxRecDepth 20000 in
theorem B_M_power_5 {n : Nat} {R : xR} {M : xM} {P : Int → xM → Prop} (hn : 93 ≤ n) (hR : RC 93 R) {l1 l2 l3 l4 : Int} (hvc : (-2147483648 ≤ l4 ∧ l4 < 2147483648) ∧ (-2147483648 ≤ l2 ∧ l2 < 2147483648) ∧ ((l2 ≤ l4 → P l3 M) ∧ (¬ l2 ≤ l4 → (0 ≤ (32 * l3) + l1 ∧ (32 * l3) + l1 < 1024) ∧ Xi m_M_power 0 n R P 5 [some (vr 78), some (vi l1), some (vi l2), some (vi (M 79 ((32 * l3) + l1).toNat)), some (vi (l4 + 1))] [] M))) : Xi m_M_power 0 n R P 5 [some (vr 78), some (vi l1), some (vi l2), some (vi l3), some (vi l4)] [] M := by
  intro Q hQ
  refine x_iload (pc := 5) d_M_power_5 rfl ?_
  refine x_iload_n (pc := 7) d_M_power_7 rfl rfl ?_
  obtain ⟨h1, hvc⟩ := hvc
  obtain ⟨h2, hvc⟩ := hvc
  refine x_icmp_ge (tgt := 29) (pc := 8) d_M_power_8 rfl h1 h2 (fun hb => ?_) (fun hb => ?_)
  · have hvc := hvc.1 hb
    refine x_iload_n (pc := 29) d_M_power_29 rfl rfl ?_
    exact x_iret (pc := 30) d_M_power_30 rfl rfl (Nat.le_refl _) (hQ _ _ hvc)
  · have hvc := hvc.2 hb
    refine x_aload_n (pc := 11) d_M_power_11 rfl rfl ?_
    refine x_getR (k := 78) (ci := 7) (pc := 12) (t := 79) 2 d_M_power_12 cok7 rfl (Nat.lt_of_lt_of_le (by decide) hn) rfl (by decide) rfl (hR.at 78 2 rfl rfl) w_566 ?_
    refine x_bipush (pc := 15) d_M_power_15 (by decide) ?_
    refine x_iload_n (pc := 17) d_M_power_17 rfl rfl ?_
    refine x_imul (pc := 18) d_M_power_18 ?_
    refine x_iload_n (pc := 19) d_M_power_19 rfl rfl ?_
    refine x_iadd (pc := 20) d_M_power_20 ?_
    obtain ⟨h3, hvc⟩ := hvc
    refine x_iald (N := 1024) (pc := 21) d_M_power_21 (Nat.lt_of_lt_of_le (by decide) hn) rfl (by decide) h3.1 h3.2 ?_
    refine x_istore_n (pc := 22) d_M_power_22 rfl (by decide) ?_
    refine x_iinc (pc := 23) d_M_power_23 rfl (by decide) ?_
    refine x_goto (tgt := 5) (pc := 26) d_M_power_26 rfl ?_
    exact x_locals (xmask [true, true, true, true, true] _) (xmask_sub _ _) (hvc Q hQ)
set_option maxRecDepth 20000 in
theorem E_M_power {n : Nat} {R : xR} {M : xM} {P : Int → xM → Prop} (hn : 93 ≤ n) (hR : RC 93 R) {l1 l2 : Int} (h : Xi m_M_power 0 n R P 0 [some (vr 78), some (vi l1), some (vi l2), none, none] [] M) : Ci m_M_power 0 n R [vr 78, vi l1, vi l2] M P :=
  Ci.of [some (vr 78), some (vi l1), some (vi l2), none, none] (by decide) rfl (Nat.le_of_ble_eq_true rfl) rfl h
set_option maxRecDepth 20000 in
theorem B_M_layCode_0 {n : Nat} {R : xR} {M : xM} {P : xM → Prop} (hn : 93 ≤ n) (hR : RC 93 R) {l1 l2 l3 : Int} (hvc : (∀ M1 : xM, M1 = xU M 78 4 l1 → (∀ M2 : xM, M2 = xU M1 78 5 l2 → (∀ M3 : xM, M3 = xU M2 78 6 l3 → Xv m_M_layCode 0 n R P 18 [some (vr 78), some (vi l1), some (vi l2), some (vi l3), some (vi 0), none] [] M3)))) : Xv m_M_layCode 0 n R P 0 [some (vr 78), some (vi l1), some (vi l2), some (vi l3), none, none] [] M := by
  intro Q hQ
  refine x_aload_n (pc := 0) d_M_layCode_0 rfl rfl ?_
  refine x_iload_n (pc := 1) d_M_layCode_1 rfl rfl ?_
  refine x_putI (k := 78) (ci := 7) (pc := 2) 4 d_M_layCode_2 cok7 rfl (Nat.lt_of_lt_of_le (by decide) hn) rfl (by decide) rfl rfl rfl w_568 (fun M1 eM1 => ?_)
  have hvc := hvc M1 eM1
  refine x_aload_n (pc := 5) d_M_layCode_5 rfl rfl ?_
  refine x_iload_n (pc := 6) d_M_layCode_6 rfl rfl ?_
  refine x_putI (k := 78) (ci := 7) (pc := 7) 5 d_M_layCode_7 cok7 rfl (Nat.lt_of_lt_of_le (by decide) hn) rfl (by decide) rfl rfl rfl w_569 (fun M2 eM2 => ?_)
  have hvc := hvc M2 eM2
  refine x_aload_n (pc := 10) d_M_layCode_10 rfl rfl ?_
  refine x_iload_n (pc := 11) d_M_layCode_11 rfl rfl ?_
  refine x_putI (k := 78) (ci := 7) (pc := 12) 6 d_M_layCode_12 cok7 rfl (Nat.lt_of_lt_of_le (by decide) hn) rfl (by decide) rfl rfl rfl w_570 (fun M3 eM3 => ?_)
  have hvc := hvc M3 eM3
  refine x_iconst (pc := 15) d_M_layCode_15 ?_
  refine x_istore (pc := 16) d_M_layCode_16 (by decide) ?_
  exact x_locals (xmask [true, true, true, true, true, false] _) (xmask_sub _ _) (hvc Q hQ)
set_option maxRecDepth 20000 in
theorem B_M_layCode_18 {n : Nat} {R : xR} {M : xM} {P : xM → Prop} (hn : 93 ≤ n) (hR : RC 93 R) {l1 l2 l3 l4 : Int} (hvc : (-2147483648 ≤ l4 ∧ l4 < 2147483648) ∧ ((4 ≤ l4 → Xv m_M_layCode 0 n R P 41 [some (vr 78), some (vi l1), some (vi l2), some (vi l3), some (vi 0), none] [] M) ∧ (¬ 4 ≤ l4 → (0 ≤ l4 ∧ l4 < 4) ∧ (∀ M1 : xM, M1 = xU M 82 l4.toNat 0 → Xv m_M_layCode 0 n R P 18 [some (vr 78), some (vi l1), some (vi l2), some (vi l3), some (vi (l4 + 1)), none] [] M1)))) : Xv m_M_layCode 0 n R P 18 [some (vr 78), some (vi l1), some (vi l2), some (vi l3), some (vi l4), none] [] M := by
  intro Q hQ
  refine x_iload (pc := 18) d_M_layCode_18 rfl ?_
  refine x_iconst (pc := 20) d_M_layCode_20 ?_
  obtain ⟨h1, hvc⟩ := hvc
  refine x_icmp_ge (tgt := 38) (pc := 21) d_M_layCode_21 rfl h1 ⟨by decide, by decide⟩ (fun hb => ?_) (fun hb => ?_)
  · have hvc := hvc.1 hb
    refine x_iconst (pc := 38) d_M_layCode_38 ?_
    refine x_istore (pc := 39) d_M_layCode_39 (by decide) ?_
    exact x_locals (xmask [true, true, true, true, true, false] _) (xmask_sub _ _) (hvc Q hQ)
  · have hvc := hvc.2 hb
    refine x_aload_n (pc := 24) d_M_layCode_24 rfl rfl ?_
    refine x_getR (k := 78) (ci := 7) (pc := 25) (t := 82) 8 d_M_layCode_25 cok7 rfl (Nat.lt_of_lt_of_le (by decide) hn) rfl (by decide) rfl (hR.at 78 8 rfl rfl) w_572 ?_
    refine x_iload (pc := 28) d_M_layCode_28 rfl ?_
    refine x_iconst (pc := 30) d_M_layCode_30 ?_
    obtain ⟨h2, hvc⟩ := hvc
    refine x_iast (N := 4) (pc := 31) d_M_layCode_31 (Nat.lt_of_lt_of_le (by decide) hn) rfl (by decide) h2.1 h2.2 (fun M1 eM1 => ?_)
    have hvc := hvc M1 eM1
    refine x_iinc (pc := 32) d_M_layCode_32 rfl (by decide) ?_
    refine x_goto (tgt := 18) (pc := 35) d_M_layCode_35 rfl ?_
    exact x_locals (xmask [true, true, true, true, true, false] _) (xmask_sub _ _) (hvc Q hQ)
set_option maxRecDepth 20000 in
theorem B_M_layCode_41 {n : Nat} {R : xR} {M : xM} {P : xM → Prop} (hn : 93 ≤ n) (hR : RC 93 R) {l1 l2 l3 l4 : Int} (hvc : (-2147483648 ≤ l4 ∧ l4 < 2147483648) ∧ ((20 ≤ l4 → Xv m_M_layCode 0 n R P 90 [some (vr 78), some (vi l1), some (vi l2), some (vi l3), some (vi 1), none] [] M) ∧ (¬ 20 ≤ l4 → (0 ≤ l4 ∧ l4 < 20) ∧ (∀ M1 : xM, M1 = xU M 83 l4.toNat 0 → (∀ M2 : xM, M2 = xU M1 84 l4.toNat 0 → ((¬ l4 = 0 → (∀ M3 : xM, M3 = xU M2 81 l4.toNat 0 → Xv m_M_layCode 0 n R P 41 [some (vr 78), some (vi l1), some (vi l2), some (vi l3), some (vi (l4 + 1)), none] [] M3)) ∧ (l4 = 0 → (∀ M4 : xM, M4 = xU M2 81 l4.toNat 1 → Xv m_M_layCode 0 n R P 41 [some (vr 78), some (vi l1), some (vi l2), some (vi l3), some (vi (l4 + 1)), none] [] M4)))))))) : Xv m_M_layCode 0 n R P 41 [some (vr 78), some (vi l1), some (vi l2), some (vi l3), some (vi l4), none] [] M := by
  intro Q hQ
  refine x_iload (pc := 41) d_M_layCode_41 rfl ?_
  refine x_bipush (pc := 43) d_M_layCode_43 (by decide) ?_
  obtain ⟨h1, hvc⟩ := hvc
  refine x_icmp_ge (tgt := 87) (pc := 45) d_M_layCode_45 rfl h1 ⟨by decide, by decide⟩ (fun hb => ?_) (fun hb => ?_)
  · have hvc := hvc.1 hb
    refine x_iconst (pc := 87) d_M_layCode_87 ?_
    refine x_istore (pc := 88) d_M_layCode_88 (by decide) ?_
    exact x_locals (xmask [true, true, true, true, true, false] _) (xmask_sub _ _) (hvc Q hQ)
  · have hvc := hvc.2 hb
    refine x_aload_n (pc := 48) d_M_layCode_48 rfl rfl ?_
    refine x_getR (k := 78) (ci := 7) (pc := 49) (t := 83) 9 d_M_layCode_49 cok7 rfl (Nat.lt_of_lt_of_le (by decide) hn) rfl (by decide) rfl (hR.at 78 9 rfl rfl) w_573 ?_
    refine x_iload (pc := 52) d_M_layCode_52 rfl ?_
    refine x_iconst (pc := 54) d_M_layCode_54 ?_
    obtain ⟨h2, hvc⟩ := hvc
    refine x_iast (N := 20) (pc := 55) d_M_layCode_55 (Nat.lt_of_lt_of_le (by decide) hn) rfl (by decide) h2.1 h2.2 (fun M1 eM1 => ?_)
    have hvc := hvc M1 eM1
    refine x_aload_n (pc := 56) d_M_layCode_56 rfl rfl ?_
    refine x_getR (k := 78) (ci := 7) (pc := 57) (t := 84) 10 d_M_layCode_57 cok7 rfl (Nat.lt_of_lt_of_le (by decide) hn) rfl (by decide) rfl (hR.at 78 10 rfl rfl) w_574 ?_
    refine x_iload (pc := 60) d_M_layCode_60 rfl ?_
    refine x_iconst (pc := 62) d_M_layCode_62 ?_
    refine x_zast (N := 20) (pc := 63) d_M_layCode_63 (Nat.lt_of_lt_of_le (by decide) hn) rfl (by decide) h2.1 h2.2 (by decide) (fun M2 eM2 => ?_)
    have hvc := hvc M2 eM2
    refine x_aload_n (pc := 64) d_M_layCode_64 rfl rfl ?_
    refine x_getR (k := 78) (ci := 7) (pc := 65) (t := 81) 7 d_M_layCode_65 cok7 rfl (Nat.lt_of_lt_of_le (by decide) hn) rfl (by decide) rfl (hR.at 78 7 rfl rfl) w_571 ?_
    refine x_iload (pc := 68) d_M_layCode_68 rfl ?_
    refine x_iload (pc := 70) d_M_layCode_70 rfl ?_
    refine x_if_ne (tgt := 79) (pc := 72) d_M_layCode_72 rfl h1 (fun hb => ?_) (fun hb => ?_)
    · have hvc := hvc.1 hb
      refine x_iconst (pc := 79) d_M_layCode_79 ?_
      refine x_iast (N := 20) (pc := 80) d_M_layCode_80 (Nat.lt_of_lt_of_le (by decide) hn) rfl (by decide) h2.1 h2.2 (fun M3 eM3 => ?_)
      have hvc := hvc M3 eM3
      refine x_iinc (pc := 81) d_M_layCode_81 rfl (by decide) ?_
      refine x_goto (tgt := 41) (pc := 84) d_M_layCode_84 rfl ?_
      exact x_locals (xmask [true, true, true, true, true, false] _) (xmask_sub _ _) (hvc Q hQ)
    · have hvc := hvc.2 hb
      refine x_iconst (pc := 75) d_M_layCode_75 ?_
      refine x_goto (tgt := 80) (pc := 76) d_M_layCode_76 rfl ?_
      refine x_iast (N := 20) (pc := 80) d_M_layCode_80 (Nat.lt_of_lt_of_le (by decide) hn) rfl (by decide) h2.1 h2.2 (fun M4 eM4 => ?_)
      have hvc := hvc M4 eM4
      refine x_iinc (pc := 81) d_M_layCode_81 rfl (by decide) ?_
      refine x_goto (tgt := 41) (pc := 84) d_M_layCode_84 rfl ?_
      exact x_locals (xmask [true, true, true, true, true, false] _) (xmask_sub _ _) (hvc Q hQ)
set_option maxRecDepth 20000 in
theorem B_M_layCode_90 {n : Nat} {R : xR} {M : xM} {P : xM → Prop} (hn : 93 ≤ n) (hR : RC 93 R) {l1 l2 l3 l4 : Int} (hvc : (-2147483648 ≤ l4 ∧ l4 < 2147483648) ∧ (-2147483648 ≤ (M 78 5) - (M 78 6) ∧ (M 78 5) - (M 78 6) < 2147483648) ∧ ((((M 78 5) - (M 78 6)) < l4 → (∀ M1 : xM, M1 = xU M 78 12 ((-1)) → (∀ M2 : xM, M2 = xU M1 78 15 0 → P M2))) ∧ (¬ ((M 78 5) - (M 78 6)) < l4 → Xv m_M_layCode 0 n R P 108 [some (vr 78), some (vi l1), some (vi l2), some (vi l3), some (vi l4), some (vi l4)] [] M))) : Xv m_M_layCode 0 n R P 90 [some (vr 78), some (vi l1), some (vi l2), some (vi l3), some (vi l4), none] [] M := by
  intro Q hQ
  refine x_iload (pc := 90) d_M_layCode_90 rfl ?_
  refine x_aload_n (pc := 92) d_M_layCode_92 rfl rfl ?_
  refine x_getI (k := 78) (ci := 7) (pc := 93) 5 d_M_layCode_93 cok7 rfl (Nat.lt_of_lt_of_le (by decide) hn) rfl (by decide) rfl w_569 ?_
  refine x_aload_n (pc := 96) d_M_layCode_96 rfl rfl ?_
  refine x_getI (k := 78) (ci := 7) (pc := 97) 6 d_M_layCode_97 cok7 rfl (Nat.lt_of_lt_of_le (by decide) hn) rfl (by decide) rfl w_570 ?_
  refine x_isub (pc := 100) d_M_layCode_100 ?_
  obtain ⟨h1, hvc⟩ := hvc
  obtain ⟨h2, hvc⟩ := hvc
  refine x_icmp_gt (tgt := 174) (pc := 101) d_M_layCode_101 rfl h1 h2 (fun hb => ?_) (fun hb => ?_)
  · have hvc := hvc.1 hb
    refine x_aload_n (pc := 174) d_M_layCode_174 rfl rfl ?_
    refine x_iconst (pc := 175) d_M_layCode_175 ?_
    refine x_putI (k := 78) (ci := 7) (pc := 176) 12 d_M_layCode_176 cok7 rfl (Nat.lt_of_lt_of_le (by decide) hn) rfl (by decide) rfl rfl rfl w_576 (fun M1 eM1 => ?_)
    have hvc := hvc M1 eM1
    refine x_aload_n (pc := 179) d_M_layCode_179 rfl rfl ?_
    refine x_iconst (pc := 180) d_M_layCode_180 ?_
    refine x_putI (k := 78) (ci := 7) (pc := 181) 15 d_M_layCode_181 cok7 rfl (Nat.lt_of_lt_of_le (by decide) hn) rfl (by decide) rfl rfl rfl w_579 (fun M2 eM2 => ?_)
    have hvc := hvc M2 eM2
    exact x_vret (pc := 184) d_M_layCode_184 rfl rfl (Nat.le_refl _) (hQ _ hvc)
  · have hvc := hvc.2 hb
    refine x_iload (pc := 104) d_M_layCode_104 rfl ?_
    refine x_istore (pc := 106) d_M_layCode_106 (by decide) ?_
    exact x_locals (xmask [true, true, true, true, true, true] _) (xmask_sub _ _) (hvc Q hQ)
set_option maxRecDepth 20000 in
theorem B_M_layCode_108 {n : Nat} {R : xR} {M : xM} {P : xM → Prop} (hn : 93 ≤ n) (hR : RC 93 R) {l1 l2 l3 l4 l5 : Int} (hvc : (-2147483648 ≤ l5 ∧ l5 < 2147483648) ∧ ((l5 < 0 → Xv m_M_layCode 0 n R P 90 [some (vr 78), some (vi l1), some (vi l2), some (vi l3), some (vi (l4 + 1)), none] [] M) ∧ (¬ l5 < 0 → (0 ≤ l5 ∧ l5 < 20) ∧ (0 ≤ l4 ∧ l4 < 32) ∧ (0 ≤ (32 * (M 81 l5.toNat)) + (M 80 l4.toNat) ∧ (32 * (M 81 l5.toNat)) + (M 80 l4.toNat) < 1024) ∧ ((l5 ≤ 0 → (∀ M1 : xM, M1 = xU M 81 l5.toNat (xXor (M 79 ((32 * (M 81 l5.toNat)) + (M 80 l4.toNat)).toNat) 0) → Xv m_M_layCode 0 n R P 108 [some (vr 78), some (vi l1), some (vi l2), some (vi l3), some (vi l4), some (vi (l5 + (-1)))] [] M1)) ∧ (¬ l5 ≤ 0 → (0 ≤ l5 - 1 ∧ l5 - 1 < 20) ∧ (∀ M2 : xM, M2 = xU M 81 l5.toNat (xXor (M 79 ((32 * (M 81 l5.toNat)) + (M 80 l4.toNat)).toNat) (M 81 (l5 - 1).toNat)) → Xv m_M_layCode 0 n R P 108 [some (vr 78), some (vi l1), some (vi l2), some (vi l3), some (vi l4), some (vi (l5 + (-1)))] [] M2)))))) : Xv m_M_layCode 0 n R P 108 [some (vr 78), some (vi l1), some (vi l2), some (vi l3), some (vi l4), some (vi l5)] [] M := by
  intro Q hQ
  refine x_iload (pc := 108) d_M_layCode_108 rfl ?_
  obtain ⟨h1, hvc⟩ := hvc
  refine x_if_lt (tgt := 168) (pc := 110) d_M_layCode_110 rfl h1 (fun hb => ?_) (fun hb => ?_)
  · have hvc := hvc.1 hb
    refine x_iinc (pc := 168) d_M_layCode_168 rfl (by decide) ?_
    refine x_goto (tgt := 90) (pc := 171) d_M_layCode_171 rfl ?_
    exact x_locals (xmask [true, true, true, true, true, false] _) (xmask_sub _ _) (hvc Q hQ)
  · have hvc := hvc.2 hb
    refine x_aload_n (pc := 113) d_M_layCode_113 rfl rfl ?_
    refine x_getR (k := 78) (ci := 7) (pc := 114) (t := 81) 7 d_M_layCode_114 cok7 rfl (Nat.lt_of_lt_of_le (by decide) hn) rfl (by decide) rfl (hR.at 78 7 rfl rfl) w_571 ?_
    refine x_iload (pc := 117) d_M_layCode_117 rfl ?_
    refine x_aload_n (pc := 119) d_M_layCode_119 rfl rfl ?_
    refine x_getR (k := 78) (ci := 7) (pc := 120) (t := 79) 2 d_M_layCode_120 cok7 rfl (Nat.lt_of_lt_of_le (by decide) hn) rfl (by decide) rfl (hR.at 78 2 rfl rfl) w_566 ?_
    refine x_bipush (pc := 123) d_M_layCode_123 (by decide) ?_
    refine x_aload_n (pc := 125) d_M_layCode_125 rfl rfl ?_
    refine x_getR (k := 78) (ci := 7) (pc := 126) (t := 81) 7 d_M_layCode_126 cok7 rfl (Nat.lt_of_lt_of_le (by decide) hn) rfl (by decide) rfl (hR.at 78 7 rfl rfl) w_571 ?_
    refine x_iload (pc := 129) d_M_layCode_129 rfl ?_
    obtain ⟨h2, hvc⟩ := hvc
    refine x_iald (N := 20) (pc := 131) d_M_layCode_131 (Nat.lt_of_lt_of_le (by decide) hn) rfl (by decide) h2.1 h2.2 ?_
    refine x_imul (pc := 132) d_M_layCode_132 ?_
    refine x_aload_n (pc := 133) d_M_layCode_133 rfl rfl ?_
    refine x_getR (k := 78) (ci := 7) (pc := 134) (t := 80) 3 d_M_layCode_134 cok7 rfl (Nat.lt_of_lt_of_le (by decide) hn) rfl (by decide) rfl (hR.at 78 3 rfl rfl) w_567 ?_
    refine x_iload (pc := 137) d_M_layCode_137 rfl ?_
    obtain ⟨h3, hvc⟩ := hvc
    refine x_iald (N := 32) (pc := 139) d_M_layCode_139 (Nat.lt_of_lt_of_le (by decide) hn) rfl (by decide) h3.1 h3.2 ?_
    refine x_iadd (pc := 140) d_M_layCode_140 ?_
    obtain ⟨h4, hvc⟩ := hvc
    refine x_iald (N := 1024) (pc := 141) d_M_layCode_141 (Nat.lt_of_lt_of_le (by decide) hn) rfl (by decide) h4.1 h4.2 ?_
    refine x_iload (pc := 142) d_M_layCode_142 rfl ?_
    refine x_if_le (tgt := 159) (pc := 144) d_M_layCode_144 rfl h1 (fun hb => ?_) (fun hb => ?_)
    · have hvc := hvc.1 hb
      refine x_iconst (pc := 159) d_M_layCode_159 ?_
      refine x_ixor (pc := 160) d_M_layCode_160 ?_
      refine x_iast (N := 20) (pc := 161) d_M_layCode_161 (Nat.lt_of_lt_of_le (by decide) hn) rfl (by decide) h2.1 h2.2 (fun M1 eM1 => ?_)
      have hvc := hvc M1 eM1
      refine x_iinc (pc := 162) d_M_layCode_162 rfl (by decide) ?_
      refine x_goto (tgt := 108) (pc := 165) d_M_layCode_165 rfl ?_
      exact x_locals (xmask [true, true, true, true, true, true] _) (xmask_sub _ _) (hvc Q hQ)
    · have hvc := hvc.2 hb
      refine x_aload_n (pc := 147) d_M_layCode_147 rfl rfl ?_
      refine x_getR (k := 78) (ci := 7) (pc := 148) (t := 81) 7 d_M_layCode_148 cok7 rfl (Nat.lt_of_lt_of_le (by decide) hn) rfl (by decide) rfl (hR.at 78 7 rfl rfl) w_571 ?_
      refine x_iload (pc := 151) d_M_layCode_151 rfl ?_
      refine x_iconst (pc := 153) d_M_layCode_153 ?_
      refine x_isub (pc := 154) d_M_layCode_154 ?_
      obtain ⟨h5, hvc⟩ := hvc
      refine x_iald (N := 20) (pc := 155) d_M_layCode_155 (Nat.lt_of_lt_of_le (by decide) hn) rfl (by decide) h5.1 h5.2 ?_
      refine x_goto (tgt := 160) (pc := 156) d_M_layCode_156 rfl ?_
      refine x_ixor (pc := 160) d_M_layCode_160 ?_
      refine x_iast (N := 20) (pc := 161) d_M_layCode_161 (Nat.lt_of_lt_of_le (by decide) hn) rfl (by decide) h2.1 h2.2 (fun M2 eM2 => ?_)
      have hvc := hvc M2 eM2
      refine x_iinc (pc := 162) d_M_layCode_162 rfl (by decide) ?_
      refine x_goto (tgt := 108) (pc := 165) d_M_layCode_165 rfl ?_
      exact x_locals (xmask [true, true, true, true, true, true] _) (xmask_sub _ _) (hvc Q hQ)
set_option maxRecDepth 20000 in
theorem E_M_layCode {n : Nat} {R : xR} {M : xM} {P : xM → Prop} (hn : 93 ≤ n) (hR : RC 93 R) {l1 l2 l3 : Int} (h : Xv m_M_layCode 0 n R P 0 [some (vr 78), some (vi l1), some (vi l2), some (vi l3), none, none] [] M) : Cv m_M_layCode 0 n R [vr 78, vi l1, vi l2, vi l3] M P :=
  Cv.of [some (vr 78), some (vi l1), some (vi l2), some (vi l3), none, none] (by decide) rfl (Nat.le_of_ble_eq_true rfl) rfl h
set_option maxRecDepth 20000 in
theorem B_M_code_0 {n : Nat} {R : xR} {M : xM} {P : Int → xM → Prop} (hn : 93 ≤ n) (hR : RC 93 R) {l1 l2 l3 : Int} (hvc : (-2147483648 ≤ l3 ∧ l3 < 2147483648) ∧ ((l3 < 2 → (-2147483648 ≤ l1 ∧ l1 < 2147483648) ∧ ((l1 < 0 → P 0 M) ∧ (¬ l1 < 0 → ((1 < l1 → P 0 M) ∧ (¬ 1 < l1 → P 0 M))))) ∧ (¬ l3 < 2 → (-2147483648 ≤ l2 ∧ l2 < 2147483648) ∧ ((l2 ≤ l3 → (-2147483648 ≤ l1 ∧ l1 < 2147483648) ∧ ((l1 < 0 → P 0 M) ∧ (¬ l1 < 0 → ((1 < l1 → P 0 M) ∧ (¬ 1 < l1 → P 0 M))))) ∧ (¬ l2 ≤ l3 → (-2147483648 ≤ M 78 1 ∧ M 78 1 < 2147483648) ∧ (((M 78 1) ≤ l2 → (-2147483648 ≤ l1 ∧ l1 < 2147483648) ∧ ((l1 < 0 → P 0 M) ∧ (¬ l1 < 0 → ((1 < l1 → P 0 M) ∧ (¬ 1 < l1 → P 0 M))))) ∧ (¬ (M 78 1) ≤ l2 → ((20 < l2 → (-2147483648 ≤ l1 ∧ l1 < 2147483648) ∧ ((l1 < 0 → P 0 M) ∧ (¬ l1 < 0 → ((1 < l1 → P 0 M) ∧ (¬ 1 < l1 → P 0 M))))) ∧ (¬ 20 < l2 → (-2147483648 ≤ (M 78 0) * l3 ∧ (M 78 0) * l3 < 2147483648) ∧ ((12 < ((M 78 0) * l3) → (-2147483648 ≤ l1 ∧ l1 < 2147483648) ∧ ((l1 < 0 → P 0 M) ∧ (¬ l1 < 0 → ((1 < l1 → P 0 M) ∧ (¬ 1 < l1 → P 0 M))))) ∧ (¬ 12 < ((M 78 0) * l3) → (-2147483648 ≤ l1 ∧ l1 < 2147483648) ∧ ((l1 < 0 → P 0 M) ∧ (¬ l1 < 0 → ((1 < l1 → P 0 M) ∧ (¬ 1 < l1 → Cv m_M_layCode 0 n R [vr 78, vi l1, vi l2, vi l3] M (fun M1 => P 1 M1)))))))))))))))) : Xi m_M_code 1 n R P 0 [some (vr 78), some (vi l1), some (vi l2), some (vi l3), none] [] M := by
  intro Q hQ
  refine x_iload_n (pc := 0) d_M_code_0 rfl rfl ?_
  refine x_iconst (pc := 1) d_M_code_1 ?_
  obtain ⟨h1, hvc⟩ := hvc
  refine x_icmp_lt (tgt := 39) (pc := 2) d_M_code_2 rfl h1 ⟨by decide, by decide⟩ (fun hb => ?_) (fun hb => ?_)
  · have hvc := hvc.1 hb
    refine x_iconst (pc := 39) d_M_code_39 ?_
    refine x_istore (pc := 40) d_M_code_40 (by decide) ?_
    refine x_iload_n (pc := 42) d_M_code_42 rfl rfl ?_
    obtain ⟨h2, hvc⟩ := hvc
    refine x_if_lt (tgt := 56) (pc := 43) d_M_code_43 rfl h2 (fun hb => ?_) (fun hb => ?_)
    · have hvc := hvc.1 hb
      refine x_iconst (pc := 56) d_M_code_56 ?_
      exact x_zret (pc := 57) d_M_code_57 rfl (by decide) rfl (Nat.le_refl _) (hQ _ _ hvc)
    · have hvc := hvc.2 hb
      refine x_iload_n (pc := 46) d_M_code_46 rfl rfl ?_
      refine x_iconst (pc := 47) d_M_code_47 ?_
      refine x_icmp_gt (tgt := 56) (pc := 48) d_M_code_48 rfl h2 ⟨by decide, by decide⟩ (fun hb => ?_) (fun hb => ?_)
      · have hvc := hvc.1 hb
        refine x_iconst (pc := 56) d_M_code_56 ?_
        exact x_zret (pc := 57) d_M_code_57 rfl (by decide) rfl (Nat.le_refl _) (hQ _ _ hvc)
      · have hvc := hvc.2 hb
        refine x_iload (pc := 51) d_M_code_51 rfl ?_
        refine x_if_ne (tgt := 58) (pc := 53) d_M_code_53 rfl ⟨by decide, by decide⟩ (fun hb => absurd hb (by decide)) (fun _ => ?_)
        refine x_iconst (pc := 56) d_M_code_56 ?_
        exact x_zret (pc := 57) d_M_code_57 rfl (by decide) rfl (Nat.le_refl _) (hQ _ _ hvc)
  · have hvc := hvc.2 hb
    refine x_iload_n (pc := 5) d_M_code_5 rfl rfl ?_
    refine x_iload_n (pc := 6) d_M_code_6 rfl rfl ?_
    obtain ⟨h3, hvc⟩ := hvc
    refine x_icmp_ge (tgt := 39) (pc := 7) d_M_code_7 rfl h1 h3 (fun hb => ?_) (fun hb => ?_)
    · have hvc := hvc.1 hb
      refine x_iconst (pc := 39) d_M_code_39 ?_
      refine x_istore (pc := 40) d_M_code_40 (by decide) ?_
      refine x_iload_n (pc := 42) d_M_code_42 rfl rfl ?_
      obtain ⟨h4, hvc⟩ := hvc
      refine x_if_lt (tgt := 56) (pc := 43) d_M_code_43 rfl h4 (fun hb => ?_) (fun hb => ?_)
      · have hvc := hvc.1 hb
        refine x_iconst (pc := 56) d_M_code_56 ?_
        exact x_zret (pc := 57) d_M_code_57 rfl (by decide) rfl (Nat.le_refl _) (hQ _ _ hvc)
      · have hvc := hvc.2 hb
        refine x_iload_n (pc := 46) d_M_code_46 rfl rfl ?_
        refine x_iconst (pc := 47) d_M_code_47 ?_
        refine x_icmp_gt (tgt := 56) (pc := 48) d_M_code_48 rfl h4 ⟨by decide, by decide⟩ (fun hb => ?_) (fun hb => ?_)
        · have hvc := hvc.1 hb
          refine x_iconst (pc := 56) d_M_code_56 ?_
          exact x_zret (pc := 57) d_M_code_57 rfl (by decide) rfl (Nat.le_refl _) (hQ _ _ hvc)
        · have hvc := hvc.2 hb
          refine x_iload (pc := 51) d_M_code_51 rfl ?_
          refine x_if_ne (tgt := 58) (pc := 53) d_M_code_53 rfl ⟨by decide, by decide⟩ (fun hb => absurd hb (by decide)) (fun _ => ?_)
          refine x_iconst (pc := 56) d_M_code_56 ?_
          exact x_zret (pc := 57) d_M_code_57 rfl (by decide) rfl (Nat.le_refl _) (hQ _ _ hvc)
    · have hvc := hvc.2 hb
      refine x_iload_n (pc := 10) d_M_code_10 rfl rfl ?_
      refine x_aload_n (pc := 11) d_M_code_11 rfl rfl ?_
      refine x_getI (k := 78) (ci := 7) (pc := 12) 1 d_M_code_12 cok7 rfl (Nat.lt_of_lt_of_le (by decide) hn) rfl (by decide) rfl w_565 ?_
      obtain ⟨h5, hvc⟩ := hvc
      refine x_icmp_ge (tgt := 39) (pc := 15) d_M_code_15 rfl h3 h5 (fun hb => ?_) (fun hb => ?_)
      · have hvc := hvc.1 hb
        refine x_iconst (pc := 39) d_M_code_39 ?_
        refine x_istore (pc := 40) d_M_code_40 (by decide) ?_
        refine x_iload_n (pc := 42) d_M_code_42 rfl rfl ?_
        obtain ⟨h6, hvc⟩ := hvc
        refine x_if_lt (tgt := 56) (pc := 43) d_M_code_43 rfl h6 (fun hb => ?_) (fun hb => ?_)
        · have hvc := hvc.1 hb
          refine x_iconst (pc := 56) d_M_code_56 ?_
          exact x_zret (pc := 57) d_M_code_57 rfl (by decide) rfl (Nat.le_refl _) (hQ _ _ hvc)
        · have hvc := hvc.2 hb
          refine x_iload_n (pc := 46) d_M_code_46 rfl rfl ?_
          refine x_iconst (pc := 47) d_M_code_47 ?_
          refine x_icmp_gt (tgt := 56) (pc := 48) d_M_code_48 rfl h6 ⟨by decide, by decide⟩ (fun hb => ?_) (fun hb => ?_)
          · have hvc := hvc.1 hb
            refine x_iconst (pc := 56) d_M_code_56 ?_
            exact x_zret (pc := 57) d_M_code_57 rfl (by decide) rfl (Nat.le_refl _) (hQ _ _ hvc)
          · have hvc := hvc.2 hb
            refine x_iload (pc := 51) d_M_code_51 rfl ?_
            refine x_if_ne (tgt := 58) (pc := 53) d_M_code_53 rfl ⟨by decide, by decide⟩ (fun hb => absurd hb (by decide)) (fun _ => ?_)
            refine x_iconst (pc := 56) d_M_code_56 ?_
            exact x_zret (pc := 57) d_M_code_57 rfl (by decide) rfl (Nat.le_refl _) (hQ _ _ hvc)
      · have hvc := hvc.2 hb
        refine x_iload_n (pc := 18) d_M_code_18 rfl rfl ?_
        refine x_bipush (pc := 19) d_M_code_19 (by decide) ?_
        refine x_icmp_gt (tgt := 39) (pc := 21) d_M_code_21 rfl h3 ⟨by decide, by decide⟩ (fun hb => ?_) (fun hb => ?_)
        · have hvc := hvc.1 hb
          refine x_iconst (pc := 39) d_M_code_39 ?_
          refine x_istore (pc := 40) d_M_code_40 (by decide) ?_
          refine x_iload_n (pc := 42) d_M_code_42 rfl rfl ?_
          obtain ⟨h7, hvc⟩ := hvc
          refine x_if_lt (tgt := 56) (pc := 43) d_M_code_43 rfl h7 (fun hb => ?_) (fun hb => ?_)
          · have hvc := hvc.1 hb
            refine x_iconst (pc := 56) d_M_code_56 ?_
            exact x_zret (pc := 57) d_M_code_57 rfl (by decide) rfl (Nat.le_refl _) (hQ _ _ hvc)
          · have hvc := hvc.2 hb
            refine x_iload_n (pc := 46) d_M_code_46 rfl rfl ?_
            refine x_iconst (pc := 47) d_M_code_47 ?_
            refine x_icmp_gt (tgt := 56) (pc := 48) d_M_code_48 rfl h7 ⟨by decide, by decide⟩ (fun hb => ?_) (fun hb => ?_)
            · have hvc := hvc.1 hb
              refine x_iconst (pc := 56) d_M_code_56 ?_
              exact x_zret (pc := 57) d_M_code_57 rfl (by decide) rfl (Nat.le_refl _) (hQ _ _ hvc)
            · have hvc := hvc.2 hb
              refine x_iload (pc := 51) d_M_code_51 rfl ?_
              refine x_if_ne (tgt := 58) (pc := 53) d_M_code_53 rfl ⟨by decide, by decide⟩ (fun hb => absurd hb (by decide)) (fun _ => ?_)
              refine x_iconst (pc := 56) d_M_code_56 ?_
              exact x_zret (pc := 57) d_M_code_57 rfl (by decide) rfl (Nat.le_refl _) (hQ _ _ hvc)
        · have hvc := hvc.2 hb
          refine x_aload_n (pc := 24) d_M_code_24 rfl rfl ?_
          refine x_getI (k := 78) (ci := 7) (pc := 25) 0 d_M_code_25 cok7 rfl (Nat.lt_of_lt_of_le (by decide) hn) rfl (by decide) rfl w_564 ?_
          refine x_iload_n (pc := 28) d_M_code_28 rfl rfl ?_
          refine x_imul (pc := 29) d_M_code_29 ?_
          refine x_bipush (pc := 30) d_M_code_30 (by decide) ?_
          obtain ⟨h8, hvc⟩ := hvc
          refine x_icmp_gt (tgt := 39) (pc := 32) d_M_code_32 rfl h8 ⟨by decide, by decide⟩ (fun hb => ?_) (fun hb => ?_)
          · have hvc := hvc.1 hb
            refine x_iconst (pc := 39) d_M_code_39 ?_
            refine x_istore (pc := 40) d_M_code_40 (by decide) ?_
            refine x_iload_n (pc := 42) d_M_code_42 rfl rfl ?_
            obtain ⟨h9, hvc⟩ := hvc
            refine x_if_lt (tgt := 56) (pc := 43) d_M_code_43 rfl h9 (fun hb => ?_) (fun hb => ?_)
            · have hvc := hvc.1 hb
              refine x_iconst (pc := 56) d_M_code_56 ?_
              exact x_zret (pc := 57) d_M_code_57 rfl (by decide) rfl (Nat.le_refl _) (hQ _ _ hvc)
            · have hvc := hvc.2 hb
              refine x_iload_n (pc := 46) d_M_code_46 rfl rfl ?_
              refine x_iconst (pc := 47) d_M_code_47 ?_
              refine x_icmp_gt (tgt := 56) (pc := 48) d_M_code_48 rfl h9 ⟨by decide, by decide⟩ (fun hb => ?_) (fun hb => ?_)
              · have hvc := hvc.1 hb
                refine x_iconst (pc := 56) d_M_code_56 ?_
                exact x_zret (pc := 57) d_M_code_57 rfl (by decide) rfl (Nat.le_refl _) (hQ _ _ hvc)
              · have hvc := hvc.2 hb
                refine x_iload (pc := 51) d_M_code_51 rfl ?_
                refine x_if_ne (tgt := 58) (pc := 53) d_M_code_53 rfl ⟨by decide, by decide⟩ (fun hb => absurd hb (by decide)) (fun _ => ?_)
                refine x_iconst (pc := 56) d_M_code_56 ?_
                exact x_zret (pc := 57) d_M_code_57 rfl (by decide) rfl (Nat.le_refl _) (hQ _ _ hvc)
          · have hvc := hvc.2 hb
            refine x_iconst (pc := 35) d_M_code_35 ?_
            refine x_goto (tgt := 40) (pc := 36) d_M_code_36 rfl ?_
            refine x_istore (pc := 40) d_M_code_40 (by decide) ?_
            refine x_iload_n (pc := 42) d_M_code_42 rfl rfl ?_
            obtain ⟨h10, hvc⟩ := hvc
            refine x_if_lt (tgt := 56) (pc := 43) d_M_code_43 rfl h10 (fun hb => ?_) (fun hb => ?_)
            · have hvc := hvc.1 hb
              refine x_iconst (pc := 56) d_M_code_56 ?_
              exact x_zret (pc := 57) d_M_code_57 rfl (by decide) rfl (Nat.le_refl _) (hQ _ _ hvc)
            · have hvc := hvc.2 hb
              refine x_iload_n (pc := 46) d_M_code_46 rfl rfl ?_
              refine x_iconst (pc := 47) d_M_code_47 ?_
              refine x_icmp_gt (tgt := 56) (pc := 48) d_M_code_48 rfl h10 ⟨by decide, by decide⟩ (fun hb => ?_) (fun hb => ?_)
              · have hvc := hvc.1 hb
                refine x_iconst (pc := 56) d_M_code_56 ?_
                exact x_zret (pc := 57) d_M_code_57 rfl (by decide) rfl (Nat.le_refl _) (hQ _ _ hvc)
              · have hvc := hvc.2 hb
                refine x_iload (pc := 51) d_M_code_51 rfl ?_
                refine x_if_ne (tgt := 58) (pc := 53) d_M_code_53 rfl ⟨by decide, by decide⟩ (fun _ => ?_) (fun hb => absurd hb (by decide))
                refine x_aload_n (pc := 58) d_M_code_58 rfl rfl ?_
                refine x_iload_n (pc := 59) d_M_code_59 rfl rfl ?_
                refine x_iload_n (pc := 60) d_M_code_60 rfl rfl ?_
                refine x_iload_n (pc := 61) d_M_code_61 rfl rfl ?_
                refine y_callVv m_M_layCode 0 57 78 7 21 [_, _, _] [] rfl (pc := 62) d_M_code_62 ok_M_layCode w_560 w_562 w_21 pn_M_layCode (Nat.lt_of_lt_of_le (by decide) hn) rfl rfl (by decide) (Nat.le_of_ble_eq_true rfl) (Nat.le_refl _) (Nat.le_refl _) hvc (fun M1 hvc => ?_)
                refine x_iconst (pc := 65) d_M_code_65 ?_
                exact x_zret (pc := 66) d_M_code_66 rfl (by decide) rfl (Nat.le_refl _) (hQ _ _ hvc)
set_option maxRecDepth 20000 in
theorem E_M_code {n : Nat} {R : xR} {M : xM} {P : Int → xM → Prop} (hn : 93 ≤ n) (hR : RC 93 R) {l1 l2 l3 : Int} (h : Xi m_M_code 1 n R P 0 [some (vr 78), some (vi l1), some (vi l2), some (vi l3), none] [] M) : Ci m_M_code 1 n R [vr 78, vi l1, vi l2, vi l3] M P :=
  Ci.of [some (vr 78), some (vi l1), some (vi l2), some (vi l3), none] (by decide) rfl (Nat.le_of_ble_eq_true rfl) rfl h
set_option maxRecDepth 20000 in
theorem B_M_tell_0 {n : Nat} {R : xR} {M : xM} {P : Int → xM → Prop} (hn : 93 ≤ n) (hR : RC 93 R) {l1 l2 : Int} (hvc : (-2147483648 ≤ l1 ∧ l1 < 2147483648) ∧ ((l1 < 0 → P 0 M) ∧ (¬ l1 < 0 → (-2147483648 ≤ M 78 6 ∧ M 78 6 < 2147483648) ∧ (((M 78 6) ≤ l1 → P 0 M) ∧ (¬ (M 78 6) ≤ l1 → Ci m_M_isElement 0 n R [vr 78, vi l2] M (fun z3 M1 => (-2147483648 ≤ z3 ∧ z3 < 2147483648) ∧ ((¬ z3 = 0 → (0 ≤ l1 ∧ l1 < 4) ∧ (∀ M2 : xM, M2 = xU M1 82 l1.toNat l2 → P 1 M2)) ∧ (z3 = 0 → P 0 M1)))))))) : Xi m_M_tell 1 n R P 0 [some (vr 78), some (vi l1), some (vi l2)] [] M := by
  intro Q hQ
  refine x_iload_n (pc := 0) d_M_tell_0 rfl rfl ?_
  obtain ⟨h1, hvc⟩ := hvc
  refine x_if_lt (tgt := 20) (pc := 1) d_M_tell_1 rfl h1 (fun hb => ?_) (fun hb => ?_)
  · have hvc := hvc.1 hb
    refine x_iconst (pc := 20) d_M_tell_20 ?_
    exact x_zret (pc := 21) d_M_tell_21 rfl (by decide) rfl (Nat.le_refl _) (hQ _ _ hvc)
  · have hvc := hvc.2 hb
    refine x_iload_n (pc := 4) d_M_tell_4 rfl rfl ?_
    refine x_aload_n (pc := 5) d_M_tell_5 rfl rfl ?_
    refine x_getI (k := 78) (ci := 7) (pc := 6) 6 d_M_tell_6 cok7 rfl (Nat.lt_of_lt_of_le (by decide) hn) rfl (by decide) rfl w_570 ?_
    obtain ⟨h2, hvc⟩ := hvc
    refine x_icmp_ge (tgt := 20) (pc := 9) d_M_tell_9 rfl h1 h2 (fun hb => ?_) (fun hb => ?_)
    · have hvc := hvc.1 hb
      refine x_iconst (pc := 20) d_M_tell_20 ?_
      exact x_zret (pc := 21) d_M_tell_21 rfl (by decide) rfl (Nat.le_refl _) (hQ _ _ hvc)
    · have hvc := hvc.2 hb
      refine x_aload_n (pc := 12) d_M_tell_12 rfl rfl ?_
      refine x_iload_n (pc := 13) d_M_tell_13 rfl rfl ?_
      refine y_callVi m_M_isElement 0 76 78 7 21 [_] [] rfl (pc := 14) d_M_tell_14 ok_M_isElement w_639 w_641 w_22 pn_M_isElement (Nat.lt_of_lt_of_le (by decide) hn) rfl rfl (by decide) (Nat.le_of_ble_eq_true rfl) (Nat.le_refl _) (Nat.le_refl _) hvc (fun z3 M1 hvc => ?_)
      obtain ⟨h4, hvc⟩ := hvc
      refine x_if_ne (tgt := 22) (pc := 17) d_M_tell_17 rfl h4 (fun hb => ?_) (fun hb => ?_)
      · have hvc := hvc.1 hb
        refine x_aload_n (pc := 22) d_M_tell_22 rfl rfl ?_
        refine x_getR (k := 78) (ci := 7) (pc := 23) (t := 82) 8 d_M_tell_23 cok7 rfl (Nat.lt_of_lt_of_le (by decide) hn) rfl (by decide) rfl (hR.at 78 8 rfl rfl) w_572 ?_
        refine x_iload_n (pc := 26) d_M_tell_26 rfl rfl ?_
        refine x_iload_n (pc := 27) d_M_tell_27 rfl rfl ?_
        obtain ⟨h5, hvc⟩ := hvc
        refine x_iast (N := 4) (pc := 28) d_M_tell_28 (Nat.lt_of_lt_of_le (by decide) hn) rfl (by decide) h5.1 h5.2 (fun M2 eM2 => ?_)
        have hvc := hvc M2 eM2
        refine x_iconst (pc := 29) d_M_tell_29 ?_
        exact x_zret (pc := 30) d_M_tell_30 rfl (by decide) rfl (Nat.le_refl _) (hQ _ _ hvc)
      · have hvc := hvc.2 hb
        refine x_iconst (pc := 20) d_M_tell_20 ?_
        exact x_zret (pc := 21) d_M_tell_21 rfl (by decide) rfl (Nat.le_refl _) (hQ _ _ hvc)
set_option maxRecDepth 20000 in
theorem E_M_tell {n : Nat} {R : xR} {M : xM} {P : Int → xM → Prop} (hn : 93 ≤ n) (hR : RC 93 R) {l1 l2 : Int} (h : Xi m_M_tell 1 n R P 0 [some (vr 78), some (vi l1), some (vi l2)] [] M) : Ci m_M_tell 1 n R [vr 78, vi l1, vi l2] M P :=
  Ci.of [some (vr 78), some (vi l1), some (vi l2)] (by decide) rfl (Nat.le_of_ble_eq_true rfl) rfl h
set_option maxRecDepth 20000 in
theorem B_M_told_0 {n : Nat} {R : xR} {M : xM} {P : Int → xM → Prop} (hn : 93 ≤ n) (hR : RC 93 R) {l1 l2 : Int} (hvc : P (xAnd (xShr l1 ((M 78 0) * l2)) ((M 78 1) - 1)) M) : Xi m_M_told 0 n R P 0 [some (vr 78), some (vi l1), some (vi l2)] [] M := by
  intro Q hQ
  refine x_iload_n (pc := 0) d_M_told_0 rfl rfl ?_
  refine x_aload_n (pc := 1) d_M_told_1 rfl rfl ?_
  refine x_getI (k := 78) (ci := 7) (pc := 2) 0 d_M_told_2 cok7 rfl (Nat.lt_of_lt_of_le (by decide) hn) rfl (by decide) rfl w_564 ?_
  refine x_iload_n (pc := 5) d_M_told_5 rfl rfl ?_
  refine x_imul (pc := 6) d_M_told_6 ?_
  refine x_ishr (pc := 7) d_M_told_7 ?_
  refine x_aload_n (pc := 8) d_M_told_8 rfl rfl ?_
  refine x_getI (k := 78) (ci := 7) (pc := 9) 1 d_M_told_9 cok7 rfl (Nat.lt_of_lt_of_le (by decide) hn) rfl (by decide) rfl w_565 ?_
  refine x_iconst (pc := 12) d_M_told_12 ?_
  refine x_isub (pc := 13) d_M_told_13 ?_
  refine x_iand (pc := 14) d_M_told_14 ?_
  exact x_iret (pc := 15) d_M_told_15 rfl rfl (Nat.le_refl _) (hQ _ _ hvc)
set_option maxRecDepth 20000 in
theorem E_M_told {n : Nat} {R : xR} {M : xM} {P : Int → xM → Prop} (hn : 93 ≤ n) (hR : RC 93 R) {l1 l2 : Int} (h : Xi m_M_told 0 n R P 0 [some (vr 78), some (vi l1), some (vi l2)] [] M) : Ci m_M_told 0 n R [vr 78, vi l1, vi l2] M P :=
  Ci.of [some (vr 78), some (vi l1), some (vi l2)] (by decide) rfl (Nat.le_of_ble_eq_true rfl) rfl h
set_option maxRecDepth 20000 in
theorem B_M_messages_0 {n : Nat} {R : xR} {M : xM} {P : Int → xM → Prop} (hn : 93 ≤ n) (hR : RC 93 R) (hvc : P (xShl 1 ((M 78 0) * (M 78 6))) M) : Xi m_M_messages 0 n R P 0 [some (vr 78)] [] M := by
  intro Q hQ
  refine x_iconst (pc := 0) d_M_messages_0 ?_
  refine x_aload_n (pc := 1) d_M_messages_1 rfl rfl ?_
  refine x_getI (k := 78) (ci := 7) (pc := 2) 0 d_M_messages_2 cok7 rfl (Nat.lt_of_lt_of_le (by decide) hn) rfl (by decide) rfl w_564 ?_
  refine x_aload_n (pc := 5) d_M_messages_5 rfl rfl ?_
  refine x_getI (k := 78) (ci := 7) (pc := 6) 6 d_M_messages_6 cok7 rfl (Nat.lt_of_lt_of_le (by decide) hn) rfl (by decide) rfl w_570 ?_
  refine x_imul (pc := 9) d_M_messages_9 ?_
  refine x_ishl (pc := 10) d_M_messages_10 ?_
  exact x_iret (pc := 11) d_M_messages_11 rfl rfl (Nat.le_refl _) (hQ _ _ hvc)
set_option maxRecDepth 20000 in
theorem E_M_messages {n : Nat} {R : xR} {M : xM} {P : Int → xM → Prop} (hn : 93 ≤ n) (hR : RC 93 R) (h : Xi m_M_messages 0 n R P 0 [some (vr 78)] [] M) : Ci m_M_messages 0 n R [vr 78] M P :=
  Ci.of [some (vr 78)] (by decide) rfl (Nat.le_of_ble_eq_true rfl) rfl h
set_option maxRecDepth 20000 in
theorem B_M_element_0 {n : Nat} {R : xR} {M : xM} {P : Int → xM → Prop} (hn : 93 ≤ n) (hR : RC 93 R) {l1 l2 : Int} (hvc : (-2147483648 ≤ M 78 4 ∧ M 78 4 < 2147483648) ∧ ((¬ (M 78 4) = 0 → Xi m_M_element 1 n R P 58 [some (vr 78), some (vi l1), some (vi l2), some (vi 0), some (vi 0)] [] M) ∧ ((M 78 4) = 0 → Xi m_M_element 1 n R P 17 [some (vr 78), some (vi l1), some (vi l2), some (vi 0), some (vi ((M 78 6) - 1))] [] M))) : Xi m_M_element 1 n R P 0 [some (vr 78), some (vi l1), some (vi l2), none, none] [] M := by
  intro Q hQ
  refine x_iconst (pc := 0) d_M_element_0 ?_
  refine x_istore_n (pc := 1) d_M_element_1 rfl (by decide) ?_
  refine x_aload_n (pc := 2) d_M_element_2 rfl rfl ?_
  refine x_getI (k := 78) (ci := 7) (pc := 3) 4 d_M_element_3 cok7 rfl (Nat.lt_of_lt_of_le (by decide) hn) rfl (by decide) rfl w_568 ?_
  obtain ⟨h1, hvc⟩ := hvc
  refine x_if_ne (tgt := 55) (pc := 6) d_M_element_6 rfl h1 (fun hb => ?_) (fun hb => ?_)
  · have hvc := hvc.1 hb
    refine x_iconst (pc := 55) d_M_element_55 ?_
    refine x_istore (pc := 56) d_M_element_56 (by decide) ?_
    exact x_locals (xmask [true, true, true, true, true] _) (xmask_sub _ _) (hvc Q hQ)
  · have hvc := hvc.2 hb
    refine x_aload_n (pc := 9) d_M_element_9 rfl rfl ?_
    refine x_getI (k := 78) (ci := 7) (pc := 10) 6 d_M_element_10 cok7 rfl (Nat.lt_of_lt_of_le (by decide) hn) rfl (by decide) rfl w_570 ?_
    refine x_iconst (pc := 13) d_M_element_13 ?_
    refine x_isub (pc := 14) d_M_element_14 ?_
    refine x_istore (pc := 15) d_M_element_15 (by decide) ?_
    exact x_locals (xmask [true, true, true, true, true] _) (xmask_sub _ _) (hvc Q hQ)
set_option maxRecDepth 20000 in
theorem B_M_element_17 {n : Nat} {R : xR} {M : xM} {P : Int → xM → Prop} (hn : 93 ≤ n) (hR : RC 93 R) {l1 l2 l3 l4 : Int} (hvc : (-2147483648 ≤ l4 ∧ l4 < 2147483648) ∧ ((l4 < 0 → P l3 M) ∧ (¬ l4 < 0 → (0 ≤ l2 ∧ l2 < 32) ∧ (0 ≤ (32 * l3) + (M 80 l2.toNat) ∧ (32 * l3) + (M 80 l2.toNat) < 1024) ∧ Ci m_M_told 0 n R [vr 78, vi l1, vi l4] M (fun z4 M1 => Xi m_M_element 1 n R P 17 [some (vr 78), some (vi l1), some (vi l2), some (vi (xXor (M 79 ((32 * l3) + (M 80 l2.toNat)).toNat) z4)), some (vi (l4 + (-1)))] [] M1)))) : Xi m_M_element 1 n R P 17 [some (vr 78), some (vi l1), some (vi l2), some (vi l3), some (vi l4)] [] M := by
  intro Q hQ
  refine x_iload (pc := 17) d_M_element_17 rfl ?_
  obtain ⟨h1, hvc⟩ := hvc
  refine x_if_lt (tgt := 53) (pc := 19) d_M_element_19 rfl h1 (fun hb => ?_) (fun hb => ?_)
  · have hvc := hvc.1 hb
    refine x_iload_n (pc := 53) d_M_element_53 rfl rfl ?_
    exact x_iret (pc := 54) d_M_element_54 rfl rfl (Nat.le_refl _) (hQ _ _ hvc)
  · have hvc := hvc.2 hb
    refine x_aload_n (pc := 22) d_M_element_22 rfl rfl ?_
    refine x_getR (k := 78) (ci := 7) (pc := 23) (t := 79) 2 d_M_element_23 cok7 rfl (Nat.lt_of_lt_of_le (by decide) hn) rfl (by decide) rfl (hR.at 78 2 rfl rfl) w_566 ?_
    refine x_bipush (pc := 26) d_M_element_26 (by decide) ?_
    refine x_iload_n (pc := 28) d_M_element_28 rfl rfl ?_
    refine x_imul (pc := 29) d_M_element_29 ?_
    refine x_aload_n (pc := 30) d_M_element_30 rfl rfl ?_
    refine x_getR (k := 78) (ci := 7) (pc := 31) (t := 80) 3 d_M_element_31 cok7 rfl (Nat.lt_of_lt_of_le (by decide) hn) rfl (by decide) rfl (hR.at 78 3 rfl rfl) w_567 ?_
    refine x_iload_n (pc := 34) d_M_element_34 rfl rfl ?_
    obtain ⟨h2, hvc⟩ := hvc
    refine x_iald (N := 32) (pc := 35) d_M_element_35 (Nat.lt_of_lt_of_le (by decide) hn) rfl (by decide) h2.1 h2.2 ?_
    refine x_iadd (pc := 36) d_M_element_36 ?_
    obtain ⟨h3, hvc⟩ := hvc
    refine x_iald (N := 1024) (pc := 37) d_M_element_37 (Nat.lt_of_lt_of_le (by decide) hn) rfl (by decide) h3.1 h3.2 ?_
    refine x_aload_n (pc := 38) d_M_element_38 rfl rfl ?_
    refine x_iload_n (pc := 39) d_M_element_39 rfl rfl ?_
    refine x_iload (pc := 40) d_M_element_40 rfl ?_
    refine y_callVi m_M_told 0 99 78 7 21 [_, _] [_] rfl (pc := 42) d_M_element_42 ok_M_told w_679 w_681 w_27 pn_M_told (Nat.lt_of_lt_of_le (by decide) hn) rfl rfl (by decide) (Nat.le_of_ble_eq_true rfl) (Nat.le_refl _) (Nat.le_refl _) hvc (fun z4 M1 hvc => ?_)
    refine x_ixor (pc := 45) d_M_element_45 ?_
    refine x_istore_n (pc := 46) d_M_element_46 rfl (by decide) ?_
    refine x_iinc (pc := 47) d_M_element_47 rfl (by decide) ?_
    refine x_goto (tgt := 17) (pc := 50) d_M_element_50 rfl ?_
    exact x_locals (xmask [true, true, true, true, true] _) (xmask_sub _ _) (hvc Q hQ)
set_option maxRecDepth 20000 in
theorem B_M_element_58 {n : Nat} {R : xR} {M : xM} {P : Int → xM → Prop} (hn : 93 ≤ n) (hR : RC 93 R) {l1 l2 l3 l4 : Int} (hvc : (-2147483648 ≤ l4 ∧ l4 < 2147483648) ∧ (-2147483648 ≤ M 78 6 ∧ M 78 6 < 2147483648) ∧ (((M 78 6) ≤ l4 → P l3 M) ∧ (¬ (M 78 6) ≤ l4 → (-2147483648 ≤ l2 - l4 ∧ l2 - l4 < 2147483648) ∧ (((l2 - l4) < 0 → Xi m_M_element 1 n R P 58 [some (vr 78), some (vi l1), some (vi l2), some (vi l3), some (vi (l4 + 1))] [] M) ∧ (¬ (l2 - l4) < 0 → (-2147483648 ≤ (M 78 5) - (M 78 6) ∧ (M 78 5) - (M 78 6) < 2147483648) ∧ ((((M 78 5) - (M 78 6)) < (l2 - l4) → Xi m_M_element 1 n R P 58 [some (vr 78), some (vi l1), some (vi l2), some (vi l3), some (vi (l4 + 1))] [] M) ∧ (¬ ((M 78 5) - (M 78 6)) < (l2 - l4) → Ci m_M_told 0 n R [vr 78, vi l1, vi l4] M (fun z5 M1 => (0 ≤ l2 - l4 ∧ l2 - l4 < 20) ∧ (0 ≤ (32 * z5) + (M1 81 (l2 - l4).toNat) ∧ (32 * z5) + (M1 81 (l2 - l4).toNat) < 1024) ∧ Xi m_M_element 1 n R P 58 [some (vr 78), some (vi l1), some (vi l2), some (vi (xXor l3 (M1 79 ((32 * z5) + (M1 81 (l2 - l4).toNat)).toNat))), some (vi (l4 + 1))] [] M1)))))))) : Xi m_M_element 1 n R P 58 [some (vr 78), some (vi l1), some (vi l2), some (vi l3), some (vi l4)] [] M := by
  intro Q hQ
  refine x_iload (pc := 58) d_M_element_58 rfl ?_
  refine x_aload_n (pc := 60) d_M_element_60 rfl rfl ?_
  refine x_getI (k := 78) (ci := 7) (pc := 61) 6 d_M_element_61 cok7 rfl (Nat.lt_of_lt_of_le (by decide) hn) rfl (by decide) rfl w_570 ?_
  obtain ⟨h1, hvc⟩ := hvc
  obtain ⟨h2, hvc⟩ := hvc
  refine x_icmp_ge (tgt := 128) (pc := 64) d_M_element_64 rfl h1 h2 (fun hb => ?_) (fun hb => ?_)
  · have hvc := hvc.1 hb
    refine x_iload_n (pc := 128) d_M_element_128 rfl rfl ?_
    exact x_iret (pc := 129) d_M_element_129 rfl rfl (Nat.le_refl _) (hQ _ _ hvc)
  · have hvc := hvc.2 hb
    refine x_iload_n (pc := 67) d_M_element_67 rfl rfl ?_
    refine x_iload (pc := 68) d_M_element_68 rfl ?_
    refine x_isub (pc := 70) d_M_element_70 ?_
    obtain ⟨h3, hvc⟩ := hvc
    refine x_if_lt (tgt := 120) (pc := 71) d_M_element_71 rfl h3 (fun hb => ?_) (fun hb => ?_)
    · have hvc := hvc.1 hb
      refine x_iload_n (pc := 120) d_M_element_120 rfl rfl ?_
      refine x_istore_n (pc := 121) d_M_element_121 rfl (by decide) ?_
      refine x_iinc (pc := 122) d_M_element_122 rfl (by decide) ?_
      refine x_goto (tgt := 58) (pc := 125) d_M_element_125 rfl ?_
      exact x_locals (xmask [true, true, true, true, true] _) (xmask_sub _ _) (hvc Q hQ)
    · have hvc := hvc.2 hb
      refine x_iload_n (pc := 74) d_M_element_74 rfl rfl ?_
      refine x_iload (pc := 75) d_M_element_75 rfl ?_
      refine x_isub (pc := 77) d_M_element_77 ?_
      refine x_aload_n (pc := 78) d_M_element_78 rfl rfl ?_
      refine x_getI (k := 78) (ci := 7) (pc := 79) 5 d_M_element_79 cok7 rfl (Nat.lt_of_lt_of_le (by decide) hn) rfl (by decide) rfl w_569 ?_
      refine x_aload_n (pc := 82) d_M_element_82 rfl rfl ?_
      refine x_getI (k := 78) (ci := 7) (pc := 83) 6 d_M_element_83 cok7 rfl (Nat.lt_of_lt_of_le (by decide) hn) rfl (by decide) rfl w_570 ?_
      refine x_isub (pc := 86) d_M_element_86 ?_
      obtain ⟨h4, hvc⟩ := hvc
      refine x_icmp_gt (tgt := 120) (pc := 87) d_M_element_87 rfl h3 h4 (fun hb => ?_) (fun hb => ?_)
      · have hvc := hvc.1 hb
        refine x_iload_n (pc := 120) d_M_element_120 rfl rfl ?_
        refine x_istore_n (pc := 121) d_M_element_121 rfl (by decide) ?_
        refine x_iinc (pc := 122) d_M_element_122 rfl (by decide) ?_
        refine x_goto (tgt := 58) (pc := 125) d_M_element_125 rfl ?_
        exact x_locals (xmask [true, true, true, true, true] _) (xmask_sub _ _) (hvc Q hQ)
      · have hvc := hvc.2 hb
        refine x_iload_n (pc := 90) d_M_element_90 rfl rfl ?_
        refine x_aload_n (pc := 91) d_M_element_91 rfl rfl ?_
        refine x_getR (k := 78) (ci := 7) (pc := 92) (t := 79) 2 d_M_element_92 cok7 rfl (Nat.lt_of_lt_of_le (by decide) hn) rfl (by decide) rfl (hR.at 78 2 rfl rfl) w_566 ?_
        refine x_bipush (pc := 95) d_M_element_95 (by decide) ?_
        refine x_aload_n (pc := 97) d_M_element_97 rfl rfl ?_
        refine x_iload_n (pc := 98) d_M_element_98 rfl rfl ?_
        refine x_iload (pc := 99) d_M_element_99 rfl ?_
        refine y_callVi m_M_told 0 99 78 7 21 [_, _] [_, _, _] rfl (pc := 101) d_M_element_101 ok_M_told w_679 w_681 w_27 pn_M_told (Nat.lt_of_lt_of_le (by decide) hn) rfl rfl (by decide) (Nat.le_of_ble_eq_true rfl) (Nat.le_refl _) (Nat.le_refl _) hvc (fun z5 M1 hvc => ?_)
        refine x_imul (pc := 104) d_M_element_104 ?_
        refine x_aload_n (pc := 105) d_M_element_105 rfl rfl ?_
        refine x_getR (k := 78) (ci := 7) (pc := 106) (t := 81) 7 d_M_element_106 cok7 rfl (Nat.lt_of_lt_of_le (by decide) hn) rfl (by decide) rfl (hR.at 78 7 rfl rfl) w_571 ?_
        refine x_iload_n (pc := 109) d_M_element_109 rfl rfl ?_
        refine x_iload (pc := 110) d_M_element_110 rfl ?_
        refine x_isub (pc := 112) d_M_element_112 ?_
        obtain ⟨h6, hvc⟩ := hvc
        refine x_iald (N := 20) (pc := 113) d_M_element_113 (Nat.lt_of_lt_of_le (by decide) hn) rfl (by decide) h6.1 h6.2 ?_
        refine x_iadd (pc := 114) d_M_element_114 ?_
        obtain ⟨h7, hvc⟩ := hvc
        refine x_iald (N := 1024) (pc := 115) d_M_element_115 (Nat.lt_of_lt_of_le (by decide) hn) rfl (by decide) h7.1 h7.2 ?_
        refine x_ixor (pc := 116) d_M_element_116 ?_
        refine x_goto (tgt := 121) (pc := 117) d_M_element_117 rfl ?_
        refine x_istore_n (pc := 121) d_M_element_121 rfl (by decide) ?_
        refine x_iinc (pc := 122) d_M_element_122 rfl (by decide) ?_
        refine x_goto (tgt := 58) (pc := 125) d_M_element_125 rfl ?_
        exact x_locals (xmask [true, true, true, true, true] _) (xmask_sub _ _) (hvc Q hQ)
set_option maxRecDepth 20000 in
theorem E_M_element {n : Nat} {R : xR} {M : xM} {P : Int → xM → Prop} (hn : 93 ≤ n) (hR : RC 93 R) {l1 l2 : Int} (h : Xi m_M_element 1 n R P 0 [some (vr 78), some (vi l1), some (vi l2), none, none] [] M) : Ci m_M_element 1 n R [vr 78, vi l1, vi l2] M P :=
  Ci.of [some (vr 78), some (vi l1), some (vi l2), none, none] (by decide) rfl (Nat.le_of_ble_eq_true rfl) rfl h
set_option maxRecDepth 20000 in
theorem B_M_makeRow_0 {n : Nat} {R : xR} {M : xM} {P : xM → Prop} (hn : 93 ≤ n) (hR : RC 93 R) {l1 : Int} (hvc : Xv m_M_makeRow 2 n R P 2 [some (vr 78), some (vi l1), some (vi 0)] [] M) : Xv m_M_makeRow 2 n R P 0 [some (vr 78), some (vi l1), none] [] M := by
  intro Q hQ
  refine x_iconst (pc := 0) d_M_makeRow_0 ?_
  refine x_istore_n (pc := 1) d_M_makeRow_1 rfl (by decide) ?_
  exact x_locals (xmask [true, true, true] _) (xmask_sub _ _) (hvc Q hQ)
set_option maxRecDepth 20000 in
theorem B_M_makeRow_2 {n : Nat} {R : xR} {M : xM} {P : xM → Prop} (hn : 93 ≤ n) (hR : RC 93 R) {l1 l2 : Int} (hvc : (-2147483648 ≤ l2 ∧ l2 < 2147483648) ∧ (-2147483648 ≤ M 78 5 ∧ M 78 5 < 2147483648) ∧ (((M 78 5) ≤ l2 → P M) ∧ (¬ (M 78 5) ≤ l2 → Ci m_M_element 1 n R [vr 78, vi l1, vi l2] M (fun z3 M1 => (0 ≤ l2 ∧ l2 < 20) ∧ (∀ M2 : xM, M2 = xU M1 85 l2.toNat z3 → Xv m_M_makeRow 2 n R P 2 [some (vr 78), some (vi l1), some (vi (l2 + 1))] [] M2))))) : Xv m_M_makeRow 2 n R P 2 [some (vr 78), some (vi l1), some (vi l2)] [] M := by
  intro Q hQ
  refine x_iload_n (pc := 2) d_M_makeRow_2 rfl rfl ?_
  refine x_aload_n (pc := 3) d_M_makeRow_3 rfl rfl ?_
  refine x_getI (k := 78) (ci := 7) (pc := 4) 5 d_M_makeRow_4 cok7 rfl (Nat.lt_of_lt_of_le (by decide) hn) rfl (by decide) rfl w_569 ?_
  obtain ⟨h1, hvc⟩ := hvc
  obtain ⟨h2, hvc⟩ := hvc
  refine x_icmp_ge (tgt := 28) (pc := 7) d_M_makeRow_7 rfl h1 h2 (fun hb => ?_) (fun hb => ?_)
  · have hvc := hvc.1 hb
    exact x_vret (pc := 28) d_M_makeRow_28 rfl rfl (Nat.le_refl _) (hQ _ hvc)
  · have hvc := hvc.2 hb
    refine x_aload_n (pc := 10) d_M_makeRow_10 rfl rfl ?_
    refine x_getR (k := 78) (ci := 7) (pc := 11) (t := 85) 11 d_M_makeRow_11 cok7 rfl (Nat.lt_of_lt_of_le (by decide) hn) rfl (by decide) rfl (hR.at 78 11 rfl rfl) w_575 ?_
    refine x_iload_n (pc := 14) d_M_makeRow_14 rfl rfl ?_
    refine x_aload_n (pc := 15) d_M_makeRow_15 rfl rfl ?_
    refine x_iload_n (pc := 16) d_M_makeRow_16 rfl rfl ?_
    refine x_iload_n (pc := 17) d_M_makeRow_17 rfl rfl ?_
    refine y_callVi m_M_element 1 102 78 7 21 [_, _] [_, _] rfl (pc := 18) d_M_makeRow_18 ok_M_element w_675 w_677 w_26 pn_M_element (Nat.lt_of_lt_of_le (by decide) hn) rfl rfl (by decide) (Nat.le_of_ble_eq_true rfl) (Nat.le_refl _) (Nat.le_refl _) hvc (fun z3 M1 hvc => ?_)
    obtain ⟨h4, hvc⟩ := hvc
    refine x_iast (N := 20) (pc := 21) d_M_makeRow_21 (Nat.lt_of_lt_of_le (by decide) hn) rfl (by decide) h4.1 h4.2 (fun M2 eM2 => ?_)
    have hvc := hvc M2 eM2
    refine x_iinc (pc := 22) d_M_makeRow_22 rfl (by decide) ?_
    refine x_goto (tgt := 2) (pc := 25) d_M_makeRow_25 rfl ?_
    exact x_locals (xmask [true, true, true] _) (xmask_sub _ _) (hvc Q hQ)
set_option maxRecDepth 20000 in
theorem E_M_makeRow {n : Nat} {R : xR} {M : xM} {P : xM → Prop} (hn : 93 ≤ n) (hR : RC 93 R) {l1 : Int} (h : Xv m_M_makeRow 2 n R P 0 [some (vr 78), some (vi l1), none] [] M) : Cv m_M_makeRow 2 n R [vr 78, vi l1] M P :=
  Cv.of [some (vr 78), some (vi l1), none] (by decide) rfl (Nat.le_of_ble_eq_true rfl) rfl h
set_option maxRecDepth 20000 in
theorem B_M_chosen_0 {n : Nat} {R : xR} {M : xM} {P : Int → xM → Prop} (hn : 93 ≤ n) (hR : RC 93 R) {l1 : Int} (hvc : Xi m_M_chosen 2 n R P 9 [some (vr 78), some (vi l1), some (vi 0), some (vi ((M 78 6) - 1)), none, none] [] M) : Xi m_M_chosen 2 n R P 0 [some (vr 78), some (vi l1), none, none, none, none] [] M := by
  intro Q hQ
  refine x_iconst (pc := 0) d_M_chosen_0 ?_
  refine x_istore_n (pc := 1) d_M_chosen_1 rfl (by decide) ?_
  refine x_aload_n (pc := 2) d_M_chosen_2 rfl rfl ?_
  refine x_getI (k := 78) (ci := 7) (pc := 3) 6 d_M_chosen_3 cok7 rfl (Nat.lt_of_lt_of_le (by decide) hn) rfl (by decide) rfl w_570 ?_
  refine x_iconst (pc := 6) d_M_chosen_6 ?_
  refine x_isub (pc := 7) d_M_chosen_7 ?_
  refine x_istore_n (pc := 8) d_M_chosen_8 rfl (by decide) ?_
  exact x_locals (xmask [true, true, true, true, false, false] _) (xmask_sub _ _) (hvc Q hQ)
set_option maxRecDepth 20000 in
theorem B_M_chosen_9 {n : Nat} {R : xR} {M : xM} {P : Int → xM → Prop} (hn : 93 ≤ n) (hR : RC 93 R) {l1 l2 l3 : Int} (hvc : (-2147483648 ≤ l3 ∧ l3 < 2147483648) ∧ ((l3 < 0 → (-2147483648 ≤ l1 ∧ l1 < 2147483648) ∧ ((¬ l1 = 0 → Xi m_M_chosen 2 n R P 41 [some (vr 78), some (vi l1), some (vi l2), some (vi 0), none, none] [] M) ∧ (l1 = 0 → P l2 M))) ∧ (¬ l3 < 0 → (0 ≤ l3 ∧ l3 < 4) ∧ Xi m_M_chosen 2 n R P 9 [some (vr 78), some (vi l1), some (vi (xOr (xShl l2 (M 78 0)) (M 82 l3.toNat))), some (vi (l3 + (-1))), none, none] [] M))) : Xi m_M_chosen 2 n R P 9 [some (vr 78), some (vi l1), some (vi l2), some (vi l3), none, none] [] M := by
  intro Q hQ
  refine x_iload_n (pc := 9) d_M_chosen_9 rfl rfl ?_
  obtain ⟨h1, hvc⟩ := hvc
  refine x_if_lt (tgt := 33) (pc := 10) d_M_chosen_10 rfl h1 (fun hb => ?_) (fun hb => ?_)
  · have hvc := hvc.1 hb
    refine x_iload_n (pc := 33) d_M_chosen_33 rfl rfl ?_
    obtain ⟨h2, hvc⟩ := hvc
    refine x_if_ne (tgt := 39) (pc := 34) d_M_chosen_34 rfl h2 (fun hb => ?_) (fun hb => ?_)
    · have hvc := hvc.1 hb
      refine x_iconst (pc := 39) d_M_chosen_39 ?_
      refine x_istore_n (pc := 40) d_M_chosen_40 rfl (by decide) ?_
      exact x_locals (xmask [true, true, true, true, false, false] _) (xmask_sub _ _) (hvc Q hQ)
    · have hvc := hvc.2 hb
      refine x_iload_n (pc := 37) d_M_chosen_37 rfl rfl ?_
      exact x_iret (pc := 38) d_M_chosen_38 rfl rfl (Nat.le_refl _) (hQ _ _ hvc)
  · have hvc := hvc.2 hb
    refine x_iload_n (pc := 13) d_M_chosen_13 rfl rfl ?_
    refine x_aload_n (pc := 14) d_M_chosen_14 rfl rfl ?_
    refine x_getI (k := 78) (ci := 7) (pc := 15) 0 d_M_chosen_15 cok7 rfl (Nat.lt_of_lt_of_le (by decide) hn) rfl (by decide) rfl w_564 ?_
    refine x_ishl (pc := 18) d_M_chosen_18 ?_
    refine x_aload_n (pc := 19) d_M_chosen_19 rfl rfl ?_
    refine x_getR (k := 78) (ci := 7) (pc := 20) (t := 82) 8 d_M_chosen_20 cok7 rfl (Nat.lt_of_lt_of_le (by decide) hn) rfl (by decide) rfl (hR.at 78 8 rfl rfl) w_572 ?_
    refine x_iload_n (pc := 23) d_M_chosen_23 rfl rfl ?_
    obtain ⟨h3, hvc⟩ := hvc
    refine x_iald (N := 4) (pc := 24) d_M_chosen_24 (Nat.lt_of_lt_of_le (by decide) hn) rfl (by decide) h3.1 h3.2 ?_
    refine x_ior (pc := 25) d_M_chosen_25 ?_
    refine x_istore_n (pc := 26) d_M_chosen_26 rfl (by decide) ?_
    refine x_iinc (pc := 27) d_M_chosen_27 rfl (by decide) ?_
    refine x_goto (tgt := 9) (pc := 30) d_M_chosen_30 rfl ?_
    exact x_locals (xmask [true, true, true, true, false, false] _) (xmask_sub _ _) (hvc Q hQ)
set_option maxRecDepth 20000 in
theorem B_M_chosen_41 {n : Nat} {R : xR} {M : xM} {P : Int → xM → Prop} (hn : 93 ≤ n) (hR : RC 93 R) {l1 l2 l3 : Int} (hvc : Ci m_M_messages 0 n R [vr 78] M (fun z1 M1 => (-2147483648 ≤ l3 ∧ l3 < 2147483648) ∧ (-2147483648 ≤ z1 ∧ z1 < 2147483648) ∧ ((z1 ≤ l3 → P l2 M1) ∧ (¬ z1 ≤ l3 → Xi m_M_chosen 2 n R P 55 [some (vr 78), some (vi l1), some (vi l2), some (vi l3), some (vi 1), some (vi 0)] [] M1)))) : Xi m_M_chosen 2 n R P 41 [some (vr 78), some (vi l1), some (vi l2), some (vi l3), none, none] [] M := by
  intro Q hQ
  refine x_iload_n (pc := 41) d_M_chosen_41 rfl rfl ?_
  refine x_aload_n (pc := 42) d_M_chosen_42 rfl rfl ?_
  refine y_callVi m_M_messages 0 105 78 7 21 [] [_] rfl (pc := 43) d_M_chosen_43 ok_M_messages w_671 w_673 w_25 pn_M_messages (Nat.lt_of_lt_of_le (by decide) hn) rfl rfl (by decide) (Nat.le_of_ble_eq_true rfl) (Nat.le_refl _) (Nat.le_refl _) hvc (fun z1 M1 hvc => ?_)
  obtain ⟨h2, hvc⟩ := hvc
  obtain ⟨h3, hvc⟩ := hvc
  refine x_icmp_ge (tgt := 122) (pc := 46) d_M_chosen_46 rfl h2 h3 (fun hb => ?_) (fun hb => ?_)
  · have hvc := hvc.1 hb
    refine x_iload_n (pc := 122) d_M_chosen_122 rfl rfl ?_
    exact x_iret (pc := 123) d_M_chosen_123 rfl rfl (Nat.le_refl _) (hQ _ _ hvc)
  · have hvc := hvc.2 hb
    refine x_iconst (pc := 49) d_M_chosen_49 ?_
    refine x_istore (pc := 50) d_M_chosen_50 (by decide) ?_
    refine x_iconst (pc := 52) d_M_chosen_52 ?_
    refine x_istore (pc := 53) d_M_chosen_53 (by decide) ?_
    exact x_locals (xmask [true, true, true, true, true, true] _) (xmask_sub _ _) (hvc Q hQ)
set_option maxRecDepth 20000 in
theorem B_M_chosen_55 {n : Nat} {R : xR} {M : xM} {P : Int → xM → Prop} (hn : 93 ≤ n) (hR : RC 93 R) {l1 l2 l3 l4 l5 : Int} (hvc : (-2147483648 ≤ l5 ∧ l5 < 2147483648) ∧ (-2147483648 ≤ M 78 6 ∧ M 78 6 < 2147483648) ∧ (((M 78 6) ≤ l5 → (-2147483648 ≤ l4 ∧ l4 < 2147483648) ∧ ((l4 = 0 → Xi m_M_chosen 2 n R P 41 [some (vr 78), some (vi l1), some (vi l2), some (vi (l3 + 1)), none, none] [] M) ∧ (¬ l4 = 0 → P l3 M))) ∧ (¬ (M 78 6) ≤ l5 → (-2147483648 ≤ l4 ∧ l4 < 2147483648) ∧ ((l4 = 0 → ((l4 = 0 → Xi m_M_chosen 2 n R P 41 [some (vr 78), some (vi l1), some (vi l2), some (vi (l3 + 1)), none, none] [] M) ∧ (¬ l4 = 0 → P l3 M))) ∧ (¬ l4 = 0 → Ci m_M_element 1 n R [vr 78, vi l3, vi (((M 78 5) - (M 78 6)) + l5)] M (fun z5 M1 => (0 ≤ l5 ∧ l5 < 4) ∧ (-2147483648 ≤ z5 ∧ z5 < 2147483648) ∧ (-2147483648 ≤ M1 82 l5.toNat ∧ M1 82 l5.toNat < 2147483648) ∧ ((¬ z5 = (M1 82 l5.toNat) → Xi m_M_chosen 2 n R P 55 [some (vr 78), some (vi l1), some (vi l2), some (vi l3), some (vi 0), some (vi (l5 + 1))] [] M1) ∧ (z5 = (M1 82 l5.toNat) → Xi m_M_chosen 2 n R P 55 [some (vr 78), some (vi l1), some (vi l2), some (vi l3), some (vi 1), some (vi (l5 + 1))] [] M1)))))))) : Xi m_M_chosen 2 n R P 55 [some (vr 78), some (vi l1), some (vi l2), some (vi l3), some (vi l4), some (vi l5)] [] M := by
  intro Q hQ
  refine x_iload (pc := 55) d_M_chosen_55 rfl ?_
  refine x_aload_n (pc := 57) d_M_chosen_57 rfl rfl ?_
  refine x_getI (k := 78) (ci := 7) (pc := 58) 6 d_M_chosen_58 cok7 rfl (Nat.lt_of_lt_of_le (by decide) hn) rfl (by decide) rfl w_570 ?_
  obtain ⟨h1, hvc⟩ := hvc
  obtain ⟨h2, hvc⟩ := hvc
  refine x_icmp_ge (tgt := 109) (pc := 61) d_M_chosen_61 rfl h1 h2 (fun hb => ?_) (fun hb => ?_)
  · have hvc := hvc.1 hb
    refine x_iload (pc := 109) d_M_chosen_109 rfl ?_
    obtain ⟨h3, hvc⟩ := hvc
    refine x_if_eq (tgt := 116) (pc := 111) d_M_chosen_111 rfl h3 (fun hb => ?_) (fun hb => ?_)
    · have hvc := hvc.1 hb
      refine x_iinc (pc := 116) d_M_chosen_116 rfl (by decide) ?_
      refine x_goto (tgt := 41) (pc := 119) d_M_chosen_119 rfl ?_
      exact x_locals (xmask [true, true, true, true, false, false] _) (xmask_sub _ _) (hvc Q hQ)
    · have hvc := hvc.2 hb
      refine x_iload_n (pc := 114) d_M_chosen_114 rfl rfl ?_
      exact x_iret (pc := 115) d_M_chosen_115 rfl rfl (Nat.le_refl _) (hQ _ _ hvc)
  · have hvc := hvc.2 hb
    refine x_iload (pc := 64) d_M_chosen_64 rfl ?_
    obtain ⟨h4, hvc⟩ := hvc
    refine x_if_eq (tgt := 109) (pc := 66) d_M_chosen_66 rfl h4 (fun hb => ?_) (fun hb => ?_)
    · have hvc := hvc.1 hb
      refine x_iload (pc := 109) d_M_chosen_109 rfl ?_
      refine x_if_eq (tgt := 116) (pc := 111) d_M_chosen_111 rfl h4 (fun hb => ?_) (fun hb => ?_)
      · have hvc := hvc.1 hb
        refine x_iinc (pc := 116) d_M_chosen_116 rfl (by decide) ?_
        refine x_goto (tgt := 41) (pc := 119) d_M_chosen_119 rfl ?_
        exact x_locals (xmask [true, true, true, true, false, false] _) (xmask_sub _ _) (hvc Q hQ)
      · have hvc := hvc.2 hb
        refine x_iload_n (pc := 114) d_M_chosen_114 rfl rfl ?_
        exact x_iret (pc := 115) d_M_chosen_115 rfl rfl (Nat.le_refl _) (hQ _ _ hvc)
    · have hvc := hvc.2 hb
      refine x_aload_n (pc := 69) d_M_chosen_69 rfl rfl ?_
      refine x_iload_n (pc := 70) d_M_chosen_70 rfl rfl ?_
      refine x_aload_n (pc := 71) d_M_chosen_71 rfl rfl ?_
      refine x_getI (k := 78) (ci := 7) (pc := 72) 5 d_M_chosen_72 cok7 rfl (Nat.lt_of_lt_of_le (by decide) hn) rfl (by decide) rfl w_569 ?_
      refine x_aload_n (pc := 75) d_M_chosen_75 rfl rfl ?_
      refine x_getI (k := 78) (ci := 7) (pc := 76) 6 d_M_chosen_76 cok7 rfl (Nat.lt_of_lt_of_le (by decide) hn) rfl (by decide) rfl w_570 ?_
      refine x_isub (pc := 79) d_M_chosen_79 ?_
      refine x_iload (pc := 80) d_M_chosen_80 rfl ?_
      refine x_iadd (pc := 82) d_M_chosen_82 ?_
      refine y_callVi m_M_element 1 102 78 7 21 [_, _] [] rfl (pc := 83) d_M_chosen_83 ok_M_element w_675 w_677 w_26 pn_M_element (Nat.lt_of_lt_of_le (by decide) hn) rfl rfl (by decide) (Nat.le_of_ble_eq_true rfl) (Nat.le_refl _) (Nat.le_refl _) hvc (fun z5 M1 hvc => ?_)
      refine x_aload_n (pc := 86) d_M_chosen_86 rfl rfl ?_
      refine x_getR (k := 78) (ci := 7) (pc := 87) (t := 82) 8 d_M_chosen_87 cok7 rfl (Nat.lt_of_lt_of_le (by decide) hn) rfl (by decide) rfl (hR.at 78 8 rfl rfl) w_572 ?_
      refine x_iload (pc := 90) d_M_chosen_90 rfl ?_
      obtain ⟨h6, hvc⟩ := hvc
      refine x_iald (N := 4) (pc := 92) d_M_chosen_92 (Nat.lt_of_lt_of_le (by decide) hn) rfl (by decide) h6.1 h6.2 ?_
      obtain ⟨h7, hvc⟩ := hvc
      obtain ⟨h8, hvc⟩ := hvc
      refine x_icmp_ne (tgt := 100) (pc := 93) d_M_chosen_93 rfl h7 h8 (fun hb => ?_) (fun hb => ?_)
      · have hvc := hvc.1 hb
        refine x_iconst (pc := 100) d_M_chosen_100 ?_
        refine x_istore (pc := 101) d_M_chosen_101 (by decide) ?_
        refine x_iinc (pc := 103) d_M_chosen_103 rfl (by decide) ?_
        refine x_goto (tgt := 55) (pc := 106) d_M_chosen_106 rfl ?_
        exact x_locals (xmask [true, true, true, true, true, true] _) (xmask_sub _ _) (hvc Q hQ)
      · have hvc := hvc.2 hb
        refine x_iconst (pc := 96) d_M_chosen_96 ?_
        refine x_goto (tgt := 101) (pc := 97) d_M_chosen_97 rfl ?_
        refine x_istore (pc := 101) d_M_chosen_101 (by decide) ?_
        refine x_iinc (pc := 103) d_M_chosen_103 rfl (by decide) ?_
        refine x_goto (tgt := 55) (pc := 106) d_M_chosen_106 rfl ?_
        exact x_locals (xmask [true, true, true, true, true, true] _) (xmask_sub _ _) (hvc Q hQ)
set_option maxRecDepth 20000 in
theorem E_M_chosen {n : Nat} {R : xR} {M : xM} {P : Int → xM → Prop} (hn : 93 ≤ n) (hR : RC 93 R) {l1 : Int} (h : Xi m_M_chosen 2 n R P 0 [some (vr 78), some (vi l1), none, none, none, none] [] M) : Ci m_M_chosen 2 n R [vr 78, vi l1] M P :=
  Ci.of [some (vr 78), some (vi l1), none, none, none, none] (by decide) rfl (Nat.le_of_ble_eq_true rfl) rfl h
set_option maxRecDepth 20000 in
theorem B_M_encode_0 {n : Nat} {R : xR} {M : xM} {P : Int → xM → Prop} (hn : 93 ≤ n) (hR : RC 93 R) {l1 : Int} (hvc : Ci m_M_chosen 2 n R [vr 78, vi l1] M (fun z1 M1 => Cv m_M_makeRow 2 n R [vr 78, vi z1] M1 (fun M2 => Xi m_M_encode 3 n R P 13 [some (vr 78), some (vi l1), some (vi 0), some (vi 0)] [] M2))) : Xi m_M_encode 3 n R P 0 [some (vr 78), some (vi l1), none, none] [] M := by
  intro Q hQ
  refine x_aload_n (pc := 0) d_M_encode_0 rfl rfl ?_
  refine x_aload_n (pc := 1) d_M_encode_1 rfl rfl ?_
  refine x_iload_n (pc := 2) d_M_encode_2 rfl rfl ?_
  refine y_callVi m_M_chosen 2 109 78 7 21 [_] [_] rfl (pc := 3) d_M_encode_3 ok_M_chosen w_667 w_669 w_24 pn_M_chosen (Nat.lt_of_lt_of_le (by decide) hn) rfl rfl (by decide) (Nat.le_of_ble_eq_true rfl) (Nat.le_refl _) (Nat.le_refl _) hvc (fun z1 M1 hvc => ?_)
  refine y_callVv m_M_makeRow 2 113 78 7 21 [_] [] rfl (pc := 6) d_M_encode_6 ok_M_makeRow w_683 w_685 w_28 pn_M_makeRow (Nat.lt_of_lt_of_le (by decide) hn) rfl rfl (by decide) (Nat.le_of_ble_eq_true rfl) (Nat.le_refl _) (Nat.le_refl _) hvc (fun M2 hvc => ?_)
  refine x_iconst (pc := 9) d_M_encode_9 ?_
  refine x_istore_n (pc := 10) d_M_encode_10 rfl (by decide) ?_
  refine x_iconst (pc := 11) d_M_encode_11 ?_
  refine x_istore_n (pc := 12) d_M_encode_12 rfl (by decide) ?_
  exact x_locals (xmask [true, true, true, true] _) (xmask_sub _ _) (hvc Q hQ)
set_option maxRecDepth 20000 in
theorem B_M_encode_13 {n : Nat} {R : xR} {M : xM} {P : Int → xM → Prop} (hn : 93 ≤ n) (hR : RC 93 R) {l1 l2 l3 : Int} (hvc : (-2147483648 ≤ l3 ∧ l3 < 2147483648) ∧ (-2147483648 ≤ M 78 5 ∧ M 78 5 < 2147483648) ∧ (((M 78 5) ≤ l3 → P l2 M) ∧ (¬ (M 78 5) ≤ l3 → (0 ≤ l3 ∧ l3 < 20) ∧ (∀ M1 : xM, M1 = xU M 83 l3.toNat (M 85 l3.toNat) → (∀ M2 : xM, M2 = xU M1 84 l3.toNat 0 → (-2147483648 ≤ M2 85 l3.toNat ∧ M2 85 l3.toNat < 2147483648) ∧ (((M2 85 l3.toNat) = 0 → Xi m_M_encode 3 n R P 13 [some (vr 78), some (vi l1), some (vi l2), some (vi (l3 + 1))] [] M2) ∧ (¬ (M2 85 l3.toNat) = 0 → Xi m_M_encode 3 n R P 13 [some (vr 78), some (vi l1), some (vi (l2 + 1)), some (vi (l3 + 1))] [] M2))))))) : Xi m_M_encode 3 n R P 13 [some (vr 78), some (vi l1), some (vi l2), some (vi l3)] [] M := by
  intro Q hQ
  refine x_iload_n (pc := 13) d_M_encode_13 rfl rfl ?_
  refine x_aload_n (pc := 14) d_M_encode_14 rfl rfl ?_
  refine x_getI (k := 78) (ci := 7) (pc := 15) 5 d_M_encode_15 cok7 rfl (Nat.lt_of_lt_of_le (by decide) hn) rfl (by decide) rfl w_569 ?_
  obtain ⟨h1, hvc⟩ := hvc
  obtain ⟨h2, hvc⟩ := hvc
  refine x_icmp_ge (tgt := 63) (pc := 18) d_M_encode_18 rfl h1 h2 (fun hb => ?_) (fun hb => ?_)
  · have hvc := hvc.1 hb
    refine x_iload_n (pc := 63) d_M_encode_63 rfl rfl ?_
    exact x_iret (pc := 64) d_M_encode_64 rfl rfl (Nat.le_refl _) (hQ _ _ hvc)
  · have hvc := hvc.2 hb
    refine x_aload_n (pc := 21) d_M_encode_21 rfl rfl ?_
    refine x_getR (k := 78) (ci := 7) (pc := 22) (t := 83) 9 d_M_encode_22 cok7 rfl (Nat.lt_of_lt_of_le (by decide) hn) rfl (by decide) rfl (hR.at 78 9 rfl rfl) w_573 ?_
    refine x_iload_n (pc := 25) d_M_encode_25 rfl rfl ?_
    refine x_aload_n (pc := 26) d_M_encode_26 rfl rfl ?_
    refine x_getR (k := 78) (ci := 7) (pc := 27) (t := 85) 11 d_M_encode_27 cok7 rfl (Nat.lt_of_lt_of_le (by decide) hn) rfl (by decide) rfl (hR.at 78 11 rfl rfl) w_575 ?_
    refine x_iload_n (pc := 30) d_M_encode_30 rfl rfl ?_
    obtain ⟨h3, hvc⟩ := hvc
    refine x_iald (N := 20) (pc := 31) d_M_encode_31 (Nat.lt_of_lt_of_le (by decide) hn) rfl (by decide) h3.1 h3.2 ?_
    refine x_iast (N := 20) (pc := 32) d_M_encode_32 (Nat.lt_of_lt_of_le (by decide) hn) rfl (by decide) h3.1 h3.2 (fun M1 eM1 => ?_)
    have hvc := hvc M1 eM1
    refine x_aload_n (pc := 33) d_M_encode_33 rfl rfl ?_
    refine x_getR (k := 78) (ci := 7) (pc := 34) (t := 84) 10 d_M_encode_34 cok7 rfl (Nat.lt_of_lt_of_le (by decide) hn) rfl (by decide) rfl (hR.at 78 10 rfl rfl) w_574 ?_
    refine x_iload_n (pc := 37) d_M_encode_37 rfl rfl ?_
    refine x_iconst (pc := 38) d_M_encode_38 ?_
    refine x_zast (N := 20) (pc := 39) d_M_encode_39 (Nat.lt_of_lt_of_le (by decide) hn) rfl (by decide) h3.1 h3.2 (by decide) (fun M2 eM2 => ?_)
    have hvc := hvc M2 eM2
    refine x_aload_n (pc := 40) d_M_encode_40 rfl rfl ?_
    refine x_getR (k := 78) (ci := 7) (pc := 41) (t := 85) 11 d_M_encode_41 cok7 rfl (Nat.lt_of_lt_of_le (by decide) hn) rfl (by decide) rfl (hR.at 78 11 rfl rfl) w_575 ?_
    refine x_iload_n (pc := 44) d_M_encode_44 rfl rfl ?_
    refine x_iald (N := 20) (pc := 45) d_M_encode_45 (Nat.lt_of_lt_of_le (by decide) hn) rfl (by decide) h3.1 h3.2 ?_
    obtain ⟨h4, hvc⟩ := hvc
    refine x_if_eq (tgt := 55) (pc := 46) d_M_encode_46 rfl h4 (fun hb => ?_) (fun hb => ?_)
    · have hvc := hvc.1 hb
      refine x_iload_n (pc := 55) d_M_encode_55 rfl rfl ?_
      refine x_istore_n (pc := 56) d_M_encode_56 rfl (by decide) ?_
      refine x_iinc (pc := 57) d_M_encode_57 rfl (by decide) ?_
      refine x_goto (tgt := 13) (pc := 60) d_M_encode_60 rfl ?_
      exact x_locals (xmask [true, true, true, true] _) (xmask_sub _ _) (hvc Q hQ)
    · have hvc := hvc.2 hb
      refine x_iload_n (pc := 49) d_M_encode_49 rfl rfl ?_
      refine x_iconst (pc := 50) d_M_encode_50 ?_
      refine x_iadd (pc := 51) d_M_encode_51 ?_
      refine x_goto (tgt := 56) (pc := 52) d_M_encode_52 rfl ?_
      refine x_istore_n (pc := 56) d_M_encode_56 rfl (by decide) ?_
      refine x_iinc (pc := 57) d_M_encode_57 rfl (by decide) ?_
      refine x_goto (tgt := 13) (pc := 60) d_M_encode_60 rfl ?_
      exact x_locals (xmask [true, true, true, true] _) (xmask_sub _ _) (hvc Q hQ)
set_option maxRecDepth 20000 in
theorem E_M_encode {n : Nat} {R : xR} {M : xM} {P : Int → xM → Prop} (hn : 93 ≤ n) (hR : RC 93 R) {l1 : Int} (h : Xi m_M_encode 3 n R P 0 [some (vr 78), some (vi l1), none, none] [] M) : Ci m_M_encode 3 n R [vr 78, vi l1] M P :=
  Ci.of [some (vr 78), some (vi l1), none, none] (by decide) rfl (Nat.le_of_ble_eq_true rfl) rfl h
set_option maxRecDepth 20000 in
theorem B_M_isPlace_0 {n : Nat} {R : xR} {M : xM} {P : Int → xM → Prop} (hn : 93 ≤ n) (hR : RC 93 R) {l1 : Int} (hvc : (-2147483648 ≤ l1 ∧ l1 < 2147483648) ∧ ((l1 < 0 → P 0 M) ∧ (¬ l1 < 0 → (-2147483648 ≤ M 78 5 ∧ M 78 5 < 2147483648) ∧ (((M 78 5) ≤ l1 → P 0 M) ∧ (¬ (M 78 5) ≤ l1 → P 1 M))))) : Xi m_M_isPlace 0 n R P 0 [some (vr 78), some (vi l1)] [] M := by
  intro Q hQ
  refine x_iload_n (pc := 0) d_M_isPlace_0 rfl rfl ?_
  obtain ⟨h1, hvc⟩ := hvc
  refine x_if_lt (tgt := 16) (pc := 1) d_M_isPlace_1 rfl h1 (fun hb => ?_) (fun hb => ?_)
  · have hvc := hvc.1 hb
    refine x_iconst (pc := 16) d_M_isPlace_16 ?_
    exact x_zret (pc := 17) d_M_isPlace_17 rfl (by decide) rfl (Nat.le_refl _) (hQ _ _ hvc)
  · have hvc := hvc.2 hb
    refine x_iload_n (pc := 4) d_M_isPlace_4 rfl rfl ?_
    refine x_aload_n (pc := 5) d_M_isPlace_5 rfl rfl ?_
    refine x_getI (k := 78) (ci := 7) (pc := 6) 5 d_M_isPlace_6 cok7 rfl (Nat.lt_of_lt_of_le (by decide) hn) rfl (by decide) rfl w_569 ?_
    obtain ⟨h2, hvc⟩ := hvc
    refine x_icmp_ge (tgt := 16) (pc := 9) d_M_isPlace_9 rfl h1 h2 (fun hb => ?_) (fun hb => ?_)
    · have hvc := hvc.1 hb
      refine x_iconst (pc := 16) d_M_isPlace_16 ?_
      exact x_zret (pc := 17) d_M_isPlace_17 rfl (by decide) rfl (Nat.le_refl _) (hQ _ _ hvc)
    · have hvc := hvc.2 hb
      refine x_iconst (pc := 12) d_M_isPlace_12 ?_
      refine x_goto (tgt := 17) (pc := 13) d_M_isPlace_13 rfl ?_
      exact x_zret (pc := 17) d_M_isPlace_17 rfl (by decide) rfl (Nat.le_refl _) (hQ _ _ hvc)
set_option maxRecDepth 20000 in
theorem E_M_isPlace {n : Nat} {R : xR} {M : xM} {P : Int → xM → Prop} (hn : 93 ≤ n) (hR : RC 93 R) {l1 : Int} (h : Xi m_M_isPlace 0 n R P 0 [some (vr 78), some (vi l1)] [] M) : Ci m_M_isPlace 0 n R [vr 78, vi l1] M P :=
  Ci.of [some (vr 78), some (vi l1)] (by decide) rfl (Nat.le_of_ble_eq_true rfl) rfl h
set_option maxRecDepth 20000 in
theorem B_M_receive_0 {n : Nat} {R : xR} {M : xM} {P : Int → xM → Prop} (hn : 93 ≤ n) (hR : RC 93 R) {l1 l2 : Int} (hvc : Ci m_M_isPlace 0 n R [vr 78, vi l1] M (fun z1 M1 => (-2147483648 ≤ z1 ∧ z1 < 2147483648) ∧ ((z1 = 0 → P 0 M1) ∧ (¬ z1 = 0 → Ci m_M_isElement 0 n R [vr 78, vi l2] M1 (fun z3 M2 => (-2147483648 ≤ z3 ∧ z3 < 2147483648) ∧ ((¬ z3 = 0 → (0 ≤ l1 ∧ l1 < 20) ∧ (∀ M3 : xM, M3 = xU M2 83 l1.toNat l2 → (∀ M4 : xM, M4 = xU M3 84 l1.toNat 0 → P 1 M4))) ∧ (z3 = 0 → P 0 M2))))))) : Xi m_M_receive 1 n R P 0 [some (vr 78), some (vi l1), some (vi l2)] [] M := by
  intro Q hQ
  refine x_aload_n (pc := 0) d_M_receive_0 rfl rfl ?_
  refine x_iload_n (pc := 1) d_M_receive_1 rfl rfl ?_
  refine y_callVi m_M_isPlace 0 117 78 7 21 [_] [] rfl (pc := 2) d_M_receive_2 ok_M_isPlace w_691 w_693 w_29 pn_M_isPlace (Nat.lt_of_lt_of_le (by decide) hn) rfl rfl (by decide) (Nat.le_of_ble_eq_true rfl) (Nat.le_refl _) (Nat.le_refl _) hvc (fun z1 M1 hvc => ?_)
  obtain ⟨h2, hvc⟩ := hvc
  refine x_if_eq (tgt := 16) (pc := 5) d_M_receive_5 rfl h2 (fun hb => ?_) (fun hb => ?_)
  · have hvc := hvc.1 hb
    refine x_iconst (pc := 16) d_M_receive_16 ?_
    exact x_zret (pc := 17) d_M_receive_17 rfl (by decide) rfl (Nat.le_refl _) (hQ _ _ hvc)
  · have hvc := hvc.2 hb
    refine x_aload_n (pc := 8) d_M_receive_8 rfl rfl ?_
    refine x_iload_n (pc := 9) d_M_receive_9 rfl rfl ?_
    refine y_callVi m_M_isElement 0 76 78 7 21 [_] [] rfl (pc := 10) d_M_receive_10 ok_M_isElement w_639 w_641 w_22 pn_M_isElement (Nat.lt_of_lt_of_le (by decide) hn) rfl rfl (by decide) (Nat.le_of_ble_eq_true rfl) (Nat.le_refl _) (Nat.le_refl _) hvc (fun z3 M2 hvc => ?_)
    obtain ⟨h4, hvc⟩ := hvc
    refine x_if_ne (tgt := 18) (pc := 13) d_M_receive_13 rfl h4 (fun hb => ?_) (fun hb => ?_)
    · have hvc := hvc.1 hb
      refine x_aload_n (pc := 18) d_M_receive_18 rfl rfl ?_
      refine x_getR (k := 78) (ci := 7) (pc := 19) (t := 83) 9 d_M_receive_19 cok7 rfl (Nat.lt_of_lt_of_le (by decide) hn) rfl (by decide) rfl (hR.at 78 9 rfl rfl) w_573 ?_
      refine x_iload_n (pc := 22) d_M_receive_22 rfl rfl ?_
      refine x_iload_n (pc := 23) d_M_receive_23 rfl rfl ?_
      obtain ⟨h5, hvc⟩ := hvc
      refine x_iast (N := 20) (pc := 24) d_M_receive_24 (Nat.lt_of_lt_of_le (by decide) hn) rfl (by decide) h5.1 h5.2 (fun M3 eM3 => ?_)
      have hvc := hvc M3 eM3
      refine x_aload_n (pc := 25) d_M_receive_25 rfl rfl ?_
      refine x_getR (k := 78) (ci := 7) (pc := 26) (t := 84) 10 d_M_receive_26 cok7 rfl (Nat.lt_of_lt_of_le (by decide) hn) rfl (by decide) rfl (hR.at 78 10 rfl rfl) w_574 ?_
      refine x_iload_n (pc := 29) d_M_receive_29 rfl rfl ?_
      refine x_iconst (pc := 30) d_M_receive_30 ?_
      refine x_zast (N := 20) (pc := 31) d_M_receive_31 (Nat.lt_of_lt_of_le (by decide) hn) rfl (by decide) h5.1 h5.2 (by decide) (fun M4 eM4 => ?_)
      have hvc := hvc M4 eM4
      refine x_iconst (pc := 32) d_M_receive_32 ?_
      exact x_zret (pc := 33) d_M_receive_33 rfl (by decide) rfl (Nat.le_refl _) (hQ _ _ hvc)
    · have hvc := hvc.2 hb
      refine x_iconst (pc := 16) d_M_receive_16 ?_
      exact x_zret (pc := 17) d_M_receive_17 rfl (by decide) rfl (Nat.le_refl _) (hQ _ _ hvc)
set_option maxRecDepth 20000 in
theorem E_M_receive {n : Nat} {R : xR} {M : xM} {P : Int → xM → Prop} (hn : 93 ≤ n) (hR : RC 93 R) {l1 l2 : Int} (h : Xi m_M_receive 1 n R P 0 [some (vr 78), some (vi l1), some (vi l2)] [] M) : Ci m_M_receive 1 n R [vr 78, vi l1, vi l2] M P :=
  Ci.of [some (vr 78), some (vi l1), some (vi l2)] (by decide) rfl (Nat.le_of_ble_eq_true rfl) rfl h
set_option maxRecDepth 20000 in
theorem B_M_erase_0 {n : Nat} {R : xR} {M : xM} {P : Int → xM → Prop} (hn : 93 ≤ n) (hR : RC 93 R) {l1 : Int} (hvc : Ci m_M_isPlace 0 n R [vr 78, vi l1] M (fun z1 M1 => (-2147483648 ≤ z1 ∧ z1 < 2147483648) ∧ ((z1 = 0 → P 0 M1) ∧ (¬ z1 = 0 → (0 ≤ l1 ∧ l1 < 20) ∧ (-2147483648 ≤ M1 84 l1.toNat ∧ M1 84 l1.toNat < 2147483648) ∧ (((M1 84 l1.toNat) = 0 → (∀ M2 : xM, M2 = xU M1 84 l1.toNat 1 → P 1 M2)) ∧ (¬ (M1 84 l1.toNat) = 0 → P 0 M1)))))) : Xi m_M_erase 1 n R P 0 [some (vr 78), some (vi l1)] [] M := by
  intro Q hQ
  refine x_aload_n (pc := 0) d_M_erase_0 rfl rfl ?_
  refine x_iload_n (pc := 1) d_M_erase_1 rfl rfl ?_
  refine y_callVi m_M_isPlace 0 117 78 7 21 [_] [] rfl (pc := 2) d_M_erase_2 ok_M_isPlace w_691 w_693 w_29 pn_M_isPlace (Nat.lt_of_lt_of_le (by decide) hn) rfl rfl (by decide) (Nat.le_of_ble_eq_true rfl) (Nat.le_refl _) (Nat.le_refl _) hvc (fun z1 M1 hvc => ?_)
  obtain ⟨h2, hvc⟩ := hvc
  refine x_if_eq (tgt := 17) (pc := 5) d_M_erase_5 rfl h2 (fun hb => ?_) (fun hb => ?_)
  · have hvc := hvc.1 hb
    refine x_iconst (pc := 17) d_M_erase_17 ?_
    exact x_zret (pc := 18) d_M_erase_18 rfl (by decide) rfl (Nat.le_refl _) (hQ _ _ hvc)
  · have hvc := hvc.2 hb
    refine x_aload_n (pc := 8) d_M_erase_8 rfl rfl ?_
    refine x_getR (k := 78) (ci := 7) (pc := 9) (t := 84) 10 d_M_erase_9 cok7 rfl (Nat.lt_of_lt_of_le (by decide) hn) rfl (by decide) rfl (hR.at 78 10 rfl rfl) w_574 ?_
    refine x_iload_n (pc := 12) d_M_erase_12 rfl rfl ?_
    obtain ⟨h3, hvc⟩ := hvc
    refine x_zald (N := 20) (pc := 13) d_M_erase_13 (Nat.lt_of_lt_of_le (by decide) hn) rfl (by decide) h3.1 h3.2 ?_
    obtain ⟨h4, hvc⟩ := hvc
    refine x_if_eq (tgt := 19) (pc := 14) d_M_erase_14 rfl h4 (fun hb => ?_) (fun hb => ?_)
    · have hvc := hvc.1 hb
      refine x_aload_n (pc := 19) d_M_erase_19 rfl rfl ?_
      refine x_getR (k := 78) (ci := 7) (pc := 20) (t := 84) 10 d_M_erase_20 cok7 rfl (Nat.lt_of_lt_of_le (by decide) hn) rfl (by decide) rfl (hR.at 78 10 rfl rfl) w_574 ?_
      refine x_iload_n (pc := 23) d_M_erase_23 rfl rfl ?_
      refine x_iconst (pc := 24) d_M_erase_24 ?_
      refine x_zast (N := 20) (pc := 25) d_M_erase_25 (Nat.lt_of_lt_of_le (by decide) hn) rfl (by decide) h3.1 h3.2 (by decide) (fun M2 eM2 => ?_)
      have hvc := hvc M2 eM2
      refine x_iconst (pc := 26) d_M_erase_26 ?_
      exact x_zret (pc := 27) d_M_erase_27 rfl (by decide) rfl (Nat.le_refl _) (hQ _ _ hvc)
    · have hvc := hvc.2 hb
      refine x_iconst (pc := 17) d_M_erase_17 ?_
      exact x_zret (pc := 18) d_M_erase_18 rfl (by decide) rfl (Nat.le_refl _) (hQ _ _ hvc)
set_option maxRecDepth 20000 in
theorem E_M_erase {n : Nat} {R : xR} {M : xM} {P : Int → xM → Prop} (hn : 93 ≤ n) (hR : RC 93 R) {l1 : Int} (h : Xi m_M_erase 1 n R P 0 [some (vr 78), some (vi l1)] [] M) : Ci m_M_erase 1 n R [vr 78, vi l1] M P :=
  Ci.of [some (vr 78), some (vi l1)] (by decide) rfl (Nat.le_of_ble_eq_true rfl) rfl h
set_option maxRecDepth 20000 in
theorem B_M_word_0 {n : Nat} {R : xR} {M : xM} {P : Int → xM → Prop} (hn : 93 ≤ n) (hR : RC 93 R) {l1 : Int} (hvc : Ci m_M_isPlace 0 n R [vr 78, vi l1] M (fun z1 M1 => (-2147483648 ≤ z1 ∧ z1 < 2147483648) ∧ ((¬ z1 = 0 → (0 ≤ l1 ∧ l1 < 20) ∧ (-2147483648 ≤ M1 84 l1.toNat ∧ M1 84 l1.toNat < 2147483648) ∧ (((M1 84 l1.toNat) = 0 → P (M1 83 l1.toNat) M1) ∧ (¬ (M1 84 l1.toNat) = 0 → P ((-2)) M1))) ∧ (z1 = 0 → P ((-1)) M1)))) : Xi m_M_word 1 n R P 0 [some (vr 78), some (vi l1)] [] M := by
  intro Q hQ
  refine x_aload_n (pc := 0) d_M_word_0 rfl rfl ?_
  refine x_iload_n (pc := 1) d_M_word_1 rfl rfl ?_
  refine y_callVi m_M_isPlace 0 117 78 7 21 [_] [] rfl (pc := 2) d_M_word_2 ok_M_isPlace w_691 w_693 w_29 pn_M_isPlace (Nat.lt_of_lt_of_le (by decide) hn) rfl rfl (by decide) (Nat.le_of_ble_eq_true rfl) (Nat.le_refl _) (Nat.le_refl _) hvc (fun z1 M1 hvc => ?_)
  obtain ⟨h2, hvc⟩ := hvc
  refine x_if_ne (tgt := 12) (pc := 5) d_M_word_5 rfl h2 (fun hb => ?_) (fun hb => ?_)
  · have hvc := hvc.1 hb
    refine x_aload_n (pc := 12) d_M_word_12 rfl rfl ?_
    refine x_getR (k := 78) (ci := 7) (pc := 13) (t := 84) 10 d_M_word_13 cok7 rfl (Nat.lt_of_lt_of_le (by decide) hn) rfl (by decide) rfl (hR.at 78 10 rfl rfl) w_574 ?_
    refine x_iload_n (pc := 16) d_M_word_16 rfl rfl ?_
    obtain ⟨h3, hvc⟩ := hvc
    refine x_zald (N := 20) (pc := 17) d_M_word_17 (Nat.lt_of_lt_of_le (by decide) hn) rfl (by decide) h3.1 h3.2 ?_
    obtain ⟨h4, hvc⟩ := hvc
    refine x_if_eq (tgt := 26) (pc := 18) d_M_word_18 rfl h4 (fun hb => ?_) (fun hb => ?_)
    · have hvc := hvc.1 hb
      refine x_aload_n (pc := 26) d_M_word_26 rfl rfl ?_
      refine x_getR (k := 78) (ci := 7) (pc := 27) (t := 83) 9 d_M_word_27 cok7 rfl (Nat.lt_of_lt_of_le (by decide) hn) rfl (by decide) rfl (hR.at 78 9 rfl rfl) w_573 ?_
      refine x_iload_n (pc := 30) d_M_word_30 rfl rfl ?_
      refine x_iald (N := 20) (pc := 31) d_M_word_31 (Nat.lt_of_lt_of_le (by decide) hn) rfl (by decide) h3.1 h3.2 ?_
      exact x_iret (pc := 32) d_M_word_32 rfl rfl (Nat.le_refl _) (hQ _ _ hvc)
    · have hvc := hvc.2 hb
      refine x_bipush (pc := 21) d_M_word_21 (by decide) ?_
      refine x_goto (tgt := 32) (pc := 23) d_M_word_23 rfl ?_
      exact x_iret (pc := 32) d_M_word_32 rfl rfl (Nat.le_refl _) (hQ _ _ hvc)
  · have hvc := hvc.2 hb
    refine x_iconst (pc := 8) d_M_word_8 ?_
    refine x_goto (tgt := 32) (pc := 9) d_M_word_9 rfl ?_
    exact x_iret (pc := 32) d_M_word_32 rfl rfl (Nat.le_refl _) (hQ _ _ hvc)
set_option maxRecDepth 20000 in
theorem E_M_word {n : Nat} {R : xR} {M : xM} {P : Int → xM → Prop} (hn : 93 ≤ n) (hR : RC 93 R) {l1 : Int} (h : Xi m_M_word 1 n R P 0 [some (vr 78), some (vi l1)] [] M) : Ci m_M_word 1 n R [vr 78, vi l1] M P :=
  Ci.of [some (vr 78), some (vi l1)] (by decide) rfl (Nat.le_of_ble_eq_true rfl) rfl h
set_option maxRecDepth 20000 in
theorem B_M_apart_0 {n : Nat} {R : xR} {M : xM} {P : Int → xM → Prop} (hn : 93 ≤ n) (hR : RC 93 R) {l1 : Int} (hvc : Xi m_M_apart 0 n R P 4 [some (vr 78), some (vi l1), some (vi 1), some (vi 0)] [] M) : Xi m_M_apart 0 n R P 0 [some (vr 78), some (vi l1), none, none] [] M := by
  intro Q hQ
  refine x_iconst (pc := 0) d_M_apart_0 ?_
  refine x_istore_n (pc := 1) d_M_apart_1 rfl (by decide) ?_
  refine x_iconst (pc := 2) d_M_apart_2 ?_
  refine x_istore_n (pc := 3) d_M_apart_3 rfl (by decide) ?_
  exact x_locals (xmask [true, true, true, true] _) (xmask_sub _ _) (hvc Q hQ)
set_option maxRecDepth 20000 in
theorem B_M_apart_4 {n : Nat} {R : xR} {M : xM} {P : Int → xM → Prop} (hn : 93 ≤ n) (hR : RC 93 R) {l1 l2 l3 : Int} (hvc : (-2147483648 ≤ l3 ∧ l3 < 2147483648) ∧ (-2147483648 ≤ M 78 5 ∧ M 78 5 < 2147483648) ∧ (((M 78 5) ≤ l3 → P l2 M) ∧ (¬ (M 78 5) ≤ l3 → (-2147483648 ≤ l1 ∧ l1 < 2147483648) ∧ ((¬ l3 = l1 → (0 ≤ l1 ∧ l1 < 32) ∧ (0 ≤ l3 ∧ l3 < 32) ∧ (0 ≤ (32 * l2) + (xXor (M 80 l1.toNat) (M 80 l3.toNat)) ∧ (32 * l2) + (xXor (M 80 l1.toNat) (M 80 l3.toNat)) < 1024) ∧ Xi m_M_apart 0 n R P 4 [some (vr 78), some (vi l1), some (vi (M 79 ((32 * l2) + (xXor (M 80 l1.toNat) (M 80 l3.toNat))).toNat)), some (vi (l3 + 1))] [] M) ∧ (l3 = l1 → Xi m_M_apart 0 n R P 4 [some (vr 78), some (vi l1), some (vi l2), some (vi (l3 + 1))] [] M))))) : Xi m_M_apart 0 n R P 4 [some (vr 78), some (vi l1), some (vi l2), some (vi l3)] [] M := by
  intro Q hQ
  refine x_iload_n (pc := 4) d_M_apart_4 rfl rfl ?_
  refine x_aload_n (pc := 5) d_M_apart_5 rfl rfl ?_
  refine x_getI (k := 78) (ci := 7) (pc := 6) 5 d_M_apart_6 cok7 rfl (Nat.lt_of_lt_of_le (by decide) hn) rfl (by decide) rfl w_569 ?_
  obtain ⟨h1, hvc⟩ := hvc
  obtain ⟨h2, hvc⟩ := hvc
  refine x_icmp_ge (tgt := 51) (pc := 9) d_M_apart_9 rfl h1 h2 (fun hb => ?_) (fun hb => ?_)
  · have hvc := hvc.1 hb
    refine x_iload_n (pc := 51) d_M_apart_51 rfl rfl ?_
    exact x_iret (pc := 52) d_M_apart_52 rfl rfl (Nat.le_refl _) (hQ _ _ hvc)
  · have hvc := hvc.2 hb
    refine x_iload_n (pc := 12) d_M_apart_12 rfl rfl ?_
    refine x_iload_n (pc := 13) d_M_apart_13 rfl rfl ?_
    obtain ⟨h3, hvc⟩ := hvc
    refine x_icmp_ne (tgt := 21) (pc := 14) d_M_apart_14 rfl h1 h3 (fun hb => ?_) (fun hb => ?_)
    · have hvc := hvc.1 hb
      refine x_aload_n (pc := 21) d_M_apart_21 rfl rfl ?_
      refine x_getR (k := 78) (ci := 7) (pc := 22) (t := 79) 2 d_M_apart_22 cok7 rfl (Nat.lt_of_lt_of_le (by decide) hn) rfl (by decide) rfl (hR.at 78 2 rfl rfl) w_566 ?_
      refine x_bipush (pc := 25) d_M_apart_25 (by decide) ?_
      refine x_iload_n (pc := 27) d_M_apart_27 rfl rfl ?_
      refine x_imul (pc := 28) d_M_apart_28 ?_
      refine x_aload_n (pc := 29) d_M_apart_29 rfl rfl ?_
      refine x_getR (k := 78) (ci := 7) (pc := 30) (t := 80) 3 d_M_apart_30 cok7 rfl (Nat.lt_of_lt_of_le (by decide) hn) rfl (by decide) rfl (hR.at 78 3 rfl rfl) w_567 ?_
      refine x_iload_n (pc := 33) d_M_apart_33 rfl rfl ?_
      obtain ⟨h4, hvc⟩ := hvc
      refine x_iald (N := 32) (pc := 34) d_M_apart_34 (Nat.lt_of_lt_of_le (by decide) hn) rfl (by decide) h4.1 h4.2 ?_
      refine x_aload_n (pc := 35) d_M_apart_35 rfl rfl ?_
      refine x_getR (k := 78) (ci := 7) (pc := 36) (t := 80) 3 d_M_apart_36 cok7 rfl (Nat.lt_of_lt_of_le (by decide) hn) rfl (by decide) rfl (hR.at 78 3 rfl rfl) w_567 ?_
      refine x_iload_n (pc := 39) d_M_apart_39 rfl rfl ?_
      obtain ⟨h5, hvc⟩ := hvc
      refine x_iald (N := 32) (pc := 40) d_M_apart_40 (Nat.lt_of_lt_of_le (by decide) hn) rfl (by decide) h5.1 h5.2 ?_
      refine x_ixor (pc := 41) d_M_apart_41 ?_
      refine x_iadd (pc := 42) d_M_apart_42 ?_
      obtain ⟨h6, hvc⟩ := hvc
      refine x_iald (N := 1024) (pc := 43) d_M_apart_43 (Nat.lt_of_lt_of_le (by decide) hn) rfl (by decide) h6.1 h6.2 ?_
      refine x_istore_n (pc := 44) d_M_apart_44 rfl (by decide) ?_
      refine x_iinc (pc := 45) d_M_apart_45 rfl (by decide) ?_
      refine x_goto (tgt := 4) (pc := 48) d_M_apart_48 rfl ?_
      exact x_locals (xmask [true, true, true, true] _) (xmask_sub _ _) (hvc Q hQ)
    · have hvc := hvc.2 hb
      refine x_iload_n (pc := 17) d_M_apart_17 rfl rfl ?_
      refine x_goto (tgt := 44) (pc := 18) d_M_apart_18 rfl ?_
      refine x_istore_n (pc := 44) d_M_apart_44 rfl (by decide) ?_
      refine x_iinc (pc := 45) d_M_apart_45 rfl (by decide) ?_
      refine x_goto (tgt := 4) (pc := 48) d_M_apart_48 rfl ?_
      exact x_locals (xmask [true, true, true, true] _) (xmask_sub _ _) (hvc Q hQ)
set_option maxRecDepth 20000 in
theorem E_M_apart {n : Nat} {R : xR} {M : xM} {P : Int → xM → Prop} (hn : 93 ≤ n) (hR : RC 93 R) {l1 : Int} (h : Xi m_M_apart 0 n R P 0 [some (vr 78), some (vi l1), none, none] [] M) : Ci m_M_apart 0 n R [vr 78, vi l1] M P :=
  Ci.of [some (vr 78), some (vi l1), none, none] (by decide) rfl (Nat.le_of_ble_eq_true rfl) rfl h
set_option maxRecDepth 20000 in
theorem B_M_syndrome_0 {n : Nat} {R : xR} {M : xM} {P : Int → xM → Prop} (hn : 93 ≤ n) (hR : RC 93 R) {l1 : Int} (hvc : (-2147483648 ≤ l1 ∧ l1 < 2147483648) ∧ ((l1 < 0 → P ((-1)) M) ∧ (¬ l1 < 0 → (-2147483648 ≤ (M 78 5) - (M 78 6) ∧ (M 78 5) - (M 78 6) < 2147483648) ∧ ((l1 < ((M 78 5) - (M 78 6)) → Xi m_M_syndrome 1 n R P 23 [some (vr 78), some (vi l1), some (vi 0), some (vi 0), none, none] [] M) ∧ (¬ l1 < ((M 78 5) - (M 78 6)) → P ((-1)) M))))) : Xi m_M_syndrome 1 n R P 0 [some (vr 78), some (vi l1), none, none, none, none] [] M := by
  intro Q hQ
  refine x_iload_n (pc := 0) d_M_syndrome_0 rfl rfl ?_
  obtain ⟨h1, hvc⟩ := hvc
  refine x_if_lt (tgt := 17) (pc := 1) d_M_syndrome_1 rfl h1 (fun hb => ?_) (fun hb => ?_)
  · have hvc := hvc.1 hb
    refine x_iconst (pc := 17) d_M_syndrome_17 ?_
    exact x_iret (pc := 18) d_M_syndrome_18 rfl rfl (Nat.le_refl _) (hQ _ _ hvc)
  · have hvc := hvc.2 hb
    refine x_iload_n (pc := 4) d_M_syndrome_4 rfl rfl ?_
    refine x_aload_n (pc := 5) d_M_syndrome_5 rfl rfl ?_
    refine x_getI (k := 78) (ci := 7) (pc := 6) 5 d_M_syndrome_6 cok7 rfl (Nat.lt_of_lt_of_le (by decide) hn) rfl (by decide) rfl w_569 ?_
    refine x_aload_n (pc := 9) d_M_syndrome_9 rfl rfl ?_
    refine x_getI (k := 78) (ci := 7) (pc := 10) 6 d_M_syndrome_10 cok7 rfl (Nat.lt_of_lt_of_le (by decide) hn) rfl (by decide) rfl w_570 ?_
    refine x_isub (pc := 13) d_M_syndrome_13 ?_
    obtain ⟨h2, hvc⟩ := hvc
    refine x_icmp_lt (tgt := 19) (pc := 14) d_M_syndrome_14 rfl h1 h2 (fun hb => ?_) (fun hb => ?_)
    · have hvc := hvc.1 hb
      refine x_iconst (pc := 19) d_M_syndrome_19 ?_
      refine x_istore_n (pc := 20) d_M_syndrome_20 rfl (by decide) ?_
      refine x_iconst (pc := 21) d_M_syndrome_21 ?_
      refine x_istore_n (pc := 22) d_M_syndrome_22 rfl (by decide) ?_
      exact x_locals (xmask [true, true, true, true, false, false] _) (xmask_sub _ _) (hvc Q hQ)
    · have hvc := hvc.2 hb
      refine x_iconst (pc := 17) d_M_syndrome_17 ?_
      exact x_iret (pc := 18) d_M_syndrome_18 rfl rfl (Nat.le_refl _) (hQ _ _ hvc)
set_option maxRecDepth 20000 in
theorem B_M_syndrome_23 {n : Nat} {R : xR} {M : xM} {P : Int → xM → Prop} (hn : 93 ≤ n) (hR : RC 93 R) {l1 l2 l3 : Int} (hvc : (-2147483648 ≤ l3 ∧ l3 < 2147483648) ∧ (-2147483648 ≤ M 78 5 ∧ M 78 5 < 2147483648) ∧ (((M 78 5) ≤ l3 → P l2 M) ∧ (¬ (M 78 5) ≤ l3 → (-2147483648 ≤ M 78 4 ∧ M 78 4 < 2147483648) ∧ ((¬ (M 78 4) = 0 → (0 ≤ l3 ∧ l3 < 32) ∧ (0 ≤ l3 ∧ l3 < 20) ∧ (0 ≤ (32 * (M 80 l3.toNat)) + (M 83 l3.toNat) ∧ (32 * (M 80 l3.toNat)) + (M 83 l3.toNat) < 1024) ∧ (-2147483648 ≤ M 84 l3.toNat ∧ M 84 l3.toNat < 2147483648) ∧ (((M 84 l3.toNat) = 0 → Ci m_M_power 0 n R [vr 78, vi (M 80 l3.toNat), vi l1] M (fun z8 M1 => (0 ≤ (32 * (M 79 ((32 * (M 80 l3.toNat)) + (M 83 l3.toNat)).toNat)) + z8 ∧ (32 * (M 79 ((32 * (M 80 l3.toNat)) + (M 83 l3.toNat)).toNat)) + z8 < 1024) ∧ Xi m_M_syndrome 1 n R P 23 [some (vr 78), some (vi l1), some (vi (xXor l2 (M1 79 ((32 * (M 79 ((32 * (M 80 l3.toNat)) + (M 83 l3.toNat)).toNat)) + z8).toNat))), some (vi (l3 + 1)), none, none] [] M1)) ∧ (¬ (M 84 l3.toNat) = 0 → Xi m_M_syndrome 1 n R P 23 [some (vr 78), some (vi l1), some (vi l2), some (vi (l3 + 1)), none, none] [] M))) ∧ ((M 78 4) = 0 → Ci m_M_apart 0 n R [vr 78, vi l3] M (fun z10 M2 => Ci m_M_quotient 0 n R [vr 78, vi 1, vi z10] M2 (fun z11 M3 => (0 ≤ l3 ∧ l3 < 20) ∧ (0 ≤ (32 * z11) + (M3 83 l3.toNat) ∧ (32 * z11) + (M3 83 l3.toNat) < 1024) ∧ (-2147483648 ≤ M3 84 l3.toNat ∧ M3 84 l3.toNat < 2147483648) ∧ (((M3 84 l3.toNat) = 0 → (0 ≤ l3 ∧ l3 < 32) ∧ Ci m_M_power 0 n R [vr 78, vi (M3 80 l3.toNat), vi l1] M3 (fun z16 M4 => (0 ≤ (32 * (M3 79 ((32 * z11) + (M3 83 l3.toNat)).toNat)) + z16 ∧ (32 * (M3 79 ((32 * z11) + (M3 83 l3.toNat)).toNat)) + z16 < 1024) ∧ Xi m_M_syndrome 1 n R P 23 [some (vr 78), some (vi l1), some (vi (xXor l2 (M4 79 ((32 * (M3 79 ((32 * z11) + (M3 83 l3.toNat)).toNat)) + z16).toNat))), some (vi (l3 + 1)), none, none] [] M4)) ∧ (¬ (M3 84 l3.toNat) = 0 → Xi m_M_syndrome 1 n R P 23 [some (vr 78), some (vi l1), some (vi l2), some (vi (l3 + 1)), none, none] [] M3))))))))) : Xi m_M_syndrome 1 n R P 23 [some (vr 78), some (vi l1), some (vi l2), some (vi l3), none, none] [] M := by
  intro Q hQ
  refine x_iload_n (pc := 23) d_M_syndrome_23 rfl rfl ?_
  refine x_aload_n (pc := 24) d_M_syndrome_24 rfl rfl ?_
  refine x_getI (k := 78) (ci := 7) (pc := 25) 5 d_M_syndrome_25 cok7 rfl (Nat.lt_of_lt_of_le (by decide) hn) rfl (by decide) rfl w_569 ?_
  obtain ⟨h1, hvc⟩ := hvc
  obtain ⟨h2, hvc⟩ := hvc
  refine x_icmp_ge (tgt := 122) (pc := 28) d_M_syndrome_28 rfl h1 h2 (fun hb => ?_) (fun hb => ?_)
  · have hvc := hvc.1 hb
    refine x_iload_n (pc := 122) d_M_syndrome_122 rfl rfl ?_
    exact x_iret (pc := 123) d_M_syndrome_123 rfl rfl (Nat.le_refl _) (hQ _ _ hvc)
  · have hvc := hvc.2 hb
    refine x_aload_n (pc := 31) d_M_syndrome_31 rfl rfl ?_
    refine x_getI (k := 78) (ci := 7) (pc := 32) 4 d_M_syndrome_32 cok7 rfl (Nat.lt_of_lt_of_le (by decide) hn) rfl (by decide) rfl w_568 ?_
    obtain ⟨h3, hvc⟩ := hvc
    refine x_if_ne (tgt := 51) (pc := 35) d_M_syndrome_35 rfl h3 (fun hb => ?_) (fun hb => ?_)
    · have hvc := hvc.1 hb
      refine x_aload_n (pc := 51) d_M_syndrome_51 rfl rfl ?_
      refine x_getR (k := 78) (ci := 7) (pc := 52) (t := 80) 3 d_M_syndrome_52 cok7 rfl (Nat.lt_of_lt_of_le (by decide) hn) rfl (by decide) rfl (hR.at 78 3 rfl rfl) w_567 ?_
      refine x_iload_n (pc := 55) d_M_syndrome_55 rfl rfl ?_
      obtain ⟨h4, hvc⟩ := hvc
      refine x_iald (N := 32) (pc := 56) d_M_syndrome_56 (Nat.lt_of_lt_of_le (by decide) hn) rfl (by decide) h4.1 h4.2 ?_
      refine x_istore (pc := 57) d_M_syndrome_57 (by decide) ?_
      refine x_aload_n (pc := 59) d_M_syndrome_59 rfl rfl ?_
      refine x_getR (k := 78) (ci := 7) (pc := 60) (t := 79) 2 d_M_syndrome_60 cok7 rfl (Nat.lt_of_lt_of_le (by decide) hn) rfl (by decide) rfl (hR.at 78 2 rfl rfl) w_566 ?_
      refine x_bipush (pc := 63) d_M_syndrome_63 (by decide) ?_
      refine x_iload (pc := 65) d_M_syndrome_65 rfl ?_
      refine x_imul (pc := 67) d_M_syndrome_67 ?_
      refine x_aload_n (pc := 68) d_M_syndrome_68 rfl rfl ?_
      refine x_getR (k := 78) (ci := 7) (pc := 69) (t := 83) 9 d_M_syndrome_69 cok7 rfl (Nat.lt_of_lt_of_le (by decide) hn) rfl (by decide) rfl (hR.at 78 9 rfl rfl) w_573 ?_
      refine x_iload_n (pc := 72) d_M_syndrome_72 rfl rfl ?_
      obtain ⟨h5, hvc⟩ := hvc
      refine x_iald (N := 20) (pc := 73) d_M_syndrome_73 (Nat.lt_of_lt_of_le (by decide) hn) rfl (by decide) h5.1 h5.2 ?_
      refine x_iadd (pc := 74) d_M_syndrome_74 ?_
      obtain ⟨h6, hvc⟩ := hvc
      refine x_iald (N := 1024) (pc := 75) d_M_syndrome_75 (Nat.lt_of_lt_of_le (by decide) hn) rfl (by decide) h6.1 h6.2 ?_
      refine x_istore (pc := 76) d_M_syndrome_76 (by decide) ?_
      refine x_aload_n (pc := 78) d_M_syndrome_78 rfl rfl ?_
      refine x_getR (k := 78) (ci := 7) (pc := 79) (t := 84) 10 d_M_syndrome_79 cok7 rfl (Nat.lt_of_lt_of_le (by decide) hn) rfl (by decide) rfl (hR.at 78 10 rfl rfl) w_574 ?_
      refine x_iload_n (pc := 82) d_M_syndrome_82 rfl rfl ?_
      refine x_zald (N := 20) (pc := 83) d_M_syndrome_83 (Nat.lt_of_lt_of_le (by decide) hn) rfl (by decide) h5.1 h5.2 ?_
      obtain ⟨h7, hvc⟩ := hvc
      refine x_if_eq (tgt := 91) (pc := 84) d_M_syndrome_84 rfl h7 (fun hb => ?_) (fun hb => ?_)
      · have hvc := hvc.1 hb
        refine x_iload_n (pc := 91) d_M_syndrome_91 rfl rfl ?_
        refine x_aload_n (pc := 92) d_M_syndrome_92 rfl rfl ?_
        refine x_getR (k := 78) (ci := 7) (pc := 93) (t := 79) 2 d_M_syndrome_93 cok7 rfl (Nat.lt_of_lt_of_le (by decide) hn) rfl (by decide) rfl (hR.at 78 2 rfl rfl) w_566 ?_
        refine x_bipush (pc := 96) d_M_syndrome_96 (by decide) ?_
        refine x_iload (pc := 98) d_M_syndrome_98 rfl ?_
        refine x_imul (pc := 100) d_M_syndrome_100 ?_
        refine x_aload_n (pc := 101) d_M_syndrome_101 rfl rfl ?_
        refine x_aload_n (pc := 102) d_M_syndrome_102 rfl rfl ?_
        refine x_getR (k := 78) (ci := 7) (pc := 103) (t := 80) 3 d_M_syndrome_103 cok7 rfl (Nat.lt_of_lt_of_le (by decide) hn) rfl (by decide) rfl (hR.at 78 3 rfl rfl) w_567 ?_
        refine x_iload_n (pc := 106) d_M_syndrome_106 rfl rfl ?_
        refine x_iald (N := 32) (pc := 107) d_M_syndrome_107 (Nat.lt_of_lt_of_le (by decide) hn) rfl (by decide) h4.1 h4.2 ?_
        refine x_iload_n (pc := 108) d_M_syndrome_108 rfl rfl ?_
        refine y_callVi m_M_power 0 124 78 7 21 [_, _] [_, _, _] rfl (pc := 109) d_M_syndrome_109 ok_M_power w_711 w_713 w_31 pn_M_power (Nat.lt_of_lt_of_le (by decide) hn) rfl rfl (by decide) (Nat.le_of_ble_eq_true rfl) (Nat.le_refl _) (Nat.le_refl _) hvc (fun z8 M1 hvc => ?_)
        refine x_iadd (pc := 112) d_M_syndrome_112 ?_
        obtain ⟨h9, hvc⟩ := hvc
        refine x_iald (N := 1024) (pc := 113) d_M_syndrome_113 (Nat.lt_of_lt_of_le (by decide) hn) rfl (by decide) h9.1 h9.2 ?_
        refine x_ixor (pc := 114) d_M_syndrome_114 ?_
        refine x_istore_n (pc := 115) d_M_syndrome_115 rfl (by decide) ?_
        refine x_iinc (pc := 116) d_M_syndrome_116 rfl (by decide) ?_
        refine x_goto (tgt := 23) (pc := 119) d_M_syndrome_119 rfl ?_
        exact x_locals (xmask [true, true, true, true, false, false] _) (xmask_sub _ _) (hvc Q hQ)
      · have hvc := hvc.2 hb
        refine x_iload_n (pc := 87) d_M_syndrome_87 rfl rfl ?_
        refine x_goto (tgt := 115) (pc := 88) d_M_syndrome_88 rfl ?_
        refine x_istore_n (pc := 115) d_M_syndrome_115 rfl (by decide) ?_
        refine x_iinc (pc := 116) d_M_syndrome_116 rfl (by decide) ?_
        refine x_goto (tgt := 23) (pc := 119) d_M_syndrome_119 rfl ?_
        exact x_locals (xmask [true, true, true, true, false, false] _) (xmask_sub _ _) (hvc Q hQ)
    · have hvc := hvc.2 hb
      refine x_aload_n (pc := 38) d_M_syndrome_38 rfl rfl ?_
      refine x_iconst (pc := 39) d_M_syndrome_39 ?_
      refine x_aload_n (pc := 40) d_M_syndrome_40 rfl rfl ?_
      refine x_iload_n (pc := 41) d_M_syndrome_41 rfl rfl ?_
      refine y_callVi m_M_apart 0 120 78 7 21 [_] [_, _] rfl (pc := 42) d_M_syndrome_42 ok_M_apart w_707 w_709 w_30 pn_M_apart (Nat.lt_of_lt_of_le (by decide) hn) rfl rfl (by decide) (Nat.le_of_ble_eq_true rfl) (Nat.le_refl _) (Nat.le_refl _) hvc (fun z10 M2 hvc => ?_)
      refine y_callVi m_M_quotient 0 80 78 7 21 [_, _] [] rfl (pc := 45) d_M_syndrome_45 ok_M_quotient w_647 w_649 w_23 pn_M_quotient (Nat.lt_of_lt_of_le (by decide) hn) rfl rfl (by decide) (Nat.le_of_ble_eq_true rfl) (Nat.le_refl _) (Nat.le_refl _) hvc (fun z11 M3 hvc => ?_)
      refine x_goto (tgt := 57) (pc := 48) d_M_syndrome_48 rfl ?_
      refine x_istore (pc := 57) d_M_syndrome_57 (by decide) ?_
      refine x_aload_n (pc := 59) d_M_syndrome_59 rfl rfl ?_
      refine x_getR (k := 78) (ci := 7) (pc := 60) (t := 79) 2 d_M_syndrome_60 cok7 rfl (Nat.lt_of_lt_of_le (by decide) hn) rfl (by decide) rfl (hR.at 78 2 rfl rfl) w_566 ?_
      refine x_bipush (pc := 63) d_M_syndrome_63 (by decide) ?_
      refine x_iload (pc := 65) d_M_syndrome_65 rfl ?_
      refine x_imul (pc := 67) d_M_syndrome_67 ?_
      refine x_aload_n (pc := 68) d_M_syndrome_68 rfl rfl ?_
      refine x_getR (k := 78) (ci := 7) (pc := 69) (t := 83) 9 d_M_syndrome_69 cok7 rfl (Nat.lt_of_lt_of_le (by decide) hn) rfl (by decide) rfl (hR.at 78 9 rfl rfl) w_573 ?_
      refine x_iload_n (pc := 72) d_M_syndrome_72 rfl rfl ?_
      obtain ⟨h12, hvc⟩ := hvc
      refine x_iald (N := 20) (pc := 73) d_M_syndrome_73 (Nat.lt_of_lt_of_le (by decide) hn) rfl (by decide) h12.1 h12.2 ?_
      refine x_iadd (pc := 74) d_M_syndrome_74 ?_
      obtain ⟨h13, hvc⟩ := hvc
      refine x_iald (N := 1024) (pc := 75) d_M_syndrome_75 (Nat.lt_of_lt_of_le (by decide) hn) rfl (by decide) h13.1 h13.2 ?_
      refine x_istore (pc := 76) d_M_syndrome_76 (by decide) ?_
      refine x_aload_n (pc := 78) d_M_syndrome_78 rfl rfl ?_
      refine x_getR (k := 78) (ci := 7) (pc := 79) (t := 84) 10 d_M_syndrome_79 cok7 rfl (Nat.lt_of_lt_of_le (by decide) hn) rfl (by decide) rfl (hR.at 78 10 rfl rfl) w_574 ?_
      refine x_iload_n (pc := 82) d_M_syndrome_82 rfl rfl ?_
      refine x_zald (N := 20) (pc := 83) d_M_syndrome_83 (Nat.lt_of_lt_of_le (by decide) hn) rfl (by decide) h12.1 h12.2 ?_
      obtain ⟨h14, hvc⟩ := hvc
      refine x_if_eq (tgt := 91) (pc := 84) d_M_syndrome_84 rfl h14 (fun hb => ?_) (fun hb => ?_)
      · have hvc := hvc.1 hb
        refine x_iload_n (pc := 91) d_M_syndrome_91 rfl rfl ?_
        refine x_aload_n (pc := 92) d_M_syndrome_92 rfl rfl ?_
        refine x_getR (k := 78) (ci := 7) (pc := 93) (t := 79) 2 d_M_syndrome_93 cok7 rfl (Nat.lt_of_lt_of_le (by decide) hn) rfl (by decide) rfl (hR.at 78 2 rfl rfl) w_566 ?_
        refine x_bipush (pc := 96) d_M_syndrome_96 (by decide) ?_
        refine x_iload (pc := 98) d_M_syndrome_98 rfl ?_
        refine x_imul (pc := 100) d_M_syndrome_100 ?_
        refine x_aload_n (pc := 101) d_M_syndrome_101 rfl rfl ?_
        refine x_aload_n (pc := 102) d_M_syndrome_102 rfl rfl ?_
        refine x_getR (k := 78) (ci := 7) (pc := 103) (t := 80) 3 d_M_syndrome_103 cok7 rfl (Nat.lt_of_lt_of_le (by decide) hn) rfl (by decide) rfl (hR.at 78 3 rfl rfl) w_567 ?_
        refine x_iload_n (pc := 106) d_M_syndrome_106 rfl rfl ?_
        obtain ⟨h15, hvc⟩ := hvc
        refine x_iald (N := 32) (pc := 107) d_M_syndrome_107 (Nat.lt_of_lt_of_le (by decide) hn) rfl (by decide) h15.1 h15.2 ?_
        refine x_iload_n (pc := 108) d_M_syndrome_108 rfl rfl ?_
        refine y_callVi m_M_power 0 124 78 7 21 [_, _] [_, _, _] rfl (pc := 109) d_M_syndrome_109 ok_M_power w_711 w_713 w_31 pn_M_power (Nat.lt_of_lt_of_le (by decide) hn) rfl rfl (by decide) (Nat.le_of_ble_eq_true rfl) (Nat.le_refl _) (Nat.le_refl _) hvc (fun z16 M4 hvc => ?_)
        refine x_iadd (pc := 112) d_M_syndrome_112 ?_
        obtain ⟨h17, hvc⟩ := hvc
        refine x_iald (N := 1024) (pc := 113) d_M_syndrome_113 (Nat.lt_of_lt_of_le (by decide) hn) rfl (by decide) h17.1 h17.2 ?_
        refine x_ixor (pc := 114) d_M_syndrome_114 ?_
        refine x_istore_n (pc := 115) d_M_syndrome_115 rfl (by decide) ?_
        refine x_iinc (pc := 116) d_M_syndrome_116 rfl (by decide) ?_
        refine x_goto (tgt := 23) (pc := 119) d_M_syndrome_119 rfl ?_
        exact x_locals (xmask [true, true, true, true, false, false] _) (xmask_sub _ _) (hvc Q hQ)
      · have hvc := hvc.2 hb
        refine x_iload_n (pc := 87) d_M_syndrome_87 rfl rfl ?_
        refine x_goto (tgt := 115) (pc := 88) d_M_syndrome_88 rfl ?_
        refine x_istore_n (pc := 115) d_M_syndrome_115 rfl (by decide) ?_
        refine x_iinc (pc := 116) d_M_syndrome_116 rfl (by decide) ?_
        refine x_goto (tgt := 23) (pc := 119) d_M_syndrome_119 rfl ?_
        exact x_locals (xmask [true, true, true, true, false, false] _) (xmask_sub _ _) (hvc Q hQ)
set_option maxRecDepth 20000 in
theorem E_M_syndrome {n : Nat} {R : xR} {M : xM} {P : Int → xM → Prop} (hn : 93 ≤ n) (hR : RC 93 R) {l1 : Int} (h : Xi m_M_syndrome 1 n R P 0 [some (vr 78), some (vi l1), none, none, none, none] [] M) : Ci m_M_syndrome 1 n R [vr 78, vi l1] M P :=
  Ci.of [some (vr 78), some (vi l1), none, none, none, none] (by decide) rfl (Nat.le_of_ble_eq_true rfl) rfl h
set_option maxRecDepth 20000 in
theorem B_M_kept_0 {n : Nat} {R : xR} {M : xM} {P : Int → xM → Prop} (hn : 93 ≤ n) (hR : RC 93 R) (hvc : Xi m_M_kept 0 n R P 4 [some (vr 78), some (vi 0), some (vi 0)] [] M) : Xi m_M_kept 0 n R P 0 [some (vr 78), none, none] [] M := by
  intro Q hQ
  refine x_iconst (pc := 0) d_M_kept_0 ?_
  refine x_istore_n (pc := 1) d_M_kept_1 rfl (by decide) ?_
  refine x_iconst (pc := 2) d_M_kept_2 ?_
  refine x_istore_n (pc := 3) d_M_kept_3 rfl (by decide) ?_
  exact x_locals (xmask [true, true, true] _) (xmask_sub _ _) (hvc Q hQ)
set_option maxRecDepth 20000 in
theorem B_M_kept_4 {n : Nat} {R : xR} {M : xM} {P : Int → xM → Prop} (hn : 93 ≤ n) (hR : RC 93 R) {l1 l2 : Int} (hvc : (-2147483648 ≤ l2 ∧ l2 < 2147483648) ∧ (-2147483648 ≤ M 78 5 ∧ M 78 5 < 2147483648) ∧ (((M 78 5) ≤ l2 → P l1 M) ∧ (¬ (M 78 5) ≤ l2 → (0 ≤ l2 ∧ l2 < 20) ∧ (-2147483648 ≤ M 84 l2.toNat ∧ M 84 l2.toNat < 2147483648) ∧ (((M 84 l2.toNat) = 0 → Xi m_M_kept 0 n R P 4 [some (vr 78), some (vi (l1 + 1)), some (vi (l2 + 1))] [] M) ∧ (¬ (M 84 l2.toNat) = 0 → Xi m_M_kept 0 n R P 4 [some (vr 78), some (vi l1), some (vi (l2 + 1))] [] M))))) : Xi m_M_kept 0 n R P 4 [some (vr 78), some (vi l1), some (vi l2)] [] M := by
  intro Q hQ
  refine x_iload_n (pc := 4) d_M_kept_4 rfl rfl ?_
  refine x_aload_n (pc := 5) d_M_kept_5 rfl rfl ?_
  refine x_getI (k := 78) (ci := 7) (pc := 6) 5 d_M_kept_6 cok7 rfl (Nat.lt_of_lt_of_le (by decide) hn) rfl (by decide) rfl w_569 ?_
  obtain ⟨h1, hvc⟩ := hvc
  obtain ⟨h2, hvc⟩ := hvc
  refine x_icmp_ge (tgt := 35) (pc := 9) d_M_kept_9 rfl h1 h2 (fun hb => ?_) (fun hb => ?_)
  · have hvc := hvc.1 hb
    refine x_iload_n (pc := 35) d_M_kept_35 rfl rfl ?_
    exact x_iret (pc := 36) d_M_kept_36 rfl rfl (Nat.le_refl _) (hQ _ _ hvc)
  · have hvc := hvc.2 hb
    refine x_aload_n (pc := 12) d_M_kept_12 rfl rfl ?_
    refine x_getR (k := 78) (ci := 7) (pc := 13) (t := 84) 10 d_M_kept_13 cok7 rfl (Nat.lt_of_lt_of_le (by decide) hn) rfl (by decide) rfl (hR.at 78 10 rfl rfl) w_574 ?_
    refine x_iload_n (pc := 16) d_M_kept_16 rfl rfl ?_
    obtain ⟨h3, hvc⟩ := hvc
    refine x_zald (N := 20) (pc := 17) d_M_kept_17 (Nat.lt_of_lt_of_le (by decide) hn) rfl (by decide) h3.1 h3.2 ?_
    obtain ⟨h4, hvc⟩ := hvc
    refine x_if_eq (tgt := 25) (pc := 18) d_M_kept_18 rfl h4 (fun hb => ?_) (fun hb => ?_)
    · have hvc := hvc.1 hb
      refine x_iload_n (pc := 25) d_M_kept_25 rfl rfl ?_
      refine x_iconst (pc := 26) d_M_kept_26 ?_
      refine x_iadd (pc := 27) d_M_kept_27 ?_
      refine x_istore_n (pc := 28) d_M_kept_28 rfl (by decide) ?_
      refine x_iinc (pc := 29) d_M_kept_29 rfl (by decide) ?_
      refine x_goto (tgt := 4) (pc := 32) d_M_kept_32 rfl ?_
      exact x_locals (xmask [true, true, true] _) (xmask_sub _ _) (hvc Q hQ)
    · have hvc := hvc.2 hb
      refine x_iload_n (pc := 21) d_M_kept_21 rfl rfl ?_
      refine x_goto (tgt := 28) (pc := 22) d_M_kept_22 rfl ?_
      refine x_istore_n (pc := 28) d_M_kept_28 rfl (by decide) ?_
      refine x_iinc (pc := 29) d_M_kept_29 rfl (by decide) ?_
      refine x_goto (tgt := 4) (pc := 32) d_M_kept_32 rfl ?_
      exact x_locals (xmask [true, true, true] _) (xmask_sub _ _) (hvc Q hQ)
set_option maxRecDepth 20000 in
theorem E_M_kept {n : Nat} {R : xR} {M : xM} {P : Int → xM → Prop} (hn : 93 ≤ n) (hR : RC 93 R) (h : Xi m_M_kept 0 n R P 0 [some (vr 78), none, none] [] M) : Ci m_M_kept 0 n R [vr 78] M P :=
  Ci.of [some (vr 78), none, none] (by decide) rfl (Nat.le_of_ble_eq_true rfl) rfl h
set_option maxRecDepth 20000 in
theorem B_M_distanceOf_0 {n : Nat} {R : xR} {M : xM} {P : Int → xM → Prop} (hn : 93 ≤ n) (hR : RC 93 R) {l1 l2 : Int} (hvc : Xi m_M_distanceOf 2 n R P 5 [some (vr 78), some (vi l1), some (vi l2), some (vi 0), some (vi 0)] [] M) : Xi m_M_distanceOf 2 n R P 0 [some (vr 78), some (vi l1), some (vi l2), none, none] [] M := by
  intro Q hQ
  refine x_iconst (pc := 0) d_M_distanceOf_0 ?_
  refine x_istore_n (pc := 1) d_M_distanceOf_1 rfl (by decide) ?_
  refine x_iconst (pc := 2) d_M_distanceOf_2 ?_
  refine x_istore (pc := 3) d_M_distanceOf_3 (by decide) ?_
  exact x_locals (xmask [true, true, true, true, true] _) (xmask_sub _ _) (hvc Q hQ)
set_option maxRecDepth 20000 in
theorem B_M_distanceOf_5 {n : Nat} {R : xR} {M : xM} {P : Int → xM → Prop} (hn : 93 ≤ n) (hR : RC 93 R) {l1 l2 l3 l4 : Int} (hvc : (-2147483648 ≤ l4 ∧ l4 < 2147483648) ∧ (-2147483648 ≤ M 78 5 ∧ M 78 5 < 2147483648) ∧ (((M 78 5) ≤ l4 → P l3 M) ∧ (¬ (M 78 5) ≤ l4 → (-2147483648 ≤ l3 ∧ l3 < 2147483648) ∧ (-2147483648 ≤ l2 ∧ l2 < 2147483648) ∧ ((l2 < l3 → P l3 M) ∧ (¬ l2 < l3 → (0 ≤ l4 ∧ l4 < 20) ∧ (-2147483648 ≤ M 84 l4.toNat ∧ M 84 l4.toNat < 2147483648) ∧ ((¬ (M 84 l4.toNat) = 0 → Xi m_M_distanceOf 2 n R P 5 [some (vr 78), some (vi l1), some (vi l2), some (vi l3), some (vi (l4 + 1))] [] M) ∧ ((M 84 l4.toNat) = 0 → Ci m_M_element 1 n R [vr 78, vi l1, vi l4] M (fun z7 M1 => (-2147483648 ≤ z7 ∧ z7 < 2147483648) ∧ (-2147483648 ≤ M1 83 l4.toNat ∧ M1 83 l4.toNat < 2147483648) ∧ ((z7 = (M1 83 l4.toNat) → Xi m_M_distanceOf 2 n R P 5 [some (vr 78), some (vi l1), some (vi l2), some (vi l3), some (vi (l4 + 1))] [] M1) ∧ (¬ z7 = (M1 83 l4.toNat) → Xi m_M_distanceOf 2 n R P 5 [some (vr 78), some (vi l1), some (vi l2), some (vi (l3 + 1)), some (vi (l4 + 1))] [] M1)))))))))) : Xi m_M_distanceOf 2 n R P 5 [some (vr 78), some (vi l1), some (vi l2), some (vi l3), some (vi l4)] [] M := by
  intro Q hQ
  refine x_iload (pc := 5) d_M_distanceOf_5 rfl ?_
  refine x_aload_n (pc := 7) d_M_distanceOf_7 rfl rfl ?_
  refine x_getI (k := 78) (ci := 7) (pc := 8) 5 d_M_distanceOf_8 cok7 rfl (Nat.lt_of_lt_of_le (by decide) hn) rfl (by decide) rfl w_569 ?_
  obtain ⟨h1, hvc⟩ := hvc
  obtain ⟨h2, hvc⟩ := hvc
  refine x_icmp_ge (tgt := 60) (pc := 11) d_M_distanceOf_11 rfl h1 h2 (fun hb => ?_) (fun hb => ?_)
  · have hvc := hvc.1 hb
    refine x_iload_n (pc := 60) d_M_distanceOf_60 rfl rfl ?_
    exact x_iret (pc := 61) d_M_distanceOf_61 rfl rfl (Nat.le_refl _) (hQ _ _ hvc)
  · have hvc := hvc.2 hb
    refine x_iload_n (pc := 14) d_M_distanceOf_14 rfl rfl ?_
    refine x_iload_n (pc := 15) d_M_distanceOf_15 rfl rfl ?_
    obtain ⟨h3, hvc⟩ := hvc
    obtain ⟨h4, hvc⟩ := hvc
    refine x_icmp_gt (tgt := 60) (pc := 16) d_M_distanceOf_16 rfl h3 h4 (fun hb => ?_) (fun hb => ?_)
    · have hvc := hvc.1 hb
      refine x_iload_n (pc := 60) d_M_distanceOf_60 rfl rfl ?_
      exact x_iret (pc := 61) d_M_distanceOf_61 rfl rfl (Nat.le_refl _) (hQ _ _ hvc)
    · have hvc := hvc.2 hb
      refine x_aload_n (pc := 19) d_M_distanceOf_19 rfl rfl ?_
      refine x_getR (k := 78) (ci := 7) (pc := 20) (t := 84) 10 d_M_distanceOf_20 cok7 rfl (Nat.lt_of_lt_of_le (by decide) hn) rfl (by decide) rfl (hR.at 78 10 rfl rfl) w_574 ?_
      refine x_iload (pc := 23) d_M_distanceOf_23 rfl ?_
      obtain ⟨h5, hvc⟩ := hvc
      refine x_zald (N := 20) (pc := 25) d_M_distanceOf_25 (Nat.lt_of_lt_of_le (by decide) hn) rfl (by decide) h5.1 h5.2 ?_
      obtain ⟨h6, hvc⟩ := hvc
      refine x_if_ne (tgt := 52) (pc := 26) d_M_distanceOf_26 rfl h6 (fun hb => ?_) (fun hb => ?_)
      · have hvc := hvc.1 hb
        refine x_iload_n (pc := 52) d_M_distanceOf_52 rfl rfl ?_
        refine x_istore_n (pc := 53) d_M_distanceOf_53 rfl (by decide) ?_
        refine x_iinc (pc := 54) d_M_distanceOf_54 rfl (by decide) ?_
        refine x_goto (tgt := 5) (pc := 57) d_M_distanceOf_57 rfl ?_
        exact x_locals (xmask [true, true, true, true, true] _) (xmask_sub _ _) (hvc Q hQ)
      · have hvc := hvc.2 hb
        refine x_aload_n (pc := 29) d_M_distanceOf_29 rfl rfl ?_
        refine x_iload_n (pc := 30) d_M_distanceOf_30 rfl rfl ?_
        refine x_iload (pc := 31) d_M_distanceOf_31 rfl ?_
        refine y_callVi m_M_element 1 102 78 7 21 [_, _] [] rfl (pc := 33) d_M_distanceOf_33 ok_M_element w_675 w_677 w_26 pn_M_element (Nat.lt_of_lt_of_le (by decide) hn) rfl rfl (by decide) (Nat.le_of_ble_eq_true rfl) (Nat.le_refl _) (Nat.le_refl _) hvc (fun z7 M1 hvc => ?_)
        refine x_aload_n (pc := 36) d_M_distanceOf_36 rfl rfl ?_
        refine x_getR (k := 78) (ci := 7) (pc := 37) (t := 83) 9 d_M_distanceOf_37 cok7 rfl (Nat.lt_of_lt_of_le (by decide) hn) rfl (by decide) rfl (hR.at 78 9 rfl rfl) w_573 ?_
        refine x_iload (pc := 40) d_M_distanceOf_40 rfl ?_
        refine x_iald (N := 20) (pc := 42) d_M_distanceOf_42 (Nat.lt_of_lt_of_le (by decide) hn) rfl (by decide) h5.1 h5.2 ?_
        obtain ⟨h8, hvc⟩ := hvc
        obtain ⟨h9, hvc⟩ := hvc
        refine x_icmp_eq (tgt := 52) (pc := 43) d_M_distanceOf_43 rfl h8 h9 (fun hb => ?_) (fun hb => ?_)
        · have hvc := hvc.1 hb
          refine x_iload_n (pc := 52) d_M_distanceOf_52 rfl rfl ?_
          refine x_istore_n (pc := 53) d_M_distanceOf_53 rfl (by decide) ?_
          refine x_iinc (pc := 54) d_M_distanceOf_54 rfl (by decide) ?_
          refine x_goto (tgt := 5) (pc := 57) d_M_distanceOf_57 rfl ?_
          exact x_locals (xmask [true, true, true, true, true] _) (xmask_sub _ _) (hvc Q hQ)
        · have hvc := hvc.2 hb
          refine x_iload_n (pc := 46) d_M_distanceOf_46 rfl rfl ?_
          refine x_iconst (pc := 47) d_M_distanceOf_47 ?_
          refine x_iadd (pc := 48) d_M_distanceOf_48 ?_
          refine x_goto (tgt := 53) (pc := 49) d_M_distanceOf_49 rfl ?_
          refine x_istore_n (pc := 53) d_M_distanceOf_53 rfl (by decide) ?_
          refine x_iinc (pc := 54) d_M_distanceOf_54 rfl (by decide) ?_
          refine x_goto (tgt := 5) (pc := 57) d_M_distanceOf_57 rfl ?_
          exact x_locals (xmask [true, true, true, true, true] _) (xmask_sub _ _) (hvc Q hQ)
set_option maxRecDepth 20000 in
theorem E_M_distanceOf {n : Nat} {R : xR} {M : xM} {P : Int → xM → Prop} (hn : 93 ≤ n) (hR : RC 93 R) {l1 l2 : Int} (h : Xi m_M_distanceOf 2 n R P 0 [some (vr 78), some (vi l1), some (vi l2), none, none] [] M) : Ci m_M_distanceOf 2 n R [vr 78, vi l1, vi l2] M P :=
  Ci.of [some (vr 78), some (vi l1), some (vi l2), none, none] (by decide) rfl (Nat.le_of_ble_eq_true rfl) rfl h
set_option maxRecDepth 20000 in
theorem B_M_decode_0 {n : Nat} {R : xR} {M : xM} {P : Int → xM → Prop} (hn : 93 ≤ n) (hR : RC 93 R) {l1 : Int} (hvc : Ci m_M_kept 0 n R [vr 78] M (fun z1 M1 => (-2147483648 ≤ z1 ∧ z1 < 2147483648) ∧ (-2147483648 ≤ M1 78 6 ∧ M1 78 6 < 2147483648) ∧ (((M1 78 6) ≤ z1 → (-2147483648 ≤ z1 - (M1 78 6) ∧ z1 - (M1 78 6) < 2147483648) ∧ (∀ M2 : xM, M2 = xU M1 78 12 ((-1)) → Xi m_M_decode 3 n R P 33 [some (vr 78), some (vi l1), some (vi z1), some (vi (Int.tdiv (z1 - (M1 78 6)) 2)), some (vi 0), none] [] M2)) ∧ (¬ (M1 78 6) ≤ z1 → P ((-3)) M1)))) : Xi m_M_decode 3 n R P 0 [some (vr 78), some (vi l1), none, none, none, none] [] M := by
  intro Q hQ
  refine x_aload_n (pc := 0) d_M_decode_0 rfl rfl ?_
  refine y_callVi m_M_kept 0 127 78 7 21 [] [] rfl (pc := 1) d_M_decode_1 ok_M_kept w_719 w_721 w_32 pn_M_kept (Nat.lt_of_lt_of_le (by decide) hn) rfl rfl (by decide) (Nat.le_of_ble_eq_true rfl) (Nat.le_refl _) (Nat.le_refl _) hvc (fun z1 M1 hvc => ?_)
  refine x_istore_n (pc := 4) d_M_decode_4 rfl (by decide) ?_
  refine x_iload_n (pc := 5) d_M_decode_5 rfl rfl ?_
  refine x_aload_n (pc := 6) d_M_decode_6 rfl rfl ?_
  refine x_getI (k := 78) (ci := 7) (pc := 7) 6 d_M_decode_7 cok7 rfl (Nat.lt_of_lt_of_le (by decide) hn) rfl (by decide) rfl w_570 ?_
  obtain ⟨h2, hvc⟩ := hvc
  obtain ⟨h3, hvc⟩ := hvc
  refine x_icmp_ge (tgt := 16) (pc := 10) d_M_decode_10 rfl h2 h3 (fun hb => ?_) (fun hb => ?_)
  · have hvc := hvc.1 hb
    refine x_iload_n (pc := 16) d_M_decode_16 rfl rfl ?_
    refine x_aload_n (pc := 17) d_M_decode_17 rfl rfl ?_
    refine x_getI (k := 78) (ci := 7) (pc := 18) 6 d_M_decode_18 cok7 rfl (Nat.lt_of_lt_of_le (by decide) hn) rfl (by decide) rfl w_570 ?_
    refine x_isub (pc := 21) d_M_decode_21 ?_
    refine x_iconst (pc := 22) d_M_decode_22 ?_
    obtain ⟨h4, hvc⟩ := hvc
    refine x_idiv (pc := 23) d_M_decode_23 h4 ⟨by decide, by decide⟩ (by decide) (by decide) ?_
    refine x_istore_n (pc := 24) d_M_decode_24 rfl (by decide) ?_
    refine x_aload_n (pc := 25) d_M_decode_25 rfl rfl ?_
    refine x_iconst (pc := 26) d_M_decode_26 ?_
    refine x_putI (k := 78) (ci := 7) (pc := 27) 12 d_M_decode_27 cok7 rfl (Nat.lt_of_lt_of_le (by decide) hn) rfl (by decide) rfl rfl rfl w_576 (fun M2 eM2 => ?_)
    have hvc := hvc M2 eM2
    refine x_iconst (pc := 30) d_M_decode_30 ?_
    refine x_istore (pc := 31) d_M_decode_31 (by decide) ?_
    exact x_locals (xmask [true, true, true, true, true, false] _) (xmask_sub _ _) (hvc Q hQ)
  · have hvc := hvc.2 hb
    refine x_bipush (pc := 13) d_M_decode_13 (by decide) ?_
    exact x_iret (pc := 15) d_M_decode_15 rfl rfl (Nat.le_refl _) (hQ _ _ hvc)
set_option maxRecDepth 20000 in
theorem B_M_decode_33 {n : Nat} {R : xR} {M : xM} {P : Int → xM → Prop} (hn : 93 ≤ n) (hR : RC 93 R) {l1 l2 l3 l4 : Int} (hvc : Ci m_M_messages 0 n R [vr 78] M (fun z1 M1 => (-2147483648 ≤ l4 ∧ l4 < 2147483648) ∧ (-2147483648 ≤ z1 ∧ z1 < 2147483648) ∧ ((z1 ≤ l4 → (-2147483648 ≤ M1 78 12 ∧ M1 78 12 < 2147483648) ∧ ((0 ≤ (M1 78 12) → Xi m_M_decode 3 n R P 92 [some (vr 78), some (vi l1), some (vi l2), some (vi l3), some (vi 0), some (vi 0)] [] M1) ∧ (¬ 0 ≤ (M1 78 12) → P ((-2)) M1))) ∧ (¬ z1 ≤ l4 → (-2147483648 ≤ M1 78 12 ∧ M1 78 12 < 2147483648) ∧ ((0 ≤ (M1 78 12) → ((0 ≤ (M1 78 12) → Xi m_M_decode 3 n R P 92 [some (vr 78), some (vi l1), some (vi l2), some (vi l3), some (vi 0), some (vi 0)] [] M1) ∧ (¬ 0 ≤ (M1 78 12) → P ((-2)) M1))) ∧ (¬ 0 ≤ (M1 78 12) → Ci m_M_distanceOf 2 n R [vr 78, vi l4, vi l3] M1 (fun z6 M2 => (-2147483648 ≤ z6 ∧ z6 < 2147483648) ∧ (-2147483648 ≤ l3 ∧ l3 < 2147483648) ∧ ((l3 < z6 → (∀ M3 : xM, M3 = xU M2 78 12 ((-1)) → Xi m_M_decode 3 n R P 33 [some (vr 78), some (vi l1), some (vi l2), some (vi l3), some (vi (l4 + 1)), none] [] M3)) ∧ (¬ l3 < z6 → (∀ M4 : xM, M4 = xU M2 78 12 l4 → Xi m_M_decode 3 n R P 33 [some (vr 78), some (vi l1), some (vi l2), some (vi l3), some (vi (l4 + 1)), none] [] M4)))))))))) : Xi m_M_decode 3 n R P 33 [some (vr 78), some (vi l1), some (vi l2), some (vi l3), some (vi l4), none] [] M := by
  intro Q hQ
  refine x_iload (pc := 33) d_M_decode_33 rfl ?_
  refine x_aload_n (pc := 35) d_M_decode_35 rfl rfl ?_
  refine y_callVi m_M_messages 0 105 78 7 21 [] [_] rfl (pc := 36) d_M_decode_36 ok_M_messages w_671 w_673 w_25 pn_M_messages (Nat.lt_of_lt_of_le (by decide) hn) rfl rfl (by decide) (Nat.le_of_ble_eq_true rfl) (Nat.le_refl _) (Nat.le_refl _) hvc (fun z1 M1 hvc => ?_)
  obtain ⟨h2, hvc⟩ := hvc
  obtain ⟨h3, hvc⟩ := hvc
  refine x_icmp_ge (tgt := 76) (pc := 39) d_M_decode_39 rfl h2 h3 (fun hb => ?_) (fun hb => ?_)
  · have hvc := hvc.1 hb
    refine x_aload_n (pc := 76) d_M_decode_76 rfl rfl ?_
    refine x_getI (k := 78) (ci := 7) (pc := 77) 12 d_M_decode_77 cok7 rfl (Nat.lt_of_lt_of_le (by decide) hn) rfl (by decide) rfl w_576 ?_
    obtain ⟨h4, hvc⟩ := hvc
    refine x_if_ge (tgt := 86) (pc := 80) d_M_decode_80 rfl h4 (fun hb => ?_) (fun hb => ?_)
    · have hvc := hvc.1 hb
      refine x_iconst (pc := 86) d_M_decode_86 ?_
      refine x_istore (pc := 87) d_M_decode_87 (by decide) ?_
      refine x_iconst (pc := 89) d_M_decode_89 ?_
      refine x_istore (pc := 90) d_M_decode_90 (by decide) ?_
      exact x_locals (xmask [true, true, true, true, true, true] _) (xmask_sub _ _) (hvc Q hQ)
    · have hvc := hvc.2 hb
      refine x_bipush (pc := 83) d_M_decode_83 (by decide) ?_
      exact x_iret (pc := 85) d_M_decode_85 rfl rfl (Nat.le_refl _) (hQ _ _ hvc)
  · have hvc := hvc.2 hb
    refine x_aload_n (pc := 42) d_M_decode_42 rfl rfl ?_
    refine x_getI (k := 78) (ci := 7) (pc := 43) 12 d_M_decode_43 cok7 rfl (Nat.lt_of_lt_of_le (by decide) hn) rfl (by decide) rfl w_576 ?_
    obtain ⟨h5, hvc⟩ := hvc
    refine x_if_ge (tgt := 76) (pc := 46) d_M_decode_46 rfl h5 (fun hb => ?_) (fun hb => ?_)
    · have hvc := hvc.1 hb
      refine x_aload_n (pc := 76) d_M_decode_76 rfl rfl ?_
      refine x_getI (k := 78) (ci := 7) (pc := 77) 12 d_M_decode_77 cok7 rfl (Nat.lt_of_lt_of_le (by decide) hn) rfl (by decide) rfl w_576 ?_
      refine x_if_ge (tgt := 86) (pc := 80) d_M_decode_80 rfl h5 (fun hb => ?_) (fun hb => ?_)
      · have hvc := hvc.1 hb
        refine x_iconst (pc := 86) d_M_decode_86 ?_
        refine x_istore (pc := 87) d_M_decode_87 (by decide) ?_
        refine x_iconst (pc := 89) d_M_decode_89 ?_
        refine x_istore (pc := 90) d_M_decode_90 (by decide) ?_
        exact x_locals (xmask [true, true, true, true, true, true] _) (xmask_sub _ _) (hvc Q hQ)
      · have hvc := hvc.2 hb
        refine x_bipush (pc := 83) d_M_decode_83 (by decide) ?_
        exact x_iret (pc := 85) d_M_decode_85 rfl rfl (Nat.le_refl _) (hQ _ _ hvc)
    · have hvc := hvc.2 hb
      refine x_aload_n (pc := 49) d_M_decode_49 rfl rfl ?_
      refine x_aload_n (pc := 50) d_M_decode_50 rfl rfl ?_
      refine x_iload (pc := 51) d_M_decode_51 rfl ?_
      refine x_iload_n (pc := 53) d_M_decode_53 rfl rfl ?_
      refine y_callVi m_M_distanceOf 2 130 78 7 21 [_, _] [_] rfl (pc := 54) d_M_decode_54 ok_M_distanceOf w_723 w_725 w_33 pn_M_distanceOf (Nat.lt_of_lt_of_le (by decide) hn) rfl rfl (by decide) (Nat.le_of_ble_eq_true rfl) (Nat.le_refl _) (Nat.le_refl _) hvc (fun z6 M2 hvc => ?_)
      refine x_iload_n (pc := 57) d_M_decode_57 rfl rfl ?_
      obtain ⟨h7, hvc⟩ := hvc
      obtain ⟨h8, hvc⟩ := hvc
      refine x_icmp_gt (tgt := 66) (pc := 58) d_M_decode_58 rfl h7 h8 (fun hb => ?_) (fun hb => ?_)
      · have hvc := hvc.1 hb
        refine x_iconst (pc := 66) d_M_decode_66 ?_
        refine x_putI (k := 78) (ci := 7) (pc := 67) 12 d_M_decode_67 cok7 rfl (Nat.lt_of_lt_of_le (by decide) hn) rfl (by decide) rfl rfl rfl w_576 (fun M3 eM3 => ?_)
        have hvc := hvc M3 eM3
        refine x_iinc (pc := 70) d_M_decode_70 rfl (by decide) ?_
        refine x_goto (tgt := 33) (pc := 73) d_M_decode_73 rfl ?_
        exact x_locals (xmask [true, true, true, true, true, false] _) (xmask_sub _ _) (hvc Q hQ)
      · have hvc := hvc.2 hb
        refine x_iload (pc := 61) d_M_decode_61 rfl ?_
        refine x_goto (tgt := 67) (pc := 63) d_M_decode_63 rfl ?_
        refine x_putI (k := 78) (ci := 7) (pc := 67) 12 d_M_decode_67 cok7 rfl (Nat.lt_of_lt_of_le (by decide) hn) rfl (by decide) rfl rfl rfl w_576 (fun M4 eM4 => ?_)
        have hvc := hvc M4 eM4
        refine x_iinc (pc := 70) d_M_decode_70 rfl (by decide) ?_
        refine x_goto (tgt := 33) (pc := 73) d_M_decode_73 rfl ?_
        exact x_locals (xmask [true, true, true, true, true, false] _) (xmask_sub _ _) (hvc Q hQ)
set_option maxRecDepth 20000 in
theorem B_M_decode_92 {n : Nat} {R : xR} {M : xM} {P : Int → xM → Prop} (hn : 93 ≤ n) (hR : RC 93 R) {l1 l2 l3 l4 l5 : Int} (hvc : (-2147483648 ≤ l5 ∧ l5 < 2147483648) ∧ (-2147483648 ≤ M 78 5 ∧ M 78 5 < 2147483648) ∧ (((M 78 5) ≤ l5 → P l4 M) ∧ (¬ (M 78 5) ≤ l5 → (0 ≤ l5 ∧ l5 < 20) ∧ (-2147483648 ≤ M 84 l5.toNat ∧ M 84 l5.toNat < 2147483648) ∧ ((¬ (M 84 l5.toNat) = 0 → (∀ M1 : xM, M1 = xU M 86 l5.toNat 0 → (-2147483648 ≤ M1 86 l5.toNat ∧ M1 86 l5.toNat < 2147483648) ∧ (((M1 86 l5.toNat) = 0 → Xi m_M_decode 3 n R P 92 [some (vr 78), some (vi l1), some (vi l2), some (vi l3), some (vi l4), some (vi (l5 + 1))] [] M1) ∧ (¬ (M1 86 l5.toNat) = 0 → Xi m_M_decode 3 n R P 92 [some (vr 78), some (vi l1), some (vi l2), some (vi l3), some (vi (l4 + 1)), some (vi (l5 + 1))] [] M1)))) ∧ ((M 84 l5.toNat) = 0 → Ci m_M_element 1 n R [vr 78, vi (M 78 12), vi l5] M (fun z6 M2 => (-2147483648 ≤ z6 ∧ z6 < 2147483648) ∧ (-2147483648 ≤ M2 83 l5.toNat ∧ M2 83 l5.toNat < 2147483648) ∧ ((z6 = (M2 83 l5.toNat) → (∀ M3 : xM, M3 = xU M2 86 l5.toNat 0 → (-2147483648 ≤ M3 86 l5.toNat ∧ M3 86 l5.toNat < 2147483648) ∧ (((M3 86 l5.toNat) = 0 → Xi m_M_decode 3 n R P 92 [some (vr 78), some (vi l1), some (vi l2), some (vi l3), some (vi l4), some (vi (l5 + 1))] [] M3) ∧ (¬ (M3 86 l5.toNat) = 0 → Xi m_M_decode 3 n R P 92 [some (vr 78), some (vi l1), some (vi l2), some (vi l3), some (vi (l4 + 1)), some (vi (l5 + 1))] [] M3)))) ∧ (¬ z6 = (M2 83 l5.toNat) → (∀ M4 : xM, M4 = xU M2 86 l5.toNat 1 → (-2147483648 ≤ M4 86 l5.toNat ∧ M4 86 l5.toNat < 2147483648) ∧ (((M4 86 l5.toNat) = 0 → Xi m_M_decode 3 n R P 92 [some (vr 78), some (vi l1), some (vi l2), some (vi l3), some (vi l4), some (vi (l5 + 1))] [] M4) ∧ (¬ (M4 86 l5.toNat) = 0 → Xi m_M_decode 3 n R P 92 [some (vr 78), some (vi l1), some (vi l2), some (vi l3), some (vi (l4 + 1)), some (vi (l5 + 1))] [] M4))))))))))) : Xi m_M_decode 3 n R P 92 [some (vr 78), some (vi l1), some (vi l2), some (vi l3), some (vi l4), some (vi l5)] [] M := by
  intro Q hQ
  refine x_iload (pc := 92) d_M_decode_92 rfl ?_
  refine x_aload_n (pc := 94) d_M_decode_94 rfl rfl ?_
  refine x_getI (k := 78) (ci := 7) (pc := 95) 5 d_M_decode_95 cok7 rfl (Nat.lt_of_lt_of_le (by decide) hn) rfl (by decide) rfl w_569 ?_
  obtain ⟨h1, hvc⟩ := hvc
  obtain ⟨h2, hvc⟩ := hvc
  refine x_icmp_ge (tgt := 170) (pc := 98) d_M_decode_98 rfl h1 h2 (fun hb => ?_) (fun hb => ?_)
  · have hvc := hvc.1 hb
    refine x_iload (pc := 170) d_M_decode_170 rfl ?_
    exact x_iret (pc := 172) d_M_decode_172 rfl rfl (Nat.le_refl _) (hQ _ _ hvc)
  · have hvc := hvc.2 hb
    refine x_aload_n (pc := 101) d_M_decode_101 rfl rfl ?_
    refine x_getR (k := 78) (ci := 7) (pc := 102) (t := 86) 13 d_M_decode_102 cok7 rfl (Nat.lt_of_lt_of_le (by decide) hn) rfl (by decide) rfl (hR.at 78 13 rfl rfl) w_577 ?_
    refine x_iload (pc := 105) d_M_decode_105 rfl ?_
    refine x_aload_n (pc := 107) d_M_decode_107 rfl rfl ?_
    refine x_getR (k := 78) (ci := 7) (pc := 108) (t := 84) 10 d_M_decode_108 cok7 rfl (Nat.lt_of_lt_of_le (by decide) hn) rfl (by decide) rfl (hR.at 78 10 rfl rfl) w_574 ?_
    refine x_iload (pc := 111) d_M_decode_111 rfl ?_
    obtain ⟨h3, hvc⟩ := hvc
    refine x_zald (N := 20) (pc := 113) d_M_decode_113 (Nat.lt_of_lt_of_le (by decide) hn) rfl (by decide) h3.1 h3.2 ?_
    obtain ⟨h4, hvc⟩ := hvc
    refine x_if_ne (tgt := 141) (pc := 114) d_M_decode_114 rfl h4 (fun hb => ?_) (fun hb => ?_)
    · have hvc := hvc.1 hb
      refine x_iconst (pc := 141) d_M_decode_141 ?_
      refine x_zast (N := 20) (pc := 142) d_M_decode_142 (Nat.lt_of_lt_of_le (by decide) hn) rfl (by decide) h3.1 h3.2 (by decide) (fun M1 eM1 => ?_)
      have hvc := hvc M1 eM1
      refine x_aload_n (pc := 143) d_M_decode_143 rfl rfl ?_
      refine x_getR (k := 78) (ci := 7) (pc := 144) (t := 86) 13 d_M_decode_144 cok7 rfl (Nat.lt_of_lt_of_le (by decide) hn) rfl (by decide) rfl (hR.at 78 13 rfl rfl) w_577 ?_
      refine x_iload (pc := 147) d_M_decode_147 rfl ?_
      refine x_zald (N := 20) (pc := 149) d_M_decode_149 (Nat.lt_of_lt_of_le (by decide) hn) rfl (by decide) h3.1 h3.2 ?_
      obtain ⟨h5, hvc⟩ := hvc
      refine x_if_eq (tgt := 160) (pc := 150) d_M_decode_150 rfl h5 (fun hb => ?_) (fun hb => ?_)
      · have hvc := hvc.1 hb
        refine x_iload (pc := 160) d_M_decode_160 rfl ?_
        refine x_istore (pc := 162) d_M_decode_162 (by decide) ?_
        refine x_iinc (pc := 164) d_M_decode_164 rfl (by decide) ?_
        refine x_goto (tgt := 92) (pc := 167) d_M_decode_167 rfl ?_
        exact x_locals (xmask [true, true, true, true, true, true] _) (xmask_sub _ _) (hvc Q hQ)
      · have hvc := hvc.2 hb
        refine x_iload (pc := 153) d_M_decode_153 rfl ?_
        refine x_iconst (pc := 155) d_M_decode_155 ?_
        refine x_iadd (pc := 156) d_M_decode_156 ?_
        refine x_goto (tgt := 162) (pc := 157) d_M_decode_157 rfl ?_
        refine x_istore (pc := 162) d_M_decode_162 (by decide) ?_
        refine x_iinc (pc := 164) d_M_decode_164 rfl (by decide) ?_
        refine x_goto (tgt := 92) (pc := 167) d_M_decode_167 rfl ?_
        exact x_locals (xmask [true, true, true, true, true, true] _) (xmask_sub _ _) (hvc Q hQ)
    · have hvc := hvc.2 hb
      refine x_aload_n (pc := 117) d_M_decode_117 rfl rfl ?_
      refine x_aload_n (pc := 118) d_M_decode_118 rfl rfl ?_
      refine x_getI (k := 78) (ci := 7) (pc := 119) 12 d_M_decode_119 cok7 rfl (Nat.lt_of_lt_of_le (by decide) hn) rfl (by decide) rfl w_576 ?_
      refine x_iload (pc := 122) d_M_decode_122 rfl ?_
      refine y_callVi m_M_element 1 102 78 7 21 [_, _] [_, _] rfl (pc := 124) d_M_decode_124 ok_M_element w_675 w_677 w_26 pn_M_element (Nat.lt_of_lt_of_le (by decide) hn) rfl rfl (by decide) (Nat.le_of_ble_eq_true rfl) (Nat.le_refl _) (Nat.le_refl _) hvc (fun z6 M2 hvc => ?_)
      refine x_aload_n (pc := 127) d_M_decode_127 rfl rfl ?_
      refine x_getR (k := 78) (ci := 7) (pc := 128) (t := 83) 9 d_M_decode_128 cok7 rfl (Nat.lt_of_lt_of_le (by decide) hn) rfl (by decide) rfl (hR.at 78 9 rfl rfl) w_573 ?_
      refine x_iload (pc := 131) d_M_decode_131 rfl ?_
      refine x_iald (N := 20) (pc := 133) d_M_decode_133 (Nat.lt_of_lt_of_le (by decide) hn) rfl (by decide) h3.1 h3.2 ?_
      obtain ⟨h7, hvc⟩ := hvc
      obtain ⟨h8, hvc⟩ := hvc
      refine x_icmp_eq (tgt := 141) (pc := 134) d_M_decode_134 rfl h7 h8 (fun hb => ?_) (fun hb => ?_)
      · have hvc := hvc.1 hb
        refine x_iconst (pc := 141) d_M_decode_141 ?_
        refine x_zast (N := 20) (pc := 142) d_M_decode_142 (Nat.lt_of_lt_of_le (by decide) hn) rfl (by decide) h3.1 h3.2 (by decide) (fun M3 eM3 => ?_)
        have hvc := hvc M3 eM3
        refine x_aload_n (pc := 143) d_M_decode_143 rfl rfl ?_
        refine x_getR (k := 78) (ci := 7) (pc := 144) (t := 86) 13 d_M_decode_144 cok7 rfl (Nat.lt_of_lt_of_le (by decide) hn) rfl (by decide) rfl (hR.at 78 13 rfl rfl) w_577 ?_
        refine x_iload (pc := 147) d_M_decode_147 rfl ?_
        refine x_zald (N := 20) (pc := 149) d_M_decode_149 (Nat.lt_of_lt_of_le (by decide) hn) rfl (by decide) h3.1 h3.2 ?_
        obtain ⟨h9, hvc⟩ := hvc
        refine x_if_eq (tgt := 160) (pc := 150) d_M_decode_150 rfl h9 (fun hb => ?_) (fun hb => ?_)
        · have hvc := hvc.1 hb
          refine x_iload (pc := 160) d_M_decode_160 rfl ?_
          refine x_istore (pc := 162) d_M_decode_162 (by decide) ?_
          refine x_iinc (pc := 164) d_M_decode_164 rfl (by decide) ?_
          refine x_goto (tgt := 92) (pc := 167) d_M_decode_167 rfl ?_
          exact x_locals (xmask [true, true, true, true, true, true] _) (xmask_sub _ _) (hvc Q hQ)
        · have hvc := hvc.2 hb
          refine x_iload (pc := 153) d_M_decode_153 rfl ?_
          refine x_iconst (pc := 155) d_M_decode_155 ?_
          refine x_iadd (pc := 156) d_M_decode_156 ?_
          refine x_goto (tgt := 162) (pc := 157) d_M_decode_157 rfl ?_
          refine x_istore (pc := 162) d_M_decode_162 (by decide) ?_
          refine x_iinc (pc := 164) d_M_decode_164 rfl (by decide) ?_
          refine x_goto (tgt := 92) (pc := 167) d_M_decode_167 rfl ?_
          exact x_locals (xmask [true, true, true, true, true, true] _) (xmask_sub _ _) (hvc Q hQ)
      · have hvc := hvc.2 hb
        refine x_iconst (pc := 137) d_M_decode_137 ?_
        refine x_goto (tgt := 142) (pc := 138) d_M_decode_138 rfl ?_
        refine x_zast (N := 20) (pc := 142) d_M_decode_142 (Nat.lt_of_lt_of_le (by decide) hn) rfl (by decide) h3.1 h3.2 (by decide) (fun M4 eM4 => ?_)
        have hvc := hvc M4 eM4
        refine x_aload_n (pc := 143) d_M_decode_143 rfl rfl ?_
        refine x_getR (k := 78) (ci := 7) (pc := 144) (t := 86) 13 d_M_decode_144 cok7 rfl (Nat.lt_of_lt_of_le (by decide) hn) rfl (by decide) rfl (hR.at 78 13 rfl rfl) w_577 ?_
        refine x_iload (pc := 147) d_M_decode_147 rfl ?_
        refine x_zald (N := 20) (pc := 149) d_M_decode_149 (Nat.lt_of_lt_of_le (by decide) hn) rfl (by decide) h3.1 h3.2 ?_
        obtain ⟨h10, hvc⟩ := hvc
        refine x_if_eq (tgt := 160) (pc := 150) d_M_decode_150 rfl h10 (fun hb => ?_) (fun hb => ?_)
        · have hvc := hvc.1 hb
          refine x_iload (pc := 160) d_M_decode_160 rfl ?_
          refine x_istore (pc := 162) d_M_decode_162 (by decide) ?_
          refine x_iinc (pc := 164) d_M_decode_164 rfl (by decide) ?_
          refine x_goto (tgt := 92) (pc := 167) d_M_decode_167 rfl ?_
          exact x_locals (xmask [true, true, true, true, true, true] _) (xmask_sub _ _) (hvc Q hQ)
        · have hvc := hvc.2 hb
          refine x_iload (pc := 153) d_M_decode_153 rfl ?_
          refine x_iconst (pc := 155) d_M_decode_155 ?_
          refine x_iadd (pc := 156) d_M_decode_156 ?_
          refine x_goto (tgt := 162) (pc := 157) d_M_decode_157 rfl ?_
          refine x_istore (pc := 162) d_M_decode_162 (by decide) ?_
          refine x_iinc (pc := 164) d_M_decode_164 rfl (by decide) ?_
          refine x_goto (tgt := 92) (pc := 167) d_M_decode_167 rfl ?_
          exact x_locals (xmask [true, true, true, true, true, true] _) (xmask_sub _ _) (hvc Q hQ)
set_option maxRecDepth 20000 in
theorem E_M_decode {n : Nat} {R : xR} {M : xM} {P : Int → xM → Prop} (hn : 93 ≤ n) (hR : RC 93 R) {l1 : Int} (h : Xi m_M_decode 3 n R P 0 [some (vr 78), some (vi l1), none, none, none, none] [] M) : Ci m_M_decode 3 n R [vr 78, vi l1] M P :=
  Ci.of [some (vr 78), some (vi l1), none, none, none, none] (by decide) rfl (Nat.le_of_ble_eq_true rfl) rfl h
set_option maxRecDepth 20000 in
theorem B_M_decoded_0 {n : Nat} {R : xR} {M : xM} {P : Int → xM → Prop} (hn : 93 ≤ n) (hR : RC 93 R) {l1 : Int} (hvc : Ci m_M_isPlace 0 n R [vr 78, vi l1] M (fun z1 M1 => (-2147483648 ≤ z1 ∧ z1 < 2147483648) ∧ ((¬ z1 = 0 → (-2147483648 ≤ M1 78 12 ∧ M1 78 12 < 2147483648) ∧ ((0 ≤ (M1 78 12) → Ci m_M_element 1 n R [vr 78, vi (M1 78 12), vi l1] M1 (fun z4 M2 => P z4 M2)) ∧ (¬ 0 ≤ (M1 78 12) → P ((-2)) M1))) ∧ (z1 = 0 → P ((-1)) M1)))) : Xi m_M_decoded 2 n R P 0 [some (vr 78), some (vi l1)] [] M := by
  intro Q hQ
  refine x_aload_n (pc := 0) d_M_decoded_0 rfl rfl ?_
  refine x_iload_n (pc := 1) d_M_decoded_1 rfl rfl ?_
  refine y_callVi m_M_isPlace 0 117 78 7 21 [_] [] rfl (pc := 2) d_M_decoded_2 ok_M_isPlace w_691 w_693 w_29 pn_M_isPlace (Nat.lt_of_lt_of_le (by decide) hn) rfl rfl (by decide) (Nat.le_of_ble_eq_true rfl) (Nat.le_refl _) (Nat.le_refl _) hvc (fun z1 M1 hvc => ?_)
  obtain ⟨h2, hvc⟩ := hvc
  refine x_if_ne (tgt := 12) (pc := 5) d_M_decoded_5 rfl h2 (fun hb => ?_) (fun hb => ?_)
  · have hvc := hvc.1 hb
    refine x_aload_n (pc := 12) d_M_decoded_12 rfl rfl ?_
    refine x_getI (k := 78) (ci := 7) (pc := 13) 12 d_M_decoded_13 cok7 rfl (Nat.lt_of_lt_of_le (by decide) hn) rfl (by decide) rfl w_576 ?_
    obtain ⟨h3, hvc⟩ := hvc
    refine x_if_ge (tgt := 24) (pc := 16) d_M_decoded_16 rfl h3 (fun hb => ?_) (fun hb => ?_)
    · have hvc := hvc.1 hb
      refine x_aload_n (pc := 24) d_M_decoded_24 rfl rfl ?_
      refine x_aload_n (pc := 25) d_M_decoded_25 rfl rfl ?_
      refine x_getI (k := 78) (ci := 7) (pc := 26) 12 d_M_decoded_26 cok7 rfl (Nat.lt_of_lt_of_le (by decide) hn) rfl (by decide) rfl w_576 ?_
      refine x_iload_n (pc := 29) d_M_decoded_29 rfl rfl ?_
      refine y_callVi m_M_element 1 102 78 7 21 [_, _] [] rfl (pc := 30) d_M_decoded_30 ok_M_element w_675 w_677 w_26 pn_M_element (Nat.lt_of_lt_of_le (by decide) hn) rfl rfl (by decide) (Nat.le_of_ble_eq_true rfl) (Nat.le_refl _) (Nat.le_refl _) hvc (fun z4 M2 hvc => ?_)
      exact x_iret (pc := 33) d_M_decoded_33 rfl rfl (Nat.le_refl _) (hQ _ _ hvc)
    · have hvc := hvc.2 hb
      refine x_bipush (pc := 19) d_M_decoded_19 (by decide) ?_
      refine x_goto (tgt := 33) (pc := 21) d_M_decoded_21 rfl ?_
      exact x_iret (pc := 33) d_M_decoded_33 rfl rfl (Nat.le_refl _) (hQ _ _ hvc)
  · have hvc := hvc.2 hb
    refine x_iconst (pc := 8) d_M_decoded_8 ?_
    refine x_goto (tgt := 33) (pc := 9) d_M_decoded_9 rfl ?_
    exact x_iret (pc := 33) d_M_decoded_33 rfl rfl (Nat.le_refl _) (hQ _ _ hvc)
set_option maxRecDepth 20000 in
theorem E_M_decoded {n : Nat} {R : xR} {M : xM} {P : Int → xM → Prop} (hn : 93 ≤ n) (hR : RC 93 R) {l1 : Int} (h : Xi m_M_decoded 2 n R P 0 [some (vr 78), some (vi l1)] [] M) : Ci m_M_decoded 2 n R [vr 78, vi l1] M P :=
  Ci.of [some (vr 78), some (vi l1)] (by decide) rfl (Nat.le_of_ble_eq_true rfl) rfl h
set_option maxRecDepth 20000 in
theorem B_M_sent_0 {n : Nat} {R : xR} {M : xM} {P : Int → xM → Prop} (hn : 93 ≤ n) (hR : RC 93 R) {l1 : Int} (hvc : (-2147483648 ≤ l1 ∧ l1 < 2147483648) ∧ ((l1 < 0 → P ((-1)) M) ∧ (¬ l1 < 0 → (-2147483648 ≤ M 78 6 ∧ M 78 6 < 2147483648) ∧ ((l1 < (M 78 6) → (-2147483648 ≤ M 78 12 ∧ M 78 12 < 2147483648) ∧ ((0 ≤ (M 78 12) → Ci m_M_told 0 n R [vr 78, vi (M 78 12), vi l1] M (fun z4 M1 => P z4 M1)) ∧ (¬ 0 ≤ (M 78 12) → P ((-2)) M))) ∧ (¬ l1 < (M 78 6) → P ((-1)) M))))) : Xi m_M_sent 1 n R P 0 [some (vr 78), some (vi l1)] [] M := by
  intro Q hQ
  refine x_iload_n (pc := 0) d_M_sent_0 rfl rfl ?_
  obtain ⟨h1, hvc⟩ := hvc
  refine x_if_lt (tgt := 12) (pc := 1) d_M_sent_1 rfl h1 (fun hb => ?_) (fun hb => ?_)
  · have hvc := hvc.1 hb
    refine x_iconst (pc := 12) d_M_sent_12 ?_
    refine x_goto (tgt := 37) (pc := 13) d_M_sent_13 rfl ?_
    exact x_iret (pc := 37) d_M_sent_37 rfl rfl (Nat.le_refl _) (hQ _ _ hvc)
  · have hvc := hvc.2 hb
    refine x_iload_n (pc := 4) d_M_sent_4 rfl rfl ?_
    refine x_aload_n (pc := 5) d_M_sent_5 rfl rfl ?_
    refine x_getI (k := 78) (ci := 7) (pc := 6) 6 d_M_sent_6 cok7 rfl (Nat.lt_of_lt_of_le (by decide) hn) rfl (by decide) rfl w_570 ?_
    obtain ⟨h2, hvc⟩ := hvc
    refine x_icmp_lt (tgt := 16) (pc := 9) d_M_sent_9 rfl h1 h2 (fun hb => ?_) (fun hb => ?_)
    · have hvc := hvc.1 hb
      refine x_aload_n (pc := 16) d_M_sent_16 rfl rfl ?_
      refine x_getI (k := 78) (ci := 7) (pc := 17) 12 d_M_sent_17 cok7 rfl (Nat.lt_of_lt_of_le (by decide) hn) rfl (by decide) rfl w_576 ?_
      obtain ⟨h3, hvc⟩ := hvc
      refine x_if_ge (tgt := 28) (pc := 20) d_M_sent_20 rfl h3 (fun hb => ?_) (fun hb => ?_)
      · have hvc := hvc.1 hb
        refine x_aload_n (pc := 28) d_M_sent_28 rfl rfl ?_
        refine x_aload_n (pc := 29) d_M_sent_29 rfl rfl ?_
        refine x_getI (k := 78) (ci := 7) (pc := 30) 12 d_M_sent_30 cok7 rfl (Nat.lt_of_lt_of_le (by decide) hn) rfl (by decide) rfl w_576 ?_
        refine x_iload_n (pc := 33) d_M_sent_33 rfl rfl ?_
        refine y_callVi m_M_told 0 99 78 7 21 [_, _] [] rfl (pc := 34) d_M_sent_34 ok_M_told w_679 w_681 w_27 pn_M_told (Nat.lt_of_lt_of_le (by decide) hn) rfl rfl (by decide) (Nat.le_of_ble_eq_true rfl) (Nat.le_refl _) (Nat.le_refl _) hvc (fun z4 M1 hvc => ?_)
        exact x_iret (pc := 37) d_M_sent_37 rfl rfl (Nat.le_refl _) (hQ _ _ hvc)
      · have hvc := hvc.2 hb
        refine x_bipush (pc := 23) d_M_sent_23 (by decide) ?_
        refine x_goto (tgt := 37) (pc := 25) d_M_sent_25 rfl ?_
        exact x_iret (pc := 37) d_M_sent_37 rfl rfl (Nat.le_refl _) (hQ _ _ hvc)
    · have hvc := hvc.2 hb
      refine x_iconst (pc := 12) d_M_sent_12 ?_
      refine x_goto (tgt := 37) (pc := 13) d_M_sent_13 rfl ?_
      exact x_iret (pc := 37) d_M_sent_37 rfl rfl (Nat.le_refl _) (hQ _ _ hvc)
set_option maxRecDepth 20000 in
theorem E_M_sent {n : Nat} {R : xR} {M : xM} {P : Int → xM → Prop} (hn : 93 ≤ n) (hR : RC 93 R) {l1 : Int} (h : Xi m_M_sent 1 n R P 0 [some (vr 78), some (vi l1)] [] M) : Ci m_M_sent 1 n R [vr 78, vi l1] M P :=
  Ci.of [some (vr 78), some (vi l1)] (by decide) rfl (Nat.le_of_ble_eq_true rfl) rfl h
set_option maxRecDepth 20000 in
theorem B_M_locator_0 {n : Nat} {R : xR} {M : xM} {P : Int → xM → Prop} (hn : 93 ≤ n) (hR : RC 93 R) {l1 : Int} (hvc : (-2147483648 ≤ l1 ∧ l1 < 2147483648) ∧ ((l1 < 0 → P ((-1)) M) ∧ (¬ l1 < 0 → (-2147483648 ≤ (M 78 5) - (M 78 6) ∧ (M 78 5) - (M 78 6) < 2147483648) ∧ ((l1 ≤ ((M 78 5) - (M 78 6)) → (-2147483648 ≤ M 78 12 ∧ M 78 12 < 2147483648) ∧ ((0 ≤ (M 78 12) → Xi m_M_locator 0 n R P 31 [some (vr 78), some (vi l1), some (vi 0), none] [] M) ∧ (¬ 0 ≤ (M 78 12) → P ((-2)) M))) ∧ (¬ l1 ≤ ((M 78 5) - (M 78 6)) → P ((-1)) M))))) : Xi m_M_locator 0 n R P 0 [some (vr 78), some (vi l1), none, none] [] M := by
  intro Q hQ
  refine x_iload_n (pc := 0) d_M_locator_0 rfl rfl ?_
  obtain ⟨h1, hvc⟩ := hvc
  refine x_if_lt (tgt := 17) (pc := 1) d_M_locator_1 rfl h1 (fun hb => ?_) (fun hb => ?_)
  · have hvc := hvc.1 hb
    refine x_iconst (pc := 17) d_M_locator_17 ?_
    exact x_iret (pc := 18) d_M_locator_18 rfl rfl (Nat.le_refl _) (hQ _ _ hvc)
  · have hvc := hvc.2 hb
    refine x_iload_n (pc := 4) d_M_locator_4 rfl rfl ?_
    refine x_aload_n (pc := 5) d_M_locator_5 rfl rfl ?_
    refine x_getI (k := 78) (ci := 7) (pc := 6) 5 d_M_locator_6 cok7 rfl (Nat.lt_of_lt_of_le (by decide) hn) rfl (by decide) rfl w_569 ?_
    refine x_aload_n (pc := 9) d_M_locator_9 rfl rfl ?_
    refine x_getI (k := 78) (ci := 7) (pc := 10) 6 d_M_locator_10 cok7 rfl (Nat.lt_of_lt_of_le (by decide) hn) rfl (by decide) rfl w_570 ?_
    refine x_isub (pc := 13) d_M_locator_13 ?_
    obtain ⟨h2, hvc⟩ := hvc
    refine x_icmp_le (tgt := 19) (pc := 14) d_M_locator_14 rfl h1 h2 (fun hb => ?_) (fun hb => ?_)
    · have hvc := hvc.1 hb
      refine x_aload_n (pc := 19) d_M_locator_19 rfl rfl ?_
      refine x_getI (k := 78) (ci := 7) (pc := 20) 12 d_M_locator_20 cok7 rfl (Nat.lt_of_lt_of_le (by decide) hn) rfl (by decide) rfl w_576 ?_
      obtain ⟨h3, hvc⟩ := hvc
      refine x_if_ge (tgt := 29) (pc := 23) d_M_locator_23 rfl h3 (fun hb => ?_) (fun hb => ?_)
      · have hvc := hvc.1 hb
        refine x_iconst (pc := 29) d_M_locator_29 ?_
        refine x_istore_n (pc := 30) d_M_locator_30 rfl (by decide) ?_
        exact x_locals (xmask [true, true, true, false] _) (xmask_sub _ _) (hvc Q hQ)
      · have hvc := hvc.2 hb
        refine x_bipush (pc := 26) d_M_locator_26 (by decide) ?_
        exact x_iret (pc := 28) d_M_locator_28 rfl rfl (Nat.le_refl _) (hQ _ _ hvc)
    · have hvc := hvc.2 hb
      refine x_iconst (pc := 17) d_M_locator_17 ?_
      exact x_iret (pc := 18) d_M_locator_18 rfl rfl (Nat.le_refl _) (hQ _ _ hvc)
set_option maxRecDepth 20000 in
theorem B_M_locator_31 {n : Nat} {R : xR} {M : xM} {P : Int → xM → Prop} (hn : 93 ≤ n) (hR : RC 93 R) {l1 l2 : Int} (hvc : (-2147483648 ≤ l2 ∧ l2 < 2147483648) ∧ ((21 ≤ l2 → Xi m_M_locator 0 n R P 60 [some (vr 78), some (vi l1), some (vi 0), none] [] M) ∧ (¬ 21 ≤ l2 → ((¬ l2 = 0 → (0 ≤ l2 ∧ l2 < 21) ∧ (∀ M1 : xM, M1 = xU M 87 l2.toNat 0 → Xi m_M_locator 0 n R P 31 [some (vr 78), some (vi l1), some (vi (l2 + 1)), none] [] M1)) ∧ (l2 = 0 → (0 ≤ l2 ∧ l2 < 21) ∧ (∀ M2 : xM, M2 = xU M 87 l2.toNat 1 → Xi m_M_locator 0 n R P 31 [some (vr 78), some (vi l1), some (vi (l2 + 1)), none] [] M2)))))) : Xi m_M_locator 0 n R P 31 [some (vr 78), some (vi l1), some (vi l2), none] [] M := by
  intro Q hQ
  refine x_iload_n (pc := 31) d_M_locator_31 rfl rfl ?_
  refine x_bipush (pc := 32) d_M_locator_32 (by decide) ?_
  obtain ⟨h1, hvc⟩ := hvc
  refine x_icmp_ge (tgt := 58) (pc := 34) d_M_locator_34 rfl h1 ⟨by decide, by decide⟩ (fun hb => ?_) (fun hb => ?_)
  · have hvc := hvc.1 hb
    refine x_iconst (pc := 58) d_M_locator_58 ?_
    refine x_istore_n (pc := 59) d_M_locator_59 rfl (by decide) ?_
    exact x_locals (xmask [true, true, true, false] _) (xmask_sub _ _) (hvc Q hQ)
  · have hvc := hvc.2 hb
    refine x_aload_n (pc := 37) d_M_locator_37 rfl rfl ?_
    refine x_getR (k := 78) (ci := 7) (pc := 38) (t := 87) 14 d_M_locator_38 cok7 rfl (Nat.lt_of_lt_of_le (by decide) hn) rfl (by decide) rfl (hR.at 78 14 rfl rfl) w_578 ?_
    refine x_iload_n (pc := 41) d_M_locator_41 rfl rfl ?_
    refine x_iload_n (pc := 42) d_M_locator_42 rfl rfl ?_
    refine x_if_ne (tgt := 50) (pc := 43) d_M_locator_43 rfl h1 (fun hb => ?_) (fun hb => ?_)
    · have hvc := hvc.1 hb
      refine x_iconst (pc := 50) d_M_locator_50 ?_
      obtain ⟨h2, hvc⟩ := hvc
      refine x_iast (N := 21) (pc := 51) d_M_locator_51 (Nat.lt_of_lt_of_le (by decide) hn) rfl (by decide) h2.1 h2.2 (fun M1 eM1 => ?_)
      have hvc := hvc M1 eM1
      refine x_iinc (pc := 52) d_M_locator_52 rfl (by decide) ?_
      refine x_goto (tgt := 31) (pc := 55) d_M_locator_55 rfl ?_
      exact x_locals (xmask [true, true, true, false] _) (xmask_sub _ _) (hvc Q hQ)
    · have hvc := hvc.2 hb
      refine x_iconst (pc := 46) d_M_locator_46 ?_
      refine x_goto (tgt := 51) (pc := 47) d_M_locator_47 rfl ?_
      obtain ⟨h3, hvc⟩ := hvc
      refine x_iast (N := 21) (pc := 51) d_M_locator_51 (Nat.lt_of_lt_of_le (by decide) hn) rfl (by decide) h3.1 h3.2 (fun M2 eM2 => ?_)
      have hvc := hvc M2 eM2
      refine x_iinc (pc := 52) d_M_locator_52 rfl (by decide) ?_
      refine x_goto (tgt := 31) (pc := 55) d_M_locator_55 rfl ?_
      exact x_locals (xmask [true, true, true, false] _) (xmask_sub _ _) (hvc Q hQ)
set_option maxRecDepth 20000 in
theorem B_M_locator_60 {n : Nat} {R : xR} {M : xM} {P : Int → xM → Prop} (hn : 93 ≤ n) (hR : RC 93 R) {l1 l2 : Int} (hvc : (-2147483648 ≤ l2 ∧ l2 < 2147483648) ∧ (-2147483648 ≤ M 78 5 ∧ M 78 5 < 2147483648) ∧ (((M 78 5) ≤ l2 → (0 ≤ l1 ∧ l1 < 21) ∧ P (M 87 l1.toNat) M) ∧ (¬ (M 78 5) ≤ l2 → Xi m_M_locator 0 n R P 73 [some (vr 78), some (vi l1), some (vi l2), some (vi (M 78 5))] [] M))) : Xi m_M_locator 0 n R P 60 [some (vr 78), some (vi l1), some (vi l2), none] [] M := by
  intro Q hQ
  refine x_iload_n (pc := 60) d_M_locator_60 rfl rfl ?_
  refine x_aload_n (pc := 61) d_M_locator_61 rfl rfl ?_
  refine x_getI (k := 78) (ci := 7) (pc := 62) 5 d_M_locator_62 cok7 rfl (Nat.lt_of_lt_of_le (by decide) hn) rfl (by decide) rfl w_569 ?_
  obtain ⟨h1, hvc⟩ := hvc
  obtain ⟨h2, hvc⟩ := hvc
  refine x_icmp_ge (tgt := 134) (pc := 65) d_M_locator_65 rfl h1 h2 (fun hb => ?_) (fun hb => ?_)
  · have hvc := hvc.1 hb
    refine x_aload_n (pc := 134) d_M_locator_134 rfl rfl ?_
    refine x_getR (k := 78) (ci := 7) (pc := 135) (t := 87) 14 d_M_locator_135 cok7 rfl (Nat.lt_of_lt_of_le (by decide) hn) rfl (by decide) rfl (hR.at 78 14 rfl rfl) w_578 ?_
    refine x_iload_n (pc := 138) d_M_locator_138 rfl rfl ?_
    obtain ⟨h3, hvc⟩ := hvc
    refine x_iald (N := 21) (pc := 139) d_M_locator_139 (Nat.lt_of_lt_of_le (by decide) hn) rfl (by decide) h3.1 h3.2 ?_
    exact x_iret (pc := 140) d_M_locator_140 rfl rfl (Nat.le_refl _) (hQ _ _ hvc)
  · have hvc := hvc.2 hb
    refine x_aload_n (pc := 68) d_M_locator_68 rfl rfl ?_
    refine x_getI (k := 78) (ci := 7) (pc := 69) 5 d_M_locator_69 cok7 rfl (Nat.lt_of_lt_of_le (by decide) hn) rfl (by decide) rfl w_569 ?_
    refine x_istore_n (pc := 72) d_M_locator_72 rfl (by decide) ?_
    exact x_locals (xmask [true, true, true, true] _) (xmask_sub _ _) (hvc Q hQ)
set_option maxRecDepth 20000 in
theorem B_M_locator_73 {n : Nat} {R : xR} {M : xM} {P : Int → xM → Prop} (hn : 93 ≤ n) (hR : RC 93 R) {l1 l2 l3 : Int} (hvc : (-2147483648 ≤ l3 ∧ l3 < 2147483648) ∧ ((l3 ≤ 0 → Xi m_M_locator 0 n R P 60 [some (vr 78), some (vi l1), some (vi (l2 + 1)), none] [] M) ∧ (¬ l3 ≤ 0 → (0 ≤ l2 ∧ l2 < 20) ∧ (-2147483648 ≤ M 86 l2.toNat ∧ M 86 l2.toNat < 2147483648) ∧ (((M 86 l2.toNat) = 0 → Xi m_M_locator 0 n R P 60 [some (vr 78), some (vi l1), some (vi (l2 + 1)), none] [] M) ∧ (¬ (M 86 l2.toNat) = 0 → (0 ≤ l3 ∧ l3 < 21) ∧ (0 ≤ l3 - 1 ∧ l3 - 1 < 21) ∧ (0 ≤ l2 ∧ l2 < 32) ∧ (0 ≤ (32 * (M 87 (l3 - 1).toNat)) + (M 80 l2.toNat) ∧ (32 * (M 87 (l3 - 1).toNat)) + (M 80 l2.toNat) < 1024) ∧ (∀ M1 : xM, M1 = xU M 87 l3.toNat (xXor (M 87 l3.toNat) (M 79 ((32 * (M 87 (l3 - 1).toNat)) + (M 80 l2.toNat)).toNat)) → Xi m_M_locator 0 n R P 73 [some (vr 78), some (vi l1), some (vi l2), some (vi (l3 + (-1)))] [] M1)))))) : Xi m_M_locator 0 n R P 73 [some (vr 78), some (vi l1), some (vi l2), some (vi l3)] [] M := by
  intro Q hQ
  refine x_iload_n (pc := 73) d_M_locator_73 rfl rfl ?_
  obtain ⟨h1, hvc⟩ := hvc
  refine x_if_le (tgt := 128) (pc := 74) d_M_locator_74 rfl h1 (fun hb => ?_) (fun hb => ?_)
  · have hvc := hvc.1 hb
    refine x_iinc (pc := 128) d_M_locator_128 rfl (by decide) ?_
    refine x_goto (tgt := 60) (pc := 131) d_M_locator_131 rfl ?_
    exact x_locals (xmask [true, true, true, false] _) (xmask_sub _ _) (hvc Q hQ)
  · have hvc := hvc.2 hb
    refine x_aload_n (pc := 77) d_M_locator_77 rfl rfl ?_
    refine x_getR (k := 78) (ci := 7) (pc := 78) (t := 86) 13 d_M_locator_78 cok7 rfl (Nat.lt_of_lt_of_le (by decide) hn) rfl (by decide) rfl (hR.at 78 13 rfl rfl) w_577 ?_
    refine x_iload_n (pc := 81) d_M_locator_81 rfl rfl ?_
    obtain ⟨h2, hvc⟩ := hvc
    refine x_zald (N := 20) (pc := 82) d_M_locator_82 (Nat.lt_of_lt_of_le (by decide) hn) rfl (by decide) h2.1 h2.2 ?_
    obtain ⟨h3, hvc⟩ := hvc
    refine x_if_eq (tgt := 128) (pc := 83) d_M_locator_83 rfl h3 (fun hb => ?_) (fun hb => ?_)
    · have hvc := hvc.1 hb
      refine x_iinc (pc := 128) d_M_locator_128 rfl (by decide) ?_
      refine x_goto (tgt := 60) (pc := 131) d_M_locator_131 rfl ?_
      exact x_locals (xmask [true, true, true, false] _) (xmask_sub _ _) (hvc Q hQ)
    · have hvc := hvc.2 hb
      refine x_aload_n (pc := 86) d_M_locator_86 rfl rfl ?_
      refine x_getR (k := 78) (ci := 7) (pc := 87) (t := 87) 14 d_M_locator_87 cok7 rfl (Nat.lt_of_lt_of_le (by decide) hn) rfl (by decide) rfl (hR.at 78 14 rfl rfl) w_578 ?_
      refine x_iload_n (pc := 90) d_M_locator_90 rfl rfl ?_
      refine x_aload_n (pc := 91) d_M_locator_91 rfl rfl ?_
      refine x_getR (k := 78) (ci := 7) (pc := 92) (t := 87) 14 d_M_locator_92 cok7 rfl (Nat.lt_of_lt_of_le (by decide) hn) rfl (by decide) rfl (hR.at 78 14 rfl rfl) w_578 ?_
      refine x_iload_n (pc := 95) d_M_locator_95 rfl rfl ?_
      obtain ⟨h4, hvc⟩ := hvc
      refine x_iald (N := 21) (pc := 96) d_M_locator_96 (Nat.lt_of_lt_of_le (by decide) hn) rfl (by decide) h4.1 h4.2 ?_
      refine x_aload_n (pc := 97) d_M_locator_97 rfl rfl ?_
      refine x_getR (k := 78) (ci := 7) (pc := 98) (t := 79) 2 d_M_locator_98 cok7 rfl (Nat.lt_of_lt_of_le (by decide) hn) rfl (by decide) rfl (hR.at 78 2 rfl rfl) w_566 ?_
      refine x_bipush (pc := 101) d_M_locator_101 (by decide) ?_
      refine x_aload_n (pc := 103) d_M_locator_103 rfl rfl ?_
      refine x_getR (k := 78) (ci := 7) (pc := 104) (t := 87) 14 d_M_locator_104 cok7 rfl (Nat.lt_of_lt_of_le (by decide) hn) rfl (by decide) rfl (hR.at 78 14 rfl rfl) w_578 ?_
      refine x_iload_n (pc := 107) d_M_locator_107 rfl rfl ?_
      refine x_iconst (pc := 108) d_M_locator_108 ?_
      refine x_isub (pc := 109) d_M_locator_109 ?_
      obtain ⟨h5, hvc⟩ := hvc
      refine x_iald (N := 21) (pc := 110) d_M_locator_110 (Nat.lt_of_lt_of_le (by decide) hn) rfl (by decide) h5.1 h5.2 ?_
      refine x_imul (pc := 111) d_M_locator_111 ?_
      refine x_aload_n (pc := 112) d_M_locator_112 rfl rfl ?_
      refine x_getR (k := 78) (ci := 7) (pc := 113) (t := 80) 3 d_M_locator_113 cok7 rfl (Nat.lt_of_lt_of_le (by decide) hn) rfl (by decide) rfl (hR.at 78 3 rfl rfl) w_567 ?_
      refine x_iload_n (pc := 116) d_M_locator_116 rfl rfl ?_
      obtain ⟨h6, hvc⟩ := hvc
      refine x_iald (N := 32) (pc := 117) d_M_locator_117 (Nat.lt_of_lt_of_le (by decide) hn) rfl (by decide) h6.1 h6.2 ?_
      refine x_iadd (pc := 118) d_M_locator_118 ?_
      obtain ⟨h7, hvc⟩ := hvc
      refine x_iald (N := 1024) (pc := 119) d_M_locator_119 (Nat.lt_of_lt_of_le (by decide) hn) rfl (by decide) h7.1 h7.2 ?_
      refine x_ixor (pc := 120) d_M_locator_120 ?_
      refine x_iast (N := 21) (pc := 121) d_M_locator_121 (Nat.lt_of_lt_of_le (by decide) hn) rfl (by decide) h4.1 h4.2 (fun M1 eM1 => ?_)
      have hvc := hvc M1 eM1
      refine x_iinc (pc := 122) d_M_locator_122 rfl (by decide) ?_
      refine x_goto (tgt := 73) (pc := 125) d_M_locator_125 rfl ?_
      exact x_locals (xmask [true, true, true, true] _) (xmask_sub _ _) (hvc Q hQ)
set_option maxRecDepth 20000 in
theorem E_M_locator {n : Nat} {R : xR} {M : xM} {P : Int → xM → Prop} (hn : 93 ≤ n) (hR : RC 93 R) {l1 : Int} (h : Xi m_M_locator 0 n R P 0 [some (vr 78), some (vi l1), none, none] [] M) : Ci m_M_locator 0 n R [vr 78, vi l1] M P :=
  Ci.of [some (vr 78), some (vi l1), none, none] (by decide) rfl (Nat.le_of_ble_eq_true rfl) rfl h
set_option maxRecDepth 20000 in
theorem B_M_pairs_0 {n : Nat} {R : xR} {M : xM} {P : Int → xM → Prop} (hn : 93 ≤ n) (hR : RC 93 R) {l1 : Int} (hvc : (-2147483648 ≤ l1 * (l1 + 1) ∧ l1 * (l1 + 1) < 2147483648) ∧ P (Int.tdiv (l1 * (l1 + 1)) 2) M) : Xi m_M_pairs 0 n R P 0 [some (vr 78), some (vi l1)] [] M := by
  intro Q hQ
  refine x_iload_n (pc := 0) d_M_pairs_0 rfl rfl ?_
  refine x_iload_n (pc := 1) d_M_pairs_1 rfl rfl ?_
  refine x_iconst (pc := 2) d_M_pairs_2 ?_
  refine x_iadd (pc := 3) d_M_pairs_3 ?_
  refine x_imul (pc := 4) d_M_pairs_4 ?_
  refine x_iconst (pc := 5) d_M_pairs_5 ?_
  obtain ⟨h1, hvc⟩ := hvc
  refine x_idiv (pc := 6) d_M_pairs_6 h1 ⟨by decide, by decide⟩ (by decide) (by decide) ?_
  exact x_iret (pc := 7) d_M_pairs_7 rfl rfl (Nat.le_refl _) (hQ _ _ hvc)
set_option maxRecDepth 20000 in
theorem E_M_pairs {n : Nat} {R : xR} {M : xM} {P : Int → xM → Prop} (hn : 93 ≤ n) (hR : RC 93 R) {l1 : Int} (h : Xi m_M_pairs 0 n R P 0 [some (vr 78), some (vi l1)] [] M) : Ci m_M_pairs 0 n R [vr 78, vi l1] M P :=
  Ci.of [some (vr 78), some (vi l1)] (by decide) rfl (Nat.le_of_ble_eq_true rfl) rfl h
set_option maxRecDepth 20000 in
theorem B_M_boundFor_0 {n : Nat} {R : xR} {M : xM} {P : Int → xM → Prop} (hn : 93 ≤ n) (hR : RC 93 R) {l1 l2 : Int} (hvc : Xi m_M_boundFor 1 n R P 5 [some (vr 78), some (vi l1), some (vi l2), some (vi ((-1))), some (vi 0)] [] M) : Xi m_M_boundFor 1 n R P 0 [some (vr 78), some (vi l1), some (vi l2), none, none] [] M := by
  intro Q hQ
  refine x_iconst (pc := 0) d_M_boundFor_0 ?_
  refine x_istore_n (pc := 1) d_M_boundFor_1 rfl (by decide) ?_
  refine x_iconst (pc := 2) d_M_boundFor_2 ?_
  refine x_istore (pc := 3) d_M_boundFor_3 (by decide) ?_
  exact x_locals (xmask [true, true, true, true, true] _) (xmask_sub _ _) (hvc Q hQ)
set_option maxRecDepth 20000 in
theorem B_M_boundFor_5 {n : Nat} {R : xR} {M : xM} {P : Int → xM → Prop} (hn : 93 ≤ n) (hR : RC 93 R) {l1 l2 l3 l4 : Int} (hvc : Ci m_M_pairs 0 n R [vr 78, vi l1] M (fun z1 M1 => (-2147483648 ≤ l4 ∧ l4 < 2147483648) ∧ (-2147483648 ≤ l2 * z1 ∧ l2 * z1 < 2147483648) ∧ (((l2 * z1) < l4 → P l3 M1) ∧ (¬ (l2 * z1) < l4 → (-2147483648 ≤ l3 + 1 ∧ l3 + 1 < 2147483648) ∧ (-2147483648 ≤ (M1 78 6) - 1 ∧ (M1 78 6) - 1 < 2147483648) ∧ ((M1 78 6) - 1 ≠ 0) ∧ ((M1 78 6) - 1 ≠ -1) ∧ Xi m_M_boundFor 1 n R P 5 [some (vr 78), some (vi l1), some (vi l2), some (vi (l3 + 1)), some (vi ((l4 + (Int.tdiv (l3 + 1) ((M1 78 6) - 1))) + 1))] [] M1)))) : Xi m_M_boundFor 1 n R P 5 [some (vr 78), some (vi l1), some (vi l2), some (vi l3), some (vi l4)] [] M := by
  intro Q hQ
  refine x_iload (pc := 5) d_M_boundFor_5 rfl ?_
  refine x_iload_n (pc := 7) d_M_boundFor_7 rfl rfl ?_
  refine x_aload_n (pc := 8) d_M_boundFor_8 rfl rfl ?_
  refine x_iload_n (pc := 9) d_M_boundFor_9 rfl rfl ?_
  refine y_callVi m_M_pairs 0 133 78 7 21 [_] [_, _] rfl (pc := 10) d_M_boundFor_10 ok_M_pairs w_751 w_753 w_36 pn_M_pairs (Nat.lt_of_lt_of_le (by decide) hn) rfl rfl (by decide) (Nat.le_of_ble_eq_true rfl) (Nat.le_refl _) (Nat.le_refl _) hvc (fun z1 M1 hvc => ?_)
  refine x_imul (pc := 13) d_M_boundFor_13 ?_
  obtain ⟨h2, hvc⟩ := hvc
  obtain ⟨h3, hvc⟩ := hvc
  refine x_icmp_gt (tgt := 38) (pc := 14) d_M_boundFor_14 rfl h2 h3 (fun hb => ?_) (fun hb => ?_)
  · have hvc := hvc.1 hb
    refine x_iload_n (pc := 38) d_M_boundFor_38 rfl rfl ?_
    exact x_iret (pc := 39) d_M_boundFor_39 rfl rfl (Nat.le_refl _) (hQ _ _ hvc)
  · have hvc := hvc.2 hb
    refine x_iinc (pc := 17) d_M_boundFor_17 rfl (by decide) ?_
    refine x_iload (pc := 20) d_M_boundFor_20 rfl ?_
    refine x_iload_n (pc := 22) d_M_boundFor_22 rfl rfl ?_
    refine x_aload_n (pc := 23) d_M_boundFor_23 rfl rfl ?_
    refine x_getI (k := 78) (ci := 7) (pc := 24) 6 d_M_boundFor_24 cok7 rfl (Nat.lt_of_lt_of_le (by decide) hn) rfl (by decide) rfl w_570 ?_
    refine x_iconst (pc := 27) d_M_boundFor_27 ?_
    refine x_isub (pc := 28) d_M_boundFor_28 ?_
    obtain ⟨h4, hvc⟩ := hvc
    obtain ⟨h5, hvc⟩ := hvc
    obtain ⟨h6, hvc⟩ := hvc
    obtain ⟨h7, hvc⟩ := hvc
    refine x_idiv (pc := 29) d_M_boundFor_29 h4 h5 h6 h7 ?_
    refine x_iadd (pc := 30) d_M_boundFor_30 ?_
    refine x_iconst (pc := 31) d_M_boundFor_31 ?_
    refine x_iadd (pc := 32) d_M_boundFor_32 ?_
    refine x_istore (pc := 33) d_M_boundFor_33 (by decide) ?_
    refine x_goto (tgt := 5) (pc := 35) d_M_boundFor_35 rfl ?_
    exact x_locals (xmask [true, true, true, true, true] _) (xmask_sub _ _) (hvc Q hQ)
set_option maxRecDepth 20000 in
theorem E_M_boundFor {n : Nat} {R : xR} {M : xM} {P : Int → xM → Prop} (hn : 93 ≤ n) (hR : RC 93 R) {l1 l2 : Int} (h : Xi m_M_boundFor 1 n R P 0 [some (vr 78), some (vi l1), some (vi l2), none, none] [] M) : Ci m_M_boundFor 1 n R [vr 78, vi l1, vi l2] M P :=
  Ci.of [some (vr 78), some (vi l1), some (vi l2), none, none] (by decide) rfl (Nat.le_of_ble_eq_true rfl) rfl h
set_option maxRecDepth 20000 in
theorem B_M_radiusFor_0 {n : Nat} {R : xR} {M : xM} {P : Int → xM → Prop} (hn : 93 ≤ n) (hR : RC 93 R) {l1 l2 : Int} (hvc : (-2147483648 ≤ l2 - (M 78 6) ∧ l2 - (M 78 6) < 2147483648) ∧ Ci m_M_boundFor 1 n R [vr 78, vi l1, vi l2] M (fun z2 M1 => (-2147483648 ≤ z2 ∧ z2 < 2147483648) ∧ (-2147483648 ≤ l1 ∧ l1 < 2147483648) ∧ (l1 ≠ 0) ∧ (l1 ≠ -1) ∧ (-2147483648 ≤ (l2 - 1) - (Int.tdiv z2 l1) ∧ (l2 - 1) - (Int.tdiv z2 l1) < 2147483648) ∧ (-2147483648 ≤ Int.tdiv (l2 - (M 78 6)) 2 ∧ Int.tdiv (l2 - (M 78 6)) 2 < 2147483648) ∧ ((((l2 - 1) - (Int.tdiv z2 l1)) ≤ (Int.tdiv (l2 - (M 78 6)) 2) → P (Int.tdiv (l2 - (M 78 6)) 2) M1) ∧ (¬ ((l2 - 1) - (Int.tdiv z2 l1)) ≤ (Int.tdiv (l2 - (M 78 6)) 2) → P ((l2 - 1) - (Int.tdiv z2 l1)) M1)))) : Xi m_M_radiusFor 2 n R P 0 [some (vr 78), some (vi l1), some (vi l2), none, none] [] M := by
  intro Q hQ
  refine x_iload_n (pc := 0) d_M_radiusFor_0 rfl rfl ?_
  refine x_aload_n (pc := 1) d_M_radiusFor_1 rfl rfl ?_
  refine x_getI (k := 78) (ci := 7) (pc := 2) 6 d_M_radiusFor_2 cok7 rfl (Nat.lt_of_lt_of_le (by decide) hn) rfl (by decide) rfl w_570 ?_
  refine x_isub (pc := 5) d_M_radiusFor_5 ?_
  refine x_iconst (pc := 6) d_M_radiusFor_6 ?_
  obtain ⟨h1, hvc⟩ := hvc
  refine x_idiv (pc := 7) d_M_radiusFor_7 h1 ⟨by decide, by decide⟩ (by decide) (by decide) ?_
  refine x_istore_n (pc := 8) d_M_radiusFor_8 rfl (by decide) ?_
  refine x_iload_n (pc := 9) d_M_radiusFor_9 rfl rfl ?_
  refine x_iconst (pc := 10) d_M_radiusFor_10 ?_
  refine x_isub (pc := 11) d_M_radiusFor_11 ?_
  refine x_aload_n (pc := 12) d_M_radiusFor_12 rfl rfl ?_
  refine x_iload_n (pc := 13) d_M_radiusFor_13 rfl rfl ?_
  refine x_iload_n (pc := 14) d_M_radiusFor_14 rfl rfl ?_
  refine y_callVi m_M_boundFor 1 136 78 7 21 [_, _] [_] rfl (pc := 15) d_M_radiusFor_15 ok_M_boundFor w_747 w_749 w_35 pn_M_boundFor (Nat.lt_of_lt_of_le (by decide) hn) rfl rfl (by decide) (Nat.le_of_ble_eq_true rfl) (Nat.le_refl _) (Nat.le_refl _) hvc (fun z2 M1 hvc => ?_)
  refine x_iload_n (pc := 18) d_M_radiusFor_18 rfl rfl ?_
  obtain ⟨h3, hvc⟩ := hvc
  obtain ⟨h4, hvc⟩ := hvc
  obtain ⟨h5, hvc⟩ := hvc
  obtain ⟨h6, hvc⟩ := hvc
  refine x_idiv (pc := 19) d_M_radiusFor_19 h3 h4 h5 h6 ?_
  refine x_isub (pc := 20) d_M_radiusFor_20 ?_
  refine x_istore (pc := 21) d_M_radiusFor_21 (by decide) ?_
  refine x_iload (pc := 23) d_M_radiusFor_23 rfl ?_
  refine x_iload_n (pc := 25) d_M_radiusFor_25 rfl rfl ?_
  obtain ⟨h7, hvc⟩ := hvc
  obtain ⟨h8, hvc⟩ := hvc
  refine x_icmp_le (tgt := 34) (pc := 26) d_M_radiusFor_26 rfl h7 h8 (fun hb => ?_) (fun hb => ?_)
  · have hvc := hvc.1 hb
    refine x_iload_n (pc := 34) d_M_radiusFor_34 rfl rfl ?_
    exact x_iret (pc := 35) d_M_radiusFor_35 rfl rfl (Nat.le_refl _) (hQ _ _ hvc)
  · have hvc := hvc.2 hb
    refine x_iload (pc := 29) d_M_radiusFor_29 rfl ?_
    refine x_goto (tgt := 35) (pc := 31) d_M_radiusFor_31 rfl ?_
    exact x_iret (pc := 35) d_M_radiusFor_35 rfl rfl (Nat.le_refl _) (hQ _ _ hvc)
set_option maxRecDepth 20000 in
theorem E_M_radiusFor {n : Nat} {R : xR} {M : xM} {P : Int → xM → Prop} (hn : 93 ≤ n) (hR : RC 93 R) {l1 l2 : Int} (h : Xi m_M_radiusFor 2 n R P 0 [some (vr 78), some (vi l1), some (vi l2), none, none] [] M) : Ci m_M_radiusFor 2 n R [vr 78, vi l1, vi l2] M P :=
  Ci.of [some (vr 78), some (vi l1), some (vi l2), none, none] (by decide) rfl (Nat.le_of_ble_eq_true rfl) rfl h
set_option maxRecDepth 20000 in
theorem B_M_isBefore_0 {n : Nat} {R : xR} {M : xM} {P : Int → xM → Prop} (hn : 93 ≤ n) (hR : RC 93 R) {l1 l2 : Int} (hvc : Xi m_M_isBefore 2 n R P 2 [some (vr 78), some (vi l1), some (vi l2), some (vi 0)] [] M) : Xi m_M_isBefore 2 n R P 0 [some (vr 78), some (vi l1), some (vi l2), none] [] M := by
  intro Q hQ
  refine x_iconst (pc := 0) d_M_isBefore_0 ?_
  refine x_istore_n (pc := 1) d_M_isBefore_1 rfl (by decide) ?_
  exact x_locals (xmask [true, true, true, true] _) (xmask_sub _ _) (hvc Q hQ)
set_option maxRecDepth 20000 in
theorem B_M_isBefore_2 {n : Nat} {R : xR} {M : xM} {P : Int → xM → Prop} (hn : 93 ≤ n) (hR : RC 93 R) {l1 l2 l3 : Int} (hvc : (-2147483648 ≤ l3 ∧ l3 < 2147483648) ∧ (-2147483648 ≤ (M 78 5) - 1 ∧ (M 78 5) - 1 < 2147483648) ∧ ((((M 78 5) - 1) ≤ l3 → Ci m_M_element 1 n R [vr 78, vi l1, vi l3] M (fun z3 M1 => Ci m_M_element 1 n R [vr 78, vi l2, vi l3] M1 (fun z4 M2 => (-2147483648 ≤ z3 ∧ z3 < 2147483648) ∧ (-2147483648 ≤ z4 ∧ z4 < 2147483648) ∧ ((z4 ≤ z3 → P 0 M2) ∧ (¬ z4 ≤ z3 → P 1 M2))))) ∧ (¬ ((M 78 5) - 1) ≤ l3 → Ci m_M_element 1 n R [vr 78, vi l1, vi l3] M (fun z7 M3 => Ci m_M_element 1 n R [vr 78, vi l2, vi l3] M3 (fun z8 M4 => (-2147483648 ≤ z7 ∧ z7 < 2147483648) ∧ (-2147483648 ≤ z8 ∧ z8 < 2147483648) ∧ ((¬ z7 = z8 → Ci m_M_element 1 n R [vr 78, vi l1, vi l3] M4 (fun z11 M5 => Ci m_M_element 1 n R [vr 78, vi l2, vi l3] M5 (fun z12 M6 => (-2147483648 ≤ z11 ∧ z11 < 2147483648) ∧ (-2147483648 ≤ z12 ∧ z12 < 2147483648) ∧ ((z12 ≤ z11 → P 0 M6) ∧ (¬ z12 ≤ z11 → P 1 M6))))) ∧ (z7 = z8 → Xi m_M_isBefore 2 n R P 2 [some (vr 78), some (vi l1), some (vi l2), some (vi (l3 + 1))] [] M4))))))) : Xi m_M_isBefore 2 n R P 2 [some (vr 78), some (vi l1), some (vi l2), some (vi l3)] [] M := by
  intro Q hQ
  refine x_iload_n (pc := 2) d_M_isBefore_2 rfl rfl ?_
  refine x_aload_n (pc := 3) d_M_isBefore_3 rfl rfl ?_
  refine x_getI (k := 78) (ci := 7) (pc := 4) 5 d_M_isBefore_4 cok7 rfl (Nat.lt_of_lt_of_le (by decide) hn) rfl (by decide) rfl w_569 ?_
  refine x_iconst (pc := 7) d_M_isBefore_7 ?_
  refine x_isub (pc := 8) d_M_isBefore_8 ?_
  obtain ⟨h1, hvc⟩ := hvc
  obtain ⟨h2, hvc⟩ := hvc
  refine x_icmp_ge (tgt := 33) (pc := 9) d_M_isBefore_9 rfl h1 h2 (fun hb => ?_) (fun hb => ?_)
  · have hvc := hvc.1 hb
    refine x_aload_n (pc := 33) d_M_isBefore_33 rfl rfl ?_
    refine x_iload_n (pc := 34) d_M_isBefore_34 rfl rfl ?_
    refine x_iload_n (pc := 35) d_M_isBefore_35 rfl rfl ?_
    refine y_callVi m_M_element 1 102 78 7 21 [_, _] [] rfl (pc := 36) d_M_isBefore_36 ok_M_element w_675 w_677 w_26 pn_M_element (Nat.lt_of_lt_of_le (by decide) hn) rfl rfl (by decide) (Nat.le_of_ble_eq_true rfl) (Nat.le_refl _) (Nat.le_refl _) hvc (fun z3 M1 hvc => ?_)
    refine x_aload_n (pc := 39) d_M_isBefore_39 rfl rfl ?_
    refine x_iload_n (pc := 40) d_M_isBefore_40 rfl rfl ?_
    refine x_iload_n (pc := 41) d_M_isBefore_41 rfl rfl ?_
    refine y_callVi m_M_element 1 102 78 7 21 [_, _] [_] rfl (pc := 42) d_M_isBefore_42 ok_M_element w_675 w_677 w_26 pn_M_element (Nat.lt_of_lt_of_le (by decide) hn) rfl rfl (by decide) (Nat.le_of_ble_eq_true rfl) (Nat.le_refl _) (Nat.le_refl _) hvc (fun z4 M2 hvc => ?_)
    obtain ⟨h5, hvc⟩ := hvc
    obtain ⟨h6, hvc⟩ := hvc
    refine x_icmp_ge (tgt := 52) (pc := 45) d_M_isBefore_45 rfl h5 h6 (fun hb => ?_) (fun hb => ?_)
    · have hvc := hvc.1 hb
      refine x_iconst (pc := 52) d_M_isBefore_52 ?_
      exact x_zret (pc := 53) d_M_isBefore_53 rfl (by decide) rfl (Nat.le_refl _) (hQ _ _ hvc)
    · have hvc := hvc.2 hb
      refine x_iconst (pc := 48) d_M_isBefore_48 ?_
      refine x_goto (tgt := 53) (pc := 49) d_M_isBefore_49 rfl ?_
      exact x_zret (pc := 53) d_M_isBefore_53 rfl (by decide) rfl (Nat.le_refl _) (hQ _ _ hvc)
  · have hvc := hvc.2 hb
    refine x_aload_n (pc := 12) d_M_isBefore_12 rfl rfl ?_
    refine x_iload_n (pc := 13) d_M_isBefore_13 rfl rfl ?_
    refine x_iload_n (pc := 14) d_M_isBefore_14 rfl rfl ?_
    refine y_callVi m_M_element 1 102 78 7 21 [_, _] [] rfl (pc := 15) d_M_isBefore_15 ok_M_element w_675 w_677 w_26 pn_M_element (Nat.lt_of_lt_of_le (by decide) hn) rfl rfl (by decide) (Nat.le_of_ble_eq_true rfl) (Nat.le_refl _) (Nat.le_refl _) hvc (fun z7 M3 hvc => ?_)
    refine x_aload_n (pc := 18) d_M_isBefore_18 rfl rfl ?_
    refine x_iload_n (pc := 19) d_M_isBefore_19 rfl rfl ?_
    refine x_iload_n (pc := 20) d_M_isBefore_20 rfl rfl ?_
    refine y_callVi m_M_element 1 102 78 7 21 [_, _] [_] rfl (pc := 21) d_M_isBefore_21 ok_M_element w_675 w_677 w_26 pn_M_element (Nat.lt_of_lt_of_le (by decide) hn) rfl rfl (by decide) (Nat.le_of_ble_eq_true rfl) (Nat.le_refl _) (Nat.le_refl _) hvc (fun z8 M4 hvc => ?_)
    obtain ⟨h9, hvc⟩ := hvc
    obtain ⟨h10, hvc⟩ := hvc
    refine x_icmp_ne (tgt := 33) (pc := 24) d_M_isBefore_24 rfl h9 h10 (fun hb => ?_) (fun hb => ?_)
    · have hvc := hvc.1 hb
      refine x_aload_n (pc := 33) d_M_isBefore_33 rfl rfl ?_
      refine x_iload_n (pc := 34) d_M_isBefore_34 rfl rfl ?_
      refine x_iload_n (pc := 35) d_M_isBefore_35 rfl rfl ?_
      refine y_callVi m_M_element 1 102 78 7 21 [_, _] [] rfl (pc := 36) d_M_isBefore_36 ok_M_element w_675 w_677 w_26 pn_M_element (Nat.lt_of_lt_of_le (by decide) hn) rfl rfl (by decide) (Nat.le_of_ble_eq_true rfl) (Nat.le_refl _) (Nat.le_refl _) hvc (fun z11 M5 hvc => ?_)
      refine x_aload_n (pc := 39) d_M_isBefore_39 rfl rfl ?_
      refine x_iload_n (pc := 40) d_M_isBefore_40 rfl rfl ?_
      refine x_iload_n (pc := 41) d_M_isBefore_41 rfl rfl ?_
      refine y_callVi m_M_element 1 102 78 7 21 [_, _] [_] rfl (pc := 42) d_M_isBefore_42 ok_M_element w_675 w_677 w_26 pn_M_element (Nat.lt_of_lt_of_le (by decide) hn) rfl rfl (by decide) (Nat.le_of_ble_eq_true rfl) (Nat.le_refl _) (Nat.le_refl _) hvc (fun z12 M6 hvc => ?_)
      obtain ⟨h13, hvc⟩ := hvc
      obtain ⟨h14, hvc⟩ := hvc
      refine x_icmp_ge (tgt := 52) (pc := 45) d_M_isBefore_45 rfl h13 h14 (fun hb => ?_) (fun hb => ?_)
      · have hvc := hvc.1 hb
        refine x_iconst (pc := 52) d_M_isBefore_52 ?_
        exact x_zret (pc := 53) d_M_isBefore_53 rfl (by decide) rfl (Nat.le_refl _) (hQ _ _ hvc)
      · have hvc := hvc.2 hb
        refine x_iconst (pc := 48) d_M_isBefore_48 ?_
        refine x_goto (tgt := 53) (pc := 49) d_M_isBefore_49 rfl ?_
        exact x_zret (pc := 53) d_M_isBefore_53 rfl (by decide) rfl (Nat.le_refl _) (hQ _ _ hvc)
    · have hvc := hvc.2 hb
      refine x_iinc (pc := 27) d_M_isBefore_27 rfl (by decide) ?_
      refine x_goto (tgt := 2) (pc := 30) d_M_isBefore_30 rfl ?_
      exact x_locals (xmask [true, true, true, true] _) (xmask_sub _ _) (hvc Q hQ)
set_option maxRecDepth 20000 in
theorem E_M_isBefore {n : Nat} {R : xR} {M : xM} {P : Int → xM → Prop} (hn : 93 ≤ n) (hR : RC 93 R) {l1 l2 : Int} (h : Xi m_M_isBefore 2 n R P 0 [some (vr 78), some (vi l1), some (vi l2), none] [] M) : Ci m_M_isBefore 2 n R [vr 78, vi l1, vi l2] M P :=
  Ci.of [some (vr 78), some (vi l1), some (vi l2), none] (by decide) rfl (Nat.le_of_ble_eq_true rfl) rfl h
set_option maxRecDepth 20000 in
theorem B_M_list_0 {n : Nat} {R : xR} {M : xM} {P : Int → xM → Prop} (hn : 93 ≤ n) (hR : RC 93 R) {l1 : Int} (hvc : (-2147483648 ≤ l1 ∧ l1 < 2147483648) ∧ ((l1 < 1 → P ((-1)) M) ∧ (¬ l1 < 1 → ((l1 ≤ 3 → Ci m_M_kept 0 n R [vr 78] M (fun z2 M1 => (-2147483648 ≤ z2 ∧ z2 < 2147483648) ∧ (-2147483648 ≤ M1 78 6 ∧ M1 78 6 < 2147483648) ∧ (((M1 78 6) ≤ z2 → Ci m_M_radiusFor 2 n R [vr 78, vi l1, vi z2] M1 (fun z5 M2 => (∀ M3 : xM, M3 = xU M2 78 15 0 → Xi m_M_list 3 n R P 43 [some (vr 78), some (vi l1), some (vi z2), some (vi z5), some (vi 0), none, none] [] M3))) ∧ (¬ (M1 78 6) ≤ z2 → P ((-3)) M1)))) ∧ (¬ l1 ≤ 3 → P ((-1)) M))))) : Xi m_M_list 3 n R P 0 [some (vr 78), some (vi l1), none, none, none, none, none] [] M := by
  intro Q hQ
  refine x_iload_n (pc := 0) d_M_list_0 rfl rfl ?_
  refine x_iconst (pc := 1) d_M_list_1 ?_
  obtain ⟨h1, hvc⟩ := hvc
  refine x_icmp_lt (tgt := 10) (pc := 2) d_M_list_2 rfl h1 ⟨by decide, by decide⟩ (fun hb => ?_) (fun hb => ?_)
  · have hvc := hvc.1 hb
    refine x_iconst (pc := 10) d_M_list_10 ?_
    exact x_iret (pc := 11) d_M_list_11 rfl rfl (Nat.le_refl _) (hQ _ _ hvc)
  · have hvc := hvc.2 hb
    refine x_iload_n (pc := 5) d_M_list_5 rfl rfl ?_
    refine x_iconst (pc := 6) d_M_list_6 ?_
    refine x_icmp_le (tgt := 12) (pc := 7) d_M_list_7 rfl h1 ⟨by decide, by decide⟩ (fun hb => ?_) (fun hb => ?_)
    · have hvc := hvc.1 hb
      refine x_aload_n (pc := 12) d_M_list_12 rfl rfl ?_
      refine y_callVi m_M_kept 0 127 78 7 21 [] [] rfl (pc := 13) d_M_list_13 ok_M_kept w_719 w_721 w_32 pn_M_kept (Nat.lt_of_lt_of_le (by decide) hn) rfl rfl (by decide) (Nat.le_of_ble_eq_true rfl) (Nat.le_refl _) (Nat.le_refl _) hvc (fun z2 M1 hvc => ?_)
      refine x_istore_n (pc := 16) d_M_list_16 rfl (by decide) ?_
      refine x_iload_n (pc := 17) d_M_list_17 rfl rfl ?_
      refine x_aload_n (pc := 18) d_M_list_18 rfl rfl ?_
      refine x_getI (k := 78) (ci := 7) (pc := 19) 6 d_M_list_19 cok7 rfl (Nat.lt_of_lt_of_le (by decide) hn) rfl (by decide) rfl w_570 ?_
      obtain ⟨h3, hvc⟩ := hvc
      obtain ⟨h4, hvc⟩ := hvc
      refine x_icmp_ge (tgt := 28) (pc := 22) d_M_list_22 rfl h3 h4 (fun hb => ?_) (fun hb => ?_)
      · have hvc := hvc.1 hb
        refine x_aload_n (pc := 28) d_M_list_28 rfl rfl ?_
        refine x_iload_n (pc := 29) d_M_list_29 rfl rfl ?_
        refine x_iload_n (pc := 30) d_M_list_30 rfl rfl ?_
        refine y_callVi m_M_radiusFor 2 139 78 7 21 [_, _] [] rfl (pc := 31) d_M_list_31 ok_M_radiusFor w_743 w_745 w_34 pn_M_radiusFor (Nat.lt_of_lt_of_le (by decide) hn) rfl rfl (by decide) (Nat.le_of_ble_eq_true rfl) (Nat.le_refl _) (Nat.le_refl _) hvc (fun z5 M2 hvc => ?_)
        refine x_istore_n (pc := 34) d_M_list_34 rfl (by decide) ?_
        refine x_aload_n (pc := 35) d_M_list_35 rfl rfl ?_
        refine x_iconst (pc := 36) d_M_list_36 ?_
        refine x_putI (k := 78) (ci := 7) (pc := 37) 15 d_M_list_37 cok7 rfl (Nat.lt_of_lt_of_le (by decide) hn) rfl (by decide) rfl rfl rfl w_579 (fun M3 eM3 => ?_)
        have hvc := hvc M3 eM3
        refine x_iconst (pc := 40) d_M_list_40 ?_
        refine x_istore (pc := 41) d_M_list_41 (by decide) ?_
        exact x_locals (xmask [true, true, true, true, true, false, false] _) (xmask_sub _ _) (hvc Q hQ)
      · have hvc := hvc.2 hb
        refine x_bipush (pc := 25) d_M_list_25 (by decide) ?_
        exact x_iret (pc := 27) d_M_list_27 rfl rfl (Nat.le_refl _) (hQ _ _ hvc)
    · have hvc := hvc.2 hb
      refine x_iconst (pc := 10) d_M_list_10 ?_
      exact x_iret (pc := 11) d_M_list_11 rfl rfl (Nat.le_refl _) (hQ _ _ hvc)
set_option maxRecDepth 20000 in
theorem B_M_list_43 {n : Nat} {R : xR} {M : xM} {P : Int → xM → Prop} (hn : 93 ≤ n) (hR : RC 93 R) {l1 l2 l3 l4 : Int} (hvc : Ci m_M_messages 0 n R [vr 78] M (fun z1 M1 => (-2147483648 ≤ l4 ∧ l4 < 2147483648) ∧ (-2147483648 ≤ z1 ∧ z1 < 2147483648) ∧ ((z1 ≤ l4 → P (M1 78 15) M1) ∧ (¬ z1 ≤ l4 → Ci m_M_distanceOf 2 n R [vr 78, vi l4, vi l3] M1 (fun z4 M2 => (-2147483648 ≤ z4 ∧ z4 < 2147483648) ∧ (-2147483648 ≤ l3 ∧ l3 < 2147483648) ∧ ((l3 < z4 → Xi m_M_list 3 n R P 43 [some (vr 78), some (vi l1), some (vi l2), some (vi l3), some (vi (l4 + 1)), none, none] [] M2) ∧ (¬ l3 < z4 → Xi m_M_list 3 n R P 73 [some (vr 78), some (vi l1), some (vi l2), some (vi l3), some (vi l4), some (vi z4), some (vi (M2 78 15))] [] M2))))))) : Xi m_M_list 3 n R P 43 [some (vr 78), some (vi l1), some (vi l2), some (vi l3), some (vi l4), none, none] [] M := by
  intro Q hQ
  refine x_iload (pc := 43) d_M_list_43 rfl ?_
  refine x_aload_n (pc := 45) d_M_list_45 rfl rfl ?_
  refine y_callVi m_M_messages 0 105 78 7 21 [] [_] rfl (pc := 46) d_M_list_46 ok_M_messages w_671 w_673 w_25 pn_M_messages (Nat.lt_of_lt_of_le (by decide) hn) rfl rfl (by decide) (Nat.le_of_ble_eq_true rfl) (Nat.le_refl _) (Nat.le_refl _) hvc (fun z1 M1 hvc => ?_)
  obtain ⟨h2, hvc⟩ := hvc
  obtain ⟨h3, hvc⟩ := hvc
  refine x_icmp_ge (tgt := 168) (pc := 49) d_M_list_49 rfl h2 h3 (fun hb => ?_) (fun hb => ?_)
  · have hvc := hvc.1 hb
    refine x_aload_n (pc := 168) d_M_list_168 rfl rfl ?_
    refine x_getI (k := 78) (ci := 7) (pc := 169) 15 d_M_list_169 cok7 rfl (Nat.lt_of_lt_of_le (by decide) hn) rfl (by decide) rfl w_579 ?_
    exact x_iret (pc := 172) d_M_list_172 rfl rfl (Nat.le_refl _) (hQ _ _ hvc)
  · have hvc := hvc.2 hb
    refine x_aload_n (pc := 52) d_M_list_52 rfl rfl ?_
    refine x_iload (pc := 53) d_M_list_53 rfl ?_
    refine x_iload_n (pc := 55) d_M_list_55 rfl rfl ?_
    refine y_callVi m_M_distanceOf 2 130 78 7 21 [_, _] [] rfl (pc := 56) d_M_list_56 ok_M_distanceOf w_723 w_725 w_33 pn_M_distanceOf (Nat.lt_of_lt_of_le (by decide) hn) rfl rfl (by decide) (Nat.le_of_ble_eq_true rfl) (Nat.le_refl _) (Nat.le_refl _) hvc (fun z4 M2 hvc => ?_)
    refine x_istore (pc := 59) d_M_list_59 (by decide) ?_
    refine x_iload (pc := 61) d_M_list_61 rfl ?_
    refine x_iload_n (pc := 63) d_M_list_63 rfl rfl ?_
    obtain ⟨h5, hvc⟩ := hvc
    obtain ⟨h6, hvc⟩ := hvc
    refine x_icmp_gt (tgt := 162) (pc := 64) d_M_list_64 rfl h5 h6 (fun hb => ?_) (fun hb => ?_)
    · have hvc := hvc.1 hb
      refine x_iinc (pc := 162) d_M_list_162 rfl (by decide) ?_
      refine x_goto (tgt := 43) (pc := 165) d_M_list_165 rfl ?_
      exact x_locals (xmask [true, true, true, true, true, false, false] _) (xmask_sub _ _) (hvc Q hQ)
    · have hvc := hvc.2 hb
      refine x_aload_n (pc := 67) d_M_list_67 rfl rfl ?_
      refine x_getI (k := 78) (ci := 7) (pc := 68) 15 d_M_list_68 cok7 rfl (Nat.lt_of_lt_of_le (by decide) hn) rfl (by decide) rfl w_579 ?_
      refine x_istore (pc := 71) d_M_list_71 (by decide) ?_
      exact x_locals (xmask [true, true, true, true, true, true, true] _) (xmask_sub _ _) (hvc Q hQ)
set_option maxRecDepth 20000 in
theorem B_M_list_73 {n : Nat} {R : xR} {M : xM} {P : Int → xM → Prop} (hn : 93 ≤ n) (hR : RC 93 R) {l1 l2 l3 l4 l5 l6 : Int} (hvc : (-2147483648 ≤ l6 ∧ l6 < 2147483648) ∧ ((l6 ≤ 0 → (0 ≤ l6 ∧ l6 < 4096) ∧ (∀ M1 : xM, M1 = xU M 88 l6.toNat l4 → (∀ M2 : xM, M2 = xU M1 89 l6.toNat l5 → (∀ M3 : xM, M3 = xU M2 78 15 ((M2 78 15) + 1) → Xi m_M_list 3 n R P 43 [some (vr 78), some (vi l1), some (vi l2), some (vi l3), some (vi (l4 + 1)), none, none] [] M3)))) ∧ (¬ l6 ≤ 0 → (0 ≤ l6 - 1 ∧ l6 - 1 < 4096) ∧ Ci m_M_isBefore 2 n R [vr 78, vi l4, vi (M 88 (l6 - 1).toNat)] M (fun z4 M4 => (-2147483648 ≤ z4 ∧ z4 < 2147483648) ∧ ((z4 = 0 → (0 ≤ l6 ∧ l6 < 4096) ∧ (∀ M5 : xM, M5 = xU M4 88 l6.toNat l4 → (∀ M6 : xM, M6 = xU M5 89 l6.toNat l5 → (∀ M7 : xM, M7 = xU M6 78 15 ((M6 78 15) + 1) → Xi m_M_list 3 n R P 43 [some (vr 78), some (vi l1), some (vi l2), some (vi l3), some (vi (l4 + 1)), none, none] [] M7)))) ∧ (¬ z4 = 0 → (0 ≤ l6 ∧ l6 < 4096) ∧ (∀ M8 : xM, M8 = xU M4 88 l6.toNat (M4 88 (l6 - 1).toNat) → (∀ M9 : xM, M9 = xU M8 89 l6.toNat (M8 89 (l6 - 1).toNat) → Xi m_M_list 3 n R P 73 [some (vr 78), some (vi l1), some (vi l2), some (vi l3), some (vi l4), some (vi l5), some (vi (l6 + (-1)))] [] M9)))))))) : Xi m_M_list 3 n R P 73 [some (vr 78), some (vi l1), some (vi l2), some (vi l3), some (vi l4), some (vi l5), some (vi l6)] [] M := by
  intro Q hQ
  refine x_iload (pc := 73) d_M_list_73 rfl ?_
  obtain ⟨h1, hvc⟩ := hvc
  refine x_if_le (tgt := 134) (pc := 75) d_M_list_75 rfl h1 (fun hb => ?_) (fun hb => ?_)
  · have hvc := hvc.1 hb
    refine x_aload_n (pc := 134) d_M_list_134 rfl rfl ?_
    refine x_getR (k := 78) (ci := 7) (pc := 135) (t := 88) 16 d_M_list_135 cok7 rfl (Nat.lt_of_lt_of_le (by decide) hn) rfl (by decide) rfl (hR.at 78 16 rfl rfl) w_580 ?_
    refine x_iload (pc := 138) d_M_list_138 rfl ?_
    refine x_iload (pc := 140) d_M_list_140 rfl ?_
    obtain ⟨h2, hvc⟩ := hvc
    refine x_iast (N := 4096) (pc := 142) d_M_list_142 (Nat.lt_of_lt_of_le (by decide) hn) rfl (by decide) h2.1 h2.2 (fun M1 eM1 => ?_)
    have hvc := hvc M1 eM1
    refine x_aload_n (pc := 143) d_M_list_143 rfl rfl ?_
    refine x_getR (k := 78) (ci := 7) (pc := 144) (t := 89) 17 d_M_list_144 cok7 rfl (Nat.lt_of_lt_of_le (by decide) hn) rfl (by decide) rfl (hR.at 78 17 rfl rfl) w_581 ?_
    refine x_iload (pc := 147) d_M_list_147 rfl ?_
    refine x_iload (pc := 149) d_M_list_149 rfl ?_
    refine x_iast (N := 4096) (pc := 151) d_M_list_151 (Nat.lt_of_lt_of_le (by decide) hn) rfl (by decide) h2.1 h2.2 (fun M2 eM2 => ?_)
    have hvc := hvc M2 eM2
    refine x_aload_n (pc := 152) d_M_list_152 rfl rfl ?_
    refine x_dup (pc := 153) d_M_list_153 ?_
    refine x_getI (k := 78) (ci := 7) (pc := 154) 15 d_M_list_154 cok7 rfl (Nat.lt_of_lt_of_le (by decide) hn) rfl (by decide) rfl w_579 ?_
    refine x_iconst (pc := 157) d_M_list_157 ?_
    refine x_iadd (pc := 158) d_M_list_158 ?_
    refine x_putI (k := 78) (ci := 7) (pc := 159) 15 d_M_list_159 cok7 rfl (Nat.lt_of_lt_of_le (by decide) hn) rfl (by decide) rfl rfl rfl w_579 (fun M3 eM3 => ?_)
    have hvc := hvc M3 eM3
    refine x_iinc (pc := 162) d_M_list_162 rfl (by decide) ?_
    refine x_goto (tgt := 43) (pc := 165) d_M_list_165 rfl ?_
    exact x_locals (xmask [true, true, true, true, true, false, false] _) (xmask_sub _ _) (hvc Q hQ)
  · have hvc := hvc.2 hb
    refine x_aload_n (pc := 78) d_M_list_78 rfl rfl ?_
    refine x_iload (pc := 79) d_M_list_79 rfl ?_
    refine x_aload_n (pc := 81) d_M_list_81 rfl rfl ?_
    refine x_getR (k := 78) (ci := 7) (pc := 82) (t := 88) 16 d_M_list_82 cok7 rfl (Nat.lt_of_lt_of_le (by decide) hn) rfl (by decide) rfl (hR.at 78 16 rfl rfl) w_580 ?_
    refine x_iload (pc := 85) d_M_list_85 rfl ?_
    refine x_iconst (pc := 87) d_M_list_87 ?_
    refine x_isub (pc := 88) d_M_list_88 ?_
    obtain ⟨h3, hvc⟩ := hvc
    refine x_iald (N := 4096) (pc := 89) d_M_list_89 (Nat.lt_of_lt_of_le (by decide) hn) rfl (by decide) h3.1 h3.2 ?_
    refine y_callVi m_M_isBefore 2 142 78 7 21 [_, _] [] rfl (pc := 90) d_M_list_90 ok_M_isBefore w_755 w_757 w_37 pn_M_isBefore (Nat.lt_of_lt_of_le (by decide) hn) rfl rfl (by decide) (Nat.le_of_ble_eq_true rfl) (Nat.le_refl _) (Nat.le_refl _) hvc (fun z4 M4 hvc => ?_)
    obtain ⟨h5, hvc⟩ := hvc
    refine x_if_eq (tgt := 134) (pc := 93) d_M_list_93 rfl h5 (fun hb => ?_) (fun hb => ?_)
    · have hvc := hvc.1 hb
      refine x_aload_n (pc := 134) d_M_list_134 rfl rfl ?_
      refine x_getR (k := 78) (ci := 7) (pc := 135) (t := 88) 16 d_M_list_135 cok7 rfl (Nat.lt_of_lt_of_le (by decide) hn) rfl (by decide) rfl (hR.at 78 16 rfl rfl) w_580 ?_
      refine x_iload (pc := 138) d_M_list_138 rfl ?_
      refine x_iload (pc := 140) d_M_list_140 rfl ?_
      obtain ⟨h6, hvc⟩ := hvc
      refine x_iast (N := 4096) (pc := 142) d_M_list_142 (Nat.lt_of_lt_of_le (by decide) hn) rfl (by decide) h6.1 h6.2 (fun M5 eM5 => ?_)
      have hvc := hvc M5 eM5
      refine x_aload_n (pc := 143) d_M_list_143 rfl rfl ?_
      refine x_getR (k := 78) (ci := 7) (pc := 144) (t := 89) 17 d_M_list_144 cok7 rfl (Nat.lt_of_lt_of_le (by decide) hn) rfl (by decide) rfl (hR.at 78 17 rfl rfl) w_581 ?_
      refine x_iload (pc := 147) d_M_list_147 rfl ?_
      refine x_iload (pc := 149) d_M_list_149 rfl ?_
      refine x_iast (N := 4096) (pc := 151) d_M_list_151 (Nat.lt_of_lt_of_le (by decide) hn) rfl (by decide) h6.1 h6.2 (fun M6 eM6 => ?_)
      have hvc := hvc M6 eM6
      refine x_aload_n (pc := 152) d_M_list_152 rfl rfl ?_
      refine x_dup (pc := 153) d_M_list_153 ?_
      refine x_getI (k := 78) (ci := 7) (pc := 154) 15 d_M_list_154 cok7 rfl (Nat.lt_of_lt_of_le (by decide) hn) rfl (by decide) rfl w_579 ?_
      refine x_iconst (pc := 157) d_M_list_157 ?_
      refine x_iadd (pc := 158) d_M_list_158 ?_
      refine x_putI (k := 78) (ci := 7) (pc := 159) 15 d_M_list_159 cok7 rfl (Nat.lt_of_lt_of_le (by decide) hn) rfl (by decide) rfl rfl rfl w_579 (fun M7 eM7 => ?_)
      have hvc := hvc M7 eM7
      refine x_iinc (pc := 162) d_M_list_162 rfl (by decide) ?_
      refine x_goto (tgt := 43) (pc := 165) d_M_list_165 rfl ?_
      exact x_locals (xmask [true, true, true, true, true, false, false] _) (xmask_sub _ _) (hvc Q hQ)
    · have hvc := hvc.2 hb
      refine x_aload_n (pc := 96) d_M_list_96 rfl rfl ?_
      refine x_getR (k := 78) (ci := 7) (pc := 97) (t := 88) 16 d_M_list_97 cok7 rfl (Nat.lt_of_lt_of_le (by decide) hn) rfl (by decide) rfl (hR.at 78 16 rfl rfl) w_580 ?_
      refine x_iload (pc := 100) d_M_list_100 rfl ?_
      refine x_aload_n (pc := 102) d_M_list_102 rfl rfl ?_
      refine x_getR (k := 78) (ci := 7) (pc := 103) (t := 88) 16 d_M_list_103 cok7 rfl (Nat.lt_of_lt_of_le (by decide) hn) rfl (by decide) rfl (hR.at 78 16 rfl rfl) w_580 ?_
      refine x_iload (pc := 106) d_M_list_106 rfl ?_
      refine x_iconst (pc := 108) d_M_list_108 ?_
      refine x_isub (pc := 109) d_M_list_109 ?_
      refine x_iald (N := 4096) (pc := 110) d_M_list_110 (Nat.lt_of_lt_of_le (by decide) hn) rfl (by decide) h3.1 h3.2 ?_
      obtain ⟨h7, hvc⟩ := hvc
      refine x_iast (N := 4096) (pc := 111) d_M_list_111 (Nat.lt_of_lt_of_le (by decide) hn) rfl (by decide) h7.1 h7.2 (fun M8 eM8 => ?_)
      have hvc := hvc M8 eM8
      refine x_aload_n (pc := 112) d_M_list_112 rfl rfl ?_
      refine x_getR (k := 78) (ci := 7) (pc := 113) (t := 89) 17 d_M_list_113 cok7 rfl (Nat.lt_of_lt_of_le (by decide) hn) rfl (by decide) rfl (hR.at 78 17 rfl rfl) w_581 ?_
      refine x_iload (pc := 116) d_M_list_116 rfl ?_
      refine x_aload_n (pc := 118) d_M_list_118 rfl rfl ?_
      refine x_getR (k := 78) (ci := 7) (pc := 119) (t := 89) 17 d_M_list_119 cok7 rfl (Nat.lt_of_lt_of_le (by decide) hn) rfl (by decide) rfl (hR.at 78 17 rfl rfl) w_581 ?_
      refine x_iload (pc := 122) d_M_list_122 rfl ?_
      refine x_iconst (pc := 124) d_M_list_124 ?_
      refine x_isub (pc := 125) d_M_list_125 ?_
      refine x_iald (N := 4096) (pc := 126) d_M_list_126 (Nat.lt_of_lt_of_le (by decide) hn) rfl (by decide) h3.1 h3.2 ?_
      refine x_iast (N := 4096) (pc := 127) d_M_list_127 (Nat.lt_of_lt_of_le (by decide) hn) rfl (by decide) h7.1 h7.2 (fun M9 eM9 => ?_)
      have hvc := hvc M9 eM9
      refine x_iinc (pc := 128) d_M_list_128 rfl (by decide) ?_
      refine x_goto (tgt := 73) (pc := 131) d_M_list_131 rfl ?_
      exact x_locals (xmask [true, true, true, true, true, true, true] _) (xmask_sub _ _) (hvc Q hQ)
set_option maxRecDepth 20000 in
theorem E_M_list {n : Nat} {R : xR} {M : xM} {P : Int → xM → Prop} (hn : 93 ≤ n) (hR : RC 93 R) {l1 : Int} (h : Xi m_M_list 3 n R P 0 [some (vr 78), some (vi l1), none, none, none, none, none] [] M) : Ci m_M_list 3 n R [vr 78, vi l1] M P :=
  Ci.of [some (vr 78), some (vi l1), none, none, none, none, none] (by decide) rfl (Nat.le_of_ble_eq_true rfl) rfl h
set_option maxRecDepth 20000 in
theorem B_M_listed_0 {n : Nat} {R : xR} {M : xM} {P : Int → xM → Prop} (hn : 93 ≤ n) (hR : RC 93 R) {l1 l2 : Int} (hvc : (-2147483648 ≤ l1 ∧ l1 < 2147483648) ∧ ((l1 < 0 → P ((-1)) M) ∧ (¬ l1 < 0 → (-2147483648 ≤ M 78 15 ∧ M 78 15 < 2147483648) ∧ (((M 78 15) ≤ l1 → P ((-1)) M) ∧ (¬ (M 78 15) ≤ l1 → Ci m_M_isPlace 0 n R [vr 78, vi l2] M (fun z3 M1 => (-2147483648 ≤ z3 ∧ z3 < 2147483648) ∧ ((¬ z3 = 0 → (0 ≤ l1 ∧ l1 < 4096) ∧ Ci m_M_element 1 n R [vr 78, vi (M1 88 l1.toNat), vi l2] M1 (fun z6 M2 => P z6 M2)) ∧ (z3 = 0 → P ((-1)) M1)))))))) : Xi m_M_listed 2 n R P 0 [some (vr 78), some (vi l1), some (vi l2)] [] M := by
  intro Q hQ
  refine x_iload_n (pc := 0) d_M_listed_0 rfl rfl ?_
  obtain ⟨h1, hvc⟩ := hvc
  refine x_if_lt (tgt := 20) (pc := 1) d_M_listed_1 rfl h1 (fun hb => ?_) (fun hb => ?_)
  · have hvc := hvc.1 hb
    refine x_iconst (pc := 20) d_M_listed_20 ?_
    refine x_goto (tgt := 35) (pc := 21) d_M_listed_21 rfl ?_
    exact x_iret (pc := 35) d_M_listed_35 rfl rfl (Nat.le_refl _) (hQ _ _ hvc)
  · have hvc := hvc.2 hb
    refine x_iload_n (pc := 4) d_M_listed_4 rfl rfl ?_
    refine x_aload_n (pc := 5) d_M_listed_5 rfl rfl ?_
    refine x_getI (k := 78) (ci := 7) (pc := 6) 15 d_M_listed_6 cok7 rfl (Nat.lt_of_lt_of_le (by decide) hn) rfl (by decide) rfl w_579 ?_
    obtain ⟨h2, hvc⟩ := hvc
    refine x_icmp_ge (tgt := 20) (pc := 9) d_M_listed_9 rfl h1 h2 (fun hb => ?_) (fun hb => ?_)
    · have hvc := hvc.1 hb
      refine x_iconst (pc := 20) d_M_listed_20 ?_
      refine x_goto (tgt := 35) (pc := 21) d_M_listed_21 rfl ?_
      exact x_iret (pc := 35) d_M_listed_35 rfl rfl (Nat.le_refl _) (hQ _ _ hvc)
    · have hvc := hvc.2 hb
      refine x_aload_n (pc := 12) d_M_listed_12 rfl rfl ?_
      refine x_iload_n (pc := 13) d_M_listed_13 rfl rfl ?_
      refine y_callVi m_M_isPlace 0 117 78 7 21 [_] [] rfl (pc := 14) d_M_listed_14 ok_M_isPlace w_691 w_693 w_29 pn_M_isPlace (Nat.lt_of_lt_of_le (by decide) hn) rfl rfl (by decide) (Nat.le_of_ble_eq_true rfl) (Nat.le_refl _) (Nat.le_refl _) hvc (fun z3 M1 hvc => ?_)
      obtain ⟨h4, hvc⟩ := hvc
      refine x_if_ne (tgt := 24) (pc := 17) d_M_listed_17 rfl h4 (fun hb => ?_) (fun hb => ?_)
      · have hvc := hvc.1 hb
        refine x_aload_n (pc := 24) d_M_listed_24 rfl rfl ?_
        refine x_aload_n (pc := 25) d_M_listed_25 rfl rfl ?_
        refine x_getR (k := 78) (ci := 7) (pc := 26) (t := 88) 16 d_M_listed_26 cok7 rfl (Nat.lt_of_lt_of_le (by decide) hn) rfl (by decide) rfl (hR.at 78 16 rfl rfl) w_580 ?_
        refine x_iload_n (pc := 29) d_M_listed_29 rfl rfl ?_
        obtain ⟨h5, hvc⟩ := hvc
        refine x_iald (N := 4096) (pc := 30) d_M_listed_30 (Nat.lt_of_lt_of_le (by decide) hn) rfl (by decide) h5.1 h5.2 ?_
        refine x_iload_n (pc := 31) d_M_listed_31 rfl rfl ?_
        refine y_callVi m_M_element 1 102 78 7 21 [_, _] [] rfl (pc := 32) d_M_listed_32 ok_M_element w_675 w_677 w_26 pn_M_element (Nat.lt_of_lt_of_le (by decide) hn) rfl rfl (by decide) (Nat.le_of_ble_eq_true rfl) (Nat.le_refl _) (Nat.le_refl _) hvc (fun z6 M2 hvc => ?_)
        exact x_iret (pc := 35) d_M_listed_35 rfl rfl (Nat.le_refl _) (hQ _ _ hvc)
      · have hvc := hvc.2 hb
        refine x_iconst (pc := 20) d_M_listed_20 ?_
        refine x_goto (tgt := 35) (pc := 21) d_M_listed_21 rfl ?_
        exact x_iret (pc := 35) d_M_listed_35 rfl rfl (Nat.le_refl _) (hQ _ _ hvc)
set_option maxRecDepth 20000 in
theorem E_M_listed {n : Nat} {R : xR} {M : xM} {P : Int → xM → Prop} (hn : 93 ≤ n) (hR : RC 93 R) {l1 l2 : Int} (h : Xi m_M_listed 2 n R P 0 [some (vr 78), some (vi l1), some (vi l2)] [] M) : Ci m_M_listed 2 n R [vr 78, vi l1, vi l2] M P :=
  Ci.of [some (vr 78), some (vi l1), some (vi l2)] (by decide) rfl (Nat.le_of_ble_eq_true rfl) rfl h
set_option maxRecDepth 20000 in
theorem B_M_distance_0 {n : Nat} {R : xR} {M : xM} {P : Int → xM → Prop} (hn : 93 ≤ n) (hR : RC 93 R) {l1 : Int} (hvc : (-2147483648 ≤ l1 ∧ l1 < 2147483648) ∧ ((l1 < 0 → P ((-1)) M) ∧ (¬ l1 < 0 → (-2147483648 ≤ M 78 15 ∧ M 78 15 < 2147483648) ∧ ((l1 < (M 78 15) → (0 ≤ l1 ∧ l1 < 4096) ∧ P (M 89 l1.toNat) M) ∧ (¬ l1 < (M 78 15) → P ((-1)) M))))) : Xi m_M_distance 0 n R P 0 [some (vr 78), some (vi l1)] [] M := by
  intro Q hQ
  refine x_iload_n (pc := 0) d_M_distance_0 rfl rfl ?_
  obtain ⟨h1, hvc⟩ := hvc
  refine x_if_lt (tgt := 12) (pc := 1) d_M_distance_1 rfl h1 (fun hb => ?_) (fun hb => ?_)
  · have hvc := hvc.1 hb
    refine x_iconst (pc := 12) d_M_distance_12 ?_
    refine x_goto (tgt := 22) (pc := 13) d_M_distance_13 rfl ?_
    exact x_iret (pc := 22) d_M_distance_22 rfl rfl (Nat.le_refl _) (hQ _ _ hvc)
  · have hvc := hvc.2 hb
    refine x_iload_n (pc := 4) d_M_distance_4 rfl rfl ?_
    refine x_aload_n (pc := 5) d_M_distance_5 rfl rfl ?_
    refine x_getI (k := 78) (ci := 7) (pc := 6) 15 d_M_distance_6 cok7 rfl (Nat.lt_of_lt_of_le (by decide) hn) rfl (by decide) rfl w_579 ?_
    obtain ⟨h2, hvc⟩ := hvc
    refine x_icmp_lt (tgt := 16) (pc := 9) d_M_distance_9 rfl h1 h2 (fun hb => ?_) (fun hb => ?_)
    · have hvc := hvc.1 hb
      refine x_aload_n (pc := 16) d_M_distance_16 rfl rfl ?_
      refine x_getR (k := 78) (ci := 7) (pc := 17) (t := 89) 17 d_M_distance_17 cok7 rfl (Nat.lt_of_lt_of_le (by decide) hn) rfl (by decide) rfl (hR.at 78 17 rfl rfl) w_581 ?_
      refine x_iload_n (pc := 20) d_M_distance_20 rfl rfl ?_
      obtain ⟨h3, hvc⟩ := hvc
      refine x_iald (N := 4096) (pc := 21) d_M_distance_21 (Nat.lt_of_lt_of_le (by decide) hn) rfl (by decide) h3.1 h3.2 ?_
      exact x_iret (pc := 22) d_M_distance_22 rfl rfl (Nat.le_refl _) (hQ _ _ hvc)
    · have hvc := hvc.2 hb
      refine x_iconst (pc := 12) d_M_distance_12 ?_
      refine x_goto (tgt := 22) (pc := 13) d_M_distance_13 rfl ?_
      exact x_iret (pc := 22) d_M_distance_22 rfl rfl (Nat.le_refl _) (hQ _ _ hvc)
set_option maxRecDepth 20000 in
theorem E_M_distance {n : Nat} {R : xR} {M : xM} {P : Int → xM → Prop} (hn : 93 ≤ n) (hR : RC 93 R) {l1 : Int} (h : Xi m_M_distance 0 n R P 0 [some (vr 78), some (vi l1)] [] M) : Ci m_M_distance 0 n R [vr 78, vi l1] M P :=
  Ci.of [some (vr 78), some (vi l1)] (by decide) rfl (Nat.le_of_ble_eq_true rfl) rfl h
set_option maxRecDepth 20000 in
theorem B_M_radius_0 {n : Nat} {R : xR} {M : xM} {P : Int → xM → Prop} (hn : 93 ≤ n) (hR : RC 93 R) {l1 : Int} (hvc : (-2147483648 ≤ l1 ∧ l1 < 2147483648) ∧ ((l1 < 1 → P ((-1)) M) ∧ (¬ l1 < 1 → ((l1 ≤ 3 → Ci m_M_kept 0 n R [vr 78] M (fun z2 M1 => (-2147483648 ≤ z2 ∧ z2 < 2147483648) ∧ (-2147483648 ≤ M1 78 6 ∧ M1 78 6 < 2147483648) ∧ (((M1 78 6) ≤ z2 → Ci m_M_radiusFor 2 n R [vr 78, vi l1, vi z2] M1 (fun z5 M2 => P z5 M2)) ∧ (¬ (M1 78 6) ≤ z2 → P ((-3)) M1)))) ∧ (¬ l1 ≤ 3 → P ((-1)) M))))) : Xi m_M_radius 3 n R P 0 [some (vr 78), some (vi l1), none] [] M := by
  intro Q hQ
  refine x_iload_n (pc := 0) d_M_radius_0 rfl rfl ?_
  refine x_iconst (pc := 1) d_M_radius_1 ?_
  obtain ⟨h1, hvc⟩ := hvc
  refine x_icmp_lt (tgt := 10) (pc := 2) d_M_radius_2 rfl h1 ⟨by decide, by decide⟩ (fun hb => ?_) (fun hb => ?_)
  · have hvc := hvc.1 hb
    refine x_iconst (pc := 10) d_M_radius_10 ?_
    exact x_iret (pc := 11) d_M_radius_11 rfl rfl (Nat.le_refl _) (hQ _ _ hvc)
  · have hvc := hvc.2 hb
    refine x_iload_n (pc := 5) d_M_radius_5 rfl rfl ?_
    refine x_iconst (pc := 6) d_M_radius_6 ?_
    refine x_icmp_le (tgt := 12) (pc := 7) d_M_radius_7 rfl h1 ⟨by decide, by decide⟩ (fun hb => ?_) (fun hb => ?_)
    · have hvc := hvc.1 hb
      refine x_aload_n (pc := 12) d_M_radius_12 rfl rfl ?_
      refine y_callVi m_M_kept 0 127 78 7 21 [] [] rfl (pc := 13) d_M_radius_13 ok_M_kept w_719 w_721 w_32 pn_M_kept (Nat.lt_of_lt_of_le (by decide) hn) rfl rfl (by decide) (Nat.le_of_ble_eq_true rfl) (Nat.le_refl _) (Nat.le_refl _) hvc (fun z2 M1 hvc => ?_)
      refine x_istore_n (pc := 16) d_M_radius_16 rfl (by decide) ?_
      refine x_iload_n (pc := 17) d_M_radius_17 rfl rfl ?_
      refine x_aload_n (pc := 18) d_M_radius_18 rfl rfl ?_
      refine x_getI (k := 78) (ci := 7) (pc := 19) 6 d_M_radius_19 cok7 rfl (Nat.lt_of_lt_of_le (by decide) hn) rfl (by decide) rfl w_570 ?_
      obtain ⟨h3, hvc⟩ := hvc
      obtain ⟨h4, hvc⟩ := hvc
      refine x_icmp_ge (tgt := 30) (pc := 22) d_M_radius_22 rfl h3 h4 (fun hb => ?_) (fun hb => ?_)
      · have hvc := hvc.1 hb
        refine x_aload_n (pc := 30) d_M_radius_30 rfl rfl ?_
        refine x_iload_n (pc := 31) d_M_radius_31 rfl rfl ?_
        refine x_iload_n (pc := 32) d_M_radius_32 rfl rfl ?_
        refine y_callVi m_M_radiusFor 2 139 78 7 21 [_, _] [] rfl (pc := 33) d_M_radius_33 ok_M_radiusFor w_743 w_745 w_34 pn_M_radiusFor (Nat.lt_of_lt_of_le (by decide) hn) rfl rfl (by decide) (Nat.le_of_ble_eq_true rfl) (Nat.le_refl _) (Nat.le_refl _) hvc (fun z5 M2 hvc => ?_)
        exact x_iret (pc := 36) d_M_radius_36 rfl rfl (Nat.le_refl _) (hQ _ _ hvc)
      · have hvc := hvc.2 hb
        refine x_bipush (pc := 25) d_M_radius_25 (by decide) ?_
        refine x_goto (tgt := 36) (pc := 27) d_M_radius_27 rfl ?_
        exact x_iret (pc := 36) d_M_radius_36 rfl rfl (Nat.le_refl _) (hQ _ _ hvc)
    · have hvc := hvc.2 hb
      refine x_iconst (pc := 10) d_M_radius_10 ?_
      exact x_iret (pc := 11) d_M_radius_11 rfl rfl (Nat.le_refl _) (hQ _ _ hvc)
set_option maxRecDepth 20000 in
theorem E_M_radius {n : Nat} {R : xR} {M : xM} {P : Int → xM → Prop} (hn : 93 ≤ n) (hR : RC 93 R) {l1 : Int} (h : Xi m_M_radius 3 n R P 0 [some (vr 78), some (vi l1), none] [] M) : Ci m_M_radius 3 n R [vr 78, vi l1] M P :=
  Ci.of [some (vr 78), some (vi l1), none] (by decide) rfl (Nat.le_of_ble_eq_true rfl) rfl h
set_option maxRecDepth 20000 in
theorem B_M_condition_0 {n : Nat} {R : xR} {M : xM} {P : Int → xM → Prop} (hn : 93 ≤ n) (hR : RC 93 R) {l1 l2 l3 l4 l5 : Int} (hvc : (-2147483648 ≤ xAnd l1 l3 ∧ xAnd l1 l3 < 2147483648) ∧ (-2147483648 ≤ l3 ∧ l3 < 2147483648) ∧ ((¬ (xAnd l1 l3) = l3 → P 0 M) ∧ ((xAnd l1 l3) = l3 → (-2147483648 ≤ xAnd l2 l4 ∧ xAnd l2 l4 < 2147483648) ∧ (-2147483648 ≤ l4 ∧ l4 < 2147483648) ∧ ((¬ (xAnd l2 l4) = l4 → P 0 M) ∧ ((xAnd l2 l4) = l4 → (-2147483648 ≤ M 78 4 ∧ M 78 4 < 2147483648) ∧ ((¬ (M 78 4) = 0 → (0 ≤ l5 ∧ l5 < 32) ∧ Ci m_M_apart 0 n R [vr 78, vi l5] M (fun z7 M1 => (0 ≤ (32 * (M 80 l5.toNat)) + z7 ∧ (32 * (M 80 l5.toNat)) + z7 < 1024) ∧ Ci m_M_quotient 0 n R [vr 78, vi 1, vi (M1 79 ((32 * (M 80 l5.toNat)) + z7).toNat)] M1 (fun z9 M2 => (0 ≤ l5 ∧ l5 < 20) ∧ Ci m_M_quotient 0 n R [vr 78, vi (M2 83 l5.toNat), vi z9] M2 (fun z11 M3 => Ci m_M_power 0 n R [vr 78, vi (M3 80 l5.toNat), vi (l1 - l3)] M3 (fun z12 M4 => Ci m_M_power 0 n R [vr 78, vi z11, vi (l2 - l4)] M4 (fun z13 M5 => (0 ≤ (32 * z12) + z13 ∧ (32 * z12) + z13 < 1024) ∧ P (M5 79 ((32 * z12) + z13).toNat) M5)))))) ∧ ((M 78 4) = 0 → (0 ≤ l5 ∧ l5 < 20) ∧ Ci m_M_quotient 0 n R [vr 78, vi (M 83 l5.toNat), vi 1] M (fun z16 M6 => (0 ≤ l5 ∧ l5 < 32) ∧ Ci m_M_power 0 n R [vr 78, vi (M6 80 l5.toNat), vi (l1 - l3)] M6 (fun z18 M7 => Ci m_M_power 0 n R [vr 78, vi z16, vi (l2 - l4)] M7 (fun z19 M8 => (0 ≤ (32 * z18) + z19 ∧ (32 * z18) + z19 < 1024) ∧ P (M8 79 ((32 * z18) + z19).toNat) M8)))))))))) : Xi m_M_condition 1 n R P 0 [some (vr 78), some (vi l1), some (vi l2), some (vi l3), some (vi l4), some (vi l5), none, none, none] [] M := by
  intro Q hQ
  refine x_iload_n (pc := 0) d_M_condition_0 rfl rfl ?_
  refine x_iload_n (pc := 1) d_M_condition_1 rfl rfl ?_
  refine x_iand (pc := 2) d_M_condition_2 ?_
  refine x_iload_n (pc := 3) d_M_condition_3 rfl rfl ?_
  obtain ⟨h1, hvc⟩ := hvc
  obtain ⟨h2, hvc⟩ := hvc
  refine x_icmp_ne (tgt := 20) (pc := 4) d_M_condition_4 rfl h1 h2 (fun hb => ?_) (fun hb => ?_)
  · have hvc := hvc.1 hb
    refine x_iconst (pc := 20) d_M_condition_20 ?_
    refine x_istore (pc := 21) d_M_condition_21 (by decide) ?_
    refine x_iload (pc := 23) d_M_condition_23 rfl ?_
    refine x_if_ne (tgt := 30) (pc := 25) d_M_condition_25 rfl ⟨by decide, by decide⟩ (fun hb => absurd hb (by decide)) (fun _ => ?_)
    refine x_iconst (pc := 28) d_M_condition_28 ?_
    exact x_iret (pc := 29) d_M_condition_29 rfl rfl (Nat.le_refl _) (hQ _ _ hvc)
  · have hvc := hvc.2 hb
    refine x_iload_n (pc := 7) d_M_condition_7 rfl rfl ?_
    refine x_iload (pc := 8) d_M_condition_8 rfl ?_
    refine x_iand (pc := 10) d_M_condition_10 ?_
    refine x_iload (pc := 11) d_M_condition_11 rfl ?_
    obtain ⟨h3, hvc⟩ := hvc
    obtain ⟨h4, hvc⟩ := hvc
    refine x_icmp_ne (tgt := 20) (pc := 13) d_M_condition_13 rfl h3 h4 (fun hb => ?_) (fun hb => ?_)
    · have hvc := hvc.1 hb
      refine x_iconst (pc := 20) d_M_condition_20 ?_
      refine x_istore (pc := 21) d_M_condition_21 (by decide) ?_
      refine x_iload (pc := 23) d_M_condition_23 rfl ?_
      refine x_if_ne (tgt := 30) (pc := 25) d_M_condition_25 rfl ⟨by decide, by decide⟩ (fun hb => absurd hb (by decide)) (fun _ => ?_)
      refine x_iconst (pc := 28) d_M_condition_28 ?_
      exact x_iret (pc := 29) d_M_condition_29 rfl rfl (Nat.le_refl _) (hQ _ _ hvc)
    · have hvc := hvc.2 hb
      refine x_iconst (pc := 16) d_M_condition_16 ?_
      refine x_goto (tgt := 21) (pc := 17) d_M_condition_17 rfl ?_
      refine x_istore (pc := 21) d_M_condition_21 (by decide) ?_
      refine x_iload (pc := 23) d_M_condition_23 rfl ?_
      refine x_if_ne (tgt := 30) (pc := 25) d_M_condition_25 rfl ⟨by decide, by decide⟩ (fun _ => ?_) (fun hb => absurd hb (by decide))
      refine x_aload_n (pc := 30) d_M_condition_30 rfl rfl ?_
      refine x_getI (k := 78) (ci := 7) (pc := 31) 4 d_M_condition_31 cok7 rfl (Nat.lt_of_lt_of_le (by decide) hn) rfl (by decide) rfl w_568 ?_
      obtain ⟨h5, hvc⟩ := hvc
      refine x_if_ne (tgt := 41) (pc := 34) d_M_condition_34 rfl h5 (fun hb => ?_) (fun hb => ?_)
      · have hvc := hvc.1 hb
        refine x_aload_n (pc := 41) d_M_condition_41 rfl rfl ?_
        refine x_iconst (pc := 42) d_M_condition_42 ?_
        refine x_aload_n (pc := 43) d_M_condition_43 rfl rfl ?_
        refine x_getR (k := 78) (ci := 7) (pc := 44) (t := 79) 2 d_M_condition_44 cok7 rfl (Nat.lt_of_lt_of_le (by decide) hn) rfl (by decide) rfl (hR.at 78 2 rfl rfl) w_566 ?_
        refine x_bipush (pc := 47) d_M_condition_47 (by decide) ?_
        refine x_aload_n (pc := 49) d_M_condition_49 rfl rfl ?_
        refine x_getR (k := 78) (ci := 7) (pc := 50) (t := 80) 3 d_M_condition_50 cok7 rfl (Nat.lt_of_lt_of_le (by decide) hn) rfl (by decide) rfl (hR.at 78 3 rfl rfl) w_567 ?_
        refine x_iload (pc := 53) d_M_condition_53 rfl ?_
        obtain ⟨h6, hvc⟩ := hvc
        refine x_iald (N := 32) (pc := 55) d_M_condition_55 (Nat.lt_of_lt_of_le (by decide) hn) rfl (by decide) h6.1 h6.2 ?_
        refine x_imul (pc := 56) d_M_condition_56 ?_
        refine x_aload_n (pc := 57) d_M_condition_57 rfl rfl ?_
        refine x_iload (pc := 58) d_M_condition_58 rfl ?_
        refine y_callVi m_M_apart 0 120 78 7 21 [_] [_, _, _, _] rfl (pc := 60) d_M_condition_60 ok_M_apart w_707 w_709 w_30 pn_M_apart (Nat.lt_of_lt_of_le (by decide) hn) rfl rfl (by decide) (Nat.le_of_ble_eq_true rfl) (Nat.le_refl _) (Nat.le_refl _) hvc (fun z7 M1 hvc => ?_)
        refine x_iadd (pc := 63) d_M_condition_63 ?_
        obtain ⟨h8, hvc⟩ := hvc
        refine x_iald (N := 1024) (pc := 64) d_M_condition_64 (Nat.lt_of_lt_of_le (by decide) hn) rfl (by decide) h8.1 h8.2 ?_
        refine y_callVi m_M_quotient 0 80 78 7 21 [_, _] [] rfl (pc := 65) d_M_condition_65 ok_M_quotient w_647 w_649 w_23 pn_M_quotient (Nat.lt_of_lt_of_le (by decide) hn) rfl rfl (by decide) (Nat.le_of_ble_eq_true rfl) (Nat.le_refl _) (Nat.le_refl _) hvc (fun z9 M2 hvc => ?_)
        refine x_istore (pc := 68) d_M_condition_68 (by decide) ?_
        refine x_aload_n (pc := 70) d_M_condition_70 rfl rfl ?_
        refine x_aload_n (pc := 71) d_M_condition_71 rfl rfl ?_
        refine x_getR (k := 78) (ci := 7) (pc := 72) (t := 83) 9 d_M_condition_72 cok7 rfl (Nat.lt_of_lt_of_le (by decide) hn) rfl (by decide) rfl (hR.at 78 9 rfl rfl) w_573 ?_
        refine x_iload (pc := 75) d_M_condition_75 rfl ?_
        obtain ⟨h10, hvc⟩ := hvc
        refine x_iald (N := 20) (pc := 77) d_M_condition_77 (Nat.lt_of_lt_of_le (by decide) hn) rfl (by decide) h10.1 h10.2 ?_
        refine x_iload (pc := 78) d_M_condition_78 rfl ?_
        refine y_callVi m_M_quotient 0 80 78 7 21 [_, _] [] rfl (pc := 80) d_M_condition_80 ok_M_quotient w_647 w_649 w_23 pn_M_quotient (Nat.lt_of_lt_of_le (by decide) hn) rfl rfl (by decide) (Nat.le_of_ble_eq_true rfl) (Nat.le_refl _) (Nat.le_refl _) hvc (fun z11 M3 hvc => ?_)
        refine x_istore (pc := 83) d_M_condition_83 (by decide) ?_
        refine x_aload_n (pc := 85) d_M_condition_85 rfl rfl ?_
        refine x_getR (k := 78) (ci := 7) (pc := 86) (t := 79) 2 d_M_condition_86 cok7 rfl (Nat.lt_of_lt_of_le (by decide) hn) rfl (by decide) rfl (hR.at 78 2 rfl rfl) w_566 ?_
        refine x_bipush (pc := 89) d_M_condition_89 (by decide) ?_
        refine x_aload_n (pc := 91) d_M_condition_91 rfl rfl ?_
        refine x_aload_n (pc := 92) d_M_condition_92 rfl rfl ?_
        refine x_getR (k := 78) (ci := 7) (pc := 93) (t := 80) 3 d_M_condition_93 cok7 rfl (Nat.lt_of_lt_of_le (by decide) hn) rfl (by decide) rfl (hR.at 78 3 rfl rfl) w_567 ?_
        refine x_iload (pc := 96) d_M_condition_96 rfl ?_
        refine x_iald (N := 32) (pc := 98) d_M_condition_98 (Nat.lt_of_lt_of_le (by decide) hn) rfl (by decide) h6.1 h6.2 ?_
        refine x_iload_n (pc := 99) d_M_condition_99 rfl rfl ?_
        refine x_iload_n (pc := 100) d_M_condition_100 rfl rfl ?_
        refine x_isub (pc := 101) d_M_condition_101 ?_
        refine y_callVi m_M_power 0 124 78 7 21 [_, _] [_, _] rfl (pc := 102) d_M_condition_102 ok_M_power w_711 w_713 w_31 pn_M_power (Nat.lt_of_lt_of_le (by decide) hn) rfl rfl (by decide) (Nat.le_of_ble_eq_true rfl) (Nat.le_refl _) (Nat.le_refl _) hvc (fun z12 M4 hvc => ?_)
        refine x_imul (pc := 105) d_M_condition_105 ?_
        refine x_aload_n (pc := 106) d_M_condition_106 rfl rfl ?_
        refine x_iload (pc := 107) d_M_condition_107 rfl ?_
        refine x_iload_n (pc := 109) d_M_condition_109 rfl rfl ?_
        refine x_iload (pc := 110) d_M_condition_110 rfl ?_
        refine x_isub (pc := 112) d_M_condition_112 ?_
        refine y_callVi m_M_power 0 124 78 7 21 [_, _] [_, _] rfl (pc := 113) d_M_condition_113 ok_M_power w_711 w_713 w_31 pn_M_power (Nat.lt_of_lt_of_le (by decide) hn) rfl rfl (by decide) (Nat.le_of_ble_eq_true rfl) (Nat.le_refl _) (Nat.le_refl _) hvc (fun z13 M5 hvc => ?_)
        refine x_iadd (pc := 116) d_M_condition_116 ?_
        obtain ⟨h14, hvc⟩ := hvc
        refine x_iald (N := 1024) (pc := 117) d_M_condition_117 (Nat.lt_of_lt_of_le (by decide) hn) rfl (by decide) h14.1 h14.2 ?_
        exact x_iret (pc := 118) d_M_condition_118 rfl rfl (Nat.le_refl _) (hQ _ _ hvc)
      · have hvc := hvc.2 hb
        refine x_iconst (pc := 37) d_M_condition_37 ?_
        refine x_goto (tgt := 68) (pc := 38) d_M_condition_38 rfl ?_
        refine x_istore (pc := 68) d_M_condition_68 (by decide) ?_
        refine x_aload_n (pc := 70) d_M_condition_70 rfl rfl ?_
        refine x_aload_n (pc := 71) d_M_condition_71 rfl rfl ?_
        refine x_getR (k := 78) (ci := 7) (pc := 72) (t := 83) 9 d_M_condition_72 cok7 rfl (Nat.lt_of_lt_of_le (by decide) hn) rfl (by decide) rfl (hR.at 78 9 rfl rfl) w_573 ?_
        refine x_iload (pc := 75) d_M_condition_75 rfl ?_
        obtain ⟨h15, hvc⟩ := hvc
        refine x_iald (N := 20) (pc := 77) d_M_condition_77 (Nat.lt_of_lt_of_le (by decide) hn) rfl (by decide) h15.1 h15.2 ?_
        refine x_iload (pc := 78) d_M_condition_78 rfl ?_
        refine y_callVi m_M_quotient 0 80 78 7 21 [_, _] [] rfl (pc := 80) d_M_condition_80 ok_M_quotient w_647 w_649 w_23 pn_M_quotient (Nat.lt_of_lt_of_le (by decide) hn) rfl rfl (by decide) (Nat.le_of_ble_eq_true rfl) (Nat.le_refl _) (Nat.le_refl _) hvc (fun z16 M6 hvc => ?_)
        refine x_istore (pc := 83) d_M_condition_83 (by decide) ?_
        refine x_aload_n (pc := 85) d_M_condition_85 rfl rfl ?_
        refine x_getR (k := 78) (ci := 7) (pc := 86) (t := 79) 2 d_M_condition_86 cok7 rfl (Nat.lt_of_lt_of_le (by decide) hn) rfl (by decide) rfl (hR.at 78 2 rfl rfl) w_566 ?_
        refine x_bipush (pc := 89) d_M_condition_89 (by decide) ?_
        refine x_aload_n (pc := 91) d_M_condition_91 rfl rfl ?_
        refine x_aload_n (pc := 92) d_M_condition_92 rfl rfl ?_
        refine x_getR (k := 78) (ci := 7) (pc := 93) (t := 80) 3 d_M_condition_93 cok7 rfl (Nat.lt_of_lt_of_le (by decide) hn) rfl (by decide) rfl (hR.at 78 3 rfl rfl) w_567 ?_
        refine x_iload (pc := 96) d_M_condition_96 rfl ?_
        obtain ⟨h17, hvc⟩ := hvc
        refine x_iald (N := 32) (pc := 98) d_M_condition_98 (Nat.lt_of_lt_of_le (by decide) hn) rfl (by decide) h17.1 h17.2 ?_
        refine x_iload_n (pc := 99) d_M_condition_99 rfl rfl ?_
        refine x_iload_n (pc := 100) d_M_condition_100 rfl rfl ?_
        refine x_isub (pc := 101) d_M_condition_101 ?_
        refine y_callVi m_M_power 0 124 78 7 21 [_, _] [_, _] rfl (pc := 102) d_M_condition_102 ok_M_power w_711 w_713 w_31 pn_M_power (Nat.lt_of_lt_of_le (by decide) hn) rfl rfl (by decide) (Nat.le_of_ble_eq_true rfl) (Nat.le_refl _) (Nat.le_refl _) hvc (fun z18 M7 hvc => ?_)
        refine x_imul (pc := 105) d_M_condition_105 ?_
        refine x_aload_n (pc := 106) d_M_condition_106 rfl rfl ?_
        refine x_iload (pc := 107) d_M_condition_107 rfl ?_
        refine x_iload_n (pc := 109) d_M_condition_109 rfl rfl ?_
        refine x_iload (pc := 110) d_M_condition_110 rfl ?_
        refine x_isub (pc := 112) d_M_condition_112 ?_
        refine y_callVi m_M_power 0 124 78 7 21 [_, _] [_, _] rfl (pc := 113) d_M_condition_113 ok_M_power w_711 w_713 w_31 pn_M_power (Nat.lt_of_lt_of_le (by decide) hn) rfl rfl (by decide) (Nat.le_of_ble_eq_true rfl) (Nat.le_refl _) (Nat.le_refl _) hvc (fun z19 M8 hvc => ?_)
        refine x_iadd (pc := 116) d_M_condition_116 ?_
        obtain ⟨h20, hvc⟩ := hvc
        refine x_iald (N := 1024) (pc := 117) d_M_condition_117 (Nat.lt_of_lt_of_le (by decide) hn) rfl (by decide) h20.1 h20.2 ?_
        exact x_iret (pc := 118) d_M_condition_118 rfl rfl (Nat.le_refl _) (hQ _ _ hvc)
set_option maxRecDepth 20000 in
theorem E_M_condition {n : Nat} {R : xR} {M : xM} {P : Int → xM → Prop} (hn : 93 ≤ n) (hR : RC 93 R) {l1 l2 l3 l4 l5 : Int} (h : Xi m_M_condition 1 n R P 0 [some (vr 78), some (vi l1), some (vi l2), some (vi l3), some (vi l4), some (vi l5), none, none, none] [] M) : Ci m_M_condition 1 n R [vr 78, vi l1, vi l2, vi l3, vi l4, vi l5] M P :=
  Ci.of [some (vr 78), some (vi l1), some (vi l2), some (vi l3), some (vi l4), some (vi l5), none, none, none] (by decide) rfl (Nat.le_of_ble_eq_true rfl) rfl h
set_option maxRecDepth 20000 in
theorem B_M_layTerm_0 {n : Nat} {R : xR} {M : xM} {P : Int → xM → Prop} (hn : 93 ≤ n) (hR : RC 93 R) {l1 l2 l3 : Int} (hvc : Xi m_M_layTerm 2 n R P 6 [some (vr 78), some (vi l1), some (vi l2), some (vi l3), some (vi 0), some (vi 0), none, none, none] [] M) : Xi m_M_layTerm 2 n R P 0 [some (vr 78), some (vi l1), some (vi l2), some (vi l3), none, none, none, none, none] [] M := by
  intro Q hQ
  refine x_iconst (pc := 0) d_M_layTerm_0 ?_
  refine x_istore (pc := 1) d_M_layTerm_1 (by decide) ?_
  refine x_iconst (pc := 3) d_M_layTerm_3 ?_
  refine x_istore (pc := 4) d_M_layTerm_4 (by decide) ?_
  exact x_locals (xmask [true, true, true, true, true, true, false, false, false] _) (xmask_sub _ _) (hvc Q hQ)
set_option maxRecDepth 20000 in
theorem B_M_layTerm_6 {n : Nat} {R : xR} {M : xM} {P : Int → xM → Prop} (hn : 93 ≤ n) (hR : RC 93 R) {l1 l2 l3 l4 l5 : Int} (hvc : (-2147483648 ≤ l5 ∧ l5 < 2147483648) ∧ (-2147483648 ≤ M 78 5 ∧ M 78 5 < 2147483648) ∧ (((M 78 5) ≤ l5 → P l4 M) ∧ (¬ (M 78 5) ≤ l5 → Xi m_M_layTerm 2 n R P 18 [some (vr 78), some (vi l1), some (vi l2), some (vi l3), some (vi l4), some (vi l5), some (vi 0), none, none] [] M))) : Xi m_M_layTerm 2 n R P 6 [some (vr 78), some (vi l1), some (vi l2), some (vi l3), some (vi l4), some (vi l5), none, none, none] [] M := by
  intro Q hQ
  refine x_iload (pc := 6) d_M_layTerm_6 rfl ?_
  refine x_aload_n (pc := 8) d_M_layTerm_8 rfl rfl ?_
  refine x_getI (k := 78) (ci := 7) (pc := 9) 5 d_M_layTerm_9 cok7 rfl (Nat.lt_of_lt_of_le (by decide) hn) rfl (by decide) rfl w_569 ?_
  obtain ⟨h1, hvc⟩ := hvc
  obtain ⟨h2, hvc⟩ := hvc
  refine x_icmp_ge (tgt := 91) (pc := 12) d_M_layTerm_12 rfl h1 h2 (fun hb => ?_) (fun hb => ?_)
  · have hvc := hvc.1 hb
    refine x_iload (pc := 91) d_M_layTerm_91 rfl ?_
    exact x_iret (pc := 93) d_M_layTerm_93 rfl rfl (Nat.le_refl _) (hQ _ _ hvc)
  · have hvc := hvc.2 hb
    refine x_iconst (pc := 15) d_M_layTerm_15 ?_
    refine x_istore (pc := 16) d_M_layTerm_16 (by decide) ?_
    exact x_locals (xmask [true, true, true, true, true, true, true, false, false] _) (xmask_sub _ _) (hvc Q hQ)
set_option maxRecDepth 20000 in
theorem B_M_layTerm_18 {n : Nat} {R : xR} {M : xM} {P : Int → xM → Prop} (hn : 93 ≤ n) (hR : RC 93 R) {l1 l2 l3 l4 l5 l6 : Int} (hvc : (-2147483648 ≤ l6 ∧ l6 < 2147483648) ∧ (-2147483648 ≤ l3 * l3 ∧ l3 * l3 < 2147483648) ∧ (((l3 * l3) ≤ l6 → Xi m_M_layTerm 2 n R P 6 [some (vr 78), some (vi l1), some (vi l2), some (vi l3), some (vi l4), some (vi (l5 + 1)), none, none, none] [] M) ∧ (¬ (l3 * l3) ≤ l6 → (0 ≤ l5 ∧ l5 < 20) ∧ (-2147483648 ≤ M 84 l5.toNat ∧ M 84 l5.toNat < 2147483648) ∧ ((¬ (M 84 l5.toNat) = 0 → Xi m_M_layTerm 2 n R P 6 [some (vr 78), some (vi l1), some (vi l2), some (vi l3), some (vi l4), some (vi (l5 + 1)), none, none, none] [] M) ∧ ((M 84 l5.toNat) = 0 → (-2147483648 ≤ l3 ∧ l3 < 2147483648) ∧ (l3 ≠ 0) ∧ (l3 ≠ -1) ∧ (-2147483648 ≤ (Int.tdiv l6 l3) + (l6 - Int.tdiv l6 l3 * l3) ∧ (Int.tdiv l6 l3) + (l6 - Int.tdiv l6 l3 * l3) < 2147483648) ∧ ((l3 ≤ ((Int.tdiv l6 l3) + (l6 - Int.tdiv l6 l3 * l3)) → Xi m_M_layTerm 2 n R P 18 [some (vr 78), some (vi l1), some (vi l2), some (vi l3), some (vi l4), some (vi l5), some (vi (l6 + 1)), none, none] [] M) ∧ (¬ l3 ≤ ((Int.tdiv l6 l3) + (l6 - Int.tdiv l6 l3 * l3)) → Ci m_M_condition 1 n R [vr 78, vi l1, vi l2, vi (Int.tdiv l6 l3), vi (l6 - Int.tdiv l6 l3 * l3), vi l5] M (fun z9 M1 => (0 ≤ l4 ∧ l4 < 120) ∧ (∀ M2 : xM, M2 = xU M1 92 l4.toNat z9 → Xi m_M_layTerm 2 n R P 18 [some (vr 78), some (vi l1), some (vi l2), some (vi l3), some (vi (l4 + 1)), some (vi l5), some (vi (l6 + 1)), none, none] [] M2))))))))) : Xi m_M_layTerm 2 n R P 18 [some (vr 78), some (vi l1), some (vi l2), some (vi l3), some (vi l4), some (vi l5), some (vi l6), none, none] [] M := by
  intro Q hQ
  refine x_iload (pc := 18) d_M_layTerm_18 rfl ?_
  refine x_iload_n (pc := 20) d_M_layTerm_20 rfl rfl ?_
  refine x_iload_n (pc := 21) d_M_layTerm_21 rfl rfl ?_
  refine x_imul (pc := 22) d_M_layTerm_22 ?_
  obtain ⟨h1, hvc⟩ := hvc
  obtain ⟨h2, hvc⟩ := hvc
  refine x_icmp_ge (tgt := 85) (pc := 23) d_M_layTerm_23 rfl h1 h2 (fun hb => ?_) (fun hb => ?_)
  · have hvc := hvc.1 hb
    refine x_iinc (pc := 85) d_M_layTerm_85 rfl (by decide) ?_
    refine x_goto (tgt := 6) (pc := 88) d_M_layTerm_88 rfl ?_
    exact x_locals (xmask [true, true, true, true, true, true, false, false, false] _) (xmask_sub _ _) (hvc Q hQ)
  · have hvc := hvc.2 hb
    refine x_aload_n (pc := 26) d_M_layTerm_26 rfl rfl ?_
    refine x_getR (k := 78) (ci := 7) (pc := 27) (t := 84) 10 d_M_layTerm_27 cok7 rfl (Nat.lt_of_lt_of_le (by decide) hn) rfl (by decide) rfl (hR.at 78 10 rfl rfl) w_574 ?_
    refine x_iload (pc := 30) d_M_layTerm_30 rfl ?_
    obtain ⟨h3, hvc⟩ := hvc
    refine x_zald (N := 20) (pc := 32) d_M_layTerm_32 (Nat.lt_of_lt_of_le (by decide) hn) rfl (by decide) h3.1 h3.2 ?_
    obtain ⟨h4, hvc⟩ := hvc
    refine x_if_ne (tgt := 85) (pc := 33) d_M_layTerm_33 rfl h4 (fun hb => ?_) (fun hb => ?_)
    · have hvc := hvc.1 hb
      refine x_iinc (pc := 85) d_M_layTerm_85 rfl (by decide) ?_
      refine x_goto (tgt := 6) (pc := 88) d_M_layTerm_88 rfl ?_
      exact x_locals (xmask [true, true, true, true, true, true, false, false, false] _) (xmask_sub _ _) (hvc Q hQ)
    · have hvc := hvc.2 hb
      refine x_iload (pc := 36) d_M_layTerm_36 rfl ?_
      refine x_iload_n (pc := 38) d_M_layTerm_38 rfl rfl ?_
      obtain ⟨h5, hvc⟩ := hvc
      obtain ⟨h6, hvc⟩ := hvc
      obtain ⟨h7, hvc⟩ := hvc
      refine x_idiv (pc := 39) d_M_layTerm_39 h1 h5 h6 h7 ?_
      refine x_istore (pc := 40) d_M_layTerm_40 (by decide) ?_
      refine x_iload (pc := 42) d_M_layTerm_42 rfl ?_
      refine x_iload_n (pc := 44) d_M_layTerm_44 rfl rfl ?_
      refine x_irem (pc := 45) d_M_layTerm_45 h1 h5 h6 h7 ?_
      refine x_istore (pc := 46) d_M_layTerm_46 (by decide) ?_
      refine x_iload (pc := 48) d_M_layTerm_48 rfl ?_
      refine x_iload (pc := 50) d_M_layTerm_50 rfl ?_
      refine x_iadd (pc := 52) d_M_layTerm_52 ?_
      refine x_iload_n (pc := 53) d_M_layTerm_53 rfl rfl ?_
      obtain ⟨h8, hvc⟩ := hvc
      refine x_icmp_ge (tgt := 79) (pc := 54) d_M_layTerm_54 rfl h8 h5 (fun hb => ?_) (fun hb => ?_)
      · have hvc := hvc.1 hb
        refine x_iinc (pc := 79) d_M_layTerm_79 rfl (by decide) ?_
        refine x_goto (tgt := 18) (pc := 82) d_M_layTerm_82 rfl ?_
        exact x_locals (xmask [true, true, true, true, true, true, true, false, false] _) (xmask_sub _ _) (hvc Q hQ)
      · have hvc := hvc.2 hb
        refine x_aload_n (pc := 57) d_M_layTerm_57 rfl rfl ?_
        refine x_getR (k := 78) (ci := 7) (pc := 58) (t := 92) 20 d_M_layTerm_58 cok7 rfl (Nat.lt_of_lt_of_le (by decide) hn) rfl (by decide) rfl (hR.at 78 20 rfl rfl) w_584 ?_
        refine x_iload (pc := 61) d_M_layTerm_61 rfl ?_
        refine x_aload_n (pc := 63) d_M_layTerm_63 rfl rfl ?_
        refine x_iload_n (pc := 64) d_M_layTerm_64 rfl rfl ?_
        refine x_iload_n (pc := 65) d_M_layTerm_65 rfl rfl ?_
        refine x_iload (pc := 66) d_M_layTerm_66 rfl ?_
        refine x_iload (pc := 68) d_M_layTerm_68 rfl ?_
        refine x_iload (pc := 70) d_M_layTerm_70 rfl ?_
        refine y_callVi m_M_condition 1 145 78 7 21 [_, _, _, _, _] [_, _] rfl (pc := 72) d_M_layTerm_72 ok_M_condition w_779 w_781 w_39 pn_M_condition (Nat.lt_of_lt_of_le (by decide) hn) rfl rfl (by decide) (Nat.le_of_ble_eq_true rfl) (Nat.le_refl _) (Nat.le_refl _) hvc (fun z9 M1 hvc => ?_)
        obtain ⟨h10, hvc⟩ := hvc
        refine x_iast (N := 120) (pc := 75) d_M_layTerm_75 (Nat.lt_of_lt_of_le (by decide) hn) rfl (by decide) h10.1 h10.2 (fun M2 eM2 => ?_)
        have hvc := hvc M2 eM2
        refine x_iinc (pc := 76) d_M_layTerm_76 rfl (by decide) ?_
        refine x_iinc (pc := 79) d_M_layTerm_79 rfl (by decide) ?_
        refine x_goto (tgt := 18) (pc := 82) d_M_layTerm_82 rfl ?_
        exact x_locals (xmask [true, true, true, true, true, true, true, false, false] _) (xmask_sub _ _) (hvc Q hQ)
set_option maxRecDepth 20000 in
theorem E_M_layTerm {n : Nat} {R : xR} {M : xM} {P : Int → xM → Prop} (hn : 93 ≤ n) (hR : RC 93 R) {l1 l2 l3 : Int} (h : Xi m_M_layTerm 2 n R P 0 [some (vr 78), some (vi l1), some (vi l2), some (vi l3), none, none, none, none, none] [] M) : Ci m_M_layTerm 2 n R [vr 78, vi l1, vi l2, vi l3] M P :=
  Ci.of [some (vr 78), some (vi l1), some (vi l2), some (vi l3), none, none, none, none, none] (by decide) rfl (Nat.le_of_ble_eq_true rfl) rfl h
set_option maxRecDepth 20000 in
theorem B_M_isNew_0 {n : Nat} {R : xR} {M : xM} {P : Int → xM → Prop} (hn : 93 ≤ n) (hR : RC 93 R) {l1 l2 : Int} (hvc : Xi m_M_isNew 1 n R P 2 [some (vr 78), some (vi l1), some (vi l2), some (vi 0), none, none] [] M) : Xi m_M_isNew 1 n R P 0 [some (vr 78), some (vi l1), some (vi l2), none, none, none] [] M := by
  intro Q hQ
  refine x_iconst (pc := 0) d_M_isNew_0 ?_
  refine x_istore_n (pc := 1) d_M_isNew_1 rfl (by decide) ?_
  exact x_locals (xmask [true, true, true, true, false, false] _) (xmask_sub _ _) (hvc Q hQ)
set_option maxRecDepth 20000 in
theorem B_M_isNew_2 {n : Nat} {R : xR} {M : xM} {P : Int → xM → Prop} (hn : 93 ≤ n) (hR : RC 93 R) {l1 l2 l3 : Int} (hvc : (-2147483648 ≤ l3 ∧ l3 < 2147483648) ∧ (-2147483648 ≤ l2 ∧ l2 < 2147483648) ∧ ((l2 ≤ l3 → Xi m_M_isNew 1 n R P 91 [some (vr 78), some (vi l1), some (vi l2), some (vi 0), none, none] [] M) ∧ (¬ l2 ≤ l3 → (0 ≤ l3 ∧ l3 < 120) ∧ (0 ≤ M 91 l3.toNat ∧ M 91 l3.toNat < 120) ∧ Xi m_M_isNew 1 n R P 28 [some (vr 78), some (vi l1), some (vi l2), some (vi l3), some (vi (M 92 (M 91 l3.toNat).toNat)), some (vi (M 91 l3.toNat))] [] M))) : Xi m_M_isNew 1 n R P 2 [some (vr 78), some (vi l1), some (vi l2), some (vi l3), none, none] [] M := by
  intro Q hQ
  refine x_iload_n (pc := 2) d_M_isNew_2 rfl rfl ?_
  refine x_iload_n (pc := 3) d_M_isNew_3 rfl rfl ?_
  obtain ⟨h1, hvc⟩ := hvc
  obtain ⟨h2, hvc⟩ := hvc
  refine x_icmp_ge (tgt := 89) (pc := 4) d_M_isNew_4 rfl h1 h2 (fun hb => ?_) (fun hb => ?_)
  · have hvc := hvc.1 hb
    refine x_iconst (pc := 89) d_M_isNew_89 ?_
    refine x_istore_n (pc := 90) d_M_isNew_90 rfl (by decide) ?_
    exact x_locals (xmask [true, true, true, true, false, false] _) (xmask_sub _ _) (hvc Q hQ)
  · have hvc := hvc.2 hb
    refine x_aload_n (pc := 7) d_M_isNew_7 rfl rfl ?_
    refine x_getR (k := 78) (ci := 7) (pc := 8) (t := 92) 20 d_M_isNew_8 cok7 rfl (Nat.lt_of_lt_of_le (by decide) hn) rfl (by decide) rfl (hR.at 78 20 rfl rfl) w_584 ?_
    refine x_aload_n (pc := 11) d_M_isNew_11 rfl rfl ?_
    refine x_getR (k := 78) (ci := 7) (pc := 12) (t := 91) 19 d_M_isNew_12 cok7 rfl (Nat.lt_of_lt_of_le (by decide) hn) rfl (by decide) rfl (hR.at 78 19 rfl rfl) w_583 ?_
    refine x_iload_n (pc := 15) d_M_isNew_15 rfl rfl ?_
    obtain ⟨h3, hvc⟩ := hvc
    refine x_iald (N := 120) (pc := 16) d_M_isNew_16 (Nat.lt_of_lt_of_le (by decide) hn) rfl (by decide) h3.1 h3.2 ?_
    obtain ⟨h4, hvc⟩ := hvc
    refine x_iald (N := 120) (pc := 17) d_M_isNew_17 (Nat.lt_of_lt_of_le (by decide) hn) rfl (by decide) h4.1 h4.2 ?_
    refine x_istore (pc := 18) d_M_isNew_18 (by decide) ?_
    refine x_aload_n (pc := 20) d_M_isNew_20 rfl rfl ?_
    refine x_getR (k := 78) (ci := 7) (pc := 21) (t := 91) 19 d_M_isNew_21 cok7 rfl (Nat.lt_of_lt_of_le (by decide) hn) rfl (by decide) rfl (hR.at 78 19 rfl rfl) w_583 ?_
    refine x_iload_n (pc := 24) d_M_isNew_24 rfl rfl ?_
    refine x_iald (N := 120) (pc := 25) d_M_isNew_25 (Nat.lt_of_lt_of_le (by decide) hn) rfl (by decide) h3.1 h3.2 ?_
    refine x_istore (pc := 26) d_M_isNew_26 (by decide) ?_
    exact x_locals (xmask [true, true, true, true, true, true] _) (xmask_sub _ _) (hvc Q hQ)
set_option maxRecDepth 20000 in
theorem B_M_isNew_28 {n : Nat} {R : xR} {M : xM} {P : Int → xM → Prop} (hn : 93 ≤ n) (hR : RC 93 R) {l1 l2 l3 l4 l5 : Int} (hvc : (-2147483648 ≤ l5 ∧ l5 < 2147483648) ∧ (-2147483648 ≤ l1 ∧ l1 < 2147483648) ∧ ((l1 ≤ l5 → Xi m_M_isNew 1 n R P 2 [some (vr 78), some (vi l1), some (vi l2), some (vi (l3 + 1)), none, none] [] M) ∧ (¬ l1 ≤ l5 → (-2147483648 ≤ l4 ∧ l4 < 2147483648) ∧ ((l4 = 0 → Xi m_M_isNew 1 n R P 2 [some (vr 78), some (vi l1), some (vi l2), some (vi (l3 + 1)), none, none] [] M) ∧ (¬ l4 = 0 → (0 ≤ l5 ∧ l5 < 120) ∧ (0 ≤ (120 * l3) + l5 ∧ (120 * l3) + l5 < 14400) ∧ (0 ≤ (32 * l4) + (M 90 ((120 * l3) + l5).toNat) ∧ (32 * l4) + (M 90 ((120 * l3) + l5).toNat) < 1024) ∧ (∀ M1 : xM, M1 = xU M 92 l5.toNat (xXor (M 92 l5.toNat) (M 79 ((32 * l4) + (M 90 ((120 * l3) + l5).toNat)).toNat)) → Xi m_M_isNew 1 n R P 28 [some (vr 78), some (vi l1), some (vi l2), some (vi l3), some (vi l4), some (vi (l5 + 1))] [] M1)))))) : Xi m_M_isNew 1 n R P 28 [some (vr 78), some (vi l1), some (vi l2), some (vi l3), some (vi l4), some (vi l5)] [] M := by
  intro Q hQ
  refine x_iload (pc := 28) d_M_isNew_28 rfl ?_
  refine x_iload_n (pc := 30) d_M_isNew_30 rfl rfl ?_
  obtain ⟨h1, hvc⟩ := hvc
  obtain ⟨h2, hvc⟩ := hvc
  refine x_icmp_ge (tgt := 83) (pc := 31) d_M_isNew_31 rfl h1 h2 (fun hb => ?_) (fun hb => ?_)
  · have hvc := hvc.1 hb
    refine x_iinc (pc := 83) d_M_isNew_83 rfl (by decide) ?_
    refine x_goto (tgt := 2) (pc := 86) d_M_isNew_86 rfl ?_
    exact x_locals (xmask [true, true, true, true, false, false] _) (xmask_sub _ _) (hvc Q hQ)
  · have hvc := hvc.2 hb
    refine x_iload (pc := 34) d_M_isNew_34 rfl ?_
    obtain ⟨h3, hvc⟩ := hvc
    refine x_if_eq (tgt := 83) (pc := 36) d_M_isNew_36 rfl h3 (fun hb => ?_) (fun hb => ?_)
    · have hvc := hvc.1 hb
      refine x_iinc (pc := 83) d_M_isNew_83 rfl (by decide) ?_
      refine x_goto (tgt := 2) (pc := 86) d_M_isNew_86 rfl ?_
      exact x_locals (xmask [true, true, true, true, false, false] _) (xmask_sub _ _) (hvc Q hQ)
    · have hvc := hvc.2 hb
      refine x_aload_n (pc := 39) d_M_isNew_39 rfl rfl ?_
      refine x_getR (k := 78) (ci := 7) (pc := 40) (t := 92) 20 d_M_isNew_40 cok7 rfl (Nat.lt_of_lt_of_le (by decide) hn) rfl (by decide) rfl (hR.at 78 20 rfl rfl) w_584 ?_
      refine x_iload (pc := 43) d_M_isNew_43 rfl ?_
      refine x_aload_n (pc := 45) d_M_isNew_45 rfl rfl ?_
      refine x_getR (k := 78) (ci := 7) (pc := 46) (t := 92) 20 d_M_isNew_46 cok7 rfl (Nat.lt_of_lt_of_le (by decide) hn) rfl (by decide) rfl (hR.at 78 20 rfl rfl) w_584 ?_
      refine x_iload (pc := 49) d_M_isNew_49 rfl ?_
      obtain ⟨h4, hvc⟩ := hvc
      refine x_iald (N := 120) (pc := 51) d_M_isNew_51 (Nat.lt_of_lt_of_le (by decide) hn) rfl (by decide) h4.1 h4.2 ?_
      refine x_aload_n (pc := 52) d_M_isNew_52 rfl rfl ?_
      refine x_getR (k := 78) (ci := 7) (pc := 53) (t := 79) 2 d_M_isNew_53 cok7 rfl (Nat.lt_of_lt_of_le (by decide) hn) rfl (by decide) rfl (hR.at 78 2 rfl rfl) w_566 ?_
      refine x_bipush (pc := 56) d_M_isNew_56 (by decide) ?_
      refine x_iload (pc := 58) d_M_isNew_58 rfl ?_
      refine x_imul (pc := 60) d_M_isNew_60 ?_
      refine x_aload_n (pc := 61) d_M_isNew_61 rfl rfl ?_
      refine x_getR (k := 78) (ci := 7) (pc := 62) (t := 90) 18 d_M_isNew_62 cok7 rfl (Nat.lt_of_lt_of_le (by decide) hn) rfl (by decide) rfl (hR.at 78 18 rfl rfl) w_582 ?_
      refine x_bipush (pc := 65) d_M_isNew_65 (by decide) ?_
      refine x_iload_n (pc := 67) d_M_isNew_67 rfl rfl ?_
      refine x_imul (pc := 68) d_M_isNew_68 ?_
      refine x_iload (pc := 69) d_M_isNew_69 rfl ?_
      refine x_iadd (pc := 71) d_M_isNew_71 ?_
      obtain ⟨h5, hvc⟩ := hvc
      refine x_iald (N := 14400) (pc := 72) d_M_isNew_72 (Nat.lt_of_lt_of_le (by decide) hn) rfl (by decide) h5.1 h5.2 ?_
      refine x_iadd (pc := 73) d_M_isNew_73 ?_
      obtain ⟨h6, hvc⟩ := hvc
      refine x_iald (N := 1024) (pc := 74) d_M_isNew_74 (Nat.lt_of_lt_of_le (by decide) hn) rfl (by decide) h6.1 h6.2 ?_
      refine x_ixor (pc := 75) d_M_isNew_75 ?_
      refine x_iast (N := 120) (pc := 76) d_M_isNew_76 (Nat.lt_of_lt_of_le (by decide) hn) rfl (by decide) h4.1 h4.2 (fun M1 eM1 => ?_)
      have hvc := hvc M1 eM1
      refine x_iinc (pc := 77) d_M_isNew_77 rfl (by decide) ?_
      refine x_goto (tgt := 28) (pc := 80) d_M_isNew_80 rfl ?_
      exact x_locals (xmask [true, true, true, true, true, true] _) (xmask_sub _ _) (hvc Q hQ)
set_option maxRecDepth 20000 in
theorem B_M_isNew_91 {n : Nat} {R : xR} {M : xM} {P : Int → xM → Prop} (hn : 93 ≤ n) (hR : RC 93 R) {l1 l2 l3 : Int} (hvc : (-2147483648 ≤ l3 ∧ l3 < 2147483648) ∧ (-2147483648 ≤ l1 ∧ l1 < 2147483648) ∧ ((l1 ≤ l3 → ((¬ l3 = l1 → (0 ≤ l2 ∧ l2 < 120) ∧ (∀ M1 : xM, M1 = xU M 91 l2.toNat l3 → (0 ≤ l3 ∧ l3 < 120) ∧ Ci m_M_quotient 0 n R [vr 78, vi 1, vi (M1 92 l3.toNat)] M1 (fun z5 M2 => Xi m_M_isNew 1 n R P 141 [some (vr 78), some (vi l1), some (vi l2), some (vi l3), some (vi z5), some (vi 0)] [] M2))) ∧ (l3 = l1 → P 0 M))) ∧ (¬ l1 ≤ l3 → (0 ≤ l3 ∧ l3 < 120) ∧ (-2147483648 ≤ M 92 l3.toNat ∧ M 92 l3.toNat < 2147483648) ∧ ((¬ (M 92 l3.toNat) = 0 → ((¬ l3 = l1 → (0 ≤ l2 ∧ l2 < 120) ∧ (∀ M3 : xM, M3 = xU M 91 l2.toNat l3 → Ci m_M_quotient 0 n R [vr 78, vi 1, vi (M3 92 l3.toNat)] M3 (fun z9 M4 => Xi m_M_isNew 1 n R P 141 [some (vr 78), some (vi l1), some (vi l2), some (vi l3), some (vi z9), some (vi 0)] [] M4))) ∧ (l3 = l1 → P 0 M))) ∧ ((M 92 l3.toNat) = 0 → Xi m_M_isNew 1 n R P 91 [some (vr 78), some (vi l1), some (vi l2), some (vi (l3 + 1)), none, none] [] M))))) : Xi m_M_isNew 1 n R P 91 [some (vr 78), some (vi l1), some (vi l2), some (vi l3), none, none] [] M := by
  intro Q hQ
  refine x_iload_n (pc := 91) d_M_isNew_91 rfl rfl ?_
  refine x_iload_n (pc := 92) d_M_isNew_92 rfl rfl ?_
  obtain ⟨h1, hvc⟩ := hvc
  obtain ⟨h2, hvc⟩ := hvc
  refine x_icmp_ge (tgt := 111) (pc := 93) d_M_isNew_93 rfl h1 h2 (fun hb => ?_) (fun hb => ?_)
  · have hvc := hvc.1 hb
    refine x_iload_n (pc := 111) d_M_isNew_111 rfl rfl ?_
    refine x_iload_n (pc := 112) d_M_isNew_112 rfl rfl ?_
    refine x_icmp_ne (tgt := 118) (pc := 113) d_M_isNew_113 rfl h1 h2 (fun hb => ?_) (fun hb => ?_)
    · have hvc := hvc.1 hb
      refine x_aload_n (pc := 118) d_M_isNew_118 rfl rfl ?_
      refine x_getR (k := 78) (ci := 7) (pc := 119) (t := 91) 19 d_M_isNew_119 cok7 rfl (Nat.lt_of_lt_of_le (by decide) hn) rfl (by decide) rfl (hR.at 78 19 rfl rfl) w_583 ?_
      refine x_iload_n (pc := 122) d_M_isNew_122 rfl rfl ?_
      refine x_iload_n (pc := 123) d_M_isNew_123 rfl rfl ?_
      obtain ⟨h3, hvc⟩ := hvc
      refine x_iast (N := 120) (pc := 124) d_M_isNew_124 (Nat.lt_of_lt_of_le (by decide) hn) rfl (by decide) h3.1 h3.2 (fun M1 eM1 => ?_)
      have hvc := hvc M1 eM1
      refine x_aload_n (pc := 125) d_M_isNew_125 rfl rfl ?_
      refine x_iconst (pc := 126) d_M_isNew_126 ?_
      refine x_aload_n (pc := 127) d_M_isNew_127 rfl rfl ?_
      refine x_getR (k := 78) (ci := 7) (pc := 128) (t := 92) 20 d_M_isNew_128 cok7 rfl (Nat.lt_of_lt_of_le (by decide) hn) rfl (by decide) rfl (hR.at 78 20 rfl rfl) w_584 ?_
      refine x_iload_n (pc := 131) d_M_isNew_131 rfl rfl ?_
      obtain ⟨h4, hvc⟩ := hvc
      refine x_iald (N := 120) (pc := 132) d_M_isNew_132 (Nat.lt_of_lt_of_le (by decide) hn) rfl (by decide) h4.1 h4.2 ?_
      refine y_callVi m_M_quotient 0 80 78 7 21 [_, _] [] rfl (pc := 133) d_M_isNew_133 ok_M_quotient w_647 w_649 w_23 pn_M_quotient (Nat.lt_of_lt_of_le (by decide) hn) rfl rfl (by decide) (Nat.le_of_ble_eq_true rfl) (Nat.le_refl _) (Nat.le_refl _) hvc (fun z5 M2 hvc => ?_)
      refine x_istore (pc := 136) d_M_isNew_136 (by decide) ?_
      refine x_iconst (pc := 138) d_M_isNew_138 ?_
      refine x_istore (pc := 139) d_M_isNew_139 (by decide) ?_
      exact x_locals (xmask [true, true, true, true, true, true] _) (xmask_sub _ _) (hvc Q hQ)
    · have hvc := hvc.2 hb
      refine x_iconst (pc := 116) d_M_isNew_116 ?_
      exact x_zret (pc := 117) d_M_isNew_117 rfl (by decide) rfl (Nat.le_refl _) (hQ _ _ hvc)
  · have hvc := hvc.2 hb
    refine x_aload_n (pc := 96) d_M_isNew_96 rfl rfl ?_
    refine x_getR (k := 78) (ci := 7) (pc := 97) (t := 92) 20 d_M_isNew_97 cok7 rfl (Nat.lt_of_lt_of_le (by decide) hn) rfl (by decide) rfl (hR.at 78 20 rfl rfl) w_584 ?_
    refine x_iload_n (pc := 100) d_M_isNew_100 rfl rfl ?_
    obtain ⟨h6, hvc⟩ := hvc
    refine x_iald (N := 120) (pc := 101) d_M_isNew_101 (Nat.lt_of_lt_of_le (by decide) hn) rfl (by decide) h6.1 h6.2 ?_
    obtain ⟨h7, hvc⟩ := hvc
    refine x_if_ne (tgt := 111) (pc := 102) d_M_isNew_102 rfl h7 (fun hb => ?_) (fun hb => ?_)
    · have hvc := hvc.1 hb
      refine x_iload_n (pc := 111) d_M_isNew_111 rfl rfl ?_
      refine x_iload_n (pc := 112) d_M_isNew_112 rfl rfl ?_
      refine x_icmp_ne (tgt := 118) (pc := 113) d_M_isNew_113 rfl h1 h2 (fun hb => ?_) (fun hb => ?_)
      · have hvc := hvc.1 hb
        refine x_aload_n (pc := 118) d_M_isNew_118 rfl rfl ?_
        refine x_getR (k := 78) (ci := 7) (pc := 119) (t := 91) 19 d_M_isNew_119 cok7 rfl (Nat.lt_of_lt_of_le (by decide) hn) rfl (by decide) rfl (hR.at 78 19 rfl rfl) w_583 ?_
        refine x_iload_n (pc := 122) d_M_isNew_122 rfl rfl ?_
        refine x_iload_n (pc := 123) d_M_isNew_123 rfl rfl ?_
        obtain ⟨h8, hvc⟩ := hvc
        refine x_iast (N := 120) (pc := 124) d_M_isNew_124 (Nat.lt_of_lt_of_le (by decide) hn) rfl (by decide) h8.1 h8.2 (fun M3 eM3 => ?_)
        have hvc := hvc M3 eM3
        refine x_aload_n (pc := 125) d_M_isNew_125 rfl rfl ?_
        refine x_iconst (pc := 126) d_M_isNew_126 ?_
        refine x_aload_n (pc := 127) d_M_isNew_127 rfl rfl ?_
        refine x_getR (k := 78) (ci := 7) (pc := 128) (t := 92) 20 d_M_isNew_128 cok7 rfl (Nat.lt_of_lt_of_le (by decide) hn) rfl (by decide) rfl (hR.at 78 20 rfl rfl) w_584 ?_
        refine x_iload_n (pc := 131) d_M_isNew_131 rfl rfl ?_
        refine x_iald (N := 120) (pc := 132) d_M_isNew_132 (Nat.lt_of_lt_of_le (by decide) hn) rfl (by decide) h6.1 h6.2 ?_
        refine y_callVi m_M_quotient 0 80 78 7 21 [_, _] [] rfl (pc := 133) d_M_isNew_133 ok_M_quotient w_647 w_649 w_23 pn_M_quotient (Nat.lt_of_lt_of_le (by decide) hn) rfl rfl (by decide) (Nat.le_of_ble_eq_true rfl) (Nat.le_refl _) (Nat.le_refl _) hvc (fun z9 M4 hvc => ?_)
        refine x_istore (pc := 136) d_M_isNew_136 (by decide) ?_
        refine x_iconst (pc := 138) d_M_isNew_138 ?_
        refine x_istore (pc := 139) d_M_isNew_139 (by decide) ?_
        exact x_locals (xmask [true, true, true, true, true, true] _) (xmask_sub _ _) (hvc Q hQ)
      · have hvc := hvc.2 hb
        refine x_iconst (pc := 116) d_M_isNew_116 ?_
        exact x_zret (pc := 117) d_M_isNew_117 rfl (by decide) rfl (Nat.le_refl _) (hQ _ _ hvc)
    · have hvc := hvc.2 hb
      refine x_iinc (pc := 105) d_M_isNew_105 rfl (by decide) ?_
      refine x_goto (tgt := 91) (pc := 108) d_M_isNew_108 rfl ?_
      exact x_locals (xmask [true, true, true, true, false, false] _) (xmask_sub _ _) (hvc Q hQ)
set_option maxRecDepth 20000 in
theorem B_M_isNew_141 {n : Nat} {R : xR} {M : xM} {P : Int → xM → Prop} (hn : 93 ≤ n) (hR : RC 93 R) {l1 l2 l3 l4 l5 : Int} (hvc : (-2147483648 ≤ l5 ∧ l5 < 2147483648) ∧ (-2147483648 ≤ l1 ∧ l1 < 2147483648) ∧ ((l1 ≤ l5 → P 1 M) ∧ (¬ l1 ≤ l5 → (0 ≤ l5 ∧ l5 < 120) ∧ (0 ≤ (32 * l4) + (M 92 l5.toNat) ∧ (32 * l4) + (M 92 l5.toNat) < 1024) ∧ (0 ≤ (120 * l2) + l5 ∧ (120 * l2) + l5 < 14400) ∧ (∀ M1 : xM, M1 = xU M 90 ((120 * l2) + l5).toNat (M 79 ((32 * l4) + (M 92 l5.toNat)).toNat) → Xi m_M_isNew 1 n R P 141 [some (vr 78), some (vi l1), some (vi l2), some (vi l3), some (vi l4), some (vi (l5 + 1))] [] M1)))) : Xi m_M_isNew 1 n R P 141 [some (vr 78), some (vi l1), some (vi l2), some (vi l3), some (vi l4), some (vi l5)] [] M := by
  intro Q hQ
  refine x_iload (pc := 141) d_M_isNew_141 rfl ?_
  refine x_iload_n (pc := 143) d_M_isNew_143 rfl rfl ?_
  obtain ⟨h1, hvc⟩ := hvc
  obtain ⟨h2, hvc⟩ := hvc
  refine x_icmp_ge (tgt := 183) (pc := 144) d_M_isNew_144 rfl h1 h2 (fun hb => ?_) (fun hb => ?_)
  · have hvc := hvc.1 hb
    refine x_iconst (pc := 183) d_M_isNew_183 ?_
    exact x_zret (pc := 184) d_M_isNew_184 rfl (by decide) rfl (Nat.le_refl _) (hQ _ _ hvc)
  · have hvc := hvc.2 hb
    refine x_aload_n (pc := 147) d_M_isNew_147 rfl rfl ?_
    refine x_getR (k := 78) (ci := 7) (pc := 148) (t := 90) 18 d_M_isNew_148 cok7 rfl (Nat.lt_of_lt_of_le (by decide) hn) rfl (by decide) rfl (hR.at 78 18 rfl rfl) w_582 ?_
    refine x_bipush (pc := 151) d_M_isNew_151 (by decide) ?_
    refine x_iload_n (pc := 153) d_M_isNew_153 rfl rfl ?_
    refine x_imul (pc := 154) d_M_isNew_154 ?_
    refine x_iload (pc := 155) d_M_isNew_155 rfl ?_
    refine x_iadd (pc := 157) d_M_isNew_157 ?_
    refine x_aload_n (pc := 158) d_M_isNew_158 rfl rfl ?_
    refine x_getR (k := 78) (ci := 7) (pc := 159) (t := 79) 2 d_M_isNew_159 cok7 rfl (Nat.lt_of_lt_of_le (by decide) hn) rfl (by decide) rfl (hR.at 78 2 rfl rfl) w_566 ?_
    refine x_bipush (pc := 162) d_M_isNew_162 (by decide) ?_
    refine x_iload (pc := 164) d_M_isNew_164 rfl ?_
    refine x_imul (pc := 166) d_M_isNew_166 ?_
    refine x_aload_n (pc := 167) d_M_isNew_167 rfl rfl ?_
    refine x_getR (k := 78) (ci := 7) (pc := 168) (t := 92) 20 d_M_isNew_168 cok7 rfl (Nat.lt_of_lt_of_le (by decide) hn) rfl (by decide) rfl (hR.at 78 20 rfl rfl) w_584 ?_
    refine x_iload (pc := 171) d_M_isNew_171 rfl ?_
    obtain ⟨h3, hvc⟩ := hvc
    refine x_iald (N := 120) (pc := 173) d_M_isNew_173 (Nat.lt_of_lt_of_le (by decide) hn) rfl (by decide) h3.1 h3.2 ?_
    refine x_iadd (pc := 174) d_M_isNew_174 ?_
    obtain ⟨h4, hvc⟩ := hvc
    refine x_iald (N := 1024) (pc := 175) d_M_isNew_175 (Nat.lt_of_lt_of_le (by decide) hn) rfl (by decide) h4.1 h4.2 ?_
    obtain ⟨h5, hvc⟩ := hvc
    refine x_iast (N := 14400) (pc := 176) d_M_isNew_176 (Nat.lt_of_lt_of_le (by decide) hn) rfl (by decide) h5.1 h5.2 (fun M1 eM1 => ?_)
    have hvc := hvc M1 eM1
    refine x_iinc (pc := 177) d_M_isNew_177 rfl (by decide) ?_
    refine x_goto (tgt := 141) (pc := 180) d_M_isNew_180 rfl ?_
    exact x_locals (xmask [true, true, true, true, true, true] _) (xmask_sub _ _) (hvc Q hQ)
set_option maxRecDepth 20000 in
theorem E_M_isNew {n : Nat} {R : xR} {M : xM} {P : Int → xM → Prop} (hn : 93 ≤ n) (hR : RC 93 R) {l1 l2 : Int} (h : Xi m_M_isNew 1 n R P 0 [some (vr 78), some (vi l1), some (vi l2), none, none, none] [] M) : Ci m_M_isNew 1 n R [vr 78, vi l1, vi l2] M P :=
  Ci.of [some (vr 78), some (vi l1), some (vi l2), none, none, none] (by decide) rfl (Nat.le_of_ble_eq_true rfl) rfl h
set_option maxRecDepth 20000 in
theorem B_M_weight_0 {n : Nat} {R : xR} {M : xM} {P : Int → xM → Prop} (hn : 93 ≤ n) (hR : RC 93 R) {l1 : Int} (hvc : (-2147483648 ≤ l1 ∧ l1 < 2147483648) ∧ ((l1 < 1 → P ((-1)) M) ∧ (¬ l1 < 1 → ((l1 ≤ 3 → Ci m_M_kept 0 n R [vr 78] M (fun z2 M1 => (-2147483648 ≤ z2 ∧ z2 < 2147483648) ∧ (-2147483648 ≤ M1 78 6 ∧ M1 78 6 < 2147483648) ∧ (((M1 78 6) ≤ z2 → Xi m_M_weight 3 n R P 30 [some (vr 78), some (vi l1), some (vi 0), some (vi 0), none, none] [] M1) ∧ (¬ (M1 78 6) ≤ z2 → P ((-3)) M1)))) ∧ (¬ l1 ≤ 3 → P ((-1)) M))))) : Xi m_M_weight 3 n R P 0 [some (vr 78), some (vi l1), none, none, none, none] [] M := by
  intro Q hQ
  refine x_iload_n (pc := 0) d_M_weight_0 rfl rfl ?_
  refine x_iconst (pc := 1) d_M_weight_1 ?_
  obtain ⟨h1, hvc⟩ := hvc
  refine x_icmp_lt (tgt := 10) (pc := 2) d_M_weight_2 rfl h1 ⟨by decide, by decide⟩ (fun hb => ?_) (fun hb => ?_)
  · have hvc := hvc.1 hb
    refine x_iconst (pc := 10) d_M_weight_10 ?_
    exact x_iret (pc := 11) d_M_weight_11 rfl rfl (Nat.le_refl _) (hQ _ _ hvc)
  · have hvc := hvc.2 hb
    refine x_iload_n (pc := 5) d_M_weight_5 rfl rfl ?_
    refine x_iconst (pc := 6) d_M_weight_6 ?_
    refine x_icmp_le (tgt := 12) (pc := 7) d_M_weight_7 rfl h1 ⟨by decide, by decide⟩ (fun hb => ?_) (fun hb => ?_)
    · have hvc := hvc.1 hb
      refine x_aload_n (pc := 12) d_M_weight_12 rfl rfl ?_
      refine y_callVi m_M_kept 0 127 78 7 21 [] [] rfl (pc := 13) d_M_weight_13 ok_M_kept w_719 w_721 w_32 pn_M_kept (Nat.lt_of_lt_of_le (by decide) hn) rfl rfl (by decide) (Nat.le_of_ble_eq_true rfl) (Nat.le_refl _) (Nat.le_refl _) hvc (fun z2 M1 hvc => ?_)
      refine x_aload_n (pc := 16) d_M_weight_16 rfl rfl ?_
      refine x_getI (k := 78) (ci := 7) (pc := 17) 6 d_M_weight_17 cok7 rfl (Nat.lt_of_lt_of_le (by decide) hn) rfl (by decide) rfl w_570 ?_
      obtain ⟨h3, hvc⟩ := hvc
      obtain ⟨h4, hvc⟩ := hvc
      refine x_icmp_ge (tgt := 26) (pc := 20) d_M_weight_20 rfl h3 h4 (fun hb => ?_) (fun hb => ?_)
      · have hvc := hvc.1 hb
        refine x_iconst (pc := 26) d_M_weight_26 ?_
        refine x_istore_n (pc := 27) d_M_weight_27 rfl (by decide) ?_
        refine x_iconst (pc := 28) d_M_weight_28 ?_
        refine x_istore_n (pc := 29) d_M_weight_29 rfl (by decide) ?_
        exact x_locals (xmask [true, true, true, true, false, false] _) (xmask_sub _ _) (hvc Q hQ)
      · have hvc := hvc.2 hb
        refine x_bipush (pc := 23) d_M_weight_23 (by decide) ?_
        exact x_iret (pc := 25) d_M_weight_25 rfl rfl (Nat.le_refl _) (hQ _ _ hvc)
    · have hvc := hvc.2 hb
      refine x_iconst (pc := 10) d_M_weight_10 ?_
      exact x_iret (pc := 11) d_M_weight_11 rfl rfl (Nat.le_refl _) (hQ _ _ hvc)
set_option maxRecDepth 20000 in
theorem B_M_weight_30 {n : Nat} {R : xR} {M : xM} {P : Int → xM → Prop} (hn : 93 ≤ n) (hR : RC 93 R) {l1 l2 l3 : Int} (hvc : (-2147483648 ≤ l3 ∧ l3 < 2147483648) ∧ ((200 ≤ l3 → P l3 M) ∧ (¬ 200 ≤ l3 → Xi m_M_weight 3 n R P 40 [some (vr 78), some (vi l1), some (vi l2), some (vi l3), some (vi 0), none] [] M))) : Xi m_M_weight 3 n R P 30 [some (vr 78), some (vi l1), some (vi l2), some (vi l3), none, none] [] M := by
  intro Q hQ
  refine x_iload_n (pc := 30) d_M_weight_30 rfl rfl ?_
  refine x_sipush (pc := 31) d_M_weight_31 (by decide) ?_
  obtain ⟨h1, hvc⟩ := hvc
  refine x_icmp_ge (tgt := 100) (pc := 34) d_M_weight_34 rfl h1 ⟨by decide, by decide⟩ (fun hb => ?_) (fun hb => ?_)
  · have hvc := hvc.1 hb
    refine x_iload_n (pc := 100) d_M_weight_100 rfl rfl ?_
    exact x_iret (pc := 101) d_M_weight_101 rfl rfl (Nat.le_refl _) (hQ _ _ hvc)
  · have hvc := hvc.2 hb
    refine x_iconst (pc := 37) d_M_weight_37 ?_
    refine x_istore (pc := 38) d_M_weight_38 (by decide) ?_
    exact x_locals (xmask [true, true, true, true, true, false] _) (xmask_sub _ _) (hvc Q hQ)
set_option maxRecDepth 20000 in
theorem B_M_weight_40 {n : Nat} {R : xR} {M : xM} {P : Int → xM → Prop} (hn : 93 ≤ n) (hR : RC 93 R) {l1 l2 l3 l4 : Int} (hvc : (-2147483648 ≤ ((M 78 6) - 1) * l4 ∧ ((M 78 6) - 1) * l4 < 2147483648) ∧ (-2147483648 ≤ l3 ∧ l3 < 2147483648) ∧ ((l3 < (((M 78 6) - 1) * l4) → Xi m_M_weight 3 n R P 30 [some (vr 78), some (vi l1), some (vi l2), some (vi (l3 + 1)), none, none] [] M) ∧ (¬ l3 < (((M 78 6) - 1) * l4) → Ci m_M_layTerm 2 n R [vr 78, vi (l3 - (((M 78 6) - 1) * l4)), vi l4, vi l1] M (fun z3 M1 => Ci m_M_isNew 1 n R [vr 78, vi z3, vi l2] M1 (fun z4 M2 => (-2147483648 ≤ z4 ∧ z4 < 2147483648) ∧ ((¬ z4 = 0 → Xi m_M_weight 3 n R P 40 [some (vr 78), some (vi l1), some (vi (l2 + 1)), some (vi l3), some (vi (l4 + 1)), none] [] M2) ∧ (z4 = 0 → P l3 M2))))))) : Xi m_M_weight 3 n R P 40 [some (vr 78), some (vi l1), some (vi l2), some (vi l3), some (vi l4), none] [] M := by
  intro Q hQ
  refine x_aload_n (pc := 40) d_M_weight_40 rfl rfl ?_
  refine x_getI (k := 78) (ci := 7) (pc := 41) 6 d_M_weight_41 cok7 rfl (Nat.lt_of_lt_of_le (by decide) hn) rfl (by decide) rfl w_570 ?_
  refine x_iconst (pc := 44) d_M_weight_44 ?_
  refine x_isub (pc := 45) d_M_weight_45 ?_
  refine x_iload (pc := 46) d_M_weight_46 rfl ?_
  refine x_imul (pc := 48) d_M_weight_48 ?_
  refine x_iload_n (pc := 49) d_M_weight_49 rfl rfl ?_
  obtain ⟨h1, hvc⟩ := hvc
  obtain ⟨h2, hvc⟩ := hvc
  refine x_icmp_gt (tgt := 94) (pc := 50) d_M_weight_50 rfl h1 h2 (fun hb => ?_) (fun hb => ?_)
  · have hvc := hvc.1 hb
    refine x_iinc (pc := 94) d_M_weight_94 rfl (by decide) ?_
    refine x_goto (tgt := 30) (pc := 97) d_M_weight_97 rfl ?_
    exact x_locals (xmask [true, true, true, true, false, false] _) (xmask_sub _ _) (hvc Q hQ)
  · have hvc := hvc.2 hb
    refine x_aload_n (pc := 53) d_M_weight_53 rfl rfl ?_
    refine x_iload_n (pc := 54) d_M_weight_54 rfl rfl ?_
    refine x_aload_n (pc := 55) d_M_weight_55 rfl rfl ?_
    refine x_getI (k := 78) (ci := 7) (pc := 56) 6 d_M_weight_56 cok7 rfl (Nat.lt_of_lt_of_le (by decide) hn) rfl (by decide) rfl w_570 ?_
    refine x_iconst (pc := 59) d_M_weight_59 ?_
    refine x_isub (pc := 60) d_M_weight_60 ?_
    refine x_iload (pc := 61) d_M_weight_61 rfl ?_
    refine x_imul (pc := 63) d_M_weight_63 ?_
    refine x_isub (pc := 64) d_M_weight_64 ?_
    refine x_iload (pc := 65) d_M_weight_65 rfl ?_
    refine x_iload_n (pc := 67) d_M_weight_67 rfl rfl ?_
    refine y_callVi m_M_layTerm 2 149 78 7 21 [_, _, _] [] rfl (pc := 68) d_M_weight_68 ok_M_layTerm w_775 w_777 w_38 pn_M_layTerm (Nat.lt_of_lt_of_le (by decide) hn) rfl rfl (by decide) (Nat.le_of_ble_eq_true rfl) (Nat.le_refl _) (Nat.le_refl _) hvc (fun z3 M1 hvc => ?_)
    refine x_istore (pc := 71) d_M_weight_71 (by decide) ?_
    refine x_aload_n (pc := 73) d_M_weight_73 rfl rfl ?_
    refine x_iload (pc := 74) d_M_weight_74 rfl ?_
    refine x_iload_n (pc := 76) d_M_weight_76 rfl rfl ?_
    refine y_callVi m_M_isNew 1 153 78 7 21 [_, _] [] rfl (pc := 77) d_M_weight_77 ok_M_isNew w_783 w_785 w_40 pn_M_isNew (Nat.lt_of_lt_of_le (by decide) hn) rfl rfl (by decide) (Nat.le_of_ble_eq_true rfl) (Nat.le_refl _) (Nat.le_refl _) hvc (fun z4 M2 hvc => ?_)
    obtain ⟨h5, hvc⟩ := hvc
    refine x_if_ne (tgt := 85) (pc := 80) d_M_weight_80 rfl h5 (fun hb => ?_) (fun hb => ?_)
    · have hvc := hvc.1 hb
      refine x_iinc (pc := 85) d_M_weight_85 rfl (by decide) ?_
      refine x_iinc (pc := 88) d_M_weight_88 rfl (by decide) ?_
      refine x_goto (tgt := 40) (pc := 91) d_M_weight_91 rfl ?_
      exact x_locals (xmask [true, true, true, true, true, false] _) (xmask_sub _ _) (hvc Q hQ)
    · have hvc := hvc.2 hb
      refine x_iload_n (pc := 83) d_M_weight_83 rfl rfl ?_
      exact x_iret (pc := 84) d_M_weight_84 rfl rfl (Nat.le_refl _) (hQ _ _ hvc)
set_option maxRecDepth 20000 in
theorem E_M_weight {n : Nat} {R : xR} {M : xM} {P : Int → xM → Prop} (hn : 93 ≤ n) (hR : RC 93 R) {l1 : Int} (h : Xi m_M_weight 3 n R P 0 [some (vr 78), some (vi l1), none, none, none, none] [] M) : Ci m_M_weight 3 n R [vr 78, vi l1] M P :=
  Ci.of [some (vr 78), some (vi l1), none, none, none, none] (by decide) rfl (Nat.le_of_ble_eq_true rfl) rfl h
