set_option maxRecDepth 20000 in
theorem B_C_begin_0 {n : Nat} {R : xR} {M : xM} {P : xM → Prop} (hn : 78 ≤ n) (hR : RC 78 R) {l1 l2 l3 : Int} (hvc : (∀ M1 : xM, M1 = xU M 5 1 l1 → (∀ M2 : xM, M2 = xU M1 5 2 l2 → (∀ M3 : xM, M3 = xU M2 5 3 l3 → Xv m_C_begin 3 n R P 18 [some (vr 5), some (vi l1), some (vi l2), some (vi l3), some (vi 0)] [] M3)))) : Xv m_C_begin 3 n R P 0 [some (vr 5), some (vi l1), some (vi l2), some (vi l3), none] [] M := by
  intro Q hQ
  refine x_aload_n (pc := 0) d_C_begin_0 rfl rfl ?_
  refine x_iload_n (pc := 1) d_C_begin_1 rfl rfl ?_
  refine x_putI (k := 5) (ci := 2) (pc := 2) 1 d_C_begin_2 cok2 rfl (Nat.lt_of_lt_of_le (by decide) hn) rfl (by decide) rfl rfl rfl w_98 (fun M1 eM1 => ?_)
  have hvc := hvc M1 eM1
  refine x_aload_n (pc := 5) d_C_begin_5 rfl rfl ?_
  refine x_iload_n (pc := 6) d_C_begin_6 rfl rfl ?_
  refine x_putI (k := 5) (ci := 2) (pc := 7) 2 d_C_begin_7 cok2 rfl (Nat.lt_of_lt_of_le (by decide) hn) rfl (by decide) rfl rfl rfl w_99 (fun M2 eM2 => ?_)
  have hvc := hvc M2 eM2
  refine x_aload_n (pc := 10) d_C_begin_10 rfl rfl ?_
  refine x_iload_n (pc := 11) d_C_begin_11 rfl rfl ?_
  refine x_putI (k := 5) (ci := 2) (pc := 12) 3 d_C_begin_12 cok2 rfl (Nat.lt_of_lt_of_le (by decide) hn) rfl (by decide) rfl rfl rfl w_105 (fun M3 eM3 => ?_)
  have hvc := hvc M3 eM3
  refine x_iconst (pc := 15) d_C_begin_15 ?_
  refine x_istore (pc := 16) d_C_begin_16 (by decide) ?_
  exact x_locals (xmask [true, true, true, true, true] _) (xmask_sub _ _) (hvc Q hQ)
set_option maxRecDepth 20000 in
theorem B_C_begin_18 {n : Nat} {R : xR} {M : xM} {P : xM → Prop} (hn : 78 ≤ n) (hR : RC 78 R) {l1 l2 l3 l4 : Int} (hvc : (-2147483648 ≤ l4 ∧ l4 < 2147483648) ∧ (-2147483648 ≤ l2 ∧ l2 < 2147483648) ∧ ((l2 ≤ l4 → Xv m_C_begin 3 n R P 50 [some (vr 5), some (vi l1), some (vi l2), some (vi l3), some (vi 0)] [] M) ∧ (¬ l2 ≤ l4 → (0 ≤ l4 ∧ l4 < 32) ∧ (0 ≤ l4 ∧ l4 < 20) ∧ (∀ M1 : xM, M1 = xU M 6 l4.toNat (M 2 l4.toNat) → Xv m_C_begin 3 n R P 18 [some (vr 5), some (vi l1), some (vi l2), some (vi l3), some (vi (l4 + 1))] [] M1)))) : Xv m_C_begin 3 n R P 18 [some (vr 5), some (vi l1), some (vi l2), some (vi l3), some (vi l4)] [] M := by
  intro Q hQ
  refine x_iload (pc := 18) d_C_begin_18 rfl ?_
  refine x_iload_n (pc := 20) d_C_begin_20 rfl rfl ?_
  obtain ⟨h1, hvc⟩ := hvc
  obtain ⟨h2, hvc⟩ := hvc
  refine x_icmp_ge (tgt := 47) (pc := 21) d_C_begin_21 rfl h1 h2 (fun hb => ?_) (fun hb => ?_)
  · have hvc := hvc.1 hb
    refine x_iconst (pc := 47) d_C_begin_47 ?_
    refine x_istore (pc := 48) d_C_begin_48 (by decide) ?_
    exact x_locals (xmask [true, true, true, true, true] _) (xmask_sub _ _) (hvc Q hQ)
  · have hvc := hvc.2 hb
    refine x_aload_n (pc := 24) d_C_begin_24 rfl rfl ?_
    refine x_getR (k := 5) (ci := 2) (pc := 25) (t := 6) 4 d_C_begin_25 cok2 rfl (Nat.lt_of_lt_of_le (by decide) hn) rfl (by decide) rfl (hR.at 5 4 rfl rfl) w_108 ?_
    refine x_iload (pc := 28) d_C_begin_28 rfl ?_
    refine x_aload_n (pc := 30) d_C_begin_30 rfl rfl ?_
    refine x_getR (k := 5) (ci := 2) (pc := 31) (t := 1) 0 d_C_begin_31 cok2 rfl (Nat.lt_of_lt_of_le (by decide) hn) rfl (by decide) rfl (hR.at 5 0 rfl rfl) w_97 ?_
    refine x_getRN (k := 1) (ci := 1) (pc := 34) (t := 2) 2 d_C_begin_34 cok1 rfl (Nat.lt_of_lt_of_le (by decide) hn) rfl (by decide) rfl (hR.at 1 2 rfl rfl) w_73 ?_
    refine x_iload (pc := 37) d_C_begin_37 rfl ?_
    obtain ⟨h3, hvc⟩ := hvc
    refine x_iald (N := 32) (pc := 39) d_C_begin_39 (Nat.lt_of_lt_of_le (by decide) hn) rfl (by decide) h3.1 h3.2 ?_
    obtain ⟨h4, hvc⟩ := hvc
    refine x_iast (N := 20) (pc := 40) d_C_begin_40 (Nat.lt_of_lt_of_le (by decide) hn) rfl (by decide) h4.1 h4.2 (fun M1 eM1 => ?_)
    have hvc := hvc M1 eM1
    refine x_iinc (pc := 41) d_C_begin_41 rfl (by decide) ?_
    refine x_goto (tgt := 18) (pc := 44) d_C_begin_44 rfl ?_
    exact x_locals (xmask [true, true, true, true, true] _) (xmask_sub _ _) (hvc Q hQ)
set_option maxRecDepth 20000 in
theorem B_C_begin_50 {n : Nat} {R : xR} {M : xM} {P : xM → Prop} (hn : 78 ≤ n) (hR : RC 78 R) {l1 l2 l3 l4 : Int} (hvc : (-2147483648 ≤ l4 ∧ l4 < 2147483648) ∧ (-2147483648 ≤ l2 ∧ l2 < 2147483648) ∧ ((l2 ≤ l4 → Cv m_C_fillGenerator 1 n R [vr 5] M (fun M1 => Xv m_C_begin 3 n R P 75 [some (vr 5), some (vi l1), some (vi l2), some (vi l3), some (vi 0)] [] M1)) ∧ (¬ l2 ≤ l4 → Cv m_C_fillFactors 1 n R [vr 5, vi l4] M (fun M2 => Xv m_C_begin 3 n R P 50 [some (vr 5), some (vi l1), some (vi l2), some (vi l3), some (vi (l4 + 1))] [] M2)))) : Xv m_C_begin 3 n R P 50 [some (vr 5), some (vi l1), some (vi l2), some (vi l3), some (vi l4)] [] M := by
  intro Q hQ
  refine x_iload (pc := 50) d_C_begin_50 rfl ?_
  refine x_iload_n (pc := 52) d_C_begin_52 rfl rfl ?_
  obtain ⟨h1, hvc⟩ := hvc
  obtain ⟨h2, hvc⟩ := hvc
  refine x_icmp_ge (tgt := 68) (pc := 53) d_C_begin_53 rfl h1 h2 (fun hb => ?_) (fun hb => ?_)
  · have hvc := hvc.1 hb
    refine x_aload_n (pc := 68) d_C_begin_68 rfl rfl ?_
    refine y_callVv m_C_fillGenerator 1 58 5 2 11 [] [] rfl (pc := 69) d_C_begin_69 ok_C_fillGenerator w_298 w_300 w_3 pn_C_fillGenerator (Nat.lt_of_lt_of_le (by decide) hn) rfl rfl (by decide) (Nat.le_of_ble_eq_true rfl) (Nat.le_refl _) (Nat.le_refl _) hvc (fun M1 hvc => ?_)
    refine x_iconst (pc := 72) d_C_begin_72 ?_
    refine x_istore (pc := 73) d_C_begin_73 (by decide) ?_
    exact x_locals (xmask [true, true, true, true, true] _) (xmask_sub _ _) (hvc Q hQ)
  · have hvc := hvc.2 hb
    refine x_aload_n (pc := 56) d_C_begin_56 rfl rfl ?_
    refine x_iload (pc := 57) d_C_begin_57 rfl ?_
    refine y_callVv m_C_fillFactors 1 54 5 2 11 [_] [] rfl (pc := 59) d_C_begin_59 ok_C_fillFactors w_286 w_288 w_2 pn_C_fillFactors (Nat.lt_of_lt_of_le (by decide) hn) rfl rfl (by decide) (Nat.le_of_ble_eq_true rfl) (Nat.le_refl _) (Nat.le_refl _) hvc (fun M2 hvc => ?_)
    refine x_iinc (pc := 62) d_C_begin_62 rfl (by decide) ?_
    refine x_goto (tgt := 50) (pc := 65) d_C_begin_65 rfl ?_
    exact x_locals (xmask [true, true, true, true, true] _) (xmask_sub _ _) (hvc Q hQ)
set_option maxRecDepth 20000 in
theorem B_C_begin_75 {n : Nat} {R : xR} {M : xM} {P : xM → Prop} (hn : 78 ≤ n) (hR : RC 78 R) {l1 l2 l3 l4 : Int} (hvc : (-2147483648 ≤ l4 ∧ l4 < 2147483648) ∧ (-2147483648 ≤ l3 ∧ l3 < 2147483648) ∧ ((l3 ≤ l4 → Cv m_C_fillUnitRows 1 n R [vr 5, vr 15, vi 0] M (fun M1 => Cv m_C_fillUnitRows 1 n R [vr 5, vr 20, vi (l2 - l3)] M1 (fun M2 => P M2))) ∧ (¬ l3 ≤ l4 → Cv m_C_fillPlainRow 2 n R [vr 5, vi l4] M (fun M3 => Xv m_C_begin 3 n R P 75 [some (vr 5), some (vi l1), some (vi l2), some (vi l3), some (vi (l4 + 1))] [] M3)))) : Xv m_C_begin 3 n R P 75 [some (vr 5), some (vi l1), some (vi l2), some (vi l3), some (vi l4)] [] M := by
  intro Q hQ
  refine x_iload (pc := 75) d_C_begin_75 rfl ?_
  refine x_iload_n (pc := 77) d_C_begin_77 rfl rfl ?_
  obtain ⟨h1, hvc⟩ := hvc
  obtain ⟨h2, hvc⟩ := hvc
  refine x_icmp_ge (tgt := 93) (pc := 78) d_C_begin_78 rfl h1 h2 (fun hb => ?_) (fun hb => ?_)
  · have hvc := hvc.1 hb
    refine x_aload_n (pc := 93) d_C_begin_93 rfl rfl ?_
    refine x_aload_n (pc := 94) d_C_begin_94 rfl rfl ?_
    refine x_getR (k := 5) (ci := 2) (pc := 95) (t := 15) 9 d_C_begin_95 cok2 rfl (Nat.lt_of_lt_of_le (by decide) hn) rfl (by decide) rfl (hR.at 5 9 rfl rfl) w_118 ?_
    refine x_iconst (pc := 98) d_C_begin_98 ?_
    refine y_callVv m_C_fillUnitRows 1 64 5 2 11 [_, _] [] rfl (pc := 99) d_C_begin_99 ok_C_fillUnitRows w_311 w_313 w_5 pn_C_fillUnitRows (Nat.lt_of_lt_of_le (by decide) hn) rfl rfl (by decide) (Nat.le_of_ble_eq_true rfl) (Nat.le_refl _) (Nat.le_refl _) hvc (fun M1 hvc => ?_)
    refine x_aload_n (pc := 102) d_C_begin_102 rfl rfl ?_
    refine x_aload_n (pc := 103) d_C_begin_103 rfl rfl ?_
    refine x_getR (k := 5) (ci := 2) (pc := 104) (t := 20) 10 d_C_begin_104 cok2 rfl (Nat.lt_of_lt_of_le (by decide) hn) rfl (by decide) rfl (hR.at 5 10 rfl rfl) w_121 ?_
    refine x_iload_n (pc := 107) d_C_begin_107 rfl rfl ?_
    refine x_iload_n (pc := 108) d_C_begin_108 rfl rfl ?_
    refine x_isub (pc := 109) d_C_begin_109 ?_
    refine y_callVv m_C_fillUnitRows 1 64 5 2 11 [_, _] [] rfl (pc := 110) d_C_begin_110 ok_C_fillUnitRows w_311 w_313 w_5 pn_C_fillUnitRows (Nat.lt_of_lt_of_le (by decide) hn) rfl rfl (by decide) (Nat.le_of_ble_eq_true rfl) (Nat.le_refl _) (Nat.le_refl _) hvc (fun M2 hvc => ?_)
    exact x_vret (pc := 113) d_C_begin_113 rfl rfl (Nat.le_refl _) (hQ _ hvc)
  · have hvc := hvc.2 hb
    refine x_aload_n (pc := 81) d_C_begin_81 rfl rfl ?_
    refine x_iload (pc := 82) d_C_begin_82 rfl ?_
    refine y_callVv m_C_fillPlainRow 2 61 5 2 11 [_] [] rfl (pc := 84) d_C_begin_84 ok_C_fillPlainRow w_302 w_304 w_4 pn_C_fillPlainRow (Nat.lt_of_lt_of_le (by decide) hn) rfl rfl (by decide) (Nat.le_of_ble_eq_true rfl) (Nat.le_refl _) (Nat.le_refl _) hvc (fun M3 hvc => ?_)
    refine x_iinc (pc := 87) d_C_begin_87 rfl (by decide) ?_
    refine x_goto (tgt := 75) (pc := 90) d_C_begin_90 rfl ?_
    exact x_locals (xmask [true, true, true, true, true] _) (xmask_sub _ _) (hvc Q hQ)
set_option maxRecDepth 20000 in
theorem E_C_begin {n : Nat} {R : xR} {M : xM} {P : xM → Prop} (hn : 78 ≤ n) (hR : RC 78 R) {l1 l2 l3 : Int} (h : Xv m_C_begin 3 n R P 0 [some (vr 5), some (vi l1), some (vi l2), some (vi l3), none] [] M) : Cv m_C_begin 3 n R [vr 5, vi l1, vi l2, vi l3] M P :=
  Cv.of [some (vr 5), some (vi l1), some (vi l2), some (vi l3), none] (by decide) rfl (Nat.le_of_ble_eq_true rfl) rfl h
set_option maxRecDepth 20000 in
theorem B_C_fillFactors_0 {n : Nat} {R : xR} {M : xM} {P : xM → Prop} (hn : 78 ≤ n) (hR : RC 78 R) {l1 : Int} (hvc : Xv m_C_fillFactors 1 n R P 4 [some (vr 5), some (vi l1), some (vi 1), some (vi 0)] [] M) : Xv m_C_fillFactors 1 n R P 0 [some (vr 5), some (vi l1), none, none] [] M := by
  intro Q hQ
  refine x_iconst (pc := 0) d_C_fillFactors_0 ?_
  refine x_istore_n (pc := 1) d_C_fillFactors_1 rfl (by decide) ?_
  refine x_iconst (pc := 2) d_C_fillFactors_2 ?_
  refine x_istore_n (pc := 3) d_C_fillFactors_3 rfl (by decide) ?_
  exact x_locals (xmask [true, true, true, true] _) (xmask_sub _ _) (hvc Q hQ)
set_option maxRecDepth 20000 in
theorem B_C_fillFactors_4 {n : Nat} {R : xR} {M : xM} {P : xM → Prop} (hn : 78 ≤ n) (hR : RC 78 R) {l1 l2 l3 : Int} (hvc : (-2147483648 ≤ l3 ∧ l3 < 2147483648) ∧ (-2147483648 ≤ M 5 2 ∧ M 5 2 < 2147483648) ∧ (((M 5 2) ≤ l3 → (-2147483648 ≤ M 5 1 ∧ M 5 1 < 2147483648) ∧ ((¬ (M 5 1) = 0 → (0 ≤ l1 ∧ l1 < 20) ∧ Ci m_F_product 0 n R [vr 1, vi (M 6 l1.toNat), vi l2] M (fun z5 M1 => Ci m_F_quotient 0 n R [vr 1, vi 1, vi z5] M1 (fun z6 M2 => (∀ M3 : xM, M3 = xU M2 7 l1.toNat z6 → (∀ M4 : xM, M4 = xU M3 8 l1.toNat (M3 6 l1.toNat) → P M4))))) ∧ ((M 5 1) = 0 → (0 ≤ l1 ∧ l1 < 20) ∧ (∀ M5 : xM, M5 = xU M 7 l1.toNat 1 → Ci m_F_quotient 0 n R [vr 1, vi 1, vi l2] M5 (fun z8 M6 => (∀ M7 : xM, M7 = xU M6 8 l1.toNat z8 → P M7)))))) ∧ (¬ (M 5 2) ≤ l3 → (-2147483648 ≤ l1 ∧ l1 < 2147483648) ∧ ((l3 = l1 → Xv m_C_fillFactors 1 n R P 4 [some (vr 5), some (vi l1), some (vi l2), some (vi (l3 + 1))] [] M) ∧ (¬ l3 = l1 → (0 ≤ l1 ∧ l1 < 20) ∧ (0 ≤ l3 ∧ l3 < 20) ∧ Ci m_F_product 0 n R [vr 1, vi l2, vi (xXor (M 6 l1.toNat) (M 6 l3.toNat))] M (fun z12 M8 => Xv m_C_fillFactors 1 n R P 4 [some (vr 5), some (vi l1), some (vi z12), some (vi (l3 + 1))] [] M8)))))) : Xv m_C_fillFactors 1 n R P 4 [some (vr 5), some (vi l1), some (vi l2), some (vi l3)] [] M := by
  intro Q hQ
  refine x_iload_n (pc := 4) d_C_fillFactors_4 rfl rfl ?_
  refine x_aload_n (pc := 5) d_C_fillFactors_5 rfl rfl ?_
  refine x_getI (k := 5) (ci := 2) (pc := 6) 2 d_C_fillFactors_6 cok2 rfl (Nat.lt_of_lt_of_le (by decide) hn) rfl (by decide) rfl w_99 ?_
  obtain ⟨h1, hvc⟩ := hvc
  obtain ⟨h2, hvc⟩ := hvc
  refine x_icmp_ge (tgt := 45) (pc := 9) d_C_fillFactors_9 rfl h1 h2 (fun hb => ?_) (fun hb => ?_)
  · have hvc := hvc.1 hb
    refine x_aload_n (pc := 45) d_C_fillFactors_45 rfl rfl ?_
    refine x_getI (k := 5) (ci := 2) (pc := 46) 1 d_C_fillFactors_46 cok2 rfl (Nat.lt_of_lt_of_le (by decide) hn) rfl (by decide) rfl w_98 ?_
    obtain ⟨h3, hvc⟩ := hvc
    refine x_if_ne (tgt := 77) (pc := 49) d_C_fillFactors_49 rfl h3 (fun hb => ?_) (fun hb => ?_)
    · have hvc := hvc.1 hb
      refine x_aload_n (pc := 77) d_C_fillFactors_77 rfl rfl ?_
      refine x_getR (k := 5) (ci := 2) (pc := 78) (t := 7) 5 d_C_fillFactors_78 cok2 rfl (Nat.lt_of_lt_of_le (by decide) hn) rfl (by decide) rfl (hR.at 5 5 rfl rfl) w_111 ?_
      refine x_iload_n (pc := 81) d_C_fillFactors_81 rfl rfl ?_
      refine x_aload_n (pc := 82) d_C_fillFactors_82 rfl rfl ?_
      refine x_getR (k := 5) (ci := 2) (pc := 83) (t := 1) 0 d_C_fillFactors_83 cok2 rfl (Nat.lt_of_lt_of_le (by decide) hn) rfl (by decide) rfl (hR.at 5 0 rfl rfl) w_97 ?_
      refine x_iconst (pc := 86) d_C_fillFactors_86 ?_
      refine x_aload_n (pc := 87) d_C_fillFactors_87 rfl rfl ?_
      refine x_getR (k := 5) (ci := 2) (pc := 88) (t := 1) 0 d_C_fillFactors_88 cok2 rfl (Nat.lt_of_lt_of_le (by decide) hn) rfl (by decide) rfl (hR.at 5 0 rfl rfl) w_97 ?_
      refine x_aload_n (pc := 91) d_C_fillFactors_91 rfl rfl ?_
      refine x_getR (k := 5) (ci := 2) (pc := 92) (t := 6) 4 d_C_fillFactors_92 cok2 rfl (Nat.lt_of_lt_of_le (by decide) hn) rfl (by decide) rfl (hR.at 5 4 rfl rfl) w_108 ?_
      refine x_iload_n (pc := 95) d_C_fillFactors_95 rfl rfl ?_
      obtain ⟨h4, hvc⟩ := hvc
      refine x_iald (N := 20) (pc := 96) d_C_fillFactors_96 (Nat.lt_of_lt_of_le (by decide) hn) rfl (by decide) h4.1 h4.2 ?_
      refine x_iload_n (pc := 97) d_C_fillFactors_97 rfl rfl ?_
      refine y_callVi m_F_product 0 68 1 1 5 [_, _] [_, _, _, _] rfl (pc := 98) d_C_fillFactors_98 ok_F_product w_290 w_291 w_292 pn_F_product (Nat.lt_of_lt_of_le (by decide) hn) rfl rfl (by decide) (Nat.le_of_ble_eq_true rfl) (Nat.le_refl _) (Nat.le_refl _) hvc (fun z5 M1 hvc => ?_)
      refine y_callVi m_F_quotient 0 72 1 1 5 [_, _] [_, _] rfl (pc := 101) d_C_fillFactors_101 ok_F_quotient w_294 w_295 w_296 pn_F_quotient (Nat.lt_of_lt_of_le (by decide) hn) rfl rfl (by decide) (Nat.le_of_ble_eq_true rfl) (Nat.le_refl _) (Nat.le_refl _) hvc (fun z6 M2 hvc => ?_)
      refine x_iast (N := 20) (pc := 104) d_C_fillFactors_104 (Nat.lt_of_lt_of_le (by decide) hn) rfl (by decide) h4.1 h4.2 (fun M3 eM3 => ?_)
      have hvc := hvc M3 eM3
      refine x_aload_n (pc := 105) d_C_fillFactors_105 rfl rfl ?_
      refine x_getR (k := 5) (ci := 2) (pc := 106) (t := 8) 6 d_C_fillFactors_106 cok2 rfl (Nat.lt_of_lt_of_le (by decide) hn) rfl (by decide) rfl (hR.at 5 6 rfl rfl) w_113 ?_
      refine x_iload_n (pc := 109) d_C_fillFactors_109 rfl rfl ?_
      refine x_aload_n (pc := 110) d_C_fillFactors_110 rfl rfl ?_
      refine x_getR (k := 5) (ci := 2) (pc := 111) (t := 6) 4 d_C_fillFactors_111 cok2 rfl (Nat.lt_of_lt_of_le (by decide) hn) rfl (by decide) rfl (hR.at 5 4 rfl rfl) w_108 ?_
      refine x_iload_n (pc := 114) d_C_fillFactors_114 rfl rfl ?_
      refine x_iald (N := 20) (pc := 115) d_C_fillFactors_115 (Nat.lt_of_lt_of_le (by decide) hn) rfl (by decide) h4.1 h4.2 ?_
      refine x_iast (N := 20) (pc := 116) d_C_fillFactors_116 (Nat.lt_of_lt_of_le (by decide) hn) rfl (by decide) h4.1 h4.2 (fun M4 eM4 => ?_)
      have hvc := hvc M4 eM4
      exact x_vret (pc := 117) d_C_fillFactors_117 rfl rfl (Nat.le_refl _) (hQ _ hvc)
    · have hvc := hvc.2 hb
      refine x_aload_n (pc := 52) d_C_fillFactors_52 rfl rfl ?_
      refine x_getR (k := 5) (ci := 2) (pc := 53) (t := 7) 5 d_C_fillFactors_53 cok2 rfl (Nat.lt_of_lt_of_le (by decide) hn) rfl (by decide) rfl (hR.at 5 5 rfl rfl) w_111 ?_
      refine x_iload_n (pc := 56) d_C_fillFactors_56 rfl rfl ?_
      refine x_iconst (pc := 57) d_C_fillFactors_57 ?_
      obtain ⟨h7, hvc⟩ := hvc
      refine x_iast (N := 20) (pc := 58) d_C_fillFactors_58 (Nat.lt_of_lt_of_le (by decide) hn) rfl (by decide) h7.1 h7.2 (fun M5 eM5 => ?_)
      have hvc := hvc M5 eM5
      refine x_aload_n (pc := 59) d_C_fillFactors_59 rfl rfl ?_
      refine x_getR (k := 5) (ci := 2) (pc := 60) (t := 8) 6 d_C_fillFactors_60 cok2 rfl (Nat.lt_of_lt_of_le (by decide) hn) rfl (by decide) rfl (hR.at 5 6 rfl rfl) w_113 ?_
      refine x_iload_n (pc := 63) d_C_fillFactors_63 rfl rfl ?_
      refine x_aload_n (pc := 64) d_C_fillFactors_64 rfl rfl ?_
      refine x_getR (k := 5) (ci := 2) (pc := 65) (t := 1) 0 d_C_fillFactors_65 cok2 rfl (Nat.lt_of_lt_of_le (by decide) hn) rfl (by decide) rfl (hR.at 5 0 rfl rfl) w_97 ?_
      refine x_iconst (pc := 68) d_C_fillFactors_68 ?_
      refine x_iload_n (pc := 69) d_C_fillFactors_69 rfl rfl ?_
      refine y_callVi m_F_quotient 0 72 1 1 5 [_, _] [_, _] rfl (pc := 70) d_C_fillFactors_70 ok_F_quotient w_294 w_295 w_296 pn_F_quotient (Nat.lt_of_lt_of_le (by decide) hn) rfl rfl (by decide) (Nat.le_of_ble_eq_true rfl) (Nat.le_refl _) (Nat.le_refl _) hvc (fun z8 M6 hvc => ?_)
      refine x_iast (N := 20) (pc := 73) d_C_fillFactors_73 (Nat.lt_of_lt_of_le (by decide) hn) rfl (by decide) h7.1 h7.2 (fun M7 eM7 => ?_)
      have hvc := hvc M7 eM7
      refine x_goto (tgt := 117) (pc := 74) d_C_fillFactors_74 rfl ?_
      exact x_vret (pc := 117) d_C_fillFactors_117 rfl rfl (Nat.le_refl _) (hQ _ hvc)
  · have hvc := hvc.2 hb
    refine x_iload_n (pc := 12) d_C_fillFactors_12 rfl rfl ?_
    refine x_iload_n (pc := 13) d_C_fillFactors_13 rfl rfl ?_
    obtain ⟨h9, hvc⟩ := hvc
    refine x_icmp_eq (tgt := 39) (pc := 14) d_C_fillFactors_14 rfl h1 h9 (fun hb => ?_) (fun hb => ?_)
    · have hvc := hvc.1 hb
      refine x_iinc (pc := 39) d_C_fillFactors_39 rfl (by decide) ?_
      refine x_goto (tgt := 4) (pc := 42) d_C_fillFactors_42 rfl ?_
      exact x_locals (xmask [true, true, true, true] _) (xmask_sub _ _) (hvc Q hQ)
    · have hvc := hvc.2 hb
      refine x_aload_n (pc := 17) d_C_fillFactors_17 rfl rfl ?_
      refine x_getR (k := 5) (ci := 2) (pc := 18) (t := 1) 0 d_C_fillFactors_18 cok2 rfl (Nat.lt_of_lt_of_le (by decide) hn) rfl (by decide) rfl (hR.at 5 0 rfl rfl) w_97 ?_
      refine x_iload_n (pc := 21) d_C_fillFactors_21 rfl rfl ?_
      refine x_aload_n (pc := 22) d_C_fillFactors_22 rfl rfl ?_
      refine x_getR (k := 5) (ci := 2) (pc := 23) (t := 6) 4 d_C_fillFactors_23 cok2 rfl (Nat.lt_of_lt_of_le (by decide) hn) rfl (by decide) rfl (hR.at 5 4 rfl rfl) w_108 ?_
      refine x_iload_n (pc := 26) d_C_fillFactors_26 rfl rfl ?_
      obtain ⟨h10, hvc⟩ := hvc
      refine x_iald (N := 20) (pc := 27) d_C_fillFactors_27 (Nat.lt_of_lt_of_le (by decide) hn) rfl (by decide) h10.1 h10.2 ?_
      refine x_aload_n (pc := 28) d_C_fillFactors_28 rfl rfl ?_
      refine x_getR (k := 5) (ci := 2) (pc := 29) (t := 6) 4 d_C_fillFactors_29 cok2 rfl (Nat.lt_of_lt_of_le (by decide) hn) rfl (by decide) rfl (hR.at 5 4 rfl rfl) w_108 ?_
      refine x_iload_n (pc := 32) d_C_fillFactors_32 rfl rfl ?_
      obtain ⟨h11, hvc⟩ := hvc
      refine x_iald (N := 20) (pc := 33) d_C_fillFactors_33 (Nat.lt_of_lt_of_le (by decide) hn) rfl (by decide) h11.1 h11.2 ?_
      refine x_ixor (pc := 34) d_C_fillFactors_34 ?_
      refine y_callVi m_F_product 0 68 1 1 5 [_, _] [] rfl (pc := 35) d_C_fillFactors_35 ok_F_product w_290 w_291 w_292 pn_F_product (Nat.lt_of_lt_of_le (by decide) hn) rfl rfl (by decide) (Nat.le_of_ble_eq_true rfl) (Nat.le_refl _) (Nat.le_refl _) hvc (fun z12 M8 hvc => ?_)
      refine x_istore_n (pc := 38) d_C_fillFactors_38 rfl (by decide) ?_
      refine x_iinc (pc := 39) d_C_fillFactors_39 rfl (by decide) ?_
      refine x_goto (tgt := 4) (pc := 42) d_C_fillFactors_42 rfl ?_
      exact x_locals (xmask [true, true, true, true] _) (xmask_sub _ _) (hvc Q hQ)
set_option maxRecDepth 20000 in
theorem E_C_fillFactors {n : Nat} {R : xR} {M : xM} {P : xM → Prop} (hn : 78 ≤ n) (hR : RC 78 R) {l1 : Int} (h : Xv m_C_fillFactors 1 n R P 0 [some (vr 5), some (vi l1), none, none] [] M) : Cv m_C_fillFactors 1 n R [vr 5, vi l1] M P :=
  Cv.of [some (vr 5), some (vi l1), none, none] (by decide) rfl (Nat.le_of_ble_eq_true rfl) rfl h
set_option maxRecDepth 20000 in
theorem B_C_fillGenerator_0 {n : Nat} {R : xR} {M : xM} {P : xM → Prop} (hn : 78 ≤ n) (hR : RC 78 R) (hvc : Xv m_C_fillGenerator 1 n R P 2 [some (vr 5), some (vi 0), none] [] M) : Xv m_C_fillGenerator 1 n R P 0 [some (vr 5), none, none] [] M := by
  intro Q hQ
  refine x_iconst (pc := 0) d_C_fillGenerator_0 ?_
  refine x_istore_n (pc := 1) d_C_fillGenerator_1 rfl (by decide) ?_
  exact x_locals (xmask [true, true, false] _) (xmask_sub _ _) (hvc Q hQ)
set_option maxRecDepth 20000 in
theorem B_C_fillGenerator_2 {n : Nat} {R : xR} {M : xM} {P : xM → Prop} (hn : 78 ≤ n) (hR : RC 78 R) {l1 : Int} (hvc : (-2147483648 ≤ l1 ∧ l1 < 2147483648) ∧ (-2147483648 ≤ M 5 2 ∧ M 5 2 < 2147483648) ∧ (((M 5 2) ≤ l1 → (∀ M1 : xM, M1 = xU M 9 0 1 → Xv m_C_fillGenerator 1 n R P 32 [some (vr 5), some (vi 1), none] [] M1)) ∧ (¬ (M 5 2) ≤ l1 → (0 ≤ l1 ∧ l1 < 20) ∧ (∀ M2 : xM, M2 = xU M 9 l1.toNat 0 → Xv m_C_fillGenerator 1 n R P 2 [some (vr 5), some (vi (l1 + 1)), none] [] M2)))) : Xv m_C_fillGenerator 1 n R P 2 [some (vr 5), some (vi l1), none] [] M := by
  intro Q hQ
  refine x_iload_n (pc := 2) d_C_fillGenerator_2 rfl rfl ?_
  refine x_aload_n (pc := 3) d_C_fillGenerator_3 rfl rfl ?_
  refine x_getI (k := 5) (ci := 2) (pc := 4) 2 d_C_fillGenerator_4 cok2 rfl (Nat.lt_of_lt_of_le (by decide) hn) rfl (by decide) rfl w_99 ?_
  obtain ⟨h1, hvc⟩ := hvc
  obtain ⟨h2, hvc⟩ := hvc
  refine x_icmp_ge (tgt := 23) (pc := 7) d_C_fillGenerator_7 rfl h1 h2 (fun hb => ?_) (fun hb => ?_)
  · have hvc := hvc.1 hb
    refine x_aload_n (pc := 23) d_C_fillGenerator_23 rfl rfl ?_
    refine x_getR (k := 5) (ci := 2) (pc := 24) (t := 9) 7 d_C_fillGenerator_24 cok2 rfl (Nat.lt_of_lt_of_le (by decide) hn) rfl (by decide) rfl (hR.at 5 7 rfl rfl) w_115 ?_
    refine x_iconst (pc := 27) d_C_fillGenerator_27 ?_
    refine x_iconst (pc := 28) d_C_fillGenerator_28 ?_
    refine x_iast (N := 20) (pc := 29) d_C_fillGenerator_29 (Nat.lt_of_lt_of_le (by decide) hn) rfl (by decide) (by decide) (by decide) (fun M1 eM1 => ?_)
    have hvc := hvc M1 eM1
    refine x_iconst (pc := 30) d_C_fillGenerator_30 ?_
    refine x_istore_n (pc := 31) d_C_fillGenerator_31 rfl (by decide) ?_
    exact x_locals (xmask [true, true, false] _) (xmask_sub _ _) (hvc Q hQ)
  · have hvc := hvc.2 hb
    refine x_aload_n (pc := 10) d_C_fillGenerator_10 rfl rfl ?_
    refine x_getR (k := 5) (ci := 2) (pc := 11) (t := 9) 7 d_C_fillGenerator_11 cok2 rfl (Nat.lt_of_lt_of_le (by decide) hn) rfl (by decide) rfl (hR.at 5 7 rfl rfl) w_115 ?_
    refine x_iload_n (pc := 14) d_C_fillGenerator_14 rfl rfl ?_
    refine x_iconst (pc := 15) d_C_fillGenerator_15 ?_
    obtain ⟨h3, hvc⟩ := hvc
    refine x_iast (N := 20) (pc := 16) d_C_fillGenerator_16 (Nat.lt_of_lt_of_le (by decide) hn) rfl (by decide) h3.1 h3.2 (fun M2 eM2 => ?_)
    have hvc := hvc M2 eM2
    refine x_iinc (pc := 17) d_C_fillGenerator_17 rfl (by decide) ?_
    refine x_goto (tgt := 2) (pc := 20) d_C_fillGenerator_20 rfl ?_
    exact x_locals (xmask [true, true, false] _) (xmask_sub _ _) (hvc Q hQ)
set_option maxRecDepth 20000 in
theorem B_C_fillGenerator_32 {n : Nat} {R : xR} {M : xM} {P : xM → Prop} (hn : 78 ≤ n) (hR : RC 78 R) {l1 : Int} (hvc : (-2147483648 ≤ l1 ∧ l1 < 2147483648) ∧ (-2147483648 ≤ (M 5 2) - (M 5 3) ∧ (M 5 2) - (M 5 3) < 2147483648) ∧ ((((M 5 2) - (M 5 3)) < l1 → P M) ∧ (¬ ((M 5 2) - (M 5 3)) < l1 → Xv m_C_fillGenerator 1 n R P 47 [some (vr 5), some (vi l1), some (vi l1)] [] M))) : Xv m_C_fillGenerator 1 n R P 32 [some (vr 5), some (vi l1), none] [] M := by
  intro Q hQ
  refine x_iload_n (pc := 32) d_C_fillGenerator_32 rfl rfl ?_
  refine x_aload_n (pc := 33) d_C_fillGenerator_33 rfl rfl ?_
  refine x_getI (k := 5) (ci := 2) (pc := 34) 2 d_C_fillGenerator_34 cok2 rfl (Nat.lt_of_lt_of_le (by decide) hn) rfl (by decide) rfl w_99 ?_
  refine x_aload_n (pc := 37) d_C_fillGenerator_37 rfl rfl ?_
  refine x_getI (k := 5) (ci := 2) (pc := 38) 3 d_C_fillGenerator_38 cok2 rfl (Nat.lt_of_lt_of_le (by decide) hn) rfl (by decide) rfl w_105 ?_
  refine x_isub (pc := 41) d_C_fillGenerator_41 ?_
  obtain ⟨h1, hvc⟩ := hvc
  obtain ⟨h2, hvc⟩ := hvc
  refine x_icmp_gt (tgt := 122) (pc := 42) d_C_fillGenerator_42 rfl h1 h2 (fun hb => ?_) (fun hb => ?_)
  · have hvc := hvc.1 hb
    exact x_vret (pc := 122) d_C_fillGenerator_122 rfl rfl (Nat.le_refl _) (hQ _ hvc)
  · have hvc := hvc.2 hb
    refine x_iload_n (pc := 45) d_C_fillGenerator_45 rfl rfl ?_
    refine x_istore_n (pc := 46) d_C_fillGenerator_46 rfl (by decide) ?_
    exact x_locals (xmask [true, true, true] _) (xmask_sub _ _) (hvc Q hQ)
set_option maxRecDepth 20000 in
theorem B_C_fillGenerator_47 {n : Nat} {R : xR} {M : xM} {P : xM → Prop} (hn : 78 ≤ n) (hR : RC 78 R) {l1 l2 : Int} (hvc : (-2147483648 ≤ l2 ∧ l2 < 2147483648) ∧ ((l2 ≤ 0 → (0 ≤ l1 ∧ l1 < 20) ∧ Ci m_F_product 0 n R [vr 1, vi (M 6 l1.toNat), vi (M 9 0)] M (fun z3 M1 => (∀ M2 : xM, M2 = xU M1 9 0 z3 → Xv m_C_fillGenerator 1 n R P 32 [some (vr 5), some (vi (l1 + 1)), none] [] M2))) ∧ (¬ l2 ≤ 0 → (0 ≤ l2 - 1 ∧ l2 - 1 < 20) ∧ (0 ≤ l1 ∧ l1 < 20) ∧ (0 ≤ l2 ∧ l2 < 20) ∧ Ci m_F_product 0 n R [vr 1, vi (M 6 l1.toNat), vi (M 9 l2.toNat)] M (fun z7 M3 => (∀ M4 : xM, M4 = xU M3 9 l2.toNat (xXor (M 9 (l2 - 1).toNat) z7) → Xv m_C_fillGenerator 1 n R P 47 [some (vr 5), some (vi l1), some (vi (l2 + (-1)))] [] M4))))) : Xv m_C_fillGenerator 1 n R P 47 [some (vr 5), some (vi l1), some (vi l2)] [] M := by
  intro Q hQ
  refine x_iload_n (pc := 47) d_C_fillGenerator_47 rfl rfl ?_
  obtain ⟨h1, hvc⟩ := hvc
  refine x_if_le (tgt := 91) (pc := 48) d_C_fillGenerator_48 rfl h1 (fun hb => ?_) (fun hb => ?_)
  · have hvc := hvc.1 hb
    refine x_aload_n (pc := 91) d_C_fillGenerator_91 rfl rfl ?_
    refine x_getR (k := 5) (ci := 2) (pc := 92) (t := 9) 7 d_C_fillGenerator_92 cok2 rfl (Nat.lt_of_lt_of_le (by decide) hn) rfl (by decide) rfl (hR.at 5 7 rfl rfl) w_115 ?_
    refine x_iconst (pc := 95) d_C_fillGenerator_95 ?_
    refine x_aload_n (pc := 96) d_C_fillGenerator_96 rfl rfl ?_
    refine x_getR (k := 5) (ci := 2) (pc := 97) (t := 1) 0 d_C_fillGenerator_97 cok2 rfl (Nat.lt_of_lt_of_le (by decide) hn) rfl (by decide) rfl (hR.at 5 0 rfl rfl) w_97 ?_
    refine x_aload_n (pc := 100) d_C_fillGenerator_100 rfl rfl ?_
    refine x_getR (k := 5) (ci := 2) (pc := 101) (t := 6) 4 d_C_fillGenerator_101 cok2 rfl (Nat.lt_of_lt_of_le (by decide) hn) rfl (by decide) rfl (hR.at 5 4 rfl rfl) w_108 ?_
    refine x_iload_n (pc := 104) d_C_fillGenerator_104 rfl rfl ?_
    obtain ⟨h2, hvc⟩ := hvc
    refine x_iald (N := 20) (pc := 105) d_C_fillGenerator_105 (Nat.lt_of_lt_of_le (by decide) hn) rfl (by decide) h2.1 h2.2 ?_
    refine x_aload_n (pc := 106) d_C_fillGenerator_106 rfl rfl ?_
    refine x_getR (k := 5) (ci := 2) (pc := 107) (t := 9) 7 d_C_fillGenerator_107 cok2 rfl (Nat.lt_of_lt_of_le (by decide) hn) rfl (by decide) rfl (hR.at 5 7 rfl rfl) w_115 ?_
    refine x_iconst (pc := 110) d_C_fillGenerator_110 ?_
    refine x_iald (N := 20) (pc := 111) d_C_fillGenerator_111 (Nat.lt_of_lt_of_le (by decide) hn) rfl (by decide) (by decide) (by decide) ?_
    refine y_callVi m_F_product 0 68 1 1 5 [_, _] [_, _] rfl (pc := 112) d_C_fillGenerator_112 ok_F_product w_290 w_291 w_292 pn_F_product (Nat.lt_of_lt_of_le (by decide) hn) rfl rfl (by decide) (Nat.le_of_ble_eq_true rfl) (Nat.le_refl _) (Nat.le_refl _) hvc (fun z3 M1 hvc => ?_)
    refine x_iast (N := 20) (pc := 115) d_C_fillGenerator_115 (Nat.lt_of_lt_of_le (by decide) hn) rfl (by decide) (by decide) (by decide) (fun M2 eM2 => ?_)
    have hvc := hvc M2 eM2
    refine x_iinc (pc := 116) d_C_fillGenerator_116 rfl (by decide) ?_
    refine x_goto (tgt := 32) (pc := 119) d_C_fillGenerator_119 rfl ?_
    exact x_locals (xmask [true, true, false] _) (xmask_sub _ _) (hvc Q hQ)
  · have hvc := hvc.2 hb
    refine x_aload_n (pc := 51) d_C_fillGenerator_51 rfl rfl ?_
    refine x_getR (k := 5) (ci := 2) (pc := 52) (t := 9) 7 d_C_fillGenerator_52 cok2 rfl (Nat.lt_of_lt_of_le (by decide) hn) rfl (by decide) rfl (hR.at 5 7 rfl rfl) w_115 ?_
    refine x_iload_n (pc := 55) d_C_fillGenerator_55 rfl rfl ?_
    refine x_aload_n (pc := 56) d_C_fillGenerator_56 rfl rfl ?_
    refine x_getR (k := 5) (ci := 2) (pc := 57) (t := 9) 7 d_C_fillGenerator_57 cok2 rfl (Nat.lt_of_lt_of_le (by decide) hn) rfl (by decide) rfl (hR.at 5 7 rfl rfl) w_115 ?_
    refine x_iload_n (pc := 60) d_C_fillGenerator_60 rfl rfl ?_
    refine x_iconst (pc := 61) d_C_fillGenerator_61 ?_
    refine x_isub (pc := 62) d_C_fillGenerator_62 ?_
    obtain ⟨h4, hvc⟩ := hvc
    refine x_iald (N := 20) (pc := 63) d_C_fillGenerator_63 (Nat.lt_of_lt_of_le (by decide) hn) rfl (by decide) h4.1 h4.2 ?_
    refine x_aload_n (pc := 64) d_C_fillGenerator_64 rfl rfl ?_
    refine x_getR (k := 5) (ci := 2) (pc := 65) (t := 1) 0 d_C_fillGenerator_65 cok2 rfl (Nat.lt_of_lt_of_le (by decide) hn) rfl (by decide) rfl (hR.at 5 0 rfl rfl) w_97 ?_
    refine x_aload_n (pc := 68) d_C_fillGenerator_68 rfl rfl ?_
    refine x_getR (k := 5) (ci := 2) (pc := 69) (t := 6) 4 d_C_fillGenerator_69 cok2 rfl (Nat.lt_of_lt_of_le (by decide) hn) rfl (by decide) rfl (hR.at 5 4 rfl rfl) w_108 ?_
    refine x_iload_n (pc := 72) d_C_fillGenerator_72 rfl rfl ?_
    obtain ⟨h5, hvc⟩ := hvc
    refine x_iald (N := 20) (pc := 73) d_C_fillGenerator_73 (Nat.lt_of_lt_of_le (by decide) hn) rfl (by decide) h5.1 h5.2 ?_
    refine x_aload_n (pc := 74) d_C_fillGenerator_74 rfl rfl ?_
    refine x_getR (k := 5) (ci := 2) (pc := 75) (t := 9) 7 d_C_fillGenerator_75 cok2 rfl (Nat.lt_of_lt_of_le (by decide) hn) rfl (by decide) rfl (hR.at 5 7 rfl rfl) w_115 ?_
    refine x_iload_n (pc := 78) d_C_fillGenerator_78 rfl rfl ?_
    obtain ⟨h6, hvc⟩ := hvc
    refine x_iald (N := 20) (pc := 79) d_C_fillGenerator_79 (Nat.lt_of_lt_of_le (by decide) hn) rfl (by decide) h6.1 h6.2 ?_
    refine y_callVi m_F_product 0 68 1 1 5 [_, _] [_, _, _] rfl (pc := 80) d_C_fillGenerator_80 ok_F_product w_290 w_291 w_292 pn_F_product (Nat.lt_of_lt_of_le (by decide) hn) rfl rfl (by decide) (Nat.le_of_ble_eq_true rfl) (Nat.le_refl _) (Nat.le_refl _) hvc (fun z7 M3 hvc => ?_)
    refine x_ixor (pc := 83) d_C_fillGenerator_83 ?_
    refine x_iast (N := 20) (pc := 84) d_C_fillGenerator_84 (Nat.lt_of_lt_of_le (by decide) hn) rfl (by decide) h6.1 h6.2 (fun M4 eM4 => ?_)
    have hvc := hvc M4 eM4
    refine x_iinc (pc := 85) d_C_fillGenerator_85 rfl (by decide) ?_
    refine x_goto (tgt := 47) (pc := 88) d_C_fillGenerator_88 rfl ?_
    exact x_locals (xmask [true, true, true] _) (xmask_sub _ _) (hvc Q hQ)
set_option maxRecDepth 20000 in
theorem E_C_fillGenerator {n : Nat} {R : xR} {M : xM} {P : xM → Prop} (hn : 78 ≤ n) (hR : RC 78 R) (h : Xv m_C_fillGenerator 1 n R P 0 [some (vr 5), none, none] [] M) : Cv m_C_fillGenerator 1 n R [vr 5] M P :=
  Cv.of [some (vr 5), none, none] (by decide) rfl (Nat.le_of_ble_eq_true rfl) rfl h
set_option maxRecDepth 20000 in
theorem B_C_fillPlainRow_0 {n : Nat} {R : xR} {M : xM} {P : xM → Prop} (hn : 78 ≤ n) (hR : RC 78 R) {l1 : Int} (hvc : Xv m_C_fillPlainRow 2 n R P 2 [some (vr 5), some (vi l1), some (vi 0)] [] M) : Xv m_C_fillPlainRow 2 n R P 0 [some (vr 5), some (vi l1), none] [] M := by
  intro Q hQ
  refine x_iconst (pc := 0) d_C_fillPlainRow_0 ?_
  refine x_istore_n (pc := 1) d_C_fillPlainRow_1 rfl (by decide) ?_
  exact x_locals (xmask [true, true, true] _) (xmask_sub _ _) (hvc Q hQ)
set_option maxRecDepth 20000 in
theorem B_C_fillPlainRow_2 {n : Nat} {R : xR} {M : xM} {P : xM → Prop} (hn : 78 ≤ n) (hR : RC 78 R) {l1 l2 : Int} (hvc : (-2147483648 ≤ l2 ∧ l2 < 2147483648) ∧ (-2147483648 ≤ M 5 2 ∧ M 5 2 < 2147483648) ∧ (((M 5 2) ≤ l2 → Xv m_C_fillPlainRow 2 n R P 75 [some (vr 5), some (vi l1), some (vi 0)] [] M) ∧ (¬ (M 5 2) ≤ l2 → (-2147483648 ≤ M 5 1 ∧ M 5 1 < 2147483648) ∧ ((¬ (M 5 1) = 0 → (0 ≤ l1 ∧ l1 < 4) ∧ (-2147483648 ≤ l1 ∧ l1 < 2147483648) ∧ ((l1 ≤ l2 → (0 ≤ l2 - l1 ∧ l2 - l1 < 20) ∧ (0 ≤ l2 ∧ l2 < 24) ∧ (∀ M1 : xM, M1 = xU M (11 + l1.toNat) l2.toNat (M 9 (l2 - l1).toNat) → Xv m_C_fillPlainRow 2 n R P 2 [some (vr 5), some (vi l1), some (vi (l2 + 1))] [] M1)) ∧ (¬ l1 ≤ l2 → (0 ≤ l2 ∧ l2 < 24) ∧ (∀ M2 : xM, M2 = xU M (11 + l1.toNat) l2.toNat 0 → Xv m_C_fillPlainRow 2 n R P 2 [some (vr 5), some (vi l1), some (vi (l2 + 1))] [] M2)))) ∧ ((M 5 1) = 0 → (0 ≤ l1 ∧ l1 < 4) ∧ (0 ≤ l2 ∧ l2 < 20) ∧ Ci m_F_power 1 n R [vr 1, vi (M 6 l2.toNat), vi l1] M (fun z11 M3 => (0 ≤ l2 ∧ l2 < 24) ∧ (∀ M4 : xM, M4 = xU M3 (11 + l1.toNat) l2.toNat z11 → Xv m_C_fillPlainRow 2 n R P 2 [some (vr 5), some (vi l1), some (vi (l2 + 1))] [] M4))))))) : Xv m_C_fillPlainRow 2 n R P 2 [some (vr 5), some (vi l1), some (vi l2)] [] M := by
  intro Q hQ
  refine x_iload_n (pc := 2) d_C_fillPlainRow_2 rfl rfl ?_
  refine x_aload_n (pc := 3) d_C_fillPlainRow_3 rfl rfl ?_
  refine x_getI (k := 5) (ci := 2) (pc := 4) 2 d_C_fillPlainRow_4 cok2 rfl (Nat.lt_of_lt_of_le (by decide) hn) rfl (by decide) rfl w_99 ?_
  obtain ⟨h1, hvc⟩ := hvc
  obtain ⟨h2, hvc⟩ := hvc
  refine x_icmp_ge (tgt := 73) (pc := 7) d_C_fillPlainRow_7 rfl h1 h2 (fun hb => ?_) (fun hb => ?_)
  · have hvc := hvc.1 hb
    refine x_iconst (pc := 73) d_C_fillPlainRow_73 ?_
    refine x_istore_n (pc := 74) d_C_fillPlainRow_74 rfl (by decide) ?_
    exact x_locals (xmask [true, true, true] _) (xmask_sub _ _) (hvc Q hQ)
  · have hvc := hvc.2 hb
    refine x_aload_n (pc := 10) d_C_fillPlainRow_10 rfl rfl ?_
    refine x_getI (k := 5) (ci := 2) (pc := 11) 1 d_C_fillPlainRow_11 cok2 rfl (Nat.lt_of_lt_of_le (by decide) hn) rfl (by decide) rfl w_98 ?_
    obtain ⟨h3, hvc⟩ := hvc
    refine x_if_ne (tgt := 42) (pc := 14) d_C_fillPlainRow_14 rfl h3 (fun hb => ?_) (fun hb => ?_)
    · have hvc := hvc.1 hb
      refine x_aload_n (pc := 42) d_C_fillPlainRow_42 rfl rfl ?_
      refine x_getR (k := 5) (ci := 2) (pc := 43) (t := 10) 8 d_C_fillPlainRow_43 cok2 rfl (Nat.lt_of_lt_of_le (by decide) hn) rfl (by decide) rfl (hR.at 5 8 rfl rfl) w_116 ?_
      refine x_iload_n (pc := 46) d_C_fillPlainRow_46 rfl rfl ?_
      obtain ⟨h4, hvc⟩ := hvc
      refine x_aald (k := 10) (N := 4) (pc := 47) d_C_fillPlainRow_47 (Nat.lt_of_lt_of_le (by decide) hn) rfl (by decide) h4.1 h4.2 (hR.row 10 11 4 rfl rfl h4.1 h4.2) ?_
      refine x_iload_n (pc := 48) d_C_fillPlainRow_48 rfl rfl ?_
      refine x_iload_n (pc := 49) d_C_fillPlainRow_49 rfl rfl ?_
      refine x_iload_n (pc := 50) d_C_fillPlainRow_50 rfl rfl ?_
      obtain ⟨h5, hvc⟩ := hvc
      refine x_icmp_ge (tgt := 58) (pc := 51) d_C_fillPlainRow_51 rfl h1 h5 (fun hb => ?_) (fun hb => ?_)
      · have hvc := hvc.1 hb
        refine x_aload_n (pc := 58) d_C_fillPlainRow_58 rfl rfl ?_
        refine x_getR (k := 5) (ci := 2) (pc := 59) (t := 9) 7 d_C_fillPlainRow_59 cok2 rfl (Nat.lt_of_lt_of_le (by decide) hn) rfl (by decide) rfl (hR.at 5 7 rfl rfl) w_115 ?_
        refine x_iload_n (pc := 62) d_C_fillPlainRow_62 rfl rfl ?_
        refine x_iload_n (pc := 63) d_C_fillPlainRow_63 rfl rfl ?_
        refine x_isub (pc := 64) d_C_fillPlainRow_64 ?_
        obtain ⟨h6, hvc⟩ := hvc
        refine x_iald (N := 20) (pc := 65) d_C_fillPlainRow_65 (Nat.lt_of_lt_of_le (by decide) hn) rfl (by decide) h6.1 h6.2 ?_
        obtain ⟨h7, hvc⟩ := hvc
        refine x_iast (N := 24) (pc := 66) d_C_fillPlainRow_66 (Nat.lt_of_lt_of_le (rowN_11 (by omega)) hn) (rowS_11 (by omega)) (by decide) h7.1 h7.2 (fun M1 eM1 => ?_)
        have hvc := hvc M1 eM1
        refine x_iinc (pc := 67) d_C_fillPlainRow_67 rfl (by decide) ?_
        refine x_goto (tgt := 2) (pc := 70) d_C_fillPlainRow_70 rfl ?_
        exact x_locals (xmask [true, true, true] _) (xmask_sub _ _) (hvc Q hQ)
      · have hvc := hvc.2 hb
        refine x_iconst (pc := 54) d_C_fillPlainRow_54 ?_
        refine x_goto (tgt := 66) (pc := 55) d_C_fillPlainRow_55 rfl ?_
        obtain ⟨h8, hvc⟩ := hvc
        refine x_iast (N := 24) (pc := 66) d_C_fillPlainRow_66 (Nat.lt_of_lt_of_le (rowN_11 (by omega)) hn) (rowS_11 (by omega)) (by decide) h8.1 h8.2 (fun M2 eM2 => ?_)
        have hvc := hvc M2 eM2
        refine x_iinc (pc := 67) d_C_fillPlainRow_67 rfl (by decide) ?_
        refine x_goto (tgt := 2) (pc := 70) d_C_fillPlainRow_70 rfl ?_
        exact x_locals (xmask [true, true, true] _) (xmask_sub _ _) (hvc Q hQ)
    · have hvc := hvc.2 hb
      refine x_aload_n (pc := 17) d_C_fillPlainRow_17 rfl rfl ?_
      refine x_getR (k := 5) (ci := 2) (pc := 18) (t := 10) 8 d_C_fillPlainRow_18 cok2 rfl (Nat.lt_of_lt_of_le (by decide) hn) rfl (by decide) rfl (hR.at 5 8 rfl rfl) w_116 ?_
      refine x_iload_n (pc := 21) d_C_fillPlainRow_21 rfl rfl ?_
      obtain ⟨h9, hvc⟩ := hvc
      refine x_aald (k := 10) (N := 4) (pc := 22) d_C_fillPlainRow_22 (Nat.lt_of_lt_of_le (by decide) hn) rfl (by decide) h9.1 h9.2 (hR.row 10 11 4 rfl rfl h9.1 h9.2) ?_
      refine x_iload_n (pc := 23) d_C_fillPlainRow_23 rfl rfl ?_
      refine x_aload_n (pc := 24) d_C_fillPlainRow_24 rfl rfl ?_
      refine x_getR (k := 5) (ci := 2) (pc := 25) (t := 1) 0 d_C_fillPlainRow_25 cok2 rfl (Nat.lt_of_lt_of_le (by decide) hn) rfl (by decide) rfl (hR.at 5 0 rfl rfl) w_97 ?_
      refine x_aload_n (pc := 28) d_C_fillPlainRow_28 rfl rfl ?_
      refine x_getR (k := 5) (ci := 2) (pc := 29) (t := 6) 4 d_C_fillPlainRow_29 cok2 rfl (Nat.lt_of_lt_of_le (by decide) hn) rfl (by decide) rfl (hR.at 5 4 rfl rfl) w_108 ?_
      refine x_iload_n (pc := 32) d_C_fillPlainRow_32 rfl rfl ?_
      obtain ⟨h10, hvc⟩ := hvc
      refine x_iald (N := 20) (pc := 33) d_C_fillPlainRow_33 (Nat.lt_of_lt_of_le (by decide) hn) rfl (by decide) h10.1 h10.2 ?_
      refine x_iload_n (pc := 34) d_C_fillPlainRow_34 rfl rfl ?_
      refine y_callVi m_F_power 1 75 1 1 5 [_, _] [_, _] rfl (pc := 35) d_C_fillPlainRow_35 ok_F_power w_306 w_307 w_308 pn_F_power (Nat.lt_of_lt_of_le (by decide) hn) rfl rfl (by decide) (Nat.le_of_ble_eq_true rfl) (Nat.le_refl _) (Nat.le_refl _) hvc (fun z11 M3 hvc => ?_)
      obtain ⟨h12, hvc⟩ := hvc
      refine x_iast (N := 24) (pc := 38) d_C_fillPlainRow_38 (Nat.lt_of_lt_of_le (rowN_11 (by omega)) hn) (rowS_11 (by omega)) (by decide) h12.1 h12.2 (fun M4 eM4 => ?_)
      have hvc := hvc M4 eM4
      refine x_goto (tgt := 67) (pc := 39) d_C_fillPlainRow_39 rfl ?_
      refine x_iinc (pc := 67) d_C_fillPlainRow_67 rfl (by decide) ?_
      refine x_goto (tgt := 2) (pc := 70) d_C_fillPlainRow_70 rfl ?_
      exact x_locals (xmask [true, true, true] _) (xmask_sub _ _) (hvc Q hQ)
set_option maxRecDepth 20000 in
theorem B_C_fillPlainRow_75 {n : Nat} {R : xR} {M : xM} {P : xM → Prop} (hn : 78 ≤ n) (hR : RC 78 R) {l1 l2 : Int} (hvc : (-2147483648 ≤ l2 ∧ l2 < 2147483648) ∧ (-2147483648 ≤ M 5 3 ∧ M 5 3 < 2147483648) ∧ (((M 5 3) ≤ l2 → P M) ∧ (¬ (M 5 3) ≤ l2 → (0 ≤ l1 ∧ l1 < 4) ∧ (-2147483648 ≤ l1 ∧ l1 < 2147483648) ∧ ((¬ l1 = l2 → (0 ≤ (M 5 2) + l2 ∧ (M 5 2) + l2 < 24) ∧ (∀ M1 : xM, M1 = xU M (11 + l1.toNat) ((M 5 2) + l2).toNat 0 → Xv m_C_fillPlainRow 2 n R P 75 [some (vr 5), some (vi l1), some (vi (l2 + 1))] [] M1)) ∧ (l1 = l2 → (0 ≤ (M 5 2) + l2 ∧ (M 5 2) + l2 < 24) ∧ (∀ M2 : xM, M2 = xU M (11 + l1.toNat) ((M 5 2) + l2).toNat 1 → Xv m_C_fillPlainRow 2 n R P 75 [some (vr 5), some (vi l1), some (vi (l2 + 1))] [] M2)))))) : Xv m_C_fillPlainRow 2 n R P 75 [some (vr 5), some (vi l1), some (vi l2)] [] M := by
  intro Q hQ
  refine x_iload_n (pc := 75) d_C_fillPlainRow_75 rfl rfl ?_
  refine x_aload_n (pc := 76) d_C_fillPlainRow_76 rfl rfl ?_
  refine x_getI (k := 5) (ci := 2) (pc := 77) 3 d_C_fillPlainRow_77 cok2 rfl (Nat.lt_of_lt_of_le (by decide) hn) rfl (by decide) rfl w_105 ?_
  obtain ⟨h1, hvc⟩ := hvc
  obtain ⟨h2, hvc⟩ := hvc
  refine x_icmp_ge (tgt := 112) (pc := 80) d_C_fillPlainRow_80 rfl h1 h2 (fun hb => ?_) (fun hb => ?_)
  · have hvc := hvc.1 hb
    exact x_vret (pc := 112) d_C_fillPlainRow_112 rfl rfl (Nat.le_refl _) (hQ _ hvc)
  · have hvc := hvc.2 hb
    refine x_aload_n (pc := 83) d_C_fillPlainRow_83 rfl rfl ?_
    refine x_getR (k := 5) (ci := 2) (pc := 84) (t := 10) 8 d_C_fillPlainRow_84 cok2 rfl (Nat.lt_of_lt_of_le (by decide) hn) rfl (by decide) rfl (hR.at 5 8 rfl rfl) w_116 ?_
    refine x_iload_n (pc := 87) d_C_fillPlainRow_87 rfl rfl ?_
    obtain ⟨h3, hvc⟩ := hvc
    refine x_aald (k := 10) (N := 4) (pc := 88) d_C_fillPlainRow_88 (Nat.lt_of_lt_of_le (by decide) hn) rfl (by decide) h3.1 h3.2 (hR.row 10 11 4 rfl rfl h3.1 h3.2) ?_
    refine x_aload_n (pc := 89) d_C_fillPlainRow_89 rfl rfl ?_
    refine x_getI (k := 5) (ci := 2) (pc := 90) 2 d_C_fillPlainRow_90 cok2 rfl (Nat.lt_of_lt_of_le (by decide) hn) rfl (by decide) rfl w_99 ?_
    refine x_iload_n (pc := 93) d_C_fillPlainRow_93 rfl rfl ?_
    refine x_iadd (pc := 94) d_C_fillPlainRow_94 ?_
    refine x_iload_n (pc := 95) d_C_fillPlainRow_95 rfl rfl ?_
    refine x_iload_n (pc := 96) d_C_fillPlainRow_96 rfl rfl ?_
    obtain ⟨h4, hvc⟩ := hvc
    refine x_icmp_ne (tgt := 104) (pc := 97) d_C_fillPlainRow_97 rfl h4 h1 (fun hb => ?_) (fun hb => ?_)
    · have hvc := hvc.1 hb
      refine x_iconst (pc := 104) d_C_fillPlainRow_104 ?_
      obtain ⟨h5, hvc⟩ := hvc
      refine x_iast (N := 24) (pc := 105) d_C_fillPlainRow_105 (Nat.lt_of_lt_of_le (rowN_11 (by omega)) hn) (rowS_11 (by omega)) (by decide) h5.1 h5.2 (fun M1 eM1 => ?_)
      have hvc := hvc M1 eM1
      refine x_iinc (pc := 106) d_C_fillPlainRow_106 rfl (by decide) ?_
      refine x_goto (tgt := 75) (pc := 109) d_C_fillPlainRow_109 rfl ?_
      exact x_locals (xmask [true, true, true] _) (xmask_sub _ _) (hvc Q hQ)
    · have hvc := hvc.2 hb
      refine x_iconst (pc := 100) d_C_fillPlainRow_100 ?_
      refine x_goto (tgt := 105) (pc := 101) d_C_fillPlainRow_101 rfl ?_
      obtain ⟨h6, hvc⟩ := hvc
      refine x_iast (N := 24) (pc := 105) d_C_fillPlainRow_105 (Nat.lt_of_lt_of_le (rowN_11 (by omega)) hn) (rowS_11 (by omega)) (by decide) h6.1 h6.2 (fun M2 eM2 => ?_)
      have hvc := hvc M2 eM2
      refine x_iinc (pc := 106) d_C_fillPlainRow_106 rfl (by decide) ?_
      refine x_goto (tgt := 75) (pc := 109) d_C_fillPlainRow_109 rfl ?_
      exact x_locals (xmask [true, true, true] _) (xmask_sub _ _) (hvc Q hQ)
set_option maxRecDepth 20000 in
theorem E_C_fillPlainRow {n : Nat} {R : xR} {M : xM} {P : xM → Prop} (hn : 78 ≤ n) (hR : RC 78 R) {l1 : Int} (h : Xv m_C_fillPlainRow 2 n R P 0 [some (vr 5), some (vi l1), none] [] M) : Cv m_C_fillPlainRow 2 n R [vr 5, vi l1] M P :=
  Cv.of [some (vr 5), some (vi l1), none] (by decide) rfl (Nat.le_of_ble_eq_true rfl) rfl h
set_option maxRecDepth 20000 in
theorem B_C_mixed_p_0 {n : Nat} {R : xR} {M : xM} {P : Int → xM → Prop} (hn : 78 ≤ n) (hR : RC 78 R) {l3 : Int} {q2 N2 : Nat} (hq2S : xS q2 = (0, N2)) (hq2n : q2 < n) (hq2N : N2 < 2147483648) (hvc : Xi m_C_mixed 1 n R P 6 [some (vr 5), some (vr 10), some (vr q2), some (vi l3), some (vi 0), some (vi 0)] [] M) : Xi m_C_mixed 1 n R P 0 [some (vr 5), some (vr 10), some (vr q2), some (vi l3), none, none] [] M := by
  intro Q hQ
  refine x_iconst (pc := 0) d_C_mixed_0 ?_
  refine x_istore (pc := 1) d_C_mixed_1 (by decide) ?_
  refine x_iconst (pc := 3) d_C_mixed_3 ?_
  refine x_istore (pc := 4) d_C_mixed_4 (by decide) ?_
  exact x_locals (xmask [true, true, true, true, true, true] _) (xmask_sub _ _) (hvc Q hQ)
set_option maxRecDepth 20000 in
theorem B_C_mixed_p_6 {n : Nat} {R : xR} {M : xM} {P : Int → xM → Prop} (hn : 78 ≤ n) (hR : RC 78 R) {l3 l4 l5 : Int} {q2 N2 : Nat} (hq2S : xS q2 = (0, N2)) (hq2n : q2 < n) (hq2N : N2 < 2147483648) (hvc : (-2147483648 ≤ l5 ∧ l5 < 2147483648) ∧ (-2147483648 ≤ M 5 3 ∧ M 5 3 < 2147483648) ∧ (((M 5 3) ≤ l5 → P l4 M) ∧ (¬ (M 5 3) ≤ l5 → (0 ≤ l5 ∧ l5 < N2) ∧ (0 ≤ l5 ∧ l5 < 4) ∧ (0 ≤ l3 ∧ l3 < 24) ∧ Ci m_F_product 0 n R [vr 1, vi (M q2 l5.toNat), vi (M (11 + l5.toNat) l3.toNat)] M (fun z6 M1 => Xi m_C_mixed 1 n R P 6 [some (vr 5), some (vr 10), some (vr q2), some (vi l3), some (vi (xXor l4 z6)), some (vi (l5 + 1))] [] M1)))) : Xi m_C_mixed 1 n R P 6 [some (vr 5), some (vr 10), some (vr q2), some (vi l3), some (vi l4), some (vi l5)] [] M := by
  intro Q hQ
  refine x_iload (pc := 6) d_C_mixed_6 rfl ?_
  refine x_aload_n (pc := 8) d_C_mixed_8 rfl rfl ?_
  refine x_getI (k := 5) (ci := 2) (pc := 9) 3 d_C_mixed_9 cok2 rfl (Nat.lt_of_lt_of_le (by decide) hn) rfl (by decide) rfl w_105 ?_
  obtain ⟨h1, hvc⟩ := hvc
  obtain ⟨h2, hvc⟩ := hvc
  refine x_icmp_ge (tgt := 43) (pc := 12) d_C_mixed_12 rfl h1 h2 (fun hb => ?_) (fun hb => ?_)
  · have hvc := hvc.1 hb
    refine x_iload (pc := 43) d_C_mixed_43 rfl ?_
    exact x_iret (pc := 45) d_C_mixed_45 rfl rfl (Nat.le_refl _) (hQ _ _ hvc)
  · have hvc := hvc.2 hb
    refine x_iload (pc := 15) d_C_mixed_15 rfl ?_
    refine x_aload_n (pc := 17) d_C_mixed_17 rfl rfl ?_
    refine x_getR (k := 5) (ci := 2) (pc := 18) (t := 1) 0 d_C_mixed_18 cok2 rfl (Nat.lt_of_lt_of_le (by decide) hn) rfl (by decide) rfl (hR.at 5 0 rfl rfl) w_97 ?_
    refine x_aload_n (pc := 21) d_C_mixed_21 rfl rfl ?_
    refine x_iload (pc := 22) d_C_mixed_22 rfl ?_
    obtain ⟨h3, hvc⟩ := hvc
    refine x_iald (N := N2) (pc := 24) d_C_mixed_24 hq2n hq2S hq2N h3.1 h3.2 ?_
    refine x_aload_n (pc := 25) d_C_mixed_25 rfl rfl ?_
    refine x_iload (pc := 26) d_C_mixed_26 rfl ?_
    obtain ⟨h4, hvc⟩ := hvc
    refine x_aald (k := 10) (N := 4) (pc := 28) d_C_mixed_28 (Nat.lt_of_lt_of_le (by decide) hn) rfl (by decide) h4.1 h4.2 (hR.row 10 11 4 rfl rfl h4.1 h4.2) ?_
    refine x_iload_n (pc := 29) d_C_mixed_29 rfl rfl ?_
    obtain ⟨h5, hvc⟩ := hvc
    refine x_iald (N := 24) (pc := 30) d_C_mixed_30 (Nat.lt_of_lt_of_le (rowN_11 (by omega)) hn) (rowS_11 (by omega)) (by decide) h5.1 h5.2 ?_
    refine y_callVi m_F_product 0 68 1 1 5 [_, _] [_] rfl (pc := 31) d_C_mixed_31 ok_F_product w_290 w_291 w_292 pn_F_product (Nat.lt_of_lt_of_le (by decide) hn) rfl rfl (by decide) (Nat.le_of_ble_eq_true rfl) (Nat.le_refl _) (Nat.le_refl _) hvc (fun z6 M1 hvc => ?_)
    refine x_ixor (pc := 34) d_C_mixed_34 ?_
    refine x_istore (pc := 35) d_C_mixed_35 (by decide) ?_
    refine x_iinc (pc := 37) d_C_mixed_37 rfl (by decide) ?_
    refine x_goto (tgt := 6) (pc := 40) d_C_mixed_40 rfl ?_
    exact x_locals (xmask [true, true, true, true, true, true] _) (xmask_sub _ _) (hvc Q hQ)
set_option maxRecDepth 20000 in
theorem E_C_mixed_p {n : Nat} {R : xR} {M : xM} {P : Int → xM → Prop} (hn : 78 ≤ n) (hR : RC 78 R) {l3 : Int} {q2 N2 : Nat} (hq2S : xS q2 = (0, N2)) (hq2n : q2 < n) (hq2N : N2 < 2147483648) (h : Xi m_C_mixed 1 n R P 0 [some (vr 5), some (vr 10), some (vr q2), some (vi l3), none, none] [] M) : Ci m_C_mixed 1 n R [vr 5, vr 10, vr q2, vi l3] M P :=
  Ci.of [some (vr 5), some (vr 10), some (vr q2), some (vi l3), none, none] (by decide) rfl (Nat.le_of_ble_eq_true rfl) rfl h
set_option maxRecDepth 20000 in
theorem B_C_mixed_l_0 {n : Nat} {R : xR} {M : xM} {P : Int → xM → Prop} (hn : 78 ≤ n) (hR : RC 78 R) {l3 : Int} {q2 N2 : Nat} (hq2S : xS q2 = (0, N2)) (hq2n : q2 < n) (hq2N : N2 < 2147483648) (hvc : Xi m_C_mixed 1 n R P 6 [some (vr 5), some (vr 15), some (vr q2), some (vi l3), some (vi 0), some (vi 0)] [] M) : Xi m_C_mixed 1 n R P 0 [some (vr 5), some (vr 15), some (vr q2), some (vi l3), none, none] [] M := by
  intro Q hQ
  refine x_iconst (pc := 0) d_C_mixed_0 ?_
  refine x_istore (pc := 1) d_C_mixed_1 (by decide) ?_
  refine x_iconst (pc := 3) d_C_mixed_3 ?_
  refine x_istore (pc := 4) d_C_mixed_4 (by decide) ?_
  exact x_locals (xmask [true, true, true, true, true, true] _) (xmask_sub _ _) (hvc Q hQ)
set_option maxRecDepth 20000 in
theorem B_C_mixed_l_6 {n : Nat} {R : xR} {M : xM} {P : Int → xM → Prop} (hn : 78 ≤ n) (hR : RC 78 R) {l3 l4 l5 : Int} {q2 N2 : Nat} (hq2S : xS q2 = (0, N2)) (hq2n : q2 < n) (hq2N : N2 < 2147483648) (hvc : (-2147483648 ≤ l5 ∧ l5 < 2147483648) ∧ (-2147483648 ≤ M 5 3 ∧ M 5 3 < 2147483648) ∧ (((M 5 3) ≤ l5 → P l4 M) ∧ (¬ (M 5 3) ≤ l5 → (0 ≤ l5 ∧ l5 < N2) ∧ (0 ≤ l5 ∧ l5 < 4) ∧ (0 ≤ l3 ∧ l3 < 24) ∧ Ci m_F_product 0 n R [vr 1, vi (M q2 l5.toNat), vi (M (16 + l5.toNat) l3.toNat)] M (fun z6 M1 => Xi m_C_mixed 1 n R P 6 [some (vr 5), some (vr 15), some (vr q2), some (vi l3), some (vi (xXor l4 z6)), some (vi (l5 + 1))] [] M1)))) : Xi m_C_mixed 1 n R P 6 [some (vr 5), some (vr 15), some (vr q2), some (vi l3), some (vi l4), some (vi l5)] [] M := by
  intro Q hQ
  refine x_iload (pc := 6) d_C_mixed_6 rfl ?_
  refine x_aload_n (pc := 8) d_C_mixed_8 rfl rfl ?_
  refine x_getI (k := 5) (ci := 2) (pc := 9) 3 d_C_mixed_9 cok2 rfl (Nat.lt_of_lt_of_le (by decide) hn) rfl (by decide) rfl w_105 ?_
  obtain ⟨h1, hvc⟩ := hvc
  obtain ⟨h2, hvc⟩ := hvc
  refine x_icmp_ge (tgt := 43) (pc := 12) d_C_mixed_12 rfl h1 h2 (fun hb => ?_) (fun hb => ?_)
  · have hvc := hvc.1 hb
    refine x_iload (pc := 43) d_C_mixed_43 rfl ?_
    exact x_iret (pc := 45) d_C_mixed_45 rfl rfl (Nat.le_refl _) (hQ _ _ hvc)
  · have hvc := hvc.2 hb
    refine x_iload (pc := 15) d_C_mixed_15 rfl ?_
    refine x_aload_n (pc := 17) d_C_mixed_17 rfl rfl ?_
    refine x_getR (k := 5) (ci := 2) (pc := 18) (t := 1) 0 d_C_mixed_18 cok2 rfl (Nat.lt_of_lt_of_le (by decide) hn) rfl (by decide) rfl (hR.at 5 0 rfl rfl) w_97 ?_
    refine x_aload_n (pc := 21) d_C_mixed_21 rfl rfl ?_
    refine x_iload (pc := 22) d_C_mixed_22 rfl ?_
    obtain ⟨h3, hvc⟩ := hvc
    refine x_iald (N := N2) (pc := 24) d_C_mixed_24 hq2n hq2S hq2N h3.1 h3.2 ?_
    refine x_aload_n (pc := 25) d_C_mixed_25 rfl rfl ?_
    refine x_iload (pc := 26) d_C_mixed_26 rfl ?_
    obtain ⟨h4, hvc⟩ := hvc
    refine x_aald (k := 15) (N := 4) (pc := 28) d_C_mixed_28 (Nat.lt_of_lt_of_le (by decide) hn) rfl (by decide) h4.1 h4.2 (hR.row 15 16 4 rfl rfl h4.1 h4.2) ?_
    refine x_iload_n (pc := 29) d_C_mixed_29 rfl rfl ?_
    obtain ⟨h5, hvc⟩ := hvc
    refine x_iald (N := 24) (pc := 30) d_C_mixed_30 (Nat.lt_of_lt_of_le (rowN_16 (by omega)) hn) (rowS_16 (by omega)) (by decide) h5.1 h5.2 ?_
    refine y_callVi m_F_product 0 68 1 1 5 [_, _] [_] rfl (pc := 31) d_C_mixed_31 ok_F_product w_290 w_291 w_292 pn_F_product (Nat.lt_of_lt_of_le (by decide) hn) rfl rfl (by decide) (Nat.le_of_ble_eq_true rfl) (Nat.le_refl _) (Nat.le_refl _) hvc (fun z6 M1 hvc => ?_)
    refine x_ixor (pc := 34) d_C_mixed_34 ?_
    refine x_istore (pc := 35) d_C_mixed_35 (by decide) ?_
    refine x_iinc (pc := 37) d_C_mixed_37 rfl (by decide) ?_
    refine x_goto (tgt := 6) (pc := 40) d_C_mixed_40 rfl ?_
    exact x_locals (xmask [true, true, true, true, true, true] _) (xmask_sub _ _) (hvc Q hQ)
set_option maxRecDepth 20000 in
theorem E_C_mixed_l {n : Nat} {R : xR} {M : xM} {P : Int → xM → Prop} (hn : 78 ≤ n) (hR : RC 78 R) {l3 : Int} {q2 N2 : Nat} (hq2S : xS q2 = (0, N2)) (hq2n : q2 < n) (hq2N : N2 < 2147483648) (h : Xi m_C_mixed 1 n R P 0 [some (vr 5), some (vr 15), some (vr q2), some (vi l3), none, none] [] M) : Ci m_C_mixed 1 n R [vr 5, vr 15, vr q2, vi l3] M P :=
  Ci.of [some (vr 5), some (vr 15), some (vr q2), some (vi l3), none, none] (by decide) rfl (Nat.le_of_ble_eq_true rfl) rfl h
set_option maxRecDepth 20000 in
theorem B_C_mixed_t_0 {n : Nat} {R : xR} {M : xM} {P : Int → xM → Prop} (hn : 78 ≤ n) (hR : RC 78 R) {l3 : Int} {q2 N2 : Nat} (hq2S : xS q2 = (0, N2)) (hq2n : q2 < n) (hq2N : N2 < 2147483648) (hvc : Xi m_C_mixed 1 n R P 6 [some (vr 5), some (vr 20), some (vr q2), some (vi l3), some (vi 0), some (vi 0)] [] M) : Xi m_C_mixed 1 n R P 0 [some (vr 5), some (vr 20), some (vr q2), some (vi l3), none, none] [] M := by
  intro Q hQ
  refine x_iconst (pc := 0) d_C_mixed_0 ?_
  refine x_istore (pc := 1) d_C_mixed_1 (by decide) ?_
  refine x_iconst (pc := 3) d_C_mixed_3 ?_
  refine x_istore (pc := 4) d_C_mixed_4 (by decide) ?_
  exact x_locals (xmask [true, true, true, true, true, true] _) (xmask_sub _ _) (hvc Q hQ)
set_option maxRecDepth 20000 in
theorem B_C_mixed_t_6 {n : Nat} {R : xR} {M : xM} {P : Int → xM → Prop} (hn : 78 ≤ n) (hR : RC 78 R) {l3 l4 l5 : Int} {q2 N2 : Nat} (hq2S : xS q2 = (0, N2)) (hq2n : q2 < n) (hq2N : N2 < 2147483648) (hvc : (-2147483648 ≤ l5 ∧ l5 < 2147483648) ∧ (-2147483648 ≤ M 5 3 ∧ M 5 3 < 2147483648) ∧ (((M 5 3) ≤ l5 → P l4 M) ∧ (¬ (M 5 3) ≤ l5 → (0 ≤ l5 ∧ l5 < N2) ∧ (0 ≤ l5 ∧ l5 < 4) ∧ (0 ≤ l3 ∧ l3 < 24) ∧ Ci m_F_product 0 n R [vr 1, vi (M q2 l5.toNat), vi (M (21 + l5.toNat) l3.toNat)] M (fun z6 M1 => Xi m_C_mixed 1 n R P 6 [some (vr 5), some (vr 20), some (vr q2), some (vi l3), some (vi (xXor l4 z6)), some (vi (l5 + 1))] [] M1)))) : Xi m_C_mixed 1 n R P 6 [some (vr 5), some (vr 20), some (vr q2), some (vi l3), some (vi l4), some (vi l5)] [] M := by
  intro Q hQ
  refine x_iload (pc := 6) d_C_mixed_6 rfl ?_
  refine x_aload_n (pc := 8) d_C_mixed_8 rfl rfl ?_
  refine x_getI (k := 5) (ci := 2) (pc := 9) 3 d_C_mixed_9 cok2 rfl (Nat.lt_of_lt_of_le (by decide) hn) rfl (by decide) rfl w_105 ?_
  obtain ⟨h1, hvc⟩ := hvc
  obtain ⟨h2, hvc⟩ := hvc
  refine x_icmp_ge (tgt := 43) (pc := 12) d_C_mixed_12 rfl h1 h2 (fun hb => ?_) (fun hb => ?_)
  · have hvc := hvc.1 hb
    refine x_iload (pc := 43) d_C_mixed_43 rfl ?_
    exact x_iret (pc := 45) d_C_mixed_45 rfl rfl (Nat.le_refl _) (hQ _ _ hvc)
  · have hvc := hvc.2 hb
    refine x_iload (pc := 15) d_C_mixed_15 rfl ?_
    refine x_aload_n (pc := 17) d_C_mixed_17 rfl rfl ?_
    refine x_getR (k := 5) (ci := 2) (pc := 18) (t := 1) 0 d_C_mixed_18 cok2 rfl (Nat.lt_of_lt_of_le (by decide) hn) rfl (by decide) rfl (hR.at 5 0 rfl rfl) w_97 ?_
    refine x_aload_n (pc := 21) d_C_mixed_21 rfl rfl ?_
    refine x_iload (pc := 22) d_C_mixed_22 rfl ?_
    obtain ⟨h3, hvc⟩ := hvc
    refine x_iald (N := N2) (pc := 24) d_C_mixed_24 hq2n hq2S hq2N h3.1 h3.2 ?_
    refine x_aload_n (pc := 25) d_C_mixed_25 rfl rfl ?_
    refine x_iload (pc := 26) d_C_mixed_26 rfl ?_
    obtain ⟨h4, hvc⟩ := hvc
    refine x_aald (k := 20) (N := 4) (pc := 28) d_C_mixed_28 (Nat.lt_of_lt_of_le (by decide) hn) rfl (by decide) h4.1 h4.2 (hR.row 20 21 4 rfl rfl h4.1 h4.2) ?_
    refine x_iload_n (pc := 29) d_C_mixed_29 rfl rfl ?_
    obtain ⟨h5, hvc⟩ := hvc
    refine x_iald (N := 24) (pc := 30) d_C_mixed_30 (Nat.lt_of_lt_of_le (rowN_21 (by omega)) hn) (rowS_21 (by omega)) (by decide) h5.1 h5.2 ?_
    refine y_callVi m_F_product 0 68 1 1 5 [_, _] [_] rfl (pc := 31) d_C_mixed_31 ok_F_product w_290 w_291 w_292 pn_F_product (Nat.lt_of_lt_of_le (by decide) hn) rfl rfl (by decide) (Nat.le_of_ble_eq_true rfl) (Nat.le_refl _) (Nat.le_refl _) hvc (fun z6 M1 hvc => ?_)
    refine x_ixor (pc := 34) d_C_mixed_34 ?_
    refine x_istore (pc := 35) d_C_mixed_35 (by decide) ?_
    refine x_iinc (pc := 37) d_C_mixed_37 rfl (by decide) ?_
    refine x_goto (tgt := 6) (pc := 40) d_C_mixed_40 rfl ?_
    exact x_locals (xmask [true, true, true, true, true, true] _) (xmask_sub _ _) (hvc Q hQ)
set_option maxRecDepth 20000 in
theorem E_C_mixed_t {n : Nat} {R : xR} {M : xM} {P : Int → xM → Prop} (hn : 78 ≤ n) (hR : RC 78 R) {l3 : Int} {q2 N2 : Nat} (hq2S : xS q2 = (0, N2)) (hq2n : q2 < n) (hq2N : N2 < 2147483648) (h : Xi m_C_mixed 1 n R P 0 [some (vr 5), some (vr 20), some (vr q2), some (vi l3), none, none] [] M) : Ci m_C_mixed 1 n R [vr 5, vr 20, vr q2, vi l3] M P :=
  Ci.of [some (vr 5), some (vr 20), some (vr q2), some (vi l3), none, none] (by decide) rfl (Nat.le_of_ble_eq_true rfl) rfl h
set_option maxRecDepth 20000 in
theorem B_C_fillUnitRows_l_0 {n : Nat} {R : xR} {M : xM} {P : xM → Prop} (hn : 78 ≤ n) (hR : RC 78 R) {l2 : Int} (hvc : Xv m_C_fillUnitRows 1 n R P 13 [some (vr 5), some (vr 15), some (vi l2), some (vi ((M 5 2) + (M 5 3))), some (vi 0), none, none] [] M) : Xv m_C_fillUnitRows 1 n R P 0 [some (vr 5), some (vr 15), some (vi l2), none, none, none, none] [] M := by
  intro Q hQ
  refine x_aload_n (pc := 0) d_C_fillUnitRows_0 rfl rfl ?_
  refine x_getI (k := 5) (ci := 2) (pc := 1) 2 d_C_fillUnitRows_1 cok2 rfl (Nat.lt_of_lt_of_le (by decide) hn) rfl (by decide) rfl w_99 ?_
  refine x_aload_n (pc := 4) d_C_fillUnitRows_4 rfl rfl ?_
  refine x_getI (k := 5) (ci := 2) (pc := 5) 3 d_C_fillUnitRows_5 cok2 rfl (Nat.lt_of_lt_of_le (by decide) hn) rfl (by decide) rfl w_105 ?_
  refine x_iadd (pc := 8) d_C_fillUnitRows_8 ?_
  refine x_istore_n (pc := 9) d_C_fillUnitRows_9 rfl (by decide) ?_
  refine x_iconst (pc := 10) d_C_fillUnitRows_10 ?_
  refine x_istore (pc := 11) d_C_fillUnitRows_11 (by decide) ?_
  exact x_locals (xmask [true, true, true, true, true, false, false] _) (xmask_sub _ _) (hvc Q hQ)
set_option maxRecDepth 20000 in
theorem B_C_fillUnitRows_l_13 {n : Nat} {R : xR} {M : xM} {P : xM → Prop} (hn : 78 ≤ n) (hR : RC 78 R) {l2 l3 l4 : Int} (hvc : (-2147483648 ≤ l4 ∧ l4 < 2147483648) ∧ (-2147483648 ≤ M 5 3 ∧ M 5 3 < 2147483648) ∧ (((M 5 3) ≤ l4 → Xv m_C_fillUnitRows 1 n R P 48 [some (vr 5), some (vr 15), some (vi l2), some (vi l3), some (vi 0), none, none] [] M) ∧ (¬ (M 5 3) ≤ l4 → (0 ≤ l4 ∧ l4 < 4) ∧ (0 ≤ l3) ∧ (0 + l3 ≤ 24) ∧ (∀ M1 : xM, M1 = xCp M (11 + l4.toNat) (16 + l4.toNat) 0 0 l3.toNat → Xv m_C_fillUnitRows 1 n R P 13 [some (vr 5), some (vr 15), some (vi l2), some (vi l3), some (vi (l4 + 1)), none, none] [] M1)))) : Xv m_C_fillUnitRows 1 n R P 13 [some (vr 5), some (vr 15), some (vi l2), some (vi l3), some (vi l4), none, none] [] M := by
  intro Q hQ
  refine x_iload (pc := 13) d_C_fillUnitRows_13 rfl ?_
  refine x_aload_n (pc := 15) d_C_fillUnitRows_15 rfl rfl ?_
  refine x_getI (k := 5) (ci := 2) (pc := 16) 3 d_C_fillUnitRows_16 cok2 rfl (Nat.lt_of_lt_of_le (by decide) hn) rfl (by decide) rfl w_105 ?_
  obtain ⟨h1, hvc⟩ := hvc
  obtain ⟨h2, hvc⟩ := hvc
  refine x_icmp_ge (tgt := 45) (pc := 19) d_C_fillUnitRows_19 rfl h1 h2 (fun hb => ?_) (fun hb => ?_)
  · have hvc := hvc.1 hb
    refine x_iconst (pc := 45) d_C_fillUnitRows_45 ?_
    refine x_istore (pc := 46) d_C_fillUnitRows_46 (by decide) ?_
    exact x_locals (xmask [true, true, true, true, true, false, false] _) (xmask_sub _ _) (hvc Q hQ)
  · have hvc := hvc.2 hb
    refine x_aload_n (pc := 22) d_C_fillUnitRows_22 rfl rfl ?_
    refine x_getR (k := 5) (ci := 2) (pc := 23) (t := 10) 8 d_C_fillUnitRows_23 cok2 rfl (Nat.lt_of_lt_of_le (by decide) hn) rfl (by decide) rfl (hR.at 5 8 rfl rfl) w_116 ?_
    refine x_iload (pc := 26) d_C_fillUnitRows_26 rfl ?_
    obtain ⟨h3, hvc⟩ := hvc
    refine x_aald (k := 10) (N := 4) (pc := 28) d_C_fillUnitRows_28 (Nat.lt_of_lt_of_le (by decide) hn) rfl (by decide) h3.1 h3.2 (hR.row 10 11 4 rfl rfl h3.1 h3.2) ?_
    refine x_iconst (pc := 29) d_C_fillUnitRows_29 ?_
    refine x_aload_n (pc := 30) d_C_fillUnitRows_30 rfl rfl ?_
    refine x_iload (pc := 31) d_C_fillUnitRows_31 rfl ?_
    refine x_aald (k := 15) (N := 4) (pc := 33) d_C_fillUnitRows_33 (Nat.lt_of_lt_of_le (by decide) hn) rfl (by decide) h3.1 h3.2 (hR.row 15 16 4 rfl rfl h3.1 h3.2) ?_
    refine x_iconst (pc := 34) d_C_fillUnitRows_34 ?_
    refine x_iload_n (pc := 35) d_C_fillUnitRows_35 rfl rfl ?_
    obtain ⟨h4, hvc⟩ := hvc
    obtain ⟨h5, hvc⟩ := hvc
    refine x_copy 78 _ _ 24 24 (pc := 36) d_C_fillUnitRows_36 w_315 w_317 w_316 w_50 (by decide) (Nat.le_of_ble_eq_true rfl) (Nat.lt_of_lt_of_le (rowN_11 (by omega)) hn) (Nat.lt_of_lt_of_le (rowN_16 (by omega)) hn) (rowS_11 (by omega)) (rowS_16 (by omega)) (by decide) (by decide) (by decide) (by decide) h4 h5 h5 (fun M1 eM1 => ?_)
    have hvc := hvc M1 eM1
    refine x_iinc (pc := 39) d_C_fillUnitRows_39 rfl (by decide) ?_
    refine x_goto (tgt := 13) (pc := 42) d_C_fillUnitRows_42 rfl ?_
    exact x_locals (xmask [true, true, true, true, true, false, false] _) (xmask_sub _ _) (hvc Q hQ)
set_option maxRecDepth 20000 in
theorem B_C_fillUnitRows_l_48 {n : Nat} {R : xR} {M : xM} {P : xM → Prop} (hn : 78 ≤ n) (hR : RC 78 R) {l2 l3 l4 : Int} (hvc : (-2147483648 ≤ l4 ∧ l4 < 2147483648) ∧ (-2147483648 ≤ M 5 3 ∧ M 5 3 < 2147483648) ∧ (((M 5 3) ≤ l4 → P M) ∧ (¬ (M 5 3) ≤ l4 → (0 ≤ l4 ∧ l4 < 4) ∧ (0 ≤ l2 + l4 ∧ l2 + l4 < 24) ∧ Ci m_F_quotient 0 n R [vr 1, vi 1, vi (M (16 + l4.toNat) (l2 + l4).toNat)] M (fun z5 M1 => Xv m_C_fillUnitRows 1 n R P 79 [some (vr 5), some (vr 15), some (vi l2), some (vi l3), some (vi l4), some (vi z5), some (vi 0)] [] M1)))) : Xv m_C_fillUnitRows 1 n R P 48 [some (vr 5), some (vr 15), some (vi l2), some (vi l3), some (vi l4), none, none] [] M := by
  intro Q hQ
  refine x_iload (pc := 48) d_C_fillUnitRows_48 rfl ?_
  refine x_aload_n (pc := 50) d_C_fillUnitRows_50 rfl rfl ?_
  refine x_getI (k := 5) (ci := 2) (pc := 51) 3 d_C_fillUnitRows_51 cok2 rfl (Nat.lt_of_lt_of_le (by decide) hn) rfl (by decide) rfl w_105 ?_
  obtain ⟨h1, hvc⟩ := hvc
  obtain ⟨h2, hvc⟩ := hvc
  refine x_icmp_ge (tgt := 171) (pc := 54) d_C_fillUnitRows_54 rfl h1 h2 (fun hb => ?_) (fun hb => ?_)
  · have hvc := hvc.1 hb
    exact x_vret (pc := 171) d_C_fillUnitRows_171 rfl rfl (Nat.le_refl _) (hQ _ hvc)
  · have hvc := hvc.2 hb
    refine x_aload_n (pc := 57) d_C_fillUnitRows_57 rfl rfl ?_
    refine x_getR (k := 5) (ci := 2) (pc := 58) (t := 1) 0 d_C_fillUnitRows_58 cok2 rfl (Nat.lt_of_lt_of_le (by decide) hn) rfl (by decide) rfl (hR.at 5 0 rfl rfl) w_97 ?_
    refine x_iconst (pc := 61) d_C_fillUnitRows_61 ?_
    refine x_aload_n (pc := 62) d_C_fillUnitRows_62 rfl rfl ?_
    refine x_iload (pc := 63) d_C_fillUnitRows_63 rfl ?_
    obtain ⟨h3, hvc⟩ := hvc
    refine x_aald (k := 15) (N := 4) (pc := 65) d_C_fillUnitRows_65 (Nat.lt_of_lt_of_le (by decide) hn) rfl (by decide) h3.1 h3.2 (hR.row 15 16 4 rfl rfl h3.1 h3.2) ?_
    refine x_iload_n (pc := 66) d_C_fillUnitRows_66 rfl rfl ?_
    refine x_iload (pc := 67) d_C_fillUnitRows_67 rfl ?_
    refine x_iadd (pc := 69) d_C_fillUnitRows_69 ?_
    obtain ⟨h4, hvc⟩ := hvc
    refine x_iald (N := 24) (pc := 70) d_C_fillUnitRows_70 (Nat.lt_of_lt_of_le (rowN_16 (by omega)) hn) (rowS_16 (by omega)) (by decide) h4.1 h4.2 ?_
    refine y_callVi m_F_quotient 0 72 1 1 5 [_, _] [] rfl (pc := 71) d_C_fillUnitRows_71 ok_F_quotient w_294 w_295 w_296 pn_F_quotient (Nat.lt_of_lt_of_le (by decide) hn) rfl rfl (by decide) (Nat.le_of_ble_eq_true rfl) (Nat.le_refl _) (Nat.le_refl _) hvc (fun z5 M1 hvc => ?_)
    refine x_istore (pc := 74) d_C_fillUnitRows_74 (by decide) ?_
    refine x_iconst (pc := 76) d_C_fillUnitRows_76 ?_
    refine x_istore (pc := 77) d_C_fillUnitRows_77 (by decide) ?_
    exact x_locals (xmask [true, true, true, true, true, true, true] _) (xmask_sub _ _) (hvc Q hQ)
set_option maxRecDepth 20000 in
theorem B_C_fillUnitRows_l_79 {n : Nat} {R : xR} {M : xM} {P : xM → Prop} (hn : 78 ≤ n) (hR : RC 78 R) {l2 l3 l4 l5 l6 : Int} (hvc : (-2147483648 ≤ l6 ∧ l6 < 2147483648) ∧ (-2147483648 ≤ l3 ∧ l3 < 2147483648) ∧ ((l3 ≤ l6 → Xv m_C_fillUnitRows 1 n R P 117 [some (vr 5), some (vr 15), some (vi l2), some (vi l3), some (vi l4), some (vi l5), some (vi 0)] [] M) ∧ (¬ l3 ≤ l6 → (0 ≤ l4 ∧ l4 < 4) ∧ (0 ≤ l6 ∧ l6 < 24) ∧ Ci m_F_product 0 n R [vr 1, vi l5, vi (M (16 + l4.toNat) l6.toNat)] M (fun z5 M1 => (∀ M2 : xM, M2 = xU M1 (16 + l4.toNat) l6.toNat z5 → Xv m_C_fillUnitRows 1 n R P 79 [some (vr 5), some (vr 15), some (vi l2), some (vi l3), some (vi l4), some (vi l5), some (vi (l6 + 1))] [] M2))))) : Xv m_C_fillUnitRows 1 n R P 79 [some (vr 5), some (vr 15), some (vi l2), some (vi l3), some (vi l4), some (vi l5), some (vi l6)] [] M := by
  intro Q hQ
  refine x_iload (pc := 79) d_C_fillUnitRows_79 rfl ?_
  refine x_iload_n (pc := 81) d_C_fillUnitRows_81 rfl rfl ?_
  obtain ⟨h1, hvc⟩ := hvc
  obtain ⟨h2, hvc⟩ := hvc
  refine x_icmp_ge (tgt := 114) (pc := 82) d_C_fillUnitRows_82 rfl h1 h2 (fun hb => ?_) (fun hb => ?_)
  · have hvc := hvc.1 hb
    refine x_iconst (pc := 114) d_C_fillUnitRows_114 ?_
    refine x_istore (pc := 115) d_C_fillUnitRows_115 (by decide) ?_
    exact x_locals (xmask [true, true, true, true, true, true, true] _) (xmask_sub _ _) (hvc Q hQ)
  · have hvc := hvc.2 hb
    refine x_aload_n (pc := 85) d_C_fillUnitRows_85 rfl rfl ?_
    refine x_iload (pc := 86) d_C_fillUnitRows_86 rfl ?_
    obtain ⟨h3, hvc⟩ := hvc
    refine x_aald (k := 15) (N := 4) (pc := 88) d_C_fillUnitRows_88 (Nat.lt_of_lt_of_le (by decide) hn) rfl (by decide) h3.1 h3.2 (hR.row 15 16 4 rfl rfl h3.1 h3.2) ?_
    refine x_iload (pc := 89) d_C_fillUnitRows_89 rfl ?_
    refine x_aload_n (pc := 91) d_C_fillUnitRows_91 rfl rfl ?_
    refine x_getR (k := 5) (ci := 2) (pc := 92) (t := 1) 0 d_C_fillUnitRows_92 cok2 rfl (Nat.lt_of_lt_of_le (by decide) hn) rfl (by decide) rfl (hR.at 5 0 rfl rfl) w_97 ?_
    refine x_iload (pc := 95) d_C_fillUnitRows_95 rfl ?_
    refine x_aload_n (pc := 97) d_C_fillUnitRows_97 rfl rfl ?_
    refine x_iload (pc := 98) d_C_fillUnitRows_98 rfl ?_
    refine x_aald (k := 15) (N := 4) (pc := 100) d_C_fillUnitRows_100 (Nat.lt_of_lt_of_le (by decide) hn) rfl (by decide) h3.1 h3.2 (hR.row 15 16 4 rfl rfl h3.1 h3.2) ?_
    refine x_iload (pc := 101) d_C_fillUnitRows_101 rfl ?_
    obtain ⟨h4, hvc⟩ := hvc
    refine x_iald (N := 24) (pc := 103) d_C_fillUnitRows_103 (Nat.lt_of_lt_of_le (rowN_16 (by omega)) hn) (rowS_16 (by omega)) (by decide) h4.1 h4.2 ?_
    refine y_callVi m_F_product 0 68 1 1 5 [_, _] [_, _] rfl (pc := 104) d_C_fillUnitRows_104 ok_F_product w_290 w_291 w_292 pn_F_product (Nat.lt_of_lt_of_le (by decide) hn) rfl rfl (by decide) (Nat.le_of_ble_eq_true rfl) (Nat.le_refl _) (Nat.le_refl _) hvc (fun z5 M1 hvc => ?_)
    refine x_iast (N := 24) (pc := 107) d_C_fillUnitRows_107 (Nat.lt_of_lt_of_le (rowN_16 (by omega)) hn) (rowS_16 (by omega)) (by decide) h4.1 h4.2 (fun M2 eM2 => ?_)
    have hvc := hvc M2 eM2
    refine x_iinc (pc := 108) d_C_fillUnitRows_108 rfl (by decide) ?_
    refine x_goto (tgt := 79) (pc := 111) d_C_fillUnitRows_111 rfl ?_
    exact x_locals (xmask [true, true, true, true, true, true, true] _) (xmask_sub _ _) (hvc Q hQ)
set_option maxRecDepth 20000 in
theorem B_C_fillUnitRows_l_117 {n : Nat} {R : xR} {M : xM} {P : xM → Prop} (hn : 78 ≤ n) (hR : RC 78 R) {l2 l3 l4 l5 l6 : Int} (hvc : (-2147483648 ≤ l6 ∧ l6 < 2147483648) ∧ (-2147483648 ≤ M 5 3 ∧ M 5 3 < 2147483648) ∧ (((M 5 3) ≤ l6 → Xv m_C_fillUnitRows 1 n R P 48 [some (vr 5), some (vr 15), some (vi l2), some (vi l3), some (vi (l4 + 1)), none, none] [] M) ∧ (¬ (M 5 3) ≤ l6 → (-2147483648 ≤ l4 ∧ l4 < 2147483648) ∧ ((l6 = l4 → Xv m_C_fillUnitRows 1 n R P 117 [some (vr 5), some (vr 15), some (vi l2), some (vi l3), some (vi l4), some (vi l5), some (vi (l6 + 1))] [] M) ∧ (¬ l6 = l4 → (0 ≤ l6 ∧ l6 < 4) ∧ (0 ≤ l2 + l4 ∧ l2 + l4 < 24) ∧ (0 ≤ l4 ∧ l4 < 4) ∧ Cv m_F_addMultiple 0 n R [vr 1, vr (16 + l6.toNat), vi (M (16 + l6.toNat) (l2 + l4).toNat), vr (16 + l4.toNat), vi 0, vi l3] M (fun M1 => Xv m_C_fillUnitRows 1 n R P 117 [some (vr 5), some (vr 15), some (vi l2), some (vi l3), some (vi l4), some (vi l5), some (vi (l6 + 1))] [] M1)))))) : Xv m_C_fillUnitRows 1 n R P 117 [some (vr 5), some (vr 15), some (vi l2), some (vi l3), some (vi l4), some (vi l5), some (vi l6)] [] M := by
  intro Q hQ
  refine x_iload (pc := 117) d_C_fillUnitRows_117 rfl ?_
  refine x_aload_n (pc := 119) d_C_fillUnitRows_119 rfl rfl ?_
  refine x_getI (k := 5) (ci := 2) (pc := 120) 3 d_C_fillUnitRows_120 cok2 rfl (Nat.lt_of_lt_of_le (by decide) hn) rfl (by decide) rfl w_105 ?_
  obtain ⟨h1, hvc⟩ := hvc
  obtain ⟨h2, hvc⟩ := hvc
  refine x_icmp_ge (tgt := 165) (pc := 123) d_C_fillUnitRows_123 rfl h1 h2 (fun hb => ?_) (fun hb => ?_)
  · have hvc := hvc.1 hb
    refine x_iinc (pc := 165) d_C_fillUnitRows_165 rfl (by decide) ?_
    refine x_goto (tgt := 48) (pc := 168) d_C_fillUnitRows_168 rfl ?_
    exact x_locals (xmask [true, true, true, true, true, false, false] _) (xmask_sub _ _) (hvc Q hQ)
  · have hvc := hvc.2 hb
    refine x_iload (pc := 126) d_C_fillUnitRows_126 rfl ?_
    refine x_iload (pc := 128) d_C_fillUnitRows_128 rfl ?_
    obtain ⟨h3, hvc⟩ := hvc
    refine x_icmp_eq (tgt := 159) (pc := 130) d_C_fillUnitRows_130 rfl h1 h3 (fun hb => ?_) (fun hb => ?_)
    · have hvc := hvc.1 hb
      refine x_iinc (pc := 159) d_C_fillUnitRows_159 rfl (by decide) ?_
      refine x_goto (tgt := 117) (pc := 162) d_C_fillUnitRows_162 rfl ?_
      exact x_locals (xmask [true, true, true, true, true, true, true] _) (xmask_sub _ _) (hvc Q hQ)
    · have hvc := hvc.2 hb
      refine x_aload_n (pc := 133) d_C_fillUnitRows_133 rfl rfl ?_
      refine x_getR (k := 5) (ci := 2) (pc := 134) (t := 1) 0 d_C_fillUnitRows_134 cok2 rfl (Nat.lt_of_lt_of_le (by decide) hn) rfl (by decide) rfl (hR.at 5 0 rfl rfl) w_97 ?_
      refine x_aload_n (pc := 137) d_C_fillUnitRows_137 rfl rfl ?_
      refine x_iload (pc := 138) d_C_fillUnitRows_138 rfl ?_
      obtain ⟨h4, hvc⟩ := hvc
      refine x_aald (k := 15) (N := 4) (pc := 140) d_C_fillUnitRows_140 (Nat.lt_of_lt_of_le (by decide) hn) rfl (by decide) h4.1 h4.2 (hR.row 15 16 4 rfl rfl h4.1 h4.2) ?_
      refine x_aload_n (pc := 141) d_C_fillUnitRows_141 rfl rfl ?_
      refine x_iload (pc := 142) d_C_fillUnitRows_142 rfl ?_
      refine x_aald (k := 15) (N := 4) (pc := 144) d_C_fillUnitRows_144 (Nat.lt_of_lt_of_le (by decide) hn) rfl (by decide) h4.1 h4.2 (hR.row 15 16 4 rfl rfl h4.1 h4.2) ?_
      refine x_iload_n (pc := 145) d_C_fillUnitRows_145 rfl rfl ?_
      refine x_iload (pc := 146) d_C_fillUnitRows_146 rfl ?_
      refine x_iadd (pc := 148) d_C_fillUnitRows_148 ?_
      obtain ⟨h5, hvc⟩ := hvc
      refine x_iald (N := 24) (pc := 149) d_C_fillUnitRows_149 (Nat.lt_of_lt_of_le (rowN_16 (by omega)) hn) (rowS_16 (by omega)) (by decide) h5.1 h5.2 ?_
      refine x_aload_n (pc := 150) d_C_fillUnitRows_150 rfl rfl ?_
      refine x_iload (pc := 151) d_C_fillUnitRows_151 rfl ?_
      obtain ⟨h6, hvc⟩ := hvc
      refine x_aald (k := 15) (N := 4) (pc := 153) d_C_fillUnitRows_153 (Nat.lt_of_lt_of_le (by decide) hn) rfl (by decide) h6.1 h6.2 (hR.row 15 16 4 rfl rfl h6.1 h6.2) ?_
      refine x_iconst (pc := 154) d_C_fillUnitRows_154 ?_
      refine x_iload_n (pc := 155) d_C_fillUnitRows_155 rfl rfl ?_
      refine y_callVv m_F_addMultiple 0 84 1 1 5 [_, _, _, _, _] [] rfl (pc := 156) d_C_fillUnitRows_156 ok_F_addMultiple w_318 w_319 w_320 pn_F_addMultiple (Nat.lt_of_lt_of_le (by decide) hn) rfl rfl (by decide) (Nat.le_of_ble_eq_true rfl) (Nat.le_refl _) (Nat.le_refl _) hvc (fun M1 hvc => ?_)
      refine x_iinc (pc := 159) d_C_fillUnitRows_159 rfl (by decide) ?_
      refine x_goto (tgt := 117) (pc := 162) d_C_fillUnitRows_162 rfl ?_
      exact x_locals (xmask [true, true, true, true, true, true, true] _) (xmask_sub _ _) (hvc Q hQ)
set_option maxRecDepth 20000 in
theorem E_C_fillUnitRows_l {n : Nat} {R : xR} {M : xM} {P : xM → Prop} (hn : 78 ≤ n) (hR : RC 78 R) {l2 : Int} (h : Xv m_C_fillUnitRows 1 n R P 0 [some (vr 5), some (vr 15), some (vi l2), none, none, none, none] [] M) : Cv m_C_fillUnitRows 1 n R [vr 5, vr 15, vi l2] M P :=
  Cv.of [some (vr 5), some (vr 15), some (vi l2), none, none, none, none] (by decide) rfl (Nat.le_of_ble_eq_true rfl) rfl h
set_option maxRecDepth 20000 in
theorem B_C_fillUnitRows_t_0 {n : Nat} {R : xR} {M : xM} {P : xM → Prop} (hn : 78 ≤ n) (hR : RC 78 R) {l2 : Int} (hvc : Xv m_C_fillUnitRows 1 n R P 13 [some (vr 5), some (vr 20), some (vi l2), some (vi ((M 5 2) + (M 5 3))), some (vi 0), none, none] [] M) : Xv m_C_fillUnitRows 1 n R P 0 [some (vr 5), some (vr 20), some (vi l2), none, none, none, none] [] M := by
  intro Q hQ
  refine x_aload_n (pc := 0) d_C_fillUnitRows_0 rfl rfl ?_
  refine x_getI (k := 5) (ci := 2) (pc := 1) 2 d_C_fillUnitRows_1 cok2 rfl (Nat.lt_of_lt_of_le (by decide) hn) rfl (by decide) rfl w_99 ?_
  refine x_aload_n (pc := 4) d_C_fillUnitRows_4 rfl rfl ?_
  refine x_getI (k := 5) (ci := 2) (pc := 5) 3 d_C_fillUnitRows_5 cok2 rfl (Nat.lt_of_lt_of_le (by decide) hn) rfl (by decide) rfl w_105 ?_
  refine x_iadd (pc := 8) d_C_fillUnitRows_8 ?_
  refine x_istore_n (pc := 9) d_C_fillUnitRows_9 rfl (by decide) ?_
  refine x_iconst (pc := 10) d_C_fillUnitRows_10 ?_
  refine x_istore (pc := 11) d_C_fillUnitRows_11 (by decide) ?_
  exact x_locals (xmask [true, true, true, true, true, false, false] _) (xmask_sub _ _) (hvc Q hQ)
set_option maxRecDepth 20000 in
theorem B_C_fillUnitRows_t_13 {n : Nat} {R : xR} {M : xM} {P : xM → Prop} (hn : 78 ≤ n) (hR : RC 78 R) {l2 l3 l4 : Int} (hvc : (-2147483648 ≤ l4 ∧ l4 < 2147483648) ∧ (-2147483648 ≤ M 5 3 ∧ M 5 3 < 2147483648) ∧ (((M 5 3) ≤ l4 → Xv m_C_fillUnitRows 1 n R P 48 [some (vr 5), some (vr 20), some (vi l2), some (vi l3), some (vi 0), none, none] [] M) ∧ (¬ (M 5 3) ≤ l4 → (0 ≤ l4 ∧ l4 < 4) ∧ (0 ≤ l3) ∧ (0 + l3 ≤ 24) ∧ (∀ M1 : xM, M1 = xCp M (11 + l4.toNat) (21 + l4.toNat) 0 0 l3.toNat → Xv m_C_fillUnitRows 1 n R P 13 [some (vr 5), some (vr 20), some (vi l2), some (vi l3), some (vi (l4 + 1)), none, none] [] M1)))) : Xv m_C_fillUnitRows 1 n R P 13 [some (vr 5), some (vr 20), some (vi l2), some (vi l3), some (vi l4), none, none] [] M := by
  intro Q hQ
  refine x_iload (pc := 13) d_C_fillUnitRows_13 rfl ?_
  refine x_aload_n (pc := 15) d_C_fillUnitRows_15 rfl rfl ?_
  refine x_getI (k := 5) (ci := 2) (pc := 16) 3 d_C_fillUnitRows_16 cok2 rfl (Nat.lt_of_lt_of_le (by decide) hn) rfl (by decide) rfl w_105 ?_
  obtain ⟨h1, hvc⟩ := hvc
  obtain ⟨h2, hvc⟩ := hvc
  refine x_icmp_ge (tgt := 45) (pc := 19) d_C_fillUnitRows_19 rfl h1 h2 (fun hb => ?_) (fun hb => ?_)
  · have hvc := hvc.1 hb
    refine x_iconst (pc := 45) d_C_fillUnitRows_45 ?_
    refine x_istore (pc := 46) d_C_fillUnitRows_46 (by decide) ?_
    exact x_locals (xmask [true, true, true, true, true, false, false] _) (xmask_sub _ _) (hvc Q hQ)
  · have hvc := hvc.2 hb
    refine x_aload_n (pc := 22) d_C_fillUnitRows_22 rfl rfl ?_
    refine x_getR (k := 5) (ci := 2) (pc := 23) (t := 10) 8 d_C_fillUnitRows_23 cok2 rfl (Nat.lt_of_lt_of_le (by decide) hn) rfl (by decide) rfl (hR.at 5 8 rfl rfl) w_116 ?_
    refine x_iload (pc := 26) d_C_fillUnitRows_26 rfl ?_
    obtain ⟨h3, hvc⟩ := hvc
    refine x_aald (k := 10) (N := 4) (pc := 28) d_C_fillUnitRows_28 (Nat.lt_of_lt_of_le (by decide) hn) rfl (by decide) h3.1 h3.2 (hR.row 10 11 4 rfl rfl h3.1 h3.2) ?_
    refine x_iconst (pc := 29) d_C_fillUnitRows_29 ?_
    refine x_aload_n (pc := 30) d_C_fillUnitRows_30 rfl rfl ?_
    refine x_iload (pc := 31) d_C_fillUnitRows_31 rfl ?_
    refine x_aald (k := 20) (N := 4) (pc := 33) d_C_fillUnitRows_33 (Nat.lt_of_lt_of_le (by decide) hn) rfl (by decide) h3.1 h3.2 (hR.row 20 21 4 rfl rfl h3.1 h3.2) ?_
    refine x_iconst (pc := 34) d_C_fillUnitRows_34 ?_
    refine x_iload_n (pc := 35) d_C_fillUnitRows_35 rfl rfl ?_
    obtain ⟨h4, hvc⟩ := hvc
    obtain ⟨h5, hvc⟩ := hvc
    refine x_copy 78 _ _ 24 24 (pc := 36) d_C_fillUnitRows_36 w_315 w_317 w_316 w_50 (by decide) (Nat.le_of_ble_eq_true rfl) (Nat.lt_of_lt_of_le (rowN_11 (by omega)) hn) (Nat.lt_of_lt_of_le (rowN_21 (by omega)) hn) (rowS_11 (by omega)) (rowS_21 (by omega)) (by decide) (by decide) (by decide) (by decide) h4 h5 h5 (fun M1 eM1 => ?_)
    have hvc := hvc M1 eM1
    refine x_iinc (pc := 39) d_C_fillUnitRows_39 rfl (by decide) ?_
    refine x_goto (tgt := 13) (pc := 42) d_C_fillUnitRows_42 rfl ?_
    exact x_locals (xmask [true, true, true, true, true, false, false] _) (xmask_sub _ _) (hvc Q hQ)
set_option maxRecDepth 20000 in
theorem B_C_fillUnitRows_t_48 {n : Nat} {R : xR} {M : xM} {P : xM → Prop} (hn : 78 ≤ n) (hR : RC 78 R) {l2 l3 l4 : Int} (hvc : (-2147483648 ≤ l4 ∧ l4 < 2147483648) ∧ (-2147483648 ≤ M 5 3 ∧ M 5 3 < 2147483648) ∧ (((M 5 3) ≤ l4 → P M) ∧ (¬ (M 5 3) ≤ l4 → (0 ≤ l4 ∧ l4 < 4) ∧ (0 ≤ l2 + l4 ∧ l2 + l4 < 24) ∧ Ci m_F_quotient 0 n R [vr 1, vi 1, vi (M (21 + l4.toNat) (l2 + l4).toNat)] M (fun z5 M1 => Xv m_C_fillUnitRows 1 n R P 79 [some (vr 5), some (vr 20), some (vi l2), some (vi l3), some (vi l4), some (vi z5), some (vi 0)] [] M1)))) : Xv m_C_fillUnitRows 1 n R P 48 [some (vr 5), some (vr 20), some (vi l2), some (vi l3), some (vi l4), none, none] [] M := by
  intro Q hQ
  refine x_iload (pc := 48) d_C_fillUnitRows_48 rfl ?_
  refine x_aload_n (pc := 50) d_C_fillUnitRows_50 rfl rfl ?_
  refine x_getI (k := 5) (ci := 2) (pc := 51) 3 d_C_fillUnitRows_51 cok2 rfl (Nat.lt_of_lt_of_le (by decide) hn) rfl (by decide) rfl w_105 ?_
  obtain ⟨h1, hvc⟩ := hvc
  obtain ⟨h2, hvc⟩ := hvc
  refine x_icmp_ge (tgt := 171) (pc := 54) d_C_fillUnitRows_54 rfl h1 h2 (fun hb => ?_) (fun hb => ?_)
  · have hvc := hvc.1 hb
    exact x_vret (pc := 171) d_C_fillUnitRows_171 rfl rfl (Nat.le_refl _) (hQ _ hvc)
  · have hvc := hvc.2 hb
    refine x_aload_n (pc := 57) d_C_fillUnitRows_57 rfl rfl ?_
    refine x_getR (k := 5) (ci := 2) (pc := 58) (t := 1) 0 d_C_fillUnitRows_58 cok2 rfl (Nat.lt_of_lt_of_le (by decide) hn) rfl (by decide) rfl (hR.at 5 0 rfl rfl) w_97 ?_
    refine x_iconst (pc := 61) d_C_fillUnitRows_61 ?_
    refine x_aload_n (pc := 62) d_C_fillUnitRows_62 rfl rfl ?_
    refine x_iload (pc := 63) d_C_fillUnitRows_63 rfl ?_
    obtain ⟨h3, hvc⟩ := hvc
    refine x_aald (k := 20) (N := 4) (pc := 65) d_C_fillUnitRows_65 (Nat.lt_of_lt_of_le (by decide) hn) rfl (by decide) h3.1 h3.2 (hR.row 20 21 4 rfl rfl h3.1 h3.2) ?_
    refine x_iload_n (pc := 66) d_C_fillUnitRows_66 rfl rfl ?_
    refine x_iload (pc := 67) d_C_fillUnitRows_67 rfl ?_
    refine x_iadd (pc := 69) d_C_fillUnitRows_69 ?_
    obtain ⟨h4, hvc⟩ := hvc
    refine x_iald (N := 24) (pc := 70) d_C_fillUnitRows_70 (Nat.lt_of_lt_of_le (rowN_21 (by omega)) hn) (rowS_21 (by omega)) (by decide) h4.1 h4.2 ?_
    refine y_callVi m_F_quotient 0 72 1 1 5 [_, _] [] rfl (pc := 71) d_C_fillUnitRows_71 ok_F_quotient w_294 w_295 w_296 pn_F_quotient (Nat.lt_of_lt_of_le (by decide) hn) rfl rfl (by decide) (Nat.le_of_ble_eq_true rfl) (Nat.le_refl _) (Nat.le_refl _) hvc (fun z5 M1 hvc => ?_)
    refine x_istore (pc := 74) d_C_fillUnitRows_74 (by decide) ?_
    refine x_iconst (pc := 76) d_C_fillUnitRows_76 ?_
    refine x_istore (pc := 77) d_C_fillUnitRows_77 (by decide) ?_
    exact x_locals (xmask [true, true, true, true, true, true, true] _) (xmask_sub _ _) (hvc Q hQ)
set_option maxRecDepth 20000 in
theorem B_C_fillUnitRows_t_79 {n : Nat} {R : xR} {M : xM} {P : xM → Prop} (hn : 78 ≤ n) (hR : RC 78 R) {l2 l3 l4 l5 l6 : Int} (hvc : (-2147483648 ≤ l6 ∧ l6 < 2147483648) ∧ (-2147483648 ≤ l3 ∧ l3 < 2147483648) ∧ ((l3 ≤ l6 → Xv m_C_fillUnitRows 1 n R P 117 [some (vr 5), some (vr 20), some (vi l2), some (vi l3), some (vi l4), some (vi l5), some (vi 0)] [] M) ∧ (¬ l3 ≤ l6 → (0 ≤ l4 ∧ l4 < 4) ∧ (0 ≤ l6 ∧ l6 < 24) ∧ Ci m_F_product 0 n R [vr 1, vi l5, vi (M (21 + l4.toNat) l6.toNat)] M (fun z5 M1 => (∀ M2 : xM, M2 = xU M1 (21 + l4.toNat) l6.toNat z5 → Xv m_C_fillUnitRows 1 n R P 79 [some (vr 5), some (vr 20), some (vi l2), some (vi l3), some (vi l4), some (vi l5), some (vi (l6 + 1))] [] M2))))) : Xv m_C_fillUnitRows 1 n R P 79 [some (vr 5), some (vr 20), some (vi l2), some (vi l3), some (vi l4), some (vi l5), some (vi l6)] [] M := by
  intro Q hQ
  refine x_iload (pc := 79) d_C_fillUnitRows_79 rfl ?_
  refine x_iload_n (pc := 81) d_C_fillUnitRows_81 rfl rfl ?_
  obtain ⟨h1, hvc⟩ := hvc
  obtain ⟨h2, hvc⟩ := hvc
  refine x_icmp_ge (tgt := 114) (pc := 82) d_C_fillUnitRows_82 rfl h1 h2 (fun hb => ?_) (fun hb => ?_)
  · have hvc := hvc.1 hb
    refine x_iconst (pc := 114) d_C_fillUnitRows_114 ?_
    refine x_istore (pc := 115) d_C_fillUnitRows_115 (by decide) ?_
    exact x_locals (xmask [true, true, true, true, true, true, true] _) (xmask_sub _ _) (hvc Q hQ)
  · have hvc := hvc.2 hb
    refine x_aload_n (pc := 85) d_C_fillUnitRows_85 rfl rfl ?_
    refine x_iload (pc := 86) d_C_fillUnitRows_86 rfl ?_
    obtain ⟨h3, hvc⟩ := hvc
    refine x_aald (k := 20) (N := 4) (pc := 88) d_C_fillUnitRows_88 (Nat.lt_of_lt_of_le (by decide) hn) rfl (by decide) h3.1 h3.2 (hR.row 20 21 4 rfl rfl h3.1 h3.2) ?_
    refine x_iload (pc := 89) d_C_fillUnitRows_89 rfl ?_
    refine x_aload_n (pc := 91) d_C_fillUnitRows_91 rfl rfl ?_
    refine x_getR (k := 5) (ci := 2) (pc := 92) (t := 1) 0 d_C_fillUnitRows_92 cok2 rfl (Nat.lt_of_lt_of_le (by decide) hn) rfl (by decide) rfl (hR.at 5 0 rfl rfl) w_97 ?_
    refine x_iload (pc := 95) d_C_fillUnitRows_95 rfl ?_
    refine x_aload_n (pc := 97) d_C_fillUnitRows_97 rfl rfl ?_
    refine x_iload (pc := 98) d_C_fillUnitRows_98 rfl ?_
    refine x_aald (k := 20) (N := 4) (pc := 100) d_C_fillUnitRows_100 (Nat.lt_of_lt_of_le (by decide) hn) rfl (by decide) h3.1 h3.2 (hR.row 20 21 4 rfl rfl h3.1 h3.2) ?_
    refine x_iload (pc := 101) d_C_fillUnitRows_101 rfl ?_
    obtain ⟨h4, hvc⟩ := hvc
    refine x_iald (N := 24) (pc := 103) d_C_fillUnitRows_103 (Nat.lt_of_lt_of_le (rowN_21 (by omega)) hn) (rowS_21 (by omega)) (by decide) h4.1 h4.2 ?_
    refine y_callVi m_F_product 0 68 1 1 5 [_, _] [_, _] rfl (pc := 104) d_C_fillUnitRows_104 ok_F_product w_290 w_291 w_292 pn_F_product (Nat.lt_of_lt_of_le (by decide) hn) rfl rfl (by decide) (Nat.le_of_ble_eq_true rfl) (Nat.le_refl _) (Nat.le_refl _) hvc (fun z5 M1 hvc => ?_)
    refine x_iast (N := 24) (pc := 107) d_C_fillUnitRows_107 (Nat.lt_of_lt_of_le (rowN_21 (by omega)) hn) (rowS_21 (by omega)) (by decide) h4.1 h4.2 (fun M2 eM2 => ?_)
    have hvc := hvc M2 eM2
    refine x_iinc (pc := 108) d_C_fillUnitRows_108 rfl (by decide) ?_
    refine x_goto (tgt := 79) (pc := 111) d_C_fillUnitRows_111 rfl ?_
    exact x_locals (xmask [true, true, true, true, true, true, true] _) (xmask_sub _ _) (hvc Q hQ)
set_option maxRecDepth 20000 in
theorem B_C_fillUnitRows_t_117 {n : Nat} {R : xR} {M : xM} {P : xM → Prop} (hn : 78 ≤ n) (hR : RC 78 R) {l2 l3 l4 l5 l6 : Int} (hvc : (-2147483648 ≤ l6 ∧ l6 < 2147483648) ∧ (-2147483648 ≤ M 5 3 ∧ M 5 3 < 2147483648) ∧ (((M 5 3) ≤ l6 → Xv m_C_fillUnitRows 1 n R P 48 [some (vr 5), some (vr 20), some (vi l2), some (vi l3), some (vi (l4 + 1)), none, none] [] M) ∧ (¬ (M 5 3) ≤ l6 → (-2147483648 ≤ l4 ∧ l4 < 2147483648) ∧ ((l6 = l4 → Xv m_C_fillUnitRows 1 n R P 117 [some (vr 5), some (vr 20), some (vi l2), some (vi l3), some (vi l4), some (vi l5), some (vi (l6 + 1))] [] M) ∧ (¬ l6 = l4 → (0 ≤ l6 ∧ l6 < 4) ∧ (0 ≤ l2 + l4 ∧ l2 + l4 < 24) ∧ (0 ≤ l4 ∧ l4 < 4) ∧ Cv m_F_addMultiple 0 n R [vr 1, vr (21 + l6.toNat), vi (M (21 + l6.toNat) (l2 + l4).toNat), vr (21 + l4.toNat), vi 0, vi l3] M (fun M1 => Xv m_C_fillUnitRows 1 n R P 117 [some (vr 5), some (vr 20), some (vi l2), some (vi l3), some (vi l4), some (vi l5), some (vi (l6 + 1))] [] M1)))))) : Xv m_C_fillUnitRows 1 n R P 117 [some (vr 5), some (vr 20), some (vi l2), some (vi l3), some (vi l4), some (vi l5), some (vi l6)] [] M := by
  intro Q hQ
  refine x_iload (pc := 117) d_C_fillUnitRows_117 rfl ?_
  refine x_aload_n (pc := 119) d_C_fillUnitRows_119 rfl rfl ?_
  refine x_getI (k := 5) (ci := 2) (pc := 120) 3 d_C_fillUnitRows_120 cok2 rfl (Nat.lt_of_lt_of_le (by decide) hn) rfl (by decide) rfl w_105 ?_
  obtain ⟨h1, hvc⟩ := hvc
  obtain ⟨h2, hvc⟩ := hvc
  refine x_icmp_ge (tgt := 165) (pc := 123) d_C_fillUnitRows_123 rfl h1 h2 (fun hb => ?_) (fun hb => ?_)
  · have hvc := hvc.1 hb
    refine x_iinc (pc := 165) d_C_fillUnitRows_165 rfl (by decide) ?_
    refine x_goto (tgt := 48) (pc := 168) d_C_fillUnitRows_168 rfl ?_
    exact x_locals (xmask [true, true, true, true, true, false, false] _) (xmask_sub _ _) (hvc Q hQ)
  · have hvc := hvc.2 hb
    refine x_iload (pc := 126) d_C_fillUnitRows_126 rfl ?_
    refine x_iload (pc := 128) d_C_fillUnitRows_128 rfl ?_
    obtain ⟨h3, hvc⟩ := hvc
    refine x_icmp_eq (tgt := 159) (pc := 130) d_C_fillUnitRows_130 rfl h1 h3 (fun hb => ?_) (fun hb => ?_)
    · have hvc := hvc.1 hb
      refine x_iinc (pc := 159) d_C_fillUnitRows_159 rfl (by decide) ?_
      refine x_goto (tgt := 117) (pc := 162) d_C_fillUnitRows_162 rfl ?_
      exact x_locals (xmask [true, true, true, true, true, true, true] _) (xmask_sub _ _) (hvc Q hQ)
    · have hvc := hvc.2 hb
      refine x_aload_n (pc := 133) d_C_fillUnitRows_133 rfl rfl ?_
      refine x_getR (k := 5) (ci := 2) (pc := 134) (t := 1) 0 d_C_fillUnitRows_134 cok2 rfl (Nat.lt_of_lt_of_le (by decide) hn) rfl (by decide) rfl (hR.at 5 0 rfl rfl) w_97 ?_
      refine x_aload_n (pc := 137) d_C_fillUnitRows_137 rfl rfl ?_
      refine x_iload (pc := 138) d_C_fillUnitRows_138 rfl ?_
      obtain ⟨h4, hvc⟩ := hvc
      refine x_aald (k := 20) (N := 4) (pc := 140) d_C_fillUnitRows_140 (Nat.lt_of_lt_of_le (by decide) hn) rfl (by decide) h4.1 h4.2 (hR.row 20 21 4 rfl rfl h4.1 h4.2) ?_
      refine x_aload_n (pc := 141) d_C_fillUnitRows_141 rfl rfl ?_
      refine x_iload (pc := 142) d_C_fillUnitRows_142 rfl ?_
      refine x_aald (k := 20) (N := 4) (pc := 144) d_C_fillUnitRows_144 (Nat.lt_of_lt_of_le (by decide) hn) rfl (by decide) h4.1 h4.2 (hR.row 20 21 4 rfl rfl h4.1 h4.2) ?_
      refine x_iload_n (pc := 145) d_C_fillUnitRows_145 rfl rfl ?_
      refine x_iload (pc := 146) d_C_fillUnitRows_146 rfl ?_
      refine x_iadd (pc := 148) d_C_fillUnitRows_148 ?_
      obtain ⟨h5, hvc⟩ := hvc
      refine x_iald (N := 24) (pc := 149) d_C_fillUnitRows_149 (Nat.lt_of_lt_of_le (rowN_21 (by omega)) hn) (rowS_21 (by omega)) (by decide) h5.1 h5.2 ?_
      refine x_aload_n (pc := 150) d_C_fillUnitRows_150 rfl rfl ?_
      refine x_iload (pc := 151) d_C_fillUnitRows_151 rfl ?_
      obtain ⟨h6, hvc⟩ := hvc
      refine x_aald (k := 20) (N := 4) (pc := 153) d_C_fillUnitRows_153 (Nat.lt_of_lt_of_le (by decide) hn) rfl (by decide) h6.1 h6.2 (hR.row 20 21 4 rfl rfl h6.1 h6.2) ?_
      refine x_iconst (pc := 154) d_C_fillUnitRows_154 ?_
      refine x_iload_n (pc := 155) d_C_fillUnitRows_155 rfl rfl ?_
      refine y_callVv m_F_addMultiple 0 84 1 1 5 [_, _, _, _, _] [] rfl (pc := 156) d_C_fillUnitRows_156 ok_F_addMultiple w_318 w_319 w_320 pn_F_addMultiple (Nat.lt_of_lt_of_le (by decide) hn) rfl rfl (by decide) (Nat.le_of_ble_eq_true rfl) (Nat.le_refl _) (Nat.le_refl _) hvc (fun M1 hvc => ?_)
      refine x_iinc (pc := 159) d_C_fillUnitRows_159 rfl (by decide) ?_
      refine x_goto (tgt := 117) (pc := 162) d_C_fillUnitRows_162 rfl ?_
      exact x_locals (xmask [true, true, true, true, true, true, true] _) (xmask_sub _ _) (hvc Q hQ)
set_option maxRecDepth 20000 in
theorem E_C_fillUnitRows_t {n : Nat} {R : xR} {M : xM} {P : xM → Prop} (hn : 78 ≤ n) (hR : RC 78 R) {l2 : Int} (h : Xv m_C_fillUnitRows 1 n R P 0 [some (vr 5), some (vr 20), some (vi l2), none, none, none, none] [] M) : Cv m_C_fillUnitRows 1 n R [vr 5, vr 20, vi l2] M P :=
  Cv.of [some (vr 5), some (vr 20), some (vi l2), none, none, none, none] (by decide) rfl (Nat.le_of_ble_eq_true rfl) rfl h
set_option maxRecDepth 20000 in
theorem B_C_toldBy_0 {n : Nat} {R : xR} {M : xM} {P : Int → xM → Prop} (hn : 78 ≤ n) (hR : RC 78 R) {l2 : Int} {q1 N1 : Nat} (hq1S : xS q1 = (0, N1)) (hq1n : q1 < n) (hq1N : N1 < 2147483648) (hvc : Ci m_C_mixed 1 n R [vr 5, vr 15, vr q1, vi ((M 5 2) + l2)] M (fun z1 M1 => P z1 M1)) : Xi m_C_toldBy 2 n R P 0 [some (vr 5), some (vr q1), some (vi l2)] [] M := by
  intro Q hQ
  refine x_aload_n (pc := 0) d_C_toldBy_0 rfl rfl ?_
  refine x_aload_n (pc := 1) d_C_toldBy_1 rfl rfl ?_
  refine x_getR (k := 5) (ci := 2) (pc := 2) (t := 15) 9 d_C_toldBy_2 cok2 rfl (Nat.lt_of_lt_of_le (by decide) hn) rfl (by decide) rfl (hR.at 5 9 rfl rfl) w_118 ?_
  refine x_aload_n (pc := 5) d_C_toldBy_5 rfl rfl ?_
  refine x_aload_n (pc := 6) d_C_toldBy_6 rfl rfl ?_
  refine x_getI (k := 5) (ci := 2) (pc := 7) 2 d_C_toldBy_7 cok2 rfl (Nat.lt_of_lt_of_le (by decide) hn) rfl (by decide) rfl w_99 ?_
  refine x_iload_n (pc := 10) d_C_toldBy_10 rfl rfl ?_
  refine x_iadd (pc := 11) d_C_toldBy_11 ?_
  refine y_callVi m_C_mixed 1 88 5 2 11 [_, _, _] [] rfl (pc := 12) d_C_toldBy_12 ok_C_mixed w_475 w_396 w_397 pn_C_mixed (Nat.lt_of_lt_of_le (by decide) hn) rfl rfl (by decide) (Nat.le_of_ble_eq_true rfl) (Nat.le_refl _) (Nat.le_refl _) hvc (fun z1 M1 hvc => ?_)
  exact x_iret (pc := 15) d_C_toldBy_15 rfl rfl (Nat.le_refl _) (hQ _ _ hvc)
set_option maxRecDepth 20000 in
theorem E_C_toldBy {n : Nat} {R : xR} {M : xM} {P : Int → xM → Prop} (hn : 78 ≤ n) (hR : RC 78 R) {l2 : Int} {q1 N1 : Nat} (hq1S : xS q1 = (0, N1)) (hq1n : q1 < n) (hq1N : N1 < 2147483648) (h : Xi m_C_toldBy 2 n R P 0 [some (vr 5), some (vr q1), some (vi l2)] [] M) : Ci m_C_toldBy 2 n R [vr 5, vr q1, vi l2] M P :=
  Ci.of [some (vr 5), some (vr q1), some (vi l2)] (by decide) rfl (Nat.le_of_ble_eq_true rfl) rfl h
