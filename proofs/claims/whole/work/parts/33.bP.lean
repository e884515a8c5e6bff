set_option maxRecDepth 20000 in
theorem B_P_leastWeight_0 {n : Nat} {R : xR} {M : xM} {P : Int → xM → Prop} (hn : 78 ≤ n) (hR : RC 78 R) {l1 l2 : Int} (hvc : Cv m_P_setPlaces 1 n R [vr 56] M (fun M1 => (-2147483648 ≤ l1 * (l1 + 1) ∧ l1 * (l1 + 1) < 2147483648) ∧ (∀ M2 : xM, M2 = xU M1 56 4 (Int.tdiv (l1 * (l1 + 1)) 2) → (-2147483648 ≤ l2 ∧ l2 < 2147483648) ∧ (-2147483648 ≤ (M2 5 3) - 1 ∧ (M2 5 3) - 1 < 2147483648) ∧ ((M2 5 3) - 1 ≠ 0) ∧ ((M2 5 3) - 1 ≠ -1) ∧ (-2147483648 ≤ (Int.tdiv l2 ((M2 5 3) - 1)) + 1 ∧ (Int.tdiv l2 ((M2 5 3) - 1)) + 1 < 2147483648) ∧ (∀ M3 : xM, M3 = xU M2 56 5 (if 16 < ((Int.tdiv l2 ((M2 5 3) - 1)) + 1) then 16 else (Int.tdiv l2 ((M2 5 3) - 1)) + 1) → Xi m_P_leastWeight 3 n R P 39 [some (vr 56), some (vi l1), some (vi l2), some (vi 0), none] [] M3)))) : Xi m_P_leastWeight 3 n R P 0 [some (vr 56), some (vi l1), some (vi l2), none, none] [] M := by
  intro Q hQ
  refine x_aload_n (pc := 0) d_P_leastWeight_0 rfl rfl ?_
  refine y_callVv m_P_setPlaces 1 42 56 6 11 [] [] rfl (pc := 1) d_P_leastWeight_1 ok_P_setPlaces w_522 w_524 w_15 pn_P_setPlaces (Nat.lt_of_lt_of_le (by decide) hn) rfl rfl (by decide) (Nat.le_of_ble_eq_true rfl) (Nat.le_refl _) (Nat.le_refl _) hvc (fun M1 hvc => ?_)
  refine x_aload_n (pc := 4) d_P_leastWeight_4 rfl rfl ?_
  refine x_iload_n (pc := 5) d_P_leastWeight_5 rfl rfl ?_
  refine x_iload_n (pc := 6) d_P_leastWeight_6 rfl rfl ?_
  refine x_iconst (pc := 7) d_P_leastWeight_7 ?_
  refine x_iadd (pc := 8) d_P_leastWeight_8 ?_
  refine x_imul (pc := 9) d_P_leastWeight_9 ?_
  refine x_iconst (pc := 10) d_P_leastWeight_10 ?_
  obtain ⟨h1, hvc⟩ := hvc
  refine x_idiv (pc := 11) d_P_leastWeight_11 h1 ⟨by decide, by decide⟩ (by decide) (by decide) ?_
  refine x_putI (k := 56) (ci := 6) (pc := 12) 4 d_P_leastWeight_12 cok6 rfl (Nat.lt_of_lt_of_le (by decide) hn) rfl (by decide) rfl rfl rfl w_231 (fun M2 eM2 => ?_)
  have hvc := hvc M2 eM2
  refine x_aload_n (pc := 15) d_P_leastWeight_15 rfl rfl ?_
  refine x_iload_n (pc := 16) d_P_leastWeight_16 rfl rfl ?_
  refine x_aload_n (pc := 17) d_P_leastWeight_17 rfl rfl ?_
  refine x_getR (k := 56) (ci := 6) (pc := 18) (t := 5) 1 d_P_leastWeight_18 cok6 rfl (Nat.lt_of_lt_of_le (by decide) hn) rfl (by decide) rfl (hR.at 56 1 rfl rfl) w_228 ?_
  refine x_getIN (k := 5) (ci := 2) (pc := 21) 3 d_P_leastWeight_21 cok2 rfl (Nat.lt_of_lt_of_le (by decide) hn) rfl (by decide) rfl w_106 ?_
  refine x_iconst (pc := 24) d_P_leastWeight_24 ?_
  refine x_isub (pc := 25) d_P_leastWeight_25 ?_
  obtain ⟨h2, hvc⟩ := hvc
  obtain ⟨h3, hvc⟩ := hvc
  obtain ⟨h4, hvc⟩ := hvc
  obtain ⟨h5, hvc⟩ := hvc
  refine x_idiv (pc := 26) d_P_leastWeight_26 h2 h3 h4 h5 ?_
  refine x_iconst (pc := 27) d_P_leastWeight_27 ?_
  refine x_iadd (pc := 28) d_P_leastWeight_28 ?_
  refine x_bipush (pc := 29) d_P_leastWeight_29 (by decide) ?_
  obtain ⟨h6, hvc⟩ := hvc
  refine x_min 54 (pc := 31) d_P_leastWeight_31 w_527 w_276 w_49 w_277 (by decide) (Nat.le_of_ble_eq_true rfl) (Nat.le_refl _) (Nat.le_refl _) h6 ⟨by decide, by decide⟩ ?_
  refine x_putI (k := 56) (ci := 6) (pc := 34) 5 d_P_leastWeight_34 cok6 rfl (Nat.lt_of_lt_of_le (by decide) hn) rfl (by decide) rfl rfl rfl w_232 (fun M3 eM3 => ?_)
  have hvc := hvc M3 eM3
  refine x_iconst (pc := 37) d_P_leastWeight_37 ?_
  refine x_istore_n (pc := 38) d_P_leastWeight_38 rfl (by decide) ?_
  exact x_locals (xmask [true, true, true, true, false] _) (xmask_sub _ _) (hvc Q hQ)
set_option maxRecDepth 20000 in
theorem B_P_leastWeight_39 {n : Nat} {R : xR} {M : xM} {P : Int → xM → Prop} (hn : 78 ≤ n) (hR : RC 78 R) {l1 l2 l3 : Int} (hvc : (-2147483648 ≤ l3 ∧ l3 < 2147483648) ∧ (-2147483648 ≤ M 56 5 ∧ M 56 5 < 2147483648) ∧ (((M 56 5) ≤ l3 → Xi m_P_leastWeight 3 n R P 98 [some (vr 56), some (vi l1), some (vi l2), some (vi 0), none] [] M) ∧ (¬ (M 56 5) ≤ l3 → (0 ≤ l3 ∧ l3 < 16) ∧ (∀ M1 : xM, M1 = xU M 60 l3.toNat (l3 * ((M 5 3) - 1)) → Xi m_P_leastWeight 3 n R P 67 [some (vr 56), some (vi l1), some (vi l2), some (vi l3), some (vi 0)] [] M1)))) : Xi m_P_leastWeight 3 n R P 39 [some (vr 56), some (vi l1), some (vi l2), some (vi l3), none] [] M := by
  intro Q hQ
  refine x_iload_n (pc := 39) d_P_leastWeight_39 rfl rfl ?_
  refine x_aload_n (pc := 40) d_P_leastWeight_40 rfl rfl ?_
  refine x_getI (k := 56) (ci := 6) (pc := 41) 5 d_P_leastWeight_41 cok6 rfl (Nat.lt_of_lt_of_le (by decide) hn) rfl (by decide) rfl w_232 ?_
  obtain ⟨h1, hvc⟩ := hvc
  obtain ⟨h2, hvc⟩ := hvc
  refine x_icmp_ge (tgt := 96) (pc := 44) d_P_leastWeight_44 rfl h1 h2 (fun hb => ?_) (fun hb => ?_)
  · have hvc := hvc.1 hb
    refine x_iconst (pc := 96) d_P_leastWeight_96 ?_
    refine x_istore_n (pc := 97) d_P_leastWeight_97 rfl (by decide) ?_
    exact x_locals (xmask [true, true, true, true, false] _) (xmask_sub _ _) (hvc Q hQ)
  · have hvc := hvc.2 hb
    refine x_aload_n (pc := 47) d_P_leastWeight_47 rfl rfl ?_
    refine x_getR (k := 56) (ci := 6) (pc := 48) (t := 60) 9 d_P_leastWeight_48 cok6 rfl (Nat.lt_of_lt_of_le (by decide) hn) rfl (by decide) rfl (hR.at 56 9 rfl rfl) w_236 ?_
    refine x_iload_n (pc := 51) d_P_leastWeight_51 rfl rfl ?_
    refine x_iload_n (pc := 52) d_P_leastWeight_52 rfl rfl ?_
    refine x_aload_n (pc := 53) d_P_leastWeight_53 rfl rfl ?_
    refine x_getR (k := 56) (ci := 6) (pc := 54) (t := 5) 1 d_P_leastWeight_54 cok6 rfl (Nat.lt_of_lt_of_le (by decide) hn) rfl (by decide) rfl (hR.at 56 1 rfl rfl) w_228 ?_
    refine x_getIN (k := 5) (ci := 2) (pc := 57) 3 d_P_leastWeight_57 cok2 rfl (Nat.lt_of_lt_of_le (by decide) hn) rfl (by decide) rfl w_106 ?_
    refine x_iconst (pc := 60) d_P_leastWeight_60 ?_
    refine x_isub (pc := 61) d_P_leastWeight_61 ?_
    refine x_imul (pc := 62) d_P_leastWeight_62 ?_
    obtain ⟨h3, hvc⟩ := hvc
    refine x_iast (N := 16) (pc := 63) d_P_leastWeight_63 (Nat.lt_of_lt_of_le (by decide) hn) rfl (by decide) h3.1 h3.2 (fun M1 eM1 => ?_)
    have hvc := hvc M1 eM1
    refine x_iconst (pc := 64) d_P_leastWeight_64 ?_
    refine x_istore (pc := 65) d_P_leastWeight_65 (by decide) ?_
    exact x_locals (xmask [true, true, true, true, true] _) (xmask_sub _ _) (hvc Q hQ)
set_option maxRecDepth 20000 in
theorem B_P_leastWeight_67 {n : Nat} {R : xR} {M : xM} {P : Int → xM → Prop} (hn : 78 ≤ n) (hR : RC 78 R) {l1 l2 l3 l4 : Int} (hvc : (-2147483648 ≤ l4 ∧ l4 < 2147483648) ∧ (-2147483648 ≤ M 56 3 ∧ M 56 3 < 2147483648) ∧ (((M 56 3) ≤ l4 → Xi m_P_leastWeight 3 n R P 39 [some (vr 56), some (vi l1), some (vi l2), some (vi (l3 + 1)), none] [] M) ∧ (¬ (M 56 3) ≤ l4 → Cv m_P_setValues 2 n R [vr 56, vi l3, vi l4, vi l1] M (fun M1 => Xi m_P_leastWeight 3 n R P 67 [some (vr 56), some (vi l1), some (vi l2), some (vi l3), some (vi (l4 + 1))] [] M1)))) : Xi m_P_leastWeight 3 n R P 67 [some (vr 56), some (vi l1), some (vi l2), some (vi l3), some (vi l4)] [] M := by
  intro Q hQ
  refine x_iload (pc := 67) d_P_leastWeight_67 rfl ?_
  refine x_aload_n (pc := 69) d_P_leastWeight_69 rfl rfl ?_
  refine x_getI (k := 56) (ci := 6) (pc := 70) 3 d_P_leastWeight_70 cok6 rfl (Nat.lt_of_lt_of_le (by decide) hn) rfl (by decide) rfl w_230 ?_
  obtain ⟨h1, hvc⟩ := hvc
  obtain ⟨h2, hvc⟩ := hvc
  refine x_icmp_ge (tgt := 90) (pc := 73) d_P_leastWeight_73 rfl h1 h2 (fun hb => ?_) (fun hb => ?_)
  · have hvc := hvc.1 hb
    refine x_iinc (pc := 90) d_P_leastWeight_90 rfl (by decide) ?_
    refine x_goto (tgt := 39) (pc := 93) d_P_leastWeight_93 rfl ?_
    exact x_locals (xmask [true, true, true, true, false] _) (xmask_sub _ _) (hvc Q hQ)
  · have hvc := hvc.2 hb
    refine x_aload_n (pc := 76) d_P_leastWeight_76 rfl rfl ?_
    refine x_iload_n (pc := 77) d_P_leastWeight_77 rfl rfl ?_
    refine x_iload (pc := 78) d_P_leastWeight_78 rfl ?_
    refine x_iload_n (pc := 80) d_P_leastWeight_80 rfl rfl ?_
    refine y_callVv m_P_setValues 2 66 56 6 11 [_, _, _] [] rfl (pc := 81) d_P_leastWeight_81 ok_P_setValues w_528 w_530 w_16 pn_P_setValues (Nat.lt_of_lt_of_le (by decide) hn) rfl rfl (by decide) (Nat.le_of_ble_eq_true rfl) (Nat.le_refl _) (Nat.le_refl _) hvc (fun M1 hvc => ?_)
    refine x_iinc (pc := 84) d_P_leastWeight_84 rfl (by decide) ?_
    refine x_goto (tgt := 67) (pc := 87) d_P_leastWeight_87 rfl ?_
    exact x_locals (xmask [true, true, true, true, true] _) (xmask_sub _ _) (hvc Q hQ)
set_option maxRecDepth 20000 in
theorem B_P_leastWeight_98 {n : Nat} {R : xR} {M : xM} {P : Int → xM → Prop} (hn : 78 ≤ n) (hR : RC 78 R) {l1 l2 l3 : Int} (hvc : (-2147483648 ≤ l3 ∧ l3 < 2147483648) ∧ (-2147483648 ≤ (M 56 3) * (M 56 4) ∧ (M 56 3) * (M 56 4) < 2147483648) ∧ ((((M 56 3) * (M 56 4)) ≤ l3 → Xi m_P_leastWeight 3 n R P 133 [some (vr 56), some (vi l1), some (vi l2), some (vi l2), some (vi 0)] [] M) ∧ (¬ ((M 56 3) * (M 56 4)) ≤ l3 → (-2147483648 ≤ M 56 4 ∧ M 56 4 < 2147483648) ∧ (M 56 4 ≠ 0) ∧ (M 56 4 ≠ -1) ∧ Cv m_P_meet 2 n R [vr 56, vi l3, vi (Int.tdiv l3 (M 56 4))] M (fun M1 => Xi m_P_leastWeight 3 n R P 98 [some (vr 56), some (vi l1), some (vi l2), some (vi (l3 + 1)), none] [] M1)))) : Xi m_P_leastWeight 3 n R P 98 [some (vr 56), some (vi l1), some (vi l2), some (vi l3), none] [] M := by
  intro Q hQ
  refine x_iload_n (pc := 98) d_P_leastWeight_98 rfl rfl ?_
  refine x_aload_n (pc := 99) d_P_leastWeight_99 rfl rfl ?_
  refine x_getI (k := 56) (ci := 6) (pc := 100) 3 d_P_leastWeight_100 cok6 rfl (Nat.lt_of_lt_of_le (by decide) hn) rfl (by decide) rfl w_230 ?_
  refine x_aload_n (pc := 103) d_P_leastWeight_103 rfl rfl ?_
  refine x_getI (k := 56) (ci := 6) (pc := 104) 4 d_P_leastWeight_104 cok6 rfl (Nat.lt_of_lt_of_le (by decide) hn) rfl (by decide) rfl w_231 ?_
  refine x_imul (pc := 107) d_P_leastWeight_107 ?_
  obtain ⟨h1, hvc⟩ := hvc
  obtain ⟨h2, hvc⟩ := hvc
  refine x_icmp_ge (tgt := 128) (pc := 108) d_P_leastWeight_108 rfl h1 h2 (fun hb => ?_) (fun hb => ?_)
  · have hvc := hvc.1 hb
    refine x_iload_n (pc := 128) d_P_leastWeight_128 rfl rfl ?_
    refine x_istore_n (pc := 129) d_P_leastWeight_129 rfl (by decide) ?_
    refine x_iconst (pc := 130) d_P_leastWeight_130 ?_
    refine x_istore (pc := 131) d_P_leastWeight_131 (by decide) ?_
    exact x_locals (xmask [true, true, true, true, true] _) (xmask_sub _ _) (hvc Q hQ)
  · have hvc := hvc.2 hb
    refine x_aload_n (pc := 111) d_P_leastWeight_111 rfl rfl ?_
    refine x_iload_n (pc := 112) d_P_leastWeight_112 rfl rfl ?_
    refine x_iload_n (pc := 113) d_P_leastWeight_113 rfl rfl ?_
    refine x_aload_n (pc := 114) d_P_leastWeight_114 rfl rfl ?_
    refine x_getI (k := 56) (ci := 6) (pc := 115) 4 d_P_leastWeight_115 cok6 rfl (Nat.lt_of_lt_of_le (by decide) hn) rfl (by decide) rfl w_231 ?_
    obtain ⟨h3, hvc⟩ := hvc
    obtain ⟨h4, hvc⟩ := hvc
    obtain ⟨h5, hvc⟩ := hvc
    refine x_idiv (pc := 118) d_P_leastWeight_118 h1 h3 h4 h5 ?_
    refine y_callVv m_P_meet 2 70 56 6 11 [_, _] [] rfl (pc := 119) d_P_leastWeight_119 ok_P_meet w_533 w_535 w_17 pn_P_meet (Nat.lt_of_lt_of_le (by decide) hn) rfl rfl (by decide) (Nat.le_of_ble_eq_true rfl) (Nat.le_refl _) (Nat.le_refl _) hvc (fun M1 hvc => ?_)
    refine x_iinc (pc := 122) d_P_leastWeight_122 rfl (by decide) ?_
    refine x_goto (tgt := 98) (pc := 125) d_P_leastWeight_125 rfl ?_
    exact x_locals (xmask [true, true, true, true, false] _) (xmask_sub _ _) (hvc Q hQ)
set_option maxRecDepth 20000 in
theorem B_P_leastWeight_133 {n : Nat} {R : xR} {M : xM} {P : Int → xM → Prop} (hn : 78 ≤ n) (hR : RC 78 R) {l1 l2 l3 l4 : Int} (hvc : (-2147483648 ≤ l4 ∧ l4 < 2147483648) ∧ (-2147483648 ≤ M 56 5 ∧ M 56 5 < 2147483648) ∧ (((M 56 5) ≤ l4 → P l3 M) ∧ (¬ (M 56 5) ≤ l4 → (0 ≤ l4 ∧ l4 < 16) ∧ (-2147483648 ≤ l3 ∧ l3 < 2147483648) ∧ (-2147483648 ≤ M 60 l4.toNat ∧ M 60 l4.toNat < 2147483648) ∧ Xi m_P_leastWeight 3 n R P 133 [some (vr 56), some (vi l1), some (vi l2), some (vi (if (M 60 l4.toNat) < l3 then M 60 l4.toNat else l3)), some (vi (l4 + 1))] [] M))) : Xi m_P_leastWeight 3 n R P 133 [some (vr 56), some (vi l1), some (vi l2), some (vi l3), some (vi l4)] [] M := by
  intro Q hQ
  refine x_iload (pc := 133) d_P_leastWeight_133 rfl ?_
  refine x_aload_n (pc := 135) d_P_leastWeight_135 rfl rfl ?_
  refine x_getI (k := 56) (ci := 6) (pc := 136) 5 d_P_leastWeight_136 cok6 rfl (Nat.lt_of_lt_of_le (by decide) hn) rfl (by decide) rfl w_232 ?_
  obtain ⟨h1, hvc⟩ := hvc
  obtain ⟨h2, hvc⟩ := hvc
  refine x_icmp_ge (tgt := 160) (pc := 139) d_P_leastWeight_139 rfl h1 h2 (fun hb => ?_) (fun hb => ?_)
  · have hvc := hvc.1 hb
    refine x_iload_n (pc := 160) d_P_leastWeight_160 rfl rfl ?_
    exact x_iret (pc := 161) d_P_leastWeight_161 rfl rfl (Nat.le_refl _) (hQ _ _ hvc)
  · have hvc := hvc.2 hb
    refine x_iload_n (pc := 142) d_P_leastWeight_142 rfl rfl ?_
    refine x_aload_n (pc := 143) d_P_leastWeight_143 rfl rfl ?_
    refine x_getR (k := 56) (ci := 6) (pc := 144) (t := 60) 9 d_P_leastWeight_144 cok6 rfl (Nat.lt_of_lt_of_le (by decide) hn) rfl (by decide) rfl (hR.at 56 9 rfl rfl) w_236 ?_
    refine x_iload (pc := 147) d_P_leastWeight_147 rfl ?_
    obtain ⟨h3, hvc⟩ := hvc
    refine x_iald (N := 16) (pc := 149) d_P_leastWeight_149 (Nat.lt_of_lt_of_le (by decide) hn) rfl (by decide) h3.1 h3.2 ?_
    obtain ⟨h4, hvc⟩ := hvc
    obtain ⟨h5, hvc⟩ := hvc
    refine x_min 54 (pc := 150) d_P_leastWeight_150 w_527 w_276 w_49 w_277 (by decide) (Nat.le_of_ble_eq_true rfl) (Nat.le_refl _) (Nat.le_refl _) h4 h5 ?_
    refine x_istore_n (pc := 153) d_P_leastWeight_153 rfl (by decide) ?_
    refine x_iinc (pc := 154) d_P_leastWeight_154 rfl (by decide) ?_
    refine x_goto (tgt := 133) (pc := 157) d_P_leastWeight_157 rfl ?_
    exact x_locals (xmask [true, true, true, true, true] _) (xmask_sub _ _) (hvc Q hQ)
set_option maxRecDepth 20000 in
theorem E_P_leastWeight {n : Nat} {R : xR} {M : xM} {P : Int → xM → Prop} (hn : 78 ≤ n) (hR : RC 78 R) {l1 l2 : Int} (h : Xi m_P_leastWeight 3 n R P 0 [some (vr 56), some (vi l1), some (vi l2), none, none] [] M) : Ci m_P_leastWeight 3 n R [vr 56, vi l1, vi l2] M P :=
  Ci.of [some (vr 56), some (vi l1), some (vi l2), none, none] (by decide) rfl (Nat.le_of_ble_eq_true rfl) rfl h
set_option maxRecDepth 20000 in
theorem B_P_setPlaces_0 {n : Nat} {R : xR} {M : xM} {P : xM → Prop} (hn : 78 ≤ n) (hR : RC 78 R) (hvc : (∀ M1 : xM, M1 = xU M 56 3 0 → Xv m_P_setPlaces 1 n R P 7 [some (vr 56), some (vi 0)] [] M1)) : Xv m_P_setPlaces 1 n R P 0 [some (vr 56), none] [] M := by
  intro Q hQ
  refine x_aload_n (pc := 0) d_P_setPlaces_0 rfl rfl ?_
  refine x_iconst (pc := 1) d_P_setPlaces_1 ?_
  refine x_putI (k := 56) (ci := 6) (pc := 2) 3 d_P_setPlaces_2 cok6 rfl (Nat.lt_of_lt_of_le (by decide) hn) rfl (by decide) rfl rfl rfl w_230 (fun M1 eM1 => ?_)
  have hvc := hvc M1 eM1
  refine x_iconst (pc := 5) d_P_setPlaces_5 ?_
  refine x_istore_n (pc := 6) d_P_setPlaces_6 rfl (by decide) ?_
  exact x_locals (xmask [true, true] _) (xmask_sub _ _) (hvc Q hQ)
set_option maxRecDepth 20000 in
theorem B_P_setPlaces_7 {n : Nat} {R : xR} {M : xM} {P : xM → Prop} (hn : 78 ≤ n) (hR : RC 78 R) {l1 : Int} (hvc : (-2147483648 ≤ l1 ∧ l1 < 2147483648) ∧ (-2147483648 ≤ M 5 2 ∧ M 5 2 < 2147483648) ∧ (((M 5 2) ≤ l1 → P M) ∧ (¬ (M 5 2) ≤ l1 → (0 ≤ l1 ∧ l1 < 20) ∧ (-2147483648 ≤ M 28 l1.toNat ∧ M 28 l1.toNat < 2147483648) ∧ ((¬ (M 28 l1.toNat) = 0 → Xv m_P_setPlaces 1 n R P 7 [some (vr 56), some (vi (l1 + 1))] [] M) ∧ ((M 28 l1.toNat) = 0 → (0 ≤ M 56 3 ∧ M 56 3 < 20) ∧ (∀ M1 : xM, M1 = xU M 57 (M 56 3).toNat (M 6 l1.toNat) → Ci m_F_quotient 0 n R [vr 1, vi (M1 27 l1.toNat), vi (M1 7 l1.toNat)] M1 (fun z6 M2 => (0 ≤ M1 56 3 ∧ M1 56 3 < 20) ∧ (∀ M3 : xM, M3 = xU M2 58 (M1 56 3).toNat z6 → (∀ M4 : xM, M4 = xU M3 56 3 ((M3 56 3) + 1) → Xv m_P_setPlaces 1 n R P 7 [some (vr 56), some (vi (l1 + 1))] [] M4))))))))) : Xv m_P_setPlaces 1 n R P 7 [some (vr 56), some (vi l1)] [] M := by
  intro Q hQ
  refine x_iload_n (pc := 7) d_P_setPlaces_7 rfl rfl ?_
  refine x_aload_n (pc := 8) d_P_setPlaces_8 rfl rfl ?_
  refine x_getR (k := 56) (ci := 6) (pc := 9) (t := 5) 1 d_P_setPlaces_9 cok6 rfl (Nat.lt_of_lt_of_le (by decide) hn) rfl (by decide) rfl (hR.at 56 1 rfl rfl) w_228 ?_
  refine x_getIN (k := 5) (ci := 2) (pc := 12) 2 d_P_setPlaces_12 cok2 rfl (Nat.lt_of_lt_of_le (by decide) hn) rfl (by decide) rfl w_100 ?_
  obtain ⟨h1, hvc⟩ := hvc
  obtain ⟨h2, hvc⟩ := hvc
  refine x_icmp_ge (tgt := 98) (pc := 15) d_P_setPlaces_15 rfl h1 h2 (fun hb => ?_) (fun hb => ?_)
  · have hvc := hvc.1 hb
    exact x_vret (pc := 98) d_P_setPlaces_98 rfl rfl (Nat.le_refl _) (hQ _ hvc)
  · have hvc := hvc.2 hb
    refine x_aload_n (pc := 18) d_P_setPlaces_18 rfl rfl ?_
    refine x_getR (k := 56) (ci := 6) (pc := 19) (t := 26) 2 d_P_setPlaces_19 cok6 rfl (Nat.lt_of_lt_of_le (by decide) hn) rfl (by decide) rfl (hR.at 56 2 rfl rfl) w_229 ?_
    refine x_getRN (k := 26) (ci := 3) (pc := 22) (t := 28) 2 d_P_setPlaces_22 cok3 rfl (Nat.lt_of_lt_of_le (by decide) hn) rfl (by decide) rfl (hR.at 26 2 rfl rfl) w_160 ?_
    refine x_iload_n (pc := 25) d_P_setPlaces_25 rfl rfl ?_
    obtain ⟨h3, hvc⟩ := hvc
    refine x_zald (N := 20) (pc := 26) d_P_setPlaces_26 (Nat.lt_of_lt_of_le (by decide) hn) rfl (by decide) h3.1 h3.2 ?_
    obtain ⟨h4, hvc⟩ := hvc
    refine x_if_ne (tgt := 92) (pc := 27) d_P_setPlaces_27 rfl h4 (fun hb => ?_) (fun hb => ?_)
    · have hvc := hvc.1 hb
      refine x_iinc (pc := 92) d_P_setPlaces_92 rfl (by decide) ?_
      refine x_goto (tgt := 7) (pc := 95) d_P_setPlaces_95 rfl ?_
      exact x_locals (xmask [true, true] _) (xmask_sub _ _) (hvc Q hQ)
    · have hvc := hvc.2 hb
      refine x_aload_n (pc := 30) d_P_setPlaces_30 rfl rfl ?_
      refine x_getR (k := 56) (ci := 6) (pc := 31) (t := 57) 6 d_P_setPlaces_31 cok6 rfl (Nat.lt_of_lt_of_le (by decide) hn) rfl (by decide) rfl (hR.at 56 6 rfl rfl) w_233 ?_
      refine x_aload_n (pc := 34) d_P_setPlaces_34 rfl rfl ?_
      refine x_getI (k := 56) (ci := 6) (pc := 35) 3 d_P_setPlaces_35 cok6 rfl (Nat.lt_of_lt_of_le (by decide) hn) rfl (by decide) rfl w_230 ?_
      refine x_aload_n (pc := 38) d_P_setPlaces_38 rfl rfl ?_
      refine x_getR (k := 56) (ci := 6) (pc := 39) (t := 5) 1 d_P_setPlaces_39 cok6 rfl (Nat.lt_of_lt_of_le (by decide) hn) rfl (by decide) rfl (hR.at 56 1 rfl rfl) w_228 ?_
      refine x_getRN (k := 5) (ci := 2) (pc := 42) (t := 6) 4 d_P_setPlaces_42 cok2 rfl (Nat.lt_of_lt_of_le (by decide) hn) rfl (by decide) rfl (hR.at 5 4 rfl rfl) w_109 ?_
      refine x_iload_n (pc := 45) d_P_setPlaces_45 rfl rfl ?_
      refine x_iald (N := 20) (pc := 46) d_P_setPlaces_46 (Nat.lt_of_lt_of_le (by decide) hn) rfl (by decide) h3.1 h3.2 ?_
      obtain ⟨h5, hvc⟩ := hvc
      refine x_iast (N := 20) (pc := 47) d_P_setPlaces_47 (Nat.lt_of_lt_of_le (by decide) hn) rfl (by decide) h5.1 h5.2 (fun M1 eM1 => ?_)
      have hvc := hvc M1 eM1
      refine x_aload_n (pc := 48) d_P_setPlaces_48 rfl rfl ?_
      refine x_getR (k := 56) (ci := 6) (pc := 49) (t := 58) 7 d_P_setPlaces_49 cok6 rfl (Nat.lt_of_lt_of_le (by decide) hn) rfl (by decide) rfl (hR.at 56 7 rfl rfl) w_234 ?_
      refine x_aload_n (pc := 52) d_P_setPlaces_52 rfl rfl ?_
      refine x_getI (k := 56) (ci := 6) (pc := 53) 3 d_P_setPlaces_53 cok6 rfl (Nat.lt_of_lt_of_le (by decide) hn) rfl (by decide) rfl w_230 ?_
      refine x_aload_n (pc := 56) d_P_setPlaces_56 rfl rfl ?_
      refine x_getR (k := 56) (ci := 6) (pc := 57) (t := 1) 0 d_P_setPlaces_57 cok6 rfl (Nat.lt_of_lt_of_le (by decide) hn) rfl (by decide) rfl (hR.at 56 0 rfl rfl) w_227 ?_
      refine x_aload_n (pc := 60) d_P_setPlaces_60 rfl rfl ?_
      refine x_getR (k := 56) (ci := 6) (pc := 61) (t := 26) 2 d_P_setPlaces_61 cok6 rfl (Nat.lt_of_lt_of_le (by decide) hn) rfl (by decide) rfl (hR.at 56 2 rfl rfl) w_229 ?_
      refine x_getRN (k := 26) (ci := 3) (pc := 64) (t := 27) 1 d_P_setPlaces_64 cok3 rfl (Nat.lt_of_lt_of_le (by decide) hn) rfl (by decide) rfl (hR.at 26 1 rfl rfl) w_156 ?_
      refine x_iload_n (pc := 67) d_P_setPlaces_67 rfl rfl ?_
      refine x_iald (N := 20) (pc := 68) d_P_setPlaces_68 (Nat.lt_of_lt_of_le (by decide) hn) rfl (by decide) h3.1 h3.2 ?_
      refine x_aload_n (pc := 69) d_P_setPlaces_69 rfl rfl ?_
      refine x_getR (k := 56) (ci := 6) (pc := 70) (t := 5) 1 d_P_setPlaces_70 cok6 rfl (Nat.lt_of_lt_of_le (by decide) hn) rfl (by decide) rfl (hR.at 56 1 rfl rfl) w_228 ?_
      refine x_getRN (k := 5) (ci := 2) (pc := 73) (t := 7) 5 d_P_setPlaces_73 cok2 rfl (Nat.lt_of_lt_of_le (by decide) hn) rfl (by decide) rfl (hR.at 5 5 rfl rfl) w_112 ?_
      refine x_iload_n (pc := 76) d_P_setPlaces_76 rfl rfl ?_
      refine x_iald (N := 20) (pc := 77) d_P_setPlaces_77 (Nat.lt_of_lt_of_le (by decide) hn) rfl (by decide) h3.1 h3.2 ?_
      refine y_callVi m_F_quotient 0 91 1 1 5 [_, _] [_, _] rfl (pc := 78) d_P_setPlaces_78 ok_F_quotient w_526 w_295 w_296 pn_F_quotient (Nat.lt_of_lt_of_le (by decide) hn) rfl rfl (by decide) (Nat.le_of_ble_eq_true rfl) (Nat.le_refl _) (Nat.le_refl _) hvc (fun z6 M2 hvc => ?_)
      obtain ⟨h7, hvc⟩ := hvc
      refine x_iast (N := 20) (pc := 81) d_P_setPlaces_81 (Nat.lt_of_lt_of_le (by decide) hn) rfl (by decide) h7.1 h7.2 (fun M3 eM3 => ?_)
      have hvc := hvc M3 eM3
      refine x_aload_n (pc := 82) d_P_setPlaces_82 rfl rfl ?_
      refine x_dup (pc := 83) d_P_setPlaces_83 ?_
      refine x_getI (k := 56) (ci := 6) (pc := 84) 3 d_P_setPlaces_84 cok6 rfl (Nat.lt_of_lt_of_le (by decide) hn) rfl (by decide) rfl w_230 ?_
      refine x_iconst (pc := 87) d_P_setPlaces_87 ?_
      refine x_iadd (pc := 88) d_P_setPlaces_88 ?_
      refine x_putI (k := 56) (ci := 6) (pc := 89) 3 d_P_setPlaces_89 cok6 rfl (Nat.lt_of_lt_of_le (by decide) hn) rfl (by decide) rfl rfl rfl w_230 (fun M4 eM4 => ?_)
      have hvc := hvc M4 eM4
      refine x_iinc (pc := 92) d_P_setPlaces_92 rfl (by decide) ?_
      refine x_goto (tgt := 7) (pc := 95) d_P_setPlaces_95 rfl ?_
      exact x_locals (xmask [true, true] _) (xmask_sub _ _) (hvc Q hQ)
set_option maxRecDepth 20000 in
theorem E_P_setPlaces {n : Nat} {R : xR} {M : xM} {P : xM → Prop} (hn : 78 ≤ n) (hR : RC 78 R) (h : Xv m_P_setPlaces 1 n R P 0 [some (vr 56), none] [] M) : Cv m_P_setPlaces 1 n R [vr 56] M P :=
  Cv.of [some (vr 56), none] (by decide) rfl (Nat.le_of_ble_eq_true rfl) rfl h
set_option maxRecDepth 20000 in
theorem B_P_setValues_0 {n : Nat} {R : xR} {M : xM} {P : xM → Prop} (hn : 78 ≤ n) (hR : RC 78 R) {l1 l2 l3 : Int} (hvc : Xv m_P_setValues 2 n R P 11 [some (vr 56), some (vi l1), some (vi l2), some (vi l3), some (vi (l2 * (M 56 4))), some (vi 0), none, none] [] M) : Xv m_P_setValues 2 n R P 0 [some (vr 56), some (vi l1), some (vi l2), some (vi l3), none, none, none, none] [] M := by
  intro Q hQ
  refine x_iload_n (pc := 0) d_P_setValues_0 rfl rfl ?_
  refine x_aload_n (pc := 1) d_P_setValues_1 rfl rfl ?_
  refine x_getI (k := 56) (ci := 6) (pc := 2) 4 d_P_setValues_2 cok6 rfl (Nat.lt_of_lt_of_le (by decide) hn) rfl (by decide) rfl w_231 ?_
  refine x_imul (pc := 5) d_P_setValues_5 ?_
  refine x_istore (pc := 6) d_P_setValues_6 (by decide) ?_
  refine x_iconst (pc := 8) d_P_setValues_8 ?_
  refine x_istore (pc := 9) d_P_setValues_9 (by decide) ?_
  exact x_locals (xmask [true, true, true, true, true, true, false, false] _) (xmask_sub _ _) (hvc Q hQ)
set_option maxRecDepth 20000 in
theorem B_P_setValues_11 {n : Nat} {R : xR} {M : xM} {P : xM → Prop} (hn : 78 ≤ n) (hR : RC 78 R) {l1 l2 l3 l4 l5 : Int} (hvc : (-2147483648 ≤ l5 ∧ l5 < 2147483648) ∧ (-2147483648 ≤ l3 ∧ l3 < 2147483648) ∧ ((l3 ≤ l5 → P M) ∧ (¬ l3 ≤ l5 → Xv m_P_setValues 2 n R P 20 [some (vr 56), some (vi l1), some (vi l2), some (vi l3), some (vi l4), some (vi l5), some (vi 0), none] [] M))) : Xv m_P_setValues 2 n R P 11 [some (vr 56), some (vi l1), some (vi l2), some (vi l3), some (vi l4), some (vi l5), none, none] [] M := by
  intro Q hQ
  refine x_iload (pc := 11) d_P_setValues_11 rfl ?_
  refine x_iload_n (pc := 13) d_P_setValues_13 rfl rfl ?_
  obtain ⟨h1, hvc⟩ := hvc
  obtain ⟨h2, hvc⟩ := hvc
  refine x_icmp_ge (tgt := 117) (pc := 14) d_P_setValues_14 rfl h1 h2 (fun hb => ?_) (fun hb => ?_)
  · have hvc := hvc.1 hb
    exact x_vret (pc := 117) d_P_setValues_117 rfl rfl (Nat.le_refl _) (hQ _ hvc)
  · have hvc := hvc.2 hb
    refine x_iconst (pc := 17) d_P_setValues_17 ?_
    refine x_istore (pc := 18) d_P_setValues_18 (by decide) ?_
    exact x_locals (xmask [true, true, true, true, true, true, true, false] _) (xmask_sub _ _) (hvc Q hQ)
set_option maxRecDepth 20000 in
theorem B_P_setValues_20 {n : Nat} {R : xR} {M : xM} {P : xM → Prop} (hn : 78 ≤ n) (hR : RC 78 R) {l1 l2 l3 l4 l5 l6 : Int} (hvc : (-2147483648 ≤ l6 ∧ l6 < 2147483648) ∧ (-2147483648 ≤ l3 - l5 ∧ l3 - l5 < 2147483648) ∧ (((l3 - l5) ≤ l6 → Xv m_P_setValues 2 n R P 11 [some (vr 56), some (vi l1), some (vi l2), some (vi l3), some (vi l4), some (vi (l5 + 1)), none, none] [] M) ∧ (¬ (l3 - l5) ≤ l6 → ((¬ l6 = 0 → (0 ≤ l1 ∧ l1 < 16) ∧ (0 ≤ l4 ∧ l4 < 120) ∧ (∀ M1 : xM, M1 = xU M (62 + l1.toNat) l4.toNat 0 → ((¬ l6 = 0 → (∀ M2 : xM, M2 = xU M1 59 l4.toNat 0 → Xv m_P_setValues 2 n R P 20 [some (vr 56), some (vi l1), some (vi l2), some (vi l3), some (vi (l4 + 1)), some (vi l5), some (vi (l6 + 1)), none] [] M2)) ∧ (l6 = 0 → (∀ M3 : xM, M3 = xU M1 59 l4.toNat 1 → Xv m_P_setValues 2 n R P 20 [some (vr 56), some (vi l1), some (vi l2), some (vi l3), some (vi (l4 + 1)), some (vi l5), some (vi (l6 + 1)), none] [] M3))))) ∧ (l6 = 0 → (-2147483648 ≤ xAnd l5 (xXor l1 ((-1))) ∧ xAnd l5 (xXor l1 ((-1))) < 2147483648) ∧ ((¬ (xAnd l5 (xXor l1 ((-1)))) = 0 → (0 ≤ l1 ∧ l1 < 16) ∧ (0 ≤ l4 ∧ l4 < 120) ∧ (∀ M4 : xM, M4 = xU M (62 + l1.toNat) l4.toNat 0 → ((¬ l6 = 0 → (∀ M5 : xM, M5 = xU M4 59 l4.toNat 0 → Xv m_P_setValues 2 n R P 20 [some (vr 56), some (vi l1), some (vi l2), some (vi l3), some (vi (l4 + 1)), some (vi l5), some (vi (l6 + 1)), none] [] M5)) ∧ (l6 = 0 → (∀ M6 : xM, M6 = xU M4 59 l4.toNat 1 → Xv m_P_setValues 2 n R P 20 [some (vr 56), some (vi l1), some (vi l2), some (vi l3), some (vi (l4 + 1)), some (vi l5), some (vi (l6 + 1)), none] [] M6))))) ∧ ((xAnd l5 (xXor l1 ((-1)))) = 0 → (0 ≤ l1 ∧ l1 < 16) ∧ (0 ≤ l2 ∧ l2 < 20) ∧ Ci m_F_power 1 n R [vr 1, vi (M 58 l2.toNat), vi (l1 - l5)] M (fun z10 M7 => (0 ≤ l4 ∧ l4 < 120) ∧ (∀ M8 : xM, M8 = xU M7 (62 + l1.toNat) l4.toNat z10 → ((¬ l6 = 0 → (∀ M9 : xM, M9 = xU M8 59 l4.toNat 0 → Xv m_P_setValues 2 n R P 20 [some (vr 56), some (vi l1), some (vi l2), some (vi l3), some (vi (l4 + 1)), some (vi l5), some (vi (l6 + 1)), none] [] M9)) ∧ (l6 = 0 → (∀ M10 : xM, M10 = xU M8 59 l4.toNat 1 → Xv m_P_setValues 2 n R P 20 [some (vr 56), some (vi l1), some (vi l2), some (vi l3), some (vi (l4 + 1)), some (vi l5), some (vi (l6 + 1)), none] [] M10)))))))))))) : Xv m_P_setValues 2 n R P 20 [some (vr 56), some (vi l1), some (vi l2), some (vi l3), some (vi l4), some (vi l5), some (vi l6), none] [] M := by
  intro Q hQ
  refine x_iload (pc := 20) d_P_setValues_20 rfl ?_
  refine x_iload_n (pc := 22) d_P_setValues_22 rfl rfl ?_
  refine x_iload (pc := 23) d_P_setValues_23 rfl ?_
  refine x_isub (pc := 25) d_P_setValues_25 ?_
  obtain ⟨h1, hvc⟩ := hvc
  obtain ⟨h2, hvc⟩ := hvc
  refine x_icmp_ge (tgt := 111) (pc := 26) d_P_setValues_26 rfl h1 h2 (fun hb => ?_) (fun hb => ?_)
  · have hvc := hvc.1 hb
    refine x_iinc (pc := 111) d_P_setValues_111 rfl (by decide) ?_
    refine x_goto (tgt := 11) (pc := 114) d_P_setValues_114 rfl ?_
    exact x_locals (xmask [true, true, true, true, true, true, false, false] _) (xmask_sub _ _) (hvc Q hQ)
  · have hvc := hvc.2 hb
    refine x_iload (pc := 29) d_P_setValues_29 rfl ?_
    refine x_if_ne (tgt := 47) (pc := 31) d_P_setValues_31 rfl h1 (fun hb => ?_) (fun hb => ?_)
    · have hvc := hvc.1 hb
      refine x_iconst (pc := 47) d_P_setValues_47 ?_
      refine x_istore (pc := 48) d_P_setValues_48 (by decide) ?_
      refine x_aload_n (pc := 50) d_P_setValues_50 rfl rfl ?_
      refine x_getR (k := 56) (ci := 6) (pc := 51) (t := 61) 10 d_P_setValues_51 cok6 rfl (Nat.lt_of_lt_of_le (by decide) hn) rfl (by decide) rfl (hR.at 56 10 rfl rfl) w_237 ?_
      refine x_iload_n (pc := 54) d_P_setValues_54 rfl rfl ?_
      obtain ⟨h3, hvc⟩ := hvc
      refine x_aald (k := 61) (N := 16) (pc := 55) d_P_setValues_55 (Nat.lt_of_lt_of_le (by decide) hn) rfl (by decide) h3.1 h3.2 (hR.row 61 62 16 rfl rfl h3.1 h3.2) ?_
      refine x_iload (pc := 56) d_P_setValues_56 rfl ?_
      refine x_iload (pc := 58) d_P_setValues_58 rfl ?_
      refine x_if_eq (tgt := 83) (pc := 60) d_P_setValues_60 rfl ⟨by decide, by decide⟩ (fun _ => ?_) (fun hb => absurd hb (by decide))
      refine x_iconst (pc := 83) d_P_setValues_83 ?_
      obtain ⟨h4, hvc⟩ := hvc
      refine x_iast (N := 120) (pc := 84) d_P_setValues_84 (Nat.lt_of_lt_of_le (rowN_62 (by omega)) hn) (rowS_62 (by omega)) (by decide) h4.1 h4.2 (fun M1 eM1 => ?_)
      have hvc := hvc M1 eM1
      refine x_aload_n (pc := 85) d_P_setValues_85 rfl rfl ?_
      refine x_getR (k := 56) (ci := 6) (pc := 86) (t := 59) 8 d_P_setValues_86 cok6 rfl (Nat.lt_of_lt_of_le (by decide) hn) rfl (by decide) rfl (hR.at 56 8 rfl rfl) w_235 ?_
      refine x_iload (pc := 89) d_P_setValues_89 rfl ?_
      refine x_iload (pc := 91) d_P_setValues_91 rfl ?_
      refine x_if_ne (tgt := 100) (pc := 93) d_P_setValues_93 rfl h1 (fun hb => ?_) (fun hb => ?_)
      · have hvc := hvc.1 hb
        refine x_iconst (pc := 100) d_P_setValues_100 ?_
        refine x_zast (N := 120) (pc := 101) d_P_setValues_101 (Nat.lt_of_lt_of_le (by decide) hn) rfl (by decide) h4.1 h4.2 (by decide) (fun M2 eM2 => ?_)
        have hvc := hvc M2 eM2
        refine x_iinc (pc := 102) d_P_setValues_102 rfl (by decide) ?_
        refine x_iinc (pc := 105) d_P_setValues_105 rfl (by decide) ?_
        refine x_goto (tgt := 20) (pc := 108) d_P_setValues_108 rfl ?_
        exact x_locals (xmask [true, true, true, true, true, true, true, false] _) (xmask_sub _ _) (hvc Q hQ)
      · have hvc := hvc.2 hb
        refine x_iconst (pc := 96) d_P_setValues_96 ?_
        refine x_goto (tgt := 101) (pc := 97) d_P_setValues_97 rfl ?_
        refine x_zast (N := 120) (pc := 101) d_P_setValues_101 (Nat.lt_of_lt_of_le (by decide) hn) rfl (by decide) h4.1 h4.2 (by decide) (fun M3 eM3 => ?_)
        have hvc := hvc M3 eM3
        refine x_iinc (pc := 102) d_P_setValues_102 rfl (by decide) ?_
        refine x_iinc (pc := 105) d_P_setValues_105 rfl (by decide) ?_
        refine x_goto (tgt := 20) (pc := 108) d_P_setValues_108 rfl ?_
        exact x_locals (xmask [true, true, true, true, true, true, true, false] _) (xmask_sub _ _) (hvc Q hQ)
    · have hvc := hvc.2 hb
      refine x_iload (pc := 34) d_P_setValues_34 rfl ?_
      refine x_iload_n (pc := 36) d_P_setValues_36 rfl rfl ?_
      refine x_iconst (pc := 37) d_P_setValues_37 ?_
      refine x_ixor (pc := 38) d_P_setValues_38 ?_
      refine x_iand (pc := 39) d_P_setValues_39 ?_
      obtain ⟨h5, hvc⟩ := hvc
      refine x_if_ne (tgt := 47) (pc := 40) d_P_setValues_40 rfl h5 (fun hb => ?_) (fun hb => ?_)
      · have hvc := hvc.1 hb
        refine x_iconst (pc := 47) d_P_setValues_47 ?_
        refine x_istore (pc := 48) d_P_setValues_48 (by decide) ?_
        refine x_aload_n (pc := 50) d_P_setValues_50 rfl rfl ?_
        refine x_getR (k := 56) (ci := 6) (pc := 51) (t := 61) 10 d_P_setValues_51 cok6 rfl (Nat.lt_of_lt_of_le (by decide) hn) rfl (by decide) rfl (hR.at 56 10 rfl rfl) w_237 ?_
        refine x_iload_n (pc := 54) d_P_setValues_54 rfl rfl ?_
        obtain ⟨h6, hvc⟩ := hvc
        refine x_aald (k := 61) (N := 16) (pc := 55) d_P_setValues_55 (Nat.lt_of_lt_of_le (by decide) hn) rfl (by decide) h6.1 h6.2 (hR.row 61 62 16 rfl rfl h6.1 h6.2) ?_
        refine x_iload (pc := 56) d_P_setValues_56 rfl ?_
        refine x_iload (pc := 58) d_P_setValues_58 rfl ?_
        refine x_if_eq (tgt := 83) (pc := 60) d_P_setValues_60 rfl ⟨by decide, by decide⟩ (fun _ => ?_) (fun hb => absurd hb (by decide))
        refine x_iconst (pc := 83) d_P_setValues_83 ?_
        obtain ⟨h7, hvc⟩ := hvc
        refine x_iast (N := 120) (pc := 84) d_P_setValues_84 (Nat.lt_of_lt_of_le (rowN_62 (by omega)) hn) (rowS_62 (by omega)) (by decide) h7.1 h7.2 (fun M4 eM4 => ?_)
        have hvc := hvc M4 eM4
        refine x_aload_n (pc := 85) d_P_setValues_85 rfl rfl ?_
        refine x_getR (k := 56) (ci := 6) (pc := 86) (t := 59) 8 d_P_setValues_86 cok6 rfl (Nat.lt_of_lt_of_le (by decide) hn) rfl (by decide) rfl (hR.at 56 8 rfl rfl) w_235 ?_
        refine x_iload (pc := 89) d_P_setValues_89 rfl ?_
        refine x_iload (pc := 91) d_P_setValues_91 rfl ?_
        refine x_if_ne (tgt := 100) (pc := 93) d_P_setValues_93 rfl h1 (fun hb => ?_) (fun hb => ?_)
        · have hvc := hvc.1 hb
          refine x_iconst (pc := 100) d_P_setValues_100 ?_
          refine x_zast (N := 120) (pc := 101) d_P_setValues_101 (Nat.lt_of_lt_of_le (by decide) hn) rfl (by decide) h7.1 h7.2 (by decide) (fun M5 eM5 => ?_)
          have hvc := hvc M5 eM5
          refine x_iinc (pc := 102) d_P_setValues_102 rfl (by decide) ?_
          refine x_iinc (pc := 105) d_P_setValues_105 rfl (by decide) ?_
          refine x_goto (tgt := 20) (pc := 108) d_P_setValues_108 rfl ?_
          exact x_locals (xmask [true, true, true, true, true, true, true, false] _) (xmask_sub _ _) (hvc Q hQ)
        · have hvc := hvc.2 hb
          refine x_iconst (pc := 96) d_P_setValues_96 ?_
          refine x_goto (tgt := 101) (pc := 97) d_P_setValues_97 rfl ?_
          refine x_zast (N := 120) (pc := 101) d_P_setValues_101 (Nat.lt_of_lt_of_le (by decide) hn) rfl (by decide) h7.1 h7.2 (by decide) (fun M6 eM6 => ?_)
          have hvc := hvc M6 eM6
          refine x_iinc (pc := 102) d_P_setValues_102 rfl (by decide) ?_
          refine x_iinc (pc := 105) d_P_setValues_105 rfl (by decide) ?_
          refine x_goto (tgt := 20) (pc := 108) d_P_setValues_108 rfl ?_
          exact x_locals (xmask [true, true, true, true, true, true, true, false] _) (xmask_sub _ _) (hvc Q hQ)
      · have hvc := hvc.2 hb
        refine x_iconst (pc := 43) d_P_setValues_43 ?_
        refine x_goto (tgt := 48) (pc := 44) d_P_setValues_44 rfl ?_
        refine x_istore (pc := 48) d_P_setValues_48 (by decide) ?_
        refine x_aload_n (pc := 50) d_P_setValues_50 rfl rfl ?_
        refine x_getR (k := 56) (ci := 6) (pc := 51) (t := 61) 10 d_P_setValues_51 cok6 rfl (Nat.lt_of_lt_of_le (by decide) hn) rfl (by decide) rfl (hR.at 56 10 rfl rfl) w_237 ?_
        refine x_iload_n (pc := 54) d_P_setValues_54 rfl rfl ?_
        obtain ⟨h8, hvc⟩ := hvc
        refine x_aald (k := 61) (N := 16) (pc := 55) d_P_setValues_55 (Nat.lt_of_lt_of_le (by decide) hn) rfl (by decide) h8.1 h8.2 (hR.row 61 62 16 rfl rfl h8.1 h8.2) ?_
        refine x_iload (pc := 56) d_P_setValues_56 rfl ?_
        refine x_iload (pc := 58) d_P_setValues_58 rfl ?_
        refine x_if_eq (tgt := 83) (pc := 60) d_P_setValues_60 rfl ⟨by decide, by decide⟩ (fun hb => absurd hb (by decide)) (fun _ => ?_)
        refine x_aload_n (pc := 63) d_P_setValues_63 rfl rfl ?_
        refine x_getR (k := 56) (ci := 6) (pc := 64) (t := 1) 0 d_P_setValues_64 cok6 rfl (Nat.lt_of_lt_of_le (by decide) hn) rfl (by decide) rfl (hR.at 56 0 rfl rfl) w_227 ?_
        refine x_aload_n (pc := 67) d_P_setValues_67 rfl rfl ?_
        refine x_getR (k := 56) (ci := 6) (pc := 68) (t := 58) 7 d_P_setValues_68 cok6 rfl (Nat.lt_of_lt_of_le (by decide) hn) rfl (by decide) rfl (hR.at 56 7 rfl rfl) w_234 ?_
        refine x_iload_n (pc := 71) d_P_setValues_71 rfl rfl ?_
        obtain ⟨h9, hvc⟩ := hvc
        refine x_iald (N := 20) (pc := 72) d_P_setValues_72 (Nat.lt_of_lt_of_le (by decide) hn) rfl (by decide) h9.1 h9.2 ?_
        refine x_iload_n (pc := 73) d_P_setValues_73 rfl rfl ?_
        refine x_iload (pc := 74) d_P_setValues_74 rfl ?_
        refine x_isub (pc := 76) d_P_setValues_76 ?_
        refine y_callVi m_F_power 1 96 1 1 5 [_, _] [_, _] rfl (pc := 77) d_P_setValues_77 ok_F_power w_532 w_307 w_308 pn_F_power (Nat.lt_of_lt_of_le (by decide) hn) rfl rfl (by decide) (Nat.le_of_ble_eq_true rfl) (Nat.le_refl _) (Nat.le_refl _) hvc (fun z10 M7 hvc => ?_)
        refine x_goto (tgt := 84) (pc := 80) d_P_setValues_80 rfl ?_
        obtain ⟨h11, hvc⟩ := hvc
        refine x_iast (N := 120) (pc := 84) d_P_setValues_84 (Nat.lt_of_lt_of_le (rowN_62 (by omega)) hn) (rowS_62 (by omega)) (by decide) h11.1 h11.2 (fun M8 eM8 => ?_)
        have hvc := hvc M8 eM8
        refine x_aload_n (pc := 85) d_P_setValues_85 rfl rfl ?_
        refine x_getR (k := 56) (ci := 6) (pc := 86) (t := 59) 8 d_P_setValues_86 cok6 rfl (Nat.lt_of_lt_of_le (by decide) hn) rfl (by decide) rfl (hR.at 56 8 rfl rfl) w_235 ?_
        refine x_iload (pc := 89) d_P_setValues_89 rfl ?_
        refine x_iload (pc := 91) d_P_setValues_91 rfl ?_
        refine x_if_ne (tgt := 100) (pc := 93) d_P_setValues_93 rfl h1 (fun hb => ?_) (fun hb => ?_)
        · have hvc := hvc.1 hb
          refine x_iconst (pc := 100) d_P_setValues_100 ?_
          refine x_zast (N := 120) (pc := 101) d_P_setValues_101 (Nat.lt_of_lt_of_le (by decide) hn) rfl (by decide) h11.1 h11.2 (by decide) (fun M9 eM9 => ?_)
          have hvc := hvc M9 eM9
          refine x_iinc (pc := 102) d_P_setValues_102 rfl (by decide) ?_
          refine x_iinc (pc := 105) d_P_setValues_105 rfl (by decide) ?_
          refine x_goto (tgt := 20) (pc := 108) d_P_setValues_108 rfl ?_
          exact x_locals (xmask [true, true, true, true, true, true, true, false] _) (xmask_sub _ _) (hvc Q hQ)
        · have hvc := hvc.2 hb
          refine x_iconst (pc := 96) d_P_setValues_96 ?_
          refine x_goto (tgt := 101) (pc := 97) d_P_setValues_97 rfl ?_
          refine x_zast (N := 120) (pc := 101) d_P_setValues_101 (Nat.lt_of_lt_of_le (by decide) hn) rfl (by decide) h11.1 h11.2 (by decide) (fun M10 eM10 => ?_)
          have hvc := hvc M10 eM10
          refine x_iinc (pc := 102) d_P_setValues_102 rfl (by decide) ?_
          refine x_iinc (pc := 105) d_P_setValues_105 rfl (by decide) ?_
          refine x_goto (tgt := 20) (pc := 108) d_P_setValues_108 rfl ?_
          exact x_locals (xmask [true, true, true, true, true, true, true, false] _) (xmask_sub _ _) (hvc Q hQ)
set_option maxRecDepth 20000 in
theorem E_P_setValues {n : Nat} {R : xR} {M : xM} {P : xM → Prop} (hn : 78 ≤ n) (hR : RC 78 R) {l1 l2 l3 : Int} (h : Xv m_P_setValues 2 n R P 0 [some (vr 56), some (vi l1), some (vi l2), some (vi l3), none, none, none, none] [] M) : Cv m_P_setValues 2 n R [vr 56, vi l1, vi l2, vi l3] M P :=
  Cv.of [some (vr 56), some (vi l1), some (vi l2), some (vi l3), none, none, none, none] (by decide) rfl (Nat.le_of_ble_eq_true rfl) rfl h
set_option maxRecDepth 20000 in
theorem B_P_meet_0 {n : Nat} {R : xR} {M : xM} {P : xM → Prop} (hn : 78 ≤ n) (hR : RC 78 R) {l1 l2 : Int} (hvc : Ci m_P_failingLeast 0 n R [vr 56, vi l1] M (fun z1 M1 => (-2147483648 ≤ z1 ∧ z1 < 2147483648) ∧ ((0 ≤ z1 → (0 ≤ z1 ∧ z1 < 16) ∧ Xv m_P_meet 2 n R P 22 [some (vr 56), some (vi l1), some (vi l2), some (vi z1), some (vr (62 + z1.toNat)), some (vi 0), none] [] M1) ∧ (¬ 0 ≤ z1 → P M1)))) : Xv m_P_meet 2 n R P 0 [some (vr 56), some (vi l1), some (vi l2), none, none, none, none] [] M := by
  intro Q hQ
  refine x_aload_n (pc := 0) d_P_meet_0 rfl rfl ?_
  refine x_iload_n (pc := 1) d_P_meet_1 rfl rfl ?_
  refine y_callVi m_P_failingLeast 0 99 56 6 11 [_] [] rfl (pc := 2) d_P_meet_2 ok_P_failingLeast w_537 w_539 w_18 pn_P_failingLeast (Nat.lt_of_lt_of_le (by decide) hn) rfl rfl (by decide) (Nat.le_of_ble_eq_true rfl) (Nat.le_refl _) (Nat.le_refl _) hvc (fun z1 M1 hvc => ?_)
  refine x_istore_n (pc := 5) d_P_meet_5 rfl (by decide) ?_
  refine x_iload_n (pc := 6) d_P_meet_6 rfl rfl ?_
  obtain ⟨h2, hvc⟩ := hvc
  refine x_if_ge (tgt := 11) (pc := 7) d_P_meet_7 rfl h2 (fun hb => ?_) (fun hb => ?_)
  · have hvc := hvc.1 hb
    refine x_aload_n (pc := 11) d_P_meet_11 rfl rfl ?_
    refine x_getR (k := 56) (ci := 6) (pc := 12) (t := 61) 10 d_P_meet_12 cok6 rfl (Nat.lt_of_lt_of_le (by decide) hn) rfl (by decide) rfl (hR.at 56 10 rfl rfl) w_237 ?_
    refine x_iload_n (pc := 15) d_P_meet_15 rfl rfl ?_
    obtain ⟨h3, hvc⟩ := hvc
    refine x_aald (k := 61) (N := 16) (pc := 16) d_P_meet_16 (Nat.lt_of_lt_of_le (by decide) hn) rfl (by decide) h3.1 h3.2 (hR.row 61 62 16 rfl rfl h3.1 h3.2) ?_
    refine x_astore (pc := 17) d_P_meet_17 (by decide) ?_
    refine x_iconst (pc := 19) d_P_meet_19 ?_
    refine x_istore (pc := 20) d_P_meet_20 (by decide) ?_
    exact x_locals (xmask [true, true, true, true, true, true, false] _) (xmask_sub _ _) (hvc Q hQ)
  · have hvc := hvc.2 hb
    exact x_vret (pc := 10) d_P_meet_10 rfl rfl (Nat.le_refl _) (hQ _ hvc)
set_option maxRecDepth 20000 in
theorem B_P_meet_22 {n : Nat} {R : xR} {M : xM} {P : xM → Prop} (hn : 78 ≤ n) (hR : RC 78 R) {l1 l2 l3 l5 l4 : Int} (hl4 : 0 ≤ l4 ∧ l4 < 16) (hvc : (-2147483648 ≤ l5 ∧ l5 < 2147483648) ∧ (-2147483648 ≤ M 56 5 ∧ M 56 5 < 2147483648) ∧ (((M 56 5) ≤ l5 → Cv m_P_timesLinear 1 n R [vr 56, vr (62 + l4.toNat), vi l2] M (fun M1 => (0 ≤ l3 ∧ l3 < 16) ∧ (∀ M2 : xM, M2 = xU M1 60 l3.toNat ((M1 60 l3.toNat) + 1) → P M2))) ∧ (¬ (M 56 5) ≤ l5 → (-2147483648 ≤ l3 ∧ l3 < 2147483648) ∧ ((l5 = l3 → Xv m_P_meet 2 n R P 22 [some (vr 56), some (vi l1), some (vi l2), some (vi l3), some (vr (62 + l4.toNat)), some (vi (l5 + 1)), none] [] M) ∧ (¬ l5 = l3 → (0 ≤ l5 ∧ l5 < 16) ∧ (0 ≤ l1 ∧ l1 < 120) ∧ (-2147483648 ≤ M (62 + l5.toNat) l1.toNat ∧ M (62 + l5.toNat) l1.toNat < 2147483648) ∧ (((M (62 + l5.toNat) l1.toNat) = 0 → Xv m_P_meet 2 n R P 22 [some (vr 56), some (vi l1), some (vi l2), some (vi l3), some (vr (62 + l4.toNat)), some (vi (l5 + 1)), none] [] M) ∧ (¬ (M (62 + l5.toNat) l1.toNat) = 0 → Ci m_F_quotient 0 n R [vr 1, vi (M (62 + l5.toNat) l1.toNat), vi (M (62 + l4.toNat) l1.toNat)] M (fun z8 M3 => Cv m_F_addMultiple 0 n R [vr 1, vr (62 + l5.toNat), vi z8, vr (62 + l4.toNat), vi l1, vi ((M3 56 3) * (M3 56 4))] M3 (fun M4 => Xv m_P_meet 2 n R P 22 [some (vr 56), some (vi l1), some (vi l2), some (vi l3), some (vr (62 + l4.toNat)), some (vi (l5 + 1)), none] [] M4))))))))) : Xv m_P_meet 2 n R P 22 [some (vr 56), some (vi l1), some (vi l2), some (vi l3), some (vr (62 + l4.toNat)), some (vi l5), none] [] M := by
  intro Q hQ
  refine x_iload (pc := 22) d_P_meet_22 rfl ?_
  refine x_aload_n (pc := 24) d_P_meet_24 rfl rfl ?_
  refine x_getI (k := 56) (ci := 6) (pc := 25) 5 d_P_meet_25 cok6 rfl (Nat.lt_of_lt_of_le (by decide) hn) rfl (by decide) rfl w_232 ?_
  obtain ⟨h1, hvc⟩ := hvc
  obtain ⟨h2, hvc⟩ := hvc
  refine x_icmp_ge (tgt := 105) (pc := 28) d_P_meet_28 rfl h1 h2 (fun hb => ?_) (fun hb => ?_)
  · have hvc := hvc.1 hb
    refine x_aload_n (pc := 105) d_P_meet_105 rfl rfl ?_
    refine x_aload (pc := 106) d_P_meet_106 rfl ?_
    refine x_iload_n (pc := 108) d_P_meet_108 rfl rfl ?_
    refine y_callVv m_P_timesLinear 1 107 56 6 11 [_, _] [] rfl (pc := 109) d_P_meet_109 ok_P_timesLinear w_542 w_544 w_19 pn_P_timesLinear (Nat.lt_of_lt_of_le (by decide) hn) rfl rfl (by decide) (Nat.le_of_ble_eq_true rfl) (Nat.le_refl _) (Nat.le_refl _) hvc (fun M1 hvc => ?_)
    refine x_aload_n (pc := 112) d_P_meet_112 rfl rfl ?_
    refine x_getR (k := 56) (ci := 6) (pc := 113) (t := 60) 9 d_P_meet_113 cok6 rfl (Nat.lt_of_lt_of_le (by decide) hn) rfl (by decide) rfl (hR.at 56 9 rfl rfl) w_236 ?_
    refine x_iload_n (pc := 116) d_P_meet_116 rfl rfl ?_
    refine x_dup2 (pc := 117) d_P_meet_117 ?_
    obtain ⟨h3, hvc⟩ := hvc
    refine x_iald (N := 16) (pc := 118) d_P_meet_118 (Nat.lt_of_lt_of_le (by decide) hn) rfl (by decide) h3.1 h3.2 ?_
    refine x_iconst (pc := 119) d_P_meet_119 ?_
    refine x_iadd (pc := 120) d_P_meet_120 ?_
    refine x_iast (N := 16) (pc := 121) d_P_meet_121 (Nat.lt_of_lt_of_le (by decide) hn) rfl (by decide) h3.1 h3.2 (fun M2 eM2 => ?_)
    have hvc := hvc M2 eM2
    exact x_vret (pc := 122) d_P_meet_122 rfl rfl (Nat.le_refl _) (hQ _ hvc)
  · have hvc := hvc.2 hb
    refine x_iload (pc := 31) d_P_meet_31 rfl ?_
    refine x_iload_n (pc := 33) d_P_meet_33 rfl rfl ?_
    obtain ⟨h4, hvc⟩ := hvc
    refine x_icmp_eq (tgt := 99) (pc := 34) d_P_meet_34 rfl h1 h4 (fun hb => ?_) (fun hb => ?_)
    · have hvc := hvc.1 hb
      refine x_iinc (pc := 99) d_P_meet_99 rfl (by decide) ?_
      refine x_goto (tgt := 22) (pc := 102) d_P_meet_102 rfl ?_
      exact x_locals (xmask [true, true, true, true, true, true, false] _) (xmask_sub _ _) (hvc Q hQ)
    · have hvc := hvc.2 hb
      refine x_aload_n (pc := 37) d_P_meet_37 rfl rfl ?_
      refine x_getR (k := 56) (ci := 6) (pc := 38) (t := 61) 10 d_P_meet_38 cok6 rfl (Nat.lt_of_lt_of_le (by decide) hn) rfl (by decide) rfl (hR.at 56 10 rfl rfl) w_237 ?_
      refine x_iload (pc := 41) d_P_meet_41 rfl ?_
      obtain ⟨h5, hvc⟩ := hvc
      refine x_aald (k := 61) (N := 16) (pc := 43) d_P_meet_43 (Nat.lt_of_lt_of_le (by decide) hn) rfl (by decide) h5.1 h5.2 (hR.row 61 62 16 rfl rfl h5.1 h5.2) ?_
      refine x_iload_n (pc := 44) d_P_meet_44 rfl rfl ?_
      obtain ⟨h6, hvc⟩ := hvc
      refine x_iald (N := 120) (pc := 45) d_P_meet_45 (Nat.lt_of_lt_of_le (rowN_62 (by omega)) hn) (rowS_62 (by omega)) (by decide) h6.1 h6.2 ?_
      obtain ⟨h7, hvc⟩ := hvc
      refine x_if_eq (tgt := 99) (pc := 46) d_P_meet_46 rfl h7 (fun hb => ?_) (fun hb => ?_)
      · have hvc := hvc.1 hb
        refine x_iinc (pc := 99) d_P_meet_99 rfl (by decide) ?_
        refine x_goto (tgt := 22) (pc := 102) d_P_meet_102 rfl ?_
        exact x_locals (xmask [true, true, true, true, true, true, false] _) (xmask_sub _ _) (hvc Q hQ)
      · have hvc := hvc.2 hb
        refine x_aload_n (pc := 49) d_P_meet_49 rfl rfl ?_
        refine x_getR (k := 56) (ci := 6) (pc := 50) (t := 1) 0 d_P_meet_50 cok6 rfl (Nat.lt_of_lt_of_le (by decide) hn) rfl (by decide) rfl (hR.at 56 0 rfl rfl) w_227 ?_
        refine x_aload_n (pc := 53) d_P_meet_53 rfl rfl ?_
        refine x_getR (k := 56) (ci := 6) (pc := 54) (t := 61) 10 d_P_meet_54 cok6 rfl (Nat.lt_of_lt_of_le (by decide) hn) rfl (by decide) rfl (hR.at 56 10 rfl rfl) w_237 ?_
        refine x_iload (pc := 57) d_P_meet_57 rfl ?_
        refine x_aald (k := 61) (N := 16) (pc := 59) d_P_meet_59 (Nat.lt_of_lt_of_le (by decide) hn) rfl (by decide) h5.1 h5.2 (hR.row 61 62 16 rfl rfl h5.1 h5.2) ?_
        refine x_iload_n (pc := 60) d_P_meet_60 rfl rfl ?_
        refine x_iald (N := 120) (pc := 61) d_P_meet_61 (Nat.lt_of_lt_of_le (rowN_62 (by omega)) hn) (rowS_62 (by omega)) (by decide) h6.1 h6.2 ?_
        refine x_aload (pc := 62) d_P_meet_62 rfl ?_
        refine x_iload_n (pc := 64) d_P_meet_64 rfl rfl ?_
        refine x_iald (N := 120) (pc := 65) d_P_meet_65 (Nat.lt_of_lt_of_le (rowN_62 (by omega)) hn) (rowS_62 (by omega)) (by decide) h6.1 h6.2 ?_
        refine y_callVi m_F_quotient 0 91 1 1 5 [_, _] [] rfl (pc := 66) d_P_meet_66 ok_F_quotient w_526 w_295 w_296 pn_F_quotient (Nat.lt_of_lt_of_le (by decide) hn) rfl rfl (by decide) (Nat.le_of_ble_eq_true rfl) (Nat.le_refl _) (Nat.le_refl _) hvc (fun z8 M3 hvc => ?_)
        refine x_istore (pc := 69) d_P_meet_69 (by decide) ?_
        refine x_aload_n (pc := 71) d_P_meet_71 rfl rfl ?_
        refine x_getR (k := 56) (ci := 6) (pc := 72) (t := 1) 0 d_P_meet_72 cok6 rfl (Nat.lt_of_lt_of_le (by decide) hn) rfl (by decide) rfl (hR.at 56 0 rfl rfl) w_227 ?_
        refine x_aload_n (pc := 75) d_P_meet_75 rfl rfl ?_
        refine x_getR (k := 56) (ci := 6) (pc := 76) (t := 61) 10 d_P_meet_76 cok6 rfl (Nat.lt_of_lt_of_le (by decide) hn) rfl (by decide) rfl (hR.at 56 10 rfl rfl) w_237 ?_
        refine x_iload (pc := 79) d_P_meet_79 rfl ?_
        refine x_aald (k := 61) (N := 16) (pc := 81) d_P_meet_81 (Nat.lt_of_lt_of_le (by decide) hn) rfl (by decide) h5.1 h5.2 (hR.row 61 62 16 rfl rfl h5.1 h5.2) ?_
        refine x_iload (pc := 82) d_P_meet_82 rfl ?_
        refine x_aload (pc := 84) d_P_meet_84 rfl ?_
        refine x_iload_n (pc := 86) d_P_meet_86 rfl rfl ?_
        refine x_aload_n (pc := 87) d_P_meet_87 rfl rfl ?_
        refine x_getI (k := 56) (ci := 6) (pc := 88) 3 d_P_meet_88 cok6 rfl (Nat.lt_of_lt_of_le (by decide) hn) rfl (by decide) rfl w_230 ?_
        refine x_aload_n (pc := 91) d_P_meet_91 rfl rfl ?_
        refine x_getI (k := 56) (ci := 6) (pc := 92) 4 d_P_meet_92 cok6 rfl (Nat.lt_of_lt_of_le (by decide) hn) rfl (by decide) rfl w_231 ?_
        refine x_imul (pc := 95) d_P_meet_95 ?_
        refine y_callVv m_F_addMultiple 0 103 1 1 5 [_, _, _, _, _] [] rfl (pc := 96) d_P_meet_96 ok_F_addMultiple w_541 w_319 w_320 pn_F_addMultiple (Nat.lt_of_lt_of_le (by decide) hn) rfl rfl (by decide) (Nat.le_of_ble_eq_true rfl) (Nat.le_refl _) (Nat.le_refl _) hvc (fun M4 hvc => ?_)
        refine x_iinc (pc := 99) d_P_meet_99 rfl (by decide) ?_
        refine x_goto (tgt := 22) (pc := 102) d_P_meet_102 rfl ?_
        exact x_locals (xmask [true, true, true, true, true, true, false] _) (xmask_sub _ _) (hvc Q hQ)
set_option maxRecDepth 20000 in
theorem E_P_meet {n : Nat} {R : xR} {M : xM} {P : xM → Prop} (hn : 78 ≤ n) (hR : RC 78 R) {l1 l2 : Int} (h : Xv m_P_meet 2 n R P 0 [some (vr 56), some (vi l1), some (vi l2), none, none, none, none] [] M) : Cv m_P_meet 2 n R [vr 56, vi l1, vi l2] M P :=
  Cv.of [some (vr 56), some (vi l1), some (vi l2), none, none, none, none] (by decide) rfl (Nat.le_of_ble_eq_true rfl) rfl h
set_option maxRecDepth 20000 in
theorem B_P_failingLeast_0 {n : Nat} {R : xR} {M : xM} {P : Int → xM → Prop} (hn : 78 ≤ n) (hR : RC 78 R) {l1 : Int} (hvc : Xi m_P_failingLeast 0 n R P 4 [some (vr 56), some (vi l1), some (vi ((-1))), some (vi 0)] [] M) : Xi m_P_failingLeast 0 n R P 0 [some (vr 56), some (vi l1), none, none] [] M := by
  intro Q hQ
  refine x_iconst (pc := 0) d_P_failingLeast_0 ?_
  refine x_istore_n (pc := 1) d_P_failingLeast_1 rfl (by decide) ?_
  refine x_iconst (pc := 2) d_P_failingLeast_2 ?_
  refine x_istore_n (pc := 3) d_P_failingLeast_3 rfl (by decide) ?_
  exact x_locals (xmask [true, true, true, true] _) (xmask_sub _ _) (hvc Q hQ)
set_option maxRecDepth 20000 in
theorem B_P_failingLeast_4 {n : Nat} {R : xR} {M : xM} {P : Int → xM → Prop} (hn : 78 ≤ n) (hR : RC 78 R) {l1 l2 l3 : Int} (hvc : (-2147483648 ≤ l3 ∧ l3 < 2147483648) ∧ (-2147483648 ≤ M 56 5 ∧ M 56 5 < 2147483648) ∧ (((M 56 5) ≤ l3 → P l2 M) ∧ (¬ (M 56 5) ≤ l3 → (0 ≤ l3 ∧ l3 < 16) ∧ (0 ≤ l1 ∧ l1 < 120) ∧ (-2147483648 ≤ M (62 + l3.toNat) l1.toNat ∧ M (62 + l3.toNat) l1.toNat < 2147483648) ∧ (((M (62 + l3.toNat) l1.toNat) = 0 → Xi m_P_failingLeast 0 n R P 4 [some (vr 56), some (vi l1), some (vi l2), some (vi (l3 + 1))] [] M) ∧ (¬ (M (62 + l3.toNat) l1.toNat) = 0 → (-2147483648 ≤ l2 ∧ l2 < 2147483648) ∧ ((l2 < 0 → Xi m_P_failingLeast 0 n R P 4 [some (vr 56), some (vi l1), some (vi l3), some (vi (l3 + 1))] [] M) ∧ (¬ l2 < 0 → (0 ≤ l2 ∧ l2 < 16) ∧ (-2147483648 ≤ M 60 l3.toNat ∧ M 60 l3.toNat < 2147483648) ∧ (-2147483648 ≤ M 60 l2.toNat ∧ M 60 l2.toNat < 2147483648) ∧ (((M 60 l2.toNat) ≤ (M 60 l3.toNat) → Xi m_P_failingLeast 0 n R P 4 [some (vr 56), some (vi l1), some (vi l2), some (vi (l3 + 1))] [] M) ∧ (¬ (M 60 l2.toNat) ≤ (M 60 l3.toNat) → Xi m_P_failingLeast 0 n R P 4 [some (vr 56), some (vi l1), some (vi l3), some (vi (l3 + 1))] [] M))))))))) : Xi m_P_failingLeast 0 n R P 4 [some (vr 56), some (vi l1), some (vi l2), some (vi l3)] [] M := by
  intro Q hQ
  refine x_iload_n (pc := 4) d_P_failingLeast_4 rfl rfl ?_
  refine x_aload_n (pc := 5) d_P_failingLeast_5 rfl rfl ?_
  refine x_getI (k := 56) (ci := 6) (pc := 6) 5 d_P_failingLeast_6 cok6 rfl (Nat.lt_of_lt_of_le (by decide) hn) rfl (by decide) rfl w_232 ?_
  obtain ⟨h1, hvc⟩ := hvc
  obtain ⟨h2, hvc⟩ := hvc
  refine x_icmp_ge (tgt := 50) (pc := 9) d_P_failingLeast_9 rfl h1 h2 (fun hb => ?_) (fun hb => ?_)
  · have hvc := hvc.1 hb
    refine x_iload_n (pc := 50) d_P_failingLeast_50 rfl rfl ?_
    exact x_iret (pc := 51) d_P_failingLeast_51 rfl rfl (Nat.le_refl _) (hQ _ _ hvc)
  · have hvc := hvc.2 hb
    refine x_aload_n (pc := 12) d_P_failingLeast_12 rfl rfl ?_
    refine x_getR (k := 56) (ci := 6) (pc := 13) (t := 61) 10 d_P_failingLeast_13 cok6 rfl (Nat.lt_of_lt_of_le (by decide) hn) rfl (by decide) rfl (hR.at 56 10 rfl rfl) w_237 ?_
    refine x_iload_n (pc := 16) d_P_failingLeast_16 rfl rfl ?_
    obtain ⟨h3, hvc⟩ := hvc
    refine x_aald (k := 61) (N := 16) (pc := 17) d_P_failingLeast_17 (Nat.lt_of_lt_of_le (by decide) hn) rfl (by decide) h3.1 h3.2 (hR.row 61 62 16 rfl rfl h3.1 h3.2) ?_
    refine x_iload_n (pc := 18) d_P_failingLeast_18 rfl rfl ?_
    obtain ⟨h4, hvc⟩ := hvc
    refine x_iald (N := 120) (pc := 19) d_P_failingLeast_19 (Nat.lt_of_lt_of_le (rowN_62 (by omega)) hn) (rowS_62 (by omega)) (by decide) h4.1 h4.2 ?_
    obtain ⟨h5, hvc⟩ := hvc
    refine x_if_eq (tgt := 44) (pc := 20) d_P_failingLeast_20 rfl h5 (fun hb => ?_) (fun hb => ?_)
    · have hvc := hvc.1 hb
      refine x_iinc (pc := 44) d_P_failingLeast_44 rfl (by decide) ?_
      refine x_goto (tgt := 4) (pc := 47) d_P_failingLeast_47 rfl ?_
      exact x_locals (xmask [true, true, true, true] _) (xmask_sub _ _) (hvc Q hQ)
    · have hvc := hvc.2 hb
      refine x_iload_n (pc := 23) d_P_failingLeast_23 rfl rfl ?_
      obtain ⟨h6, hvc⟩ := hvc
      refine x_if_lt (tgt := 42) (pc := 24) d_P_failingLeast_24 rfl h6 (fun hb => ?_) (fun hb => ?_)
      · have hvc := hvc.1 hb
        refine x_iload_n (pc := 42) d_P_failingLeast_42 rfl rfl ?_
        refine x_istore_n (pc := 43) d_P_failingLeast_43 rfl (by decide) ?_
        refine x_iinc (pc := 44) d_P_failingLeast_44 rfl (by decide) ?_
        refine x_goto (tgt := 4) (pc := 47) d_P_failingLeast_47 rfl ?_
        exact x_locals (xmask [true, true, true, true] _) (xmask_sub _ _) (hvc Q hQ)
      · have hvc := hvc.2 hb
        refine x_aload_n (pc := 27) d_P_failingLeast_27 rfl rfl ?_
        refine x_getR (k := 56) (ci := 6) (pc := 28) (t := 60) 9 d_P_failingLeast_28 cok6 rfl (Nat.lt_of_lt_of_le (by decide) hn) rfl (by decide) rfl (hR.at 56 9 rfl rfl) w_236 ?_
        refine x_iload_n (pc := 31) d_P_failingLeast_31 rfl rfl ?_
        refine x_iald (N := 16) (pc := 32) d_P_failingLeast_32 (Nat.lt_of_lt_of_le (by decide) hn) rfl (by decide) h3.1 h3.2 ?_
        refine x_aload_n (pc := 33) d_P_failingLeast_33 rfl rfl ?_
        refine x_getR (k := 56) (ci := 6) (pc := 34) (t := 60) 9 d_P_failingLeast_34 cok6 rfl (Nat.lt_of_lt_of_le (by decide) hn) rfl (by decide) rfl (hR.at 56 9 rfl rfl) w_236 ?_
        refine x_iload_n (pc := 37) d_P_failingLeast_37 rfl rfl ?_
        obtain ⟨h7, hvc⟩ := hvc
        refine x_iald (N := 16) (pc := 38) d_P_failingLeast_38 (Nat.lt_of_lt_of_le (by decide) hn) rfl (by decide) h7.1 h7.2 ?_
        obtain ⟨h8, hvc⟩ := hvc
        obtain ⟨h9, hvc⟩ := hvc
        refine x_icmp_ge (tgt := 44) (pc := 39) d_P_failingLeast_39 rfl h8 h9 (fun hb => ?_) (fun hb => ?_)
        · have hvc := hvc.1 hb
          refine x_iinc (pc := 44) d_P_failingLeast_44 rfl (by decide) ?_
          refine x_goto (tgt := 4) (pc := 47) d_P_failingLeast_47 rfl ?_
          exact x_locals (xmask [true, true, true, true] _) (xmask_sub _ _) (hvc Q hQ)
        · have hvc := hvc.2 hb
          refine x_iload_n (pc := 42) d_P_failingLeast_42 rfl rfl ?_
          refine x_istore_n (pc := 43) d_P_failingLeast_43 rfl (by decide) ?_
          refine x_iinc (pc := 44) d_P_failingLeast_44 rfl (by decide) ?_
          refine x_goto (tgt := 4) (pc := 47) d_P_failingLeast_47 rfl ?_
          exact x_locals (xmask [true, true, true, true] _) (xmask_sub _ _) (hvc Q hQ)
set_option maxRecDepth 20000 in
theorem E_P_failingLeast {n : Nat} {R : xR} {M : xM} {P : Int → xM → Prop} (hn : 78 ≤ n) (hR : RC 78 R) {l1 : Int} (h : Xi m_P_failingLeast 0 n R P 0 [some (vr 56), some (vi l1), none, none] [] M) : Ci m_P_failingLeast 0 n R [vr 56, vi l1] M P :=
  Ci.of [some (vr 56), some (vi l1), none, none] (by decide) rfl (Nat.le_of_ble_eq_true rfl) rfl h
set_option maxRecDepth 20000 in
theorem B_P_timesLinear_0 {n : Nat} {R : xR} {M : xM} {P : xM → Prop} (hn : 78 ≤ n) (hR : RC 78 R) {l2 l1 : Int} (hl1 : 0 ≤ l1 ∧ l1 < 16) (hvc : Xv m_P_timesLinear 1 n R P 2 [some (vr 56), some (vr (62 + l1.toNat)), some (vi l2), some (vi l2), none, none, none] [] M) : Xv m_P_timesLinear 1 n R P 0 [some (vr 56), some (vr (62 + l1.toNat)), some (vi l2), none, none, none, none] [] M := by
  intro Q hQ
  refine x_iload_n (pc := 0) d_P_timesLinear_0 rfl rfl ?_
  refine x_istore_n (pc := 1) d_P_timesLinear_1 rfl (by decide) ?_
  exact x_locals (xmask [true, true, true, true, false, false, false] _) (xmask_sub _ _) (hvc Q hQ)
set_option maxRecDepth 20000 in
theorem B_P_timesLinear_2 {n : Nat} {R : xR} {M : xM} {P : xM → Prop} (hn : 78 ≤ n) (hR : RC 78 R) {l2 l3 l1 : Int} (hl1 : 0 ≤ l1 ∧ l1 < 16) (hvc : (-2147483648 ≤ l3 ∧ l3 < 2147483648) ∧ (-2147483648 ≤ M 56 3 ∧ M 56 3 < 2147483648) ∧ (((M 56 3) ≤ l3 → P M) ∧ (¬ (M 56 3) ≤ l3 → (0 ≤ l3 ∧ l3 < 20) ∧ (0 ≤ l2 ∧ l2 < 20) ∧ Xv m_P_timesLinear 1 n R P 37 [some (vr 56), some (vr (62 + l1.toNat)), some (vi l2), some (vi l3), some (vi (xXor (M 57 l3.toNat) (M 57 l2.toNat))), some (vi (((l3 + 1) * (M 56 4)) - 1)), none] [] M))) : Xv m_P_timesLinear 1 n R P 2 [some (vr 56), some (vr (62 + l1.toNat)), some (vi l2), some (vi l3), none, none, none] [] M := by
  intro Q hQ
  refine x_iload_n (pc := 2) d_P_timesLinear_2 rfl rfl ?_
  refine x_aload_n (pc := 3) d_P_timesLinear_3 rfl rfl ?_
  refine x_getI (k := 56) (ci := 6) (pc := 4) 3 d_P_timesLinear_4 cok6 rfl (Nat.lt_of_lt_of_le (by decide) hn) rfl (by decide) rfl w_230 ?_
  obtain ⟨h1, hvc⟩ := hvc
  obtain ⟨h2, hvc⟩ := hvc
  refine x_icmp_ge (tgt := 102) (pc := 7) d_P_timesLinear_7 rfl h1 h2 (fun hb => ?_) (fun hb => ?_)
  · have hvc := hvc.1 hb
    exact x_vret (pc := 102) d_P_timesLinear_102 rfl rfl (Nat.le_refl _) (hQ _ hvc)
  · have hvc := hvc.2 hb
    refine x_aload_n (pc := 10) d_P_timesLinear_10 rfl rfl ?_
    refine x_getR (k := 56) (ci := 6) (pc := 11) (t := 57) 6 d_P_timesLinear_11 cok6 rfl (Nat.lt_of_lt_of_le (by decide) hn) rfl (by decide) rfl (hR.at 56 6 rfl rfl) w_233 ?_
    refine x_iload_n (pc := 14) d_P_timesLinear_14 rfl rfl ?_
    obtain ⟨h3, hvc⟩ := hvc
    refine x_iald (N := 20) (pc := 15) d_P_timesLinear_15 (Nat.lt_of_lt_of_le (by decide) hn) rfl (by decide) h3.1 h3.2 ?_
    refine x_aload_n (pc := 16) d_P_timesLinear_16 rfl rfl ?_
    refine x_getR (k := 56) (ci := 6) (pc := 17) (t := 57) 6 d_P_timesLinear_17 cok6 rfl (Nat.lt_of_lt_of_le (by decide) hn) rfl (by decide) rfl (hR.at 56 6 rfl rfl) w_233 ?_
    refine x_iload_n (pc := 20) d_P_timesLinear_20 rfl rfl ?_
    obtain ⟨h4, hvc⟩ := hvc
    refine x_iald (N := 20) (pc := 21) d_P_timesLinear_21 (Nat.lt_of_lt_of_le (by decide) hn) rfl (by decide) h4.1 h4.2 ?_
    refine x_ixor (pc := 22) d_P_timesLinear_22 ?_
    refine x_istore (pc := 23) d_P_timesLinear_23 (by decide) ?_
    refine x_iload_n (pc := 25) d_P_timesLinear_25 rfl rfl ?_
    refine x_iconst (pc := 26) d_P_timesLinear_26 ?_
    refine x_iadd (pc := 27) d_P_timesLinear_27 ?_
    refine x_aload_n (pc := 28) d_P_timesLinear_28 rfl rfl ?_
    refine x_getI (k := 56) (ci := 6) (pc := 29) 4 d_P_timesLinear_29 cok6 rfl (Nat.lt_of_lt_of_le (by decide) hn) rfl (by decide) rfl w_231 ?_
    refine x_imul (pc := 32) d_P_timesLinear_32 ?_
    refine x_iconst (pc := 33) d_P_timesLinear_33 ?_
    refine x_isub (pc := 34) d_P_timesLinear_34 ?_
    refine x_istore (pc := 35) d_P_timesLinear_35 (by decide) ?_
    exact x_locals (xmask [true, true, true, true, true, true, false] _) (xmask_sub _ _) (hvc Q hQ)
set_option maxRecDepth 20000 in
theorem B_P_timesLinear_37 {n : Nat} {R : xR} {M : xM} {P : xM → Prop} (hn : 78 ≤ n) (hR : RC 78 R) {l2 l3 l4 l5 l1 : Int} (hl1 : 0 ≤ l1 ∧ l1 < 16) (hvc : (-2147483648 ≤ l5 ∧ l5 < 2147483648) ∧ (-2147483648 ≤ l3 * (M 56 4) ∧ l3 * (M 56 4) < 2147483648) ∧ ((l5 < (l3 * (M 56 4)) → Xv m_P_timesLinear 1 n R P 2 [some (vr 56), some (vr (62 + l1.toNat)), some (vi l2), some (vi (l3 + 1)), none, none, none] [] M) ∧ (¬ l5 < (l3 * (M 56 4)) → (0 ≤ l5 ∧ l5 < 120) ∧ (-2147483648 ≤ M 59 l5.toNat ∧ M 59 l5.toNat < 2147483648) ∧ (((M 59 l5.toNat) = 0 → (0 ≤ l5 - 1 ∧ l5 - 1 < 120) ∧ Ci m_F_product 0 n R [vr 1, vi l4, vi (M (62 + l1.toNat) l5.toNat)] M (fun z6 M1 => (∀ M2 : xM, M2 = xU M1 (62 + l1.toNat) l5.toNat (xXor (M (62 + l1.toNat) (l5 - 1).toNat) z6) → Xv m_P_timesLinear 1 n R P 37 [some (vr 56), some (vr (62 + l1.toNat)), some (vi l2), some (vi l3), some (vi l4), some (vi (l5 + (-1))), none] [] M2))) ∧ (¬ (M 59 l5.toNat) = 0 → Ci m_F_product 0 n R [vr 1, vi l4, vi (M (62 + l1.toNat) l5.toNat)] M (fun z7 M3 => (∀ M4 : xM, M4 = xU M3 (62 + l1.toNat) l5.toNat (xXor 0 z7) → Xv m_P_timesLinear 1 n R P 37 [some (vr 56), some (vr (62 + l1.toNat)), some (vi l2), some (vi l3), some (vi l4), some (vi (l5 + (-1))), none] [] M4))))))) : Xv m_P_timesLinear 1 n R P 37 [some (vr 56), some (vr (62 + l1.toNat)), some (vi l2), some (vi l3), some (vi l4), some (vi l5), none] [] M := by
  intro Q hQ
  refine x_iload (pc := 37) d_P_timesLinear_37 rfl ?_
  refine x_iload_n (pc := 39) d_P_timesLinear_39 rfl rfl ?_
  refine x_aload_n (pc := 40) d_P_timesLinear_40 rfl rfl ?_
  refine x_getI (k := 56) (ci := 6) (pc := 41) 4 d_P_timesLinear_41 cok6 rfl (Nat.lt_of_lt_of_le (by decide) hn) rfl (by decide) rfl w_231 ?_
  refine x_imul (pc := 44) d_P_timesLinear_44 ?_
  obtain ⟨h1, hvc⟩ := hvc
  obtain ⟨h2, hvc⟩ := hvc
  refine x_icmp_lt (tgt := 96) (pc := 45) d_P_timesLinear_45 rfl h1 h2 (fun hb => ?_) (fun hb => ?_)
  · have hvc := hvc.1 hb
    refine x_iinc (pc := 96) d_P_timesLinear_96 rfl (by decide) ?_
    refine x_goto (tgt := 2) (pc := 99) d_P_timesLinear_99 rfl ?_
    exact x_locals (xmask [true, true, true, true, false, false, false] _) (xmask_sub _ _) (hvc Q hQ)
  · have hvc := hvc.2 hb
    refine x_aload_n (pc := 48) d_P_timesLinear_48 rfl rfl ?_
    refine x_getR (k := 56) (ci := 6) (pc := 49) (t := 59) 8 d_P_timesLinear_49 cok6 rfl (Nat.lt_of_lt_of_le (by decide) hn) rfl (by decide) rfl (hR.at 56 8 rfl rfl) w_235 ?_
    refine x_iload (pc := 52) d_P_timesLinear_52 rfl ?_
    obtain ⟨h3, hvc⟩ := hvc
    refine x_zald (N := 120) (pc := 54) d_P_timesLinear_54 (Nat.lt_of_lt_of_le (by decide) hn) rfl (by decide) h3.1 h3.2 ?_
    obtain ⟨h4, hvc⟩ := hvc
    refine x_if_eq (tgt := 62) (pc := 55) d_P_timesLinear_55 rfl h4 (fun hb => ?_) (fun hb => ?_)
    · have hvc := hvc.1 hb
      refine x_aload_n (pc := 62) d_P_timesLinear_62 rfl rfl ?_
      refine x_iload (pc := 63) d_P_timesLinear_63 rfl ?_
      refine x_iconst (pc := 65) d_P_timesLinear_65 ?_
      refine x_isub (pc := 66) d_P_timesLinear_66 ?_
      obtain ⟨h5, hvc⟩ := hvc
      refine x_iald (N := 120) (pc := 67) d_P_timesLinear_67 (Nat.lt_of_lt_of_le (rowN_62 (by omega)) hn) (rowS_62 (by omega)) (by decide) h5.1 h5.2 ?_
      refine x_istore (pc := 68) d_P_timesLinear_68 (by decide) ?_
      refine x_aload_n (pc := 70) d_P_timesLinear_70 rfl rfl ?_
      refine x_iload (pc := 71) d_P_timesLinear_71 rfl ?_
      refine x_iload (pc := 73) d_P_timesLinear_73 rfl ?_
      refine x_aload_n (pc := 75) d_P_timesLinear_75 rfl rfl ?_
      refine x_getR (k := 56) (ci := 6) (pc := 76) (t := 1) 0 d_P_timesLinear_76 cok6 rfl (Nat.lt_of_lt_of_le (by decide) hn) rfl (by decide) rfl (hR.at 56 0 rfl rfl) w_227 ?_
      refine x_iload (pc := 79) d_P_timesLinear_79 rfl ?_
      refine x_aload_n (pc := 81) d_P_timesLinear_81 rfl rfl ?_
      refine x_iload (pc := 82) d_P_timesLinear_82 rfl ?_
      refine x_iald (N := 120) (pc := 84) d_P_timesLinear_84 (Nat.lt_of_lt_of_le (rowN_62 (by omega)) hn) (rowS_62 (by omega)) (by decide) h3.1 h3.2 ?_
      refine y_callVi m_F_product 0 111 1 1 5 [_, _] [_, _, _] rfl (pc := 85) d_P_timesLinear_85 ok_F_product w_546 w_291 w_292 pn_F_product (Nat.lt_of_lt_of_le (by decide) hn) rfl rfl (by decide) (Nat.le_of_ble_eq_true rfl) (Nat.le_refl _) (Nat.le_refl _) hvc (fun z6 M1 hvc => ?_)
      refine x_ixor (pc := 88) d_P_timesLinear_88 ?_
      refine x_iast (N := 120) (pc := 89) d_P_timesLinear_89 (Nat.lt_of_lt_of_le (rowN_62 (by omega)) hn) (rowS_62 (by omega)) (by decide) h3.1 h3.2 (fun M2 eM2 => ?_)
      have hvc := hvc M2 eM2
      refine x_iinc (pc := 90) d_P_timesLinear_90 rfl (by decide) ?_
      refine x_goto (tgt := 37) (pc := 93) d_P_timesLinear_93 rfl ?_
      exact x_locals (xmask [true, true, true, true, true, true, false] _) (xmask_sub _ _) (hvc Q hQ)
    · have hvc := hvc.2 hb
      refine x_iconst (pc := 58) d_P_timesLinear_58 ?_
      refine x_goto (tgt := 68) (pc := 59) d_P_timesLinear_59 rfl ?_
      refine x_istore (pc := 68) d_P_timesLinear_68 (by decide) ?_
      refine x_aload_n (pc := 70) d_P_timesLinear_70 rfl rfl ?_
      refine x_iload (pc := 71) d_P_timesLinear_71 rfl ?_
      refine x_iload (pc := 73) d_P_timesLinear_73 rfl ?_
      refine x_aload_n (pc := 75) d_P_timesLinear_75 rfl rfl ?_
      refine x_getR (k := 56) (ci := 6) (pc := 76) (t := 1) 0 d_P_timesLinear_76 cok6 rfl (Nat.lt_of_lt_of_le (by decide) hn) rfl (by decide) rfl (hR.at 56 0 rfl rfl) w_227 ?_
      refine x_iload (pc := 79) d_P_timesLinear_79 rfl ?_
      refine x_aload_n (pc := 81) d_P_timesLinear_81 rfl rfl ?_
      refine x_iload (pc := 82) d_P_timesLinear_82 rfl ?_
      refine x_iald (N := 120) (pc := 84) d_P_timesLinear_84 (Nat.lt_of_lt_of_le (rowN_62 (by omega)) hn) (rowS_62 (by omega)) (by decide) h3.1 h3.2 ?_
      refine y_callVi m_F_product 0 111 1 1 5 [_, _] [_, _, _] rfl (pc := 85) d_P_timesLinear_85 ok_F_product w_546 w_291 w_292 pn_F_product (Nat.lt_of_lt_of_le (by decide) hn) rfl rfl (by decide) (Nat.le_of_ble_eq_true rfl) (Nat.le_refl _) (Nat.le_refl _) hvc (fun z7 M3 hvc => ?_)
      refine x_ixor (pc := 88) d_P_timesLinear_88 ?_
      refine x_iast (N := 120) (pc := 89) d_P_timesLinear_89 (Nat.lt_of_lt_of_le (rowN_62 (by omega)) hn) (rowS_62 (by omega)) (by decide) h3.1 h3.2 (fun M4 eM4 => ?_)
      have hvc := hvc M4 eM4
      refine x_iinc (pc := 90) d_P_timesLinear_90 rfl (by decide) ?_
      refine x_goto (tgt := 37) (pc := 93) d_P_timesLinear_93 rfl ?_
      exact x_locals (xmask [true, true, true, true, true, true, false] _) (xmask_sub _ _) (hvc Q hQ)
set_option maxRecDepth 20000 in
theorem E_P_timesLinear {n : Nat} {R : xR} {M : xM} {P : xM → Prop} (hn : 78 ≤ n) (hR : RC 78 R) {l2 l1 : Int} (hl1 : 0 ≤ l1 ∧ l1 < 16) (h : Xv m_P_timesLinear 1 n R P 0 [some (vr 56), some (vr (62 + l1.toNat)), some (vi l2), none, none, none, none] [] M) : Cv m_P_timesLinear 1 n R [vr 56, vr (62 + l1.toNat), vi l2] M P :=
  Cv.of [some (vr 56), some (vr (62 + l1.toNat)), some (vi l2), none, none, none, none] (by decide) rfl (Nat.le_of_ble_eq_true rfl) rfl h
