set_option maxRecDepth 20000 in
theorem B_W_begin_0 {n : Nat} {R : xR} {M : xM} {P : xM → Prop} (hn : 78 ≤ n) (hR : RC 78 R) {l1 : Int} (hvc : Xv m_W_begin 0 n R P 2 [some (vr 26), some (vi l1), some (vi 0)] [] M) : Xv m_W_begin 0 n R P 0 [some (vr 26), some (vi l1), none] [] M := by
  intro Q hQ
  refine x_iconst (pc := 0) d_W_begin_0 ?_
  refine x_istore_n (pc := 1) d_W_begin_1 rfl (by decide) ?_
  exact x_locals (xmask [true, true, true] _) (xmask_sub _ _) (hvc Q hQ)
set_option maxRecDepth 20000 in
theorem B_W_begin_2 {n : Nat} {R : xR} {M : xM} {P : xM → Prop} (hn : 78 ≤ n) (hR : RC 78 R) {l1 l2 : Int} (hvc : (-2147483648 ≤ l2 ∧ l2 < 2147483648) ∧ ((20 ≤ l2 → (∀ M1 : xM, M1 = xU M 26 0 l1 → P M1)) ∧ (¬ 20 ≤ l2 → (0 ≤ l2 ∧ l2 < 20) ∧ (∀ M2 : xM, M2 = xU M 27 l2.toNat 0 → (∀ M3 : xM, M3 = xU M2 28 l2.toNat 0 → Xv m_W_begin 0 n R P 2 [some (vr 26), some (vi l1), some (vi (l2 + 1))] [] M3))))) : Xv m_W_begin 0 n R P 2 [some (vr 26), some (vi l1), some (vi l2)] [] M := by
  intro Q hQ
  refine x_iload_n (pc := 2) d_W_begin_2 rfl rfl ?_
  refine x_bipush (pc := 3) d_W_begin_3 (by decide) ?_
  obtain ⟨h1, hvc⟩ := hvc
  refine x_icmp_ge (tgt := 28) (pc := 5) d_W_begin_5 rfl h1 ⟨by decide, by decide⟩ (fun hb => ?_) (fun hb => ?_)
  · have hvc := hvc.1 hb
    refine x_aload_n (pc := 28) d_W_begin_28 rfl rfl ?_
    refine x_iload_n (pc := 29) d_W_begin_29 rfl rfl ?_
    refine x_putI (k := 26) (ci := 3) (pc := 30) 0 d_W_begin_30 cok3 rfl (Nat.lt_of_lt_of_le (by decide) hn) rfl (by decide) rfl rfl rfl w_152 (fun M1 eM1 => ?_)
    have hvc := hvc M1 eM1
    exact x_vret (pc := 33) d_W_begin_33 rfl rfl (Nat.le_refl _) (hQ _ hvc)
  · have hvc := hvc.2 hb
    refine x_aload_n (pc := 8) d_W_begin_8 rfl rfl ?_
    refine x_getR (k := 26) (ci := 3) (pc := 9) (t := 27) 1 d_W_begin_9 cok3 rfl (Nat.lt_of_lt_of_le (by decide) hn) rfl (by decide) rfl (hR.at 26 1 rfl rfl) w_155 ?_
    refine x_iload_n (pc := 12) d_W_begin_12 rfl rfl ?_
    refine x_iconst (pc := 13) d_W_begin_13 ?_
    obtain ⟨h2, hvc⟩ := hvc
    refine x_iast (N := 20) (pc := 14) d_W_begin_14 (Nat.lt_of_lt_of_le (by decide) hn) rfl (by decide) h2.1 h2.2 (fun M2 eM2 => ?_)
    have hvc := hvc M2 eM2
    refine x_aload_n (pc := 15) d_W_begin_15 rfl rfl ?_
    refine x_getR (k := 26) (ci := 3) (pc := 16) (t := 28) 2 d_W_begin_16 cok3 rfl (Nat.lt_of_lt_of_le (by decide) hn) rfl (by decide) rfl (hR.at 26 2 rfl rfl) w_159 ?_
    refine x_iload_n (pc := 19) d_W_begin_19 rfl rfl ?_
    refine x_iconst (pc := 20) d_W_begin_20 ?_
    refine x_zast (N := 20) (pc := 21) d_W_begin_21 (Nat.lt_of_lt_of_le (by decide) hn) rfl (by decide) h2.1 h2.2 (by decide) (fun M3 eM3 => ?_)
    have hvc := hvc M3 eM3
    refine x_iinc (pc := 22) d_W_begin_22 rfl (by decide) ?_
    refine x_goto (tgt := 2) (pc := 25) d_W_begin_25 rfl ?_
    exact x_locals (xmask [true, true, true] _) (xmask_sub _ _) (hvc Q hQ)
set_option maxRecDepth 20000 in
theorem E_W_begin {n : Nat} {R : xR} {M : xM} {P : xM → Prop} (hn : 78 ≤ n) (hR : RC 78 R) {l1 : Int} (h : Xv m_W_begin 0 n R P 0 [some (vr 26), some (vi l1), none] [] M) : Cv m_W_begin 0 n R [vr 26, vi l1] M P :=
  Cv.of [some (vr 26), some (vi l1), none] (by decide) rfl (Nat.le_of_ble_eq_true rfl) rfl h
set_option maxRecDepth 20000 in
theorem B_W_put_0 {n : Nat} {R : xR} {M : xM} {P : xM → Prop} (hn : 78 ≤ n) (hR : RC 78 R) {l1 l2 : Int} (hvc : (0 ≤ l1 ∧ l1 < 20) ∧ (-2147483648 ≤ M 28 l1.toNat ∧ M 28 l1.toNat < 2147483648) ∧ (((M 28 l1.toNat) = 0 → (∀ M1 : xM, M1 = xU M 27 l1.toNat l2 → P M1)) ∧ (¬ (M 28 l1.toNat) = 0 → (∀ M2 : xM, M2 = xU M 28 l1.toNat 0 → (∀ M3 : xM, M3 = xU M2 26 0 ((M2 26 0) + 1) → (∀ M4 : xM, M4 = xU M3 27 l1.toNat l2 → P M4)))))) : Xv m_W_put 0 n R P 0 [some (vr 26), some (vi l1), some (vi l2)] [] M := by
  intro Q hQ
  refine x_aload_n (pc := 0) d_W_put_0 rfl rfl ?_
  refine x_getR (k := 26) (ci := 3) (pc := 1) (t := 28) 2 d_W_put_1 cok3 rfl (Nat.lt_of_lt_of_le (by decide) hn) rfl (by decide) rfl (hR.at 26 2 rfl rfl) w_159 ?_
  refine x_iload_n (pc := 4) d_W_put_4 rfl rfl ?_
  obtain ⟨h1, hvc⟩ := hvc
  refine x_zald (N := 20) (pc := 5) d_W_put_5 (Nat.lt_of_lt_of_le (by decide) hn) rfl (by decide) h1.1 h1.2 ?_
  obtain ⟨h2, hvc⟩ := hvc
  refine x_if_eq (tgt := 26) (pc := 6) d_W_put_6 rfl h2 (fun hb => ?_) (fun hb => ?_)
  · have hvc := hvc.1 hb
    refine x_aload_n (pc := 26) d_W_put_26 rfl rfl ?_
    refine x_getR (k := 26) (ci := 3) (pc := 27) (t := 27) 1 d_W_put_27 cok3 rfl (Nat.lt_of_lt_of_le (by decide) hn) rfl (by decide) rfl (hR.at 26 1 rfl rfl) w_155 ?_
    refine x_iload_n (pc := 30) d_W_put_30 rfl rfl ?_
    refine x_iload_n (pc := 31) d_W_put_31 rfl rfl ?_
    refine x_iast (N := 20) (pc := 32) d_W_put_32 (Nat.lt_of_lt_of_le (by decide) hn) rfl (by decide) h1.1 h1.2 (fun M1 eM1 => ?_)
    have hvc := hvc M1 eM1
    exact x_vret (pc := 33) d_W_put_33 rfl rfl (Nat.le_refl _) (hQ _ hvc)
  · have hvc := hvc.2 hb
    refine x_aload_n (pc := 9) d_W_put_9 rfl rfl ?_
    refine x_getR (k := 26) (ci := 3) (pc := 10) (t := 28) 2 d_W_put_10 cok3 rfl (Nat.lt_of_lt_of_le (by decide) hn) rfl (by decide) rfl (hR.at 26 2 rfl rfl) w_159 ?_
    refine x_iload_n (pc := 13) d_W_put_13 rfl rfl ?_
    refine x_iconst (pc := 14) d_W_put_14 ?_
    refine x_zast (N := 20) (pc := 15) d_W_put_15 (Nat.lt_of_lt_of_le (by decide) hn) rfl (by decide) h1.1 h1.2 (by decide) (fun M2 eM2 => ?_)
    have hvc := hvc M2 eM2
    refine x_aload_n (pc := 16) d_W_put_16 rfl rfl ?_
    refine x_dup (pc := 17) d_W_put_17 ?_
    refine x_getI (k := 26) (ci := 3) (pc := 18) 0 d_W_put_18 cok3 rfl (Nat.lt_of_lt_of_le (by decide) hn) rfl (by decide) rfl w_152 ?_
    refine x_iconst (pc := 21) d_W_put_21 ?_
    refine x_iadd (pc := 22) d_W_put_22 ?_
    refine x_putI (k := 26) (ci := 3) (pc := 23) 0 d_W_put_23 cok3 rfl (Nat.lt_of_lt_of_le (by decide) hn) rfl (by decide) rfl rfl rfl w_152 (fun M3 eM3 => ?_)
    have hvc := hvc M3 eM3
    refine x_aload_n (pc := 26) d_W_put_26 rfl rfl ?_
    refine x_getR (k := 26) (ci := 3) (pc := 27) (t := 27) 1 d_W_put_27 cok3 rfl (Nat.lt_of_lt_of_le (by decide) hn) rfl (by decide) rfl (hR.at 26 1 rfl rfl) w_155 ?_
    refine x_iload_n (pc := 30) d_W_put_30 rfl rfl ?_
    refine x_iload_n (pc := 31) d_W_put_31 rfl rfl ?_
    refine x_iast (N := 20) (pc := 32) d_W_put_32 (Nat.lt_of_lt_of_le (by decide) hn) rfl (by decide) h1.1 h1.2 (fun M4 eM4 => ?_)
    have hvc := hvc M4 eM4
    exact x_vret (pc := 33) d_W_put_33 rfl rfl (Nat.le_refl _) (hQ _ hvc)
set_option maxRecDepth 20000 in
theorem E_W_put {n : Nat} {R : xR} {M : xM} {P : xM → Prop} (hn : 78 ≤ n) (hR : RC 78 R) {l1 l2 : Int} (h : Xv m_W_put 0 n R P 0 [some (vr 26), some (vi l1), some (vi l2)] [] M) : Cv m_W_put 0 n R [vr 26, vi l1, vi l2] M P :=
  Cv.of [some (vr 26), some (vi l1), some (vi l2)] (by decide) rfl (Nat.le_of_ble_eq_true rfl) rfl h
set_option maxRecDepth 20000 in
theorem B_W_strike_0 {n : Nat} {R : xR} {M : xM} {P : xM → Prop} (hn : 78 ≤ n) (hR : RC 78 R) {l1 : Int} (hvc : (0 ≤ l1 ∧ l1 < 20) ∧ (∀ M1 : xM, M1 = xU M 28 l1.toNat 1 → (∀ M2 : xM, M2 = xU M1 26 0 ((M1 26 0) - 1) → P M2))) : Xv m_W_strike 0 n R P 0 [some (vr 26), some (vi l1)] [] M := by
  intro Q hQ
  refine x_aload_n (pc := 0) d_W_strike_0 rfl rfl ?_
  refine x_getR (k := 26) (ci := 3) (pc := 1) (t := 28) 2 d_W_strike_1 cok3 rfl (Nat.lt_of_lt_of_le (by decide) hn) rfl (by decide) rfl (hR.at 26 2 rfl rfl) w_159 ?_
  refine x_iload_n (pc := 4) d_W_strike_4 rfl rfl ?_
  refine x_iconst (pc := 5) d_W_strike_5 ?_
  obtain ⟨h1, hvc⟩ := hvc
  refine x_zast (N := 20) (pc := 6) d_W_strike_6 (Nat.lt_of_lt_of_le (by decide) hn) rfl (by decide) h1.1 h1.2 (by decide) (fun M1 eM1 => ?_)
  have hvc := hvc M1 eM1
  refine x_aload_n (pc := 7) d_W_strike_7 rfl rfl ?_
  refine x_dup (pc := 8) d_W_strike_8 ?_
  refine x_getI (k := 26) (ci := 3) (pc := 9) 0 d_W_strike_9 cok3 rfl (Nat.lt_of_lt_of_le (by decide) hn) rfl (by decide) rfl w_152 ?_
  refine x_iconst (pc := 12) d_W_strike_12 ?_
  refine x_isub (pc := 13) d_W_strike_13 ?_
  refine x_putI (k := 26) (ci := 3) (pc := 14) 0 d_W_strike_14 cok3 rfl (Nat.lt_of_lt_of_le (by decide) hn) rfl (by decide) rfl rfl rfl w_152 (fun M2 eM2 => ?_)
  have hvc := hvc M2 eM2
  exact x_vret (pc := 17) d_W_strike_17 rfl rfl (Nat.le_refl _) (hQ _ hvc)
set_option maxRecDepth 20000 in
theorem E_W_strike {n : Nat} {R : xR} {M : xM} {P : xM → Prop} (hn : 78 ≤ n) (hR : RC 78 R) {l1 : Int} (h : Xv m_W_strike 0 n R P 0 [some (vr 26), some (vi l1)] [] M) : Cv m_W_strike 0 n R [vr 26, vi l1] M P :=
  Cv.of [some (vr 26), some (vi l1)] (by decide) rfl (Nat.le_of_ble_eq_true rfl) rfl h
set_option maxRecDepth 20000 in
theorem B_N_has_1_0 {n : Nat} {R : xR} {M : xM} {P : Int → xM → Prop} (hn : 78 ≤ n) (hR : RC 78 R) {l1 : Int} (hvc : (-2147483648 ≤ l1 ∧ l1 < 2147483648) ∧ ((l1 < 0 → P 0 M) ∧ (¬ l1 < 0 → (-2147483648 ≤ M 32 1 ∧ M 32 1 < 2147483648) ∧ (((M 32 1) ≤ l1 → P 0 M) ∧ (¬ (M 32 1) ≤ l1 → P 1 M))))) : Xi m_N_has 0 n R P 0 [some (vr 32), some (vi l1)] [] M := by
  intro Q hQ
  refine x_iload_n (pc := 0) d_N_has_0 rfl rfl ?_
  obtain ⟨h1, hvc⟩ := hvc
  refine x_if_lt (tgt := 16) (pc := 1) d_N_has_1 rfl h1 (fun hb => ?_) (fun hb => ?_)
  · have hvc := hvc.1 hb
    refine x_iconst (pc := 16) d_N_has_16 ?_
    exact x_zret (pc := 17) d_N_has_17 rfl (by decide) rfl (Nat.le_refl _) (hQ _ _ hvc)
  · have hvc := hvc.2 hb
    refine x_iload_n (pc := 4) d_N_has_4 rfl rfl ?_
    refine x_aload_n (pc := 5) d_N_has_5 rfl rfl ?_
    refine x_getI (k := 32) (ci := 5) (pc := 6) 1 d_N_has_6 cok5 rfl (Nat.lt_of_lt_of_le (by decide) hn) rfl (by decide) rfl w_205 ?_
    obtain ⟨h2, hvc⟩ := hvc
    refine x_icmp_ge (tgt := 16) (pc := 9) d_N_has_9 rfl h1 h2 (fun hb => ?_) (fun hb => ?_)
    · have hvc := hvc.1 hb
      refine x_iconst (pc := 16) d_N_has_16 ?_
      exact x_zret (pc := 17) d_N_has_17 rfl (by decide) rfl (Nat.le_refl _) (hQ _ _ hvc)
    · have hvc := hvc.2 hb
      refine x_iconst (pc := 12) d_N_has_12 ?_
      refine x_goto (tgt := 17) (pc := 13) d_N_has_13 rfl ?_
      exact x_zret (pc := 17) d_N_has_17 rfl (by decide) rfl (Nat.le_refl _) (hQ _ _ hvc)
set_option maxRecDepth 20000 in
theorem E_N_has_1 {n : Nat} {R : xR} {M : xM} {P : Int → xM → Prop} (hn : 78 ≤ n) (hR : RC 78 R) {l1 : Int} (h : Xi m_N_has 0 n R P 0 [some (vr 32), some (vi l1)] [] M) : Ci m_N_has 0 n R [vr 32, vi l1] M P :=
  Ci.of [some (vr 32), some (vi l1)] (by decide) rfl (Nat.le_of_ble_eq_true rfl) rfl h
set_option maxRecDepth 20000 in
theorem B_N_add_1_0 {n : Nat} {R : xR} {M : xM} {P : xM → Prop} (hn : 78 ≤ n) (hR : RC 78 R) {l2 : Int} (hvc : (-2147483648 ≤ M 32 1 ∧ M 32 1 < 2147483648) ∧ ((1 ≤ (M 32 1) → P M) ∧ (¬ 1 ≤ (M 32 1) → Xv m_N_add 2 n R P 14 [some (vr 32), some (vr 30), some (vi l2), some (vi 0)] [] M))) : Xv m_N_add 2 n R P 0 [some (vr 32), some (vr 30), some (vi l2), none] [] M := by
  intro Q hQ
  refine x_aload_n (pc := 0) d_N_add_0 rfl rfl ?_
  refine x_getI (k := 32) (ci := 5) (pc := 1) 1 d_N_add_1 cok5 rfl (Nat.lt_of_lt_of_le (by decide) hn) rfl (by decide) rfl w_205 ?_
  refine x_aload_n (pc := 4) d_N_add_4 rfl rfl ?_
  refine x_getR (k := 32) (ci := 5) (pc := 5) (t := 35) 3 d_N_add_5 cok5 rfl (Nat.lt_of_lt_of_le (by decide) hn) rfl (by decide) rfl (hR.at 32 3 rfl rfl) w_209 ?_
  refine x_alen (N := 1) (pc := 8) d_N_add_8 (Nat.lt_of_lt_of_le (by decide) hn) rfl (by decide) ?_
  obtain ⟨h1, hvc⟩ := hvc
  refine x_icmp_ge (tgt := 78) (pc := 9) d_N_add_9 rfl h1 ⟨by decide, by decide⟩ (fun hb => ?_) (fun hb => ?_)
  · have hvc := hvc.1 hb
    exact x_vret (pc := 78) d_N_add_78 rfl rfl (Nat.le_refl _) (hQ _ hvc)
  · have hvc := hvc.2 hb
    refine x_iconst (pc := 12) d_N_add_12 ?_
    refine x_istore_n (pc := 13) d_N_add_13 rfl (by decide) ?_
    exact x_locals (xmask [true, true, true, true] _) (xmask_sub _ _) (hvc Q hQ)
set_option maxRecDepth 20000 in
theorem B_N_add_1_14 {n : Nat} {R : xR} {M : xM} {P : xM → Prop} (hn : 78 ≤ n) (hR : RC 78 R) {l2 l3 : Int} (hvc : (-2147483648 ≤ l3 ∧ l3 < 2147483648) ∧ (-2147483648 ≤ M 5 2 ∧ M 5 2 < 2147483648) ∧ (((M 5 2) ≤ l3 → (0 ≤ M 32 1 ∧ M 32 1 < 1) ∧ (∀ M1 : xM, M1 = xU M 35 (M 32 1).toNat l2 → (∀ M2 : xM, M2 = xU M1 32 1 ((M1 32 1) + 1) → P M2))) ∧ (¬ (M 5 2) ≤ l3 → (0 ≤ M 32 1 ∧ M 32 1 < 1) ∧ Ci m_C_mixed 1 n R [vr 5, vr 15, vr 30, vi l3] M (fun z5 M3 => (0 ≤ l3 ∧ l3 < 20) ∧ (∀ M4 : xM, M4 = xU M3 (34 + (M 32 1).toNat) l3.toNat z5 → Xv m_N_add 2 n R P 14 [some (vr 32), some (vr 30), some (vi l2), some (vi (l3 + 1))] [] M4))))) : Xv m_N_add 2 n R P 14 [some (vr 32), some (vr 30), some (vi l2), some (vi l3)] [] M := by
  intro Q hQ
  refine x_iload_n (pc := 14) d_N_add_14 rfl rfl ?_
  refine x_aload_n (pc := 15) d_N_add_15 rfl rfl ?_
  refine x_getR (k := 32) (ci := 5) (pc := 16) (t := 5) 0 d_N_add_16 cok5 rfl (Nat.lt_of_lt_of_le (by decide) hn) rfl (by decide) rfl (hR.at 32 0 rfl rfl) w_203 ?_
  refine x_getIN (k := 5) (ci := 2) (pc := 19) 2 d_N_add_19 cok2 rfl (Nat.lt_of_lt_of_le (by decide) hn) rfl (by decide) rfl w_101 ?_
  obtain ⟨h1, hvc⟩ := hvc
  obtain ⟨h2, hvc⟩ := hvc
  refine x_icmp_ge (tgt := 58) (pc := 22) d_N_add_22 rfl h1 h2 (fun hb => ?_) (fun hb => ?_)
  · have hvc := hvc.1 hb
    refine x_aload_n (pc := 58) d_N_add_58 rfl rfl ?_
    refine x_getR (k := 32) (ci := 5) (pc := 59) (t := 35) 3 d_N_add_59 cok5 rfl (Nat.lt_of_lt_of_le (by decide) hn) rfl (by decide) rfl (hR.at 32 3 rfl rfl) w_209 ?_
    refine x_aload_n (pc := 62) d_N_add_62 rfl rfl ?_
    refine x_getI (k := 32) (ci := 5) (pc := 63) 1 d_N_add_63 cok5 rfl (Nat.lt_of_lt_of_le (by decide) hn) rfl (by decide) rfl w_205 ?_
    refine x_iload_n (pc := 66) d_N_add_66 rfl rfl ?_
    obtain ⟨h3, hvc⟩ := hvc
    refine x_iast (N := 1) (pc := 67) d_N_add_67 (Nat.lt_of_lt_of_le (by decide) hn) rfl (by decide) h3.1 h3.2 (fun M1 eM1 => ?_)
    have hvc := hvc M1 eM1
    refine x_aload_n (pc := 68) d_N_add_68 rfl rfl ?_
    refine x_dup (pc := 69) d_N_add_69 ?_
    refine x_getI (k := 32) (ci := 5) (pc := 70) 1 d_N_add_70 cok5 rfl (Nat.lt_of_lt_of_le (by decide) hn) rfl (by decide) rfl w_205 ?_
    refine x_iconst (pc := 73) d_N_add_73 ?_
    refine x_iadd (pc := 74) d_N_add_74 ?_
    refine x_putI (k := 32) (ci := 5) (pc := 75) 1 d_N_add_75 cok5 rfl (Nat.lt_of_lt_of_le (by decide) hn) rfl (by decide) rfl rfl rfl w_205 (fun M2 eM2 => ?_)
    have hvc := hvc M2 eM2
    exact x_vret (pc := 78) d_N_add_78 rfl rfl (Nat.le_refl _) (hQ _ hvc)
  · have hvc := hvc.2 hb
    refine x_aload_n (pc := 25) d_N_add_25 rfl rfl ?_
    refine x_getR (k := 32) (ci := 5) (pc := 26) (t := 33) 2 d_N_add_26 cok5 rfl (Nat.lt_of_lt_of_le (by decide) hn) rfl (by decide) rfl (hR.at 32 2 rfl rfl) w_207 ?_
    refine x_aload_n (pc := 29) d_N_add_29 rfl rfl ?_
    refine x_getI (k := 32) (ci := 5) (pc := 30) 1 d_N_add_30 cok5 rfl (Nat.lt_of_lt_of_le (by decide) hn) rfl (by decide) rfl w_205 ?_
    obtain ⟨h4, hvc⟩ := hvc
    refine x_aald (k := 33) (N := 1) (pc := 33) d_N_add_33 (Nat.lt_of_lt_of_le (by decide) hn) rfl (by decide) h4.1 h4.2 (hR.row 33 34 1 rfl rfl h4.1 h4.2) ?_
    refine x_iload_n (pc := 34) d_N_add_34 rfl rfl ?_
    refine x_aload_n (pc := 35) d_N_add_35 rfl rfl ?_
    refine x_getR (k := 32) (ci := 5) (pc := 36) (t := 5) 0 d_N_add_36 cok5 rfl (Nat.lt_of_lt_of_le (by decide) hn) rfl (by decide) rfl (hR.at 32 0 rfl rfl) w_203 ?_
    refine x_aload_n (pc := 39) d_N_add_39 rfl rfl ?_
    refine x_getR (k := 32) (ci := 5) (pc := 40) (t := 5) 0 d_N_add_40 cok5 rfl (Nat.lt_of_lt_of_le (by decide) hn) rfl (by decide) rfl (hR.at 32 0 rfl rfl) w_203 ?_
    refine x_getRN (k := 5) (ci := 2) (pc := 43) (t := 15) 9 d_N_add_43 cok2 rfl (Nat.lt_of_lt_of_le (by decide) hn) rfl (by decide) rfl (hR.at 5 9 rfl rfl) w_119 ?_
    refine x_aload_n (pc := 46) d_N_add_46 rfl rfl ?_
    refine x_iload_n (pc := 47) d_N_add_47 rfl rfl ?_
    refine y_callVi m_C_mixed 1 36 5 2 11 [_, _, _] [_, _] rfl (pc := 48) d_N_add_48 ok_C_mixed w_458 w_396 w_397 pn_C_mixed (Nat.lt_of_lt_of_le (by decide) hn) rfl rfl (by decide) (Nat.le_of_ble_eq_true rfl) (Nat.le_refl _) (Nat.le_refl _) hvc (fun z5 M3 hvc => ?_)
    obtain ⟨h6, hvc⟩ := hvc
    refine x_iast (N := 20) (pc := 51) d_N_add_51 (Nat.lt_of_lt_of_le (rowN_34 (by omega)) hn) (rowS_34 (by omega)) (by decide) h6.1 h6.2 (fun M4 eM4 => ?_)
    have hvc := hvc M4 eM4
    refine x_iinc (pc := 52) d_N_add_52 rfl (by decide) ?_
    refine x_goto (tgt := 14) (pc := 55) d_N_add_55 rfl ?_
    exact x_locals (xmask [true, true, true, true] _) (xmask_sub _ _) (hvc Q hQ)
set_option maxRecDepth 20000 in
theorem E_N_add_1 {n : Nat} {R : xR} {M : xM} {P : xM → Prop} (hn : 78 ≤ n) (hR : RC 78 R) {l2 : Int} (h : Xv m_N_add 2 n R P 0 [some (vr 32), some (vr 30), some (vi l2), none] [] M) : Cv m_N_add 2 n R [vr 32, vr 30, vi l2] M P :=
  Cv.of [some (vr 32), some (vr 30), some (vi l2), none] (by decide) rfl (Nat.le_of_ble_eq_true rfl) rfl h
set_option maxRecDepth 20000 in
theorem B_N_has_2_0 {n : Nat} {R : xR} {M : xM} {P : Int → xM → Prop} (hn : 78 ≤ n) (hR : RC 78 R) {l1 : Int} (hvc : (-2147483648 ≤ l1 ∧ l1 < 2147483648) ∧ ((l1 < 0 → P 0 M) ∧ (¬ l1 < 0 → (-2147483648 ≤ M 36 1 ∧ M 36 1 < 2147483648) ∧ (((M 36 1) ≤ l1 → P 0 M) ∧ (¬ (M 36 1) ≤ l1 → P 1 M))))) : Xi m_N_has 0 n R P 0 [some (vr 36), some (vi l1)] [] M := by
  intro Q hQ
  refine x_iload_n (pc := 0) d_N_has_0 rfl rfl ?_
  obtain ⟨h1, hvc⟩ := hvc
  refine x_if_lt (tgt := 16) (pc := 1) d_N_has_1 rfl h1 (fun hb => ?_) (fun hb => ?_)
  · have hvc := hvc.1 hb
    refine x_iconst (pc := 16) d_N_has_16 ?_
    exact x_zret (pc := 17) d_N_has_17 rfl (by decide) rfl (Nat.le_refl _) (hQ _ _ hvc)
  · have hvc := hvc.2 hb
    refine x_iload_n (pc := 4) d_N_has_4 rfl rfl ?_
    refine x_aload_n (pc := 5) d_N_has_5 rfl rfl ?_
    refine x_getI (k := 36) (ci := 5) (pc := 6) 1 d_N_has_6 cok5 rfl (Nat.lt_of_lt_of_le (by decide) hn) rfl (by decide) rfl w_205 ?_
    obtain ⟨h2, hvc⟩ := hvc
    refine x_icmp_ge (tgt := 16) (pc := 9) d_N_has_9 rfl h1 h2 (fun hb => ?_) (fun hb => ?_)
    · have hvc := hvc.1 hb
      refine x_iconst (pc := 16) d_N_has_16 ?_
      exact x_zret (pc := 17) d_N_has_17 rfl (by decide) rfl (Nat.le_refl _) (hQ _ _ hvc)
    · have hvc := hvc.2 hb
      refine x_iconst (pc := 12) d_N_has_12 ?_
      refine x_goto (tgt := 17) (pc := 13) d_N_has_13 rfl ?_
      exact x_zret (pc := 17) d_N_has_17 rfl (by decide) rfl (Nat.le_refl _) (hQ _ _ hvc)
set_option maxRecDepth 20000 in
theorem E_N_has_2 {n : Nat} {R : xR} {M : xM} {P : Int → xM → Prop} (hn : 78 ≤ n) (hR : RC 78 R) {l1 : Int} (h : Xi m_N_has 0 n R P 0 [some (vr 36), some (vi l1)] [] M) : Ci m_N_has 0 n R [vr 36, vi l1] M P :=
  Ci.of [some (vr 36), some (vi l1)] (by decide) rfl (Nat.le_of_ble_eq_true rfl) rfl h
set_option maxRecDepth 20000 in
theorem B_N_add_2_0 {n : Nat} {R : xR} {M : xM} {P : xM → Prop} (hn : 78 ≤ n) (hR : RC 78 R) {l2 : Int} (hvc : (-2147483648 ≤ M 36 1 ∧ M 36 1 < 2147483648) ∧ ((16 ≤ (M 36 1) → P M) ∧ (¬ 16 ≤ (M 36 1) → Xv m_N_add 2 n R P 14 [some (vr 36), some (vr 30), some (vi l2), some (vi 0)] [] M))) : Xv m_N_add 2 n R P 0 [some (vr 36), some (vr 30), some (vi l2), none] [] M := by
  intro Q hQ
  refine x_aload_n (pc := 0) d_N_add_0 rfl rfl ?_
  refine x_getI (k := 36) (ci := 5) (pc := 1) 1 d_N_add_1 cok5 rfl (Nat.lt_of_lt_of_le (by decide) hn) rfl (by decide) rfl w_205 ?_
  refine x_aload_n (pc := 4) d_N_add_4 rfl rfl ?_
  refine x_getR (k := 36) (ci := 5) (pc := 5) (t := 54) 3 d_N_add_5 cok5 rfl (Nat.lt_of_lt_of_le (by decide) hn) rfl (by decide) rfl (hR.at 36 3 rfl rfl) w_209 ?_
  refine x_alen (N := 16) (pc := 8) d_N_add_8 (Nat.lt_of_lt_of_le (by decide) hn) rfl (by decide) ?_
  obtain ⟨h1, hvc⟩ := hvc
  refine x_icmp_ge (tgt := 78) (pc := 9) d_N_add_9 rfl h1 ⟨by decide, by decide⟩ (fun hb => ?_) (fun hb => ?_)
  · have hvc := hvc.1 hb
    exact x_vret (pc := 78) d_N_add_78 rfl rfl (Nat.le_refl _) (hQ _ hvc)
  · have hvc := hvc.2 hb
    refine x_iconst (pc := 12) d_N_add_12 ?_
    refine x_istore_n (pc := 13) d_N_add_13 rfl (by decide) ?_
    exact x_locals (xmask [true, true, true, true] _) (xmask_sub _ _) (hvc Q hQ)
set_option maxRecDepth 20000 in
theorem B_N_add_2_14 {n : Nat} {R : xR} {M : xM} {P : xM → Prop} (hn : 78 ≤ n) (hR : RC 78 R) {l2 l3 : Int} (hvc : (-2147483648 ≤ l3 ∧ l3 < 2147483648) ∧ (-2147483648 ≤ M 5 2 ∧ M 5 2 < 2147483648) ∧ (((M 5 2) ≤ l3 → (0 ≤ M 36 1 ∧ M 36 1 < 16) ∧ (∀ M1 : xM, M1 = xU M 54 (M 36 1).toNat l2 → (∀ M2 : xM, M2 = xU M1 36 1 ((M1 36 1) + 1) → P M2))) ∧ (¬ (M 5 2) ≤ l3 → (0 ≤ M 36 1 ∧ M 36 1 < 16) ∧ Ci m_C_mixed 1 n R [vr 5, vr 15, vr 30, vi l3] M (fun z5 M3 => (0 ≤ l3 ∧ l3 < 20) ∧ (∀ M4 : xM, M4 = xU M3 (38 + (M 36 1).toNat) l3.toNat z5 → Xv m_N_add 2 n R P 14 [some (vr 36), some (vr 30), some (vi l2), some (vi (l3 + 1))] [] M4))))) : Xv m_N_add 2 n R P 14 [some (vr 36), some (vr 30), some (vi l2), some (vi l3)] [] M := by
  intro Q hQ
  refine x_iload_n (pc := 14) d_N_add_14 rfl rfl ?_
  refine x_aload_n (pc := 15) d_N_add_15 rfl rfl ?_
  refine x_getR (k := 36) (ci := 5) (pc := 16) (t := 5) 0 d_N_add_16 cok5 rfl (Nat.lt_of_lt_of_le (by decide) hn) rfl (by decide) rfl (hR.at 36 0 rfl rfl) w_203 ?_
  refine x_getIN (k := 5) (ci := 2) (pc := 19) 2 d_N_add_19 cok2 rfl (Nat.lt_of_lt_of_le (by decide) hn) rfl (by decide) rfl w_101 ?_
  obtain ⟨h1, hvc⟩ := hvc
  obtain ⟨h2, hvc⟩ := hvc
  refine x_icmp_ge (tgt := 58) (pc := 22) d_N_add_22 rfl h1 h2 (fun hb => ?_) (fun hb => ?_)
  · have hvc := hvc.1 hb
    refine x_aload_n (pc := 58) d_N_add_58 rfl rfl ?_
    refine x_getR (k := 36) (ci := 5) (pc := 59) (t := 54) 3 d_N_add_59 cok5 rfl (Nat.lt_of_lt_of_le (by decide) hn) rfl (by decide) rfl (hR.at 36 3 rfl rfl) w_209 ?_
    refine x_aload_n (pc := 62) d_N_add_62 rfl rfl ?_
    refine x_getI (k := 36) (ci := 5) (pc := 63) 1 d_N_add_63 cok5 rfl (Nat.lt_of_lt_of_le (by decide) hn) rfl (by decide) rfl w_205 ?_
    refine x_iload_n (pc := 66) d_N_add_66 rfl rfl ?_
    obtain ⟨h3, hvc⟩ := hvc
    refine x_iast (N := 16) (pc := 67) d_N_add_67 (Nat.lt_of_lt_of_le (by decide) hn) rfl (by decide) h3.1 h3.2 (fun M1 eM1 => ?_)
    have hvc := hvc M1 eM1
    refine x_aload_n (pc := 68) d_N_add_68 rfl rfl ?_
    refine x_dup (pc := 69) d_N_add_69 ?_
    refine x_getI (k := 36) (ci := 5) (pc := 70) 1 d_N_add_70 cok5 rfl (Nat.lt_of_lt_of_le (by decide) hn) rfl (by decide) rfl w_205 ?_
    refine x_iconst (pc := 73) d_N_add_73 ?_
    refine x_iadd (pc := 74) d_N_add_74 ?_
    refine x_putI (k := 36) (ci := 5) (pc := 75) 1 d_N_add_75 cok5 rfl (Nat.lt_of_lt_of_le (by decide) hn) rfl (by decide) rfl rfl rfl w_205 (fun M2 eM2 => ?_)
    have hvc := hvc M2 eM2
    exact x_vret (pc := 78) d_N_add_78 rfl rfl (Nat.le_refl _) (hQ _ hvc)
  · have hvc := hvc.2 hb
    refine x_aload_n (pc := 25) d_N_add_25 rfl rfl ?_
    refine x_getR (k := 36) (ci := 5) (pc := 26) (t := 37) 2 d_N_add_26 cok5 rfl (Nat.lt_of_lt_of_le (by decide) hn) rfl (by decide) rfl (hR.at 36 2 rfl rfl) w_207 ?_
    refine x_aload_n (pc := 29) d_N_add_29 rfl rfl ?_
    refine x_getI (k := 36) (ci := 5) (pc := 30) 1 d_N_add_30 cok5 rfl (Nat.lt_of_lt_of_le (by decide) hn) rfl (by decide) rfl w_205 ?_
    obtain ⟨h4, hvc⟩ := hvc
    refine x_aald (k := 37) (N := 16) (pc := 33) d_N_add_33 (Nat.lt_of_lt_of_le (by decide) hn) rfl (by decide) h4.1 h4.2 (hR.row 37 38 16 rfl rfl h4.1 h4.2) ?_
    refine x_iload_n (pc := 34) d_N_add_34 rfl rfl ?_
    refine x_aload_n (pc := 35) d_N_add_35 rfl rfl ?_
    refine x_getR (k := 36) (ci := 5) (pc := 36) (t := 5) 0 d_N_add_36 cok5 rfl (Nat.lt_of_lt_of_le (by decide) hn) rfl (by decide) rfl (hR.at 36 0 rfl rfl) w_203 ?_
    refine x_aload_n (pc := 39) d_N_add_39 rfl rfl ?_
    refine x_getR (k := 36) (ci := 5) (pc := 40) (t := 5) 0 d_N_add_40 cok5 rfl (Nat.lt_of_lt_of_le (by decide) hn) rfl (by decide) rfl (hR.at 36 0 rfl rfl) w_203 ?_
    refine x_getRN (k := 5) (ci := 2) (pc := 43) (t := 15) 9 d_N_add_43 cok2 rfl (Nat.lt_of_lt_of_le (by decide) hn) rfl (by decide) rfl (hR.at 5 9 rfl rfl) w_119 ?_
    refine x_aload_n (pc := 46) d_N_add_46 rfl rfl ?_
    refine x_iload_n (pc := 47) d_N_add_47 rfl rfl ?_
    refine y_callVi m_C_mixed 1 36 5 2 11 [_, _, _] [_, _] rfl (pc := 48) d_N_add_48 ok_C_mixed w_458 w_396 w_397 pn_C_mixed (Nat.lt_of_lt_of_le (by decide) hn) rfl rfl (by decide) (Nat.le_of_ble_eq_true rfl) (Nat.le_refl _) (Nat.le_refl _) hvc (fun z5 M3 hvc => ?_)
    obtain ⟨h6, hvc⟩ := hvc
    refine x_iast (N := 20) (pc := 51) d_N_add_51 (Nat.lt_of_lt_of_le (rowN_38 (by omega)) hn) (rowS_38 (by omega)) (by decide) h6.1 h6.2 (fun M4 eM4 => ?_)
    have hvc := hvc M4 eM4
    refine x_iinc (pc := 52) d_N_add_52 rfl (by decide) ?_
    refine x_goto (tgt := 14) (pc := 55) d_N_add_55 rfl ?_
    exact x_locals (xmask [true, true, true, true] _) (xmask_sub _ _) (hvc Q hQ)
set_option maxRecDepth 20000 in
theorem E_N_add_2 {n : Nat} {R : xR} {M : xM} {P : xM → Prop} (hn : 78 ≤ n) (hR : RC 78 R) {l2 : Int} (h : Xv m_N_add 2 n R P 0 [some (vr 36), some (vr 30), some (vi l2), none] [] M) : Cv m_N_add 2 n R [vr 36, vr 30, vi l2] M P :=
  Cv.of [some (vr 36), some (vr 30), some (vi l2), none] (by decide) rfl (Nat.le_of_ble_eq_true rfl) rfl h
set_option maxRecDepth 20000 in
theorem B_S_setStart_0 {n : Nat} {R : xR} {M : xM} {P : xM → Prop} (hn : 78 ≤ n) (hR : RC 78 R) {l1 l2 : Int} (hvc : Xv m_S_setStart 0 n R P 7 [some (vr 29), some (vi l1), some (vi l2), some (vi l1), some (vi (l2 - 1))] [] M) : Xv m_S_setStart 0 n R P 0 [some (vr 29), some (vi l1), some (vi l2), none, none] [] M := by
  intro Q hQ
  refine x_iload_n (pc := 0) d_S_setStart_0 rfl rfl ?_
  refine x_istore_n (pc := 1) d_S_setStart_1 rfl (by decide) ?_
  refine x_iload_n (pc := 2) d_S_setStart_2 rfl rfl ?_
  refine x_iconst (pc := 3) d_S_setStart_3 ?_
  refine x_isub (pc := 4) d_S_setStart_4 ?_
  refine x_istore (pc := 5) d_S_setStart_5 (by decide) ?_
  exact x_locals (xmask [true, true, true, true, true] _) (xmask_sub _ _) (hvc Q hQ)
set_option maxRecDepth 20000 in
theorem B_S_setStart_7 {n : Nat} {R : xR} {M : xM} {P : xM → Prop} (hn : 78 ≤ n) (hR : RC 78 R) {l1 l2 l3 l4 : Int} (hvc : (-2147483648 ≤ l4 ∧ l4 < 2147483648) ∧ ((l4 < 0 → (0 ≤ l2 ∧ l2 < 4) ∧ (∀ M1 : xM, M1 = xU M 30 l2.toNat 0 → P M1)) ∧ (¬ l4 < 0 → (0 ≤ l4 ∧ l4 < 4) ∧ (∀ M2 : xM, M2 = xU M 30 l4.toNat (xAnd l3 ((M 1 1) - 1)) → Xv m_S_setStart 0 n R P 7 [some (vr 29), some (vi l1), some (vi l2), some (vi (xShr l3 (M2 1 0))), some (vi (l4 + (-1)))] [] M2)))) : Xv m_S_setStart 0 n R P 7 [some (vr 29), some (vi l1), some (vi l2), some (vi l3), some (vi l4)] [] M := by
  intro Q hQ
  refine x_iload (pc := 7) d_S_setStart_7 rfl ?_
  obtain ⟨h1, hvc⟩ := hvc
  refine x_if_lt (tgt := 46) (pc := 9) d_S_setStart_9 rfl h1 (fun hb => ?_) (fun hb => ?_)
  · have hvc := hvc.1 hb
    refine x_aload_n (pc := 46) d_S_setStart_46 rfl rfl ?_
    refine x_getR (k := 29) (ci := 4) (pc := 47) (t := 30) 3 d_S_setStart_47 cok4 rfl (Nat.lt_of_lt_of_le (by decide) hn) rfl (by decide) rfl (hR.at 29 3 rfl rfl) w_180 ?_
    refine x_iload_n (pc := 50) d_S_setStart_50 rfl rfl ?_
    refine x_iconst (pc := 51) d_S_setStart_51 ?_
    obtain ⟨h2, hvc⟩ := hvc
    refine x_iast (N := 4) (pc := 52) d_S_setStart_52 (Nat.lt_of_lt_of_le (by decide) hn) rfl (by decide) h2.1 h2.2 (fun M1 eM1 => ?_)
    have hvc := hvc M1 eM1
    exact x_vret (pc := 53) d_S_setStart_53 rfl rfl (Nat.le_refl _) (hQ _ hvc)
  · have hvc := hvc.2 hb
    refine x_aload_n (pc := 12) d_S_setStart_12 rfl rfl ?_
    refine x_getR (k := 29) (ci := 4) (pc := 13) (t := 30) 3 d_S_setStart_13 cok4 rfl (Nat.lt_of_lt_of_le (by decide) hn) rfl (by decide) rfl (hR.at 29 3 rfl rfl) w_180 ?_
    refine x_iload (pc := 16) d_S_setStart_16 rfl ?_
    refine x_iload_n (pc := 18) d_S_setStart_18 rfl rfl ?_
    refine x_aload_n (pc := 19) d_S_setStart_19 rfl rfl ?_
    refine x_getR (k := 29) (ci := 4) (pc := 20) (t := 1) 0 d_S_setStart_20 cok4 rfl (Nat.lt_of_lt_of_le (by decide) hn) rfl (by decide) rfl (hR.at 29 0 rfl rfl) w_177 ?_
    refine x_getIN (k := 1) (ci := 1) (pc := 23) 1 d_S_setStart_23 cok1 rfl (Nat.lt_of_lt_of_le (by decide) hn) rfl (by decide) rfl w_69 ?_
    refine x_iconst (pc := 26) d_S_setStart_26 ?_
    refine x_isub (pc := 27) d_S_setStart_27 ?_
    refine x_iand (pc := 28) d_S_setStart_28 ?_
    obtain ⟨h3, hvc⟩ := hvc
    refine x_iast (N := 4) (pc := 29) d_S_setStart_29 (Nat.lt_of_lt_of_le (by decide) hn) rfl (by decide) h3.1 h3.2 (fun M2 eM2 => ?_)
    have hvc := hvc M2 eM2
    refine x_iload_n (pc := 30) d_S_setStart_30 rfl rfl ?_
    refine x_aload_n (pc := 31) d_S_setStart_31 rfl rfl ?_
    refine x_getR (k := 29) (ci := 4) (pc := 32) (t := 1) 0 d_S_setStart_32 cok4 rfl (Nat.lt_of_lt_of_le (by decide) hn) rfl (by decide) rfl (hR.at 29 0 rfl rfl) w_177 ?_
    refine x_getIN (k := 1) (ci := 1) (pc := 35) 0 d_S_setStart_35 cok1 rfl (Nat.lt_of_lt_of_le (by decide) hn) rfl (by decide) rfl w_66 ?_
    refine x_ishr (pc := 38) d_S_setStart_38 ?_
    refine x_istore_n (pc := 39) d_S_setStart_39 rfl (by decide) ?_
    refine x_iinc (pc := 40) d_S_setStart_40 rfl (by decide) ?_
    refine x_goto (tgt := 7) (pc := 43) d_S_setStart_43 rfl ?_
    exact x_locals (xmask [true, true, true, true, true] _) (xmask_sub _ _) (hvc Q hQ)
set_option maxRecDepth 20000 in
theorem E_S_setStart {n : Nat} {R : xR} {M : xM} {P : xM → Prop} (hn : 78 ≤ n) (hR : RC 78 R) {l1 l2 : Int} (h : Xv m_S_setStart 0 n R P 0 [some (vr 29), some (vi l1), some (vi l2), none, none] [] M) : Cv m_S_setStart 0 n R [vr 29, vi l1, vi l2] M P :=
  Cv.of [some (vr 29), some (vi l1), some (vi l2), none, none] (by decide) rfl (Nat.le_of_ble_eq_true rfl) rfl h
set_option maxRecDepth 20000 in
theorem B_S_countVotes_0 {n : Nat} {R : xR} {M : xM} {P : xM → Prop} (hn : 78 ≤ n) (hR : RC 78 R) {l1 : Int} (hvc : Xv m_S_countVotes 2 n R P 2 [some (vr 29), some (vi l1), some (vi 0), none, none] [] M) : Xv m_S_countVotes 2 n R P 0 [some (vr 29), some (vi l1), none, none, none] [] M := by
  intro Q hQ
  refine x_iconst (pc := 0) d_S_countVotes_0 ?_
  refine x_istore_n (pc := 1) d_S_countVotes_1 rfl (by decide) ?_
  exact x_locals (xmask [true, true, true, false, false] _) (xmask_sub _ _) (hvc Q hQ)
set_option maxRecDepth 20000 in
theorem B_S_countVotes_2 {n : Nat} {R : xR} {M : xM} {P : xM → Prop} (hn : 78 ≤ n) (hR : RC 78 R) {l1 l2 : Int} (hvc : (-2147483648 ≤ l2 ∧ l2 < 2147483648) ∧ (-2147483648 ≤ M 1 1 ∧ M 1 1 < 2147483648) ∧ (((M 1 1) ≤ l2 → (∀ M1 : xM, M1 = xU M 29 5 0 → Xv m_S_countVotes 2 n R P 33 [some (vr 29), some (vi l1), some (vi 0), none, none] [] M1)) ∧ (¬ (M 1 1) ≤ l2 → (0 ≤ l2 ∧ l2 < 32) ∧ (∀ M2 : xM, M2 = xU M 31 l2.toNat 0 → Xv m_S_countVotes 2 n R P 2 [some (vr 29), some (vi l1), some (vi (l2 + 1)), none, none] [] M2)))) : Xv m_S_countVotes 2 n R P 2 [some (vr 29), some (vi l1), some (vi l2), none, none] [] M := by
  intro Q hQ
  refine x_iload_n (pc := 2) d_S_countVotes_2 rfl rfl ?_
  refine x_aload_n (pc := 3) d_S_countVotes_3 rfl rfl ?_
  refine x_getR (k := 29) (ci := 4) (pc := 4) (t := 1) 0 d_S_countVotes_4 cok4 rfl (Nat.lt_of_lt_of_le (by decide) hn) rfl (by decide) rfl (hR.at 29 0 rfl rfl) w_177 ?_
  refine x_getIN (k := 1) (ci := 1) (pc := 7) 1 d_S_countVotes_7 cok1 rfl (Nat.lt_of_lt_of_le (by decide) hn) rfl (by decide) rfl w_69 ?_
  obtain ⟨h1, hvc⟩ := hvc
  obtain ⟨h2, hvc⟩ := hvc
  refine x_icmp_ge (tgt := 26) (pc := 10) d_S_countVotes_10 rfl h1 h2 (fun hb => ?_) (fun hb => ?_)
  · have hvc := hvc.1 hb
    refine x_aload_n (pc := 26) d_S_countVotes_26 rfl rfl ?_
    refine x_iconst (pc := 27) d_S_countVotes_27 ?_
    refine x_putI (k := 29) (ci := 4) (pc := 28) 5 d_S_countVotes_28 cok4 rfl (Nat.lt_of_lt_of_le (by decide) hn) rfl (by decide) rfl rfl rfl w_182 (fun M1 eM1 => ?_)
    have hvc := hvc M1 eM1
    refine x_iconst (pc := 31) d_S_countVotes_31 ?_
    refine x_istore_n (pc := 32) d_S_countVotes_32 rfl (by decide) ?_
    exact x_locals (xmask [true, true, true, false, false] _) (xmask_sub _ _) (hvc Q hQ)
  · have hvc := hvc.2 hb
    refine x_aload_n (pc := 13) d_S_countVotes_13 rfl rfl ?_
    refine x_getR (k := 29) (ci := 4) (pc := 14) (t := 31) 4 d_S_countVotes_14 cok4 rfl (Nat.lt_of_lt_of_le (by decide) hn) rfl (by decide) rfl (hR.at 29 4 rfl rfl) w_181 ?_
    refine x_iload_n (pc := 17) d_S_countVotes_17 rfl rfl ?_
    refine x_iconst (pc := 18) d_S_countVotes_18 ?_
    obtain ⟨h3, hvc⟩ := hvc
    refine x_iast (N := 32) (pc := 19) d_S_countVotes_19 (Nat.lt_of_lt_of_le (by decide) hn) rfl (by decide) h3.1 h3.2 (fun M2 eM2 => ?_)
    have hvc := hvc M2 eM2
    refine x_iinc (pc := 20) d_S_countVotes_20 rfl (by decide) ?_
    refine x_goto (tgt := 2) (pc := 23) d_S_countVotes_23 rfl ?_
    exact x_locals (xmask [true, true, true, false, false] _) (xmask_sub _ _) (hvc Q hQ)
set_option maxRecDepth 20000 in
theorem B_S_countVotes_33 {n : Nat} {R : xR} {M : xM} {P : xM → Prop} (hn : 78 ≤ n) (hR : RC 78 R) {l1 l2 : Int} (hvc : (-2147483648 ≤ l2 ∧ l2 < 2147483648) ∧ (-2147483648 ≤ M 5 2 ∧ M 5 2 < 2147483648) ∧ (((M 5 2) ≤ l2 → P M) ∧ (¬ (M 5 2) ≤ l2 → (0 ≤ l2 ∧ l2 < 20) ∧ (-2147483648 ≤ M 28 l2.toNat ∧ M 28 l2.toNat < 2147483648) ∧ ((¬ (M 28 l2.toNat) = 0 → Xv m_S_countVotes 2 n R P 33 [some (vr 29), some (vi l1), some (vi (l2 + 1)), none, none] [] M) ∧ ((M 28 l2.toNat) = 0 → Ci m_C_mixed 1 n R [vr 5, vr 15, vr 30, vi l2] M (fun z5 M1 => (0 ≤ l1 ∧ l1 < 4) ∧ (0 ≤ l2 ∧ l2 < 24) ∧ (-2147483648 ≤ M1 (16 + l1.toNat) l2.toNat ∧ M1 (16 + l1.toNat) l2.toNat < 2147483648) ∧ (((M1 (16 + l1.toNat) l2.toNat) = 0 → (-2147483648 ≤ xXor (M 27 l2.toNat) z5 ∧ xXor (M 27 l2.toNat) z5 < 2147483648) ∧ ((¬ (xXor (M 27 l2.toNat) z5) = 0 → Xv m_S_countVotes 2 n R P 33 [some (vr 29), some (vi l1), some (vi (l2 + 1)), none, none] [] M1) ∧ ((xXor (M 27 l2.toNat) z5) = 0 → (∀ M2 : xM, M2 = xU M1 29 5 ((M1 29 5) + 1) → Xv m_S_countVotes 2 n R P 33 [some (vr 29), some (vi l1), some (vi (l2 + 1)), none, none] [] M2)))) ∧ (¬ (M1 (16 + l1.toNat) l2.toNat) = 0 → Ci m_F_quotient 0 n R [vr 1, vi (xXor (M 27 l2.toNat) z5), vi (M1 (16 + l1.toNat) l2.toNat)] M1 (fun z10 M3 => (0 ≤ z10 ∧ z10 < 32) ∧ (∀ M4 : xM, M4 = xU M3 31 z10.toNat ((M3 31 z10.toNat) + 1) → Xv m_S_countVotes 2 n R P 33 [some (vr 29), some (vi l1), some (vi (l2 + 1)), none, none] [] M4)))))))))) : Xv m_S_countVotes 2 n R P 33 [some (vr 29), some (vi l1), some (vi l2), none, none] [] M := by
  intro Q hQ
  refine x_iload_n (pc := 33) d_S_countVotes_33 rfl rfl ?_
  refine x_aload_n (pc := 34) d_S_countVotes_34 rfl rfl ?_
  refine x_getR (k := 29) (ci := 4) (pc := 35) (t := 5) 1 d_S_countVotes_35 cok4 rfl (Nat.lt_of_lt_of_le (by decide) hn) rfl (by decide) rfl (hR.at 29 1 rfl rfl) w_178 ?_
  refine x_getIN (k := 5) (ci := 2) (pc := 38) 2 d_S_countVotes_38 cok2 rfl (Nat.lt_of_lt_of_le (by decide) hn) rfl (by decide) rfl w_102 ?_
  obtain ⟨h1, hvc⟩ := hvc
  obtain ⟨h2, hvc⟩ := hvc
  refine x_icmp_ge (tgt := 146) (pc := 41) d_S_countVotes_41 rfl h1 h2 (fun hb => ?_) (fun hb => ?_)
  · have hvc := hvc.1 hb
    exact x_vret (pc := 146) d_S_countVotes_146 rfl rfl (Nat.le_refl _) (hQ _ hvc)
  · have hvc := hvc.2 hb
    refine x_aload_n (pc := 44) d_S_countVotes_44 rfl rfl ?_
    refine x_getR (k := 29) (ci := 4) (pc := 45) (t := 26) 2 d_S_countVotes_45 cok4 rfl (Nat.lt_of_lt_of_le (by decide) hn) rfl (by decide) rfl (hR.at 29 2 rfl rfl) w_179 ?_
    refine x_getRN (k := 26) (ci := 3) (pc := 48) (t := 28) 2 d_S_countVotes_48 cok3 rfl (Nat.lt_of_lt_of_le (by decide) hn) rfl (by decide) rfl (hR.at 26 2 rfl rfl) w_161 ?_
    refine x_iload_n (pc := 51) d_S_countVotes_51 rfl rfl ?_
    obtain ⟨h3, hvc⟩ := hvc
    refine x_zald (N := 20) (pc := 52) d_S_countVotes_52 (Nat.lt_of_lt_of_le (by decide) hn) rfl (by decide) h3.1 h3.2 ?_
    obtain ⟨h4, hvc⟩ := hvc
    refine x_if_ne (tgt := 140) (pc := 53) d_S_countVotes_53 rfl h4 (fun hb => ?_) (fun hb => ?_)
    · have hvc := hvc.1 hb
      refine x_iinc (pc := 140) d_S_countVotes_140 rfl (by decide) ?_
      refine x_goto (tgt := 33) (pc := 143) d_S_countVotes_143 rfl ?_
      exact x_locals (xmask [true, true, true, false, false] _) (xmask_sub _ _) (hvc Q hQ)
    · have hvc := hvc.2 hb
      refine x_aload_n (pc := 56) d_S_countVotes_56 rfl rfl ?_
      refine x_getR (k := 29) (ci := 4) (pc := 57) (t := 26) 2 d_S_countVotes_57 cok4 rfl (Nat.lt_of_lt_of_le (by decide) hn) rfl (by decide) rfl (hR.at 29 2 rfl rfl) w_179 ?_
      refine x_getRN (k := 26) (ci := 3) (pc := 60) (t := 27) 1 d_S_countVotes_60 cok3 rfl (Nat.lt_of_lt_of_le (by decide) hn) rfl (by decide) rfl (hR.at 26 1 rfl rfl) w_157 ?_
      refine x_iload_n (pc := 63) d_S_countVotes_63 rfl rfl ?_
      refine x_iald (N := 20) (pc := 64) d_S_countVotes_64 (Nat.lt_of_lt_of_le (by decide) hn) rfl (by decide) h3.1 h3.2 ?_
      refine x_aload_n (pc := 65) d_S_countVotes_65 rfl rfl ?_
      refine x_getR (k := 29) (ci := 4) (pc := 66) (t := 5) 1 d_S_countVotes_66 cok4 rfl (Nat.lt_of_lt_of_le (by decide) hn) rfl (by decide) rfl (hR.at 29 1 rfl rfl) w_178 ?_
      refine x_aload_n (pc := 69) d_S_countVotes_69 rfl rfl ?_
      refine x_getR (k := 29) (ci := 4) (pc := 70) (t := 5) 1 d_S_countVotes_70 cok4 rfl (Nat.lt_of_lt_of_le (by decide) hn) rfl (by decide) rfl (hR.at 29 1 rfl rfl) w_178 ?_
      refine x_getRN (k := 5) (ci := 2) (pc := 73) (t := 15) 9 d_S_countVotes_73 cok2 rfl (Nat.lt_of_lt_of_le (by decide) hn) rfl (by decide) rfl (hR.at 5 9 rfl rfl) w_120 ?_
      refine x_aload_n (pc := 76) d_S_countVotes_76 rfl rfl ?_
      refine x_getR (k := 29) (ci := 4) (pc := 77) (t := 30) 3 d_S_countVotes_77 cok4 rfl (Nat.lt_of_lt_of_le (by decide) hn) rfl (by decide) rfl (hR.at 29 3 rfl rfl) w_180 ?_
      refine x_iload_n (pc := 80) d_S_countVotes_80 rfl rfl ?_
      refine y_callVi m_C_mixed 1 83 5 2 11 [_, _, _] [_] rfl (pc := 81) d_S_countVotes_81 ok_C_mixed w_452 w_396 w_397 pn_C_mixed (Nat.lt_of_lt_of_le (by decide) hn) rfl rfl (by decide) (Nat.le_of_ble_eq_true rfl) (Nat.le_refl _) (Nat.le_refl _) hvc (fun z5 M1 hvc => ?_)
      refine x_ixor (pc := 84) d_S_countVotes_84 ?_
      refine x_istore_n (pc := 85) d_S_countVotes_85 rfl (by decide) ?_
      refine x_aload_n (pc := 86) d_S_countVotes_86 rfl rfl ?_
      refine x_getR (k := 29) (ci := 4) (pc := 87) (t := 5) 1 d_S_countVotes_87 cok4 rfl (Nat.lt_of_lt_of_le (by decide) hn) rfl (by decide) rfl (hR.at 29 1 rfl rfl) w_178 ?_
      refine x_getRN (k := 5) (ci := 2) (pc := 90) (t := 15) 9 d_S_countVotes_90 cok2 rfl (Nat.lt_of_lt_of_le (by decide) hn) rfl (by decide) rfl (hR.at 5 9 rfl rfl) w_120 ?_
      refine x_iload_n (pc := 93) d_S_countVotes_93 rfl rfl ?_
      obtain ⟨h6, hvc⟩ := hvc
      refine x_aald (k := 15) (N := 4) (pc := 94) d_S_countVotes_94 (Nat.lt_of_lt_of_le (by decide) hn) rfl (by decide) h6.1 h6.2 (hR.row 15 16 4 rfl rfl h6.1 h6.2) ?_
      refine x_iload_n (pc := 95) d_S_countVotes_95 rfl rfl ?_
      obtain ⟨h7, hvc⟩ := hvc
      refine x_iald (N := 24) (pc := 96) d_S_countVotes_96 (Nat.lt_of_lt_of_le (rowN_16 (by omega)) hn) (rowS_16 (by omega)) (by decide) h7.1 h7.2 ?_
      refine x_istore (pc := 97) d_S_countVotes_97 (by decide) ?_
      refine x_iload (pc := 99) d_S_countVotes_99 rfl ?_
      obtain ⟨h8, hvc⟩ := hvc
      refine x_if_eq (tgt := 126) (pc := 101) d_S_countVotes_101 rfl h8 (fun hb => ?_) (fun hb => ?_)
      · have hvc := hvc.1 hb
        refine x_iload_n (pc := 126) d_S_countVotes_126 rfl rfl ?_
        obtain ⟨h9, hvc⟩ := hvc
        refine x_if_ne (tgt := 140) (pc := 127) d_S_countVotes_127 rfl h9 (fun hb => ?_) (fun hb => ?_)
        · have hvc := hvc.1 hb
          refine x_iinc (pc := 140) d_S_countVotes_140 rfl (by decide) ?_
          refine x_goto (tgt := 33) (pc := 143) d_S_countVotes_143 rfl ?_
          exact x_locals (xmask [true, true, true, false, false] _) (xmask_sub _ _) (hvc Q hQ)
        · have hvc := hvc.2 hb
          refine x_aload_n (pc := 130) d_S_countVotes_130 rfl rfl ?_
          refine x_dup (pc := 131) d_S_countVotes_131 ?_
          refine x_getI (k := 29) (ci := 4) (pc := 132) 5 d_S_countVotes_132 cok4 rfl (Nat.lt_of_lt_of_le (by decide) hn) rfl (by decide) rfl w_182 ?_
          refine x_iconst (pc := 135) d_S_countVotes_135 ?_
          refine x_iadd (pc := 136) d_S_countVotes_136 ?_
          refine x_putI (k := 29) (ci := 4) (pc := 137) 5 d_S_countVotes_137 cok4 rfl (Nat.lt_of_lt_of_le (by decide) hn) rfl (by decide) rfl rfl rfl w_182 (fun M2 eM2 => ?_)
          have hvc := hvc M2 eM2
          refine x_iinc (pc := 140) d_S_countVotes_140 rfl (by decide) ?_
          refine x_goto (tgt := 33) (pc := 143) d_S_countVotes_143 rfl ?_
          exact x_locals (xmask [true, true, true, false, false] _) (xmask_sub _ _) (hvc Q hQ)
      · have hvc := hvc.2 hb
        refine x_aload_n (pc := 104) d_S_countVotes_104 rfl rfl ?_
        refine x_getR (k := 29) (ci := 4) (pc := 105) (t := 31) 4 d_S_countVotes_105 cok4 rfl (Nat.lt_of_lt_of_le (by decide) hn) rfl (by decide) rfl (hR.at 29 4 rfl rfl) w_181 ?_
        refine x_aload_n (pc := 108) d_S_countVotes_108 rfl rfl ?_
        refine x_getR (k := 29) (ci := 4) (pc := 109) (t := 1) 0 d_S_countVotes_109 cok4 rfl (Nat.lt_of_lt_of_le (by decide) hn) rfl (by decide) rfl (hR.at 29 0 rfl rfl) w_177 ?_
        refine x_iload_n (pc := 112) d_S_countVotes_112 rfl rfl ?_
        refine x_iload (pc := 113) d_S_countVotes_113 rfl ?_
        refine y_callVi m_F_quotient 0 87 1 1 5 [_, _] [_] rfl (pc := 115) d_S_countVotes_115 ok_F_quotient w_453 w_295 w_296 pn_F_quotient (Nat.lt_of_lt_of_le (by decide) hn) rfl rfl (by decide) (Nat.le_of_ble_eq_true rfl) (Nat.le_refl _) (Nat.le_refl _) hvc (fun z10 M3 hvc => ?_)
        refine x_dup2 (pc := 118) d_S_countVotes_118 ?_
        obtain ⟨h11, hvc⟩ := hvc
        refine x_iald (N := 32) (pc := 119) d_S_countVotes_119 (Nat.lt_of_lt_of_le (by decide) hn) rfl (by decide) h11.1 h11.2 ?_
        refine x_iconst (pc := 120) d_S_countVotes_120 ?_
        refine x_iadd (pc := 121) d_S_countVotes_121 ?_
        refine x_iast (N := 32) (pc := 122) d_S_countVotes_122 (Nat.lt_of_lt_of_le (by decide) hn) rfl (by decide) h11.1 h11.2 (fun M4 eM4 => ?_)
        have hvc := hvc M4 eM4
        refine x_goto (tgt := 140) (pc := 123) d_S_countVotes_123 rfl ?_
        refine x_iinc (pc := 140) d_S_countVotes_140 rfl (by decide) ?_
        refine x_goto (tgt := 33) (pc := 143) d_S_countVotes_143 rfl ?_
        exact x_locals (xmask [true, true, true, false, false] _) (xmask_sub _ _) (hvc Q hQ)
set_option maxRecDepth 20000 in
theorem E_S_countVotes {n : Nat} {R : xR} {M : xM} {P : xM → Prop} (hn : 78 ≤ n) (hR : RC 78 R) {l1 : Int} (h : Xv m_S_countVotes 2 n R P 0 [some (vr 29), some (vi l1), none, none, none] [] M) : Cv m_S_countVotes 2 n R [vr 29, vi l1] M P :=
  Cv.of [some (vr 29), some (vi l1), none, none, none] (by decide) rfl (Nat.le_of_ble_eq_true rfl) rfl h
set_option maxRecDepth 20000 in
theorem B_S_find_1_0 {n : Nat} {R : xR} {M : xM} {P : xM → Prop} (hn : 78 ≤ n) (hR : RC 78 R) {l1 : Int} (hvc : (∀ M1 : xM, M1 = xU M 32 1 0 → Xv m_S_find 3 n R P 31 [some (vr 29), some (vi l1), some (vr 32), some (vi ((M1 5 3) - 1)), some (vi (xShl 1 ((M1 1 0) * ((M1 5 3) - 1)))), some (vi 0), none, none] [] M1)) : Xv m_S_find 3 n R P 0 [some (vr 29), some (vi l1), some (vr 32), none, none, none, none, none] [] M := by
  intro Q hQ
  refine x_aload_n (pc := 0) d_S_find_0 rfl rfl ?_
  refine x_iconst (pc := 1) d_S_find_1 ?_
  refine x_putIN (k := 32) (ci := 5) (pc := 2) 1 d_S_find_2 cok5 rfl (Nat.lt_of_lt_of_le (by decide) hn) rfl (by decide) rfl rfl rfl w_204 (fun M1 eM1 => ?_)
  have hvc := hvc M1 eM1
  refine x_aload_n (pc := 5) d_S_find_5 rfl rfl ?_
  refine x_getR (k := 29) (ci := 4) (pc := 6) (t := 5) 1 d_S_find_6 cok4 rfl (Nat.lt_of_lt_of_le (by decide) hn) rfl (by decide) rfl (hR.at 29 1 rfl rfl) w_178 ?_
  refine x_getIN (k := 5) (ci := 2) (pc := 9) 3 d_S_find_9 cok2 rfl (Nat.lt_of_lt_of_le (by decide) hn) rfl (by decide) rfl w_104 ?_
  refine x_iconst (pc := 12) d_S_find_12 ?_
  refine x_isub (pc := 13) d_S_find_13 ?_
  refine x_istore_n (pc := 14) d_S_find_14 rfl (by decide) ?_
  refine x_iconst (pc := 15) d_S_find_15 ?_
  refine x_aload_n (pc := 16) d_S_find_16 rfl rfl ?_
  refine x_getR (k := 29) (ci := 4) (pc := 17) (t := 1) 0 d_S_find_17 cok4 rfl (Nat.lt_of_lt_of_le (by decide) hn) rfl (by decide) rfl (hR.at 29 0 rfl rfl) w_177 ?_
  refine x_getIN (k := 1) (ci := 1) (pc := 20) 0 d_S_find_20 cok1 rfl (Nat.lt_of_lt_of_le (by decide) hn) rfl (by decide) rfl w_66 ?_
  refine x_iload_n (pc := 23) d_S_find_23 rfl rfl ?_
  refine x_imul (pc := 24) d_S_find_24 ?_
  refine x_ishl (pc := 25) d_S_find_25 ?_
  refine x_istore (pc := 26) d_S_find_26 (by decide) ?_
  refine x_iconst (pc := 28) d_S_find_28 ?_
  refine x_istore (pc := 29) d_S_find_29 (by decide) ?_
  exact x_locals (xmask [true, true, true, true, true, true, false, false] _) (xmask_sub _ _) (hvc Q hQ)
set_option maxRecDepth 20000 in
theorem B_S_find_1_31 {n : Nat} {R : xR} {M : xM} {P : xM → Prop} (hn : 78 ≤ n) (hR : RC 78 R) {l1 l3 l4 l5 : Int} (hvc : (-2147483648 ≤ l5 ∧ l5 < 2147483648) ∧ (-2147483648 ≤ l4 ∧ l4 < 2147483648) ∧ ((l4 ≤ l5 → P M) ∧ (¬ l4 ≤ l5 → Cv m_S_setStart 0 n R [vr 29, vi l5, vi l3] M (fun M1 => Cv m_S_countVotes 2 n R [vr 29, vi l3] M1 (fun M2 => Xv m_S_find 3 n R P 53 [some (vr 29), some (vi l1), some (vr 32), some (vi l3), some (vi l4), some (vi l5), some (vi 0), none] [] M2))))) : Xv m_S_find 3 n R P 31 [some (vr 29), some (vi l1), some (vr 32), some (vi l3), some (vi l4), some (vi l5), none, none] [] M := by
  intro Q hQ
  refine x_iload (pc := 31) d_S_find_31 rfl ?_
  refine x_iload (pc := 33) d_S_find_33 rfl ?_
  obtain ⟨h1, hvc⟩ := hvc
  obtain ⟨h2, hvc⟩ := hvc
  refine x_icmp_ge (tgt := 123) (pc := 35) d_S_find_35 rfl h1 h2 (fun hb => ?_) (fun hb => ?_)
  · have hvc := hvc.1 hb
    exact x_vret (pc := 123) d_S_find_123 rfl rfl (Nat.le_refl _) (hQ _ hvc)
  · have hvc := hvc.2 hb
    refine x_aload_n (pc := 38) d_S_find_38 rfl rfl ?_
    refine x_iload (pc := 39) d_S_find_39 rfl ?_
    refine x_iload_n (pc := 41) d_S_find_41 rfl rfl ?_
    refine y_callVv m_S_setStart 0 46 29 4 6 [_, _] [] rfl (pc := 42) d_S_find_42 ok_S_setStart w_444 w_446 w_10 pn_S_setStart (Nat.lt_of_lt_of_le (by decide) hn) rfl rfl (by decide) (Nat.le_of_ble_eq_true rfl) (Nat.le_refl _) (Nat.le_refl _) hvc (fun M1 hvc => ?_)
    refine x_aload_n (pc := 45) d_S_find_45 rfl rfl ?_
    refine x_iload_n (pc := 46) d_S_find_46 rfl rfl ?_
    refine y_callVv m_S_countVotes 2 50 29 4 6 [_] [] rfl (pc := 47) d_S_find_47 ok_S_countVotes w_448 w_450 w_11 pn_S_countVotes (Nat.lt_of_lt_of_le (by decide) hn) rfl rfl (by decide) (Nat.le_of_ble_eq_true rfl) (Nat.le_refl _) (Nat.le_refl _) hvc (fun M2 hvc => ?_)
    refine x_iconst (pc := 50) d_S_find_50 ?_
    refine x_istore (pc := 51) d_S_find_51 (by decide) ?_
    exact x_locals (xmask [true, true, true, true, true, true, true, false] _) (xmask_sub _ _) (hvc Q hQ)
set_option maxRecDepth 20000 in
theorem B_S_find_1_53 {n : Nat} {R : xR} {M : xM} {P : xM → Prop} (hn : 78 ≤ n) (hR : RC 78 R) {l1 l3 l4 l5 l6 : Int} (hvc : (-2147483648 ≤ l6 ∧ l6 < 2147483648) ∧ (-2147483648 ≤ M 1 1 ∧ M 1 1 < 2147483648) ∧ (((M 1 1) ≤ l6 → Xv m_S_find 3 n R P 31 [some (vr 29), some (vi l1), some (vr 32), some (vi l3), some (vi l4), some (vi (l5 + 1)), none, none] [] M) ∧ (¬ (M 1 1) ≤ l6 → (0 ≤ l6 ∧ l6 < 32) ∧ (-2147483648 ≤ ((M 26 0) - (M 29 5)) - (M 31 l6.toNat) ∧ ((M 26 0) - (M 29 5)) - (M 31 l6.toNat) < 2147483648) ∧ (-2147483648 ≤ l1 ∧ l1 < 2147483648) ∧ ((l1 < (((M 26 0) - (M 29 5)) - (M 31 l6.toNat)) → Xv m_S_find 3 n R P 53 [some (vr 29), some (vi l1), some (vr 32), some (vi l3), some (vi l4), some (vi l5), some (vi (l6 + 1)), none] [] M) ∧ (¬ l1 < (((M 26 0) - (M 29 5)) - (M 31 l6.toNat)) → (0 ≤ l3 ∧ l3 < 4) ∧ (∀ M1 : xM, M1 = xU M 30 l3.toNat l6 → Cv m_N_add 2 n R [vr 32, vr 30, vi (((M 26 0) - (M 29 5)) - (M 31 l6.toNat))] M1 (fun M2 => Xv m_S_find 3 n R P 53 [some (vr 29), some (vi l1), some (vr 32), some (vi l3), some (vi l4), some (vi l5), some (vi (l6 + 1)), none] [] M2))))))) : Xv m_S_find 3 n R P 53 [some (vr 29), some (vi l1), some (vr 32), some (vi l3), some (vi l4), some (vi l5), some (vi l6), none] [] M := by
  intro Q hQ
  refine x_iload (pc := 53) d_S_find_53 rfl ?_
  refine x_aload_n (pc := 55) d_S_find_55 rfl rfl ?_
  refine x_getR (k := 29) (ci := 4) (pc := 56) (t := 1) 0 d_S_find_56 cok4 rfl (Nat.lt_of_lt_of_le (by decide) hn) rfl (by decide) rfl (hR.at 29 0 rfl rfl) w_177 ?_
  refine x_getIN (k := 1) (ci := 1) (pc := 59) 1 d_S_find_59 cok1 rfl (Nat.lt_of_lt_of_le (by decide) hn) rfl (by decide) rfl w_69 ?_
  obtain ⟨h1, hvc⟩ := hvc
  obtain ⟨h2, hvc⟩ := hvc
  refine x_icmp_ge (tgt := 117) (pc := 62) d_S_find_62 rfl h1 h2 (fun hb => ?_) (fun hb => ?_)
  · have hvc := hvc.1 hb
    refine x_iinc (pc := 117) d_S_find_117 rfl (by decide) ?_
    refine x_goto (tgt := 31) (pc := 120) d_S_find_120 rfl ?_
    exact x_locals (xmask [true, true, true, true, true, true, false, false] _) (xmask_sub _ _) (hvc Q hQ)
  · have hvc := hvc.2 hb
    refine x_aload_n (pc := 65) d_S_find_65 rfl rfl ?_
    refine x_getR (k := 29) (ci := 4) (pc := 66) (t := 26) 2 d_S_find_66 cok4 rfl (Nat.lt_of_lt_of_le (by decide) hn) rfl (by decide) rfl (hR.at 29 2 rfl rfl) w_179 ?_
    refine x_getIN (k := 26) (ci := 3) (pc := 69) 0 d_S_find_69 cok3 rfl (Nat.lt_of_lt_of_le (by decide) hn) rfl (by decide) rfl w_153 ?_
    refine x_aload_n (pc := 72) d_S_find_72 rfl rfl ?_
    refine x_getI (k := 29) (ci := 4) (pc := 73) 5 d_S_find_73 cok4 rfl (Nat.lt_of_lt_of_le (by decide) hn) rfl (by decide) rfl w_182 ?_
    refine x_isub (pc := 76) d_S_find_76 ?_
    refine x_aload_n (pc := 77) d_S_find_77 rfl rfl ?_
    refine x_getR (k := 29) (ci := 4) (pc := 78) (t := 31) 4 d_S_find_78 cok4 rfl (Nat.lt_of_lt_of_le (by decide) hn) rfl (by decide) rfl (hR.at 29 4 rfl rfl) w_181 ?_
    refine x_iload (pc := 81) d_S_find_81 rfl ?_
    obtain ⟨h3, hvc⟩ := hvc
    refine x_iald (N := 32) (pc := 83) d_S_find_83 (Nat.lt_of_lt_of_le (by decide) hn) rfl (by decide) h3.1 h3.2 ?_
    refine x_isub (pc := 84) d_S_find_84 ?_
    refine x_istore (pc := 85) d_S_find_85 (by decide) ?_
    refine x_iload (pc := 87) d_S_find_87 rfl ?_
    refine x_iload_n (pc := 89) d_S_find_89 rfl rfl ?_
    obtain ⟨h4, hvc⟩ := hvc
    obtain ⟨h5, hvc⟩ := hvc
    refine x_icmp_gt (tgt := 111) (pc := 90) d_S_find_90 rfl h4 h5 (fun hb => ?_) (fun hb => ?_)
    · have hvc := hvc.1 hb
      refine x_iinc (pc := 111) d_S_find_111 rfl (by decide) ?_
      refine x_goto (tgt := 53) (pc := 114) d_S_find_114 rfl ?_
      exact x_locals (xmask [true, true, true, true, true, true, true, false] _) (xmask_sub _ _) (hvc Q hQ)
    · have hvc := hvc.2 hb
      refine x_aload_n (pc := 93) d_S_find_93 rfl rfl ?_
      refine x_getR (k := 29) (ci := 4) (pc := 94) (t := 30) 3 d_S_find_94 cok4 rfl (Nat.lt_of_lt_of_le (by decide) hn) rfl (by decide) rfl (hR.at 29 3 rfl rfl) w_180 ?_
      refine x_iload_n (pc := 97) d_S_find_97 rfl rfl ?_
      refine x_iload (pc := 98) d_S_find_98 rfl ?_
      obtain ⟨h6, hvc⟩ := hvc
      refine x_iast (N := 4) (pc := 100) d_S_find_100 (Nat.lt_of_lt_of_le (by decide) hn) rfl (by decide) h6.1 h6.2 (fun M1 eM1 => ?_)
      have hvc := hvc M1 eM1
      refine x_aload_n (pc := 101) d_S_find_101 rfl rfl ?_
      refine x_aload_n (pc := 102) d_S_find_102 rfl rfl ?_
      refine x_getR (k := 29) (ci := 4) (pc := 103) (t := 30) 3 d_S_find_103 cok4 rfl (Nat.lt_of_lt_of_le (by decide) hn) rfl (by decide) rfl (hR.at 29 3 rfl rfl) w_180 ?_
      refine x_iload (pc := 106) d_S_find_106 rfl ?_
      refine y_callVv m_N_add 2 65 32 5 4 [_, _] [] rfl (pc := 108) d_S_find_108 ok_N_add w_454 w_455 w_456 pn_N_add (Nat.lt_of_lt_of_le (by decide) hn) rfl rfl (by decide) (Nat.le_of_ble_eq_true rfl) (Nat.le_refl _) (Nat.le_refl _) hvc (fun M2 hvc => ?_)
      refine x_iinc (pc := 111) d_S_find_111 rfl (by decide) ?_
      refine x_goto (tgt := 53) (pc := 114) d_S_find_114 rfl ?_
      exact x_locals (xmask [true, true, true, true, true, true, true, false] _) (xmask_sub _ _) (hvc Q hQ)
set_option maxRecDepth 20000 in
theorem E_S_find_1 {n : Nat} {R : xR} {M : xM} {P : xM → Prop} (hn : 78 ≤ n) (hR : RC 78 R) {l1 : Int} (h : Xv m_S_find 3 n R P 0 [some (vr 29), some (vi l1), some (vr 32), none, none, none, none, none] [] M) : Cv m_S_find 3 n R [vr 29, vi l1, vr 32] M P :=
  Cv.of [some (vr 29), some (vi l1), some (vr 32), none, none, none, none, none] (by decide) rfl (Nat.le_of_ble_eq_true rfl) rfl h
set_option maxRecDepth 20000 in
theorem B_S_find_2_0 {n : Nat} {R : xR} {M : xM} {P : xM → Prop} (hn : 78 ≤ n) (hR : RC 78 R) {l1 : Int} (hvc : (∀ M1 : xM, M1 = xU M 36 1 0 → Xv m_S_find 3 n R P 31 [some (vr 29), some (vi l1), some (vr 36), some (vi ((M1 5 3) - 1)), some (vi (xShl 1 ((M1 1 0) * ((M1 5 3) - 1)))), some (vi 0), none, none] [] M1)) : Xv m_S_find 3 n R P 0 [some (vr 29), some (vi l1), some (vr 36), none, none, none, none, none] [] M := by
  intro Q hQ
  refine x_aload_n (pc := 0) d_S_find_0 rfl rfl ?_
  refine x_iconst (pc := 1) d_S_find_1 ?_
  refine x_putIN (k := 36) (ci := 5) (pc := 2) 1 d_S_find_2 cok5 rfl (Nat.lt_of_lt_of_le (by decide) hn) rfl (by decide) rfl rfl rfl w_204 (fun M1 eM1 => ?_)
  have hvc := hvc M1 eM1
  refine x_aload_n (pc := 5) d_S_find_5 rfl rfl ?_
  refine x_getR (k := 29) (ci := 4) (pc := 6) (t := 5) 1 d_S_find_6 cok4 rfl (Nat.lt_of_lt_of_le (by decide) hn) rfl (by decide) rfl (hR.at 29 1 rfl rfl) w_178 ?_
  refine x_getIN (k := 5) (ci := 2) (pc := 9) 3 d_S_find_9 cok2 rfl (Nat.lt_of_lt_of_le (by decide) hn) rfl (by decide) rfl w_104 ?_
  refine x_iconst (pc := 12) d_S_find_12 ?_
  refine x_isub (pc := 13) d_S_find_13 ?_
  refine x_istore_n (pc := 14) d_S_find_14 rfl (by decide) ?_
  refine x_iconst (pc := 15) d_S_find_15 ?_
  refine x_aload_n (pc := 16) d_S_find_16 rfl rfl ?_
  refine x_getR (k := 29) (ci := 4) (pc := 17) (t := 1) 0 d_S_find_17 cok4 rfl (Nat.lt_of_lt_of_le (by decide) hn) rfl (by decide) rfl (hR.at 29 0 rfl rfl) w_177 ?_
  refine x_getIN (k := 1) (ci := 1) (pc := 20) 0 d_S_find_20 cok1 rfl (Nat.lt_of_lt_of_le (by decide) hn) rfl (by decide) rfl w_66 ?_
  refine x_iload_n (pc := 23) d_S_find_23 rfl rfl ?_
  refine x_imul (pc := 24) d_S_find_24 ?_
  refine x_ishl (pc := 25) d_S_find_25 ?_
  refine x_istore (pc := 26) d_S_find_26 (by decide) ?_
  refine x_iconst (pc := 28) d_S_find_28 ?_
  refine x_istore (pc := 29) d_S_find_29 (by decide) ?_
  exact x_locals (xmask [true, true, true, true, true, true, false, false] _) (xmask_sub _ _) (hvc Q hQ)
set_option maxRecDepth 20000 in
theorem B_S_find_2_31 {n : Nat} {R : xR} {M : xM} {P : xM → Prop} (hn : 78 ≤ n) (hR : RC 78 R) {l1 l3 l4 l5 : Int} (hvc : (-2147483648 ≤ l5 ∧ l5 < 2147483648) ∧ (-2147483648 ≤ l4 ∧ l4 < 2147483648) ∧ ((l4 ≤ l5 → P M) ∧ (¬ l4 ≤ l5 → Cv m_S_setStart 0 n R [vr 29, vi l5, vi l3] M (fun M1 => Cv m_S_countVotes 2 n R [vr 29, vi l3] M1 (fun M2 => Xv m_S_find 3 n R P 53 [some (vr 29), some (vi l1), some (vr 36), some (vi l3), some (vi l4), some (vi l5), some (vi 0), none] [] M2))))) : Xv m_S_find 3 n R P 31 [some (vr 29), some (vi l1), some (vr 36), some (vi l3), some (vi l4), some (vi l5), none, none] [] M := by
  intro Q hQ
  refine x_iload (pc := 31) d_S_find_31 rfl ?_
  refine x_iload (pc := 33) d_S_find_33 rfl ?_
  obtain ⟨h1, hvc⟩ := hvc
  obtain ⟨h2, hvc⟩ := hvc
  refine x_icmp_ge (tgt := 123) (pc := 35) d_S_find_35 rfl h1 h2 (fun hb => ?_) (fun hb => ?_)
  · have hvc := hvc.1 hb
    exact x_vret (pc := 123) d_S_find_123 rfl rfl (Nat.le_refl _) (hQ _ hvc)
  · have hvc := hvc.2 hb
    refine x_aload_n (pc := 38) d_S_find_38 rfl rfl ?_
    refine x_iload (pc := 39) d_S_find_39 rfl ?_
    refine x_iload_n (pc := 41) d_S_find_41 rfl rfl ?_
    refine y_callVv m_S_setStart 0 46 29 4 6 [_, _] [] rfl (pc := 42) d_S_find_42 ok_S_setStart w_444 w_446 w_10 pn_S_setStart (Nat.lt_of_lt_of_le (by decide) hn) rfl rfl (by decide) (Nat.le_of_ble_eq_true rfl) (Nat.le_refl _) (Nat.le_refl _) hvc (fun M1 hvc => ?_)
    refine x_aload_n (pc := 45) d_S_find_45 rfl rfl ?_
    refine x_iload_n (pc := 46) d_S_find_46 rfl rfl ?_
    refine y_callVv m_S_countVotes 2 50 29 4 6 [_] [] rfl (pc := 47) d_S_find_47 ok_S_countVotes w_448 w_450 w_11 pn_S_countVotes (Nat.lt_of_lt_of_le (by decide) hn) rfl rfl (by decide) (Nat.le_of_ble_eq_true rfl) (Nat.le_refl _) (Nat.le_refl _) hvc (fun M2 hvc => ?_)
    refine x_iconst (pc := 50) d_S_find_50 ?_
    refine x_istore (pc := 51) d_S_find_51 (by decide) ?_
    exact x_locals (xmask [true, true, true, true, true, true, true, false] _) (xmask_sub _ _) (hvc Q hQ)
set_option maxRecDepth 20000 in
theorem B_S_find_2_53 {n : Nat} {R : xR} {M : xM} {P : xM → Prop} (hn : 78 ≤ n) (hR : RC 78 R) {l1 l3 l4 l5 l6 : Int} (hvc : (-2147483648 ≤ l6 ∧ l6 < 2147483648) ∧ (-2147483648 ≤ M 1 1 ∧ M 1 1 < 2147483648) ∧ (((M 1 1) ≤ l6 → Xv m_S_find 3 n R P 31 [some (vr 29), some (vi l1), some (vr 36), some (vi l3), some (vi l4), some (vi (l5 + 1)), none, none] [] M) ∧ (¬ (M 1 1) ≤ l6 → (0 ≤ l6 ∧ l6 < 32) ∧ (-2147483648 ≤ ((M 26 0) - (M 29 5)) - (M 31 l6.toNat) ∧ ((M 26 0) - (M 29 5)) - (M 31 l6.toNat) < 2147483648) ∧ (-2147483648 ≤ l1 ∧ l1 < 2147483648) ∧ ((l1 < (((M 26 0) - (M 29 5)) - (M 31 l6.toNat)) → Xv m_S_find 3 n R P 53 [some (vr 29), some (vi l1), some (vr 36), some (vi l3), some (vi l4), some (vi l5), some (vi (l6 + 1)), none] [] M) ∧ (¬ l1 < (((M 26 0) - (M 29 5)) - (M 31 l6.toNat)) → (0 ≤ l3 ∧ l3 < 4) ∧ (∀ M1 : xM, M1 = xU M 30 l3.toNat l6 → Cv m_N_add 2 n R [vr 36, vr 30, vi (((M 26 0) - (M 29 5)) - (M 31 l6.toNat))] M1 (fun M2 => Xv m_S_find 3 n R P 53 [some (vr 29), some (vi l1), some (vr 36), some (vi l3), some (vi l4), some (vi l5), some (vi (l6 + 1)), none] [] M2))))))) : Xv m_S_find 3 n R P 53 [some (vr 29), some (vi l1), some (vr 36), some (vi l3), some (vi l4), some (vi l5), some (vi l6), none] [] M := by
  intro Q hQ
  refine x_iload (pc := 53) d_S_find_53 rfl ?_
  refine x_aload_n (pc := 55) d_S_find_55 rfl rfl ?_
  refine x_getR (k := 29) (ci := 4) (pc := 56) (t := 1) 0 d_S_find_56 cok4 rfl (Nat.lt_of_lt_of_le (by decide) hn) rfl (by decide) rfl (hR.at 29 0 rfl rfl) w_177 ?_
  refine x_getIN (k := 1) (ci := 1) (pc := 59) 1 d_S_find_59 cok1 rfl (Nat.lt_of_lt_of_le (by decide) hn) rfl (by decide) rfl w_69 ?_
  obtain ⟨h1, hvc⟩ := hvc
  obtain ⟨h2, hvc⟩ := hvc
  refine x_icmp_ge (tgt := 117) (pc := 62) d_S_find_62 rfl h1 h2 (fun hb => ?_) (fun hb => ?_)
  · have hvc := hvc.1 hb
    refine x_iinc (pc := 117) d_S_find_117 rfl (by decide) ?_
    refine x_goto (tgt := 31) (pc := 120) d_S_find_120 rfl ?_
    exact x_locals (xmask [true, true, true, true, true, true, false, false] _) (xmask_sub _ _) (hvc Q hQ)
  · have hvc := hvc.2 hb
    refine x_aload_n (pc := 65) d_S_find_65 rfl rfl ?_
    refine x_getR (k := 29) (ci := 4) (pc := 66) (t := 26) 2 d_S_find_66 cok4 rfl (Nat.lt_of_lt_of_le (by decide) hn) rfl (by decide) rfl (hR.at 29 2 rfl rfl) w_179 ?_
    refine x_getIN (k := 26) (ci := 3) (pc := 69) 0 d_S_find_69 cok3 rfl (Nat.lt_of_lt_of_le (by decide) hn) rfl (by decide) rfl w_153 ?_
    refine x_aload_n (pc := 72) d_S_find_72 rfl rfl ?_
    refine x_getI (k := 29) (ci := 4) (pc := 73) 5 d_S_find_73 cok4 rfl (Nat.lt_of_lt_of_le (by decide) hn) rfl (by decide) rfl w_182 ?_
    refine x_isub (pc := 76) d_S_find_76 ?_
    refine x_aload_n (pc := 77) d_S_find_77 rfl rfl ?_
    refine x_getR (k := 29) (ci := 4) (pc := 78) (t := 31) 4 d_S_find_78 cok4 rfl (Nat.lt_of_lt_of_le (by decide) hn) rfl (by decide) rfl (hR.at 29 4 rfl rfl) w_181 ?_
    refine x_iload (pc := 81) d_S_find_81 rfl ?_
    obtain ⟨h3, hvc⟩ := hvc
    refine x_iald (N := 32) (pc := 83) d_S_find_83 (Nat.lt_of_lt_of_le (by decide) hn) rfl (by decide) h3.1 h3.2 ?_
    refine x_isub (pc := 84) d_S_find_84 ?_
    refine x_istore (pc := 85) d_S_find_85 (by decide) ?_
    refine x_iload (pc := 87) d_S_find_87 rfl ?_
    refine x_iload_n (pc := 89) d_S_find_89 rfl rfl ?_
    obtain ⟨h4, hvc⟩ := hvc
    obtain ⟨h5, hvc⟩ := hvc
    refine x_icmp_gt (tgt := 111) (pc := 90) d_S_find_90 rfl h4 h5 (fun hb => ?_) (fun hb => ?_)
    · have hvc := hvc.1 hb
      refine x_iinc (pc := 111) d_S_find_111 rfl (by decide) ?_
      refine x_goto (tgt := 53) (pc := 114) d_S_find_114 rfl ?_
      exact x_locals (xmask [true, true, true, true, true, true, true, false] _) (xmask_sub _ _) (hvc Q hQ)
    · have hvc := hvc.2 hb
      refine x_aload_n (pc := 93) d_S_find_93 rfl rfl ?_
      refine x_getR (k := 29) (ci := 4) (pc := 94) (t := 30) 3 d_S_find_94 cok4 rfl (Nat.lt_of_lt_of_le (by decide) hn) rfl (by decide) rfl (hR.at 29 3 rfl rfl) w_180 ?_
      refine x_iload_n (pc := 97) d_S_find_97 rfl rfl ?_
      refine x_iload (pc := 98) d_S_find_98 rfl ?_
      obtain ⟨h6, hvc⟩ := hvc
      refine x_iast (N := 4) (pc := 100) d_S_find_100 (Nat.lt_of_lt_of_le (by decide) hn) rfl (by decide) h6.1 h6.2 (fun M1 eM1 => ?_)
      have hvc := hvc M1 eM1
      refine x_aload_n (pc := 101) d_S_find_101 rfl rfl ?_
      refine x_aload_n (pc := 102) d_S_find_102 rfl rfl ?_
      refine x_getR (k := 29) (ci := 4) (pc := 103) (t := 30) 3 d_S_find_103 cok4 rfl (Nat.lt_of_lt_of_le (by decide) hn) rfl (by decide) rfl (hR.at 29 3 rfl rfl) w_180 ?_
      refine x_iload (pc := 106) d_S_find_106 rfl ?_
      refine y_callVv m_N_add 2 65 36 5 4 [_, _] [] rfl (pc := 108) d_S_find_108 ok_N_add w_454 w_455 w_456 pn_N_add (Nat.lt_of_lt_of_le (by decide) hn) rfl rfl (by decide) (Nat.le_of_ble_eq_true rfl) (Nat.le_refl _) (Nat.le_refl _) hvc (fun M2 hvc => ?_)
      refine x_iinc (pc := 111) d_S_find_111 rfl (by decide) ?_
      refine x_goto (tgt := 53) (pc := 114) d_S_find_114 rfl ?_
      exact x_locals (xmask [true, true, true, true, true, true, true, false] _) (xmask_sub _ _) (hvc Q hQ)
set_option maxRecDepth 20000 in
theorem E_S_find_2 {n : Nat} {R : xR} {M : xM} {P : xM → Prop} (hn : 78 ≤ n) (hR : RC 78 R) {l1 : Int} (h : Xv m_S_find 3 n R P 0 [some (vr 29), some (vi l1), some (vr 36), none, none, none, none, none] [] M) : Cv m_S_find 3 n R [vr 29, vi l1, vr 36] M P :=
  Cv.of [some (vr 29), some (vi l1), some (vr 36), none, none, none, none, none] (by decide) rfl (Nat.le_of_ble_eq_true rfl) rfl h
