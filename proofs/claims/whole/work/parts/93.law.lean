/-! the law: its cases -/
theorem xin_i (x : Int32) : xin x.toInt := ⟨Int32.le_toInt x, Int32.toInt_lt x⟩
set_option maxRecDepth 20000 in
theorem La_0 {ms su : Nat} {R : xR} {M : xM} {Lx : Nat} {xs : Nat → Int32} {Q : Option AV → xR → xM → Prop} {i : Int} (hR : RC 93 R) (hL : LI M) (h0 : 0 ≤ i) (h4 : i + 4 ≤ Lx) (hLx : Lx < 2147483648) (hsu : su ≤ ms) (kk : ∀ M2, LI M2 → xX (some (Lx, xs)) m_L_law 7 0 93 ms Q 690 [some vs, some (vr 0), some (vr 78), some (vi i)] [] 93 su R M2) : xX (some (Lx, xs)) m_L_law 7 0 93 ms Q 128 [some vs, some (vr 0), some (vr 78), some (vi i)] [] 93 su R M := by
  refine x_aload_n (pc := 128) d_L_law_128 rfl rfl ?_
  refine x_aloads_n (pc := 129) d_L_law_129 rfl rfl ?_
  refine x_iload_n (pc := 130) d_L_law_130 rfl rfl ?_
  refine x_iconst (pc := 131) d_L_law_131 ?_
  refine x_iadd (pc := 132) d_L_law_132 ?_
  refine x_sld (pc := 133) rfl d_L_law_133 hLx (by omega) (by show _ < (Lx : Int); omega) ?_
  refine y_callVi m_D_field 6 13 0 0 9 [_] [] rfl (pc := 134) d_L_law_134 ok_D_field w_354 w_355 w_356 pn_D_field (Nat.le_of_ble_eq_true rfl) rfl rfl (by decide) (Nat.le_of_ble_eq_true rfl) (Nat.le_refl _) hsu (l_field (Nat.le_of_ble_eq_true rfl) hR hL (xin_i _)) (fun z1 M1 h1 => ?_)
  refine x_aload_n (pc := 137) d_L_law_137 rfl rfl ?_
  refine x_aloads_n (pc := 138) d_L_law_138 rfl rfl ?_
  refine x_iload_n (pc := 139) d_L_law_139 rfl rfl ?_
  refine x_iconst (pc := 140) d_L_law_140 ?_
  refine x_iadd (pc := 141) d_L_law_141 ?_
  refine x_sld (pc := 142) rfl d_L_law_142 hLx (by omega) (by show _ < (Lx : Int); omega) ?_
  refine y_callVi m_M_field 2 17 78 7 21 [_] [_] rfl (pc := 143) d_L_law_143 ok_M_field w_628 w_629 w_630 pn_M_field (Nat.le_of_ble_eq_true rfl) rfl rfl (by decide) (Nat.le_of_ble_eq_true rfl) (Nat.le_refl _) hsu h1 (fun z2 M2 h2 => ?_)
  obtain ⟨e, hz1, hL2⟩ := h2
  exact x_icmp_eq (tgt := 690) (pc := 146) d_L_law_146 rfl hz1 (e ▸ hz1) (fun _ => kk _ hL2) (fun q => absurd e q)
set_option maxRecDepth 20000 in
theorem La_1 {ms su : Nat} {R : xR} {M : xM} {Lx : Nat} {xs : Nat → Int32} {Q : Option AV → xR → xM → Prop} {i : Int} (hR : RC 93 R) (hL : LI M) (h0 : 0 ≤ i) (h4 : i + 4 ≤ Lx) (hLx : Lx < 2147483648) (hsu : su ≤ ms) (kk : ∀ M2, LI M2 → xX (some (Lx, xs)) m_L_law 7 0 93 ms Q 690 [some vs, some (vr 0), some (vr 78), some (vi i)] [] 93 su R M2) : xX (some (Lx, xs)) m_L_law 7 0 93 ms Q 151 [some vs, some (vr 0), some (vr 78), some (vi i)] [] 93 su R M := by
  refine x_aload_n (pc := 151) d_L_law_151 rfl rfl ?_
  refine x_aloads_n (pc := 152) d_L_law_152 rfl rfl ?_
  refine x_iload_n (pc := 153) d_L_law_153 rfl rfl ?_
  refine x_iconst (pc := 154) d_L_law_154 ?_
  refine x_iadd (pc := 155) d_L_law_155 ?_
  refine x_sld (pc := 156) rfl d_L_law_156 hLx (by omega) (by show _ < (Lx : Int); omega) ?_
  refine x_aloads_n (pc := 157) d_L_law_157 rfl rfl ?_
  refine x_iload_n (pc := 158) d_L_law_158 rfl rfl ?_
  refine x_iconst (pc := 159) d_L_law_159 ?_
  refine x_iadd (pc := 160) d_L_law_160 ?_
  refine x_sld (pc := 161) rfl d_L_law_161 hLx (by omega) (by show _ < (Lx : Int); omega) ?_
  refine y_callVi m_D_times 1 18 0 0 9 [_, _] [] rfl (pc := 162) d_L_law_162 ok_D_times w_361 w_362 w_363 pn_D_times (Nat.le_of_ble_eq_true rfl) rfl rfl (by decide) (Nat.le_of_ble_eq_true rfl) (Nat.le_refl _) hsu (l_times (Nat.le_of_ble_eq_true rfl) hR hL (xin_i _) (xin_i _)) (fun z1 M1 h1 => ?_)
  refine x_aload_n (pc := 165) d_L_law_165 rfl rfl ?_
  refine x_aloads_n (pc := 166) d_L_law_166 rfl rfl ?_
  refine x_iload_n (pc := 167) d_L_law_167 rfl rfl ?_
  refine x_iconst (pc := 168) d_L_law_168 ?_
  refine x_iadd (pc := 169) d_L_law_169 ?_
  refine x_sld (pc := 170) rfl d_L_law_170 hLx (by omega) (by show _ < (Lx : Int); omega) ?_
  refine x_aloads_n (pc := 171) d_L_law_171 rfl rfl ?_
  refine x_iload_n (pc := 172) d_L_law_172 rfl rfl ?_
  refine x_iconst (pc := 173) d_L_law_173 ?_
  refine x_iadd (pc := 174) d_L_law_174 ?_
  refine x_sld (pc := 175) rfl d_L_law_175 hLx (by omega) (by show _ < (Lx : Int); omega) ?_
  refine y_callVi m_M_times 1 22 78 7 21 [_, _] [_] rfl (pc := 176) d_L_law_176 ok_M_times w_635 w_636 w_637 pn_M_times (Nat.le_of_ble_eq_true rfl) rfl rfl (by decide) (Nat.le_of_ble_eq_true rfl) (Nat.le_refl _) hsu h1 (fun z2 M2 h2 => ?_)
  obtain ⟨e, hz1, hL2⟩ := h2
  exact x_icmp_eq (tgt := 690) (pc := 179) d_L_law_179 rfl hz1 (e ▸ hz1) (fun _ => kk _ hL2) (fun q => absurd e q)
set_option maxRecDepth 20000 in
theorem La_2 {ms su : Nat} {R : xR} {M : xM} {Lx : Nat} {xs : Nat → Int32} {Q : Option AV → xR → xM → Prop} {i : Int} (hR : RC 93 R) (hL : LI M) (h0 : 0 ≤ i) (h4 : i + 4 ≤ Lx) (hLx : Lx < 2147483648) (hsu : su ≤ ms) (kk : ∀ M2, LI M2 → xX (some (Lx, xs)) m_L_law 7 0 93 ms Q 690 [some vs, some (vr 0), some (vr 78), some (vi i)] [] 93 su R M2) : xX (some (Lx, xs)) m_L_law 7 0 93 ms Q 184 [some vs, some (vr 0), some (vr 78), some (vi i)] [] 93 su R M := by
  refine x_aload_n (pc := 184) d_L_law_184 rfl rfl ?_
  refine x_aloads_n (pc := 185) d_L_law_185 rfl rfl ?_
  refine x_iload_n (pc := 186) d_L_law_186 rfl rfl ?_
  refine x_iconst (pc := 187) d_L_law_187 ?_
  refine x_iadd (pc := 188) d_L_law_188 ?_
  refine x_sld (pc := 189) rfl d_L_law_189 hLx (by omega) (by show _ < (Lx : Int); omega) ?_
  refine x_aloads_n (pc := 190) d_L_law_190 rfl rfl ?_
  refine x_iload_n (pc := 191) d_L_law_191 rfl rfl ?_
  refine x_iconst (pc := 192) d_L_law_192 ?_
  refine x_iadd (pc := 193) d_L_law_193 ?_
  refine x_sld (pc := 194) rfl d_L_law_194 hLx (by omega) (by show _ < (Lx : Int); omega) ?_
  refine y_callVi m_D_over 1 23 0 0 9 [_, _] [] rfl (pc := 195) d_L_law_195 ok_D_over w_370 w_371 w_372 pn_D_over (Nat.le_of_ble_eq_true rfl) rfl rfl (by decide) (Nat.le_of_ble_eq_true rfl) (Nat.le_refl _) hsu (l_over (Nat.le_of_ble_eq_true rfl) hR hL (xin_i _) (xin_i _)) (fun z1 M1 h1 => ?_)
  refine x_aload_n (pc := 198) d_L_law_198 rfl rfl ?_
  refine x_aloads_n (pc := 199) d_L_law_199 rfl rfl ?_
  refine x_iload_n (pc := 200) d_L_law_200 rfl rfl ?_
  refine x_iconst (pc := 201) d_L_law_201 ?_
  refine x_iadd (pc := 202) d_L_law_202 ?_
  refine x_sld (pc := 203) rfl d_L_law_203 hLx (by omega) (by show _ < (Lx : Int); omega) ?_
  refine x_aloads_n (pc := 204) d_L_law_204 rfl rfl ?_
  refine x_iload_n (pc := 205) d_L_law_205 rfl rfl ?_
  refine x_iconst (pc := 206) d_L_law_206 ?_
  refine x_iadd (pc := 207) d_L_law_207 ?_
  refine x_sld (pc := 208) rfl d_L_law_208 hLx (by omega) (by show _ < (Lx : Int); omega) ?_
  refine y_callVi m_M_over 1 26 78 7 21 [_, _] [_] rfl (pc := 209) d_L_law_209 ok_M_over w_643 w_644 w_645 pn_M_over (Nat.le_of_ble_eq_true rfl) rfl rfl (by decide) (Nat.le_of_ble_eq_true rfl) (Nat.le_refl _) hsu h1 (fun z2 M2 h2 => ?_)
  obtain ⟨e, hz1, hL2⟩ := h2
  exact x_icmp_eq (tgt := 690) (pc := 212) d_L_law_212 rfl hz1 (e ▸ hz1) (fun _ => kk _ hL2) (fun q => absurd e q)
set_option maxRecDepth 20000 in
theorem La_3 {ms su : Nat} {R : xR} {M : xM} {Lx : Nat} {xs : Nat → Int32} {Q : Option AV → xR → xM → Prop} {i : Int} (hR : RC 93 R) (hL : LI M) (h0 : 0 ≤ i) (h4 : i + 4 ≤ Lx) (hLx : Lx < 2147483648) (hsu : su ≤ ms) (kk : ∀ M2, LI M2 → xX (some (Lx, xs)) m_L_law 7 0 93 ms Q 690 [some vs, some (vr 0), some (vr 78), some (vi i)] [] 93 su R M2) : xX (some (Lx, xs)) m_L_law 7 0 93 ms Q 217 [some vs, some (vr 0), some (vr 78), some (vi i)] [] 93 su R M := by
  refine x_aload_n (pc := 217) d_L_law_217 rfl rfl ?_
  refine x_aloads_n (pc := 218) d_L_law_218 rfl rfl ?_
  refine x_iload_n (pc := 219) d_L_law_219 rfl rfl ?_
  refine x_iconst (pc := 220) d_L_law_220 ?_
  refine x_iadd (pc := 221) d_L_law_221 ?_
  refine x_sld (pc := 222) rfl d_L_law_222 hLx (by omega) (by show _ < (Lx : Int); omega) ?_
  refine y_callVi m_D_log 1 27 0 0 9 [_] [] rfl (pc := 223) d_L_law_223 ok_D_log w_375 w_376 w_377 pn_D_log (Nat.le_of_ble_eq_true rfl) rfl rfl (by decide) (Nat.le_of_ble_eq_true rfl) (Nat.le_refl _) hsu (l_log (Nat.le_of_ble_eq_true rfl) hR hL (xin_i _)) (fun z1 M1 h1 => ?_)
  refine x_aload_n (pc := 226) d_L_law_226 rfl rfl ?_
  refine x_aloads_n (pc := 227) d_L_law_227 rfl rfl ?_
  refine x_iload_n (pc := 228) d_L_law_228 rfl rfl ?_
  refine x_iconst (pc := 229) d_L_law_229 ?_
  refine x_iadd (pc := 230) d_L_law_230 ?_
  refine x_sld (pc := 231) rfl d_L_law_231 hLx (by omega) (by show _ < (Lx : Int); omega) ?_
  refine y_callVi m_M_log 1 30 78 7 21 [_] [_] rfl (pc := 232) d_L_law_232 ok_M_log w_651 w_652 w_653 pn_M_log (Nat.le_of_ble_eq_true rfl) rfl rfl (by decide) (Nat.le_of_ble_eq_true rfl) (Nat.le_refl _) hsu h1 (fun z2 M2 h2 => ?_)
  obtain ⟨e, hz1, hL2⟩ := h2
  exact x_icmp_eq (tgt := 690) (pc := 235) d_L_law_235 rfl hz1 (e ▸ hz1) (fun _ => kk _ hL2) (fun q => absurd e q)
set_option maxRecDepth 20000 in
theorem La_4 {ms su : Nat} {R : xR} {M : xM} {Lx : Nat} {xs : Nat → Int32} {Q : Option AV → xR → xM → Prop} {i : Int} (hR : RC 93 R) (hL : LI M) (h0 : 0 ≤ i) (h4 : i + 4 ≤ Lx) (hLx : Lx < 2147483648) (hsu : su ≤ ms) (kk : ∀ M2, LI M2 → xX (some (Lx, xs)) m_L_law 7 0 93 ms Q 690 [some vs, some (vr 0), some (vr 78), some (vi i)] [] 93 su R M2) : xX (some (Lx, xs)) m_L_law 7 0 93 ms Q 240 [some vs, some (vr 0), some (vr 78), some (vi i)] [] 93 su R M := by
  refine x_aload_n (pc := 240) d_L_law_240 rfl rfl ?_
  refine x_aloads_n (pc := 241) d_L_law_241 rfl rfl ?_
  refine x_iload_n (pc := 242) d_L_law_242 rfl rfl ?_
  refine x_iconst (pc := 243) d_L_law_243 ?_
  refine x_iadd (pc := 244) d_L_law_244 ?_
  refine x_sld (pc := 245) rfl d_L_law_245 hLx (by omega) (by show _ < (Lx : Int); omega) ?_
  refine x_aloads_n (pc := 246) d_L_law_246 rfl rfl ?_
  refine x_iload_n (pc := 247) d_L_law_247 rfl rfl ?_
  refine x_iconst (pc := 248) d_L_law_248 ?_
  refine x_iadd (pc := 249) d_L_law_249 ?_
  refine x_sld (pc := 250) rfl d_L_law_250 hLx (by omega) (by show _ < (Lx : Int); omega) ?_
  refine x_aloads_n (pc := 251) d_L_law_251 rfl rfl ?_
  refine x_iload_n (pc := 252) d_L_law_252 rfl rfl ?_
  refine x_iconst (pc := 253) d_L_law_253 ?_
  refine x_iadd (pc := 254) d_L_law_254 ?_
  refine x_sld (pc := 255) rfl d_L_law_255 hLx (by omega) (by show _ < (Lx : Int); omega) ?_
  refine y_callVi m_D_code 5 31 0 0 9 [_, _, _] [] rfl (pc := 256) d_L_law_256 ok_D_code w_379 w_380 w_381 pn_D_code (Nat.le_of_ble_eq_true rfl) rfl rfl (by decide) (Nat.le_of_ble_eq_true rfl) (Nat.le_refl _) hsu (l_code (Nat.le_of_ble_eq_true rfl) hR hL (xin_i _) (xin_i _) (xin_i _)) (fun z1 M1 h1 => ?_)
  refine x_aload_n (pc := 259) d_L_law_259 rfl rfl ?_
  refine x_aloads_n (pc := 260) d_L_law_260 rfl rfl ?_
  refine x_iload_n (pc := 261) d_L_law_261 rfl rfl ?_
  refine x_iconst (pc := 262) d_L_law_262 ?_
  refine x_iadd (pc := 263) d_L_law_263 ?_
  refine x_sld (pc := 264) rfl d_L_law_264 hLx (by omega) (by show _ < (Lx : Int); omega) ?_
  refine x_aloads_n (pc := 265) d_L_law_265 rfl rfl ?_
  refine x_iload_n (pc := 266) d_L_law_266 rfl rfl ?_
  refine x_iconst (pc := 267) d_L_law_267 ?_
  refine x_iadd (pc := 268) d_L_law_268 ?_
  refine x_sld (pc := 269) rfl d_L_law_269 hLx (by omega) (by show _ < (Lx : Int); omega) ?_
  refine x_aloads_n (pc := 270) d_L_law_270 rfl rfl ?_
  refine x_iload_n (pc := 271) d_L_law_271 rfl rfl ?_
  refine x_iconst (pc := 272) d_L_law_272 ?_
  refine x_iadd (pc := 273) d_L_law_273 ?_
  refine x_sld (pc := 274) rfl d_L_law_274 hLx (by omega) (by show _ < (Lx : Int); omega) ?_
  refine y_callVi m_M_code 1 35 78 7 21 [_, _, _] [_] rfl (pc := 275) d_L_law_275 ok_M_code w_655 w_656 w_657 pn_M_code (Nat.le_of_ble_eq_true rfl) rfl rfl (by decide) (Nat.le_of_ble_eq_true rfl) (Nat.le_refl _) hsu h1 (fun z2 M2 h2 => ?_)
  obtain ⟨e, hz1, hL2⟩ := h2
  exact x_icmp_eq (tgt := 690) (pc := 278) d_L_law_278 rfl hz1 (e ▸ hz1) (fun _ => kk _ hL2) (fun q => absurd e q)
set_option maxRecDepth 20000 in
theorem La_5 {ms su : Nat} {R : xR} {M : xM} {Lx : Nat} {xs : Nat → Int32} {Q : Option AV → xR → xM → Prop} {i : Int} (hR : RC 93 R) (hL : LI M) (h0 : 0 ≤ i) (h4 : i + 4 ≤ Lx) (hLx : Lx < 2147483648) (hsu : su ≤ ms) (kk : ∀ M2, LI M2 → xX (some (Lx, xs)) m_L_law 7 0 93 ms Q 690 [some vs, some (vr 0), some (vr 78), some (vi i)] [] 93 su R M2) : xX (some (Lx, xs)) m_L_law 7 0 93 ms Q 283 [some vs, some (vr 0), some (vr 78), some (vi i)] [] 93 su R M := by
  refine x_aload_n (pc := 283) d_L_law_283 rfl rfl ?_
  refine x_aloads_n (pc := 284) d_L_law_284 rfl rfl ?_
  refine x_iload_n (pc := 285) d_L_law_285 rfl rfl ?_
  refine x_iconst (pc := 286) d_L_law_286 ?_
  refine x_iadd (pc := 287) d_L_law_287 ?_
  refine x_sld (pc := 288) rfl d_L_law_288 hLx (by omega) (by show _ < (Lx : Int); omega) ?_
  refine x_aloads_n (pc := 289) d_L_law_289 rfl rfl ?_
  refine x_iload_n (pc := 290) d_L_law_290 rfl rfl ?_
  refine x_iconst (pc := 291) d_L_law_291 ?_
  refine x_iadd (pc := 292) d_L_law_292 ?_
  refine x_sld (pc := 293) rfl d_L_law_293 hLx (by omega) (by show _ < (Lx : Int); omega) ?_
  refine y_callVi m_D_tell 1 36 0 0 9 [_, _] [] rfl (pc := 294) d_L_law_294 ok_D_tell w_383 w_384 w_385 pn_D_tell (Nat.le_of_ble_eq_true rfl) rfl rfl (by decide) (Nat.le_of_ble_eq_true rfl) (Nat.le_refl _) hsu (l_tell (Nat.le_of_ble_eq_true rfl) hR hL (xin_i _) (xin_i _)) (fun z1 M1 h1 => ?_)
  refine x_aload_n (pc := 297) d_L_law_297 rfl rfl ?_
  refine x_aloads_n (pc := 298) d_L_law_298 rfl rfl ?_
  refine x_iload_n (pc := 299) d_L_law_299 rfl rfl ?_
  refine x_iconst (pc := 300) d_L_law_300 ?_
  refine x_iadd (pc := 301) d_L_law_301 ?_
  refine x_sld (pc := 302) rfl d_L_law_302 hLx (by omega) (by show _ < (Lx : Int); omega) ?_
  refine x_aloads_n (pc := 303) d_L_law_303 rfl rfl ?_
  refine x_iload_n (pc := 304) d_L_law_304 rfl rfl ?_
  refine x_iconst (pc := 305) d_L_law_305 ?_
  refine x_iadd (pc := 306) d_L_law_306 ?_
  refine x_sld (pc := 307) rfl d_L_law_307 hLx (by omega) (by show _ < (Lx : Int); omega) ?_
  refine y_callVi m_M_tell 1 40 78 7 21 [_, _] [_] rfl (pc := 308) d_L_law_308 ok_M_tell w_659 w_660 w_661 pn_M_tell (Nat.le_of_ble_eq_true rfl) rfl rfl (by decide) (Nat.le_of_ble_eq_true rfl) (Nat.le_refl _) hsu h1 (fun z2 M2 h2 => ?_)
  obtain ⟨e, hz1, hL2⟩ := h2
  exact x_icmp_eq (tgt := 690) (pc := 311) d_L_law_311 rfl hz1 (e ▸ hz1) (fun _ => kk _ hL2) (fun q => absurd e q)
set_option maxRecDepth 20000 in
theorem La_6 {ms su : Nat} {R : xR} {M : xM} {Lx : Nat} {xs : Nat → Int32} {Q : Option AV → xR → xM → Prop} {i : Int} (hR : RC 93 R) (hL : LI M) (h0 : 0 ≤ i) (h4 : i + 4 ≤ Lx) (hLx : Lx < 2147483648) (hsu : su ≤ ms) (kk : ∀ M2, LI M2 → xX (some (Lx, xs)) m_L_law 7 0 93 ms Q 690 [some vs, some (vr 0), some (vr 78), some (vi i)] [] 93 su R M2) : xX (some (Lx, xs)) m_L_law 7 0 93 ms Q 316 [some vs, some (vr 0), some (vr 78), some (vi i)] [] 93 su R M := by
  by_cases hz : (xs (i + 1).toNat).toInt = 0
  · refine x_aload_n (pc := 316) d_L_law_316 rfl rfl ?_
    refine x_aloads_n (pc := 317) d_L_law_317 rfl rfl ?_
    refine x_iload_n (pc := 318) d_L_law_318 rfl rfl ?_
    refine x_iconst (pc := 319) d_L_law_319 ?_
    refine x_iadd (pc := 320) d_L_law_320 ?_
    refine x_sld (pc := 321) rfl d_L_law_321 hLx (by omega) (by show _ < (Lx : Int); omega) ?_
    refine x_if_eq (tgt := 329) (pc := 322) d_L_law_322 rfl (xin_i _) (fun _ => ?_) (fun hb => absurd hz hb)
    refine x_iconst (pc := 329) d_L_law_329 ?_
    refine y_callVi m_D_encode 2 41 0 0 9 [_] [] rfl (pc := 330) d_L_law_330 ok_D_encode w_391 w_392 w_393 pn_D_encode (Nat.le_of_ble_eq_true rfl) rfl rfl (by decide) (Nat.le_of_ble_eq_true rfl) (Nat.le_refl _) hsu (l_encode (Nat.le_of_ble_eq_true rfl) hR hL ⟨by decide, by decide⟩) (fun z1 M1 h1 => ?_)
    refine x_aload_n (pc := 333) d_L_law_333 rfl rfl ?_
    refine x_aloads_n (pc := 334) d_L_law_334 rfl rfl ?_
    refine x_iload_n (pc := 335) d_L_law_335 rfl rfl ?_
    refine x_iconst (pc := 336) d_L_law_336 ?_
    refine x_iadd (pc := 337) d_L_law_337 ?_
    refine x_sld (pc := 338) rfl d_L_law_338 hLx (by omega) (by show _ < (Lx : Int); omega) ?_
    refine x_if_eq (tgt := 346) (pc := 339) d_L_law_339 rfl (xin_i _) (fun _ => ?_) (fun hb => absurd hz hb)
    refine x_iconst (pc := 346) d_L_law_346 ?_
    refine y_callVi m_M_encode 3 45 78 7 21 [_] [_] rfl (pc := 347) d_L_law_347 ok_M_encode w_663 w_664 w_665 pn_M_encode (Nat.le_of_ble_eq_true rfl) rfl rfl (by decide) (Nat.le_of_ble_eq_true rfl) (Nat.le_refl _) hsu h1 (fun z2 M2 h2 => ?_)
    obtain ⟨e, hz1, hL2⟩ := h2
    exact x_icmp_eq (tgt := 690) (pc := 350) d_L_law_350 rfl hz1 (e ▸ hz1) (fun _ => kk _ hL2) (fun q => absurd e q)
  · refine x_aload_n (pc := 316) d_L_law_316 rfl rfl ?_
    refine x_aloads_n (pc := 317) d_L_law_317 rfl rfl ?_
    refine x_iload_n (pc := 318) d_L_law_318 rfl rfl ?_
    refine x_iconst (pc := 319) d_L_law_319 ?_
    refine x_iadd (pc := 320) d_L_law_320 ?_
    refine x_sld (pc := 321) rfl d_L_law_321 hLx (by omega) (by show _ < (Lx : Int); omega) ?_
    refine x_if_eq (tgt := 329) (pc := 322) d_L_law_322 rfl (xin_i _) (fun hb => absurd hb hz) (fun _ => ?_)
    refine x_iconst (pc := 325) d_L_law_325 ?_
    refine x_goto (tgt := 330) (pc := 326) d_L_law_326 rfl ?_
    refine y_callVi m_D_encode 2 41 0 0 9 [_] [] rfl (pc := 330) d_L_law_330 ok_D_encode w_391 w_392 w_393 pn_D_encode (Nat.le_of_ble_eq_true rfl) rfl rfl (by decide) (Nat.le_of_ble_eq_true rfl) (Nat.le_refl _) hsu (l_encode (Nat.le_of_ble_eq_true rfl) hR hL ⟨by decide, by decide⟩) (fun z1 M1 h1 => ?_)
    refine x_aload_n (pc := 333) d_L_law_333 rfl rfl ?_
    refine x_aloads_n (pc := 334) d_L_law_334 rfl rfl ?_
    refine x_iload_n (pc := 335) d_L_law_335 rfl rfl ?_
    refine x_iconst (pc := 336) d_L_law_336 ?_
    refine x_iadd (pc := 337) d_L_law_337 ?_
    refine x_sld (pc := 338) rfl d_L_law_338 hLx (by omega) (by show _ < (Lx : Int); omega) ?_
    refine x_if_eq (tgt := 346) (pc := 339) d_L_law_339 rfl (xin_i _) (fun hb => absurd hb hz) (fun _ => ?_)
    refine x_iconst (pc := 342) d_L_law_342 ?_
    refine x_goto (tgt := 347) (pc := 343) d_L_law_343 rfl ?_
    refine y_callVi m_M_encode 3 45 78 7 21 [_] [_] rfl (pc := 347) d_L_law_347 ok_M_encode w_663 w_664 w_665 pn_M_encode (Nat.le_of_ble_eq_true rfl) rfl rfl (by decide) (Nat.le_of_ble_eq_true rfl) (Nat.le_refl _) hsu h1 (fun z2 M2 h2 => ?_)
    obtain ⟨e, hz1, hL2⟩ := h2
    exact x_icmp_eq (tgt := 690) (pc := 350) d_L_law_350 rfl hz1 (e ▸ hz1) (fun _ => kk _ hL2) (fun q => absurd e q)
set_option maxRecDepth 20000 in
theorem La_7 {ms su : Nat} {R : xR} {M : xM} {Lx : Nat} {xs : Nat → Int32} {Q : Option AV → xR → xM → Prop} {i : Int} (hR : RC 93 R) (hL : LI M) (h0 : 0 ≤ i) (h4 : i + 4 ≤ Lx) (hLx : Lx < 2147483648) (hsu : su ≤ ms) (kk : ∀ M2, LI M2 → xX (some (Lx, xs)) m_L_law 7 0 93 ms Q 690 [some vs, some (vr 0), some (vr 78), some (vi i)] [] 93 su R M2) : xX (some (Lx, xs)) m_L_law 7 0 93 ms Q 355 [some vs, some (vr 0), some (vr 78), some (vi i)] [] 93 su R M := by
  refine x_aload_n (pc := 355) d_L_law_355 rfl rfl ?_
  refine x_aloads_n (pc := 356) d_L_law_356 rfl rfl ?_
  refine x_iload_n (pc := 357) d_L_law_357 rfl rfl ?_
  refine x_iconst (pc := 358) d_L_law_358 ?_
  refine x_iadd (pc := 359) d_L_law_359 ?_
  refine x_sld (pc := 360) rfl d_L_law_360 hLx (by omega) (by show _ < (Lx : Int); omega) ?_
  refine x_aloads_n (pc := 361) d_L_law_361 rfl rfl ?_
  refine x_iload_n (pc := 362) d_L_law_362 rfl rfl ?_
  refine x_iconst (pc := 363) d_L_law_363 ?_
  refine x_iadd (pc := 364) d_L_law_364 ?_
  refine x_sld (pc := 365) rfl d_L_law_365 hLx (by omega) (by show _ < (Lx : Int); omega) ?_
  refine y_callVi m_D_receive 1 46 0 0 9 [_, _] [] rfl (pc := 366) d_L_law_366 ok_D_receive w_403 w_404 w_405 pn_D_receive (Nat.le_of_ble_eq_true rfl) rfl rfl (by decide) (Nat.le_of_ble_eq_true rfl) (Nat.le_refl _) hsu (l_receive (Nat.le_of_ble_eq_true rfl) hR hL (xin_i _) (xin_i _)) (fun z1 M1 h1 => ?_)
  refine x_aload_n (pc := 369) d_L_law_369 rfl rfl ?_
  refine x_aloads_n (pc := 370) d_L_law_370 rfl rfl ?_
  refine x_iload_n (pc := 371) d_L_law_371 rfl rfl ?_
  refine x_iconst (pc := 372) d_L_law_372 ?_
  refine x_iadd (pc := 373) d_L_law_373 ?_
  refine x_sld (pc := 374) rfl d_L_law_374 hLx (by omega) (by show _ < (Lx : Int); omega) ?_
  refine x_aloads_n (pc := 375) d_L_law_375 rfl rfl ?_
  refine x_iload_n (pc := 376) d_L_law_376 rfl rfl ?_
  refine x_iconst (pc := 377) d_L_law_377 ?_
  refine x_iadd (pc := 378) d_L_law_378 ?_
  refine x_sld (pc := 379) rfl d_L_law_379 hLx (by omega) (by show _ < (Lx : Int); omega) ?_
  refine y_callVi m_M_receive 1 49 78 7 21 [_, _] [_] rfl (pc := 380) d_L_law_380 ok_M_receive w_687 w_688 w_689 pn_M_receive (Nat.le_of_ble_eq_true rfl) rfl rfl (by decide) (Nat.le_of_ble_eq_true rfl) (Nat.le_refl _) hsu h1 (fun z2 M2 h2 => ?_)
  obtain ⟨e, hz1, hL2⟩ := h2
  exact x_icmp_eq (tgt := 690) (pc := 383) d_L_law_383 rfl hz1 (e ▸ hz1) (fun _ => kk _ hL2) (fun q => absurd e q)
set_option maxRecDepth 20000 in
theorem La_8 {ms su : Nat} {R : xR} {M : xM} {Lx : Nat} {xs : Nat → Int32} {Q : Option AV → xR → xM → Prop} {i : Int} (hR : RC 93 R) (hL : LI M) (h0 : 0 ≤ i) (h4 : i + 4 ≤ Lx) (hLx : Lx < 2147483648) (hsu : su ≤ ms) (kk : ∀ M2, LI M2 → xX (some (Lx, xs)) m_L_law 7 0 93 ms Q 690 [some vs, some (vr 0), some (vr 78), some (vi i)] [] 93 su R M2) : xX (some (Lx, xs)) m_L_law 7 0 93 ms Q 388 [some vs, some (vr 0), some (vr 78), some (vi i)] [] 93 su R M := by
  refine x_aload_n (pc := 388) d_L_law_388 rfl rfl ?_
  refine x_aloads_n (pc := 389) d_L_law_389 rfl rfl ?_
  refine x_iload_n (pc := 390) d_L_law_390 rfl rfl ?_
  refine x_iconst (pc := 391) d_L_law_391 ?_
  refine x_iadd (pc := 392) d_L_law_392 ?_
  refine x_sld (pc := 393) rfl d_L_law_393 hLx (by omega) (by show _ < (Lx : Int); omega) ?_
  refine y_callVi m_D_erase 1 50 0 0 9 [_] [] rfl (pc := 394) d_L_law_394 ok_D_erase w_411 w_412 w_413 pn_D_erase (Nat.le_of_ble_eq_true rfl) rfl rfl (by decide) (Nat.le_of_ble_eq_true rfl) (Nat.le_refl _) hsu (l_erase (Nat.le_of_ble_eq_true rfl) hR hL (xin_i _)) (fun z1 M1 h1 => ?_)
  refine x_aload_n (pc := 397) d_L_law_397 rfl rfl ?_
  refine x_aloads_n (pc := 398) d_L_law_398 rfl rfl ?_
  refine x_iload_n (pc := 399) d_L_law_399 rfl rfl ?_
  refine x_iconst (pc := 400) d_L_law_400 ?_
  refine x_iadd (pc := 401) d_L_law_401 ?_
  refine x_sld (pc := 402) rfl d_L_law_402 hLx (by omega) (by show _ < (Lx : Int); omega) ?_
  refine y_callVi m_M_erase 1 54 78 7 21 [_] [_] rfl (pc := 403) d_L_law_403 ok_M_erase w_695 w_696 w_697 pn_M_erase (Nat.le_of_ble_eq_true rfl) rfl rfl (by decide) (Nat.le_of_ble_eq_true rfl) (Nat.le_refl _) hsu h1 (fun z2 M2 h2 => ?_)
  obtain ⟨e, hz1, hL2⟩ := h2
  exact x_icmp_eq (tgt := 690) (pc := 406) d_L_law_406 rfl hz1 (e ▸ hz1) (fun _ => kk _ hL2) (fun q => absurd e q)
set_option maxRecDepth 20000 in
theorem La_9 {ms su : Nat} {R : xR} {M : xM} {Lx : Nat} {xs : Nat → Int32} {Q : Option AV → xR → xM → Prop} {i : Int} (hR : RC 93 R) (hL : LI M) (h0 : 0 ≤ i) (h4 : i + 4 ≤ Lx) (hLx : Lx < 2147483648) (hsu : su ≤ ms) (kk : ∀ M2, LI M2 → xX (some (Lx, xs)) m_L_law 7 0 93 ms Q 690 [some vs, some (vr 0), some (vr 78), some (vi i)] [] 93 su R M2) : xX (some (Lx, xs)) m_L_law 7 0 93 ms Q 411 [some vs, some (vr 0), some (vr 78), some (vi i)] [] 93 su R M := by
  refine x_aload_n (pc := 411) d_L_law_411 rfl rfl ?_
  refine x_aloads_n (pc := 412) d_L_law_412 rfl rfl ?_
  refine x_iload_n (pc := 413) d_L_law_413 rfl rfl ?_
  refine x_iconst (pc := 414) d_L_law_414 ?_
  refine x_iadd (pc := 415) d_L_law_415 ?_
  refine x_sld (pc := 416) rfl d_L_law_416 hLx (by omega) (by show _ < (Lx : Int); omega) ?_
  refine y_callVi m_D_word 1 55 0 0 9 [_] [] rfl (pc := 417) d_L_law_417 ok_D_word w_419 w_420 w_421 pn_D_word (Nat.le_of_ble_eq_true rfl) rfl rfl (by decide) (Nat.le_of_ble_eq_true rfl) (Nat.le_refl _) hsu (l_word (Nat.le_of_ble_eq_true rfl) hR hL (xin_i _)) (fun z1 M1 h1 => ?_)
  refine x_aload_n (pc := 420) d_L_law_420 rfl rfl ?_
  refine x_aloads_n (pc := 421) d_L_law_421 rfl rfl ?_
  refine x_iload_n (pc := 422) d_L_law_422 rfl rfl ?_
  refine x_iconst (pc := 423) d_L_law_423 ?_
  refine x_iadd (pc := 424) d_L_law_424 ?_
  refine x_sld (pc := 425) rfl d_L_law_425 hLx (by omega) (by show _ < (Lx : Int); omega) ?_
  refine y_callVi m_M_word 1 58 78 7 21 [_] [_] rfl (pc := 426) d_L_law_426 ok_M_word w_699 w_700 w_701 pn_M_word (Nat.le_of_ble_eq_true rfl) rfl rfl (by decide) (Nat.le_of_ble_eq_true rfl) (Nat.le_refl _) hsu h1 (fun z2 M2 h2 => ?_)
  obtain ⟨e, hz1, hL2⟩ := h2
  exact x_icmp_eq (tgt := 690) (pc := 429) d_L_law_429 rfl hz1 (e ▸ hz1) (fun _ => kk _ hL2) (fun q => absurd e q)
set_option maxRecDepth 20000 in
theorem La_10 {ms su : Nat} {R : xR} {M : xM} {Lx : Nat} {xs : Nat → Int32} {Q : Option AV → xR → xM → Prop} {i : Int} (hR : RC 93 R) (hL : LI M) (h0 : 0 ≤ i) (h4 : i + 4 ≤ Lx) (hLx : Lx < 2147483648) (hsu : su ≤ ms) (kk : ∀ M2, LI M2 → xX (some (Lx, xs)) m_L_law 7 0 93 ms Q 690 [some vs, some (vr 0), some (vr 78), some (vi i)] [] 93 su R M2) : xX (some (Lx, xs)) m_L_law 7 0 93 ms Q 434 [some vs, some (vr 0), some (vr 78), some (vi i)] [] 93 su R M := by
  refine x_aload_n (pc := 434) d_L_law_434 rfl rfl ?_
  refine x_aloads_n (pc := 435) d_L_law_435 rfl rfl ?_
  refine x_iload_n (pc := 436) d_L_law_436 rfl rfl ?_
  refine x_iconst (pc := 437) d_L_law_437 ?_
  refine x_iadd (pc := 438) d_L_law_438 ?_
  refine x_sld (pc := 439) rfl d_L_law_439 hLx (by omega) (by show _ < (Lx : Int); omega) ?_
  refine y_callVi m_D_syndrome 2 59 0 0 9 [_] [] rfl (pc := 440) d_L_law_440 ok_D_syndrome w_423 w_424 w_425 pn_D_syndrome (Nat.le_of_ble_eq_true rfl) rfl rfl (by decide) (Nat.le_of_ble_eq_true rfl) (Nat.le_refl _) hsu (l_syndrome (Nat.le_of_ble_eq_true rfl) hR hL (xin_i _)) (fun z1 M1 h1 => ?_)
  refine x_aload_n (pc := 443) d_L_law_443 rfl rfl ?_
  refine x_aloads_n (pc := 444) d_L_law_444 rfl rfl ?_
  refine x_iload_n (pc := 445) d_L_law_445 rfl rfl ?_
  refine x_iconst (pc := 446) d_L_law_446 ?_
  refine x_iadd (pc := 447) d_L_law_447 ?_
  refine x_sld (pc := 448) rfl d_L_law_448 hLx (by omega) (by show _ < (Lx : Int); omega) ?_
  refine y_callVi m_M_syndrome 1 62 78 7 21 [_] [_] rfl (pc := 449) d_L_law_449 ok_M_syndrome w_703 w_704 w_705 pn_M_syndrome (Nat.le_of_ble_eq_true rfl) rfl rfl (by decide) (Nat.le_of_ble_eq_true rfl) (Nat.le_refl _) hsu h1 (fun z2 M2 h2 => ?_)
  obtain ⟨e, hz1, hL2⟩ := h2
  exact x_icmp_eq (tgt := 690) (pc := 452) d_L_law_452 rfl hz1 (e ▸ hz1) (fun _ => kk _ hL2) (fun q => absurd e q)
set_option maxRecDepth 20000 in
theorem La_11 {ms su : Nat} {R : xR} {M : xM} {Lx : Nat} {xs : Nat → Int32} {Q : Option AV → xR → xM → Prop} {i : Int} (hR : RC 93 R) (hL : LI M) (h0 : 0 ≤ i) (h4 : i + 4 ≤ Lx) (hLx : Lx < 2147483648) (hsu : su ≤ ms) (kk : ∀ M2, LI M2 → xX (some (Lx, xs)) m_L_law 7 0 93 ms Q 690 [some vs, some (vr 0), some (vr 78), some (vi i)] [] 93 su R M2) : xX (some (Lx, xs)) m_L_law 7 0 93 ms Q 457 [some vs, some (vr 0), some (vr 78), some (vi i)] [] 93 su R M := by
  by_cases hz : (xs (i + 1).toNat).toInt = 0
  · refine x_aload_n (pc := 457) d_L_law_457 rfl rfl ?_
    refine x_aloads_n (pc := 458) d_L_law_458 rfl rfl ?_
    refine x_iload_n (pc := 459) d_L_law_459 rfl rfl ?_
    refine x_iconst (pc := 460) d_L_law_460 ?_
    refine x_iadd (pc := 461) d_L_law_461 ?_
    refine x_sld (pc := 462) rfl d_L_law_462 hLx (by omega) (by show _ < (Lx : Int); omega) ?_
    refine x_if_eq (tgt := 470) (pc := 463) d_L_law_463 rfl (xin_i _) (fun _ => ?_) (fun hb => absurd hz hb)
    refine x_iconst (pc := 470) d_L_law_470 ?_
    refine y_callVi m_D_decode 4 63 0 0 9 [_] [] rfl (pc := 471) d_L_law_471 ok_D_decode w_428 w_429 w_430 pn_D_decode (Nat.le_of_ble_eq_true rfl) rfl rfl (by decide) (Nat.le_of_ble_eq_true rfl) (Nat.le_refl _) hsu (l_decode (Nat.le_of_ble_eq_true rfl) hR hL ) (fun z1 M1 h1 => ?_)
    refine x_aload_n (pc := 474) d_L_law_474 rfl rfl ?_
    refine x_aloads_n (pc := 475) d_L_law_475 rfl rfl ?_
    refine x_iload_n (pc := 476) d_L_law_476 rfl rfl ?_
    refine x_iconst (pc := 477) d_L_law_477 ?_
    refine x_iadd (pc := 478) d_L_law_478 ?_
    refine x_sld (pc := 479) rfl d_L_law_479 hLx (by omega) (by show _ < (Lx : Int); omega) ?_
    refine x_if_eq (tgt := 487) (pc := 480) d_L_law_480 rfl (xin_i _) (fun _ => ?_) (fun hb => absurd hz hb)
    refine x_iconst (pc := 487) d_L_law_487 ?_
    refine y_callVi m_M_decode 3 66 78 7 21 [_] [_] rfl (pc := 488) d_L_law_488 ok_M_decode w_715 w_716 w_717 pn_M_decode (Nat.le_of_ble_eq_true rfl) rfl rfl (by decide) (Nat.le_of_ble_eq_true rfl) (Nat.le_refl _) hsu h1 (fun z2 M2 h2 => ?_)
    obtain ⟨e, hz1, hL2⟩ := h2
    exact x_icmp_eq (tgt := 690) (pc := 491) d_L_law_491 rfl hz1 (e ▸ hz1) (fun _ => kk _ hL2) (fun q => absurd e q)
  · refine x_aload_n (pc := 457) d_L_law_457 rfl rfl ?_
    refine x_aloads_n (pc := 458) d_L_law_458 rfl rfl ?_
    refine x_iload_n (pc := 459) d_L_law_459 rfl rfl ?_
    refine x_iconst (pc := 460) d_L_law_460 ?_
    refine x_iadd (pc := 461) d_L_law_461 ?_
    refine x_sld (pc := 462) rfl d_L_law_462 hLx (by omega) (by show _ < (Lx : Int); omega) ?_
    refine x_if_eq (tgt := 470) (pc := 463) d_L_law_463 rfl (xin_i _) (fun hb => absurd hb hz) (fun _ => ?_)
    refine x_iconst (pc := 466) d_L_law_466 ?_
    refine x_goto (tgt := 471) (pc := 467) d_L_law_467 rfl ?_
    refine y_callVi m_D_decode 4 63 0 0 9 [_] [] rfl (pc := 471) d_L_law_471 ok_D_decode w_428 w_429 w_430 pn_D_decode (Nat.le_of_ble_eq_true rfl) rfl rfl (by decide) (Nat.le_of_ble_eq_true rfl) (Nat.le_refl _) hsu (l_decode (Nat.le_of_ble_eq_true rfl) hR hL ) (fun z1 M1 h1 => ?_)
    refine x_aload_n (pc := 474) d_L_law_474 rfl rfl ?_
    refine x_aloads_n (pc := 475) d_L_law_475 rfl rfl ?_
    refine x_iload_n (pc := 476) d_L_law_476 rfl rfl ?_
    refine x_iconst (pc := 477) d_L_law_477 ?_
    refine x_iadd (pc := 478) d_L_law_478 ?_
    refine x_sld (pc := 479) rfl d_L_law_479 hLx (by omega) (by show _ < (Lx : Int); omega) ?_
    refine x_if_eq (tgt := 487) (pc := 480) d_L_law_480 rfl (xin_i _) (fun hb => absurd hb hz) (fun _ => ?_)
    refine x_iconst (pc := 483) d_L_law_483 ?_
    refine x_goto (tgt := 488) (pc := 484) d_L_law_484 rfl ?_
    refine y_callVi m_M_decode 3 66 78 7 21 [_] [_] rfl (pc := 488) d_L_law_488 ok_M_decode w_715 w_716 w_717 pn_M_decode (Nat.le_of_ble_eq_true rfl) rfl rfl (by decide) (Nat.le_of_ble_eq_true rfl) (Nat.le_refl _) hsu h1 (fun z2 M2 h2 => ?_)
    obtain ⟨e, hz1, hL2⟩ := h2
    exact x_icmp_eq (tgt := 690) (pc := 491) d_L_law_491 rfl hz1 (e ▸ hz1) (fun _ => kk _ hL2) (fun q => absurd e q)
set_option maxRecDepth 20000 in
theorem La_12 {ms su : Nat} {R : xR} {M : xM} {Lx : Nat} {xs : Nat → Int32} {Q : Option AV → xR → xM → Prop} {i : Int} (hR : RC 93 R) (hL : LI M) (h0 : 0 ≤ i) (h4 : i + 4 ≤ Lx) (hLx : Lx < 2147483648) (hsu : su ≤ ms) (kk : ∀ M2, LI M2 → xX (some (Lx, xs)) m_L_law 7 0 93 ms Q 690 [some vs, some (vr 0), some (vr 78), some (vi i)] [] 93 su R M2) : xX (some (Lx, xs)) m_L_law 7 0 93 ms Q 496 [some vs, some (vr 0), some (vr 78), some (vi i)] [] 93 su R M := by
  refine x_aload_n (pc := 496) d_L_law_496 rfl rfl ?_
  refine x_aloads_n (pc := 497) d_L_law_497 rfl rfl ?_
  refine x_iload_n (pc := 498) d_L_law_498 rfl rfl ?_
  refine x_iconst (pc := 499) d_L_law_499 ?_
  refine x_iadd (pc := 500) d_L_law_500 ?_
  refine x_sld (pc := 501) rfl d_L_law_501 hLx (by omega) (by show _ < (Lx : Int); omega) ?_
  refine y_callVi m_D_decoded 1 67 0 0 9 [_] [] rfl (pc := 502) d_L_law_502 ok_D_decoded w_463 w_464 w_465 pn_D_decoded (Nat.le_of_ble_eq_true rfl) rfl rfl (by decide) (Nat.le_of_ble_eq_true rfl) (Nat.le_refl _) hsu (l_decoded (Nat.le_of_ble_eq_true rfl) hR hL (xin_i _)) (fun z1 M1 h1 => ?_)
  refine x_aload_n (pc := 505) d_L_law_505 rfl rfl ?_
  refine x_aloads_n (pc := 506) d_L_law_506 rfl rfl ?_
  refine x_iload_n (pc := 507) d_L_law_507 rfl rfl ?_
  refine x_iconst (pc := 508) d_L_law_508 ?_
  refine x_iadd (pc := 509) d_L_law_509 ?_
  refine x_sld (pc := 510) rfl d_L_law_510 hLx (by omega) (by show _ < (Lx : Int); omega) ?_
  refine y_callVi m_M_decoded 2 70 78 7 21 [_] [_] rfl (pc := 511) d_L_law_511 ok_M_decoded w_727 w_728 w_729 pn_M_decoded (Nat.le_of_ble_eq_true rfl) rfl rfl (by decide) (Nat.le_of_ble_eq_true rfl) (Nat.le_refl _) hsu h1 (fun z2 M2 h2 => ?_)
  obtain ⟨e, hz1, hL2⟩ := h2
  exact x_icmp_eq (tgt := 690) (pc := 514) d_L_law_514 rfl hz1 (e ▸ hz1) (fun _ => kk _ hL2) (fun q => absurd e q)
set_option maxRecDepth 20000 in
theorem La_13 {ms su : Nat} {R : xR} {M : xM} {Lx : Nat} {xs : Nat → Int32} {Q : Option AV → xR → xM → Prop} {i : Int} (hR : RC 93 R) (hL : LI M) (h0 : 0 ≤ i) (h4 : i + 4 ≤ Lx) (hLx : Lx < 2147483648) (hsu : su ≤ ms) (kk : ∀ M2, LI M2 → xX (some (Lx, xs)) m_L_law 7 0 93 ms Q 690 [some vs, some (vr 0), some (vr 78), some (vi i)] [] 93 su R M2) : xX (some (Lx, xs)) m_L_law 7 0 93 ms Q 519 [some vs, some (vr 0), some (vr 78), some (vi i)] [] 93 su R M := by
  refine x_aload_n (pc := 519) d_L_law_519 rfl rfl ?_
  refine x_aloads_n (pc := 520) d_L_law_520 rfl rfl ?_
  refine x_iload_n (pc := 521) d_L_law_521 rfl rfl ?_
  refine x_iconst (pc := 522) d_L_law_522 ?_
  refine x_iadd (pc := 523) d_L_law_523 ?_
  refine x_sld (pc := 524) rfl d_L_law_524 hLx (by omega) (by show _ < (Lx : Int); omega) ?_
  refine y_callVi m_D_sent 3 71 0 0 9 [_] [] rfl (pc := 525) d_L_law_525 ok_D_sent w_467 w_468 w_469 pn_D_sent (Nat.le_of_ble_eq_true rfl) rfl rfl (by decide) (Nat.le_of_ble_eq_true rfl) (Nat.le_refl _) hsu (l_sent (Nat.le_of_ble_eq_true rfl) hR hL (xin_i _)) (fun z1 M1 h1 => ?_)
  refine x_aload_n (pc := 528) d_L_law_528 rfl rfl ?_
  refine x_aloads_n (pc := 529) d_L_law_529 rfl rfl ?_
  refine x_iload_n (pc := 530) d_L_law_530 rfl rfl ?_
  refine x_iconst (pc := 531) d_L_law_531 ?_
  refine x_iadd (pc := 532) d_L_law_532 ?_
  refine x_sld (pc := 533) rfl d_L_law_533 hLx (by omega) (by show _ < (Lx : Int); omega) ?_
  refine y_callVi m_M_sent 1 74 78 7 21 [_] [_] rfl (pc := 534) d_L_law_534 ok_M_sent w_731 w_732 w_733 pn_M_sent (Nat.le_of_ble_eq_true rfl) rfl rfl (by decide) (Nat.le_of_ble_eq_true rfl) (Nat.le_refl _) hsu h1 (fun z2 M2 h2 => ?_)
  obtain ⟨e, hz1, hL2⟩ := h2
  exact x_icmp_eq (tgt := 690) (pc := 537) d_L_law_537 rfl hz1 (e ▸ hz1) (fun _ => kk _ hL2) (fun q => absurd e q)
set_option maxRecDepth 20000 in
theorem La_14 {ms su : Nat} {R : xR} {M : xM} {Lx : Nat} {xs : Nat → Int32} {Q : Option AV → xR → xM → Prop} {i : Int} (hR : RC 93 R) (hL : LI M) (h0 : 0 ≤ i) (h4 : i + 4 ≤ Lx) (hLx : Lx < 2147483648) (hsu : su ≤ ms) (kk : ∀ M2, LI M2 → xX (some (Lx, xs)) m_L_law 7 0 93 ms Q 690 [some vs, some (vr 0), some (vr 78), some (vi i)] [] 93 su R M2) : xX (some (Lx, xs)) m_L_law 7 0 93 ms Q 542 [some vs, some (vr 0), some (vr 78), some (vi i)] [] 93 su R M := by
  refine x_aload_n (pc := 542) d_L_law_542 rfl rfl ?_
  refine x_aloads_n (pc := 543) d_L_law_543 rfl rfl ?_
  refine x_iload_n (pc := 544) d_L_law_544 rfl rfl ?_
  refine x_iconst (pc := 545) d_L_law_545 ?_
  refine x_iadd (pc := 546) d_L_law_546 ?_
  refine x_sld (pc := 547) rfl d_L_law_547 hLx (by omega) (by show _ < (Lx : Int); omega) ?_
  refine y_callVi m_D_locator 0 75 0 0 9 [_] [] rfl (pc := 548) d_L_law_548 ok_D_locator w_476 w_477 w_478 pn_D_locator (Nat.le_of_ble_eq_true rfl) rfl rfl (by decide) (Nat.le_of_ble_eq_true rfl) (Nat.le_refl _) hsu (l_locator (Nat.le_of_ble_eq_true rfl) hR hL (xin_i _)) (fun z1 M1 h1 => ?_)
  refine x_aload_n (pc := 551) d_L_law_551 rfl rfl ?_
  refine x_aloads_n (pc := 552) d_L_law_552 rfl rfl ?_
  refine x_iload_n (pc := 553) d_L_law_553 rfl rfl ?_
  refine x_iconst (pc := 554) d_L_law_554 ?_
  refine x_iadd (pc := 555) d_L_law_555 ?_
  refine x_sld (pc := 556) rfl d_L_law_556 hLx (by omega) (by show _ < (Lx : Int); omega) ?_
  refine y_callVi m_M_locator 0 78 78 7 21 [_] [_] rfl (pc := 557) d_L_law_557 ok_M_locator w_735 w_736 w_737 pn_M_locator (Nat.le_of_ble_eq_true rfl) rfl rfl (by decide) (Nat.le_of_ble_eq_true rfl) (Nat.le_refl _) hsu h1 (fun z2 M2 h2 => ?_)
  obtain ⟨e, hz1, hL2⟩ := h2
  exact x_icmp_eq (tgt := 690) (pc := 560) d_L_law_560 rfl hz1 (e ▸ hz1) (fun _ => kk _ hL2) (fun q => absurd e q)
set_option maxRecDepth 20000 in
theorem La_15 {ms su : Nat} {R : xR} {M : xM} {Lx : Nat} {xs : Nat → Int32} {Q : Option AV → xR → xM → Prop} {i : Int} (hR : RC 93 R) (hL : LI M) (h0 : 0 ≤ i) (h4 : i + 4 ≤ Lx) (hLx : Lx < 2147483648) (hsu : su ≤ ms) (kk : ∀ M2, LI M2 → xX (some (Lx, xs)) m_L_law 7 0 93 ms Q 690 [some vs, some (vr 0), some (vr 78), some (vi i)] [] 93 su R M2) : xX (some (Lx, xs)) m_L_law 7 0 93 ms Q 565 [some vs, some (vr 0), some (vr 78), some (vi i)] [] 93 su R M := by
  refine x_aload_n (pc := 565) d_L_law_565 rfl rfl ?_
  refine x_aloads_n (pc := 566) d_L_law_566 rfl rfl ?_
  refine x_iload_n (pc := 567) d_L_law_567 rfl rfl ?_
  refine x_iconst (pc := 568) d_L_law_568 ?_
  refine x_iadd (pc := 569) d_L_law_569 ?_
  refine x_sld (pc := 570) rfl d_L_law_570 hLx (by omega) (by show _ < (Lx : Int); omega) ?_
  refine y_callVi m_D_list 4 79 0 0 9 [_] [] rfl (pc := 571) d_L_law_571 ok_D_list w_480 w_481 w_482 pn_D_list (Nat.le_of_ble_eq_true rfl) rfl rfl (by decide) (Nat.le_of_ble_eq_true rfl) (Nat.le_refl _) hsu (l_list (Nat.le_of_ble_eq_true rfl) hR hL (xin_i _)) (fun z1 M1 h1 => ?_)
  refine x_aload_n (pc := 574) d_L_law_574 rfl rfl ?_
  refine x_aloads_n (pc := 575) d_L_law_575 rfl rfl ?_
  refine x_iload_n (pc := 576) d_L_law_576 rfl rfl ?_
  refine x_iconst (pc := 577) d_L_law_577 ?_
  refine x_iadd (pc := 578) d_L_law_578 ?_
  refine x_sld (pc := 579) rfl d_L_law_579 hLx (by omega) (by show _ < (Lx : Int); omega) ?_
  refine y_callVi m_M_list 3 82 78 7 21 [_] [_] rfl (pc := 580) d_L_law_580 ok_M_list w_739 w_740 w_741 pn_M_list (Nat.le_of_ble_eq_true rfl) rfl rfl (by decide) (Nat.le_of_ble_eq_true rfl) (Nat.le_refl _) hsu h1 (fun z2 M2 h2 => ?_)
  obtain ⟨e, hz1, hL2⟩ := h2
  exact x_icmp_eq (tgt := 690) (pc := 583) d_L_law_583 rfl hz1 (e ▸ hz1) (fun _ => kk _ hL2) (fun q => absurd e q)
set_option maxRecDepth 20000 in
theorem La_16 {ms su : Nat} {R : xR} {M : xM} {Lx : Nat} {xs : Nat → Int32} {Q : Option AV → xR → xM → Prop} {i : Int} (hR : RC 93 R) (hL : LI M) (h0 : 0 ≤ i) (h4 : i + 4 ≤ Lx) (hLx : Lx < 2147483648) (hsu : su ≤ ms) (kk : ∀ M2, LI M2 → xX (some (Lx, xs)) m_L_law 7 0 93 ms Q 690 [some vs, some (vr 0), some (vr 78), some (vi i)] [] 93 su R M2) : xX (some (Lx, xs)) m_L_law 7 0 93 ms Q 588 [some vs, some (vr 0), some (vr 78), some (vi i)] [] 93 su R M := by
  refine x_aload_n (pc := 588) d_L_law_588 rfl rfl ?_
  refine x_aloads_n (pc := 589) d_L_law_589 rfl rfl ?_
  refine x_iload_n (pc := 590) d_L_law_590 rfl rfl ?_
  refine x_iconst (pc := 591) d_L_law_591 ?_
  refine x_iadd (pc := 592) d_L_law_592 ?_
  refine x_sld (pc := 593) rfl d_L_law_593 hLx (by omega) (by show _ < (Lx : Int); omega) ?_
  refine x_aloads_n (pc := 594) d_L_law_594 rfl rfl ?_
  refine x_iload_n (pc := 595) d_L_law_595 rfl rfl ?_
  refine x_iconst (pc := 596) d_L_law_596 ?_
  refine x_iadd (pc := 597) d_L_law_597 ?_
  refine x_sld (pc := 598) rfl d_L_law_598 hLx (by omega) (by show _ < (Lx : Int); omega) ?_
  refine y_callVi m_D_listed 1 83 0 0 9 [_, _] [] rfl (pc := 599) d_L_law_599 ok_D_listed w_498 w_499 w_500 pn_D_listed (Nat.le_of_ble_eq_true rfl) rfl rfl (by decide) (Nat.le_of_ble_eq_true rfl) (Nat.le_refl _) hsu (l_listed (Nat.le_of_ble_eq_true rfl) hR hL (xin_i _) (xin_i _)) (fun z1 M1 h1 => ?_)
  refine x_aload_n (pc := 602) d_L_law_602 rfl rfl ?_
  refine x_aloads_n (pc := 603) d_L_law_603 rfl rfl ?_
  refine x_iload_n (pc := 604) d_L_law_604 rfl rfl ?_
  refine x_iconst (pc := 605) d_L_law_605 ?_
  refine x_iadd (pc := 606) d_L_law_606 ?_
  refine x_sld (pc := 607) rfl d_L_law_607 hLx (by omega) (by show _ < (Lx : Int); omega) ?_
  refine x_aloads_n (pc := 608) d_L_law_608 rfl rfl ?_
  refine x_iload_n (pc := 609) d_L_law_609 rfl rfl ?_
  refine x_iconst (pc := 610) d_L_law_610 ?_
  refine x_iadd (pc := 611) d_L_law_611 ?_
  refine x_sld (pc := 612) rfl d_L_law_612 hLx (by omega) (by show _ < (Lx : Int); omega) ?_
  refine y_callVi m_M_listed 2 86 78 7 21 [_, _] [_] rfl (pc := 613) d_L_law_613 ok_M_listed w_759 w_760 w_761 pn_M_listed (Nat.le_of_ble_eq_true rfl) rfl rfl (by decide) (Nat.le_of_ble_eq_true rfl) (Nat.le_refl _) hsu h1 (fun z2 M2 h2 => ?_)
  obtain ⟨e, hz1, hL2⟩ := h2
  exact x_icmp_eq (tgt := 690) (pc := 616) d_L_law_616 rfl hz1 (e ▸ hz1) (fun _ => kk _ hL2) (fun q => absurd e q)
set_option maxRecDepth 20000 in
theorem La_17 {ms su : Nat} {R : xR} {M : xM} {Lx : Nat} {xs : Nat → Int32} {Q : Option AV → xR → xM → Prop} {i : Int} (hR : RC 93 R) (hL : LI M) (h0 : 0 ≤ i) (h4 : i + 4 ≤ Lx) (hLx : Lx < 2147483648) (hsu : su ≤ ms) (kk : ∀ M2, LI M2 → xX (some (Lx, xs)) m_L_law 7 0 93 ms Q 690 [some vs, some (vr 0), some (vr 78), some (vi i)] [] 93 su R M2) : xX (some (Lx, xs)) m_L_law 7 0 93 ms Q 621 [some vs, some (vr 0), some (vr 78), some (vi i)] [] 93 su R M := by
  refine x_aload_n (pc := 621) d_L_law_621 rfl rfl ?_
  refine x_aloads_n (pc := 622) d_L_law_622 rfl rfl ?_
  refine x_iload_n (pc := 623) d_L_law_623 rfl rfl ?_
  refine x_iconst (pc := 624) d_L_law_624 ?_
  refine x_iadd (pc := 625) d_L_law_625 ?_
  refine x_sld (pc := 626) rfl d_L_law_626 hLx (by omega) (by show _ < (Lx : Int); omega) ?_
  refine y_callVi m_D_distance 1 87 0 0 9 [_] [] rfl (pc := 627) d_L_law_627 ok_D_distance w_506 w_507 w_508 pn_D_distance (Nat.le_of_ble_eq_true rfl) rfl rfl (by decide) (Nat.le_of_ble_eq_true rfl) (Nat.le_refl _) hsu (l_distance (Nat.le_of_ble_eq_true rfl) hR hL (xin_i _)) (fun z1 M1 h1 => ?_)
  refine x_aload_n (pc := 630) d_L_law_630 rfl rfl ?_
  refine x_aloads_n (pc := 631) d_L_law_631 rfl rfl ?_
  refine x_iload_n (pc := 632) d_L_law_632 rfl rfl ?_
  refine x_iconst (pc := 633) d_L_law_633 ?_
  refine x_iadd (pc := 634) d_L_law_634 ?_
  refine x_sld (pc := 635) rfl d_L_law_635 hLx (by omega) (by show _ < (Lx : Int); omega) ?_
  refine y_callVi m_M_distance 0 90 78 7 21 [_] [_] rfl (pc := 636) d_L_law_636 ok_M_distance w_763 w_764 w_765 pn_M_distance (Nat.le_of_ble_eq_true rfl) rfl rfl (by decide) (Nat.le_of_ble_eq_true rfl) (Nat.le_refl _) hsu h1 (fun z2 M2 h2 => ?_)
  obtain ⟨e, hz1, hL2⟩ := h2
  exact x_icmp_eq (tgt := 690) (pc := 639) d_L_law_639 rfl hz1 (e ▸ hz1) (fun _ => kk _ hL2) (fun q => absurd e q)
set_option maxRecDepth 20000 in
theorem La_18 {ms su : Nat} {R : xR} {M : xM} {Lx : Nat} {xs : Nat → Int32} {Q : Option AV → xR → xM → Prop} {i : Int} (hR : RC 93 R) (hL : LI M) (h0 : 0 ≤ i) (h4 : i + 4 ≤ Lx) (hLx : Lx < 2147483648) (hsu : su ≤ ms) (kk : ∀ M2, LI M2 → xX (some (Lx, xs)) m_L_law 7 0 93 ms Q 690 [some vs, some (vr 0), some (vr 78), some (vi i)] [] 93 su R M2) : xX (some (Lx, xs)) m_L_law 7 0 93 ms Q 644 [some vs, some (vr 0), some (vr 78), some (vi i)] [] 93 su R M := by
  refine x_aload_n (pc := 644) d_L_law_644 rfl rfl ?_
  refine x_aloads_n (pc := 645) d_L_law_645 rfl rfl ?_
  refine x_iload_n (pc := 646) d_L_law_646 rfl rfl ?_
  refine x_iconst (pc := 647) d_L_law_647 ?_
  refine x_iadd (pc := 648) d_L_law_648 ?_
  refine x_sld (pc := 649) rfl d_L_law_649 hLx (by omega) (by show _ < (Lx : Int); omega) ?_
  refine y_callVi m_D_radius 2 91 0 0 9 [_] [] rfl (pc := 650) d_L_law_650 ok_D_radius w_510 w_511 w_512 pn_D_radius (Nat.le_of_ble_eq_true rfl) rfl rfl (by decide) (Nat.le_of_ble_eq_true rfl) (Nat.le_refl _) hsu (l_radius (Nat.le_of_ble_eq_true rfl) hR hL (xin_i _)) (fun z1 M1 h1 => ?_)
  refine x_aload_n (pc := 653) d_L_law_653 rfl rfl ?_
  refine x_aloads_n (pc := 654) d_L_law_654 rfl rfl ?_
  refine x_iload_n (pc := 655) d_L_law_655 rfl rfl ?_
  refine x_iconst (pc := 656) d_L_law_656 ?_
  refine x_iadd (pc := 657) d_L_law_657 ?_
  refine x_sld (pc := 658) rfl d_L_law_658 hLx (by omega) (by show _ < (Lx : Int); omega) ?_
  refine y_callVi m_M_radius 3 94 78 7 21 [_] [_] rfl (pc := 659) d_L_law_659 ok_M_radius w_767 w_768 w_769 pn_M_radius (Nat.le_of_ble_eq_true rfl) rfl rfl (by decide) (Nat.le_of_ble_eq_true rfl) (Nat.le_refl _) hsu h1 (fun z2 M2 h2 => ?_)
  obtain ⟨e, hz1, hL2⟩ := h2
  exact x_icmp_eq (tgt := 690) (pc := 662) d_L_law_662 rfl hz1 (e ▸ hz1) (fun _ => kk _ hL2) (fun q => absurd e q)
set_option maxRecDepth 20000 in
theorem La_19 {ms su : Nat} {R : xR} {M : xM} {Lx : Nat} {xs : Nat → Int32} {Q : Option AV → xR → xM → Prop} {i : Int} (hR : RC 93 R) (hL : LI M) (h0 : 0 ≤ i) (h4 : i + 4 ≤ Lx) (hLx : Lx < 2147483648) (hsu : su ≤ ms) (kk : ∀ M2, LI M2 → xX (some (Lx, xs)) m_L_law 7 0 93 ms Q 690 [some vs, some (vr 0), some (vr 78), some (vi i)] [] 93 su R M2) : xX (some (Lx, xs)) m_L_law 7 0 93 ms Q 667 [some vs, some (vr 0), some (vr 78), some (vi i)] [] 93 su R M := by
  refine x_aload_n (pc := 667) d_L_law_667 rfl rfl ?_
  refine x_aloads_n (pc := 668) d_L_law_668 rfl rfl ?_
  refine x_iload_n (pc := 669) d_L_law_669 rfl rfl ?_
  refine x_iconst (pc := 670) d_L_law_670 ?_
  refine x_iadd (pc := 671) d_L_law_671 ?_
  refine x_sld (pc := 672) rfl d_L_law_672 hLx (by omega) (by show _ < (Lx : Int); omega) ?_
  refine y_callVi m_D_weight 4 95 0 0 9 [_] [] rfl (pc := 673) d_L_law_673 ok_D_weight w_514 w_515 w_516 pn_D_weight (Nat.le_of_ble_eq_true rfl) rfl rfl (by decide) (Nat.le_of_ble_eq_true rfl) (Nat.le_refl _) hsu (l_weight (Nat.le_of_ble_eq_true rfl) hR hL (xin_i _)) (fun z1 M1 h1 => ?_)
  refine x_aload_n (pc := 676) d_L_law_676 rfl rfl ?_
  refine x_aloads_n (pc := 677) d_L_law_677 rfl rfl ?_
  refine x_iload_n (pc := 678) d_L_law_678 rfl rfl ?_
  refine x_iconst (pc := 679) d_L_law_679 ?_
  refine x_iadd (pc := 680) d_L_law_680 ?_
  refine x_sld (pc := 681) rfl d_L_law_681 hLx (by omega) (by show _ < (Lx : Int); omega) ?_
  refine y_callVi m_M_weight 3 98 78 7 21 [_] [_] rfl (pc := 682) d_L_law_682 ok_M_weight w_771 w_772 w_773 pn_M_weight (Nat.le_of_ble_eq_true rfl) rfl rfl (by decide) (Nat.le_of_ble_eq_true rfl) (Nat.le_refl _) hsu h1 (fun z2 M2 h2 => ?_)
  obtain ⟨e, hz1, hL2⟩ := h2
  exact x_icmp_eq (tgt := 690) (pc := 685) d_L_law_685 rfl hz1 (e ▸ hz1) (fun _ => kk _ hL2) (fun q => absurd e q)
