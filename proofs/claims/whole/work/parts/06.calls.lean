/-! calls, new cells, a method's beginning -/
section XCa
variable {sc : Option (Nat × (Nat → Int32))} {i : xMt} {d n0 mc ms : Nat} {Q : Option AV → xR → xM → Prop} {pc : Nat} {L : List (Option AV)} {st : List AV} {cu su : Nat} {R : xR} {M : xM}
variable {p : Program} {l : Launch} {e : Env} {Rm : Room} {s : State} {m : MethodId} {args : Array Value} {below : List Frame} {meth : Method} {c : Code} {D : va_G} {cI cZ cG : ClassId} {sb b : Nat} {Z : State → Prop} {H : Heap} {locs : List Loc} {ls : Array Slot}
theorem xW_size {g : JFrame} (hs : s.heap.size = b + n0) (hH : va_P D xCL (xwd cI cZ cG b (n0 + cu) R M) H) (hS : va_S (fun q => b ≤ q) s.heap H locs) (k : H.size = b + (n0 + cu) → W p l e Rm s m args below meth c H locs cu su Z g) : W p l e Rm s m args below meth c H locs cu su Z g := by
  intro T hT X
  refine k ?_ T hT X
  have h1 : T.heap.size ≤ s.heap.size + cu := X.same.2.2.1
  rw [hT] at h1
  have h2 := hS.1
  by_cases hn : n0 + cu = 0
  · omega
  · have h3 := (hH _ _ (xwd_at (cI := cI) (cZ := cZ) (cG := cG) (b := b) (R := R) (M := M) (show n0 + cu - 1 < n0 + cu by omega))).lt
    have h4 : b + (n0 + cu - 1) < H.size := h3
    omega
theorem x_back {st0 : List Value} {rest : List AV} {mc' ms' : Nat} (Cx : xCx sc i d n0 mc ms p Rm s m args meth c D cI cZ cG sb b) (hZ : xZ i n0 mc ms Q p l e Rm s m args below meth c D cI cZ cG sb b Z) (hS : va_S (fun q => b ≤ q) s.heap H locs) (hl : lv_has ls (mL i) (xas sb b 0 L))
    (hr : va_Run p l e Rm s m args below meth c H locs cu su mc' ms' (F0 m pc ls st0) (rest.map (cv sb b)) (fun st1 oc t => (∃ (r : Option AV) (R' : xR) (M' : xM), oc = .returned (r.map (cv sb b)) ∧ xX sc i d n0 mc ms Q (pc + 3) L (r.toList ++ rest) (cu + mc') (su + ms') R' M' ∧ va_P D xCL (xwd cI cZ cG b (n0 + cu + mc') R' M') t.heap) ∧ va_F (fun q => b ≤ q) st1 t) (fun q => b ≤ q)) :
    W p l e Rm s m args below meth c H locs cu su Z (F0 m pc ls st0) := by
  intro T hT X
  obtain ⟨v, st₀, t, T', L1, h0, X', hL, e1, e2, ⟨⟨r, R', M', hv, hX, hP1⟩, hz, hk⟩, hst⟩ := hr T hT X
  rw [h0] at hz hk
  have hv' : v = r.map (cv sb b) := by
    injection hv
  subst hv'
  rw [Nat.add_assoc] at hP1
  rw [← e1] at hP1
  have hS1 : va_S (fun q => b ≤ q) s.heap T'.heap (locs ++ L1) := by
    refine ⟨Nat.le_trans hS.1 (by rw [e1]; exact hz), fun q g1 g2 => ?_, fun q hq => ?_⟩
    · rw [e1, hk q (Nat.lt_of_lt_of_le g1 hS.1) g2]
      exact hS.2.1 q g1 g2
    · rcases List.mem_append.mp hq with h | h
      · exact hS.2.2 q h
      · exact hL q h
  obtain ⟨t2, a1, b1⟩ := hX p l e Rm s m args below meth c D cI cZ cG sb b Z Cx hZ T'.heap (locs ++ L1) ls hP1 hS1 hl T' rfl X'
  refine ⟨t2, hst t2 ?_, b1⟩
  cases r with
  | none => exact a1
  | some w => exact a1
theorem x_pre {av : List AV} (hK : xK D cI cZ cG s) (hsz : H.size = b + (n0 + cu)) (hH : va_P D xCL (xwd cI cZ cG b (n0 + cu) R M) H) : PreS s H (va_Pc (av.map (cv sb b)) (fun U => U.heap.size = b + (n0 + cu) ∧ va_P D xCL (xwd cI cZ cG b (n0 + cu) R M) U.heap ∧ xK D cI cZ cG U)) (av.map (cv sb b)) := by
  refine ⟨fun a U g mk q => ?_, fun U hU hW => ⟨rfl, by rw [hU]; exact hsz, by rw [hU]; exact hH, hK.warm hW⟩⟩
  obtain ⟨q0, q1, q2, q3⟩ := q
  exact ⟨q0, q1, q2, xK.same (s := U) (U := U.calling g mk a) rfl q3⟩
theorem x_preV {av : List AV} {k ci N : Nat} {C : String} {T : u_T} (hK : xK D cI cZ cG s) (hsz : H.size = b + (n0 + cu)) (hH : va_P D xCL (xwd cI cZ cG b (n0 + cu) R M) H) (hk : k < n0 + cu) (hS0 : xS k = (ci + 3, N)) (hc : xCL[ci]? = some (C, T, N)) :
    PreV s H C (b + k) (va_Pc ((vr k :: av).map (cv sb b)) (fun U => U.heap.size = b + (n0 + cu) ∧ va_P D xCL (xwd cI cZ cG b (n0 + cu) R M) U.heap ∧ xK D cI cZ cG U)) (av.map (cv sb b)) := by
  have h := x_pre (sb := sb) (av := vr k :: av) hK hsz hH
  have he := xwd_at (cI := cI) (cZ := cZ) (cG := cG) (b := b) (R := R) (M := M) hk
  rw [xce_o hS0] at he
  exact ⟨h.1, va_recv hK.1 hH hc he, h.2⟩
end XCa
section XCb
variable {sc : Option (Nat × (Nat → Int32))} {i : xMt} {d n0 mc ms : Nat} {Q : Option AV → xR → xM → Prop} {pc : Nat} {L : List (Option AV)} {st : List AV} {cu su : Nat} {R : xR} {M : xM}
theorem x_room {j : xMt} {d' Rf Rl : Nat} (hL : mL j ≤ 26) (hdd : d' + 1 ≤ d) (h1 : d ≤ Rf) (h2 : 45 * d ≤ Rl) : d' + 1 ≤ Rf ∧ 8 + (mL j + 11) + 45 * d' ≤ Rl := ⟨by omega, by omega⟩
/-- invokevirtual -/
theorem x_callV (j : xMt) (d' mc' ms' idx k ci N : Nat) {T : u_T} (av rest : List AV) (hst : st = av.reverse ++ vr k :: rest) (hd : decode (mB i) pc = .ok (.invokevirtual idx, 3)) (hj : mOK j) (hlk : Cond.methodLink (mO i) idx (mY j) ∈ WS) (hi : Cond.instanceMethod (mY j) ∈ WS) (hs : Cond.selects (mY j).cls (mY j) (mY j) ∈ WS)
    (hn : (parseMethodDescriptor (mY j).desc).map (fun d => d.parameters.length) = some av.length) (hk : k < n0 + cu) (hS0 : xS k = (ci + 3, N)) (hc : xCL[ci]? = some ((mY j).cls, T, N)) (hdd : d' + 1 ≤ d) (hmc : cu + mc' ≤ mc) (hms : su + ms' ≤ ms) (hr : rest.length ≤ 8)
    (kk : xC j d' (n0 + cu) mc' ms' (vr k :: av) R M (fun r R' M' => xX sc i d n0 mc ms Q (pc + 3) L (r.toList ++ rest) (cu + mc') (su + ms') R' M')) : xX sc i d n0 mc ms Q pc L st cu su R M := by
  intro p l e Rm s m args below meth c D cI cZ cG sb b Z Cx hZ H locs ls hH hS hl
  have hts := Cx.1.2.2.2.2
  refine xW_size Cx.2.2.2.2.2.2.1 hH hS (fun hsz => ?_)
  refine x_back (mc' := mc') (ms' := ms') (rest := rest) Cx hZ hS hl ?_
  have cb := callB_of (own := mO i) (index := idx) (y := mY j) (bytes := mB j) (maxL := mL j) (ret := mR j) (R := Rm) (rm := { frames := d', cells := mc', slots := ms', locals := 45 * d' }) av.length hts hj.good rfl rfl rfl (hts _ hj.2.1) (hts _ hlk) ⟨hj.2.2.1.1, hj.2.2.1.2, hn⟩ (x_room hj.2.2.2 hdd Cx.2.2.2.2.2.1.1 Cx.2.2.2.2.2.1.2.1)
  exact va_runV (b := b + k) (As := av.map (cv sb b)) (rest := rest.map (cv sb b)) Cx.1 (kk l D cI cZ cG sb b) ⟨cb, hts _ hi, hts _ hs⟩ (x_preV Cx.2.1 hsz hH hk hS0 hc) rfl (by rw [List.length_map]) hl.1 (by show List.map _ st = _; rw [hst, List.map_append, List.map_reverse, List.map_cons]; rfl) (lv_room (by rw [cv_sum]; exact hr)) hd ⟨Nat.le_trans hmc Cx.2.2.2.2.2.1.2.2.1, Nat.le_trans hms Cx.2.2.2.2.2.1.2.2.2⟩
/-- ... of a nest mate's private method -/
theorem x_callVN (j : xMt) (d' mc' ms' idx k ci N : Nat) (host : String) {T : u_T} (av rest : List AV) (hst : st = av.reverse ++ vr k :: rest) (hd : decode (mB i) pc = .ok (.invokevirtual idx, 3)) (hj : mOK j) (hlk : Cond.methodLinkNest (mO i) idx (mY j) host ∈ NW) (hi : Cond.instanceMethod (mY j) ∈ WS) (hs : Cond.selects (mY j).cls (mY j) (mY j) ∈ WS)
    (hn : (parseMethodDescriptor (mY j).desc).map (fun d => d.parameters.length) = some av.length) (hk : k < n0 + cu) (hS0 : xS k = (ci + 3, N)) (hc : xCL[ci]? = some ((mY j).cls, T, N)) (hdd : d' + 1 ≤ d) (hmc : cu + mc' ≤ mc) (hms : su + ms' ≤ ms) (hr : rest.length ≤ 8)
    (kk : xC j d' (n0 + cu) mc' ms' (vr k :: av) R M (fun r R' M' => xX sc i d n0 mc ms Q (pc + 3) L (r.toList ++ rest) (cu + mc') (su + ms') R' M')) : xX sc i d n0 mc ms Q pc L st cu su R M := by
  intro p l e Rm s m args below meth c D cI cZ cG sb b Z Cx hZ H locs ls hH hS hl
  have hts := Cx.1.2.2.2.2
  refine xW_size Cx.2.2.2.2.2.2.1 hH hS (fun hsz => ?_)
  refine x_back (mc' := mc') (ms' := ms') (rest := rest) Cx hZ hS hl ?_
  have cb := va_cnB (own := mO i) (host := host) (index := idx) (y := mY j) (bytes := mB j) (maxL := mL j) (ret := mR j) (R := Rm) (rm := { frames := d', cells := mc', slots := ms', locals := 45 * d' }) av.length hts hj.good rfl rfl rfl (Cx.2.1.2.1 _ hlk) (hts _ hj.2.1) ⟨hj.2.2.1.1, hj.2.2.1.2, hn⟩ (x_room hj.2.2.2 hdd Cx.2.2.2.2.2.1.1 Cx.2.2.2.2.2.1.2.1)
  exact va_runVN (b := b + k) (As := av.map (cv sb b)) (rest := rest.map (cv sb b)) Cx.1 (kk l D cI cZ cG sb b) ⟨cb, hts _ hi, hts _ hs⟩ (x_preV Cx.2.1 hsz hH hk hS0 hc) rfl (by rw [List.length_map]) hl.1 (by show List.map _ st = _; rw [hst, List.map_append, List.map_reverse, List.map_cons]; rfl) (lv_room (by rw [cv_sum]; exact hr)) hd ⟨Nat.le_trans hmc Cx.2.2.2.2.2.1.2.2.1, Nat.le_trans hms Cx.2.2.2.2.2.1.2.2.2⟩
/-- invokestatic -/
theorem x_callS (j : xMt) (d' mc' ms' idx : Nat) (av rest : List AV) (hst : st = av.reverse ++ rest) (hd : decode (mB i) pc = .ok (.invokestatic idx, 3)) (hj : mOK j) (hlk : Cond.methodLink (mO i) idx (mY j) ∈ WS) (hi : Cond.static (mY j) ∈ WS)
    (hn : (parseMethodDescriptor (mY j).desc).map (fun d => d.parameters.length) = some av.length) (hdd : d' + 1 ≤ d) (hmc : cu + mc' ≤ mc) (hms : su + ms' ≤ ms) (hr : rest.length ≤ 8)
    (kk : xC j d' (n0 + cu) mc' ms' av R M (fun r R' M' => xX sc i d n0 mc ms Q (pc + 3) L (r.toList ++ rest) (cu + mc') (su + ms') R' M')) : xX sc i d n0 mc ms Q pc L st cu su R M := by
  intro p l e Rm s m args below meth c D cI cZ cG sb b Z Cx hZ H locs ls hH hS hl
  have hts := Cx.1.2.2.2.2
  refine xW_size Cx.2.2.2.2.2.2.1 hH hS (fun hsz => ?_)
  refine x_back (mc' := mc') (ms' := ms') (rest := rest) Cx hZ hS hl ?_
  have cb := callB_of (own := mO i) (index := idx) (y := mY j) (bytes := mB j) (maxL := mL j) (ret := mR j) (R := Rm) (rm := { frames := d', cells := mc', slots := ms', locals := 45 * d' }) av.length hts hj.good rfl rfl rfl (hts _ hj.2.1) (hts _ hlk) ⟨hj.2.2.1.1, hj.2.2.1.2, hn⟩ (x_room hj.2.2.2 hdd Cx.2.2.2.2.2.1.1 Cx.2.2.2.2.2.1.2.1)
  exact va_runS (As := av.map (cv sb b)) (rest := rest.map (cv sb b)) Cx.1 (kk l D cI cZ cG sb b) ⟨cb, hts _ hi⟩ (x_pre Cx.2.1 hsz hH) rfl (by rw [List.length_map]) hl.1 (by show List.map _ st = _; rw [hst, List.map_append, List.map_reverse]) (lv_room (by rw [cv_sum]; exact hr)) hd ⟨Nat.le_trans hmc Cx.2.2.2.2.2.1.2.2.1, Nat.le_trans hms Cx.2.2.2.2.2.1.2.2.2⟩
theorem x_callSN (j : xMt) (d' mc' ms' idx : Nat) (host : String) (av rest : List AV) (hst : st = av.reverse ++ rest) (hd : decode (mB i) pc = .ok (.invokestatic idx, 3)) (hj : mOK j) (hlk : Cond.methodLinkNest (mO i) idx (mY j) host ∈ NW) (hi : Cond.static (mY j) ∈ WS)
    (hn : (parseMethodDescriptor (mY j).desc).map (fun d => d.parameters.length) = some av.length) (hdd : d' + 1 ≤ d) (hmc : cu + mc' ≤ mc) (hms : su + ms' ≤ ms) (hr : rest.length ≤ 8)
    (kk : xC j d' (n0 + cu) mc' ms' av R M (fun r R' M' => xX sc i d n0 mc ms Q (pc + 3) L (r.toList ++ rest) (cu + mc') (su + ms') R' M')) : xX sc i d n0 mc ms Q pc L st cu su R M := by
  intro p l e Rm s m args below meth c D cI cZ cG sb b Z Cx hZ H locs ls hH hS hl
  have hts := Cx.1.2.2.2.2
  refine xW_size Cx.2.2.2.2.2.2.1 hH hS (fun hsz => ?_)
  refine x_back (mc' := mc') (ms' := ms') (rest := rest) Cx hZ hS hl ?_
  have cb := va_cnB (own := mO i) (host := host) (index := idx) (y := mY j) (bytes := mB j) (maxL := mL j) (ret := mR j) (R := Rm) (rm := { frames := d', cells := mc', slots := ms', locals := 45 * d' }) av.length hts hj.good rfl rfl rfl (Cx.2.1.2.1 _ hlk) (hts _ hj.2.1) ⟨hj.2.2.1.1, hj.2.2.1.2, hn⟩ (x_room hj.2.2.2 hdd Cx.2.2.2.2.2.1.1 Cx.2.2.2.2.2.1.2.1)
  exact va_runSN (As := av.map (cv sb b)) (rest := rest.map (cv sb b)) Cx.1 (kk l D cI cZ cG sb b) ⟨cb, hts _ hi, trivial⟩ (x_pre Cx.2.1 hsz hH) rfl (by rw [List.length_map]) hl.1 (by show List.map _ st = _; rw [hst, List.map_append, List.map_reverse]) (lv_room (by rw [cv_sum]; exact hr)) hd ⟨Nat.le_trans hmc Cx.2.2.2.2.2.1.2.2.1, Nat.le_trans hms Cx.2.2.2.2.2.1.2.2.2⟩
/-- invokespecial <init> -/
theorem x_callI (j : xMt) (d' mc' ms' idx k : Nat) (av rest : List AV) (hst : st = av.reverse ++ vr k :: rest) (hd : decode (mB i) pc = .ok (.invokespecial idx, 3)) (hj : mOK j) (hret : mR j = none) (hy : (mY j).name = "<init>") (hlk : Cond.methodLink (mO i) idx (mY j) ∈ WS) (hi : Cond.instanceMethod (mY j) ∈ WS)
    (hn : (parseMethodDescriptor (mY j).desc).map (fun d => d.parameters.length) = some av.length) (hdd : d' + 1 ≤ d) (hmc : cu + mc' ≤ mc) (hms : su + ms' ≤ ms) (hr : rest.length ≤ 8)
    (kk : xC j d' (n0 + cu) mc' ms' (vr k :: av) R M (fun r R' M' => xX sc i d n0 mc ms Q (pc + 3) L (r.toList ++ rest) (cu + mc') (su + ms') R' M')) : xX sc i d n0 mc ms Q pc L st cu su R M := by
  intro p l e Rm s m args below meth c D cI cZ cG sb b Z Cx hZ H locs ls hH hS hl
  have hts := Cx.1.2.2.2.2
  refine xW_size Cx.2.2.2.2.2.2.1 hH hS (fun hsz => ?_)
  refine x_back (mc' := mc') (ms' := ms') (rest := rest) Cx hZ hS hl ?_
  have cb := callB_of (own := mO i) (index := idx) (y := mY j) (bytes := mB j) (maxL := mL j) (ret := mR j) (R := Rm) (rm := { frames := d', cells := mc', slots := ms', locals := 45 * d' }) av.length hts hj.good rfl rfl rfl (hts _ hj.2.1) (hts _ hlk) ⟨hj.2.2.1.1, hj.2.2.1.2, hn⟩ (x_room hj.2.2.2 hdd Cx.2.2.2.2.2.1.1 Cx.2.2.2.2.2.1.2.1)
  rw [hret] at cb
  exact va_runI (b := b + k) (As := av.map (cv sb b)) (rest := rest.map (cv sb b)) Cx.1 (kk l D cI cZ cG sb b) ⟨by rw [hret]; exact cb, hy, hts _ hi⟩ (x_pre (av := vr k :: av) Cx.2.1 hsz hH) rfl (by rw [List.length_map]) hl.1 (by show List.map _ st = _; rw [hst, List.map_append, List.map_reverse, List.map_cons]; rfl) (lv_room (by rw [cv_sum]; exact hr)) hd ⟨Nat.le_trans hmc Cx.2.2.2.2.2.1.2.2.1, Nat.le_trans hms Cx.2.2.2.2.2.1.2.2.2⟩
theorem x_callIN (j : xMt) (d' mc' ms' idx k : Nat) (host : String) (av rest : List AV) (hst : st = av.reverse ++ vr k :: rest) (hd : decode (mB i) pc = .ok (.invokespecial idx, 3)) (hj : mOK j) (hret : mR j = none) (hy : (mY j).name = "<init>") (hlk : Cond.methodLinkNest (mO i) idx (mY j) host ∈ NW) (hi : Cond.instanceMethod (mY j) ∈ WS)
    (hn : (parseMethodDescriptor (mY j).desc).map (fun d => d.parameters.length) = some av.length) (hdd : d' + 1 ≤ d) (hmc : cu + mc' ≤ mc) (hms : su + ms' ≤ ms) (hr : rest.length ≤ 8)
    (kk : xC j d' (n0 + cu) mc' ms' (vr k :: av) R M (fun r R' M' => xX sc i d n0 mc ms Q (pc + 3) L (r.toList ++ rest) (cu + mc') (su + ms') R' M')) : xX sc i d n0 mc ms Q pc L st cu su R M := by
  intro p l e Rm s m args below meth c D cI cZ cG sb b Z Cx hZ H locs ls hH hS hl
  have hts := Cx.1.2.2.2.2
  refine xW_size Cx.2.2.2.2.2.2.1 hH hS (fun hsz => ?_)
  refine x_back (mc' := mc') (ms' := ms') (rest := rest) Cx hZ hS hl ?_
  have cb := va_cnB (own := mO i) (host := host) (index := idx) (y := mY j) (bytes := mB j) (maxL := mL j) (ret := mR j) (R := Rm) (rm := { frames := d', cells := mc', slots := ms', locals := 45 * d' }) av.length hts hj.good rfl rfl rfl (Cx.2.1.2.1 _ hlk) (hts _ hj.2.1) ⟨hj.2.2.1.1, hj.2.2.1.2, hn⟩ (x_room hj.2.2.2 hdd Cx.2.2.2.2.2.1.1 Cx.2.2.2.2.2.1.2.1)
  rw [hret] at cb
  exact va_runIN (b := b + k) (As := av.map (cv sb b)) (rest := rest.map (cv sb b)) Cx.1 (kk l D cI cZ cG sb b) ⟨by rw [hret]; exact cb, hy, hts _ hi⟩ (x_pre (av := vr k :: av) Cx.2.1 hsz hH) rfl (by rw [List.length_map]) hl.1 (by show List.map _ st = _; rw [hst, List.map_append, List.map_reverse, List.map_cons]; rfl) (lv_room (by rw [cv_sum]; exact hr)) hd ⟨Nat.le_trans hmc Cx.2.2.2.2.2.1.2.2.1, Nat.le_trans hms Cx.2.2.2.2.2.1.2.2.2⟩
theorem x_objInit (idx k : Nat) (hd : decode (mB i) pc = .ok (.invokespecial idx, 3)) (hlk : Cond.methodLink (mO i) idx Lib.objectInit ∈ WS) (hi : Cond.instanceMethod Lib.objectInit ∈ WS) (hc : Cond.code Lib.objectInit ⟨#[0xb1]⟩ 1 none ∈ WS) (hdd : 1 ≤ d) (hr : st.length ≤ 8) (kk : xX sc i d n0 mc ms Q (pc + 3) L st cu su R M) : xX sc i d n0 mc ms Q pc L (vr k :: st) cu su R M := by
  intro p l e Rm s m args below meth c D cI cZ cG sb b Z Cx hZ H locs ls hH hS hl
  have hts := Cx.1.2.2.2.2
  have h1 := Cx.2.2.2.2.2.1.1
  have h2 := Cx.2.2.2.2.2.1.2.1
  have hw := lv_room (m := m) (pc := pc) (ls := ls) (rest := (vr k :: st).map (cv sb b)) (st := st.map (cv sb b)) (by rw [cv_sum]; exact hr)
  exact W.objInit (a := b + k) (rest := st.map (cv sb b)) Cx.1.1 Cx.1.2.1 Cx.1.2.2.2.1 (hts _ hlk) (hts _ hi) (hts _ hc) rfl (by rw [Cx.1.2.2.1]; exact hl.1) rfl hd (by omega) (by omega) (kk p l e Rm s m args below meth c D cI cZ cG sb b Z Cx hZ H locs ls hH hS hl)
theorem x_min (idx : Nat) {x y : Int} (hd : decode (mB i) pc = .ok (.invokestatic idx, 3)) (hlk : Cond.methodLink (mO i) idx Lib.Math.min.name ∈ WS) (hst : Cond.static Lib.Math.min.name ∈ WS) (hin : Cond.initialized "java/lang/Math" ∈ WS) (hcd : Cond.code Lib.Math.min.name Lib.Math.min.code 2 (some .int) ∈ WS) (hdd : 1 ≤ d) (hr : st.length ≤ 8) (hcu : cu ≤ mc) (hsu : su ≤ ms) (hx : xin x) (hy : xin y)
    (kk : xX sc i d n0 mc ms Q (pc + 3) L (vi (if y < x then y else x) :: st) cu su R M) : xX sc i d n0 mc ms Q pc L (vi y :: vi x :: st) cu su R M := by
  intro p l e Rm s m args below meth c D cI cZ cG sb b Z Cx hZ H locs ls hH hS hl
  have hts := Cx.1.2.2.2.2
  have h1 := Cx.2.2.2.2.2.1.1
  have h2 := Cx.2.2.2.2.2.1.2.1
  have k1 : W p l e Rm s m args below meth c H locs cu su Z (F0 m (pc + 3) ls (.int (xI (if y < x then y else x)) :: st.map (cv sb b))) := kk p l e Rm s m args below meth c D cI cZ cG sb b Z Cx hZ H locs ls hH hS hl
  have e1 : xI (if y < x then y else x) = if xI y < xI x then xI y else xI x := by
    by_cases h : y < x
    · rw [if_pos h, if_pos ((xI_lt hy hx).mpr h)]
    · rw [if_neg h, if_neg (fun q => h ((xI_lt hy hx).mp q))]
  rw [e1] at k1
  exact va_mmin Cx.1.1 Cx.1.2.1 (by rw [Cx.1.2.2.1]; exact hl.1.symm) Cx.1.2.2.2.1 (hts _ hlk) (hts _ hst) (hts _ hin) (hts _ hcd) (by omega) (by rw [cv_sum]; omega) (Nat.le_trans hcu Cx.2.2.2.2.2.1.2.2.1) (Nat.le_trans hsu Cx.2.2.2.2.2.1.2.2.2) hd k1
theorem x_max (idx : Nat) {x y : Int} (hd : decode (mB i) pc = .ok (.invokestatic idx, 3)) (hlk : Cond.methodLink (mO i) idx Lib.Math.max.name ∈ WS) (hst : Cond.static Lib.Math.max.name ∈ WS) (hin : Cond.initialized "java/lang/Math" ∈ WS) (hcd : Cond.code Lib.Math.max.name Lib.Math.max.code 2 (some .int) ∈ WS) (hdd : 1 ≤ d) (hr : st.length ≤ 8) (hcu : cu ≤ mc) (hsu : su ≤ ms) (hx : xin x) (hy : xin y)
    (kk : xX sc i d n0 mc ms Q (pc + 3) L (vi (if x < y then y else x) :: st) cu su R M) : xX sc i d n0 mc ms Q pc L (vi y :: vi x :: st) cu su R M := by
  intro p l e Rm s m args below meth c D cI cZ cG sb b Z Cx hZ H locs ls hH hS hl
  have hts := Cx.1.2.2.2.2
  have h1 := Cx.2.2.2.2.2.1.1
  have h2 := Cx.2.2.2.2.2.1.2.1
  have k1 : W p l e Rm s m args below meth c H locs cu su Z (F0 m (pc + 3) ls (.int (xI (if x < y then y else x)) :: st.map (cv sb b))) := kk p l e Rm s m args below meth c D cI cZ cG sb b Z Cx hZ H locs ls hH hS hl
  have e1 : xI (if x < y then y else x) = if xI x < xI y then xI y else xI x := by
    by_cases h : x < y
    · rw [if_pos h, if_pos ((xI_lt hx hy).mpr h)]
    · rw [if_neg h, if_neg (fun q => h ((xI_lt hx hy).mp q))]
  rw [e1] at k1
  exact va_mmax Cx.1.1 Cx.1.2.1 (by rw [Cx.1.2.2.1]; exact hl.1.symm) Cx.1.2.2.2.1 (hts _ hlk) (hts _ hst) (hts _ hin) (hts _ hcd) (by omega) (by rw [cv_sum]; omega) (Nat.le_trans hcu Cx.2.2.2.2.2.1.2.2.1) (Nat.le_trans hsu Cx.2.2.2.2.2.1.2.2.2) hd k1
theorem xNF : nativeFrameWords "java/lang/System" "arraycopy" 5 ≤ 20 := by decide +kernel
/-- System.arraycopy of ints -/
def xCp (M : xM) (k0 k1 sp dp n : Nat) : xM := fun k j => if k = k1 ∧ dp ≤ j ∧ j < dp + n then M k0 (sp + (j - dp)) else M k j
theorem x_copy (idx k0 k1 N0 N1 : Nat) {sp dp n : Int} (hd : decode (mB i) pc = .ok (.invokestatic idx, 3)) (hlk : Cond.methodLink (mO i) idx arraycopyName ∈ WS) (hna : Cond.native arraycopyName ∈ WS) (hst : Cond.static arraycopyName ∈ WS) (hin : Cond.initialized "java/lang/System" ∈ WS) (hdd : 1 ≤ d) (hr : st.length ≤ 8)
    (hk0 : k0 < n0 + cu) (hk1 : k1 < n0 + cu) (hS0 : xS k0 = (0, N0)) (hS1 : xS k1 = (0, N1)) (hN0 : N0 < 2147483648) (hN1 : N1 < 2147483648) (g1 : 0 ≤ sp) (g2 : 0 ≤ dp) (g3 : 0 ≤ n) (g4 : sp + n ≤ N0) (g5 : dp + n ≤ N1)
    (kk : ∀ M1, M1 = xCp M k0 k1 sp.toNat dp.toNat n.toNat → xX sc i d n0 mc ms Q (pc + 3) L st cu su R M1) : xX sc i d n0 mc ms Q pc L (vi n :: vi dp :: vr k1 :: vi sp :: vr k0 :: st) cu su R M := by
  intro p l e Rm s m args below meth c D cI cZ cG sb b Z Cx hZ H locs ls hH hS hl
  have hts := Cx.1.2.2.2.2
  have h1 := Cx.2.2.2.2.2.1.1
  have h2 := Cx.2.2.2.2.2.1.2.1
  have he0 := xwd_at (cI := cI) (cZ := cZ) (cG := cG) (b := b) (R := R) (M := M) hk0
  have he1 := xwd_at (cI := cI) (cZ := cZ) (cG := cG) (b := b) (R := R) (M := M) hk1
  rw [xce_i hS0] at he0
  rw [xce_i hS1] at he1
  have neg : ∀ z : Int, 0 ≤ z → z < 2147483648 → ¬ xI z < 0 := fun z a1 a2 q => by
    have := (xI_lt (x := z) (y := 0) ⟨by omega, a2⟩ xin0).mp (by rw [xI_0]; exact q)
    omega
  refine va_copyi (sp := xI sp) (dp := xI dp) (n := xI n) (ty := .int) Cx.1.1 Cx.1.2.1 (by rw [Cx.1.2.2.1]; exact hl.1.symm) Cx.1.2.2.2.1 (hts _ hlk) (hts _ hna) (hts _ hst) (hts _ hin) Cx.2.1.1 hH xwd_D hS k0 k1 0 0 he0 he1 rfl rfl rfl (neg _ g1 (by omega)) (neg _ g2 (by omega)) (neg _ g3 (by omega)) (by rw [xI_clamp g1 (by omega), xI_clamp g3 (by omega)]; omega) (by rw [xI_clamp g2 (by omega), xI_clamp g3 (by omega)]; omega) (fun _ _ => rfl) (by omega) (by rw [cv_sum]; have := xNF; omega) hd (fun H1 locs1 q1 _ q3 => ?_)
  refine kk _ rfl p l e Rm s m args below meth c D cI cZ cG sb b Z Cx hZ H1 locs1 ls ?_ q3 hl
  have ec : (va_cpy (fun j => xI (M k0 j)) (fun j => xI (M k1 j)) (xI sp).toNatClampNeg (xI dp).toNatClampNeg (xI n).toNatClampNeg) = fun j => xI (xCp M k0 k1 sp.toNat dp.toNat n.toNat k1 j) := by
    rw [xI_clamp g1 (by omega), xI_clamp g2 (by omega), xI_clamp g3 (by omega)]
    funext j
    unfold va_cpy xCp
    by_cases hj : dp.toNat ≤ j ∧ j < dp.toNat + n.toNat
    · rw [if_pos hj, if_pos ⟨rfl, hj⟩]
    · rw [if_neg hj, if_neg (fun q => hj q.2)]
  rw [ec, ← xce_i (cI := cI) (cZ := cZ) (cG := cG) (b := b) (R := R) (M := xCp M k0 k1 sp.toNat dp.toNat n.toNat) hS1, xwd_set hk1 (fun j' hj' => xce_congr (by funext a; unfold xCp; rw [if_neg (fun q => hj' q.1)]) rfl)] at q1
  exact q1
theorem x_new (C : String) {T : u_T} {ty : Nat → FieldType} (N ci idx : Nat) (hd : decode (mB i) pc = .ok (.new idx, 3)) (hC : cOK C T N ty) (hc : xCL[ci]? = some (C, T, N)) (hcl : Cond.classLink (mO i) idx C ∈ WS) (hin : Cond.instantiable C N ∈ WS) (hini : Cond.initialized C ∈ WS) (hS0 : xS (n0 + cu) = (ci + 3, N)) (hty : ∀ j, j < N → defaultValue (ty j) = if xIs ci j = true then .null else .int 0)
    (hR0 : ∀ j, R (n0 + cu) j = none) (hM0 : ∀ j, M (n0 + cu) j = 0) (hcu : cu + 1 ≤ mc) (hsu : su + N ≤ ms) (kk : xX sc i d n0 mc ms Q (pc + 3) L (vr (n0 + cu) :: st) (cu + 1) (su + N) R M) : xX sc i d n0 mc ms Q pc L st cu su R M := by
  intro p l e Rm s m args below meth c D cI cZ cG sb b Z Cx hZ H locs ls hH hS hl
  have hts := Cx.1.2.2.2.2
  refine xW_size Cx.2.2.2.2.2.2.1 hH hS (fun hsz => ?_)
  have hKn := Cx.2.1.1.1 ci _ hc
  refine W.newcK Cx.1.1 Cx.1.2.1 Cx.1.2.2.2.1 (hts _ hcl) (hts _ hin) (hts _ hini) rfl hd (Nat.le_trans hcu Cx.2.2.2.2.2.1.2.2.1) (Nat.le_trans hsu Cx.2.2.2.2.2.1.2.2.2) hKn.2.1 hsz fun H1 kC hkC e1 z1 o1 => ?_
  refine kk p l e Rm s m args below meth c D cI cZ cG sb b Z Cx hZ H1 locs ls (fun k q hk => ?_) ⟨Nat.le_trans hS.1 (by omega), fun x h1 h2 => (o1 x (by have := hS.1; omega)).trans (hS.2.1 x h1 h2), hS.2.2⟩ hl
  obtain ⟨hkn, rfl⟩ := xwd_of hk
  by_cases h : k = n0 + cu
  · subst h
    rw [xce_o hS0]
    refine ⟨_, hc, (u_born ty hts hC.1 hKn hkC e1 hC.2.1).to (fun j hj => ?_)⟩
    rw [hty j hj]
    show _ = (xfs b ci N (n0 + cu) R M).getD j .null
    rw [List.getD_eq_getElem?_getD, xfs, List.getElem?_map, List.getElem?_range hj]
    simp only [Option.map_some, Option.getD_some, hR0, hM0]
    by_cases hb : xIs ci j = true
    · rw [if_pos hb, if_pos hb]; rfl
    · rw [if_neg hb, if_neg hb]; rfl
  · have hlt : k < n0 + cu := by omega
    exact (hH k _ (xwd_at hlt)).kept (o1 _ (by show b + k < _; omega))
theorem x_newa (kd : Nat) {atype : ArrayType} {ty : FieldType} {z : Int} (N : Nat) (hd : decode (mB i) pc = .ok (.newarray atype, 2)) (hat : newarray.typeOf atype = ty) (hkd : (kd = 0 ∧ ty = .int) ∨ (kd = 1 ∧ ty = .boolean)) (hz : z = (N : Int)) (hN : N < 100000000) (hac : Cond.arrayClass ty ∈ WS) (hS0 : xS (n0 + cu) = (kd, N)) (hM0 : ∀ j, M (n0 + cu) j = 0) (hcu : cu + 1 ≤ mc) (hsu : su + N ≤ ms)
    (kk : xX sc i d n0 mc ms Q (pc + 2) L (vr (n0 + cu) :: st) (cu + 1) (su + N) R M) : xX sc i d n0 mc ms Q pc L (vi z :: st) cu su R M := by
  intro p l e Rm s m args below meth c D cI cZ cG sb b Z Cx hZ H locs ls hH hS hl
  have hts := Cx.1.2.2.2.2
  subst hz
  subst hat
  refine xW_size Cx.2.2.2.2.2.2.1 hH hS (fun hsz => ?_)
  have hcN : (xI (N : Int)).toNatClampNeg = N := by rw [xI_clamp (by omega) (by omega)]; rfl
  have hng : ¬ xI (N : Int) < 0 := fun q => by
    have := (xI_lt (x := (N : Int)) (y := 0) ⟨by omega, by omega⟩ xin0).mp (by rw [xI_0]; exact q)
    omega
  have hby : N * componentBytes (newarray.typeOf atype) ≤ 536870912 := by
    rcases hkd with ⟨-, h⟩ | ⟨-, h⟩ <;> rw [h]
    · show N * 4 ≤ _; omega
    · show N * 1 ≤ _; omega
  refine va_newaK (rest := st.map (cv sb b)) Cx.1.1 Cx.1.2.1 (hts _ hac) rfl hd rfl hng hcN hby (Nat.le_trans hcu Cx.2.2.2.2.2.1.2.2.1) (Nat.le_trans hsu Cx.2.2.2.2.2.1.2.2.2) hsz fun H1 cA e1 z1 o1 _ hfc => ?_
  refine kk p l e Rm s m args below meth c D cI cZ cG sb b Z Cx hZ H1 locs ls (fun k q hk => ?_) ⟨Nat.le_trans hS.1 (by omega), fun x h1 h2 => (o1 x (by have := hS.1; omega)).trans (hS.2.1 x h1 h2), hS.2.2⟩ hl
  obtain ⟨hkn, rfl⟩ := xwd_of hk
  by_cases h : k = n0 + cu
  · subst h
    rcases hkd with ⟨rfl, ht⟩ | ⟨rfl, ht⟩
    · rw [ht] at e1 hfc
      have hcA : s.vm.findClass ("[" ++ FieldType.int.toString) = some cI := (Cx.2.1.1.2 0 _ rfl).2
      have hcc : cA = cI := Option.some.inj (hfc.symm.trans hcA)
      subst hcc
      rw [xce_i hS0]
      show H1[b + (n0 + cu)]? = some (arrV cA N (fun j => .int (xI (M (n0 + cu) j))))
      rw [e1]
      simp only [hM0]
      rfl
    · rw [ht] at e1 hfc
      have hcA : s.vm.findClass ("[" ++ FieldType.boolean.toString) = some cZ := (Cx.2.1.1.2 1 _ rfl).2
      have hcc : cA = cZ := Option.some.inj (hfc.symm.trans hcA)
      subst hcc
      rw [xce_z hS0]
      show H1[b + (n0 + cu)]? = some (arrV cA N (fun j => .int (xI (M (n0 + cu) j))))
      rw [e1]
      simp only [hM0]
      rfl
  · have hlt : k < n0 + cu := by omega
    exact (hH k _ (xwd_at hlt)).kept (o1 _ (by show b + k < _; omega))
/-- a method's contract out of its walk -/
theorem xC.of (L0 : List (Option AV)) {n : Nat} {av : List AV} (hy : plainName (mY i).cls = true) (hown : (mY i).cls = mO i) (hL : av.length ≤ mL i) (hL0 : L0 = av.map some ++ List.replicate (mL i - av.length) none) (h : xX sc0 i d n mc ms Q 0 L0 [] 0 0 R M) : xC i d n mc ms av R M Q := by
  intro l D cI cZ cG sb b
  refine Met.ofW (cc := mB i) (maxL := mL i) (ret := mR i) hy rfl ?_
  intro p e s m args below meth c s₁ B hml hv
  obtain ⟨rfl, hsz, hH, hK⟩ := hv
  have hts := atoms_spec (ws := Cond.code (mY i) (mB i) (mL i) (mR i) :: WS) B.pre
  have hlocks := B.notSynchronized
  have hl := lv_entry (av.map (cv sb b)) (n := mL i) (by rw [xas_sl]; exact hL)
  rw [lg_entry_eq]
  generalize (lg_sl (av.map (cv sb b)) ++ List.replicate (mL i - (lg_sl (av.map (cv sb b))).length) Slot.unset).toArray = ls at hl ⊢
  rw [xas_args] at hl
  have hl2 : lv_has ls (mL i) (xas sb b 0 L0) := xas_sub hl (fun j v hj => by
    rw [hL0] at hj
    by_cases hlt : j < (av.map some).length
    · rwa [List.getElem?_append_left hlt] at hj
    · rw [List.getElem?_append_right (Nat.not_lt.mp hlt), List.getElem?_replicate] at hj
      split at hj <;> cases hj)
  refine h p l e _ s m _ below meth c D cI cZ cG sb b _ ⟨⟨B.exec, B.bytes, hml, by rw [← hown]; exact findClass_of_methodNamed B.named, fun w hw => hts w (List.mem_cons_of_mem _ hw)⟩, hK, hlocks, B.returns, fun q => (name_of_methodNamed B.named B.method).1.trans q, ⟨Nat.le_refl _, Nat.le_refl _, Nat.le_refl _, Nat.le_refl _⟩, hsz, fun q hq => nomatch hq⟩ ?_ s.heap [] ls hH va_S.rf hl2
  intro H locs ls' pc R' M' r hq hP hS hret
  rcases hret with ⟨rfl, hr, hd⟩ | ⟨z, rfl, hd, hr⟩
  · exact W.vret B.exec B.bytes (B.returns.trans hr) (fun t ht hW => ⟨⟨none, R', M', rfl, hq, by rw [ht]; exact hP⟩, hS.F ht⟩) hS.2.2 hd
  · rcases hr with hr | ⟨hr, hz⟩
    · exact W.iret B.exec B.bytes (B.returns.trans hr) (fun t ht hW => ⟨⟨some (vi z), R', M', rfl, hq, by rw [ht]; exact hP⟩, hS.F ht⟩) hS.2.2 hd
    · have hnar : narrow .boolean (.int (xI z)) = .int (xI z) := by rcases hz with rfl | rfl <;> rfl
      exact W.zret B.exec B.bytes (B.returns.trans hr) hnar (fun t ht hW => ⟨⟨some (vi z), R', M', rfl, hq, by rw [ht]; exact hP⟩, hS.F ht⟩) hS.2.2 hd
end XCb
