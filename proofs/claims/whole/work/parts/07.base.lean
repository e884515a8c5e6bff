/-! methods that make no cell: an int, or nothing, comes back; the references stay -/
abbrev Xi (i : xMt) (d n : Nat) (R : xR) (P : Int → xM → Prop) (pc : Nat) (L : List (Option AV)) (st : List AV) (M : xM) : Prop := ∀ Q : Option AV → xR → xM → Prop, (∀ z M', P z M' → Q (some (vi z)) R M') → xX sc0 i d n 0 0 Q pc L st 0 0 R M
abbrev Xv (i : xMt) (d n : Nat) (R : xR) (P : xM → Prop) (pc : Nat) (L : List (Option AV)) (st : List AV) (M : xM) : Prop := ∀ Q : Option AV → xR → xM → Prop, (∀ M', P M' → Q none R M') → xX sc0 i d n 0 0 Q pc L st 0 0 R M
abbrev Ci (i : xMt) (d n : Nat) (R : xR) (av : List AV) (M : xM) (P : Int → xM → Prop) : Prop := ∀ Q : Option AV → xR → xM → Prop, (∀ z M', P z M' → Q (some (vi z)) R M') → xC i d n 0 0 av R M Q
abbrev Cv (i : xMt) (d n : Nat) (R : xR) (av : List AV) (M : xM) (P : xM → Prop) : Prop := ∀ Q : Option AV → xR → xM → Prop, (∀ M', P M' → Q none R M') → xC i d n 0 0 av R M Q
section XY
variable {sc : Option (Nat × (Nat → Int32))} {i : xMt} {d n0 mc ms : Nat} {Q : Option AV → xR → xM → Prop} {pc : Nat} {L : List (Option AV)} {st : List AV} {cu su : Nat} {R : xR} {M : xM}
theorem y_callVi {P : Int → xM → Prop} (j : xMt) (d' idx k ci N : Nat) {T : u_T} (av rest : List AV) (hst : st = av.reverse ++ vr k :: rest) (hd : decode (mB i) pc = .ok (.invokevirtual idx, 3)) (hj : mOK j) (hlk : Cond.methodLink (mO i) idx (mY j) ∈ WS) (hi : Cond.instanceMethod (mY j) ∈ WS) (hs : Cond.selects (mY j).cls (mY j) (mY j) ∈ WS)
    (hn : (parseMethodDescriptor (mY j).desc).map (fun d => d.parameters.length) = some av.length) (hk : k < n0 + cu) (hS0 : xS k = (ci + 3, N)) (hc : xCL[ci]? = some ((mY j).cls, T, N)) (hdd : d' + 1 ≤ d) (hr : rest.length ≤ 8) (hmc : cu ≤ mc) (hms : su ≤ ms)
    (h : Ci j d' (n0 + cu) R (vr k :: av) M P) (kk : ∀ z M1, P z M1 → xX sc i d n0 mc ms Q (pc + 3) L (vi z :: rest) cu su R M1) : xX sc i d n0 mc ms Q pc L st cu su R M :=
  x_callV j d' 0 0 idx k ci N av rest hst hd hj hlk hi hs hn hk hS0 hc hdd hmc hms hr (h _ kk)
theorem y_callVv {P : xM → Prop} (j : xMt) (d' idx k ci N : Nat) {T : u_T} (av rest : List AV) (hst : st = av.reverse ++ vr k :: rest) (hd : decode (mB i) pc = .ok (.invokevirtual idx, 3)) (hj : mOK j) (hlk : Cond.methodLink (mO i) idx (mY j) ∈ WS) (hi : Cond.instanceMethod (mY j) ∈ WS) (hs : Cond.selects (mY j).cls (mY j) (mY j) ∈ WS)
    (hn : (parseMethodDescriptor (mY j).desc).map (fun d => d.parameters.length) = some av.length) (hk : k < n0 + cu) (hS0 : xS k = (ci + 3, N)) (hc : xCL[ci]? = some ((mY j).cls, T, N)) (hdd : d' + 1 ≤ d) (hr : rest.length ≤ 8) (hmc : cu ≤ mc) (hms : su ≤ ms)
    (h : Cv j d' (n0 + cu) R (vr k :: av) M P) (kk : ∀ M1, P M1 → xX sc i d n0 mc ms Q (pc + 3) L rest cu su R M1) : xX sc i d n0 mc ms Q pc L st cu su R M :=
  x_callV j d' 0 0 idx k ci N av rest hst hd hj hlk hi hs hn hk hS0 hc hdd hmc hms hr (h _ kk)
theorem y_callVNi {P : Int → xM → Prop} (j : xMt) (d' idx k ci N : Nat) (host : String) {T : u_T} (av rest : List AV) (hst : st = av.reverse ++ vr k :: rest) (hd : decode (mB i) pc = .ok (.invokevirtual idx, 3)) (hj : mOK j) (hlk : Cond.methodLinkNest (mO i) idx (mY j) host ∈ NW) (hi : Cond.instanceMethod (mY j) ∈ WS) (hs : Cond.selects (mY j).cls (mY j) (mY j) ∈ WS)
    (hn : (parseMethodDescriptor (mY j).desc).map (fun d => d.parameters.length) = some av.length) (hk : k < n0 + cu) (hS0 : xS k = (ci + 3, N)) (hc : xCL[ci]? = some ((mY j).cls, T, N)) (hdd : d' + 1 ≤ d) (hr : rest.length ≤ 8) (hmc : cu ≤ mc) (hms : su ≤ ms)
    (h : Ci j d' (n0 + cu) R (vr k :: av) M P) (kk : ∀ z M1, P z M1 → xX sc i d n0 mc ms Q (pc + 3) L (vi z :: rest) cu su R M1) : xX sc i d n0 mc ms Q pc L st cu su R M :=
  x_callVN j d' 0 0 idx k ci N host av rest hst hd hj hlk hi hs hn hk hS0 hc hdd hmc hms hr (h _ kk)
theorem y_callVNv {P : xM → Prop} (j : xMt) (d' idx k ci N : Nat) (host : String) {T : u_T} (av rest : List AV) (hst : st = av.reverse ++ vr k :: rest) (hd : decode (mB i) pc = .ok (.invokevirtual idx, 3)) (hj : mOK j) (hlk : Cond.methodLinkNest (mO i) idx (mY j) host ∈ NW) (hi : Cond.instanceMethod (mY j) ∈ WS) (hs : Cond.selects (mY j).cls (mY j) (mY j) ∈ WS)
    (hn : (parseMethodDescriptor (mY j).desc).map (fun d => d.parameters.length) = some av.length) (hk : k < n0 + cu) (hS0 : xS k = (ci + 3, N)) (hc : xCL[ci]? = some ((mY j).cls, T, N)) (hdd : d' + 1 ≤ d) (hr : rest.length ≤ 8) (hmc : cu ≤ mc) (hms : su ≤ ms)
    (h : Cv j d' (n0 + cu) R (vr k :: av) M P) (kk : ∀ M1, P M1 → xX sc i d n0 mc ms Q (pc + 3) L rest cu su R M1) : xX sc i d n0 mc ms Q pc L st cu su R M :=
  x_callVN j d' 0 0 idx k ci N host av rest hst hd hj hlk hi hs hn hk hS0 hc hdd hmc hms hr (h _ kk)
theorem y_callSi {P : Int → xM → Prop} (j : xMt) (d' idx : Nat) (av rest : List AV) (hst : st = av.reverse ++ rest) (hd : decode (mB i) pc = .ok (.invokestatic idx, 3)) (hj : mOK j) (hlk : Cond.methodLink (mO i) idx (mY j) ∈ WS) (hi : Cond.static (mY j) ∈ WS)
    (hn : (parseMethodDescriptor (mY j).desc).map (fun d => d.parameters.length) = some av.length) (hdd : d' + 1 ≤ d) (hr : rest.length ≤ 8) (hmc : cu ≤ mc) (hms : su ≤ ms)
    (h : Ci j d' (n0 + cu) R av M P) (kk : ∀ z M1, P z M1 → xX sc i d n0 mc ms Q (pc + 3) L (vi z :: rest) cu su R M1) : xX sc i d n0 mc ms Q pc L st cu su R M :=
  x_callS j d' 0 0 idx av rest hst hd hj hlk hi hn hdd hmc hms hr (h _ kk)
theorem y_callSNi {P : Int → xM → Prop} (j : xMt) (d' idx : Nat) (host : String) (av rest : List AV) (hst : st = av.reverse ++ rest) (hd : decode (mB i) pc = .ok (.invokestatic idx, 3)) (hj : mOK j) (hlk : Cond.methodLinkNest (mO i) idx (mY j) host ∈ NW) (hi : Cond.static (mY j) ∈ WS)
    (hn : (parseMethodDescriptor (mY j).desc).map (fun d => d.parameters.length) = some av.length) (hdd : d' + 1 ≤ d) (hr : rest.length ≤ 8) (hmc : cu ≤ mc) (hms : su ≤ ms)
    (h : Ci j d' (n0 + cu) R av M P) (kk : ∀ z M1, P z M1 → xX sc i d n0 mc ms Q (pc + 3) L (vi z :: rest) cu su R M1) : xX sc i d n0 mc ms Q pc L st cu su R M :=
  x_callSN j d' 0 0 idx host av rest hst hd hj hlk hi hn hdd hmc hms hr (h _ kk)
end XY
theorem Ci.of {i : xMt} {d n : Nat} {R : xR} {M : xM} {P : Int → xM → Prop} (L0 : List (Option AV)) {av : List AV} (hy : plainName (mY i).cls = true) (hown : (mY i).cls = mO i) (hL : av.length ≤ mL i) (hL0 : L0 = av.map some ++ List.replicate (mL i - av.length) none) (h : Xi i d n R P 0 L0 [] M) : Ci i d n R av M P :=
  fun Q hQ => xC.of L0 hy hown hL hL0 (h Q hQ)
theorem Cv.of {i : xMt} {d n : Nat} {R : xR} {M : xM} {P : xM → Prop} (L0 : List (Option AV)) {av : List AV} (hy : plainName (mY i).cls = true) (hown : (mY i).cls = mO i) (hL : av.length ≤ mL i) (hL0 : L0 = av.map some ++ List.replicate (mL i - av.length) none) (h : Xv i d n R P 0 L0 [] M) : Cv i d n R av M P :=
  fun Q hQ => xC.of L0 hy hown hL hL0 (h Q hQ)
theorem Ci.mono {i : xMt} {d n : Nat} {R : xR} {M : xM} {av : List AV} {P P' : Int → xM → Prop} (h : Ci i d n R av M P) (hp : ∀ z M', P z M' → P' z M') : Ci i d n R av M P' := fun Q hQ => h Q (fun z M' q => hQ z M' (hp z M' q))
theorem Cv.mono {i : xMt} {d n : Nat} {R : xR} {M : xM} {av : List AV} {P P' : xM → Prop} (h : Cv i d n R av M P) (hp : ∀ M', P M' → P' M') : Cv i d n R av M P' := fun Q hQ => h Q (fun M' q => hQ M' (hp M' q))
/-- a loop that counts up -/
theorem upto {σ : Type} (X : Nat → σ → Prop) (I : Nat → σ → Prop) (n : Nat) (hs : ∀ i s, i < n → I i s → (∀ s', I (i + 1) s' → X (i + 1) s') → X i s) (he : ∀ s, I n s → X n s) (i : Nat) (s : σ) (hi : i ≤ n) (h : I i s) : X i s := by
  obtain ⟨k, hk⟩ : ∃ k, k = n - i := ⟨_, rfl⟩
  induction k generalizing i s with
  | zero =>
    have e : i = n := by omega
    subst e
    exact he s h
  | succ k ih => exact hs i s (by omega) h (fun s' h' => ih (i + 1) s' (by omega) h' (by omega))
/-- ... or down: the number is what is left -/
theorem downto {σ : Type} (X : Nat → σ → Prop) (I : Nat → σ → Prop) (hs : ∀ i s, I (i + 1) s → (∀ s', I i s' → X i s') → X (i + 1) s) (he : ∀ s, I 0 s → X 0 s) (i : Nat) (s : σ) (h : I i s) : X i s := by
  induction i generalizing s with
  | zero => exact he s h
  | succ k ih => exact hs k s h (fun s' h' => ih s' h')
