/-! grids, and the references as the constructors lay them -/
theorem ma_out (c : ClassId) (N h0 : Nat) : ∀ i, Jvm.Free.Multi.outerC c N h0 i = arrV c N (fun j => if j < i then .ref (h0 + 1 + j) else .null)
  | 0 => by
    rw [show (fun j : Nat => if j < 0 then Value.ref (h0 + 1 + j) else .null) = fun _ => .null from by funext j; rw [if_neg (Nat.not_lt_zero j)]]
    exact arrV_new c N .null
  | i + 1 => by
    rw [Jvm.Free.Multi.outerC, ma_out c N h0 i, arrV_store]
    congr 1
    funext j
    unfold updV
    by_cases h : j = i
    · subst h
      rw [if_pos rfl, if_pos (by omega)]
    · rw [if_neg h]
      show (if j < i then Value.ref (h0 + 1 + j) else .null) = _
      by_cases g : j < i
      · rw [if_pos g, if_pos (by omega)]
      · rw [if_neg g, if_neg (by omega)]
theorem arrV_ext (c : ClassId) (N : Nat) {f g : Nat → Value} (h : ∀ j, j < N → f j = g j) : arrV c N f = arrV c N g := by
  unfold arrV
  congr 2
  funext j
  exact h j.1 j.2
def xUG (R : xR) (g N : Nat) : xR := fun k j => if k = g ∧ j < N then some (g + 1 + j) else R k j
section XMu
variable {sc : Option (Nat × (Nat → Int32))} {i : xMt} {d n0 mc ms : Nat} {Q : Option AV → xR → xM → Prop} {pc : Nat} {L : List (Option AV)} {st : List AV} {cu su : Nat} {R : xR} {M : xM}
theorem x_multi (idx N K : Nat) {z1 z2 : Int} (hd : decode (mB i) pc = .ok (.multianewarray idx 2, 4)) (hcl : Cond.classLink (mO i) idx ("[" ++ (FieldType.array .int).toString) ∈ WS) (hac : Cond.arrayClass .int ∈ WS) (h1 : z1 = (N : Int)) (h2 : z2 = (K : Int)) (hN : N < 1000) (hK : K < 1000) (hS0 : xS (n0 + cu) = (2, N)) (hSr : ∀ j, j < N → xS (n0 + cu + 1 + j) = (0, K)) (hM0 : ∀ k, n0 + cu ≤ k → ∀ j, M k j = 0) (hcu : cu + (1 + N) ≤ mc) (hsu : su + (N + N * K) ≤ ms)
    (kk : xX sc i d n0 mc ms Q (pc + 4) L (vr (n0 + cu) :: st) (cu + (1 + N)) (su + (N + N * K)) (xUG R (n0 + cu) N) M) : xX sc i d n0 mc ms Q pc L (vi z2 :: vi z1 :: st) cu su R M := by
  intro p l e Rm s m args below meth c D cI cZ cG sb b Z Cx hZ H locs ls hH hS hl
  have hts := Cx.1.2.2.2.2
  subst h1
  subst h2
  refine xW_size Cx.2.2.2.2.2.2.1 hH hS (fun hsz => ?_)
  intro T hT X
  have cl : ∀ A : Nat, A < 1000 → (xI (A : Int)).toNatClampNeg = A := fun A hA => by rw [xI_clamp (by omega) (by omega)]; rfl
  have ng : ∀ A : Nat, A < 1000 → ¬ xI (A : Int) < 0 := fun A hA q => by
    have := (xI_lt (x := (A : Int)) (y := 0) ⟨by omega, by omega⟩ xin0).mp (by rw [xI_0]; exact q)
    omega
  have c1 := cl N hN
  have c2 := cl K hK
  have hsu' : su + (N + N * K) ≤ Rm.slots := Nat.le_trans hsu Cx.2.2.2.2.2.1.2.2.2
  have hcu' : cu + (1 + N) ≤ Rm.cells := Nat.le_trans hcu Cx.2.2.2.2.2.1.2.2.1
  obtain ⟨vm₁, cA, comp, hW, hfA, hfC, hO, hI, X1, step⟩ := X.multianewarray2F Cx.1.1 (own := mO i) (index := idx) (ty := .int) Cx.1.2.2.2.1 (hts _ hcl) Cx.2.1.2.2 (hts _ hac) (g := F0 m pc ls ((vi (K : Int) :: vi (N : Int) :: st).map (cv sb b))) (n := xI (N : Int)) (k := xI (K : Int)) (rest := st.map (cv sb b)) rfl (by rw [Cx.1.2.1]; exact hd) rfl (ng N hN) (ng K hK) (by rw [c1]; omega) (by rw [c2]; show K * 4 ≤ _; omega) (by rw [c2]; omega) (by decide) (by decide) (by rw [c1]; exact hcu') (by rw [c1, c2]; exact hsu')
  rw [c1, c2] at X1 step
  have eG : cA = cG := Option.some.inj (hfA.symm.trans (Cx.2.1.1.2 2 _ rfl).2)
  have eI : comp = cI := Option.some.inj (hfC.symm.trans (Cx.2.1.1.2 0 _ rfl).2)
  subst eG
  subst eI
  have hTs : T.heap.size = b + (n0 + cu) := by rw [hT]; exact hsz
  obtain ⟨f1, f2, -, -⟩ := Jvm.Free.Multi.fill_facts (T.setVm vm₁) cA comp N K (defaultValue .int) N
  have fo := fun (a : Addr) (ha : a < T.heap.size) => Jvm.Free.Multi.fill_old (T.setVm vm₁) cA comp N K (defaultValue .int) (a := a) ha N
  have fi := fun (j : Nat) (hj : j < N) => Jvm.Free.Multi.fill_inner (T.setVm vm₁) cA comp N K (defaultValue .int) N j hj
  have hs1 : (T.setVm vm₁).heap.size = b + (n0 + cu) := hTs
  rw [hs1] at f1 f2
  have fi' : ∀ j, j < N → (Jvm.Free.Multi.fill (T.setVm vm₁) cA comp N K (defaultValue .int) N).heap[b + (n0 + cu) + 1 + j]? = some (Jvm.Free.Multi.innerC comp K (defaultValue .int)) := fun j hj => by
    have := fi j hj
    rw [hs1] at this
    exact this
  have fo' : ∀ a, a < b + (n0 + cu) → (Jvm.Free.Multi.fill (T.setVm vm₁) cA comp N K (defaultValue .int) N).heap[a]? = H[a]? := fun a ha => by
    rw [← hT]
    exact fo a (Nat.lt_of_lt_of_eq ha hTs.symm)
  have hP : va_P D xCL (xwd comp cZ cA b (n0 + (cu + (1 + N))) (xUG R (n0 + cu) N) M) (Jvm.Free.Multi.fill (T.setVm vm₁) cA comp N K (defaultValue .int) N).heap := by
    intro k q hk
    obtain ⟨hkn, rfl⟩ := xwd_of hk
    by_cases h0 : k < n0 + cu
    · have e : xce comp cZ cA b (xUG R (n0 + cu) N) M k = xce comp cZ cA b R M k := xce_congr rfl (by funext j; unfold xUG; rw [if_neg (by omega)])
      rw [e]
      exact (hH k _ (xwd_at h0)).kept (fo' _ (by show b + k < _; omega))
    · by_cases h1 : k = n0 + cu
      · subst h1
        rw [xce_g hS0]
        show (Jvm.Free.Multi.fill (T.setVm vm₁) cA comp N K (defaultValue .int) N).heap[b + (n0 + cu)]? = some (arrV cA N (fun j => va_rf ((xUG R (n0 + cu) N (n0 + cu) j).map (b + ·))))
        rw [f2, ma_out]
        congr 1
        refine arrV_ext _ _ (fun j hj => ?_)
        unfold xUG
        rw [if_pos hj, if_pos ⟨rfl, hj⟩]
        show Value.ref _ = Value.ref _
        congr 1
        show b + (n0 + cu) + 1 + j = b + (n0 + cu + 1 + j)
        omega
      · obtain ⟨j, ej⟩ : ∃ j, k = n0 + cu + 1 + j := ⟨k - (n0 + cu + 1), by omega⟩
        have hj : j < N := by omega
        subst ej
        rw [xce_i (hSr j hj)]
        show (Jvm.Free.Multi.fill (T.setVm vm₁) cA comp N K (defaultValue .int) N).heap[b + (n0 + cu + 1 + j)]? = some (arrV comp K (fun a => .int (xI (M (n0 + cu + 1 + j) a))))
        rw [show b + (n0 + cu + 1 + j) = b + (n0 + cu) + 1 + j by omega, fi' j hj]
        congr 1
        rw [show (fun a => Value.int (xI (M (n0 + cu + 1 + j) a))) = fun _ => Value.int 0 from by funext a; rw [hM0 _ (by omega)]; rfl]
        exact arrV_new comp K (.int 0)
  have hS1 : va_S (fun q => b ≤ q) s.heap (Jvm.Free.Multi.fill (T.setVm vm₁) cA comp N K (defaultValue .int) N).heap locs := by
    have hs0 := hS.1
    refine ⟨by rw [f1]; omega, fun x g1 g2 => (fo' x (by omega)).trans (hS.2.1 x g1 g2), hS.2.2⟩
  obtain ⟨t2, a1, b1⟩ := kk p l e Rm s m args below meth c D comp cZ cA sb b Z Cx hZ _ locs ls hP hS1 hl _ rfl (by rw [← Nat.add_assoc, ← Nat.add_assoc]; exact X1)
  refine ⟨t2, step t2 ?_, b1⟩
  rw [hTs]
  exact a1
theorem x_Rto {R' : xR} (e : R = R') (kk : xX sc i d n0 mc ms Q pc L st cu su R' M) : xX sc i d n0 mc ms Q pc L st cu su R M := e ▸ kk
theorem y_callI {R1 : xR} {P : xM → Prop} (j : xMt) (d' mc' ms' idx k : Nat) (av rest : List AV) (hst : st = av.reverse ++ vr k :: rest) (hd : decode (mB i) pc = .ok (.invokespecial idx, 3)) (hj : mOK j) (hret : mR j = none) (hy : (mY j).name = "<init>") (hlk : Cond.methodLink (mO i) idx (mY j) ∈ WS) (hi : Cond.instanceMethod (mY j) ∈ WS)
    (hn : (parseMethodDescriptor (mY j).desc).map (fun d => d.parameters.length) = some av.length) (hdd : d' + 1 ≤ d) (hmc : cu + mc' ≤ mc) (hms : su + ms' ≤ ms) (hr : rest.length ≤ 8)
    (h : ∀ Q : Option AV → xR → xM → Prop, (∀ M1, P M1 → Q none R1 M1) → xC j d' (n0 + cu) mc' ms' (vr k :: av) R M Q) (kk : ∀ M1, P M1 → xX sc i d n0 mc ms Q (pc + 3) L rest (cu + mc') (su + ms') R1 M1) : xX sc i d n0 mc ms Q pc L st cu su R M :=
  x_callI j d' mc' ms' idx k av rest hst hd hj hret hy hlk hi hn hdd hmc hms hr (h _ kk)
theorem y_callIN {R1 : xR} {P : xM → Prop} (j : xMt) (d' mc' ms' idx k : Nat) (host : String) (av rest : List AV) (hst : st = av.reverse ++ vr k :: rest) (hd : decode (mB i) pc = .ok (.invokespecial idx, 3)) (hj : mOK j) (hret : mR j = none) (hy : (mY j).name = "<init>") (hlk : Cond.methodLinkNest (mO i) idx (mY j) host ∈ NW) (hi : Cond.instanceMethod (mY j) ∈ WS)
    (hn : (parseMethodDescriptor (mY j).desc).map (fun d => d.parameters.length) = some av.length) (hdd : d' + 1 ≤ d) (hmc : cu + mc' ≤ mc) (hms : su + ms' ≤ ms) (hr : rest.length ≤ 8)
    (h : ∀ Q : Option AV → xR → xM → Prop, (∀ M1, P M1 → Q none R1 M1) → xC j d' (n0 + cu) mc' ms' (vr k :: av) R M Q) (kk : ∀ M1, P M1 → xX sc i d n0 mc ms Q (pc + 3) L rest (cu + mc') (su + ms') R1 M1) : xX sc i d n0 mc ms Q pc L st cu su R M :=
  x_callIN j d' mc' ms' idx k host av rest hst hd hj hret hy hlk hi hn hdd hmc hms hr (h _ kk)
end XMu
