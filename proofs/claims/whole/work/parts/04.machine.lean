abbrev mY (i : xMt) : MethodName := i.1
abbrev mB (i : xMt) : ByteArray := i.2.1
abbrev mL (i : xMt) : Nat := i.2.2.1
abbrev mR (i : xMt) : Option FieldType := i.2.2.2.1
abbrev mO (i : xMt) : String := i.2.2.2.2
/-! the abstract machine over one world of cells: ints are integers, references are places in the world -/
abbrev AV : Type := Int ⊕ Option (Option Nat)
abbrev vi (z : Int) : AV := .inl z
abbrev vr (k : Nat) : AV := .inr (some (some k))
abbrev vn : AV := .inr none
abbrev vs : AV := .inr (some none)
abbrev xM : Type := Nat → Nat → Int
abbrev xR : Type := Nat → Nat → Option Nat
def xI (z : Int) : Int32 := Int32.ofInt z
def xin (z : Int) : Prop := -2147483648 ≤ z ∧ z < 2147483648
theorem xI_int {z : Int} (h : xin z) : (xI z).toInt = z := Int32.toInt_ofInt_of_le (by have := h.1; omega) (by have := h.2; omega)
theorem xI_add (x y : Int) : xI (x + y) = xI x + xI y := Int32.ofInt_add x y
theorem xI_sub (x y : Int) : xI (x - y) = xI x - xI y := Int32.ofInt_sub x y
theorem xI_mul (x y : Int) : xI (x * y) = xI x * xI y := Int32.ofInt_mul x y
theorem xI_inj {x y : Int} (hx : xin x) (hy : xin y) : xI x = xI y ↔ x = y := by
  rw [← Int32.toInt_inj, xI_int hx, xI_int hy]
theorem xI_lt {x y : Int} (hx : xin x) (hy : xin y) : xI x < xI y ↔ x < y := by
  rw [Int32.lt_iff_toInt_lt, xI_int hx, xI_int hy]
theorem xI_le {x y : Int} (hx : xin x) (hy : xin y) : xI x ≤ xI y ↔ x ≤ y := by
  rw [Int32.le_iff_toInt_le, xI_int hx, xI_int hy]
theorem xin0 : xin 0 := ⟨by decide, by decide⟩
theorem xI_0 : xI 0 = 0 := by decide
theorem xI_div {x y : Int} (hx : xin x) (hy : xin y) (h : y ≠ -1) : xI (x.tdiv y) = xI x / xI y := by
  have hne : xI y ≠ -1 := fun q => h (by
    have := congrArg Int32.toInt q
    rw [xI_int hy] at this
    exact this)
  have e : (xI x / xI y).toInt = x.tdiv y := by
    rw [Int32.toInt_div_of_ne_right _ _ hne, xI_int hx, xI_int hy]
  rw [← e]
  exact Int32.ofInt_toInt _
theorem xI_clamp {z : Int} (h0 : 0 ≤ z) (h : z < 2147483648) : (xI z).toNatClampNeg = z.toNat := by
  have h1 : xin z := ⟨by omega, h⟩
  show (xI z).toInt.toNat = _
  rw [xI_int h1]
theorem xI_in {z : Int} {n : Nat} (h0 : 0 ≤ z) (h : z < n) (hn : n < 2147483648) : vp_in (xI z) n := by
  refine vp_in_iff.mpr ?_
  rw [xI_int ⟨by omega, by omega⟩]
  exact ⟨h0, h⟩
def xXor (x y : Int) : Int := (xI x ^^^ xI y).toInt
def xAnd (x y : Int) : Int := (xI x &&& xI y).toInt
def xOr (x y : Int) : Int := (xI x ||| xI y).toInt
def xShl (x y : Int) : Int := (xI x <<< (xI y &&& 31)).toInt
def xShr (x y : Int) : Int := (xI x >>> (xI y &&& 31)).toInt
theorem xI_xor (x y : Int) : xI (xXor x y) = xI x ^^^ xI y := Int32.ofInt_toInt _
theorem xI_and (x y : Int) : xI (xAnd x y) = xI x &&& xI y := Int32.ofInt_toInt _
theorem xI_or (x y : Int) : xI (xOr x y) = xI x ||| xI y := Int32.ofInt_toInt _
theorem xI_shl (x y : Int) : xI (xShl x y) = xI x <<< (xI y &&& 31) := Int32.ofInt_toInt _
theorem xI_shr (x y : Int) : xI (xShr x y) = xI x >>> (xI y &&& 31) := Int32.ofInt_toInt _
def cv (sb b : Nat) : AV → Value
  | .inl z => .int (xI z)
  | .inr none => .null
  | .inr (some none) => .ref sb
  | .inr (some (some k)) => .ref (b + k)
theorem cv_cat (sb b : Nat) : ∀ v : AV, (cv sb b v).category = 1
  | .inl _ => rfl
  | .inr none => rfl
  | .inr (some none) => rfl
  | .inr (some (some _)) => rfl
theorem cv_sum (sb b : Nat) : ∀ l : List AV, ((l.map (cv sb b)).map fun v => v.category).sum = l.length
  | [] => rfl
  | v :: l => by
    have h := cv_sum sb b l
    simp only [List.map_cons, List.sum_cons, List.length_cons, cv_cat]
    rw [h]
    omega
/-! locals -/
def xas (sb b : Nat) : Nat → List (Option AV) → List (Nat × Value)
  | _, [] => []
  | k, none :: t => xas sb b (k + 1) t
  | k, some v :: t => (k, cv sb b v) :: xas sb b (k + 1) t
theorem xas_mem (sb b : Nat) : ∀ (L : List (Option AV)) (k : Nat) (q : Nat × Value), q ∈ xas sb b k L ↔ ∃ (j : Nat) (v : AV), L[j]? = some (some v) ∧ q = (k + j, cv sb b v)
  | [], k, q => by simp [xas]
  | none :: t, k, q => by
    rw [xas, xas_mem sb b t (k + 1) q]
    constructor
    · rintro ⟨j, v, h1, h2⟩
      exact ⟨j + 1, v, by simpa using h1, by rw [h2, show k + 1 + j = k + (j + 1) by omega]⟩
    · rintro ⟨j, v, h1, h2⟩
      cases j with
      | zero => simp at h1
      | succ j => exact ⟨j, v, by simpa using h1, by rw [h2, show k + 1 + j = k + (j + 1) by omega]⟩
  | some w :: t, k, q => by
    rw [xas, List.mem_cons, xas_mem sb b t (k + 1) q]
    constructor
    · rintro (h | ⟨j, v, h1, h2⟩)
      · exact ⟨0, w, rfl, h⟩
      · exact ⟨j + 1, v, by simpa using h1, by rw [h2, show k + 1 + j = k + (j + 1) by omega]⟩
    · rintro ⟨j, v, h1, h2⟩
      cases j with
      | zero =>
        have e : w = v := by simpa using h1
        subst e
        exact Or.inl h2
      | succ j => exact Or.inr ⟨j, v, by simpa using h1, by rw [h2, show k + 1 + j = k + (j + 1) by omega]⟩
theorem xas_args (sb b : Nat) : ∀ (av : List AV) (k : Nat), lv_args k (av.map (cv sb b)) = xas sb b k (av.map some)
  | [], _ => rfl
  | v :: t, k => by
    simp only [List.map_cons, lv_args, xas, cv_cat]
    rw [if_neg (by decide), xas_args sb b t (k + 1)]
theorem xas_sl (sb b : Nat) (av : List AV) : (lg_sl (av.map (cv sb b))).length = av.length := by
  induction av with
  | nil => rfl
  | cons v t ih =>
    unfold lg_sl at ih ⊢
    rw [List.map_cons, List.flatMap_cons, List.length_append, ih, cv_cat, if_neg (by decide)]
    simp only [List.length_cons, List.length_nil]
    omega
theorem xas_sub {sb b nL : Nat} {ls : Array Slot} {L L' : List (Option AV)} (h : lv_has ls nL (xas sb b 0 L)) (hs : ∀ (j : Nat) (v : AV), L'[j]? = some (some v) → L[j]? = some (some v)) : lv_has ls nL (xas sb b 0 L') := by
  refine ⟨h.1, h.2.1, fun q hq => h.2.2 q ?_⟩
  obtain ⟨j, v, h1, h2⟩ := (xas_mem sb b L' 0 q).mp hq
  exact (xas_mem sb b L 0 q).mpr ⟨j, v, hs j v h1, h2⟩
theorem xas_get {sb b nL : Nat} {ls : Array Slot} {L : List (Option AV)} (h : lv_has ls nL (xas sb b 0 L)) {j : Nat} {v : AV} (hj : L[j]? = some (some v)) : ls[j]? = some (.val (cv sb b v)) := by
  have := h.2.2 (j, cv sb b v) ((xas_mem sb b L 0 _).mpr ⟨j, v, hj, by rw [Nat.zero_add]⟩)
  exact this
theorem xas_set {sb b nL i : Nat} {ls : Array Slot} {L : List (Option AV)} {v : AV} {w : Value} (hw : w = cv sb b v) (h : lv_has ls nL ((i, w) :: (xas sb b 0 L).filter (fun q => !(q.1 == i) && !(q.1 + 1 == i && q.2.category == 2)))) : lv_has ls nL (xas sb b 0 (L.set i (some v))) := by
  refine ⟨h.1, h.2.1, fun q hq => h.2.2 q ?_⟩
  obtain ⟨j, u, h1, h2⟩ := (xas_mem sb b _ 0 q).mp hq
  rw [Nat.zero_add] at h2
  by_cases hj : i = j
  · subst hj
    have hl : i < (L.set i (some v)).length := (List.getElem?_eq_some_iff.mp h1).1
    rw [List.length_set] at hl
    rw [List.getElem?_set_self hl] at h1
    have e : v = u := by simpa using h1
    subst e
    rw [h2, hw]
    exact List.mem_cons_self
  · rw [List.getElem?_set_ne hj] at h1
    refine List.mem_cons_of_mem _ (List.mem_filter.mpr ⟨(xas_mem sb b L 0 q).mpr ⟨j, u, h1, by rw [h2, Nat.zero_add]⟩, ?_⟩)
    rw [h2]
    simp only [cv_cat]
    have hne : (j == i) = false := by simpa using (fun q : j = i => hj q.symm)
    rw [hne]
    simp
/-! the world -/
def xfs (b ci N k : Nat) (R : xR) (M : xM) : List Value := (List.range N).map fun j => if xIs ci j = true then va_rf ((R k j).map (b + ·)) else .int (xI (M k j))
def xce (cI cZ cG : ClassId) (b : Nat) (R : xR) (M : xM) (k : Nat) : va_E :=
  match (xS k).1 with
  | 0 => .inl (cI, (xS k).2, .inl (fun j => xI (M k j)))
  | 1 => .inl (cZ, (xS k).2, .inl (fun j => xI (M k j)))
  | 2 => .inl (cG, (xS k).2, .inr (.inr (.inr (.inr (fun j => (R k j).map (b + ·))))))
  | ci + 3 => .inr (ci, xfs b ci (xS k).2 k R M)
def xwd (cI cZ cG : ClassId) (b n : Nat) (R : xR) (M : xM) : va_W := (List.range n).map fun k => (b + k, xce cI cZ cG b R M k)
def xTy (cI cZ cG : ClassId) : List (ClassId × FieldType) := [(cI, .int), (cZ, .boolean), (cG, .array .int)]
section XW
variable {cI cZ cG : ClassId} {b n k N ci : Nat} {R R' : xR} {M M' : xM}
theorem xce_congr (h1 : M k = M' k) (h2 : R k = R' k) : xce cI cZ cG b R M k = xce cI cZ cG b R' M' k := by
  unfold xce xfs
  rw [h1, h2]
theorem xce_i (h : xS k = (0, N)) : xce cI cZ cG b R M k = .inl (cI, N, .inl (fun j => xI (M k j))) := by
  unfold xce
  rw [h]
theorem xce_z (h : xS k = (1, N)) : xce cI cZ cG b R M k = .inl (cZ, N, .inl (fun j => xI (M k j))) := by
  unfold xce
  rw [h]
theorem xce_g (h : xS k = (2, N)) : xce cI cZ cG b R M k = .inl (cG, N, .inr (.inr (.inr (.inr (fun j => (R k j).map (b + ·)))))) := by
  unfold xce
  rw [h]
theorem xce_o (h : xS k = (ci + 3, N)) : xce cI cZ cG b R M k = .inr (ci, xfs b ci N k R M) := by
  unfold xce
  rw [h]
theorem xwd_at (h : k < n) : (xwd cI cZ cG b n R M)[k]? = some (b + k, xce cI cZ cG b R M k) := by
  unfold xwd
  rw [List.getElem?_map, List.getElem?_range h]
  rfl
theorem xwd_of {q : Nat × va_E} (h : (xwd cI cZ cG b n R M)[k]? = some q) : k < n ∧ q = (b + k, xce cI cZ cG b R M k) := by
  have hl : k < (xwd cI cZ cG b n R M).length := (List.getElem?_eq_some_iff.mp h).1
  have hn : k < n := by simpa [xwd] using hl
  rw [xwd_at hn] at h
  exact ⟨hn, (Option.some.inj h).symm⟩
theorem xwd_D : va_D (fun q => b ≤ q) (xwd cI cZ cG b n R M) := by
  refine ⟨fun i j x y hi hj hxy => ?_, fun k q hk => ?_⟩
  · obtain ⟨-, rfl⟩ := xwd_of hi
    obtain ⟨-, rfl⟩ := xwd_of hj
    have : b + i = b + j := hxy
    omega
  · obtain ⟨-, rfl⟩ := xwd_of hk
    exact Nat.le_add_right b k
theorem xwd_set (hk : k < n) (ho : ∀ j, j ≠ k → xce cI cZ cG b R' M' j = xce cI cZ cG b R M j) : (xwd cI cZ cG b n R M).set k (b + k, xce cI cZ cG b R' M' k) = xwd cI cZ cG b n R' M' := by
  apply List.ext_getElem?
  intro i
  by_cases hi : k = i
  · subst hi
    have hl : k < (xwd cI cZ cG b n R M).length := by simpa [xwd] using hk
    rw [List.getElem?_set_self hl, xwd_at hk]
  · rw [List.getElem?_set_ne hi]
    by_cases hn : i < n
    · rw [xwd_at hn, xwd_at hn, ho i (fun q => hi q.symm)]
    · have h1 : (xwd cI cZ cG b n R M).length ≤ i := by simpa [xwd] using (Nat.not_lt.mp hn)
      have h2 : (xwd cI cZ cG b n R' M').length ≤ i := by simpa [xwd] using (Nat.not_lt.mp hn)
      rw [List.getElem?_eq_none h1, List.getElem?_eq_none h2]
end XW
def xU (M : xM) (k j : Nat) (v : Int) : xM := fun k' j' => if k' = k ∧ j' = j then v else M k' j'
def xUR (R : xR) (k j : Nat) (v : Option Nat) : xR := fun k' j' => if k' = k ∧ j' = j then v else R k' j'
theorem xU_o {M : xM} {k k' j : Nat} {v : Int} (h : k' ≠ k) : xU M k j v k' = M k' := by
  funext j'
  unfold xU
  rw [if_neg (fun q => h q.1)]
theorem xU_s {M : xM} {k j : Nat} {v : Int} : xU M k j v k j = v := by
  unfold xU
  rw [if_pos ⟨rfl, rfl⟩]
theorem xU_n {M : xM} {k j j' : Nat} {v : Int} (h : j' ≠ j) : xU M k j v k j' = M k j' := by
  unfold xU
  rw [if_neg (fun q => h q.2)]
theorem xUR_o {R : xR} {k k' j : Nat} {v : Option Nat} (h : k' ≠ k) : xUR R k j v k' = R k' := by
  funext j'
  unfold xUR
  rw [if_neg (fun q => h q.1)]
/-! a class's own words -/
def cOK (C : String) (T : u_T) (N : Nat) (ty : Nat → FieldType) : Prop := (∀ w ∈ u_ws C T N, w ∈ WS) ∧ (∀ k, k < N → parseFieldDescriptor (T k).2.2.1 = some (ty k)) ∧ ∀ a, a < N → ∀ b, b < N → a ≠ b → (T a).2.1 ≠ (T b).2.1
def mOK (j : xMt) : Prop := Cond.code (mY j) (mB j) (mL j) (mR j) ∈ WS ∧ Cond.initialized (mY j).cls ∈ WS ∧ ((mY j).cls ≠ "java/lang/invoke/MethodHandle" ∧ (mY j).cls ≠ "java/lang/invoke/VarHandle") ∧ mL j ≤ 26
theorem mOK.good {j : xMt} (h : mOK j) : GoodIn WS (Cond.code (mY j) (mB j) (mL j) (mR j) :: WS) := by
  intro w hw
  rcases List.mem_cons.mp hw with rfl | hw
  · exact ⟨h.1, WS_good _ h.1⟩
  · exact ⟨hw, WS_good _ hw⟩
/-- the word of arrays over int[]: as the nest mates' words, it goes from contract to contract by its own row -/
def nAO (U : State) : Prop := (Cond.arrayOver (.array .int)).before #[] U = true
def nAOi (vm : Vm) (comp : ClassId) : Option Nat := vm.classes.findIdx? fun (x : Class) => match x.kind with | .array component _ => component == comp | _ => false
def nAOk (vm : Vm) (c : Nat) : Option Bool := (vm.classes[c]?).map fun (k : Class) => match k.kind with | .array _ ty => decide (ty = FieldType.array .int) && decide (vm.findClass ("[" ++ (FieldType.array .int).toString) = some c) | _ => false
theorem nAO_eq (X : State) : nAO X = ((((X.vm.findClass (FieldType.array .int).toString).bind fun comp => (nAOi X.vm comp).bind (nAOk X.vm)) == some true) = true) := rfl
theorem nAO.moved {u U : State} (hvm : u.vm.Alike U.vm) (h : nAO u) : nAO U := by
  have hf : ∀ n, U.vm.findClass n = u.vm.findClass n := fun n => hvm.findClass n none
  have hi : ∀ comp, nAOi U.vm comp = nAOi u.vm comp := fun comp => by
    have h1 : nAOi U.vm comp = nAOi U.vm.bare comp := (va_idx_bare U.vm comp).symm
    have h2 : nAOi u.vm comp = nAOi u.vm.bare comp := (va_idx_bare u.vm comp).symm
    rw [h1, h2]
    first | rw [hvm.bare_eq] | rw [← hvm.bare_eq]
  rw [nAO_eq] at h ⊢
  simp only [beq_iff_eq, Option.bind_eq_some_iff] at h ⊢
  obtain ⟨comp, h1, c, h2, h3⟩ := h
  refine ⟨comp, by rw [hf]; exact h1, c, by rw [hi]; exact h2, ?_⟩
  unfold nAOk at h3 ⊢
  rw [Option.map_eq_some_iff] at h3 ⊢
  obtain ⟨k, g1, g2⟩ := h3
  obtain ⟨k', hk', he⟩ := hvm.2.2 _ _ g1
  refine ⟨k', hk', ?_⟩
  have hk : k'.kind = k.kind := by rw [he]
  rw [hk, hf]
  exact g2
def xK (D : va_G) (cI cZ cG : ClassId) (U : State) : Prop := va_K D xCL (xTy cI cZ cG) U ∧ (∀ w ∈ NW, va_Nw w U) ∧ nAO U
theorem xK.warm {D : va_G} {cI cZ cG : ClassId} {s U : State} (hW : s.WarmedH U.vm) (h : xK D cI cZ cG s) : xK D cI cZ cG U := ⟨va_K.moved hW.alike h.1, NW_warm hW h.2.1, nAO.moved hW.alike h.2.2⟩
theorem xK.same {D : va_G} {cI cZ cG : ClassId} {s U : State} (hv : s.vm = U.vm) (h : xK D cI cZ cG s) : xK D cI cZ cG U := ⟨va_K.moved (by rw [hv]; exact Vm.Alike.refl U.vm) h.1, fun w hw => va_Nw.same (NW_tab w hw) hv (h.2.1 w hw), nAO.moved (by rw [hv]; exact Vm.Alike.refl U.vm) h.2.2⟩
/-! the judgements -/
def xCx (sc : Option (Nat × (Nat → Int32))) (i : xMt) (d n0 mc ms : Nat) (p : Program) (Rm : Room) (s : State) (m : MethodId) (args : Array Value) (meth : Method) (c : Code) (D : va_G) (cI cZ cG : ClassId) (sb b : Nat) : Prop :=
  CallFix p m c (mB i) (mL i) s args WS (mO i) ∧ xK D cI cZ cG s ∧ meth.locks = false ∧ meth.sig.returnType = mR i ∧ ((mY i).name = "<init>" → meth.name = "<init>") ∧
  (d ≤ Rm.frames ∧ 45 * d ≤ Rm.locals ∧ mc ≤ Rm.cells ∧ ms ≤ Rm.slots) ∧ s.heap.size = b + n0 ∧ (∀ q, sc = some q → va_X sb q.1 q.2 s s.heap ∧ sb < s.heap.size ∧ ¬ b ≤ sb)
def xRet (i : xMt) (pc : Nat) (r : Option AV) : Prop := (r = none ∧ mR i = none ∧ decode (mB i) pc = .ok (.return_, 1)) ∨ ∃ z, r = some (.inl z) ∧ decode (mB i) pc = .ok (.ireturn, 1) ∧ (mR i = some .int ∨ (mR i = some .boolean ∧ (z = 0 ∨ z = 1)))
def xZ (i : xMt) (n0 mc ms : Nat) (Q : Option AV → xR → xM → Prop) (p : Program) (l : Launch) (e : Env) (Rm : Room) (s : State) (m : MethodId) (args : Array Value) (below : List Frame) (meth : Method) (c : Code) (D : va_G) (cI cZ cG : ClassId) (sb b : Nat) (Z : State → Prop) : Prop :=
  ∀ (H : Heap) (locs : List Loc) (ls : Array Slot) (pc : Nat) (R : xR) (M : xM) (r : Option AV), Q r R M → va_P D xCL (xwd cI cZ cG b (n0 + mc) R M) H → va_S (fun q => b ≤ q) s.heap H locs → xRet i pc r →
    W p l e Rm s m args below meth c H locs mc ms Z (F0 m pc ls (r.toList.map (cv sb b)))
def xX (sc : Option (Nat × (Nat → Int32))) (i : xMt) (d n0 mc ms : Nat) (Q : Option AV → xR → xM → Prop) (pc : Nat) (L : List (Option AV)) (st : List AV) (cu su : Nat) (R : xR) (M : xM) : Prop :=
  ∀ (p : Program) (l : Launch) (e : Env) (Rm : Room) (s : State) (m : MethodId) (args : Array Value) (below : List Frame) (meth : Method) (c : Code) (D : va_G) (cI cZ cG : ClassId) (sb b : Nat) (Z : State → Prop),
    xCx sc i d n0 mc ms p Rm s m args meth c D cI cZ cG sb b → xZ i n0 mc ms Q p l e Rm s m args below meth c D cI cZ cG sb b Z →
    ∀ (H : Heap) (locs : List Loc) (ls : Array Slot), va_P D xCL (xwd cI cZ cG b (n0 + cu) R M) H → va_S (fun q => b ≤ q) s.heap H locs → lv_has ls (mL i) (xas sb b 0 L) →
    W p l e Rm s m args below meth c H locs cu su Z (F0 m pc ls (st.map (cv sb b)))
def xC (i : xMt) (d n mc ms : Nat) (av : List AV) (R : xR) (M : xM) (Q : Option AV → xR → xM → Prop) : Prop :=
  ∀ (l : Launch) (D : va_G) (cI cZ cG : ClassId) (sb b : Nat), Met l (mY i) (Cond.code (mY i) (mB i) (mL i) (mR i) :: WS) { frames := d, cells := mc, slots := ms, locals := 45 * d }
    (va_Pc (av.map (cv sb b)) (fun U => U.heap.size = b + n ∧ va_P D xCL (xwd cI cZ cG b n R M) U.heap ∧ xK D cI cZ cG U))
    (fun _ st oc t => (∃ (r : Option AV) (R' : xR) (M' : xM), oc = .returned (r.map (cv sb b)) ∧ Q r R' M' ∧ va_P D xCL (xwd cI cZ cG b (n + mc) R' M') t.heap) ∧ va_F (fun q => b ≤ q) st t) mc ms (fun q => b ≤ q)
def sc0 : Option (Nat × (Nat → Int32)) := none
def xmask : List Bool → List (Option AV) → List (Option AV)
  | true :: bs, v :: l => v :: xmask bs l
  | false :: bs, _ :: l => none :: xmask bs l
  | _, _ => []
theorem xmask_sub : ∀ (bs : List Bool) (L : List (Option AV)) (j : Nat) (v : AV), (xmask bs L)[j]? = some (some v) → L[j]? = some (some v)
  | [], L, j, v, h => by simp [xmask] at h
  | true :: bs, [], j, v, h => by simp [xmask] at h
  | false :: bs, [], j, v, h => by simp [xmask] at h
  | true :: bs, w :: l, j, v, h => by
    cases j with
    | zero => simpa [xmask] using h
    | succ j => simpa using xmask_sub bs l j v (by simpa [xmask] using h)
  | false :: bs, w :: l, j, v, h => by
    cases j with
    | zero => simp [xmask] at h
    | succ j => simpa using xmask_sub bs l j v (by simpa [xmask] using h)
