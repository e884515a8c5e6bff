theorem xfs_setI {b ci N k j : Nat} {R : xR} {M : xM} {z : Int} (hj : j < N) (hi : xIs ci j = false) : (xfs b ci N k R M).set j (.int (xI z)) = xfs b ci N k R (xU M k j z) := by
  apply List.ext_getElem?
  intro a
  by_cases ha : j = a
  · subst ha
    rw [List.getElem?_set_self (by simpa [xfs] using hj), xfs, List.getElem?_map, List.getElem?_range hj]
    simp [hi, xU_s]
  · rw [List.getElem?_set_ne ha]
    by_cases hn : a < N
    · rw [xfs, xfs, List.getElem?_map, List.getElem?_map, List.getElem?_range hn]
      simp [xU_n (M := M) (k := k) (v := z) (fun q : a = j => ha q.symm)]
    · rw [List.getElem?_eq_none (by simpa [xfs] using (Nat.not_lt.mp hn)), List.getElem?_eq_none (by simpa [xfs] using (Nat.not_lt.mp hn))]
theorem xfs_setR {b ci N k j t : Nat} {R : xR} {M : xM} (hj : j < N) (hi : xIs ci j = true) : (xfs b ci N k R M).set j (.ref (b + t)) = xfs b ci N k (xUR R k j (some t)) M := by
  apply List.ext_getElem?
  intro a
  by_cases ha : j = a
  · subst ha
    rw [List.getElem?_set_self (by simpa [xfs] using hj), xfs, List.getElem?_map, List.getElem?_range hj]
    simp [hi, xUR, va_rf]
  · rw [List.getElem?_set_ne ha]
    by_cases hn : a < N
    · rw [xfs, xfs, List.getElem?_map, List.getElem?_map, List.getElem?_range hn]
      have e : xUR R k j (some t) k a = R k a := by unfold xUR; rw [if_neg (fun q => ha q.2.symm)]
      simp [e]
    · rw [List.getElem?_eq_none (by simpa [xfs] using (Nat.not_lt.mp hn)), List.getElem?_eq_none (by simpa [xfs] using (Nat.not_lt.mp hn))]
theorem xU_cell {M : xM} {k j : Nat} {v : Int} : upd (fun a => xI (M k a)) j (xI v) = fun a => xI (xU M k j v k a) := by
  funext a
  unfold upd xU
  by_cases h : a = j
  · rw [if_pos h, if_pos ⟨rfl, h⟩]
  · rw [if_neg h, if_neg (fun q => h q.2)]
/-! one row an instruction -/
section XRu
variable {sc : Option (Nat × (Nat → Int32))} {i : xMt} {d n0 mc ms : Nat} {Q : Option AV → xR → xM → Prop} {pc : Nat} {L : List (Option AV)} {st : List AV} {cu su : Nat} {R : xR} {M : xM}
theorem x_iconst {z : Int} (hd : decode (mB i) pc = .ok (.iconst z, 1)) (kk : xX sc i d n0 mc ms Q (pc + 1) L (vi z :: st) cu su R M) : xX sc i d n0 mc ms Q pc L st cu su R M := by
  intro p l e Rm s m args below meth c D cI cZ cG sb b Z Cx hZ H locs ls hH hS hl
  have k1 : W p l e Rm s m args below meth c H locs cu su Z (F0 m (pc + 1) ls (.int (xI z) :: st.map (cv sb b))) := kk p l e Rm s m args below meth c D cI cZ cG sb b Z Cx hZ H locs ls hH hS hl
  exact lv_iconst Cx.1.1 Cx.1.2.1 hd rfl k1
theorem x_bipush {z : Int} (hd : decode (mB i) pc = .ok (.bipush z, 2)) (hv : (Int8.ofInt z).toInt32 = xI z) (kk : xX sc i d n0 mc ms Q (pc + 2) L (vi z :: st) cu su R M) : xX sc i d n0 mc ms Q pc L st cu su R M := by
  intro p l e Rm s m args below meth c D cI cZ cG sb b Z Cx hZ H locs ls hH hS hl
  have k1 : W p l e Rm s m args below meth c H locs cu su Z (F0 m (pc + 2) ls (.int (xI z) :: st.map (cv sb b))) := kk p l e Rm s m args below meth c D cI cZ cG sb b Z Cx hZ H locs ls hH hS hl
  exact lv_bipush Cx.1.1 Cx.1.2.1 hd hv k1
theorem x_sipush {z : Int} (hd : decode (mB i) pc = .ok (.sipush z, 3)) (hv : (Int16.ofInt z).toInt32 = xI z) (kk : xX sc i d n0 mc ms Q (pc + 3) L (vi z :: st) cu su R M) : xX sc i d n0 mc ms Q pc L st cu su R M := by
  intro p l e Rm s m args below meth c D cI cZ cG sb b Z Cx hZ H locs ls hH hS hl
  have k1 : W p l e Rm s m args below meth c H locs cu su Z (F0 m (pc + 3) ls (.int (xI z) :: st.map (cv sb b))) := kk p l e Rm s m args below meth c D cI cZ cG sb b Z Cx hZ H locs ls hH hS hl
  exact lv_sipush Cx.1.1 Cx.1.2.1 hd hv k1
theorem x_iload_n {k : Fin 4} {j : Nat} {z : Int} (hd : decode (mB i) pc = .ok (.iload_n k, 1)) (hk : (k : Nat) = j) (hj : L[j]? = some (some (vi z))) (kk : xX sc i d n0 mc ms Q (pc + 1) L (vi z :: st) cu su R M) : xX sc i d n0 mc ms Q pc L st cu su R M := by
  intro p l e Rm s m args below meth c D cI cZ cG sb b Z Cx hZ H locs ls hH hS hl
  have k1 : W p l e Rm s m args below meth c H locs cu su Z (F0 m (pc + 1) ls (.int (xI z) :: st.map (cv sb b))) := kk p l e Rm s m args below meth c D cI cZ cG sb b Z Cx hZ H locs ls hH hS hl
  exact lv_iload_n Cx.1.1 Cx.1.2.1 hd hk (xas_get hl hj) k1
theorem x_iload {j : Nat} {z : Int} (hd : decode (mB i) pc = .ok (.iload j, 2)) (hj : L[j]? = some (some (vi z))) (kk : xX sc i d n0 mc ms Q (pc + 2) L (vi z :: st) cu su R M) : xX sc i d n0 mc ms Q pc L st cu su R M := by
  intro p l e Rm s m args below meth c D cI cZ cG sb b Z Cx hZ H locs ls hH hS hl
  have k1 : W p l e Rm s m args below meth c H locs cu su Z (F0 m (pc + 2) ls (.int (xI z) :: st.map (cv sb b))) := kk p l e Rm s m args below meth c D cI cZ cG sb b Z Cx hZ H locs ls hH hS hl
  exact lv_iload Cx.1.1 Cx.1.2.1 hd (xas_get hl hj) k1
theorem x_aload_n {k : Fin 4} {j : Nat} {z : Nat} (hd : decode (mB i) pc = .ok (.aload_n k, 1)) (hk : (k : Nat) = j) (hj : L[j]? = some (some (vr z))) (kk : xX sc i d n0 mc ms Q (pc + 1) L (vr z :: st) cu su R M) : xX sc i d n0 mc ms Q pc L st cu su R M := by
  intro p l e Rm s m args below meth c D cI cZ cG sb b Z Cx hZ H locs ls hH hS hl
  have k1 : W p l e Rm s m args below meth c H locs cu su Z (F0 m (pc + 1) ls (.ref (b + z) :: st.map (cv sb b))) := kk p l e Rm s m args below meth c D cI cZ cG sb b Z Cx hZ H locs ls hH hS hl
  exact lv_aload_n Cx.1.1 Cx.1.2.1 hd hk (xas_get hl hj) k1
theorem x_aload {j : Nat} {z : Nat} (hd : decode (mB i) pc = .ok (.aload j, 2)) (hj : L[j]? = some (some (vr z))) (kk : xX sc i d n0 mc ms Q (pc + 2) L (vr z :: st) cu su R M) : xX sc i d n0 mc ms Q pc L st cu su R M := by
  intro p l e Rm s m args below meth c D cI cZ cG sb b Z Cx hZ H locs ls hH hS hl
  have k1 : W p l e Rm s m args below meth c H locs cu su Z (F0 m (pc + 2) ls (.ref (b + z) :: st.map (cv sb b))) := kk p l e Rm s m args below meth c D cI cZ cG sb b Z Cx hZ H locs ls hH hS hl
  exact lv_aload Cx.1.1 Cx.1.2.1 hd (xas_get hl hj) k1
theorem x_aloads_n {k : Fin 4} {j : Nat} (hd : decode (mB i) pc = .ok (.aload_n k, 1)) (hk : (k : Nat) = j) (hj : L[j]? = some (some (vs))) (kk : xX sc i d n0 mc ms Q (pc + 1) L (vs :: st) cu su R M) : xX sc i d n0 mc ms Q pc L st cu su R M := by
  intro p l e Rm s m args below meth c D cI cZ cG sb b Z Cx hZ H locs ls hH hS hl
  have k1 : W p l e Rm s m args below meth c H locs cu su Z (F0 m (pc + 1) ls (.ref sb :: st.map (cv sb b))) := kk p l e Rm s m args below meth c D cI cZ cG sb b Z Cx hZ H locs ls hH hS hl
  exact lv_aload_n Cx.1.1 Cx.1.2.1 hd hk (xas_get hl hj) k1
theorem x_aloads {j : Nat} (hd : decode (mB i) pc = .ok (.aload j, 2)) (hj : L[j]? = some (some (vs))) (kk : xX sc i d n0 mc ms Q (pc + 2) L (vs :: st) cu su R M) : xX sc i d n0 mc ms Q pc L st cu su R M := by
  intro p l e Rm s m args below meth c D cI cZ cG sb b Z Cx hZ H locs ls hH hS hl
  have k1 : W p l e Rm s m args below meth c H locs cu su Z (F0 m (pc + 2) ls (.ref sb :: st.map (cv sb b))) := kk p l e Rm s m args below meth c D cI cZ cG sb b Z Cx hZ H locs ls hH hS hl
  exact lv_aload Cx.1.1 Cx.1.2.1 hd (xas_get hl hj) k1
theorem x_istore_n {k : Fin 4} {j : Nat} {z : Int} (hd : decode (mB i) pc = .ok (.istore_n k, 1)) (hk : (k : Nat) = j) (hn : j < mL i) (kk : xX sc i d n0 mc ms Q (pc + 1) (L.set j (some (vi z))) st cu su R M) : xX sc i d n0 mc ms Q pc L (vi z :: st) cu su R M := by
  intro p l e Rm s m args below meth c D cI cZ cG sb b Z Cx hZ H locs ls hH hS hl
  exact lv_istore_n (x := xI z) Cx.1.1 Cx.1.2.1 hd hk hl hn rfl (fun ls' h' => kk p l e Rm s m args below meth c D cI cZ cG sb b Z Cx hZ H locs ls' hH hS (xas_set rfl h'))
theorem x_istore {j : Nat} {z : Int} (hd : decode (mB i) pc = .ok (.istore j, 2)) (hn : j < mL i) (kk : xX sc i d n0 mc ms Q (pc + 2) (L.set j (some (vi z))) st cu su R M) : xX sc i d n0 mc ms Q pc L (vi z :: st) cu su R M := by
  intro p l e Rm s m args below meth c D cI cZ cG sb b Z Cx hZ H locs ls hH hS hl
  exact lv_istore (x := xI z) Cx.1.1 Cx.1.2.1 hd hl hn rfl (fun ls' h' => kk p l e Rm s m args below meth c D cI cZ cG sb b Z Cx hZ H locs ls' hH hS (xas_set rfl h'))
theorem x_astore_n {k : Fin 4} {j : Nat} {z : Nat} (hd : decode (mB i) pc = .ok (.astore_n k, 1)) (hk : (k : Nat) = j) (hn : j < mL i) (kk : xX sc i d n0 mc ms Q (pc + 1) (L.set j (some (vr z))) st cu su R M) : xX sc i d n0 mc ms Q pc L (vr z :: st) cu su R M := by
  intro p l e Rm s m args below meth c D cI cZ cG sb b Z Cx hZ H locs ls hH hS hl
  exact lv_astore_n (x := b + z) Cx.1.1 Cx.1.2.1 hd hk hl hn rfl (fun ls' h' => kk p l e Rm s m args below meth c D cI cZ cG sb b Z Cx hZ H locs ls' hH hS (xas_set rfl h'))
theorem x_astore {j : Nat} {z : Nat} (hd : decode (mB i) pc = .ok (.astore j, 2)) (hn : j < mL i) (kk : xX sc i d n0 mc ms Q (pc + 2) (L.set j (some (vr z))) st cu su R M) : xX sc i d n0 mc ms Q pc L (vr z :: st) cu su R M := by
  intro p l e Rm s m args below meth c D cI cZ cG sb b Z Cx hZ H locs ls hH hS hl
  exact lv_astore (x := b + z) Cx.1.1 Cx.1.2.1 hd hl hn rfl (fun ls' h' => kk p l e Rm s m args below meth c D cI cZ cG sb b Z Cx hZ H locs ls' hH hS (xas_set rfl h'))
theorem x_iinc {j : Nat} {z w : Int} (hd : decode (mB i) pc = .ok (.iinc j w, 3)) (hj : L[j]? = some (some (vi z))) (hn : j < mL i) (kk : xX sc i d n0 mc ms Q (pc + 3) (L.set j (some (vi (z + w)))) st cu su R M) : xX sc i d n0 mc ms Q pc L st cu su R M := by
  intro p l e Rm s m args below meth c D cI cZ cG sb b Z Cx hZ H locs ls hH hS hl
  have hm : (j, Value.int (xI z)) ∈ xas sb b 0 L := (xas_mem sb b L 0 _).mpr ⟨j, vi z, hj, by rw [Nat.zero_add]; rfl⟩
  obtain ⟨k, hk⟩ := List.getElem?_of_mem hm
  exact lv_iinc (x := xI z) (v := xI (z + w)) Cx.1.1 Cx.1.2.1 hd hl hk (xI_add z w).symm hn rfl (fun ls' h' => kk p l e Rm s m args below meth c D cI cZ cG sb b Z Cx hZ H locs ls' hH hS (xas_set rfl h'))
theorem x_locals (L' : List (Option AV)) (hs : ∀ (j : Nat) (v : AV), L'[j]? = some (some v) → L[j]? = some (some v)) (kk : xX sc i d n0 mc ms Q pc L' st cu su R M) : xX sc i d n0 mc ms Q pc L st cu su R M := by
  intro p l e Rm s m args below meth c D cI cZ cG sb b Z Cx hZ H locs ls hH hS hl
  exact kk p l e Rm s m args below meth c D cI cZ cG sb b Z Cx hZ H locs ls hH hS (xas_sub hl hs)
theorem x_iadd {x y : Int} (hd : decode (mB i) pc = .ok (.iadd, 1)) (kk : xX sc i d n0 mc ms Q (pc + 1) L (vi (x + y) :: st) cu su R M) : xX sc i d n0 mc ms Q pc L (vi y :: vi x :: st) cu su R M := by
  intro p l e Rm s m args below meth c D cI cZ cG sb b Z Cx hZ H locs ls hH hS hl
  have k1 : W p l e Rm s m args below meth c H locs cu su Z (F0 m (pc + 1) ls (.int (xI (x + y)) :: st.map (cv sb b))) := kk p l e Rm s m args below meth c D cI cZ cG sb b Z Cx hZ H locs ls hH hS hl
  rw [xI_add x y] at k1
  exact lv_iadd Cx.1.1 Cx.1.2.1 hd k1
theorem x_isub {x y : Int} (hd : decode (mB i) pc = .ok (.isub, 1)) (kk : xX sc i d n0 mc ms Q (pc + 1) L (vi (x - y) :: st) cu su R M) : xX sc i d n0 mc ms Q pc L (vi y :: vi x :: st) cu su R M := by
  intro p l e Rm s m args below meth c D cI cZ cG sb b Z Cx hZ H locs ls hH hS hl
  have k1 : W p l e Rm s m args below meth c H locs cu su Z (F0 m (pc + 1) ls (.int (xI (x - y)) :: st.map (cv sb b))) := kk p l e Rm s m args below meth c D cI cZ cG sb b Z Cx hZ H locs ls hH hS hl
  rw [xI_sub x y] at k1
  exact lv_isub Cx.1.1 Cx.1.2.1 hd k1
theorem x_imul {x y : Int} (hd : decode (mB i) pc = .ok (.imul, 1)) (kk : xX sc i d n0 mc ms Q (pc + 1) L (vi (x * y) :: st) cu su R M) : xX sc i d n0 mc ms Q pc L (vi y :: vi x :: st) cu su R M := by
  intro p l e Rm s m args below meth c D cI cZ cG sb b Z Cx hZ H locs ls hH hS hl
  have k1 : W p l e Rm s m args below meth c H locs cu su Z (F0 m (pc + 1) ls (.int (xI (x * y)) :: st.map (cv sb b))) := kk p l e Rm s m args below meth c D cI cZ cG sb b Z Cx hZ H locs ls hH hS hl
  rw [xI_mul x y] at k1
  exact lv_imul Cx.1.1 Cx.1.2.1 hd k1
theorem x_iand {x y : Int} (hd : decode (mB i) pc = .ok (.iand, 1)) (kk : xX sc i d n0 mc ms Q (pc + 1) L (vi (xAnd x y) :: st) cu su R M) : xX sc i d n0 mc ms Q pc L (vi y :: vi x :: st) cu su R M := by
  intro p l e Rm s m args below meth c D cI cZ cG sb b Z Cx hZ H locs ls hH hS hl
  have k1 : W p l e Rm s m args below meth c H locs cu su Z (F0 m (pc + 1) ls (.int (xI (xAnd x y)) :: st.map (cv sb b))) := kk p l e Rm s m args below meth c D cI cZ cG sb b Z Cx hZ H locs ls hH hS hl
  rw [xI_and x y] at k1
  exact lv_iand Cx.1.1 Cx.1.2.1 hd k1
theorem x_ior {x y : Int} (hd : decode (mB i) pc = .ok (.ior, 1)) (kk : xX sc i d n0 mc ms Q (pc + 1) L (vi (xOr x y) :: st) cu su R M) : xX sc i d n0 mc ms Q pc L (vi y :: vi x :: st) cu su R M := by
  intro p l e Rm s m args below meth c D cI cZ cG sb b Z Cx hZ H locs ls hH hS hl
  have k1 : W p l e Rm s m args below meth c H locs cu su Z (F0 m (pc + 1) ls (.int (xI (xOr x y)) :: st.map (cv sb b))) := kk p l e Rm s m args below meth c D cI cZ cG sb b Z Cx hZ H locs ls hH hS hl
  rw [xI_or x y] at k1
  exact lv_ior Cx.1.1 Cx.1.2.1 hd k1
theorem x_ixor {x y : Int} (hd : decode (mB i) pc = .ok (.ixor, 1)) (kk : xX sc i d n0 mc ms Q (pc + 1) L (vi (xXor x y) :: st) cu su R M) : xX sc i d n0 mc ms Q pc L (vi y :: vi x :: st) cu su R M := by
  intro p l e Rm s m args below meth c D cI cZ cG sb b Z Cx hZ H locs ls hH hS hl
  have k1 : W p l e Rm s m args below meth c H locs cu su Z (F0 m (pc + 1) ls (.int (xI (xXor x y)) :: st.map (cv sb b))) := kk p l e Rm s m args below meth c D cI cZ cG sb b Z Cx hZ H locs ls hH hS hl
  rw [xI_xor x y] at k1
  exact lv_ixor Cx.1.1 Cx.1.2.1 hd k1
theorem x_ishl {x y : Int} (hd : decode (mB i) pc = .ok (.ishl, 1)) (kk : xX sc i d n0 mc ms Q (pc + 1) L (vi (xShl x y) :: st) cu su R M) : xX sc i d n0 mc ms Q pc L (vi y :: vi x :: st) cu su R M := by
  intro p l e Rm s m args below meth c D cI cZ cG sb b Z Cx hZ H locs ls hH hS hl
  have k1 : W p l e Rm s m args below meth c H locs cu su Z (F0 m (pc + 1) ls (.int (xI (xShl x y)) :: st.map (cv sb b))) := kk p l e Rm s m args below meth c D cI cZ cG sb b Z Cx hZ H locs ls hH hS hl
  rw [xI_shl x y] at k1
  exact lv_ishl Cx.1.1 Cx.1.2.1 hd k1
theorem x_ishr {x y : Int} (hd : decode (mB i) pc = .ok (.ishr, 1)) (kk : xX sc i d n0 mc ms Q (pc + 1) L (vi (xShr x y) :: st) cu su R M) : xX sc i d n0 mc ms Q pc L (vi y :: vi x :: st) cu su R M := by
  intro p l e Rm s m args below meth c D cI cZ cG sb b Z Cx hZ H locs ls hH hS hl
  have k1 : W p l e Rm s m args below meth c H locs cu su Z (F0 m (pc + 1) ls (.int (xI (xShr x y)) :: st.map (cv sb b))) := kk p l e Rm s m args below meth c D cI cZ cG sb b Z Cx hZ H locs ls hH hS hl
  rw [xI_shr x y] at k1
  exact lv_ishr Cx.1.1 Cx.1.2.1 hd k1
theorem x_idiv {x y : Int} (hd : decode (mB i) pc = .ok (.idiv, 1)) (hx : xin x) (hy : xin y) (h0 : y ≠ 0) (h1 : y ≠ -1) (kk : xX sc i d n0 mc ms Q (pc + 1) L (vi (x.tdiv y) :: st) cu su R M) : xX sc i d n0 mc ms Q pc L (vi y :: vi x :: st) cu su R M := by
  intro p l e Rm s m args below meth c D cI cZ cG sb b Z Cx hZ H locs ls hH hS hl
  have k1 : W p l e Rm s m args below meth c H locs cu su Z (F0 m (pc + 1) ls (.int (xI (x.tdiv y)) :: st.map (cv sb b))) := kk p l e Rm s m args below meth c D cI cZ cG sb b Z Cx hZ H locs ls hH hS hl
  rw [xI_div hx hy h1] at k1
  exact lv_idiv Cx.1.1 Cx.1.2.1 hd (fun q => h0 ((xI_inj hy xin0).mp (q.trans xI_0.symm))) k1
theorem x_irem {x y : Int} (hd : decode (mB i) pc = .ok (.irem, 1)) (hx : xin x) (hy : xin y) (h0 : y ≠ 0) (h1 : y ≠ -1) (kk : xX sc i d n0 mc ms Q (pc + 1) L (vi (x - x.tdiv y * y) :: st) cu su R M) : xX sc i d n0 mc ms Q pc L (vi y :: vi x :: st) cu su R M := by
  intro p l e Rm s m args below meth c D cI cZ cG sb b Z Cx hZ H locs ls hH hS hl
  have k1 : W p l e Rm s m args below meth c H locs cu su Z (F0 m (pc + 1) ls (.int (xI (x - x.tdiv y * y)) :: st.map (cv sb b))) := kk p l e Rm s m args below meth c D cI cZ cG sb b Z Cx hZ H locs ls hH hS hl
  rw [xI_sub, xI_mul, xI_div hx hy h1] at k1
  exact lv_irem Cx.1.1 Cx.1.2.1 hd (fun q => h0 ((xI_inj hy xin0).mp (q.trans xI_0.symm))) k1
theorem x_dup {v : AV} (hd : decode (mB i) pc = .ok (.dup, 1)) (kk : xX sc i d n0 mc ms Q (pc + 1) L (v :: v :: st) cu su R M) : xX sc i d n0 mc ms Q pc L (v :: st) cu su R M := by
  intro p l e Rm s m args below meth c D cI cZ cG sb b Z Cx hZ H locs ls hH hS hl
  have k1 : W p l e Rm s m args below meth c H locs cu su Z (F0 m (pc + 1) ls (cv sb b v :: cv sb b v :: st.map (cv sb b))) := kk p l e Rm s m args below meth c D cI cZ cG sb b Z Cx hZ H locs ls hH hS hl
  exact lv_dup Cx.1.1 Cx.1.2.1 hd (cv_cat sb b v) k1
theorem x_pop {v : AV} (hd : decode (mB i) pc = .ok (.pop, 1)) (kk : xX sc i d n0 mc ms Q (pc + 1) L st cu su R M) : xX sc i d n0 mc ms Q pc L (v :: st) cu su R M := by
  intro p l e Rm s m args below meth c D cI cZ cG sb b Z Cx hZ H locs ls hH hS hl
  have k1 : W p l e Rm s m args below meth c H locs cu su Z (F0 m (pc + 1) ls (st.map (cv sb b))) := kk p l e Rm s m args below meth c D cI cZ cG sb b Z Cx hZ H locs ls hH hS hl
  exact lv_pop Cx.1.1 Cx.1.2.1 hd (cv_cat sb b v) k1
theorem x_dup2 {v w : AV} (hd : decode (mB i) pc = .ok (.dup2, 1)) (kk : xX sc i d n0 mc ms Q (pc + 1) L (v :: w :: v :: w :: st) cu su R M) : xX sc i d n0 mc ms Q pc L (v :: w :: st) cu su R M := by
  intro p l e Rm s m args below meth c D cI cZ cG sb b Z Cx hZ H locs ls hH hS hl
  have k1 : W p l e Rm s m args below meth c H locs cu su Z (F0 m (pc + 1) ls (cv sb b v :: cv sb b w :: cv sb b v :: cv sb b w :: st.map (cv sb b))) := kk p l e Rm s m args below meth c D cI cZ cG sb b Z Cx hZ H locs ls hH hS hl
  exact lv_dup2_11 Cx.1.1 Cx.1.2.1 hd (cv_cat sb b v) (cv_cat sb b w) k1
theorem x_dup_x1 {v w : AV} (hd : decode (mB i) pc = .ok (.dup_x1, 1)) (kk : xX sc i d n0 mc ms Q (pc + 1) L (v :: w :: v :: st) cu su R M) : xX sc i d n0 mc ms Q pc L (v :: w :: st) cu su R M := by
  intro p l e Rm s m args below meth c D cI cZ cG sb b Z Cx hZ H locs ls hH hS hl
  have k1 : W p l e Rm s m args below meth c H locs cu su Z (F0 m (pc + 1) ls (cv sb b v :: cv sb b w :: cv sb b v :: st.map (cv sb b))) := kk p l e Rm s m args below meth c D cI cZ cG sb b Z Cx hZ H locs ls hH hS hl
  exact lv_dup_x1 Cx.1.1 Cx.1.2.1 hd (cv_cat sb b v) (cv_cat sb b w) k1
theorem x_goto {off : Int} {tgt : Nat} (hd : decode (mB i) pc = .ok (.goto off, 3)) (ht : (pc : Int) + off = (tgt : Int)) (kk : xX sc i d n0 mc ms Q tgt L st cu su R M) : xX sc i d n0 mc ms Q pc L st cu su R M := by
  intro p l e Rm s m args below meth c D cI cZ cG sb b Z Cx hZ H locs ls hH hS hl
  exact lv_goto Cx.1.1 Cx.1.2.1 hd ht (kk p l e Rm s m args below meth c D cI cZ cG sb b Z Cx hZ H locs ls hH hS hl)
theorem x_icmp_eq {x y off : Int} {tgt : Nat} (hd : decode (mB i) pc = .ok (.if_icmp .eq off, 3)) (ht : (pc : Int) + off = (tgt : Int)) (hx : xin x) (hy : xin y) (kt : x = y → xX sc i d n0 mc ms Q tgt L st cu su R M) (kf : ¬ x = y → xX sc i d n0 mc ms Q (pc + 3) L st cu su R M) : xX sc i d n0 mc ms Q pc L (vi y :: vi x :: st) cu su R M := by
  intro p l e Rm s m args below meth c D cI cZ cG sb b Z Cx hZ H locs ls hH hS hl
  exact lv_icmp_eq (x := xI x) (y := xI y) Cx.1.1 Cx.1.2.1 hd ht (fun h => kt ((xI_inj hx hy).mp h) p l e Rm s m args below meth c D cI cZ cG sb b Z Cx hZ H locs ls hH hS hl) (fun h => kf ((not_congr (xI_inj hx hy)).mp h) p l e Rm s m args below meth c D cI cZ cG sb b Z Cx hZ H locs ls hH hS hl)
theorem x_if_eq {z off : Int} {tgt : Nat} (hd : decode (mB i) pc = .ok (.ifCond .eq off, 3)) (ht : (pc : Int) + off = (tgt : Int)) (hz : xin z) (kt : z = 0 → xX sc i d n0 mc ms Q tgt L st cu su R M) (kf : ¬ z = 0 → xX sc i d n0 mc ms Q (pc + 3) L st cu su R M) : xX sc i d n0 mc ms Q pc L (vi z :: st) cu su R M := by
  intro p l e Rm s m args below meth c D cI cZ cG sb b Z Cx hZ H locs ls hH hS hl
  exact lv_if_eq (x := xI z) Cx.1.1 Cx.1.2.1 hd ht (fun h => kt ((xI_inj hz xin0).mp h) p l e Rm s m args below meth c D cI cZ cG sb b Z Cx hZ H locs ls hH hS hl) (fun h => kf ((not_congr (xI_inj hz xin0)).mp h) p l e Rm s m args below meth c D cI cZ cG sb b Z Cx hZ H locs ls hH hS hl)
theorem x_icmp_ne {x y off : Int} {tgt : Nat} (hd : decode (mB i) pc = .ok (.if_icmp .ne off, 3)) (ht : (pc : Int) + off = (tgt : Int)) (hx : xin x) (hy : xin y) (kt : ¬ x = y → xX sc i d n0 mc ms Q tgt L st cu su R M) (kf : x = y → xX sc i d n0 mc ms Q (pc + 3) L st cu su R M) : xX sc i d n0 mc ms Q pc L (vi y :: vi x :: st) cu su R M := by
  intro p l e Rm s m args below meth c D cI cZ cG sb b Z Cx hZ H locs ls hH hS hl
  exact lv_icmp_ne (x := xI x) (y := xI y) Cx.1.1 Cx.1.2.1 hd ht (fun h => kt ((not_congr (xI_inj hx hy)).mp h) p l e Rm s m args below meth c D cI cZ cG sb b Z Cx hZ H locs ls hH hS hl) (fun h => kf ((xI_inj hx hy).mp h) p l e Rm s m args below meth c D cI cZ cG sb b Z Cx hZ H locs ls hH hS hl)
theorem x_if_ne {z off : Int} {tgt : Nat} (hd : decode (mB i) pc = .ok (.ifCond .ne off, 3)) (ht : (pc : Int) + off = (tgt : Int)) (hz : xin z) (kt : ¬ z = 0 → xX sc i d n0 mc ms Q tgt L st cu su R M) (kf : z = 0 → xX sc i d n0 mc ms Q (pc + 3) L st cu su R M) : xX sc i d n0 mc ms Q pc L (vi z :: st) cu su R M := by
  intro p l e Rm s m args below meth c D cI cZ cG sb b Z Cx hZ H locs ls hH hS hl
  exact lv_if_ne (x := xI z) Cx.1.1 Cx.1.2.1 hd ht (fun h => kt ((not_congr (xI_inj hz xin0)).mp h) p l e Rm s m args below meth c D cI cZ cG sb b Z Cx hZ H locs ls hH hS hl) (fun h => kf ((xI_inj hz xin0).mp h) p l e Rm s m args below meth c D cI cZ cG sb b Z Cx hZ H locs ls hH hS hl)
theorem x_icmp_lt {x y off : Int} {tgt : Nat} (hd : decode (mB i) pc = .ok (.if_icmp .lt off, 3)) (ht : (pc : Int) + off = (tgt : Int)) (hx : xin x) (hy : xin y) (kt : x < y → xX sc i d n0 mc ms Q tgt L st cu su R M) (kf : ¬ x < y → xX sc i d n0 mc ms Q (pc + 3) L st cu su R M) : xX sc i d n0 mc ms Q pc L (vi y :: vi x :: st) cu su R M := by
  intro p l e Rm s m args below meth c D cI cZ cG sb b Z Cx hZ H locs ls hH hS hl
  exact lv_icmp_lt (x := xI x) (y := xI y) Cx.1.1 Cx.1.2.1 hd ht (fun h => kt ((xI_lt hx hy).mp h) p l e Rm s m args below meth c D cI cZ cG sb b Z Cx hZ H locs ls hH hS hl) (fun h => kf ((not_congr (xI_lt hx hy)).mp h) p l e Rm s m args below meth c D cI cZ cG sb b Z Cx hZ H locs ls hH hS hl)
theorem x_if_lt {z off : Int} {tgt : Nat} (hd : decode (mB i) pc = .ok (.ifCond .lt off, 3)) (ht : (pc : Int) + off = (tgt : Int)) (hz : xin z) (kt : z < 0 → xX sc i d n0 mc ms Q tgt L st cu su R M) (kf : ¬ z < 0 → xX sc i d n0 mc ms Q (pc + 3) L st cu su R M) : xX sc i d n0 mc ms Q pc L (vi z :: st) cu su R M := by
  intro p l e Rm s m args below meth c D cI cZ cG sb b Z Cx hZ H locs ls hH hS hl
  exact lv_if_lt (x := xI z) Cx.1.1 Cx.1.2.1 hd ht (fun h => kt ((xI_lt hz xin0).mp h) p l e Rm s m args below meth c D cI cZ cG sb b Z Cx hZ H locs ls hH hS hl) (fun h => kf ((not_congr (xI_lt hz xin0)).mp h) p l e Rm s m args below meth c D cI cZ cG sb b Z Cx hZ H locs ls hH hS hl)
theorem x_icmp_ge {x y off : Int} {tgt : Nat} (hd : decode (mB i) pc = .ok (.if_icmp .ge off, 3)) (ht : (pc : Int) + off = (tgt : Int)) (hx : xin x) (hy : xin y) (kt : y ≤ x → xX sc i d n0 mc ms Q tgt L st cu su R M) (kf : ¬ y ≤ x → xX sc i d n0 mc ms Q (pc + 3) L st cu su R M) : xX sc i d n0 mc ms Q pc L (vi y :: vi x :: st) cu su R M := by
  intro p l e Rm s m args below meth c D cI cZ cG sb b Z Cx hZ H locs ls hH hS hl
  exact lv_icmp_ge (x := xI x) (y := xI y) Cx.1.1 Cx.1.2.1 hd ht (fun h => kt ((xI_le hy hx).mp h) p l e Rm s m args below meth c D cI cZ cG sb b Z Cx hZ H locs ls hH hS hl) (fun h => kf ((not_congr (xI_le hy hx)).mp h) p l e Rm s m args below meth c D cI cZ cG sb b Z Cx hZ H locs ls hH hS hl)
theorem x_if_ge {z off : Int} {tgt : Nat} (hd : decode (mB i) pc = .ok (.ifCond .ge off, 3)) (ht : (pc : Int) + off = (tgt : Int)) (hz : xin z) (kt : 0 ≤ z → xX sc i d n0 mc ms Q tgt L st cu su R M) (kf : ¬ 0 ≤ z → xX sc i d n0 mc ms Q (pc + 3) L st cu su R M) : xX sc i d n0 mc ms Q pc L (vi z :: st) cu su R M := by
  intro p l e Rm s m args below meth c D cI cZ cG sb b Z Cx hZ H locs ls hH hS hl
  exact lv_if_ge (x := xI z) Cx.1.1 Cx.1.2.1 hd ht (fun h => kt ((xI_le xin0 hz).mp h) p l e Rm s m args below meth c D cI cZ cG sb b Z Cx hZ H locs ls hH hS hl) (fun h => kf ((not_congr (xI_le xin0 hz)).mp h) p l e Rm s m args below meth c D cI cZ cG sb b Z Cx hZ H locs ls hH hS hl)
theorem x_icmp_gt {x y off : Int} {tgt : Nat} (hd : decode (mB i) pc = .ok (.if_icmp .gt off, 3)) (ht : (pc : Int) + off = (tgt : Int)) (hx : xin x) (hy : xin y) (kt : y < x → xX sc i d n0 mc ms Q tgt L st cu su R M) (kf : ¬ y < x → xX sc i d n0 mc ms Q (pc + 3) L st cu su R M) : xX sc i d n0 mc ms Q pc L (vi y :: vi x :: st) cu su R M := by
  intro p l e Rm s m args below meth c D cI cZ cG sb b Z Cx hZ H locs ls hH hS hl
  exact lv_icmp_gt (x := xI x) (y := xI y) Cx.1.1 Cx.1.2.1 hd ht (fun h => kt ((xI_lt hy hx).mp h) p l e Rm s m args below meth c D cI cZ cG sb b Z Cx hZ H locs ls hH hS hl) (fun h => kf ((not_congr (xI_lt hy hx)).mp h) p l e Rm s m args below meth c D cI cZ cG sb b Z Cx hZ H locs ls hH hS hl)
theorem x_if_gt {z off : Int} {tgt : Nat} (hd : decode (mB i) pc = .ok (.ifCond .gt off, 3)) (ht : (pc : Int) + off = (tgt : Int)) (hz : xin z) (kt : 0 < z → xX sc i d n0 mc ms Q tgt L st cu su R M) (kf : ¬ 0 < z → xX sc i d n0 mc ms Q (pc + 3) L st cu su R M) : xX sc i d n0 mc ms Q pc L (vi z :: st) cu su R M := by
  intro p l e Rm s m args below meth c D cI cZ cG sb b Z Cx hZ H locs ls hH hS hl
  exact lv_if_gt (x := xI z) Cx.1.1 Cx.1.2.1 hd ht (fun h => kt ((xI_lt xin0 hz).mp h) p l e Rm s m args below meth c D cI cZ cG sb b Z Cx hZ H locs ls hH hS hl) (fun h => kf ((not_congr (xI_lt xin0 hz)).mp h) p l e Rm s m args below meth c D cI cZ cG sb b Z Cx hZ H locs ls hH hS hl)
theorem x_icmp_le {x y off : Int} {tgt : Nat} (hd : decode (mB i) pc = .ok (.if_icmp .le off, 3)) (ht : (pc : Int) + off = (tgt : Int)) (hx : xin x) (hy : xin y) (kt : x ≤ y → xX sc i d n0 mc ms Q tgt L st cu su R M) (kf : ¬ x ≤ y → xX sc i d n0 mc ms Q (pc + 3) L st cu su R M) : xX sc i d n0 mc ms Q pc L (vi y :: vi x :: st) cu su R M := by
  intro p l e Rm s m args below meth c D cI cZ cG sb b Z Cx hZ H locs ls hH hS hl
  exact lv_icmp_le (x := xI x) (y := xI y) Cx.1.1 Cx.1.2.1 hd ht (fun h => kt ((xI_le hx hy).mp h) p l e Rm s m args below meth c D cI cZ cG sb b Z Cx hZ H locs ls hH hS hl) (fun h => kf ((not_congr (xI_le hx hy)).mp h) p l e Rm s m args below meth c D cI cZ cG sb b Z Cx hZ H locs ls hH hS hl)
theorem x_if_le {z off : Int} {tgt : Nat} (hd : decode (mB i) pc = .ok (.ifCond .le off, 3)) (ht : (pc : Int) + off = (tgt : Int)) (hz : xin z) (kt : z ≤ 0 → xX sc i d n0 mc ms Q tgt L st cu su R M) (kf : ¬ z ≤ 0 → xX sc i d n0 mc ms Q (pc + 3) L st cu su R M) : xX sc i d n0 mc ms Q pc L (vi z :: st) cu su R M := by
  intro p l e Rm s m args below meth c D cI cZ cG sb b Z Cx hZ H locs ls hH hS hl
  exact lv_if_le (x := xI z) Cx.1.1 Cx.1.2.1 hd ht (fun h => kt ((xI_le hz xin0).mp h) p l e Rm s m args below meth c D cI cZ cG sb b Z Cx hZ H locs ls hH hS hl) (fun h => kf ((not_congr (xI_le hz xin0)).mp h) p l e Rm s m args below meth c D cI cZ cG sb b Z Cx hZ H locs ls hH hS hl)
theorem x_iret {z : Int} (hd : decode (mB i) pc = .ok (.ireturn, 1)) (hr : mR i = some .int) (hc : cu = mc) (hs : su ≤ ms) (hq : Q (some (vi z)) R M) : xX sc i d n0 mc ms Q pc L [vi z] cu su R M := by
  intro p l e Rm s m args below meth c D cI cZ cG sb b Z Cx hZ H locs ls hH hS hl
  subst hc
  exact W.widen (Nat.le_refl _) hs (hZ H locs ls pc R M (some (vi z)) hq hH hS (Or.inr ⟨z, rfl, hd, Or.inl hr⟩))
theorem x_zret {z : Int} (hd : decode (mB i) pc = .ok (.ireturn, 1)) (hr : mR i = some .boolean) (hz : z = 0 ∨ z = 1) (hc : cu = mc) (hs : su ≤ ms) (hq : Q (some (vi z)) R M) : xX sc i d n0 mc ms Q pc L [vi z] cu su R M := by
  intro p l e Rm s m args below meth c D cI cZ cG sb b Z Cx hZ H locs ls hH hS hl
  subst hc
  exact W.widen (Nat.le_refl _) hs (hZ H locs ls pc R M (some (vi z)) hq hH hS (Or.inr ⟨z, rfl, hd, Or.inr ⟨hr, hz⟩⟩))
theorem x_vret (hd : decode (mB i) pc = .ok (.return_, 1)) (hr : mR i = none) (hc : cu = mc) (hs : su ≤ ms) (hq : Q none R M) : xX sc i d n0 mc ms Q pc L [] cu su R M := by
  intro p l e Rm s m args below meth c D cI cZ cG sb b Z Cx hZ H locs ls hH hS hl
  subst hc
  exact W.widen (Nat.le_refl _) hs (hZ H locs ls pc R M none hq hH hS (Or.inl ⟨rfl, hr, hd⟩))
theorem x_getI {C : String} {T : u_T} {ty : Nat → FieldType} {N ci idx k : Nat} (j : Nat) (hd : decode (mB i) pc = .ok (.getfield idx, 3)) (hC : cOK C T N ty) (hc : xCL[ci]? = some (C, T, N)) (hk : k < n0 + cu) (hS0 : xS k = (ci + 3, N)) (hj : j < N) (hi : xIs ci j = false) (hlk : Cond.fieldLink (mO i) idx (T j).1 (T j).2.1 (T j).2.2.1 ∈ WS) (kk : xX sc i d n0 mc ms Q (pc + 3) L (vi (M k j) :: st) cu su R M) : xX sc i d n0 mc ms Q pc L (vr k :: st) cu su R M := by
  intro p l e Rm s m args below meth c D cI cZ cG sb b Z Cx hZ H locs ls hH hS hl
  have k1 : W p l e Rm s m args below meth c H locs cu su Z (F0 m (pc + 3) ls (.int (xI (M k j)) :: st.map (cv sb b))) := kk p l e Rm s m args below meth c D cI cZ cG sb b Z Cx hZ H locs ls hH hS hl
  have he := xwd_at (cI := cI) (cZ := cZ) (cG := cG) (b := b) (R := R) (M := M) hk
  rw [xce_o hS0] at he
  exact va_get (v := .int (xI (M k j))) Cx.1.1 Cx.1.2.1 Cx.1.2.2.2.2 hC.1 Cx.1.2.2.2.1 Cx.2.1.1 hH k he hc j hj (Cx.1.2.2.2.2 _ hlk) (fun _ h => h) (by rw [xfs, List.getElem?_map, List.getElem?_range hj]; simp [hi]) hd k1
theorem x_getR {C : String} {T : u_T} {ty : Nat → FieldType} {N ci idx k : Nat} (j : Nat) {t : Nat} (hd : decode (mB i) pc = .ok (.getfield idx, 3)) (hC : cOK C T N ty) (hc : xCL[ci]? = some (C, T, N)) (hk : k < n0 + cu) (hS0 : xS k = (ci + 3, N)) (hj : j < N) (hi : xIs ci j = true) (hr : R k j = some t) (hlk : Cond.fieldLink (mO i) idx (T j).1 (T j).2.1 (T j).2.2.1 ∈ WS) (kk : xX sc i d n0 mc ms Q (pc + 3) L (vr t :: st) cu su R M) : xX sc i d n0 mc ms Q pc L (vr k :: st) cu su R M := by
  intro p l e Rm s m args below meth c D cI cZ cG sb b Z Cx hZ H locs ls hH hS hl
  have k1 : W p l e Rm s m args below meth c H locs cu su Z (F0 m (pc + 3) ls (.ref (b + t) :: st.map (cv sb b))) := kk p l e Rm s m args below meth c D cI cZ cG sb b Z Cx hZ H locs ls hH hS hl
  have he := xwd_at (cI := cI) (cZ := cZ) (cG := cG) (b := b) (R := R) (M := M) hk
  rw [xce_o hS0] at he
  exact va_get (v := .ref (b + t)) Cx.1.1 Cx.1.2.1 Cx.1.2.2.2.2 hC.1 Cx.1.2.2.2.1 Cx.2.1.1 hH k he hc j hj (Cx.1.2.2.2.2 _ hlk) (fun _ h => h) (by rw [xfs, List.getElem?_map, List.getElem?_range hj]; simp [hi, hr, va_rf]) hd k1
theorem x_putI {C : String} {T : u_T} {ty : Nat → FieldType} {N ci idx k : Nat} (j : Nat) {z : Int} (hd : decode (mB i) pc = .ok (.putfield idx, 3)) (hC : cOK C T N ty) (hc : xCL[ci]? = some (C, T, N)) (hk : k < n0 + cu) (hS0 : xS k = (ci + 3, N)) (hj : j < N) (hi : xIs ci j = false) (hf : (T j).2.2.2 = false) (hty : ty j = .int) (hlk : Cond.fieldLink (mO i) idx (T j).1 (T j).2.1 (T j).2.2.1 ∈ WS) (kk : ∀ M1, M1 = xU M k j z → xX sc i d n0 mc ms Q (pc + 3) L st cu su R M1) : xX sc i d n0 mc ms Q pc L (vi z :: vr k :: st) cu su R M := by
  intro p l e Rm s m args below meth c D cI cZ cG sb b Z Cx hZ H locs ls hH hS hl
  have he := xwd_at (cI := cI) (cZ := cZ) (cG := cG) (b := b) (R := R) (M := M) hk
  rw [xce_o hS0] at he
  refine va_put (v := .int (xI z)) (ty := .int) Cx.1.1 Cx.1.2.1 Cx.1.2.2.2.2 hC.1 ty hC.2.1 hC.2.2 Cx.1.2.2.2.1 Cx.2.1.1 hH xwd_D hS k he hc j hj (Cx.1.2.2.2.2 _ hlk) (fun _ h => h) hf ((hC.2.1 j hj).trans (congrArg some hty)) rfl rfl (by simpa [xfs] using hj) hd (fun H1 locs1 h1 _ h3 => ?_)
  refine kk _ rfl p l e Rm s m args below meth c D cI cZ cG sb b Z Cx hZ H1 locs1 ls ?_ h3 hl
  rw [xfs_setI hj hi, ← xce_o (cI := cI) (cZ := cZ) (cG := cG) hS0, xwd_set hk (fun j' hj' => xce_congr (xU_o hj') rfl)] at h1
  exact h1
theorem x_getIN {C host : String} {T : u_T} {ty : Nat → FieldType} {N ci idx k : Nat} (j : Nat) (hd : decode (mB i) pc = .ok (.getfield idx, 3)) (hC : cOK C T N ty) (hc : xCL[ci]? = some (C, T, N)) (hk : k < n0 + cu) (hS0 : xS k = (ci + 3, N)) (hj : j < N) (hi : xIs ci j = false) (hlk : Cond.fieldLinkNest (mO i) idx (T j).1 (T j).2.1 (T j).2.2.1 host ∈ NW) (kk : xX sc i d n0 mc ms Q (pc + 3) L (vi (M k j) :: st) cu su R M) : xX sc i d n0 mc ms Q pc L (vr k :: st) cu su R M := by
  intro p l e Rm s m args below meth c D cI cZ cG sb b Z Cx hZ H locs ls hH hS hl
  have k1 : W p l e Rm s m args below meth c H locs cu su Z (F0 m (pc + 3) ls (.int (xI (M k j)) :: st.map (cv sb b))) := kk p l e Rm s m args below meth c D cI cZ cG sb b Z Cx hZ H locs ls hH hS hl
  have he := xwd_at (cI := cI) (cZ := cZ) (cG := cG) (b := b) (R := R) (M := M) hk
  rw [xce_o hS0] at he
  exact va_getN (v := .int (xI (M k j))) Cx.1.1 Cx.1.2.1 Cx.1.2.2.2.2 hC.1 Cx.1.2.2.2.1 Cx.2.1.1 hH k he hc j hj (va_Nw.use rfl (Cx.2.1.2.1 _ hlk)) (fun _ h => h) (by rw [xfs, List.getElem?_map, List.getElem?_range hj]; simp [hi]) hd k1
theorem x_getRN {C host : String} {T : u_T} {ty : Nat → FieldType} {N ci idx k : Nat} (j : Nat) {t : Nat} (hd : decode (mB i) pc = .ok (.getfield idx, 3)) (hC : cOK C T N ty) (hc : xCL[ci]? = some (C, T, N)) (hk : k < n0 + cu) (hS0 : xS k = (ci + 3, N)) (hj : j < N) (hi : xIs ci j = true) (hr : R k j = some t) (hlk : Cond.fieldLinkNest (mO i) idx (T j).1 (T j).2.1 (T j).2.2.1 host ∈ NW) (kk : xX sc i d n0 mc ms Q (pc + 3) L (vr t :: st) cu su R M) : xX sc i d n0 mc ms Q pc L (vr k :: st) cu su R M := by
  intro p l e Rm s m args below meth c D cI cZ cG sb b Z Cx hZ H locs ls hH hS hl
  have k1 : W p l e Rm s m args below meth c H locs cu su Z (F0 m (pc + 3) ls (.ref (b + t) :: st.map (cv sb b))) := kk p l e Rm s m args below meth c D cI cZ cG sb b Z Cx hZ H locs ls hH hS hl
  have he := xwd_at (cI := cI) (cZ := cZ) (cG := cG) (b := b) (R := R) (M := M) hk
  rw [xce_o hS0] at he
  exact va_getN (v := .ref (b + t)) Cx.1.1 Cx.1.2.1 Cx.1.2.2.2.2 hC.1 Cx.1.2.2.2.1 Cx.2.1.1 hH k he hc j hj (va_Nw.use rfl (Cx.2.1.2.1 _ hlk)) (fun _ h => h) (by rw [xfs, List.getElem?_map, List.getElem?_range hj]; simp [hi, hr, va_rf]) hd k1
theorem x_putIN {C host : String} {T : u_T} {ty : Nat → FieldType} {N ci idx k : Nat} (j : Nat) {z : Int} (hd : decode (mB i) pc = .ok (.putfield idx, 3)) (hC : cOK C T N ty) (hc : xCL[ci]? = some (C, T, N)) (hk : k < n0 + cu) (hS0 : xS k = (ci + 3, N)) (hj : j < N) (hi : xIs ci j = false) (hf : (T j).2.2.2 = false) (hty : ty j = .int) (hlk : Cond.fieldLinkNest (mO i) idx (T j).1 (T j).2.1 (T j).2.2.1 host ∈ NW) (kk : ∀ M1, M1 = xU M k j z → xX sc i d n0 mc ms Q (pc + 3) L st cu su R M1) : xX sc i d n0 mc ms Q pc L (vi z :: vr k :: st) cu su R M := by
  intro p l e Rm s m args below meth c D cI cZ cG sb b Z Cx hZ H locs ls hH hS hl
  have he := xwd_at (cI := cI) (cZ := cZ) (cG := cG) (b := b) (R := R) (M := M) hk
  rw [xce_o hS0] at he
  refine va_putN (v := .int (xI z)) (ty := .int) Cx.1.1 Cx.1.2.1 Cx.1.2.2.2.2 hC.1 ty hC.2.1 hC.2.2 Cx.1.2.2.2.1 Cx.2.1.1 hH xwd_D hS k he hc j hj (va_Nw.use rfl (Cx.2.1.2.1 _ hlk)) (fun _ h => h) hf ((hC.2.1 j hj).trans (congrArg some hty)) rfl rfl (by simpa [xfs] using hj) hd (fun H1 locs1 h1 _ h3 => ?_)
  refine kk _ rfl p l e Rm s m args below meth c D cI cZ cG sb b Z Cx hZ H1 locs1 ls ?_ h3 hl
  rw [xfs_setI hj hi, ← xce_o (cI := cI) (cZ := cZ) (cG := cG) hS0, xwd_set hk (fun j' hj' => xce_congr (xU_o hj') rfl)] at h1
  exact h1
theorem x_putRF {C : String} {T : u_T} {ty : Nat → FieldType} {N ci idx k : Nat} (j : Nat) {t : Nat} (hd : decode (mB i) pc = .ok (.putfield idx, 3)) (hC : cOK C T N ty) (hc : xCL[ci]? = some (C, T, N)) (hk : k < n0 + cu) (hS0 : xS k = (ci + 3, N)) (hj : j < N) (hi : xIs ci j = true) (hf : (T j).2.2.2 = true) (hin : (mY i).name = "<init>") (hdecl : (T j).1 = mO i) (hn : ∀ a : Nat, narrow (ty j) (.ref a) = .ref a) (hfi : ∀ a : Nat, fits (ty j) (.ref a) = true) (hlk : Cond.fieldLink (mO i) idx (T j).1 (T j).2.1 (T j).2.2.1 ∈ WS) (kk : xX sc i d n0 mc ms Q (pc + 3) L st cu su (xUR R k j (some t)) M) : xX sc i d n0 mc ms Q pc L (vr t :: vr k :: st) cu su R M := by
  intro p l e Rm s m args below meth c D cI cZ cG sb b Z Cx hZ H locs ls hH hS hl
  have he := xwd_at (cI := cI) (cZ := cZ) (cG := cG) (b := b) (R := R) (M := M) hk
  rw [xce_o hS0] at he
  refine va_putF (v := .ref (b + t)) (ty := ty j) Cx.1.1 Cx.1.2.1 Cx.1.2.2.2.2 hC.1 ty hC.2.1 hC.2.2 Cx.1.2.2.2.1 Cx.2.1.1 hH xwd_D hS k he hc j hj (Cx.1.2.2.2.2 _ hlk) (fun _ h => h) hf (Cx.2.2.2.2.1 hin) hdecl (hC.2.1 j hj) (hn _) (hfi _) (by simpa [xfs] using hj) hd (fun H1 locs1 h1 _ h3 => ?_)
  refine kk p l e Rm s m args below meth c D cI cZ cG sb b Z Cx hZ H1 locs1 ls ?_ h3 hl
  rw [xfs_setR hj hi, ← xce_o (cI := cI) (cZ := cZ) (cG := cG) hS0, xwd_set hk (fun j' hj' => xce_congr rfl (xUR_o hj'))] at h1
  exact h1
theorem x_iald {N k : Nat} {z : Int} (hd : decode (mB i) pc = .ok (.iaload, 1)) (hk : k < n0 + cu) (hS0 : xS k = (0, N)) (hN : N < 2147483648) (h0 : 0 ≤ z) (h1 : z < N) (kk : xX sc i d n0 mc ms Q (pc + 1) L (vi (M k z.toNat) :: st) cu su R M) : xX sc i d n0 mc ms Q pc L (vi z :: vr k :: st) cu su R M := by
  intro p l e Rm s m args below meth c D cI cZ cG sb b Z Cx hZ H locs ls hH hS hl
  have k1 : W p l e Rm s m args below meth c H locs cu su Z (F0 m (pc + 1) ls (.int (xI (M k z.toNat)) :: st.map (cv sb b))) := kk p l e Rm s m args below meth c D cI cZ cG sb b Z Cx hZ H locs ls hH hS hl
  have he := xwd_at (cI := cI) (cZ := cZ) (cG := cG) (b := b) (R := R) (M := M) hk
  rw [xce_i hS0] at he
  rw [← xI_clamp h0 (by omega)] at k1
  exact va_iald (f := fun j => xI (M k j)) Cx.1.1 Cx.1.2.1 Cx.2.1.1 hH k 0 he rfl (xI_in h0 h1 hN) hd k1
theorem x_zald {N k : Nat} {z : Int} (hd : decode (mB i) pc = .ok (.baload, 1)) (hk : k < n0 + cu) (hS0 : xS k = (1, N)) (hN : N < 2147483648) (h0 : 0 ≤ z) (h1 : z < N) (kk : xX sc i d n0 mc ms Q (pc + 1) L (vi (M k z.toNat) :: st) cu su R M) : xX sc i d n0 mc ms Q pc L (vi z :: vr k :: st) cu su R M := by
  intro p l e Rm s m args below meth c D cI cZ cG sb b Z Cx hZ H locs ls hH hS hl
  have k1 : W p l e Rm s m args below meth c H locs cu su Z (F0 m (pc + 1) ls (.int (xI (M k z.toNat)) :: st.map (cv sb b))) := kk p l e Rm s m args below meth c D cI cZ cG sb b Z Cx hZ H locs ls hH hS hl
  have he := xwd_at (cI := cI) (cZ := cZ) (cG := cG) (b := b) (R := R) (M := M) hk
  rw [xce_z hS0] at he
  rw [← xI_clamp h0 (by omega)] at k1
  exact va_zald (f := fun j => xI (M k j)) Cx.1.1 Cx.1.2.1 Cx.2.1.1 hH k 1 he rfl (xI_in h0 h1 hN) hd k1
theorem x_iast {N k : Nat} {z v : Int} (hd : decode (mB i) pc = .ok (.iastore, 1)) (hk : k < n0 + cu) (hS0 : xS k = (0, N)) (hN : N < 2147483648) (h0 : 0 ≤ z) (h1 : z < N) (kk : ∀ M1, M1 = xU M k z.toNat v → xX sc i d n0 mc ms Q (pc + 1) L st cu su R M1) : xX sc i d n0 mc ms Q pc L (vi v :: vi z :: vr k :: st) cu su R M := by
  intro p l e Rm s m args below meth c D cI cZ cG sb b Z Cx hZ H locs ls hH hS hl
  have he := xwd_at (cI := cI) (cZ := cZ) (cG := cG) (b := b) (R := R) (M := M) hk
  rw [xce_i hS0] at he
  refine va_iast (f := fun j => xI (M k j)) Cx.1.1 Cx.1.2.1 Cx.2.1.1 hH xwd_D hS k 0 he rfl (xI_in h0 h1 hN) hd (fun H1 locs1 h2 _ h3 => ?_)
  refine kk _ rfl p l e Rm s m args below meth c D cI cZ cG sb b Z Cx hZ H1 locs1 ls ?_ h3 hl
  rw [xI_clamp h0 (by omega), xU_cell, ← xce_i (cI := cI) (cZ := cZ) (cG := cG) (b := b) (R := R) (M := xU M k z.toNat v) hS0, xwd_set hk (fun j' hj' => xce_congr (xU_o hj') rfl)] at h2
  exact h2
theorem x_zast {N k : Nat} {z v : Int} (hd : decode (mB i) pc = .ok (.bastore, 1)) (hk : k < n0 + cu) (hS0 : xS k = (1, N)) (hN : N < 2147483648) (h0 : 0 ≤ z) (h1 : z < N) (hv : v = 0 ∨ v = 1) (kk : ∀ M1, M1 = xU M k z.toNat v → xX sc i d n0 mc ms Q (pc + 1) L st cu su R M1) : xX sc i d n0 mc ms Q pc L (vi v :: vi z :: vr k :: st) cu su R M := by
  intro p l e Rm s m args below meth c D cI cZ cG sb b Z Cx hZ H locs ls hH hS hl
  have he := xwd_at (cI := cI) (cZ := cZ) (cG := cG) (b := b) (R := R) (M := M) hk
  rw [xce_z hS0] at he
  have hnar : vp_nar .boolean (xI v) = xI v := by rcases hv with rfl | rfl <;> decide
  refine va_zast (f := fun j => xI (M k j)) Cx.1.1 Cx.1.2.1 Cx.2.1.1 hH xwd_D hS k 1 he rfl (xI_in h0 h1 hN) hd (fun H1 locs1 h2 _ h3 => ?_)
  refine kk _ rfl p l e Rm s m args below meth c D cI cZ cG sb b Z Cx hZ H1 locs1 ls ?_ h3 hl
  rw [hnar] at h2
  rw [xI_clamp h0 (by omega), xU_cell, ← xce_z (cI := cI) (cZ := cZ) (cG := cG) (b := b) (R := R) (M := xU M k z.toNat v) hS0, xwd_set hk (fun j' hj' => xce_congr (xU_o hj') rfl)] at h2
  exact h2
theorem x_aald {N k t : Nat} {z : Int} (hd : decode (mB i) pc = .ok (.aaload, 1)) (hk : k < n0 + cu) (hS0 : xS k = (2, N)) (hN : N < 2147483648) (h0 : 0 ≤ z) (h1 : z < N) (hr : R k z.toNat = some t) (kk : xX sc i d n0 mc ms Q (pc + 1) L (vr t :: st) cu su R M) : xX sc i d n0 mc ms Q pc L (vi z :: vr k :: st) cu su R M := by
  intro p l e Rm s m args below meth c D cI cZ cG sb b Z Cx hZ H locs ls hH hS hl
  have k1 : W p l e Rm s m args below meth c H locs cu su Z (F0 m (pc + 1) ls (.ref (b + t) :: st.map (cv sb b))) := kk p l e Rm s m args below meth c D cI cZ cG sb b Z Cx hZ H locs ls hH hS hl
  have he := hH _ _ (xwd_at (cI := cI) (cZ := cZ) (cG := cG) (b := b) (R := R) (M := M) hk)
  rw [xce_g hS0] at he
  have hlt : (xI z).toNatClampNeg < N := by rw [xI_clamp h0 (by omega)]; omega
  have hin := xI_in h0 h1 hN
  exact W.aald (v := .ref (b + t)) (ty := .array .int) Cx.1.1 Cx.1.2.1 he ((Cx.2.1.1.2 2 _ rfl).1 N (fun j => va_rf ((R k j).map (b + ·)))) rfl (fun q => by cases q) (by show ¬ (xI z < 0 ∨ (arrV _ _ _).slots.size ≤ _); rw [arrV_size]; exact hin) (by show (arrV _ _ _).slots[_]? = _; rw [arrV_read _ _ hlt, xI_clamp h0 (by omega)]; show some (va_rf ((R k z.toNat).map (b + ·))) = _; rw [hr]; rfl) rfl rfl hd k1
theorem x_alen {N k kd : Nat} (hd : decode (mB i) pc = .ok (.arraylength, 1)) (hk : k < n0 + cu) (hS0 : xS k = (kd, N)) (hkd : kd = 0 ∨ kd = 1 ∨ kd = 2) (kk : xX sc i d n0 mc ms Q (pc + 1) L (vi (N : Int) :: st) cu su R M) : xX sc i d n0 mc ms Q pc L (vr k :: st) cu su R M := by
  intro p l e Rm s m args below meth c D cI cZ cG sb b Z Cx hZ H locs ls hH hS hl
  have k1 : W p l e Rm s m args below meth c H locs cu su Z (F0 m (pc + 1) ls (.int (xI (N : Int)) :: st.map (cv sb b))) := kk p l e Rm s m args below meth c D cI cZ cG sb b Z Cx hZ H locs ls hH hS hl
  have he := xwd_at (cI := cI) (cZ := cZ) (cG := cG) (b := b) (R := R) (M := M) hk
  have hv : Int32.ofNat N = xI (N : Int) := (Int32.ofInt_eq_ofNat).symm
  rcases hkd with rfl | rfl | rfl
  · rw [xce_i hS0] at he
    exact va_alen Cx.1.1 Cx.1.2.1 Cx.2.1.1 hH k 0 he rfl hv hd k1
  · rw [xce_z hS0] at he
    exact va_alen Cx.1.1 Cx.1.2.1 Cx.2.1.1 hH k 1 he rfl hv hd k1
  · rw [xce_g hS0] at he
    exact va_alen Cx.1.1 Cx.1.2.1 Cx.2.1.1 hH k 2 he rfl hv hd k1
theorem x_sld {z : Int} {q : Nat × (Nat → Int32)} (hq : sc = some q) (hd : decode (mB i) pc = .ok (.iaload, 1)) (hN : q.1 < 2147483648) (h0 : 0 ≤ z) (h1 : z < q.1) (kk : xX sc i d n0 mc ms Q (pc + 1) L (vi (q.2 z.toNat).toInt :: st) cu su R M) : xX sc i d n0 mc ms Q pc L (vi z :: vs :: st) cu su R M := by
  intro p l e Rm s m args below meth c D cI cZ cG sb b Z Cx hZ H locs ls hH hS hl
  have k1 : W p l e Rm s m args below meth c H locs cu su Z (F0 m (pc + 1) ls (.int (xI (q.2 z.toNat).toInt) :: st.map (cv sb b))) := kk p l e Rm s m args below meth c D cI cZ cG sb b Z Cx hZ H locs ls hH hS hl
  have e : xI (q.2 z.toNat).toInt = q.2 z.toNat := Int32.ofInt_toInt _
  rw [e, ← xI_clamp h0 (by omega)] at k1
  obtain ⟨a1, a2, a3⟩ := Cx.2.2.2.2.2.2.2 q hq
  exact va_sld Cx.1.1 Cx.1.2.1 a1 a2 a3 hS (xI_in h0 h1 hN) hd k1
theorem x_slen {q : Nat × (Nat → Int32)} (hq : sc = some q) (hd : decode (mB i) pc = .ok (.arraylength, 1)) (kk : xX sc i d n0 mc ms Q (pc + 1) L (vi (q.1 : Int) :: st) cu su R M) : xX sc i d n0 mc ms Q pc L (vs :: st) cu su R M := by
  intro p l e Rm s m args below meth c D cI cZ cG sb b Z Cx hZ H locs ls hH hS hl
  have k1 : W p l e Rm s m args below meth c H locs cu su Z (F0 m (pc + 1) ls (.int (xI (q.1 : Int)) :: st.map (cv sb b))) := kk p l e Rm s m args below meth c D cI cZ cG sb b Z Cx hZ H locs ls hH hS hl
  have hv : Int32.ofNat q.1 = xI (q.1 : Int) := (Int32.ofInt_eq_ofNat).symm
  rw [← hv] at k1
  obtain ⟨a1, a2, a3⟩ := Cx.2.2.2.2.2.2.2 q hq
  exact va_slen Cx.1.1 Cx.1.2.1 a1 a2 a3 hS hd k1
theorem x_tswIn {dflt lo hi off z : Int} {offs : Array Int} {len tgt : Nat} (hd : decode (mB i) pc = .ok (.tableswitch dflt lo hi offs, len)) (hz : xin z) (h1 : ¬ z < lo) (h2 : ¬ hi < z) (ho : offs[(z - lo).toNat]? = some off) (ht : (pc : Int) + off = (tgt : Int)) (kk : xX sc i d n0 mc ms Q tgt L st cu su R M) : xX sc i d n0 mc ms Q pc L (vi z :: st) cu su R M := by
  intro p l e Rm s m args below meth c D cI cZ cG sb b Z Cx hZ H locs ls hH hS hl
  exact lv_tableIn (x := xI z) Cx.1.1 Cx.1.2.1 hd (by rw [xI_int hz]; exact h1) (by rw [xI_int hz]; exact h2) (by rw [xI_int hz]; exact ho) ht (kk p l e Rm s m args below meth c D cI cZ cG sb b Z Cx hZ H locs ls hH hS hl)
theorem x_tswOut {dflt lo hi z : Int} {offs : Array Int} {len tgt : Nat} (hd : decode (mB i) pc = .ok (.tableswitch dflt lo hi offs, len)) (hz : xin z) (h : z < lo ∨ hi < z) (ht : (pc : Int) + dflt = (tgt : Int)) (kk : xX sc i d n0 mc ms Q tgt L st cu su R M) : xX sc i d n0 mc ms Q pc L (vi z :: st) cu su R M := by
  intro p l e Rm s m args below meth c D cI cZ cG sb b Z Cx hZ H locs ls hH hS hl
  exact lv_tableOut (x := xI z) Cx.1.1 Cx.1.2.1 hd (by rw [xI_int hz]; exact h) ht (kk p l e Rm s m args below meth c D cI cZ cG sb b Z Cx hZ H locs ls hH hS hl)
end XRu
