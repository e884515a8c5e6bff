/-! the machine's bits on small numbers -/
theorem xb_s : ∀ n, n < 32 → ((nI n &&& 31).toBitVec.smod 32).toNat = n := by decide
theorem xI_nI (a : Nat) : xI (a : Int) = nI a := Int32.ofInt_eq_ofNat
theorem xShl_n {a s : Nat} (hs : s < 32) (h : a * 2 ^ s < 2147483648) : xShl a s = ((a * 2 ^ s : Nat) : Int) := by
  unfold xShl
  rw [xI_nI, xI_nI, pk_shlN _ s (xb_s s hs) (by omega), nI_toInt (by omega)]
theorem xShr_n {a s : Nat} (hs : s < 32) (h : a < 2147483648) : xShr a s = ((a / 2 ^ s : Nat) : Int) := by
  unfold xShr
  rw [xI_nI, xI_nI, pk_shrN (by omega) _ s (xb_s s hs), nI_toInt (by have := Nat.div_le_self a (2 ^ s); omega)]
theorem nI_xor (a b : Nat) : nI a ^^^ nI b = nI (a ^^^ b) := Int32.toBitVec_inj.1 (by
  show BitVec.ofNat 32 a ^^^ BitVec.ofNat 32 b = BitVec.ofNat 32 (a ^^^ b)
  exact BitVec.ofNat_xor.symm)
theorem nI_and (a b : Nat) : nI a &&& nI b = nI (a &&& b) := Int32.toBitVec_inj.1 (by
  show BitVec.ofNat 32 a &&& BitVec.ofNat 32 b = BitVec.ofNat 32 (a &&& b)
  exact BitVec.ofNat_and.symm)
theorem nI_or (a b : Nat) : nI a ||| nI b = nI (a ||| b) := Int32.toBitVec_inj.1 (by
  show BitVec.ofNat 32 a ||| BitVec.ofNat 32 b = BitVec.ofNat 32 (a ||| b)
  exact BitVec.ofNat_or.symm)
theorem xXor_n {a b : Nat} (ha : a < 2147483648) (hb : b < 2147483648) : xXor a b = ((a ^^^ b : Nat) : Int) := by
  have h : a ^^^ b < 2 ^ 31 := Nat.xor_lt_two_pow (by omega) (by omega)
  unfold xXor
  rw [xI_nI, xI_nI, nI_xor, nI_toInt (by omega)]
theorem xAnd_n {a b : Nat} (ha : a < 2147483648) (hb : b < 2147483648) : xAnd a b = ((a &&& b : Nat) : Int) := by
  have h : a &&& b < 2 ^ 31 := Nat.and_lt_two_pow a (by omega)
  unfold xAnd
  rw [xI_nI, xI_nI, nI_and, nI_toInt (by omega)]
theorem xOr_n {a b : Nat} (ha : a < 2147483648) (hb : b < 2147483648) : xOr a b = ((a ||| b : Nat) : Int) := by
  have h : a ||| b < 2 ^ 31 := Nat.or_lt_two_pow (by omega) (by omega)
  unfold xOr
  rw [xI_nI, xI_nI, nI_or, nI_toInt (by omega)]
/-- a << 5 | b -/
theorem xPair {a b : Nat} (ha : a < 32) (hb : b < 32) : xOr (xShl a 5) b = ((32 * a + b : Nat) : Int) := by
  have e : xShl (a : Int) 5 = ((a * 32 : Nat) : Int) := xShl_n (a := a) (s := 5) (by decide) (by omega)
  rw [e, xOr_n (by omega) (by omega)]
  have h := Nat.two_pow_add_eq_or_of_lt (i := 5) (b := b) (by omega) a
  have h2 : a * 32 ||| b = 2 ^ 5 * a + b := by rw [h]; congr 1; omega
  rw [h2]
theorem xAnd31 (x : Int) : 0 ≤ xAnd x 31 ∧ xAnd x 31 < 32 := by
  unfold xAnd
  obtain ⟨j, hj, e⟩ := pk_andE (xI x) (m := xI 31) 5 (by decide)
  rw [e, nI_toInt (by omega)]
  omega
