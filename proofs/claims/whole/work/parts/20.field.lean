/-! the ten fields, on numbers -/
def gdeg (p : Nat) : Nat := if p < 16 then 3 else if p < 32 then 4 else 5
def gq (p : Nat) : Nat := 2 ^ gdeg p
def gtx (p a : Nat) : Nat := if 2 * a < gq p then 2 * a else (2 * a) ^^^ p
def gpw (p : Nat) : Nat → Nat
  | 0 => 1
  | e + 1 => gtx p (gpw p e)
def grims : List Nat := [11, 13, 19, 25, 37, 41, 47, 55, 59, 61]
/-- the product without carry, by the first i bits of b -/
def gcl (a b : Nat) : Nat → Nat
  | 0 => 0
  | i + 1 => if (b >>> i) % 2 = 1 then gcl a b i ^^^ (a <<< i) else gcl a b i
/-- the bits bits + t - 1, .., bits taken away by p -/
def gred (p bits : Nat) : Nat → Nat → Nat
  | 0, r => r
  | t + 1, r => gred p bits t (if (r >>> (bits + t)) % 2 = 1 then r ^^^ (p <<< t) else r)
def gmul (p a b : Nat) : Nat := gred p (gdeg p) (gdeg p - 1) (gcl a b (gdeg p))
def glogF (p a : Nat) : Nat → Nat → Nat
  | 0, e => e
  | n + 1, e => if gpw p e = a then e else glogF p a n (e + 1)
def glog (p a : Nat) : Nat := glogF p a (gq p - 1) 0
def ginv (p b : Nat) : Nat := gpw p ((gq p - 1 - glog p b) % (gq p - 1))
def gdiv (p a b : Nat) : Nat := gmul p a (ginv p b)
def gtxs (p : Nat) : Nat → Nat → Nat
  | 0, b => b
  | e + 1, b => gtx p (gtxs p e b)
/-- what a program decides of each field -/
def gck (p : Nat) : Bool :=
  (List.range (gq p)).all (fun a => gtx p a < gq p && gmul p 0 a == 0 && gmul p 1 a == a && gmul p a 2 == gtx p a && (a == 0 || (gpw p (glog p a) == a && glog p a < gq p - 1 && gmul p a (ginv p a) == 1 && ginv p a < gq p && 0 < ginv p a)) &&
    (List.range (gq p)).all (fun b => gmul p a b < gq p && gmul p a b == gmul p b a && gtx p (a ^^^ b) == gtx p a ^^^ gtx p b && a ^^^ b < gq p && (a == 0 || b == 0 || (gmul p a b == gpw p ((glog p a + glog p b) % (gq p - 1)) && 0 < gmul p a b)) && (a == 0 || gmul p a b == gtxs p (glog p a) b))) &&
  (List.range (gq p - 1)).all (fun e => 0 < gpw p e && gpw p e < gq p && glog p (gpw p e) == e) && gpw p (gq p - 1) == 1
set_option maxRecDepth 100000 in
theorem gck_all : grims.all gck = true := by decide +kernel
/-- which numbers are primitive: as the two programs look for it -/
def gprimF (p : Nat) : Nat → Nat → Bool
  | 0, x => gtx p x == 1
  | n + 1, x => if gtx p x = 1 then false else gprimF p n (gtx p x)
def gprim (p : Nat) : Bool := gprimF p (gq p - 2) 1
set_option maxRecDepth 100000 in
theorem gprim_all : (List.range 64).all (fun p => p < 8 || (gprim p == decide (p ∈ grims))) = true := by decide +kernel
