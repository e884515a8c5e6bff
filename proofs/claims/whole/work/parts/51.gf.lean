/-! the field as a type -/
abbrev GE (p : Nat) : Type := { a : Nat // a < gq p }
def geA {p : Nat} (hp : p ∈ grims) (a b : GE p) : GE p := ⟨a.1 ^^^ b.1, (g_two hp a.2 b.2).2.2.2⟩
def geM {p : Nat} (hp : p ∈ grims) (a b : GE p) : GE p := ⟨gmul p a.1 b.1, (g_two hp a.2 b.2).1⟩
def ge0 {p : Nat} (hp : p ∈ grims) : GE p := ⟨0, by have := gq_b hp; omega⟩
def ge1 {p : Nat} (hp : p ∈ grims) : GE p := ⟨1, by have := gq_b hp; omega⟩
def geN {p : Nat} (hp : p ∈ grims) (n : Nat) : GE p := if n % 2 = 0 then ge0 hp else ge1 hp
def geZ {p : Nat} (hp : p ∈ grims) (z : Int) : GE p := if z % 2 = 0 then ge0 hp else ge1 hp
def geI {p : Nat} (hp : p ∈ grims) (a : GE p) : GE p := if h : a.1 = 0 then ge0 hp else ⟨ginv p a.1, (g_inv hp a.2 h).2.2.2.1⟩
def geW {p : Nat} (hp : p ∈ grims) (a : GE p) : Nat → GE p
  | 0 => ge1 hp
  | n + 1 => geM hp (geW hp a n) a
def geV {p : Nat} (hp : p ∈ grims) (a : GE p) : Int → GE p
  | .ofNat n => geW hp a n
  | .negSucc n => geI hp (geW hp a (n + 1))
theorem ge_ext {p : Nat} {a b : GE p} (h : a.1 = b.1) : a = b := Subtype.ext h
theorem geA_comm {p : Nat} (hp : p ∈ grims) (a b : GE p) : geA hp a b = geA hp b a := ge_ext (Nat.xor_comm _ _)
theorem geA_assoc {p : Nat} (hp : p ∈ grims) (a b c : GE p) : geA hp (geA hp a b) c = geA hp a (geA hp b c) := ge_ext (Nat.xor_assoc _ _ _)
theorem geA_0 {p : Nat} (hp : p ∈ grims) (a : GE p) : geA hp a (ge0 hp) = a := ge_ext (Nat.xor_zero _)
theorem geA_s {p : Nat} (hp : p ∈ grims) (a : GE p) : geA hp a a = ge0 hp := ge_ext (Nat.xor_self _)
theorem geM_comm {p : Nat} (hp : p ∈ grims) (a b : GE p) : geM hp a b = geM hp b a := ge_ext (g_two hp a.2 b.2).2.1
theorem geM_assoc {p : Nat} (hp : p ∈ grims) (a b c : GE p) : geM hp (geM hp a b) c = geM hp a (geM hp b c) := ge_ext (g_assoc hp a.2 b.2 c.2)
theorem geM_1 {p : Nat} (hp : p ∈ grims) (a : GE p) : geM hp a (ge1 hp) = a := ge_ext (g_1r hp a.2)
theorem geM_0 {p : Nat} (hp : p ∈ grims) (a : GE p) : geM hp a (ge0 hp) = ge0 hp := ge_ext (g_zr hp a.2)
theorem geM_d {p : Nat} (hp : p ∈ grims) (a b c : GE p) : geM hp a (geA hp b c) = geA hp (geM hp a b) (geM hp a c) := ge_ext (g_distr hp a.2 b.2 c.2)
theorem geI_r {p : Nat} (hp : p ∈ grims) {a : GE p} (h : a ≠ ge0 hp) : geM hp a (geI hp a) = ge1 hp := by
  have h0 : a.1 ≠ 0 := fun q => h (ge_ext q)
  unfold geI
  rw [dif_neg h0]
  exact ge_ext (g_inv hp a.2 h0).2.2.1
theorem ge01 {p : Nat} (hp : p ∈ grims) : ge0 hp ≠ ge1 hp := fun q => by
  have h : (0 : Nat) = 1 := congrArg Subtype.val q
  exact absurd h (by decide)
theorem geI_0 {p : Nat} (hp : p ∈ grims) : geI hp (ge0 hp) = ge0 hp := dif_pos rfl
theorem geI_n {p : Nat} (hp : p ∈ grims) {a : GE p} (h : a ≠ ge0 hp) : geI hp a ≠ ge0 hp := fun q => by
  have := geI_r hp h
  rw [q, geM_0] at this
  exact ge01 hp this
theorem geI_I {p : Nat} (hp : p ∈ grims) (a : GE p) : geI hp (geI hp a) = a := by
  by_cases h : a = ge0 hp
  · rw [h, geI_0, geI_0]
  · have h1 := geI_r hp h
    have h2 := geI_r hp (geI_n hp h)
    have h3 : geM hp a (geM hp (geI hp a) (geI hp (geI hp a))) = a := by rw [h2, geM_1]
    rw [← geM_assoc, h1, geM_comm, geM_1] at h3
    exact h3
theorem geN_s {p : Nat} (hp : p ∈ grims) (n : Nat) : geN hp (n + 1) = geA hp (geN hp n) (ge1 hp) := by
  unfold geN
  by_cases h : n % 2 = 0
  · rw [if_pos h, if_neg (by omega)]
    exact ge_ext (Nat.zero_xor _).symm
  · rw [if_neg h, if_pos (by omega), geA_s]
def gfield (p : Nat) (hp : p ∈ grims) : Lean.Grind.Field (GE p) where
  add := geA hp
  mul := geM hp
  natCast := ⟨geN hp⟩
  ofNat := fun n => ⟨geN hp n⟩
  nsmul := ⟨fun n a => geM hp (geN hp n) a⟩
  npow := ⟨fun a n => geW hp a n⟩
  add_zero := geA_0 hp
  add_comm := geA_comm hp
  add_assoc := geA_assoc hp
  mul_assoc := geM_assoc hp
  mul_one := geM_1 hp
  one_mul := fun a => by
    show geM hp (ge1 hp) a = a
    rw [geM_comm, geM_1]
  left_distrib := geM_d hp
  right_distrib := fun a b c => by
    show geM hp (geA hp a b) c = geA hp (geM hp a c) (geM hp b c)
    rw [geM_comm, geM_d, geM_comm hp c a, geM_comm hp c b]
  zero_mul := fun a => by
    show geM hp (ge0 hp) a = ge0 hp
    rw [geM_comm, geM_0]
  mul_zero := geM_0 hp
  pow_zero := fun _ => rfl
  pow_succ := fun _ _ => rfl
  ofNat_succ := geN_s hp
  ofNat_eq_natCast := fun _ => rfl
  nsmul_eq_natCast_mul := fun _ _ => rfl
  neg := id
  sub := geA hp
  intCast := ⟨geZ hp⟩
  zsmul := ⟨fun z a => geM hp (geZ hp z) a⟩
  neg_add_cancel := geA_s hp
  sub_eq_add_neg := fun _ _ => rfl
  neg_zsmul := fun i a => by
    show geM hp (geZ hp (-i)) a = geM hp (geZ hp i) a
    have e : geZ hp (-i) = geZ hp i := by
      unfold geZ
      by_cases h : i % 2 = 0
      · rw [if_pos h, if_pos (by omega)]
      · rw [if_neg h, if_neg (by omega)]
    rw [e]
  zsmul_natCast_eq_nsmul := fun n a => by
    show geM hp (geZ hp (n : Int)) a = geM hp (geN hp n) a
    have e : geZ hp (n : Int) = geN hp n := by
      unfold geZ geN
      by_cases h : n % 2 = 0
      · rw [if_pos h, if_pos (by omega)]
      · rw [if_neg h, if_neg (by omega)]
    rw [e]
  intCast_ofNat := fun n => by
    show geZ hp (n : Int) = geN hp n
    unfold geZ geN
    by_cases h : n % 2 = 0
    · rw [if_pos h, if_pos (by omega)]
    · rw [if_neg h, if_neg (by omega)]
  intCast_neg := fun i => by
    show geZ hp (-i) = geZ hp i
    unfold geZ
    by_cases h : i % 2 = 0
    · rw [if_pos h, if_pos (by omega)]
    · rw [if_neg h, if_neg (by omega)]
  mul_comm := geM_comm hp
  inv := geI hp
  div := fun a b => geM hp a (geI hp b)
  zpow := ⟨fun a z => geV hp a z⟩
  div_eq_mul_inv := fun _ _ => rfl
  zero_ne_one := ge01 hp
  inv_zero := geI_0 hp
  mul_inv_cancel := geI_r hp
  zpow_zero := fun _ => rfl
  zpow_succ := fun _ _ => rfl
  zpow_neg := fun a n => by
    show geV hp a (-n) = geI hp (geV hp a n)
    match n with
    | .ofNat 0 =>
      show ge1 hp = geI hp (ge1 hp)
      have h := geI_r hp (ge01 hp).symm
      rw [geM_comm, geM_1] at h
      exact h.symm
    | .ofNat (m + 1) => rfl
    | .negSucc m => exact (geI_I hp _).symm
