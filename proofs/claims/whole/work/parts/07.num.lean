/-! ===== THE ABSTRACT MACHINE: the cells are fixed, numbered from 0 on; what they hold are whole numbers ===== -/
abbrev HP : Type := Nat → Nat → Int
abbrev AV : Type := Int ⊕ Int ⊕ Nat
abbrev vI (x : Int) : AV := Sum.inl x
abbrev vL (x : Int) : AV := Sum.inr (Sum.inl x)
abbrev vR (k : Nat) : AV := Sum.inr (Sum.inr k)
def cv (ad : Nat → Nat) (v : AV) : Value := match v with
  | .inl x => .int (Int32.ofInt x)
  | .inr (.inl x) => .long (Int64.ofInt x)
  | .inr (.inr k) => .ref (ad k)
def w32 (x : Int) : Int := (x + 2147483648) % 4294967296 - 2147483648
def w64 (x : Int) : Int := (x + 9223372036854775808) % 18446744073709551616 - 9223372036854775808
def ix (x : Int) : Nat := (w32 x).toNat
def inb (x : Int) (n : Nat) : Prop := 0 ≤ w32 x ∧ w32 x < n
def hset (h : HP) (c j : Nat) (v : Int) : HP := fun c' j' => if c' = c ∧ j' = j then v else h c' j'
def hcpy (h : HP) (c1 p1 c2 p2 n : Nat) : HP := fun c' j' => if c' = c2 ∧ p2 ≤ j' ∧ j' < p2 + n then h c1 (p1 + (j' - p2)) else h c' j'
theorem bmod32 (x : Int) : x.bmod (2 ^ 32) = w32 x := by
  unfold w32 Int.bmod
  simp only [Nat.reducePow]
  omega
theorem bmod64 (x : Int) : x.bmod (2 ^ 64) = w64 x := by
  unfold w64 Int.bmod
  simp only [Nat.reducePow]
  omega
theorem i32T (x : Int) : (Int32.ofInt x).toInt = w32 x := by
  rw [Int32.toInt_ofInt, show Int32.size = 2 ^ 32 from rfl, bmod32]
theorem i64T (x : Int) : (Int64.ofInt x).toInt = w64 x := by
  rw [Int64.toInt_ofInt, show Int64.size = 2 ^ 64 from rfl, bmod64]
theorem i32eq (x y : Int) : (Int32.ofInt x = Int32.ofInt y) ↔ w32 x = w32 y := by
  rw [← Int32.toInt_inj, i32T, i32T]
theorem i32lt (x y : Int) : (Int32.ofInt x < Int32.ofInt y) ↔ w32 x < w32 y := by
  rw [Int32.lt_iff_toInt_lt, i32T, i32T]
theorem i32le (x y : Int) : (Int32.ofInt x ≤ Int32.ofInt y) ↔ w32 x ≤ w32 y := by
  rw [Int32.le_iff_toInt_le, i32T, i32T]
theorem w32_0 : w32 0 = 0 := by decide
theorem i32z : (0 : Int32) = Int32.ofInt 0 := by decide
theorem i32w (x : Int) : Int32.ofInt (w32 x) = Int32.ofInt x := by rw [← i32T, Int32.ofInt_toInt]
theorem i64w (x : Int) : Int64.ofInt (w64 x) = Int64.ofInt x := by rw [← i64T, Int64.ofInt_toInt]
theorem inb_in {x : Int} {n : Nat} (h : inb x n) : vp_in (Int32.ofInt x) n := by
  rw [vp_in_iff, i32T]; exact h
theorem ix_cl {x : Int} {n : Nat} (h : inb x n) : (Int32.ofInt x).toNatClampNeg = ix x := by
  unfold ix
  rw [← i32T]
  rfl
def ia (x y : Int) : Int := (Int32.ofInt x &&& Int32.ofInt y).toInt
def io (x y : Int) : Int := (Int32.ofInt x ||| Int32.ofInt y).toInt
def sl (x y : Int) : Int := (Int32.ofInt x <<< (Int32.ofInt y &&& 31)).toInt
def sr (x y : Int) : Int := (Int32.ofInt x >>> (Int32.ofInt y &&& 31)).toInt
def la (x y : Int) : Int := (Int64.ofInt x &&& Int64.ofInt y).toInt
def lo (x y : Int) : Int := (Int64.ofInt x ||| Int64.ofInt y).toInt
def ll (x y : Int) : Int := (Int64.ofInt x <<< ((Int32.ofInt y).toInt64 &&& 63)).toInt
def lr (x y : Int) : Int := (Int64.ofInt x >>> ((Int32.ofInt y).toInt64 &&& 63)).toInt
def qd (x y : Int) : Int := (w32 x).tdiv (w32 y)
def qm (x y : Int) : Int := (w32 x).tmod (w32 y)
def ld (x y : Int) : Int := (w64 x).tdiv (w64 y)
def lm (x y : Int) : Int := (w64 x).tmod (w64 y)
def ch (x : Int) : Int := (w32 x) % 65536
def bb (x : Int) : Int := (w32 x) % 2
def lc (x y : Int) : Int := if w64 y < w64 x then 1 else if w64 x = w64 y then 0 else -1
theorem qd_ok (x y : Int) : Int32.ofInt x / Int32.ofInt y = Int32.ofInt (qd x y) := by
  rw [← Int32.toInt_inj, Int32.toInt_div, i32T, i32T, i32T, bmod32]; rfl
theorem qm_ok (x y : Int) : Int32.ofInt x - Int32.ofInt x / Int32.ofInt y * Int32.ofInt y = Int32.ofInt (qm x y) := by
  rw [qd_ok, ← i32w x, ← i32w y, ← Int32.ofInt_mul, ← Int32.ofInt_sub]
  congr 1
  unfold qm qd
  rw [Int.tmod_def, Int.mul_comm]
theorem ld_ok (x y : Int) : Int64.ofInt x / Int64.ofInt y = Int64.ofInt (ld x y) := by
  rw [← Int64.toInt_inj, Int64.toInt_div, i64T, i64T, i64T, bmod64]; rfl
theorem lm_ok (x y : Int) : Int64.ofInt x - Int64.ofInt x / Int64.ofInt y * Int64.ofInt y = Int64.ofInt (lm x y) := by
  rw [ld_ok, ← i64w x, ← i64w y, ← Int64.ofInt_mul, ← Int64.ofInt_sub]
  congr 1
  unfold lm ld
  rw [Int.tmod_def, Int.mul_comm]
theorem i2l_ok (x : Int) : (Int32.ofInt x).toInt64 = Int64.ofInt (w32 x) := by
  rw [← Int64.toInt_inj, Int32.toInt_toInt64, i32T, i64T]
  unfold w32 w64
  omega
theorem l2i_ok (x : Int) : (Int64.ofInt x).toInt32 = Int32.ofInt x := by
  rw [← Int32.toInt_inj, Int64.toInt_toInt32, i32T, i64T, bmod32]
  unfold w32 w64
  omega
theorem ofI_nat (x : Int) : (Int32.ofInt x).toBitVec.toNat = (x % 4294967296).toNat := by
  rw [Int32.toBitVec_ofInt, BitVec.toNat_ofInt]
  rfl
theorem ch_ok (x : Int) : ((Int32.ofInt x).toUInt32 % 65536).toInt32 = Int32.ofInt (ch x) := by
  rw [pk_char, ofI_nat]
  show Int32.ofNat _ = _
  rw [← Int32.ofInt_eq_ofNat]
  congr 1
  unfold ch w32
  omega
theorem nar_char (x : Int) : vp_nar .char (Int32.ofInt x) = Int32.ofInt (ch x) := by
  rw [vp_nar_char, ← ch_ok]
  congr 1
theorem nar_bool (x : Int) : vp_nar .boolean (Int32.ofInt x) = Int32.ofInt (bb x) := by
  show Int32.ofInt x &&& 1 = _
  rw [pk_and (Int32.ofInt x) (m := 1) 1 (by decide), ofI_nat]
  show Int32.ofNat _ = _
  rw [← Int32.ofInt_eq_ofNat]
  congr 1
  unfold bb w32
  omega
theorem nar_bool1 {x : Int} (h : x = 0 ∨ x = 1) : narrow .boolean (.int (Int32.ofInt x)) = .int (Int32.ofInt x) := by
  rcases h with rfl | rfl <;> decide
theorem lc_ok (x y : Int) : lg_cmp (Int64.ofInt x) (Int64.ofInt y) = Int32.ofInt (lc x y) := by
  unfold lg_cmp lc
  simp only [gt_iff_lt, Int64.lt_iff_toInt_lt, ← Int64.toInt_inj, i64T]
  by_cases h1 : w64 y < w64 x
  · rw [if_pos h1, if_pos h1]; decide
  · rw [if_neg h1, if_neg h1]
    by_cases h2 : w64 x = w64 y
    · rw [if_pos h2, if_pos h2]; decide
    · rw [if_neg h2, if_neg h2]; decide
theorem i64ne (y : Int) (h : w64 y ≠ 0) : ¬ Int64.ofInt y = 0 := by
  intro e
  rw [← Int64.toInt_inj, i64T] at e
  exact h e
theorem i32ne (y : Int) (h : w32 y ≠ 0) : ¬ Int32.ofInt y = 0 := by
  intro e
  rw [← Int32.toInt_inj, i32T] at e
  exact h e
