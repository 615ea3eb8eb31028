/-! whole numbers for the machine's ints and longs -/
def w32 (z : Int) : Int := (z + 2147483648) % 4294967296 - 2147483648
def w64 (z : Int) : Int := (z + 9223372036854775808) % 18446744073709551616 - 9223372036854775808
def in32 (z : Int) : Prop := -2147483648 ≤ z ∧ z < 2147483648
def in64 (z : Int) : Prop := -9223372036854775808 ≤ z ∧ z < 9223372036854775808
theorem w32_in (z : Int) : in32 (w32 z) := by unfold in32 w32; omega
theorem w64_in (z : Int) : in64 (w64 z) := by unfold in64 w64; omega
theorem w32_id {z : Int} (h1 : -2147483648 ≤ z) (h2 : z < 2147483648) : w32 z = z := by unfold w32; omega
theorem w64_id {z : Int} (h1 : -9223372036854775808 ≤ z) (h2 : z < 9223372036854775808) : w64 z = z := by unfold w64; omega
theorem w32_of {z : Int} (h : in32 z) : w32 z = z := w32_id h.1 h.2
theorem w64_of {z : Int} (h : in64 z) : w64 z = z := w64_id h.1 h.2
theorem toI_of (z : Int) : (Int32.ofInt z).toInt = w32 z := by
  rw [Int32.toInt_ofInt]; unfold w32; simp only [Int.bmod, Int32.size]; omega
theorem toL_of (z : Int) : (Int64.ofInt z).toInt = w64 z := by
  rw [Int64.toInt_ofInt]; unfold w64; simp only [Int.bmod, Int64.size]; omega
theorem I_inj {x y : Int32} (h : x.toInt = y.toInt) : x = y := Int32.toInt_inj.mp h
theorem L_inj {x y : Int64} (h : x.toInt = y.toInt) : x = y := Int64.toInt_inj.mp h
theorem ofI_w (z : Int) : Int32.ofInt (w32 z) = Int32.ofInt z := I_inj (by rw [toI_of, toI_of, w32_of (w32_in z)])
theorem ofL_w (z : Int) : Int64.ofInt (w64 z) = Int64.ofInt z := L_inj (by rw [toL_of, toL_of, w64_of (w64_in z)])
theorem ofI_to (x : Int32) : Int32.ofInt x.toInt = x := Int32.ofInt_toInt x
theorem ofL_to (x : Int64) : Int64.ofInt x.toInt = x := Int64.ofInt_toInt x
theorem toI_in (x : Int32) : in32 x.toInt := by rw [← ofI_to x, toI_of]; exact w32_in _
theorem toL_in (x : Int64) : in64 x.toInt := by rw [← ofL_to x, toL_of]; exact w64_in _
theorem ofI_lt {x y : Int} (hx : in32 x) (hy : in32 y) : Int32.ofInt x < Int32.ofInt y ↔ x < y := by
  rw [Int32.lt_iff_toInt_lt, toI_of, toI_of, w32_of hx, w32_of hy]
theorem ofI_le {x y : Int} (hx : in32 x) (hy : in32 y) : Int32.ofInt x ≤ Int32.ofInt y ↔ x ≤ y := by
  rw [Int32.le_iff_toInt_le, toI_of, toI_of, w32_of hx, w32_of hy]
theorem ofI_eq {x y : Int} (hx : in32 x) (hy : in32 y) : Int32.ofInt x = Int32.ofInt y ↔ x = y := by
  constructor
  · intro h
    have := congrArg Int32.toInt h
    rwa [toI_of, toI_of, w32_of hx, w32_of hy] at this
  · rintro rfl; rfl
theorem ofL_lt {x y : Int} (hx : in64 x) (hy : in64 y) : Int64.ofInt x < Int64.ofInt y ↔ x < y := by
  rw [Int64.lt_iff_toInt_lt, toL_of, toL_of, w64_of hx, w64_of hy]
theorem ofL_eq {x y : Int} (hx : in64 x) (hy : in64 y) : Int64.ofInt x = Int64.ofInt y ↔ x = y := by
  constructor
  · intro h
    have := congrArg Int64.toInt h
    rwa [toL_of, toL_of, w64_of hx, w64_of hy] at this
  · rintro rfl; rfl
theorem ofI_0 : Int32.ofInt 0 = 0 := rfl
theorem ofL_0 : Int64.ofInt 0 = 0 := rfl
def iand (x y : Int) : Int := (Int32.ofInt x &&& Int32.ofInt y).toInt
def ior (x y : Int) : Int := (Int32.ofInt x ||| Int32.ofInt y).toInt
def ixor (x y : Int) : Int := (Int32.ofInt x ^^^ Int32.ofInt y).toInt
def ishl (x y : Int) : Int := (Int32.ofInt x <<< (Int32.ofInt y &&& 31)).toInt
def ishr (x y : Int) : Int := (Int32.ofInt x >>> (Int32.ofInt y &&& 31)).toInt
def iushr (x y : Int) : Int := ((Int32.ofInt x).toUInt32 >>> ((Int32.ofInt y).toUInt32 &&& Int32.toUInt32 31)).toInt32.toInt
def lcmp (x y : Int) : Int := if x < y then -1 else if x = y then 0 else 1
theorem ofI_add (x y : Int) : Int32.ofInt x + Int32.ofInt y = Int32.ofInt (w32 (x + y)) := by rw [ofI_w, Int32.ofInt_add]
theorem ofI_sub (x y : Int) : Int32.ofInt x - Int32.ofInt y = Int32.ofInt (w32 (x - y)) := by rw [ofI_w, Int32.ofInt_sub]
theorem ofI_mul (x y : Int) : Int32.ofInt x * Int32.ofInt y = Int32.ofInt (w32 (x * y)) := by rw [ofI_w, Int32.ofInt_mul]
theorem ofI_neg (x : Int) : -Int32.ofInt x = Int32.ofInt (w32 (-x)) := by rw [ofI_w, Int32.ofInt_neg]
theorem ofL_add (x y : Int) : Int64.ofInt x + Int64.ofInt y = Int64.ofInt (w64 (x + y)) := by rw [ofL_w, Int64.ofInt_add]
theorem ofL_sub (x y : Int) : Int64.ofInt x - Int64.ofInt y = Int64.ofInt (w64 (x - y)) := by rw [ofL_w, Int64.ofInt_sub]
theorem ofL_mul (x y : Int) : Int64.ofInt x * Int64.ofInt y = Int64.ofInt (w64 (x * y)) := by rw [ofL_w, Int64.ofInt_mul]
theorem ofL_neg (x : Int) : -Int64.ofInt x = Int64.ofInt (w64 (-x)) := by rw [ofL_w, Int64.ofInt_neg]
theorem ofI_div {x y : Int} (hx : in32 x) (hy : in32 y) : Int32.ofInt x / Int32.ofInt y = Int32.ofInt (w32 (x.tdiv y)) := by
  apply I_inj
  rw [Int32.toInt_div, toI_of, toI_of, toI_of, w32_of hx, w32_of hy, w32_of (w32_in _)]
  unfold w32; simp only [Int.bmod]; omega
theorem ofL_div {x y : Int} (hx : in64 x) (hy : in64 y) : Int64.ofInt x / Int64.ofInt y = Int64.ofInt (w64 (x.tdiv y)) := by
  apply L_inj
  rw [Int64.toInt_div, toL_of, toL_of, toL_of, w64_of hx, w64_of hy, w64_of (w64_in _)]
  unfold w64; simp only [Int.bmod]; omega
theorem ofI_rem {x y : Int} (hx : in32 x) (hy : in32 y) : Int32.ofInt x - Int32.ofInt x / Int32.ofInt y * Int32.ofInt y = Int32.ofInt (w32 (x.tmod y)) := by
  rw [ofI_div hx hy, ofI_w, ← Int32.ofInt_mul, ← Int32.ofInt_sub, ofI_w]
  congr 1
  have := Int.mul_tdiv_add_tmod x y
  rw [Int.mul_comm] at this
  omega
theorem ofI_long {x : Int} (hx : in32 x) : (Int32.ofInt x).toInt64 = Int64.ofInt x := by
  apply L_inj
  rw [Int32.toInt_toInt64, toI_of, toL_of, w32_of hx, w64_of]
  unfold in32 at hx; unfold in64; omega
theorem ofI_and (x y : Int) : Int32.ofInt x &&& Int32.ofInt y = Int32.ofInt (iand x y) := (ofI_to _).symm
theorem ofI_or (x y : Int) : Int32.ofInt x ||| Int32.ofInt y = Int32.ofInt (ior x y) := (ofI_to _).symm
theorem ofI_xor (x y : Int) : Int32.ofInt x ^^^ Int32.ofInt y = Int32.ofInt (ixor x y) := (ofI_to _).symm
theorem ofI_shl (x y : Int) : Int32.ofInt x <<< (Int32.ofInt y &&& 31) = Int32.ofInt (ishl x y) := (ofI_to _).symm
theorem ofI_shr (x y : Int) : Int32.ofInt x >>> (Int32.ofInt y &&& 31) = Int32.ofInt (ishr x y) := (ofI_to _).symm
theorem ofI_ushr (x y : Int) : ((Int32.ofInt x).toUInt32 >>> ((Int32.ofInt y).toUInt32 &&& Int32.toUInt32 31)).toInt32 = Int32.ofInt (iushr x y) := (ofI_to _).symm
theorem nm_clamp {x : Int} (h0 : 0 ≤ x) (h : in32 x) : (Int32.ofInt x).toNatClampNeg = x.toNat := by
  show (Int32.ofInt x).toInt.toNat = x.toNat
  rw [toI_of, w32_of h]
