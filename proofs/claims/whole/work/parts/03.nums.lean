/-! ===== numbers: what the machine's ints and longs hold, as whole numbers ===== -/
def w8 (z : Int) : Int := (Int8.ofInt z).toInt
def w16 (z : Int) : Int := (Int16.ofInt z).toInt
def w32 (z : Int) : Int := (Int32.ofInt z).toInt
def w64 (z : Int) : Int := (Int64.ofInt z).toInt
def R32 (z : Int) : Prop := -2147483648 ≤ z ∧ z ≤ 2147483647
def R64 (z : Int) : Prop := -9223372036854775808 ≤ z ∧ z ≤ 9223372036854775807
theorem w32_of (z : Int) : Int32.ofInt (w32 z) = Int32.ofInt z := Int32.ofInt_toInt _
theorem w64_of (z : Int) : Int64.ofInt (w64 z) = Int64.ofInt z := Int64.ofInt_toInt _
theorem i32_R (x : Int32) : R32 x.toInt := by
  have h1 := x.toInt_lt
  have h2 := x.le_toInt
  exact ⟨by omega, by omega⟩
theorem i64_R (x : Int64) : R64 x.toInt := by
  have h1 := x.toInt_lt
  have h2 := x.le_toInt
  exact ⟨by omega, by omega⟩
theorem w32_R (z : Int) : R32 (w32 z) := i32_R _
theorem w64_R (z : Int) : R64 (w64 z) := i64_R _
theorem w8_R (z : Int) : R32 (w8 z) := by
  have h1 := (Int8.ofInt z).toInt_lt
  have h2 := (Int8.ofInt z).le_toInt
  exact ⟨by unfold w8; omega, by unfold w8; omega⟩
theorem w16_R (z : Int) : R32 (w16 z) := by
  have h1 := (Int16.ofInt z).toInt_lt
  have h2 := (Int16.ofInt z).le_toInt
  exact ⟨by unfold w16; omega, by unfold w16; omega⟩
theorem R32_to {z : Int} (h : R32 z) : (Int32.ofInt z).toInt = z := by
  obtain ⟨h1, h2⟩ := h
  exact Int32.toInt_ofInt_of_le (by omega) (by omega)
theorem R64_to {z : Int} (h : R64 z) : (Int64.ofInt z).toInt = z := by
  obtain ⟨h1, h2⟩ := h
  exact Int64.toInt_ofInt_of_le (by omega) (by omega)
theorem w32_id {z : Int} (h : R32 z) : w32 z = z := R32_to h
theorem w64_id {z : Int} (h : R64 z) : w64 z = z := R64_to h
theorem w32_in {z : Int} (h1 : -2147483648 ≤ z) (h2 : z ≤ 2147483647) : w32 z = z := R32_to ⟨h1, h2⟩
theorem w64_in {z : Int} (h1 : -9223372036854775808 ≤ z) (h2 : z ≤ 9223372036854775807) : w64 z = z := R64_to ⟨h1, h2⟩
theorem R32_64 {z : Int} (h : R32 z) : R64 z := by
  obtain ⟨h1, h2⟩ := h
  exact ⟨by omega, by omega⟩
theorem w32_mod (z : Int) : w32 z = (z + 2147483648) % 4294967296 - 2147483648 := by
  unfold w32
  rw [Int32.toInt_ofInt]
  simp only [Int.bmod, Int32.size]
  omega
theorem w64_mod (z : Int) : w64 z = (z + 9223372036854775808) % 18446744073709551616 - 9223372036854775808 := by
  unfold w64
  rw [Int64.toInt_ofInt]
  simp only [Int.bmod, Int64.size]
  omega
theorem w8_mod (z : Int) : w8 z = (z + 128) % 256 - 128 := by
  unfold w8
  rw [Int8.toInt_ofInt]
  simp only [Int.bmod, Int8.size]
  omega
theorem w16_mod (z : Int) : w16 z = (z + 32768) % 65536 - 32768 := by
  unfold w16
  rw [Int16.toInt_ofInt]
  simp only [Int.bmod, Int16.size]
  omega
theorem i32_lt {x y : Int} (hx : R32 x) (hy : R32 y) : Int32.ofInt x < Int32.ofInt y ↔ x < y := by
  rw [Int32.lt_iff_toInt_lt, R32_to hx, R32_to hy]
theorem i32_le {x y : Int} (hx : R32 x) (hy : R32 y) : Int32.ofInt x ≤ Int32.ofInt y ↔ x ≤ y := by
  rw [Int32.le_iff_toInt_le, R32_to hx, R32_to hy]
theorem i32_eq {x y : Int} (hx : R32 x) (hy : R32 y) : Int32.ofInt x = Int32.ofInt y ↔ x = y := by
  rw [← Int32.toInt_inj, R32_to hx, R32_to hy]
theorem i64_lt {x y : Int} (hx : R64 x) (hy : R64 y) : Int64.ofInt x < Int64.ofInt y ↔ x < y := by
  rw [Int64.lt_iff_toInt_lt, R64_to hx, R64_to hy]
theorem i64_eq {x y : Int} (hx : R64 x) (hy : R64 y) : Int64.ofInt x = Int64.ofInt y ↔ x = y := by
  rw [← Int64.toInt_inj, R64_to hx, R64_to hy]
theorem R32_0 : R32 0 := ⟨by omega, by omega⟩
theorem i32_zero : Int32.ofInt 0 = 0 := by decide +kernel
theorem i32_lt0 {x : Int} (hx : R32 x) : Int32.ofInt x < 0 ↔ x < 0 := by
  rw [← i32_zero]; exact i32_lt hx R32_0
theorem i32_eq0 {x : Int} (hx : R32 x) : Int32.ofInt x = 0 ↔ x = 0 := by
  rw [← i32_zero]; exact i32_eq hx R32_0
theorem i32_le0 {x : Int} (hx : R32 x) : Int32.ofInt x ≤ 0 ↔ x ≤ 0 := by
  rw [← i32_zero]; exact i32_le hx R32_0
theorem i32_0lt {x : Int} (hx : R32 x) : 0 < Int32.ofInt x ↔ 0 < x := by
  rw [← i32_zero]; exact i32_lt R32_0 hx
theorem i32_0le {x : Int} (hx : R32 x) : 0 ≤ Int32.ofInt x ↔ 0 ≤ x := by
  rw [← i32_zero]; exact i32_le R32_0 hx
theorem i32_clamp {x : Int} (hx : R32 x) : (Int32.ofInt x).toNatClampNeg = x.toNat := by
  show (Int32.ofInt x).toInt.toNat = _
  rw [R32_to hx]
theorem i32_in {x : Int} {n : Nat} (hx : R32 x) (h0 : 0 ≤ x) (h1 : x < n) : vp_in (Int32.ofInt x) n := by
  unfold vp_in
  rw [i32_lt0 hx, i32_clamp hx]
  omega
/-! the operations -/
def iand (x y : Int) : Int := (Int32.ofInt x &&& Int32.ofInt y).toInt
def ior (x y : Int) : Int := (Int32.ofInt x ||| Int32.ofInt y).toInt
def ixor (x y : Int) : Int := (Int32.ofInt x ^^^ Int32.ofInt y).toInt
def ishl (x y : Int) : Int := (Int32.ofInt x <<< (Int32.ofInt y &&& 31)).toInt
def ishr (x y : Int) : Int := (Int32.ofInt x >>> (Int32.ofInt y &&& 31)).toInt
def iushr (x y : Int) : Int := ((Int32.ofInt x).toUInt32 >>> ((Int32.ofInt y).toUInt32 &&& Int32.toUInt32 31)).toInt32.toInt
def land (x y : Int) : Int := (Int64.ofInt x &&& Int64.ofInt y).toInt
def lor (x y : Int) : Int := (Int64.ofInt x ||| Int64.ofInt y).toInt
def lshl (x y : Int) : Int := (Int64.ofInt x <<< ((Int32.ofInt y).toInt64 &&& 63)).toInt
def i2c (x : Int) : Int := ((Int32.ofInt x).toUInt32 % 65536).toInt32.toInt
def lcmp (x y : Int) : Int := if y < x then 1 else if x = y then 0 else -1
def b1 (x : Int) : Int := (Int32.ofInt x &&& 1).toInt
theorem lcmp_R (x y : Int) : R32 (lcmp x y) := by
  unfold lcmp
  split
  · exact ⟨by omega, by omega⟩
  · split
    · exact R32_0
    · exact ⟨by omega, by omega⟩
theorem i32_div {x y : Int} (hx : R32 x) (hy : R32 y) : Int32.ofInt x / Int32.ofInt y = Int32.ofInt (w32 (x.tdiv y)) := by
  rw [w32_of]
  apply Int32.toInt_inj.mp
  rw [Int32.toInt_div, R32_to hx, R32_to hy, Int32.toInt_ofInt]
theorem i32_rem {x y : Int} (hx : R32 x) (hy : R32 y) : Int32.ofInt x - Int32.ofInt x / Int32.ofInt y * Int32.ofInt y = Int32.ofInt (w32 (x.tmod y)) := by
  rw [w32_of]
  apply Int32.toInt_inj.mp
  rw [rem_toInt, R32_to hx, R32_to hy, ← w32, w32_id]
  have h1 : x.tmod y = (Int32.ofInt x % Int32.ofInt y).toInt := by rw [Int32.toInt_mod, R32_to hx, R32_to hy]
  rw [h1]
  exact i32_R _
theorem i64_div {x y : Int} (hx : R64 x) (hy : R64 y) : Int64.ofInt x / Int64.ofInt y = Int64.ofInt (w64 (x.tdiv y)) := by
  rw [w64_of]
  apply Int64.toInt_inj.mp
  rw [Int64.toInt_div, R64_to hx, R64_to hy, Int64.toInt_ofInt]
theorem i64_rem {x y : Int} (hx : R64 x) (hy : R64 y) : Int64.ofInt x - Int64.ofInt x / Int64.ofInt y * Int64.ofInt y = Int64.ofInt (w64 (x.tmod y)) := by
  rw [w64_of]
  have e : Int64.ofInt x - Int64.ofInt x / Int64.ofInt y * Int64.ofInt y = Int64.ofInt x % Int64.ofInt y := by
    apply Int64.toInt_inj.mp
    have h1 := Int64.le_toInt (Int64.ofInt x % Int64.ofInt y)
    have h2 := Int64.toInt_lt (Int64.ofInt x % Int64.ofInt y)
    rw [Int64.toInt_sub, Int64.toInt_mul, Int64.toInt_div, Int.bmod_mul_bmod, Int.sub_bmod_bmod, Int.mul_comm ((Int64.ofInt x).toInt.tdiv (Int64.ofInt y).toInt), ← Int.tmod_def, ← Int64.toInt_mod]
    exact Int.bmod_eq_of_le_mul_two (by omega) (by omega)
  rw [e]
  apply Int64.toInt_inj.mp
  rw [Int64.toInt_mod, R64_to hx, R64_to hy, ← w64, w64_id]
  have h1 : x.tmod y = (Int64.ofInt x % Int64.ofInt y).toInt := by rw [Int64.toInt_mod, R64_to hx, R64_to hy]
  rw [h1]
  exact i64_R _
