/-! Whole numbers as the machine's ints and longs. -/
def in32 (x : Int) : Prop := -2147483648 ≤ x ∧ x < 2147483648
def in64 (x : Int) : Prop := -9223372036854775808 ≤ x ∧ x < 9223372036854775808
theorem w32_in (x : Int) : in32 (w32 x) := by unfold in32; rw [w32_def]; omega
theorem w64_in (x : Int) : in64 (w64 x) := by unfold in64; rw [w64_def]; omega
theorem w32_id {x : Int} (h : in32 x) : w32 x = x := by unfold in32 at h; rw [w32_def]; omega
theorem w64_id {x : Int} (h : in64 x) : w64 x = x := by unfold in64 at h; rw [w64_def]; omega
theorem i32_toInt {x : Int} (h : in32 x) : (Int32.ofInt x).toInt = x := by
  unfold in32 at h
  have e : ((Int32.size : Nat) : Int) = 4294967296 := rfl
  rw [Int32.toInt_ofInt]
  exact Int.bmod_eq_of_le (by omega) (by omega)
theorem i64_toInt {x : Int} (h : in64 x) : (Int64.ofInt x).toInt = x := by
  unfold in64 at h
  have e : ((Int64.size : Nat) : Int) = 18446744073709551616 := rfl
  rw [Int64.toInt_ofInt]
  exact Int.bmod_eq_of_le (by omega) (by omega)
theorem i32_in (z : Int32) : in32 z.toInt := ⟨by have := Int32.le_toInt z; omega, by have := Int32.toInt_lt z; omega⟩
theorem i64_in (z : Int64) : in64 z.toInt := ⟨by have := Int64.le_toInt z; omega, by have := Int64.toInt_lt z; omega⟩
theorem i32_of (z : Int32) : Int32.ofInt z.toInt = z := Int32.ofInt_toInt z
theorem i64_of (z : Int64) : Int64.ofInt z.toInt = z := Int64.ofInt_toInt z
theorem i32_w (x : Int) : Int32.ofInt (w32 x) = Int32.ofInt x := by
  apply Int32.toInt_inj.mp
  rw [Int32.toInt_ofInt, Int32.toInt_ofInt, w32_def]
  unfold Int.bmod
  simp only [Int32.size] at *
  omega
theorem i64_w (x : Int) : Int64.ofInt (w64 x) = Int64.ofInt x := by
  apply Int64.toInt_inj.mp
  rw [Int64.toInt_ofInt, Int64.toInt_ofInt, w64_def]
  unfold Int.bmod
  simp only [Int64.size] at *
  omega
theorem i32_add (x y : Int) : Int32.ofInt x + Int32.ofInt y = Int32.ofInt (w32 (x + y)) := by rw [i32_w]; exact (Int32.ofInt_add ..).symm
theorem i32_sub (x y : Int) : Int32.ofInt x - Int32.ofInt y = Int32.ofInt (w32 (x - y)) := by rw [i32_w]; exact (Int32.ofInt_sub ..).symm
theorem i32_mul (x y : Int) : Int32.ofInt x * Int32.ofInt y = Int32.ofInt (w32 (x * y)) := by rw [i32_w]; exact (Int32.ofInt_mul ..).symm
theorem i32_neg (x : Int) : -Int32.ofInt x = Int32.ofInt (w32 (-x)) := by rw [i32_w]; exact (Int32.ofInt_neg ..).symm
theorem i64_add (x y : Int) : Int64.ofInt x + Int64.ofInt y = Int64.ofInt (w64 (x + y)) := by rw [i64_w]; exact (Int64.ofInt_add ..).symm
theorem i64_sub (x y : Int) : Int64.ofInt x - Int64.ofInt y = Int64.ofInt (w64 (x - y)) := by rw [i64_w]; exact (Int64.ofInt_sub ..).symm
theorem i64_mul (x y : Int) : Int64.ofInt x * Int64.ofInt y = Int64.ofInt (w64 (x * y)) := by rw [i64_w]; exact (Int64.ofInt_mul ..).symm
theorem i32_eq {x y : Int} (hx : in32 x) (hy : in32 y) : Int32.ofInt x = Int32.ofInt y ↔ x = y := by rw [← Int32.toInt_inj, i32_toInt hx, i32_toInt hy]
theorem i32_lt {x y : Int} (hx : in32 x) (hy : in32 y) : Int32.ofInt x < Int32.ofInt y ↔ x < y := by rw [Int32.lt_iff_toInt_lt, i32_toInt hx, i32_toInt hy]
theorem i32_le {x y : Int} (hx : in32 x) (hy : in32 y) : Int32.ofInt x ≤ Int32.ofInt y ↔ x ≤ y := by rw [Int32.le_iff_toInt_le, i32_toInt hx, i32_toInt hy]
theorem i64_eq {x y : Int} (hx : in64 x) (hy : in64 y) : Int64.ofInt x = Int64.ofInt y ↔ x = y := by rw [← Int64.toInt_inj, i64_toInt hx, i64_toInt hy]
theorem i64_lt {x y : Int} (hx : in64 x) (hy : in64 y) : Int64.ofInt x < Int64.ofInt y ↔ x < y := by rw [Int64.lt_iff_toInt_lt, i64_toInt hx, i64_toInt hy]
theorem in32_0 : in32 0 := ⟨by decide, by decide⟩
theorem i32_zero : Int32.ofInt 0 = 0 := rfl
theorem i64_zero : Int64.ofInt 0 = 0 := rfl
theorem i32_eq0 {x : Int} (hx : in32 x) : Int32.ofInt x = 0 ↔ x = 0 := i32_eq (y := 0) hx in32_0
theorem i64_eq0 {x : Int} (hx : in64 x) : Int64.ofInt x = 0 ↔ x = 0 := i64_eq (y := 0) hx ⟨by decide, by decide⟩
theorem i32_lt0 {x : Int} (hx : in32 x) : Int32.ofInt x < 0 ↔ x < 0 := i32_lt (y := 0) hx in32_0
theorem i32_gt0 {x : Int} (hx : in32 x) : 0 < Int32.ofInt x ↔ 0 < x := i32_lt (x := 0) in32_0 hx
theorem i32_le0 {x : Int} (hx : in32 x) : Int32.ofInt x ≤ 0 ↔ x ≤ 0 := i32_le (y := 0) hx in32_0
theorem i32_ge0 {x : Int} (hx : in32 x) : 0 ≤ Int32.ofInt x ↔ 0 ≤ x := i32_le (x := 0) in32_0 hx
theorem i32_clamp {x : Int} (hx : in32 x) : (Int32.ofInt x).toNatClampNeg = x.toNat := by
  show (Int32.ofInt x).toInt.toNat = x.toNat
  rw [i32_toInt hx]
theorem i32_vin {x : Int} {n : Nat} (hx : in32 x) (h : 0 ≤ x ∧ x < n) : vp_in (Int32.ofInt x) n := by
  rw [vp_in_iff, i32_toInt hx]
  exact h
theorem i32_nat (n : Nat) : Int32.ofNat n = Int32.ofInt (n : Int) := (Int32.ofInt_eq_ofNat ..).symm
theorem i32_i2l {x : Int} (hx : in32 x) : (Int32.ofInt x).toInt64 = Int64.ofInt x := by
  apply Int64.toInt_inj.mp
  rw [Int32.toInt_toInt64, i32_toInt hx, i64_toInt]
  unfold in32 at hx
  unfold in64
  omega
theorem i64_cmp {x y : Int} (hx : in64 x) (hy : in64 y) : lg_cmp (Int64.ofInt x) (Int64.ofInt y) = Int32.ofInt (lcmp x y) := by
  unfold lg_cmp lcmp
  simp only [GT.gt, i64_lt hy hx, i64_eq hx hy]
  by_cases h1 : x < y
  · rw [if_neg (by omega), if_neg (by omega), if_pos h1]
    rfl
  · by_cases h2 : x = y
    · rw [if_neg (by omega), if_pos h2, if_neg h1, if_pos h2]
      rfl
    · rw [if_pos (by omega), if_neg h1, if_neg h2]
      rfl
theorem lcmp_in (x y : Int) : in32 (lcmp x y) := by
  unfold lcmp in32
  split
  · omega
  · split <;> omega
theorem imax_i32 {x y : Int} (hx : in32 x) (hy : in32 y) : (if Int32.ofInt x < Int32.ofInt y then Int32.ofInt y else Int32.ofInt x) = Int32.ofInt (imax x y) := by
  unfold imax
  simp only [i32_lt hx hy]
  split <;> rfl
theorem imin_i32 {x y : Int} (hx : in32 x) (hy : in32 y) : (if Int32.ofInt x < Int32.ofInt y then Int32.ofInt x else Int32.ofInt y) = Int32.ofInt (imin x y) := by
  unfold imin
  simp only [i32_lt hx hy]
  split <;> rfl
theorem imin_i64 {x y : Int} (hx : in64 x) (hy : in64 y) : (if Int64.ofInt y < Int64.ofInt x then Int64.ofInt y else Int64.ofInt x) = Int64.ofInt (imin x y) := by
  unfold imin
  simp only [i64_lt hy hx]
  by_cases h : x < y
  · rw [if_neg (by omega), if_pos h]
  · by_cases h2 : x = y
    · subst h2; simp
    · rw [if_pos (by omega), if_neg h]
theorem imin_i32b {x y : Int} (hx : in32 x) (hy : in32 y) : (if Int32.ofInt y < Int32.ofInt x then Int32.ofInt y else Int32.ofInt x) = Int32.ofInt (imin x y) := by
  unfold imin
  simp only [i32_lt hy hx]
  by_cases h : x < y
  · rw [if_neg (by omega), if_pos h]
  · by_cases h2 : x = y
    · subst h2; simp
    · rw [if_pos (by omega), if_neg h]
theorem iabs_i32 {x : Int} (hx : in32 x) : (if 0 ≤ Int32.ofInt x then Int32.ofInt x else 0 - Int32.ofInt x) = Int32.ofInt (iabs x) := by
  unfold iabs
  simp only [i32_ge0 hx]
  by_cases h : x < 0
  · rw [if_neg (by omega), if_pos h, ← i32_neg]
    simp
  · rw [if_pos (by omega), if_neg h]
theorem imax_in {x y : Int} (hx : in32 x) (hy : in32 y) : in32 (imax x y) := by unfold imax; split <;> assumption
theorem imin_in {x y : Int} (hx : in32 x) (hy : in32 y) : in32 (imin x y) := by unfold imin; split <;> assumption
theorem imin_in64 {x y : Int} (hx : in64 x) (hy : in64 y) : in64 (imin x y) := by unfold imin; split <;> assumption
theorem iabs_in {x : Int} (hx : in32 x) : in32 (iabs x) := by
  unfold iabs
  split
  · exact w32_in _
  · exact hx
theorem iand_i32 (x y : Int) : Int32.ofInt x &&& Int32.ofInt y = Int32.ofInt (iand x y) := by rw [iand_def, i32_of]
theorem ior_i32 (x y : Int) : Int32.ofInt x ||| Int32.ofInt y = Int32.ofInt (ior x y) := by rw [ior_def, i32_of]
theorem ixor_i32 (x y : Int) : Int32.ofInt x ^^^ Int32.ofInt y = Int32.ofInt (ixor x y) := by rw [ixor_def, i32_of]
theorem ishl_i32 (x y : Int) : Int32.ofInt x <<< (Int32.ofInt y &&& 31) = Int32.ofInt (ishl x y) := by rw [ishl_def, i32_of]
theorem ishr_i32 (x y : Int) : Int32.ofInt x >>> (Int32.ofInt y &&& 31) = Int32.ofInt (ishr x y) := by rw [ishr_def, i32_of]
theorem iushr_i32 (x y : Int) : ((Int32.ofInt x).toUInt32 >>> ((Int32.ofInt y).toUInt32 &&& Int32.toUInt32 31)).toInt32 = Int32.ofInt (iushr x y) := by rw [iushr_def, i32_of]
theorem idiv_i32 (x y : Int) : Int32.ofInt x / Int32.ofInt y = Int32.ofInt (idiv x y) := by rw [idiv_def, i32_of]
theorem irem_i32 (x y : Int) : Int32.ofInt x - Int32.ofInt x / Int32.ofInt y * Int32.ofInt y = Int32.ofInt (irem x y) := by rw [irem_def, i32_of]
theorem ldiv_i64 (x y : Int) : Int64.ofInt x / Int64.ofInt y = Int64.ofInt (ldiv x y) := by rw [ldiv_def, i64_of]
theorem lrem_i64 (x y : Int) : Int64.ofInt x - Int64.ofInt x / Int64.ofInt y * Int64.ofInt y = Int64.ofInt (lrem x y) := by rw [lrem_def, i64_of]
theorem i2b_i32 (x : Int) : (Int32.ofInt x).toInt8.toInt32 = Int32.ofInt (i2b x) := by rw [i2b_def, i32_of]
theorem i2c_i32 (x : Int) : ((Int32.ofInt x).toUInt32 % 65536).toInt32 = Int32.ofInt (i2c x) := by rw [i2c_def, i32_of]
theorem l2i_i64 (x : Int) : (Int64.ofInt x).toInt32 = Int32.ofInt (l2i x) := by rw [l2i_def, i32_of]
theorem iand_in (x y : Int) : in32 (iand x y) := by rw [iand_def]; exact i32_in _
theorem ior_in (x y : Int) : in32 (ior x y) := by rw [ior_def]; exact i32_in _
theorem ixor_in (x y : Int) : in32 (ixor x y) := by rw [ixor_def]; exact i32_in _
theorem ishl_in (x y : Int) : in32 (ishl x y) := by rw [ishl_def]; exact i32_in _
theorem ishr_in (x y : Int) : in32 (ishr x y) := by rw [ishr_def]; exact i32_in _
theorem iushr_in (x y : Int) : in32 (iushr x y) := by rw [iushr_def]; exact i32_in _
theorem idiv_in (x y : Int) : in32 (idiv x y) := by rw [idiv_def]; exact i32_in _
theorem irem_in (x y : Int) : in32 (irem x y) := by rw [irem_def]; exact i32_in _
theorem ldiv_in (x y : Int) : in64 (ldiv x y) := by rw [ldiv_def]; exact i64_in _
theorem lrem_in (x y : Int) : in64 (lrem x y) := by rw [lrem_def]; exact i64_in _
theorem i2b_in (x : Int) : in32 (i2b x) := by rw [i2b_def]; exact i32_in _
theorem i2c_in (x : Int) : in32 (i2c x) := by rw [i2c_def]; exact i32_in _
theorem l2i_in (x : Int) : in32 (l2i x) := by rw [l2i_def]; exact i32_in _
theorem in32_64 {x : Int} (h : in32 x) : in64 x := by unfold in32 at h; unfold in64; omega
