/-! Whole numbers: the bits and the divisions of small ones. -/
theorem i32_bv (n : Nat) : (Int32.ofInt (n : Int)).toBitVec = BitVec.ofNat 32 n := by
  rw [Int32.toBitVec_ofInt, BitVec.ofInt_natCast]
theorem i32_tn (z : Int32) (h : z.toBitVec.toNat < 2147483648) : z.toInt = (z.toBitVec.toNat : Int) := by
  show z.toBitVec.toInt = _
  rw [BitVec.toInt_eq_toNat_of_lt (by omega)]
theorem iand_nat {x y : Nat} (hx : x < 2147483648) (hy : y < 2147483648) : iand x y = ((x &&& y : Nat) : Int) := by
  have e : (Int32.ofInt (x : Int) &&& Int32.ofInt (y : Int)).toBitVec.toNat = x &&& y := by
    rw [Int32.toBitVec_and, i32_bv, i32_bv, BitVec.toNat_and, BitVec.toNat_ofNat, BitVec.toNat_ofNat, Nat.mod_eq_of_lt (by omega), Nat.mod_eq_of_lt (by omega)]
  have l : x &&& y ≤ x := Nat.and_le_left
  rw [iand_def, i32_tn _ (by omega), e]
theorem ior_nat {x y : Nat} (hx : x < 2147483648) (hy : y < 2147483648) : ior x y = ((x ||| y : Nat) : Int) := by
  have e : (Int32.ofInt (x : Int) ||| Int32.ofInt (y : Int)).toBitVec.toNat = x ||| y := by
    rw [Int32.toBitVec_or, i32_bv, i32_bv, BitVec.toNat_or, BitVec.toNat_ofNat, BitVec.toNat_ofNat, Nat.mod_eq_of_lt (by omega), Nat.mod_eq_of_lt (by omega)]
  have l : x ||| y < 2 ^ 31 := Nat.or_lt_two_pow (by omega) (by omega)
  rw [ior_def, i32_tn _ (by omega), e]
theorem ixor_nat {x y : Nat} (hx : x < 2147483648) (hy : y < 2147483648) : ixor x y = ((x ^^^ y : Nat) : Int) := by
  have e : (Int32.ofInt (x : Int) ^^^ Int32.ofInt (y : Int)).toBitVec.toNat = x ^^^ y := by
    rw [Int32.toBitVec_xor, i32_bv, i32_bv, BitVec.toNat_xor, BitVec.toNat_ofNat, BitVec.toNat_ofNat, Nat.mod_eq_of_lt (by omega), Nat.mod_eq_of_lt (by omega)]
  have l : x ^^^ y < 2 ^ 31 := Nat.xor_lt_two_pow (by omega) (by omega)
  rw [ixor_def, i32_tn _ (by omega), e]
theorem i32_sh : ∀ i : Nat, i < 32 → ((Int32.ofInt (i : Int) &&& 31).toBitVec.smod 32#32).toNat = i := by decide +kernel
theorem i32_shs : ∀ i : Nat, i < 32 → (Int32.ofInt (i : Int) &&& 31).toBitVec.smod 32#32 = BitVec.ofNat 32 i := by decide +kernel
theorem ishl_pow (i : Nat) (hi : i < 31) : ishl 1 i = ((2 ^ i : Nat) : Int) := by
  have key : ∀ i : Nat, i < 31 → ((Int32.ofInt 1) <<< (Int32.ofInt (i : Int) &&& 31)).toInt = ((2 ^ i : Nat) : Int) := by decide +kernel
  rw [ishl_def, key i hi]
theorem ishr_nat {x i : Nat} (hx : x < 2147483648) (hi : i < 32) : ishr x i = ((x >>> i : Nat) : Int) := by
  have m : (BitVec.ofNat 32 x).msb = false := by
    rw [BitVec.msb_eq_decide, BitVec.toNat_ofNat, Nat.mod_eq_of_lt (by omega)]
    simp; omega
  have e : (Int32.ofInt (x : Int) >>> (Int32.ofInt (i : Int) &&& 31)).toBitVec.toNat = x >>> i := by
    rw [Int32.toBitVec_shiftRight, i32_bv]
    show ((BitVec.ofNat 32 x).sshiftRight ((Int32.ofInt (i : Int) &&& 31).toBitVec.smod 32#32).toNat).toNat = _
    rw [i32_sh i hi, BitVec.sshiftRight_eq_of_msb_false m, BitVec.toNat_ushiftRight, BitVec.toNat_ofNat, Nat.mod_eq_of_lt (by omega)]
  have l : x >>> i ≤ x := by rw [Nat.shiftRight_eq_div_pow]; exact Nat.div_le_self _ _
  rw [ishr_def, i32_tn _ (by omega), e]
/-- is bit i of a set there -/
noncomputable def bit (s i : Int) : Bool := iand (ishr s i) 1 = 1
theorem bit_nat {x i : Nat} (hx : x < 2147483648) (hi : i < 32) : bit x i = x.testBit i := by
  have l : x >>> i ≤ x := by rw [Nat.shiftRight_eq_div_pow]; exact Nat.div_le_self _ _
  have e : iand (ishr x i) 1 = ((x >>> i &&& 1 : Nat) : Int) := by
    rw [ishr_nat hx hi]; exact iand_nat (x := x >>> i) (y := 1) (by omega) (by decide)
  unfold bit
  rw [e, Nat.and_one_is_mod, Nat.testBit_eq_decide_div_mod_eq, Nat.shiftRight_eq_div_pow]
  have : (x / 2 ^ i) % 2 < 2 := Nat.mod_lt _ (by omega)
  rcases Nat.mod_two_eq_zero_or_one (x / 2 ^ i) with h | h <;> simp [h]
theorem bit01_nat {x i : Nat} (hx : x < 2147483648) (hi : i < 32) : iand (ishr x i) 1 = if x.testBit i then 1 else 0 := by
  have l : x >>> i ≤ x := by rw [Nat.shiftRight_eq_div_pow]; exact Nat.div_le_self _ _
  have e : iand (ishr x i) 1 = ((x >>> i &&& 1 : Nat) : Int) := by
    rw [ishr_nat hx hi]; exact iand_nat (x := x >>> i) (y := 1) (by omega) (by decide)
  rw [e, Nat.and_one_is_mod, Nat.testBit_eq_decide_div_mod_eq, Nat.shiftRight_eq_div_pow]
  rcases Nat.mod_two_eq_zero_or_one (x / 2 ^ i) with h | h <;> simp [h]
theorem pow_lt31 {i : Nat} (hi : i < 31) : 2 ^ i < 2147483648 := Nat.pow_lt_pow_right (a := 2) (n := 31) (by omega) hi
theorem ior_bit {x i : Nat} (hx : x < 2147483648) (hi : i < 31) : ior x (ishl 1 i) = ((x ||| 2 ^ i : Nat) : Int) := by
  rw [ishl_pow i hi, ior_nat hx (pow_lt31 hi)]
theorem iand_not_def (x y : Nat) (hx : x < 2147483648) (hy : y < 2147483648) : iand x (ixor y (-1)) = ((x &&& (y ^^^ 2147483647) : Nat) : Int) := by
  have e1 : (Int32.ofInt (ixor y (-1))).toBitVec = ~~~(BitVec.ofNat 32 y) := by
    rw [← ixor_i32, Int32.toBitVec_xor, i32_bv, Int32.toBitVec_ofInt]
    apply BitVec.eq_of_getLsbD_eq
    intro j hj
    have : BitVec.ofInt 32 (-1) = BitVec.allOnes 32 := by decide
    rw [this, BitVec.getLsbD_xor, BitVec.getLsbD_allOnes, BitVec.getLsbD_not]
    simp [hj]
  have e : (Int32.ofInt (x : Int) &&& Int32.ofInt (ixor y (-1))).toBitVec.toNat = x &&& (y ^^^ 2147483647) := by
    rw [Int32.toBitVec_and, i32_bv, e1, BitVec.toNat_and, BitVec.toNat_ofNat, Nat.mod_eq_of_lt (by omega)]
    apply Nat.eq_of_testBit_eq
    intro j
    rw [Nat.testBit_and, Nat.testBit_and, Nat.testBit_xor]
    have t31 : Nat.testBit 2147483647 j = decide (j < 31) := Nat.testBit_two_pow_sub_one 31 j
    rw [t31]
    by_cases hj : j < 31
    · have : (~~~(BitVec.ofNat 32 y)).toNat.testBit j = !y.testBit j := by
        rw [BitVec.testBit_toNat, BitVec.getLsbD_not, BitVec.getLsbD_ofNat]
        have : j < 32 := by omega
        simp [this]
      rw [this]; simp [hj]
    · have : x.testBit j = false := Nat.testBit_lt_two_pow (Nat.lt_of_lt_of_le (show x < 2 ^ 31 by omega) (Nat.pow_le_pow_right (by omega) (by omega)))
      simp [this]
  have l : x &&& (y ^^^ 2147483647) ≤ x := Nat.and_le_left
  rw [iand_def, i32_tn _ (by omega), e]
theorem iand_nbit {x i : Nat} (hx : x < 2147483648) (hi : i < 31) : iand x (ixor (ishl 1 i) (-1)) = ((x &&& (2 ^ i ^^^ 2147483647) : Nat) : Int) := by
  rw [ishl_pow i hi, iand_not_def x _ hx (pow_lt31 hi)]
theorem tb_or {x i j : Nat} : (x ||| 2 ^ i).testBit j = (x.testBit j || decide (i = j)) := by
  rw [Nat.testBit_or, Nat.testBit_two_pow]
theorem tb_nbit {x i j : Nat} (hx : x < 2147483648) : (x &&& (2 ^ i ^^^ 2147483647)).testBit j = (x.testBit j && !decide (i = j)) := by
  rw [Nat.testBit_and, Nat.testBit_xor, Nat.testBit_two_pow]
  have t31 : Nat.testBit 2147483647 j = decide (j < 31) := Nat.testBit_two_pow_sub_one 31 j
  rw [t31]
  by_cases hj : j < 31
  · by_cases h : i = j <;> simp [hj, h]
  · have : x.testBit j = false := Nat.testBit_lt_two_pow (Nat.lt_of_lt_of_le (show x < 2 ^ 31 by omega) (Nat.pow_le_pow_right (by omega) (by omega)))
    simp [this]
theorem tb_lt {x n j : Nat} (h : x < 2 ^ n) (hj : n ≤ j) : x.testBit j = false := Nat.testBit_lt_two_pow (Nat.lt_of_lt_of_le h (Nat.pow_le_pow_right (by omega) hj))
theorem lt_of_tb {x n : Nat} (h : ∀ j, n ≤ j → x.testBit j = false) : x < 2 ^ n := Nat.lt_pow_two_of_testBit x h
theorem idiv_nn {x y : Int} (hx : 0 ≤ x) (hx2 : x < 2147483648) (hy : 0 < y) (hy2 : y < 2147483648) : idiv x y = x / y := by
  have l : x / y ≤ x := Int.ediv_le_self _ hx
  have l2 : 0 ≤ x / y := Int.ediv_nonneg hx (by omega)
  rw [idiv_def, Int32.toInt_div, i32_toInt ⟨by omega, by omega⟩, i32_toInt ⟨by omega, by omega⟩, Int.tdiv_eq_ediv_of_nonneg hx]
  exact Int.bmod_eq_of_le (by omega) (by omega)
theorem irem_nn {x y : Int} (hx : 0 ≤ x) (hx2 : x < 2147483648) (hy : 0 < y) (hy2 : y < 2147483648) : irem x y = x % y := by
  have e : Int32.ofInt x / Int32.ofInt y = Int32.ofInt (x / y) := by
    rw [idiv_i32, idiv_nn hx hx2 hy hy2]
  have l : x / y ≤ x := Int.ediv_le_self _ hx
  have l2 : 0 ≤ x / y := Int.ediv_nonneg hx (by omega)
  have d := Int.mul_ediv_add_emod x y
  have c : x / y * y = y * (x / y) := Int.mul_comm _ _
  have b1 : 0 ≤ x % y := Int.emod_nonneg _ (by omega)
  have b2 : x % y < y := Int.emod_lt_of_pos _ hy
  rw [irem_def, e, i32_mul, i32_sub, i32_toInt (w32_in _), w32_id ⟨by rw [w32_id ⟨by omega, by omega⟩]; omega, by rw [w32_id ⟨by omega, by omega⟩]; omega⟩, w32_id ⟨by omega, by omega⟩]
  omega
theorem ldiv_nn {x y : Int} (hx : 0 ≤ x) (hx2 : x < 9223372036854775808) (hy : 0 < y) (hy2 : y < 9223372036854775808) : ldiv x y = x / y := by
  have l : x / y ≤ x := Int.ediv_le_self _ hx
  have l2 : 0 ≤ x / y := Int.ediv_nonneg hx (by omega)
  rw [ldiv_def, Int64.toInt_div, i64_toInt ⟨by omega, by omega⟩, i64_toInt ⟨by omega, by omega⟩, Int.tdiv_eq_ediv_of_nonneg hx]
  exact Int.bmod_eq_of_le (by omega) (by omega)
theorem lrem_nn {x y : Int} (hx : 0 ≤ x) (hx2 : x < 9223372036854775808) (hy : 0 < y) (hy2 : y < 9223372036854775808) : lrem x y = x % y := by
  have e : Int64.ofInt x / Int64.ofInt y = Int64.ofInt (x / y) := by
    rw [ldiv_i64, ldiv_nn hx hx2 hy hy2]
  have l : x / y ≤ x := Int.ediv_le_self _ hx
  have l2 : 0 ≤ x / y := Int.ediv_nonneg hx (by omega)
  have d := Int.mul_ediv_add_emod x y
  have c : x / y * y = y * (x / y) := Int.mul_comm _ _
  have b1 : 0 ≤ x % y := Int.emod_nonneg _ (by omega)
  have b2 : x % y < y := Int.emod_lt_of_pos _ hy
  rw [lrem_def, e, i64_mul, i64_sub, i64_toInt (w64_in _), w64_id ⟨by rw [w64_id ⟨by omega, by omega⟩]; omega, by rw [w64_id ⟨by omega, by omega⟩]; omega⟩, w64_id ⟨by omega, by omega⟩]
  omega
theorem l2i_id {x : Int} (h : in32 x) : l2i x = x := by
  have h2 := in32_64 h
  unfold in32 at h
  rw [l2i_def, Int64.toInt_toInt32, i64_toInt h2]
  exact Int.bmod_eq_of_le (by omega) (by omega)
/-! the ways on -/
theorem bndI_s (v : Int) (M : aM) (k : Int → aM → aR) : bndI (some ([aI v], M)) k = k v M := rfl
theorem bndJ_s (v : Int) (M : aM) (k : Int → aM → aR) : bndJ (some ([aJ v], M)) k = k v M := rfl
theorem bndV_s (M : aM) (k : aM → aR) : bndV (some ([], M)) k = k M := rfl
theorem bndS_s (a : Nat) (M : aM) (k : Nat → aM → aR) : bndS (some ([aQ 24 a], M)) k = k a M := rfl
theorem inb_s {i : Int} {n : Nat} {k : aR} (h1 : 0 ≤ i) (h2 : i < n) : inb i n k = k := if_pos ⟨h1, h2⟩
theorem aBool_0 (k : aR) : aBool 0 k = k := rfl
theorem aBool_1 (k : aR) : aBool 1 k = k := rfl
theorem aUp_E (M : aM) (a j : Nat) (x : Int) (b k : Nat) : aUp M a j x b k = if b = a ∧ k = j then x else M b k := rfl
theorem aUp_N {M : aM} {a j : Nat} {x : Int} {b : Nat} (h : b ≠ a) : aUp M a j x b = M b := by
  funext k; rw [aUp_E, if_neg]; exact fun e => h e.1
theorem aUp_same (M : aM) (a j : Nat) (x : Int) (k : Nat) : aUp M a j x a k = if k = j then x else M a k := by
  rw [aUp_E]; simp
theorem aCpy_eq (M : aM) (a b sp dp n c k : Nat) : aCpy M a b sp dp n c k = if c = b ∧ dp ≤ k ∧ k < dp + n then M a (sp + (k - dp)) else M c k := rfl
theorem aCpy_ne {M : aM} {a b sp dp n c : Nat} (h : c ≠ b) : aCpy M a b sp dp n c = M c := by
  funext k; rw [aCpy_eq, if_neg]; exact fun e => h e.1
theorem w32_s1 {k : Nat} (h : k < 2147483647) : w32 ((k : Int) + 1) = ((k + 1 : Nat) : Int) := by
  rw [w32_id ⟨by omega, by omega⟩]; rfl
/-- but for the objects named, the memory stays -/
def fr (l : List Nat) (M M' : aM) : Prop := ∀ k, k ∉ l → M' k = M k
theorem fr_refl (l : List Nat) (M : aM) : fr l M M := fun _ _ => rfl
theorem fr_up (M : aM) (a j : Nat) (x : Int) : fr [a] M (aUp M a j x) := fun k h => aUp_N (by intro e; apply h; simp [e])
theorem fr_tr {l1 l2 l : List Nat} {M M1 M2 : aM} (h1 : fr l1 M M1) (h2 : fr l2 M1 M2) (s1 : ∀ k, k ∈ l1 → k ∈ l) (s2 : ∀ k, k ∈ l2 → k ∈ l) : fr l M M2 :=
  fun k h => (h2 k fun e => h (s2 k e)).trans (h1 k fun e => h (s1 k e))
theorem fr_w {l1 l : List Nat} {M M1 : aM} (h1 : fr l1 M M1) (s1 : ∀ k, k ∈ l1 → k ∈ l) : fr l M M1 :=
  fun k h => h1 k fun e => h (s1 k e)
