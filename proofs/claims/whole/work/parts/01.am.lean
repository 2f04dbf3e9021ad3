/-! An abstract machine over a memory of whole numbers: objects by their number, a place by its number. -/
abbrev aV : Type := Int ⊕ Int ⊕ (Nat × Nat)
abbrev aM : Type := Nat → Nat → Int
abbrev aL : Type := List (Option aV)
abbrev aR : Type := Option (List aV × aM)
abbrev aO : Type := Nat → List aV → aM → aR
/-- pc, mask of a cut, instruction, length, r1, r2, r3, r4, r5, targets of a switch -/
abbrev aE : Type := Nat × Option (List Bool) × Instr × Nat × Nat × Nat × Nat × Nat × Int × List (Int × Nat)
abbrev aI (x : Int) : aV := .inl x
abbrev aJ (x : Int) : aV := .inr (.inl x)
abbrev aQ (t a : Nat) : aV := .inr (.inr (t, a))
theorem w32_ex : ∃ f : Int → Int, ∀ x : Int, f x = (x + 2147483648) % 4294967296 - 2147483648 := ⟨fun x => (x + 2147483648) % 4294967296 - 2147483648, fun _  => rfl⟩
noncomputable def w32 : Int → Int := Classical.choose w32_ex
theorem w32_def (x : Int) : w32 x = (x + 2147483648) % 4294967296 - 2147483648 := Classical.choose_spec w32_ex x
theorem w64_ex : ∃ f : Int → Int, ∀ x : Int, f x = (x + 9223372036854775808) % 18446744073709551616 - 9223372036854775808 := ⟨fun x => (x + 9223372036854775808) % 18446744073709551616 - 9223372036854775808, fun _  => rfl⟩
noncomputable def w64 : Int → Int := Classical.choose w64_ex
theorem w64_def (x : Int) : w64 x = (x + 9223372036854775808) % 18446744073709551616 - 9223372036854775808 := Classical.choose_spec w64_ex x
theorem iand_ex : ∃ f : Int → Int → Int, ∀ x y : Int, f x y = (Int32.ofInt x &&& Int32.ofInt y).toInt := ⟨fun x y => (Int32.ofInt x &&& Int32.ofInt y).toInt, fun _ _  => rfl⟩
noncomputable def iand : Int → Int → Int := Classical.choose iand_ex
theorem iand_def (x y : Int) : iand x y = (Int32.ofInt x &&& Int32.ofInt y).toInt := Classical.choose_spec iand_ex x y
theorem ior_ex : ∃ f : Int → Int → Int, ∀ x y : Int, f x y = (Int32.ofInt x ||| Int32.ofInt y).toInt := ⟨fun x y => (Int32.ofInt x ||| Int32.ofInt y).toInt, fun _ _  => rfl⟩
noncomputable def ior : Int → Int → Int := Classical.choose ior_ex
theorem ior_def (x y : Int) : ior x y = (Int32.ofInt x ||| Int32.ofInt y).toInt := Classical.choose_spec ior_ex x y
theorem ixor_ex : ∃ f : Int → Int → Int, ∀ x y : Int, f x y = (Int32.ofInt x ^^^ Int32.ofInt y).toInt := ⟨fun x y => (Int32.ofInt x ^^^ Int32.ofInt y).toInt, fun _ _  => rfl⟩
noncomputable def ixor : Int → Int → Int := Classical.choose ixor_ex
theorem ixor_def (x y : Int) : ixor x y = (Int32.ofInt x ^^^ Int32.ofInt y).toInt := Classical.choose_spec ixor_ex x y
theorem ishl_ex : ∃ f : Int → Int → Int, ∀ x y : Int, f x y = (Int32.ofInt x <<< (Int32.ofInt y &&& 31)).toInt := ⟨fun x y => (Int32.ofInt x <<< (Int32.ofInt y &&& 31)).toInt, fun _ _  => rfl⟩
noncomputable def ishl : Int → Int → Int := Classical.choose ishl_ex
theorem ishl_def (x y : Int) : ishl x y = (Int32.ofInt x <<< (Int32.ofInt y &&& 31)).toInt := Classical.choose_spec ishl_ex x y
theorem ishr_ex : ∃ f : Int → Int → Int, ∀ x y : Int, f x y = (Int32.ofInt x >>> (Int32.ofInt y &&& 31)).toInt := ⟨fun x y => (Int32.ofInt x >>> (Int32.ofInt y &&& 31)).toInt, fun _ _  => rfl⟩
noncomputable def ishr : Int → Int → Int := Classical.choose ishr_ex
theorem ishr_def (x y : Int) : ishr x y = (Int32.ofInt x >>> (Int32.ofInt y &&& 31)).toInt := Classical.choose_spec ishr_ex x y
theorem iushr_ex : ∃ f : Int → Int → Int, ∀ x y : Int, f x y = ((Int32.ofInt x).toUInt32 >>> ((Int32.ofInt y).toUInt32 &&& Int32.toUInt32 31)).toInt32.toInt := ⟨fun x y => ((Int32.ofInt x).toUInt32 >>> ((Int32.ofInt y).toUInt32 &&& Int32.toUInt32 31)).toInt32.toInt, fun _ _  => rfl⟩
noncomputable def iushr : Int → Int → Int := Classical.choose iushr_ex
theorem iushr_def (x y : Int) : iushr x y = ((Int32.ofInt x).toUInt32 >>> ((Int32.ofInt y).toUInt32 &&& Int32.toUInt32 31)).toInt32.toInt := Classical.choose_spec iushr_ex x y
theorem idiv_ex : ∃ f : Int → Int → Int, ∀ x y : Int, f x y = (Int32.ofInt x / Int32.ofInt y).toInt := ⟨fun x y => (Int32.ofInt x / Int32.ofInt y).toInt, fun _ _  => rfl⟩
noncomputable def idiv : Int → Int → Int := Classical.choose idiv_ex
theorem idiv_def (x y : Int) : idiv x y = (Int32.ofInt x / Int32.ofInt y).toInt := Classical.choose_spec idiv_ex x y
theorem irem_ex : ∃ f : Int → Int → Int, ∀ x y : Int, f x y = (Int32.ofInt x - Int32.ofInt x / Int32.ofInt y * Int32.ofInt y).toInt := ⟨fun x y => (Int32.ofInt x - Int32.ofInt x / Int32.ofInt y * Int32.ofInt y).toInt, fun _ _  => rfl⟩
noncomputable def irem : Int → Int → Int := Classical.choose irem_ex
theorem irem_def (x y : Int) : irem x y = (Int32.ofInt x - Int32.ofInt x / Int32.ofInt y * Int32.ofInt y).toInt := Classical.choose_spec irem_ex x y
theorem ldiv_ex : ∃ f : Int → Int → Int, ∀ x y : Int, f x y = (Int64.ofInt x / Int64.ofInt y).toInt := ⟨fun x y => (Int64.ofInt x / Int64.ofInt y).toInt, fun _ _  => rfl⟩
noncomputable def ldiv : Int → Int → Int := Classical.choose ldiv_ex
theorem ldiv_def (x y : Int) : ldiv x y = (Int64.ofInt x / Int64.ofInt y).toInt := Classical.choose_spec ldiv_ex x y
theorem lrem_ex : ∃ f : Int → Int → Int, ∀ x y : Int, f x y = (Int64.ofInt x - Int64.ofInt x / Int64.ofInt y * Int64.ofInt y).toInt := ⟨fun x y => (Int64.ofInt x - Int64.ofInt x / Int64.ofInt y * Int64.ofInt y).toInt, fun _ _  => rfl⟩
noncomputable def lrem : Int → Int → Int := Classical.choose lrem_ex
theorem lrem_def (x y : Int) : lrem x y = (Int64.ofInt x - Int64.ofInt x / Int64.ofInt y * Int64.ofInt y).toInt := Classical.choose_spec lrem_ex x y
theorem i2b_ex : ∃ f : Int → Int, ∀ x : Int, f x = (Int32.ofInt x).toInt8.toInt32.toInt := ⟨fun x => (Int32.ofInt x).toInt8.toInt32.toInt, fun _  => rfl⟩
noncomputable def i2b : Int → Int := Classical.choose i2b_ex
theorem i2b_def (x : Int) : i2b x = (Int32.ofInt x).toInt8.toInt32.toInt := Classical.choose_spec i2b_ex x
theorem i2c_ex : ∃ f : Int → Int, ∀ x : Int, f x = ((Int32.ofInt x).toUInt32 % 65536).toInt32.toInt := ⟨fun x => ((Int32.ofInt x).toUInt32 % 65536).toInt32.toInt, fun _  => rfl⟩
noncomputable def i2c : Int → Int := Classical.choose i2c_ex
theorem i2c_def (x : Int) : i2c x = ((Int32.ofInt x).toUInt32 % 65536).toInt32.toInt := Classical.choose_spec i2c_ex x
theorem l2i_ex : ∃ f : Int → Int, ∀ x : Int, f x = (Int64.ofInt x).toInt32.toInt := ⟨fun x => (Int64.ofInt x).toInt32.toInt, fun _  => rfl⟩
noncomputable def l2i : Int → Int := Classical.choose l2i_ex
theorem l2i_def (x : Int) : l2i x = (Int64.ofInt x).toInt32.toInt := Classical.choose_spec l2i_ex x
def lcmp (x y : Int) : Int := if x < y then -1 else if x = y then 0 else 1
def imax (x y : Int) : Int := if x < y then y else x
def imin (x y : Int) : Int := if x < y then x else y
noncomputable def iabs (x : Int) : Int := if x < 0 then w32 (-x) else x
def aUp (M : aM) (a j : Nat) (x : Int) : aM := fun b k => if b = a ∧ k = j then x else M b k
def aCpy (M : aM) (a b : Nat) (sp dp n : Nat) : aM := fun c k => if c = b ∧ dp ≤ k ∧ k < dp + n then M a (sp + (k - dp)) else M c k
def aNth : aL → Nat → Option aV
  | [], _ => none
  | o :: _, 0 => o
  | _ :: l, n + 1 => aNth l n
def aSet : aL → Nat → Option aV → aL
  | [], _, _ => []
  | _ :: l, 0, v => v :: l
  | o :: l, n + 1, v => o :: aSet l n v
def aMsk : List Bool → aL → aL
  | true :: m, o :: l => o :: aMsk m l
  | false :: m, _ :: l => none :: aMsk m l
  | _, _ => []
def aLk : List Nat → Nat → Nat
  | [], _ => 0
  | x :: _, 0 => x
  | _ :: l, n + 1 => aLk l n
def aFind : List aE → Nat → List aE
  | [], _ => []
  | e :: l, pc => bif Nat.beq e.1 pc then e :: l else aFind l pc
def inb (i : Int) (n : Nat) (k : aR) : aR := if 0 ≤ i ∧ i < n then k else none
def aI1 (st : List aV) (f : Int → List aV → aR) : aR := match st with | .inl x :: r => f x r | _ => none
def aI2 (st : List aV) (f : Int → Int → List aV → aR) : aR := match st with | .inl y :: .inl x :: r => f x y r | _ => none
def aJ1 (st : List aV) (f : Int → List aV → aR) : aR := match st with | .inr (.inl x) :: r => f x r | _ => none
def aJ2 (st : List aV) (f : Int → Int → List aV → aR) : aR := match st with | .inr (.inl y) :: .inr (.inl x) :: r => f x y r | _ => none
def aQ1 (t : Nat) (st : List aV) (f : Nat → List aV → aR) : aR := match st with | .inr (.inr (t', a)) :: r => bif Nat.beq t' t then f a r else none | _ => none
/-- a store to a place behind a long of two places is none of this machine's -/
def aSt (ls : aL) (i : Nat) (v : aV) (k : aL → aR) : aR := match i with
  | 0 => k (aSet ls 0 (some v))
  | j + 1 => match aNth ls j with
    | some (.inr (.inl _)) => none
    | _ => k (aSet ls (j + 1) (some v))
def bndV (x : aR) (k : aM → aR) : aR := match x with | some ([], M) => k M | _ => none
def bndI (x : aR) (k : Int → aM → aR) : aR := match x with | some ([.inl v], M) => k v M | _ => none
def bndJ (x : aR) (k : Int → aM → aR) : aR := match x with | some ([.inr (.inl v)], M) => k v M | _ => none
def bndS (x : aR) (k : Nat → aM → aR) : aR := match x with | some ([.inr (.inr (24, a))], M) => k a M | _ => none
/-- a reference whose kind isn't the one that may be null -/
def aRf (q : Nat × Nat) (k : aR) : aR := bif Nat.beq q.1 26 then none else k
def aBool (x : Int) (k : aR) : aR := if x = 0 then k else if x = 1 then k else none
def aRng (lo hi x : Int) (k : aR) : aR := if lo ≤ x ∧ x ≤ hi then k else none
def aCat : List aV → Nat
  | [] => 0
  | .inr (.inl _) :: l => aCat l + 2
  | _ :: l => aCat l + 1
def aSw (x : Int) (d : aR) (j : Nat → aR) : List (Int × Nat) → aR
  | [] => d
  | q :: l => if x = q.1 then j q.2 else aSw x d j l
/-- the lengths of the rows, by the objects' numbers -/
def aLens : List Nat := [0, 0, 0, 10, 10, 10, 10, 0, 400, 32, 0, 64, 0, 64, 0, 64, 0, 32, 0, 600, 0, 48, 0, 32, 0, 56, 0, 80, 0, 36, 10, 10, 0, 0, 10, 10, 10, 10, 0, 400, 32, 0, 64, 0, 64, 0, 64, 0, 32, 0, 600, 0, 48, 0, 32, 0, 56, 0, 80, 0, 36, 10, 10, 0, 0, 10, 10, 10, 10, 0, 400, 32, 0, 64, 0, 64, 0, 64, 0, 32, 0, 600, 0, 48, 0, 32, 0, 56, 0, 80, 0, 36, 10, 10, 0, 6, 6, 0, 10, 10, 10, 10, 0, 10, 10, 10, 10, 0, 10, 10, 10, 10, 0, 10, 10, 10, 10, 0, 10, 10, 10, 10, 0, 10, 10, 10, 10, 0, 400, 400, 400, 400, 0, 0, 400, 32, 0, 64, 0, 64, 32, 0, 10, 1024, 1024, 100, 0, 10, 10, 256, 0, 256, 8, 7, 70, 231, 210, 0, 1768, 1768, 246, 41, 64, 820, 48, 400, 420, 11, 10, 1024, 10496, 8, 10, 256, 7, 210, 231]
def aLen (a : Nat) : Nat := aLk aLens a
/-- the String constants: their signs' numbers -/
def aStrs : List (List Nat) := [[99, 111, 109, 101, 32, 108, 111, 110, 103, 32, 115, 104, 121, 32, 119, 104, 101, 110, 32, 111, 114, 32, 97, 110, 100, 32, 110, 111, 116, 32, 100, 101, 101, 114, 32, 109, 97, 114, 107, 32, 99, 97, 108, 109, 32, 115, 105, 110, 99, 101, 32, 99, 97, 109, 101, 32, 115, 97, 108, 116, 32, 110, 111, 105, 115, 101, 32, 103, 97, 116, 101, 32, 115, 101, 97, 115, 111, 110, 32, 116, 111, 100, 97, 121], [111, 110, 32, 115, 97, 108, 116, 32, 110, 111, 105, 115, 101, 32, 103, 97, 116, 101, 32, 101, 97, 116, 32, 102, 114, 101, 101], [100, 117, 101, 32, 111, 110, 32, 97, 102, 116, 101, 114], [102, 101, 97, 115, 116, 32, 102, 111, 114], [59, 43, 45, 42, 47, 40, 41, 60, 61, 62], [119, 104, 101, 110], [111, 114], [97, 110, 100], [110, 111, 116], [99, 111, 109, 101], [108, 111, 110, 103], [115, 104, 121], [100, 101, 101, 114], [109, 97, 114, 107], [99, 97, 108, 109], [115, 105, 110, 99, 101], [99, 97, 109, 101], [115, 97, 108, 116], [110, 111, 105, 115, 101], [103, 97, 116, 101], [115, 101, 97, 115, 111, 110], [116, 111, 100, 97, 121], [111, 110], [101, 97, 116], [102, 114, 101, 101], [100, 117, 101], [97, 102, 116, 101, 114], [102, 101, 97, 115, 116], [102, 111, 114]]
def aStrL (k : Nat) : List Nat := aStrs.getD k []
def aChr (k : Nat) (i : Int) : Int := ((aStrL k).getD i.toNat 0 : Nat)
/-- a builtin's answer: the calls that the kit's rows pay -/
noncomputable def aBlt (f : Nat) (st : List aV) (ls : aL) (M : aM) (kf : aL → List aV → aM → aR) : aR := match f with
  | 0 => match st with
    | .inl n :: .inl dp :: .inr (.inr (t2, b)) :: .inl sp :: .inr (.inr (t1, a)) :: r => bif Nat.beq t1 20 && Nat.beq t2 20 then (if 0 ≤ n ∧ 0 ≤ sp ∧ 0 ≤ dp ∧ sp + n ≤ aLen a ∧ dp + n ≤ aLen b then kf ls r (aCpy M a b sp.toNat dp.toNat n.toNat) else none) else none
    | _ => none
  | 4 => aI2 st fun x y r => kf ls (aI (imax x y) :: r) M
  | 5 => aI2 st fun x y r => kf ls (aI (imin x y) :: r) M
  | 6 => aI1 st fun x r => kf ls (aI (iabs x) :: r) M
  | 7 => aJ2 st fun x y r => kf ls (aJ (imin x y) :: r) M
  | _ => none
/-- one instruction: kf falls through, kj jumps, a return answers -/
noncomputable def aEx (O : aO) (e : aE) (ls : aL) (st : List aV) (M : aM) (kf : aL → List aV → aM → aR) (kj : Nat → aL → List aV → aM → aR) : aR :=
  match e with
  | (_, _, i, _, r1, r2, r3, r4, r5, sw) => match i with
    | .iload _ | .iload_n _ => match aNth ls r1 with | some (.inl x) => kf ls (aI x :: st) M | _ => none
    | .lload _ | .lload_n _ => match aNth ls r1 with | some (.inr (.inl x)) => kf ls (aJ x :: st) M | _ => none
    | .aload _ | .aload_n _ => match aNth ls r1 with | some (.inr (.inr q)) => aRf q (kf ls (.inr (.inr q) :: st) M) | _ => none
    | .istore _ | .istore_n _ => aI1 st fun x r => aSt ls r1 (aI x) fun ls => kf ls r M
    | .astore _ | .astore_n _ => match st with | .inr (.inr q) :: r => aRf q (aSt ls r1 (.inr (.inr q)) fun ls => kf ls r M) | _ => none
    | .lstore _ | .lstore_n _ => aJ1 st fun x r => aSt ls r1 (aJ x) fun ls => kf (aSet ls (r1 + 1) none) r M
    | .iinc _ n => match aNth ls r1 with | some (.inl x) => kf (aSet ls r1 (some (aI (w32 (x + n))))) st M | _ => none
    | .iconst v | .bipush v | .sipush v => kf ls (aI v :: st) M
    | .lconst _ | .ldc2_w _ => kf ls (aJ r5 :: st) M
    | .ldc _ | .ldc_w _ => match r1 with | 0 => kf ls (aI r5 :: st) M | _ => kf ls (aQ 24 r2 :: st) M
    | .iadd => aI2 st fun x y r => kf ls (aI (w32 (x + y)) :: r) M
    | .isub => aI2 st fun x y r => kf ls (aI (w32 (x - y)) :: r) M
    | .imul => aI2 st fun x y r => kf ls (aI (w32 (x * y)) :: r) M
    | .idiv => aI2 st fun x y r => if y = 0 then none else kf ls (aI (idiv x y) :: r) M
    | .irem => aI2 st fun x y r => if y = 0 then none else kf ls (aI (irem x y) :: r) M
    | .ineg => aI1 st fun x r => kf ls (aI (w32 (-x)) :: r) M
    | .iand => aI2 st fun x y r => kf ls (aI (iand x y) :: r) M
    | .ior => aI2 st fun x y r => kf ls (aI (ior x y) :: r) M
    | .ixor => aI2 st fun x y r => kf ls (aI (ixor x y) :: r) M
    | .ishl => aI2 st fun x y r => kf ls (aI (ishl x y) :: r) M
    | .ishr => aI2 st fun x y r => kf ls (aI (ishr x y) :: r) M
    | .iushr => aI2 st fun x y r => kf ls (aI (iushr x y) :: r) M
    | .i2c => aI1 st fun x r => kf ls (aI (i2c x) :: r) M
    | .i2b => aI1 st fun x r => kf ls (aI (i2b x) :: r) M
    | .i2l => aI1 st fun x r => kf ls (aJ x :: r) M
    | .l2i => aJ1 st fun x r => kf ls (aI (l2i x) :: r) M
    | .ladd => aJ2 st fun x y r => kf ls (aJ (w64 (x + y)) :: r) M
    | .lsub => aJ2 st fun x y r => kf ls (aJ (w64 (x - y)) :: r) M
    | .lmul => aJ2 st fun x y r => kf ls (aJ (w64 (x * y)) :: r) M
    | .ldiv => aJ2 st fun x y r => if y = 0 then none else kf ls (aJ (ldiv x y) :: r) M
    | .lrem => aJ2 st fun x y r => if y = 0 then none else kf ls (aJ (lrem x y) :: r) M
    | .lcmp => aJ2 st fun x y r => kf ls (aI (lcmp x y) :: r) M
    | .dup => match st with | .inl x :: r => kf ls (aI x :: aI x :: r) M | .inr (.inr q) :: r => kf ls (.inr (.inr q) :: .inr (.inr q) :: r) M | _ => none
    | .dup2 => match st with | .inl y :: .inr (.inr q) :: r => kf ls (aI y :: .inr (.inr q) :: aI y :: .inr (.inr q) :: r) M | _ => none
    | .pop => match st with | .inl _ :: r => kf ls r M | _ => none
    | .goto _ => kj r1 ls st M
    | .if_icmp c _ => aI2 st fun x y r => match c with
      | .eq => if x = y then kj r1 ls r M else kf ls r M
      | .ne => if x = y then kf ls r M else kj r1 ls r M
      | .lt => if x < y then kj r1 ls r M else kf ls r M
      | .ge => if x < y then kf ls r M else kj r1 ls r M
      | .gt => if y < x then kj r1 ls r M else kf ls r M
      | .le => if y < x then kf ls r M else kj r1 ls r M
    | .ifCond c _ => aI1 st fun x r => match c with
      | .eq => if x = 0 then kj r1 ls r M else kf ls r M
      | .ne => if x = 0 then kf ls r M else kj r1 ls r M
      | .lt => if x < 0 then kj r1 ls r M else kf ls r M
      | .ge => if x < 0 then kf ls r M else kj r1 ls r M
      | .gt => if 0 < x then kj r1 ls r M else kf ls r M
      | .le => if 0 < x then kf ls r M else kj r1 ls r M
    | .ifnonnull _ => aQ1 8 st fun _ r => kj r1 ls r M
    | .tableswitch .. | .lookupswitch .. => aI1 st fun x r => aSw x (kj r1 ls r M) (fun t => kj t ls r M) sw
    | .getfield _ => aQ1 r1 st fun a r => match r3 with | 0 => kf ls (aI (M a r2) :: r) M | 1 => kf ls (aI 0 :: r) M | t + 2 => (match sw with | [] => kf ls (aQ t (a + r4) :: r) M | _ => kf ls (aQ t r4 :: r) M)
    | .getstatic _ => match r1 with | 0 => kf ls (aI 1 :: st) M | _ => kf ls (aQ 26 0 :: st) M
    | .putfield _ => aI1 st fun x r => aQ1 r1 r fun a r => match r3 with | 0 => kf ls r (aUp M a r2 x) | _ => aBool x (kf ls r (aUp M a r2 x))
    | .iaload => aI1 st fun i r => match r with
      | .inr (.inr (20, a)) :: r => inb i (aLen a) (kf ls (aI (M a i.toNat) :: r) M)
      | .inr (.inr (23, _)) :: r => inb i (M 998 0).toNat (kf ls (aI (M 999 i.toNat) :: r) M)
      | _ => none
    | .iastore => aI2 st fun i x r => aQ1 20 r fun a r => inb i (aLen a) (kf ls r (aUp M a i.toNat x))
    | .laload => aI1 st fun i r => aQ1 21 r fun a r => inb i (aLen a) (kf ls (aJ (M a i.toNat) :: r) M)
    | .lastore => aJ1 st fun x r => aI1 r fun i r => aQ1 21 r fun a r => inb i (aLen a) (kf ls r (aUp M a i.toNat x))
    | .aaload => aI1 st fun i r => aQ1 22 r fun a r => inb i (aLen a) (kf ls (aQ 8 (a + 2 + 5 * i.toNat) :: r) M)
    | .arraylength => match st with
      | .inr (.inr (20, a)) :: r => kf ls (aI (aLen a) :: r) M
      | .inr (.inr (21, a)) :: r => kf ls (aI (aLen a) :: r) M
      | .inr (.inr (23, _)) :: r => kf ls (aI (M 998 0) :: r) M
      | .inr (.inr (25, k)) :: r => kf ls (aI (aStrL k).length :: r) M
      | _ => none
    | .baload => aI1 st fun i r => aQ1 25 r fun k r => inb i (aStrL k).length (kf ls (aI (aChr k i) :: r) M)
    | .invokevirtual _ | .invokestatic _ => bif Nat.ble (aCat (st.drop r2)) 8 then (match r3 with
      | 0 => aBlt r1 st ls M kf
      | 1 => bndV (O r1 (st.take r2).reverse M) fun M => kf ls (st.drop r2) M
      | 2 => bndI (O r1 (st.take r2).reverse M) fun v M => kf ls (aI v :: st.drop r2) M
      | 3 => bndJ (O r1 (st.take r2).reverse M) fun v M => kf ls (aJ v :: st.drop r2) M
      | 4 => bndS (O r1 (st.take r2).reverse M) fun k M => kf ls (aQ 24 k :: st.drop r2) M
      | _ => none) else none
    | .ireturn => match st with | [.inl x] => (match r1 with | 0 => some ([aI x], M) | 1 => aBool x (some ([aI x], M)) | 2 => aRng 0 127 x (some ([aI x], M)) | _ => aRng 0 1 x (some ([aI x], M))) | _ => none
    | .lreturn => match st with | [.inr (.inl x)] => some ([aJ x], M) | _ => none
    | .areturn => match st with | [.inr (.inr (24, k))] => some ([aQ 24 k], M) | _ => none
    | .return_ => match st with | [] => some ([], M) | _ => none
    | _ => none
/-- on from a place that isn't a cut to the next cut, which k answers -/
noncomputable def aSeg (O : aO) (cod : List aE) (k : Nat → aL → List aV → aM → aR) (g : Nat) : List aE → aL → List aV → aM → aR :=
  Nat.rec (motive := fun _ => List aE → aL → List aV → aM → aR) (fun _ _ _ _ => none) (fun _ ih l ls st M => match l with
    | [] => none
    | e :: l => aEx O e ls st M
      (fun ls st M => match l with | [] => none | e2 :: l2 => match e2.2.1 with | none => ih (e2 :: l2) ls st M | some m => k e2.1 (aMsk m ls) st M)
      (fun t ls st M => match aFind cod t with | [] => none | e2 :: l2 => match e2.2.1 with | none => ih (e2 :: l2) ls st M | some m => k e2.1 (aMsk m ls) st M)) g
noncomputable def aEv (O : aO) (cod : List aE) (n : Nat) : Nat → aL → List aV → aM → aR :=
  Nat.rec (motive := fun _ => Nat → aL → List aV → aM → aR) (fun _ _ _ _ => none) (fun _ ih pc ls st M => aSeg O cod ih 3000 (aFind cod pc) ls st M) n
/-! one unfolding: an instruction uses its continuations once -/
abbrev aKF : Type := aL → List aV → aM → aR
abbrev aKJ : Type := Nat → aL → List aV → aM → aR
def aTame (F : aKF → aKJ → aR) : Prop := (∃ l s m, ∀ kf kj, F kf kj = kf l s m) ∨ (∃ t l s m, ∀ kf kj, F kf kj = kj t l s m) ∨ (∃ r, ∀ kf kj, F kf kj = some r) ∨ (∀ kf kj, F kf kj = none)
theorem tm_f (l : aL) (s : List aV) (m : aM) : aTame (fun kf _ => kf l s m) := Or.inl ⟨l, s, m, fun _ _ => rfl⟩
theorem tm_j (t : Nat) (l : aL) (s : List aV) (m : aM) : aTame (fun _ kj => kj t l s m) := Or.inr (Or.inl ⟨t, l, s, m, fun _ _ => rfl⟩)
theorem tm_r (r : List aV × aM) : aTame (fun _ _ => some r) := Or.inr (Or.inr (Or.inl ⟨r, fun _ _ => rfl⟩))
theorem tm_n : aTame (fun _ _ => none) := Or.inr (Or.inr (Or.inr fun _ _ => rfl))
theorem tm_ite (c : Prop) (hc : Decidable c) {F G : aKF → aKJ → aR} (h1 : aTame F) (h2 : aTame G) : aTame (fun kf kj => @ite aR c hc (F kf kj) (G kf kj)) := by
  by_cases h : c
  · simpa [h] using h1
  · simpa [h] using h2
theorem tm_bif (c : Bool) {F G : aKF → aKJ → aR} (h1 : aTame F) (h2 : aTame G) : aTame (fun kf kj => bif c then F kf kj else G kf kj) := by
  cases c
  · exact h2
  · exact h1
theorem tm_inb (i : Int) (n : Nat) {F : aKF → aKJ → aR} (h : aTame F) : aTame (fun kf kj => inb i n (F kf kj)) := tm_ite _ _ h tm_n
theorem tm_rf (q : Nat × Nat) {F : aKF → aKJ → aR} (h : aTame F) : aTame (fun kf kj => aRf q (F kf kj)) := tm_bif _ tm_n h
theorem tm_bool (x : Int) {F : aKF → aKJ → aR} (h : aTame F) : aTame (fun kf kj => aBool x (F kf kj)) := tm_ite _ _ h (tm_ite _ _ h tm_n)
theorem tm_I1 (st : List aV) {f : aKF → aKJ → Int → List aV → aR} (h : ∀ x r, aTame (fun kf kj => f kf kj x r)) : aTame (fun kf kj => aI1 st (f kf kj)) := by
  rcases st with _ | ⟨x | x | x, r⟩
  · exact tm_n
  · exact h x r
  · exact tm_n
  · exact tm_n
theorem tm_J1 (st : List aV) {f : aKF → aKJ → Int → List aV → aR} (h : ∀ x r, aTame (fun kf kj => f kf kj x r)) : aTame (fun kf kj => aJ1 st (f kf kj)) := by
  rcases st with _ | ⟨x | x | x, r⟩
  · exact tm_n
  · exact tm_n
  · exact h x r
  · exact tm_n
theorem tm_I2 (st : List aV) {f : aKF → aKJ → Int → Int → List aV → aR} (h : ∀ x y r, aTame (fun kf kj => f kf kj x y r)) : aTame (fun kf kj => aI2 st (f kf kj)) := by
  rcases st with _ | ⟨y | y | y, _ | ⟨x | x | x, r⟩⟩
  all_goals first | exact tm_n | exact h _ _ _
theorem tm_J2 (st : List aV) {f : aKF → aKJ → Int → Int → List aV → aR} (h : ∀ x y r, aTame (fun kf kj => f kf kj x y r)) : aTame (fun kf kj => aJ2 st (f kf kj)) := by
  rcases st with _ | ⟨y | y | y, _ | ⟨x | x | x, r⟩⟩
  all_goals first | exact tm_n | exact h _ _ _
theorem tm_Q1 (t : Nat) (st : List aV) {f : aKF → aKJ → Nat → List aV → aR} (h : ∀ x r, aTame (fun kf kj => f kf kj x r)) : aTame (fun kf kj => aQ1 t st (f kf kj)) := by
  rcases st with _ | ⟨x | x | ⟨t', x⟩, r⟩
  · exact tm_n
  · exact tm_n
  · exact tm_n
  · exact tm_bif _ (h x r) tm_n
theorem tm_V (x : aR) {f : aKF → aKJ → aM → aR} (h : ∀ M, aTame (fun kf kj => f kf kj M)) : aTame (fun kf kj => bndV x (f kf kj)) := by
  rcases x with _ | ⟨_ | ⟨v, l⟩, M⟩
  all_goals first | exact tm_n | exact h _
theorem tm_I (x : aR) {f : aKF → aKJ → Int → aM → aR} (h : ∀ v M, aTame (fun kf kj => f kf kj v M)) : aTame (fun kf kj => bndI x (f kf kj)) := by
  rcases x with _ | ⟨_ | ⟨v | v | v, _ | ⟨w, l⟩⟩, M⟩
  all_goals first | exact tm_n | exact h _ _
theorem tm_J (x : aR) {f : aKF → aKJ → Int → aM → aR} (h : ∀ v M, aTame (fun kf kj => f kf kj v M)) : aTame (fun kf kj => bndJ x (f kf kj)) := by
  rcases x with _ | ⟨_ | ⟨v | v | v, _ | ⟨w, l⟩⟩, M⟩
  all_goals first | exact tm_n | exact h _ _
theorem tm_S (x : aR) {f : aKF → aKJ → Nat → aM → aR} (h : ∀ v M, aTame (fun kf kj => f kf kj v M)) : aTame (fun kf kj => bndS x (f kf kj)) := by
  by_cases hx : ∃ k M, x = some ([.inr (.inr (24, k))], M)
  · obtain ⟨k, M, rfl⟩ := hx
    exact h k M
  · have e : ∀ g, bndS x g = none := by
      intro g
      unfold bndS
      split
      · next k M => exact absurd ⟨k, M, rfl⟩ hx
      · rfl
    simp only [e]
    exact tm_n
theorem tm_St (ls : aL) (i : Nat) (v : aV) {f : aKF → aKJ → aL → aR} (h : ∀ l, aTame (fun kf kj => f kf kj l)) : aTame (fun kf kj => aSt ls i v (f kf kj)) := by
  cases i with
  | zero => exact h _
  | succ j =>
    cases hx : aNth ls j with
    | none =>
      simp only [aSt, hx]
      exact h _
    | some q =>
      rcases q with x | x | x
      all_goals simp only [aSt, hx]
      all_goals first | exact tm_n | exact h _
theorem tm_sw (x : Int) {d : aKF → aKJ → aR} {j : aKF → aKJ → Nat → aR} (hd : aTame d) (hj : ∀ t, aTame (fun kf kj => j kf kj t)) (l : List (Int × Nat)) : aTame (fun kf kj => aSw x (d kf kj) (j kf kj) l) := by
  induction l with
  | nil => exact hd
  | cons q l ih => exact tm_ite _ _ (hj q.2) ih
theorem tm_blt (f : Nat) (st : List aV) (ls : aL) (M : aM) : aTame (fun kf _ => aBlt f st ls M kf) := by
  unfold aBlt
  split
  · rcases st with _ | ⟨n | n | n, _ | ⟨dp | dp | dp, _ | ⟨b | b | ⟨t2, b⟩, _ | ⟨sp | sp | sp, _ | ⟨a | a | ⟨t1, a⟩, r⟩⟩⟩⟩⟩
    all_goals first | exact tm_n | exact tm_bif _ (tm_ite _ _ (tm_f _ _ _) tm_n) tm_n
  · exact tm_I2 _ fun x y r => tm_f _ _ _
  · exact tm_I2 _ fun x y r => tm_f _ _ _
  · exact tm_I1 _ fun x r => tm_f _ _ _
  · exact tm_J2 _ fun x y r => tm_f _ _ _
  · exact tm_n
set_option maxHeartbeats 4000000 in
theorem aEx_tame (O : aO) (e : aE) (ls : aL) (st : List aV) (M : aM) : aTame (fun kf kj => aEx O e ls st M kf kj) := by
  obtain ⟨pc, mk, i, len, r1, r2, r3, r4, r5, sw⟩ := e
  cases i
  case aload | aload_n =>
    unfold aEx; dsimp only
    rcases aNth ls r1 with _ | (x | x | x)
    all_goals first | exact tm_n | exact tm_rf _ (tm_f _ _ _)
  case iload | iload_n | lload | lload_n | iinc =>
    unfold aEx; dsimp only
    rcases aNth ls r1 with _ | (x | x | x)
    all_goals first | exact tm_n | exact tm_f _ _ _
  case istore | istore_n => exact tm_I1 _ fun x r => tm_St _ _ _ fun l => tm_f _ _ _
  case lstore | lstore_n => exact tm_J1 _ fun x r => tm_St _ _ _ fun l => tm_f _ _ _
  case astore | astore_n =>
    unfold aEx; dsimp only
    rcases st with _ | ⟨x | x | x, r⟩
    all_goals first | exact tm_n | exact tm_rf _ (tm_St _ _ _ fun l => tm_f _ _ _)
  case iconst | bipush | sipush | lconst | ldc2_w => exact tm_f _ _ _
  case ldc | ldc_w =>
    unfold aEx; dsimp only
    cases r1 <;> exact tm_f _ _ _
  case iadd | isub | imul | iand | ior | ixor | ishl | ishr | iushr => exact tm_I2 _ fun x y r => tm_f _ _ _
  case idiv | irem => exact tm_I2 _ fun x y r => tm_ite _ _ tm_n (tm_f _ _ _)
  case ineg | i2c | i2l | i2b => exact tm_I1 _ fun x r => tm_f _ _ _
  case l2i => exact tm_J1 _ fun x r => tm_f _ _ _
  case ladd | lsub | lmul | lcmp => exact tm_J2 _ fun x y r => tm_f _ _ _
  case ldiv | lrem => exact tm_J2 _ fun x y r => tm_ite _ _ tm_n (tm_f _ _ _)
  case ifnonnull => exact tm_Q1 _ _ fun _ r => tm_j _ _ _ _
  case getstatic =>
    unfold aEx; dsimp only
    cases r1 <;> exact tm_f _ _ _
  case baload => exact tm_I1 _ fun i r => tm_Q1 _ _ fun k r => tm_inb _ _ (tm_f _ _ _)
  case dup | pop =>
    unfold aEx; dsimp only
    rcases st with _ | ⟨x | x | x, r⟩
    all_goals first | exact tm_n | exact tm_f _ _ _ | exact tm_j _ _ _ _
  case dup2 =>
    unfold aEx; dsimp only
    rcases st with _ | ⟨x | x | x, _ | ⟨y | y | y, r⟩⟩
    all_goals first | exact tm_n | exact tm_f _ _ _
  case goto => exact tm_j _ _ _ _
  case if_icmp c _ =>
    refine tm_I2 _ fun x y r => ?_
    cases c
    all_goals first | exact tm_ite _ _ (tm_j _ _ _ _) (tm_f _ _ _) | exact tm_ite _ _ (tm_f _ _ _) (tm_j _ _ _ _)
  case ifCond c _ =>
    refine tm_I1 _ fun x r => ?_
    cases c
    all_goals first | exact tm_ite _ _ (tm_j _ _ _ _) (tm_f _ _ _) | exact tm_ite _ _ (tm_f _ _ _) (tm_j _ _ _ _)
  case tableswitch | lookupswitch => exact tm_I1 _ fun x r => tm_sw x (tm_j _ _ _ _) (fun t => tm_j _ _ _ _) _
  case getfield =>
    refine tm_Q1 _ _ fun a r => ?_
    cases r3 with
    | zero => exact tm_f _ _ _
    | succ t =>
      cases t with
      | zero => exact tm_f _ _ _
      | succ t => cases sw <;> exact tm_f _ _ _
  case putfield =>
    refine tm_I1 _ fun x r => tm_Q1 _ _ fun a r => ?_
    cases r3 with
    | zero => exact tm_f _ _ _
    | succ t => exact tm_bool _ (tm_f _ _ _)
  case iaload =>
    refine tm_I1 _ fun i r => ?_
    split
    · exact tm_inb _ _ (tm_f _ _ _)
    · exact tm_inb _ _ (tm_f _ _ _)
    · exact tm_n
  case iastore => exact tm_I2 _ fun i x r => tm_Q1 _ _ fun a r => tm_inb _ _ (tm_f _ _ _)
  case laload => exact tm_I1 _ fun i r => tm_Q1 _ _ fun a r => tm_inb _ _ (tm_f _ _ _)
  case lastore => exact tm_J1 _ fun x r => tm_I1 _ fun i r => tm_Q1 _ _ fun a r => tm_inb _ _ (tm_f _ _ _)
  case aaload => exact tm_I1 _ fun i r => tm_Q1 _ _ fun a r => tm_inb _ _ (tm_f _ _ _)
  case arraylength =>
    unfold aEx; dsimp only
    split
    · exact tm_f _ _ _
    · exact tm_f _ _ _
    · exact tm_f _ _ _
    · exact tm_f _ _ _
    · exact tm_n
  case invokevirtual | invokestatic =>
    refine tm_bif _ ?_ tm_n
    split
    · exact tm_blt _ _ _ _
    · exact tm_V _ fun M => tm_f _ _ _
    · exact tm_I _ fun v M => tm_f _ _ _
    · exact tm_J _ fun v M => tm_f _ _ _
    · exact tm_S _ fun v M => tm_f _ _ _
    · exact tm_n
  case ireturn =>
    unfold aEx; dsimp only
    rcases st with _ | ⟨x | x | x, _ | ⟨y, r⟩⟩
    all_goals first | exact tm_n | skip
    rcases r1 with _ | _ | _ | r1
    · exact tm_r _
    · exact tm_bool _ (tm_r _)
    · exact tm_ite _ _ (tm_r _) tm_n
    · exact tm_ite _ _ (tm_r _) tm_n
  case lreturn =>
    unfold aEx; dsimp only
    rcases st with _ | ⟨x | x | x, _ | ⟨y, r⟩⟩
    all_goals first | exact tm_n | exact tm_r _
  case areturn =>
    unfold aEx; dsimp only
    split
    · exact tm_r _
    · exact tm_n
  case return_ =>
    unfold aEx; dsimp only
    cases st
    · exact tm_r _
    · exact tm_n
  all_goals exact tm_n
abbrev aKC : Type := Nat → aL → List aV → aM → aR
/-- a stretch of code uses the answer at the next cut once -/
def aTameC (F : aKC → aR) : Prop := (∃ t l s m, ∀ k, F k = k t l s m) ∨ (∃ r, ∀ k, F k = some r) ∨ (∀ k, F k = none)
theorem aSeg_tame (O : aO) (cod : List aE) (g : Nat) : ∀ (l : List aE) (ls : aL) (st : List aV) (M : aM), aTameC (fun k => aSeg O cod k g l ls st M) := by
  induction g with
  | zero => exact fun _ _ _ _ => Or.inr (Or.inr fun _ => rfl)
  | succ g ih =>
    intro l ls st M
    cases l with
    | nil => exact Or.inr (Or.inr fun _ => rfl)
    | cons e l =>
      have step : ∀ k, aSeg O cod k (g + 1) (e :: l) ls st M = aEx O e ls st M
        (fun ls st M => match l with | [] => none | e2 :: l2 => match e2.2.1 with | none => aSeg O cod k g (e2 :: l2) ls st M | some m => k e2.1 (aMsk m ls) st M)
        (fun t ls st M => match aFind cod t with | [] => none | e2 :: l2 => match e2.2.1 with | none => aSeg O cod k g (e2 :: l2) ls st M | some m => k e2.1 (aMsk m ls) st M) := fun k => rfl
      have leaf : ∀ (l : List aE) (ls : aL) (st : List aV) (M : aM), aTameC (fun k => match l with | [] => none | e2 :: l2 => match e2.2.1 with | none => aSeg O cod k g (e2 :: l2) ls st M | some m => k e2.1 (aMsk m ls) st M) := by
        intro l ls st M
        cases l with
        | nil => exact Or.inr (Or.inr fun _ => rfl)
        | cons e2 l2 =>
          dsimp only
          cases e2.2.1 with
          | none => exact ih _ _ _ _
          | some m => exact Or.inl ⟨_, _, _, _, fun _ => rfl⟩
      rcases aEx_tame O e ls st M with ⟨l', s', m', h⟩ | ⟨t, l', s', m', h⟩ | ⟨r, h⟩ | h
      · rw [show (fun k => aSeg O cod k (g + 1) (e :: l) ls st M) = _ from funext fun k => (step k).trans (h _ _)]
        exact leaf l l' s' m'
      · rw [show (fun k => aSeg O cod k (g + 1) (e :: l) ls st M) = _ from funext fun k => (step k).trans (h _ _)]
        exact leaf (aFind cod t) l' s' m'
      · exact Or.inr (Or.inl ⟨r, fun k => (step k).trans (h _ _)⟩)
      · exact Or.inr (Or.inr fun k => (step k).trans (h _ _))
noncomputable def aLim (f : Nat → aR) : aR := @dite _ (∃ r n, f n = some r) (Classical.propDecidable _) (fun h => some (Classical.choose h)) (fun _ => none)
noncomputable def aOm (O : aO) (cod : List aE) (pc : Nat) (ls : aL) (st : List aV) (M : aM) : aR := aLim fun n => aEv O cod n pc ls st M
theorem aEv_succ (O : aO) (cod : List aE) (n pc : Nat) (ls : aL) (st : List aV) (M : aM) : aEv O cod (n + 1) pc ls st M = aSeg O cod (aEv O cod n) 3000 (aFind cod pc) ls st M := rfl
theorem aEv_mono (O : aO) (cod : List aE) (n : Nat) : ∀ (pc : Nat) (ls : aL) (st : List aV) (M : aM) (r : List aV × aM), aEv O cod n pc ls st M = some r → aEv O cod (n + 1) pc ls st M = some r := by
  induction n with
  | zero => intro pc ls st M r h; cases h
  | succ n ih =>
    intro pc ls st M r h
    rw [aEv_succ] at h ⊢
    rcases aSeg_tame O cod 3000 (aFind cod pc) ls st M with ⟨t, l, s, m, e⟩ | ⟨r', e⟩ | e
    · have e1 := e (aEv O cod n)
      have e2 := e (aEv O cod (n + 1))
      dsimp only at e1 e2
      rw [e1] at h
      rw [e2]
      exact ih _ _ _ _ _ h
    · have e1 := e (aEv O cod n)
      have e2 := e (aEv O cod (n + 1))
      dsimp only at e1 e2
      rw [e1] at h
      rw [e2]
      exact h
    · have e1 := e (aEv O cod n)
      dsimp only at e1
      rw [e1] at h
      cases h
theorem aEv_le (O : aO) (cod : List aE) {n m : Nat} (hnm : n ≤ m) {pc : Nat} {ls : aL} {st : List aV} {M : aM} {r : List aV × aM} (h : aEv O cod n pc ls st M = some r) : aEv O cod m pc ls st M = some r := by
  induction hnm with
  | refl => exact h
  | step _ ih => exact aEv_mono _ _ _ _ _ _ _ _ ih
theorem aOm_iff (O : aO) (cod : List aE) (pc : Nat) (ls : aL) (st : List aV) (M : aM) (r : List aV × aM) : aOm O cod pc ls st M = some r ↔ ∃ n, aEv O cod n pc ls st M = some r := by
  unfold aOm aLim
  constructor
  · intro h
    split at h
    · next hx =>
      obtain ⟨n, hn⟩ := Classical.choose_spec hx
      cases h
      exact ⟨n, hn⟩
    · cases h
  · rintro ⟨n, hn⟩
    have hx : ∃ r n, aEv O cod n pc ls st M = some r := ⟨r, n, hn⟩
    rw [dif_pos hx]
    obtain ⟨m, hm⟩ := Classical.choose_spec hx
    have h1 := aEv_le O cod (Nat.le_max_left n m) hn
    have h2 := aEv_le O cod (Nat.le_max_right n m) hm
    exact h2.symm.trans h1
theorem aOm_fix (O : aO) (cod : List aE) (pc : Nat) (ls : aL) (st : List aV) (M : aM) : aOm O cod pc ls st M = aSeg O cod (aOm O cod) 3000 (aFind cod pc) ls st M := by
  have key : ∀ r, aOm O cod pc ls st M = some r ↔ aSeg O cod (aOm O cod) 3000 (aFind cod pc) ls st M = some r := by
    intro r
    rw [aOm_iff]
    rcases aSeg_tame O cod 3000 (aFind cod pc) ls st M with ⟨t, l, s, m, e⟩ | ⟨r', e⟩ | e
    · have e1 := e (aOm O cod)
      dsimp only at e1
      rw [e1, aOm_iff]
      constructor
      · rintro ⟨n, hn⟩
        cases n with
        | zero => cases hn
        | succ n =>
          have e2 := e (aEv O cod n)
          dsimp only at e2
          rw [aEv_succ, e2] at hn
          exact ⟨n, hn⟩
      · rintro ⟨n, hn⟩
        have e2 := e (aEv O cod n)
        dsimp only at e2
        exact ⟨n + 1, by rw [aEv_succ, e2]; exact hn⟩
    · have e1 := e (aOm O cod)
      dsimp only at e1
      rw [e1]
      constructor
      · rintro ⟨n, hn⟩
        cases n with
        | zero => cases hn
        | succ n =>
          have e2 := e (aEv O cod n)
          dsimp only at e2
          rw [aEv_succ, e2] at hn
          exact hn
      · intro h
        have e2 := e (aEv O cod 0)
        dsimp only at e2
        exact ⟨1, by rw [aEv_succ, e2]; exact h⟩
    · have e1 := e (aOm O cod)
      dsimp only at e1
      rw [e1]
      constructor
      · rintro ⟨n, hn⟩
        cases n with
        | zero => cases hn
        | succ n =>
          have e2 := e (aEv O cod n)
          dsimp only at e2
          rw [aEv_succ, e2] at hn
          exact hn
      · intro h
        cases h
  cases h1 : aSeg O cod (aOm O cod) 3000 (aFind cod pc) ls st M with
  | some r => exact (key r).2 h1
  | none =>
    cases h2 : aOm O cod pc ls st M with
    | none => rfl
    | some r => rw [(key r).1 h2] at h1; cases h1
