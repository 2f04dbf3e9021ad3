section
/-! An abstract machine over a memory of whole numbers: objects by their number, a place by its number. -/
abbrev aV : Type := Int ⊕ Int ⊕ (Nat × Nat)
abbrev aM : Type := Nat → Nat → Int
abbrev aL : Type := List (Option aV)
abbrev aR : Type := Option (List aV × aM)
abbrev aO : Type := Nat → List aV → aM → aR
/-- pc, mask of a cut, instruction, length, r1, r2, r3, r4, r5, targets of a switch -/
abbrev aE : Type := Nat × Option (List Bool) × Instr × Nat × Nat × Nat × Nat × Nat × Int × List (Int × Nat)
abbrev aI (x : Int) : aV := .inl x
abbrev aJ (x : Int) : aV := .inr (.inl x)
abbrev aQ (t a : Nat) : aV := .inr (.inr (t, a))
theorem w32_ex : ∃ f : Int → Int, ∀ x : Int, f x = (x + 2147483648) % 4294967296 - 2147483648 := ⟨fun x => (x + 2147483648) % 4294967296 - 2147483648, fun _  => rfl⟩
noncomputable def w32 : Int → Int := Classical.choose w32_ex
theorem w32_def (x : Int) : w32 x = (x + 2147483648) % 4294967296 - 2147483648 := Classical.choose_spec w32_ex x
theorem w64_ex : ∃ f : Int → Int, ∀ x : Int, f x = (x + 9223372036854775808) % 18446744073709551616 - 9223372036854775808 := ⟨fun x => (x + 9223372036854775808) % 18446744073709551616 - 9223372036854775808, fun _  => rfl⟩
noncomputable def w64 : Int → Int := Classical.choose w64_ex
theorem w64_def (x : Int) : w64 x = (x + 9223372036854775808) % 18446744073709551616 - 9223372036854775808 := Classical.choose_spec w64_ex x
theorem iand_ex : ∃ f : Int → Int → Int, ∀ x y : Int, f x y = (Int32.ofInt x &&& Int32.ofInt y).toInt := ⟨fun x y => (Int32.ofInt x &&& Int32.ofInt y).toInt, fun _ _  => rfl⟩
noncomputable def iand : Int → Int → Int := Classical.choose iand_ex
theorem iand_def (x y : Int) : iand x y = (Int32.ofInt x &&& Int32.ofInt y).toInt := Classical.choose_spec iand_ex x y
theorem ior_ex : ∃ f : Int → Int → Int, ∀ x y : Int, f x y = (Int32.ofInt x ||| Int32.ofInt y).toInt := ⟨fun x y => (Int32.ofInt x ||| Int32.ofInt y).toInt, fun _ _  => rfl⟩
noncomputable def ior : Int → Int → Int := Classical.choose ior_ex
theorem ior_def (x y : Int) : ior x y = (Int32.ofInt x ||| Int32.ofInt y).toInt := Classical.choose_spec ior_ex x y
theorem ixor_ex : ∃ f : Int → Int → Int, ∀ x y : Int, f x y = (Int32.ofInt x ^^^ Int32.ofInt y).toInt := ⟨fun x y => (Int32.ofInt x ^^^ Int32.ofInt y).toInt, fun _ _  => rfl⟩
noncomputable def ixor : Int → Int → Int := Classical.choose ixor_ex
theorem ixor_def (x y : Int) : ixor x y = (Int32.ofInt x ^^^ Int32.ofInt y).toInt := Classical.choose_spec ixor_ex x y
theorem ishl_ex : ∃ f : Int → Int → Int, ∀ x y : Int, f x y = w32 (x * 2 ^ (y % 32).toNat) := ⟨fun x y => w32 (x * 2 ^ (y % 32).toNat), fun _ _  => rfl⟩
noncomputable def ishl : Int → Int → Int := Classical.choose ishl_ex
theorem ishl_def (x y : Int) : ishl x y = w32 (x * 2 ^ (y % 32).toNat) := Classical.choose_spec ishl_ex x y
theorem ishr_ex : ∃ f : Int → Int → Int, ∀ x y : Int, f x y = x / 2 ^ (y % 32).toNat := ⟨fun x y => x / 2 ^ (y % 32).toNat, fun _ _  => rfl⟩
noncomputable def ishr : Int → Int → Int := Classical.choose ishr_ex
theorem ishr_def (x y : Int) : ishr x y = x / 2 ^ (y % 32).toNat := Classical.choose_spec ishr_ex x y
theorem iushr_ex : ∃ f : Int → Int → Int, ∀ x y : Int, f x y = w32 (x % 4294967296 / 2 ^ (y % 32).toNat) := ⟨fun x y => w32 (x % 4294967296 / 2 ^ (y % 32).toNat), fun _ _  => rfl⟩
noncomputable def iushr : Int → Int → Int := Classical.choose iushr_ex
theorem iushr_def (x y : Int) : iushr x y = w32 (x % 4294967296 / 2 ^ (y % 32).toNat) := Classical.choose_spec iushr_ex x y
theorem idiv_ex : ∃ f : Int → Int → Int, ∀ x y : Int, f x y = w32 (x.tdiv y) := ⟨fun x y => w32 (x.tdiv y), fun _ _  => rfl⟩
noncomputable def idiv : Int → Int → Int := Classical.choose idiv_ex
theorem idiv_def (x y : Int) : idiv x y = w32 (x.tdiv y) := Classical.choose_spec idiv_ex x y
theorem irem_ex : ∃ f : Int → Int → Int, ∀ x y : Int, f x y = x.tmod y := ⟨fun x y => x.tmod y, fun _ _  => rfl⟩
noncomputable def irem : Int → Int → Int := Classical.choose irem_ex
theorem irem_def (x y : Int) : irem x y = x.tmod y := Classical.choose_spec irem_ex x y
theorem ldiv_ex : ∃ f : Int → Int → Int, ∀ x y : Int, f x y = w64 (x.tdiv y) := ⟨fun x y => w64 (x.tdiv y), fun _ _  => rfl⟩
noncomputable def ldiv : Int → Int → Int := Classical.choose ldiv_ex
theorem ldiv_def (x y : Int) : ldiv x y = w64 (x.tdiv y) := Classical.choose_spec ldiv_ex x y
theorem lrem_ex : ∃ f : Int → Int → Int, ∀ x y : Int, f x y = x.tmod y := ⟨fun x y => x.tmod y, fun _ _  => rfl⟩
noncomputable def lrem : Int → Int → Int := Classical.choose lrem_ex
theorem lrem_def (x y : Int) : lrem x y = x.tmod y := Classical.choose_spec lrem_ex x y
def lcmp (x y : Int) : Int := if x < y then -1 else if x = y then 0 else 1
def imax (x y : Int) : Int := if x < y then y else x
def imin (x y : Int) : Int := if x < y then x else y
noncomputable def iabs (x : Int) : Int := if x < 0 then w32 (-x) else x
def aUp (M : aM) (a j : Nat) (x : Int) : aM := fun b k => if b = a ∧ k = j then x else M b k
def aCpy (M : aM) (a b : Nat) (sp dp n : Nat) : aM := fun c k => if c = b ∧ dp ≤ k ∧ k < dp + n then M a (sp + (k - dp)) else M c k
def aNth : aL → Nat → Option aV
  | [], _ => none
  | o :: _, 0 => o
  | _ :: l, n + 1 => aNth l n
def aSet : aL → Nat → Option aV → aL
  | [], _, _ => []
  | _ :: l, 0, v => v :: l
  | o :: l, n + 1, v => o :: aSet l n v
def aMsk : List Bool → aL → aL
  | true :: m, o :: l => o :: aMsk m l
  | false :: m, _ :: l => none :: aMsk m l
  | _, _ => []
def aLk : List Nat → Nat → Nat
  | [], _ => 0
  | x :: _, 0 => x
  | _ :: l, n + 1 => aLk l n
def aFind : List aE → Nat → List aE
  | [], _ => []
  | e :: l, pc => bif Nat.beq e.1 pc then e :: l else aFind l pc
def inb (i : Int) (n : Nat) (k : aR) : aR := if 0 ≤ i ∧ i < n then k else none
def aI1 (st : List aV) (f : Int → List aV → aR) : aR := match st with | .inl x :: r => f x r | _ => none
def aI2 (st : List aV) (f : Int → Int → List aV → aR) : aR := match st with | .inl y :: .inl x :: r => f x y r | _ => none
def aJ1 (st : List aV) (f : Int → List aV → aR) : aR := match st with | .inr (.inl x) :: r => f x r | _ => none
def aJ2 (st : List aV) (f : Int → Int → List aV → aR) : aR := match st with | .inr (.inl y) :: .inr (.inl x) :: r => f x y r | _ => none
def aQ1 (t : Nat) (st : List aV) (f : Nat → List aV → aR) : aR := match st with | .inr (.inr (t', a)) :: r => bif Nat.beq t' t then f a r else none | _ => none
/-- a store to a place behind a long of two places is none of this machine's -/
def aSt (ls : aL) (i : Nat) (v : aV) (k : aL → aR) : aR := match i with
  | 0 => k (aSet ls 0 (some v))
  | j + 1 => match aNth ls j with
    | some (.inr (.inl _)) => none
    | _ => k (aSet ls (j + 1) (some v))
def bndV (x : aR) (k : aM → aR) : aR := match x with | some ([], M) => k M | _ => none
def bndI (x : aR) (k : Int → aM → aR) : aR := match x with | some ([.inl v], M) => k v M | _ => none
def bndJ (x : aR) (k : Int → aM → aR) : aR := match x with | some ([.inr (.inl v)], M) => k v M | _ => none
def bndS (x : aR) (k : Nat → aM → aR) : aR := match x with | some ([.inr (.inr (24, a))], M) => k a M | _ => none
def aBool (x : Int) (k : aR) : aR := if x = 0 then k else if x = 1 then k else none
def aRng (lo hi x : Int) (k : aR) : aR := if lo ≤ x ∧ x ≤ hi then k else none
def aCat : List aV → Nat
  | [] => 0
  | .inr (.inl _) :: l => aCat l + 2
  | _ :: l => aCat l + 1
def aSw (x : Int) (d : aR) (j : Nat → aR) : List (Int × Nat) → aR
  | [] => d
  | q :: l => if x = q.1 then j q.2 else aSw x d j l
/-- the lengths of the rows, by the objects' numbers -/
def aLens : List Nat := [0, 0, 0, 10, 10, 10, 10, 0, 400, 32, 0, 64, 0, 64, 0, 64, 0, 32, 0, 600, 0, 48, 0, 32, 0, 56, 0, 80, 0, 36, 10, 10, 0, 0, 10, 10, 10, 10, 0, 400, 32, 0, 64, 0, 64, 0, 64, 0, 32, 0, 600, 0, 48, 0, 32, 0, 56, 0, 80, 0, 36, 10, 10, 0, 0, 10, 10, 10, 10, 0, 400, 32, 0, 64, 0, 64, 0, 64, 0, 32, 0, 600, 0, 48, 0, 32, 0, 56, 0, 80, 0, 36, 10, 10, 0, 6, 6, 0, 10, 10, 10, 10, 0, 10, 10, 10, 10, 0, 10, 10, 10, 10, 0, 10, 10, 10, 10, 0, 10, 10, 10, 10, 0, 10, 10, 10, 10, 0, 400, 400, 400, 400, 0, 0, 400, 32, 0, 64, 0, 64, 32, 0, 10, 1024, 1024, 100, 0, 10, 10, 256, 0, 256, 8, 7, 70, 231, 210, 0, 1768, 1768, 246, 41, 64, 820, 48, 400, 420, 11, 10, 1024, 10496, 8, 10, 256, 7, 210, 231]
def aLen (a : Nat) : Nat := aLk aLens a
/-- the String constants: their signs' numbers -/
def aStrs : List (List Nat) := [[99, 111, 109, 101, 32, 108, 111, 110, 103, 32, 115, 104, 121, 32, 119, 104, 101, 110, 32, 111, 114, 32, 97, 110, 100, 32, 110, 111, 116, 32, 100, 101, 101, 114, 32, 109, 97, 114, 107, 32, 99, 97, 108, 109, 32, 115, 105, 110, 99, 101, 32, 99, 97, 109, 101, 32, 115, 97, 108, 116, 32, 110, 111, 105, 115, 101, 32, 103, 97, 116, 101, 32, 115, 101, 97, 115, 111, 110, 32, 116, 111, 100, 97, 121], [111, 110, 32, 115, 97, 108, 116, 32, 110, 111, 105, 115, 101, 32, 103, 97, 116, 101, 32, 101, 97, 116, 32, 102, 114, 101, 101], [100, 117, 101, 32, 111, 110, 32, 97, 102, 116, 101, 114], [102, 101, 97, 115, 116, 32, 102, 111, 114], [59, 43, 45, 42, 47, 40, 41, 60, 61, 62], [119, 104, 101, 110], [111, 114], [97, 110, 100], [110, 111, 116], [99, 111, 109, 101], [108, 111, 110, 103], [115, 104, 121], [100, 101, 101, 114], [109, 97, 114, 107], [99, 97, 108, 109], [115, 105, 110, 99, 101], [99, 97, 109, 101], [115, 97, 108, 116], [110, 111, 105, 115, 101], [103, 97, 116, 101], [115, 101, 97, 115, 111, 110], [116, 111, 100, 97, 121], [111, 110], [101, 97, 116], [102, 114, 101, 101], [100, 117, 101], [97, 102, 116, 101, 114], [102, 101, 97, 115, 116], [102, 111, 114]]
def aStrL (k : Nat) : List Nat := aStrs.getD k []
def aChr (k : Nat) (i : Int) : Int := ((aStrL k).getD i.toNat 0 : Nat)
/-- a builtin's answer: the calls that the kit's rows pay -/
noncomputable def aBlt (f : Nat) (st : List aV) (ls : aL) (M : aM) (kf : aL → List aV → aM → aR) : aR := match f with
  | 0 => match st with
    | .inl n :: .inl dp :: .inr (.inr (t2, b)) :: .inl sp :: .inr (.inr (t1, a)) :: r => bif Nat.beq t1 20 && Nat.beq t2 20 then (if 0 ≤ n ∧ 0 ≤ sp ∧ 0 ≤ dp ∧ sp + n ≤ aLen a ∧ dp + n ≤ aLen b then kf ls r (aCpy M a b sp.toNat dp.toNat n.toNat) else none) else none
    | _ => none
  | 4 => aI2 st fun x y r => kf ls (aI (imax x y) :: r) M
  | 5 => aI2 st fun x y r => kf ls (aI (imin x y) :: r) M
  | 6 => aI1 st fun x r => kf ls (aI (iabs x) :: r) M
  | 7 => aJ2 st fun x y r => kf ls (aJ (imin x y) :: r) M
  | _ => none
/-- one instruction: kf falls through, kj jumps, a return answers -/
noncomputable def aEx (O : aO) (e : aE) (ls : aL) (st : List aV) (M : aM) (kf : aL → List aV → aM → aR) (kj : Nat → aL → List aV → aM → aR) : aR :=
  match e with
  | (_, _, i, _, r1, r2, r3, r4, r5, sw) => match i with
    | .iload _ | .iload_n _ => match aNth ls r1 with | some (.inl x) => kf ls (aI x :: st) M | _ => none
    | .lload _ | .lload_n _ => match aNth ls r1 with | some (.inr (.inl x)) => kf ls (aJ x :: st) M | _ => none
    | .aload _ | .aload_n _ => match aNth ls r1 with | some (.inr (.inr q)) => kf ls (.inr (.inr q) :: st) M | _ => none
    | .istore _ | .istore_n _ => aI1 st fun x r => aSt ls r1 (aI x) fun ls => kf ls r M
    | .astore _ | .astore_n _ => match st with | .inr (.inr q) :: r => aSt ls r1 (.inr (.inr q)) fun ls => kf ls r M | _ => none
    | .lstore _ | .lstore_n _ => aJ1 st fun x r => aSt ls r1 (aJ x) fun ls => kf (aSet ls (r1 + 1) none) r M
    | .iinc _ n => match aNth ls r1 with | some (.inl x) => kf (aSet ls r1 (some (aI (w32 (x + n))))) st M | _ => none
    | .iconst v | .bipush v | .sipush v => kf ls (aI v :: st) M
    | .lconst _ | .ldc2_w _ => kf ls (aJ r5 :: st) M
    | .ldc _ | .ldc_w _ => match r1 with | 0 => kf ls (aI r5 :: st) M | _ => kf ls (aQ 24 r2 :: st) M
    | .iadd => aI2 st fun x y r => kf ls (aI (w32 (x + y)) :: r) M
    | .isub => aI2 st fun x y r => kf ls (aI (w32 (x - y)) :: r) M
    | .imul => aI2 st fun x y r => kf ls (aI (w32 (x * y)) :: r) M
    | .idiv => aI2 st fun x y r => if y = 0 then none else kf ls (aI (idiv x y) :: r) M
    | .irem => aI2 st fun x y r => if y = 0 then none else kf ls (aI (irem x y) :: r) M
    | .ineg => aI1 st fun x r => kf ls (aI (w32 (-x)) :: r) M
    | .iand => aI2 st fun x y r => kf ls (aI (iand x y) :: r) M
    | .ior => aI2 st fun x y r => kf ls (aI (ior x y) :: r) M
    | .ixor => aI2 st fun x y r => kf ls (aI (ixor x y) :: r) M
    | .ishl => aI2 st fun x y r => kf ls (aI (ishl x y) :: r) M
    | .ishr => aI2 st fun x y r => kf ls (aI (ishr x y) :: r) M
    | .iushr => aI2 st fun x y r => kf ls (aI (iushr x y) :: r) M
    | .i2c => aI1 st fun x r => kf ls (aI (x % 65536) :: r) M
    | .i2b => aI1 st fun x r => kf ls (aI ((x + 128) % 256 - 128) :: r) M
    | .i2l => aI1 st fun x r => kf ls (aJ x :: r) M
    | .l2i => aJ1 st fun x r => kf ls (aI (w32 x) :: r) M
    | .ladd => aJ2 st fun x y r => kf ls (aJ (w64 (x + y)) :: r) M
    | .lsub => aJ2 st fun x y r => kf ls (aJ (w64 (x - y)) :: r) M
    | .lmul => aJ2 st fun x y r => kf ls (aJ (w64 (x * y)) :: r) M
    | .ldiv => aJ2 st fun x y r => if y = 0 then none else kf ls (aJ (ldiv x y) :: r) M
    | .lrem => aJ2 st fun x y r => if y = 0 then none else kf ls (aJ (lrem x y) :: r) M
    | .lcmp => aJ2 st fun x y r => kf ls (aI (lcmp x y) :: r) M
    | .dup => match st with | .inl x :: r => kf ls (aI x :: aI x :: r) M | .inr (.inr q) :: r => kf ls (.inr (.inr q) :: .inr (.inr q) :: r) M | _ => none
    | .dup2 => match st with | .inl y :: .inr (.inr q) :: r => kf ls (aI y :: .inr (.inr q) :: aI y :: .inr (.inr q) :: r) M | _ => none
    | .pop => match st with | .inl _ :: r => kf ls r M | _ => none
    | .goto _ => kj r1 ls st M
    | .if_icmp c _ => aI2 st fun x y r => match c with
      | .eq => if x = y then kj r1 ls r M else kf ls r M
      | .ne => if x = y then kf ls r M else kj r1 ls r M
      | .lt => if x < y then kj r1 ls r M else kf ls r M
      | .ge => if x < y then kf ls r M else kj r1 ls r M
      | .gt => if y < x then kj r1 ls r M else kf ls r M
      | .le => if y < x then kf ls r M else kj r1 ls r M
    | .ifCond c _ => aI1 st fun x r => match c with
      | .eq => if x = 0 then kj r1 ls r M else kf ls r M
      | .ne => if x = 0 then kf ls r M else kj r1 ls r M
      | .lt => if x < 0 then kj r1 ls r M else kf ls r M
      | .ge => if x < 0 then kf ls r M else kj r1 ls r M
      | .gt => if 0 < x then kj r1 ls r M else kf ls r M
      | .le => if 0 < x then kf ls r M else kj r1 ls r M
    | .ifnonnull _ => aQ1 8 st fun _ r => kj r1 ls r M
    | .tableswitch .. | .lookupswitch .. => aI1 st fun x r => aSw x (kj r1 ls r M) (fun t => kj t ls r M) sw
    | .getfield _ => aQ1 r1 st fun a r => match r3 with | 0 => kf ls (aI (M a r2) :: r) M | 1 => kf ls (aI 0 :: r) M | t + 2 => (match sw with | [] => kf ls (aQ t (a + r4) :: r) M | _ => kf ls (aQ t r4 :: r) M)
    | .getstatic _ => match r1 with | 0 => kf ls (aI 1 :: st) M | _ => kf ls (aQ 26 0 :: st) M
    | .putfield _ => aI1 st fun x r => aQ1 r1 r fun a r => match r3 with | 0 => kf ls r (aUp M a r2 x) | _ => aBool x (kf ls r (aUp M a r2 x))
    | .iaload => aI1 st fun i r => match r with
      | .inr (.inr (20, a)) :: r => inb i (aLen a) (kf ls (aI (M a i.toNat) :: r) M)
      | .inr (.inr (23, _)) :: r => inb i (M 998 0).toNat (kf ls (aI (M 999 i.toNat) :: r) M)
      | _ => none
    | .iastore => aI2 st fun i x r => aQ1 20 r fun a r => inb i (aLen a) (kf ls r (aUp M a i.toNat x))
    | .laload => aI1 st fun i r => aQ1 21 r fun a r => inb i (aLen a) (kf ls (aJ (M a i.toNat) :: r) M)
    | .lastore => aJ1 st fun x r => aI1 r fun i r => aQ1 21 r fun a r => inb i (aLen a) (kf ls r (aUp M a i.toNat x))
    | .aaload => aI1 st fun i r => aQ1 22 r fun a r => inb i (aLen a) (kf ls (aQ 8 (a + 2 + 5 * i.toNat) :: r) M)
    | .arraylength => match st with
      | .inr (.inr (20, a)) :: r => kf ls (aI (aLen a) :: r) M
      | .inr (.inr (21, a)) :: r => kf ls (aI (aLen a) :: r) M
      | .inr (.inr (23, _)) :: r => kf ls (aI (M 998 0) :: r) M
      | .inr (.inr (25, k)) :: r => kf ls (aI (aStrL k).length :: r) M
      | _ => none
    | .baload => aI1 st fun i r => aQ1 25 r fun k r => inb i (aStrL k).length (kf ls (aI (aChr k i) :: r) M)
    | .invokevirtual _ | .invokestatic _ => bif Nat.ble (aCat (st.drop r2)) 8 then (match r3 with
      | 0 => aBlt r1 st ls M kf
      | 1 => bndV (O r1 (st.take r2).reverse M) fun M => kf ls (st.drop r2) M
      | 2 => bndI (O r1 (st.take r2).reverse M) fun v M => kf ls (aI v :: st.drop r2) M
      | 3 => bndJ (O r1 (st.take r2).reverse M) fun v M => kf ls (aJ v :: st.drop r2) M
      | 4 => bndS (O r1 (st.take r2).reverse M) fun k M => kf ls (aQ 24 k :: st.drop r2) M
      | _ => none) else none
    | .ireturn => match st with | [.inl x] => (match r1 with | 0 => some ([aI x], M) | 1 => aBool x (some ([aI x], M)) | 2 => aRng 0 65535 x (some ([aI x], M)) | _ => aRng (-128) 127 x (some ([aI x], M))) | _ => none
    | .lreturn => match st with | [.inr (.inl x)] => some ([aJ x], M) | _ => none
    | .areturn => match st with | [.inr (.inr (24, k))] => some ([aQ 24 k], M) | _ => none
    | .return_ => match st with | [] => some ([], M) | _ => none
    | _ => none
/-- on from a place that isn't a cut to the next cut, which k answers -/
noncomputable def aSeg (O : aO) (cod : List aE) (k : Nat → aL → List aV → aM → aR) (g : Nat) : List aE → aL → List aV → aM → aR :=
  Nat.rec (motive := fun _ => List aE → aL → List aV → aM → aR) (fun _ _ _ _ => none) (fun _ ih l ls st M => match l with
    | [] => none
    | e :: l => aEx O e ls st M
      (fun ls st M => match l with | [] => none | e2 :: l2 => match e2.2.1 with | none => ih (e2 :: l2) ls st M | some m => k e2.1 (aMsk m ls) st M)
      (fun t ls st M => match aFind cod t with | [] => none | e2 :: l2 => match e2.2.1 with | none => ih (e2 :: l2) ls st M | some m => k e2.1 (aMsk m ls) st M)) g
noncomputable def aEv (O : aO) (cod : List aE) (n : Nat) : Nat → aL → List aV → aM → aR :=
  Nat.rec (motive := fun _ => Nat → aL → List aV → aM → aR) (fun _ _ _ _ => none) (fun _ ih pc ls st M => aSeg O cod ih 3000 (aFind cod pc) ls st M) n
/-! one unfolding: an instruction uses its continuations once -/
abbrev aKF : Type := aL → List aV → aM → aR
abbrev aKJ : Type := Nat → aL → List aV → aM → aR
def aTame (F : aKF → aKJ → aR) : Prop := (∃ l s m, ∀ kf kj, F kf kj = kf l s m) ∨ (∃ t l s m, ∀ kf kj, F kf kj = kj t l s m) ∨ (∃ r, ∀ kf kj, F kf kj = some r) ∨ (∀ kf kj, F kf kj = none)
theorem tm_f (l : aL) (s : List aV) (m : aM) : aTame (fun kf _ => kf l s m) := Or.inl ⟨l, s, m, fun _ _ => rfl⟩
theorem tm_j (t : Nat) (l : aL) (s : List aV) (m : aM) : aTame (fun _ kj => kj t l s m) := Or.inr (Or.inl ⟨t, l, s, m, fun _ _ => rfl⟩)
theorem tm_r (r : List aV × aM) : aTame (fun _ _ => some r) := Or.inr (Or.inr (Or.inl ⟨r, fun _ _ => rfl⟩))
theorem tm_n : aTame (fun _ _ => none) := Or.inr (Or.inr (Or.inr fun _ _ => rfl))
theorem tm_ite (c : Prop) (hc : Decidable c) {F G : aKF → aKJ → aR} (h1 : aTame F) (h2 : aTame G) : aTame (fun kf kj => @ite aR c hc (F kf kj) (G kf kj)) := by
  by_cases h : c
  · simpa [h] using h1
  · simpa [h] using h2
theorem tm_bif (c : Bool) {F G : aKF → aKJ → aR} (h1 : aTame F) (h2 : aTame G) : aTame (fun kf kj => bif c then F kf kj else G kf kj) := by
  cases c
  · exact h2
  · exact h1
theorem tm_inb (i : Int) (n : Nat) {F : aKF → aKJ → aR} (h : aTame F) : aTame (fun kf kj => inb i n (F kf kj)) := tm_ite _ _ h tm_n
theorem tm_bool (x : Int) {F : aKF → aKJ → aR} (h : aTame F) : aTame (fun kf kj => aBool x (F kf kj)) := tm_ite _ _ h (tm_ite _ _ h tm_n)
theorem tm_I1 (st : List aV) {f : aKF → aKJ → Int → List aV → aR} (h : ∀ x r, aTame (fun kf kj => f kf kj x r)) : aTame (fun kf kj => aI1 st (f kf kj)) := by
  rcases st with _ | ⟨x | x | x, r⟩
  · exact tm_n
  · exact h x r
  · exact tm_n
  · exact tm_n
theorem tm_J1 (st : List aV) {f : aKF → aKJ → Int → List aV → aR} (h : ∀ x r, aTame (fun kf kj => f kf kj x r)) : aTame (fun kf kj => aJ1 st (f kf kj)) := by
  rcases st with _ | ⟨x | x | x, r⟩
  · exact tm_n
  · exact tm_n
  · exact h x r
  · exact tm_n
theorem tm_I2 (st : List aV) {f : aKF → aKJ → Int → Int → List aV → aR} (h : ∀ x y r, aTame (fun kf kj => f kf kj x y r)) : aTame (fun kf kj => aI2 st (f kf kj)) := by
  rcases st with _ | ⟨y | y | y, _ | ⟨x | x | x, r⟩⟩
  all_goals first | exact tm_n | exact h _ _ _
theorem tm_J2 (st : List aV) {f : aKF → aKJ → Int → Int → List aV → aR} (h : ∀ x y r, aTame (fun kf kj => f kf kj x y r)) : aTame (fun kf kj => aJ2 st (f kf kj)) := by
  rcases st with _ | ⟨y | y | y, _ | ⟨x | x | x, r⟩⟩
  all_goals first | exact tm_n | exact h _ _ _
theorem tm_Q1 (t : Nat) (st : List aV) {f : aKF → aKJ → Nat → List aV → aR} (h : ∀ x r, aTame (fun kf kj => f kf kj x r)) : aTame (fun kf kj => aQ1 t st (f kf kj)) := by
  rcases st with _ | ⟨x | x | ⟨t', x⟩, r⟩
  · exact tm_n
  · exact tm_n
  · exact tm_n
  · exact tm_bif _ (h x r) tm_n
theorem tm_V (x : aR) {f : aKF → aKJ → aM → aR} (h : ∀ M, aTame (fun kf kj => f kf kj M)) : aTame (fun kf kj => bndV x (f kf kj)) := by
  rcases x with _ | ⟨_ | ⟨v, l⟩, M⟩
  all_goals first | exact tm_n | exact h _
theorem tm_I (x : aR) {f : aKF → aKJ → Int → aM → aR} (h : ∀ v M, aTame (fun kf kj => f kf kj v M)) : aTame (fun kf kj => bndI x (f kf kj)) := by
  rcases x with _ | ⟨_ | ⟨v | v | v, _ | ⟨w, l⟩⟩, M⟩
  all_goals first | exact tm_n | exact h _ _
theorem tm_J (x : aR) {f : aKF → aKJ → Int → aM → aR} (h : ∀ v M, aTame (fun kf kj => f kf kj v M)) : aTame (fun kf kj => bndJ x (f kf kj)) := by
  rcases x with _ | ⟨_ | ⟨v | v | v, _ | ⟨w, l⟩⟩, M⟩
  all_goals first | exact tm_n | exact h _ _
theorem tm_S (x : aR) {f : aKF → aKJ → Nat → aM → aR} (h : ∀ v M, aTame (fun kf kj => f kf kj v M)) : aTame (fun kf kj => bndS x (f kf kj)) := by
  by_cases hx : ∃ k M, x = some ([.inr (.inr (24, k))], M)
  · obtain ⟨k, M, rfl⟩ := hx
    exact h k M
  · have e : ∀ g, bndS x g = none := by
      intro g
      unfold bndS
      split
      · next k M => exact absurd ⟨k, M, rfl⟩ hx
      · rfl
    simp only [e]
    exact tm_n
theorem tm_St (ls : aL) (i : Nat) (v : aV) {f : aKF → aKJ → aL → aR} (h : ∀ l, aTame (fun kf kj => f kf kj l)) : aTame (fun kf kj => aSt ls i v (f kf kj)) := by
  cases i with
  | zero => exact h _
  | succ j =>
    cases hx : aNth ls j with
    | none =>
      simp only [aSt, hx]
      exact h _
    | some q =>
      rcases q with x | x | x
      all_goals simp only [aSt, hx]
      all_goals first | exact tm_n | exact h _
theorem tm_sw (x : Int) {d : aKF → aKJ → aR} {j : aKF → aKJ → Nat → aR} (hd : aTame d) (hj : ∀ t, aTame (fun kf kj => j kf kj t)) (l : List (Int × Nat)) : aTame (fun kf kj => aSw x (d kf kj) (j kf kj) l) := by
  induction l with
  | nil => exact hd
  | cons q l ih => exact tm_ite _ _ (hj q.2) ih
theorem tm_blt (f : Nat) (st : List aV) (ls : aL) (M : aM) : aTame (fun kf _ => aBlt f st ls M kf) := by
  unfold aBlt
  split
  · rcases st with _ | ⟨n | n | n, _ | ⟨dp | dp | dp, _ | ⟨b | b | ⟨t2, b⟩, _ | ⟨sp | sp | sp, _ | ⟨a | a | ⟨t1, a⟩, r⟩⟩⟩⟩⟩
    all_goals first | exact tm_n | exact tm_bif _ (tm_ite _ _ (tm_f _ _ _) tm_n) tm_n
  · exact tm_I2 _ fun x y r => tm_f _ _ _
  · exact tm_I2 _ fun x y r => tm_f _ _ _
  · exact tm_I1 _ fun x r => tm_f _ _ _
  · exact tm_J2 _ fun x y r => tm_f _ _ _
  · exact tm_n
set_option maxHeartbeats 4000000 in
theorem aEx_tame (O : aO) (e : aE) (ls : aL) (st : List aV) (M : aM) : aTame (fun kf kj => aEx O e ls st M kf kj) := by
  obtain ⟨pc, mk, i, len, r1, r2, r3, r4, r5, sw⟩ := e
  cases i
  case iload | iload_n | lload | lload_n | aload | aload_n | iinc =>
    unfold aEx; dsimp only
    rcases aNth ls r1 with _ | (x | x | x)
    all_goals first | exact tm_n | exact tm_f _ _ _
  case istore | istore_n => exact tm_I1 _ fun x r => tm_St _ _ _ fun l => tm_f _ _ _
  case lstore | lstore_n => exact tm_J1 _ fun x r => tm_St _ _ _ fun l => tm_f _ _ _
  case astore | astore_n =>
    unfold aEx; dsimp only
    rcases st with _ | ⟨x | x | x, r⟩
    all_goals first | exact tm_n | exact tm_St _ _ _ fun l => tm_f _ _ _
  case iconst | bipush | sipush | lconst | ldc2_w => exact tm_f _ _ _
  case ldc | ldc_w =>
    unfold aEx; dsimp only
    cases r1 <;> exact tm_f _ _ _
  case iadd | isub | imul | iand | ior | ixor | ishl | ishr | iushr => exact tm_I2 _ fun x y r => tm_f _ _ _
  case idiv | irem => exact tm_I2 _ fun x y r => tm_ite _ _ tm_n (tm_f _ _ _)
  case ineg | i2c | i2l | i2b => exact tm_I1 _ fun x r => tm_f _ _ _
  case l2i => exact tm_J1 _ fun x r => tm_f _ _ _
  case ladd | lsub | lmul | lcmp => exact tm_J2 _ fun x y r => tm_f _ _ _
  case ldiv | lrem => exact tm_J2 _ fun x y r => tm_ite _ _ tm_n (tm_f _ _ _)
  case ifnonnull => exact tm_Q1 _ _ fun _ r => tm_j _ _ _ _
  case getstatic =>
    unfold aEx; dsimp only
    cases r1 <;> exact tm_f _ _ _
  case baload => exact tm_I1 _ fun i r => tm_Q1 _ _ fun k r => tm_inb _ _ (tm_f _ _ _)
  case dup | pop =>
    unfold aEx; dsimp only
    rcases st with _ | ⟨x | x | x, r⟩
    all_goals first | exact tm_n | exact tm_f _ _ _ | exact tm_j _ _ _ _
  case dup2 =>
    unfold aEx; dsimp only
    rcases st with _ | ⟨x | x | x, _ | ⟨y | y | y, r⟩⟩
    all_goals first | exact tm_n | exact tm_f _ _ _
  case goto => exact tm_j _ _ _ _
  case if_icmp c _ =>
    refine tm_I2 _ fun x y r => ?_
    cases c
    all_goals first | exact tm_ite _ _ (tm_j _ _ _ _) (tm_f _ _ _) | exact tm_ite _ _ (tm_f _ _ _) (tm_j _ _ _ _)
  case ifCond c _ =>
    refine tm_I1 _ fun x r => ?_
    cases c
    all_goals first | exact tm_ite _ _ (tm_j _ _ _ _) (tm_f _ _ _) | exact tm_ite _ _ (tm_f _ _ _) (tm_j _ _ _ _)
  case tableswitch | lookupswitch => exact tm_I1 _ fun x r => tm_sw x (tm_j _ _ _ _) (fun t => tm_j _ _ _ _) _
  case getfield =>
    refine tm_Q1 _ _ fun a r => ?_
    cases r3 with
    | zero => exact tm_f _ _ _
    | succ t =>
      cases t with
      | zero => exact tm_f _ _ _
      | succ t => cases sw <;> exact tm_f _ _ _
  case putfield =>
    refine tm_I1 _ fun x r => tm_Q1 _ _ fun a r => ?_
    cases r3 with
    | zero => exact tm_f _ _ _
    | succ t => exact tm_bool _ (tm_f _ _ _)
  case iaload =>
    refine tm_I1 _ fun i r => ?_
    split
    · exact tm_inb _ _ (tm_f _ _ _)
    · exact tm_inb _ _ (tm_f _ _ _)
    · exact tm_n
  case iastore => exact tm_I2 _ fun i x r => tm_Q1 _ _ fun a r => tm_inb _ _ (tm_f _ _ _)
  case laload => exact tm_I1 _ fun i r => tm_Q1 _ _ fun a r => tm_inb _ _ (tm_f _ _ _)
  case lastore => exact tm_J1 _ fun x r => tm_I1 _ fun i r => tm_Q1 _ _ fun a r => tm_inb _ _ (tm_f _ _ _)
  case aaload => exact tm_I1 _ fun i r => tm_Q1 _ _ fun a r => tm_inb _ _ (tm_f _ _ _)
  case arraylength =>
    unfold aEx; dsimp only
    split
    · exact tm_f _ _ _
    · exact tm_f _ _ _
    · exact tm_f _ _ _
    · exact tm_f _ _ _
    · exact tm_n
  case invokevirtual | invokestatic =>
    refine tm_bif _ ?_ tm_n
    split
    · exact tm_blt _ _ _ _
    · exact tm_V _ fun M => tm_f _ _ _
    · exact tm_I _ fun v M => tm_f _ _ _
    · exact tm_J _ fun v M => tm_f _ _ _
    · exact tm_S _ fun v M => tm_f _ _ _
    · exact tm_n
  case ireturn =>
    unfold aEx; dsimp only
    rcases st with _ | ⟨x | x | x, _ | ⟨y, r⟩⟩
    all_goals first | exact tm_n | skip
    rcases r1 with _ | _ | _ | r1
    · exact tm_r _
    · exact tm_bool _ (tm_r _)
    · exact tm_ite _ _ (tm_r _) tm_n
    · exact tm_ite _ _ (tm_r _) tm_n
  case lreturn =>
    unfold aEx; dsimp only
    rcases st with _ | ⟨x | x | x, _ | ⟨y, r⟩⟩
    all_goals first | exact tm_n | exact tm_r _
  case areturn =>
    unfold aEx; dsimp only
    split
    · exact tm_r _
    · exact tm_n
  case return_ =>
    unfold aEx; dsimp only
    cases st
    · exact tm_r _
    · exact tm_n
  all_goals exact tm_n
abbrev aKC : Type := Nat → aL → List aV → aM → aR
/-- a stretch of code uses the answer at the next cut once -/
def aTameC (F : aKC → aR) : Prop := (∃ t l s m, ∀ k, F k = k t l s m) ∨ (∃ r, ∀ k, F k = some r) ∨ (∀ k, F k = none)
theorem aSeg_tame (O : aO) (cod : List aE) (g : Nat) : ∀ (l : List aE) (ls : aL) (st : List aV) (M : aM), aTameC (fun k => aSeg O cod k g l ls st M) := by
  induction g with
  | zero => exact fun _ _ _ _ => Or.inr (Or.inr fun _ => rfl)
  | succ g ih =>
    intro l ls st M
    cases l with
    | nil => exact Or.inr (Or.inr fun _ => rfl)
    | cons e l =>
      have step : ∀ k, aSeg O cod k (g + 1) (e :: l) ls st M = aEx O e ls st M
        (fun ls st M => match l with | [] => none | e2 :: l2 => match e2.2.1 with | none => aSeg O cod k g (e2 :: l2) ls st M | some m => k e2.1 (aMsk m ls) st M)
        (fun t ls st M => match aFind cod t with | [] => none | e2 :: l2 => match e2.2.1 with | none => aSeg O cod k g (e2 :: l2) ls st M | some m => k e2.1 (aMsk m ls) st M) := fun k => rfl
      have leaf : ∀ (l : List aE) (ls : aL) (st : List aV) (M : aM), aTameC (fun k => match l with | [] => none | e2 :: l2 => match e2.2.1 with | none => aSeg O cod k g (e2 :: l2) ls st M | some m => k e2.1 (aMsk m ls) st M) := by
        intro l ls st M
        cases l with
        | nil => exact Or.inr (Or.inr fun _ => rfl)
        | cons e2 l2 =>
          dsimp only
          cases e2.2.1 with
          | none => exact ih _ _ _ _
          | some m => exact Or.inl ⟨_, _, _, _, fun _ => rfl⟩
      rcases aEx_tame O e ls st M with ⟨l', s', m', h⟩ | ⟨t, l', s', m', h⟩ | ⟨r, h⟩ | h
      · rw [show (fun k => aSeg O cod k (g + 1) (e :: l) ls st M) = _ from funext fun k => (step k).trans (h _ _)]
        exact leaf l l' s' m'
      · rw [show (fun k => aSeg O cod k (g + 1) (e :: l) ls st M) = _ from funext fun k => (step k).trans (h _ _)]
        exact leaf (aFind cod t) l' s' m'
      · exact Or.inr (Or.inl ⟨r, fun k => (step k).trans (h _ _)⟩)
      · exact Or.inr (Or.inr fun k => (step k).trans (h _ _))
noncomputable def aLim (f : Nat → aR) : aR := @dite _ (∃ r n, f n = some r) (Classical.propDecidable _) (fun h => some (Classical.choose h)) (fun _ => none)
noncomputable def aOm (O : aO) (cod : List aE) (pc : Nat) (ls : aL) (st : List aV) (M : aM) : aR := aLim fun n => aEv O cod n pc ls st M
theorem aEv_succ (O : aO) (cod : List aE) (n pc : Nat) (ls : aL) (st : List aV) (M : aM) : aEv O cod (n + 1) pc ls st M = aSeg O cod (aEv O cod n) 3000 (aFind cod pc) ls st M := rfl
theorem aEv_mono (O : aO) (cod : List aE) (n : Nat) : ∀ (pc : Nat) (ls : aL) (st : List aV) (M : aM) (r : List aV × aM), aEv O cod n pc ls st M = some r → aEv O cod (n + 1) pc ls st M = some r := by
  induction n with
  | zero => intro pc ls st M r h; cases h
  | succ n ih =>
    intro pc ls st M r h
    rw [aEv_succ] at h ⊢
    rcases aSeg_tame O cod 3000 (aFind cod pc) ls st M with ⟨t, l, s, m, e⟩ | ⟨r', e⟩ | e
    · have e1 := e (aEv O cod n)
      have e2 := e (aEv O cod (n + 1))
      dsimp only at e1 e2
      rw [e1] at h
      rw [e2]
      exact ih _ _ _ _ _ h
    · have e1 := e (aEv O cod n)
      have e2 := e (aEv O cod (n + 1))
      dsimp only at e1 e2
      rw [e1] at h
      rw [e2]
      exact h
    · have e1 := e (aEv O cod n)
      dsimp only at e1
      rw [e1] at h
      cases h
theorem aEv_le (O : aO) (cod : List aE) {n m : Nat} (hnm : n ≤ m) {pc : Nat} {ls : aL} {st : List aV} {M : aM} {r : List aV × aM} (h : aEv O cod n pc ls st M = some r) : aEv O cod m pc ls st M = some r := by
  induction hnm with
  | refl => exact h
  | step _ ih => exact aEv_mono _ _ _ _ _ _ _ _ ih
theorem aOm_iff (O : aO) (cod : List aE) (pc : Nat) (ls : aL) (st : List aV) (M : aM) (r : List aV × aM) : aOm O cod pc ls st M = some r ↔ ∃ n, aEv O cod n pc ls st M = some r := by
  unfold aOm aLim
  constructor
  · intro h
    split at h
    · next hx =>
      obtain ⟨n, hn⟩ := Classical.choose_spec hx
      cases h
      exact ⟨n, hn⟩
    · cases h
  · rintro ⟨n, hn⟩
    have hx : ∃ r n, aEv O cod n pc ls st M = some r := ⟨r, n, hn⟩
    rw [dif_pos hx]
    obtain ⟨m, hm⟩ := Classical.choose_spec hx
    have h1 := aEv_le O cod (Nat.le_max_left n m) hn
    have h2 := aEv_le O cod (Nat.le_max_right n m) hm
    exact h2.symm.trans h1
theorem aOm_fix (O : aO) (cod : List aE) (pc : Nat) (ls : aL) (st : List aV) (M : aM) : aOm O cod pc ls st M = aSeg O cod (aOm O cod) 3000 (aFind cod pc) ls st M := by
  have key : ∀ r, aOm O cod pc ls st M = some r ↔ aSeg O cod (aOm O cod) 3000 (aFind cod pc) ls st M = some r := by
    intro r
    rw [aOm_iff]
    rcases aSeg_tame O cod 3000 (aFind cod pc) ls st M with ⟨t, l, s, m, e⟩ | ⟨r', e⟩ | e
    · have e1 := e (aOm O cod)
      dsimp only at e1
      rw [e1, aOm_iff]
      constructor
      · rintro ⟨n, hn⟩
        cases n with
        | zero => cases hn
        | succ n =>
          have e2 := e (aEv O cod n)
          dsimp only at e2
          rw [aEv_succ, e2] at hn
          exact ⟨n, hn⟩
      · rintro ⟨n, hn⟩
        have e2 := e (aEv O cod n)
        dsimp only at e2
        exact ⟨n + 1, by rw [aEv_succ, e2]; exact hn⟩
    · have e1 := e (aOm O cod)
      dsimp only at e1
      rw [e1]
      constructor
      · rintro ⟨n, hn⟩
        cases n with
        | zero => cases hn
        | succ n =>
          have e2 := e (aEv O cod n)
          dsimp only at e2
          rw [aEv_succ, e2] at hn
          exact hn
      · intro h
        have e2 := e (aEv O cod 0)
        dsimp only at e2
        exact ⟨1, by rw [aEv_succ, e2]; exact h⟩
    · have e1 := e (aOm O cod)
      dsimp only at e1
      rw [e1]
      constructor
      · rintro ⟨n, hn⟩
        cases n with
        | zero => cases hn
        | succ n =>
          have e2 := e (aEv O cod n)
          dsimp only at e2
          rw [aEv_succ, e2] at hn
          exact hn
      · intro h
        cases h
  cases h1 : aSeg O cod (aOm O cod) 3000 (aFind cod pc) ls st M with
  | some r => exact (key r).2 h1
  | none =>
    cases h2 : aOm O cod pc ls st M with
    | none => rfl
    | some r => rw [(key r).1 h2] at h1; cases h1
end
section
/-! The methods' instructions, resolved: pc, mask of a cut, instruction, length, what it names. -/
noncomputable def K_acts_forget : List aE := [
  (0, none, .aload_n 0, 1, 0, 0, 0, 0, 0, []),
  (1, none, .iconst 0, 1, 0, 0, 0, 0, 0, []),
  (2, none, .putfield 22, 3, 0, 3, 0, 0, 0, []),
  (5, none, .return_, 1, 0, 0, 0, 0, 0, [])]
noncomputable def K_acts_keep : List aE := [
  (0, none, .aload_n 0, 1, 0, 0, 0, 0, 0, []),
  (1, none, .getfield 26, 3, 0, 2, 0, 0, 0, []),
  (4, none, .aload_n 0, 1, 0, 0, 0, 0, 0, []),
  (5, none, .getfield 22, 3, 0, 3, 0, 0, 0, []),
  (8, none, .iadd, 1, 0, 0, 0, 0, 0, []),
  (9, none, .bipush 6, 2, 0, 0, 0, 0, 0, []),
  (11, none, .invokestatic 29, 3, 265, 2, 2, 0, 0, []),
  (14, none, .istore_n 2, 1, 2, 0, 0, 0, 0, []),
  (15, none, .aload_n 0, 1, 0, 0, 0, 0, 0, []),
  (16, none, .getfield 11, 3, 0, 0, 24, 1, 0, []),
  (19, none, .iload_n 2, 1, 2, 0, 0, 0, 0, []),
  (20, none, .aaload, 1, 0, 0, 0, 0, 0, []),
  (21, none, .astore_n 3, 1, 3, 0, 0, 0, 0, []),
  (22, none, .aload_n 3, 1, 3, 0, 0, 0, 0, []),
  (23, none, .ifnonnull 4, 3, 27, 0, 0, 0, 0, []),
  (26, none, .return_, 1, 0, 0, 0, 0, 0, []),
  (27, none, .aload_n 3, 1, 3, 0, 0, 0, 0, []),
  (28, none, .aload_n 1, 1, 1, 0, 0, 0, 0, []),
  (29, none, .getfield 35, 3, 9, 0, 10, 1, 0, []),
  (32, none, .invokevirtual 41, 3, 93, 2, 1, 0, 0, []),
  (35, none, .aload_n 0, 1, 0, 0, 0, 0, 0, []),
  (36, none, .getfield 17, 3, 0, 1, 22, 2, 0, []),
  (39, none, .iload_n 2, 1, 2, 0, 0, 0, 0, []),
  (40, none, .aload_n 1, 1, 1, 0, 0, 0, 0, []),
  (41, none, .getfield 45, 3, 9, 5, 7, 17, 0, []),
  (44, none, .getfield 49, 3, 5, 2, 0, 0, 0, []),
  (47, none, .iastore, 1, 0, 0, 0, 0, 0, []),
  (48, none, .aload_n 0, 1, 0, 0, 0, 0, 0, []),
  (49, none, .getfield 22, 3, 0, 3, 0, 0, 0, []),
  (52, none, .bipush 6, 2, 0, 0, 0, 0, 0, []),
  (54, none, .if_icmp .ge 16, 3, 70, 0, 0, 0, 0, []),
  (57, none, .aload_n 0, 1, 0, 0, 0, 0, 0, []),
  (58, none, .dup, 1, 0, 0, 0, 0, 0, []),
  (59, none, .getfield 22, 3, 0, 3, 0, 0, 0, []),
  (62, none, .iconst 1, 1, 0, 0, 0, 0, 0, []),
  (63, none, .iadd, 1, 0, 0, 0, 0, 0, []),
  (64, none, .putfield 22, 3, 0, 3, 0, 0, 0, []),
  (67, none, .goto 18, 3, 85, 0, 0, 0, 0, []),
  (70, none, .aload_n 0, 1, 0, 0, 0, 0, 0, []),
  (71, none, .aload_n 0, 1, 0, 0, 0, 0, 0, []),
  (72, none, .getfield 26, 3, 0, 2, 0, 0, 0, []),
  (75, none, .iconst 1, 1, 0, 0, 0, 0, 0, []),
  (76, none, .iadd, 1, 0, 0, 0, 0, 0, []),
  (77, none, .bipush 6, 2, 0, 0, 0, 0, 0, []),
  (79, none, .invokestatic 29, 3, 265, 2, 2, 0, 0, []),
  (82, none, .putfield 26, 3, 0, 2, 0, 0, 0, []),
  (85, none, .return_, 1, 0, 0, 0, 0, 0, [])]
noncomputable def K_acts_goBack : List aE := [
  (0, none, .aload_n 0, 1, 0, 0, 0, 0, 0, []),
  (1, none, .getfield 22, 3, 0, 3, 0, 0, 0, []),
  (4, none, .ifCond .gt 5, 3, 9, 0, 0, 0, 0, []),
  (7, none, .iconst 0, 1, 0, 0, 0, 0, 0, []),
  (8, none, .ireturn, 1, 1, 0, 0, 0, 0, []),
  (9, none, .aload_n 0, 1, 0, 0, 0, 0, 0, []),
  (10, none, .getfield 26, 3, 0, 2, 0, 0, 0, []),
  (13, none, .aload_n 0, 1, 0, 0, 0, 0, 0, []),
  (14, none, .getfield 22, 3, 0, 3, 0, 0, 0, []),
  (17, none, .iadd, 1, 0, 0, 0, 0, 0, []),
  (18, none, .iconst 1, 1, 0, 0, 0, 0, 0, []),
  (19, none, .isub, 1, 0, 0, 0, 0, 0, []),
  (20, none, .bipush 6, 2, 0, 0, 0, 0, 0, []),
  (22, none, .invokestatic 29, 3, 265, 2, 2, 0, 0, []),
  (25, none, .istore_n 2, 1, 2, 0, 0, 0, 0, []),
  (26, none, .aload_n 0, 1, 0, 0, 0, 0, 0, []),
  (27, none, .getfield 11, 3, 0, 0, 24, 1, 0, []),
  (30, none, .iload_n 2, 1, 2, 0, 0, 0, 0, []),
  (31, none, .aaload, 1, 0, 0, 0, 0, 0, []),
  (32, none, .astore_n 3, 1, 3, 0, 0, 0, 0, []),
  (33, none, .aload_n 3, 1, 3, 0, 0, 0, 0, []),
  (34, none, .ifnonnull 5, 3, 39, 0, 0, 0, 0, []),
  (37, none, .iconst 0, 1, 0, 0, 0, 0, 0, []),
  (38, none, .ireturn, 1, 1, 0, 0, 0, 0, []),
  (39, none, .aload_n 1, 1, 1, 0, 0, 0, 0, []),
  (40, none, .getfield 35, 3, 9, 0, 10, 1, 0, []),
  (43, none, .aload_n 3, 1, 3, 0, 0, 0, 0, []),
  (44, none, .invokevirtual 41, 3, 93, 2, 1, 0, 0, []),
  (47, none, .aload_n 1, 1, 1, 0, 0, 0, 0, []),
  (48, none, .getfield 45, 3, 9, 5, 7, 17, 0, []),
  (51, none, .aload_n 0, 1, 0, 0, 0, 0, 0, []),
  (52, none, .getfield 17, 3, 0, 1, 22, 2, 0, []),
  (55, none, .iload_n 2, 1, 2, 0, 0, 0, 0, []),
  (56, none, .iaload, 1, 0, 0, 0, 0, 0, []),
  (57, none, .putfield 49, 3, 5, 2, 0, 0, 0, []),
  (60, none, .aload_n 0, 1, 0, 0, 0, 0, 0, []),
  (61, none, .dup, 1, 0, 0, 0, 0, 0, []),
  (62, none, .getfield 22, 3, 0, 3, 0, 0, 0, []),
  (65, none, .iconst 1, 1, 0, 0, 0, 0, 0, []),
  (66, none, .isub, 1, 0, 0, 0, 0, 0, []),
  (67, none, .putfield 22, 3, 0, 3, 0, 0, 0, []),
  (70, none, .iconst 1, 1, 0, 0, 0, 0, 0, []),
  (71, none, .ireturn, 1, 1, 0, 0, 0, 0, [])]
noncomputable def K_labour_takeTurns : List aE := [
  (0, none, .aload_n 1, 1, 1, 0, 0, 0, 0, []),
  (1, none, .invokevirtual 21, 3, 97, 1, 2, 0, 0, []),
  (4, none, .istore_n 2, 1, 2, 0, 0, 0, 0, []),
  (5, none, .iconst 0, 1, 0, 0, 0, 0, 0, []),
  (6, none, .istore_n 3, 1, 3, 0, 0, 0, 0, []),
  (7, none, .aload_n 0, 1, 0, 0, 0, 0, 0, []),
  (8, none, .iconst 0, 1, 0, 0, 0, 0, 0, []),
  (9, none, .putfield 27, 3, 1, 3, 0, 0, 0, []),
  (12, none, .iconst 0, 1, 0, 0, 0, 0, 0, []),
  (13, none, .istore 4, 2, 4, 0, 0, 0, 0, []),
  (15, some [true, true, true, true, true, false], .iload 4, 2, 4, 0, 0, 0, 0, []),
  (17, none, .bipush 10, 2, 0, 0, 0, 0, 0, []),
  (19, none, .if_icmp .ge 88, 3, 107, 0, 0, 0, 0, []),
  (22, none, .iload_n 2, 1, 2, 0, 0, 0, 0, []),
  (23, none, .iconst (-1), 1, 0, 0, 0, 0, 0, []),
  (24, none, .if_icmp .eq 83, 3, 107, 0, 0, 0, 0, []),
  (27, none, .iload_n 2, 1, 2, 0, 0, 0, 0, []),
  (28, none, .iload 4, 2, 4, 0, 0, 0, 0, []),
  (30, none, .iadd, 1, 0, 0, 0, 0, 0, []),
  (31, none, .bipush 10, 2, 0, 0, 0, 0, 0, []),
  (33, none, .invokestatic 31, 3, 265, 2, 2, 0, 0, []),
  (36, none, .istore 5, 2, 5, 0, 0, 0, 0, []),
  (38, none, .aload_n 1, 1, 1, 0, 0, 0, 0, []),
  (39, none, .getfield 37, 3, 9, 0, 10, 1, 0, []),
  (42, none, .iload 5, 2, 5, 0, 0, 0, 0, []),
  (44, none, .invokevirtual 41, 3, 84, 2, 2, 0, 0, []),
  (47, none, .ifCond .eq 54, 3, 101, 0, 0, 0, 0, []),
  (50, none, .aload_n 0, 1, 0, 0, 0, 0, 0, []),
  (51, none, .getfield 9, 3, 1, 0, 22, 1, 0, []),
  (54, none, .aload_n 0, 1, 0, 0, 0, 0, 0, []),
  (55, none, .getfield 27, 3, 1, 3, 0, 0, 0, []),
  (58, none, .iload 5, 2, 5, 0, 0, 0, 0, []),
  (60, none, .iastore, 1, 0, 0, 0, 0, 0, []),
  (61, none, .aload_n 0, 1, 0, 0, 0, 0, 0, []),
  (62, none, .getfield 15, 3, 1, 1, 22, 2, 0, []),
  (65, none, .aload_n 0, 1, 0, 0, 0, 0, 0, []),
  (66, none, .getfield 27, 3, 1, 3, 0, 0, 0, []),
  (69, none, .aload_n 1, 1, 1, 0, 0, 0, 0, []),
  (70, none, .iconst 1, 1, 0, 0, 0, 0, 0, []),
  (71, none, .iload 5, 2, 5, 0, 0, 0, 0, []),
  (73, none, .invokevirtual 49, 3, 94, 3, 2, 0, 0, []),
  (76, none, .iastore, 1, 0, 0, 0, 0, 0, []),
  (77, none, .iload_n 3, 1, 3, 0, 0, 0, 0, []),
  (78, none, .aload_n 0, 1, 0, 0, 0, 0, 0, []),
  (79, none, .getfield 15, 3, 1, 1, 22, 2, 0, []),
  (82, none, .aload_n 0, 1, 0, 0, 0, 0, 0, []),
  (83, none, .getfield 27, 3, 1, 3, 0, 0, 0, []),
  (86, none, .iaload, 1, 0, 0, 0, 0, 0, []),
  (87, none, .invokestatic 52, 3, 4, 0, 0, 0, 0, []),
  (90, none, .istore_n 3, 1, 3, 0, 0, 0, 0, []),
  (91, none, .aload_n 0, 1, 0, 0, 0, 0, 0, []),
  (92, none, .dup, 1, 0, 0, 0, 0, 0, []),
  (93, none, .getfield 27, 3, 1, 3, 0, 0, 0, []),
  (96, none, .iconst 1, 1, 0, 0, 0, 0, 0, []),
  (97, none, .iadd, 1, 0, 0, 0, 0, 0, []),
  (98, none, .putfield 27, 3, 1, 3, 0, 0, 0, []),
  (101, none, .iinc 4 1, 3, 4, 0, 0, 0, 0, []),
  (104, none, .goto (-89), 3, 15, 0, 0, 0, 0, []),
  (107, none, .iconst 0, 1, 0, 0, 0, 0, 0, []),
  (108, none, .istore 4, 2, 4, 0, 0, 0, 0, []),
  (110, some [true, true, false, true, true, false], .iload 4, 2, 4, 0, 0, 0, 0, []),
  (112, none, .aload_n 1, 1, 1, 0, 0, 0, 0, []),
  (113, none, .getfield 55, 3, 9, 7, 7, 21, 0, []),
  (116, none, .getfield 59, 3, 5, 2, 0, 0, 0, []),
  (119, none, .if_icmp .ge 25, 3, 144, 0, 0, 0, 0, []),
  (122, none, .aload_n 1, 1, 1, 0, 0, 0, 0, []),
  (123, none, .getfield 55, 3, 9, 7, 7, 21, 0, []),
  (126, none, .iload 4, 2, 4, 0, 0, 0, 0, []),
  (128, none, .iconst 0, 1, 0, 0, 0, 0, 0, []),
  (129, none, .invokevirtual 64, 3, 49, 3, 2, 0, 0, []),
  (132, none, .iload_n 3, 1, 3, 0, 0, 0, 0, []),
  (133, none, .if_icmp .le 5, 3, 138, 0, 0, 0, 0, []),
  (136, none, .iconst 0, 1, 0, 0, 0, 0, 0, []),
  (137, none, .ireturn, 1, 1, 0, 0, 0, 0, []),
  (138, none, .iinc 4 1, 3, 4, 0, 0, 0, 0, []),
  (141, none, .goto (-31), 3, 110, 0, 0, 0, 0, []),
  (144, none, .aload_n 0, 1, 0, 0, 0, 0, 0, []),
  (145, none, .getfield 27, 3, 1, 3, 0, 0, 0, []),
  (148, none, .ifCond .le 7, 3, 155, 0, 0, 0, 0, []),
  (151, none, .iconst 1, 1, 0, 0, 0, 0, 0, []),
  (152, none, .goto 4, 3, 156, 0, 0, 0, 0, []),
  (155, none, .iconst 0, 1, 0, 0, 0, 0, 0, []),
  (156, none, .ireturn, 1, 1, 0, 0, 0, 0, [])]
noncomputable def K_labour_lengthOf : List aE := [
  (0, none, .aload_n 0, 1, 0, 0, 0, 0, 0, []),
  (1, none, .getfield 27, 3, 1, 3, 0, 0, 0, []),
  (4, none, .ifCond .le 14, 3, 18, 0, 0, 0, 0, []),
  (7, none, .iload_n 1, 1, 1, 0, 0, 0, 0, []),
  (8, none, .aload_n 0, 1, 0, 0, 0, 0, 0, []),
  (9, none, .getfield 27, 3, 1, 3, 0, 0, 0, []),
  (12, none, .invokestatic 31, 3, 265, 2, 2, 0, 0, []),
  (15, none, .goto 4, 3, 19, 0, 0, 0, 0, []),
  (18, none, .iconst 0, 1, 0, 0, 0, 0, 0, []),
  (19, none, .istore_n 2, 1, 2, 0, 0, 0, 0, []),
  (20, none, .iload_n 2, 1, 2, 0, 0, 0, 0, []),
  (21, none, .bipush 10, 2, 0, 0, 0, 0, 0, []),
  (23, none, .if_icmp .ge 12, 3, 35, 0, 0, 0, 0, []),
  (26, none, .aload_n 0, 1, 0, 0, 0, 0, 0, []),
  (27, none, .getfield 15, 3, 1, 1, 22, 2, 0, []),
  (30, none, .iload_n 2, 1, 2, 0, 0, 0, 0, []),
  (31, none, .iaload, 1, 0, 0, 0, 0, 0, []),
  (32, none, .goto 4, 3, 36, 0, 0, 0, 0, []),
  (35, none, .iconst 0, 1, 0, 0, 0, 0, 0, []),
  (36, none, .ireturn, 1, 0, 0, 0, 0, 0, [])]
noncomputable def K_labour_spotBehind : List aE := [
  (0, none, .iload_n 1, 1, 1, 0, 0, 0, 0, []),
  (1, none, .bipush 32, 2, 0, 0, 0, 0, 0, []),
  (3, none, .idiv, 1, 0, 0, 0, 0, 0, []),
  (4, none, .istore_n 3, 1, 3, 0, 0, 0, 0, []),
  (5, none, .iload_n 1, 1, 1, 0, 0, 0, 0, []),
  (6, none, .bipush 32, 2, 0, 0, 0, 0, 0, []),
  (8, none, .irem, 1, 0, 0, 0, 0, 0, []),
  (9, none, .iload_n 2, 1, 2, 0, 0, 0, 0, []),
  (10, none, .iadd, 1, 0, 0, 0, 0, 0, []),
  (11, none, .aload_n 0, 1, 0, 0, 0, 0, 0, []),
  (12, none, .iload_n 3, 1, 3, 0, 0, 0, 0, []),
  (13, none, .invokevirtual 67, 3, 4, 2, 2, 0, 0, []),
  (16, none, .if_icmp .gt 7, 3, 23, 0, 0, 0, 0, []),
  (19, none, .iload_n 1, 1, 1, 0, 0, 0, 0, []),
  (20, none, .iload_n 2, 1, 2, 0, 0, 0, 0, []),
  (21, none, .iadd, 1, 0, 0, 0, 0, 0, []),
  (22, none, .ireturn, 1, 0, 0, 0, 0, 0, []),
  (23, none, .iconst 1, 1, 0, 0, 0, 0, 0, []),
  (24, none, .istore 4, 2, 4, 0, 0, 0, 0, []),
  (26, some [true, true, true, true, true], .iload 4, 2, 4, 0, 0, 0, 0, []),
  (28, none, .aload_n 0, 1, 0, 0, 0, 0, 0, []),
  (29, none, .getfield 27, 3, 1, 3, 0, 0, 0, []),
  (32, none, .if_icmp .gt 31, 3, 63, 0, 0, 0, 0, []),
  (35, none, .iload_n 2, 1, 2, 0, 0, 0, 0, []),
  (36, none, .aload_n 0, 1, 0, 0, 0, 0, 0, []),
  (37, none, .iload_n 3, 1, 3, 0, 0, 0, 0, []),
  (38, none, .iload 4, 2, 4, 0, 0, 0, 0, []),
  (40, none, .iadd, 1, 0, 0, 0, 0, 0, []),
  (41, none, .invokevirtual 67, 3, 4, 2, 2, 0, 0, []),
  (44, none, .if_icmp .gt 13, 3, 57, 0, 0, 0, 0, []),
  (47, none, .iload_n 3, 1, 3, 0, 0, 0, 0, []),
  (48, none, .iload 4, 2, 4, 0, 0, 0, 0, []),
  (50, none, .iadd, 1, 0, 0, 0, 0, 0, []),
  (51, none, .bipush 32, 2, 0, 0, 0, 0, 0, []),
  (53, none, .imul, 1, 0, 0, 0, 0, 0, []),
  (54, none, .iload_n 2, 1, 2, 0, 0, 0, 0, []),
  (55, none, .iadd, 1, 0, 0, 0, 0, 0, []),
  (56, none, .ireturn, 1, 0, 0, 0, 0, 0, []),
  (57, none, .iinc 4 1, 3, 4, 0, 0, 0, 0, []),
  (60, none, .goto (-34), 3, 26, 0, 0, 0, 0, []),
  (63, none, .iload_n 1, 1, 1, 0, 0, 0, 0, []),
  (64, none, .ireturn, 1, 0, 0, 0, 0, 0, [])]
noncomputable def K_labour_lastSpot : List aE := [
  (0, none, .iconst 0, 1, 0, 0, 0, 0, 0, []),
  (1, none, .istore_n 2, 1, 2, 0, 0, 0, 0, []),
  (2, none, .iconst 0, 1, 0, 0, 0, 0, 0, []),
  (3, none, .istore_n 3, 1, 3, 0, 0, 0, 0, []),
  (4, some [true, true, true, true], .iload_n 3, 1, 3, 0, 0, 0, 0, []),
  (5, none, .aload_n 1, 1, 1, 0, 0, 0, 0, []),
  (6, none, .getfield 59, 3, 5, 2, 0, 0, 0, []),
  (9, none, .if_icmp .ge 21, 3, 30, 0, 0, 0, 0, []),
  (12, none, .aload_n 0, 1, 0, 0, 0, 0, 0, []),
  (13, none, .iload_n 2, 1, 2, 0, 0, 0, 0, []),
  (14, none, .aload_n 1, 1, 1, 0, 0, 0, 0, []),
  (15, none, .iload_n 3, 1, 3, 0, 0, 0, 0, []),
  (16, none, .iconst 0, 1, 0, 0, 0, 0, 0, []),
  (17, none, .invokevirtual 64, 3, 49, 3, 2, 0, 0, []),
  (20, none, .invokevirtual 71, 3, 5, 3, 2, 0, 0, []),
  (23, none, .istore_n 2, 1, 2, 0, 0, 0, 0, []),
  (24, none, .iinc 3 1, 3, 3, 0, 0, 0, 0, []),
  (27, none, .goto (-23), 3, 4, 0, 0, 0, 0, []),
  (30, none, .iload_n 2, 1, 2, 0, 0, 0, 0, []),
  (31, none, .ireturn, 1, 0, 0, 0, 0, 0, [])]
noncomputable def K_labour_bestSpot : List aE := [
  (0, none, .iconst 0, 1, 0, 0, 0, 0, 0, []),
  (1, none, .bipush 8, 2, 0, 0, 0, 0, 0, []),
  (3, none, .aload_n 1, 1, 1, 0, 0, 0, 0, []),
  (4, none, .getfield 59, 3, 5, 2, 0, 0, 0, []),
  (7, none, .invokestatic 74, 3, 5, 0, 0, 0, 0, []),
  (10, none, .invokestatic 52, 3, 4, 0, 0, 0, 0, []),
  (13, none, .istore_n 2, 1, 2, 0, 0, 0, 0, []),
  (14, none, .aload_n 0, 1, 0, 0, 0, 0, 0, []),
  (15, none, .getfield 18, 3, 1, 2, 22, 3, 0, []),
  (18, none, .iconst 0, 1, 0, 0, 0, 0, 0, []),
  (19, none, .iconst 0, 1, 0, 0, 0, 0, 0, []),
  (20, none, .iastore, 1, 0, 0, 0, 0, 0, []),
  (21, none, .iconst 1, 1, 0, 0, 0, 0, 0, []),
  (22, none, .istore_n 3, 1, 3, 0, 0, 0, 0, []),
  (23, some [true, true, true, true, false, false, false], .iload_n 3, 1, 3, 0, 0, 0, 0, []),
  (24, none, .iconst 1, 1, 0, 0, 0, 0, 0, []),
  (25, none, .iload_n 2, 1, 2, 0, 0, 0, 0, []),
  (26, none, .ishl, 1, 0, 0, 0, 0, 0, []),
  (27, none, .if_icmp .ge 89, 3, 116, 0, 0, 0, 0, []),
  (30, none, .iconst (-1), 1, 0, 0, 0, 0, 0, []),
  (31, none, .istore 4, 2, 4, 0, 0, 0, 0, []),
  (33, none, .iconst 0, 1, 0, 0, 0, 0, 0, []),
  (34, none, .istore 5, 2, 5, 0, 0, 0, 0, []),
  (36, some [true, true, true, true, true, true, false], .iload 5, 2, 5, 0, 0, 0, 0, []),
  (38, none, .iload_n 2, 1, 2, 0, 0, 0, 0, []),
  (39, none, .if_icmp .ge 63, 3, 102, 0, 0, 0, 0, []),
  (42, none, .iload_n 3, 1, 3, 0, 0, 0, 0, []),
  (43, none, .iload 5, 2, 5, 0, 0, 0, 0, []),
  (45, none, .ishr, 1, 0, 0, 0, 0, 0, []),
  (46, none, .iconst 1, 1, 0, 0, 0, 0, 0, []),
  (47, none, .iand, 1, 0, 0, 0, 0, 0, []),
  (48, none, .iconst 1, 1, 0, 0, 0, 0, 0, []),
  (49, none, .if_icmp .ne 47, 3, 96, 0, 0, 0, 0, []),
  (52, none, .aload_n 0, 1, 0, 0, 0, 0, 0, []),
  (53, none, .aload_n 0, 1, 0, 0, 0, 0, 0, []),
  (54, none, .getfield 18, 3, 1, 2, 22, 3, 0, []),
  (57, none, .iload_n 3, 1, 3, 0, 0, 0, 0, []),
  (58, none, .iconst 1, 1, 0, 0, 0, 0, 0, []),
  (59, none, .iload 5, 2, 5, 0, 0, 0, 0, []),
  (61, none, .ishl, 1, 0, 0, 0, 0, 0, []),
  (62, none, .ixor, 1, 0, 0, 0, 0, 0, []),
  (63, none, .iaload, 1, 0, 0, 0, 0, 0, []),
  (64, none, .aload_n 1, 1, 1, 0, 0, 0, 0, []),
  (65, none, .iload 5, 2, 5, 0, 0, 0, 0, []),
  (67, none, .iconst 0, 1, 0, 0, 0, 0, 0, []),
  (68, none, .invokevirtual 64, 3, 49, 3, 2, 0, 0, []),
  (71, none, .invokevirtual 71, 3, 5, 3, 2, 0, 0, []),
  (74, none, .istore 6, 2, 6, 0, 0, 0, 0, []),
  (76, none, .iload 4, 2, 4, 0, 0, 0, 0, []),
  (78, none, .iconst (-1), 1, 0, 0, 0, 0, 0, []),
  (79, none, .if_icmp .ne 8, 3, 87, 0, 0, 0, 0, []),
  (82, none, .iload 6, 2, 6, 0, 0, 0, 0, []),
  (84, none, .goto 10, 3, 94, 0, 0, 0, 0, []),
  (87, none, .iload 4, 2, 4, 0, 0, 0, 0, []),
  (89, none, .iload 6, 2, 6, 0, 0, 0, 0, []),
  (91, none, .invokestatic 74, 3, 5, 0, 0, 0, 0, []),
  (94, none, .istore 4, 2, 4, 0, 0, 0, 0, []),
  (96, none, .iinc 5 1, 3, 5, 0, 0, 0, 0, []),
  (99, none, .goto (-63), 3, 36, 0, 0, 0, 0, []),
  (102, none, .aload_n 0, 1, 0, 0, 0, 0, 0, []),
  (103, none, .getfield 18, 3, 1, 2, 22, 3, 0, []),
  (106, none, .iload_n 3, 1, 3, 0, 0, 0, 0, []),
  (107, none, .iload 4, 2, 4, 0, 0, 0, 0, []),
  (109, none, .iastore, 1, 0, 0, 0, 0, 0, []),
  (110, none, .iinc 3 1, 3, 3, 0, 0, 0, 0, []),
  (113, none, .goto (-90), 3, 23, 0, 0, 0, 0, []),
  (116, none, .aload_n 0, 1, 0, 0, 0, 0, 0, []),
  (117, none, .getfield 18, 3, 1, 2, 22, 3, 0, []),
  (120, none, .iconst 1, 1, 0, 0, 0, 0, 0, []),
  (121, none, .iload_n 2, 1, 2, 0, 0, 0, 0, []),
  (122, none, .ishl, 1, 0, 0, 0, 0, 0, []),
  (123, none, .iconst 1, 1, 0, 0, 0, 0, 0, []),
  (124, none, .isub, 1, 0, 0, 0, 0, 0, []),
  (125, none, .iaload, 1, 0, 0, 0, 0, 0, []),
  (126, none, .ireturn, 1, 0, 0, 0, 0, 0, [])]
noncomputable def K_labour_daysOf : List aE := [
  (0, none, .iload_n 1, 1, 1, 0, 0, 0, 0, []),
  (1, none, .ifCond .ne 7, 3, 8, 0, 0, 0, 0, []),
  (4, none, .iconst 0, 1, 0, 0, 0, 0, 0, []),
  (5, none, .goto 9, 3, 14, 0, 0, 0, 0, []),
  (8, none, .iload_n 1, 1, 1, 0, 0, 0, 0, []),
  (9, none, .bipush 32, 2, 0, 0, 0, 0, 0, []),
  (11, none, .idiv, 1, 0, 0, 0, 0, 0, []),
  (12, none, .iconst 1, 1, 0, 0, 0, 0, 0, []),
  (13, none, .iadd, 1, 0, 0, 0, 0, 0, []),
  (14, none, .ireturn, 1, 0, 0, 0, 0, 0, [])]
noncomputable def K_labour_deerOf : List aE := [
  (0, none, .aload_n 0, 1, 0, 0, 0, 0, 0, []),
  (1, none, .getfield 27, 3, 1, 3, 0, 0, 0, []),
  (4, none, .ifCond .le 17, 3, 21, 0, 0, 0, 0, []),
  (7, none, .iload_n 1, 1, 1, 0, 0, 0, 0, []),
  (8, none, .bipush 32, 2, 0, 0, 0, 0, 0, []),
  (10, none, .idiv, 1, 0, 0, 0, 0, 0, []),
  (11, none, .aload_n 0, 1, 0, 0, 0, 0, 0, []),
  (12, none, .getfield 27, 3, 1, 3, 0, 0, 0, []),
  (15, none, .invokestatic 31, 3, 265, 2, 2, 0, 0, []),
  (18, none, .goto 4, 3, 22, 0, 0, 0, 0, []),
  (21, none, .iconst 0, 1, 0, 0, 0, 0, 0, []),
  (22, none, .istore_n 2, 1, 2, 0, 0, 0, 0, []),
  (23, none, .iload_n 1, 1, 1, 0, 0, 0, 0, []),
  (24, none, .ifCond .eq 9, 3, 33, 0, 0, 0, 0, []),
  (27, none, .iload_n 2, 1, 2, 0, 0, 0, 0, []),
  (28, none, .bipush 10, 2, 0, 0, 0, 0, 0, []),
  (30, none, .if_icmp .lt 7, 3, 37, 0, 0, 0, 0, []),
  (33, none, .iconst (-1), 1, 0, 0, 0, 0, 0, []),
  (34, none, .goto 9, 3, 43, 0, 0, 0, 0, []),
  (37, none, .aload_n 0, 1, 0, 0, 0, 0, 0, []),
  (38, none, .getfield 9, 3, 1, 0, 22, 1, 0, []),
  (41, none, .iload_n 2, 1, 2, 0, 0, 0, 0, []),
  (42, none, .iaload, 1, 0, 0, 0, 0, 0, []),
  (43, none, .ireturn, 1, 0, 0, 0, 0, 0, [])]
noncomputable def K_law_emit : List aE := [
  (0, none, .aload_n 0, 1, 0, 0, 0, 0, 0, []),
  (1, none, .getfield 27, 3, 2, 3, 0, 0, 0, []),
  (4, none, .ifCond .lt 35, 3, 39, 0, 0, 0, 0, []),
  (7, none, .aload_n 0, 1, 0, 0, 0, 0, 0, []),
  (8, none, .getfield 27, 3, 2, 3, 0, 0, 0, []),
  (11, none, .aload_n 0, 1, 0, 0, 0, 0, 0, []),
  (12, none, .getfield 9, 3, 2, 0, 22, 1, 0, []),
  (15, none, .arraylength, 1, 0, 0, 0, 0, 0, []),
  (16, none, .if_icmp .ge 23, 3, 39, 0, 0, 0, 0, []),
  (19, none, .aload_n 0, 1, 0, 0, 0, 0, 0, []),
  (20, none, .getfield 9, 3, 2, 0, 22, 1, 0, []),
  (23, none, .aload_n 0, 1, 0, 0, 0, 0, 0, []),
  (24, none, .getfield 27, 3, 2, 3, 0, 0, 0, []),
  (27, none, .iload_n 1, 1, 1, 0, 0, 0, 0, []),
  (28, none, .iastore, 1, 0, 0, 0, 0, 0, []),
  (29, none, .aload_n 0, 1, 0, 0, 0, 0, 0, []),
  (30, none, .dup, 1, 0, 0, 0, 0, 0, []),
  (31, none, .getfield 27, 3, 2, 3, 0, 0, 0, []),
  (34, none, .iconst 1, 1, 0, 0, 0, 0, 0, []),
  (35, none, .iadd, 1, 0, 0, 0, 0, 0, []),
  (36, none, .putfield 27, 3, 2, 3, 0, 0, 0, []),
  (39, none, .return_, 1, 0, 0, 0, 0, 0, [])]
noncomputable def K_law_tell : List aE := [
  (0, none, .iconst 0, 1, 0, 0, 0, 0, 0, []),
  (1, none, .istore_n 3, 1, 3, 0, 0, 0, 0, []),
  (2, some [true, true, true, true, false, false], .iload_n 3, 1, 3, 0, 0, 0, 0, []),
  (3, none, .aload_n 0, 1, 0, 0, 0, 0, 0, []),
  (4, none, .getfield 23, 3, 2, 2, 7, 3, 0, []),
  (7, none, .getfield 31, 3, 5, 2, 0, 0, 0, []),
  (10, none, .if_icmp .ge 87, 3, 97, 0, 0, 0, 0, []),
  (13, none, .aload_n 0, 1, 0, 0, 0, 0, 0, []),
  (14, none, .getfield 23, 3, 2, 2, 7, 3, 0, []),
  (17, none, .iload_n 3, 1, 3, 0, 0, 0, 0, []),
  (18, none, .iconst 0, 1, 0, 0, 0, 0, 0, []),
  (19, none, .invokevirtual 34, 3, 49, 3, 2, 0, 0, []),
  (22, none, .iload_n 1, 1, 1, 0, 0, 0, 0, []),
  (23, none, .if_icmp .eq 6, 3, 29, 0, 0, 0, 0, []),
  (26, none, .goto 65, 3, 91, 0, 0, 0, 0, []),
  (29, none, .aload_n 0, 1, 0, 0, 0, 0, 0, []),
  (30, none, .getfield 23, 3, 2, 2, 7, 3, 0, []),
  (33, none, .iload_n 3, 1, 3, 0, 0, 0, 0, []),
  (34, none, .iconst 2, 1, 0, 0, 0, 0, 0, []),
  (35, none, .invokevirtual 34, 3, 49, 3, 2, 0, 0, []),
  (38, none, .istore 4, 2, 4, 0, 0, 0, 0, []),
  (40, none, .aload_n 0, 1, 0, 0, 0, 0, 0, []),
  (41, none, .getfield 23, 3, 2, 2, 7, 3, 0, []),
  (44, none, .iload_n 3, 1, 3, 0, 0, 0, 0, []),
  (45, none, .iconst 3, 1, 0, 0, 0, 0, 0, []),
  (46, none, .invokevirtual 34, 3, 49, 3, 2, 0, 0, []),
  (49, none, .istore 5, 2, 5, 0, 0, 0, 0, []),
  (51, none, .iload 4, 2, 4, 0, 0, 0, 0, []),
  (53, none, .iload 5, 2, 5, 0, 0, 0, 0, []),
  (55, none, .if_icmp .eq 15, 3, 70, 0, 0, 0, 0, []),
  (58, none, .aload_n 0, 1, 0, 0, 0, 0, 0, []),
  (59, none, .iload 4, 2, 4, 0, 0, 0, 0, []),
  (61, none, .iload 5, 2, 5, 0, 0, 0, 0, []),
  (63, none, .aload_n 2, 1, 2, 0, 0, 0, 0, []),
  (64, none, .invokevirtual 38, 3, 14, 4, 2, 0, 0, []),
  (67, none, .ifCond .eq 24, 3, 91, 0, 0, 0, 0, []),
  (70, none, .iload_n 1, 1, 1, 0, 0, 0, 0, []),
  (71, none, .aload_n 0, 1, 0, 0, 0, 0, 0, []),
  (72, none, .aload_n 0, 1, 0, 0, 0, 0, 0, []),
  (73, none, .getfield 23, 3, 2, 2, 7, 3, 0, []),
  (76, none, .iload_n 3, 1, 3, 0, 0, 0, 0, []),
  (77, none, .iconst 1, 1, 0, 0, 0, 0, 0, []),
  (78, none, .invokevirtual 34, 3, 49, 3, 2, 0, 0, []),
  (81, none, .iload 4, 2, 4, 0, 0, 0, 0, []),
  (83, none, .aload_n 2, 1, 2, 0, 0, 0, 0, []),
  (84, none, .invokevirtual 38, 3, 14, 4, 2, 0, 0, []),
  (87, none, .invokestatic 42, 3, 12, 2, 2, 0, 0, []),
  (90, none, .ireturn, 1, 0, 0, 0, 0, 0, []),
  (91, none, .iinc 3 1, 3, 3, 0, 0, 0, 0, []),
  (94, none, .goto (-92), 3, 2, 0, 0, 0, 0, []),
  (97, none, .iload_n 1, 1, 1, 0, 0, 0, 0, []),
  (98, none, .iload_n 1, 1, 1, 0, 0, 0, 0, []),
  (99, none, .aload_n 2, 1, 2, 0, 0, 0, 0, []),
  (100, none, .invokestatic 45, 3, 13, 2, 2, 0, 0, []),
  (103, none, .invokestatic 42, 3, 12, 2, 2, 0, 0, []),
  (106, none, .ireturn, 1, 0, 0, 0, 0, 0, [])]
noncomputable def K_law_held : List aE := [
  (0, none, .iload_n 0, 1, 0, 0, 0, 0, 0, []),
  (1, none, .ifCond .ne 9, 3, 10, 0, 0, 0, 0, []),
  (4, none, .sipush 999, 3, 0, 0, 0, 0, 0, []),
  (7, none, .goto 15, 3, 22, 0, 0, 0, 0, []),
  (10, none, .iload_n 0, 1, 0, 0, 0, 0, 0, []),
  (11, none, .iconst 1, 1, 0, 0, 0, 0, 0, []),
  (12, none, .if_icmp .ne 8, 3, 20, 0, 0, 0, 0, []),
  (15, none, .bipush 24, 2, 0, 0, 0, 0, 0, []),
  (17, none, .goto 5, 3, 22, 0, 0, 0, 0, []),
  (20, none, .bipush 9, 2, 0, 0, 0, 0, 0, []),
  (22, none, .istore_n 2, 1, 2, 0, 0, 0, 0, []),
  (23, none, .iconst 0, 1, 0, 0, 0, 0, 0, []),
  (24, none, .iload_n 2, 1, 2, 0, 0, 0, 0, []),
  (25, none, .iload_n 1, 1, 1, 0, 0, 0, 0, []),
  (26, none, .invokestatic 49, 3, 5, 0, 0, 0, 0, []),
  (29, none, .invokestatic 54, 3, 4, 0, 0, 0, 0, []),
  (32, none, .ireturn, 1, 0, 0, 0, 0, 0, [])]
noncomputable def K_law_unsaid : List aE := [
  (0, none, .aload_n 1, 1, 1, 0, 0, 0, 0, []),
  (1, none, .arraylength, 1, 0, 0, 0, 0, 0, []),
  (2, none, .bipush 10, 2, 0, 0, 0, 0, 0, []),
  (4, none, .if_icmp .ge 5, 3, 9, 0, 0, 0, 0, []),
  (7, none, .iconst 0, 1, 0, 0, 0, 0, 0, []),
  (8, none, .ireturn, 1, 0, 0, 0, 0, 0, []),
  (9, none, .iload_n 0, 1, 0, 0, 0, 0, 0, []),
  (10, none, .ifCond .ne 11, 3, 21, 0, 0, 0, 0, []),
  (13, none, .aload_n 1, 1, 1, 0, 0, 0, 0, []),
  (14, none, .iconst 3, 1, 0, 0, 0, 0, 0, []),
  (15, none, .iaload, 1, 0, 0, 0, 0, 0, []),
  (16, none, .iconst 1, 1, 0, 0, 0, 0, 0, []),
  (17, none, .iadd, 1, 0, 0, 0, 0, 0, []),
  (18, none, .goto 24, 3, 42, 0, 0, 0, 0, []),
  (21, none, .iload_n 0, 1, 0, 0, 0, 0, 0, []),
  (22, none, .iconst 1, 1, 0, 0, 0, 0, 0, []),
  (23, none, .if_icmp .ne 12, 3, 35, 0, 0, 0, 0, []),
  (26, none, .bipush 6, 2, 0, 0, 0, 0, 0, []),
  (28, none, .aload_n 1, 1, 1, 0, 0, 0, 0, []),
  (29, none, .iconst 2, 1, 0, 0, 0, 0, 0, []),
  (30, none, .iaload, 1, 0, 0, 0, 0, 0, []),
  (31, none, .iadd, 1, 0, 0, 0, 0, 0, []),
  (32, none, .goto 10, 3, 42, 0, 0, 0, 0, []),
  (35, none, .aload_n 1, 1, 1, 0, 0, 0, 0, []),
  (36, none, .bipush 6, 2, 0, 0, 0, 0, 0, []),
  (38, none, .iaload, 1, 0, 0, 0, 0, 0, []),
  (39, none, .bipush 9, 2, 0, 0, 0, 0, 0, []),
  (41, none, .idiv, 1, 0, 0, 0, 0, 0, []),
  (42, none, .ireturn, 1, 0, 0, 0, 0, 0, [])]
noncomputable def K_law_value : List aE := [
  (0, none, .iconst 0, 1, 0, 0, 0, 0, 0, []),
  (1, none, .istore 4, 2, 4, 0, 0, 0, 0, []),
  (3, none, .iconst 0, 1, 0, 0, 0, 0, 0, []),
  (4, none, .iload_n 1, 1, 1, 0, 0, 0, 0, []),
  (5, none, .invokestatic 54, 3, 4, 0, 0, 0, 0, []),
  (8, none, .istore 5, 2, 5, 0, 0, 0, 0, []),
  (10, some [true, false, true, true, true, true, false], .iload 5, 2, 5, 0, 0, 0, 0, []),
  (12, none, .iload_n 2, 1, 2, 0, 0, 0, 0, []),
  (13, none, .if_icmp .ge 158, 3, 171, 0, 0, 0, 0, []),
  (16, none, .iload 5, 2, 5, 0, 0, 0, 0, []),
  (18, none, .aload_n 0, 1, 0, 0, 0, 0, 0, []),
  (19, none, .getfield 9, 3, 2, 0, 22, 1, 0, []),
  (22, none, .arraylength, 1, 0, 0, 0, 0, 0, []),
  (23, none, .if_icmp .ge 148, 3, 171, 0, 0, 0, 0, []),
  (26, none, .aload_n 0, 1, 0, 0, 0, 0, 0, []),
  (27, none, .getfield 9, 3, 2, 0, 22, 1, 0, []),
  (30, none, .iload 5, 2, 5, 0, 0, 0, 0, []),
  (32, none, .iaload, 1, 0, 0, 0, 0, 0, []),
  (33, none, .istore 6, 2, 6, 0, 0, 0, 0, []),
  (35, none, .iload 6, 2, 6, 0, 0, 0, 0, []),
  (37, none, .bipush (-11), 2, 0, 0, 0, 0, 0, []),
  (39, none, .if_icmp .le 52, 3, 91, 0, 0, 0, 0, []),
  (42, none, .iload 4, 2, 4, 0, 0, 0, 0, []),
  (44, none, .bipush 32, 2, 0, 0, 0, 0, 0, []),
  (46, none, .if_icmp .ge 119, 3, 165, 0, 0, 0, 0, []),
  (49, none, .aload_n 0, 1, 0, 0, 0, 0, 0, []),
  (50, none, .getfield 15, 3, 2, 1, 22, 2, 0, []),
  (53, none, .iload 4, 2, 4, 0, 0, 0, 0, []),
  (55, none, .iload 6, 2, 6, 0, 0, 0, 0, []),
  (57, none, .ifCond .lt 8, 3, 65, 0, 0, 0, 0, []),
  (60, none, .iload 6, 2, 6, 0, 0, 0, 0, []),
  (62, none, .goto 22, 3, 84, 0, 0, 0, 0, []),
  (65, none, .iconst (-1), 1, 0, 0, 0, 0, 0, []),
  (66, none, .iload 6, 2, 6, 0, 0, 0, 0, []),
  (68, none, .isub, 1, 0, 0, 0, 0, 0, []),
  (69, none, .aload_n 3, 1, 3, 0, 0, 0, 0, []),
  (70, none, .arraylength, 1, 0, 0, 0, 0, 0, []),
  (71, none, .if_icmp .ge 12, 3, 83, 0, 0, 0, 0, []),
  (74, none, .aload_n 3, 1, 3, 0, 0, 0, 0, []),
  (75, none, .iconst (-1), 1, 0, 0, 0, 0, 0, []),
  (76, none, .iload 6, 2, 6, 0, 0, 0, 0, []),
  (78, none, .isub, 1, 0, 0, 0, 0, 0, []),
  (79, none, .iaload, 1, 0, 0, 0, 0, 0, []),
  (80, none, .goto 4, 3, 84, 0, 0, 0, 0, []),
  (83, none, .iconst 0, 1, 0, 0, 0, 0, 0, []),
  (84, none, .iastore, 1, 0, 0, 0, 0, 0, []),
  (85, none, .iinc 4 1, 3, 4, 0, 0, 0, 0, []),
  (88, none, .goto 77, 3, 165, 0, 0, 0, 0, []),
  (91, none, .iload 6, 2, 6, 0, 0, 0, 0, []),
  (93, none, .bipush (-18), 2, 0, 0, 0, 0, 0, []),
  (95, none, .if_icmp .ne 31, 3, 126, 0, 0, 0, 0, []),
  (98, none, .iload 4, 2, 4, 0, 0, 0, 0, []),
  (100, none, .ifCond .le 65, 3, 165, 0, 0, 0, 0, []),
  (103, none, .aload_n 0, 1, 0, 0, 0, 0, 0, []),
  (104, none, .getfield 15, 3, 2, 1, 22, 2, 0, []),
  (107, none, .iload 4, 2, 4, 0, 0, 0, 0, []),
  (109, none, .iconst 1, 1, 0, 0, 0, 0, 0, []),
  (110, none, .isub, 1, 0, 0, 0, 0, 0, []),
  (111, none, .iconst 1, 1, 0, 0, 0, 0, 0, []),
  (112, none, .aload_n 0, 1, 0, 0, 0, 0, 0, []),
  (113, none, .getfield 15, 3, 2, 1, 22, 2, 0, []),
  (116, none, .iload 4, 2, 4, 0, 0, 0, 0, []),
  (118, none, .iconst 1, 1, 0, 0, 0, 0, 0, []),
  (119, none, .isub, 1, 0, 0, 0, 0, 0, []),
  (120, none, .iaload, 1, 0, 0, 0, 0, 0, []),
  (121, none, .isub, 1, 0, 0, 0, 0, 0, []),
  (122, none, .iastore, 1, 0, 0, 0, 0, 0, []),
  (123, none, .goto 42, 3, 165, 0, 0, 0, 0, []),
  (126, none, .iload 4, 2, 4, 0, 0, 0, 0, []),
  (128, none, .iconst 1, 1, 0, 0, 0, 0, 0, []),
  (129, none, .if_icmp .le 36, 3, 165, 0, 0, 0, 0, []),
  (132, none, .iinc 4 (-1), 3, 4, 0, 0, 0, 0, []),
  (135, none, .aload_n 0, 1, 0, 0, 0, 0, 0, []),
  (136, none, .getfield 15, 3, 2, 1, 22, 2, 0, []),
  (139, none, .iload 4, 2, 4, 0, 0, 0, 0, []),
  (141, none, .iconst 1, 1, 0, 0, 0, 0, 0, []),
  (142, none, .isub, 1, 0, 0, 0, 0, 0, []),
  (143, none, .iload 6, 2, 6, 0, 0, 0, 0, []),
  (145, none, .aload_n 0, 1, 0, 0, 0, 0, 0, []),
  (146, none, .getfield 15, 3, 2, 1, 22, 2, 0, []),
  (149, none, .iload 4, 2, 4, 0, 0, 0, 0, []),
  (151, none, .iconst 1, 1, 0, 0, 0, 0, 0, []),
  (152, none, .isub, 1, 0, 0, 0, 0, 0, []),
  (153, none, .iaload, 1, 0, 0, 0, 0, 0, []),
  (154, none, .aload_n 0, 1, 0, 0, 0, 0, 0, []),
  (155, none, .getfield 15, 3, 2, 1, 22, 2, 0, []),
  (158, none, .iload 4, 2, 4, 0, 0, 0, 0, []),
  (160, none, .iaload, 1, 0, 0, 0, 0, 0, []),
  (161, none, .invokestatic 57, 3, 15, 3, 2, 0, 0, []),
  (164, none, .iastore, 1, 0, 0, 0, 0, 0, []),
  (165, none, .iinc 5 1, 3, 5, 0, 0, 0, 0, []),
  (168, none, .goto (-158), 3, 10, 0, 0, 0, 0, []),
  (171, none, .iload 4, 2, 4, 0, 0, 0, 0, []),
  (173, none, .ifCond .le 15, 3, 188, 0, 0, 0, 0, []),
  (176, none, .aload_n 0, 1, 0, 0, 0, 0, 0, []),
  (177, none, .getfield 15, 3, 2, 1, 22, 2, 0, []),
  (180, none, .iload 4, 2, 4, 0, 0, 0, 0, []),
  (182, none, .iconst 1, 1, 0, 0, 0, 0, 0, []),
  (183, none, .isub, 1, 0, 0, 0, 0, 0, []),
  (184, none, .iaload, 1, 0, 0, 0, 0, 0, []),
  (185, none, .goto 4, 3, 189, 0, 0, 0, 0, []),
  (188, none, .iconst 0, 1, 0, 0, 0, 0, 0, []),
  (189, none, .ireturn, 1, 0, 0, 0, 0, 0, [])]
noncomputable def K_law_joined : List aE := [
  (0, none, .iload_n 0, 1, 0, 0, 0, 0, 0, []),
  (1, none, .tableswitch 112 (-19) (-11) #[108, 112, 97, 86, 75, 63, 59, 55, 51], 51, 113, 0, 0, 0, 0, [((-19), 109), ((-18), 113), ((-17), 98), ((-16), 87), ((-15), 76), ((-14), 64), ((-13), 60), ((-12), 56), ((-11), 52)]),
  (52, none, .iload_n 1, 1, 1, 0, 0, 0, 0, []),
  (53, none, .iload_n 2, 1, 2, 0, 0, 0, 0, []),
  (54, none, .iadd, 1, 0, 0, 0, 0, 0, []),
  (55, none, .ireturn, 1, 0, 0, 0, 0, 0, []),
  (56, none, .iload_n 1, 1, 1, 0, 0, 0, 0, []),
  (57, none, .iload_n 2, 1, 2, 0, 0, 0, 0, []),
  (58, none, .isub, 1, 0, 0, 0, 0, 0, []),
  (59, none, .ireturn, 1, 0, 0, 0, 0, 0, []),
  (60, none, .iload_n 1, 1, 1, 0, 0, 0, 0, []),
  (61, none, .iload_n 2, 1, 2, 0, 0, 0, 0, []),
  (62, none, .imul, 1, 0, 0, 0, 0, 0, []),
  (63, none, .ireturn, 1, 0, 0, 0, 0, 0, []),
  (64, none, .iload_n 2, 1, 2, 0, 0, 0, 0, []),
  (65, none, .ifCond .ne 7, 3, 72, 0, 0, 0, 0, []),
  (68, none, .iconst 0, 1, 0, 0, 0, 0, 0, []),
  (69, none, .goto 6, 3, 75, 0, 0, 0, 0, []),
  (72, none, .iload_n 1, 1, 1, 0, 0, 0, 0, []),
  (73, none, .iload_n 2, 1, 2, 0, 0, 0, 0, []),
  (74, none, .idiv, 1, 0, 0, 0, 0, 0, []),
  (75, none, .ireturn, 1, 0, 0, 0, 0, 0, []),
  (76, none, .iload_n 1, 1, 1, 0, 0, 0, 0, []),
  (77, none, .iload_n 2, 1, 2, 0, 0, 0, 0, []),
  (78, none, .if_icmp .ge 7, 3, 85, 0, 0, 0, 0, []),
  (81, none, .iconst 1, 1, 0, 0, 0, 0, 0, []),
  (82, none, .goto 4, 3, 86, 0, 0, 0, 0, []),
  (85, none, .iconst 0, 1, 0, 0, 0, 0, 0, []),
  (86, none, .ireturn, 1, 0, 0, 0, 0, 0, []),
  (87, none, .iload_n 1, 1, 1, 0, 0, 0, 0, []),
  (88, none, .iload_n 2, 1, 2, 0, 0, 0, 0, []),
  (89, none, .if_icmp .ne 7, 3, 96, 0, 0, 0, 0, []),
  (92, none, .iconst 1, 1, 0, 0, 0, 0, 0, []),
  (93, none, .goto 4, 3, 97, 0, 0, 0, 0, []),
  (96, none, .iconst 0, 1, 0, 0, 0, 0, 0, []),
  (97, none, .ireturn, 1, 0, 0, 0, 0, 0, []),
  (98, none, .iload_n 1, 1, 1, 0, 0, 0, 0, []),
  (99, none, .iload_n 2, 1, 2, 0, 0, 0, 0, []),
  (100, none, .if_icmp .le 7, 3, 107, 0, 0, 0, 0, []),
  (103, none, .iconst 1, 1, 0, 0, 0, 0, 0, []),
  (104, none, .goto 4, 3, 108, 0, 0, 0, 0, []),
  (107, none, .iconst 0, 1, 0, 0, 0, 0, 0, []),
  (108, none, .ireturn, 1, 0, 0, 0, 0, 0, []),
  (109, none, .iload_n 1, 1, 1, 0, 0, 0, 0, []),
  (110, none, .iload_n 2, 1, 2, 0, 0, 0, 0, []),
  (111, none, .iand, 1, 0, 0, 0, 0, 0, []),
  (112, none, .ireturn, 1, 0, 0, 0, 0, 0, []),
  (113, none, .iload_n 1, 1, 1, 0, 0, 0, 0, []),
  (114, none, .iload_n 2, 1, 2, 0, 0, 0, 0, []),
  (115, none, .ior, 1, 0, 0, 0, 0, 0, []),
  (116, none, .ireturn, 1, 0, 0, 0, 0, 0, [])]
noncomputable def K_law_clear : List aE := [
  (0, none, .aload_n 0, 1, 0, 0, 0, 0, 0, []),
  (1, none, .getfield 23, 3, 2, 2, 7, 3, 0, []),
  (4, none, .iconst 0, 1, 0, 0, 0, 0, 0, []),
  (5, none, .putfield 31, 3, 5, 2, 0, 0, 0, []),
  (8, none, .aload_n 0, 1, 0, 0, 0, 0, 0, []),
  (9, none, .iconst 0, 1, 0, 0, 0, 0, 0, []),
  (10, none, .putfield 27, 3, 2, 3, 0, 0, 0, []),
  (13, none, .return_, 1, 0, 0, 0, 0, 0, [])]
noncomputable def K_law_copyFrom : List aE := [
  (0, none, .aload_n 0, 1, 0, 0, 0, 0, 0, []),
  (1, none, .iconst 0, 1, 0, 0, 0, 0, 0, []),
  (2, none, .sipush 400, 3, 0, 0, 0, 0, 0, []),
  (5, none, .aload_n 1, 1, 1, 0, 0, 0, 0, []),
  (6, none, .getfield 27, 3, 2, 3, 0, 0, 0, []),
  (9, none, .invokestatic 49, 3, 5, 0, 0, 0, 0, []),
  (12, none, .invokestatic 54, 3, 4, 0, 0, 0, 0, []),
  (15, none, .putfield 27, 3, 2, 3, 0, 0, 0, []),
  (18, none, .aload_n 1, 1, 1, 0, 0, 0, 0, []),
  (19, none, .getfield 9, 3, 2, 0, 22, 1, 0, []),
  (22, none, .iconst 0, 1, 0, 0, 0, 0, 0, []),
  (23, none, .aload_n 0, 1, 0, 0, 0, 0, 0, []),
  (24, none, .getfield 9, 3, 2, 0, 22, 1, 0, []),
  (27, none, .iconst 0, 1, 0, 0, 0, 0, 0, []),
  (28, none, .aload_n 0, 1, 0, 0, 0, 0, 0, []),
  (29, none, .getfield 27, 3, 2, 3, 0, 0, 0, []),
  (32, none, .invokestatic 61, 3, 0, 0, 0, 0, 0, []),
  (35, none, .aload_n 0, 1, 0, 0, 0, 0, 0, []),
  (36, none, .getfield 23, 3, 2, 2, 7, 3, 0, []),
  (39, none, .aload_n 1, 1, 1, 0, 0, 0, 0, []),
  (40, none, .getfield 23, 3, 2, 2, 7, 3, 0, []),
  (43, none, .invokevirtual 67, 3, 52, 2, 1, 0, 0, []),
  (46, none, .return_, 1, 0, 0, 0, 0, 0, [])]
noncomputable def K_ord_howMany : List aE := [
  (0, none, .aload_n 0, 1, 0, 0, 0, 0, 0, []),
  (1, none, .aload_n 1, 1, 1, 0, 0, 0, 0, []),
  (2, none, .invokevirtual 24, 3, 20, 2, 1, 0, 0, []),
  (5, none, .aload_n 0, 1, 0, 0, 0, 0, 0, []),
  (6, none, .aload_n 1, 1, 1, 0, 0, 0, 0, []),
  (7, none, .invokestatic 28, 3, 19, 1, 2, 0, 0, []),
  (10, none, .invokevirtual 32, 3, 22, 2, 2, 0, 0, []),
  (13, none, .ireturn, 1, 0, 0, 0, 0, 0, [])]
noncomputable def K_ord_herdSize : List aE := [
  (0, none, .iconst 0, 1, 0, 0, 0, 0, 0, []),
  (1, none, .bipush 10, 2, 0, 0, 0, 0, 0, []),
  (3, none, .aload_n 0, 1, 0, 0, 0, 0, 0, []),
  (4, none, .getfield 36, 3, 9, 0, 10, 1, 0, []),
  (7, none, .getfield 42, 3, 8, 4, 0, 0, 0, []),
  (10, none, .invokestatic 48, 3, 5, 0, 0, 0, 0, []),
  (13, none, .invokestatic 54, 3, 4, 0, 0, 0, 0, []),
  (16, none, .ireturn, 1, 0, 0, 0, 0, 0, [])]
noncomputable def K_ord_learn : List aE := [
  (0, none, .aload_n 0, 1, 0, 0, 0, 0, 0, []),
  (1, none, .getfield 9, 3, 3, 0, 22, 1, 0, []),
  (4, none, .iconst 0, 1, 0, 0, 0, 0, 0, []),
  (5, none, .invokestatic 57, 3, 278, 2, 1, 0, 0, []),
  (8, none, .iconst 0, 1, 0, 0, 0, 0, 0, []),
  (9, none, .istore_n 2, 1, 2, 0, 0, 0, 0, []),
  (10, some [true, true, true, false, false], .iload_n 2, 1, 2, 0, 0, 0, 0, []),
  (11, none, .aload_n 1, 1, 1, 0, 0, 0, 0, []),
  (12, none, .getfield 63, 3, 9, 6, 7, 19, 0, []),
  (15, none, .getfield 67, 3, 5, 2, 0, 0, 0, []),
  (18, none, .if_icmp .ge 66, 3, 84, 0, 0, 0, 0, []),
  (21, none, .aload_n 1, 1, 1, 0, 0, 0, 0, []),
  (22, none, .getfield 63, 3, 9, 6, 7, 19, 0, []),
  (25, none, .iload_n 2, 1, 2, 0, 0, 0, 0, []),
  (26, none, .iconst 0, 1, 0, 0, 0, 0, 0, []),
  (27, none, .invokevirtual 70, 3, 49, 3, 2, 0, 0, []),
  (30, none, .istore_n 3, 1, 3, 0, 0, 0, 0, []),
  (31, none, .aload_n 1, 1, 1, 0, 0, 0, 0, []),
  (32, none, .getfield 63, 3, 9, 6, 7, 19, 0, []),
  (35, none, .iload_n 2, 1, 2, 0, 0, 0, 0, []),
  (36, none, .iconst 1, 1, 0, 0, 0, 0, 0, []),
  (37, none, .invokevirtual 70, 3, 49, 3, 2, 0, 0, []),
  (40, none, .istore 4, 2, 4, 0, 0, 0, 0, []),
  (42, none, .aload_n 1, 1, 1, 0, 0, 0, 0, []),
  (43, none, .getfield 36, 3, 9, 0, 10, 1, 0, []),
  (46, none, .iload_n 3, 1, 3, 0, 0, 0, 0, []),
  (47, none, .invokevirtual 73, 3, 83, 2, 2, 0, 0, []),
  (50, none, .ifCond .eq 28, 3, 78, 0, 0, 0, 0, []),
  (53, none, .aload_n 1, 1, 1, 0, 0, 0, 0, []),
  (54, none, .getfield 36, 3, 9, 0, 10, 1, 0, []),
  (57, none, .iload 4, 2, 4, 0, 0, 0, 0, []),
  (59, none, .invokevirtual 73, 3, 83, 2, 2, 0, 0, []),
  (62, none, .ifCond .eq 16, 3, 78, 0, 0, 0, 0, []),
  (65, none, .aload_n 0, 1, 0, 0, 0, 0, 0, []),
  (66, none, .getfield 9, 3, 3, 0, 22, 1, 0, []),
  (69, none, .iload 4, 2, 4, 0, 0, 0, 0, []),
  (71, none, .dup2, 1, 0, 0, 0, 0, 0, []),
  (72, none, .iaload, 1, 0, 0, 0, 0, 0, []),
  (73, none, .iconst 1, 1, 0, 0, 0, 0, 0, []),
  (74, none, .iload_n 3, 1, 3, 0, 0, 0, 0, []),
  (75, none, .ishl, 1, 0, 0, 0, 0, 0, []),
  (76, none, .ior, 1, 0, 0, 0, 0, 0, []),
  (77, none, .iastore, 1, 0, 0, 0, 0, 0, []),
  (78, none, .iinc 2 1, 3, 2, 0, 0, 0, 0, []),
  (81, none, .goto (-71), 3, 10, 0, 0, 0, 0, []),
  (84, none, .return_, 1, 0, 0, 0, 0, 0, [])]
noncomputable def K_ord_canFollow : List aE := [
  (0, none, .iload_n 1, 1, 1, 0, 0, 0, 0, []),
  (1, none, .iload_n 2, 1, 2, 0, 0, 0, 0, []),
  (2, none, .ishr, 1, 0, 0, 0, 0, 0, []),
  (3, none, .iconst 1, 1, 0, 0, 0, 0, 0, []),
  (4, none, .iand, 1, 0, 0, 0, 0, 0, []),
  (5, none, .ifCond .ne 20, 3, 25, 0, 0, 0, 0, []),
  (8, none, .aload_n 0, 1, 0, 0, 0, 0, 0, []),
  (9, none, .getfield 9, 3, 3, 0, 22, 1, 0, []),
  (12, none, .iload_n 2, 1, 2, 0, 0, 0, 0, []),
  (13, none, .iaload, 1, 0, 0, 0, 0, 0, []),
  (14, none, .iload_n 1, 1, 1, 0, 0, 0, 0, []),
  (15, none, .iconst (-1), 1, 0, 0, 0, 0, 0, []),
  (16, none, .ixor, 1, 0, 0, 0, 0, 0, []),
  (17, none, .iand, 1, 0, 0, 0, 0, 0, []),
  (18, none, .ifCond .ne 7, 3, 25, 0, 0, 0, 0, []),
  (21, none, .iconst 1, 1, 0, 0, 0, 0, 0, []),
  (22, none, .goto 4, 3, 26, 0, 0, 0, 0, []),
  (25, none, .iconst 0, 1, 0, 0, 0, 0, 0, []),
  (26, none, .ireturn, 1, 1, 0, 0, 0, 0, [])]
noncomputable def K_ord_countUpTo : List aE := [
  (0, none, .aload_n 0, 1, 0, 0, 0, 0, 0, []),
  (1, none, .getfield 15, 3, 3, 1, 22, 2, 0, []),
  (4, none, .iconst 0, 1, 0, 0, 0, 0, 0, []),
  (5, none, .invokestatic 57, 3, 278, 2, 1, 0, 0, []),
  (8, none, .iconst 1, 1, 0, 0, 0, 0, 0, []),
  (9, none, .iload_n 1, 1, 1, 0, 0, 0, 0, []),
  (10, none, .ishl, 1, 0, 0, 0, 0, 0, []),
  (11, none, .iconst 1, 1, 0, 0, 0, 0, 0, []),
  (12, none, .isub, 1, 0, 0, 0, 0, 0, []),
  (13, none, .istore_n 2, 1, 2, 0, 0, 0, 0, []),
  (14, none, .aload_n 0, 1, 0, 0, 0, 0, 0, []),
  (15, none, .getfield 15, 3, 3, 1, 22, 2, 0, []),
  (18, none, .iconst 0, 1, 0, 0, 0, 0, 0, []),
  (19, none, .iconst 1, 1, 0, 0, 0, 0, 0, []),
  (20, none, .iastore, 1, 0, 0, 0, 0, 0, []),
  (21, none, .iconst 0, 1, 0, 0, 0, 0, 0, []),
  (22, none, .istore_n 3, 1, 3, 0, 0, 0, 0, []),
  (23, some [true, true, true, true, false], .iload_n 3, 1, 3, 0, 0, 0, 0, []),
  (24, none, .iload_n 2, 1, 2, 0, 0, 0, 0, []),
  (25, none, .if_icmp .ge 63, 3, 88, 0, 0, 0, 0, []),
  (28, none, .iconst 0, 1, 0, 0, 0, 0, 0, []),
  (29, none, .istore 4, 2, 4, 0, 0, 0, 0, []),
  (31, some [true, true, true, true, true], .iload 4, 2, 4, 0, 0, 0, 0, []),
  (33, none, .iload_n 1, 1, 1, 0, 0, 0, 0, []),
  (34, none, .if_icmp .ge 48, 3, 82, 0, 0, 0, 0, []),
  (37, none, .aload_n 0, 1, 0, 0, 0, 0, 0, []),
  (38, none, .getfield 15, 3, 3, 1, 22, 2, 0, []),
  (41, none, .iload_n 3, 1, 3, 0, 0, 0, 0, []),
  (42, none, .iaload, 1, 0, 0, 0, 0, 0, []),
  (43, none, .ifCond .eq 39, 3, 82, 0, 0, 0, 0, []),
  (46, none, .aload_n 0, 1, 0, 0, 0, 0, 0, []),
  (47, none, .iload_n 3, 1, 3, 0, 0, 0, 0, []),
  (48, none, .iload 4, 2, 4, 0, 0, 0, 0, []),
  (50, none, .invokevirtual 77, 3, 21, 3, 2, 0, 0, []),
  (53, none, .ifCond .eq 23, 3, 76, 0, 0, 0, 0, []),
  (56, none, .aload_n 0, 1, 0, 0, 0, 0, 0, []),
  (57, none, .getfield 15, 3, 3, 1, 22, 2, 0, []),
  (60, none, .iload_n 3, 1, 3, 0, 0, 0, 0, []),
  (61, none, .iconst 1, 1, 0, 0, 0, 0, 0, []),
  (62, none, .iload 4, 2, 4, 0, 0, 0, 0, []),
  (64, none, .ishl, 1, 0, 0, 0, 0, 0, []),
  (65, none, .ior, 1, 0, 0, 0, 0, 0, []),
  (66, none, .dup2, 1, 0, 0, 0, 0, 0, []),
  (67, none, .iaload, 1, 0, 0, 0, 0, 0, []),
  (68, none, .aload_n 0, 1, 0, 0, 0, 0, 0, []),
  (69, none, .getfield 15, 3, 3, 1, 22, 2, 0, []),
  (72, none, .iload_n 3, 1, 3, 0, 0, 0, 0, []),
  (73, none, .iaload, 1, 0, 0, 0, 0, 0, []),
  (74, none, .iadd, 1, 0, 0, 0, 0, 0, []),
  (75, none, .iastore, 1, 0, 0, 0, 0, 0, []),
  (76, none, .iinc 4 1, 3, 4, 0, 0, 0, 0, []),
  (79, none, .goto (-48), 3, 31, 0, 0, 0, 0, []),
  (82, none, .iinc 3 1, 3, 3, 0, 0, 0, 0, []),
  (85, none, .goto (-62), 3, 23, 0, 0, 0, 0, []),
  (88, none, .aload_n 0, 1, 0, 0, 0, 0, 0, []),
  (89, none, .getfield 15, 3, 3, 1, 22, 2, 0, []),
  (92, none, .iload_n 2, 1, 2, 0, 0, 0, 0, []),
  (93, none, .iaload, 1, 0, 0, 0, 0, 0, []),
  (94, none, .ireturn, 1, 0, 0, 0, 0, 0, [])]
noncomputable def K_ord_countBehind : List aE := [
  (0, none, .aload_n 0, 1, 0, 0, 0, 0, 0, []),
  (1, none, .getfield 18, 3, 3, 2, 22, 3, 0, []),
  (4, none, .iconst 0, 1, 0, 0, 0, 0, 0, []),
  (5, none, .invokestatic 57, 3, 278, 2, 1, 0, 0, []),
  (8, none, .iconst 1, 1, 0, 0, 0, 0, 0, []),
  (9, none, .iload_n 1, 1, 1, 0, 0, 0, 0, []),
  (10, none, .ishl, 1, 0, 0, 0, 0, 0, []),
  (11, none, .iconst 1, 1, 0, 0, 0, 0, 0, []),
  (12, none, .isub, 1, 0, 0, 0, 0, 0, []),
  (13, none, .istore_n 2, 1, 2, 0, 0, 0, 0, []),
  (14, none, .aload_n 0, 1, 0, 0, 0, 0, 0, []),
  (15, none, .getfield 18, 3, 3, 2, 22, 3, 0, []),
  (18, none, .iload_n 2, 1, 2, 0, 0, 0, 0, []),
  (19, none, .iconst 1, 1, 0, 0, 0, 0, 0, []),
  (20, none, .iastore, 1, 0, 0, 0, 0, 0, []),
  (21, none, .iload_n 2, 1, 2, 0, 0, 0, 0, []),
  (22, none, .iconst 1, 1, 0, 0, 0, 0, 0, []),
  (23, none, .isub, 1, 0, 0, 0, 0, 0, []),
  (24, none, .istore_n 3, 1, 3, 0, 0, 0, 0, []),
  (25, some [true, true, false, true, false], .iload_n 3, 1, 3, 0, 0, 0, 0, []),
  (26, none, .ifCond .lt 63, 3, 89, 0, 0, 0, 0, []),
  (29, none, .iconst 0, 1, 0, 0, 0, 0, 0, []),
  (30, none, .istore 4, 2, 4, 0, 0, 0, 0, []),
  (32, some [true, true, false, true, true], .iload 4, 2, 4, 0, 0, 0, 0, []),
  (34, none, .iload_n 1, 1, 1, 0, 0, 0, 0, []),
  (35, none, .if_icmp .ge 48, 3, 83, 0, 0, 0, 0, []),
  (38, none, .aload_n 0, 1, 0, 0, 0, 0, 0, []),
  (39, none, .getfield 15, 3, 3, 1, 22, 2, 0, []),
  (42, none, .iload_n 3, 1, 3, 0, 0, 0, 0, []),
  (43, none, .iaload, 1, 0, 0, 0, 0, 0, []),
  (44, none, .ifCond .eq 39, 3, 83, 0, 0, 0, 0, []),
  (47, none, .aload_n 0, 1, 0, 0, 0, 0, 0, []),
  (48, none, .iload_n 3, 1, 3, 0, 0, 0, 0, []),
  (49, none, .iload 4, 2, 4, 0, 0, 0, 0, []),
  (51, none, .invokevirtual 77, 3, 21, 3, 2, 0, 0, []),
  (54, none, .ifCond .eq 23, 3, 77, 0, 0, 0, 0, []),
  (57, none, .aload_n 0, 1, 0, 0, 0, 0, 0, []),
  (58, none, .getfield 18, 3, 3, 2, 22, 3, 0, []),
  (61, none, .iload_n 3, 1, 3, 0, 0, 0, 0, []),
  (62, none, .dup2, 1, 0, 0, 0, 0, 0, []),
  (63, none, .iaload, 1, 0, 0, 0, 0, 0, []),
  (64, none, .aload_n 0, 1, 0, 0, 0, 0, 0, []),
  (65, none, .getfield 18, 3, 3, 2, 22, 3, 0, []),
  (68, none, .iload_n 3, 1, 3, 0, 0, 0, 0, []),
  (69, none, .iconst 1, 1, 0, 0, 0, 0, 0, []),
  (70, none, .iload 4, 2, 4, 0, 0, 0, 0, []),
  (72, none, .ishl, 1, 0, 0, 0, 0, 0, []),
  (73, none, .ior, 1, 0, 0, 0, 0, 0, []),
  (74, none, .iaload, 1, 0, 0, 0, 0, 0, []),
  (75, none, .iadd, 1, 0, 0, 0, 0, 0, []),
  (76, none, .iastore, 1, 0, 0, 0, 0, 0, []),
  (77, none, .iinc 4 1, 3, 4, 0, 0, 0, 0, []),
  (80, none, .goto (-48), 3, 32, 0, 0, 0, 0, []),
  (83, none, .iinc 3 (-1), 3, 3, 0, 0, 0, 0, []),
  (86, none, .goto (-61), 3, 25, 0, 0, 0, 0, []),
  (89, none, .return_, 1, 0, 0, 0, 0, 0, [])]
noncomputable def K_ord_countCouples : List aE := [
  (0, none, .aload_n 0, 1, 0, 0, 0, 0, 0, []),
  (1, none, .getfield 21, 3, 3, 3, 22, 4, 0, []),
  (4, none, .iconst 0, 1, 0, 0, 0, 0, 0, []),
  (5, none, .invokestatic 57, 3, 278, 2, 1, 0, 0, []),
  (8, none, .iconst 1, 1, 0, 0, 0, 0, 0, []),
  (9, none, .iload_n 1, 1, 1, 0, 0, 0, 0, []),
  (10, none, .ishl, 1, 0, 0, 0, 0, 0, []),
  (11, none, .iconst 1, 1, 0, 0, 0, 0, 0, []),
  (12, none, .isub, 1, 0, 0, 0, 0, 0, []),
  (13, none, .istore_n 2, 1, 2, 0, 0, 0, 0, []),
  (14, none, .iconst 1, 1, 0, 0, 0, 0, 0, []),
  (15, none, .istore_n 3, 1, 3, 0, 0, 0, 0, []),
  (16, some [true, true, true, true, false, false, false], .iload_n 3, 1, 3, 0, 0, 0, 0, []),
  (17, none, .iload_n 2, 1, 2, 0, 0, 0, 0, []),
  (18, none, .if_icmp .ge 112, 3, 130, 0, 0, 0, 0, []),
  (21, none, .iconst 0, 1, 0, 0, 0, 0, 0, []),
  (22, none, .istore 4, 2, 4, 0, 0, 0, 0, []),
  (24, some [true, true, true, true, true, false, false], .iload 4, 2, 4, 0, 0, 0, 0, []),
  (26, none, .iload_n 1, 1, 1, 0, 0, 0, 0, []),
  (27, none, .if_icmp .ge 97, 3, 124, 0, 0, 0, 0, []),
  (30, none, .aload_n 0, 1, 0, 0, 0, 0, 0, []),
  (31, none, .getfield 15, 3, 3, 1, 22, 2, 0, []),
  (34, none, .iload_n 3, 1, 3, 0, 0, 0, 0, []),
  (35, none, .iaload, 1, 0, 0, 0, 0, 0, []),
  (36, none, .ifCond .eq 88, 3, 124, 0, 0, 0, 0, []),
  (39, none, .aload_n 0, 1, 0, 0, 0, 0, 0, []),
  (40, none, .iload_n 3, 1, 3, 0, 0, 0, 0, []),
  (41, none, .iload 4, 2, 4, 0, 0, 0, 0, []),
  (43, none, .invokevirtual 77, 3, 21, 3, 2, 0, 0, []),
  (46, none, .ifCond .eq 24, 3, 70, 0, 0, 0, 0, []),
  (49, none, .aload_n 0, 1, 0, 0, 0, 0, 0, []),
  (50, none, .getfield 15, 3, 3, 1, 22, 2, 0, []),
  (53, none, .iload_n 3, 1, 3, 0, 0, 0, 0, []),
  (54, none, .iaload, 1, 0, 0, 0, 0, 0, []),
  (55, none, .aload_n 0, 1, 0, 0, 0, 0, 0, []),
  (56, none, .getfield 18, 3, 3, 2, 22, 3, 0, []),
  (59, none, .iload_n 3, 1, 3, 0, 0, 0, 0, []),
  (60, none, .iconst 1, 1, 0, 0, 0, 0, 0, []),
  (61, none, .iload 4, 2, 4, 0, 0, 0, 0, []),
  (63, none, .ishl, 1, 0, 0, 0, 0, 0, []),
  (64, none, .ior, 1, 0, 0, 0, 0, 0, []),
  (65, none, .iaload, 1, 0, 0, 0, 0, 0, []),
  (66, none, .imul, 1, 0, 0, 0, 0, 0, []),
  (67, none, .goto 4, 3, 71, 0, 0, 0, 0, []),
  (70, none, .iconst 0, 1, 0, 0, 0, 0, 0, []),
  (71, none, .istore 5, 2, 5, 0, 0, 0, 0, []),
  (73, none, .iconst 0, 1, 0, 0, 0, 0, 0, []),
  (74, none, .istore 6, 2, 6, 0, 0, 0, 0, []),
  (76, some [true, true, true, true, true, true, true], .iload 6, 2, 6, 0, 0, 0, 0, []),
  (78, none, .iload_n 1, 1, 1, 0, 0, 0, 0, []),
  (79, none, .if_icmp .ge 39, 3, 118, 0, 0, 0, 0, []),
  (82, none, .iload 5, 2, 5, 0, 0, 0, 0, []),
  (84, none, .ifCond .eq 34, 3, 118, 0, 0, 0, 0, []),
  (87, none, .aload_n 0, 1, 0, 0, 0, 0, 0, []),
  (88, none, .getfield 21, 3, 3, 3, 22, 4, 0, []),
  (91, none, .iload 6, 2, 6, 0, 0, 0, 0, []),
  (93, none, .bipush 10, 2, 0, 0, 0, 0, 0, []),
  (95, none, .imul, 1, 0, 0, 0, 0, 0, []),
  (96, none, .iload 4, 2, 4, 0, 0, 0, 0, []),
  (98, none, .iadd, 1, 0, 0, 0, 0, 0, []),
  (99, none, .dup2, 1, 0, 0, 0, 0, 0, []),
  (100, none, .iaload, 1, 0, 0, 0, 0, 0, []),
  (101, none, .iload 5, 2, 5, 0, 0, 0, 0, []),
  (103, none, .iload_n 3, 1, 3, 0, 0, 0, 0, []),
  (104, none, .iload 6, 2, 6, 0, 0, 0, 0, []),
  (106, none, .ishr, 1, 0, 0, 0, 0, 0, []),
  (107, none, .iconst 1, 1, 0, 0, 0, 0, 0, []),
  (108, none, .iand, 1, 0, 0, 0, 0, 0, []),
  (109, none, .imul, 1, 0, 0, 0, 0, 0, []),
  (110, none, .iadd, 1, 0, 0, 0, 0, 0, []),
  (111, none, .iastore, 1, 0, 0, 0, 0, 0, []),
  (112, none, .iinc 6 1, 3, 6, 0, 0, 0, 0, []),
  (115, none, .goto (-39), 3, 76, 0, 0, 0, 0, []),
  (118, none, .iinc 4 1, 3, 4, 0, 0, 0, 0, []),
  (121, none, .goto (-97), 3, 24, 0, 0, 0, 0, []),
  (124, none, .iinc 3 1, 3, 3, 0, 0, 0, 0, []),
  (127, none, .goto (-111), 3, 16, 0, 0, 0, 0, []),
  (130, none, .return_, 1, 0, 0, 0, 0, 0, [])]
noncomputable def K_ord_asks : List aE := [
  (0, none, .aload_n 1, 1, 1, 0, 0, 0, 0, []),
  (1, none, .invokestatic 28, 3, 19, 1, 2, 0, 0, []),
  (4, none, .istore_n 3, 1, 3, 0, 0, 0, 0, []),
  (5, none, .aload_n 0, 1, 0, 0, 0, 0, 0, []),
  (6, none, .aload_n 1, 1, 1, 0, 0, 0, 0, []),
  (7, none, .invokevirtual 24, 3, 20, 2, 1, 0, 0, []),
  (10, none, .aload_n 0, 1, 0, 0, 0, 0, 0, []),
  (11, none, .iload_n 3, 1, 3, 0, 0, 0, 0, []),
  (12, none, .invokevirtual 32, 3, 22, 2, 2, 0, 0, []),
  (15, none, .iconst 2, 1, 0, 0, 0, 0, 0, []),
  (16, none, .if_icmp .ge 5, 3, 21, 0, 0, 0, 0, []),
  (19, none, .iconst (-1), 1, 0, 0, 0, 0, 0, []),
  (20, none, .ireturn, 1, 0, 0, 0, 0, 0, []),
  (21, none, .aload_n 0, 1, 0, 0, 0, 0, 0, []),
  (22, none, .iload_n 3, 1, 3, 0, 0, 0, 0, []),
  (23, none, .invokevirtual 81, 3, 23, 2, 1, 0, 0, []),
  (26, none, .aload_n 0, 1, 0, 0, 0, 0, 0, []),
  (27, none, .iload_n 3, 1, 3, 0, 0, 0, 0, []),
  (28, none, .invokevirtual 85, 3, 24, 2, 1, 0, 0, []),
  (31, none, .iconst 0, 1, 0, 0, 0, 0, 0, []),
  (32, none, .istore 4, 2, 4, 0, 0, 0, 0, []),
  (34, none, .iconst (-1), 1, 0, 0, 0, 0, 0, []),
  (35, none, .istore 5, 2, 5, 0, 0, 0, 0, []),
  (37, none, .iconst 0, 1, 0, 0, 0, 0, 0, []),
  (38, none, .istore 6, 2, 6, 0, 0, 0, 0, []),
  (40, some [true, false, true, true, true, true, true, false, false], .iload 6, 2, 6, 0, 0, 0, 0, []),
  (42, none, .iload_n 3, 1, 3, 0, 0, 0, 0, []),
  (43, none, .if_icmp .ge 85, 3, 128, 0, 0, 0, 0, []),
  (46, none, .iload 6, 2, 6, 0, 0, 0, 0, []),
  (48, none, .iconst 1, 1, 0, 0, 0, 0, 0, []),
  (49, none, .iadd, 1, 0, 0, 0, 0, 0, []),
  (50, none, .istore 7, 2, 7, 0, 0, 0, 0, []),
  (52, some [true, false, true, true, true, true, true, true, false], .iload 7, 2, 7, 0, 0, 0, 0, []),
  (54, none, .iload_n 3, 1, 3, 0, 0, 0, 0, []),
  (55, none, .if_icmp .ge 67, 3, 122, 0, 0, 0, 0, []),
  (58, none, .aload_n 0, 1, 0, 0, 0, 0, 0, []),
  (59, none, .getfield 21, 3, 3, 3, 22, 4, 0, []),
  (62, none, .iload 6, 2, 6, 0, 0, 0, 0, []),
  (64, none, .bipush 10, 2, 0, 0, 0, 0, 0, []),
  (66, none, .imul, 1, 0, 0, 0, 0, 0, []),
  (67, none, .iload 7, 2, 7, 0, 0, 0, 0, []),
  (69, none, .iadd, 1, 0, 0, 0, 0, 0, []),
  (70, none, .iaload, 1, 0, 0, 0, 0, 0, []),
  (71, none, .aload_n 0, 1, 0, 0, 0, 0, 0, []),
  (72, none, .getfield 21, 3, 3, 3, 22, 4, 0, []),
  (75, none, .iload 7, 2, 7, 0, 0, 0, 0, []),
  (77, none, .bipush 10, 2, 0, 0, 0, 0, 0, []),
  (79, none, .imul, 1, 0, 0, 0, 0, 0, []),
  (80, none, .iload 6, 2, 6, 0, 0, 0, 0, []),
  (82, none, .iadd, 1, 0, 0, 0, 0, 0, []),
  (83, none, .iaload, 1, 0, 0, 0, 0, 0, []),
  (84, none, .invokestatic 54, 3, 4, 0, 0, 0, 0, []),
  (87, none, .istore 8, 2, 8, 0, 0, 0, 0, []),
  (89, none, .iload 5, 2, 5, 0, 0, 0, 0, []),
  (91, none, .iconst (-1), 1, 0, 0, 0, 0, 0, []),
  (92, none, .if_icmp .eq 10, 3, 102, 0, 0, 0, 0, []),
  (95, none, .iload 8, 2, 8, 0, 0, 0, 0, []),
  (97, none, .iload 4, 2, 4, 0, 0, 0, 0, []),
  (99, none, .if_icmp .ge 17, 3, 116, 0, 0, 0, 0, []),
  (102, none, .iload 8, 2, 8, 0, 0, 0, 0, []),
  (104, none, .istore 4, 2, 4, 0, 0, 0, 0, []),
  (106, none, .iload 6, 2, 6, 0, 0, 0, 0, []),
  (108, none, .bipush 10, 2, 0, 0, 0, 0, 0, []),
  (110, none, .imul, 1, 0, 0, 0, 0, 0, []),
  (111, none, .iload 7, 2, 7, 0, 0, 0, 0, []),
  (113, none, .iadd, 1, 0, 0, 0, 0, 0, []),
  (114, none, .istore 5, 2, 5, 0, 0, 0, 0, []),
  (116, none, .iinc 7 1, 3, 7, 0, 0, 0, 0, []),
  (119, none, .goto (-67), 3, 52, 0, 0, 0, 0, []),
  (122, none, .iinc 6 1, 3, 6, 0, 0, 0, 0, []),
  (125, none, .goto (-85), 3, 40, 0, 0, 0, 0, []),
  (128, none, .iload 5, 2, 5, 0, 0, 0, 0, []),
  (130, none, .iconst (-1), 1, 0, 0, 0, 0, 0, []),
  (131, none, .if_icmp .ne 7, 3, 138, 0, 0, 0, 0, []),
  (134, none, .iconst (-1), 1, 0, 0, 0, 0, 0, []),
  (135, none, .goto 20, 3, 155, 0, 0, 0, 0, []),
  (138, none, .iload_n 2, 1, 2, 0, 0, 0, 0, []),
  (139, none, .ifCond .eq 11, 3, 150, 0, 0, 0, 0, []),
  (142, none, .iload 5, 2, 5, 0, 0, 0, 0, []),
  (144, none, .bipush 10, 2, 0, 0, 0, 0, 0, []),
  (146, none, .idiv, 1, 0, 0, 0, 0, 0, []),
  (147, none, .goto 8, 3, 155, 0, 0, 0, 0, []),
  (150, none, .iload 5, 2, 5, 0, 0, 0, 0, []),
  (152, none, .bipush 10, 2, 0, 0, 0, 0, 0, []),
  (154, none, .irem, 1, 0, 0, 0, 0, 0, []),
  (155, none, .ireturn, 1, 0, 0, 0, 0, 0, [])]
noncomputable def K_ord_placeOfFirst : List aE := [
  (0, none, .aload_n 1, 1, 1, 0, 0, 0, 0, []),
  (1, none, .invokestatic 28, 3, 19, 1, 2, 0, 0, []),
  (4, none, .istore_n 3, 1, 3, 0, 0, 0, 0, []),
  (5, none, .aload_n 0, 1, 0, 0, 0, 0, 0, []),
  (6, none, .aload_n 1, 1, 1, 0, 0, 0, 0, []),
  (7, none, .invokevirtual 24, 3, 20, 2, 1, 0, 0, []),
  (10, none, .iconst 0, 1, 0, 0, 0, 0, 0, []),
  (11, none, .istore 4, 2, 4, 0, 0, 0, 0, []),
  (13, none, .iconst (-1), 1, 0, 0, 0, 0, 0, []),
  (14, none, .istore 5, 2, 5, 0, 0, 0, 0, []),
  (16, none, .iconst 0, 1, 0, 0, 0, 0, 0, []),
  (17, none, .istore 6, 2, 6, 0, 0, 0, 0, []),
  (19, some [true, false, true, true, true, true, true, false], .iload 6, 2, 6, 0, 0, 0, 0, []),
  (21, none, .iload_n 3, 1, 3, 0, 0, 0, 0, []),
  (22, none, .if_icmp .ge 45, 3, 67, 0, 0, 0, 0, []),
  (25, none, .aload_n 0, 1, 0, 0, 0, 0, 0, []),
  (26, none, .iload 4, 2, 4, 0, 0, 0, 0, []),
  (28, none, .iload_n 3, 1, 3, 0, 0, 0, 0, []),
  (29, none, .invokevirtual 88, 3, 27, 3, 2, 0, 0, []),
  (32, none, .istore 7, 2, 7, 0, 0, 0, 0, []),
  (34, none, .iload 7, 2, 7, 0, 0, 0, 0, []),
  (36, none, .iconst (-1), 1, 0, 0, 0, 0, 0, []),
  (37, none, .if_icmp .ne 5, 3, 42, 0, 0, 0, 0, []),
  (40, none, .iconst (-1), 1, 0, 0, 0, 0, 0, []),
  (41, none, .ireturn, 1, 0, 0, 0, 0, 0, []),
  (42, none, .iload 4, 2, 4, 0, 0, 0, 0, []),
  (44, none, .iconst 1, 1, 0, 0, 0, 0, 0, []),
  (45, none, .iload 7, 2, 7, 0, 0, 0, 0, []),
  (47, none, .ishl, 1, 0, 0, 0, 0, 0, []),
  (48, none, .ior, 1, 0, 0, 0, 0, 0, []),
  (49, none, .istore 4, 2, 4, 0, 0, 0, 0, []),
  (51, none, .iload 6, 2, 6, 0, 0, 0, 0, []),
  (53, none, .iload_n 2, 1, 2, 0, 0, 0, 0, []),
  (54, none, .if_icmp .ne 7, 3, 61, 0, 0, 0, 0, []),
  (57, none, .iload 7, 2, 7, 0, 0, 0, 0, []),
  (59, none, .istore 5, 2, 5, 0, 0, 0, 0, []),
  (61, none, .iinc 6 1, 3, 6, 0, 0, 0, 0, []),
  (64, none, .goto (-45), 3, 19, 0, 0, 0, 0, []),
  (67, none, .iload 5, 2, 5, 0, 0, 0, 0, []),
  (69, none, .ireturn, 1, 0, 0, 0, 0, 0, [])]
noncomputable def K_ord_leastToFollow : List aE := [
  (0, none, .iconst 0, 1, 0, 0, 0, 0, 0, []),
  (1, none, .istore_n 3, 1, 3, 0, 0, 0, 0, []),
  (2, some [true, true, true, true], .iload_n 3, 1, 3, 0, 0, 0, 0, []),
  (3, none, .iload_n 2, 1, 2, 0, 0, 0, 0, []),
  (4, none, .if_icmp .ge 20, 3, 24, 0, 0, 0, 0, []),
  (7, none, .aload_n 0, 1, 0, 0, 0, 0, 0, []),
  (8, none, .iload_n 1, 1, 1, 0, 0, 0, 0, []),
  (9, none, .iload_n 3, 1, 3, 0, 0, 0, 0, []),
  (10, none, .invokevirtual 77, 3, 21, 3, 2, 0, 0, []),
  (13, none, .ifCond .eq 5, 3, 18, 0, 0, 0, 0, []),
  (16, none, .iload_n 3, 1, 3, 0, 0, 0, 0, []),
  (17, none, .ireturn, 1, 0, 0, 0, 0, 0, []),
  (18, none, .iinc 3 1, 3, 3, 0, 0, 0, 0, []),
  (21, none, .goto (-19), 3, 2, 0, 0, 0, 0, []),
  (24, none, .iconst (-1), 1, 0, 0, 0, 0, 0, []),
  (25, none, .ireturn, 1, 0, 0, 0, 0, 0, [])]
noncomputable def K_rd_read : List aE := [
  (0, none, .aload_n 0, 1, 0, 0, 0, 0, 0, []),
  (1, none, .iconst 0, 1, 0, 0, 0, 0, 0, []),
  (2, none, .putfield 41, 3, 4, 2, 0, 0, 0, []),
  (5, none, .aload_n 0, 1, 0, 0, 0, 0, 0, []),
  (6, none, .iconst (-1), 1, 0, 0, 0, 0, 0, []),
  (7, none, .putfield 29, 3, 4, 3, 0, 0, 0, []),
  (10, none, .iload_n 1, 1, 1, 0, 0, 0, 0, []),
  (11, none, .ifCond .lt 8, 3, 19, 0, 0, 0, 0, []),
  (14, none, .iload_n 1, 1, 1, 0, 0, 0, 0, []),
  (15, none, .iconst 3, 1, 0, 0, 0, 0, 0, []),
  (16, none, .if_icmp .le 5, 3, 21, 0, 0, 0, 0, []),
  (19, none, .iconst 0, 1, 0, 0, 0, 0, 0, []),
  (20, none, .ireturn, 1, 1, 0, 0, 0, 0, []),
  (21, none, .aload_n 0, 1, 0, 0, 0, 0, 0, []),
  (22, none, .getfield 37, 3, 4, 5, 8, 127, 0, [(0, 0)]),
  (25, none, .iload_n 1, 1, 1, 0, 0, 0, 0, []),
  (26, none, .invokestatic 44, 3, 29, 1, 4, 0, 0, []),
  (29, none, .invokevirtual 48, 3, 54, 2, 1, 0, 0, []),
  (32, none, .aload_n 0, 1, 0, 0, 0, 0, 0, []),
  (33, none, .iconst (-1), 1, 0, 0, 0, 0, 0, []),
  (34, none, .putfield 52, 3, 4, 9, 0, 0, 0, []),
  (37, none, .aload_n 0, 1, 0, 0, 0, 0, 0, []),
  (38, none, .invokevirtual 55, 3, 30, 1, 1, 0, 0, []),
  (41, none, .aload_n 0, 1, 0, 0, 0, 0, 0, []),
  (42, none, .getfield 14, 3, 4, 0, 4, 1, 0, []),
  (45, none, .invokevirtual 58, 3, 16, 1, 1, 0, 0, []),
  (48, none, .aload_n 0, 1, 0, 0, 0, 0, 0, []),
  (49, none, .getfield 25, 3, 4, 1, 7, 6, 0, []),
  (52, none, .iconst 0, 1, 0, 0, 0, 0, 0, []),
  (53, none, .putfield 61, 3, 5, 2, 0, 0, 0, []),
  (56, none, .iload_n 1, 1, 1, 0, 0, 0, 0, []),
  (57, none, .iconst 3, 1, 0, 0, 0, 0, 0, []),
  (58, none, .if_icmp .ne 8, 3, 66, 0, 0, 0, 0, []),
  (61, none, .bipush 8, 2, 0, 0, 0, 0, 0, []),
  (63, none, .goto 5, 3, 68, 0, 0, 0, 0, []),
  (66, none, .bipush 16, 2, 0, 0, 0, 0, 0, []),
  (68, none, .istore_n 3, 1, 3, 0, 0, 0, 0, []),
  (69, none, .iconst 0, 1, 0, 0, 0, 0, 0, []),
  (70, none, .istore 4, 2, 4, 0, 0, 0, 0, []),
  (72, some [true, true, true, true, true, false], .iload 4, 2, 4, 0, 0, 0, 0, []),
  (74, none, .iload_n 3, 1, 3, 0, 0, 0, 0, []),
  (75, none, .if_icmp .gt 117, 3, 192, 0, 0, 0, 0, []),
  (78, none, .aload_n 0, 1, 0, 0, 0, 0, 0, []),
  (79, none, .getfield 41, 3, 4, 2, 0, 0, 0, []),
  (82, none, .ifCond .ne 110, 3, 192, 0, 0, 0, 0, []),
  (85, none, .aload_n 0, 1, 0, 0, 0, 0, 0, []),
  (86, none, .getfield 64, 3, 4, 10, 0, 0, 0, []),
  (89, none, .ifCond .eq 103, 3, 192, 0, 0, 0, 0, []),
  (92, none, .aload_n 0, 1, 0, 0, 0, 0, 0, []),
  (93, none, .getfield 64, 3, 4, 10, 0, 0, 0, []),
  (96, none, .sipush 256, 3, 0, 0, 0, 0, 0, []),
  (99, none, .isub, 1, 0, 0, 0, 0, 0, []),
  (100, none, .istore 5, 2, 5, 0, 0, 0, 0, []),
  (102, none, .iload 5, 2, 5, 0, 0, 0, 0, []),
  (104, none, .ifCond .lt 17, 3, 121, 0, 0, 0, 0, []),
  (107, none, .iload 5, 2, 5, 0, 0, 0, 0, []),
  (109, none, .iload_n 1, 1, 1, 0, 0, 0, 0, []),
  (110, none, .ifCond .ne 7, 3, 117, 0, 0, 0, 0, []),
  (113, none, .iconst 2, 1, 0, 0, 0, 0, 0, []),
  (114, none, .goto 4, 3, 118, 0, 0, 0, 0, []),
  (117, none, .iconst 0, 1, 0, 0, 0, 0, 0, []),
  (118, none, .if_icmp .le 11, 3, 129, 0, 0, 0, 0, []),
  (121, none, .aload_n 0, 1, 0, 0, 0, 0, 0, []),
  (122, none, .iconst 1, 1, 0, 0, 0, 0, 0, []),
  (123, none, .invokevirtual 67, 3, 31, 2, 1, 0, 0, []),
  (126, none, .goto 60, 3, 186, 0, 0, 0, 0, []),
  (129, none, .iload 4, 2, 4, 0, 0, 0, 0, []),
  (131, none, .iload_n 3, 1, 3, 0, 0, 0, 0, []),
  (132, none, .if_icmp .lt 11, 3, 143, 0, 0, 0, 0, []),
  (135, none, .aload_n 0, 1, 0, 0, 0, 0, 0, []),
  (136, none, .iconst 3, 1, 0, 0, 0, 0, 0, []),
  (137, none, .invokevirtual 67, 3, 31, 2, 1, 0, 0, []),
  (140, none, .goto 46, 3, 186, 0, 0, 0, 0, []),
  (143, none, .iload_n 1, 1, 1, 0, 0, 0, 0, []),
  (144, none, .ifCond .ne 12, 3, 156, 0, 0, 0, 0, []),
  (147, none, .aload_n 0, 1, 0, 0, 0, 0, 0, []),
  (148, none, .iload 5, 2, 5, 0, 0, 0, 0, []),
  (150, none, .invokevirtual 70, 3, 37, 2, 1, 0, 0, []),
  (153, none, .goto 33, 3, 186, 0, 0, 0, 0, []),
  (156, none, .iload_n 1, 1, 1, 0, 0, 0, 0, []),
  (157, none, .iconst 1, 1, 0, 0, 0, 0, 0, []),
  (158, none, .if_icmp .ne 11, 3, 169, 0, 0, 0, 0, []),
  (161, none, .aload_n 0, 1, 0, 0, 0, 0, 0, []),
  (162, none, .iload_n 2, 1, 2, 0, 0, 0, 0, []),
  (163, none, .invokevirtual 73, 3, 34, 2, 1, 0, 0, []),
  (166, none, .goto 20, 3, 186, 0, 0, 0, 0, []),
  (169, none, .iload_n 1, 1, 1, 0, 0, 0, 0, []),
  (170, none, .iconst 2, 1, 0, 0, 0, 0, 0, []),
  (171, none, .if_icmp .ne 11, 3, 182, 0, 0, 0, 0, []),
  (174, none, .aload_n 0, 1, 0, 0, 0, 0, 0, []),
  (175, none, .iload_n 2, 1, 2, 0, 0, 0, 0, []),
  (176, none, .invokevirtual 76, 3, 35, 2, 1, 0, 0, []),
  (179, none, .goto 7, 3, 186, 0, 0, 0, 0, []),
  (182, none, .aload_n 0, 1, 0, 0, 0, 0, 0, []),
  (183, none, .invokevirtual 79, 3, 36, 1, 1, 0, 0, []),
  (186, some [true, true, true, true, true, false], .iinc 4 1, 3, 4, 0, 0, 0, 0, []),
  (189, none, .goto (-117), 3, 72, 0, 0, 0, 0, []),
  (192, none, .aload_n 0, 1, 0, 0, 0, 0, 0, []),
  (193, none, .getfield 41, 3, 4, 2, 0, 0, 0, []),
  (196, none, .ifCond .ne 7, 3, 203, 0, 0, 0, 0, []),
  (199, none, .iconst 1, 1, 0, 0, 0, 0, 0, []),
  (200, none, .goto 4, 3, 204, 0, 0, 0, 0, []),
  (203, none, .iconst 0, 1, 0, 0, 0, 0, 0, []),
  (204, none, .ireturn, 1, 1, 0, 0, 0, 0, [])]
noncomputable def K_rd_wordsOf : List aE := [
  (0, none, .iload_n 0, 1, 0, 0, 0, 0, 0, []),
  (1, none, .tableswitch 36 0 2 #[27, 30, 33], 27, 37, 0, 0, 0, 0, [(0, 28), (1, 31), (2, 34)]),
  (28, none, .ldc 82, 2, 1, 0, 0, 0, 0, []),
  (30, none, .areturn, 1, 0, 0, 0, 0, 0, []),
  (31, none, .ldc 84, 2, 1, 1, 0, 0, 0, []),
  (33, none, .areturn, 1, 0, 0, 0, 0, 0, []),
  (34, none, .ldc 86, 2, 1, 2, 0, 0, 0, []),
  (36, none, .areturn, 1, 0, 0, 0, 0, 0, []),
  (37, none, .ldc 88, 2, 1, 3, 0, 0, 0, []),
  (39, none, .areturn, 1, 0, 0, 0, 0, 0, [])]
noncomputable def K_rd_step : List aE := [
  (0, none, .aload_n 0, 1, 0, 0, 0, 0, 0, []),
  (1, none, .dup, 1, 0, 0, 0, 0, 0, []),
  (2, none, .getfield 52, 3, 4, 9, 0, 0, 0, []),
  (5, none, .iconst 1, 1, 0, 0, 0, 0, 0, []),
  (6, none, .iadd, 1, 0, 0, 0, 0, 0, []),
  (7, none, .putfield 52, 3, 4, 9, 0, 0, 0, []),
  (10, none, .aload_n 0, 1, 0, 0, 0, 0, 0, []),
  (11, none, .getfield 52, 3, 4, 9, 0, 0, 0, []),
  (14, none, .ifCond .lt 31, 3, 45, 0, 0, 0, 0, []),
  (17, none, .aload_n 0, 1, 0, 0, 0, 0, 0, []),
  (18, none, .getfield 52, 3, 4, 9, 0, 0, 0, []),
  (21, none, .aload_n 0, 1, 0, 0, 0, 0, 0, []),
  (22, none, .getfield 37, 3, 4, 5, 8, 127, 0, [(0, 0)]),
  (25, none, .getfield 90, 3, 6, 4, 0, 0, 0, []),
  (28, none, .if_icmp .ge 17, 3, 45, 0, 0, 0, 0, []),
  (31, none, .aload_n 0, 1, 0, 0, 0, 0, 0, []),
  (32, none, .getfield 52, 3, 4, 9, 0, 0, 0, []),
  (35, none, .sipush 400, 3, 0, 0, 0, 0, 0, []),
  (38, none, .if_icmp .ge 7, 3, 45, 0, 0, 0, 0, []),
  (41, none, .iconst 1, 1, 0, 0, 0, 0, 0, []),
  (42, none, .goto 4, 3, 46, 0, 0, 0, 0, []),
  (45, some [true, false], .iconst 0, 1, 0, 0, 0, 0, 0, []),
  (46, none, .istore_n 1, 1, 1, 0, 0, 0, 0, []),
  (47, none, .aload_n 0, 1, 0, 0, 0, 0, 0, []),
  (48, none, .iload_n 1, 1, 1, 0, 0, 0, 0, []),
  (49, none, .ifCond .eq 18, 3, 67, 0, 0, 0, 0, []),
  (52, none, .aload_n 0, 1, 0, 0, 0, 0, 0, []),
  (53, none, .getfield 37, 3, 4, 5, 8, 127, 0, [(0, 0)]),
  (56, none, .getfield 93, 3, 6, 1, 22, 2, 0, []),
  (59, none, .aload_n 0, 1, 0, 0, 0, 0, 0, []),
  (60, none, .getfield 52, 3, 4, 9, 0, 0, 0, []),
  (63, none, .iaload, 1, 0, 0, 0, 0, 0, []),
  (64, none, .goto 4, 3, 68, 0, 0, 0, 0, []),
  (67, none, .iconst 0, 1, 0, 0, 0, 0, 0, []),
  (68, none, .putfield 64, 3, 4, 10, 0, 0, 0, []),
  (71, none, .aload_n 0, 1, 0, 0, 0, 0, 0, []),
  (72, none, .iload_n 1, 1, 1, 0, 0, 0, 0, []),
  (73, none, .ifCond .eq 18, 3, 91, 0, 0, 0, 0, []),
  (76, none, .aload_n 0, 1, 0, 0, 0, 0, 0, []),
  (77, none, .getfield 37, 3, 4, 5, 8, 127, 0, [(0, 0)]),
  (80, none, .getfield 96, 3, 6, 2, 22, 3, 0, []),
  (83, none, .aload_n 0, 1, 0, 0, 0, 0, 0, []),
  (84, none, .getfield 52, 3, 4, 9, 0, 0, 0, []),
  (87, none, .iaload, 1, 0, 0, 0, 0, 0, []),
  (88, none, .goto 4, 3, 92, 0, 0, 0, 0, []),
  (91, none, .iconst 0, 1, 0, 0, 0, 0, 0, []),
  (92, none, .putfield 99, 3, 4, 11, 0, 0, 0, []),
  (95, none, .aload_n 0, 1, 0, 0, 0, 0, 0, []),
  (96, none, .iload_n 1, 1, 1, 0, 0, 0, 0, []),
  (97, none, .ifCond .eq 18, 3, 115, 0, 0, 0, 0, []),
  (100, none, .aload_n 0, 1, 0, 0, 0, 0, 0, []),
  (101, none, .getfield 37, 3, 4, 5, 8, 127, 0, [(0, 0)]),
  (104, none, .getfield 102, 3, 6, 3, 22, 4, 0, []),
  (107, none, .aload_n 0, 1, 0, 0, 0, 0, 0, []),
  (108, none, .getfield 52, 3, 4, 9, 0, 0, 0, []),
  (111, none, .iaload, 1, 0, 0, 0, 0, 0, []),
  (112, none, .goto 10, 3, 122, 0, 0, 0, 0, []),
  (115, none, .aload_n 0, 1, 0, 0, 0, 0, 0, []),
  (116, none, .getfield 37, 3, 4, 5, 8, 127, 0, [(0, 0)]),
  (119, none, .getfield 105, 3, 6, 5, 0, 0, 0, []),
  (122, none, .putfield 106, 3, 4, 12, 0, 0, 0, []),
  (125, none, .return_, 1, 0, 0, 0, 0, 0, [])]
noncomputable def K_rd_fail : List aE := [
  (0, none, .aload_n 0, 1, 0, 0, 0, 0, 0, []),
  (1, none, .getfield 41, 3, 4, 2, 0, 0, 0, []),
  (4, none, .ifCond .ne 16, 3, 20, 0, 0, 0, 0, []),
  (7, none, .aload_n 0, 1, 0, 0, 0, 0, 0, []),
  (8, none, .iload_n 1, 1, 1, 0, 0, 0, 0, []),
  (9, none, .putfield 41, 3, 4, 2, 0, 0, 0, []),
  (12, none, .aload_n 0, 1, 0, 0, 0, 0, 0, []),
  (13, none, .aload_n 0, 1, 0, 0, 0, 0, 0, []),
  (14, none, .getfield 106, 3, 4, 12, 0, 0, 0, []),
  (17, none, .putfield 29, 3, 4, 3, 0, 0, 0, []),
  (20, none, .return_, 1, 0, 0, 0, 0, 0, [])]
noncomputable def K_rd_take : List aE := [
  (0, none, .aload_n 0, 1, 0, 0, 0, 0, 0, []),
  (1, none, .getfield 64, 3, 4, 10, 0, 0, 0, []),
  (4, none, .iload_n 1, 1, 1, 0, 0, 0, 0, []),
  (5, none, .if_icmp .ne 10, 3, 15, 0, 0, 0, 0, []),
  (8, none, .aload_n 0, 1, 0, 0, 0, 0, 0, []),
  (9, none, .invokevirtual 55, 3, 30, 1, 1, 0, 0, []),
  (12, none, .goto 8, 3, 20, 0, 0, 0, 0, []),
  (15, none, .aload_n 0, 1, 0, 0, 0, 0, 0, []),
  (16, none, .iconst 1, 1, 0, 0, 0, 0, 0, []),
  (17, none, .invokevirtual 67, 3, 31, 2, 1, 0, 0, []),
  (20, none, .return_, 1, 0, 0, 0, 0, 0, [])]
noncomputable def K_rd_takeNumber : List aE := [
  (0, none, .aload_n 0, 1, 0, 0, 0, 0, 0, []),
  (1, none, .getfield 99, 3, 4, 11, 0, 0, 0, []),
  (4, none, .istore_n 3, 1, 3, 0, 0, 0, 0, []),
  (5, none, .aload_n 0, 1, 0, 0, 0, 0, 0, []),
  (6, none, .getfield 64, 3, 4, 10, 0, 0, 0, []),
  (9, none, .iconst 1, 1, 0, 0, 0, 0, 0, []),
  (10, none, .if_icmp .eq 11, 3, 21, 0, 0, 0, 0, []),
  (13, none, .aload_n 0, 1, 0, 0, 0, 0, 0, []),
  (14, none, .iconst 1, 1, 0, 0, 0, 0, 0, []),
  (15, none, .invokevirtual 67, 3, 31, 2, 1, 0, 0, []),
  (18, none, .goto 25, 3, 43, 0, 0, 0, 0, []),
  (21, none, .iload_n 3, 1, 3, 0, 0, 0, 0, []),
  (22, none, .iload_n 1, 1, 1, 0, 0, 0, 0, []),
  (23, none, .if_icmp .lt 8, 3, 31, 0, 0, 0, 0, []),
  (26, none, .iload_n 3, 1, 3, 0, 0, 0, 0, []),
  (27, none, .iload_n 2, 1, 2, 0, 0, 0, 0, []),
  (28, none, .if_icmp .le 11, 3, 39, 0, 0, 0, 0, []),
  (31, none, .aload_n 0, 1, 0, 0, 0, 0, 0, []),
  (32, none, .iconst 2, 1, 0, 0, 0, 0, 0, []),
  (33, none, .invokevirtual 67, 3, 31, 2, 1, 0, 0, []),
  (36, none, .goto 7, 3, 43, 0, 0, 0, 0, []),
  (39, none, .aload_n 0, 1, 0, 0, 0, 0, 0, []),
  (40, none, .invokevirtual 55, 3, 30, 1, 1, 0, 0, []),
  (43, none, .iload_n 3, 1, 3, 0, 0, 0, 0, []),
  (44, none, .ireturn, 1, 0, 0, 0, 0, 0, [])]
noncomputable def K_rd_planLine : List aE := [
  (0, none, .aload_n 0, 1, 0, 0, 0, 0, 0, []),
  (1, none, .invokevirtual 55, 3, 30, 1, 1, 0, 0, []),
  (4, none, .aload_n 0, 1, 0, 0, 0, 0, 0, []),
  (5, none, .iconst 0, 1, 0, 0, 0, 0, 0, []),
  (6, none, .sipush 999, 3, 0, 0, 0, 0, 0, []),
  (9, none, .invokevirtual 109, 3, 33, 3, 2, 0, 0, []),
  (12, none, .istore_n 2, 1, 2, 0, 0, 0, 0, []),
  (13, none, .aload_n 0, 1, 0, 0, 0, 0, 0, []),
  (14, none, .getfield 64, 3, 4, 10, 0, 0, 0, []),
  (17, none, .sipush 256, 3, 0, 0, 0, 0, 0, []),
  (20, none, .isub, 1, 0, 0, 0, 0, 0, []),
  (21, none, .istore_n 3, 1, 3, 0, 0, 0, 0, []),
  (22, none, .iconst 0, 1, 0, 0, 0, 0, 0, []),
  (23, none, .istore 4, 2, 4, 0, 0, 0, 0, []),
  (25, none, .aload_n 0, 1, 0, 0, 0, 0, 0, []),
  (26, none, .getfield 41, 3, 4, 2, 0, 0, 0, []),
  (29, none, .ifCond .ne 18, 3, 47, 0, 0, 0, 0, []),
  (32, none, .iload_n 3, 1, 3, 0, 0, 0, 0, []),
  (33, none, .iconst 1, 1, 0, 0, 0, 0, 0, []),
  (34, none, .if_icmp .lt 8, 3, 42, 0, 0, 0, 0, []),
  (37, none, .iload_n 3, 1, 3, 0, 0, 0, 0, []),
  (38, none, .iconst 5, 1, 0, 0, 0, 0, 0, []),
  (39, none, .if_icmp .le 8, 3, 47, 0, 0, 0, 0, []),
  (42, none, .aload_n 0, 1, 0, 0, 0, 0, 0, []),
  (43, none, .iconst 1, 1, 0, 0, 0, 0, 0, []),
  (44, none, .invokevirtual 67, 3, 31, 2, 1, 0, 0, []),
  (47, some [true, true, true, true, true], .aload_n 0, 1, 0, 0, 0, 0, 0, []),
  (48, none, .getfield 41, 3, 4, 2, 0, 0, 0, []),
  (51, none, .ifCond .eq 4, 3, 55, 0, 0, 0, 0, []),
  (54, none, .return_, 1, 0, 0, 0, 0, 0, []),
  (55, none, .aload_n 0, 1, 0, 0, 0, 0, 0, []),
  (56, none, .invokevirtual 55, 3, 30, 1, 1, 0, 0, []),
  (59, none, .iload_n 3, 1, 3, 0, 0, 0, 0, []),
  (60, none, .iconst 1, 1, 0, 0, 0, 0, 0, []),
  (61, none, .if_icmp .eq 8, 3, 69, 0, 0, 0, 0, []),
  (64, none, .iload_n 3, 1, 3, 0, 0, 0, 0, []),
  (65, none, .iconst 2, 1, 0, 0, 0, 0, 0, []),
  (66, none, .if_icmp .ne 15, 3, 81, 0, 0, 0, 0, []),
  (69, none, .aload_n 0, 1, 0, 0, 0, 0, 0, []),
  (70, none, .iconst 0, 1, 0, 0, 0, 0, 0, []),
  (71, none, .bipush 99, 2, 0, 0, 0, 0, 0, []),
  (73, none, .invokevirtual 109, 3, 33, 3, 2, 0, 0, []),
  (76, none, .istore 4, 2, 4, 0, 0, 0, 0, []),
  (78, none, .goto 18, 3, 96, 0, 0, 0, 0, []),
  (81, none, .iload_n 3, 1, 3, 0, 0, 0, 0, []),
  (82, none, .iconst 3, 1, 0, 0, 0, 0, 0, []),
  (83, none, .if_icmp .eq 13, 3, 96, 0, 0, 0, 0, []),
  (86, none, .aload_n 0, 1, 0, 0, 0, 0, 0, []),
  (87, none, .iconst 0, 1, 0, 0, 0, 0, 0, []),
  (88, none, .iload_n 1, 1, 1, 0, 0, 0, 0, []),
  (89, none, .iconst 1, 1, 0, 0, 0, 0, 0, []),
  (90, none, .isub, 1, 0, 0, 0, 0, 0, []),
  (91, none, .invokevirtual 109, 3, 33, 3, 2, 0, 0, []),
  (94, none, .istore 4, 2, 4, 0, 0, 0, 0, []),
  (96, some [true, false, true, true, true], .aload_n 0, 1, 0, 0, 0, 0, 0, []),
  (97, none, .bipush 59, 2, 0, 0, 0, 0, 0, []),
  (99, none, .invokevirtual 115, 3, 32, 2, 1, 0, 0, []),
  (102, none, .aload_n 0, 1, 0, 0, 0, 0, 0, []),
  (103, none, .getfield 25, 3, 4, 1, 7, 6, 0, []),
  (106, none, .iload_n 2, 1, 2, 0, 0, 0, 0, []),
  (107, none, .iload_n 3, 1, 3, 0, 0, 0, 0, []),
  (108, none, .iload 4, 2, 4, 0, 0, 0, 0, []),
  (110, none, .iconst 0, 1, 0, 0, 0, 0, 0, []),
  (111, none, .invokevirtual 118, 3, 50, 5, 2, 0, 0, []),
  (114, none, .pop, 1, 0, 0, 0, 0, 0, []),
  (115, none, .return_, 1, 0, 0, 0, 0, 0, [])]
noncomputable def K_rd_dueLine : List aE := [
  (0, none, .aload_n 0, 1, 0, 0, 0, 0, 0, []),
  (1, none, .invokevirtual 55, 3, 30, 1, 1, 0, 0, []),
  (4, none, .aload_n 0, 1, 0, 0, 0, 0, 0, []),
  (5, none, .iconst 1, 1, 0, 0, 0, 0, 0, []),
  (6, none, .sipush 999, 3, 0, 0, 0, 0, 0, []),
  (9, none, .invokevirtual 109, 3, 33, 3, 2, 0, 0, []),
  (12, none, .istore_n 2, 1, 2, 0, 0, 0, 0, []),
  (13, none, .aload_n 0, 1, 0, 0, 0, 0, 0, []),
  (14, none, .sipush 257, 3, 0, 0, 0, 0, 0, []),
  (17, none, .invokevirtual 115, 3, 32, 2, 1, 0, 0, []),
  (20, none, .aload_n 0, 1, 0, 0, 0, 0, 0, []),
  (21, none, .iconst 0, 1, 0, 0, 0, 0, 0, []),
  (22, none, .iload_n 1, 1, 1, 0, 0, 0, 0, []),
  (23, none, .iconst 1, 1, 0, 0, 0, 0, 0, []),
  (24, none, .isub, 1, 0, 0, 0, 0, 0, []),
  (25, none, .invokevirtual 109, 3, 33, 3, 2, 0, 0, []),
  (28, none, .istore_n 3, 1, 3, 0, 0, 0, 0, []),
  (29, none, .iconst (-1), 1, 0, 0, 0, 0, 0, []),
  (30, none, .istore 4, 2, 4, 0, 0, 0, 0, []),
  (32, none, .aload_n 0, 1, 0, 0, 0, 0, 0, []),
  (33, none, .getfield 41, 3, 4, 2, 0, 0, 0, []),
  (36, none, .ifCond .ne 27, 3, 63, 0, 0, 0, 0, []),
  (39, none, .aload_n 0, 1, 0, 0, 0, 0, 0, []),
  (40, none, .getfield 64, 3, 4, 10, 0, 0, 0, []),
  (43, none, .sipush 258, 3, 0, 0, 0, 0, 0, []),
  (46, none, .if_icmp .ne 17, 3, 63, 0, 0, 0, 0, []),
  (49, none, .aload_n 0, 1, 0, 0, 0, 0, 0, []),
  (50, none, .invokevirtual 55, 3, 30, 1, 1, 0, 0, []),
  (53, none, .aload_n 0, 1, 0, 0, 0, 0, 0, []),
  (54, none, .iconst 0, 1, 0, 0, 0, 0, 0, []),
  (55, none, .sipush 999, 3, 0, 0, 0, 0, 0, []),
  (58, none, .invokevirtual 109, 3, 33, 3, 2, 0, 0, []),
  (61, none, .istore 4, 2, 4, 0, 0, 0, 0, []),
  (63, none, .aload_n 0, 1, 0, 0, 0, 0, 0, []),
  (64, none, .bipush 59, 2, 0, 0, 0, 0, 0, []),
  (66, none, .invokevirtual 115, 3, 32, 2, 1, 0, 0, []),
  (69, none, .aload_n 0, 1, 0, 0, 0, 0, 0, []),
  (70, none, .getfield 25, 3, 4, 1, 7, 6, 0, []),
  (73, none, .iload_n 2, 1, 2, 0, 0, 0, 0, []),
  (74, none, .iload_n 3, 1, 3, 0, 0, 0, 0, []),
  (75, none, .iload 4, 2, 4, 0, 0, 0, 0, []),
  (77, none, .iconst 0, 1, 0, 0, 0, 0, 0, []),
  (78, none, .invokevirtual 118, 3, 50, 5, 2, 0, 0, []),
  (81, none, .pop, 1, 0, 0, 0, 0, 0, []),
  (82, none, .return_, 1, 0, 0, 0, 0, 0, [])]
noncomputable def K_rd_feastLine : List aE := [
  (0, none, .aload_n 0, 1, 0, 0, 0, 0, 0, []),
  (1, none, .invokevirtual 55, 3, 30, 1, 1, 0, 0, []),
  (4, none, .aload_n 0, 1, 0, 0, 0, 0, 0, []),
  (5, none, .iconst 0, 1, 0, 0, 0, 0, 0, []),
  (6, none, .bipush 30, 2, 0, 0, 0, 0, 0, []),
  (8, none, .invokevirtual 109, 3, 33, 3, 2, 0, 0, []),
  (11, none, .istore_n 1, 1, 1, 0, 0, 0, 0, []),
  (12, none, .aload_n 0, 1, 0, 0, 0, 0, 0, []),
  (13, none, .sipush 257, 3, 0, 0, 0, 0, 0, []),
  (16, none, .invokevirtual 115, 3, 32, 2, 1, 0, 0, []),
  (19, none, .aload_n 0, 1, 0, 0, 0, 0, 0, []),
  (20, none, .iconst 0, 1, 0, 0, 0, 0, 0, []),
  (21, none, .bipush 9, 2, 0, 0, 0, 0, 0, []),
  (23, none, .invokevirtual 109, 3, 33, 3, 2, 0, 0, []),
  (26, none, .istore_n 2, 1, 2, 0, 0, 0, 0, []),
  (27, none, .aload_n 0, 1, 0, 0, 0, 0, 0, []),
  (28, none, .bipush 59, 2, 0, 0, 0, 0, 0, []),
  (30, none, .invokevirtual 115, 3, 32, 2, 1, 0, 0, []),
  (33, none, .aload_n 0, 1, 0, 0, 0, 0, 0, []),
  (34, none, .getfield 25, 3, 4, 1, 7, 6, 0, []),
  (37, none, .iload_n 1, 1, 1, 0, 0, 0, 0, []),
  (38, none, .iload_n 2, 1, 2, 0, 0, 0, 0, []),
  (39, none, .iconst 0, 1, 0, 0, 0, 0, 0, []),
  (40, none, .iconst 0, 1, 0, 0, 0, 0, 0, []),
  (41, none, .invokevirtual 118, 3, 50, 5, 2, 0, 0, []),
  (44, none, .pop, 1, 0, 0, 0, 0, 0, []),
  (45, none, .return_, 1, 0, 0, 0, 0, 0, [])]
noncomputable def K_rd_lawLine : List aE := [
  (0, none, .aload_n 0, 1, 0, 0, 0, 0, 0, []),
  (1, none, .invokevirtual 55, 3, 30, 1, 1, 0, 0, []),
  (4, none, .aload_n 0, 1, 0, 0, 0, 0, 0, []),
  (5, none, .getfield 14, 3, 4, 0, 4, 1, 0, []),
  (8, none, .getfield 122, 3, 2, 3, 0, 0, 0, []),
  (11, none, .istore_n 2, 1, 2, 0, 0, 0, 0, []),
  (12, none, .aload_n 0, 1, 0, 0, 0, 0, 0, []),
  (13, none, .invokevirtual 125, 3, 38, 1, 1, 0, 0, []),
  (16, none, .aload_n 0, 1, 0, 0, 0, 0, 0, []),
  (17, none, .getfield 14, 3, 4, 0, 4, 1, 0, []),
  (20, none, .getfield 122, 3, 2, 3, 0, 0, 0, []),
  (23, none, .istore_n 3, 1, 3, 0, 0, 0, 0, []),
  (24, none, .aload_n 0, 1, 0, 0, 0, 0, 0, []),
  (25, none, .getfield 41, 3, 4, 2, 0, 0, 0, []),
  (28, none, .ifCond .ne 21, 3, 49, 0, 0, 0, 0, []),
  (31, none, .aload_n 0, 1, 0, 0, 0, 0, 0, []),
  (32, none, .getfield 64, 3, 4, 10, 0, 0, 0, []),
  (35, none, .sipush 259, 3, 0, 0, 0, 0, 0, []),
  (38, none, .if_icmp .ne 11, 3, 49, 0, 0, 0, 0, []),
  (41, none, .aload_n 0, 1, 0, 0, 0, 0, 0, []),
  (42, none, .invokevirtual 55, 3, 30, 1, 1, 0, 0, []),
  (45, none, .aload_n 0, 1, 0, 0, 0, 0, 0, []),
  (46, none, .invokevirtual 128, 3, 40, 1, 1, 0, 0, []),
  (49, some [true, true, true, true], .aload_n 0, 1, 0, 0, 0, 0, 0, []),
  (50, none, .getfield 41, 3, 4, 2, 0, 0, 0, []),
  (53, none, .ifCond .ne 9, 3, 62, 0, 0, 0, 0, []),
  (56, none, .aload_n 0, 1, 0, 0, 0, 0, 0, []),
  (57, none, .bipush 59, 2, 0, 0, 0, 0, 0, []),
  (59, none, .invokevirtual 115, 3, 32, 2, 1, 0, 0, []),
  (62, none, .aload_n 0, 1, 0, 0, 0, 0, 0, []),
  (63, none, .getfield 14, 3, 4, 0, 4, 1, 0, []),
  (66, none, .getfield 131, 3, 2, 2, 7, 3, 0, []),
  (69, none, .iload_n 1, 1, 1, 0, 0, 0, 0, []),
  (70, none, .iload_n 2, 1, 2, 0, 0, 0, 0, []),
  (71, none, .iload_n 3, 1, 3, 0, 0, 0, 0, []),
  (72, none, .aload_n 0, 1, 0, 0, 0, 0, 0, []),
  (73, none, .getfield 14, 3, 4, 0, 4, 1, 0, []),
  (76, none, .getfield 122, 3, 2, 3, 0, 0, 0, []),
  (79, none, .invokevirtual 118, 3, 50, 5, 2, 0, 0, []),
  (82, none, .pop, 1, 0, 0, 0, 0, 0, []),
  (83, none, .return_, 1, 0, 0, 0, 0, 0, [])]
noncomputable def K_rd_expression : List aE := [
  (0, none, .iconst 0, 1, 0, 0, 0, 0, 0, []),
  (1, none, .istore_n 1, 1, 1, 0, 0, 0, 0, []),
  (2, none, .aload_n 0, 1, 0, 0, 0, 0, 0, []),
  (3, none, .invokevirtual 134, 3, 39, 1, 1, 0, 0, []),
  (6, none, .iconst 0, 1, 0, 0, 0, 0, 0, []),
  (7, none, .istore_n 2, 1, 2, 0, 0, 0, 0, []),
  (8, some [true, true, true, false], .iload_n 2, 1, 2, 0, 0, 0, 0, []),
  (9, none, .sipush 400, 3, 0, 0, 0, 0, 0, []),
  (12, none, .if_icmp .ge 131, 3, 143, 0, 0, 0, 0, []),
  (15, none, .aload_n 0, 1, 0, 0, 0, 0, 0, []),
  (16, none, .getfield 41, 3, 4, 2, 0, 0, 0, []),
  (19, none, .ifCond .ne 124, 3, 143, 0, 0, 0, 0, []),
  (22, none, .aload_n 0, 1, 0, 0, 0, 0, 0, []),
  (23, none, .getfield 64, 3, 4, 10, 0, 0, 0, []),
  (26, none, .istore_n 3, 1, 3, 0, 0, 0, 0, []),
  (27, none, .iload_n 3, 1, 3, 0, 0, 0, 0, []),
  (28, none, .bipush 42, 2, 0, 0, 0, 0, 0, []),
  (30, none, .if_icmp .ne 23, 3, 53, 0, 0, 0, 0, []),
  (33, none, .aload_n 0, 1, 0, 0, 0, 0, 0, []),
  (34, none, .invokevirtual 55, 3, 30, 1, 1, 0, 0, []),
  (37, none, .aload_n 0, 1, 0, 0, 0, 0, 0, []),
  (38, none, .invokevirtual 134, 3, 39, 1, 1, 0, 0, []),
  (41, none, .aload_n 0, 1, 0, 0, 0, 0, 0, []),
  (42, none, .getfield 14, 3, 4, 0, 4, 1, 0, []),
  (45, none, .bipush (-13), 2, 0, 0, 0, 0, 0, []),
  (47, none, .invokevirtual 137, 3, 10, 2, 1, 0, 0, []),
  (50, none, .goto 87, 3, 137, 0, 0, 0, 0, []),
  (53, none, .iload_n 3, 1, 3, 0, 0, 0, 0, []),
  (54, none, .bipush 47, 2, 0, 0, 0, 0, 0, []),
  (56, none, .if_icmp .ne 34, 3, 90, 0, 0, 0, 0, []),
  (59, none, .aload_n 0, 1, 0, 0, 0, 0, 0, []),
  (60, none, .invokevirtual 55, 3, 30, 1, 1, 0, 0, []),
  (63, none, .aload_n 0, 1, 0, 0, 0, 0, 0, []),
  (64, none, .getfield 14, 3, 4, 0, 4, 1, 0, []),
  (67, none, .aload_n 0, 1, 0, 0, 0, 0, 0, []),
  (68, none, .iconst 1, 1, 0, 0, 0, 0, 0, []),
  (69, none, .sipush 9999, 3, 0, 0, 0, 0, 0, []),
  (72, none, .invokevirtual 109, 3, 33, 3, 2, 0, 0, []),
  (75, none, .invokevirtual 137, 3, 10, 2, 1, 0, 0, []),
  (78, none, .aload_n 0, 1, 0, 0, 0, 0, 0, []),
  (79, none, .getfield 14, 3, 4, 0, 4, 1, 0, []),
  (82, none, .bipush (-14), 2, 0, 0, 0, 0, 0, []),
  (84, none, .invokevirtual 137, 3, 10, 2, 1, 0, 0, []),
  (87, none, .goto 50, 3, 137, 0, 0, 0, 0, []),
  (90, none, .iload_n 1, 1, 1, 0, 0, 0, 0, []),
  (91, none, .ifCond .eq 11, 3, 102, 0, 0, 0, 0, []),
  (94, none, .aload_n 0, 1, 0, 0, 0, 0, 0, []),
  (95, none, .getfield 14, 3, 4, 0, 4, 1, 0, []),
  (98, none, .iload_n 1, 1, 1, 0, 0, 0, 0, []),
  (99, none, .invokevirtual 137, 3, 10, 2, 1, 0, 0, []),
  (102, none, .iload_n 3, 1, 3, 0, 0, 0, 0, []),
  (103, none, .bipush 43, 2, 0, 0, 0, 0, 0, []),
  (105, none, .if_icmp .eq 10, 3, 115, 0, 0, 0, 0, []),
  (108, none, .iload_n 3, 1, 3, 0, 0, 0, 0, []),
  (109, none, .bipush 45, 2, 0, 0, 0, 0, 0, []),
  (111, none, .if_icmp .eq 4, 3, 115, 0, 0, 0, 0, []),
  (114, none, .return_, 1, 0, 0, 0, 0, 0, []),
  (115, some [true, false, true, true], .iload_n 3, 1, 3, 0, 0, 0, 0, []),
  (116, none, .bipush 43, 2, 0, 0, 0, 0, 0, []),
  (118, none, .if_icmp .ne 8, 3, 126, 0, 0, 0, 0, []),
  (121, none, .bipush (-11), 2, 0, 0, 0, 0, 0, []),
  (123, none, .goto 5, 3, 128, 0, 0, 0, 0, []),
  (126, none, .bipush (-12), 2, 0, 0, 0, 0, 0, []),
  (128, none, .istore_n 1, 1, 1, 0, 0, 0, 0, []),
  (129, none, .aload_n 0, 1, 0, 0, 0, 0, 0, []),
  (130, none, .invokevirtual 55, 3, 30, 1, 1, 0, 0, []),
  (133, none, .aload_n 0, 1, 0, 0, 0, 0, 0, []),
  (134, none, .invokevirtual 134, 3, 39, 1, 1, 0, 0, []),
  (137, none, .iinc 2 1, 3, 2, 0, 0, 0, 0, []),
  (140, none, .goto (-132), 3, 8, 0, 0, 0, 0, []),
  (143, none, .return_, 1, 0, 0, 0, 0, 0, [])]
noncomputable def K_rd_operand : List aE := [
  (0, none, .aload_n 0, 1, 0, 0, 0, 0, 0, []),
  (1, none, .getfield 64, 3, 4, 10, 0, 0, 0, []),
  (4, none, .sipush 263, 3, 0, 0, 0, 0, 0, []),
  (7, none, .isub, 1, 0, 0, 0, 0, 0, []),
  (8, none, .istore_n 1, 1, 1, 0, 0, 0, 0, []),
  (9, none, .aload_n 0, 1, 0, 0, 0, 0, 0, []),
  (10, none, .getfield 64, 3, 4, 10, 0, 0, 0, []),
  (13, none, .iconst 1, 1, 0, 0, 0, 0, 0, []),
  (14, none, .if_icmp .ne 21, 3, 35, 0, 0, 0, 0, []),
  (17, none, .aload_n 0, 1, 0, 0, 0, 0, 0, []),
  (18, none, .getfield 14, 3, 4, 0, 4, 1, 0, []),
  (21, none, .aload_n 0, 1, 0, 0, 0, 0, 0, []),
  (22, none, .getfield 99, 3, 4, 11, 0, 0, 0, []),
  (25, none, .invokevirtual 137, 3, 10, 2, 1, 0, 0, []),
  (28, none, .aload_n 0, 1, 0, 0, 0, 0, 0, []),
  (29, none, .invokevirtual 55, 3, 30, 1, 1, 0, 0, []),
  (32, none, .goto 35, 3, 67, 0, 0, 0, 0, []),
  (35, none, .iload_n 1, 1, 1, 0, 0, 0, 0, []),
  (36, none, .ifCond .lt 26, 3, 62, 0, 0, 0, 0, []),
  (39, none, .iload_n 1, 1, 1, 0, 0, 0, 0, []),
  (40, none, .bipush 10, 2, 0, 0, 0, 0, 0, []),
  (42, none, .if_icmp .ge 20, 3, 62, 0, 0, 0, 0, []),
  (45, none, .aload_n 0, 1, 0, 0, 0, 0, 0, []),
  (46, none, .getfield 14, 3, 4, 0, 4, 1, 0, []),
  (49, none, .iconst (-1), 1, 0, 0, 0, 0, 0, []),
  (50, none, .iload_n 1, 1, 1, 0, 0, 0, 0, []),
  (51, none, .isub, 1, 0, 0, 0, 0, 0, []),
  (52, none, .invokevirtual 137, 3, 10, 2, 1, 0, 0, []),
  (55, none, .aload_n 0, 1, 0, 0, 0, 0, 0, []),
  (56, none, .invokevirtual 55, 3, 30, 1, 1, 0, 0, []),
  (59, none, .goto 8, 3, 67, 0, 0, 0, 0, []),
  (62, none, .aload_n 0, 1, 0, 0, 0, 0, 0, []),
  (63, none, .iconst 1, 1, 0, 0, 0, 0, 0, []),
  (64, none, .invokevirtual 67, 3, 31, 2, 1, 0, 0, []),
  (67, none, .return_, 1, 0, 0, 0, 0, 0, [])]
noncomputable def K_rd_condition : List aE := [
  (0, none, .aload_n 0, 1, 0, 0, 0, 0, 0, []),
  (1, none, .iconst 0, 1, 0, 0, 0, 0, 0, []),
  (2, none, .putfield 140, 3, 4, 6, 0, 0, 0, []),
  (5, none, .aload_n 0, 1, 0, 0, 0, 0, 0, []),
  (6, none, .iconst 0, 1, 0, 0, 0, 0, 0, []),
  (7, none, .putfield 143, 3, 4, 7, 0, 0, 0, []),
  (10, none, .aload_n 0, 1, 0, 0, 0, 0, 0, []),
  (11, none, .iconst 0, 1, 0, 0, 0, 0, 0, []),
  (12, none, .putfield 146, 3, 4, 8, 0, 0, 0, []),
  (15, none, .iconst 1, 1, 0, 0, 0, 0, 0, []),
  (16, none, .istore_n 1, 1, 1, 0, 0, 0, 0, []),
  (17, none, .iconst 0, 1, 0, 0, 0, 0, 0, []),
  (18, none, .istore_n 2, 1, 2, 0, 0, 0, 0, []),
  (19, some [true, true, true, false], .iload_n 2, 1, 2, 0, 0, 0, 0, []),
  (20, none, .sipush 400, 3, 0, 0, 0, 0, 0, []),
  (23, none, .if_icmp .gt 70, 3, 93, 0, 0, 0, 0, []),
  (26, none, .iload_n 1, 1, 1, 0, 0, 0, 0, []),
  (27, none, .ifCond .eq 66, 3, 93, 0, 0, 0, 0, []),
  (30, none, .aload_n 0, 1, 0, 0, 0, 0, 0, []),
  (31, none, .getfield 41, 3, 4, 2, 0, 0, 0, []),
  (34, none, .ifCond .ne 59, 3, 93, 0, 0, 0, 0, []),
  (37, none, .aload_n 0, 1, 0, 0, 0, 0, 0, []),
  (38, none, .getfield 64, 3, 4, 10, 0, 0, 0, []),
  (41, none, .istore_n 3, 1, 3, 0, 0, 0, 0, []),
  (42, none, .iload_n 3, 1, 3, 0, 0, 0, 0, []),
  (43, none, .bipush 40, 2, 0, 0, 0, 0, 0, []),
  (45, none, .if_icmp .eq 10, 3, 55, 0, 0, 0, 0, []),
  (48, none, .iload_n 3, 1, 3, 0, 0, 0, 0, []),
  (49, none, .sipush 262, 3, 0, 0, 0, 0, 0, []),
  (52, none, .if_icmp .ne 11, 3, 63, 0, 0, 0, 0, []),
  (55, none, .aload_n 0, 1, 0, 0, 0, 0, 0, []),
  (56, none, .iload_n 3, 1, 3, 0, 0, 0, 0, []),
  (57, none, .invokevirtual 149, 3, 41, 2, 1, 0, 0, []),
  (60, none, .goto 27, 3, 87, 0, 0, 0, 0, []),
  (63, none, .aload_n 0, 1, 0, 0, 0, 0, 0, []),
  (64, none, .invokevirtual 152, 3, 42, 1, 1, 0, 0, []),
  (67, none, .aload_n 0, 1, 0, 0, 0, 0, 0, []),
  (68, none, .getfield 41, 3, 4, 2, 0, 0, 0, []),
  (71, none, .ifCond .ne 14, 3, 85, 0, 0, 0, 0, []),
  (74, none, .aload_n 0, 1, 0, 0, 0, 0, 0, []),
  (75, none, .invokevirtual 155, 3, 43, 1, 2, 0, 0, []),
  (78, none, .ifCond .eq 7, 3, 85, 0, 0, 0, 0, []),
  (81, none, .iconst 1, 1, 0, 0, 0, 0, 0, []),
  (82, none, .goto 4, 3, 86, 0, 0, 0, 0, []),
  (85, none, .iconst 0, 1, 0, 0, 0, 0, 0, []),
  (86, none, .istore_n 1, 1, 1, 0, 0, 0, 0, []),
  (87, none, .iinc 2 1, 3, 2, 0, 0, 0, 0, []),
  (90, none, .goto (-71), 3, 19, 0, 0, 0, 0, []),
  (93, none, .return_, 1, 0, 0, 0, 0, 0, [])]
noncomputable def K_rd_openOne : List aE := [
  (0, none, .aload_n 0, 1, 0, 0, 0, 0, 0, []),
  (1, none, .getfield 146, 3, 4, 8, 0, 0, 0, []),
  (4, none, .bipush 8, 2, 0, 0, 0, 0, 0, []),
  (6, none, .if_icmp .lt 9, 3, 15, 0, 0, 0, 0, []),
  (9, none, .aload_n 0, 1, 0, 0, 0, 0, 0, []),
  (10, none, .iconst 3, 1, 0, 0, 0, 0, 0, []),
  (11, none, .invokevirtual 67, 3, 31, 2, 1, 0, 0, []),
  (14, none, .return_, 1, 0, 0, 0, 0, 0, []),
  (15, none, .aload_n 0, 1, 0, 0, 0, 0, 0, []),
  (16, none, .dup, 1, 0, 0, 0, 0, 0, []),
  (17, none, .getfield 146, 3, 4, 8, 0, 0, 0, []),
  (20, none, .iconst 1, 1, 0, 0, 0, 0, 0, []),
  (21, none, .iadd, 1, 0, 0, 0, 0, 0, []),
  (22, none, .putfield 146, 3, 4, 8, 0, 0, 0, []),
  (25, none, .iload_n 1, 1, 1, 0, 0, 0, 0, []),
  (26, none, .bipush 40, 2, 0, 0, 0, 0, 0, []),
  (28, none, .if_icmp .ne 13, 3, 41, 0, 0, 0, 0, []),
  (31, none, .aload_n 0, 1, 0, 0, 0, 0, 0, []),
  (32, none, .dup, 1, 0, 0, 0, 0, 0, []),
  (33, none, .getfield 143, 3, 4, 7, 0, 0, 0, []),
  (36, none, .iconst 1, 1, 0, 0, 0, 0, 0, []),
  (37, none, .iadd, 1, 0, 0, 0, 0, 0, []),
  (38, none, .putfield 143, 3, 4, 7, 0, 0, 0, []),
  (41, none, .aload_n 0, 1, 0, 0, 0, 0, 0, []),
  (42, none, .iload_n 1, 1, 1, 0, 0, 0, 0, []),
  (43, none, .invokevirtual 159, 3, 44, 2, 1, 0, 0, []),
  (46, none, .aload_n 0, 1, 0, 0, 0, 0, 0, []),
  (47, none, .invokevirtual 55, 3, 30, 1, 1, 0, 0, []),
  (50, none, .return_, 1, 0, 0, 0, 0, 0, [])]
noncomputable def K_rd_comparison : List aE := [
  (0, none, .aload_n 0, 1, 0, 0, 0, 0, 0, []),
  (1, none, .invokevirtual 125, 3, 38, 1, 1, 0, 0, []),
  (4, none, .aload_n 0, 1, 0, 0, 0, 0, 0, []),
  (5, none, .getfield 64, 3, 4, 10, 0, 0, 0, []),
  (8, none, .istore_n 1, 1, 1, 0, 0, 0, 0, []),
  (9, none, .aload_n 0, 1, 0, 0, 0, 0, 0, []),
  (10, none, .getfield 41, 3, 4, 2, 0, 0, 0, []),
  (13, none, .ifCond .ne 26, 3, 39, 0, 0, 0, 0, []),
  (16, none, .iload_n 1, 1, 1, 0, 0, 0, 0, []),
  (17, none, .bipush 60, 2, 0, 0, 0, 0, 0, []),
  (19, none, .if_icmp .eq 20, 3, 39, 0, 0, 0, 0, []),
  (22, none, .iload_n 1, 1, 1, 0, 0, 0, 0, []),
  (23, none, .bipush 61, 2, 0, 0, 0, 0, 0, []),
  (25, none, .if_icmp .eq 14, 3, 39, 0, 0, 0, 0, []),
  (28, none, .iload_n 1, 1, 1, 0, 0, 0, 0, []),
  (29, none, .bipush 62, 2, 0, 0, 0, 0, 0, []),
  (31, none, .if_icmp .eq 8, 3, 39, 0, 0, 0, 0, []),
  (34, none, .aload_n 0, 1, 0, 0, 0, 0, 0, []),
  (35, none, .iconst 1, 1, 0, 0, 0, 0, 0, []),
  (36, none, .invokevirtual 67, 3, 31, 2, 1, 0, 0, []),
  (39, some [true, true], .aload_n 0, 1, 0, 0, 0, 0, 0, []),
  (40, none, .getfield 41, 3, 4, 2, 0, 0, 0, []),
  (43, none, .ifCond .eq 4, 3, 47, 0, 0, 0, 0, []),
  (46, none, .return_, 1, 0, 0, 0, 0, 0, []),
  (47, none, .aload_n 0, 1, 0, 0, 0, 0, 0, []),
  (48, none, .invokevirtual 55, 3, 30, 1, 1, 0, 0, []),
  (51, none, .aload_n 0, 1, 0, 0, 0, 0, 0, []),
  (52, none, .invokevirtual 125, 3, 38, 1, 1, 0, 0, []),
  (55, none, .aload_n 0, 1, 0, 0, 0, 0, 0, []),
  (56, none, .getfield 14, 3, 4, 0, 4, 1, 0, []),
  (59, none, .iload_n 1, 1, 1, 0, 0, 0, 0, []),
  (60, none, .bipush 60, 2, 0, 0, 0, 0, 0, []),
  (62, none, .if_icmp .ne 8, 3, 70, 0, 0, 0, 0, []),
  (65, none, .bipush (-15), 2, 0, 0, 0, 0, 0, []),
  (67, none, .goto 16, 3, 83, 0, 0, 0, 0, []),
  (70, none, .iload_n 1, 1, 1, 0, 0, 0, 0, []),
  (71, none, .bipush 61, 2, 0, 0, 0, 0, 0, []),
  (73, none, .if_icmp .ne 8, 3, 81, 0, 0, 0, 0, []),
  (76, none, .bipush (-16), 2, 0, 0, 0, 0, 0, []),
  (78, none, .goto 5, 3, 83, 0, 0, 0, 0, []),
  (81, none, .bipush (-17), 2, 0, 0, 0, 0, 0, []),
  (83, none, .invokevirtual 137, 3, 10, 2, 1, 0, 0, []),
  (86, none, .return_, 1, 0, 0, 0, 0, 0, [])]
noncomputable def K_rd_goOnBehind : List aE := [
  (0, none, .aload_n 0, 1, 0, 0, 0, 0, 0, []),
  (1, none, .invokevirtual 162, 3, 46, 1, 1, 0, 0, []),
  (4, none, .iconst 0, 1, 0, 0, 0, 0, 0, []),
  (5, none, .istore_n 1, 1, 1, 0, 0, 0, 0, []),
  (6, some [true, true], .iload_n 1, 1, 1, 0, 0, 0, 0, []),
  (7, none, .bipush 8, 2, 0, 0, 0, 0, 0, []),
  (9, none, .if_icmp .ge 70, 3, 79, 0, 0, 0, 0, []),
  (12, none, .aload_n 0, 1, 0, 0, 0, 0, 0, []),
  (13, none, .getfield 143, 3, 4, 7, 0, 0, 0, []),
  (16, none, .ifCond .le 63, 3, 79, 0, 0, 0, 0, []),
  (19, none, .aload_n 0, 1, 0, 0, 0, 0, 0, []),
  (20, none, .getfield 64, 3, 4, 10, 0, 0, 0, []),
  (23, none, .bipush 41, 2, 0, 0, 0, 0, 0, []),
  (25, none, .if_icmp .ne 54, 3, 79, 0, 0, 0, 0, []),
  (28, none, .aload_n 0, 1, 0, 0, 0, 0, 0, []),
  (29, none, .sipush 260, 3, 0, 0, 0, 0, 0, []),
  (32, none, .invokevirtual 165, 3, 47, 2, 1, 0, 0, []),
  (35, none, .aload_n 0, 1, 0, 0, 0, 0, 0, []),
  (36, none, .dup, 1, 0, 0, 0, 0, 0, []),
  (37, none, .getfield 140, 3, 4, 6, 0, 0, 0, []),
  (40, none, .iconst 1, 1, 0, 0, 0, 0, 0, []),
  (41, none, .isub, 1, 0, 0, 0, 0, 0, []),
  (42, none, .putfield 140, 3, 4, 6, 0, 0, 0, []),
  (45, none, .aload_n 0, 1, 0, 0, 0, 0, 0, []),
  (46, none, .dup, 1, 0, 0, 0, 0, 0, []),
  (47, none, .getfield 143, 3, 4, 7, 0, 0, 0, []),
  (50, none, .iconst 1, 1, 0, 0, 0, 0, 0, []),
  (51, none, .isub, 1, 0, 0, 0, 0, 0, []),
  (52, none, .putfield 143, 3, 4, 7, 0, 0, 0, []),
  (55, none, .aload_n 0, 1, 0, 0, 0, 0, 0, []),
  (56, none, .dup, 1, 0, 0, 0, 0, 0, []),
  (57, none, .getfield 146, 3, 4, 8, 0, 0, 0, []),
  (60, none, .iconst 1, 1, 0, 0, 0, 0, 0, []),
  (61, none, .isub, 1, 0, 0, 0, 0, 0, []),
  (62, none, .putfield 146, 3, 4, 8, 0, 0, 0, []),
  (65, none, .aload_n 0, 1, 0, 0, 0, 0, 0, []),
  (66, none, .invokevirtual 55, 3, 30, 1, 1, 0, 0, []),
  (69, none, .aload_n 0, 1, 0, 0, 0, 0, 0, []),
  (70, none, .invokevirtual 162, 3, 46, 1, 1, 0, 0, []),
  (73, none, .iinc 1 1, 3, 1, 0, 0, 0, 0, []),
  (76, none, .goto (-70), 3, 6, 0, 0, 0, 0, []),
  (79, some [true, false], .aload_n 0, 1, 0, 0, 0, 0, 0, []),
  (80, none, .getfield 64, 3, 4, 10, 0, 0, 0, []),
  (83, none, .istore_n 1, 1, 1, 0, 0, 0, 0, []),
  (84, none, .iload_n 1, 1, 1, 0, 0, 0, 0, []),
  (85, none, .sipush 261, 3, 0, 0, 0, 0, 0, []),
  (88, none, .if_icmp .eq 10, 3, 98, 0, 0, 0, 0, []),
  (91, none, .iload_n 1, 1, 1, 0, 0, 0, 0, []),
  (92, none, .sipush 260, 3, 0, 0, 0, 0, 0, []),
  (95, none, .if_icmp .ne 19, 3, 114, 0, 0, 0, 0, []),
  (98, none, .aload_n 0, 1, 0, 0, 0, 0, 0, []),
  (99, none, .iload_n 1, 1, 1, 0, 0, 0, 0, []),
  (100, none, .invokevirtual 165, 3, 47, 2, 1, 0, 0, []),
  (103, none, .aload_n 0, 1, 0, 0, 0, 0, 0, []),
  (104, none, .iload_n 1, 1, 1, 0, 0, 0, 0, []),
  (105, none, .invokevirtual 159, 3, 44, 2, 1, 0, 0, []),
  (108, none, .aload_n 0, 1, 0, 0, 0, 0, 0, []),
  (109, none, .invokevirtual 55, 3, 30, 1, 1, 0, 0, []),
  (112, none, .iconst 1, 1, 0, 0, 0, 0, 0, []),
  (113, none, .ireturn, 1, 1, 0, 0, 0, 0, []),
  (114, none, .aload_n 0, 1, 0, 0, 0, 0, 0, []),
  (115, none, .getfield 143, 3, 4, 7, 0, 0, 0, []),
  (118, none, .ifCond .le 11, 3, 129, 0, 0, 0, 0, []),
  (121, none, .aload_n 0, 1, 0, 0, 0, 0, 0, []),
  (122, none, .iconst 1, 1, 0, 0, 0, 0, 0, []),
  (123, none, .invokevirtual 67, 3, 31, 2, 1, 0, 0, []),
  (126, none, .goto 10, 3, 136, 0, 0, 0, 0, []),
  (129, none, .aload_n 0, 1, 0, 0, 0, 0, 0, []),
  (130, none, .sipush 260, 3, 0, 0, 0, 0, 0, []),
  (133, none, .invokevirtual 165, 3, 47, 2, 1, 0, 0, []),
  (136, none, .iconst 0, 1, 0, 0, 0, 0, 0, []),
  (137, none, .ireturn, 1, 1, 0, 0, 0, 0, [])]
noncomputable def K_rd_hold : List aE := [
  (0, none, .aload_n 0, 1, 0, 0, 0, 0, 0, []),
  (1, none, .getfield 140, 3, 4, 6, 0, 0, 0, []),
  (4, none, .ifCond .lt 32, 3, 36, 0, 0, 0, 0, []),
  (7, none, .aload_n 0, 1, 0, 0, 0, 0, 0, []),
  (8, none, .getfield 140, 3, 4, 6, 0, 0, 0, []),
  (11, none, .bipush 32, 2, 0, 0, 0, 0, 0, []),
  (13, none, .if_icmp .ge 23, 3, 36, 0, 0, 0, 0, []),
  (16, none, .aload_n 0, 1, 0, 0, 0, 0, 0, []),
  (17, none, .getfield 33, 3, 4, 4, 22, 8, 0, []),
  (20, none, .aload_n 0, 1, 0, 0, 0, 0, 0, []),
  (21, none, .getfield 140, 3, 4, 6, 0, 0, 0, []),
  (24, none, .iload_n 1, 1, 1, 0, 0, 0, 0, []),
  (25, none, .iastore, 1, 0, 0, 0, 0, 0, []),
  (26, none, .aload_n 0, 1, 0, 0, 0, 0, 0, []),
  (27, none, .dup, 1, 0, 0, 0, 0, 0, []),
  (28, none, .getfield 140, 3, 4, 6, 0, 0, 0, []),
  (31, none, .iconst 1, 1, 0, 0, 0, 0, 0, []),
  (32, none, .iadd, 1, 0, 0, 0, 0, 0, []),
  (33, none, .putfield 140, 3, 4, 6, 0, 0, 0, []),
  (36, none, .return_, 1, 0, 0, 0, 0, 0, [])]
noncomputable def K_rd_lastWaiting : List aE := [
  (0, none, .aload_n 0, 1, 0, 0, 0, 0, 0, []),
  (1, none, .getfield 140, 3, 4, 6, 0, 0, 0, []),
  (4, none, .ifCond .le 26, 3, 30, 0, 0, 0, 0, []),
  (7, none, .aload_n 0, 1, 0, 0, 0, 0, 0, []),
  (8, none, .getfield 140, 3, 4, 6, 0, 0, 0, []),
  (11, none, .bipush 32, 2, 0, 0, 0, 0, 0, []),
  (13, none, .if_icmp .gt 17, 3, 30, 0, 0, 0, 0, []),
  (16, none, .aload_n 0, 1, 0, 0, 0, 0, 0, []),
  (17, none, .getfield 33, 3, 4, 4, 22, 8, 0, []),
  (20, none, .aload_n 0, 1, 0, 0, 0, 0, 0, []),
  (21, none, .getfield 140, 3, 4, 6, 0, 0, 0, []),
  (24, none, .iconst 1, 1, 0, 0, 0, 0, 0, []),
  (25, none, .isub, 1, 0, 0, 0, 0, 0, []),
  (26, none, .iaload, 1, 0, 0, 0, 0, 0, []),
  (27, none, .goto 4, 3, 31, 0, 0, 0, 0, []),
  (30, none, .iconst 0, 1, 0, 0, 0, 0, 0, []),
  (31, none, .ireturn, 1, 0, 0, 0, 0, 0, [])]
noncomputable def K_rd_closeNots : List aE := [
  (0, some [true], .aload_n 0, 1, 0, 0, 0, 0, 0, []),
  (1, none, .getfield 140, 3, 4, 6, 0, 0, 0, []),
  (4, none, .ifCond .le 45, 3, 49, 0, 0, 0, 0, []),
  (7, none, .aload_n 0, 1, 0, 0, 0, 0, 0, []),
  (8, none, .invokevirtual 168, 3, 45, 1, 2, 0, 0, []),
  (11, none, .sipush 262, 3, 0, 0, 0, 0, 0, []),
  (14, none, .if_icmp .ne 35, 3, 49, 0, 0, 0, 0, []),
  (17, none, .aload_n 0, 1, 0, 0, 0, 0, 0, []),
  (18, none, .getfield 14, 3, 4, 0, 4, 1, 0, []),
  (21, none, .bipush (-18), 2, 0, 0, 0, 0, 0, []),
  (23, none, .invokevirtual 137, 3, 10, 2, 1, 0, 0, []),
  (26, none, .aload_n 0, 1, 0, 0, 0, 0, 0, []),
  (27, none, .dup, 1, 0, 0, 0, 0, 0, []),
  (28, none, .getfield 140, 3, 4, 6, 0, 0, 0, []),
  (31, none, .iconst 1, 1, 0, 0, 0, 0, 0, []),
  (32, none, .isub, 1, 0, 0, 0, 0, 0, []),
  (33, none, .putfield 140, 3, 4, 6, 0, 0, 0, []),
  (36, none, .aload_n 0, 1, 0, 0, 0, 0, 0, []),
  (37, none, .dup, 1, 0, 0, 0, 0, 0, []),
  (38, none, .getfield 146, 3, 4, 8, 0, 0, 0, []),
  (41, none, .iconst 1, 1, 0, 0, 0, 0, 0, []),
  (42, none, .isub, 1, 0, 0, 0, 0, 0, []),
  (43, none, .putfield 146, 3, 4, 8, 0, 0, 0, []),
  (46, none, .goto (-46), 3, 0, 0, 0, 0, 0, []),
  (49, none, .return_, 1, 0, 0, 0, 0, 0, [])]
noncomputable def K_rd_joinDownTo : List aE := [
  (0, some [true, true], .aload_n 0, 1, 0, 0, 0, 0, 0, []),
  (1, none, .getfield 140, 3, 4, 6, 0, 0, 0, []),
  (4, none, .ifCond .le 67, 3, 71, 0, 0, 0, 0, []),
  (7, none, .aload_n 0, 1, 0, 0, 0, 0, 0, []),
  (8, none, .invokevirtual 168, 3, 45, 1, 2, 0, 0, []),
  (11, none, .sipush 261, 3, 0, 0, 0, 0, 0, []),
  (14, none, .if_icmp .eq 20, 3, 34, 0, 0, 0, 0, []),
  (17, none, .aload_n 0, 1, 0, 0, 0, 0, 0, []),
  (18, none, .invokevirtual 168, 3, 45, 1, 2, 0, 0, []),
  (21, none, .sipush 260, 3, 0, 0, 0, 0, 0, []),
  (24, none, .if_icmp .ne 47, 3, 71, 0, 0, 0, 0, []),
  (27, none, .iload_n 1, 1, 1, 0, 0, 0, 0, []),
  (28, none, .sipush 260, 3, 0, 0, 0, 0, 0, []),
  (31, none, .if_icmp .ne 40, 3, 71, 0, 0, 0, 0, []),
  (34, some [true, true], .aload_n 0, 1, 0, 0, 0, 0, 0, []),
  (35, none, .getfield 14, 3, 4, 0, 4, 1, 0, []),
  (38, none, .aload_n 0, 1, 0, 0, 0, 0, 0, []),
  (39, none, .invokevirtual 168, 3, 45, 1, 2, 0, 0, []),
  (42, none, .sipush 261, 3, 0, 0, 0, 0, 0, []),
  (45, none, .if_icmp .ne 8, 3, 53, 0, 0, 0, 0, []),
  (48, none, .bipush (-19), 2, 0, 0, 0, 0, 0, []),
  (50, none, .goto 5, 3, 55, 0, 0, 0, 0, []),
  (53, none, .bipush (-20), 2, 0, 0, 0, 0, 0, []),
  (55, none, .invokevirtual 137, 3, 10, 2, 1, 0, 0, []),
  (58, none, .aload_n 0, 1, 0, 0, 0, 0, 0, []),
  (59, none, .dup, 1, 0, 0, 0, 0, 0, []),
  (60, none, .getfield 140, 3, 4, 6, 0, 0, 0, []),
  (63, none, .iconst 1, 1, 0, 0, 0, 0, 0, []),
  (64, none, .isub, 1, 0, 0, 0, 0, 0, []),
  (65, none, .putfield 140, 3, 4, 6, 0, 0, 0, []),
  (68, none, .goto (-68), 3, 0, 0, 0, 0, 0, []),
  (71, none, .return_, 1, 0, 0, 0, 0, 0, [])]
noncomputable def K_rows_has : List aE := [
  (0, none, .iload_n 1, 1, 1, 0, 0, 0, 0, []),
  (1, none, .ifCond .lt 15, 3, 16, 0, 0, 0, 0, []),
  (4, none, .iload_n 1, 1, 1, 0, 0, 0, 0, []),
  (5, none, .aload_n 0, 1, 0, 0, 0, 0, 0, []),
  (6, none, .getfield 25, 3, 5, 2, 0, 0, 0, []),
  (9, none, .if_icmp .ge 7, 3, 16, 0, 0, 0, 0, []),
  (12, none, .iconst 1, 1, 0, 0, 0, 0, 0, []),
  (13, none, .goto 4, 3, 17, 0, 0, 0, 0, []),
  (16, none, .iconst 0, 1, 0, 0, 0, 0, 0, []),
  (17, none, .ireturn, 1, 1, 0, 0, 0, 0, [])]
noncomputable def K_rows_cell : List aE := [
  (0, none, .iload_n 1, 1, 1, 0, 0, 0, 0, []),
  (1, none, .iconst 4, 1, 0, 0, 0, 0, 0, []),
  (2, none, .imul, 1, 0, 0, 0, 0, 0, []),
  (3, none, .iload_n 2, 1, 2, 0, 0, 0, 0, []),
  (4, none, .iadd, 1, 0, 0, 0, 0, 0, []),
  (5, none, .istore_n 3, 1, 3, 0, 0, 0, 0, []),
  (6, none, .aload_n 0, 1, 0, 0, 0, 0, 0, []),
  (7, none, .iload_n 1, 1, 1, 0, 0, 0, 0, []),
  (8, none, .invokevirtual 28, 3, 48, 2, 2, 0, 0, []),
  (11, none, .ifCond .eq 30, 3, 41, 0, 0, 0, 0, []),
  (14, none, .iload_n 2, 1, 2, 0, 0, 0, 0, []),
  (15, none, .ifCond .lt 26, 3, 41, 0, 0, 0, 0, []),
  (18, none, .iload_n 2, 1, 2, 0, 0, 0, 0, []),
  (19, none, .iconst 4, 1, 0, 0, 0, 0, 0, []),
  (20, none, .if_icmp .ge 21, 3, 41, 0, 0, 0, 0, []),
  (23, none, .iload_n 3, 1, 3, 0, 0, 0, 0, []),
  (24, none, .aload_n 0, 1, 0, 0, 0, 0, 0, []),
  (25, none, .getfield 21, 3, 5, 1, 22, 1, 0, []),
  (28, none, .arraylength, 1, 0, 0, 0, 0, 0, []),
  (29, none, .if_icmp .ge 12, 3, 41, 0, 0, 0, 0, []),
  (32, none, .aload_n 0, 1, 0, 0, 0, 0, 0, []),
  (33, none, .getfield 21, 3, 5, 1, 22, 1, 0, []),
  (36, none, .iload_n 3, 1, 3, 0, 0, 0, 0, []),
  (37, none, .iaload, 1, 0, 0, 0, 0, 0, []),
  (38, none, .goto 4, 3, 42, 0, 0, 0, 0, []),
  (41, none, .iconst 0, 1, 0, 0, 0, 0, 0, []),
  (42, none, .ireturn, 1, 0, 0, 0, 0, 0, [])]
noncomputable def K_rows_put : List aE := [
  (0, none, .aload_n 0, 1, 0, 0, 0, 0, 0, []),
  (1, none, .getfield 25, 3, 5, 2, 0, 0, 0, []),
  (4, none, .iconst 4, 1, 0, 0, 0, 0, 0, []),
  (5, none, .imul, 1, 0, 0, 0, 0, 0, []),
  (6, none, .istore 5, 2, 5, 0, 0, 0, 0, []),
  (8, none, .aload_n 0, 1, 0, 0, 0, 0, 0, []),
  (9, none, .getfield 25, 3, 5, 2, 0, 0, 0, []),
  (12, none, .aload_n 0, 1, 0, 0, 0, 0, 0, []),
  (13, none, .getfield 15, 3, 5, 0, 0, 0, 0, []),
  (16, none, .if_icmp .ge 20, 3, 36, 0, 0, 0, 0, []),
  (19, none, .iload 5, 2, 5, 0, 0, 0, 0, []),
  (21, none, .ifCond .lt 15, 3, 36, 0, 0, 0, 0, []),
  (24, none, .iload 5, 2, 5, 0, 0, 0, 0, []),
  (26, none, .iconst 3, 1, 0, 0, 0, 0, 0, []),
  (27, none, .iadd, 1, 0, 0, 0, 0, 0, []),
  (28, none, .aload_n 0, 1, 0, 0, 0, 0, 0, []),
  (29, none, .getfield 21, 3, 5, 1, 22, 1, 0, []),
  (32, none, .arraylength, 1, 0, 0, 0, 0, 0, []),
  (33, none, .if_icmp .lt 5, 3, 38, 0, 0, 0, 0, []),
  (36, none, .iconst 0, 1, 0, 0, 0, 0, 0, []),
  (37, none, .ireturn, 1, 1, 0, 0, 0, 0, []),
  (38, none, .aload_n 0, 1, 0, 0, 0, 0, 0, []),
  (39, none, .getfield 21, 3, 5, 1, 22, 1, 0, []),
  (42, none, .iload 5, 2, 5, 0, 0, 0, 0, []),
  (44, none, .iload_n 1, 1, 1, 0, 0, 0, 0, []),
  (45, none, .iastore, 1, 0, 0, 0, 0, 0, []),
  (46, none, .aload_n 0, 1, 0, 0, 0, 0, 0, []),
  (47, none, .getfield 21, 3, 5, 1, 22, 1, 0, []),
  (50, none, .iload 5, 2, 5, 0, 0, 0, 0, []),
  (52, none, .iconst 1, 1, 0, 0, 0, 0, 0, []),
  (53, none, .iadd, 1, 0, 0, 0, 0, 0, []),
  (54, none, .iload_n 2, 1, 2, 0, 0, 0, 0, []),
  (55, none, .iastore, 1, 0, 0, 0, 0, 0, []),
  (56, none, .aload_n 0, 1, 0, 0, 0, 0, 0, []),
  (57, none, .getfield 21, 3, 5, 1, 22, 1, 0, []),
  (60, none, .iload 5, 2, 5, 0, 0, 0, 0, []),
  (62, none, .iconst 2, 1, 0, 0, 0, 0, 0, []),
  (63, none, .iadd, 1, 0, 0, 0, 0, 0, []),
  (64, none, .iload_n 3, 1, 3, 0, 0, 0, 0, []),
  (65, none, .iastore, 1, 0, 0, 0, 0, 0, []),
  (66, none, .aload_n 0, 1, 0, 0, 0, 0, 0, []),
  (67, none, .getfield 21, 3, 5, 1, 22, 1, 0, []),
  (70, none, .iload 5, 2, 5, 0, 0, 0, 0, []),
  (72, none, .iconst 3, 1, 0, 0, 0, 0, 0, []),
  (73, none, .iadd, 1, 0, 0, 0, 0, 0, []),
  (74, none, .iload 4, 2, 4, 0, 0, 0, 0, []),
  (76, none, .iastore, 1, 0, 0, 0, 0, 0, []),
  (77, none, .aload_n 0, 1, 0, 0, 0, 0, 0, []),
  (78, none, .dup, 1, 0, 0, 0, 0, 0, []),
  (79, none, .getfield 25, 3, 5, 2, 0, 0, 0, []),
  (82, none, .iconst 1, 1, 0, 0, 0, 0, 0, []),
  (83, none, .iadd, 1, 0, 0, 0, 0, 0, []),
  (84, none, .putfield 25, 3, 5, 2, 0, 0, 0, []),
  (87, none, .iconst 1, 1, 0, 0, 0, 0, 0, []),
  (88, none, .ireturn, 1, 1, 0, 0, 0, 0, [])]
noncomputable def K_rows_tell : List aE := [
  (0, none, .iload_n 1, 1, 1, 0, 0, 0, 0, []),
  (1, none, .iconst (-1), 1, 0, 0, 0, 0, 0, []),
  (2, none, .if_icmp .ne 10, 3, 12, 0, 0, 0, 0, []),
  (5, none, .aload_n 0, 1, 0, 0, 0, 0, 0, []),
  (6, none, .iconst 0, 1, 0, 0, 0, 0, 0, []),
  (7, none, .putfield 25, 3, 5, 2, 0, 0, 0, []),
  (10, none, .iconst 0, 1, 0, 0, 0, 0, 0, []),
  (11, none, .ireturn, 1, 0, 0, 0, 0, 0, []),
  (12, none, .iload_n 3, 1, 3, 0, 0, 0, 0, []),
  (13, none, .ifCond .eq 21, 3, 34, 0, 0, 0, 0, []),
  (16, none, .aload_n 0, 1, 0, 0, 0, 0, 0, []),
  (17, none, .iload_n 1, 1, 1, 0, 0, 0, 0, []),
  (18, none, .iload_n 2, 1, 2, 0, 0, 0, 0, []),
  (19, none, .iconst 0, 1, 0, 0, 0, 0, 0, []),
  (20, none, .iconst 0, 1, 0, 0, 0, 0, 0, []),
  (21, none, .invokevirtual 32, 3, 50, 5, 2, 0, 0, []),
  (24, none, .ifCond .eq 10, 3, 34, 0, 0, 0, 0, []),
  (27, none, .aload_n 0, 1, 0, 0, 0, 0, 0, []),
  (28, none, .getfield 25, 3, 5, 2, 0, 0, 0, []),
  (31, none, .goto 4, 3, 35, 0, 0, 0, 0, []),
  (34, none, .iconst (-1), 1, 0, 0, 0, 0, 0, []),
  (35, none, .ireturn, 1, 0, 0, 0, 0, 0, [])]
noncomputable def K_rows_copyFrom : List aE := [
  (0, none, .aload_n 0, 1, 0, 0, 0, 0, 0, []),
  (1, none, .aload_n 1, 1, 1, 0, 0, 0, 0, []),
  (2, none, .getfield 25, 3, 5, 2, 0, 0, 0, []),
  (5, none, .aload_n 0, 1, 0, 0, 0, 0, 0, []),
  (6, none, .getfield 15, 3, 5, 0, 0, 0, 0, []),
  (9, none, .invokestatic 36, 3, 5, 0, 0, 0, 0, []),
  (12, none, .putfield 25, 3, 5, 2, 0, 0, 0, []),
  (15, none, .aload_n 0, 1, 0, 0, 0, 0, 0, []),
  (16, none, .getfield 25, 3, 5, 2, 0, 0, 0, []),
  (19, none, .iconst 4, 1, 0, 0, 0, 0, 0, []),
  (20, none, .imul, 1, 0, 0, 0, 0, 0, []),
  (21, none, .aload_n 0, 1, 0, 0, 0, 0, 0, []),
  (22, none, .getfield 21, 3, 5, 1, 22, 1, 0, []),
  (25, none, .arraylength, 1, 0, 0, 0, 0, 0, []),
  (26, none, .aload_n 1, 1, 1, 0, 0, 0, 0, []),
  (27, none, .getfield 21, 3, 5, 1, 22, 1, 0, []),
  (30, none, .arraylength, 1, 0, 0, 0, 0, 0, []),
  (31, none, .invokestatic 36, 3, 5, 0, 0, 0, 0, []),
  (34, none, .invokestatic 36, 3, 5, 0, 0, 0, 0, []),
  (37, none, .istore_n 2, 1, 2, 0, 0, 0, 0, []),
  (38, none, .aload_n 1, 1, 1, 0, 0, 0, 0, []),
  (39, none, .getfield 21, 3, 5, 1, 22, 1, 0, []),
  (42, none, .iconst 0, 1, 0, 0, 0, 0, 0, []),
  (43, none, .aload_n 0, 1, 0, 0, 0, 0, 0, []),
  (44, none, .getfield 21, 3, 5, 1, 22, 1, 0, []),
  (47, none, .iconst 0, 1, 0, 0, 0, 0, 0, []),
  (48, none, .iload_n 2, 1, 2, 0, 0, 0, 0, []),
  (49, none, .invokestatic 39, 3, 0, 0, 0, 0, 0, []),
  (52, none, .return_, 1, 0, 0, 0, 0, 0, [])]
noncomputable def K_tape_append : List aE := [
  (0, none, .bipush 24, 2, 0, 0, 0, 0, 0, []),
  (2, none, .istore_n 2, 1, 2, 0, 0, 0, 0, []),
  (3, some [true, true, true], .iload_n 2, 1, 2, 0, 0, 0, 0, []),
  (4, none, .ifCond .lt 52, 3, 56, 0, 0, 0, 0, []),
  (7, none, .aload_n 0, 1, 0, 0, 0, 0, 0, []),
  (8, none, .getfield 24, 3, 6, 5, 0, 0, 0, []),
  (11, none, .ifCond .lt 39, 3, 50, 0, 0, 0, 0, []),
  (14, none, .aload_n 0, 1, 0, 0, 0, 0, 0, []),
  (15, none, .getfield 24, 3, 6, 5, 0, 0, 0, []),
  (18, none, .sipush 400, 3, 0, 0, 0, 0, 0, []),
  (21, none, .if_icmp .ge 29, 3, 50, 0, 0, 0, 0, []),
  (24, none, .aload_n 0, 1, 0, 0, 0, 0, 0, []),
  (25, none, .getfield 9, 3, 6, 0, 22, 1, 0, []),
  (28, none, .aload_n 0, 1, 0, 0, 0, 0, 0, []),
  (29, none, .getfield 24, 3, 6, 5, 0, 0, 0, []),
  (32, none, .iload_n 1, 1, 1, 0, 0, 0, 0, []),
  (33, none, .iload_n 2, 1, 2, 0, 0, 0, 0, []),
  (34, none, .iushr, 1, 0, 0, 0, 0, 0, []),
  (35, none, .sipush 255, 3, 0, 0, 0, 0, 0, []),
  (38, none, .iand, 1, 0, 0, 0, 0, 0, []),
  (39, none, .iastore, 1, 0, 0, 0, 0, 0, []),
  (40, none, .aload_n 0, 1, 0, 0, 0, 0, 0, []),
  (41, none, .dup, 1, 0, 0, 0, 0, 0, []),
  (42, none, .getfield 24, 3, 6, 5, 0, 0, 0, []),
  (45, none, .iconst 1, 1, 0, 0, 0, 0, 0, []),
  (46, none, .iadd, 1, 0, 0, 0, 0, 0, []),
  (47, none, .putfield 24, 3, 6, 5, 0, 0, 0, []),
  (50, none, .iinc 2 (-8), 3, 2, 0, 0, 0, 0, []),
  (53, none, .goto (-50), 3, 3, 0, 0, 0, 0, []),
  (56, none, .return_, 1, 0, 0, 0, 0, 0, [])]
noncomputable def K_tape_split : List aE := [
  (0, none, .aload_n 0, 1, 0, 0, 0, 0, 0, []),
  (1, none, .iconst 0, 1, 0, 0, 0, 0, 0, []),
  (2, none, .putfield 28, 3, 6, 4, 0, 0, 0, []),
  (5, none, .iconst 0, 1, 0, 0, 0, 0, 0, []),
  (6, none, .istore_n 2, 1, 2, 0, 0, 0, 0, []),
  (7, none, .iconst 0, 1, 0, 0, 0, 0, 0, []),
  (8, none, .istore_n 3, 1, 3, 0, 0, 0, 0, []),
  (9, some [true, true, true, true, false, false], .iload_n 3, 1, 3, 0, 0, 0, 0, []),
  (10, none, .sipush 400, 3, 0, 0, 0, 0, 0, []),
  (13, none, .if_icmp .ge 146, 3, 159, 0, 0, 0, 0, []),
  (16, none, .iload_n 2, 1, 2, 0, 0, 0, 0, []),
  (17, none, .aload_n 0, 1, 0, 0, 0, 0, 0, []),
  (18, none, .getfield 24, 3, 6, 5, 0, 0, 0, []),
  (21, none, .if_icmp .ge 138, 3, 159, 0, 0, 0, 0, []),
  (24, none, .aload_n 0, 1, 0, 0, 0, 0, 0, []),
  (25, none, .iload_n 2, 1, 2, 0, 0, 0, 0, []),
  (26, none, .invokevirtual 31, 3, 55, 2, 2, 0, 0, []),
  (29, none, .istore 4, 2, 4, 0, 0, 0, 0, []),
  (31, none, .iload_n 2, 1, 2, 0, 0, 0, 0, []),
  (32, none, .iconst 1, 1, 0, 0, 0, 0, 0, []),
  (33, none, .iadd, 1, 0, 0, 0, 0, 0, []),
  (34, none, .istore 5, 2, 5, 0, 0, 0, 0, []),
  (36, none, .iload 4, 2, 4, 0, 0, 0, 0, []),
  (38, none, .invokestatic 35, 3, 61, 1, 2, 0, 0, []),
  (41, none, .ifCond .eq 28, 3, 69, 0, 0, 0, 0, []),
  (44, none, .aload_n 0, 1, 0, 0, 0, 0, 0, []),
  (45, none, .iload_n 2, 1, 2, 0, 0, 0, 0, []),
  (46, none, .iconst 1, 1, 0, 0, 0, 0, 0, []),
  (47, none, .invokevirtual 39, 3, 57, 3, 2, 0, 0, []),
  (50, none, .istore 5, 2, 5, 0, 0, 0, 0, []),
  (52, none, .aload_n 0, 1, 0, 0, 0, 0, 0, []),
  (53, none, .aload_n 0, 1, 0, 0, 0, 0, 0, []),
  (54, none, .aload_n 1, 1, 1, 0, 0, 0, 0, []),
  (55, none, .iload_n 2, 1, 2, 0, 0, 0, 0, []),
  (56, none, .iload 5, 2, 5, 0, 0, 0, 0, []),
  (58, none, .invokevirtual 43, 3, 59, 4, 2, 0, 0, []),
  (61, none, .iconst 0, 1, 0, 0, 0, 0, 0, []),
  (62, none, .iload_n 2, 1, 2, 0, 0, 0, 0, []),
  (63, none, .invokevirtual 47, 3, 56, 4, 1, 0, 0, []),
  (66, none, .goto 84, 3, 150, 0, 0, 0, 0, []),
  (69, none, .iload 4, 2, 4, 0, 0, 0, 0, []),
  (71, none, .invokestatic 51, 3, 62, 1, 2, 0, 0, []),
  (74, none, .ifCond .eq 39, 3, 113, 0, 0, 0, 0, []),
  (77, none, .aload_n 0, 1, 0, 0, 0, 0, 0, []),
  (78, none, .iload_n 2, 1, 2, 0, 0, 0, 0, []),
  (79, none, .iconst 0, 1, 0, 0, 0, 0, 0, []),
  (80, none, .invokevirtual 39, 3, 57, 3, 2, 0, 0, []),
  (83, none, .istore 5, 2, 5, 0, 0, 0, 0, []),
  (85, none, .aload_n 0, 1, 0, 0, 0, 0, 0, []),
  (86, none, .iload 5, 2, 5, 0, 0, 0, 0, []),
  (88, none, .iload_n 2, 1, 2, 0, 0, 0, 0, []),
  (89, none, .isub, 1, 0, 0, 0, 0, 0, []),
  (90, none, .iconst 4, 1, 0, 0, 0, 0, 0, []),
  (91, none, .if_icmp .gt 7, 3, 98, 0, 0, 0, 0, []),
  (94, none, .iconst 1, 1, 0, 0, 0, 0, 0, []),
  (95, none, .goto 4, 3, 99, 0, 0, 0, 0, []),
  (98, none, .iconst 2, 1, 0, 0, 0, 0, 0, []),
  (99, none, .aload_n 0, 1, 0, 0, 0, 0, 0, []),
  (100, none, .iload_n 2, 1, 2, 0, 0, 0, 0, []),
  (101, none, .iload 5, 2, 5, 0, 0, 0, 0, []),
  (103, none, .invokevirtual 54, 3, 58, 3, 2, 0, 0, []),
  (106, none, .iload_n 2, 1, 2, 0, 0, 0, 0, []),
  (107, none, .invokevirtual 47, 3, 56, 4, 1, 0, 0, []),
  (110, none, .goto 40, 3, 150, 0, 0, 0, 0, []),
  (113, none, .iload 4, 2, 4, 0, 0, 0, 0, []),
  (115, none, .bipush 32, 2, 0, 0, 0, 0, 0, []),
  (117, none, .if_icmp .eq 33, 3, 150, 0, 0, 0, 0, []),
  (120, none, .iload 4, 2, 4, 0, 0, 0, 0, []),
  (122, none, .bipush 10, 2, 0, 0, 0, 0, 0, []),
  (124, none, .if_icmp .eq 26, 3, 150, 0, 0, 0, 0, []),
  (127, none, .aload_n 0, 1, 0, 0, 0, 0, 0, []),
  (128, none, .ldc 58, 2, 1, 4, 0, 0, 0, []),
  (130, none, .iload 4, 2, 4, 0, 0, 0, 0, []),
  (132, none, .i2c, 1, 0, 0, 0, 0, 0, []),
  (133, none, .invokevirtual 60, 3, 268, 2, 2, 0, 0, []),
  (136, none, .ifCond .lt 8, 3, 144, 0, 0, 0, 0, []),
  (139, none, .iload 4, 2, 4, 0, 0, 0, 0, []),
  (141, none, .goto 4, 3, 145, 0, 0, 0, 0, []),
  (144, none, .iconst 2, 1, 0, 0, 0, 0, 0, []),
  (145, none, .iconst 0, 1, 0, 0, 0, 0, 0, []),
  (146, none, .iload_n 2, 1, 2, 0, 0, 0, 0, []),
  (147, none, .invokevirtual 47, 3, 56, 4, 1, 0, 0, []),
  (150, some [true, true, false, true, false, true], .iload 5, 2, 5, 0, 0, 0, 0, []),
  (152, none, .istore_n 2, 1, 2, 0, 0, 0, 0, []),
  (153, none, .iinc 3 1, 3, 3, 0, 0, 0, 0, []),
  (156, none, .goto (-147), 3, 9, 0, 0, 0, 0, []),
  (159, none, .return_, 1, 0, 0, 0, 0, 0, [])]
noncomputable def K_tape_byteAt : List aE := [
  (0, none, .iload_n 1, 1, 1, 0, 0, 0, 0, []),
  (1, none, .ifCond .lt 27, 3, 28, 0, 0, 0, 0, []),
  (4, none, .iload_n 1, 1, 1, 0, 0, 0, 0, []),
  (5, none, .aload_n 0, 1, 0, 0, 0, 0, 0, []),
  (6, none, .getfield 24, 3, 6, 5, 0, 0, 0, []),
  (9, none, .if_icmp .ge 19, 3, 28, 0, 0, 0, 0, []),
  (12, none, .iload_n 1, 1, 1, 0, 0, 0, 0, []),
  (13, none, .sipush 400, 3, 0, 0, 0, 0, 0, []),
  (16, none, .if_icmp .ge 12, 3, 28, 0, 0, 0, 0, []),
  (19, none, .aload_n 0, 1, 0, 0, 0, 0, 0, []),
  (20, none, .getfield 9, 3, 6, 0, 22, 1, 0, []),
  (23, none, .iload_n 1, 1, 1, 0, 0, 0, 0, []),
  (24, none, .iaload, 1, 0, 0, 0, 0, 0, []),
  (25, none, .goto 4, 3, 29, 0, 0, 0, 0, []),
  (28, none, .iconst 0, 1, 0, 0, 0, 0, 0, []),
  (29, none, .ireturn, 1, 0, 0, 0, 0, 0, [])]
noncomputable def K_tape_addToken : List aE := [
  (0, none, .aload_n 0, 1, 0, 0, 0, 0, 0, []),
  (1, none, .getfield 28, 3, 6, 4, 0, 0, 0, []),
  (4, none, .ifCond .lt 53, 3, 57, 0, 0, 0, 0, []),
  (7, none, .aload_n 0, 1, 0, 0, 0, 0, 0, []),
  (8, none, .getfield 28, 3, 6, 4, 0, 0, 0, []),
  (11, none, .sipush 400, 3, 0, 0, 0, 0, 0, []),
  (14, none, .if_icmp .ge 43, 3, 57, 0, 0, 0, 0, []),
  (17, none, .aload_n 0, 1, 0, 0, 0, 0, 0, []),
  (18, none, .getfield 15, 3, 6, 1, 22, 2, 0, []),
  (21, none, .aload_n 0, 1, 0, 0, 0, 0, 0, []),
  (22, none, .getfield 28, 3, 6, 4, 0, 0, 0, []),
  (25, none, .iload_n 1, 1, 1, 0, 0, 0, 0, []),
  (26, none, .iastore, 1, 0, 0, 0, 0, 0, []),
  (27, none, .aload_n 0, 1, 0, 0, 0, 0, 0, []),
  (28, none, .getfield 18, 3, 6, 2, 22, 3, 0, []),
  (31, none, .aload_n 0, 1, 0, 0, 0, 0, 0, []),
  (32, none, .getfield 28, 3, 6, 4, 0, 0, 0, []),
  (35, none, .iload_n 2, 1, 2, 0, 0, 0, 0, []),
  (36, none, .iastore, 1, 0, 0, 0, 0, 0, []),
  (37, none, .aload_n 0, 1, 0, 0, 0, 0, 0, []),
  (38, none, .getfield 21, 3, 6, 3, 22, 4, 0, []),
  (41, none, .aload_n 0, 1, 0, 0, 0, 0, 0, []),
  (42, none, .getfield 28, 3, 6, 4, 0, 0, 0, []),
  (45, none, .iload_n 3, 1, 3, 0, 0, 0, 0, []),
  (46, none, .iastore, 1, 0, 0, 0, 0, 0, []),
  (47, none, .aload_n 0, 1, 0, 0, 0, 0, 0, []),
  (48, none, .dup, 1, 0, 0, 0, 0, 0, []),
  (49, none, .getfield 28, 3, 6, 4, 0, 0, 0, []),
  (52, none, .iconst 1, 1, 0, 0, 0, 0, 0, []),
  (53, none, .iadd, 1, 0, 0, 0, 0, 0, []),
  (54, none, .putfield 28, 3, 6, 4, 0, 0, 0, []),
  (57, none, .return_, 1, 0, 0, 0, 0, 0, [])]
noncomputable def K_tape_behindRun : List aE := [
  (0, none, .iload_n 1, 1, 1, 0, 0, 0, 0, []),
  (1, none, .istore_n 3, 1, 3, 0, 0, 0, 0, []),
  (2, some [true, false, true, true], .iload_n 3, 1, 3, 0, 0, 0, 0, []),
  (3, none, .aload_n 0, 1, 0, 0, 0, 0, 0, []),
  (4, none, .getfield 24, 3, 6, 5, 0, 0, 0, []),
  (7, none, .if_icmp .ge 38, 3, 45, 0, 0, 0, 0, []),
  (10, none, .iload_n 2, 1, 2, 0, 0, 0, 0, []),
  (11, none, .ifCond .eq 17, 3, 28, 0, 0, 0, 0, []),
  (14, none, .aload_n 0, 1, 0, 0, 0, 0, 0, []),
  (15, none, .iload_n 3, 1, 3, 0, 0, 0, 0, []),
  (16, none, .invokevirtual 31, 3, 55, 2, 2, 0, 0, []),
  (19, none, .invokestatic 35, 3, 61, 1, 2, 0, 0, []),
  (22, none, .ifCond .eq 23, 3, 45, 0, 0, 0, 0, []),
  (25, none, .goto 14, 3, 39, 0, 0, 0, 0, []),
  (28, none, .aload_n 0, 1, 0, 0, 0, 0, 0, []),
  (29, none, .iload_n 3, 1, 3, 0, 0, 0, 0, []),
  (30, none, .invokevirtual 31, 3, 55, 2, 2, 0, 0, []),
  (33, none, .invokestatic 51, 3, 62, 1, 2, 0, 0, []),
  (36, none, .ifCond .eq 9, 3, 45, 0, 0, 0, 0, []),
  (39, none, .iinc 3 1, 3, 3, 0, 0, 0, 0, []),
  (42, none, .goto (-40), 3, 2, 0, 0, 0, 0, []),
  (45, none, .iload_n 3, 1, 3, 0, 0, 0, 0, []),
  (46, none, .ireturn, 1, 0, 0, 0, 0, 0, [])]
noncomputable def K_tape_numberOf : List aE := [
  (0, none, .iconst 0, 1, 0, 0, 0, 0, 0, []),
  (1, none, .istore_n 3, 1, 3, 0, 0, 0, 0, []),
  (2, none, .iload_n 1, 1, 1, 0, 0, 0, 0, []),
  (3, none, .istore 4, 2, 4, 0, 0, 0, 0, []),
  (5, some [true, true, true, true, true], .iload 4, 2, 4, 0, 0, 0, 0, []),
  (7, none, .iload_n 2, 1, 2, 0, 0, 0, 0, []),
  (8, none, .if_icmp .ge 32, 3, 40, 0, 0, 0, 0, []),
  (11, none, .iload 4, 2, 4, 0, 0, 0, 0, []),
  (13, none, .iload_n 1, 1, 1, 0, 0, 0, 0, []),
  (14, none, .iconst 4, 1, 0, 0, 0, 0, 0, []),
  (15, none, .iadd, 1, 0, 0, 0, 0, 0, []),
  (16, none, .if_icmp .ge 24, 3, 40, 0, 0, 0, 0, []),
  (19, none, .iload_n 3, 1, 3, 0, 0, 0, 0, []),
  (20, none, .bipush 10, 2, 0, 0, 0, 0, 0, []),
  (22, none, .imul, 1, 0, 0, 0, 0, 0, []),
  (23, none, .aload_n 0, 1, 0, 0, 0, 0, 0, []),
  (24, none, .iload 4, 2, 4, 0, 0, 0, 0, []),
  (26, none, .invokevirtual 31, 3, 55, 2, 2, 0, 0, []),
  (29, none, .iadd, 1, 0, 0, 0, 0, 0, []),
  (30, none, .bipush 48, 2, 0, 0, 0, 0, 0, []),
  (32, none, .isub, 1, 0, 0, 0, 0, 0, []),
  (33, none, .istore_n 3, 1, 3, 0, 0, 0, 0, []),
  (34, none, .iinc 4 1, 3, 4, 0, 0, 0, 0, []),
  (37, none, .goto (-32), 3, 5, 0, 0, 0, 0, []),
  (40, none, .iload_n 3, 1, 3, 0, 0, 0, 0, []),
  (41, none, .ireturn, 1, 0, 0, 0, 0, 0, [])]
noncomputable def K_tape_wordToken : List aE := [
  (0, none, .iconst 0, 1, 0, 0, 0, 0, 0, []),
  (1, none, .istore 4, 2, 4, 0, 0, 0, 0, []),
  (3, none, .iconst 0, 1, 0, 0, 0, 0, 0, []),
  (4, none, .istore 5, 2, 5, 0, 0, 0, 0, []),
  (6, none, .iconst 0, 1, 0, 0, 0, 0, 0, []),
  (7, none, .istore 6, 2, 6, 0, 0, 0, 0, []),
  (9, some [true, true, true, true, true, true, true], .iload 6, 2, 6, 0, 0, 0, 0, []),
  (11, none, .aload_n 1, 1, 1, 0, 0, 0, 0, []),
  (12, none, .invokevirtual 65, 3, 266, 1, 2, 0, 0, []),
  (15, none, .if_icmp .gt 68, 3, 83, 0, 0, 0, 0, []),
  (18, none, .iload 6, 2, 6, 0, 0, 0, 0, []),
  (20, none, .aload_n 1, 1, 1, 0, 0, 0, 0, []),
  (21, none, .invokevirtual 65, 3, 266, 1, 2, 0, 0, []),
  (24, none, .if_icmp .eq 14, 3, 38, 0, 0, 0, 0, []),
  (27, none, .aload_n 1, 1, 1, 0, 0, 0, 0, []),
  (28, none, .iload 6, 2, 6, 0, 0, 0, 0, []),
  (30, none, .invokevirtual 69, 3, 267, 2, 2, 0, 0, []),
  (33, none, .bipush 32, 2, 0, 0, 0, 0, 0, []),
  (35, none, .if_icmp .ne 42, 3, 77, 0, 0, 0, 0, []),
  (38, some [true, true, true, true, true, true, true], .iload 6, 2, 6, 0, 0, 0, 0, []),
  (40, none, .iload 5, 2, 5, 0, 0, 0, 0, []),
  (42, none, .isub, 1, 0, 0, 0, 0, 0, []),
  (43, none, .iload_n 3, 1, 3, 0, 0, 0, 0, []),
  (44, none, .iload_n 2, 1, 2, 0, 0, 0, 0, []),
  (45, none, .isub, 1, 0, 0, 0, 0, 0, []),
  (46, none, .if_icmp .ne 22, 3, 68, 0, 0, 0, 0, []),
  (49, none, .aload_n 0, 1, 0, 0, 0, 0, 0, []),
  (50, none, .aload_n 1, 1, 1, 0, 0, 0, 0, []),
  (51, none, .iload 5, 2, 5, 0, 0, 0, 0, []),
  (53, none, .iload_n 2, 1, 2, 0, 0, 0, 0, []),
  (54, none, .iload_n 3, 1, 3, 0, 0, 0, 0, []),
  (55, none, .invokevirtual 73, 3, 60, 5, 2, 0, 0, []),
  (58, none, .ifCond .eq 10, 3, 68, 0, 0, 0, 0, []),
  (61, none, .sipush 256, 3, 0, 0, 0, 0, 0, []),
  (64, none, .iload 4, 2, 4, 0, 0, 0, 0, []),
  (66, none, .iadd, 1, 0, 0, 0, 0, 0, []),
  (67, none, .ireturn, 1, 0, 0, 0, 0, 0, []),
  (68, none, .iinc 4 1, 3, 4, 0, 0, 0, 0, []),
  (71, none, .iload 6, 2, 6, 0, 0, 0, 0, []),
  (73, none, .iconst 1, 1, 0, 0, 0, 0, 0, []),
  (74, none, .iadd, 1, 0, 0, 0, 0, 0, []),
  (75, none, .istore 5, 2, 5, 0, 0, 0, 0, []),
  (77, none, .iinc 6 1, 3, 6, 0, 0, 0, 0, []),
  (80, none, .goto (-71), 3, 9, 0, 0, 0, 0, []),
  (83, none, .iconst 2, 1, 0, 0, 0, 0, 0, []),
  (84, none, .ireturn, 1, 0, 0, 0, 0, 0, [])]
noncomputable def K_tape_startsAt : List aE := [
  (0, none, .iload_n 3, 1, 3, 0, 0, 0, 0, []),
  (1, none, .istore 5, 2, 5, 0, 0, 0, 0, []),
  (3, some [true, true, true, true, true, true, false], .iload 5, 2, 5, 0, 0, 0, 0, []),
  (5, none, .iload 4, 2, 4, 0, 0, 0, 0, []),
  (7, none, .if_icmp .ge 48, 3, 55, 0, 0, 0, 0, []),
  (10, none, .iload_n 2, 1, 2, 0, 0, 0, 0, []),
  (11, none, .iload 5, 2, 5, 0, 0, 0, 0, []),
  (13, none, .iadd, 1, 0, 0, 0, 0, 0, []),
  (14, none, .iload_n 3, 1, 3, 0, 0, 0, 0, []),
  (15, none, .isub, 1, 0, 0, 0, 0, 0, []),
  (16, none, .istore 6, 2, 6, 0, 0, 0, 0, []),
  (18, none, .iload 6, 2, 6, 0, 0, 0, 0, []),
  (20, none, .ifCond .lt 27, 3, 47, 0, 0, 0, 0, []),
  (23, none, .iload 6, 2, 6, 0, 0, 0, 0, []),
  (25, none, .aload_n 1, 1, 1, 0, 0, 0, 0, []),
  (26, none, .invokevirtual 65, 3, 266, 1, 2, 0, 0, []),
  (29, none, .if_icmp .ge 18, 3, 47, 0, 0, 0, 0, []),
  (32, none, .aload_n 1, 1, 1, 0, 0, 0, 0, []),
  (33, none, .iload 6, 2, 6, 0, 0, 0, 0, []),
  (35, none, .invokevirtual 69, 3, 267, 2, 2, 0, 0, []),
  (38, none, .aload_n 0, 1, 0, 0, 0, 0, 0, []),
  (39, none, .iload 5, 2, 5, 0, 0, 0, 0, []),
  (41, none, .invokevirtual 31, 3, 55, 2, 2, 0, 0, []),
  (44, none, .if_icmp .eq 5, 3, 49, 0, 0, 0, 0, []),
  (47, none, .iconst 0, 1, 0, 0, 0, 0, 0, []),
  (48, none, .ireturn, 1, 1, 0, 0, 0, 0, []),
  (49, none, .iinc 5 1, 3, 5, 0, 0, 0, 0, []),
  (52, none, .goto (-49), 3, 3, 0, 0, 0, 0, []),
  (55, none, .iconst 1, 1, 0, 0, 0, 0, 0, []),
  (56, none, .ireturn, 1, 1, 0, 0, 0, 0, [])]
noncomputable def K_tape_isLetter : List aE := [
  (0, none, .iload_n 0, 1, 0, 0, 0, 0, 0, []),
  (1, none, .bipush 97, 2, 0, 0, 0, 0, 0, []),
  (3, none, .if_icmp .lt 9, 3, 12, 0, 0, 0, 0, []),
  (6, none, .iload_n 0, 1, 0, 0, 0, 0, 0, []),
  (7, none, .bipush 122, 2, 0, 0, 0, 0, 0, []),
  (9, none, .if_icmp .le 15, 3, 24, 0, 0, 0, 0, []),
  (12, none, .iload_n 0, 1, 0, 0, 0, 0, 0, []),
  (13, none, .bipush 65, 2, 0, 0, 0, 0, 0, []),
  (15, none, .if_icmp .lt 13, 3, 28, 0, 0, 0, 0, []),
  (18, none, .iload_n 0, 1, 0, 0, 0, 0, 0, []),
  (19, none, .bipush 90, 2, 0, 0, 0, 0, 0, []),
  (21, none, .if_icmp .gt 7, 3, 28, 0, 0, 0, 0, []),
  (24, none, .iconst 1, 1, 0, 0, 0, 0, 0, []),
  (25, none, .goto 4, 3, 29, 0, 0, 0, 0, []),
  (28, none, .iconst 0, 1, 0, 0, 0, 0, 0, []),
  (29, none, .ireturn, 1, 1, 0, 0, 0, 0, [])]
noncomputable def K_tape_isDigit : List aE := [
  (0, none, .iload_n 0, 1, 0, 0, 0, 0, 0, []),
  (1, none, .bipush 48, 2, 0, 0, 0, 0, 0, []),
  (3, none, .if_icmp .lt 13, 3, 16, 0, 0, 0, 0, []),
  (6, none, .iload_n 0, 1, 0, 0, 0, 0, 0, []),
  (7, none, .bipush 57, 2, 0, 0, 0, 0, 0, []),
  (9, none, .if_icmp .gt 7, 3, 16, 0, 0, 0, 0, []),
  (12, none, .iconst 1, 1, 0, 0, 0, 0, 0, []),
  (13, none, .goto 4, 3, 17, 0, 0, 0, 0, []),
  (16, none, .iconst 0, 1, 0, 0, 0, 0, 0, []),
  (17, none, .ireturn, 1, 1, 0, 0, 0, 0, [])]
noncomputable def K_th_movedDays : List aE := [
  (0, none, .aload_n 0, 1, 0, 0, 0, 0, 0, []),
  (1, none, .aload_n 1, 1, 1, 0, 0, 0, 0, []),
  (2, none, .invokevirtual 31, 3, 65, 2, 3, 0, 0, []),
  (5, none, .lstore_n 2, 1, 2, 0, 0, 0, 0, []),
  (6, none, .lload_n 2, 1, 2, 0, 0, 0, 0, []),
  (7, none, .ldc2_w 35, 3, 0, 0, 0, 0, 4000000000000000000, []),
  (10, none, .lcmp, 1, 0, 0, 0, 0, 0, []),
  (11, none, .ifCond .lt 7, 3, 18, 0, 0, 0, 0, []),
  (14, none, .iconst (-1), 1, 0, 0, 0, 0, 0, []),
  (15, none, .goto 9, 3, 24, 0, 0, 0, 0, []),
  (18, none, .lload_n 2, 1, 2, 0, 0, 0, 0, []),
  (19, none, .ldc2_w 37, 3, 0, 0, 0, 0, 6553600000000, []),
  (22, none, .ldiv, 1, 0, 0, 0, 0, 0, []),
  (23, none, .l2i, 1, 0, 0, 0, 0, 0, []),
  (24, none, .ireturn, 1, 0, 0, 0, 0, 0, [])]
noncomputable def K_th_movedTo : List aE := [
  (0, none, .aload_n 0, 1, 0, 0, 0, 0, 0, []),
  (1, none, .aload_n 1, 1, 1, 0, 0, 0, 0, []),
  (2, none, .invokevirtual 31, 3, 65, 2, 3, 0, 0, []),
  (5, none, .lstore_n 3, 1, 3, 0, 0, 0, 0, []),
  (6, none, .lload_n 3, 1, 3, 0, 0, 0, 0, []),
  (7, none, .ldc2_w 35, 3, 0, 0, 0, 0, 4000000000000000000, []),
  (10, none, .lcmp, 1, 0, 0, 0, 0, 0, []),
  (11, none, .ifCond .lt 5, 3, 16, 0, 0, 0, 0, []),
  (14, none, .iconst (-1), 1, 0, 0, 0, 0, 0, []),
  (15, none, .ireturn, 1, 0, 0, 0, 0, 0, []),
  (16, none, .bipush 7, 2, 0, 0, 0, 0, 0, []),
  (18, none, .istore 5, 2, 5, 0, 0, 0, 0, []),
  (20, some [false, false, true, true, false, true], .iload 5, 2, 5, 0, 0, 0, 0, []),
  (22, none, .iload_n 2, 1, 2, 0, 0, 0, 0, []),
  (23, none, .if_icmp .le 15, 3, 38, 0, 0, 0, 0, []),
  (26, none, .lload_n 3, 1, 3, 0, 0, 0, 0, []),
  (27, none, .ldc2_w 39, 3, 0, 0, 0, 0, 40, []),
  (30, none, .ldiv, 1, 0, 0, 0, 0, 0, []),
  (31, none, .lstore_n 3, 1, 3, 0, 0, 0, 0, []),
  (32, none, .iinc 5 (-1), 3, 5, 0, 0, 0, 0, []),
  (35, none, .goto (-15), 3, 20, 0, 0, 0, 0, []),
  (38, none, .lload_n 3, 1, 3, 0, 0, 0, 0, []),
  (39, none, .ldc2_w 39, 3, 0, 0, 0, 0, 40, []),
  (42, none, .lrem, 1, 0, 0, 0, 0, 0, []),
  (43, none, .l2i, 1, 0, 0, 0, 0, 0, []),
  (44, none, .ireturn, 1, 0, 0, 0, 0, 0, [])]
noncomputable def K_th_firstWay : List aE := [
  (0, none, .iconst 0, 1, 0, 0, 0, 0, 0, []),
  (1, none, .bipush 8, 2, 0, 0, 0, 0, 0, []),
  (3, none, .aload_n 1, 1, 1, 0, 0, 0, 0, []),
  (4, none, .getfield 41, 3, 5, 2, 0, 0, 0, []),
  (7, none, .invokestatic 47, 3, 5, 0, 0, 0, 0, []),
  (10, none, .invokestatic 53, 3, 4, 0, 0, 0, 0, []),
  (13, none, .istore_n 2, 1, 2, 0, 0, 0, 0, []),
  (14, none, .aload_n 0, 1, 0, 0, 0, 0, 0, []),
  (15, none, .getfield 9, 3, 7, 0, 23, 1, 0, []),
  (18, none, .ldc2_w 35, 3, 0, 0, 0, 0, 4000000000000000000, []),
  (21, none, .invokestatic 56, 3, 277, 2, 1, 0, 0, []),
  (24, none, .aload_n 0, 1, 0, 0, 0, 0, 0, []),
  (25, none, .getfield 9, 3, 7, 0, 23, 1, 0, []),
  (28, none, .iconst 0, 1, 0, 0, 0, 0, 0, []),
  (29, none, .lconst 0, 1, 0, 0, 0, 0, 0, []),
  (30, none, .lastore, 1, 0, 0, 0, 0, 0, []),
  (31, none, .iconst 0, 1, 0, 0, 0, 0, 0, []),
  (32, none, .istore_n 3, 1, 3, 0, 0, 0, 0, []),
  (33, some [true, true, true, true], .iload_n 3, 1, 3, 0, 0, 0, 0, []),
  (34, none, .bipush 40, 2, 0, 0, 0, 0, 0, []),
  (36, none, .if_icmp .ge 21, 3, 57, 0, 0, 0, 0, []),
  (39, none, .aload_n 0, 1, 0, 0, 0, 0, 0, []),
  (40, none, .aload_n 1, 1, 1, 0, 0, 0, 0, []),
  (41, none, .iload_n 2, 1, 2, 0, 0, 0, 0, []),
  (42, none, .iload_n 3, 1, 3, 0, 0, 0, 0, []),
  (43, none, .invokevirtual 62, 3, 66, 4, 1, 0, 0, []),
  (46, none, .aload_n 0, 1, 0, 0, 0, 0, 0, []),
  (47, none, .iload_n 2, 1, 2, 0, 0, 0, 0, []),
  (48, none, .invokevirtual 66, 3, 67, 2, 1, 0, 0, []),
  (51, none, .iinc 3 1, 3, 3, 0, 0, 0, 0, []),
  (54, none, .goto (-21), 3, 33, 0, 0, 0, 0, []),
  (57, none, .aload_n 0, 1, 0, 0, 0, 0, 0, []),
  (58, none, .getfield 9, 3, 7, 0, 23, 1, 0, []),
  (61, none, .iconst 1, 1, 0, 0, 0, 0, 0, []),
  (62, none, .iload_n 2, 1, 2, 0, 0, 0, 0, []),
  (63, none, .ishl, 1, 0, 0, 0, 0, 0, []),
  (64, none, .iconst 1, 1, 0, 0, 0, 0, 0, []),
  (65, none, .isub, 1, 0, 0, 0, 0, 0, []),
  (66, none, .laload, 1, 0, 0, 0, 0, 0, []),
  (67, none, .lreturn, 1, 0, 0, 0, 0, 0, [])]
noncomputable def K_th_weighDay : List aE := [
  (0, none, .ldc2_w 37, 3, 0, 0, 0, 0, 6553600000000, []),
  (3, none, .lstore 4, 2, 4, 0, 0, 0, 0, []),
  (5, none, .iconst 0, 1, 0, 0, 0, 0, 0, []),
  (6, none, .istore 6, 2, 6, 0, 0, 0, 0, []),
  (8, some [true, true, true, true, true, false, true, false], .iload 6, 2, 6, 0, 0, 0, 0, []),
  (10, none, .iload_n 2, 1, 2, 0, 0, 0, 0, []),
  (11, none, .if_icmp .ge 69, 3, 80, 0, 0, 0, 0, []),
  (14, none, .iload_n 3, 1, 3, 0, 0, 0, 0, []),
  (15, none, .aload_n 1, 1, 1, 0, 0, 0, 0, []),
  (16, none, .iload 6, 2, 6, 0, 0, 0, 0, []),
  (18, none, .iconst 0, 1, 0, 0, 0, 0, 0, []),
  (19, none, .invokevirtual 70, 3, 49, 3, 2, 0, 0, []),
  (22, none, .isub, 1, 0, 0, 0, 0, 0, []),
  (23, none, .invokestatic 73, 3, 6, 0, 0, 0, 0, []),
  (26, none, .istore 7, 2, 7, 0, 0, 0, 0, []),
  (28, none, .lload 4, 2, 4, 0, 0, 0, 0, []),
  (30, none, .ldc2_w 39, 3, 0, 0, 0, 0, 40, []),
  (33, none, .ldiv, 1, 0, 0, 0, 0, 0, []),
  (34, none, .lstore 4, 2, 4, 0, 0, 0, 0, []),
  (36, none, .aload_n 0, 1, 0, 0, 0, 0, 0, []),
  (37, none, .getfield 15, 3, 7, 1, 23, 2, 0, []),
  (40, none, .iload 6, 2, 6, 0, 0, 0, 0, []),
  (42, none, .iload 7, 2, 7, 0, 0, 0, 0, []),
  (44, none, .aload_n 1, 1, 1, 0, 0, 0, 0, []),
  (45, none, .iload 6, 2, 6, 0, 0, 0, 0, []),
  (47, none, .iconst 1, 1, 0, 0, 0, 0, 0, []),
  (48, none, .invokevirtual 70, 3, 49, 3, 2, 0, 0, []),
  (51, none, .if_icmp .gt 19, 3, 70, 0, 0, 0, 0, []),
  (54, none, .iload 7, 2, 7, 0, 0, 0, 0, []),
  (56, none, .i2l, 1, 0, 0, 0, 0, 0, []),
  (57, none, .ldc2_w 37, 3, 0, 0, 0, 0, 6553600000000, []),
  (60, none, .lmul, 1, 0, 0, 0, 0, 0, []),
  (61, none, .iload_n 3, 1, 3, 0, 0, 0, 0, []),
  (62, none, .i2l, 1, 0, 0, 0, 0, 0, []),
  (63, none, .lload 4, 2, 4, 0, 0, 0, 0, []),
  (65, none, .lmul, 1, 0, 0, 0, 0, 0, []),
  (66, none, .ladd, 1, 0, 0, 0, 0, 0, []),
  (67, none, .goto 6, 3, 73, 0, 0, 0, 0, []),
  (70, none, .ldc2_w 35, 3, 0, 0, 0, 0, 4000000000000000000, []),
  (73, none, .lastore, 1, 0, 0, 0, 0, 0, []),
  (74, none, .iinc 6 1, 3, 6, 0, 0, 0, 0, []),
  (77, none, .goto (-69), 3, 8, 0, 0, 0, 0, []),
  (80, none, .return_, 1, 0, 0, 0, 0, 0, [])]
noncomputable def K_th_offerDay : List aE := [
  (0, none, .iconst 1, 1, 0, 0, 0, 0, 0, []),
  (1, none, .iload_n 1, 1, 1, 0, 0, 0, 0, []),
  (2, none, .ishl, 1, 0, 0, 0, 0, 0, []),
  (3, none, .iconst 1, 1, 0, 0, 0, 0, 0, []),
  (4, none, .isub, 1, 0, 0, 0, 0, 0, []),
  (5, none, .istore_n 2, 1, 2, 0, 0, 0, 0, []),
  (6, some [true, true, true, false, false, false], .iload_n 2, 1, 2, 0, 0, 0, 0, []),
  (7, none, .ifCond .le 95, 3, 102, 0, 0, 0, 0, []),
  (10, none, .iconst 0, 1, 0, 0, 0, 0, 0, []),
  (11, none, .istore_n 3, 1, 3, 0, 0, 0, 0, []),
  (12, some [true, true, true, true, false, false], .iload_n 3, 1, 3, 0, 0, 0, 0, []),
  (13, none, .iload_n 1, 1, 1, 0, 0, 0, 0, []),
  (14, none, .if_icmp .ge 82, 3, 96, 0, 0, 0, 0, []),
  (17, none, .iload_n 2, 1, 2, 0, 0, 0, 0, []),
  (18, none, .iload_n 3, 1, 3, 0, 0, 0, 0, []),
  (19, none, .ishr, 1, 0, 0, 0, 0, 0, []),
  (20, none, .iconst 1, 1, 0, 0, 0, 0, 0, []),
  (21, none, .iand, 1, 0, 0, 0, 0, 0, []),
  (22, none, .iconst 1, 1, 0, 0, 0, 0, 0, []),
  (23, none, .if_icmp .ne 16, 3, 39, 0, 0, 0, 0, []),
  (26, none, .aload_n 0, 1, 0, 0, 0, 0, 0, []),
  (27, none, .getfield 9, 3, 7, 0, 23, 1, 0, []),
  (30, none, .iload_n 2, 1, 2, 0, 0, 0, 0, []),
  (31, none, .iconst 1, 1, 0, 0, 0, 0, 0, []),
  (32, none, .iload_n 3, 1, 3, 0, 0, 0, 0, []),
  (33, none, .ishl, 1, 0, 0, 0, 0, 0, []),
  (34, none, .ixor, 1, 0, 0, 0, 0, 0, []),
  (35, none, .laload, 1, 0, 0, 0, 0, 0, []),
  (36, none, .goto 6, 3, 42, 0, 0, 0, 0, []),
  (39, none, .ldc2_w 35, 3, 0, 0, 0, 0, 4000000000000000000, []),
  (42, none, .lstore 4, 2, 4, 0, 0, 0, 0, []),
  (44, none, .lload 4, 2, 4, 0, 0, 0, 0, []),
  (46, none, .ldc2_w 35, 3, 0, 0, 0, 0, 4000000000000000000, []),
  (49, none, .lcmp, 1, 0, 0, 0, 0, 0, []),
  (50, none, .ifCond .ge 40, 3, 90, 0, 0, 0, 0, []),
  (53, none, .aload_n 0, 1, 0, 0, 0, 0, 0, []),
  (54, none, .getfield 15, 3, 7, 1, 23, 2, 0, []),
  (57, none, .iload_n 3, 1, 3, 0, 0, 0, 0, []),
  (58, none, .laload, 1, 0, 0, 0, 0, 0, []),
  (59, none, .ldc2_w 35, 3, 0, 0, 0, 0, 4000000000000000000, []),
  (62, none, .lcmp, 1, 0, 0, 0, 0, 0, []),
  (63, none, .ifCond .ge 27, 3, 90, 0, 0, 0, 0, []),
  (66, none, .aload_n 0, 1, 0, 0, 0, 0, 0, []),
  (67, none, .getfield 9, 3, 7, 0, 23, 1, 0, []),
  (70, none, .iload_n 2, 1, 2, 0, 0, 0, 0, []),
  (71, none, .aload_n 0, 1, 0, 0, 0, 0, 0, []),
  (72, none, .getfield 9, 3, 7, 0, 23, 1, 0, []),
  (75, none, .iload_n 2, 1, 2, 0, 0, 0, 0, []),
  (76, none, .laload, 1, 0, 0, 0, 0, 0, []),
  (77, none, .lload 4, 2, 4, 0, 0, 0, 0, []),
  (79, none, .aload_n 0, 1, 0, 0, 0, 0, 0, []),
  (80, none, .getfield 15, 3, 7, 1, 23, 2, 0, []),
  (83, none, .iload_n 3, 1, 3, 0, 0, 0, 0, []),
  (84, none, .laload, 1, 0, 0, 0, 0, 0, []),
  (85, none, .ladd, 1, 0, 0, 0, 0, 0, []),
  (86, none, .invokestatic 77, 3, 7, 0, 0, 0, 0, []),
  (89, none, .lastore, 1, 0, 0, 0, 0, 0, []),
  (90, none, .iinc 3 1, 3, 3, 0, 0, 0, 0, []),
  (93, none, .goto (-81), 3, 12, 0, 0, 0, 0, []),
  (96, none, .iinc 2 (-1), 3, 2, 0, 0, 0, 0, []),
  (99, none, .goto (-93), 3, 6, 0, 0, 0, 0, []),
  (102, none, .return_, 1, 0, 0, 0, 0, 0, [])]
noncomputable def K_th_leastWatch : List aE := [
  (0, none, .sipush 1023, 3, 0, 0, 0, 0, 0, []),
  (3, none, .istore_n 2, 1, 2, 0, 0, 0, 0, []),
  (4, none, .iload_n 2, 1, 2, 0, 0, 0, 0, []),
  (5, none, .istore_n 3, 1, 3, 0, 0, 0, 0, []),
  (6, none, .iconst 0, 1, 0, 0, 0, 0, 0, []),
  (7, none, .istore 4, 2, 4, 0, 0, 0, 0, []),
  (9, some [false, true, true, true, true], .iload 4, 2, 4, 0, 0, 0, 0, []),
  (11, none, .iload_n 2, 1, 2, 0, 0, 0, 0, []),
  (12, none, .if_icmp .ge 33, 3, 45, 0, 0, 0, 0, []),
  (15, none, .iload 4, 2, 4, 0, 0, 0, 0, []),
  (17, none, .invokestatic 80, 3, 264, 1, 2, 0, 0, []),
  (20, none, .iload_n 3, 1, 3, 0, 0, 0, 0, []),
  (21, none, .invokestatic 80, 3, 264, 1, 2, 0, 0, []),
  (24, none, .if_icmp .ge 15, 3, 39, 0, 0, 0, 0, []),
  (27, none, .aload_n 1, 1, 1, 0, 0, 0, 0, []),
  (28, none, .iload 4, 2, 4, 0, 0, 0, 0, []),
  (30, none, .invokestatic 85, 3, 69, 2, 2, 0, 0, []),
  (33, none, .ifCond .eq 6, 3, 39, 0, 0, 0, 0, []),
  (36, none, .iload 4, 2, 4, 0, 0, 0, 0, []),
  (38, none, .istore_n 3, 1, 3, 0, 0, 0, 0, []),
  (39, none, .iinc 4 1, 3, 4, 0, 0, 0, 0, []),
  (42, none, .goto (-33), 3, 9, 0, 0, 0, 0, []),
  (45, none, .iload_n 3, 1, 3, 0, 0, 0, 0, []),
  (46, none, .ireturn, 1, 0, 0, 0, 0, 0, [])]
noncomputable def K_th_watchesAll : List aE := [
  (0, none, .iconst 0, 1, 0, 0, 0, 0, 0, []),
  (1, none, .istore_n 2, 1, 2, 0, 0, 0, 0, []),
  (2, some [true, true, true], .iload_n 2, 1, 2, 0, 0, 0, 0, []),
  (3, none, .aload_n 0, 1, 0, 0, 0, 0, 0, []),
  (4, none, .getfield 41, 3, 5, 2, 0, 0, 0, []),
  (7, none, .if_icmp .ge 37, 3, 44, 0, 0, 0, 0, []),
  (10, none, .iload_n 1, 1, 1, 0, 0, 0, 0, []),
  (11, none, .aload_n 0, 1, 0, 0, 0, 0, 0, []),
  (12, none, .iload_n 2, 1, 2, 0, 0, 0, 0, []),
  (13, none, .iconst 0, 1, 0, 0, 0, 0, 0, []),
  (14, none, .invokevirtual 70, 3, 49, 3, 2, 0, 0, []),
  (17, none, .ishr, 1, 0, 0, 0, 0, 0, []),
  (18, none, .iconst 1, 1, 0, 0, 0, 0, 0, []),
  (19, none, .iand, 1, 0, 0, 0, 0, 0, []),
  (20, none, .ifCond .ne 18, 3, 38, 0, 0, 0, 0, []),
  (23, none, .iload_n 1, 1, 1, 0, 0, 0, 0, []),
  (24, none, .aload_n 0, 1, 0, 0, 0, 0, 0, []),
  (25, none, .iload_n 2, 1, 2, 0, 0, 0, 0, []),
  (26, none, .iconst 1, 1, 0, 0, 0, 0, 0, []),
  (27, none, .invokevirtual 70, 3, 49, 3, 2, 0, 0, []),
  (30, none, .ishr, 1, 0, 0, 0, 0, 0, []),
  (31, none, .iconst 1, 1, 0, 0, 0, 0, 0, []),
  (32, none, .iand, 1, 0, 0, 0, 0, 0, []),
  (33, none, .ifCond .ne 5, 3, 38, 0, 0, 0, 0, []),
  (36, none, .iconst 0, 1, 0, 0, 0, 0, 0, []),
  (37, none, .ireturn, 1, 1, 0, 0, 0, 0, []),
  (38, none, .iinc 2 1, 3, 2, 0, 0, 0, 0, []),
  (41, none, .goto (-39), 3, 2, 0, 0, 0, 0, []),
  (44, none, .iconst 1, 1, 0, 0, 0, 0, 0, []),
  (45, none, .ireturn, 1, 1, 0, 0, 0, 0, [])]
noncomputable def K_th_waysToHaveEaten : List aE := [
  (0, none, .aload_n 0, 1, 0, 0, 0, 0, 0, []),
  (1, none, .getfield 18, 3, 7, 2, 22, 3, 0, []),
  (4, none, .iconst 0, 1, 0, 0, 0, 0, 0, []),
  (5, none, .invokestatic 89, 3, 278, 2, 1, 0, 0, []),
  (8, none, .aload_n 0, 1, 0, 0, 0, 0, 0, []),
  (9, none, .getfield 22, 3, 7, 3, 22, 4, 0, []),
  (12, none, .iconst 0, 1, 0, 0, 0, 0, 0, []),
  (13, none, .invokestatic 89, 3, 278, 2, 1, 0, 0, []),
  (16, none, .iconst 0, 1, 0, 0, 0, 0, 0, []),
  (17, none, .istore_n 2, 1, 2, 0, 0, 0, 0, []),
  (18, some [true, true, true, false], .iload_n 2, 1, 2, 0, 0, 0, 0, []),
  (19, none, .aload_n 1, 1, 1, 0, 0, 0, 0, []),
  (20, none, .getfield 41, 3, 5, 2, 0, 0, 0, []),
  (23, none, .if_icmp .ge 43, 3, 66, 0, 0, 0, 0, []),
  (26, none, .aload_n 1, 1, 1, 0, 0, 0, 0, []),
  (27, none, .iload_n 2, 1, 2, 0, 0, 0, 0, []),
  (28, none, .iconst 0, 1, 0, 0, 0, 0, 0, []),
  (29, none, .invokevirtual 70, 3, 49, 3, 2, 0, 0, []),
  (32, none, .istore_n 3, 1, 3, 0, 0, 0, 0, []),
  (33, none, .iload_n 3, 1, 3, 0, 0, 0, 0, []),
  (34, none, .ifCond .lt 26, 3, 60, 0, 0, 0, 0, []),
  (37, none, .iload_n 3, 1, 3, 0, 0, 0, 0, []),
  (38, none, .bipush 7, 2, 0, 0, 0, 0, 0, []),
  (40, none, .if_icmp .ge 20, 3, 60, 0, 0, 0, 0, []),
  (43, none, .aload_n 0, 1, 0, 0, 0, 0, 0, []),
  (44, none, .getfield 18, 3, 7, 2, 22, 3, 0, []),
  (47, none, .iload_n 3, 1, 3, 0, 0, 0, 0, []),
  (48, none, .dup2, 1, 0, 0, 0, 0, 0, []),
  (49, none, .iaload, 1, 0, 0, 0, 0, 0, []),
  (50, none, .iconst 1, 1, 0, 0, 0, 0, 0, []),
  (51, none, .aload_n 1, 1, 1, 0, 0, 0, 0, []),
  (52, none, .iload_n 2, 1, 2, 0, 0, 0, 0, []),
  (53, none, .iconst 1, 1, 0, 0, 0, 0, 0, []),
  (54, none, .invokevirtual 70, 3, 49, 3, 2, 0, 0, []),
  (57, none, .ishl, 1, 0, 0, 0, 0, 0, []),
  (58, none, .ior, 1, 0, 0, 0, 0, 0, []),
  (59, none, .iastore, 1, 0, 0, 0, 0, 0, []),
  (60, none, .iinc 2 1, 3, 2, 0, 0, 0, 0, []),
  (63, none, .goto (-45), 3, 18, 0, 0, 0, 0, []),
  (66, none, .aload_n 0, 1, 0, 0, 0, 0, 0, []),
  (67, none, .iconst 0, 1, 0, 0, 0, 0, 0, []),
  (68, none, .iconst 0, 1, 0, 0, 0, 0, 0, []),
  (69, none, .invokevirtual 92, 3, 71, 3, 2, 0, 0, []),
  (72, none, .ireturn, 1, 0, 0, 0, 0, 0, [])]
noncomputable def K_th_waysFrom : List aE := [
  (0, none, .iload_n 1, 1, 1, 0, 0, 0, 0, []),
  (1, none, .ifCond .lt 9, 3, 10, 0, 0, 0, 0, []),
  (4, none, .iload_n 1, 1, 1, 0, 0, 0, 0, []),
  (5, none, .bipush 7, 2, 0, 0, 0, 0, 0, []),
  (7, none, .if_icmp .lt 5, 3, 12, 0, 0, 0, 0, []),
  (10, none, .iconst 1, 1, 0, 0, 0, 0, 0, []),
  (11, none, .ireturn, 1, 0, 0, 0, 0, 0, []),
  (12, none, .aload_n 0, 1, 0, 0, 0, 0, 0, []),
  (13, none, .getfield 18, 3, 7, 2, 22, 3, 0, []),
  (16, none, .iload_n 1, 1, 1, 0, 0, 0, 0, []),
  (17, none, .iaload, 1, 0, 0, 0, 0, 0, []),
  (18, none, .ifCond .ne 12, 3, 30, 0, 0, 0, 0, []),
  (21, none, .aload_n 0, 1, 0, 0, 0, 0, 0, []),
  (22, none, .iload_n 1, 1, 1, 0, 0, 0, 0, []),
  (23, none, .iconst 1, 1, 0, 0, 0, 0, 0, []),
  (24, none, .iadd, 1, 0, 0, 0, 0, 0, []),
  (25, none, .iload_n 2, 1, 2, 0, 0, 0, 0, []),
  (26, none, .invokevirtual 92, 3, 71, 3, 2, 0, 0, []),
  (29, none, .ireturn, 1, 0, 0, 0, 0, 0, []),
  (30, none, .iconst 0, 1, 0, 0, 0, 0, 0, []),
  (31, none, .istore_n 3, 1, 3, 0, 0, 0, 0, []),
  (32, none, .iconst 0, 1, 0, 0, 0, 0, 0, []),
  (33, none, .istore 4, 2, 4, 0, 0, 0, 0, []),
  (35, some [true, true, true, true, true, false], .iload 4, 2, 4, 0, 0, 0, 0, []),
  (37, none, .bipush 10, 2, 0, 0, 0, 0, 0, []),
  (39, none, .if_icmp .ge 65, 3, 104, 0, 0, 0, 0, []),
  (42, none, .aload_n 0, 1, 0, 0, 0, 0, 0, []),
  (43, none, .getfield 18, 3, 7, 2, 22, 3, 0, []),
  (46, none, .iload_n 1, 1, 1, 0, 0, 0, 0, []),
  (47, none, .iaload, 1, 0, 0, 0, 0, 0, []),
  (48, none, .iload_n 2, 1, 2, 0, 0, 0, 0, []),
  (49, none, .iconst (-1), 1, 0, 0, 0, 0, 0, []),
  (50, none, .ixor, 1, 0, 0, 0, 0, 0, []),
  (51, none, .iand, 1, 0, 0, 0, 0, 0, []),
  (52, none, .iload 4, 2, 4, 0, 0, 0, 0, []),
  (54, none, .ishr, 1, 0, 0, 0, 0, 0, []),
  (55, none, .iconst 1, 1, 0, 0, 0, 0, 0, []),
  (56, none, .iand, 1, 0, 0, 0, 0, 0, []),
  (57, none, .iconst 1, 1, 0, 0, 0, 0, 0, []),
  (58, none, .if_icmp .ne 40, 3, 98, 0, 0, 0, 0, []),
  (61, none, .aload_n 0, 1, 0, 0, 0, 0, 0, []),
  (62, none, .iload_n 1, 1, 1, 0, 0, 0, 0, []),
  (63, none, .iconst 1, 1, 0, 0, 0, 0, 0, []),
  (64, none, .iadd, 1, 0, 0, 0, 0, 0, []),
  (65, none, .iload_n 2, 1, 2, 0, 0, 0, 0, []),
  (66, none, .iconst 1, 1, 0, 0, 0, 0, 0, []),
  (67, none, .iload 4, 2, 4, 0, 0, 0, 0, []),
  (69, none, .ishl, 1, 0, 0, 0, 0, 0, []),
  (70, none, .ior, 1, 0, 0, 0, 0, 0, []),
  (71, none, .invokevirtual 92, 3, 71, 3, 2, 0, 0, []),
  (74, none, .istore 5, 2, 5, 0, 0, 0, 0, []),
  (76, none, .aload_n 0, 1, 0, 0, 0, 0, 0, []),
  (77, none, .getfield 22, 3, 7, 3, 22, 4, 0, []),
  (80, none, .iload_n 1, 1, 1, 0, 0, 0, 0, []),
  (81, none, .bipush 10, 2, 0, 0, 0, 0, 0, []),
  (83, none, .imul, 1, 0, 0, 0, 0, 0, []),
  (84, none, .iload 4, 2, 4, 0, 0, 0, 0, []),
  (86, none, .iadd, 1, 0, 0, 0, 0, 0, []),
  (87, none, .dup2, 1, 0, 0, 0, 0, 0, []),
  (88, none, .iaload, 1, 0, 0, 0, 0, 0, []),
  (89, none, .iload 5, 2, 5, 0, 0, 0, 0, []),
  (91, none, .iadd, 1, 0, 0, 0, 0, 0, []),
  (92, none, .iastore, 1, 0, 0, 0, 0, 0, []),
  (93, none, .iload_n 3, 1, 3, 0, 0, 0, 0, []),
  (94, none, .iload 5, 2, 5, 0, 0, 0, 0, []),
  (96, none, .iadd, 1, 0, 0, 0, 0, 0, []),
  (97, none, .istore_n 3, 1, 3, 0, 0, 0, 0, []),
  (98, none, .iinc 4 1, 3, 4, 0, 0, 0, 0, []),
  (101, none, .goto (-66), 3, 35, 0, 0, 0, 0, []),
  (104, none, .iload_n 3, 1, 3, 0, 0, 0, 0, []),
  (105, none, .ireturn, 1, 0, 0, 0, 0, 0, [])]
noncomputable def K_th_sureCouples : List aE := [
  (0, none, .iconst 0, 1, 0, 0, 0, 0, 0, []),
  (1, none, .istore_n 2, 1, 2, 0, 0, 0, 0, []),
  (2, none, .iconst 0, 1, 0, 0, 0, 0, 0, []),
  (3, none, .istore_n 3, 1, 3, 0, 0, 0, 0, []),
  (4, some [true, true, true, true], .iload_n 3, 1, 3, 0, 0, 0, 0, []),
  (5, none, .aload_n 0, 1, 0, 0, 0, 0, 0, []),
  (6, none, .getfield 22, 3, 7, 3, 22, 4, 0, []),
  (9, none, .arraylength, 1, 0, 0, 0, 0, 0, []),
  (10, none, .if_icmp .ge 26, 3, 36, 0, 0, 0, 0, []),
  (13, none, .iload_n 1, 1, 1, 0, 0, 0, 0, []),
  (14, none, .ifCond .le 22, 3, 36, 0, 0, 0, 0, []),
  (17, none, .aload_n 0, 1, 0, 0, 0, 0, 0, []),
  (18, none, .getfield 22, 3, 7, 3, 22, 4, 0, []),
  (21, none, .iload_n 3, 1, 3, 0, 0, 0, 0, []),
  (22, none, .iaload, 1, 0, 0, 0, 0, 0, []),
  (23, none, .iload_n 1, 1, 1, 0, 0, 0, 0, []),
  (24, none, .if_icmp .ne 6, 3, 30, 0, 0, 0, 0, []),
  (27, none, .iinc 2 1, 3, 2, 0, 0, 0, 0, []),
  (30, none, .iinc 3 1, 3, 3, 0, 0, 0, 0, []),
  (33, none, .goto (-29), 3, 4, 0, 0, 0, 0, []),
  (36, none, .iload_n 2, 1, 2, 0, 0, 0, 0, []),
  (37, none, .ireturn, 1, 0, 0, 0, 0, 0, [])]
noncomputable def K_th_nearestHour : List aE := [
  (0, none, .iconst 0, 1, 0, 0, 0, 0, 0, []),
  (1, none, .istore_n 2, 1, 2, 0, 0, 0, 0, []),
  (2, none, .iconst 1, 1, 0, 0, 0, 0, 0, []),
  (3, none, .istore_n 3, 1, 3, 0, 0, 0, 0, []),
  (4, some [true, true, true, true], .iload_n 3, 1, 3, 0, 0, 0, 0, []),
  (5, none, .bipush 24, 2, 0, 0, 0, 0, 0, []),
  (7, none, .if_icmp .gt 26, 3, 33, 0, 0, 0, 0, []),
  (10, none, .aload_n 0, 1, 0, 0, 0, 0, 0, []),
  (11, none, .aload_n 1, 1, 1, 0, 0, 0, 0, []),
  (12, none, .iload_n 3, 1, 3, 0, 0, 0, 0, []),
  (13, none, .invokevirtual 95, 3, 74, 3, 2, 0, 0, []),
  (16, none, .aload_n 0, 1, 0, 0, 0, 0, 0, []),
  (17, none, .aload_n 1, 1, 1, 0, 0, 0, 0, []),
  (18, none, .iload_n 2, 1, 2, 0, 0, 0, 0, []),
  (19, none, .invokevirtual 95, 3, 74, 3, 2, 0, 0, []),
  (22, none, .if_icmp .ge 5, 3, 27, 0, 0, 0, 0, []),
  (25, none, .iload_n 3, 1, 3, 0, 0, 0, 0, []),
  (26, none, .istore_n 2, 1, 2, 0, 0, 0, 0, []),
  (27, none, .iinc 3 1, 3, 3, 0, 0, 0, 0, []),
  (30, none, .goto (-26), 3, 4, 0, 0, 0, 0, []),
  (33, none, .iload_n 2, 1, 2, 0, 0, 0, 0, []),
  (34, none, .ireturn, 1, 0, 0, 0, 0, 0, [])]
noncomputable def K_th_farness : List aE := [
  (0, none, .iconst 0, 1, 0, 0, 0, 0, 0, []),
  (1, none, .istore_n 3, 1, 3, 0, 0, 0, 0, []),
  (2, none, .iconst 0, 1, 0, 0, 0, 0, 0, []),
  (3, none, .istore 4, 2, 4, 0, 0, 0, 0, []),
  (5, some [false, true, true, true, true], .iload 4, 2, 4, 0, 0, 0, 0, []),
  (7, none, .aload_n 1, 1, 1, 0, 0, 0, 0, []),
  (8, none, .getfield 41, 3, 5, 2, 0, 0, 0, []),
  (11, none, .if_icmp .ge 24, 3, 35, 0, 0, 0, 0, []),
  (14, none, .iload_n 3, 1, 3, 0, 0, 0, 0, []),
  (15, none, .aload_n 1, 1, 1, 0, 0, 0, 0, []),
  (16, none, .iload 4, 2, 4, 0, 0, 0, 0, []),
  (18, none, .iconst 0, 1, 0, 0, 0, 0, 0, []),
  (19, none, .invokevirtual 70, 3, 49, 3, 2, 0, 0, []),
  (22, none, .iload_n 2, 1, 2, 0, 0, 0, 0, []),
  (23, none, .isub, 1, 0, 0, 0, 0, 0, []),
  (24, none, .invokestatic 73, 3, 6, 0, 0, 0, 0, []),
  (27, none, .iadd, 1, 0, 0, 0, 0, 0, []),
  (28, none, .istore_n 3, 1, 3, 0, 0, 0, 0, []),
  (29, none, .iinc 4 1, 3, 4, 0, 0, 0, 0, []),
  (32, none, .goto (-27), 3, 5, 0, 0, 0, 0, []),
  (35, none, .iload_n 3, 1, 3, 0, 0, 0, 0, []),
  (36, none, .ireturn, 1, 0, 0, 0, 0, 0, [])]
noncomputable def K_th_saltedSum : List aE := [
  (0, none, .aload_n 0, 1, 0, 0, 0, 0, 0, []),
  (1, none, .aload_n 1, 1, 1, 0, 0, 0, 0, []),
  (2, none, .iload_n 2, 1, 2, 0, 0, 0, 0, []),
  (3, none, .invokevirtual 99, 3, 78, 3, 1, 0, 0, []),
  (6, none, .iload_n 2, 1, 2, 0, 0, 0, 0, []),
  (7, none, .ifCond .lt 18, 3, 25, 0, 0, 0, 0, []),
  (10, none, .iload_n 2, 1, 2, 0, 0, 0, 0, []),
  (11, none, .bipush 21, 2, 0, 0, 0, 0, 0, []),
  (13, none, .if_icmp .ge 12, 3, 25, 0, 0, 0, 0, []),
  (16, none, .aload_n 0, 1, 0, 0, 0, 0, 0, []),
  (17, none, .getfield 25, 3, 7, 4, 22, 5, 0, []),
  (20, none, .iload_n 2, 1, 2, 0, 0, 0, 0, []),
  (21, none, .iaload, 1, 0, 0, 0, 0, 0, []),
  (22, none, .goto 4, 3, 26, 0, 0, 0, 0, []),
  (25, none, .iconst 0, 1, 0, 0, 0, 0, 0, []),
  (26, none, .ireturn, 1, 0, 0, 0, 0, 0, [])]
noncomputable def K_th_saltGiven : List aE := [
  (0, none, .aload_n 0, 1, 0, 0, 0, 0, 0, []),
  (1, none, .aload_n 1, 1, 1, 0, 0, 0, 0, []),
  (2, none, .iload_n 2, 1, 2, 0, 0, 0, 0, []),
  (3, none, .invokevirtual 99, 3, 78, 3, 1, 0, 0, []),
  (6, none, .iload_n 2, 1, 2, 0, 0, 0, 0, []),
  (7, none, .istore 4, 2, 4, 0, 0, 0, 0, []),
  (9, none, .iconst 0, 1, 0, 0, 0, 0, 0, []),
  (10, none, .istore 5, 2, 5, 0, 0, 0, 0, []),
  (12, none, .iconst 0, 1, 0, 0, 0, 0, 0, []),
  (13, none, .istore 6, 2, 6, 0, 0, 0, 0, []),
  (15, some [true, true, false, true, true, true, true], .iload 6, 2, 6, 0, 0, 0, 0, []),
  (17, none, .iload_n 3, 1, 3, 0, 0, 0, 0, []),
  (18, none, .if_icmp .gt 49, 3, 67, 0, 0, 0, 0, []),
  (21, none, .iload 6, 2, 6, 0, 0, 0, 0, []),
  (23, none, .bipush 10, 2, 0, 0, 0, 0, 0, []),
  (25, none, .if_icmp .ge 42, 3, 67, 0, 0, 0, 0, []),
  (28, none, .aload_n 1, 1, 1, 0, 0, 0, 0, []),
  (29, none, .getfield 103, 3, 9, 0, 10, 1, 0, []),
  (32, none, .iload 6, 2, 6, 0, 0, 0, 0, []),
  (34, none, .invokevirtual 109, 3, 84, 2, 2, 0, 0, []),
  (37, none, .ifCond .eq 14, 3, 51, 0, 0, 0, 0, []),
  (40, none, .aload_n 0, 1, 0, 0, 0, 0, 0, []),
  (41, none, .iload 6, 2, 6, 0, 0, 0, 0, []),
  (43, none, .iload 4, 2, 4, 0, 0, 0, 0, []),
  (45, none, .invokevirtual 115, 3, 77, 3, 2, 0, 0, []),
  (48, none, .goto 4, 3, 52, 0, 0, 0, 0, []),
  (51, none, .iconst 0, 1, 0, 0, 0, 0, 0, []),
  (52, none, .istore 5, 2, 5, 0, 0, 0, 0, []),
  (54, none, .iload 4, 2, 4, 0, 0, 0, 0, []),
  (56, none, .iload 5, 2, 5, 0, 0, 0, 0, []),
  (58, none, .isub, 1, 0, 0, 0, 0, 0, []),
  (59, none, .istore 4, 2, 4, 0, 0, 0, 0, []),
  (61, none, .iinc 6 1, 3, 6, 0, 0, 0, 0, []),
  (64, none, .goto (-49), 3, 15, 0, 0, 0, 0, []),
  (67, none, .iload 5, 2, 5, 0, 0, 0, 0, []),
  (69, none, .ireturn, 1, 0, 0, 0, 0, 0, [])]
noncomputable def K_th_fewest : List aE := [
  (0, none, .iconst 0, 1, 0, 0, 0, 0, 0, []),
  (1, none, .istore_n 3, 1, 3, 0, 0, 0, 0, []),
  (2, some [true, true, true, true, false], .iload_n 3, 1, 3, 0, 0, 0, 0, []),
  (3, none, .iload_n 2, 1, 2, 0, 0, 0, 0, []),
  (4, none, .if_icmp .gt 62, 3, 66, 0, 0, 0, 0, []),
  (7, none, .iload_n 2, 1, 2, 0, 0, 0, 0, []),
  (8, none, .bipush 21, 2, 0, 0, 0, 0, 0, []),
  (10, none, .if_icmp .ge 56, 3, 66, 0, 0, 0, 0, []),
  (13, none, .aload_n 0, 1, 0, 0, 0, 0, 0, []),
  (14, none, .getfield 25, 3, 7, 4, 22, 5, 0, []),
  (17, none, .iload_n 1, 1, 1, 0, 0, 0, 0, []),
  (18, none, .iconst 1, 1, 0, 0, 0, 0, 0, []),
  (19, none, .iadd, 1, 0, 0, 0, 0, 0, []),
  (20, none, .bipush 21, 2, 0, 0, 0, 0, 0, []),
  (22, none, .imul, 1, 0, 0, 0, 0, 0, []),
  (23, none, .iload_n 2, 1, 2, 0, 0, 0, 0, []),
  (24, none, .iadd, 1, 0, 0, 0, 0, 0, []),
  (25, none, .iload_n 3, 1, 3, 0, 0, 0, 0, []),
  (26, none, .isub, 1, 0, 0, 0, 0, 0, []),
  (27, none, .iaload, 1, 0, 0, 0, 0, 0, []),
  (28, none, .istore 4, 2, 4, 0, 0, 0, 0, []),
  (30, none, .aload_n 0, 1, 0, 0, 0, 0, 0, []),
  (31, none, .getfield 28, 3, 7, 5, 22, 6, 0, []),
  (34, none, .iload_n 1, 1, 1, 0, 0, 0, 0, []),
  (35, none, .bipush 21, 2, 0, 0, 0, 0, 0, []),
  (37, none, .imul, 1, 0, 0, 0, 0, 0, []),
  (38, none, .iload_n 3, 1, 3, 0, 0, 0, 0, []),
  (39, none, .iadd, 1, 0, 0, 0, 0, 0, []),
  (40, none, .iaload, 1, 0, 0, 0, 0, 0, []),
  (41, none, .iload 4, 2, 4, 0, 0, 0, 0, []),
  (43, none, .iadd, 1, 0, 0, 0, 0, 0, []),
  (44, none, .aload_n 0, 1, 0, 0, 0, 0, 0, []),
  (45, none, .getfield 25, 3, 7, 4, 22, 5, 0, []),
  (48, none, .iload_n 1, 1, 1, 0, 0, 0, 0, []),
  (49, none, .bipush 21, 2, 0, 0, 0, 0, 0, []),
  (51, none, .imul, 1, 0, 0, 0, 0, 0, []),
  (52, none, .iload_n 2, 1, 2, 0, 0, 0, 0, []),
  (53, none, .iadd, 1, 0, 0, 0, 0, 0, []),
  (54, none, .iaload, 1, 0, 0, 0, 0, 0, []),
  (55, none, .if_icmp .ne 5, 3, 60, 0, 0, 0, 0, []),
  (58, none, .iload_n 3, 1, 3, 0, 0, 0, 0, []),
  (59, none, .ireturn, 1, 0, 0, 0, 0, 0, []),
  (60, none, .iinc 3 1, 3, 3, 0, 0, 0, 0, []),
  (63, none, .goto (-61), 3, 2, 0, 0, 0, 0, []),
  (66, none, .iconst 0, 1, 0, 0, 0, 0, 0, []),
  (67, none, .ireturn, 1, 0, 0, 0, 0, 0, [])]
noncomputable def K_th_giveSalts : List aE := [
  (0, none, .aload_n 0, 1, 0, 0, 0, 0, 0, []),
  (1, none, .getfield 25, 3, 7, 4, 22, 5, 0, []),
  (4, none, .ldc 118, 2, 0, 0, 0, 0, (-1000000), []),
  (6, none, .invokestatic 89, 3, 278, 2, 1, 0, 0, []),
  (9, none, .aload_n 0, 1, 0, 0, 0, 0, 0, []),
  (10, none, .getfield 25, 3, 7, 4, 22, 5, 0, []),
  (13, none, .sipush 210, 3, 0, 0, 0, 0, 0, []),
  (16, none, .iconst 0, 1, 0, 0, 0, 0, 0, []),
  (17, none, .iastore, 1, 0, 0, 0, 0, 0, []),
  (18, none, .bipush 9, 2, 0, 0, 0, 0, 0, []),
  (20, none, .istore_n 3, 1, 3, 0, 0, 0, 0, []),
  (21, some [true, true, true, true], .iload_n 3, 1, 3, 0, 0, 0, 0, []),
  (22, none, .ifCond .lt 59, 3, 81, 0, 0, 0, 0, []),
  (25, none, .aload_n 1, 1, 1, 0, 0, 0, 0, []),
  (26, none, .getfield 103, 3, 9, 0, 10, 1, 0, []),
  (29, none, .iload_n 3, 1, 3, 0, 0, 0, 0, []),
  (30, none, .invokevirtual 109, 3, 84, 2, 2, 0, 0, []),
  (33, none, .ifCond .eq 19, 3, 52, 0, 0, 0, 0, []),
  (36, none, .aload_n 0, 1, 0, 0, 0, 0, 0, []),
  (37, none, .aload_n 1, 1, 1, 0, 0, 0, 0, []),
  (38, none, .iload_n 3, 1, 3, 0, 0, 0, 0, []),
  (39, none, .iload_n 2, 1, 2, 0, 0, 0, 0, []),
  (40, none, .invokevirtual 119, 3, 79, 4, 1, 0, 0, []),
  (43, none, .aload_n 0, 1, 0, 0, 0, 0, 0, []),
  (44, none, .iload_n 3, 1, 3, 0, 0, 0, 0, []),
  (45, none, .iload_n 2, 1, 2, 0, 0, 0, 0, []),
  (46, none, .invokevirtual 123, 3, 80, 3, 1, 0, 0, []),
  (49, none, .goto 26, 3, 75, 0, 0, 0, 0, []),
  (52, none, .aload_n 0, 1, 0, 0, 0, 0, 0, []),
  (53, none, .getfield 25, 3, 7, 4, 22, 5, 0, []),
  (56, none, .iload_n 3, 1, 3, 0, 0, 0, 0, []),
  (57, none, .iconst 1, 1, 0, 0, 0, 0, 0, []),
  (58, none, .iadd, 1, 0, 0, 0, 0, 0, []),
  (59, none, .bipush 21, 2, 0, 0, 0, 0, 0, []),
  (61, none, .imul, 1, 0, 0, 0, 0, 0, []),
  (62, none, .aload_n 0, 1, 0, 0, 0, 0, 0, []),
  (63, none, .getfield 25, 3, 7, 4, 22, 5, 0, []),
  (66, none, .iload_n 3, 1, 3, 0, 0, 0, 0, []),
  (67, none, .bipush 21, 2, 0, 0, 0, 0, 0, []),
  (69, none, .imul, 1, 0, 0, 0, 0, 0, []),
  (70, none, .bipush 21, 2, 0, 0, 0, 0, 0, []),
  (72, none, .invokestatic 127, 3, 0, 0, 0, 0, 0, []),
  (75, none, .iinc 3 (-1), 3, 3, 0, 0, 0, 0, []),
  (78, none, .goto (-57), 3, 21, 0, 0, 0, 0, []),
  (81, none, .return_, 1, 0, 0, 0, 0, 0, [])]
noncomputable def K_th_askGains : List aE := [
  (0, none, .iconst 0, 1, 0, 0, 0, 0, 0, []),
  (1, none, .istore 4, 2, 4, 0, 0, 0, 0, []),
  (3, some [true, true, true, true, true, false], .iload 4, 2, 4, 0, 0, 0, 0, []),
  (5, none, .iload_n 3, 1, 3, 0, 0, 0, 0, []),
  (6, none, .if_icmp .gt 52, 3, 58, 0, 0, 0, 0, []),
  (9, none, .iload 4, 2, 4, 0, 0, 0, 0, []),
  (11, none, .bipush 21, 2, 0, 0, 0, 0, 0, []),
  (13, none, .if_icmp .ge 45, 3, 58, 0, 0, 0, 0, []),
  (16, none, .bipush 99, 2, 0, 0, 0, 0, 0, []),
  (18, none, .aload_n 1, 1, 1, 0, 0, 0, 0, []),
  (19, none, .getfield 103, 3, 9, 0, 10, 1, 0, []),
  (22, none, .getfield 133, 3, 8, 6, 0, 0, 0, []),
  (25, none, .iload 4, 2, 4, 0, 0, 0, 0, []),
  (27, none, .iadd, 1, 0, 0, 0, 0, 0, []),
  (28, none, .invokestatic 47, 3, 5, 0, 0, 0, 0, []),
  (31, none, .istore 5, 2, 5, 0, 0, 0, 0, []),
  (33, none, .aload_n 0, 1, 0, 0, 0, 0, 0, []),
  (34, none, .getfield 28, 3, 7, 5, 22, 6, 0, []),
  (37, none, .iload_n 2, 1, 2, 0, 0, 0, 0, []),
  (38, none, .bipush 21, 2, 0, 0, 0, 0, 0, []),
  (40, none, .imul, 1, 0, 0, 0, 0, 0, []),
  (41, none, .iload 4, 2, 4, 0, 0, 0, 0, []),
  (43, none, .iadd, 1, 0, 0, 0, 0, 0, []),
  (44, none, .aload_n 1, 1, 1, 0, 0, 0, 0, []),
  (45, none, .iload_n 2, 1, 2, 0, 0, 0, 0, []),
  (46, none, .iload 5, 2, 5, 0, 0, 0, 0, []),
  (48, none, .invokevirtual 136, 3, 95, 3, 2, 0, 0, []),
  (51, none, .iastore, 1, 0, 0, 0, 0, 0, []),
  (52, none, .iinc 4 1, 3, 4, 0, 0, 0, 0, []),
  (55, none, .goto (-52), 3, 3, 0, 0, 0, 0, []),
  (58, none, .return_, 1, 0, 0, 0, 0, 0, [])]
noncomputable def K_th_addGains : List aE := [
  (0, none, .iconst 0, 1, 0, 0, 0, 0, 0, []),
  (1, none, .istore_n 3, 1, 3, 0, 0, 0, 0, []),
  (2, some [true, true, true, true, false, false], .iload_n 3, 1, 3, 0, 0, 0, 0, []),
  (3, none, .iload_n 2, 1, 2, 0, 0, 0, 0, []),
  (4, none, .if_icmp .gt 88, 3, 92, 0, 0, 0, 0, []),
  (7, none, .iload_n 3, 1, 3, 0, 0, 0, 0, []),
  (8, none, .bipush 21, 2, 0, 0, 0, 0, 0, []),
  (10, none, .if_icmp .ge 82, 3, 92, 0, 0, 0, 0, []),
  (13, none, .iconst 0, 1, 0, 0, 0, 0, 0, []),
  (14, none, .istore 4, 2, 4, 0, 0, 0, 0, []),
  (16, some [true, true, true, true, true, false], .iload 4, 2, 4, 0, 0, 0, 0, []),
  (18, none, .iload_n 3, 1, 3, 0, 0, 0, 0, []),
  (19, none, .if_icmp .gt 67, 3, 86, 0, 0, 0, 0, []),
  (22, none, .aload_n 0, 1, 0, 0, 0, 0, 0, []),
  (23, none, .getfield 28, 3, 7, 5, 22, 6, 0, []),
  (26, none, .iload_n 1, 1, 1, 0, 0, 0, 0, []),
  (27, none, .bipush 21, 2, 0, 0, 0, 0, 0, []),
  (29, none, .imul, 1, 0, 0, 0, 0, 0, []),
  (30, none, .iload 4, 2, 4, 0, 0, 0, 0, []),
  (32, none, .iadd, 1, 0, 0, 0, 0, 0, []),
  (33, none, .iaload, 1, 0, 0, 0, 0, 0, []),
  (34, none, .aload_n 0, 1, 0, 0, 0, 0, 0, []),
  (35, none, .getfield 25, 3, 7, 4, 22, 5, 0, []),
  (38, none, .iload_n 1, 1, 1, 0, 0, 0, 0, []),
  (39, none, .iconst 1, 1, 0, 0, 0, 0, 0, []),
  (40, none, .iadd, 1, 0, 0, 0, 0, 0, []),
  (41, none, .bipush 21, 2, 0, 0, 0, 0, 0, []),
  (43, none, .imul, 1, 0, 0, 0, 0, 0, []),
  (44, none, .iload_n 3, 1, 3, 0, 0, 0, 0, []),
  (45, none, .iadd, 1, 0, 0, 0, 0, 0, []),
  (46, none, .iload 4, 2, 4, 0, 0, 0, 0, []),
  (48, none, .isub, 1, 0, 0, 0, 0, 0, []),
  (49, none, .iaload, 1, 0, 0, 0, 0, 0, []),
  (50, none, .iadd, 1, 0, 0, 0, 0, 0, []),
  (51, none, .istore 5, 2, 5, 0, 0, 0, 0, []),
  (53, none, .aload_n 0, 1, 0, 0, 0, 0, 0, []),
  (54, none, .getfield 25, 3, 7, 4, 22, 5, 0, []),
  (57, none, .iload_n 1, 1, 1, 0, 0, 0, 0, []),
  (58, none, .bipush 21, 2, 0, 0, 0, 0, 0, []),
  (60, none, .imul, 1, 0, 0, 0, 0, 0, []),
  (61, none, .iload_n 3, 1, 3, 0, 0, 0, 0, []),
  (62, none, .iadd, 1, 0, 0, 0, 0, 0, []),
  (63, none, .aload_n 0, 1, 0, 0, 0, 0, 0, []),
  (64, none, .getfield 25, 3, 7, 4, 22, 5, 0, []),
  (67, none, .iload_n 1, 1, 1, 0, 0, 0, 0, []),
  (68, none, .bipush 21, 2, 0, 0, 0, 0, 0, []),
  (70, none, .imul, 1, 0, 0, 0, 0, 0, []),
  (71, none, .iload_n 3, 1, 3, 0, 0, 0, 0, []),
  (72, none, .iadd, 1, 0, 0, 0, 0, 0, []),
  (73, none, .iaload, 1, 0, 0, 0, 0, 0, []),
  (74, none, .iload 5, 2, 5, 0, 0, 0, 0, []),
  (76, none, .invokestatic 53, 3, 4, 0, 0, 0, 0, []),
  (79, none, .iastore, 1, 0, 0, 0, 0, 0, []),
  (80, none, .iinc 4 1, 3, 4, 0, 0, 0, 0, []),
  (83, none, .goto (-67), 3, 16, 0, 0, 0, 0, []),
  (86, none, .iinc 3 1, 3, 3, 0, 0, 0, 0, []),
  (89, none, .goto (-87), 3, 2, 0, 0, 0, 0, []),
  (92, none, .return_, 1, 0, 0, 0, 0, 0, [])]
noncomputable def K_th_antlersOf : List aE := [
  (0, none, .iconst 0, 1, 0, 0, 0, 0, 0, []),
  (1, none, .istore_n 2, 1, 2, 0, 0, 0, 0, []),
  (2, some [true, true, true], .iload_n 2, 1, 2, 0, 0, 0, 0, []),
  (3, none, .bipush 10, 2, 0, 0, 0, 0, 0, []),
  (5, none, .if_icmp .ge 29, 3, 34, 0, 0, 0, 0, []),
  (8, none, .aload_n 1, 1, 1, 0, 0, 0, 0, []),
  (9, none, .iload_n 2, 1, 2, 0, 0, 0, 0, []),
  (10, none, .invokevirtual 109, 3, 84, 2, 2, 0, 0, []),
  (13, none, .ifCond .eq 15, 3, 28, 0, 0, 0, 0, []),
  (16, none, .aload_n 0, 1, 0, 0, 0, 0, 0, []),
  (17, none, .aload_n 1, 1, 1, 0, 0, 0, 0, []),
  (18, none, .iload_n 2, 1, 2, 0, 0, 0, 0, []),
  (19, none, .invokevirtual 139, 3, 82, 3, 2, 0, 0, []),
  (22, none, .iconst (-1), 1, 0, 0, 0, 0, 0, []),
  (23, none, .if_icmp .eq 5, 3, 28, 0, 0, 0, 0, []),
  (26, none, .iload_n 2, 1, 2, 0, 0, 0, 0, []),
  (27, none, .ireturn, 1, 0, 0, 0, 0, 0, []),
  (28, none, .iinc 2 1, 3, 2, 0, 0, 0, 0, []),
  (31, none, .goto (-29), 3, 2, 0, 0, 0, 0, []),
  (34, none, .iconst (-1), 1, 0, 0, 0, 0, 0, []),
  (35, none, .ireturn, 1, 0, 0, 0, 0, 0, [])]
noncomputable def K_th_antlersTaken : List aE := [
  (0, none, .iconst 0, 1, 0, 0, 0, 0, 0, []),
  (1, none, .istore_n 3, 1, 3, 0, 0, 0, 0, []),
  (2, none, .iconst 0, 1, 0, 0, 0, 0, 0, []),
  (3, none, .istore 4, 2, 4, 0, 0, 0, 0, []),
  (5, some [false, true, true, true, true], .iload 4, 2, 4, 0, 0, 0, 0, []),
  (7, none, .bipush 10, 2, 0, 0, 0, 0, 0, []),
  (9, none, .if_icmp .ge 36, 3, 45, 0, 0, 0, 0, []),
  (12, none, .aload_n 1, 1, 1, 0, 0, 0, 0, []),
  (13, none, .iload 4, 2, 4, 0, 0, 0, 0, []),
  (15, none, .invokevirtual 109, 3, 84, 2, 2, 0, 0, []),
  (18, none, .ifCond .eq 21, 3, 39, 0, 0, 0, 0, []),
  (21, none, .iload 4, 2, 4, 0, 0, 0, 0, []),
  (23, none, .iload_n 2, 1, 2, 0, 0, 0, 0, []),
  (24, none, .if_icmp .eq 15, 3, 39, 0, 0, 0, 0, []),
  (27, none, .iload_n 3, 1, 3, 0, 0, 0, 0, []),
  (28, none, .aload_n 1, 1, 1, 0, 0, 0, 0, []),
  (29, none, .getfield 143, 3, 8, 3, 22, 4, 0, []),
  (32, none, .iload 4, 2, 4, 0, 0, 0, 0, []),
  (34, none, .iaload, 1, 0, 0, 0, 0, 0, []),
  (35, none, .iconst 3, 1, 0, 0, 0, 0, 0, []),
  (36, none, .iand, 1, 0, 0, 0, 0, 0, []),
  (37, none, .ixor, 1, 0, 0, 0, 0, 0, []),
  (38, none, .istore_n 3, 1, 3, 0, 0, 0, 0, []),
  (39, none, .iinc 4 1, 3, 4, 0, 0, 0, 0, []),
  (42, none, .goto (-37), 3, 5, 0, 0, 0, 0, []),
  (45, none, .aload_n 1, 1, 1, 0, 0, 0, 0, []),
  (46, none, .iload_n 2, 1, 2, 0, 0, 0, 0, []),
  (47, none, .invokevirtual 146, 3, 83, 2, 2, 0, 0, []),
  (50, none, .ifCond .eq 16, 3, 66, 0, 0, 0, 0, []),
  (53, none, .aload_n 1, 1, 1, 0, 0, 0, 0, []),
  (54, none, .getfield 143, 3, 8, 3, 22, 4, 0, []),
  (57, none, .iload_n 2, 1, 2, 0, 0, 0, 0, []),
  (58, none, .iaload, 1, 0, 0, 0, 0, 0, []),
  (59, none, .iload_n 3, 1, 3, 0, 0, 0, 0, []),
  (60, none, .isub, 1, 0, 0, 0, 0, 0, []),
  (61, none, .iconst 3, 1, 0, 0, 0, 0, 0, []),
  (62, none, .iand, 1, 0, 0, 0, 0, 0, []),
  (63, none, .goto 4, 3, 67, 0, 0, 0, 0, []),
  (66, none, .iconst 0, 1, 0, 0, 0, 0, 0, []),
  (67, none, .istore 4, 2, 4, 0, 0, 0, 0, []),
  (69, none, .iload 4, 2, 4, 0, 0, 0, 0, []),
  (71, none, .iconst 1, 1, 0, 0, 0, 0, 0, []),
  (72, none, .if_icmp .lt 19, 3, 91, 0, 0, 0, 0, []),
  (75, none, .iload 4, 2, 4, 0, 0, 0, 0, []),
  (77, none, .aload_n 1, 1, 1, 0, 0, 0, 0, []),
  (78, none, .getfield 143, 3, 8, 3, 22, 4, 0, []),
  (81, none, .iload_n 2, 1, 2, 0, 0, 0, 0, []),
  (82, none, .iaload, 1, 0, 0, 0, 0, 0, []),
  (83, none, .if_icmp .gt 8, 3, 91, 0, 0, 0, 0, []),
  (86, none, .iload 4, 2, 4, 0, 0, 0, 0, []),
  (88, none, .goto 4, 3, 92, 0, 0, 0, 0, []),
  (91, none, .iconst (-1), 1, 0, 0, 0, 0, 0, []),
  (92, none, .ireturn, 1, 0, 0, 0, 0, 0, [])]
noncomputable def K_wood_has : List aE := [
  (0, none, .iload_n 1, 1, 1, 0, 0, 0, 0, []),
  (1, none, .ifCond .lt 21, 3, 22, 0, 0, 0, 0, []),
  (4, none, .iload_n 1, 1, 1, 0, 0, 0, 0, []),
  (5, none, .aload_n 0, 1, 0, 0, 0, 0, 0, []),
  (6, none, .getfield 28, 3, 8, 4, 0, 0, 0, []),
  (9, none, .if_icmp .ge 13, 3, 22, 0, 0, 0, 0, []),
  (12, none, .iload_n 1, 1, 1, 0, 0, 0, 0, []),
  (13, none, .bipush 10, 2, 0, 0, 0, 0, 0, []),
  (15, none, .if_icmp .ge 7, 3, 22, 0, 0, 0, 0, []),
  (18, none, .iconst 1, 1, 0, 0, 0, 0, 0, []),
  (19, none, .goto 4, 3, 23, 0, 0, 0, 0, []),
  (22, none, .iconst 0, 1, 0, 0, 0, 0, 0, []),
  (23, none, .ireturn, 1, 1, 0, 0, 0, 0, [])]
noncomputable def K_wood_isAlive : List aE := [
  (0, none, .aload_n 0, 1, 0, 0, 0, 0, 0, []),
  (1, none, .iload_n 1, 1, 1, 0, 0, 0, 0, []),
  (2, none, .invokevirtual 31, 3, 83, 2, 2, 0, 0, []),
  (5, none, .ifCond .eq 19, 3, 24, 0, 0, 0, 0, []),
  (8, none, .aload_n 0, 1, 0, 0, 0, 0, 0, []),
  (9, none, .getfield 35, 3, 8, 5, 0, 0, 0, []),
  (12, none, .iload_n 1, 1, 1, 0, 0, 0, 0, []),
  (13, none, .ishr, 1, 0, 0, 0, 0, 0, []),
  (14, none, .iconst 1, 1, 0, 0, 0, 0, 0, []),
  (15, none, .iand, 1, 0, 0, 0, 0, 0, []),
  (16, none, .iconst 1, 1, 0, 0, 0, 0, 0, []),
  (17, none, .if_icmp .ne 7, 3, 24, 0, 0, 0, 0, []),
  (20, none, .iconst 1, 1, 0, 0, 0, 0, 0, []),
  (21, none, .goto 4, 3, 25, 0, 0, 0, 0, []),
  (24, none, .iconst 0, 1, 0, 0, 0, 0, 0, []),
  (25, none, .ireturn, 1, 1, 0, 0, 0, 0, [])]
noncomputable def K_wood_isPaid : List aE := [
  (0, none, .iload_n 1, 1, 1, 0, 0, 0, 0, []),
  (1, none, .ifCond .lt 25, 3, 26, 0, 0, 0, 0, []),
  (4, none, .iload_n 1, 1, 1, 0, 0, 0, 0, []),
  (5, none, .bipush 16, 2, 0, 0, 0, 0, 0, []),
  (7, none, .if_icmp .ge 19, 3, 26, 0, 0, 0, 0, []),
  (10, none, .aload_n 0, 1, 0, 0, 0, 0, 0, []),
  (11, none, .getfield 38, 3, 8, 16, 0, 0, 0, []),
  (14, none, .iload_n 1, 1, 1, 0, 0, 0, 0, []),
  (15, none, .ishr, 1, 0, 0, 0, 0, 0, []),
  (16, none, .iconst 1, 1, 0, 0, 0, 0, 0, []),
  (17, none, .iand, 1, 0, 0, 0, 0, 0, []),
  (18, none, .iconst 1, 1, 0, 0, 0, 0, 0, []),
  (19, none, .if_icmp .ne 7, 3, 26, 0, 0, 0, 0, []),
  (22, none, .iconst 1, 1, 0, 0, 0, 0, 0, []),
  (23, none, .goto 4, 3, 27, 0, 0, 0, 0, []),
  (26, none, .iconst 0, 1, 0, 0, 0, 0, 0, []),
  (27, none, .ireturn, 1, 1, 0, 0, 0, 0, [])]
noncomputable def K_wood_enter : List aE := [
  (0, none, .aload_n 0, 1, 0, 0, 0, 0, 0, []),
  (1, none, .getfield 28, 3, 8, 4, 0, 0, 0, []),
  (4, none, .istore_n 3, 1, 3, 0, 0, 0, 0, []),
  (5, none, .iload_n 3, 1, 3, 0, 0, 0, 0, []),
  (6, none, .ifCond .lt 9, 3, 15, 0, 0, 0, 0, []),
  (9, none, .iload_n 3, 1, 3, 0, 0, 0, 0, []),
  (10, none, .bipush 10, 2, 0, 0, 0, 0, 0, []),
  (12, none, .if_icmp .lt 5, 3, 17, 0, 0, 0, 0, []),
  (15, none, .iconst (-1), 1, 0, 0, 0, 0, 0, []),
  (16, none, .ireturn, 1, 0, 0, 0, 0, 0, []),
  (17, none, .aload_n 0, 1, 0, 0, 0, 0, 0, []),
  (18, none, .getfield 9, 3, 8, 0, 22, 1, 0, []),
  (21, none, .iload_n 3, 1, 3, 0, 0, 0, 0, []),
  (22, none, .iload_n 1, 1, 1, 0, 0, 0, 0, []),
  (23, none, .iastore, 1, 0, 0, 0, 0, 0, []),
  (24, none, .aload_n 0, 1, 0, 0, 0, 0, 0, []),
  (25, none, .getfield 15, 3, 8, 1, 22, 2, 0, []),
  (28, none, .iload_n 3, 1, 3, 0, 0, 0, 0, []),
  (29, none, .iload_n 2, 1, 2, 0, 0, 0, 0, []),
  (30, none, .iastore, 1, 0, 0, 0, 0, 0, []),
  (31, none, .aload_n 0, 1, 0, 0, 0, 0, 0, []),
  (32, none, .getfield 18, 3, 8, 2, 22, 3, 0, []),
  (35, none, .iload_n 3, 1, 3, 0, 0, 0, 0, []),
  (36, none, .iconst 0, 1, 0, 0, 0, 0, 0, []),
  (37, none, .iastore, 1, 0, 0, 0, 0, 0, []),
  (38, none, .aload_n 0, 1, 0, 0, 0, 0, 0, []),
  (39, none, .getfield 21, 3, 8, 3, 22, 4, 0, []),
  (42, none, .iload_n 3, 1, 3, 0, 0, 0, 0, []),
  (43, none, .iconst 0, 1, 0, 0, 0, 0, 0, []),
  (44, none, .iastore, 1, 0, 0, 0, 0, 0, []),
  (45, none, .aload_n 0, 1, 0, 0, 0, 0, 0, []),
  (46, none, .dup, 1, 0, 0, 0, 0, 0, []),
  (47, none, .getfield 35, 3, 8, 5, 0, 0, 0, []),
  (50, none, .iconst 1, 1, 0, 0, 0, 0, 0, []),
  (51, none, .iload_n 3, 1, 3, 0, 0, 0, 0, []),
  (52, none, .ishl, 1, 0, 0, 0, 0, 0, []),
  (53, none, .ior, 1, 0, 0, 0, 0, 0, []),
  (54, none, .putfield 35, 3, 8, 5, 0, 0, 0, []),
  (57, none, .aload_n 0, 1, 0, 0, 0, 0, 0, []),
  (58, none, .iload_n 3, 1, 3, 0, 0, 0, 0, []),
  (59, none, .iconst 1, 1, 0, 0, 0, 0, 0, []),
  (60, none, .iadd, 1, 0, 0, 0, 0, 0, []),
  (61, none, .putfield 28, 3, 8, 4, 0, 0, 0, []),
  (64, none, .iload_n 3, 1, 3, 0, 0, 0, 0, []),
  (65, none, .ireturn, 1, 0, 0, 0, 0, 0, [])]
noncomputable def K_wood_draw : List aE := [
  (0, none, .aload_n 0, 1, 0, 0, 0, 0, 0, []),
  (1, none, .aload_n 0, 1, 0, 0, 0, 0, 0, []),
  (2, none, .getfield 41, 3, 8, 15, 0, 0, 0, []),
  (5, none, .ldc 44, 2, 0, 0, 0, 0, 1664525, []),
  (7, none, .imul, 1, 0, 0, 0, 0, 0, []),
  (8, none, .ldc 45, 2, 0, 0, 0, 0, 1013904223, []),
  (10, none, .iadd, 1, 0, 0, 0, 0, 0, []),
  (11, none, .putfield 41, 3, 8, 15, 0, 0, 0, []),
  (14, none, .iload_n 1, 1, 1, 0, 0, 0, 0, []),
  (15, none, .ifCond .le 15, 3, 30, 0, 0, 0, 0, []),
  (18, none, .aload_n 0, 1, 0, 0, 0, 0, 0, []),
  (19, none, .getfield 41, 3, 8, 15, 0, 0, 0, []),
  (22, none, .bipush 8, 2, 0, 0, 0, 0, 0, []),
  (24, none, .iushr, 1, 0, 0, 0, 0, 0, []),
  (25, none, .iload_n 1, 1, 1, 0, 0, 0, 0, []),
  (26, none, .irem, 1, 0, 0, 0, 0, 0, []),
  (27, none, .goto 4, 3, 31, 0, 0, 0, 0, []),
  (30, none, .iconst 0, 1, 0, 0, 0, 0, 0, []),
  (31, none, .ireturn, 1, 0, 0, 0, 0, 0, [])]
noncomputable def K_wood_putFacts : List aE := [
  (0, none, .aload_n 0, 1, 0, 0, 0, 0, 0, []),
  (1, none, .iload_n 1, 1, 1, 0, 0, 0, 0, []),
  (2, none, .invokevirtual 31, 3, 83, 2, 2, 0, 0, []),
  (5, none, .ifCond .eq 10, 3, 15, 0, 0, 0, 0, []),
  (8, none, .aload_n 2, 1, 2, 0, 0, 0, 0, []),
  (9, none, .arraylength, 1, 0, 0, 0, 0, 0, []),
  (10, none, .bipush 10, 2, 0, 0, 0, 0, 0, []),
  (12, none, .if_icmp .ge 4, 3, 16, 0, 0, 0, 0, []),
  (15, none, .return_, 1, 0, 0, 0, 0, 0, []),
  (16, none, .aload_n 2, 1, 2, 0, 0, 0, 0, []),
  (17, none, .iconst 0, 1, 0, 0, 0, 0, 0, []),
  (18, none, .iload_n 1, 1, 1, 0, 0, 0, 0, []),
  (19, none, .iastore, 1, 0, 0, 0, 0, 0, []),
  (20, none, .aload_n 2, 1, 2, 0, 0, 0, 0, []),
  (21, none, .iconst 1, 1, 0, 0, 0, 0, 0, []),
  (22, none, .aload_n 0, 1, 0, 0, 0, 0, 0, []),
  (23, none, .getfield 9, 3, 8, 0, 22, 1, 0, []),
  (26, none, .iload_n 1, 1, 1, 0, 0, 0, 0, []),
  (27, none, .iaload, 1, 0, 0, 0, 0, 0, []),
  (28, none, .iastore, 1, 0, 0, 0, 0, 0, []),
  (29, none, .aload_n 2, 1, 2, 0, 0, 0, 0, []),
  (30, none, .iconst 2, 1, 0, 0, 0, 0, 0, []),
  (31, none, .aload_n 0, 1, 0, 0, 0, 0, 0, []),
  (32, none, .getfield 15, 3, 8, 1, 22, 2, 0, []),
  (35, none, .iload_n 1, 1, 1, 0, 0, 0, 0, []),
  (36, none, .iaload, 1, 0, 0, 0, 0, 0, []),
  (37, none, .iastore, 1, 0, 0, 0, 0, 0, []),
  (38, none, .aload_n 2, 1, 2, 0, 0, 0, 0, []),
  (39, none, .iconst 3, 1, 0, 0, 0, 0, 0, []),
  (40, none, .aload_n 0, 1, 0, 0, 0, 0, 0, []),
  (41, none, .getfield 18, 3, 8, 2, 22, 3, 0, []),
  (44, none, .iload_n 1, 1, 1, 0, 0, 0, 0, []),
  (45, none, .iaload, 1, 0, 0, 0, 0, 0, []),
  (46, none, .iastore, 1, 0, 0, 0, 0, 0, []),
  (47, none, .aload_n 2, 1, 2, 0, 0, 0, 0, []),
  (48, none, .iconst 4, 1, 0, 0, 0, 0, 0, []),
  (49, none, .aload_n 0, 1, 0, 0, 0, 0, 0, []),
  (50, none, .getfield 21, 3, 8, 3, 22, 4, 0, []),
  (53, none, .iload_n 1, 1, 1, 0, 0, 0, 0, []),
  (54, none, .iaload, 1, 0, 0, 0, 0, 0, []),
  (55, none, .iastore, 1, 0, 0, 0, 0, 0, []),
  (56, none, .aload_n 2, 1, 2, 0, 0, 0, 0, []),
  (57, none, .iconst 5, 1, 0, 0, 0, 0, 0, []),
  (58, none, .aload_n 0, 1, 0, 0, 0, 0, 0, []),
  (59, none, .getfield 48, 3, 8, 6, 0, 0, 0, []),
  (62, none, .iastore, 1, 0, 0, 0, 0, 0, []),
  (63, none, .aload_n 2, 1, 2, 0, 0, 0, 0, []),
  (64, none, .bipush 6, 2, 0, 0, 0, 0, 0, []),
  (66, none, .aload_n 0, 1, 0, 0, 0, 0, 0, []),
  (67, none, .getfield 51, 3, 8, 7, 0, 0, 0, []),
  (70, none, .iastore, 1, 0, 0, 0, 0, 0, []),
  (71, none, .aload_n 2, 1, 2, 0, 0, 0, 0, []),
  (72, none, .bipush 7, 2, 0, 0, 0, 0, 0, []),
  (74, none, .aload_n 0, 1, 0, 0, 0, 0, 0, []),
  (75, none, .getfield 54, 3, 8, 8, 0, 0, 0, []),
  (78, none, .iastore, 1, 0, 0, 0, 0, 0, []),
  (79, none, .aload_n 2, 1, 2, 0, 0, 0, 0, []),
  (80, none, .bipush 8, 2, 0, 0, 0, 0, 0, []),
  (82, none, .aload_n 0, 1, 0, 0, 0, 0, 0, []),
  (83, none, .getfield 57, 3, 8, 14, 0, 0, 0, []),
  (86, none, .bipush 30, 2, 0, 0, 0, 0, 0, []),
  (88, none, .idiv, 1, 0, 0, 0, 0, 0, []),
  (89, none, .bipush 12, 2, 0, 0, 0, 0, 0, []),
  (91, none, .irem, 1, 0, 0, 0, 0, 0, []),
  (92, none, .iastore, 1, 0, 0, 0, 0, 0, []),
  (93, none, .aload_n 2, 1, 2, 0, 0, 0, 0, []),
  (94, none, .bipush 9, 2, 0, 0, 0, 0, 0, []),
  (96, none, .aload_n 0, 1, 0, 0, 0, 0, 0, []),
  (97, none, .getfield 24, 3, 8, 11, 0, 0, 0, []),
  (100, none, .iload_n 1, 1, 1, 0, 0, 0, 0, []),
  (101, none, .if_icmp .ne 7, 3, 108, 0, 0, 0, 0, []),
  (104, none, .iconst 1, 1, 0, 0, 0, 0, 0, []),
  (105, none, .goto 4, 3, 109, 0, 0, 0, 0, []),
  (108, none, .iconst 0, 1, 0, 0, 0, 0, 0, []),
  (109, none, .iastore, 1, 0, 0, 0, 0, 0, []),
  (110, none, .return_, 1, 0, 0, 0, 0, 0, [])]
noncomputable def K_wood_bring : List aE := [
  (0, none, .iconst 0, 1, 0, 0, 0, 0, 0, []),
  (1, none, .istore 4, 2, 4, 0, 0, 0, 0, []),
  (3, some [true, true, true, true, true], .iload 4, 2, 4, 0, 0, 0, 0, []),
  (5, none, .aload_n 0, 1, 0, 0, 0, 0, 0, []),
  (6, none, .getfield 28, 3, 8, 4, 0, 0, 0, []),
  (9, none, .if_icmp .ge 95, 3, 104, 0, 0, 0, 0, []),
  (12, none, .iload 4, 2, 4, 0, 0, 0, 0, []),
  (14, none, .bipush 10, 2, 0, 0, 0, 0, 0, []),
  (16, none, .if_icmp .ge 88, 3, 104, 0, 0, 0, 0, []),
  (19, none, .iload 4, 2, 4, 0, 0, 0, 0, []),
  (21, none, .iload_n 1, 1, 1, 0, 0, 0, 0, []),
  (22, none, .if_icmp .ne 45, 3, 67, 0, 0, 0, 0, []),
  (25, none, .aload_n 0, 1, 0, 0, 0, 0, 0, []),
  (26, none, .getfield 18, 3, 8, 2, 22, 3, 0, []),
  (29, none, .iload 4, 2, 4, 0, 0, 0, 0, []),
  (31, none, .iconst 0, 1, 0, 0, 0, 0, 0, []),
  (32, none, .iastore, 1, 0, 0, 0, 0, 0, []),
  (33, none, .aload_n 0, 1, 0, 0, 0, 0, 0, []),
  (34, none, .getfield 21, 3, 8, 3, 22, 4, 0, []),
  (37, none, .iload 4, 2, 4, 0, 0, 0, 0, []),
  (39, none, .dup2, 1, 0, 0, 0, 0, 0, []),
  (40, none, .iaload, 1, 0, 0, 0, 0, 0, []),
  (41, none, .iconst 1, 1, 0, 0, 0, 0, 0, []),
  (42, none, .iadd, 1, 0, 0, 0, 0, 0, []),
  (43, none, .iastore, 1, 0, 0, 0, 0, 0, []),
  (44, none, .aload_n 0, 1, 0, 0, 0, 0, 0, []),
  (45, none, .getfield 15, 3, 8, 1, 22, 2, 0, []),
  (48, none, .iload 4, 2, 4, 0, 0, 0, 0, []),
  (50, none, .iconst 0, 1, 0, 0, 0, 0, 0, []),
  (51, none, .aload_n 0, 1, 0, 0, 0, 0, 0, []),
  (52, none, .getfield 15, 3, 8, 1, 22, 2, 0, []),
  (55, none, .iload 4, 2, 4, 0, 0, 0, 0, []),
  (57, none, .iaload, 1, 0, 0, 0, 0, 0, []),
  (58, none, .iload_n 3, 1, 3, 0, 0, 0, 0, []),
  (59, none, .isub, 1, 0, 0, 0, 0, 0, []),
  (60, none, .invokestatic 60, 3, 4, 0, 0, 0, 0, []),
  (63, none, .iastore, 1, 0, 0, 0, 0, 0, []),
  (64, none, .goto 34, 3, 98, 0, 0, 0, 0, []),
  (67, none, .aload_n 0, 1, 0, 0, 0, 0, 0, []),
  (68, none, .iload 4, 2, 4, 0, 0, 0, 0, []),
  (70, none, .invokevirtual 66, 3, 84, 2, 2, 0, 0, []),
  (73, none, .ifCond .eq 25, 3, 98, 0, 0, 0, 0, []),
  (76, none, .aload_n 0, 1, 0, 0, 0, 0, 0, []),
  (77, none, .getfield 18, 3, 8, 2, 22, 3, 0, []),
  (80, none, .iload 4, 2, 4, 0, 0, 0, 0, []),
  (82, none, .sipush 999, 3, 0, 0, 0, 0, 0, []),
  (85, none, .aload_n 0, 1, 0, 0, 0, 0, 0, []),
  (86, none, .getfield 18, 3, 8, 2, 22, 3, 0, []),
  (89, none, .iload 4, 2, 4, 0, 0, 0, 0, []),
  (91, none, .iaload, 1, 0, 0, 0, 0, 0, []),
  (92, none, .iconst 1, 1, 0, 0, 0, 0, 0, []),
  (93, none, .iadd, 1, 0, 0, 0, 0, 0, []),
  (94, none, .invokestatic 69, 3, 5, 0, 0, 0, 0, []),
  (97, none, .iastore, 1, 0, 0, 0, 0, 0, []),
  (98, none, .iinc 4 1, 3, 4, 0, 0, 0, 0, []),
  (101, none, .goto (-98), 3, 3, 0, 0, 0, 0, []),
  (104, none, .aload_n 0, 1, 0, 0, 0, 0, 0, []),
  (105, none, .iload_n 1, 1, 1, 0, 0, 0, 0, []),
  (106, none, .putfield 24, 3, 8, 11, 0, 0, 0, []),
  (109, none, .aload_n 0, 1, 0, 0, 0, 0, 0, []),
  (110, none, .dup, 1, 0, 0, 0, 0, 0, []),
  (111, none, .getfield 72, 3, 8, 13, 0, 0, 0, []),
  (114, none, .iload_n 2, 1, 2, 0, 0, 0, 0, []),
  (115, none, .iadd, 1, 0, 0, 0, 0, 0, []),
  (116, none, .putfield 72, 3, 8, 13, 0, 0, 0, []),
  (119, none, .return_, 1, 0, 0, 0, 0, 0, [])]
noncomputable def K_wood_leastCalm : List aE := [
  (0, none, .iconst (-1), 1, 0, 0, 0, 0, 0, []),
  (1, none, .istore_n 1, 1, 1, 0, 0, 0, 0, []),
  (2, none, .iconst 0, 1, 0, 0, 0, 0, 0, []),
  (3, none, .istore_n 2, 1, 2, 0, 0, 0, 0, []),
  (4, some [true, true, true], .iload_n 2, 1, 2, 0, 0, 0, 0, []),
  (5, none, .aload_n 0, 1, 0, 0, 0, 0, 0, []),
  (6, none, .getfield 28, 3, 8, 4, 0, 0, 0, []),
  (9, none, .if_icmp .ge 45, 3, 54, 0, 0, 0, 0, []),
  (12, none, .iload_n 2, 1, 2, 0, 0, 0, 0, []),
  (13, none, .bipush 10, 2, 0, 0, 0, 0, 0, []),
  (15, none, .if_icmp .ge 39, 3, 54, 0, 0, 0, 0, []),
  (18, none, .aload_n 0, 1, 0, 0, 0, 0, 0, []),
  (19, none, .iload_n 2, 1, 2, 0, 0, 0, 0, []),
  (20, none, .invokevirtual 66, 3, 84, 2, 2, 0, 0, []),
  (23, none, .ifCond .eq 25, 3, 48, 0, 0, 0, 0, []),
  (26, none, .iload_n 1, 1, 1, 0, 0, 0, 0, []),
  (27, none, .iconst (-1), 1, 0, 0, 0, 0, 0, []),
  (28, none, .if_icmp .eq 18, 3, 46, 0, 0, 0, 0, []),
  (31, none, .aload_n 0, 1, 0, 0, 0, 0, 0, []),
  (32, none, .getfield 15, 3, 8, 1, 22, 2, 0, []),
  (35, none, .iload_n 2, 1, 2, 0, 0, 0, 0, []),
  (36, none, .iaload, 1, 0, 0, 0, 0, 0, []),
  (37, none, .aload_n 0, 1, 0, 0, 0, 0, 0, []),
  (38, none, .getfield 15, 3, 8, 1, 22, 2, 0, []),
  (41, none, .iload_n 1, 1, 1, 0, 0, 0, 0, []),
  (42, none, .iaload, 1, 0, 0, 0, 0, 0, []),
  (43, none, .if_icmp .ge 5, 3, 48, 0, 0, 0, 0, []),
  (46, none, .iload_n 2, 1, 2, 0, 0, 0, 0, []),
  (47, none, .istore_n 1, 1, 1, 0, 0, 0, 0, []),
  (48, none, .iinc 2 1, 3, 2, 0, 0, 0, 0, []),
  (51, none, .goto (-47), 3, 4, 0, 0, 0, 0, []),
  (54, none, .iload_n 1, 1, 1, 0, 0, 0, 0, []),
  (55, none, .ireturn, 1, 0, 0, 0, 0, 0, [])]
noncomputable def K_wood_nearestTo : List aE := [
  (0, none, .iconst (-1), 1, 0, 0, 0, 0, 0, []),
  (1, none, .istore_n 2, 1, 2, 0, 0, 0, 0, []),
  (2, none, .iconst 0, 1, 0, 0, 0, 0, 0, []),
  (3, none, .istore_n 3, 1, 3, 0, 0, 0, 0, []),
  (4, none, .aload_n 0, 1, 0, 0, 0, 0, 0, []),
  (5, none, .iload_n 1, 1, 1, 0, 0, 0, 0, []),
  (6, none, .invokevirtual 31, 3, 83, 2, 2, 0, 0, []),
  (9, none, .ifCond .ne 5, 3, 14, 0, 0, 0, 0, []),
  (12, none, .iconst (-1), 1, 0, 0, 0, 0, 0, []),
  (13, none, .ireturn, 1, 0, 0, 0, 0, 0, []),
  (14, none, .iconst 0, 1, 0, 0, 0, 0, 0, []),
  (15, none, .istore 4, 2, 4, 0, 0, 0, 0, []),
  (17, some [true, true, true, true, true, false], .iload 4, 2, 4, 0, 0, 0, 0, []),
  (19, none, .aload_n 0, 1, 0, 0, 0, 0, 0, []),
  (20, none, .getfield 28, 3, 8, 4, 0, 0, 0, []),
  (23, none, .if_icmp .ge 82, 3, 105, 0, 0, 0, 0, []),
  (26, none, .iload 4, 2, 4, 0, 0, 0, 0, []),
  (28, none, .bipush 10, 2, 0, 0, 0, 0, 0, []),
  (30, none, .if_icmp .ge 75, 3, 105, 0, 0, 0, 0, []),
  (33, none, .aload_n 0, 1, 0, 0, 0, 0, 0, []),
  (34, none, .getfield 9, 3, 8, 0, 22, 1, 0, []),
  (37, none, .iload 4, 2, 4, 0, 0, 0, 0, []),
  (39, none, .iaload, 1, 0, 0, 0, 0, 0, []),
  (40, none, .aload_n 0, 1, 0, 0, 0, 0, 0, []),
  (41, none, .getfield 9, 3, 8, 0, 22, 1, 0, []),
  (44, none, .iload_n 1, 1, 1, 0, 0, 0, 0, []),
  (45, none, .iaload, 1, 0, 0, 0, 0, 0, []),
  (46, none, .isub, 1, 0, 0, 0, 0, 0, []),
  (47, none, .invokestatic 75, 3, 6, 0, 0, 0, 0, []),
  (50, none, .bipush 100, 2, 0, 0, 0, 0, 0, []),
  (52, none, .imul, 1, 0, 0, 0, 0, 0, []),
  (53, none, .aload_n 0, 1, 0, 0, 0, 0, 0, []),
  (54, none, .getfield 15, 3, 8, 1, 22, 2, 0, []),
  (57, none, .iload 4, 2, 4, 0, 0, 0, 0, []),
  (59, none, .iaload, 1, 0, 0, 0, 0, 0, []),
  (60, none, .aload_n 0, 1, 0, 0, 0, 0, 0, []),
  (61, none, .getfield 15, 3, 8, 1, 22, 2, 0, []),
  (64, none, .iload_n 1, 1, 1, 0, 0, 0, 0, []),
  (65, none, .iaload, 1, 0, 0, 0, 0, 0, []),
  (66, none, .isub, 1, 0, 0, 0, 0, 0, []),
  (67, none, .invokestatic 75, 3, 6, 0, 0, 0, 0, []),
  (70, none, .iadd, 1, 0, 0, 0, 0, 0, []),
  (71, none, .istore 5, 2, 5, 0, 0, 0, 0, []),
  (73, none, .aload_n 0, 1, 0, 0, 0, 0, 0, []),
  (74, none, .iload 4, 2, 4, 0, 0, 0, 0, []),
  (76, none, .invokevirtual 66, 3, 84, 2, 2, 0, 0, []),
  (79, none, .ifCond .eq 20, 3, 99, 0, 0, 0, 0, []),
  (82, none, .iload_n 2, 1, 2, 0, 0, 0, 0, []),
  (83, none, .iconst (-1), 1, 0, 0, 0, 0, 0, []),
  (84, none, .if_icmp .eq 9, 3, 93, 0, 0, 0, 0, []),
  (87, none, .iload 5, 2, 5, 0, 0, 0, 0, []),
  (89, none, .iload_n 3, 1, 3, 0, 0, 0, 0, []),
  (90, none, .if_icmp .ge 9, 3, 99, 0, 0, 0, 0, []),
  (93, none, .iload 4, 2, 4, 0, 0, 0, 0, []),
  (95, none, .istore_n 2, 1, 2, 0, 0, 0, 0, []),
  (96, none, .iload 5, 2, 5, 0, 0, 0, 0, []),
  (98, none, .istore_n 3, 1, 3, 0, 0, 0, 0, []),
  (99, none, .iinc 4 1, 3, 4, 0, 0, 0, 0, []),
  (102, none, .goto (-85), 3, 17, 0, 0, 0, 0, []),
  (105, none, .iload_n 2, 1, 2, 0, 0, 0, 0, []),
  (106, none, .ireturn, 1, 0, 0, 0, 0, 0, [])]
noncomputable def K_wood_aliveWithMark : List aE := [
  (0, none, .iconst 0, 1, 0, 0, 0, 0, 0, []),
  (1, none, .istore_n 2, 1, 2, 0, 0, 0, 0, []),
  (2, none, .iconst 0, 1, 0, 0, 0, 0, 0, []),
  (3, none, .istore_n 3, 1, 3, 0, 0, 0, 0, []),
  (4, some [true, true, true, true], .iload_n 3, 1, 3, 0, 0, 0, 0, []),
  (5, none, .aload_n 0, 1, 0, 0, 0, 0, 0, []),
  (6, none, .getfield 28, 3, 8, 4, 0, 0, 0, []),
  (9, none, .if_icmp .ge 36, 3, 45, 0, 0, 0, 0, []),
  (12, none, .iload_n 3, 1, 3, 0, 0, 0, 0, []),
  (13, none, .bipush 10, 2, 0, 0, 0, 0, 0, []),
  (15, none, .if_icmp .ge 30, 3, 45, 0, 0, 0, 0, []),
  (18, none, .aload_n 0, 1, 0, 0, 0, 0, 0, []),
  (19, none, .iload_n 3, 1, 3, 0, 0, 0, 0, []),
  (20, none, .invokevirtual 66, 3, 84, 2, 2, 0, 0, []),
  (23, none, .ifCond .eq 16, 3, 39, 0, 0, 0, 0, []),
  (26, none, .aload_n 0, 1, 0, 0, 0, 0, 0, []),
  (27, none, .getfield 9, 3, 8, 0, 22, 1, 0, []),
  (30, none, .iload_n 3, 1, 3, 0, 0, 0, 0, []),
  (31, none, .iaload, 1, 0, 0, 0, 0, 0, []),
  (32, none, .iload_n 1, 1, 1, 0, 0, 0, 0, []),
  (33, none, .if_icmp .ne 6, 3, 39, 0, 0, 0, 0, []),
  (36, none, .iinc 2 1, 3, 2, 0, 0, 0, 0, []),
  (39, none, .iinc 3 1, 3, 3, 0, 0, 0, 0, []),
  (42, none, .goto (-38), 3, 4, 0, 0, 0, 0, []),
  (45, none, .iload_n 2, 1, 2, 0, 0, 0, 0, []),
  (46, none, .ireturn, 1, 0, 0, 0, 0, 0, [])]
noncomputable def K_wood_copyFrom : List aE := [
  (0, none, .aload_n 1, 1, 1, 0, 0, 0, 0, []),
  (1, none, .getfield 9, 3, 8, 0, 22, 1, 0, []),
  (4, none, .iconst 0, 1, 0, 0, 0, 0, 0, []),
  (5, none, .aload_n 0, 1, 0, 0, 0, 0, 0, []),
  (6, none, .getfield 9, 3, 8, 0, 22, 1, 0, []),
  (9, none, .iconst 0, 1, 0, 0, 0, 0, 0, []),
  (10, none, .bipush 10, 2, 0, 0, 0, 0, 0, []),
  (12, none, .invokestatic 79, 3, 0, 0, 0, 0, 0, []),
  (15, none, .aload_n 1, 1, 1, 0, 0, 0, 0, []),
  (16, none, .getfield 15, 3, 8, 1, 22, 2, 0, []),
  (19, none, .iconst 0, 1, 0, 0, 0, 0, 0, []),
  (20, none, .aload_n 0, 1, 0, 0, 0, 0, 0, []),
  (21, none, .getfield 15, 3, 8, 1, 22, 2, 0, []),
  (24, none, .iconst 0, 1, 0, 0, 0, 0, 0, []),
  (25, none, .bipush 10, 2, 0, 0, 0, 0, 0, []),
  (27, none, .invokestatic 79, 3, 0, 0, 0, 0, 0, []),
  (30, none, .aload_n 1, 1, 1, 0, 0, 0, 0, []),
  (31, none, .getfield 18, 3, 8, 2, 22, 3, 0, []),
  (34, none, .iconst 0, 1, 0, 0, 0, 0, 0, []),
  (35, none, .aload_n 0, 1, 0, 0, 0, 0, 0, []),
  (36, none, .getfield 18, 3, 8, 2, 22, 3, 0, []),
  (39, none, .iconst 0, 1, 0, 0, 0, 0, 0, []),
  (40, none, .bipush 10, 2, 0, 0, 0, 0, 0, []),
  (42, none, .invokestatic 79, 3, 0, 0, 0, 0, 0, []),
  (45, none, .aload_n 1, 1, 1, 0, 0, 0, 0, []),
  (46, none, .getfield 21, 3, 8, 3, 22, 4, 0, []),
  (49, none, .iconst 0, 1, 0, 0, 0, 0, 0, []),
  (50, none, .aload_n 0, 1, 0, 0, 0, 0, 0, []),
  (51, none, .getfield 21, 3, 8, 3, 22, 4, 0, []),
  (54, none, .iconst 0, 1, 0, 0, 0, 0, 0, []),
  (55, none, .bipush 10, 2, 0, 0, 0, 0, 0, []),
  (57, none, .invokestatic 79, 3, 0, 0, 0, 0, 0, []),
  (60, none, .aload_n 0, 1, 0, 0, 0, 0, 0, []),
  (61, none, .aload_n 1, 1, 1, 0, 0, 0, 0, []),
  (62, none, .getfield 28, 3, 8, 4, 0, 0, 0, []),
  (65, none, .putfield 28, 3, 8, 4, 0, 0, 0, []),
  (68, none, .aload_n 0, 1, 0, 0, 0, 0, 0, []),
  (69, none, .aload_n 1, 1, 1, 0, 0, 0, 0, []),
  (70, none, .getfield 35, 3, 8, 5, 0, 0, 0, []),
  (73, none, .putfield 35, 3, 8, 5, 0, 0, 0, []),
  (76, none, .aload_n 0, 1, 0, 0, 0, 0, 0, []),
  (77, none, .aload_n 1, 1, 1, 0, 0, 0, 0, []),
  (78, none, .getfield 48, 3, 8, 6, 0, 0, 0, []),
  (81, none, .putfield 48, 3, 8, 6, 0, 0, 0, []),
  (84, none, .aload_n 0, 1, 0, 0, 0, 0, 0, []),
  (85, none, .aload_n 1, 1, 1, 0, 0, 0, 0, []),
  (86, none, .getfield 51, 3, 8, 7, 0, 0, 0, []),
  (89, none, .putfield 51, 3, 8, 7, 0, 0, 0, []),
  (92, none, .aload_n 0, 1, 0, 0, 0, 0, 0, []),
  (93, none, .aload_n 1, 1, 1, 0, 0, 0, 0, []),
  (94, none, .getfield 54, 3, 8, 8, 0, 0, 0, []),
  (97, none, .putfield 54, 3, 8, 8, 0, 0, 0, []),
  (100, none, .aload_n 0, 1, 0, 0, 0, 0, 0, []),
  (101, none, .aload_n 1, 1, 1, 0, 0, 0, 0, []),
  (102, none, .getfield 85, 3, 8, 9, 0, 0, 0, []),
  (105, none, .putfield 85, 3, 8, 9, 0, 0, 0, []),
  (108, none, .aload_n 0, 1, 0, 0, 0, 0, 0, []),
  (109, none, .aload_n 1, 1, 1, 0, 0, 0, 0, []),
  (110, none, .getfield 88, 3, 8, 10, 0, 0, 0, []),
  (113, none, .putfield 88, 3, 8, 10, 0, 0, 0, []),
  (116, none, .aload_n 0, 1, 0, 0, 0, 0, 0, []),
  (117, none, .aload_n 1, 1, 1, 0, 0, 0, 0, []),
  (118, none, .getfield 24, 3, 8, 11, 0, 0, 0, []),
  (121, none, .putfield 24, 3, 8, 11, 0, 0, 0, []),
  (124, none, .aload_n 0, 1, 0, 0, 0, 0, 0, []),
  (125, none, .aload_n 1, 1, 1, 0, 0, 0, 0, []),
  (126, none, .getfield 91, 3, 8, 12, 0, 0, 0, []),
  (129, none, .putfield 91, 3, 8, 12, 0, 0, 0, []),
  (132, none, .aload_n 0, 1, 0, 0, 0, 0, 0, []),
  (133, none, .aload_n 1, 1, 1, 0, 0, 0, 0, []),
  (134, none, .getfield 72, 3, 8, 13, 0, 0, 0, []),
  (137, none, .putfield 72, 3, 8, 13, 0, 0, 0, []),
  (140, none, .aload_n 0, 1, 0, 0, 0, 0, 0, []),
  (141, none, .aload_n 1, 1, 1, 0, 0, 0, 0, []),
  (142, none, .getfield 57, 3, 8, 14, 0, 0, 0, []),
  (145, none, .putfield 57, 3, 8, 14, 0, 0, 0, []),
  (148, none, .aload_n 0, 1, 0, 0, 0, 0, 0, []),
  (149, none, .aload_n 1, 1, 1, 0, 0, 0, 0, []),
  (150, none, .getfield 41, 3, 8, 15, 0, 0, 0, []),
  (153, none, .putfield 41, 3, 8, 15, 0, 0, 0, []),
  (156, none, .aload_n 0, 1, 0, 0, 0, 0, 0, []),
  (157, none, .aload_n 1, 1, 1, 0, 0, 0, 0, []),
  (158, none, .getfield 38, 3, 8, 16, 0, 0, 0, []),
  (161, none, .putfield 38, 3, 8, 16, 0, 0, 0, []),
  (164, none, .return_, 1, 0, 0, 0, 0, 0, [])]
noncomputable def K_world_asked : List aE := [
  (0, none, .aload_n 0, 1, 0, 0, 0, 0, 0, []),
  (1, none, .getfield 12, 3, 9, 0, 10, 1, 0, []),
  (4, none, .iload_n 2, 1, 2, 0, 0, 0, 0, []),
  (5, none, .aload_n 0, 1, 0, 0, 0, 0, 0, []),
  (6, none, .getfield 58, 3, 9, 11, 22, 29, 0, []),
  (9, none, .invokevirtual 65, 3, 88, 3, 1, 0, 0, []),
  (12, none, .aload_n 0, 1, 0, 0, 0, 0, 0, []),
  (13, none, .getfield 21, 3, 9, 1, 4, 6, 0, []),
  (16, none, .iload_n 1, 1, 1, 0, 0, 0, 0, []),
  (17, none, .aload_n 0, 1, 0, 0, 0, 0, 0, []),
  (18, none, .getfield 58, 3, 9, 11, 22, 29, 0, []),
  (21, none, .invokevirtual 69, 3, 11, 3, 2, 0, 0, []),
  (24, none, .ireturn, 1, 0, 0, 0, 0, 0, [])]
noncomputable def K_world_comeWithSalt : List aE := [
  (0, none, .aload_n 0, 1, 0, 0, 0, 0, 0, []),
  (1, none, .getfield 12, 3, 9, 0, 10, 1, 0, []),
  (4, none, .iload_n 1, 1, 1, 0, 0, 0, 0, []),
  (5, none, .aload_n 0, 1, 0, 0, 0, 0, 0, []),
  (6, none, .getfield 58, 3, 9, 11, 22, 29, 0, []),
  (9, none, .invokevirtual 65, 3, 88, 3, 1, 0, 0, []),
  (12, none, .aload_n 0, 1, 0, 0, 0, 0, 0, []),
  (13, none, .getfield 58, 3, 9, 11, 22, 29, 0, []),
  (16, none, .iconst 5, 1, 0, 0, 0, 0, 0, []),
  (17, none, .iload_n 2, 1, 2, 0, 0, 0, 0, []),
  (18, none, .iastore, 1, 0, 0, 0, 0, 0, []),
  (19, none, .aload_n 0, 1, 0, 0, 0, 0, 0, []),
  (20, none, .getfield 21, 3, 9, 1, 4, 6, 0, []),
  (23, none, .iconst 0, 1, 0, 0, 0, 0, 0, []),
  (24, none, .aload_n 0, 1, 0, 0, 0, 0, 0, []),
  (25, none, .getfield 58, 3, 9, 11, 22, 29, 0, []),
  (28, none, .invokevirtual 69, 3, 11, 3, 2, 0, 0, []),
  (31, none, .ireturn, 1, 0, 0, 0, 0, 0, [])]
noncomputable def K_world_askComes : List aE := [
  (0, none, .aload_n 0, 1, 0, 0, 0, 0, 0, []),
  (1, none, .iconst 0, 1, 0, 0, 0, 0, 0, []),
  (2, none, .putfield 73, 3, 9, 13, 0, 0, 0, []),
  (5, none, .iconst 0, 1, 0, 0, 0, 0, 0, []),
  (6, none, .istore_n 1, 1, 1, 0, 0, 0, 0, []),
  (7, some [true, true], .iload_n 1, 1, 1, 0, 0, 0, 0, []),
  (8, none, .bipush 10, 2, 0, 0, 0, 0, 0, []),
  (10, none, .if_icmp .ge 51, 3, 61, 0, 0, 0, 0, []),
  (13, none, .aload_n 0, 1, 0, 0, 0, 0, 0, []),
  (14, none, .getfield 62, 3, 9, 12, 22, 30, 0, []),
  (17, none, .iload_n 1, 1, 1, 0, 0, 0, 0, []),
  (18, none, .aload_n 0, 1, 0, 0, 0, 0, 0, []),
  (19, none, .getfield 12, 3, 9, 0, 10, 1, 0, []),
  (22, none, .iload_n 1, 1, 1, 0, 0, 0, 0, []),
  (23, none, .invokevirtual 77, 3, 84, 2, 2, 0, 0, []),
  (26, none, .ifCond .eq 12, 3, 38, 0, 0, 0, 0, []),
  (29, none, .aload_n 0, 1, 0, 0, 0, 0, 0, []),
  (30, none, .iconst 0, 1, 0, 0, 0, 0, 0, []),
  (31, none, .iload_n 1, 1, 1, 0, 0, 0, 0, []),
  (32, none, .invokevirtual 81, 3, 94, 3, 2, 0, 0, []),
  (35, none, .goto 4, 3, 39, 0, 0, 0, 0, []),
  (38, none, .iconst 0, 1, 0, 0, 0, 0, 0, []),
  (39, none, .iastore, 1, 0, 0, 0, 0, 0, []),
  (40, none, .aload_n 0, 1, 0, 0, 0, 0, 0, []),
  (41, none, .dup, 1, 0, 0, 0, 0, 0, []),
  (42, none, .getfield 73, 3, 9, 13, 0, 0, 0, []),
  (45, none, .aload_n 0, 1, 0, 0, 0, 0, 0, []),
  (46, none, .getfield 62, 3, 9, 12, 22, 30, 0, []),
  (49, none, .iload_n 1, 1, 1, 0, 0, 0, 0, []),
  (50, none, .iaload, 1, 0, 0, 0, 0, 0, []),
  (51, none, .iadd, 1, 0, 0, 0, 0, 0, []),
  (52, none, .putfield 73, 3, 9, 13, 0, 0, 0, []),
  (55, none, .iinc 1 1, 3, 1, 0, 0, 0, 0, []),
  (58, none, .goto (-51), 3, 7, 0, 0, 0, 0, []),
  (61, none, .return_, 1, 0, 0, 0, 0, 0, [])]
noncomputable def K_world_likeliestDeer : List aE := [
  (0, none, .aload_n 0, 1, 0, 0, 0, 0, 0, []),
  (1, none, .invokevirtual 85, 3, 96, 1, 1, 0, 0, []),
  (4, none, .aload_n 0, 1, 0, 0, 0, 0, 0, []),
  (5, none, .invokevirtual 88, 3, 98, 1, 2, 0, 0, []),
  (8, none, .ireturn, 1, 0, 0, 0, 0, 0, [])]
noncomputable def K_world_greatestCome : List aE := [
  (0, none, .iconst (-1), 1, 0, 0, 0, 0, 0, []),
  (1, none, .istore_n 1, 1, 1, 0, 0, 0, 0, []),
  (2, none, .iconst 0, 1, 0, 0, 0, 0, 0, []),
  (3, none, .istore_n 2, 1, 2, 0, 0, 0, 0, []),
  (4, some [true, true, true], .iload_n 2, 1, 2, 0, 0, 0, 0, []),
  (5, none, .bipush 10, 2, 0, 0, 0, 0, 0, []),
  (7, none, .if_icmp .ge 42, 3, 49, 0, 0, 0, 0, []),
  (10, none, .aload_n 0, 1, 0, 0, 0, 0, 0, []),
  (11, none, .getfield 12, 3, 9, 0, 10, 1, 0, []),
  (14, none, .iload_n 2, 1, 2, 0, 0, 0, 0, []),
  (15, none, .invokevirtual 77, 3, 84, 2, 2, 0, 0, []),
  (18, none, .ifCond .eq 25, 3, 43, 0, 0, 0, 0, []),
  (21, none, .iload_n 1, 1, 1, 0, 0, 0, 0, []),
  (22, none, .iconst (-1), 1, 0, 0, 0, 0, 0, []),
  (23, none, .if_icmp .eq 18, 3, 41, 0, 0, 0, 0, []),
  (26, none, .aload_n 0, 1, 0, 0, 0, 0, 0, []),
  (27, none, .getfield 62, 3, 9, 12, 22, 30, 0, []),
  (30, none, .iload_n 2, 1, 2, 0, 0, 0, 0, []),
  (31, none, .iaload, 1, 0, 0, 0, 0, 0, []),
  (32, none, .aload_n 0, 1, 0, 0, 0, 0, 0, []),
  (33, none, .getfield 62, 3, 9, 12, 22, 30, 0, []),
  (36, none, .iload_n 1, 1, 1, 0, 0, 0, 0, []),
  (37, none, .iaload, 1, 0, 0, 0, 0, 0, []),
  (38, none, .if_icmp .le 5, 3, 43, 0, 0, 0, 0, []),
  (41, none, .iload_n 2, 1, 2, 0, 0, 0, 0, []),
  (42, none, .istore_n 1, 1, 1, 0, 0, 0, 0, []),
  (43, none, .iinc 2 1, 3, 2, 0, 0, 0, 0, []),
  (46, none, .goto (-42), 3, 4, 0, 0, 0, 0, []),
  (49, none, .iload_n 1, 1, 1, 0, 0, 0, 0, []),
  (50, none, .ireturn, 1, 0, 0, 0, 0, 0, [])]
noncomputable def K_world_likelihood : List aE := [
  (0, none, .aload_n 0, 1, 0, 0, 0, 0, 0, []),
  (1, none, .invokevirtual 85, 3, 96, 1, 1, 0, 0, []),
  (4, none, .aload_n 0, 1, 0, 0, 0, 0, 0, []),
  (5, none, .getfield 12, 3, 9, 0, 10, 1, 0, []),
  (8, none, .iload_n 1, 1, 1, 0, 0, 0, 0, []),
  (9, none, .invokevirtual 77, 3, 84, 2, 2, 0, 0, []),
  (12, none, .ifCond .eq 10, 3, 22, 0, 0, 0, 0, []),
  (15, none, .aload_n 0, 1, 0, 0, 0, 0, 0, []),
  (16, none, .getfield 73, 3, 9, 13, 0, 0, 0, []),
  (19, none, .ifCond .gt 5, 3, 24, 0, 0, 0, 0, []),
  (22, none, .iconst 0, 1, 0, 0, 0, 0, 0, []),
  (23, none, .ireturn, 1, 0, 0, 0, 0, 0, []),
  (24, none, .ldc 92, 2, 0, 0, 0, 0, 1000000, []),
  (26, none, .aload_n 0, 1, 0, 0, 0, 0, 0, []),
  (27, none, .getfield 62, 3, 9, 12, 22, 30, 0, []),
  (30, none, .iload_n 1, 1, 1, 0, 0, 0, 0, []),
  (31, none, .iaload, 1, 0, 0, 0, 0, 0, []),
  (32, none, .imul, 1, 0, 0, 0, 0, 0, []),
  (33, none, .aload_n 0, 1, 0, 0, 0, 0, 0, []),
  (34, none, .getfield 73, 3, 9, 13, 0, 0, 0, []),
  (37, none, .idiv, 1, 0, 0, 0, 0, 0, []),
  (38, none, .sipush 1000, 3, 0, 0, 0, 0, 0, []),
  (41, none, .aload_n 0, 1, 0, 0, 0, 0, 0, []),
  (42, none, .getfield 12, 3, 9, 0, 10, 1, 0, []),
  (45, none, .getfield 93, 3, 8, 10, 0, 0, 0, []),
  (48, none, .isub, 1, 0, 0, 0, 0, 0, []),
  (49, none, .imul, 1, 0, 0, 0, 0, 0, []),
  (50, none, .sipush 1000, 3, 0, 0, 0, 0, 0, []),
  (53, none, .idiv, 1, 0, 0, 0, 0, 0, []),
  (54, none, .ireturn, 1, 0, 0, 0, 0, 0, [])]
noncomputable def K_world_eatOrFree : List aE := [
  (0, none, .aload_n 0, 1, 0, 0, 0, 0, 0, []),
  (1, none, .getfield 12, 3, 9, 0, 10, 1, 0, []),
  (4, none, .iload_n 2, 1, 2, 0, 0, 0, 0, []),
  (5, none, .ifCond .eq 19, 3, 24, 0, 0, 0, 0, []),
  (8, none, .aload_n 0, 1, 0, 0, 0, 0, 0, []),
  (9, none, .getfield 12, 3, 9, 0, 10, 1, 0, []),
  (12, none, .getfield 96, 3, 8, 5, 0, 0, 0, []),
  (15, none, .iconst 1, 1, 0, 0, 0, 0, 0, []),
  (16, none, .iload_n 1, 1, 1, 0, 0, 0, 0, []),
  (17, none, .ishl, 1, 0, 0, 0, 0, 0, []),
  (18, none, .iconst (-1), 1, 0, 0, 0, 0, 0, []),
  (19, none, .ixor, 1, 0, 0, 0, 0, 0, []),
  (20, none, .iand, 1, 0, 0, 0, 0, 0, []),
  (21, none, .goto 14, 3, 35, 0, 0, 0, 0, []),
  (24, none, .aload_n 0, 1, 0, 0, 0, 0, 0, []),
  (25, none, .getfield 12, 3, 9, 0, 10, 1, 0, []),
  (28, none, .getfield 96, 3, 8, 5, 0, 0, 0, []),
  (31, none, .iconst 1, 1, 0, 0, 0, 0, 0, []),
  (32, none, .iload_n 1, 1, 1, 0, 0, 0, 0, []),
  (33, none, .ishl, 1, 0, 0, 0, 0, 0, []),
  (34, none, .ior, 1, 0, 0, 0, 0, 0, []),
  (35, none, .putfield 96, 3, 8, 5, 0, 0, 0, []),
  (38, none, .aload_n 0, 1, 0, 0, 0, 0, 0, []),
  (39, none, .getfield 40, 3, 9, 5, 7, 17, 0, []),
  (42, none, .aload_n 0, 1, 0, 0, 0, 0, 0, []),
  (43, none, .getfield 12, 3, 9, 0, 10, 1, 0, []),
  (46, none, .getfield 99, 3, 8, 14, 0, 0, 0, []),
  (49, none, .iload_n 2, 1, 2, 0, 0, 0, 0, []),
  (50, none, .ifCond .eq 7, 3, 57, 0, 0, 0, 0, []),
  (53, none, .iconst 3, 1, 0, 0, 0, 0, 0, []),
  (54, none, .goto 4, 3, 58, 0, 0, 0, 0, []),
  (57, none, .iconst 5, 1, 0, 0, 0, 0, 0, []),
  (58, none, .iload_n 1, 1, 1, 0, 0, 0, 0, []),
  (59, none, .iconst 0, 1, 0, 0, 0, 0, 0, []),
  (60, none, .invokevirtual 102, 3, 50, 5, 2, 0, 0, []),
  (63, none, .pop, 1, 0, 0, 0, 0, 0, []),
  (64, none, .return_, 1, 0, 0, 0, 0, 0, [])]
noncomputable def K_world_passDay : List aE := [
  (0, none, .aload_n 0, 1, 0, 0, 0, 0, 0, []),
  (1, none, .invokevirtual 106, 3, 102, 1, 1, 0, 0, []),
  (4, none, .aload_n 0, 1, 0, 0, 0, 0, 0, []),
  (5, none, .invokevirtual 85, 3, 96, 1, 1, 0, 0, []),
  (8, none, .iload_n 1, 1, 1, 0, 0, 0, 0, []),
  (9, none, .ifCond .eq 10, 3, 19, 0, 0, 0, 0, []),
  (12, none, .aload_n 0, 1, 0, 0, 0, 0, 0, []),
  (13, none, .invokevirtual 109, 3, 104, 1, 2, 0, 0, []),
  (16, none, .goto 7, 3, 23, 0, 0, 0, 0, []),
  (19, none, .aload_n 0, 1, 0, 0, 0, 0, 0, []),
  (20, none, .invokevirtual 112, 3, 105, 1, 2, 0, 0, []),
  (23, none, .istore_n 2, 1, 2, 0, 0, 0, 0, []),
  (24, none, .iload_n 2, 1, 2, 0, 0, 0, 0, []),
  (25, none, .iconst (-1), 1, 0, 0, 0, 0, 0, []),
  (26, none, .if_icmp .ne 34, 3, 60, 0, 0, 0, 0, []),
  (29, none, .aload_n 0, 1, 0, 0, 0, 0, 0, []),
  (30, none, .getfield 40, 3, 9, 5, 7, 17, 0, []),
  (33, none, .aload_n 0, 1, 0, 0, 0, 0, 0, []),
  (34, none, .getfield 12, 3, 9, 0, 10, 1, 0, []),
  (37, none, .getfield 99, 3, 8, 14, 0, 0, 0, []),
  (40, none, .iconst 1, 1, 0, 0, 0, 0, 0, []),
  (41, none, .iconst (-1), 1, 0, 0, 0, 0, 0, []),
  (42, none, .iconst 5, 1, 0, 0, 0, 0, 0, []),
  (43, none, .invokevirtual 102, 3, 50, 5, 2, 0, 0, []),
  (46, none, .pop, 1, 0, 0, 0, 0, 0, []),
  (47, none, .aload_n 0, 1, 0, 0, 0, 0, 0, []),
  (48, none, .getfield 12, 3, 9, 0, 10, 1, 0, []),
  (51, none, .iconst (-1), 1, 0, 0, 0, 0, 0, []),
  (52, none, .iconst 5, 1, 0, 0, 0, 0, 0, []),
  (53, none, .iconst 0, 1, 0, 0, 0, 0, 0, []),
  (54, none, .invokevirtual 115, 3, 89, 4, 1, 0, 0, []),
  (57, none, .goto 51, 3, 108, 0, 0, 0, 0, []),
  (60, none, .aload_n 0, 1, 0, 0, 0, 0, 0, []),
  (61, none, .iconst 1, 1, 0, 0, 0, 0, 0, []),
  (62, none, .iload_n 2, 1, 2, 0, 0, 0, 0, []),
  (63, none, .invokevirtual 81, 3, 94, 3, 2, 0, 0, []),
  (66, none, .istore_n 3, 1, 3, 0, 0, 0, 0, []),
  (67, none, .aload_n 0, 1, 0, 0, 0, 0, 0, []),
  (68, none, .iconst 2, 1, 0, 0, 0, 0, 0, []),
  (69, none, .iload_n 2, 1, 2, 0, 0, 0, 0, []),
  (70, none, .invokevirtual 81, 3, 94, 3, 2, 0, 0, []),
  (73, none, .istore 4, 2, 4, 0, 0, 0, 0, []),
  (75, none, .aload_n 0, 1, 0, 0, 0, 0, 0, []),
  (76, none, .getfield 40, 3, 9, 5, 7, 17, 0, []),
  (79, none, .aload_n 0, 1, 0, 0, 0, 0, 0, []),
  (80, none, .getfield 12, 3, 9, 0, 10, 1, 0, []),
  (83, none, .getfield 99, 3, 8, 14, 0, 0, 0, []),
  (86, none, .iconst 0, 1, 0, 0, 0, 0, 0, []),
  (87, none, .iload_n 2, 1, 2, 0, 0, 0, 0, []),
  (88, none, .iload_n 3, 1, 3, 0, 0, 0, 0, []),
  (89, none, .invokevirtual 102, 3, 50, 5, 2, 0, 0, []),
  (92, none, .pop, 1, 0, 0, 0, 0, 0, []),
  (93, none, .aload_n 0, 1, 0, 0, 0, 0, 0, []),
  (94, none, .getfield 12, 3, 9, 0, 10, 1, 0, []),
  (97, none, .iload_n 2, 1, 2, 0, 0, 0, 0, []),
  (98, none, .iload_n 3, 1, 3, 0, 0, 0, 0, []),
  (99, none, .iload 4, 2, 4, 0, 0, 0, 0, []),
  (101, none, .invokevirtual 115, 3, 89, 4, 1, 0, 0, []),
  (104, none, .aload_n 0, 1, 0, 0, 0, 0, 0, []),
  (105, none, .invokevirtual 119, 3, 106, 1, 1, 0, 0, []),
  (108, none, .iload_n 1, 1, 1, 0, 0, 0, 0, []),
  (109, none, .ifCond .ne 7, 3, 116, 0, 0, 0, 0, []),
  (112, none, .aload_n 0, 1, 0, 0, 0, 0, 0, []),
  (113, none, .invokevirtual 122, 3, 107, 1, 1, 0, 0, []),
  (116, some [true, false, true, false, false], .aload_n 0, 1, 0, 0, 0, 0, 0, []),
  (117, none, .getfield 12, 3, 9, 0, 10, 1, 0, []),
  (120, none, .iconst 0, 1, 0, 0, 0, 0, 0, []),
  (121, none, .aload_n 0, 1, 0, 0, 0, 0, 0, []),
  (122, none, .getfield 12, 3, 9, 0, 10, 1, 0, []),
  (125, none, .getfield 125, 3, 8, 6, 0, 0, 0, []),
  (128, none, .iconst 1, 1, 0, 0, 0, 0, 0, []),
  (129, none, .isub, 1, 0, 0, 0, 0, 0, []),
  (130, none, .invokestatic 128, 3, 4, 0, 0, 0, 0, []),
  (133, none, .putfield 125, 3, 8, 6, 0, 0, 0, []),
  (136, none, .aload_n 0, 1, 0, 0, 0, 0, 0, []),
  (137, none, .getfield 12, 3, 9, 0, 10, 1, 0, []),
  (140, none, .iconst 0, 1, 0, 0, 0, 0, 0, []),
  (141, none, .aload_n 0, 1, 0, 0, 0, 0, 0, []),
  (142, none, .getfield 12, 3, 9, 0, 10, 1, 0, []),
  (145, none, .getfield 133, 3, 8, 7, 0, 0, 0, []),
  (148, none, .iconst 1, 1, 0, 0, 0, 0, 0, []),
  (149, none, .isub, 1, 0, 0, 0, 0, 0, []),
  (150, none, .invokestatic 128, 3, 4, 0, 0, 0, 0, []),
  (153, none, .putfield 133, 3, 8, 7, 0, 0, 0, []),
  (156, none, .aload_n 0, 1, 0, 0, 0, 0, 0, []),
  (157, none, .getfield 12, 3, 9, 0, 10, 1, 0, []),
  (160, none, .dup, 1, 0, 0, 0, 0, 0, []),
  (161, none, .getfield 99, 3, 8, 14, 0, 0, 0, []),
  (164, none, .iconst 1, 1, 0, 0, 0, 0, 0, []),
  (165, none, .iadd, 1, 0, 0, 0, 0, 0, []),
  (166, none, .putfield 99, 3, 8, 14, 0, 0, 0, []),
  (169, none, .iload_n 2, 1, 2, 0, 0, 0, 0, []),
  (170, none, .iconst (-1), 1, 0, 0, 0, 0, 0, []),
  (171, none, .if_icmp .ne 7, 3, 178, 0, 0, 0, 0, []),
  (174, none, .iconst 1, 1, 0, 0, 0, 0, 0, []),
  (175, none, .goto 4, 3, 179, 0, 0, 0, 0, []),
  (178, none, .iconst 0, 1, 0, 0, 0, 0, 0, []),
  (179, none, .ireturn, 1, 1, 0, 0, 0, 0, [])]
noncomputable def K_world_followPlan : List aE := [
  (0, none, .iconst 0, 1, 0, 0, 0, 0, 0, []),
  (1, none, .istore_n 1, 1, 1, 0, 0, 0, 0, []),
  (2, some [true, true], .iload_n 1, 1, 1, 0, 0, 0, 0, []),
  (3, none, .aload_n 0, 1, 0, 0, 0, 0, 0, []),
  (4, none, .getfield 30, 3, 9, 2, 7, 11, 0, []),
  (7, none, .getfield 136, 3, 5, 2, 0, 0, 0, []),
  (10, none, .if_icmp .ge 50, 3, 60, 0, 0, 0, 0, []),
  (13, none, .aload_n 0, 1, 0, 0, 0, 0, 0, []),
  (14, none, .getfield 30, 3, 9, 2, 7, 11, 0, []),
  (17, none, .iload_n 1, 1, 1, 0, 0, 0, 0, []),
  (18, none, .iconst 0, 1, 0, 0, 0, 0, 0, []),
  (19, none, .invokevirtual 139, 3, 49, 3, 2, 0, 0, []),
  (22, none, .aload_n 0, 1, 0, 0, 0, 0, 0, []),
  (23, none, .getfield 12, 3, 9, 0, 10, 1, 0, []),
  (26, none, .getfield 99, 3, 8, 14, 0, 0, 0, []),
  (29, none, .if_icmp .ne 25, 3, 54, 0, 0, 0, 0, []),
  (32, none, .aload_n 0, 1, 0, 0, 0, 0, 0, []),
  (33, none, .aload_n 0, 1, 0, 0, 0, 0, 0, []),
  (34, none, .getfield 30, 3, 9, 2, 7, 11, 0, []),
  (37, none, .iload_n 1, 1, 1, 0, 0, 0, 0, []),
  (38, none, .iconst 1, 1, 0, 0, 0, 0, 0, []),
  (39, none, .invokevirtual 139, 3, 49, 3, 2, 0, 0, []),
  (42, none, .aload_n 0, 1, 0, 0, 0, 0, 0, []),
  (43, none, .getfield 30, 3, 9, 2, 7, 11, 0, []),
  (46, none, .iload_n 1, 1, 1, 0, 0, 0, 0, []),
  (47, none, .iconst 2, 1, 0, 0, 0, 0, 0, []),
  (48, none, .invokevirtual 139, 3, 49, 3, 2, 0, 0, []),
  (51, none, .invokevirtual 142, 3, 103, 3, 1, 0, 0, []),
  (54, none, .iinc 1 1, 3, 1, 0, 0, 0, 0, []),
  (57, none, .goto (-55), 3, 2, 0, 0, 0, 0, []),
  (60, none, .return_, 1, 0, 0, 0, 0, 0, [])]
noncomputable def K_world_followLine : List aE := [
  (0, none, .iload_n 1, 1, 1, 0, 0, 0, 0, []),
  (1, none, .tableswitch 68 1 3 #[27, 38, 49], 27, 69, 0, 0, 0, 0, [(1, 28), (2, 39), (3, 50)]),
  (28, none, .aload_n 0, 1, 0, 0, 0, 0, 0, []),
  (29, none, .getfield 12, 3, 9, 0, 10, 1, 0, []),
  (32, none, .iload_n 2, 1, 2, 0, 0, 0, 0, []),
  (33, none, .putfield 125, 3, 8, 6, 0, 0, 0, []),
  (36, none, .goto 80, 3, 116, 0, 0, 0, 0, []),
  (39, none, .aload_n 0, 1, 0, 0, 0, 0, 0, []),
  (40, none, .getfield 12, 3, 9, 0, 10, 1, 0, []),
  (43, none, .iload_n 2, 1, 2, 0, 0, 0, 0, []),
  (44, none, .putfield 133, 3, 8, 7, 0, 0, 0, []),
  (47, none, .goto 69, 3, 116, 0, 0, 0, 0, []),
  (50, none, .aload_n 0, 1, 0, 0, 0, 0, 0, []),
  (51, none, .getfield 12, 3, 9, 0, 10, 1, 0, []),
  (54, none, .iconst 1, 1, 0, 0, 0, 0, 0, []),
  (55, none, .aload_n 0, 1, 0, 0, 0, 0, 0, []),
  (56, none, .getfield 12, 3, 9, 0, 10, 1, 0, []),
  (59, none, .getfield 146, 3, 8, 8, 0, 0, 0, []),
  (62, none, .isub, 1, 0, 0, 0, 0, 0, []),
  (63, none, .putfield 146, 3, 8, 8, 0, 0, 0, []),
  (66, none, .goto 50, 3, 116, 0, 0, 0, 0, []),
  (69, none, .aload_n 0, 1, 0, 0, 0, 0, 0, []),
  (70, none, .getfield 12, 3, 9, 0, 10, 1, 0, []),
  (73, none, .iload_n 2, 1, 2, 0, 0, 0, 0, []),
  (74, none, .invokevirtual 149, 3, 83, 2, 2, 0, 0, []),
  (77, none, .ifCond .eq 39, 3, 116, 0, 0, 0, 0, []),
  (80, none, .aload_n 0, 1, 0, 0, 0, 0, 0, []),
  (81, none, .getfield 12, 3, 9, 0, 10, 1, 0, []),
  (84, none, .iload_n 2, 1, 2, 0, 0, 0, 0, []),
  (85, none, .invokevirtual 77, 3, 84, 2, 2, 0, 0, []),
  (88, none, .iload_n 1, 1, 1, 0, 0, 0, 0, []),
  (89, none, .iconst 4, 1, 0, 0, 0, 0, 0, []),
  (90, none, .if_icmp .ne 7, 3, 97, 0, 0, 0, 0, []),
  (93, none, .iconst 1, 1, 0, 0, 0, 0, 0, []),
  (94, none, .goto 4, 3, 98, 0, 0, 0, 0, []),
  (97, none, .iconst 0, 1, 0, 0, 0, 0, 0, []),
  (98, none, .if_icmp .ne 18, 3, 116, 0, 0, 0, 0, []),
  (101, none, .aload_n 0, 1, 0, 0, 0, 0, 0, []),
  (102, none, .iload_n 2, 1, 2, 0, 0, 0, 0, []),
  (103, none, .iload_n 1, 1, 1, 0, 0, 0, 0, []),
  (104, none, .iconst 4, 1, 0, 0, 0, 0, 0, []),
  (105, none, .if_icmp .ne 7, 3, 112, 0, 0, 0, 0, []),
  (108, none, .iconst 1, 1, 0, 0, 0, 0, 0, []),
  (109, none, .goto 4, 3, 113, 0, 0, 0, 0, []),
  (112, none, .iconst 0, 1, 0, 0, 0, 0, 0, []),
  (113, none, .invokevirtual 152, 3, 100, 3, 1, 0, 0, []),
  (116, none, .return_, 1, 0, 0, 0, 0, 0, [])]
noncomputable def K_world_dreamtDeer : List aE := [
  (0, none, .aload_n 0, 1, 0, 0, 0, 0, 0, []),
  (1, none, .getfield 73, 3, 9, 13, 0, 0, 0, []),
  (4, none, .ifCond .le 10, 3, 14, 0, 0, 0, 0, []),
  (7, none, .aload_n 0, 1, 0, 0, 0, 0, 0, []),
  (8, none, .invokevirtual 88, 3, 98, 1, 2, 0, 0, []),
  (11, none, .goto 4, 3, 15, 0, 0, 0, 0, []),
  (14, none, .iconst (-1), 1, 0, 0, 0, 0, 0, []),
  (15, none, .ireturn, 1, 0, 0, 0, 0, 0, [])]
noncomputable def K_world_drawnDeer : List aE := [
  (0, none, .aload_n 0, 1, 0, 0, 0, 0, 0, []),
  (1, none, .getfield 12, 3, 9, 0, 10, 1, 0, []),
  (4, none, .getfield 93, 3, 8, 10, 0, 0, 0, []),
  (7, none, .ifCond .le 23, 3, 30, 0, 0, 0, 0, []),
  (10, none, .aload_n 0, 1, 0, 0, 0, 0, 0, []),
  (11, none, .getfield 12, 3, 9, 0, 10, 1, 0, []),
  (14, none, .sipush 1000, 3, 0, 0, 0, 0, 0, []),
  (17, none, .invokevirtual 156, 3, 87, 2, 2, 0, 0, []),
  (20, none, .aload_n 0, 1, 0, 0, 0, 0, 0, []),
  (21, none, .getfield 12, 3, 9, 0, 10, 1, 0, []),
  (24, none, .getfield 93, 3, 8, 10, 0, 0, 0, []),
  (27, none, .if_icmp .lt 10, 3, 37, 0, 0, 0, 0, []),
  (30, none, .aload_n 0, 1, 0, 0, 0, 0, 0, []),
  (31, none, .getfield 73, 3, 9, 13, 0, 0, 0, []),
  (34, none, .ifCond .gt 5, 3, 39, 0, 0, 0, 0, []),
  (37, none, .iconst (-1), 1, 0, 0, 0, 0, 0, []),
  (38, none, .ireturn, 1, 0, 0, 0, 0, 0, []),
  (39, none, .aload_n 0, 1, 0, 0, 0, 0, 0, []),
  (40, none, .getfield 12, 3, 9, 0, 10, 1, 0, []),
  (43, none, .aload_n 0, 1, 0, 0, 0, 0, 0, []),
  (44, none, .getfield 73, 3, 9, 13, 0, 0, 0, []),
  (47, none, .invokevirtual 156, 3, 87, 2, 2, 0, 0, []),
  (50, none, .istore_n 1, 1, 1, 0, 0, 0, 0, []),
  (51, none, .iconst 0, 1, 0, 0, 0, 0, 0, []),
  (52, none, .istore_n 2, 1, 2, 0, 0, 0, 0, []),
  (53, some [true, true, true], .iload_n 2, 1, 2, 0, 0, 0, 0, []),
  (54, none, .bipush 10, 2, 0, 0, 0, 0, 0, []),
  (56, none, .if_icmp .ge 24, 3, 80, 0, 0, 0, 0, []),
  (59, none, .iload_n 1, 1, 1, 0, 0, 0, 0, []),
  (60, none, .aload_n 0, 1, 0, 0, 0, 0, 0, []),
  (61, none, .getfield 62, 3, 9, 12, 22, 30, 0, []),
  (64, none, .iload_n 2, 1, 2, 0, 0, 0, 0, []),
  (65, none, .iaload, 1, 0, 0, 0, 0, 0, []),
  (66, none, .isub, 1, 0, 0, 0, 0, 0, []),
  (67, none, .istore_n 1, 1, 1, 0, 0, 0, 0, []),
  (68, none, .iload_n 1, 1, 1, 0, 0, 0, 0, []),
  (69, none, .ifCond .ge 5, 3, 74, 0, 0, 0, 0, []),
  (72, none, .iload_n 2, 1, 2, 0, 0, 0, 0, []),
  (73, none, .ireturn, 1, 0, 0, 0, 0, 0, []),
  (74, none, .iinc 2 1, 3, 2, 0, 0, 0, 0, []),
  (77, none, .goto (-24), 3, 53, 0, 0, 0, 0, []),
  (80, none, .iconst (-1), 1, 0, 0, 0, 0, 0, []),
  (81, none, .ireturn, 1, 0, 0, 0, 0, 0, [])]
noncomputable def K_world_payDues : List aE := [
  (0, none, .iconst 0, 1, 0, 0, 0, 0, 0, []),
  (1, none, .istore_n 1, 1, 1, 0, 0, 0, 0, []),
  (2, some [true, true, false], .iload_n 1, 1, 1, 0, 0, 0, 0, []),
  (3, none, .aload_n 0, 1, 0, 0, 0, 0, 0, []),
  (4, none, .getfield 34, 3, 9, 3, 7, 13, 0, []),
  (7, none, .getfield 136, 3, 5, 2, 0, 0, 0, []),
  (10, none, .if_icmp .ge 130, 3, 140, 0, 0, 0, 0, []),
  (13, none, .aload_n 0, 1, 0, 0, 0, 0, 0, []),
  (14, none, .getfield 12, 3, 9, 0, 10, 1, 0, []),
  (17, none, .iload_n 1, 1, 1, 0, 0, 0, 0, []),
  (18, none, .invokevirtual 160, 3, 85, 2, 2, 0, 0, []),
  (21, none, .ifCond .ne 26, 3, 47, 0, 0, 0, 0, []),
  (24, none, .aload_n 0, 1, 0, 0, 0, 0, 0, []),
  (25, none, .getfield 34, 3, 9, 3, 7, 13, 0, []),
  (28, none, .iload_n 1, 1, 1, 0, 0, 0, 0, []),
  (29, none, .iconst 1, 1, 0, 0, 0, 0, 0, []),
  (30, none, .invokevirtual 139, 3, 49, 3, 2, 0, 0, []),
  (33, none, .aload_n 0, 1, 0, 0, 0, 0, 0, []),
  (34, none, .getfield 12, 3, 9, 0, 10, 1, 0, []),
  (37, none, .getfield 163, 3, 8, 11, 0, 0, 0, []),
  (40, none, .if_icmp .ne 7, 3, 47, 0, 0, 0, 0, []),
  (43, none, .iconst 1, 1, 0, 0, 0, 0, 0, []),
  (44, none, .goto 4, 3, 48, 0, 0, 0, 0, []),
  (47, some [true, true, false], .iconst 0, 1, 0, 0, 0, 0, 0, []),
  (48, none, .istore_n 2, 1, 2, 0, 0, 0, 0, []),
  (49, none, .iload_n 2, 1, 2, 0, 0, 0, 0, []),
  (50, none, .ifCond .eq 84, 3, 134, 0, 0, 0, 0, []),
  (53, none, .aload_n 0, 1, 0, 0, 0, 0, 0, []),
  (54, none, .getfield 12, 3, 9, 0, 10, 1, 0, []),
  (57, none, .getfield 99, 3, 8, 14, 0, 0, 0, []),
  (60, none, .aload_n 0, 1, 0, 0, 0, 0, 0, []),
  (61, none, .getfield 34, 3, 9, 3, 7, 13, 0, []),
  (64, none, .iload_n 1, 1, 1, 0, 0, 0, 0, []),
  (65, none, .iconst 2, 1, 0, 0, 0, 0, 0, []),
  (66, none, .invokevirtual 139, 3, 49, 3, 2, 0, 0, []),
  (69, none, .if_icmp .le 65, 3, 134, 0, 0, 0, 0, []),
  (72, none, .aload_n 0, 1, 0, 0, 0, 0, 0, []),
  (73, none, .getfield 12, 3, 9, 0, 10, 1, 0, []),
  (76, none, .dup, 1, 0, 0, 0, 0, 0, []),
  (77, none, .getfield 166, 3, 8, 16, 0, 0, 0, []),
  (80, none, .iconst 1, 1, 0, 0, 0, 0, 0, []),
  (81, none, .iload_n 1, 1, 1, 0, 0, 0, 0, []),
  (82, none, .ishl, 1, 0, 0, 0, 0, 0, []),
  (83, none, .ior, 1, 0, 0, 0, 0, 0, []),
  (84, none, .putfield 166, 3, 8, 16, 0, 0, 0, []),
  (87, none, .aload_n 0, 1, 0, 0, 0, 0, 0, []),
  (88, none, .getfield 12, 3, 9, 0, 10, 1, 0, []),
  (91, none, .dup, 1, 0, 0, 0, 0, 0, []),
  (92, none, .getfield 169, 3, 8, 12, 0, 0, 0, []),
  (95, none, .aload_n 0, 1, 0, 0, 0, 0, 0, []),
  (96, none, .getfield 34, 3, 9, 3, 7, 13, 0, []),
  (99, none, .iload_n 1, 1, 1, 0, 0, 0, 0, []),
  (100, none, .iconst 0, 1, 0, 0, 0, 0, 0, []),
  (101, none, .invokevirtual 139, 3, 49, 3, 2, 0, 0, []),
  (104, none, .isub, 1, 0, 0, 0, 0, 0, []),
  (105, none, .putfield 169, 3, 8, 12, 0, 0, 0, []),
  (108, none, .aload_n 0, 1, 0, 0, 0, 0, 0, []),
  (109, none, .getfield 40, 3, 9, 5, 7, 17, 0, []),
  (112, none, .aload_n 0, 1, 0, 0, 0, 0, 0, []),
  (113, none, .getfield 12, 3, 9, 0, 10, 1, 0, []),
  (116, none, .getfield 99, 3, 8, 14, 0, 0, 0, []),
  (119, none, .iconst 2, 1, 0, 0, 0, 0, 0, []),
  (120, none, .iload_n 1, 1, 1, 0, 0, 0, 0, []),
  (121, none, .aload_n 0, 1, 0, 0, 0, 0, 0, []),
  (122, none, .getfield 34, 3, 9, 3, 7, 13, 0, []),
  (125, none, .iload_n 1, 1, 1, 0, 0, 0, 0, []),
  (126, none, .iconst 0, 1, 0, 0, 0, 0, 0, []),
  (127, none, .invokevirtual 139, 3, 49, 3, 2, 0, 0, []),
  (130, none, .invokevirtual 102, 3, 50, 5, 2, 0, 0, []),
  (133, none, .pop, 1, 0, 0, 0, 0, 0, []),
  (134, none, .iinc 1 1, 3, 1, 0, 0, 0, 0, []),
  (137, none, .goto (-135), 3, 2, 0, 0, 0, 0, []),
  (140, none, .return_, 1, 0, 0, 0, 0, 0, [])]
noncomputable def K_world_sendWolves : List aE := [
  (0, none, .aload_n 0, 1, 0, 0, 0, 0, 0, []),
  (1, none, .getfield 12, 3, 9, 0, 10, 1, 0, []),
  (4, none, .getfield 172, 3, 8, 9, 0, 0, 0, []),
  (7, none, .ifCond .le 33, 3, 40, 0, 0, 0, 0, []),
  (10, none, .aload_n 0, 1, 0, 0, 0, 0, 0, []),
  (11, none, .getfield 12, 3, 9, 0, 10, 1, 0, []),
  (14, none, .getfield 96, 3, 8, 5, 0, 0, 0, []),
  (17, none, .ifCond .eq 23, 3, 40, 0, 0, 0, 0, []),
  (20, none, .aload_n 0, 1, 0, 0, 0, 0, 0, []),
  (21, none, .getfield 12, 3, 9, 0, 10, 1, 0, []),
  (24, none, .sipush 1000, 3, 0, 0, 0, 0, 0, []),
  (27, none, .invokevirtual 156, 3, 87, 2, 2, 0, 0, []),
  (30, none, .aload_n 0, 1, 0, 0, 0, 0, 0, []),
  (31, none, .getfield 12, 3, 9, 0, 10, 1, 0, []),
  (34, none, .getfield 172, 3, 8, 9, 0, 0, 0, []),
  (37, none, .if_icmp .lt 4, 3, 41, 0, 0, 0, 0, []),
  (40, none, .return_, 1, 0, 0, 0, 0, 0, []),
  (41, none, .aload_n 0, 1, 0, 0, 0, 0, 0, []),
  (42, none, .getfield 12, 3, 9, 0, 10, 1, 0, []),
  (45, none, .invokevirtual 175, 3, 90, 1, 2, 0, 0, []),
  (48, none, .istore_n 1, 1, 1, 0, 0, 0, 0, []),
  (49, none, .iload_n 1, 1, 1, 0, 0, 0, 0, []),
  (50, none, .iconst (-1), 1, 0, 0, 0, 0, 0, []),
  (51, none, .if_icmp .eq 38, 3, 89, 0, 0, 0, 0, []),
  (54, none, .aload_n 0, 1, 0, 0, 0, 0, 0, []),
  (55, none, .getfield 12, 3, 9, 0, 10, 1, 0, []),
  (58, none, .dup, 1, 0, 0, 0, 0, 0, []),
  (59, none, .getfield 96, 3, 8, 5, 0, 0, 0, []),
  (62, none, .iconst 1, 1, 0, 0, 0, 0, 0, []),
  (63, none, .iload_n 1, 1, 1, 0, 0, 0, 0, []),
  (64, none, .ishl, 1, 0, 0, 0, 0, 0, []),
  (65, none, .iconst (-1), 1, 0, 0, 0, 0, 0, []),
  (66, none, .ixor, 1, 0, 0, 0, 0, 0, []),
  (67, none, .iand, 1, 0, 0, 0, 0, 0, []),
  (68, none, .putfield 96, 3, 8, 5, 0, 0, 0, []),
  (71, none, .aload_n 0, 1, 0, 0, 0, 0, 0, []),
  (72, none, .getfield 40, 3, 9, 5, 7, 17, 0, []),
  (75, none, .aload_n 0, 1, 0, 0, 0, 0, 0, []),
  (76, none, .getfield 12, 3, 9, 0, 10, 1, 0, []),
  (79, none, .getfield 99, 3, 8, 14, 0, 0, 0, []),
  (82, none, .iconst 4, 1, 0, 0, 0, 0, 0, []),
  (83, none, .iload_n 1, 1, 1, 0, 0, 0, 0, []),
  (84, none, .iconst 0, 1, 0, 0, 0, 0, 0, []),
  (85, none, .invokevirtual 102, 3, 50, 5, 2, 0, 0, []),
  (88, none, .pop, 1, 0, 0, 0, 0, 0, []),
  (89, none, .return_, 1, 0, 0, 0, 0, 0, [])]
noncomputable def K_world_copyFrom : List aE := [
  (0, none, .aload_n 0, 1, 0, 0, 0, 0, 0, []),
  (1, none, .getfield 12, 3, 9, 0, 10, 1, 0, []),
  (4, none, .aload_n 1, 1, 1, 0, 0, 0, 0, []),
  (5, none, .getfield 12, 3, 9, 0, 10, 1, 0, []),
  (8, none, .invokevirtual 178, 3, 93, 2, 1, 0, 0, []),
  (11, none, .aload_n 0, 1, 0, 0, 0, 0, 0, []),
  (12, none, .getfield 21, 3, 9, 1, 4, 6, 0, []),
  (15, none, .aload_n 1, 1, 1, 0, 0, 0, 0, []),
  (16, none, .getfield 21, 3, 9, 1, 4, 6, 0, []),
  (19, none, .invokevirtual 182, 3, 17, 2, 1, 0, 0, []),
  (22, none, .aload_n 0, 1, 0, 0, 0, 0, 0, []),
  (23, none, .getfield 30, 3, 9, 2, 7, 11, 0, []),
  (26, none, .aload_n 1, 1, 1, 0, 0, 0, 0, []),
  (27, none, .getfield 30, 3, 9, 2, 7, 11, 0, []),
  (30, none, .invokevirtual 185, 3, 52, 2, 1, 0, 0, []),
  (33, none, .aload_n 0, 1, 0, 0, 0, 0, 0, []),
  (34, none, .getfield 34, 3, 9, 3, 7, 13, 0, []),
  (37, none, .aload_n 1, 1, 1, 0, 0, 0, 0, []),
  (38, none, .getfield 34, 3, 9, 3, 7, 13, 0, []),
  (41, none, .invokevirtual 185, 3, 52, 2, 1, 0, 0, []),
  (44, none, .aload_n 0, 1, 0, 0, 0, 0, 0, []),
  (45, none, .getfield 37, 3, 9, 4, 7, 15, 0, []),
  (48, none, .aload_n 1, 1, 1, 0, 0, 0, 0, []),
  (49, none, .getfield 37, 3, 9, 4, 7, 15, 0, []),
  (52, none, .invokevirtual 185, 3, 52, 2, 1, 0, 0, []),
  (55, none, .aload_n 0, 1, 0, 0, 0, 0, 0, []),
  (56, none, .getfield 40, 3, 9, 5, 7, 17, 0, []),
  (59, none, .aload_n 1, 1, 1, 0, 0, 0, 0, []),
  (60, none, .getfield 40, 3, 9, 5, 7, 17, 0, []),
  (63, none, .invokevirtual 185, 3, 52, 2, 1, 0, 0, []),
  (66, none, .aload_n 0, 1, 0, 0, 0, 0, 0, []),
  (67, none, .getfield 43, 3, 9, 6, 7, 19, 0, []),
  (70, none, .aload_n 1, 1, 1, 0, 0, 0, 0, []),
  (71, none, .getfield 43, 3, 9, 6, 7, 19, 0, []),
  (74, none, .invokevirtual 185, 3, 52, 2, 1, 0, 0, []),
  (77, none, .aload_n 0, 1, 0, 0, 0, 0, 0, []),
  (78, none, .getfield 46, 3, 9, 7, 7, 21, 0, []),
  (81, none, .aload_n 1, 1, 1, 0, 0, 0, 0, []),
  (82, none, .getfield 46, 3, 9, 7, 7, 21, 0, []),
  (85, none, .invokevirtual 185, 3, 52, 2, 1, 0, 0, []),
  (88, none, .aload_n 0, 1, 0, 0, 0, 0, 0, []),
  (89, none, .getfield 49, 3, 9, 8, 7, 23, 0, []),
  (92, none, .aload_n 1, 1, 1, 0, 0, 0, 0, []),
  (93, none, .getfield 49, 3, 9, 8, 7, 23, 0, []),
  (96, none, .invokevirtual 185, 3, 52, 2, 1, 0, 0, []),
  (99, none, .aload_n 0, 1, 0, 0, 0, 0, 0, []),
  (100, none, .getfield 52, 3, 9, 9, 7, 25, 0, []),
  (103, none, .aload_n 1, 1, 1, 0, 0, 0, 0, []),
  (104, none, .getfield 52, 3, 9, 9, 7, 25, 0, []),
  (107, none, .invokevirtual 185, 3, 52, 2, 1, 0, 0, []),
  (110, none, .aload_n 0, 1, 0, 0, 0, 0, 0, []),
  (111, none, .getfield 55, 3, 9, 10, 7, 27, 0, []),
  (114, none, .aload_n 1, 1, 1, 0, 0, 0, 0, []),
  (115, none, .getfield 55, 3, 9, 10, 7, 27, 0, []),
  (118, none, .invokevirtual 185, 3, 52, 2, 1, 0, 0, []),
  (121, none, .return_, 1, 0, 0, 0, 0, 0, [])]
noncomputable def K_x_state : List aE := [
  (0, none, .aload_n 0, 1, 0, 0, 0, 0, 0, []),
  (1, none, .getfield 10, 3, 10, 0, 11, 1, 0, []),
  (4, none, .getfield 70, 3, 9, 0, 10, 1, 0, []),
  (7, none, .getfield 74, 3, 8, 15, 0, 0, 0, []),
  (10, none, .istore_n 2, 1, 2, 0, 0, 0, 0, []),
  (11, none, .aload_n 0, 1, 0, 0, 0, 0, 0, []),
  (12, none, .getfield 10, 3, 10, 0, 11, 1, 0, []),
  (15, none, .getfield 70, 3, 9, 0, 10, 1, 0, []),
  (18, none, .iload_n 1, 1, 1, 0, 0, 0, 0, []),
  (19, none, .putfield 74, 3, 8, 15, 0, 0, 0, []),
  (22, none, .aload_n 0, 1, 0, 0, 0, 0, 0, []),
  (23, none, .getfield 25, 3, 10, 3, 2, 94, 0, []),
  (26, none, .invokevirtual 80, 3, 0, 1, 1, 0, 0, []),
  (29, none, .iload_n 2, 1, 2, 0, 0, 0, 0, []),
  (30, none, .ireturn, 1, 0, 0, 0, 0, 0, [])]
noncomputable def K_x_deer : List aE := [
  (0, none, .iload_n 1, 1, 1, 0, 0, 0, 0, []),
  (1, none, .iconst 5, 1, 0, 0, 0, 0, 0, []),
  (2, none, .invokestatic 83, 3, 143, 2, 2, 0, 0, []),
  (5, none, .ifCond .eq 27, 3, 32, 0, 0, 0, 0, []),
  (8, none, .iload_n 2, 1, 2, 0, 0, 0, 0, []),
  (9, none, .bipush 9, 2, 0, 0, 0, 0, 0, []),
  (11, none, .invokestatic 83, 3, 143, 2, 2, 0, 0, []),
  (14, none, .ifCond .eq 18, 3, 32, 0, 0, 0, 0, []),
  (17, none, .aload_n 0, 1, 0, 0, 0, 0, 0, []),
  (18, none, .getfield 10, 3, 10, 0, 11, 1, 0, []),
  (21, none, .getfield 70, 3, 9, 0, 10, 1, 0, []),
  (24, none, .getfield 87, 3, 8, 4, 0, 0, 0, []),
  (27, none, .bipush 10, 2, 0, 0, 0, 0, 0, []),
  (29, none, .if_icmp .lt 5, 3, 34, 0, 0, 0, 0, []),
  (32, none, .iconst (-1), 1, 0, 0, 0, 0, 0, []),
  (33, none, .ireturn, 1, 0, 0, 0, 0, 0, []),
  (34, none, .aload_n 0, 1, 0, 0, 0, 0, 0, []),
  (35, none, .getfield 25, 3, 10, 3, 2, 94, 0, []),
  (38, none, .invokevirtual 80, 3, 0, 1, 1, 0, 0, []),
  (41, none, .aload_n 0, 1, 0, 0, 0, 0, 0, []),
  (42, none, .getfield 10, 3, 10, 0, 11, 1, 0, []),
  (45, none, .getfield 70, 3, 9, 0, 10, 1, 0, []),
  (48, none, .iload_n 1, 1, 1, 0, 0, 0, 0, []),
  (49, none, .iload_n 2, 1, 2, 0, 0, 0, 0, []),
  (50, none, .invokevirtual 90, 3, 86, 3, 2, 0, 0, []),
  (53, none, .ireturn, 1, 0, 0, 0, 0, 0, [])]
noncomputable def K_x_set : List aE := [
  (0, none, .iload_n 1, 1, 1, 0, 0, 0, 0, []),
  (1, none, .iconst 5, 1, 0, 0, 0, 0, 0, []),
  (2, none, .if_icmp .lt 13, 3, 15, 0, 0, 0, 0, []),
  (5, none, .aload_n 0, 1, 0, 0, 0, 0, 0, []),
  (6, none, .iload_n 1, 1, 1, 0, 0, 0, 0, []),
  (7, none, .iload_n 2, 1, 2, 0, 0, 0, 0, []),
  (8, none, .iload_n 3, 1, 3, 0, 0, 0, 0, []),
  (9, none, .invokevirtual 94, 3, 145, 4, 2, 0, 0, []),
  (12, none, .goto 9, 3, 21, 0, 0, 0, 0, []),
  (15, none, .aload_n 0, 1, 0, 0, 0, 0, 0, []),
  (16, none, .iload_n 1, 1, 1, 0, 0, 0, 0, []),
  (17, none, .iload_n 3, 1, 3, 0, 0, 0, 0, []),
  (18, none, .invokevirtual 98, 3, 144, 3, 2, 0, 0, []),
  (21, none, .istore 4, 2, 4, 0, 0, 0, 0, []),
  (23, none, .iload 4, 2, 4, 0, 0, 0, 0, []),
  (25, none, .ifCond .eq 10, 3, 35, 0, 0, 0, 0, []),
  (28, none, .aload_n 0, 1, 0, 0, 0, 0, 0, []),
  (29, none, .getfield 25, 3, 10, 3, 2, 94, 0, []),
  (32, none, .invokevirtual 80, 3, 0, 1, 1, 0, 0, []),
  (35, none, .iload 4, 2, 4, 0, 0, 0, 0, []),
  (37, none, .ireturn, 1, 1, 0, 0, 0, 0, [])]
noncomputable def K_x_eat : List aE := [
  (0, none, .aload_n 0, 1, 0, 0, 0, 0, 0, []),
  (1, none, .getfield 10, 3, 10, 0, 11, 1, 0, []),
  (4, none, .getfield 70, 3, 9, 0, 10, 1, 0, []),
  (7, none, .iload_n 1, 1, 1, 0, 0, 0, 0, []),
  (8, none, .invokevirtual 101, 3, 83, 2, 2, 0, 0, []),
  (11, none, .ifCond .eq 18, 3, 29, 0, 0, 0, 0, []),
  (14, none, .aload_n 0, 1, 0, 0, 0, 0, 0, []),
  (15, none, .getfield 10, 3, 10, 0, 11, 1, 0, []),
  (18, none, .getfield 70, 3, 9, 0, 10, 1, 0, []),
  (21, none, .iload_n 1, 1, 1, 0, 0, 0, 0, []),
  (22, none, .invokevirtual 105, 3, 84, 2, 2, 0, 0, []),
  (25, none, .iload_n 2, 1, 2, 0, 0, 0, 0, []),
  (26, none, .if_icmp .eq 5, 3, 31, 0, 0, 0, 0, []),
  (29, none, .iconst 0, 1, 0, 0, 0, 0, 0, []),
  (30, none, .ireturn, 1, 1, 0, 0, 0, 0, []),
  (31, none, .aload_n 0, 1, 0, 0, 0, 0, 0, []),
  (32, none, .getfield 25, 3, 10, 3, 2, 94, 0, []),
  (35, none, .aload_n 0, 1, 0, 0, 0, 0, 0, []),
  (36, none, .getfield 10, 3, 10, 0, 11, 1, 0, []),
  (39, none, .invokevirtual 108, 3, 1, 2, 1, 0, 0, []),
  (42, none, .aload_n 0, 1, 0, 0, 0, 0, 0, []),
  (43, none, .getfield 10, 3, 10, 0, 11, 1, 0, []),
  (46, none, .iload_n 1, 1, 1, 0, 0, 0, 0, []),
  (47, none, .iload_n 2, 1, 2, 0, 0, 0, 0, []),
  (48, none, .invokevirtual 112, 3, 100, 3, 1, 0, 0, []),
  (51, none, .iconst 1, 1, 0, 0, 0, 0, 0, []),
  (52, none, .ireturn, 1, 1, 0, 0, 0, 0, [])]
noncomputable def K_x_days : List aE := [
  (0, none, .iload_n 1, 1, 1, 0, 0, 0, 0, []),
  (1, none, .iconst 1, 1, 0, 0, 0, 0, 0, []),
  (2, none, .if_icmp .lt 27, 3, 29, 0, 0, 0, 0, []),
  (5, none, .iload_n 1, 1, 1, 0, 0, 0, 0, []),
  (6, none, .bipush 60, 2, 0, 0, 0, 0, 0, []),
  (8, none, .if_icmp .gt 21, 3, 29, 0, 0, 0, 0, []),
  (11, none, .aload_n 0, 1, 0, 0, 0, 0, 0, []),
  (12, none, .getfield 10, 3, 10, 0, 11, 1, 0, []),
  (15, none, .getfield 70, 3, 9, 0, 10, 1, 0, []),
  (18, none, .getfield 116, 3, 8, 14, 0, 0, 0, []),
  (21, none, .iload_n 1, 1, 1, 0, 0, 0, 0, []),
  (22, none, .iadd, 1, 0, 0, 0, 0, 0, []),
  (23, none, .sipush 9999, 3, 0, 0, 0, 0, 0, []),
  (26, none, .if_icmp .le 5, 3, 31, 0, 0, 0, 0, []),
  (29, none, .iconst (-1), 1, 0, 0, 0, 0, 0, []),
  (30, none, .ireturn, 1, 0, 0, 0, 0, 0, []),
  (31, none, .iconst 0, 1, 0, 0, 0, 0, 0, []),
  (32, none, .istore_n 2, 1, 2, 0, 0, 0, 0, []),
  (33, none, .iconst 0, 1, 0, 0, 0, 0, 0, []),
  (34, none, .istore_n 3, 1, 3, 0, 0, 0, 0, []),
  (35, some [true, true, true, true], .iload_n 3, 1, 3, 0, 0, 0, 0, []),
  (36, none, .iload_n 1, 1, 1, 0, 0, 0, 0, []),
  (37, none, .if_icmp .ge 34, 3, 71, 0, 0, 0, 0, []),
  (40, none, .aload_n 0, 1, 0, 0, 0, 0, 0, []),
  (41, none, .getfield 25, 3, 10, 3, 2, 94, 0, []),
  (44, none, .aload_n 0, 1, 0, 0, 0, 0, 0, []),
  (45, none, .getfield 10, 3, 10, 0, 11, 1, 0, []),
  (48, none, .invokevirtual 108, 3, 1, 2, 1, 0, 0, []),
  (51, none, .aload_n 0, 1, 0, 0, 0, 0, 0, []),
  (52, none, .getfield 10, 3, 10, 0, 11, 1, 0, []),
  (55, none, .iconst 0, 1, 0, 0, 0, 0, 0, []),
  (56, none, .invokevirtual 119, 3, 101, 2, 2, 0, 0, []),
  (59, none, .ifCond .eq 6, 3, 65, 0, 0, 0, 0, []),
  (62, none, .iinc 2 1, 3, 2, 0, 0, 0, 0, []),
  (65, none, .iinc 3 1, 3, 3, 0, 0, 0, 0, []),
  (68, none, .goto (-33), 3, 35, 0, 0, 0, 0, []),
  (71, none, .iload_n 2, 1, 2, 0, 0, 0, 0, []),
  (72, none, .ireturn, 1, 0, 0, 0, 0, 0, [])]
noncomputable def K_x_waitFor : List aE := [
  (0, none, .aload_n 0, 1, 0, 0, 0, 0, 0, []),
  (1, none, .getfield 10, 3, 10, 0, 11, 1, 0, []),
  (4, none, .getfield 70, 3, 9, 0, 10, 1, 0, []),
  (7, none, .iload_n 1, 1, 1, 0, 0, 0, 0, []),
  (8, none, .invokevirtual 101, 3, 83, 2, 2, 0, 0, []),
  (11, none, .ifCond .eq 22, 3, 33, 0, 0, 0, 0, []),
  (14, none, .aload_n 0, 1, 0, 0, 0, 0, 0, []),
  (15, none, .getfield 10, 3, 10, 0, 11, 1, 0, []),
  (18, none, .getfield 70, 3, 9, 0, 10, 1, 0, []),
  (21, none, .getfield 116, 3, 8, 14, 0, 0, 0, []),
  (24, none, .bipush 30, 2, 0, 0, 0, 0, 0, []),
  (26, none, .iadd, 1, 0, 0, 0, 0, 0, []),
  (27, none, .sipush 9999, 3, 0, 0, 0, 0, 0, []),
  (30, none, .if_icmp .le 6, 3, 36, 0, 0, 0, 0, []),
  (33, none, .bipush (-2), 2, 0, 0, 0, 0, 0, []),
  (35, none, .ireturn, 1, 0, 0, 0, 0, 0, []),
  (36, none, .iconst 1, 1, 0, 0, 0, 0, 0, []),
  (37, none, .istore_n 2, 1, 2, 0, 0, 0, 0, []),
  (38, some [true, true, true], .iload_n 2, 1, 2, 0, 0, 0, 0, []),
  (39, none, .bipush 30, 2, 0, 0, 0, 0, 0, []),
  (41, none, .if_icmp .gt 45, 3, 86, 0, 0, 0, 0, []),
  (44, none, .aload_n 0, 1, 0, 0, 0, 0, 0, []),
  (45, none, .getfield 25, 3, 10, 3, 2, 94, 0, []),
  (48, none, .aload_n 0, 1, 0, 0, 0, 0, 0, []),
  (49, none, .getfield 10, 3, 10, 0, 11, 1, 0, []),
  (52, none, .invokevirtual 108, 3, 1, 2, 1, 0, 0, []),
  (55, none, .aload_n 0, 1, 0, 0, 0, 0, 0, []),
  (56, none, .getfield 10, 3, 10, 0, 11, 1, 0, []),
  (59, none, .iconst 0, 1, 0, 0, 0, 0, 0, []),
  (60, none, .invokevirtual 119, 3, 101, 2, 2, 0, 0, []),
  (63, none, .pop, 1, 0, 0, 0, 0, 0, []),
  (64, none, .aload_n 0, 1, 0, 0, 0, 0, 0, []),
  (65, none, .getfield 10, 3, 10, 0, 11, 1, 0, []),
  (68, none, .getfield 70, 3, 9, 0, 10, 1, 0, []),
  (71, none, .getfield 123, 3, 8, 11, 0, 0, 0, []),
  (74, none, .iload_n 1, 1, 1, 0, 0, 0, 0, []),
  (75, none, .if_icmp .ne 5, 3, 80, 0, 0, 0, 0, []),
  (78, none, .iload_n 2, 1, 2, 0, 0, 0, 0, []),
  (79, none, .ireturn, 1, 0, 0, 0, 0, 0, []),
  (80, none, .iinc 2 1, 3, 2, 0, 0, 0, 0, []),
  (83, none, .goto (-45), 3, 38, 0, 0, 0, 0, []),
  (86, none, .iconst (-1), 1, 0, 0, 0, 0, 0, []),
  (87, none, .ireturn, 1, 0, 0, 0, 0, 0, [])]
noncomputable def K_x_feed : List aE := [
  (0, none, .aload_n 0, 1, 0, 0, 0, 0, 0, []),
  (1, none, .getfield 32, 3, 10, 4, 8, 127, 0, []),
  (4, none, .getfield 126, 3, 6, 5, 0, 0, 0, []),
  (7, none, .bipush 20, 2, 0, 0, 0, 0, 0, []),
  (9, none, .iadd, 1, 0, 0, 0, 0, 0, []),
  (10, none, .sipush 400, 3, 0, 0, 0, 0, 0, []),
  (13, none, .if_icmp .le 5, 3, 18, 0, 0, 0, 0, []),
  (16, none, .iconst (-1), 1, 0, 0, 0, 0, 0, []),
  (17, none, .ireturn, 1, 0, 0, 0, 0, 0, []),
  (18, none, .aload_n 0, 1, 0, 0, 0, 0, 0, []),
  (19, none, .getfield 32, 3, 10, 4, 8, 127, 0, []),
  (22, none, .iload_n 1, 1, 1, 0, 0, 0, 0, []),
  (23, none, .invokevirtual 127, 3, 53, 2, 1, 0, 0, []),
  (26, none, .aload_n 0, 1, 0, 0, 0, 0, 0, []),
  (27, none, .getfield 32, 3, 10, 4, 8, 127, 0, []),
  (30, none, .iload_n 2, 1, 2, 0, 0, 0, 0, []),
  (31, none, .invokevirtual 127, 3, 53, 2, 1, 0, 0, []),
  (34, none, .aload_n 0, 1, 0, 0, 0, 0, 0, []),
  (35, none, .getfield 32, 3, 10, 4, 8, 127, 0, []),
  (38, none, .iload_n 3, 1, 3, 0, 0, 0, 0, []),
  (39, none, .invokevirtual 127, 3, 53, 2, 1, 0, 0, []),
  (42, none, .aload_n 0, 1, 0, 0, 0, 0, 0, []),
  (43, none, .getfield 32, 3, 10, 4, 8, 127, 0, []),
  (46, none, .iload 4, 2, 4, 0, 0, 0, 0, []),
  (48, none, .invokevirtual 127, 3, 53, 2, 1, 0, 0, []),
  (51, none, .aload_n 0, 1, 0, 0, 0, 0, 0, []),
  (52, none, .getfield 32, 3, 10, 4, 8, 127, 0, []),
  (55, none, .iload 5, 2, 5, 0, 0, 0, 0, []),
  (57, none, .invokevirtual 127, 3, 53, 2, 1, 0, 0, []),
  (60, none, .aload_n 0, 1, 0, 0, 0, 0, 0, []),
  (61, none, .getfield 32, 3, 10, 4, 8, 127, 0, []),
  (64, none, .getfield 126, 3, 6, 5, 0, 0, 0, []),
  (67, none, .ireturn, 1, 0, 0, 0, 0, 0, [])]
noncomputable def K_x_end : List aE := [
  (0, none, .iload_n 1, 1, 1, 0, 0, 0, 0, []),
  (1, none, .ifCond .lt 14, 3, 15, 0, 0, 0, 0, []),
  (4, none, .iload_n 1, 1, 1, 0, 0, 0, 0, []),
  (5, none, .aload_n 0, 1, 0, 0, 0, 0, 0, []),
  (6, none, .getfield 32, 3, 10, 4, 8, 127, 0, []),
  (9, none, .getfield 126, 3, 6, 5, 0, 0, 0, []),
  (12, none, .if_icmp .le 5, 3, 17, 0, 0, 0, 0, []),
  (15, none, .iconst 0, 1, 0, 0, 0, 0, 0, []),
  (16, none, .ireturn, 1, 1, 0, 0, 0, 0, []),
  (17, none, .aload_n 0, 1, 0, 0, 0, 0, 0, []),
  (18, none, .getfield 32, 3, 10, 4, 8, 127, 0, []),
  (21, none, .iload_n 1, 1, 1, 0, 0, 0, 0, []),
  (22, none, .putfield 126, 3, 6, 5, 0, 0, 0, []),
  (25, none, .iconst 1, 1, 0, 0, 0, 0, 0, []),
  (26, none, .ireturn, 1, 1, 0, 0, 0, 0, [])]
noncomputable def K_x_text : List aE := [
  (0, none, .aload_n 0, 1, 0, 0, 0, 0, 0, []),
  (1, none, .getfield 41, 3, 10, 5, 6, 132, 0, []),
  (4, none, .iload_n 1, 1, 1, 0, 0, 0, 0, []),
  (5, none, .aload_n 0, 1, 0, 0, 0, 0, 0, []),
  (6, none, .getfield 10, 3, 10, 0, 11, 1, 0, []),
  (9, none, .getfield 70, 3, 9, 0, 10, 1, 0, []),
  (12, none, .getfield 87, 3, 8, 4, 0, 0, 0, []),
  (15, none, .invokevirtual 131, 3, 28, 3, 2, 0, 0, []),
  (18, none, .istore_n 2, 1, 2, 0, 0, 0, 0, []),
  (19, none, .aload_n 0, 1, 0, 0, 0, 0, 0, []),
  (20, none, .getfield 32, 3, 10, 4, 8, 127, 0, []),
  (23, none, .iconst 0, 1, 0, 0, 0, 0, 0, []),
  (24, none, .putfield 126, 3, 6, 5, 0, 0, 0, []),
  (27, none, .iload_n 2, 1, 2, 0, 0, 0, 0, []),
  (28, none, .ifCond .eq 11, 3, 39, 0, 0, 0, 0, []),
  (31, none, .aload_n 0, 1, 0, 0, 0, 0, 0, []),
  (32, none, .iload_n 1, 1, 1, 0, 0, 0, 0, []),
  (33, none, .invokevirtual 134, 3, 146, 2, 2, 0, 0, []),
  (36, none, .goto 4, 3, 40, 0, 0, 0, 0, []),
  (39, none, .iconst (-1), 1, 0, 0, 0, 0, 0, []),
  (40, none, .ireturn, 1, 0, 0, 0, 0, 0, [])]
noncomputable def K_x_fault : List aE := [
  (0, none, .iload_n 1, 1, 1, 0, 0, 0, 0, []),
  (1, none, .lookupswitch 43 #[(0, 27), (1, 35)], 27, 44, 0, 0, 0, 0, [(0, 28), (1, 36)]),
  (28, none, .aload_n 0, 1, 0, 0, 0, 0, 0, []),
  (29, none, .getfield 41, 3, 10, 5, 6, 132, 0, []),
  (32, none, .getfield 138, 3, 4, 2, 0, 0, 0, []),
  (35, none, .ireturn, 1, 0, 0, 0, 0, 0, []),
  (36, none, .aload_n 0, 1, 0, 0, 0, 0, 0, []),
  (37, none, .getfield 41, 3, 10, 5, 6, 132, 0, []),
  (40, none, .getfield 141, 3, 4, 3, 0, 0, 0, []),
  (43, none, .ireturn, 1, 0, 0, 0, 0, 0, []),
  (44, none, .iconst (-1), 1, 0, 0, 0, 0, 0, []),
  (45, none, .ireturn, 1, 0, 0, 0, 0, 0, [])]
noncomputable def K_x_of : List aE := [
  (0, none, .aload_n 0, 1, 0, 0, 0, 0, 0, []),
  (1, none, .getfield 10, 3, 10, 0, 11, 1, 0, []),
  (4, none, .getfield 70, 3, 9, 0, 10, 1, 0, []),
  (7, none, .astore_n 3, 1, 3, 0, 0, 0, 0, []),
  (8, none, .aload_n 3, 1, 3, 0, 0, 0, 0, []),
  (9, none, .iload_n 1, 1, 1, 0, 0, 0, 0, []),
  (10, none, .invokevirtual 101, 3, 83, 2, 2, 0, 0, []),
  (13, none, .ifCond .ne 5, 3, 18, 0, 0, 0, 0, []),
  (16, none, .iconst (-1), 1, 0, 0, 0, 0, 0, []),
  (17, none, .ireturn, 1, 0, 0, 0, 0, 0, []),
  (18, none, .iload_n 2, 1, 2, 0, 0, 0, 0, []),
  (19, none, .tableswitch 117 0 7 #[45, 52, 59, 73, 80, 87, 97, 107], 45, 136, 0, 0, 0, 0, [(0, 64), (1, 71), (2, 78), (3, 92), (4, 99), (5, 106), (6, 116), (7, 126)]),
  (64, none, .aload_n 3, 1, 3, 0, 0, 0, 0, []),
  (65, none, .getfield 144, 3, 8, 0, 22, 1, 0, []),
  (68, none, .iload_n 1, 1, 1, 0, 0, 0, 0, []),
  (69, none, .iaload, 1, 0, 0, 0, 0, 0, []),
  (70, none, .ireturn, 1, 0, 0, 0, 0, 0, []),
  (71, none, .aload_n 3, 1, 3, 0, 0, 0, 0, []),
  (72, none, .getfield 148, 3, 8, 1, 22, 2, 0, []),
  (75, none, .iload_n 1, 1, 1, 0, 0, 0, 0, []),
  (76, none, .iaload, 1, 0, 0, 0, 0, 0, []),
  (77, none, .ireturn, 1, 0, 0, 0, 0, 0, []),
  (78, none, .aload_n 3, 1, 3, 0, 0, 0, 0, []),
  (79, none, .iload_n 1, 1, 1, 0, 0, 0, 0, []),
  (80, none, .invokevirtual 105, 3, 84, 2, 2, 0, 0, []),
  (83, none, .ifCond .eq 7, 3, 90, 0, 0, 0, 0, []),
  (86, none, .iconst 1, 1, 0, 0, 0, 0, 0, []),
  (87, none, .goto 4, 3, 91, 0, 0, 0, 0, []),
  (90, none, .iconst 0, 1, 0, 0, 0, 0, 0, []),
  (91, none, .ireturn, 1, 0, 0, 0, 0, 0, []),
  (92, none, .aload_n 3, 1, 3, 0, 0, 0, 0, []),
  (93, none, .getfield 151, 3, 8, 2, 22, 3, 0, []),
  (96, none, .iload_n 1, 1, 1, 0, 0, 0, 0, []),
  (97, none, .iaload, 1, 0, 0, 0, 0, 0, []),
  (98, none, .ireturn, 1, 0, 0, 0, 0, 0, []),
  (99, none, .aload_n 3, 1, 3, 0, 0, 0, 0, []),
  (100, none, .getfield 154, 3, 8, 3, 22, 4, 0, []),
  (103, none, .iload_n 1, 1, 1, 0, 0, 0, 0, []),
  (104, none, .iaload, 1, 0, 0, 0, 0, 0, []),
  (105, none, .ireturn, 1, 0, 0, 0, 0, 0, []),
  (106, none, .aload_n 0, 1, 0, 0, 0, 0, 0, []),
  (107, none, .getfield 10, 3, 10, 0, 11, 1, 0, []),
  (110, none, .iconst 0, 1, 0, 0, 0, 0, 0, []),
  (111, none, .iload_n 1, 1, 1, 0, 0, 0, 0, []),
  (112, none, .invokevirtual 159, 3, 94, 3, 2, 0, 0, []),
  (115, none, .ireturn, 1, 0, 0, 0, 0, 0, []),
  (116, none, .aload_n 0, 1, 0, 0, 0, 0, 0, []),
  (117, none, .getfield 10, 3, 10, 0, 11, 1, 0, []),
  (120, none, .iconst 1, 1, 0, 0, 0, 0, 0, []),
  (121, none, .iload_n 1, 1, 1, 0, 0, 0, 0, []),
  (122, none, .invokevirtual 159, 3, 94, 3, 2, 0, 0, []),
  (125, none, .ireturn, 1, 0, 0, 0, 0, 0, []),
  (126, none, .aload_n 0, 1, 0, 0, 0, 0, 0, []),
  (127, none, .getfield 10, 3, 10, 0, 11, 1, 0, []),
  (130, none, .iconst 2, 1, 0, 0, 0, 0, 0, []),
  (131, none, .iload_n 1, 1, 1, 0, 0, 0, 0, []),
  (132, none, .invokevirtual 159, 3, 94, 3, 2, 0, 0, []),
  (135, none, .ireturn, 1, 0, 0, 0, 0, 0, []),
  (136, none, .iconst (-1), 1, 0, 0, 0, 0, 0, []),
  (137, none, .ireturn, 1, 0, 0, 0, 0, 0, [])]
noncomputable def K_x_due : List aE := [
  (0, none, .aload_n 0, 1, 0, 0, 0, 0, 0, []),
  (1, none, .getfield 10, 3, 10, 0, 11, 1, 0, []),
  (4, none, .getfield 162, 3, 9, 3, 7, 13, 0, []),
  (7, none, .iload_n 1, 1, 1, 0, 0, 0, 0, []),
  (8, none, .invokevirtual 166, 3, 48, 2, 2, 0, 0, []),
  (11, none, .ifCond .eq 12, 3, 23, 0, 0, 0, 0, []),
  (14, none, .iload_n 2, 1, 2, 0, 0, 0, 0, []),
  (15, none, .ifCond .lt 8, 3, 23, 0, 0, 0, 0, []),
  (18, none, .iload_n 2, 1, 2, 0, 0, 0, 0, []),
  (19, none, .iconst 3, 1, 0, 0, 0, 0, 0, []),
  (20, none, .if_icmp .le 6, 3, 26, 0, 0, 0, 0, []),
  (23, none, .bipush (-2), 2, 0, 0, 0, 0, 0, []),
  (25, none, .ireturn, 1, 0, 0, 0, 0, 0, []),
  (26, none, .iload_n 2, 1, 2, 0, 0, 0, 0, []),
  (27, none, .iconst 3, 1, 0, 0, 0, 0, 0, []),
  (28, none, .if_icmp .ne 25, 3, 53, 0, 0, 0, 0, []),
  (31, none, .aload_n 0, 1, 0, 0, 0, 0, 0, []),
  (32, none, .getfield 10, 3, 10, 0, 11, 1, 0, []),
  (35, none, .getfield 70, 3, 9, 0, 10, 1, 0, []),
  (38, none, .iload_n 1, 1, 1, 0, 0, 0, 0, []),
  (39, none, .invokevirtual 169, 3, 85, 2, 2, 0, 0, []),
  (42, none, .ifCond .eq 7, 3, 49, 0, 0, 0, 0, []),
  (45, none, .iconst 1, 1, 0, 0, 0, 0, 0, []),
  (46, none, .goto 19, 3, 65, 0, 0, 0, 0, []),
  (49, none, .iconst 0, 1, 0, 0, 0, 0, 0, []),
  (50, none, .goto 15, 3, 65, 0, 0, 0, 0, []),
  (53, none, .aload_n 0, 1, 0, 0, 0, 0, 0, []),
  (54, none, .getfield 10, 3, 10, 0, 11, 1, 0, []),
  (57, none, .getfield 162, 3, 9, 3, 7, 13, 0, []),
  (60, none, .iload_n 1, 1, 1, 0, 0, 0, 0, []),
  (61, none, .iload_n 2, 1, 2, 0, 0, 0, 0, []),
  (62, none, .invokevirtual 172, 3, 49, 3, 2, 0, 0, []),
  (65, none, .ireturn, 1, 0, 0, 0, 0, 0, [])]
noncomputable def K_x_book : List aE := [
  (0, none, .aload_n 0, 1, 0, 0, 0, 0, 0, []),
  (1, none, .getfield 10, 3, 10, 0, 11, 1, 0, []),
  (4, none, .getfield 175, 3, 9, 5, 7, 17, 0, []),
  (7, none, .iload_n 1, 1, 1, 0, 0, 0, 0, []),
  (8, none, .invokevirtual 166, 3, 48, 2, 2, 0, 0, []),
  (11, none, .ifCond .eq 26, 3, 37, 0, 0, 0, 0, []),
  (14, none, .iload_n 2, 1, 2, 0, 0, 0, 0, []),
  (15, none, .iconst 3, 1, 0, 0, 0, 0, 0, []),
  (16, none, .invokestatic 83, 3, 143, 2, 2, 0, 0, []),
  (19, none, .ifCond .eq 18, 3, 37, 0, 0, 0, 0, []),
  (22, none, .aload_n 0, 1, 0, 0, 0, 0, 0, []),
  (23, none, .getfield 10, 3, 10, 0, 11, 1, 0, []),
  (26, none, .getfield 175, 3, 9, 5, 7, 17, 0, []),
  (29, none, .iload_n 1, 1, 1, 0, 0, 0, 0, []),
  (30, none, .iload_n 2, 1, 2, 0, 0, 0, 0, []),
  (31, none, .invokevirtual 172, 3, 49, 3, 2, 0, 0, []),
  (34, none, .goto 5, 3, 39, 0, 0, 0, 0, []),
  (37, none, .bipush (-2), 2, 0, 0, 0, 0, 0, []),
  (39, none, .ireturn, 1, 0, 0, 0, 0, 0, [])]
noncomputable def K_x_next : List aE := [
  (0, none, .aload_n 0, 1, 0, 0, 0, 0, 0, []),
  (1, none, .getfield 10, 3, 10, 0, 11, 1, 0, []),
  (4, none, .getfield 70, 3, 9, 0, 10, 1, 0, []),
  (7, none, .iload_n 1, 1, 1, 0, 0, 0, 0, []),
  (8, none, .invokevirtual 101, 3, 83, 2, 2, 0, 0, []),
  (11, none, .ifCond .eq 12, 3, 23, 0, 0, 0, 0, []),
  (14, none, .iload_n 2, 1, 2, 0, 0, 0, 0, []),
  (15, none, .bipush 60, 2, 0, 0, 0, 0, 0, []),
  (17, none, .invokestatic 83, 3, 143, 2, 2, 0, 0, []),
  (20, none, .ifCond .ne 5, 3, 25, 0, 0, 0, 0, []),
  (23, none, .iconst (-1), 1, 0, 0, 0, 0, 0, []),
  (24, none, .ireturn, 1, 0, 0, 0, 0, 0, []),
  (25, none, .aload_n 0, 1, 0, 0, 0, 0, 0, []),
  (26, none, .getfield 10, 3, 10, 0, 11, 1, 0, []),
  (29, none, .iload_n 1, 1, 1, 0, 0, 0, 0, []),
  (30, none, .invokevirtual 178, 3, 99, 2, 2, 0, 0, []),
  (33, none, .istore_n 3, 1, 3, 0, 0, 0, 0, []),
  (34, none, .iload_n 2, 1, 2, 0, 0, 0, 0, []),
  (35, none, .ifCond .ne 7, 3, 42, 0, 0, 0, 0, []),
  (38, none, .iload_n 3, 1, 3, 0, 0, 0, 0, []),
  (39, none, .goto 8, 3, 47, 0, 0, 0, 0, []),
  (42, none, .iload_n 3, 1, 3, 0, 0, 0, 0, []),
  (43, none, .iload_n 2, 1, 2, 0, 0, 0, 0, []),
  (44, none, .invokestatic 181, 3, 147, 2, 2, 0, 0, []),
  (47, none, .ireturn, 1, 0, 0, 0, 0, 0, [])]
noncomputable def K_x_likeliest : List aE := [
  (0, none, .aload_n 0, 1, 0, 0, 0, 0, 0, []),
  (1, none, .getfield 10, 3, 10, 0, 11, 1, 0, []),
  (4, none, .invokevirtual 184, 3, 97, 1, 2, 0, 0, []),
  (7, none, .ireturn, 1, 0, 0, 0, 0, 0, [])]
noncomputable def K_x_goes : List aE := [
  (0, none, .iload_n 1, 1, 1, 0, 0, 0, 0, []),
  (1, none, .iconst 1, 1, 0, 0, 0, 0, 0, []),
  (2, none, .if_icmp .lt 17, 3, 19, 0, 0, 0, 0, []),
  (5, none, .iload_n 1, 1, 1, 0, 0, 0, 0, []),
  (6, none, .bipush 99, 2, 0, 0, 0, 0, 0, []),
  (8, none, .if_icmp .gt 11, 3, 19, 0, 0, 0, 0, []),
  (11, none, .iload_n 2, 1, 2, 0, 0, 0, 0, []),
  (12, none, .iconst 3, 1, 0, 0, 0, 0, 0, []),
  (13, none, .invokestatic 83, 3, 143, 2, 2, 0, 0, []),
  (16, none, .ifCond .ne 6, 3, 22, 0, 0, 0, 0, []),
  (19, none, .ldc 188, 2, 0, 0, 0, 0, (-100000), []),
  (21, none, .ireturn, 1, 0, 0, 0, 0, 0, []),
  (22, none, .aload_n 0, 1, 0, 0, 0, 0, 0, []),
  (23, none, .getfield 19, 3, 10, 2, 11, 63, 0, []),
  (26, none, .aload_n 0, 1, 0, 0, 0, 0, 0, []),
  (27, none, .getfield 10, 3, 10, 0, 11, 1, 0, []),
  (30, none, .invokevirtual 189, 3, 108, 2, 1, 0, 0, []),
  (33, none, .iconst 0, 1, 0, 0, 0, 0, 0, []),
  (34, none, .istore_n 3, 1, 3, 0, 0, 0, 0, []),
  (35, some [true, true, true, true], .iload_n 3, 1, 3, 0, 0, 0, 0, []),
  (36, none, .iload_n 1, 1, 1, 0, 0, 0, 0, []),
  (37, none, .if_icmp .ge 18, 3, 55, 0, 0, 0, 0, []),
  (40, none, .aload_n 0, 1, 0, 0, 0, 0, 0, []),
  (41, none, .getfield 19, 3, 10, 2, 11, 63, 0, []),
  (44, none, .iconst 1, 1, 0, 0, 0, 0, 0, []),
  (45, none, .invokevirtual 119, 3, 101, 2, 2, 0, 0, []),
  (48, none, .pop, 1, 0, 0, 0, 0, 0, []),
  (49, none, .iinc 3 1, 3, 3, 0, 0, 0, 0, []),
  (52, none, .goto (-17), 3, 35, 0, 0, 0, 0, []),
  (55, none, .iload_n 2, 1, 2, 0, 0, 0, 0, []),
  (56, none, .tableswitch 64 0 2 #[28, 39, 50], 28, 120, 0, 0, 0, 0, [(0, 84), (1, 95), (2, 106)]),
  (84, none, .aload_n 0, 1, 0, 0, 0, 0, 0, []),
  (85, none, .getfield 19, 3, 10, 2, 11, 63, 0, []),
  (88, none, .getfield 70, 3, 9, 0, 10, 1, 0, []),
  (91, none, .getfield 192, 3, 8, 12, 0, 0, 0, []),
  (94, none, .ireturn, 1, 0, 0, 0, 0, 0, []),
  (95, none, .aload_n 0, 1, 0, 0, 0, 0, 0, []),
  (96, none, .getfield 19, 3, 10, 2, 11, 63, 0, []),
  (99, none, .getfield 70, 3, 9, 0, 10, 1, 0, []),
  (102, none, .getfield 195, 3, 8, 13, 0, 0, 0, []),
  (105, none, .ireturn, 1, 0, 0, 0, 0, 0, []),
  (106, none, .aload_n 0, 1, 0, 0, 0, 0, 0, []),
  (107, none, .getfield 19, 3, 10, 2, 11, 63, 0, []),
  (110, none, .getfield 70, 3, 9, 0, 10, 1, 0, []),
  (113, none, .getfield 198, 3, 8, 16, 0, 0, 0, []),
  (116, none, .invokestatic 201, 3, 264, 1, 2, 0, 0, []),
  (119, none, .ireturn, 1, 0, 0, 0, 0, 0, []),
  (120, none, .aload_n 0, 1, 0, 0, 0, 0, 0, []),
  (121, none, .getfield 19, 3, 10, 2, 11, 63, 0, []),
  (124, none, .getfield 70, 3, 9, 0, 10, 1, 0, []),
  (127, none, .getfield 123, 3, 8, 11, 0, 0, 0, []),
  (130, none, .ireturn, 1, 0, 0, 0, 0, 0, [])]
noncomputable def K_x_reads : List aE := [
  (0, none, .aload_n 0, 1, 0, 0, 0, 0, 0, []),
  (1, none, .getfield 10, 3, 10, 0, 11, 1, 0, []),
  (4, none, .getfield 162, 3, 9, 3, 7, 13, 0, []),
  (7, none, .iload_n 1, 1, 1, 0, 0, 0, 0, []),
  (8, none, .invokevirtual 166, 3, 48, 2, 2, 0, 0, []),
  (11, none, .ifCond .ne 5, 3, 16, 0, 0, 0, 0, []),
  (14, none, .iconst (-1), 1, 0, 0, 0, 0, 0, []),
  (15, none, .ireturn, 1, 0, 0, 0, 0, 0, []),
  (16, none, .aload_n 0, 1, 0, 0, 0, 0, 0, []),
  (17, none, .getfield 10, 3, 10, 0, 11, 1, 0, []),
  (20, none, .getfield 162, 3, 9, 3, 7, 13, 0, []),
  (23, none, .iload_n 1, 1, 1, 0, 0, 0, 0, []),
  (24, none, .iconst 1, 1, 0, 0, 0, 0, 0, []),
  (25, none, .invokevirtual 172, 3, 49, 3, 2, 0, 0, []),
  (28, none, .istore_n 2, 1, 2, 0, 0, 0, 0, []),
  (29, none, .aload_n 0, 1, 0, 0, 0, 0, 0, []),
  (30, none, .getfield 10, 3, 10, 0, 11, 1, 0, []),
  (33, none, .getfield 70, 3, 9, 0, 10, 1, 0, []),
  (36, none, .iload_n 2, 1, 2, 0, 0, 0, 0, []),
  (37, none, .invokevirtual 105, 3, 84, 2, 2, 0, 0, []),
  (40, none, .ifCond .eq 7, 3, 47, 0, 0, 0, 0, []),
  (43, none, .iconst (-1), 1, 0, 0, 0, 0, 0, []),
  (44, none, .goto 14, 3, 58, 0, 0, 0, 0, []),
  (47, none, .aload_n 0, 1, 0, 0, 0, 0, 0, []),
  (48, none, .getfield 10, 3, 10, 0, 11, 1, 0, []),
  (51, none, .getfield 70, 3, 9, 0, 10, 1, 0, []),
  (54, none, .iload_n 2, 1, 2, 0, 0, 0, 0, []),
  (55, none, .invokevirtual 206, 3, 91, 2, 2, 0, 0, []),
  (58, none, .ireturn, 1, 0, 0, 0, 0, 0, [])]
noncomputable def K_x_seen : List aE := [
  (0, none, .aload_n 0, 1, 0, 0, 0, 0, 0, []),
  (1, none, .getfield 10, 3, 10, 0, 11, 1, 0, []),
  (4, none, .getfield 70, 3, 9, 0, 10, 1, 0, []),
  (7, none, .iload_n 1, 1, 1, 0, 0, 0, 0, []),
  (8, none, .invokevirtual 101, 3, 83, 2, 2, 0, 0, []),
  (11, none, .ifCond .eq 26, 3, 37, 0, 0, 0, 0, []),
  (14, none, .aload_n 0, 1, 0, 0, 0, 0, 0, []),
  (15, none, .getfield 10, 3, 10, 0, 11, 1, 0, []),
  (18, none, .getfield 70, 3, 9, 0, 10, 1, 0, []),
  (21, none, .iload_n 2, 1, 2, 0, 0, 0, 0, []),
  (22, none, .invokevirtual 101, 3, 83, 2, 2, 0, 0, []),
  (25, none, .ifCond .eq 12, 3, 37, 0, 0, 0, 0, []),
  (28, none, .iload_n 1, 1, 1, 0, 0, 0, 0, []),
  (29, none, .iload_n 2, 1, 2, 0, 0, 0, 0, []),
  (30, none, .if_icmp .eq 7, 3, 37, 0, 0, 0, 0, []),
  (33, none, .iconst 1, 1, 0, 0, 0, 0, 0, []),
  (34, none, .goto 4, 3, 38, 0, 0, 0, 0, []),
  (37, none, .iconst 0, 1, 0, 0, 0, 0, 0, []),
  (38, none, .istore_n 3, 1, 3, 0, 0, 0, 0, []),
  (39, none, .aload_n 0, 1, 0, 0, 0, 0, 0, []),
  (40, none, .getfield 10, 3, 10, 0, 11, 1, 0, []),
  (43, none, .getfield 209, 3, 9, 6, 7, 19, 0, []),
  (46, none, .iload_n 1, 1, 1, 0, 0, 0, 0, []),
  (47, none, .iload_n 2, 1, 2, 0, 0, 0, 0, []),
  (48, none, .iload_n 3, 1, 3, 0, 0, 0, 0, []),
  (49, none, .invokevirtual 212, 3, 51, 4, 2, 0, 0, []),
  (52, none, .ireturn, 1, 0, 0, 0, 0, 0, [])]
noncomputable def K_x_orders : List aE := [
  (0, none, .iload_n 1, 1, 1, 0, 0, 0, 0, []),
  (1, none, .ifCond .ne 15, 3, 16, 0, 0, 0, 0, []),
  (4, none, .aload_n 0, 1, 0, 0, 0, 0, 0, []),
  (5, none, .getfield 48, 3, 10, 6, 5, 141, 0, []),
  (8, none, .aload_n 0, 1, 0, 0, 0, 0, 0, []),
  (9, none, .getfield 10, 3, 10, 0, 11, 1, 0, []),
  (12, none, .invokevirtual 216, 3, 18, 2, 2, 0, 0, []),
  (15, none, .ireturn, 1, 0, 0, 0, 0, 0, []),
  (16, none, .iload_n 1, 1, 1, 0, 0, 0, 0, []),
  (17, none, .iconst 1, 1, 0, 0, 0, 0, 0, []),
  (18, none, .if_icmp .eq 8, 3, 26, 0, 0, 0, 0, []),
  (21, none, .iload_n 1, 1, 1, 0, 0, 0, 0, []),
  (22, none, .iconst 2, 1, 0, 0, 0, 0, 0, []),
  (23, none, .if_icmp .ne 25, 3, 48, 0, 0, 0, 0, []),
  (26, none, .aload_n 0, 1, 0, 0, 0, 0, 0, []),
  (27, none, .getfield 48, 3, 10, 6, 5, 141, 0, []),
  (30, none, .aload_n 0, 1, 0, 0, 0, 0, 0, []),
  (31, none, .getfield 10, 3, 10, 0, 11, 1, 0, []),
  (34, none, .iload_n 1, 1, 1, 0, 0, 0, 0, []),
  (35, none, .iconst 1, 1, 0, 0, 0, 0, 0, []),
  (36, none, .if_icmp .ne 7, 3, 43, 0, 0, 0, 0, []),
  (39, none, .iconst 1, 1, 0, 0, 0, 0, 0, []),
  (40, none, .goto 4, 3, 44, 0, 0, 0, 0, []),
  (43, none, .iconst 0, 1, 0, 0, 0, 0, 0, []),
  (44, none, .invokevirtual 220, 3, 25, 3, 2, 0, 0, []),
  (47, none, .ireturn, 1, 0, 0, 0, 0, 0, []),
  (48, none, .iload_n 1, 1, 1, 0, 0, 0, 0, []),
  (49, none, .bipush 10, 2, 0, 0, 0, 0, 0, []),
  (51, none, .if_icmp .lt 20, 3, 71, 0, 0, 0, 0, []),
  (54, none, .aload_n 0, 1, 0, 0, 0, 0, 0, []),
  (55, none, .getfield 10, 3, 10, 0, 11, 1, 0, []),
  (58, none, .getfield 70, 3, 9, 0, 10, 1, 0, []),
  (61, none, .iload_n 1, 1, 1, 0, 0, 0, 0, []),
  (62, none, .bipush 10, 2, 0, 0, 0, 0, 0, []),
  (64, none, .isub, 1, 0, 0, 0, 0, 0, []),
  (65, none, .invokevirtual 101, 3, 83, 2, 2, 0, 0, []),
  (68, none, .ifCond .ne 5, 3, 73, 0, 0, 0, 0, []),
  (71, none, .iconst (-1), 1, 0, 0, 0, 0, 0, []),
  (72, none, .ireturn, 1, 0, 0, 0, 0, 0, []),
  (73, none, .aload_n 0, 1, 0, 0, 0, 0, 0, []),
  (74, none, .getfield 48, 3, 10, 6, 5, 141, 0, []),
  (77, none, .aload_n 0, 1, 0, 0, 0, 0, 0, []),
  (78, none, .getfield 10, 3, 10, 0, 11, 1, 0, []),
  (81, none, .iload_n 1, 1, 1, 0, 0, 0, 0, []),
  (82, none, .bipush 10, 2, 0, 0, 0, 0, 0, []),
  (84, none, .isub, 1, 0, 0, 0, 0, 0, []),
  (85, none, .invokevirtual 224, 3, 26, 3, 2, 0, 0, []),
  (88, none, .ireturn, 1, 0, 0, 0, 0, 0, [])]
noncomputable def K_x_moves : List aE := [
  (0, none, .iload_n 1, 1, 1, 0, 0, 0, 0, []),
  (1, none, .ifCond .ne 18, 3, 19, 0, 0, 0, 0, []),
  (4, none, .aload_n 0, 1, 0, 0, 0, 0, 0, []),
  (5, none, .getfield 62, 3, 10, 8, 9, 150, 0, []),
  (8, none, .aload_n 0, 1, 0, 0, 0, 0, 0, []),
  (9, none, .getfield 10, 3, 10, 0, 11, 1, 0, []),
  (12, none, .getfield 228, 3, 9, 4, 7, 15, 0, []),
  (15, none, .invokevirtual 231, 3, 63, 2, 2, 0, 0, []),
  (18, none, .ireturn, 1, 0, 0, 0, 0, 0, []),
  (19, none, .iload_n 1, 1, 1, 0, 0, 0, 0, []),
  (20, none, .bipush 10, 2, 0, 0, 0, 0, 0, []),
  (22, none, .if_icmp .lt 20, 3, 42, 0, 0, 0, 0, []),
  (25, none, .aload_n 0, 1, 0, 0, 0, 0, 0, []),
  (26, none, .getfield 10, 3, 10, 0, 11, 1, 0, []),
  (29, none, .getfield 228, 3, 9, 4, 7, 15, 0, []),
  (32, none, .iload_n 1, 1, 1, 0, 0, 0, 0, []),
  (33, none, .bipush 10, 2, 0, 0, 0, 0, 0, []),
  (35, none, .isub, 1, 0, 0, 0, 0, 0, []),
  (36, none, .invokevirtual 166, 3, 48, 2, 2, 0, 0, []),
  (39, none, .ifCond .ne 5, 3, 44, 0, 0, 0, 0, []),
  (42, none, .iconst (-1), 1, 0, 0, 0, 0, 0, []),
  (43, none, .ireturn, 1, 0, 0, 0, 0, 0, []),
  (44, none, .aload_n 0, 1, 0, 0, 0, 0, 0, []),
  (45, none, .getfield 62, 3, 10, 8, 9, 150, 0, []),
  (48, none, .aload_n 0, 1, 0, 0, 0, 0, 0, []),
  (49, none, .getfield 10, 3, 10, 0, 11, 1, 0, []),
  (52, none, .getfield 228, 3, 9, 4, 7, 15, 0, []),
  (55, none, .iload_n 1, 1, 1, 0, 0, 0, 0, []),
  (56, none, .bipush 10, 2, 0, 0, 0, 0, 0, []),
  (58, none, .isub, 1, 0, 0, 0, 0, 0, []),
  (59, none, .invokevirtual 235, 3, 64, 3, 2, 0, 0, []),
  (62, none, .ireturn, 1, 0, 0, 0, 0, 0, [])]
noncomputable def K_x_work : List aE := [
  (0, none, .aload_n 0, 1, 0, 0, 0, 0, 0, []),
  (1, none, .getfield 10, 3, 10, 0, 11, 1, 0, []),
  (4, none, .getfield 239, 3, 9, 7, 7, 21, 0, []),
  (7, none, .iload_n 1, 1, 1, 0, 0, 0, 0, []),
  (8, none, .iconst 0, 1, 0, 0, 0, 0, 0, []),
  (9, none, .iload_n 1, 1, 1, 0, 0, 0, 0, []),
  (10, none, .iconst 1, 1, 0, 0, 0, 0, 0, []),
  (11, none, .if_icmp .lt 13, 3, 24, 0, 0, 0, 0, []),
  (14, none, .iload_n 1, 1, 1, 0, 0, 0, 0, []),
  (15, none, .bipush 24, 2, 0, 0, 0, 0, 0, []),
  (17, none, .if_icmp .gt 7, 3, 24, 0, 0, 0, 0, []),
  (20, none, .iconst 1, 1, 0, 0, 0, 0, 0, []),
  (21, none, .goto 4, 3, 25, 0, 0, 0, 0, []),
  (24, none, .iconst 0, 1, 0, 0, 0, 0, 0, []),
  (25, none, .invokevirtual 212, 3, 51, 4, 2, 0, 0, []),
  (28, none, .ireturn, 1, 0, 0, 0, 0, 0, [])]
noncomputable def K_x_works : List aE := [
  (0, none, .iload_n 1, 1, 1, 0, 0, 0, 0, []),
  (1, none, .iconst 2, 1, 0, 0, 0, 0, 0, []),
  (2, none, .invokestatic 83, 3, 143, 2, 2, 0, 0, []),
  (5, none, .ifCond .eq 17, 3, 22, 0, 0, 0, 0, []),
  (8, none, .aload_n 0, 1, 0, 0, 0, 0, 0, []),
  (9, none, .getfield 55, 3, 10, 7, 3, 146, 0, []),
  (12, none, .aload_n 0, 1, 0, 0, 0, 0, 0, []),
  (13, none, .getfield 10, 3, 10, 0, 11, 1, 0, []),
  (16, none, .invokevirtual 242, 3, 3, 2, 2, 0, 0, []),
  (19, none, .ifCond .ne 5, 3, 24, 0, 0, 0, 0, []),
  (22, none, .iconst (-1), 1, 0, 0, 0, 0, 0, []),
  (23, none, .ireturn, 1, 0, 0, 0, 0, 0, []),
  (24, none, .iload_n 1, 1, 1, 0, 0, 0, 0, []),
  (25, none, .lookupswitch 71 #[(0, 27), (1, 49)], 27, 96, 0, 0, 0, 0, [(0, 52), (1, 74)]),
  (52, none, .aload_n 0, 1, 0, 0, 0, 0, 0, []),
  (53, none, .getfield 55, 3, 10, 7, 3, 146, 0, []),
  (56, none, .aload_n 0, 1, 0, 0, 0, 0, 0, []),
  (57, none, .getfield 55, 3, 10, 7, 3, 146, 0, []),
  (60, none, .aload_n 0, 1, 0, 0, 0, 0, 0, []),
  (61, none, .getfield 10, 3, 10, 0, 11, 1, 0, []),
  (64, none, .getfield 239, 3, 9, 7, 7, 21, 0, []),
  (67, none, .invokevirtual 246, 3, 6, 2, 2, 0, 0, []),
  (70, none, .invokevirtual 249, 3, 8, 2, 2, 0, 0, []),
  (73, none, .ireturn, 1, 0, 0, 0, 0, 0, []),
  (74, none, .aload_n 0, 1, 0, 0, 0, 0, 0, []),
  (75, none, .getfield 55, 3, 10, 7, 3, 146, 0, []),
  (78, none, .aload_n 0, 1, 0, 0, 0, 0, 0, []),
  (79, none, .getfield 55, 3, 10, 7, 3, 146, 0, []),
  (82, none, .aload_n 0, 1, 0, 0, 0, 0, 0, []),
  (83, none, .getfield 10, 3, 10, 0, 11, 1, 0, []),
  (86, none, .getfield 239, 3, 9, 7, 7, 21, 0, []),
  (89, none, .invokevirtual 246, 3, 6, 2, 2, 0, 0, []),
  (92, none, .invokevirtual 252, 3, 9, 2, 2, 0, 0, []),
  (95, none, .ireturn, 1, 0, 0, 0, 0, 0, []),
  (96, none, .aload_n 0, 1, 0, 0, 0, 0, 0, []),
  (97, none, .getfield 55, 3, 10, 7, 3, 146, 0, []),
  (100, none, .aload_n 0, 1, 0, 0, 0, 0, 0, []),
  (101, none, .getfield 55, 3, 10, 7, 3, 146, 0, []),
  (104, none, .aload_n 0, 1, 0, 0, 0, 0, 0, []),
  (105, none, .getfield 10, 3, 10, 0, 11, 1, 0, []),
  (108, none, .getfield 239, 3, 9, 7, 7, 21, 0, []),
  (111, none, .invokevirtual 255, 3, 7, 2, 2, 0, 0, []),
  (114, none, .invokevirtual 249, 3, 8, 2, 2, 0, 0, []),
  (117, none, .ireturn, 1, 0, 0, 0, 0, 0, [])]
noncomputable def K_x_gate : List aE := [
  (0, none, .aload_n 0, 1, 0, 0, 0, 0, 0, []),
  (1, none, .getfield 10, 3, 10, 0, 11, 1, 0, []),
  (4, none, .getfield 258, 3, 9, 8, 7, 23, 0, []),
  (7, none, .iload_n 1, 1, 1, 0, 0, 0, 0, []),
  (8, none, .iload_n 2, 1, 2, 0, 0, 0, 0, []),
  (9, none, .iload_n 1, 1, 1, 0, 0, 0, 0, []),
  (10, none, .bipush 9, 2, 0, 0, 0, 0, 0, []),
  (12, none, .invokestatic 83, 3, 143, 2, 2, 0, 0, []),
  (15, none, .ifCond .eq 21, 3, 36, 0, 0, 0, 0, []),
  (18, none, .iload_n 2, 1, 2, 0, 0, 0, 0, []),
  (19, none, .bipush 9, 2, 0, 0, 0, 0, 0, []),
  (21, none, .invokestatic 83, 3, 143, 2, 2, 0, 0, []),
  (24, none, .ifCond .eq 12, 3, 36, 0, 0, 0, 0, []),
  (27, none, .iload_n 1, 1, 1, 0, 0, 0, 0, []),
  (28, none, .iload_n 2, 1, 2, 0, 0, 0, 0, []),
  (29, none, .if_icmp .eq 7, 3, 36, 0, 0, 0, 0, []),
  (32, none, .iconst 1, 1, 0, 0, 0, 0, 0, []),
  (33, none, .goto 4, 3, 37, 0, 0, 0, 0, []),
  (36, none, .iconst 0, 1, 0, 0, 0, 0, 0, []),
  (37, none, .invokevirtual 212, 3, 51, 4, 2, 0, 0, []),
  (40, none, .ireturn, 1, 0, 0, 0, 0, 0, [])]
noncomputable def K_x_watch : List aE := [
  (0, none, .iload_n 1, 1, 1, 0, 0, 0, 0, []),
  (1, none, .iconst 1, 1, 0, 0, 0, 0, 0, []),
  (2, none, .invokestatic 83, 3, 143, 2, 2, 0, 0, []),
  (5, none, .ifCond .ne 5, 3, 10, 0, 0, 0, 0, []),
  (8, none, .iconst (-1), 1, 0, 0, 0, 0, 0, []),
  (9, none, .ireturn, 1, 0, 0, 0, 0, 0, []),
  (10, none, .aload_n 0, 1, 0, 0, 0, 0, 0, []),
  (11, none, .getfield 62, 3, 10, 8, 9, 150, 0, []),
  (14, none, .aload_n 0, 1, 0, 0, 0, 0, 0, []),
  (15, none, .getfield 10, 3, 10, 0, 11, 1, 0, []),
  (18, none, .getfield 258, 3, 9, 8, 7, 23, 0, []),
  (21, none, .invokevirtual 261, 3, 68, 2, 2, 0, 0, []),
  (24, none, .istore_n 2, 1, 2, 0, 0, 0, 0, []),
  (25, none, .iload_n 1, 1, 1, 0, 0, 0, 0, []),
  (26, none, .ifCond .ne 10, 3, 36, 0, 0, 0, 0, []),
  (29, none, .iload_n 2, 1, 2, 0, 0, 0, 0, []),
  (30, none, .invokestatic 201, 3, 264, 1, 2, 0, 0, []),
  (33, none, .goto 4, 3, 37, 0, 0, 0, 0, []),
  (36, none, .iload_n 2, 1, 2, 0, 0, 0, 0, []),
  (37, none, .ireturn, 1, 0, 0, 0, 0, 0, [])]
noncomputable def K_x_ate : List aE := [
  (0, none, .aload_n 0, 1, 0, 0, 0, 0, 0, []),
  (1, none, .getfield 10, 3, 10, 0, 11, 1, 0, []),
  (4, none, .getfield 264, 3, 9, 9, 7, 25, 0, []),
  (7, none, .iload_n 1, 1, 1, 0, 0, 0, 0, []),
  (8, none, .iload_n 2, 1, 2, 0, 0, 0, 0, []),
  (9, none, .iload_n 1, 1, 1, 0, 0, 0, 0, []),
  (10, none, .bipush 6, 2, 0, 0, 0, 0, 0, []),
  (12, none, .invokestatic 83, 3, 143, 2, 2, 0, 0, []),
  (15, none, .ifCond .eq 21, 3, 36, 0, 0, 0, 0, []),
  (18, none, .aload_n 0, 1, 0, 0, 0, 0, 0, []),
  (19, none, .getfield 10, 3, 10, 0, 11, 1, 0, []),
  (22, none, .getfield 70, 3, 9, 0, 10, 1, 0, []),
  (25, none, .iload_n 2, 1, 2, 0, 0, 0, 0, []),
  (26, none, .invokevirtual 101, 3, 83, 2, 2, 0, 0, []),
  (29, none, .ifCond .eq 7, 3, 36, 0, 0, 0, 0, []),
  (32, none, .iconst 1, 1, 0, 0, 0, 0, 0, []),
  (33, none, .goto 4, 3, 37, 0, 0, 0, 0, []),
  (36, none, .iconst 0, 1, 0, 0, 0, 0, 0, []),
  (37, none, .invokevirtual 212, 3, 51, 4, 2, 0, 0, []),
  (40, none, .ireturn, 1, 0, 0, 0, 0, 0, [])]
noncomputable def K_x_ways : List aE := [
  (0, none, .iload_n 1, 1, 1, 0, 0, 0, 0, []),
  (1, none, .iconst 1, 1, 0, 0, 0, 0, 0, []),
  (2, none, .invokestatic 83, 3, 143, 2, 2, 0, 0, []),
  (5, none, .ifCond .ne 5, 3, 10, 0, 0, 0, 0, []),
  (8, none, .iconst (-1), 1, 0, 0, 0, 0, 0, []),
  (9, none, .ireturn, 1, 0, 0, 0, 0, 0, []),
  (10, none, .aload_n 0, 1, 0, 0, 0, 0, 0, []),
  (11, none, .getfield 62, 3, 10, 8, 9, 150, 0, []),
  (14, none, .aload_n 0, 1, 0, 0, 0, 0, 0, []),
  (15, none, .getfield 10, 3, 10, 0, 11, 1, 0, []),
  (18, none, .getfield 264, 3, 9, 9, 7, 25, 0, []),
  (21, none, .invokevirtual 267, 3, 70, 2, 2, 0, 0, []),
  (24, none, .istore_n 2, 1, 2, 0, 0, 0, 0, []),
  (25, none, .iload_n 1, 1, 1, 0, 0, 0, 0, []),
  (26, none, .ifCond .ne 7, 3, 33, 0, 0, 0, 0, []),
  (29, none, .iload_n 2, 1, 2, 0, 0, 0, 0, []),
  (30, none, .goto 11, 3, 41, 0, 0, 0, 0, []),
  (33, none, .aload_n 0, 1, 0, 0, 0, 0, 0, []),
  (34, none, .getfield 62, 3, 10, 8, 9, 150, 0, []),
  (37, none, .iload_n 2, 1, 2, 0, 0, 0, 0, []),
  (38, none, .invokevirtual 270, 3, 72, 2, 2, 0, 0, []),
  (41, none, .ireturn, 1, 0, 0, 0, 0, 0, [])]
noncomputable def K_x_vote : List aE := [
  (0, none, .aload_n 0, 1, 0, 0, 0, 0, 0, []),
  (1, none, .getfield 10, 3, 10, 0, 11, 1, 0, []),
  (4, none, .getfield 273, 3, 9, 10, 7, 27, 0, []),
  (7, none, .iload_n 1, 1, 1, 0, 0, 0, 0, []),
  (8, none, .iconst 0, 1, 0, 0, 0, 0, 0, []),
  (9, none, .iload_n 1, 1, 1, 0, 0, 0, 0, []),
  (10, none, .bipush 24, 2, 0, 0, 0, 0, 0, []),
  (12, none, .invokestatic 83, 3, 143, 2, 2, 0, 0, []),
  (15, none, .invokevirtual 212, 3, 51, 4, 2, 0, 0, []),
  (18, none, .ireturn, 1, 0, 0, 0, 0, 0, [])]
noncomputable def K_x_votes : List aE := [
  (0, none, .aload_n 0, 1, 0, 0, 0, 0, 0, []),
  (1, none, .getfield 10, 3, 10, 0, 11, 1, 0, []),
  (4, none, .getfield 273, 3, 9, 10, 7, 27, 0, []),
  (7, none, .getfield 276, 3, 5, 2, 0, 0, 0, []),
  (10, none, .ifCond .eq 11, 3, 21, 0, 0, 0, 0, []),
  (13, none, .iload_n 1, 1, 1, 0, 0, 0, 0, []),
  (14, none, .iconst 1, 1, 0, 0, 0, 0, 0, []),
  (15, none, .invokestatic 83, 3, 143, 2, 2, 0, 0, []),
  (18, none, .ifCond .ne 5, 3, 23, 0, 0, 0, 0, []),
  (21, none, .iconst (-1), 1, 0, 0, 0, 0, 0, []),
  (22, none, .ireturn, 1, 0, 0, 0, 0, 0, []),
  (23, none, .aload_n 0, 1, 0, 0, 0, 0, 0, []),
  (24, none, .getfield 62, 3, 10, 8, 9, 150, 0, []),
  (27, none, .aload_n 0, 1, 0, 0, 0, 0, 0, []),
  (28, none, .getfield 10, 3, 10, 0, 11, 1, 0, []),
  (31, none, .getfield 273, 3, 9, 10, 7, 27, 0, []),
  (34, none, .invokevirtual 277, 3, 73, 2, 2, 0, 0, []),
  (37, none, .istore_n 2, 1, 2, 0, 0, 0, 0, []),
  (38, none, .iload_n 1, 1, 1, 0, 0, 0, 0, []),
  (39, none, .ifCond .ne 7, 3, 46, 0, 0, 0, 0, []),
  (42, none, .iload_n 2, 1, 2, 0, 0, 0, 0, []),
  (43, none, .goto 18, 3, 61, 0, 0, 0, 0, []),
  (46, none, .aload_n 0, 1, 0, 0, 0, 0, 0, []),
  (47, none, .getfield 62, 3, 10, 8, 9, 150, 0, []),
  (50, none, .aload_n 0, 1, 0, 0, 0, 0, 0, []),
  (51, none, .getfield 10, 3, 10, 0, 11, 1, 0, []),
  (54, none, .getfield 273, 3, 9, 10, 7, 27, 0, []),
  (57, none, .iload_n 2, 1, 2, 0, 0, 0, 0, []),
  (58, none, .invokevirtual 280, 3, 74, 3, 2, 0, 0, []),
  (61, none, .ireturn, 1, 0, 0, 0, 0, 0, [])]
noncomputable def K_x_salts : List aE := [
  (0, none, .aload_n 0, 1, 0, 0, 0, 0, 0, []),
  (1, none, .getfield 10, 3, 10, 0, 11, 1, 0, []),
  (4, none, .getfield 70, 3, 9, 0, 10, 1, 0, []),
  (7, none, .getfield 283, 3, 8, 5, 0, 0, 0, []),
  (10, none, .ifCond .eq 14, 3, 24, 0, 0, 0, 0, []),
  (13, none, .iload_n 1, 1, 1, 0, 0, 0, 0, []),
  (14, none, .iconst 1, 1, 0, 0, 0, 0, 0, []),
  (15, none, .if_icmp .lt 9, 3, 24, 0, 0, 0, 0, []),
  (18, none, .iload_n 1, 1, 1, 0, 0, 0, 0, []),
  (19, none, .bipush 20, 2, 0, 0, 0, 0, 0, []),
  (21, none, .if_icmp .le 5, 3, 26, 0, 0, 0, 0, []),
  (24, none, .iconst (-1), 1, 0, 0, 0, 0, 0, []),
  (25, none, .ireturn, 1, 0, 0, 0, 0, 0, []),
  (26, none, .iload_n 2, 1, 2, 0, 0, 0, 0, []),
  (27, none, .ifCond .ne 16, 3, 43, 0, 0, 0, 0, []),
  (30, none, .aload_n 0, 1, 0, 0, 0, 0, 0, []),
  (31, none, .getfield 62, 3, 10, 8, 9, 150, 0, []),
  (34, none, .aload_n 0, 1, 0, 0, 0, 0, 0, []),
  (35, none, .getfield 10, 3, 10, 0, 11, 1, 0, []),
  (38, none, .iload_n 1, 1, 1, 0, 0, 0, 0, []),
  (39, none, .invokevirtual 286, 3, 75, 3, 2, 0, 0, []),
  (42, none, .ireturn, 1, 0, 0, 0, 0, 0, []),
  (43, none, .iload_n 2, 1, 2, 0, 0, 0, 0, []),
  (44, none, .bipush 10, 2, 0, 0, 0, 0, 0, []),
  (46, none, .if_icmp .lt 20, 3, 66, 0, 0, 0, 0, []),
  (49, none, .aload_n 0, 1, 0, 0, 0, 0, 0, []),
  (50, none, .getfield 10, 3, 10, 0, 11, 1, 0, []),
  (53, none, .getfield 70, 3, 9, 0, 10, 1, 0, []),
  (56, none, .iload_n 2, 1, 2, 0, 0, 0, 0, []),
  (57, none, .bipush 10, 2, 0, 0, 0, 0, 0, []),
  (59, none, .isub, 1, 0, 0, 0, 0, 0, []),
  (60, none, .invokevirtual 101, 3, 83, 2, 2, 0, 0, []),
  (63, none, .ifCond .ne 5, 3, 68, 0, 0, 0, 0, []),
  (66, none, .iconst (-1), 1, 0, 0, 0, 0, 0, []),
  (67, none, .ireturn, 1, 0, 0, 0, 0, 0, []),
  (68, none, .aload_n 0, 1, 0, 0, 0, 0, 0, []),
  (69, none, .getfield 62, 3, 10, 8, 9, 150, 0, []),
  (72, none, .aload_n 0, 1, 0, 0, 0, 0, 0, []),
  (73, none, .getfield 10, 3, 10, 0, 11, 1, 0, []),
  (76, none, .iload_n 1, 1, 1, 0, 0, 0, 0, []),
  (77, none, .iload_n 2, 1, 2, 0, 0, 0, 0, []),
  (78, none, .bipush 10, 2, 0, 0, 0, 0, 0, []),
  (80, none, .isub, 1, 0, 0, 0, 0, 0, []),
  (81, none, .invokevirtual 289, 3, 76, 4, 2, 0, 0, []),
  (84, none, .ireturn, 1, 0, 0, 0, 0, 0, [])]
noncomputable def K_x_nods : List aE := [
  (0, none, .iload_n 1, 1, 1, 0, 0, 0, 0, []),
  (1, none, .iconst 5, 1, 0, 0, 0, 0, 0, []),
  (2, none, .invokestatic 83, 3, 143, 2, 2, 0, 0, []),
  (5, none, .ifCond .eq 11, 3, 16, 0, 0, 0, 0, []),
  (8, none, .iload_n 2, 1, 2, 0, 0, 0, 0, []),
  (9, none, .iconst 5, 1, 0, 0, 0, 0, 0, []),
  (10, none, .invokestatic 83, 3, 143, 2, 2, 0, 0, []),
  (13, none, .ifCond .ne 5, 3, 18, 0, 0, 0, 0, []),
  (16, none, .iconst (-1), 1, 0, 0, 0, 0, 0, []),
  (17, none, .ireturn, 1, 0, 0, 0, 0, 0, []),
  (18, none, .aload_n 0, 1, 0, 0, 0, 0, 0, []),
  (19, none, .getfield 10, 3, 10, 0, 11, 1, 0, []),
  (22, none, .getfield 70, 3, 9, 0, 10, 1, 0, []),
  (25, none, .iload_n 1, 1, 1, 0, 0, 0, 0, []),
  (26, none, .invokevirtual 293, 3, 92, 2, 2, 0, 0, []),
  (29, none, .istore_n 3, 1, 3, 0, 0, 0, 0, []),
  (30, none, .iload_n 1, 1, 1, 0, 0, 0, 0, []),
  (31, none, .iload_n 2, 1, 2, 0, 0, 0, 0, []),
  (32, none, .if_icmp .ne 13, 3, 45, 0, 0, 0, 0, []),
  (35, none, .iload_n 3, 1, 3, 0, 0, 0, 0, []),
  (36, none, .iload_n 3, 1, 3, 0, 0, 0, 0, []),
  (37, none, .iconst 1, 1, 0, 0, 0, 0, 0, []),
  (38, none, .isub, 1, 0, 0, 0, 0, 0, []),
  (39, none, .imul, 1, 0, 0, 0, 0, 0, []),
  (40, none, .iconst 2, 1, 0, 0, 0, 0, 0, []),
  (41, none, .idiv, 1, 0, 0, 0, 0, 0, []),
  (42, none, .goto 16, 3, 58, 0, 0, 0, 0, []),
  (45, none, .iload_n 3, 1, 3, 0, 0, 0, 0, []),
  (46, none, .aload_n 0, 1, 0, 0, 0, 0, 0, []),
  (47, none, .getfield 10, 3, 10, 0, 11, 1, 0, []),
  (50, none, .getfield 70, 3, 9, 0, 10, 1, 0, []),
  (53, none, .iload_n 2, 1, 2, 0, 0, 0, 0, []),
  (54, none, .invokevirtual 293, 3, 92, 2, 2, 0, 0, []),
  (57, none, .imul, 1, 0, 0, 0, 0, 0, []),
  (58, none, .ireturn, 1, 0, 0, 0, 0, 0, [])]
noncomputable def K_x_game : List aE := [
  (0, none, .iload_n 1, 1, 1, 0, 0, 0, 0, []),
  (1, none, .iconst 1, 1, 0, 0, 0, 0, 0, []),
  (2, none, .invokestatic 83, 3, 143, 2, 2, 0, 0, []),
  (5, none, .ifCond .ne 5, 3, 10, 0, 0, 0, 0, []),
  (8, none, .iconst (-1), 1, 0, 0, 0, 0, 0, []),
  (9, none, .ireturn, 1, 0, 0, 0, 0, 0, []),
  (10, none, .aload_n 0, 1, 0, 0, 0, 0, 0, []),
  (11, none, .getfield 62, 3, 10, 8, 9, 150, 0, []),
  (14, none, .aload_n 0, 1, 0, 0, 0, 0, 0, []),
  (15, none, .getfield 10, 3, 10, 0, 11, 1, 0, []),
  (18, none, .getfield 70, 3, 9, 0, 10, 1, 0, []),
  (21, none, .invokevirtual 296, 3, 81, 2, 2, 0, 0, []),
  (24, none, .istore_n 2, 1, 2, 0, 0, 0, 0, []),
  (25, none, .iload_n 1, 1, 1, 0, 0, 0, 0, []),
  (26, none, .ifCond .eq 8, 3, 34, 0, 0, 0, 0, []),
  (29, none, .iload_n 2, 1, 2, 0, 0, 0, 0, []),
  (30, none, .iconst (-1), 1, 0, 0, 0, 0, 0, []),
  (31, none, .if_icmp .ne 7, 3, 38, 0, 0, 0, 0, []),
  (34, none, .iload_n 2, 1, 2, 0, 0, 0, 0, []),
  (35, none, .goto 18, 3, 53, 0, 0, 0, 0, []),
  (38, none, .aload_n 0, 1, 0, 0, 0, 0, 0, []),
  (39, none, .getfield 62, 3, 10, 8, 9, 150, 0, []),
  (42, none, .aload_n 0, 1, 0, 0, 0, 0, 0, []),
  (43, none, .getfield 10, 3, 10, 0, 11, 1, 0, []),
  (46, none, .getfield 70, 3, 9, 0, 10, 1, 0, []),
  (49, none, .iload_n 2, 1, 2, 0, 0, 0, 0, []),
  (50, none, .invokevirtual 300, 3, 82, 3, 2, 0, 0, []),
  (53, none, .ireturn, 1, 0, 0, 0, 0, 0, [])]
noncomputable def K_x_undo : List aE := [
  (0, none, .aload_n 0, 1, 0, 0, 0, 0, 0, []),
  (1, none, .getfield 25, 3, 10, 3, 2, 94, 0, []),
  (4, none, .aload_n 0, 1, 0, 0, 0, 0, 0, []),
  (5, none, .getfield 10, 3, 10, 0, 11, 1, 0, []),
  (8, none, .invokevirtual 304, 3, 2, 2, 2, 0, 0, []),
  (11, none, .ireturn, 1, 1, 0, 0, 0, 0, [])]
noncomputable def K_x_image : List aE := [
  (0, none, .iload_n 1, 1, 1, 0, 0, 0, 0, []),
  (1, none, .ifCond .eq 21, 3, 22, 0, 0, 0, 0, []),
  (4, none, .aload_n 0, 1, 0, 0, 0, 0, 0, []),
  (5, none, .getfield 16, 3, 10, 1, 11, 32, 0, []),
  (8, none, .aload_n 0, 1, 0, 0, 0, 0, 0, []),
  (9, none, .getfield 10, 3, 10, 0, 11, 1, 0, []),
  (12, none, .invokevirtual 189, 3, 108, 2, 1, 0, 0, []),
  (15, none, .aload_n 0, 1, 0, 0, 0, 0, 0, []),
  (16, none, .iconst 1, 1, 0, 0, 0, 0, 0, []),
  (17, none, .putfield 66, 3, 10, 9, 1, 0, 0, []),
  (20, none, .iconst 1, 1, 0, 0, 0, 0, 0, []),
  (21, none, .ireturn, 1, 1, 0, 0, 0, 0, []),
  (22, none, .aload_n 0, 1, 0, 0, 0, 0, 0, []),
  (23, none, .getfield 66, 3, 10, 9, 0, 0, 0, []),
  (26, none, .ifCond .ne 5, 3, 31, 0, 0, 0, 0, []),
  (29, none, .iconst 0, 1, 0, 0, 0, 0, 0, []),
  (30, none, .ireturn, 1, 1, 0, 0, 0, 0, []),
  (31, none, .aload_n 0, 1, 0, 0, 0, 0, 0, []),
  (32, none, .getfield 10, 3, 10, 0, 11, 1, 0, []),
  (35, none, .aload_n 0, 1, 0, 0, 0, 0, 0, []),
  (36, none, .getfield 16, 3, 10, 1, 11, 32, 0, []),
  (39, none, .invokevirtual 189, 3, 108, 2, 1, 0, 0, []),
  (42, none, .aload_n 0, 1, 0, 0, 0, 0, 0, []),
  (43, none, .getfield 25, 3, 10, 3, 2, 94, 0, []),
  (46, none, .invokevirtual 80, 3, 0, 1, 1, 0, 0, []),
  (49, none, .iconst 1, 1, 0, 0, 0, 0, 0, []),
  (50, none, .ireturn, 1, 1, 0, 0, 0, 0, [])]
noncomputable def K_x_look : List aE := [
  (0, none, .aload_n 0, 1, 0, 0, 0, 0, 0, []),
  (1, none, .getfield 10, 3, 10, 0, 11, 1, 0, []),
  (4, none, .getfield 70, 3, 9, 0, 10, 1, 0, []),
  (7, none, .astore_n 2, 1, 2, 0, 0, 0, 0, []),
  (8, none, .iload_n 1, 1, 1, 0, 0, 0, 0, []),
  (9, none, .tableswitch 270 0 20 #[99, 104, 109, 114, 119, 124, 129, 134, 139, 144, 155, 160, 174, 185, 196, 207, 218, 229, 240, 251, 262], 99, 279, 0, 0, 0, 0, [(0, 108), (1, 113), (2, 118), (3, 123), (4, 128), (5, 133), (6, 138), (7, 143), (8, 148), (9, 153), (10, 164), (11, 169), (12, 183), (13, 194), (14, 205), (15, 216), (16, 227), (17, 238), (18, 249), (19, 260), (20, 271)]),
  (108, none, .aload_n 2, 1, 2, 0, 0, 0, 0, []),
  (109, none, .getfield 87, 3, 8, 4, 0, 0, 0, []),
  (112, none, .ireturn, 1, 0, 0, 0, 0, 0, []),
  (113, none, .aload_n 2, 1, 2, 0, 0, 0, 0, []),
  (114, none, .getfield 116, 3, 8, 14, 0, 0, 0, []),
  (117, none, .ireturn, 1, 0, 0, 0, 0, 0, []),
  (118, none, .aload_n 2, 1, 2, 0, 0, 0, 0, []),
  (119, none, .getfield 123, 3, 8, 11, 0, 0, 0, []),
  (122, none, .ireturn, 1, 0, 0, 0, 0, 0, []),
  (123, none, .aload_n 2, 1, 2, 0, 0, 0, 0, []),
  (124, none, .getfield 192, 3, 8, 12, 0, 0, 0, []),
  (127, none, .ireturn, 1, 0, 0, 0, 0, 0, []),
  (128, none, .aload_n 2, 1, 2, 0, 0, 0, 0, []),
  (129, none, .getfield 195, 3, 8, 13, 0, 0, 0, []),
  (132, none, .ireturn, 1, 0, 0, 0, 0, 0, []),
  (133, none, .aload_n 2, 1, 2, 0, 0, 0, 0, []),
  (134, none, .getfield 307, 3, 8, 6, 0, 0, 0, []),
  (137, none, .ireturn, 1, 0, 0, 0, 0, 0, []),
  (138, none, .aload_n 2, 1, 2, 0, 0, 0, 0, []),
  (139, none, .getfield 310, 3, 8, 7, 0, 0, 0, []),
  (142, none, .ireturn, 1, 0, 0, 0, 0, 0, []),
  (143, none, .aload_n 2, 1, 2, 0, 0, 0, 0, []),
  (144, none, .getfield 313, 3, 8, 8, 0, 0, 0, []),
  (147, none, .ireturn, 1, 0, 0, 0, 0, 0, []),
  (148, none, .aload_n 2, 1, 2, 0, 0, 0, 0, []),
  (149, none, .getfield 283, 3, 8, 5, 0, 0, 0, []),
  (152, none, .ireturn, 1, 0, 0, 0, 0, 0, []),
  (153, none, .aload_n 0, 1, 0, 0, 0, 0, 0, []),
  (154, none, .getfield 10, 3, 10, 0, 11, 1, 0, []),
  (157, none, .getfield 175, 3, 9, 5, 7, 17, 0, []),
  (160, none, .getfield 276, 3, 5, 2, 0, 0, 0, []),
  (163, none, .ireturn, 1, 0, 0, 0, 0, 0, []),
  (164, none, .aload_n 2, 1, 2, 0, 0, 0, 0, []),
  (165, none, .getfield 74, 3, 8, 15, 0, 0, 0, []),
  (168, none, .ireturn, 1, 0, 0, 0, 0, 0, []),
  (169, none, .aload_n 0, 1, 0, 0, 0, 0, 0, []),
  (170, none, .getfield 10, 3, 10, 0, 11, 1, 0, []),
  (173, none, .getfield 316, 3, 9, 1, 4, 6, 0, []),
  (176, none, .getfield 320, 3, 2, 2, 7, 3, 0, []),
  (179, none, .getfield 276, 3, 5, 2, 0, 0, 0, []),
  (182, none, .ireturn, 1, 0, 0, 0, 0, 0, []),
  (183, none, .aload_n 0, 1, 0, 0, 0, 0, 0, []),
  (184, none, .getfield 10, 3, 10, 0, 11, 1, 0, []),
  (187, none, .getfield 323, 3, 9, 2, 7, 11, 0, []),
  (190, none, .getfield 276, 3, 5, 2, 0, 0, 0, []),
  (193, none, .ireturn, 1, 0, 0, 0, 0, 0, []),
  (194, none, .aload_n 0, 1, 0, 0, 0, 0, 0, []),
  (195, none, .getfield 10, 3, 10, 0, 11, 1, 0, []),
  (198, none, .getfield 162, 3, 9, 3, 7, 13, 0, []),
  (201, none, .getfield 276, 3, 5, 2, 0, 0, 0, []),
  (204, none, .ireturn, 1, 0, 0, 0, 0, 0, []),
  (205, none, .aload_n 0, 1, 0, 0, 0, 0, 0, []),
  (206, none, .getfield 10, 3, 10, 0, 11, 1, 0, []),
  (209, none, .getfield 228, 3, 9, 4, 7, 15, 0, []),
  (212, none, .getfield 276, 3, 5, 2, 0, 0, 0, []),
  (215, none, .ireturn, 1, 0, 0, 0, 0, 0, []),
  (216, none, .aload_n 0, 1, 0, 0, 0, 0, 0, []),
  (217, none, .getfield 10, 3, 10, 0, 11, 1, 0, []),
  (220, none, .getfield 209, 3, 9, 6, 7, 19, 0, []),
  (223, none, .getfield 276, 3, 5, 2, 0, 0, 0, []),
  (226, none, .ireturn, 1, 0, 0, 0, 0, 0, []),
  (227, none, .aload_n 0, 1, 0, 0, 0, 0, 0, []),
  (228, none, .getfield 10, 3, 10, 0, 11, 1, 0, []),
  (231, none, .getfield 239, 3, 9, 7, 7, 21, 0, []),
  (234, none, .getfield 276, 3, 5, 2, 0, 0, 0, []),
  (237, none, .ireturn, 1, 0, 0, 0, 0, 0, []),
  (238, none, .aload_n 0, 1, 0, 0, 0, 0, 0, []),
  (239, none, .getfield 10, 3, 10, 0, 11, 1, 0, []),
  (242, none, .getfield 258, 3, 9, 8, 7, 23, 0, []),
  (245, none, .getfield 276, 3, 5, 2, 0, 0, 0, []),
  (248, none, .ireturn, 1, 0, 0, 0, 0, 0, []),
  (249, none, .aload_n 0, 1, 0, 0, 0, 0, 0, []),
  (250, none, .getfield 10, 3, 10, 0, 11, 1, 0, []),
  (253, none, .getfield 264, 3, 9, 9, 7, 25, 0, []),
  (256, none, .getfield 276, 3, 5, 2, 0, 0, 0, []),
  (259, none, .ireturn, 1, 0, 0, 0, 0, 0, []),
  (260, none, .aload_n 0, 1, 0, 0, 0, 0, 0, []),
  (261, none, .getfield 10, 3, 10, 0, 11, 1, 0, []),
  (264, none, .getfield 273, 3, 9, 10, 7, 27, 0, []),
  (267, none, .getfield 276, 3, 5, 2, 0, 0, 0, []),
  (270, none, .ireturn, 1, 0, 0, 0, 0, 0, []),
  (271, none, .aload_n 0, 1, 0, 0, 0, 0, 0, []),
  (272, none, .getfield 25, 3, 10, 3, 2, 94, 0, []),
  (275, none, .getfield 326, 3, 0, 3, 0, 0, 0, []),
  (278, none, .ireturn, 1, 0, 0, 0, 0, 0, []),
  (279, none, .ldc_w 327, 3, 0, 0, 0, 0, (-1000000), []),
  (282, none, .ireturn, 1, 0, 0, 0, 0, 0, [])]
noncomputable def K_x_within : List aE := [
  (0, none, .iload_n 0, 1, 0, 0, 0, 0, 0, []),
  (1, none, .ifCond .lt 12, 3, 13, 0, 0, 0, 0, []),
  (4, none, .iload_n 0, 1, 0, 0, 0, 0, 0, []),
  (5, none, .iload_n 1, 1, 1, 0, 0, 0, 0, []),
  (6, none, .if_icmp .gt 7, 3, 13, 0, 0, 0, 0, []),
  (9, none, .iconst 1, 1, 0, 0, 0, 0, 0, []),
  (10, none, .goto 4, 3, 14, 0, 0, 0, 0, []),
  (13, none, .iconst 0, 1, 0, 0, 0, 0, 0, []),
  (14, none, .ireturn, 1, 1, 0, 0, 0, 0, [])]
noncomputable def K_x_setWood : List aE := [
  (0, none, .aload_n 0, 1, 0, 0, 0, 0, 0, []),
  (1, none, .getfield 10, 3, 10, 0, 11, 1, 0, []),
  (4, none, .getfield 70, 3, 9, 0, 10, 1, 0, []),
  (7, none, .astore_n 3, 1, 3, 0, 0, 0, 0, []),
  (8, none, .iload_n 1, 1, 1, 0, 0, 0, 0, []),
  (9, none, .tableswitch 126 0 4 #[35, 53, 71, 88, 107], 35, 135, 0, 0, 0, 0, [(0, 44), (1, 62), (2, 80), (3, 97), (4, 116)]),
  (44, none, .iload_n 2, 1, 2, 0, 0, 0, 0, []),
  (45, none, .bipush 99, 2, 0, 0, 0, 0, 0, []),
  (47, none, .invokestatic 83, 3, 143, 2, 2, 0, 0, []),
  (50, none, .ifCond .ne 5, 3, 55, 0, 0, 0, 0, []),
  (53, none, .iconst 0, 1, 0, 0, 0, 0, 0, []),
  (54, none, .ireturn, 1, 1, 0, 0, 0, 0, []),
  (55, none, .aload_n 3, 1, 3, 0, 0, 0, 0, []),
  (56, none, .iload_n 2, 1, 2, 0, 0, 0, 0, []),
  (57, none, .putfield 307, 3, 8, 6, 0, 0, 0, []),
  (60, none, .iconst 1, 1, 0, 0, 0, 0, 0, []),
  (61, none, .ireturn, 1, 1, 0, 0, 0, 0, []),
  (62, none, .iload_n 2, 1, 2, 0, 0, 0, 0, []),
  (63, none, .bipush 99, 2, 0, 0, 0, 0, 0, []),
  (65, none, .invokestatic 83, 3, 143, 2, 2, 0, 0, []),
  (68, none, .ifCond .ne 5, 3, 73, 0, 0, 0, 0, []),
  (71, none, .iconst 0, 1, 0, 0, 0, 0, 0, []),
  (72, none, .ireturn, 1, 1, 0, 0, 0, 0, []),
  (73, none, .aload_n 3, 1, 3, 0, 0, 0, 0, []),
  (74, none, .iload_n 2, 1, 2, 0, 0, 0, 0, []),
  (75, none, .putfield 310, 3, 8, 7, 0, 0, 0, []),
  (78, none, .iconst 1, 1, 0, 0, 0, 0, 0, []),
  (79, none, .ireturn, 1, 1, 0, 0, 0, 0, []),
  (80, none, .iload_n 2, 1, 2, 0, 0, 0, 0, []),
  (81, none, .iconst 1, 1, 0, 0, 0, 0, 0, []),
  (82, none, .invokestatic 83, 3, 143, 2, 2, 0, 0, []),
  (85, none, .ifCond .ne 5, 3, 90, 0, 0, 0, 0, []),
  (88, none, .iconst 0, 1, 0, 0, 0, 0, 0, []),
  (89, none, .ireturn, 1, 1, 0, 0, 0, 0, []),
  (90, none, .aload_n 3, 1, 3, 0, 0, 0, 0, []),
  (91, none, .iload_n 2, 1, 2, 0, 0, 0, 0, []),
  (92, none, .putfield 313, 3, 8, 8, 0, 0, 0, []),
  (95, none, .iconst 1, 1, 0, 0, 0, 0, 0, []),
  (96, none, .ireturn, 1, 1, 0, 0, 0, 0, []),
  (97, none, .iload_n 2, 1, 2, 0, 0, 0, 0, []),
  (98, none, .sipush 1000, 3, 0, 0, 0, 0, 0, []),
  (101, none, .invokestatic 83, 3, 143, 2, 2, 0, 0, []),
  (104, none, .ifCond .ne 5, 3, 109, 0, 0, 0, 0, []),
  (107, none, .iconst 0, 1, 0, 0, 0, 0, 0, []),
  (108, none, .ireturn, 1, 1, 0, 0, 0, 0, []),
  (109, none, .aload_n 3, 1, 3, 0, 0, 0, 0, []),
  (110, none, .iload_n 2, 1, 2, 0, 0, 0, 0, []),
  (111, none, .putfield 328, 3, 8, 9, 0, 0, 0, []),
  (114, none, .iconst 1, 1, 0, 0, 0, 0, 0, []),
  (115, none, .ireturn, 1, 1, 0, 0, 0, 0, []),
  (116, none, .iload_n 2, 1, 2, 0, 0, 0, 0, []),
  (117, none, .sipush 1000, 3, 0, 0, 0, 0, 0, []),
  (120, none, .invokestatic 83, 3, 143, 2, 2, 0, 0, []),
  (123, none, .ifCond .ne 5, 3, 128, 0, 0, 0, 0, []),
  (126, none, .iconst 0, 1, 0, 0, 0, 0, 0, []),
  (127, none, .ireturn, 1, 1, 0, 0, 0, 0, []),
  (128, none, .aload_n 3, 1, 3, 0, 0, 0, 0, []),
  (129, none, .iload_n 2, 1, 2, 0, 0, 0, 0, []),
  (130, none, .putfield 331, 3, 8, 10, 0, 0, 0, []),
  (133, none, .iconst 1, 1, 0, 0, 0, 0, 0, []),
  (134, none, .ireturn, 1, 1, 0, 0, 0, 0, []),
  (135, none, .iconst 0, 1, 0, 0, 0, 0, 0, []),
  (136, none, .ireturn, 1, 1, 0, 0, 0, 0, [])]
noncomputable def K_x_setDeer : List aE := [
  (0, none, .aload_n 0, 1, 0, 0, 0, 0, 0, []),
  (1, none, .getfield 10, 3, 10, 0, 11, 1, 0, []),
  (4, none, .getfield 70, 3, 9, 0, 10, 1, 0, []),
  (7, none, .astore 4, 2, 4, 0, 0, 0, 0, []),
  (9, none, .aload 4, 2, 4, 0, 0, 0, 0, []),
  (11, none, .iload_n 2, 1, 2, 0, 0, 0, 0, []),
  (12, none, .invokevirtual 101, 3, 83, 2, 2, 0, 0, []),
  (15, none, .ifCond .ne 5, 3, 20, 0, 0, 0, 0, []),
  (18, none, .iconst 0, 1, 0, 0, 0, 0, 0, []),
  (19, none, .ireturn, 1, 1, 0, 0, 0, 0, []),
  (20, none, .iload_n 1, 1, 1, 0, 0, 0, 0, []),
  (21, none, .tableswitch 116 5 8 #[31, 51, 72, 94], 31, 137, 0, 0, 0, 0, [(5, 52), (6, 72), (7, 93), (8, 115)]),
  (52, none, .iload_n 3, 1, 3, 0, 0, 0, 0, []),
  (53, none, .iconst 5, 1, 0, 0, 0, 0, 0, []),
  (54, none, .invokestatic 83, 3, 143, 2, 2, 0, 0, []),
  (57, none, .ifCond .ne 5, 3, 62, 0, 0, 0, 0, []),
  (60, none, .iconst 0, 1, 0, 0, 0, 0, 0, []),
  (61, none, .ireturn, 1, 1, 0, 0, 0, 0, []),
  (62, none, .aload 4, 2, 4, 0, 0, 0, 0, []),
  (64, none, .getfield 144, 3, 8, 0, 22, 1, 0, []),
  (67, none, .iload_n 2, 1, 2, 0, 0, 0, 0, []),
  (68, none, .iload_n 3, 1, 3, 0, 0, 0, 0, []),
  (69, none, .iastore, 1, 0, 0, 0, 0, 0, []),
  (70, none, .iconst 1, 1, 0, 0, 0, 0, 0, []),
  (71, none, .ireturn, 1, 1, 0, 0, 0, 0, []),
  (72, none, .iload_n 3, 1, 3, 0, 0, 0, 0, []),
  (73, none, .bipush 9, 2, 0, 0, 0, 0, 0, []),
  (75, none, .invokestatic 83, 3, 143, 2, 2, 0, 0, []),
  (78, none, .ifCond .ne 5, 3, 83, 0, 0, 0, 0, []),
  (81, none, .iconst 0, 1, 0, 0, 0, 0, 0, []),
  (82, none, .ireturn, 1, 1, 0, 0, 0, 0, []),
  (83, none, .aload 4, 2, 4, 0, 0, 0, 0, []),
  (85, none, .getfield 148, 3, 8, 1, 22, 2, 0, []),
  (88, none, .iload_n 2, 1, 2, 0, 0, 0, 0, []),
  (89, none, .iload_n 3, 1, 3, 0, 0, 0, 0, []),
  (90, none, .iastore, 1, 0, 0, 0, 0, 0, []),
  (91, none, .iconst 1, 1, 0, 0, 0, 0, 0, []),
  (92, none, .ireturn, 1, 1, 0, 0, 0, 0, []),
  (93, none, .iload_n 3, 1, 3, 0, 0, 0, 0, []),
  (94, none, .sipush 999, 3, 0, 0, 0, 0, 0, []),
  (97, none, .invokestatic 83, 3, 143, 2, 2, 0, 0, []),
  (100, none, .ifCond .ne 5, 3, 105, 0, 0, 0, 0, []),
  (103, none, .iconst 0, 1, 0, 0, 0, 0, 0, []),
  (104, none, .ireturn, 1, 1, 0, 0, 0, 0, []),
  (105, none, .aload 4, 2, 4, 0, 0, 0, 0, []),
  (107, none, .getfield 151, 3, 8, 2, 22, 3, 0, []),
  (110, none, .iload_n 2, 1, 2, 0, 0, 0, 0, []),
  (111, none, .iload_n 3, 1, 3, 0, 0, 0, 0, []),
  (112, none, .iastore, 1, 0, 0, 0, 0, 0, []),
  (113, none, .iconst 1, 1, 0, 0, 0, 0, 0, []),
  (114, none, .ireturn, 1, 1, 0, 0, 0, 0, []),
  (115, none, .iload_n 3, 1, 3, 0, 0, 0, 0, []),
  (116, none, .sipush 999, 3, 0, 0, 0, 0, 0, []),
  (119, none, .invokestatic 83, 3, 143, 2, 2, 0, 0, []),
  (122, none, .ifCond .ne 5, 3, 127, 0, 0, 0, 0, []),
  (125, none, .iconst 0, 1, 0, 0, 0, 0, 0, []),
  (126, none, .ireturn, 1, 1, 0, 0, 0, 0, []),
  (127, none, .aload 4, 2, 4, 0, 0, 0, 0, []),
  (129, none, .getfield 154, 3, 8, 3, 22, 4, 0, []),
  (132, none, .iload_n 2, 1, 2, 0, 0, 0, 0, []),
  (133, none, .iload_n 3, 1, 3, 0, 0, 0, 0, []),
  (134, none, .iastore, 1, 0, 0, 0, 0, 0, []),
  (135, none, .iconst 1, 1, 0, 0, 0, 0, 0, []),
  (136, none, .ireturn, 1, 1, 0, 0, 0, 0, []),
  (137, none, .iconst 0, 1, 0, 0, 0, 0, 0, []),
  (138, none, .ireturn, 1, 1, 0, 0, 0, 0, [])]
noncomputable def K_x_takeText : List aE := [
  (0, none, .iload_n 1, 1, 1, 0, 0, 0, 0, []),
  (1, none, .tableswitch 139 0 2 #[27, 58, 93], 27, 140, 0, 0, 0, 0, [(0, 28), (1, 59), (2, 94)]),
  (28, none, .aload_n 0, 1, 0, 0, 0, 0, 0, []),
  (29, none, .getfield 10, 3, 10, 0, 11, 1, 0, []),
  (32, none, .getfield 316, 3, 9, 1, 4, 6, 0, []),
  (35, none, .aload_n 0, 1, 0, 0, 0, 0, 0, []),
  (36, none, .getfield 41, 3, 10, 5, 6, 132, 0, []),
  (39, none, .getfield 334, 3, 4, 0, 4, 1, 0, []),
  (42, none, .invokevirtual 335, 3, 17, 2, 1, 0, 0, []),
  (45, none, .aload_n 0, 1, 0, 0, 0, 0, 0, []),
  (46, none, .getfield 10, 3, 10, 0, 11, 1, 0, []),
  (49, none, .getfield 316, 3, 9, 1, 4, 6, 0, []),
  (52, none, .getfield 320, 3, 2, 2, 7, 3, 0, []),
  (55, none, .getfield 276, 3, 5, 2, 0, 0, 0, []),
  (58, none, .ireturn, 1, 0, 0, 0, 0, 0, []),
  (59, none, .aload_n 0, 1, 0, 0, 0, 0, 0, []),
  (60, none, .getfield 10, 3, 10, 0, 11, 1, 0, []),
  (63, none, .getfield 323, 3, 9, 2, 7, 11, 0, []),
  (66, none, .aload_n 0, 1, 0, 0, 0, 0, 0, []),
  (67, none, .getfield 41, 3, 10, 5, 6, 132, 0, []),
  (70, none, .getfield 338, 3, 4, 1, 7, 6, 0, []),
  (73, none, .invokevirtual 341, 3, 52, 2, 1, 0, 0, []),
  (76, none, .aload_n 0, 1, 0, 0, 0, 0, 0, []),
  (77, none, .getfield 25, 3, 10, 3, 2, 94, 0, []),
  (80, none, .invokevirtual 80, 3, 0, 1, 1, 0, 0, []),
  (83, none, .aload_n 0, 1, 0, 0, 0, 0, 0, []),
  (84, none, .getfield 10, 3, 10, 0, 11, 1, 0, []),
  (87, none, .getfield 323, 3, 9, 2, 7, 11, 0, []),
  (90, none, .getfield 276, 3, 5, 2, 0, 0, 0, []),
  (93, none, .ireturn, 1, 0, 0, 0, 0, 0, []),
  (94, none, .aload_n 0, 1, 0, 0, 0, 0, 0, []),
  (95, none, .getfield 10, 3, 10, 0, 11, 1, 0, []),
  (98, none, .getfield 162, 3, 9, 3, 7, 13, 0, []),
  (101, none, .aload_n 0, 1, 0, 0, 0, 0, 0, []),
  (102, none, .getfield 41, 3, 10, 5, 6, 132, 0, []),
  (105, none, .getfield 338, 3, 4, 1, 7, 6, 0, []),
  (108, none, .invokevirtual 341, 3, 52, 2, 1, 0, 0, []),
  (111, none, .aload_n 0, 1, 0, 0, 0, 0, 0, []),
  (112, none, .getfield 10, 3, 10, 0, 11, 1, 0, []),
  (115, none, .getfield 70, 3, 9, 0, 10, 1, 0, []),
  (118, none, .iconst 0, 1, 0, 0, 0, 0, 0, []),
  (119, none, .putfield 198, 3, 8, 16, 0, 0, 0, []),
  (122, none, .aload_n 0, 1, 0, 0, 0, 0, 0, []),
  (123, none, .getfield 25, 3, 10, 3, 2, 94, 0, []),
  (126, none, .invokevirtual 80, 3, 0, 1, 1, 0, 0, []),
  (129, none, .aload_n 0, 1, 0, 0, 0, 0, 0, []),
  (130, none, .getfield 10, 3, 10, 0, 11, 1, 0, []),
  (133, none, .getfield 162, 3, 9, 3, 7, 13, 0, []),
  (136, none, .getfield 276, 3, 5, 2, 0, 0, 0, []),
  (139, none, .ireturn, 1, 0, 0, 0, 0, 0, []),
  (140, none, .aload_n 0, 1, 0, 0, 0, 0, 0, []),
  (141, none, .getfield 10, 3, 10, 0, 11, 1, 0, []),
  (144, none, .getfield 228, 3, 9, 4, 7, 15, 0, []),
  (147, none, .aload_n 0, 1, 0, 0, 0, 0, 0, []),
  (148, none, .getfield 41, 3, 10, 5, 6, 132, 0, []),
  (151, none, .getfield 338, 3, 4, 1, 7, 6, 0, []),
  (154, none, .invokevirtual 341, 3, 52, 2, 1, 0, 0, []),
  (157, none, .aload_n 0, 1, 0, 0, 0, 0, 0, []),
  (158, none, .getfield 10, 3, 10, 0, 11, 1, 0, []),
  (161, none, .getfield 228, 3, 9, 4, 7, 15, 0, []),
  (164, none, .getfield 276, 3, 5, 2, 0, 0, 0, []),
  (167, none, .ireturn, 1, 0, 0, 0, 0, 0, [])]
noncomputable def K_x_likelyWithin : List aE := [
  (0, none, .ldc2_w 344, 3, 0, 0, 0, 0, 1000000, []),
  (3, none, .lstore_n 2, 1, 2, 0, 0, 0, 0, []),
  (4, none, .iconst 0, 1, 0, 0, 0, 0, 0, []),
  (5, none, .istore 4, 2, 4, 0, 0, 0, 0, []),
  (7, some [true, true, true, false, true], .iload 4, 2, 4, 0, 0, 0, 0, []),
  (9, none, .iload_n 1, 1, 1, 0, 0, 0, 0, []),
  (10, none, .if_icmp .ge 20, 3, 30, 0, 0, 0, 0, []),
  (13, none, .lload_n 2, 1, 2, 0, 0, 0, 0, []),
  (14, none, .lload_n 2, 1, 2, 0, 0, 0, 0, []),
  (15, none, .iload_n 0, 1, 0, 0, 0, 0, 0, []),
  (16, none, .i2l, 1, 0, 0, 0, 0, 0, []),
  (17, none, .lmul, 1, 0, 0, 0, 0, 0, []),
  (18, none, .ldc2_w 344, 3, 0, 0, 0, 0, 1000000, []),
  (21, none, .ldiv, 1, 0, 0, 0, 0, 0, []),
  (22, none, .lsub, 1, 0, 0, 0, 0, 0, []),
  (23, none, .lstore_n 2, 1, 2, 0, 0, 0, 0, []),
  (24, none, .iinc 4 1, 3, 4, 0, 0, 0, 0, []),
  (27, none, .goto (-20), 3, 7, 0, 0, 0, 0, []),
  (30, none, .ldc2_w 344, 3, 0, 0, 0, 0, 1000000, []),
  (33, none, .lload_n 2, 1, 2, 0, 0, 0, 0, []),
  (34, none, .lsub, 1, 0, 0, 0, 0, 0, []),
  (35, none, .l2i, 1, 0, 0, 0, 0, 0, []),
  (36, none, .ireturn, 1, 0, 0, 0, 0, 0, [])]
noncomputable def K_m_isIn : List aE := [
  (0, none, .iload_n 0, 1, 0, 0, 0, 0, 0, []),
  (1, none, .iload_n 1, 1, 1, 0, 0, 0, 0, []),
  (2, none, .if_icmp .lt 12, 3, 14, 0, 0, 0, 0, []),
  (5, none, .iload_n 0, 1, 0, 0, 0, 0, 0, []),
  (6, none, .iload_n 2, 1, 2, 0, 0, 0, 0, []),
  (7, none, .if_icmp .gt 7, 3, 14, 0, 0, 0, 0, []),
  (10, none, .iconst 1, 1, 0, 0, 0, 0, 0, []),
  (11, none, .goto 4, 3, 15, 0, 0, 0, 0, []),
  (14, none, .iconst 0, 1, 0, 0, 0, 0, 0, []),
  (15, none, .ireturn, 1, 1, 0, 0, 0, 0, [])]
noncomputable def K_m_lesser : List aE := [
  (0, none, .iload_n 0, 1, 0, 0, 0, 0, 0, []),
  (1, none, .iload_n 1, 1, 1, 0, 0, 0, 0, []),
  (2, none, .if_icmp .ge 7, 3, 9, 0, 0, 0, 0, []),
  (5, none, .iload_n 0, 1, 0, 0, 0, 0, 0, []),
  (6, none, .goto 4, 3, 10, 0, 0, 0, 0, []),
  (9, none, .iload_n 1, 1, 1, 0, 0, 0, 0, []),
  (10, none, .ireturn, 1, 0, 0, 0, 0, 0, [])]
noncomputable def K_m_greater : List aE := [
  (0, none, .iload_n 0, 1, 0, 0, 0, 0, 0, []),
  (1, none, .iload_n 1, 1, 1, 0, 0, 0, 0, []),
  (2, none, .if_icmp .le 7, 3, 9, 0, 0, 0, 0, []),
  (5, none, .iload_n 0, 1, 0, 0, 0, 0, 0, []),
  (6, none, .goto 4, 3, 10, 0, 0, 0, 0, []),
  (9, none, .iload_n 1, 1, 1, 0, 0, 0, 0, []),
  (10, none, .ireturn, 1, 0, 0, 0, 0, 0, [])]
noncomputable def K_m_size : List aE := [
  (0, none, .iload_n 0, 1, 0, 0, 0, 0, 0, []),
  (1, none, .ifCond .ge 8, 3, 9, 0, 0, 0, 0, []),
  (4, none, .iload_n 0, 1, 0, 0, 0, 0, 0, []),
  (5, none, .ineg, 1, 0, 0, 0, 0, 0, []),
  (6, none, .goto 4, 3, 10, 0, 0, 0, 0, []),
  (9, none, .iload_n 0, 1, 0, 0, 0, 0, 0, []),
  (10, none, .ireturn, 1, 0, 0, 0, 0, 0, [])]
noncomputable def K_m_isDeer : List aE := [
  (0, none, .iload_n 1, 1, 1, 0, 0, 0, 0, []),
  (1, none, .iconst 0, 1, 0, 0, 0, 0, 0, []),
  (2, none, .aload_n 0, 1, 0, 0, 0, 0, 0, []),
  (3, none, .getfield 7, 3, 11, 0, 22, 1, 0, []),
  (6, none, .bipush 41, 2, 0, 0, 0, 0, 0, []),
  (8, none, .iaload, 1, 0, 0, 0, 0, 0, []),
  (9, none, .iconst 1, 1, 0, 0, 0, 0, 0, []),
  (10, none, .isub, 1, 0, 0, 0, 0, 0, []),
  (11, none, .invokestatic 71, 3, 148, 3, 2, 0, 0, []),
  (14, none, .ireturn, 1, 1, 0, 0, 0, 0, [])]
noncomputable def K_m_isAlive : List aE := [
  (0, none, .aload_n 0, 1, 0, 0, 0, 0, 0, []),
  (1, none, .iload_n 1, 1, 1, 0, 0, 0, 0, []),
  (2, none, .invokevirtual 75, 3, 152, 2, 2, 0, 0, []),
  (5, none, .ifCond .eq 22, 3, 27, 0, 0, 0, 0, []),
  (8, none, .aload_n 0, 1, 0, 0, 0, 0, 0, []),
  (9, none, .getfield 7, 3, 11, 0, 22, 1, 0, []),
  (12, none, .bipush 10, 2, 0, 0, 0, 0, 0, []),
  (14, none, .iaload, 1, 0, 0, 0, 0, 0, []),
  (15, none, .iload_n 1, 1, 1, 0, 0, 0, 0, []),
  (16, none, .ishr, 1, 0, 0, 0, 0, 0, []),
  (17, none, .iconst 1, 1, 0, 0, 0, 0, 0, []),
  (18, none, .iand, 1, 0, 0, 0, 0, 0, []),
  (19, none, .iconst 1, 1, 0, 0, 0, 0, 0, []),
  (20, none, .if_icmp .ne 7, 3, 27, 0, 0, 0, 0, []),
  (23, none, .iconst 1, 1, 0, 0, 0, 0, 0, []),
  (24, none, .goto 4, 3, 28, 0, 0, 0, 0, []),
  (27, none, .iconst 0, 1, 0, 0, 0, 0, 0, []),
  (28, none, .ireturn, 1, 1, 0, 0, 0, 0, [])]
noncomputable def K_m_count : List aE := [
  (0, none, .iconst 0, 1, 0, 0, 0, 0, 0, []),
  (1, none, .istore_n 1, 1, 1, 0, 0, 0, 0, []),
  (2, none, .iconst 0, 1, 0, 0, 0, 0, 0, []),
  (3, none, .istore_n 2, 1, 2, 0, 0, 0, 0, []),
  (4, some [true, true, true], .iload_n 2, 1, 2, 0, 0, 0, 0, []),
  (5, none, .bipush 16, 2, 0, 0, 0, 0, 0, []),
  (7, none, .if_icmp .ge 17, 3, 24, 0, 0, 0, 0, []),
  (10, none, .iload_n 1, 1, 1, 0, 0, 0, 0, []),
  (11, none, .iload_n 0, 1, 0, 0, 0, 0, 0, []),
  (12, none, .iload_n 2, 1, 2, 0, 0, 0, 0, []),
  (13, none, .ishr, 1, 0, 0, 0, 0, 0, []),
  (14, none, .iconst 1, 1, 0, 0, 0, 0, 0, []),
  (15, none, .iand, 1, 0, 0, 0, 0, 0, []),
  (16, none, .iadd, 1, 0, 0, 0, 0, 0, []),
  (17, none, .istore_n 1, 1, 1, 0, 0, 0, 0, []),
  (18, none, .iinc 2 1, 3, 2, 0, 0, 0, 0, []),
  (21, none, .goto (-17), 3, 4, 0, 0, 0, 0, []),
  (24, none, .iload_n 1, 1, 1, 0, 0, 0, 0, []),
  (25, none, .ireturn, 1, 0, 0, 0, 0, 0, [])]
noncomputable def K_m_forgets : List aE := [
  (0, none, .aload_n 0, 1, 0, 0, 0, 0, 0, []),
  (1, none, .iconst 0, 1, 0, 0, 0, 0, 0, []),
  (2, none, .putfield 79, 3, 11, 4, 0, 0, 0, []),
  (5, none, .return_, 1, 0, 0, 0, 0, 0, [])]
noncomputable def K_m_state : List aE := [
  (0, none, .aload_n 0, 1, 0, 0, 0, 0, 0, []),
  (1, none, .getfield 7, 3, 11, 0, 22, 1, 0, []),
  (4, none, .bipush 7, 2, 0, 0, 0, 0, 0, []),
  (6, none, .iaload, 1, 0, 0, 0, 0, 0, []),
  (7, none, .istore_n 2, 1, 2, 0, 0, 0, 0, []),
  (8, none, .aload_n 0, 1, 0, 0, 0, 0, 0, []),
  (9, none, .getfield 7, 3, 11, 0, 22, 1, 0, []),
  (12, none, .bipush 7, 2, 0, 0, 0, 0, 0, []),
  (14, none, .iload_n 1, 1, 1, 0, 0, 0, 0, []),
  (15, none, .iastore, 1, 0, 0, 0, 0, 0, []),
  (16, none, .aload_n 0, 1, 0, 0, 0, 0, 0, []),
  (17, none, .invokevirtual 82, 3, 155, 1, 1, 0, 0, []),
  (20, none, .iload_n 2, 1, 2, 0, 0, 0, 0, []),
  (21, none, .ireturn, 1, 0, 0, 0, 0, 0, [])]
noncomputable def K_m_draw : List aE := [
  (0, none, .aload_n 0, 1, 0, 0, 0, 0, 0, []),
  (1, none, .getfield 7, 3, 11, 0, 22, 1, 0, []),
  (4, none, .bipush 7, 2, 0, 0, 0, 0, 0, []),
  (6, none, .ldc 85, 2, 0, 0, 0, 0, 1664525, []),
  (8, none, .aload_n 0, 1, 0, 0, 0, 0, 0, []),
  (9, none, .getfield 7, 3, 11, 0, 22, 1, 0, []),
  (12, none, .bipush 7, 2, 0, 0, 0, 0, 0, []),
  (14, none, .iaload, 1, 0, 0, 0, 0, 0, []),
  (15, none, .imul, 1, 0, 0, 0, 0, 0, []),
  (16, none, .ldc 86, 2, 0, 0, 0, 0, 1013904223, []),
  (18, none, .iadd, 1, 0, 0, 0, 0, 0, []),
  (19, none, .iastore, 1, 0, 0, 0, 0, 0, []),
  (20, none, .aload_n 0, 1, 0, 0, 0, 0, 0, []),
  (21, none, .getfield 7, 3, 11, 0, 22, 1, 0, []),
  (24, none, .bipush 7, 2, 0, 0, 0, 0, 0, []),
  (26, none, .iaload, 1, 0, 0, 0, 0, 0, []),
  (27, none, .bipush 8, 2, 0, 0, 0, 0, 0, []),
  (29, none, .iushr, 1, 0, 0, 0, 0, 0, []),
  (30, none, .iload_n 1, 1, 1, 0, 0, 0, 0, []),
  (31, none, .irem, 1, 0, 0, 0, 0, 0, []),
  (32, none, .ireturn, 1, 0, 0, 0, 0, 0, [])]
noncomputable def K_m_deer : List aE := [
  (0, none, .iload_n 1, 1, 1, 0, 0, 0, 0, []),
  (1, none, .iconst 0, 1, 0, 0, 0, 0, 0, []),
  (2, none, .iconst 5, 1, 0, 0, 0, 0, 0, []),
  (3, none, .invokestatic 71, 3, 148, 3, 2, 0, 0, []),
  (6, none, .ifCond .eq 25, 3, 31, 0, 0, 0, 0, []),
  (9, none, .iload_n 2, 1, 2, 0, 0, 0, 0, []),
  (10, none, .iconst 0, 1, 0, 0, 0, 0, 0, []),
  (11, none, .bipush 9, 2, 0, 0, 0, 0, 0, []),
  (13, none, .invokestatic 71, 3, 148, 3, 2, 0, 0, []),
  (16, none, .ifCond .eq 15, 3, 31, 0, 0, 0, 0, []),
  (19, none, .aload_n 0, 1, 0, 0, 0, 0, 0, []),
  (20, none, .getfield 7, 3, 11, 0, 22, 1, 0, []),
  (23, none, .bipush 41, 2, 0, 0, 0, 0, 0, []),
  (25, none, .iaload, 1, 0, 0, 0, 0, 0, []),
  (26, none, .bipush 10, 2, 0, 0, 0, 0, 0, []),
  (28, none, .if_icmp .ne 5, 3, 33, 0, 0, 0, 0, []),
  (31, none, .iconst (-1), 1, 0, 0, 0, 0, 0, []),
  (32, none, .ireturn, 1, 0, 0, 0, 0, 0, []),
  (33, none, .aload_n 0, 1, 0, 0, 0, 0, 0, []),
  (34, none, .getfield 7, 3, 11, 0, 22, 1, 0, []),
  (37, none, .bipush 41, 2, 0, 0, 0, 0, 0, []),
  (39, none, .iaload, 1, 0, 0, 0, 0, 0, []),
  (40, none, .istore_n 3, 1, 3, 0, 0, 0, 0, []),
  (41, none, .aload_n 0, 1, 0, 0, 0, 0, 0, []),
  (42, none, .getfield 7, 3, 11, 0, 22, 1, 0, []),
  (45, none, .bipush 53, 2, 0, 0, 0, 0, 0, []),
  (47, none, .iload_n 3, 1, 3, 0, 0, 0, 0, []),
  (48, none, .iadd, 1, 0, 0, 0, 0, 0, []),
  (49, none, .iload_n 1, 1, 1, 0, 0, 0, 0, []),
  (50, none, .iastore, 1, 0, 0, 0, 0, 0, []),
  (51, none, .aload_n 0, 1, 0, 0, 0, 0, 0, []),
  (52, none, .getfield 7, 3, 11, 0, 22, 1, 0, []),
  (55, none, .bipush 11, 2, 0, 0, 0, 0, 0, []),
  (57, none, .iload_n 3, 1, 3, 0, 0, 0, 0, []),
  (58, none, .iadd, 1, 0, 0, 0, 0, 0, []),
  (59, none, .iload_n 2, 1, 2, 0, 0, 0, 0, []),
  (60, none, .iastore, 1, 0, 0, 0, 0, 0, []),
  (61, none, .aload_n 0, 1, 0, 0, 0, 0, 0, []),
  (62, none, .getfield 7, 3, 11, 0, 22, 1, 0, []),
  (65, none, .bipush 21, 2, 0, 0, 0, 0, 0, []),
  (67, none, .iload_n 3, 1, 3, 0, 0, 0, 0, []),
  (68, none, .iadd, 1, 0, 0, 0, 0, 0, []),
  (69, none, .iconst 0, 1, 0, 0, 0, 0, 0, []),
  (70, none, .iastore, 1, 0, 0, 0, 0, 0, []),
  (71, none, .aload_n 0, 1, 0, 0, 0, 0, 0, []),
  (72, none, .getfield 7, 3, 11, 0, 22, 1, 0, []),
  (75, none, .bipush 31, 2, 0, 0, 0, 0, 0, []),
  (77, none, .iload_n 3, 1, 3, 0, 0, 0, 0, []),
  (78, none, .iadd, 1, 0, 0, 0, 0, 0, []),
  (79, none, .iconst 0, 1, 0, 0, 0, 0, 0, []),
  (80, none, .iastore, 1, 0, 0, 0, 0, 0, []),
  (81, none, .aload_n 0, 1, 0, 0, 0, 0, 0, []),
  (82, none, .getfield 7, 3, 11, 0, 22, 1, 0, []),
  (85, none, .bipush 10, 2, 0, 0, 0, 0, 0, []),
  (87, none, .dup2, 1, 0, 0, 0, 0, 0, []),
  (88, none, .iaload, 1, 0, 0, 0, 0, 0, []),
  (89, none, .iconst 1, 1, 0, 0, 0, 0, 0, []),
  (90, none, .iload_n 3, 1, 3, 0, 0, 0, 0, []),
  (91, none, .ishl, 1, 0, 0, 0, 0, 0, []),
  (92, none, .ior, 1, 0, 0, 0, 0, 0, []),
  (93, none, .iastore, 1, 0, 0, 0, 0, 0, []),
  (94, none, .aload_n 0, 1, 0, 0, 0, 0, 0, []),
  (95, none, .getfield 7, 3, 11, 0, 22, 1, 0, []),
  (98, none, .bipush 41, 2, 0, 0, 0, 0, 0, []),
  (100, none, .dup2, 1, 0, 0, 0, 0, 0, []),
  (101, none, .iaload, 1, 0, 0, 0, 0, 0, []),
  (102, none, .iconst 1, 1, 0, 0, 0, 0, 0, []),
  (103, none, .iadd, 1, 0, 0, 0, 0, 0, []),
  (104, none, .iastore, 1, 0, 0, 0, 0, 0, []),
  (105, none, .aload_n 0, 1, 0, 0, 0, 0, 0, []),
  (106, none, .invokevirtual 82, 3, 155, 1, 1, 0, 0, []),
  (109, none, .iload_n 3, 1, 3, 0, 0, 0, 0, []),
  (110, none, .ireturn, 1, 0, 0, 0, 0, 0, [])]
noncomputable def K_m_canSet : List aE := [
  (0, none, .iload_n 1, 1, 1, 0, 0, 0, 0, []),
  (1, none, .tableswitch 147 0 8 #[51, 51, 59, 66, 66, 75, 98, 122, 122], 51, 148, 0, 0, 0, 0, [(0, 52), (1, 52), (2, 60), (3, 67), (4, 67), (5, 76), (6, 99), (7, 123), (8, 123)]),
  (52, none, .iload_n 3, 1, 3, 0, 0, 0, 0, []),
  (53, none, .iconst 0, 1, 0, 0, 0, 0, 0, []),
  (54, none, .bipush 99, 2, 0, 0, 0, 0, 0, []),
  (56, none, .invokestatic 71, 3, 148, 3, 2, 0, 0, []),
  (59, none, .ireturn, 1, 1, 0, 0, 0, 0, []),
  (60, none, .iload_n 3, 1, 3, 0, 0, 0, 0, []),
  (61, none, .iconst 0, 1, 0, 0, 0, 0, 0, []),
  (62, none, .iconst 1, 1, 0, 0, 0, 0, 0, []),
  (63, none, .invokestatic 71, 3, 148, 3, 2, 0, 0, []),
  (66, none, .ireturn, 1, 1, 0, 0, 0, 0, []),
  (67, none, .iload_n 3, 1, 3, 0, 0, 0, 0, []),
  (68, none, .iconst 0, 1, 0, 0, 0, 0, 0, []),
  (69, none, .sipush 1000, 3, 0, 0, 0, 0, 0, []),
  (72, none, .invokestatic 71, 3, 148, 3, 2, 0, 0, []),
  (75, none, .ireturn, 1, 1, 0, 0, 0, 0, []),
  (76, none, .aload_n 0, 1, 0, 0, 0, 0, 0, []),
  (77, none, .iload_n 2, 1, 2, 0, 0, 0, 0, []),
  (78, none, .invokevirtual 75, 3, 152, 2, 2, 0, 0, []),
  (81, none, .ifCond .eq 16, 3, 97, 0, 0, 0, 0, []),
  (84, none, .iload_n 3, 1, 3, 0, 0, 0, 0, []),
  (85, none, .iconst 0, 1, 0, 0, 0, 0, 0, []),
  (86, none, .iconst 5, 1, 0, 0, 0, 0, 0, []),
  (87, none, .invokestatic 71, 3, 148, 3, 2, 0, 0, []),
  (90, none, .ifCond .eq 7, 3, 97, 0, 0, 0, 0, []),
  (93, none, .iconst 1, 1, 0, 0, 0, 0, 0, []),
  (94, none, .goto 4, 3, 98, 0, 0, 0, 0, []),
  (97, none, .iconst 0, 1, 0, 0, 0, 0, 0, []),
  (98, none, .ireturn, 1, 1, 0, 0, 0, 0, []),
  (99, none, .aload_n 0, 1, 0, 0, 0, 0, 0, []),
  (100, none, .iload_n 2, 1, 2, 0, 0, 0, 0, []),
  (101, none, .invokevirtual 75, 3, 152, 2, 2, 0, 0, []),
  (104, none, .ifCond .eq 17, 3, 121, 0, 0, 0, 0, []),
  (107, none, .iload_n 3, 1, 3, 0, 0, 0, 0, []),
  (108, none, .iconst 0, 1, 0, 0, 0, 0, 0, []),
  (109, none, .bipush 9, 2, 0, 0, 0, 0, 0, []),
  (111, none, .invokestatic 71, 3, 148, 3, 2, 0, 0, []),
  (114, none, .ifCond .eq 7, 3, 121, 0, 0, 0, 0, []),
  (117, none, .iconst 1, 1, 0, 0, 0, 0, 0, []),
  (118, none, .goto 4, 3, 122, 0, 0, 0, 0, []),
  (121, none, .iconst 0, 1, 0, 0, 0, 0, 0, []),
  (122, none, .ireturn, 1, 1, 0, 0, 0, 0, []),
  (123, none, .aload_n 0, 1, 0, 0, 0, 0, 0, []),
  (124, none, .iload_n 2, 1, 2, 0, 0, 0, 0, []),
  (125, none, .invokevirtual 75, 3, 152, 2, 2, 0, 0, []),
  (128, none, .ifCond .eq 18, 3, 146, 0, 0, 0, 0, []),
  (131, none, .iload_n 3, 1, 3, 0, 0, 0, 0, []),
  (132, none, .iconst 0, 1, 0, 0, 0, 0, 0, []),
  (133, none, .sipush 999, 3, 0, 0, 0, 0, 0, []),
  (136, none, .invokestatic 71, 3, 148, 3, 2, 0, 0, []),
  (139, none, .ifCond .eq 7, 3, 146, 0, 0, 0, 0, []),
  (142, none, .iconst 1, 1, 0, 0, 0, 0, 0, []),
  (143, none, .goto 4, 3, 147, 0, 0, 0, 0, []),
  (146, none, .iconst 0, 1, 0, 0, 0, 0, 0, []),
  (147, none, .ireturn, 1, 1, 0, 0, 0, 0, []),
  (148, none, .iconst 0, 1, 0, 0, 0, 0, 0, []),
  (149, none, .ireturn, 1, 1, 0, 0, 0, 0, [])]
noncomputable def K_m_placeOf : List aE := [
  (0, none, .iload_n 0, 1, 0, 0, 0, 0, 0, []),
  (1, none, .tableswitch 75 0 7 #[47, 49, 51, 54, 57, 60, 65, 70], 47, 76, 0, 0, 0, 0, [(0, 48), (1, 50), (2, 52), (3, 55), (4, 58), (5, 61), (6, 66), (7, 71)]),
  (48, none, .iconst 4, 1, 0, 0, 0, 0, 0, []),
  (49, none, .ireturn, 1, 0, 0, 0, 0, 0, []),
  (50, none, .iconst 5, 1, 0, 0, 0, 0, 0, []),
  (51, none, .ireturn, 1, 0, 0, 0, 0, 0, []),
  (52, none, .bipush 6, 2, 0, 0, 0, 0, 0, []),
  (54, none, .ireturn, 1, 0, 0, 0, 0, 0, []),
  (55, none, .bipush 42, 2, 0, 0, 0, 0, 0, []),
  (57, none, .ireturn, 1, 0, 0, 0, 0, 0, []),
  (58, none, .bipush 43, 2, 0, 0, 0, 0, 0, []),
  (60, none, .ireturn, 1, 0, 0, 0, 0, 0, []),
  (61, none, .bipush 53, 2, 0, 0, 0, 0, 0, []),
  (63, none, .iload_n 1, 1, 1, 0, 0, 0, 0, []),
  (64, none, .iadd, 1, 0, 0, 0, 0, 0, []),
  (65, none, .ireturn, 1, 0, 0, 0, 0, 0, []),
  (66, none, .bipush 11, 2, 0, 0, 0, 0, 0, []),
  (68, none, .iload_n 1, 1, 1, 0, 0, 0, 0, []),
  (69, none, .iadd, 1, 0, 0, 0, 0, 0, []),
  (70, none, .ireturn, 1, 0, 0, 0, 0, 0, []),
  (71, none, .bipush 21, 2, 0, 0, 0, 0, 0, []),
  (73, none, .iload_n 1, 1, 1, 0, 0, 0, 0, []),
  (74, none, .iadd, 1, 0, 0, 0, 0, 0, []),
  (75, none, .ireturn, 1, 0, 0, 0, 0, 0, []),
  (76, none, .bipush 31, 2, 0, 0, 0, 0, 0, []),
  (78, none, .iload_n 1, 1, 1, 0, 0, 0, 0, []),
  (79, none, .iadd, 1, 0, 0, 0, 0, 0, []),
  (80, none, .ireturn, 1, 0, 0, 0, 0, 0, [])]
noncomputable def K_m_set : List aE := [
  (0, none, .aload_n 0, 1, 0, 0, 0, 0, 0, []),
  (1, none, .iload_n 1, 1, 1, 0, 0, 0, 0, []),
  (2, none, .iload_n 2, 1, 2, 0, 0, 0, 0, []),
  (3, none, .iload_n 3, 1, 3, 0, 0, 0, 0, []),
  (4, none, .invokevirtual 87, 3, 159, 4, 2, 0, 0, []),
  (7, none, .ifCond .ne 5, 3, 12, 0, 0, 0, 0, []),
  (10, none, .iconst 0, 1, 0, 0, 0, 0, 0, []),
  (11, none, .ireturn, 1, 1, 0, 0, 0, 0, []),
  (12, none, .aload_n 0, 1, 0, 0, 0, 0, 0, []),
  (13, none, .getfield 7, 3, 11, 0, 22, 1, 0, []),
  (16, none, .iload_n 1, 1, 1, 0, 0, 0, 0, []),
  (17, none, .iload_n 2, 1, 2, 0, 0, 0, 0, []),
  (18, none, .invokestatic 90, 3, 160, 2, 2, 0, 0, []),
  (21, none, .iload_n 3, 1, 3, 0, 0, 0, 0, []),
  (22, none, .iastore, 1, 0, 0, 0, 0, 0, []),
  (23, none, .aload_n 0, 1, 0, 0, 0, 0, 0, []),
  (24, none, .invokevirtual 82, 3, 155, 1, 1, 0, 0, []),
  (27, none, .iconst 1, 1, 0, 0, 0, 0, 0, []),
  (28, none, .ireturn, 1, 1, 0, 0, 0, 0, [])]
noncomputable def K_m_feed : List aE := [
  (0, none, .aload_n 0, 1, 0, 0, 0, 0, 0, []),
  (1, none, .getfield 94, 3, 11, 16, 0, 0, 0, []),
  (4, none, .bipush 20, 2, 0, 0, 0, 0, 0, []),
  (6, none, .iadd, 1, 0, 0, 0, 0, 0, []),
  (7, none, .sipush 400, 3, 0, 0, 0, 0, 0, []),
  (10, none, .if_icmp .le 5, 3, 15, 0, 0, 0, 0, []),
  (13, none, .iconst (-1), 1, 0, 0, 0, 0, 0, []),
  (14, none, .ireturn, 1, 0, 0, 0, 0, 0, []),
  (15, none, .iconst 0, 1, 0, 0, 0, 0, 0, []),
  (16, none, .istore 6, 2, 6, 0, 0, 0, 0, []),
  (18, some [true, true, true, true, true, true, true, false], .iload 6, 2, 6, 0, 0, 0, 0, []),
  (20, none, .bipush 20, 2, 0, 0, 0, 0, 0, []),
  (22, none, .if_icmp .ge 93, 3, 115, 0, 0, 0, 0, []),
  (25, none, .iload 6, 2, 6, 0, 0, 0, 0, []),
  (27, none, .iconst 4, 1, 0, 0, 0, 0, 0, []),
  (28, none, .if_icmp .ge 7, 3, 35, 0, 0, 0, 0, []),
  (31, none, .iload_n 1, 1, 1, 0, 0, 0, 0, []),
  (32, none, .goto 39, 3, 71, 0, 0, 0, 0, []),
  (35, none, .iload 6, 2, 6, 0, 0, 0, 0, []),
  (37, none, .bipush 8, 2, 0, 0, 0, 0, 0, []),
  (39, none, .if_icmp .ge 7, 3, 46, 0, 0, 0, 0, []),
  (42, none, .iload_n 2, 1, 2, 0, 0, 0, 0, []),
  (43, none, .goto 28, 3, 71, 0, 0, 0, 0, []),
  (46, none, .iload 6, 2, 6, 0, 0, 0, 0, []),
  (48, none, .bipush 12, 2, 0, 0, 0, 0, 0, []),
  (50, none, .if_icmp .ge 7, 3, 57, 0, 0, 0, 0, []),
  (53, none, .iload_n 3, 1, 3, 0, 0, 0, 0, []),
  (54, none, .goto 17, 3, 71, 0, 0, 0, 0, []),
  (57, none, .iload 6, 2, 6, 0, 0, 0, 0, []),
  (59, none, .bipush 16, 2, 0, 0, 0, 0, 0, []),
  (61, none, .if_icmp .ge 8, 3, 69, 0, 0, 0, 0, []),
  (64, none, .iload 4, 2, 4, 0, 0, 0, 0, []),
  (66, none, .goto 5, 3, 71, 0, 0, 0, 0, []),
  (69, none, .iload 5, 2, 5, 0, 0, 0, 0, []),
  (71, none, .istore 7, 2, 7, 0, 0, 0, 0, []),
  (73, none, .aload_n 0, 1, 0, 0, 0, 0, 0, []),
  (74, none, .getfield 31, 3, 11, 9, 22, 8, 0, []),
  (77, none, .aload_n 0, 1, 0, 0, 0, 0, 0, []),
  (78, none, .getfield 94, 3, 11, 16, 0, 0, 0, []),
  (81, none, .iload 7, 2, 7, 0, 0, 0, 0, []),
  (83, none, .bipush 24, 2, 0, 0, 0, 0, 0, []),
  (85, none, .bipush 8, 2, 0, 0, 0, 0, 0, []),
  (87, none, .iload 6, 2, 6, 0, 0, 0, 0, []),
  (89, none, .iconst 4, 1, 0, 0, 0, 0, 0, []),
  (90, none, .irem, 1, 0, 0, 0, 0, 0, []),
  (91, none, .imul, 1, 0, 0, 0, 0, 0, []),
  (92, none, .isub, 1, 0, 0, 0, 0, 0, []),
  (93, none, .ishr, 1, 0, 0, 0, 0, 0, []),
  (94, none, .sipush 255, 3, 0, 0, 0, 0, 0, []),
  (97, none, .iand, 1, 0, 0, 0, 0, 0, []),
  (98, none, .iastore, 1, 0, 0, 0, 0, 0, []),
  (99, none, .aload_n 0, 1, 0, 0, 0, 0, 0, []),
  (100, none, .dup, 1, 0, 0, 0, 0, 0, []),
  (101, none, .getfield 94, 3, 11, 16, 0, 0, 0, []),
  (104, none, .iconst 1, 1, 0, 0, 0, 0, 0, []),
  (105, none, .iadd, 1, 0, 0, 0, 0, 0, []),
  (106, none, .putfield 94, 3, 11, 16, 0, 0, 0, []),
  (109, none, .iinc 6 1, 3, 6, 0, 0, 0, 0, []),
  (112, none, .goto (-94), 3, 18, 0, 0, 0, 0, []),
  (115, none, .aload_n 0, 1, 0, 0, 0, 0, 0, []),
  (116, none, .getfield 94, 3, 11, 16, 0, 0, 0, []),
  (119, none, .ireturn, 1, 0, 0, 0, 0, 0, [])]
noncomputable def K_m_end : List aE := [
  (0, none, .iload_n 1, 1, 1, 0, 0, 0, 0, []),
  (1, none, .iconst 0, 1, 0, 0, 0, 0, 0, []),
  (2, none, .aload_n 0, 1, 0, 0, 0, 0, 0, []),
  (3, none, .getfield 94, 3, 11, 16, 0, 0, 0, []),
  (6, none, .invokestatic 71, 3, 148, 3, 2, 0, 0, []),
  (9, none, .ifCond .ne 5, 3, 14, 0, 0, 0, 0, []),
  (12, none, .iconst 0, 1, 0, 0, 0, 0, 0, []),
  (13, none, .ireturn, 1, 1, 0, 0, 0, 0, []),
  (14, none, .aload_n 0, 1, 0, 0, 0, 0, 0, []),
  (15, none, .iload_n 1, 1, 1, 0, 0, 0, 0, []),
  (16, none, .putfield 94, 3, 11, 16, 0, 0, 0, []),
  (19, none, .iconst 1, 1, 0, 0, 0, 0, 0, []),
  (20, none, .ireturn, 1, 1, 0, 0, 0, 0, [])]
noncomputable def K_m_see : List aE := [
  (0, none, .iload_n 1, 1, 1, 0, 0, 0, 0, []),
  (1, none, .aload_n 0, 1, 0, 0, 0, 0, 0, []),
  (2, none, .getfield 94, 3, 11, 16, 0, 0, 0, []),
  (5, none, .if_icmp .ge 12, 3, 17, 0, 0, 0, 0, []),
  (8, none, .aload_n 0, 1, 0, 0, 0, 0, 0, []),
  (9, none, .getfield 31, 3, 11, 9, 22, 8, 0, []),
  (12, none, .iload_n 1, 1, 1, 0, 0, 0, 0, []),
  (13, none, .iaload, 1, 0, 0, 0, 0, 0, []),
  (14, none, .goto 4, 3, 18, 0, 0, 0, 0, []),
  (17, none, .iconst (-1), 1, 0, 0, 0, 0, 0, []),
  (18, none, .ireturn, 1, 0, 0, 0, 0, 0, [])]
noncomputable def K_m_isLetter : List aE := [
  (0, none, .iload_n 0, 1, 0, 0, 0, 0, 0, []),
  (1, none, .bipush 97, 2, 0, 0, 0, 0, 0, []),
  (3, none, .bipush 122, 2, 0, 0, 0, 0, 0, []),
  (5, none, .invokestatic 71, 3, 148, 3, 2, 0, 0, []),
  (8, none, .ifCond .ne 14, 3, 22, 0, 0, 0, 0, []),
  (11, none, .iload_n 0, 1, 0, 0, 0, 0, 0, []),
  (12, none, .bipush 65, 2, 0, 0, 0, 0, 0, []),
  (14, none, .bipush 90, 2, 0, 0, 0, 0, 0, []),
  (16, none, .invokestatic 71, 3, 148, 3, 2, 0, 0, []),
  (19, none, .ifCond .eq 7, 3, 26, 0, 0, 0, 0, []),
  (22, none, .iconst 1, 1, 0, 0, 0, 0, 0, []),
  (23, none, .goto 4, 3, 27, 0, 0, 0, 0, []),
  (26, none, .iconst 0, 1, 0, 0, 0, 0, 0, []),
  (27, none, .ireturn, 1, 1, 0, 0, 0, 0, [])]
noncomputable def K_m_isDigit : List aE := [
  (0, none, .iload_n 0, 1, 0, 0, 0, 0, 0, []),
  (1, none, .bipush 48, 2, 0, 0, 0, 0, 0, []),
  (3, none, .bipush 57, 2, 0, 0, 0, 0, 0, []),
  (5, none, .invokestatic 71, 3, 148, 3, 2, 0, 0, []),
  (8, none, .ireturn, 1, 1, 0, 0, 0, 0, [])]
noncomputable def K_m_is : List aE := [
  (0, none, .aload_n 0, 1, 0, 0, 0, 0, 0, []),
  (1, none, .getfield 97, 3, 11, 17, 0, 0, 0, []),
  (4, none, .aload_n 0, 1, 0, 0, 0, 0, 0, []),
  (5, none, .getfield 100, 3, 11, 19, 0, 0, 0, []),
  (8, none, .isub, 1, 0, 0, 0, 0, 0, []),
  (9, none, .aload_n 1, 1, 1, 0, 0, 0, 0, []),
  (10, none, .invokevirtual 103, 3, 266, 1, 2, 0, 0, []),
  (13, none, .if_icmp .ne 7, 3, 20, 0, 0, 0, 0, []),
  (16, none, .iconst 1, 1, 0, 0, 0, 0, 0, []),
  (17, none, .goto 4, 3, 21, 0, 0, 0, 0, []),
  (20, none, .iconst 0, 1, 0, 0, 0, 0, 0, []),
  (21, none, .istore_n 2, 1, 2, 0, 0, 0, 0, []),
  (22, none, .iconst 0, 1, 0, 0, 0, 0, 0, []),
  (23, none, .istore_n 3, 1, 3, 0, 0, 0, 0, []),
  (24, some [true, true, true, true], .iload_n 3, 1, 3, 0, 0, 0, 0, []),
  (25, none, .aload_n 1, 1, 1, 0, 0, 0, 0, []),
  (26, none, .invokevirtual 103, 3, 266, 1, 2, 0, 0, []),
  (29, none, .if_icmp .ge 38, 3, 67, 0, 0, 0, 0, []),
  (32, none, .iload_n 2, 1, 2, 0, 0, 0, 0, []),
  (33, none, .ifCond .eq 34, 3, 67, 0, 0, 0, 0, []),
  (36, none, .aload_n 0, 1, 0, 0, 0, 0, 0, []),
  (37, none, .getfield 31, 3, 11, 9, 22, 8, 0, []),
  (40, none, .aload_n 0, 1, 0, 0, 0, 0, 0, []),
  (41, none, .getfield 100, 3, 11, 19, 0, 0, 0, []),
  (44, none, .iload_n 3, 1, 3, 0, 0, 0, 0, []),
  (45, none, .iadd, 1, 0, 0, 0, 0, 0, []),
  (46, none, .iaload, 1, 0, 0, 0, 0, 0, []),
  (47, none, .aload_n 1, 1, 1, 0, 0, 0, 0, []),
  (48, none, .iload_n 3, 1, 3, 0, 0, 0, 0, []),
  (49, none, .invokevirtual 109, 3, 267, 2, 2, 0, 0, []),
  (52, none, .if_icmp .ne 7, 3, 59, 0, 0, 0, 0, []),
  (55, none, .iconst 1, 1, 0, 0, 0, 0, 0, []),
  (56, none, .goto 4, 3, 60, 0, 0, 0, 0, []),
  (59, none, .iconst 0, 1, 0, 0, 0, 0, 0, []),
  (60, none, .istore_n 2, 1, 2, 0, 0, 0, 0, []),
  (61, none, .iinc 3 1, 3, 3, 0, 0, 0, 0, []),
  (64, none, .goto (-40), 3, 24, 0, 0, 0, 0, []),
  (67, none, .iload_n 2, 1, 2, 0, 0, 0, 0, []),
  (68, none, .ireturn, 1, 1, 0, 0, 0, 0, [])]
noncomputable def K_m_asked : List aE := [
  (0, none, .aload_n 0, 1, 0, 0, 0, 0, 0, []),
  (1, none, .ldc 113, 2, 1, 12, 0, 0, 0, []),
  (3, none, .invokevirtual 115, 3, 167, 2, 2, 0, 0, []),
  (6, none, .ifCond .eq 6, 3, 12, 0, 0, 0, 0, []),
  (9, none, .bipush 41, 2, 0, 0, 0, 0, 0, []),
  (11, none, .ireturn, 1, 0, 0, 0, 0, 0, []),
  (12, none, .aload_n 0, 1, 0, 0, 0, 0, 0, []),
  (13, none, .ldc 119, 2, 1, 13, 0, 0, 0, []),
  (15, none, .invokevirtual 115, 3, 167, 2, 2, 0, 0, []),
  (18, none, .ifCond .eq 6, 3, 24, 0, 0, 0, 0, []),
  (21, none, .bipush 42, 2, 0, 0, 0, 0, 0, []),
  (23, none, .ireturn, 1, 0, 0, 0, 0, 0, []),
  (24, none, .aload_n 0, 1, 0, 0, 0, 0, 0, []),
  (25, none, .ldc 121, 2, 1, 14, 0, 0, 0, []),
  (27, none, .invokevirtual 115, 3, 167, 2, 2, 0, 0, []),
  (30, none, .ifCond .eq 6, 3, 36, 0, 0, 0, 0, []),
  (33, none, .bipush 43, 2, 0, 0, 0, 0, 0, []),
  (35, none, .ireturn, 1, 0, 0, 0, 0, 0, []),
  (36, none, .aload_n 0, 1, 0, 0, 0, 0, 0, []),
  (37, none, .ldc 123, 2, 1, 15, 0, 0, 0, []),
  (39, none, .invokevirtual 115, 3, 167, 2, 2, 0, 0, []),
  (42, none, .ifCond .eq 6, 3, 48, 0, 0, 0, 0, []),
  (45, none, .bipush 44, 2, 0, 0, 0, 0, 0, []),
  (47, none, .ireturn, 1, 0, 0, 0, 0, 0, []),
  (48, none, .aload_n 0, 1, 0, 0, 0, 0, 0, []),
  (49, none, .ldc 125, 2, 1, 16, 0, 0, 0, []),
  (51, none, .invokevirtual 115, 3, 167, 2, 2, 0, 0, []),
  (54, none, .ifCond .eq 6, 3, 60, 0, 0, 0, 0, []),
  (57, none, .bipush 45, 2, 0, 0, 0, 0, 0, []),
  (59, none, .ireturn, 1, 0, 0, 0, 0, 0, []),
  (60, none, .aload_n 0, 1, 0, 0, 0, 0, 0, []),
  (61, none, .ldc 127, 2, 1, 17, 0, 0, 0, []),
  (63, none, .invokevirtual 115, 3, 167, 2, 2, 0, 0, []),
  (66, none, .ifCond .eq 6, 3, 72, 0, 0, 0, 0, []),
  (69, none, .bipush 46, 2, 0, 0, 0, 0, 0, []),
  (71, none, .ireturn, 1, 0, 0, 0, 0, 0, []),
  (72, none, .aload_n 0, 1, 0, 0, 0, 0, 0, []),
  (73, none, .ldc 129, 2, 1, 18, 0, 0, 0, []),
  (75, none, .invokevirtual 115, 3, 167, 2, 2, 0, 0, []),
  (78, none, .ifCond .eq 6, 3, 84, 0, 0, 0, 0, []),
  (81, none, .bipush 47, 2, 0, 0, 0, 0, 0, []),
  (83, none, .ireturn, 1, 0, 0, 0, 0, 0, []),
  (84, none, .aload_n 0, 1, 0, 0, 0, 0, 0, []),
  (85, none, .ldc 131, 2, 1, 19, 0, 0, 0, []),
  (87, none, .invokevirtual 115, 3, 167, 2, 2, 0, 0, []),
  (90, none, .ifCond .eq 6, 3, 96, 0, 0, 0, 0, []),
  (93, none, .bipush 48, 2, 0, 0, 0, 0, 0, []),
  (95, none, .ireturn, 1, 0, 0, 0, 0, 0, []),
  (96, none, .aload_n 0, 1, 0, 0, 0, 0, 0, []),
  (97, none, .ldc 133, 2, 1, 20, 0, 0, 0, []),
  (99, none, .invokevirtual 115, 3, 167, 2, 2, 0, 0, []),
  (102, none, .ifCond .eq 6, 3, 108, 0, 0, 0, 0, []),
  (105, none, .bipush 49, 2, 0, 0, 0, 0, 0, []),
  (107, none, .ireturn, 1, 0, 0, 0, 0, 0, []),
  (108, none, .aload_n 0, 1, 0, 0, 0, 0, 0, []),
  (109, none, .ldc 135, 2, 1, 21, 0, 0, 0, []),
  (111, none, .invokevirtual 115, 3, 167, 2, 2, 0, 0, []),
  (114, none, .ifCond .eq 8, 3, 122, 0, 0, 0, 0, []),
  (117, none, .bipush 50, 2, 0, 0, 0, 0, 0, []),
  (119, none, .goto 4, 3, 123, 0, 0, 0, 0, []),
  (122, none, .iconst 1, 1, 0, 0, 0, 0, 0, []),
  (123, none, .ireturn, 1, 0, 0, 0, 0, 0, [])]
noncomputable def K_m_lawWord : List aE := [
  (0, none, .aload_n 0, 1, 0, 0, 0, 0, 0, []),
  (1, none, .ldc 137, 2, 1, 5, 0, 0, 0, []),
  (3, none, .invokevirtual 115, 3, 167, 2, 2, 0, 0, []),
  (6, none, .ifCond .eq 5, 3, 11, 0, 0, 0, 0, []),
  (9, none, .iconst 3, 1, 0, 0, 0, 0, 0, []),
  (10, none, .ireturn, 1, 0, 0, 0, 0, 0, []),
  (11, none, .aload_n 0, 1, 0, 0, 0, 0, 0, []),
  (12, none, .ldc 139, 2, 1, 6, 0, 0, 0, []),
  (14, none, .invokevirtual 115, 3, 167, 2, 2, 0, 0, []),
  (17, none, .ifCond .eq 5, 3, 22, 0, 0, 0, 0, []),
  (20, none, .iconst 4, 1, 0, 0, 0, 0, 0, []),
  (21, none, .ireturn, 1, 0, 0, 0, 0, 0, []),
  (22, none, .aload_n 0, 1, 0, 0, 0, 0, 0, []),
  (23, none, .ldc 141, 2, 1, 7, 0, 0, 0, []),
  (25, none, .invokevirtual 115, 3, 167, 2, 2, 0, 0, []),
  (28, none, .ifCond .eq 5, 3, 33, 0, 0, 0, 0, []),
  (31, none, .iconst 5, 1, 0, 0, 0, 0, 0, []),
  (32, none, .ireturn, 1, 0, 0, 0, 0, 0, []),
  (33, none, .aload_n 0, 1, 0, 0, 0, 0, 0, []),
  (34, none, .ldc 143, 2, 1, 8, 0, 0, 0, []),
  (36, none, .invokevirtual 115, 3, 167, 2, 2, 0, 0, []),
  (39, none, .ifCond .eq 6, 3, 45, 0, 0, 0, 0, []),
  (42, none, .bipush 6, 2, 0, 0, 0, 0, 0, []),
  (44, none, .ireturn, 1, 0, 0, 0, 0, 0, []),
  (45, none, .aload_n 0, 1, 0, 0, 0, 0, 0, []),
  (46, none, .ldc 145, 2, 1, 9, 0, 0, 0, []),
  (48, none, .invokevirtual 115, 3, 167, 2, 2, 0, 0, []),
  (51, none, .ifCond .eq 6, 3, 57, 0, 0, 0, 0, []),
  (54, none, .bipush 20, 2, 0, 0, 0, 0, 0, []),
  (56, none, .ireturn, 1, 0, 0, 0, 0, 0, []),
  (57, none, .aload_n 0, 1, 0, 0, 0, 0, 0, []),
  (58, none, .ldc 147, 2, 1, 10, 0, 0, 0, []),
  (60, none, .invokevirtual 115, 3, 167, 2, 2, 0, 0, []),
  (63, none, .ifCond .eq 6, 3, 69, 0, 0, 0, 0, []),
  (66, none, .bipush 21, 2, 0, 0, 0, 0, 0, []),
  (68, none, .ireturn, 1, 0, 0, 0, 0, 0, []),
  (69, none, .aload_n 0, 1, 0, 0, 0, 0, 0, []),
  (70, none, .ldc 149, 2, 1, 11, 0, 0, 0, []),
  (72, none, .invokevirtual 115, 3, 167, 2, 2, 0, 0, []),
  (75, none, .ifCond .eq 8, 3, 83, 0, 0, 0, 0, []),
  (78, none, .bipush 22, 2, 0, 0, 0, 0, 0, []),
  (80, none, .goto 7, 3, 87, 0, 0, 0, 0, []),
  (83, none, .aload_n 0, 1, 0, 0, 0, 0, 0, []),
  (84, none, .invokevirtual 151, 3, 168, 1, 2, 0, 0, []),
  (87, none, .ireturn, 1, 0, 0, 0, 0, 0, [])]
noncomputable def K_m_planWord : List aE := [
  (0, none, .aload_n 0, 1, 0, 0, 0, 0, 0, []),
  (1, none, .ldc 154, 2, 1, 22, 0, 0, 0, []),
  (3, none, .invokevirtual 115, 3, 167, 2, 2, 0, 0, []),
  (6, none, .ifCond .eq 6, 3, 12, 0, 0, 0, 0, []),
  (9, none, .bipush 7, 2, 0, 0, 0, 0, 0, []),
  (11, none, .ireturn, 1, 0, 0, 0, 0, 0, []),
  (12, none, .aload_n 0, 1, 0, 0, 0, 0, 0, []),
  (13, none, .ldc 127, 2, 1, 17, 0, 0, 0, []),
  (15, none, .invokevirtual 115, 3, 167, 2, 2, 0, 0, []),
  (18, none, .ifCond .eq 6, 3, 24, 0, 0, 0, 0, []),
  (21, none, .bipush 8, 2, 0, 0, 0, 0, 0, []),
  (23, none, .ireturn, 1, 0, 0, 0, 0, 0, []),
  (24, none, .aload_n 0, 1, 0, 0, 0, 0, 0, []),
  (25, none, .ldc 129, 2, 1, 18, 0, 0, 0, []),
  (27, none, .invokevirtual 115, 3, 167, 2, 2, 0, 0, []),
  (30, none, .ifCond .eq 6, 3, 36, 0, 0, 0, 0, []),
  (33, none, .bipush 9, 2, 0, 0, 0, 0, 0, []),
  (35, none, .ireturn, 1, 0, 0, 0, 0, 0, []),
  (36, none, .aload_n 0, 1, 0, 0, 0, 0, 0, []),
  (37, none, .ldc 131, 2, 1, 19, 0, 0, 0, []),
  (39, none, .invokevirtual 115, 3, 167, 2, 2, 0, 0, []),
  (42, none, .ifCond .eq 6, 3, 48, 0, 0, 0, 0, []),
  (45, none, .bipush 10, 2, 0, 0, 0, 0, 0, []),
  (47, none, .ireturn, 1, 0, 0, 0, 0, 0, []),
  (48, none, .aload_n 0, 1, 0, 0, 0, 0, 0, []),
  (49, none, .ldc 156, 2, 1, 23, 0, 0, 0, []),
  (51, none, .invokevirtual 115, 3, 167, 2, 2, 0, 0, []),
  (54, none, .ifCond .eq 6, 3, 60, 0, 0, 0, 0, []),
  (57, none, .bipush 11, 2, 0, 0, 0, 0, 0, []),
  (59, none, .ireturn, 1, 0, 0, 0, 0, 0, []),
  (60, none, .aload_n 0, 1, 0, 0, 0, 0, 0, []),
  (61, none, .ldc 158, 2, 1, 24, 0, 0, 0, []),
  (63, none, .invokevirtual 115, 3, 167, 2, 2, 0, 0, []),
  (66, none, .ifCond .eq 8, 3, 74, 0, 0, 0, 0, []),
  (69, none, .bipush 12, 2, 0, 0, 0, 0, 0, []),
  (71, none, .goto 4, 3, 75, 0, 0, 0, 0, []),
  (74, none, .iconst 1, 1, 0, 0, 0, 0, 0, []),
  (75, none, .ireturn, 1, 0, 0, 0, 0, 0, [])]
noncomputable def K_m_word : List aE := [
  (0, none, .aload_n 0, 1, 0, 0, 0, 0, 0, []),
  (1, none, .getfield 160, 3, 11, 12, 0, 0, 0, []),
  (4, none, .tableswitch 82 0 2 #[28, 33, 38], 28, 86, 0, 0, 0, 0, [(0, 32), (1, 37), (2, 42)]),
  (32, none, .aload_n 0, 1, 0, 0, 0, 0, 0, []),
  (33, none, .invokevirtual 163, 3, 169, 1, 2, 0, 0, []),
  (36, none, .ireturn, 1, 0, 0, 0, 0, 0, []),
  (37, none, .aload_n 0, 1, 0, 0, 0, 0, 0, []),
  (38, none, .invokevirtual 166, 3, 170, 1, 2, 0, 0, []),
  (41, none, .ireturn, 1, 0, 0, 0, 0, 0, []),
  (42, none, .aload_n 0, 1, 0, 0, 0, 0, 0, []),
  (43, none, .ldc 169, 2, 1, 25, 0, 0, 0, []),
  (45, none, .invokevirtual 115, 3, 167, 2, 2, 0, 0, []),
  (48, none, .ifCond .eq 8, 3, 56, 0, 0, 0, 0, []),
  (51, none, .bipush 13, 2, 0, 0, 0, 0, 0, []),
  (53, none, .goto 32, 3, 85, 0, 0, 0, 0, []),
  (56, none, .aload_n 0, 1, 0, 0, 0, 0, 0, []),
  (57, none, .ldc 154, 2, 1, 22, 0, 0, 0, []),
  (59, none, .invokevirtual 115, 3, 167, 2, 2, 0, 0, []),
  (62, none, .ifCond .eq 8, 3, 70, 0, 0, 0, 0, []),
  (65, none, .bipush 7, 2, 0, 0, 0, 0, 0, []),
  (67, none, .goto 18, 3, 85, 0, 0, 0, 0, []),
  (70, none, .aload_n 0, 1, 0, 0, 0, 0, 0, []),
  (71, none, .ldc 171, 2, 1, 26, 0, 0, 0, []),
  (73, none, .invokevirtual 115, 3, 167, 2, 2, 0, 0, []),
  (76, none, .ifCond .eq 8, 3, 84, 0, 0, 0, 0, []),
  (79, none, .bipush 14, 2, 0, 0, 0, 0, 0, []),
  (81, none, .goto 4, 3, 85, 0, 0, 0, 0, []),
  (84, none, .iconst 1, 1, 0, 0, 0, 0, 0, []),
  (85, none, .ireturn, 1, 0, 0, 0, 0, 0, []),
  (86, none, .aload_n 0, 1, 0, 0, 0, 0, 0, []),
  (87, none, .ldc 173, 2, 1, 27, 0, 0, 0, []),
  (89, none, .invokevirtual 115, 3, 167, 2, 2, 0, 0, []),
  (92, none, .ifCond .eq 8, 3, 100, 0, 0, 0, 0, []),
  (95, none, .bipush 15, 2, 0, 0, 0, 0, 0, []),
  (97, none, .goto 18, 3, 115, 0, 0, 0, 0, []),
  (100, none, .aload_n 0, 1, 0, 0, 0, 0, 0, []),
  (101, none, .ldc 175, 2, 1, 28, 0, 0, 0, []),
  (103, none, .invokevirtual 115, 3, 167, 2, 2, 0, 0, []),
  (106, none, .ifCond .eq 8, 3, 114, 0, 0, 0, 0, []),
  (109, none, .bipush 16, 2, 0, 0, 0, 0, 0, []),
  (111, none, .goto 4, 3, 115, 0, 0, 0, 0, []),
  (114, none, .iconst 1, 1, 0, 0, 0, 0, 0, []),
  (115, none, .ireturn, 1, 0, 0, 0, 0, 0, [])]
noncomputable def K_m_next0 : List aE := [
  (0, some [true, false, false], .aload_n 0, 1, 0, 0, 0, 0, 0, []),
  (1, none, .aload_n 0, 1, 0, 0, 0, 0, 0, []),
  (2, none, .getfield 97, 3, 11, 17, 0, 0, 0, []),
  (5, none, .invokevirtual 177, 3, 164, 2, 2, 0, 0, []),
  (8, none, .bipush 32, 2, 0, 0, 0, 0, 0, []),
  (10, none, .if_icmp .eq 16, 3, 26, 0, 0, 0, 0, []),
  (13, none, .aload_n 0, 1, 0, 0, 0, 0, 0, []),
  (14, none, .aload_n 0, 1, 0, 0, 0, 0, 0, []),
  (15, none, .getfield 97, 3, 11, 17, 0, 0, 0, []),
  (18, none, .invokevirtual 177, 3, 164, 2, 2, 0, 0, []),
  (21, none, .bipush 10, 2, 0, 0, 0, 0, 0, []),
  (23, none, .if_icmp .ne 16, 3, 39, 0, 0, 0, 0, []),
  (26, none, .aload_n 0, 1, 0, 0, 0, 0, 0, []),
  (27, none, .dup, 1, 0, 0, 0, 0, 0, []),
  (28, none, .getfield 97, 3, 11, 17, 0, 0, 0, []),
  (31, none, .iconst 1, 1, 0, 0, 0, 0, 0, []),
  (32, none, .iadd, 1, 0, 0, 0, 0, 0, []),
  (33, none, .putfield 97, 3, 11, 17, 0, 0, 0, []),
  (36, none, .goto (-36), 3, 0, 0, 0, 0, 0, []),
  (39, none, .aload_n 0, 1, 0, 0, 0, 0, 0, []),
  (40, none, .aload_n 0, 1, 0, 0, 0, 0, 0, []),
  (41, none, .getfield 97, 3, 11, 17, 0, 0, 0, []),
  (44, none, .putfield 100, 3, 11, 19, 0, 0, 0, []),
  (47, none, .aload_n 0, 1, 0, 0, 0, 0, 0, []),
  (48, none, .aload_n 0, 1, 0, 0, 0, 0, 0, []),
  (49, none, .getfield 97, 3, 11, 17, 0, 0, 0, []),
  (52, none, .invokevirtual 177, 3, 164, 2, 2, 0, 0, []),
  (55, none, .istore_n 1, 1, 1, 0, 0, 0, 0, []),
  (56, none, .iload_n 1, 1, 1, 0, 0, 0, 0, []),
  (57, none, .iconst (-1), 1, 0, 0, 0, 0, 0, []),
  (58, none, .if_icmp .ne 11, 3, 69, 0, 0, 0, 0, []),
  (61, none, .aload_n 0, 1, 0, 0, 0, 0, 0, []),
  (62, none, .iconst 0, 1, 0, 0, 0, 0, 0, []),
  (63, none, .putfield 181, 3, 11, 18, 0, 0, 0, []),
  (66, none, .goto 240, 3, 306, 0, 0, 0, 0, []),
  (69, none, .iload_n 1, 1, 1, 0, 0, 0, 0, []),
  (70, none, .invokestatic 184, 3, 165, 1, 2, 0, 0, []),
  (73, none, .ifCond .eq 41, 3, 114, 0, 0, 0, 0, []),
  (76, some [true, false, false], .aload_n 0, 1, 0, 0, 0, 0, 0, []),
  (77, none, .aload_n 0, 1, 0, 0, 0, 0, 0, []),
  (78, none, .getfield 97, 3, 11, 17, 0, 0, 0, []),
  (81, none, .invokevirtual 177, 3, 164, 2, 2, 0, 0, []),
  (84, none, .invokestatic 184, 3, 165, 1, 2, 0, 0, []),
  (87, none, .ifCond .eq 16, 3, 103, 0, 0, 0, 0, []),
  (90, none, .aload_n 0, 1, 0, 0, 0, 0, 0, []),
  (91, none, .dup, 1, 0, 0, 0, 0, 0, []),
  (92, none, .getfield 97, 3, 11, 17, 0, 0, 0, []),
  (95, none, .iconst 1, 1, 0, 0, 0, 0, 0, []),
  (96, none, .iadd, 1, 0, 0, 0, 0, 0, []),
  (97, none, .putfield 97, 3, 11, 17, 0, 0, 0, []),
  (100, none, .goto (-24), 3, 76, 0, 0, 0, 0, []),
  (103, none, .aload_n 0, 1, 0, 0, 0, 0, 0, []),
  (104, none, .aload_n 0, 1, 0, 0, 0, 0, 0, []),
  (105, none, .invokevirtual 187, 3, 171, 1, 2, 0, 0, []),
  (108, none, .putfield 181, 3, 11, 18, 0, 0, 0, []),
  (111, none, .goto 195, 3, 306, 0, 0, 0, 0, []),
  (114, none, .iload_n 1, 1, 1, 0, 0, 0, 0, []),
  (115, none, .invokestatic 190, 3, 166, 1, 2, 0, 0, []),
  (118, none, .ifCond .eq 96, 3, 214, 0, 0, 0, 0, []),
  (121, none, .aload_n 0, 1, 0, 0, 0, 0, 0, []),
  (122, none, .iconst 0, 1, 0, 0, 0, 0, 0, []),
  (123, none, .putfield 193, 3, 11, 20, 0, 0, 0, []),
  (126, some [true, false, false], .aload_n 0, 1, 0, 0, 0, 0, 0, []),
  (127, none, .aload_n 0, 1, 0, 0, 0, 0, 0, []),
  (128, none, .getfield 97, 3, 11, 17, 0, 0, 0, []),
  (131, none, .invokevirtual 177, 3, 164, 2, 2, 0, 0, []),
  (134, none, .invokestatic 190, 3, 166, 1, 2, 0, 0, []),
  (137, none, .ifCond .eq 52, 3, 189, 0, 0, 0, 0, []),
  (140, none, .aload_n 0, 1, 0, 0, 0, 0, 0, []),
  (141, none, .getfield 97, 3, 11, 17, 0, 0, 0, []),
  (144, none, .aload_n 0, 1, 0, 0, 0, 0, 0, []),
  (145, none, .getfield 100, 3, 11, 19, 0, 0, 0, []),
  (148, none, .iconst 4, 1, 0, 0, 0, 0, 0, []),
  (149, none, .iadd, 1, 0, 0, 0, 0, 0, []),
  (150, none, .if_icmp .ge 26, 3, 176, 0, 0, 0, 0, []),
  (153, none, .aload_n 0, 1, 0, 0, 0, 0, 0, []),
  (154, none, .bipush 10, 2, 0, 0, 0, 0, 0, []),
  (156, none, .aload_n 0, 1, 0, 0, 0, 0, 0, []),
  (157, none, .getfield 193, 3, 11, 20, 0, 0, 0, []),
  (160, none, .imul, 1, 0, 0, 0, 0, 0, []),
  (161, none, .aload_n 0, 1, 0, 0, 0, 0, 0, []),
  (162, none, .aload_n 0, 1, 0, 0, 0, 0, 0, []),
  (163, none, .getfield 97, 3, 11, 17, 0, 0, 0, []),
  (166, none, .invokevirtual 177, 3, 164, 2, 2, 0, 0, []),
  (169, none, .iadd, 1, 0, 0, 0, 0, 0, []),
  (170, none, .bipush 48, 2, 0, 0, 0, 0, 0, []),
  (172, none, .isub, 1, 0, 0, 0, 0, 0, []),
  (173, none, .putfield 193, 3, 11, 20, 0, 0, 0, []),
  (176, none, .aload_n 0, 1, 0, 0, 0, 0, 0, []),
  (177, none, .dup, 1, 0, 0, 0, 0, 0, []),
  (178, none, .getfield 97, 3, 11, 17, 0, 0, 0, []),
  (181, none, .iconst 1, 1, 0, 0, 0, 0, 0, []),
  (182, none, .iadd, 1, 0, 0, 0, 0, 0, []),
  (183, none, .putfield 97, 3, 11, 17, 0, 0, 0, []),
  (186, none, .goto (-60), 3, 126, 0, 0, 0, 0, []),
  (189, none, .aload_n 0, 1, 0, 0, 0, 0, 0, []),
  (190, none, .aload_n 0, 1, 0, 0, 0, 0, 0, []),
  (191, none, .getfield 97, 3, 11, 17, 0, 0, 0, []),
  (194, none, .aload_n 0, 1, 0, 0, 0, 0, 0, []),
  (195, none, .getfield 100, 3, 11, 19, 0, 0, 0, []),
  (198, none, .isub, 1, 0, 0, 0, 0, 0, []),
  (199, none, .iconst 5, 1, 0, 0, 0, 0, 0, []),
  (200, none, .if_icmp .ge 7, 3, 207, 0, 0, 0, 0, []),
  (203, none, .iconst 2, 1, 0, 0, 0, 0, 0, []),
  (204, none, .goto 4, 3, 208, 0, 0, 0, 0, []),
  (207, none, .iconst 1, 1, 0, 0, 0, 0, 0, []),
  (208, none, .putfield 181, 3, 11, 18, 0, 0, 0, []),
  (211, none, .goto 95, 3, 306, 0, 0, 0, 0, []),
  (214, none, .aload_n 0, 1, 0, 0, 0, 0, 0, []),
  (215, none, .dup, 1, 0, 0, 0, 0, 0, []),
  (216, none, .getfield 97, 3, 11, 17, 0, 0, 0, []),
  (219, none, .iconst 1, 1, 0, 0, 0, 0, 0, []),
  (220, none, .iadd, 1, 0, 0, 0, 0, 0, []),
  (221, none, .putfield 97, 3, 11, 17, 0, 0, 0, []),
  (224, none, .iload_n 1, 1, 1, 0, 0, 0, 0, []),
  (225, none, .bipush 59, 2, 0, 0, 0, 0, 0, []),
  (227, none, .if_icmp .eq 57, 3, 284, 0, 0, 0, 0, []),
  (230, none, .iload_n 1, 1, 1, 0, 0, 0, 0, []),
  (231, none, .bipush 43, 2, 0, 0, 0, 0, 0, []),
  (233, none, .if_icmp .eq 51, 3, 284, 0, 0, 0, 0, []),
  (236, none, .iload_n 1, 1, 1, 0, 0, 0, 0, []),
  (237, none, .bipush 45, 2, 0, 0, 0, 0, 0, []),
  (239, none, .if_icmp .eq 45, 3, 284, 0, 0, 0, 0, []),
  (242, none, .iload_n 1, 1, 1, 0, 0, 0, 0, []),
  (243, none, .bipush 42, 2, 0, 0, 0, 0, 0, []),
  (245, none, .if_icmp .eq 39, 3, 284, 0, 0, 0, 0, []),
  (248, none, .iload_n 1, 1, 1, 0, 0, 0, 0, []),
  (249, none, .bipush 47, 2, 0, 0, 0, 0, 0, []),
  (251, none, .if_icmp .eq 33, 3, 284, 0, 0, 0, 0, []),
  (254, none, .iload_n 1, 1, 1, 0, 0, 0, 0, []),
  (255, none, .bipush 40, 2, 0, 0, 0, 0, 0, []),
  (257, none, .if_icmp .eq 27, 3, 284, 0, 0, 0, 0, []),
  (260, none, .iload_n 1, 1, 1, 0, 0, 0, 0, []),
  (261, none, .bipush 41, 2, 0, 0, 0, 0, 0, []),
  (263, none, .if_icmp .eq 21, 3, 284, 0, 0, 0, 0, []),
  (266, none, .iload_n 1, 1, 1, 0, 0, 0, 0, []),
  (267, none, .bipush 60, 2, 0, 0, 0, 0, 0, []),
  (269, none, .if_icmp .eq 15, 3, 284, 0, 0, 0, 0, []),
  (272, none, .iload_n 1, 1, 1, 0, 0, 0, 0, []),
  (273, none, .bipush 61, 2, 0, 0, 0, 0, 0, []),
  (275, none, .if_icmp .eq 9, 3, 284, 0, 0, 0, 0, []),
  (278, none, .iload_n 1, 1, 1, 0, 0, 0, 0, []),
  (279, none, .bipush 62, 2, 0, 0, 0, 0, 0, []),
  (281, none, .if_icmp .ne 7, 3, 288, 0, 0, 0, 0, []),
  (284, some [true, true, false], .iconst 1, 1, 0, 0, 0, 0, 0, []),
  (285, none, .goto 4, 3, 289, 0, 0, 0, 0, []),
  (288, none, .iconst 0, 1, 0, 0, 0, 0, 0, []),
  (289, none, .istore_n 2, 1, 2, 0, 0, 0, 0, []),
  (290, none, .aload_n 0, 1, 0, 0, 0, 0, 0, []),
  (291, none, .iload_n 2, 1, 2, 0, 0, 0, 0, []),
  (292, none, .ifCond .eq 10, 3, 302, 0, 0, 0, 0, []),
  (295, none, .bipush 100, 2, 0, 0, 0, 0, 0, []),
  (297, none, .iload_n 1, 1, 1, 0, 0, 0, 0, []),
  (298, none, .iadd, 1, 0, 0, 0, 0, 0, []),
  (299, none, .goto 4, 3, 303, 0, 0, 0, 0, []),
  (302, none, .iconst 1, 1, 0, 0, 0, 0, 0, []),
  (303, none, .putfield 181, 3, 11, 18, 0, 0, 0, []),
  (306, none, .return_, 1, 0, 0, 0, 0, 0, [])]
noncomputable def K_m_bad : List aE := [
  (0, none, .aload_n 0, 1, 0, 0, 0, 0, 0, []),
  (1, none, .iload_n 1, 1, 1, 0, 0, 0, 0, []),
  (2, none, .putfield 196, 3, 11, 21, 0, 0, 0, []),
  (5, none, .aload_n 0, 1, 0, 0, 0, 0, 0, []),
  (6, none, .aload_n 0, 1, 0, 0, 0, 0, 0, []),
  (7, none, .getfield 100, 3, 11, 19, 0, 0, 0, []),
  (10, none, .putfield 199, 3, 11, 22, 0, 0, 0, []),
  (13, none, .iconst 0, 1, 0, 0, 0, 0, 0, []),
  (14, none, .ireturn, 1, 1, 0, 0, 0, 0, [])]
noncomputable def K_m_need : List aE := [
  (0, none, .aload_n 0, 1, 0, 0, 0, 0, 0, []),
  (1, none, .getfield 181, 3, 11, 18, 0, 0, 0, []),
  (4, none, .iload_n 1, 1, 1, 0, 0, 0, 0, []),
  (5, none, .if_icmp .eq 9, 3, 14, 0, 0, 0, 0, []),
  (8, none, .aload_n 0, 1, 0, 0, 0, 0, 0, []),
  (9, none, .iconst 1, 1, 0, 0, 0, 0, 0, []),
  (10, none, .invokevirtual 202, 3, 173, 2, 2, 0, 0, []),
  (13, none, .ireturn, 1, 1, 0, 0, 0, 0, []),
  (14, none, .aload_n 0, 1, 0, 0, 0, 0, 0, []),
  (15, none, .invokevirtual 205, 3, 172, 1, 1, 0, 0, []),
  (18, none, .iconst 1, 1, 0, 0, 0, 0, 0, []),
  (19, none, .ireturn, 1, 1, 0, 0, 0, 0, [])]
noncomputable def K_m_lay : List aE := [
  (0, none, .aload_n 0, 1, 0, 0, 0, 0, 0, []),
  (1, none, .getfield 25, 3, 11, 7, 22, 6, 0, []),
  (4, none, .iconst 2, 1, 0, 0, 0, 0, 0, []),
  (5, none, .aload_n 0, 1, 0, 0, 0, 0, 0, []),
  (6, none, .getfield 208, 3, 11, 14, 0, 0, 0, []),
  (9, none, .imul, 1, 0, 0, 0, 0, 0, []),
  (10, none, .iload_n 1, 1, 1, 0, 0, 0, 0, []),
  (11, none, .iastore, 1, 0, 0, 0, 0, 0, []),
  (12, none, .aload_n 0, 1, 0, 0, 0, 0, 0, []),
  (13, none, .getfield 25, 3, 11, 7, 22, 6, 0, []),
  (16, none, .iconst 2, 1, 0, 0, 0, 0, 0, []),
  (17, none, .aload_n 0, 1, 0, 0, 0, 0, 0, []),
  (18, none, .getfield 208, 3, 11, 14, 0, 0, 0, []),
  (21, none, .imul, 1, 0, 0, 0, 0, 0, []),
  (22, none, .iconst 1, 1, 0, 0, 0, 0, 0, []),
  (23, none, .iadd, 1, 0, 0, 0, 0, 0, []),
  (24, none, .iload_n 2, 1, 2, 0, 0, 0, 0, []),
  (25, none, .iastore, 1, 0, 0, 0, 0, 0, []),
  (26, none, .aload_n 0, 1, 0, 0, 0, 0, 0, []),
  (27, none, .dup, 1, 0, 0, 0, 0, 0, []),
  (28, none, .getfield 208, 3, 11, 14, 0, 0, 0, []),
  (31, none, .iconst 1, 1, 0, 0, 0, 0, 0, []),
  (32, none, .iadd, 1, 0, 0, 0, 0, 0, []),
  (33, none, .putfield 208, 3, 11, 14, 0, 0, 0, []),
  (36, none, .return_, 1, 0, 0, 0, 0, 0, [])]
noncomputable def K_m_opens : List aE := [
  (0, none, .aload_n 0, 1, 0, 0, 0, 0, 0, []),
  (1, none, .getfield 211, 3, 11, 24, 0, 0, 0, []),
  (4, none, .bipush 8, 2, 0, 0, 0, 0, 0, []),
  (6, none, .if_icmp .ne 9, 3, 15, 0, 0, 0, 0, []),
  (9, none, .aload_n 0, 1, 0, 0, 0, 0, 0, []),
  (10, none, .iconst 3, 1, 0, 0, 0, 0, 0, []),
  (11, none, .invokevirtual 202, 3, 173, 2, 2, 0, 0, []),
  (14, none, .ireturn, 1, 1, 0, 0, 0, 0, []),
  (15, none, .aload_n 0, 1, 0, 0, 0, 0, 0, []),
  (16, none, .dup, 1, 0, 0, 0, 0, 0, []),
  (17, none, .getfield 211, 3, 11, 24, 0, 0, 0, []),
  (20, none, .iconst 1, 1, 0, 0, 0, 0, 0, []),
  (21, none, .iadd, 1, 0, 0, 0, 0, 0, []),
  (22, none, .putfield 211, 3, 11, 24, 0, 0, 0, []),
  (25, none, .aload_n 0, 1, 0, 0, 0, 0, 0, []),
  (26, none, .invokevirtual 205, 3, 172, 1, 1, 0, 0, []),
  (29, none, .iconst 1, 1, 0, 0, 0, 0, 0, []),
  (30, none, .ireturn, 1, 1, 0, 0, 0, 0, [])]
noncomputable def K_m_sumUp : List aE := [
  (0, none, .aload_n 0, 1, 0, 0, 0, 0, 0, []),
  (1, none, .invokevirtual 214, 3, 178, 1, 2, 0, 0, []),
  (4, none, .ifCond .ne 5, 3, 9, 0, 0, 0, 0, []),
  (7, none, .iconst 0, 1, 0, 0, 0, 0, 0, []),
  (8, none, .ireturn, 1, 1, 0, 0, 0, 0, []),
  (9, some [true, false], .aload_n 0, 1, 0, 0, 0, 0, 0, []),
  (10, none, .getfield 181, 3, 11, 18, 0, 0, 0, []),
  (13, none, .sipush 143, 3, 0, 0, 0, 0, 0, []),
  (16, none, .if_icmp .eq 13, 3, 29, 0, 0, 0, 0, []),
  (19, none, .aload_n 0, 1, 0, 0, 0, 0, 0, []),
  (20, none, .getfield 181, 3, 11, 18, 0, 0, 0, []),
  (23, none, .sipush 145, 3, 0, 0, 0, 0, 0, []),
  (26, none, .if_icmp .ne 43, 3, 69, 0, 0, 0, 0, []),
  (29, some [true, false], .aload_n 0, 1, 0, 0, 0, 0, 0, []),
  (30, none, .getfield 181, 3, 11, 18, 0, 0, 0, []),
  (33, none, .sipush 143, 3, 0, 0, 0, 0, 0, []),
  (36, none, .if_icmp .ne 8, 3, 44, 0, 0, 0, 0, []),
  (39, none, .bipush 23, 2, 0, 0, 0, 0, 0, []),
  (41, none, .goto 5, 3, 46, 0, 0, 0, 0, []),
  (44, none, .bipush 24, 2, 0, 0, 0, 0, 0, []),
  (46, none, .istore_n 1, 1, 1, 0, 0, 0, 0, []),
  (47, none, .aload_n 0, 1, 0, 0, 0, 0, 0, []),
  (48, none, .invokevirtual 205, 3, 172, 1, 1, 0, 0, []),
  (51, none, .aload_n 0, 1, 0, 0, 0, 0, 0, []),
  (52, none, .invokevirtual 214, 3, 178, 1, 2, 0, 0, []),
  (55, none, .ifCond .ne 5, 3, 60, 0, 0, 0, 0, []),
  (58, none, .iconst 0, 1, 0, 0, 0, 0, 0, []),
  (59, none, .ireturn, 1, 1, 0, 0, 0, 0, []),
  (60, none, .aload_n 0, 1, 0, 0, 0, 0, 0, []),
  (61, none, .iload_n 1, 1, 1, 0, 0, 0, 0, []),
  (62, none, .iconst 0, 1, 0, 0, 0, 0, 0, []),
  (63, none, .invokevirtual 218, 3, 175, 3, 1, 0, 0, []),
  (66, none, .goto (-57), 3, 9, 0, 0, 0, 0, []),
  (69, none, .iconst 1, 1, 0, 0, 0, 0, 0, []),
  (70, none, .ireturn, 1, 1, 0, 0, 0, 0, [])]
noncomputable def K_m_product : List aE := [
  (0, none, .aload_n 0, 1, 0, 0, 0, 0, 0, []),
  (1, none, .invokevirtual 222, 3, 179, 1, 2, 0, 0, []),
  (4, none, .ifCond .ne 5, 3, 9, 0, 0, 0, 0, []),
  (7, none, .iconst 0, 1, 0, 0, 0, 0, 0, []),
  (8, none, .ireturn, 1, 1, 0, 0, 0, 0, []),
  (9, some [true, false, false], .aload_n 0, 1, 0, 0, 0, 0, 0, []),
  (10, none, .getfield 181, 3, 11, 18, 0, 0, 0, []),
  (13, none, .sipush 142, 3, 0, 0, 0, 0, 0, []),
  (16, none, .if_icmp .eq 13, 3, 29, 0, 0, 0, 0, []),
  (19, none, .aload_n 0, 1, 0, 0, 0, 0, 0, []),
  (20, none, .getfield 181, 3, 11, 18, 0, 0, 0, []),
  (23, none, .sipush 147, 3, 0, 0, 0, 0, 0, []),
  (26, none, .if_icmp .ne 89, 3, 115, 0, 0, 0, 0, []),
  (29, some [true, false, false], .aload_n 0, 1, 0, 0, 0, 0, 0, []),
  (30, none, .getfield 181, 3, 11, 18, 0, 0, 0, []),
  (33, none, .sipush 147, 3, 0, 0, 0, 0, 0, []),
  (36, none, .if_icmp .ne 7, 3, 43, 0, 0, 0, 0, []),
  (39, none, .iconst 1, 1, 0, 0, 0, 0, 0, []),
  (40, none, .goto 4, 3, 44, 0, 0, 0, 0, []),
  (43, none, .iconst 0, 1, 0, 0, 0, 0, 0, []),
  (44, none, .istore_n 1, 1, 1, 0, 0, 0, 0, []),
  (45, none, .aload_n 0, 1, 0, 0, 0, 0, 0, []),
  (46, none, .invokevirtual 205, 3, 172, 1, 1, 0, 0, []),
  (49, none, .iload_n 1, 1, 1, 0, 0, 0, 0, []),
  (50, none, .ifCond .eq 46, 3, 96, 0, 0, 0, 0, []),
  (53, none, .aload_n 0, 1, 0, 0, 0, 0, 0, []),
  (54, none, .getfield 193, 3, 11, 20, 0, 0, 0, []),
  (57, none, .istore_n 2, 1, 2, 0, 0, 0, 0, []),
  (58, none, .aload_n 0, 1, 0, 0, 0, 0, 0, []),
  (59, none, .getfield 181, 3, 11, 18, 0, 0, 0, []),
  (62, none, .iconst 2, 1, 0, 0, 0, 0, 0, []),
  (63, none, .if_icmp .eq 9, 3, 72, 0, 0, 0, 0, []),
  (66, none, .aload_n 0, 1, 0, 0, 0, 0, 0, []),
  (67, none, .iconst 1, 1, 0, 0, 0, 0, 0, []),
  (68, none, .invokevirtual 202, 3, 173, 2, 2, 0, 0, []),
  (71, none, .ireturn, 1, 1, 0, 0, 0, 0, []),
  (72, none, .iload_n 2, 1, 2, 0, 0, 0, 0, []),
  (73, none, .ifCond .ne 9, 3, 82, 0, 0, 0, 0, []),
  (76, none, .aload_n 0, 1, 0, 0, 0, 0, 0, []),
  (77, none, .iconst 2, 1, 0, 0, 0, 0, 0, []),
  (78, none, .invokevirtual 202, 3, 173, 2, 2, 0, 0, []),
  (81, none, .ireturn, 1, 1, 0, 0, 0, 0, []),
  (82, none, .aload_n 0, 1, 0, 0, 0, 0, 0, []),
  (83, none, .invokevirtual 205, 3, 172, 1, 1, 0, 0, []),
  (86, none, .aload_n 0, 1, 0, 0, 0, 0, 0, []),
  (87, none, .bipush 26, 2, 0, 0, 0, 0, 0, []),
  (89, none, .iload_n 2, 1, 2, 0, 0, 0, 0, []),
  (90, none, .invokevirtual 218, 3, 175, 3, 1, 0, 0, []),
  (93, none, .goto 19, 3, 112, 0, 0, 0, 0, []),
  (96, none, .aload_n 0, 1, 0, 0, 0, 0, 0, []),
  (97, none, .invokevirtual 222, 3, 179, 1, 2, 0, 0, []),
  (100, none, .ifCond .ne 5, 3, 105, 0, 0, 0, 0, []),
  (103, none, .iconst 0, 1, 0, 0, 0, 0, 0, []),
  (104, none, .ireturn, 1, 1, 0, 0, 0, 0, []),
  (105, none, .aload_n 0, 1, 0, 0, 0, 0, 0, []),
  (106, none, .bipush 25, 2, 0, 0, 0, 0, 0, []),
  (108, none, .iconst 0, 1, 0, 0, 0, 0, 0, []),
  (109, none, .invokevirtual 218, 3, 175, 3, 1, 0, 0, []),
  (112, none, .goto (-103), 3, 9, 0, 0, 0, 0, []),
  (115, none, .iconst 1, 1, 0, 0, 0, 0, 0, []),
  (116, none, .ireturn, 1, 1, 0, 0, 0, 0, [])]
noncomputable def K_m_unit : List aE := [
  (0, none, .aload_n 0, 1, 0, 0, 0, 0, 0, []),
  (1, none, .getfield 181, 3, 11, 18, 0, 0, 0, []),
  (4, none, .bipush 41, 2, 0, 0, 0, 0, 0, []),
  (6, none, .bipush 50, 2, 0, 0, 0, 0, 0, []),
  (8, none, .invokestatic 71, 3, 148, 3, 2, 0, 0, []),
  (11, none, .istore_n 1, 1, 1, 0, 0, 0, 0, []),
  (12, none, .aload_n 0, 1, 0, 0, 0, 0, 0, []),
  (13, none, .getfield 181, 3, 11, 18, 0, 0, 0, []),
  (16, none, .iconst 2, 1, 0, 0, 0, 0, 0, []),
  (17, none, .if_icmp .eq 13, 3, 30, 0, 0, 0, 0, []),
  (20, none, .iload_n 1, 1, 1, 0, 0, 0, 0, []),
  (21, none, .ifCond .ne 9, 3, 30, 0, 0, 0, 0, []),
  (24, none, .aload_n 0, 1, 0, 0, 0, 0, 0, []),
  (25, none, .iconst 1, 1, 0, 0, 0, 0, 0, []),
  (26, none, .invokevirtual 202, 3, 173, 2, 2, 0, 0, []),
  (29, none, .ireturn, 1, 1, 0, 0, 0, 0, []),
  (30, none, .aload_n 0, 1, 0, 0, 0, 0, 0, []),
  (31, none, .iload_n 1, 1, 1, 0, 0, 0, 0, []),
  (32, none, .ifCond .eq 13, 3, 45, 0, 0, 0, 0, []),
  (35, none, .aload_n 0, 1, 0, 0, 0, 0, 0, []),
  (36, none, .getfield 181, 3, 11, 18, 0, 0, 0, []),
  (39, none, .bipush 40, 2, 0, 0, 0, 0, 0, []),
  (41, none, .isub, 1, 0, 0, 0, 0, 0, []),
  (42, none, .goto 4, 3, 46, 0, 0, 0, 0, []),
  (45, none, .iconst 0, 1, 0, 0, 0, 0, 0, []),
  (46, none, .aload_n 0, 1, 0, 0, 0, 0, 0, []),
  (47, none, .getfield 193, 3, 11, 20, 0, 0, 0, []),
  (50, none, .invokevirtual 218, 3, 175, 3, 1, 0, 0, []),
  (53, none, .aload_n 0, 1, 0, 0, 0, 0, 0, []),
  (54, none, .invokevirtual 205, 3, 172, 1, 1, 0, 0, []),
  (57, none, .iconst 1, 1, 0, 0, 0, 0, 0, []),
  (58, none, .ireturn, 1, 1, 0, 0, 0, 0, [])]
noncomputable def K_m_any : List aE := [
  (0, none, .aload_n 0, 1, 0, 0, 0, 0, 0, []),
  (1, none, .invokevirtual 225, 3, 181, 1, 2, 0, 0, []),
  (4, none, .ifCond .ne 5, 3, 9, 0, 0, 0, 0, []),
  (7, none, .iconst 0, 1, 0, 0, 0, 0, 0, []),
  (8, none, .ireturn, 1, 1, 0, 0, 0, 0, []),
  (9, some [true], .aload_n 0, 1, 0, 0, 0, 0, 0, []),
  (10, none, .getfield 181, 3, 11, 18, 0, 0, 0, []),
  (13, none, .iconst 4, 1, 0, 0, 0, 0, 0, []),
  (14, none, .if_icmp .ne 26, 3, 40, 0, 0, 0, 0, []),
  (17, none, .aload_n 0, 1, 0, 0, 0, 0, 0, []),
  (18, none, .invokevirtual 205, 3, 172, 1, 1, 0, 0, []),
  (21, none, .aload_n 0, 1, 0, 0, 0, 0, 0, []),
  (22, none, .invokevirtual 225, 3, 181, 1, 2, 0, 0, []),
  (25, none, .ifCond .ne 5, 3, 30, 0, 0, 0, 0, []),
  (28, none, .iconst 0, 1, 0, 0, 0, 0, 0, []),
  (29, none, .ireturn, 1, 1, 0, 0, 0, 0, []),
  (30, none, .aload_n 0, 1, 0, 0, 0, 0, 0, []),
  (31, none, .bipush 32, 2, 0, 0, 0, 0, 0, []),
  (33, none, .iconst 0, 1, 0, 0, 0, 0, 0, []),
  (34, none, .invokevirtual 218, 3, 175, 3, 1, 0, 0, []),
  (37, none, .goto (-28), 3, 9, 0, 0, 0, 0, []),
  (40, none, .iconst 1, 1, 0, 0, 0, 0, 0, []),
  (41, none, .ireturn, 1, 1, 0, 0, 0, 0, [])]
noncomputable def K_m_every : List aE := [
  (0, none, .aload_n 0, 1, 0, 0, 0, 0, 0, []),
  (1, none, .invokevirtual 228, 3, 182, 1, 2, 0, 0, []),
  (4, none, .ifCond .ne 5, 3, 9, 0, 0, 0, 0, []),
  (7, none, .iconst 0, 1, 0, 0, 0, 0, 0, []),
  (8, none, .ireturn, 1, 1, 0, 0, 0, 0, []),
  (9, some [true], .aload_n 0, 1, 0, 0, 0, 0, 0, []),
  (10, none, .getfield 181, 3, 11, 18, 0, 0, 0, []),
  (13, none, .iconst 5, 1, 0, 0, 0, 0, 0, []),
  (14, none, .if_icmp .ne 26, 3, 40, 0, 0, 0, 0, []),
  (17, none, .aload_n 0, 1, 0, 0, 0, 0, 0, []),
  (18, none, .invokevirtual 205, 3, 172, 1, 1, 0, 0, []),
  (21, none, .aload_n 0, 1, 0, 0, 0, 0, 0, []),
  (22, none, .invokevirtual 228, 3, 182, 1, 2, 0, 0, []),
  (25, none, .ifCond .ne 5, 3, 30, 0, 0, 0, 0, []),
  (28, none, .iconst 0, 1, 0, 0, 0, 0, 0, []),
  (29, none, .ireturn, 1, 1, 0, 0, 0, 0, []),
  (30, none, .aload_n 0, 1, 0, 0, 0, 0, 0, []),
  (31, none, .bipush 31, 2, 0, 0, 0, 0, 0, []),
  (33, none, .iconst 0, 1, 0, 0, 0, 0, 0, []),
  (34, none, .invokevirtual 218, 3, 175, 3, 1, 0, 0, []),
  (37, none, .goto (-28), 3, 9, 0, 0, 0, 0, []),
  (40, none, .iconst 1, 1, 0, 0, 0, 0, 0, []),
  (41, none, .ireturn, 1, 1, 0, 0, 0, 0, [])]
noncomputable def K_m_oneTest : List aE := [
  (0, none, .aload_n 0, 1, 0, 0, 0, 0, 0, []),
  (1, none, .getfield 181, 3, 11, 18, 0, 0, 0, []),
  (4, none, .bipush 6, 2, 0, 0, 0, 0, 0, []),
  (6, none, .if_icmp .ne 38, 3, 44, 0, 0, 0, 0, []),
  (9, none, .aload_n 0, 1, 0, 0, 0, 0, 0, []),
  (10, none, .invokevirtual 231, 3, 176, 1, 2, 0, 0, []),
  (13, none, .ifCond .eq 10, 3, 23, 0, 0, 0, 0, []),
  (16, none, .aload_n 0, 1, 0, 0, 0, 0, 0, []),
  (17, none, .invokevirtual 228, 3, 182, 1, 2, 0, 0, []),
  (20, none, .ifCond .ne 5, 3, 25, 0, 0, 0, 0, []),
  (23, none, .iconst 0, 1, 0, 0, 0, 0, 0, []),
  (24, none, .ireturn, 1, 1, 0, 0, 0, 0, []),
  (25, none, .aload_n 0, 1, 0, 0, 0, 0, 0, []),
  (26, none, .dup, 1, 0, 0, 0, 0, 0, []),
  (27, none, .getfield 211, 3, 11, 24, 0, 0, 0, []),
  (30, none, .iconst 1, 1, 0, 0, 0, 0, 0, []),
  (31, none, .isub, 1, 0, 0, 0, 0, 0, []),
  (32, none, .putfield 211, 3, 11, 24, 0, 0, 0, []),
  (35, none, .aload_n 0, 1, 0, 0, 0, 0, 0, []),
  (36, none, .bipush 30, 2, 0, 0, 0, 0, 0, []),
  (38, none, .iconst 0, 1, 0, 0, 0, 0, 0, []),
  (39, none, .invokevirtual 218, 3, 175, 3, 1, 0, 0, []),
  (42, none, .iconst 1, 1, 0, 0, 0, 0, 0, []),
  (43, none, .ireturn, 1, 1, 0, 0, 0, 0, []),
  (44, none, .aload_n 0, 1, 0, 0, 0, 0, 0, []),
  (45, none, .getfield 181, 3, 11, 18, 0, 0, 0, []),
  (48, none, .sipush 140, 3, 0, 0, 0, 0, 0, []),
  (51, none, .if_icmp .ne 41, 3, 92, 0, 0, 0, 0, []),
  (54, none, .aload_n 0, 1, 0, 0, 0, 0, 0, []),
  (55, none, .invokevirtual 231, 3, 176, 1, 2, 0, 0, []),
  (58, none, .ifCond .eq 20, 3, 78, 0, 0, 0, 0, []),
  (61, none, .aload_n 0, 1, 0, 0, 0, 0, 0, []),
  (62, none, .invokevirtual 234, 3, 180, 1, 2, 0, 0, []),
  (65, none, .ifCond .eq 13, 3, 78, 0, 0, 0, 0, []),
  (68, none, .aload_n 0, 1, 0, 0, 0, 0, 0, []),
  (69, none, .sipush 141, 3, 0, 0, 0, 0, 0, []),
  (72, none, .invokevirtual 237, 3, 174, 2, 2, 0, 0, []),
  (75, none, .ifCond .ne 5, 3, 80, 0, 0, 0, 0, []),
  (78, none, .iconst 0, 1, 0, 0, 0, 0, 0, []),
  (79, none, .ireturn, 1, 1, 0, 0, 0, 0, []),
  (80, none, .aload_n 0, 1, 0, 0, 0, 0, 0, []),
  (81, none, .dup, 1, 0, 0, 0, 0, 0, []),
  (82, none, .getfield 211, 3, 11, 24, 0, 0, 0, []),
  (85, none, .iconst 1, 1, 0, 0, 0, 0, 0, []),
  (86, none, .isub, 1, 0, 0, 0, 0, 0, []),
  (87, none, .putfield 211, 3, 11, 24, 0, 0, 0, []),
  (90, none, .iconst 1, 1, 0, 0, 0, 0, 0, []),
  (91, none, .ireturn, 1, 1, 0, 0, 0, 0, []),
  (92, none, .aload_n 0, 1, 0, 0, 0, 0, 0, []),
  (93, none, .invokevirtual 240, 3, 177, 1, 2, 0, 0, []),
  (96, none, .ifCond .ne 5, 3, 101, 0, 0, 0, 0, []),
  (99, none, .iconst 0, 1, 0, 0, 0, 0, 0, []),
  (100, none, .ireturn, 1, 1, 0, 0, 0, 0, []),
  (101, none, .aload_n 0, 1, 0, 0, 0, 0, 0, []),
  (102, none, .getfield 181, 3, 11, 18, 0, 0, 0, []),
  (105, none, .sipush 160, 3, 0, 0, 0, 0, 0, []),
  (108, none, .if_icmp .ne 8, 3, 116, 0, 0, 0, 0, []),
  (111, none, .bipush 27, 2, 0, 0, 0, 0, 0, []),
  (113, none, .goto 34, 3, 147, 0, 0, 0, 0, []),
  (116, none, .aload_n 0, 1, 0, 0, 0, 0, 0, []),
  (117, none, .getfield 181, 3, 11, 18, 0, 0, 0, []),
  (120, none, .sipush 161, 3, 0, 0, 0, 0, 0, []),
  (123, none, .if_icmp .ne 8, 3, 131, 0, 0, 0, 0, []),
  (126, none, .bipush 28, 2, 0, 0, 0, 0, 0, []),
  (128, none, .goto 19, 3, 147, 0, 0, 0, 0, []),
  (131, none, .aload_n 0, 1, 0, 0, 0, 0, 0, []),
  (132, none, .getfield 181, 3, 11, 18, 0, 0, 0, []),
  (135, none, .sipush 162, 3, 0, 0, 0, 0, 0, []),
  (138, none, .if_icmp .ne 8, 3, 146, 0, 0, 0, 0, []),
  (141, none, .bipush 29, 2, 0, 0, 0, 0, 0, []),
  (143, none, .goto 4, 3, 147, 0, 0, 0, 0, []),
  (146, none, .iconst (-1), 1, 0, 0, 0, 0, 0, []),
  (147, none, .istore_n 1, 1, 1, 0, 0, 0, 0, []),
  (148, none, .iload_n 1, 1, 1, 0, 0, 0, 0, []),
  (149, none, .iconst (-1), 1, 0, 0, 0, 0, 0, []),
  (150, none, .if_icmp .ne 9, 3, 159, 0, 0, 0, 0, []),
  (153, none, .aload_n 0, 1, 0, 0, 0, 0, 0, []),
  (154, none, .iconst 1, 1, 0, 0, 0, 0, 0, []),
  (155, none, .invokevirtual 202, 3, 173, 2, 2, 0, 0, []),
  (158, none, .ireturn, 1, 1, 0, 0, 0, 0, []),
  (159, none, .aload_n 0, 1, 0, 0, 0, 0, 0, []),
  (160, none, .invokevirtual 205, 3, 172, 1, 1, 0, 0, []),
  (163, none, .aload_n 0, 1, 0, 0, 0, 0, 0, []),
  (164, none, .invokevirtual 240, 3, 177, 1, 2, 0, 0, []),
  (167, none, .ifCond .ne 5, 3, 172, 0, 0, 0, 0, []),
  (170, none, .iconst 0, 1, 0, 0, 0, 0, 0, []),
  (171, none, .ireturn, 1, 1, 0, 0, 0, 0, []),
  (172, none, .aload_n 0, 1, 0, 0, 0, 0, 0, []),
  (173, none, .iload_n 1, 1, 1, 0, 0, 0, 0, []),
  (174, none, .iconst 0, 1, 0, 0, 0, 0, 0, []),
  (175, none, .invokevirtual 218, 3, 175, 3, 1, 0, 0, []),
  (178, none, .iconst 1, 1, 0, 0, 0, 0, 0, []),
  (179, none, .ireturn, 1, 1, 0, 0, 0, 0, [])]
noncomputable def K_m_aLine : List aE := [
  (0, none, .aload_n 0, 1, 0, 0, 0, 0, 0, []),
  (1, none, .getfield 181, 3, 11, 18, 0, 0, 0, []),
  (4, none, .bipush 20, 2, 0, 0, 0, 0, 0, []),
  (6, none, .bipush 22, 2, 0, 0, 0, 0, 0, []),
  (8, none, .invokestatic 71, 3, 148, 3, 2, 0, 0, []),
  (11, none, .ifCond .ne 9, 3, 20, 0, 0, 0, 0, []),
  (14, none, .aload_n 0, 1, 0, 0, 0, 0, 0, []),
  (15, none, .iconst 1, 1, 0, 0, 0, 0, 0, []),
  (16, none, .invokevirtual 202, 3, 173, 2, 2, 0, 0, []),
  (19, none, .ireturn, 1, 1, 0, 0, 0, 0, []),
  (20, none, .aload_n 0, 1, 0, 0, 0, 0, 0, []),
  (21, none, .getfield 243, 3, 11, 13, 0, 0, 0, []),
  (24, none, .bipush 16, 2, 0, 0, 0, 0, 0, []),
  (26, none, .if_icmp .ne 9, 3, 35, 0, 0, 0, 0, []),
  (29, none, .aload_n 0, 1, 0, 0, 0, 0, 0, []),
  (30, none, .iconst 3, 1, 0, 0, 0, 0, 0, []),
  (31, none, .invokevirtual 202, 3, 173, 2, 2, 0, 0, []),
  (34, none, .ireturn, 1, 1, 0, 0, 0, 0, []),
  (35, none, .aload_n 0, 1, 0, 0, 0, 0, 0, []),
  (36, none, .iconst 0, 1, 0, 0, 0, 0, 0, []),
  (37, none, .putfield 211, 3, 11, 24, 0, 0, 0, []),
  (40, none, .aload_n 0, 1, 0, 0, 0, 0, 0, []),
  (41, none, .getfield 22, 3, 11, 6, 22, 5, 0, []),
  (44, none, .iconst 4, 1, 0, 0, 0, 0, 0, []),
  (45, none, .aload_n 0, 1, 0, 0, 0, 0, 0, []),
  (46, none, .getfield 243, 3, 11, 13, 0, 0, 0, []),
  (49, none, .imul, 1, 0, 0, 0, 0, 0, []),
  (50, none, .iconst 3, 1, 0, 0, 0, 0, 0, []),
  (51, none, .iadd, 1, 0, 0, 0, 0, 0, []),
  (52, none, .aload_n 0, 1, 0, 0, 0, 0, 0, []),
  (53, none, .getfield 181, 3, 11, 18, 0, 0, 0, []),
  (56, none, .iastore, 1, 0, 0, 0, 0, 0, []),
  (57, none, .aload_n 0, 1, 0, 0, 0, 0, 0, []),
  (58, none, .invokevirtual 205, 3, 172, 1, 1, 0, 0, []),
  (61, none, .aload_n 0, 1, 0, 0, 0, 0, 0, []),
  (62, none, .getfield 22, 3, 11, 6, 22, 5, 0, []),
  (65, none, .iconst 4, 1, 0, 0, 0, 0, 0, []),
  (66, none, .aload_n 0, 1, 0, 0, 0, 0, 0, []),
  (67, none, .getfield 243, 3, 11, 13, 0, 0, 0, []),
  (70, none, .imul, 1, 0, 0, 0, 0, 0, []),
  (71, none, .aload_n 0, 1, 0, 0, 0, 0, 0, []),
  (72, none, .getfield 208, 3, 11, 14, 0, 0, 0, []),
  (75, none, .iastore, 1, 0, 0, 0, 0, 0, []),
  (76, none, .aload_n 0, 1, 0, 0, 0, 0, 0, []),
  (77, none, .invokevirtual 240, 3, 177, 1, 2, 0, 0, []),
  (80, none, .ifCond .ne 5, 3, 85, 0, 0, 0, 0, []),
  (83, none, .iconst 0, 1, 0, 0, 0, 0, 0, []),
  (84, none, .ireturn, 1, 1, 0, 0, 0, 0, []),
  (85, none, .aload_n 0, 1, 0, 0, 0, 0, 0, []),
  (86, none, .getfield 22, 3, 11, 6, 22, 5, 0, []),
  (89, none, .iconst 4, 1, 0, 0, 0, 0, 0, []),
  (90, none, .aload_n 0, 1, 0, 0, 0, 0, 0, []),
  (91, none, .getfield 243, 3, 11, 13, 0, 0, 0, []),
  (94, none, .imul, 1, 0, 0, 0, 0, 0, []),
  (95, none, .iconst 1, 1, 0, 0, 0, 0, 0, []),
  (96, none, .iadd, 1, 0, 0, 0, 0, 0, []),
  (97, none, .aload_n 0, 1, 0, 0, 0, 0, 0, []),
  (98, none, .getfield 208, 3, 11, 14, 0, 0, 0, []),
  (101, none, .iastore, 1, 0, 0, 0, 0, 0, []),
  (102, none, .aload_n 0, 1, 0, 0, 0, 0, 0, []),
  (103, none, .getfield 181, 3, 11, 18, 0, 0, 0, []),
  (106, none, .iconst 3, 1, 0, 0, 0, 0, 0, []),
  (107, none, .if_icmp .ne 16, 3, 123, 0, 0, 0, 0, []),
  (110, none, .aload_n 0, 1, 0, 0, 0, 0, 0, []),
  (111, none, .invokevirtual 205, 3, 172, 1, 1, 0, 0, []),
  (114, none, .aload_n 0, 1, 0, 0, 0, 0, 0, []),
  (115, none, .invokevirtual 234, 3, 180, 1, 2, 0, 0, []),
  (118, none, .ifCond .ne 5, 3, 123, 0, 0, 0, 0, []),
  (121, none, .iconst 0, 1, 0, 0, 0, 0, 0, []),
  (122, none, .ireturn, 1, 1, 0, 0, 0, 0, []),
  (123, none, .aload_n 0, 1, 0, 0, 0, 0, 0, []),
  (124, none, .getfield 22, 3, 11, 6, 22, 5, 0, []),
  (127, none, .iconst 4, 1, 0, 0, 0, 0, 0, []),
  (128, none, .aload_n 0, 1, 0, 0, 0, 0, 0, []),
  (129, none, .getfield 243, 3, 11, 13, 0, 0, 0, []),
  (132, none, .imul, 1, 0, 0, 0, 0, 0, []),
  (133, none, .iconst 2, 1, 0, 0, 0, 0, 0, []),
  (134, none, .iadd, 1, 0, 0, 0, 0, 0, []),
  (135, none, .aload_n 0, 1, 0, 0, 0, 0, 0, []),
  (136, none, .getfield 208, 3, 11, 14, 0, 0, 0, []),
  (139, none, .iastore, 1, 0, 0, 0, 0, 0, []),
  (140, none, .aload_n 0, 1, 0, 0, 0, 0, 0, []),
  (141, none, .sipush 159, 3, 0, 0, 0, 0, 0, []),
  (144, none, .invokevirtual 237, 3, 174, 2, 2, 0, 0, []),
  (147, none, .ireturn, 1, 1, 0, 0, 0, 0, [])]
noncomputable def K_m_readsLaw : List aE := [
  (0, none, .aload_n 0, 1, 0, 0, 0, 0, 0, []),
  (1, none, .iconst 0, 1, 0, 0, 0, 0, 0, []),
  (2, none, .putfield 243, 3, 11, 13, 0, 0, 0, []),
  (5, none, .aload_n 0, 1, 0, 0, 0, 0, 0, []),
  (6, none, .iconst 0, 1, 0, 0, 0, 0, 0, []),
  (7, none, .putfield 208, 3, 11, 14, 0, 0, 0, []),
  (10, none, .iconst 1, 1, 0, 0, 0, 0, 0, []),
  (11, none, .istore_n 1, 1, 1, 0, 0, 0, 0, []),
  (12, some [true, true], .iload_n 1, 1, 1, 0, 0, 0, 0, []),
  (13, none, .ifCond .eq 36, 3, 49, 0, 0, 0, 0, []),
  (16, none, .aload_n 0, 1, 0, 0, 0, 0, 0, []),
  (17, none, .getfield 181, 3, 11, 18, 0, 0, 0, []),
  (20, none, .ifCond .eq 29, 3, 49, 0, 0, 0, 0, []),
  (23, none, .aload_n 0, 1, 0, 0, 0, 0, 0, []),
  (24, none, .invokevirtual 246, 3, 183, 1, 2, 0, 0, []),
  (27, none, .istore_n 1, 1, 1, 0, 0, 0, 0, []),
  (28, none, .aload_n 0, 1, 0, 0, 0, 0, 0, []),
  (29, none, .dup, 1, 0, 0, 0, 0, 0, []),
  (30, none, .getfield 243, 3, 11, 13, 0, 0, 0, []),
  (33, none, .iload_n 1, 1, 1, 0, 0, 0, 0, []),
  (34, none, .ifCond .eq 7, 3, 41, 0, 0, 0, 0, []),
  (37, none, .iconst 1, 1, 0, 0, 0, 0, 0, []),
  (38, none, .goto 4, 3, 42, 0, 0, 0, 0, []),
  (41, none, .iconst 0, 1, 0, 0, 0, 0, 0, []),
  (42, none, .iadd, 1, 0, 0, 0, 0, 0, []),
  (43, none, .putfield 243, 3, 11, 13, 0, 0, 0, []),
  (46, none, .goto (-34), 3, 12, 0, 0, 0, 0, []),
  (49, none, .iload_n 1, 1, 1, 0, 0, 0, 0, []),
  (50, none, .ireturn, 1, 1, 0, 0, 0, 0, [])]
noncomputable def K_m_number : List aE := [
  (0, none, .aload_n 0, 1, 0, 0, 0, 0, 0, []),
  (1, none, .getfield 181, 3, 11, 18, 0, 0, 0, []),
  (4, none, .iconst 2, 1, 0, 0, 0, 0, 0, []),
  (5, none, .if_icmp .eq 9, 3, 14, 0, 0, 0, 0, []),
  (8, none, .aload_n 0, 1, 0, 0, 0, 0, 0, []),
  (9, none, .iconst 1, 1, 0, 0, 0, 0, 0, []),
  (10, none, .invokevirtual 202, 3, 173, 2, 2, 0, 0, []),
  (13, none, .ireturn, 1, 1, 0, 0, 0, 0, []),
  (14, none, .aload_n 0, 1, 0, 0, 0, 0, 0, []),
  (15, none, .getfield 193, 3, 11, 20, 0, 0, 0, []),
  (18, none, .iload_n 2, 1, 2, 0, 0, 0, 0, []),
  (19, none, .iload_n 3, 1, 3, 0, 0, 0, 0, []),
  (20, none, .invokestatic 71, 3, 148, 3, 2, 0, 0, []),
  (23, none, .ifCond .ne 9, 3, 32, 0, 0, 0, 0, []),
  (26, none, .aload_n 0, 1, 0, 0, 0, 0, 0, []),
  (27, none, .iconst 2, 1, 0, 0, 0, 0, 0, []),
  (28, none, .invokevirtual 202, 3, 173, 2, 2, 0, 0, []),
  (31, none, .ireturn, 1, 1, 0, 0, 0, 0, []),
  (32, none, .aload_n 0, 1, 0, 0, 0, 0, 0, []),
  (33, none, .getfield 28, 3, 11, 8, 22, 7, 0, []),
  (36, none, .iload_n 1, 1, 1, 0, 0, 0, 0, []),
  (37, none, .aload_n 0, 1, 0, 0, 0, 0, 0, []),
  (38, none, .getfield 193, 3, 11, 20, 0, 0, 0, []),
  (41, none, .iastore, 1, 0, 0, 0, 0, 0, []),
  (42, none, .aload_n 0, 1, 0, 0, 0, 0, 0, []),
  (43, none, .invokevirtual 205, 3, 172, 1, 1, 0, 0, []),
  (46, none, .iconst 1, 1, 0, 0, 0, 0, 0, []),
  (47, none, .ireturn, 1, 1, 0, 0, 0, 0, [])]
noncomputable def K_m_told : List aE := [
  (0, none, .aload_n 0, 1, 0, 0, 0, 0, 0, []),
  (1, none, .iload_n 2, 1, 2, 0, 0, 0, 0, []),
  (2, none, .invokevirtual 237, 3, 174, 2, 2, 0, 0, []),
  (5, none, .ifCond .eq 18, 3, 23, 0, 0, 0, 0, []),
  (8, none, .aload_n 0, 1, 0, 0, 0, 0, 0, []),
  (9, none, .iload_n 1, 1, 1, 0, 0, 0, 0, []),
  (10, none, .iload_n 3, 1, 3, 0, 0, 0, 0, []),
  (11, none, .iload 4, 2, 4, 0, 0, 0, 0, []),
  (13, none, .invokevirtual 249, 3, 185, 4, 2, 0, 0, []),
  (16, none, .ifCond .eq 7, 3, 23, 0, 0, 0, 0, []),
  (19, none, .iconst 1, 1, 0, 0, 0, 0, 0, []),
  (20, none, .goto 4, 3, 24, 0, 0, 0, 0, []),
  (23, none, .iconst 0, 1, 0, 0, 0, 0, 0, []),
  (24, none, .ireturn, 1, 1, 0, 0, 0, 0, [])]
noncomputable def K_m_aPlan : List aE := [
  (0, none, .iconst 3, 1, 0, 0, 0, 0, 0, []),
  (1, none, .aload_n 0, 1, 0, 0, 0, 0, 0, []),
  (2, none, .getfield 252, 3, 11, 15, 0, 0, 0, []),
  (5, none, .imul, 1, 0, 0, 0, 0, 0, []),
  (6, none, .istore_n 1, 1, 1, 0, 0, 0, 0, []),
  (7, none, .aload_n 0, 1, 0, 0, 0, 0, 0, []),
  (8, none, .iload_n 1, 1, 1, 0, 0, 0, 0, []),
  (9, none, .bipush 7, 2, 0, 0, 0, 0, 0, []),
  (11, none, .iconst 0, 1, 0, 0, 0, 0, 0, []),
  (12, none, .sipush 999, 3, 0, 0, 0, 0, 0, []),
  (15, none, .invokevirtual 255, 3, 186, 5, 2, 0, 0, []),
  (18, none, .ifCond .ne 5, 3, 23, 0, 0, 0, 0, []),
  (21, none, .iconst 0, 1, 0, 0, 0, 0, 0, []),
  (22, none, .ireturn, 1, 1, 0, 0, 0, 0, []),
  (23, none, .aload_n 0, 1, 0, 0, 0, 0, 0, []),
  (24, none, .getfield 181, 3, 11, 18, 0, 0, 0, []),
  (27, none, .bipush 8, 2, 0, 0, 0, 0, 0, []),
  (29, none, .bipush 12, 2, 0, 0, 0, 0, 0, []),
  (31, none, .invokestatic 71, 3, 148, 3, 2, 0, 0, []),
  (34, none, .ifCond .ne 9, 3, 43, 0, 0, 0, 0, []),
  (37, none, .aload_n 0, 1, 0, 0, 0, 0, 0, []),
  (38, none, .iconst 1, 1, 0, 0, 0, 0, 0, []),
  (39, none, .invokevirtual 202, 3, 173, 2, 2, 0, 0, []),
  (42, none, .ireturn, 1, 1, 0, 0, 0, 0, []),
  (43, none, .aload_n 0, 1, 0, 0, 0, 0, 0, []),
  (44, none, .getfield 181, 3, 11, 18, 0, 0, 0, []),
  (47, none, .istore_n 2, 1, 2, 0, 0, 0, 0, []),
  (48, none, .aload_n 0, 1, 0, 0, 0, 0, 0, []),
  (49, none, .getfield 28, 3, 11, 8, 22, 7, 0, []),
  (52, none, .iload_n 1, 1, 1, 0, 0, 0, 0, []),
  (53, none, .iconst 1, 1, 0, 0, 0, 0, 0, []),
  (54, none, .iadd, 1, 0, 0, 0, 0, 0, []),
  (55, none, .iload_n 2, 1, 2, 0, 0, 0, 0, []),
  (56, none, .iastore, 1, 0, 0, 0, 0, 0, []),
  (57, none, .aload_n 0, 1, 0, 0, 0, 0, 0, []),
  (58, none, .getfield 28, 3, 11, 8, 22, 7, 0, []),
  (61, none, .iload_n 1, 1, 1, 0, 0, 0, 0, []),
  (62, none, .iconst 2, 1, 0, 0, 0, 0, 0, []),
  (63, none, .iadd, 1, 0, 0, 0, 0, 0, []),
  (64, none, .iconst 0, 1, 0, 0, 0, 0, 0, []),
  (65, none, .iastore, 1, 0, 0, 0, 0, 0, []),
  (66, none, .aload_n 0, 1, 0, 0, 0, 0, 0, []),
  (67, none, .invokevirtual 205, 3, 172, 1, 1, 0, 0, []),
  (70, none, .iload_n 2, 1, 2, 0, 0, 0, 0, []),
  (71, none, .bipush 10, 2, 0, 0, 0, 0, 0, []),
  (73, none, .if_icmp .eq 40, 3, 113, 0, 0, 0, 0, []),
  (76, none, .aload_n 0, 1, 0, 0, 0, 0, 0, []),
  (77, none, .iload_n 1, 1, 1, 0, 0, 0, 0, []),
  (78, none, .iconst 2, 1, 0, 0, 0, 0, 0, []),
  (79, none, .iadd, 1, 0, 0, 0, 0, 0, []),
  (80, none, .iconst 0, 1, 0, 0, 0, 0, 0, []),
  (81, none, .iload_n 2, 1, 2, 0, 0, 0, 0, []),
  (82, none, .bipush 8, 2, 0, 0, 0, 0, 0, []),
  (84, none, .if_icmp .eq 9, 3, 93, 0, 0, 0, 0, []),
  (87, none, .iload_n 2, 1, 2, 0, 0, 0, 0, []),
  (88, none, .bipush 9, 2, 0, 0, 0, 0, 0, []),
  (90, none, .if_icmp .ne 8, 3, 98, 0, 0, 0, 0, []),
  (93, none, .bipush 99, 2, 0, 0, 0, 0, 0, []),
  (95, none, .goto 12, 3, 107, 0, 0, 0, 0, []),
  (98, none, .aload_n 0, 1, 0, 0, 0, 0, 0, []),
  (99, none, .getfield 7, 3, 11, 0, 22, 1, 0, []),
  (102, none, .bipush 41, 2, 0, 0, 0, 0, 0, []),
  (104, none, .iaload, 1, 0, 0, 0, 0, 0, []),
  (105, none, .iconst 1, 1, 0, 0, 0, 0, 0, []),
  (106, none, .isub, 1, 0, 0, 0, 0, 0, []),
  (107, none, .invokevirtual 249, 3, 185, 4, 2, 0, 0, []),
  (110, none, .ifCond .eq 7, 3, 117, 0, 0, 0, 0, []),
  (113, none, .iconst 1, 1, 0, 0, 0, 0, 0, []),
  (114, none, .goto 4, 3, 118, 0, 0, 0, 0, []),
  (117, none, .iconst 0, 1, 0, 0, 0, 0, 0, []),
  (118, none, .ireturn, 1, 1, 0, 0, 0, 0, [])]
noncomputable def K_m_aDue : List aE := [
  (0, none, .iconst 3, 1, 0, 0, 0, 0, 0, []),
  (1, none, .aload_n 0, 1, 0, 0, 0, 0, 0, []),
  (2, none, .getfield 252, 3, 11, 15, 0, 0, 0, []),
  (5, none, .imul, 1, 0, 0, 0, 0, 0, []),
  (6, none, .istore_n 1, 1, 1, 0, 0, 0, 0, []),
  (7, none, .aload_n 0, 1, 0, 0, 0, 0, 0, []),
  (8, none, .iload_n 1, 1, 1, 0, 0, 0, 0, []),
  (9, none, .bipush 13, 2, 0, 0, 0, 0, 0, []),
  (11, none, .iconst 1, 1, 0, 0, 0, 0, 0, []),
  (12, none, .sipush 999, 3, 0, 0, 0, 0, 0, []),
  (15, none, .invokevirtual 255, 3, 186, 5, 2, 0, 0, []),
  (18, none, .ifCond .eq 25, 3, 43, 0, 0, 0, 0, []),
  (21, none, .aload_n 0, 1, 0, 0, 0, 0, 0, []),
  (22, none, .iload_n 1, 1, 1, 0, 0, 0, 0, []),
  (23, none, .iconst 1, 1, 0, 0, 0, 0, 0, []),
  (24, none, .iadd, 1, 0, 0, 0, 0, 0, []),
  (25, none, .bipush 7, 2, 0, 0, 0, 0, 0, []),
  (27, none, .iconst 0, 1, 0, 0, 0, 0, 0, []),
  (28, none, .aload_n 0, 1, 0, 0, 0, 0, 0, []),
  (29, none, .getfield 7, 3, 11, 0, 22, 1, 0, []),
  (32, none, .bipush 41, 2, 0, 0, 0, 0, 0, []),
  (34, none, .iaload, 1, 0, 0, 0, 0, 0, []),
  (35, none, .iconst 1, 1, 0, 0, 0, 0, 0, []),
  (36, none, .isub, 1, 0, 0, 0, 0, 0, []),
  (37, none, .invokevirtual 255, 3, 186, 5, 2, 0, 0, []),
  (40, none, .ifCond .ne 5, 3, 45, 0, 0, 0, 0, []),
  (43, none, .iconst 0, 1, 0, 0, 0, 0, 0, []),
  (44, none, .ireturn, 1, 1, 0, 0, 0, 0, []),
  (45, none, .aload_n 0, 1, 0, 0, 0, 0, 0, []),
  (46, none, .getfield 28, 3, 11, 8, 22, 7, 0, []),
  (49, none, .iload_n 1, 1, 1, 0, 0, 0, 0, []),
  (50, none, .iconst 2, 1, 0, 0, 0, 0, 0, []),
  (51, none, .iadd, 1, 0, 0, 0, 0, 0, []),
  (52, none, .iconst (-1), 1, 0, 0, 0, 0, 0, []),
  (53, none, .iastore, 1, 0, 0, 0, 0, 0, []),
  (54, none, .aload_n 0, 1, 0, 0, 0, 0, 0, []),
  (55, none, .getfield 181, 3, 11, 18, 0, 0, 0, []),
  (58, none, .bipush 14, 2, 0, 0, 0, 0, 0, []),
  (60, none, .if_icmp .ne 19, 3, 79, 0, 0, 0, 0, []),
  (63, none, .aload_n 0, 1, 0, 0, 0, 0, 0, []),
  (64, none, .iload_n 1, 1, 1, 0, 0, 0, 0, []),
  (65, none, .iconst 2, 1, 0, 0, 0, 0, 0, []),
  (66, none, .iadd, 1, 0, 0, 0, 0, 0, []),
  (67, none, .bipush 14, 2, 0, 0, 0, 0, 0, []),
  (69, none, .iconst 0, 1, 0, 0, 0, 0, 0, []),
  (70, none, .sipush 999, 3, 0, 0, 0, 0, 0, []),
  (73, none, .invokevirtual 255, 3, 186, 5, 2, 0, 0, []),
  (76, none, .ifCond .eq 7, 3, 83, 0, 0, 0, 0, []),
  (79, none, .iconst 1, 1, 0, 0, 0, 0, 0, []),
  (80, none, .goto 4, 3, 84, 0, 0, 0, 0, []),
  (83, none, .iconst 0, 1, 0, 0, 0, 0, 0, []),
  (84, none, .ireturn, 1, 1, 0, 0, 0, 0, [])]
noncomputable def K_m_aFeast : List aE := [
  (0, none, .aload_n 0, 1, 0, 0, 0, 0, 0, []),
  (1, none, .iconst 2, 1, 0, 0, 0, 0, 0, []),
  (2, none, .aload_n 0, 1, 0, 0, 0, 0, 0, []),
  (3, none, .getfield 252, 3, 11, 15, 0, 0, 0, []),
  (6, none, .imul, 1, 0, 0, 0, 0, 0, []),
  (7, none, .bipush 15, 2, 0, 0, 0, 0, 0, []),
  (9, none, .iconst 0, 1, 0, 0, 0, 0, 0, []),
  (10, none, .bipush 30, 2, 0, 0, 0, 0, 0, []),
  (12, none, .invokevirtual 255, 3, 186, 5, 2, 0, 0, []),
  (15, none, .ifCond .eq 27, 3, 42, 0, 0, 0, 0, []),
  (18, none, .aload_n 0, 1, 0, 0, 0, 0, 0, []),
  (19, none, .iconst 2, 1, 0, 0, 0, 0, 0, []),
  (20, none, .aload_n 0, 1, 0, 0, 0, 0, 0, []),
  (21, none, .getfield 252, 3, 11, 15, 0, 0, 0, []),
  (24, none, .imul, 1, 0, 0, 0, 0, 0, []),
  (25, none, .iconst 1, 1, 0, 0, 0, 0, 0, []),
  (26, none, .iadd, 1, 0, 0, 0, 0, 0, []),
  (27, none, .bipush 16, 2, 0, 0, 0, 0, 0, []),
  (29, none, .iconst 0, 1, 0, 0, 0, 0, 0, []),
  (30, none, .bipush 9, 2, 0, 0, 0, 0, 0, []),
  (32, none, .invokevirtual 255, 3, 186, 5, 2, 0, 0, []),
  (35, none, .ifCond .eq 7, 3, 42, 0, 0, 0, 0, []),
  (38, none, .iconst 1, 1, 0, 0, 0, 0, 0, []),
  (39, none, .goto 4, 3, 43, 0, 0, 0, 0, []),
  (42, none, .iconst 0, 1, 0, 0, 0, 0, 0, []),
  (43, none, .ireturn, 1, 1, 0, 0, 0, 0, [])]
noncomputable def K_m_aRow : List aE := [
  (0, none, .aload_n 0, 1, 0, 0, 0, 0, 0, []),
  (1, none, .getfield 160, 3, 11, 12, 0, 0, 0, []),
  (4, none, .iconst 1, 1, 0, 0, 0, 0, 0, []),
  (5, none, .if_icmp .ne 13, 3, 18, 0, 0, 0, 0, []),
  (8, none, .aload_n 0, 1, 0, 0, 0, 0, 0, []),
  (9, none, .invokevirtual 259, 3, 187, 1, 2, 0, 0, []),
  (12, none, .ifCond .eq 45, 3, 57, 0, 0, 0, 0, []),
  (15, none, .goto 28, 3, 43, 0, 0, 0, 0, []),
  (18, none, .aload_n 0, 1, 0, 0, 0, 0, 0, []),
  (19, none, .getfield 160, 3, 11, 12, 0, 0, 0, []),
  (22, none, .iconst 2, 1, 0, 0, 0, 0, 0, []),
  (23, none, .if_icmp .ne 13, 3, 36, 0, 0, 0, 0, []),
  (26, none, .aload_n 0, 1, 0, 0, 0, 0, 0, []),
  (27, none, .invokevirtual 262, 3, 188, 1, 2, 0, 0, []),
  (30, none, .ifCond .eq 27, 3, 57, 0, 0, 0, 0, []),
  (33, none, .goto 10, 3, 43, 0, 0, 0, 0, []),
  (36, none, .aload_n 0, 1, 0, 0, 0, 0, 0, []),
  (37, none, .invokevirtual 265, 3, 189, 1, 2, 0, 0, []),
  (40, none, .ifCond .eq 17, 3, 57, 0, 0, 0, 0, []),
  (43, none, .aload_n 0, 1, 0, 0, 0, 0, 0, []),
  (44, none, .sipush 159, 3, 0, 0, 0, 0, 0, []),
  (47, none, .invokevirtual 237, 3, 174, 2, 2, 0, 0, []),
  (50, none, .ifCond .eq 7, 3, 57, 0, 0, 0, 0, []),
  (53, none, .iconst 1, 1, 0, 0, 0, 0, 0, []),
  (54, none, .goto 4, 3, 58, 0, 0, 0, 0, []),
  (57, none, .iconst 0, 1, 0, 0, 0, 0, 0, []),
  (58, none, .ireturn, 1, 1, 0, 0, 0, 0, [])]
noncomputable def K_m_readsRows : List aE := [
  (0, none, .aload_n 0, 1, 0, 0, 0, 0, 0, []),
  (1, none, .iconst 0, 1, 0, 0, 0, 0, 0, []),
  (2, none, .putfield 252, 3, 11, 15, 0, 0, 0, []),
  (5, none, .aload_n 0, 1, 0, 0, 0, 0, 0, []),
  (6, none, .getfield 160, 3, 11, 12, 0, 0, 0, []),
  (9, none, .iconst 1, 1, 0, 0, 0, 0, 0, []),
  (10, none, .if_icmp .ne 8, 3, 18, 0, 0, 0, 0, []),
  (13, none, .bipush 7, 2, 0, 0, 0, 0, 0, []),
  (15, none, .goto 18, 3, 33, 0, 0, 0, 0, []),
  (18, none, .aload_n 0, 1, 0, 0, 0, 0, 0, []),
  (19, none, .getfield 160, 3, 11, 12, 0, 0, 0, []),
  (22, none, .iconst 2, 1, 0, 0, 0, 0, 0, []),
  (23, none, .if_icmp .ne 8, 3, 31, 0, 0, 0, 0, []),
  (26, none, .bipush 13, 2, 0, 0, 0, 0, 0, []),
  (28, none, .goto 5, 3, 33, 0, 0, 0, 0, []),
  (31, none, .bipush 15, 2, 0, 0, 0, 0, 0, []),
  (33, none, .istore_n 1, 1, 1, 0, 0, 0, 0, []),
  (34, none, .iconst 1, 1, 0, 0, 0, 0, 0, []),
  (35, none, .istore_n 2, 1, 2, 0, 0, 0, 0, []),
  (36, some [true, true, true], .iload_n 2, 1, 2, 0, 0, 0, 0, []),
  (37, none, .ifCond .eq 78, 3, 115, 0, 0, 0, 0, []),
  (40, none, .aload_n 0, 1, 0, 0, 0, 0, 0, []),
  (41, none, .getfield 181, 3, 11, 18, 0, 0, 0, []),
  (44, none, .ifCond .eq 71, 3, 115, 0, 0, 0, 0, []),
  (47, none, .aload_n 0, 1, 0, 0, 0, 0, 0, []),
  (48, none, .getfield 181, 3, 11, 18, 0, 0, 0, []),
  (51, none, .iload_n 1, 1, 1, 0, 0, 0, 0, []),
  (52, none, .if_icmp .eq 9, 3, 61, 0, 0, 0, 0, []),
  (55, none, .aload_n 0, 1, 0, 0, 0, 0, 0, []),
  (56, none, .iconst 1, 1, 0, 0, 0, 0, 0, []),
  (57, none, .invokevirtual 202, 3, 173, 2, 2, 0, 0, []),
  (60, none, .ireturn, 1, 1, 0, 0, 0, 0, []),
  (61, none, .aload_n 0, 1, 0, 0, 0, 0, 0, []),
  (62, none, .getfield 252, 3, 11, 15, 0, 0, 0, []),
  (65, none, .aload_n 0, 1, 0, 0, 0, 0, 0, []),
  (66, none, .getfield 160, 3, 11, 12, 0, 0, 0, []),
  (69, none, .iconst 3, 1, 0, 0, 0, 0, 0, []),
  (70, none, .if_icmp .ne 8, 3, 78, 0, 0, 0, 0, []),
  (73, none, .bipush 8, 2, 0, 0, 0, 0, 0, []),
  (75, none, .goto 5, 3, 80, 0, 0, 0, 0, []),
  (78, none, .bipush 16, 2, 0, 0, 0, 0, 0, []),
  (80, none, .if_icmp .ne 9, 3, 89, 0, 0, 0, 0, []),
  (83, none, .aload_n 0, 1, 0, 0, 0, 0, 0, []),
  (84, none, .iconst 3, 1, 0, 0, 0, 0, 0, []),
  (85, none, .invokevirtual 202, 3, 173, 2, 2, 0, 0, []),
  (88, none, .ireturn, 1, 1, 0, 0, 0, 0, []),
  (89, none, .aload_n 0, 1, 0, 0, 0, 0, 0, []),
  (90, none, .invokevirtual 268, 3, 190, 1, 2, 0, 0, []),
  (93, none, .istore_n 2, 1, 2, 0, 0, 0, 0, []),
  (94, none, .aload_n 0, 1, 0, 0, 0, 0, 0, []),
  (95, none, .dup, 1, 0, 0, 0, 0, 0, []),
  (96, none, .getfield 252, 3, 11, 15, 0, 0, 0, []),
  (99, none, .iload_n 2, 1, 2, 0, 0, 0, 0, []),
  (100, none, .ifCond .eq 7, 3, 107, 0, 0, 0, 0, []),
  (103, none, .iconst 1, 1, 0, 0, 0, 0, 0, []),
  (104, none, .goto 4, 3, 108, 0, 0, 0, 0, []),
  (107, none, .iconst 0, 1, 0, 0, 0, 0, 0, []),
  (108, none, .iadd, 1, 0, 0, 0, 0, 0, []),
  (109, none, .putfield 252, 3, 11, 15, 0, 0, 0, []),
  (112, none, .goto (-76), 3, 36, 0, 0, 0, 0, []),
  (115, none, .iload_n 2, 1, 2, 0, 0, 0, 0, []),
  (116, none, .ireturn, 1, 1, 0, 0, 0, 0, [])]
noncomputable def K_m_putsLaw : List aE := [
  (0, none, .aload_n 0, 1, 0, 0, 0, 0, 0, []),
  (1, none, .getfield 7, 3, 11, 0, 22, 1, 0, []),
  (4, none, .bipush 44, 2, 0, 0, 0, 0, 0, []),
  (6, none, .aload_n 0, 1, 0, 0, 0, 0, 0, []),
  (7, none, .getfield 243, 3, 11, 13, 0, 0, 0, []),
  (10, none, .iastore, 1, 0, 0, 0, 0, 0, []),
  (11, none, .iconst 0, 1, 0, 0, 0, 0, 0, []),
  (12, none, .istore_n 1, 1, 1, 0, 0, 0, 0, []),
  (13, some [true, true], .iload_n 1, 1, 1, 0, 0, 0, 0, []),
  (14, none, .aload_n 0, 1, 0, 0, 0, 0, 0, []),
  (15, none, .getfield 243, 3, 11, 13, 0, 0, 0, []),
  (18, none, .if_icmp .ge 87, 3, 105, 0, 0, 0, 0, []),
  (21, none, .aload_n 0, 1, 0, 0, 0, 0, 0, []),
  (22, none, .getfield 7, 3, 11, 0, 22, 1, 0, []),
  (25, none, .sipush 884, 3, 0, 0, 0, 0, 0, []),
  (28, none, .iload_n 1, 1, 1, 0, 0, 0, 0, []),
  (29, none, .iadd, 1, 0, 0, 0, 0, 0, []),
  (30, none, .aload_n 0, 1, 0, 0, 0, 0, 0, []),
  (31, none, .getfield 22, 3, 11, 6, 22, 5, 0, []),
  (34, none, .iconst 4, 1, 0, 0, 0, 0, 0, []),
  (35, none, .iload_n 1, 1, 1, 0, 0, 0, 0, []),
  (36, none, .imul, 1, 0, 0, 0, 0, 0, []),
  (37, none, .iaload, 1, 0, 0, 0, 0, 0, []),
  (38, none, .iastore, 1, 0, 0, 0, 0, 0, []),
  (39, none, .aload_n 0, 1, 0, 0, 0, 0, 0, []),
  (40, none, .getfield 7, 3, 11, 0, 22, 1, 0, []),
  (43, none, .sipush 900, 3, 0, 0, 0, 0, 0, []),
  (46, none, .iload_n 1, 1, 1, 0, 0, 0, 0, []),
  (47, none, .iadd, 1, 0, 0, 0, 0, 0, []),
  (48, none, .aload_n 0, 1, 0, 0, 0, 0, 0, []),
  (49, none, .getfield 22, 3, 11, 6, 22, 5, 0, []),
  (52, none, .iconst 4, 1, 0, 0, 0, 0, 0, []),
  (53, none, .iload_n 1, 1, 1, 0, 0, 0, 0, []),
  (54, none, .imul, 1, 0, 0, 0, 0, 0, []),
  (55, none, .iconst 1, 1, 0, 0, 0, 0, 0, []),
  (56, none, .iadd, 1, 0, 0, 0, 0, 0, []),
  (57, none, .iaload, 1, 0, 0, 0, 0, 0, []),
  (58, none, .iastore, 1, 0, 0, 0, 0, 0, []),
  (59, none, .aload_n 0, 1, 0, 0, 0, 0, 0, []),
  (60, none, .getfield 7, 3, 11, 0, 22, 1, 0, []),
  (63, none, .sipush 916, 3, 0, 0, 0, 0, 0, []),
  (66, none, .iload_n 1, 1, 1, 0, 0, 0, 0, []),
  (67, none, .iadd, 1, 0, 0, 0, 0, 0, []),
  (68, none, .aload_n 0, 1, 0, 0, 0, 0, 0, []),
  (69, none, .getfield 22, 3, 11, 6, 22, 5, 0, []),
  (72, none, .iconst 4, 1, 0, 0, 0, 0, 0, []),
  (73, none, .iload_n 1, 1, 1, 0, 0, 0, 0, []),
  (74, none, .imul, 1, 0, 0, 0, 0, 0, []),
  (75, none, .iconst 2, 1, 0, 0, 0, 0, 0, []),
  (76, none, .iadd, 1, 0, 0, 0, 0, 0, []),
  (77, none, .iaload, 1, 0, 0, 0, 0, 0, []),
  (78, none, .iastore, 1, 0, 0, 0, 0, 0, []),
  (79, none, .aload_n 0, 1, 0, 0, 0, 0, 0, []),
  (80, none, .getfield 7, 3, 11, 0, 22, 1, 0, []),
  (83, none, .sipush 932, 3, 0, 0, 0, 0, 0, []),
  (86, none, .iload_n 1, 1, 1, 0, 0, 0, 0, []),
  (87, none, .iadd, 1, 0, 0, 0, 0, 0, []),
  (88, none, .aload_n 0, 1, 0, 0, 0, 0, 0, []),
  (89, none, .getfield 22, 3, 11, 6, 22, 5, 0, []),
  (92, none, .iconst 4, 1, 0, 0, 0, 0, 0, []),
  (93, none, .iload_n 1, 1, 1, 0, 0, 0, 0, []),
  (94, none, .imul, 1, 0, 0, 0, 0, 0, []),
  (95, none, .iconst 3, 1, 0, 0, 0, 0, 0, []),
  (96, none, .iadd, 1, 0, 0, 0, 0, 0, []),
  (97, none, .iaload, 1, 0, 0, 0, 0, 0, []),
  (98, none, .iastore, 1, 0, 0, 0, 0, 0, []),
  (99, none, .iinc 1 1, 3, 1, 0, 0, 0, 0, []),
  (102, none, .goto (-89), 3, 13, 0, 0, 0, 0, []),
  (105, none, .iconst 0, 1, 0, 0, 0, 0, 0, []),
  (106, none, .istore_n 1, 1, 1, 0, 0, 0, 0, []),
  (107, some [true, true], .iload_n 1, 1, 1, 0, 0, 0, 0, []),
  (108, none, .iconst 2, 1, 0, 0, 0, 0, 0, []),
  (109, none, .aload_n 0, 1, 0, 0, 0, 0, 0, []),
  (110, none, .getfield 208, 3, 11, 14, 0, 0, 0, []),
  (113, none, .imul, 1, 0, 0, 0, 0, 0, []),
  (114, none, .if_icmp .ge 25, 3, 139, 0, 0, 0, 0, []),
  (117, none, .aload_n 0, 1, 0, 0, 0, 0, 0, []),
  (118, none, .getfield 7, 3, 11, 0, 22, 1, 0, []),
  (121, none, .sipush 948, 3, 0, 0, 0, 0, 0, []),
  (124, none, .iload_n 1, 1, 1, 0, 0, 0, 0, []),
  (125, none, .iadd, 1, 0, 0, 0, 0, 0, []),
  (126, none, .aload_n 0, 1, 0, 0, 0, 0, 0, []),
  (127, none, .getfield 25, 3, 11, 7, 22, 6, 0, []),
  (130, none, .iload_n 1, 1, 1, 0, 0, 0, 0, []),
  (131, none, .iaload, 1, 0, 0, 0, 0, 0, []),
  (132, none, .iastore, 1, 0, 0, 0, 0, 0, []),
  (133, none, .iinc 1 1, 3, 1, 0, 0, 0, 0, []),
  (136, none, .goto (-29), 3, 107, 0, 0, 0, 0, []),
  (139, none, .aload_n 0, 1, 0, 0, 0, 0, 0, []),
  (140, none, .getfield 243, 3, 11, 13, 0, 0, 0, []),
  (143, none, .ireturn, 1, 0, 0, 0, 0, 0, [])]
noncomputable def K_m_puts : List aE := [
  (0, none, .aload_n 0, 1, 0, 0, 0, 0, 0, []),
  (1, none, .getfield 7, 3, 11, 0, 22, 1, 0, []),
  (4, none, .iload_n 1, 1, 1, 0, 0, 0, 0, []),
  (5, none, .aload_n 0, 1, 0, 0, 0, 0, 0, []),
  (6, none, .getfield 252, 3, 11, 15, 0, 0, 0, []),
  (9, none, .iastore, 1, 0, 0, 0, 0, 0, []),
  (10, none, .iconst 0, 1, 0, 0, 0, 0, 0, []),
  (11, none, .istore 4, 2, 4, 0, 0, 0, 0, []),
  (13, some [true, false, true, true, true], .iload 4, 2, 4, 0, 0, 0, 0, []),
  (15, none, .iload_n 3, 1, 3, 0, 0, 0, 0, []),
  (16, none, .aload_n 0, 1, 0, 0, 0, 0, 0, []),
  (17, none, .getfield 252, 3, 11, 15, 0, 0, 0, []),
  (20, none, .imul, 1, 0, 0, 0, 0, 0, []),
  (21, none, .if_icmp .ge 25, 3, 46, 0, 0, 0, 0, []),
  (24, none, .aload_n 0, 1, 0, 0, 0, 0, 0, []),
  (25, none, .getfield 7, 3, 11, 0, 22, 1, 0, []),
  (28, none, .iload_n 2, 1, 2, 0, 0, 0, 0, []),
  (29, none, .iload 4, 2, 4, 0, 0, 0, 0, []),
  (31, none, .iadd, 1, 0, 0, 0, 0, 0, []),
  (32, none, .aload_n 0, 1, 0, 0, 0, 0, 0, []),
  (33, none, .getfield 28, 3, 11, 8, 22, 7, 0, []),
  (36, none, .iload 4, 2, 4, 0, 0, 0, 0, []),
  (38, none, .iaload, 1, 0, 0, 0, 0, 0, []),
  (39, none, .iastore, 1, 0, 0, 0, 0, 0, []),
  (40, none, .iinc 4 1, 3, 4, 0, 0, 0, 0, []),
  (43, none, .goto (-30), 3, 13, 0, 0, 0, 0, []),
  (46, none, .aload_n 0, 1, 0, 0, 0, 0, 0, []),
  (47, none, .getfield 252, 3, 11, 15, 0, 0, 0, []),
  (50, none, .ireturn, 1, 0, 0, 0, 0, 0, [])]
noncomputable def K_m_putsText : List aE := [
  (0, none, .iload_n 1, 1, 1, 0, 0, 0, 0, []),
  (1, none, .ifCond .ne 8, 3, 9, 0, 0, 0, 0, []),
  (4, none, .aload_n 0, 1, 0, 0, 0, 0, 0, []),
  (5, none, .invokevirtual 271, 3, 192, 1, 2, 0, 0, []),
  (8, none, .ireturn, 1, 0, 0, 0, 0, 0, []),
  (9, none, .iload_n 1, 1, 1, 0, 0, 0, 0, []),
  (10, none, .iconst 3, 1, 0, 0, 0, 0, 0, []),
  (11, none, .if_icmp .ne 14, 3, 25, 0, 0, 0, 0, []),
  (14, none, .aload_n 0, 1, 0, 0, 0, 0, 0, []),
  (15, none, .bipush 47, 2, 0, 0, 0, 0, 0, []),
  (17, none, .sipush 159, 3, 0, 0, 0, 0, 0, []),
  (20, none, .iconst 2, 1, 0, 0, 0, 0, 0, []),
  (21, none, .invokevirtual 274, 3, 193, 4, 2, 0, 0, []),
  (24, none, .ireturn, 1, 0, 0, 0, 0, 0, []),
  (25, none, .aload_n 0, 1, 0, 0, 0, 0, 0, []),
  (26, none, .invokevirtual 82, 3, 155, 1, 1, 0, 0, []),
  (29, none, .iload_n 1, 1, 1, 0, 0, 0, 0, []),
  (30, none, .iconst 1, 1, 0, 0, 0, 0, 0, []),
  (31, none, .if_icmp .ne 13, 3, 44, 0, 0, 0, 0, []),
  (34, none, .aload_n 0, 1, 0, 0, 0, 0, 0, []),
  (35, none, .bipush 45, 2, 0, 0, 0, 0, 0, []),
  (37, none, .bipush 63, 2, 0, 0, 0, 0, 0, []),
  (39, none, .iconst 3, 1, 0, 0, 0, 0, 0, []),
  (40, none, .invokevirtual 274, 3, 193, 4, 2, 0, 0, []),
  (43, none, .ireturn, 1, 0, 0, 0, 0, 0, []),
  (44, none, .aload_n 0, 1, 0, 0, 0, 0, 0, []),
  (45, none, .getfield 7, 3, 11, 0, 22, 1, 0, []),
  (48, none, .bipush 9, 2, 0, 0, 0, 0, 0, []),
  (50, none, .iconst 0, 1, 0, 0, 0, 0, 0, []),
  (51, none, .iastore, 1, 0, 0, 0, 0, 0, []),
  (52, none, .aload_n 0, 1, 0, 0, 0, 0, 0, []),
  (53, none, .bipush 46, 2, 0, 0, 0, 0, 0, []),
  (55, none, .bipush 111, 2, 0, 0, 0, 0, 0, []),
  (57, none, .iconst 3, 1, 0, 0, 0, 0, 0, []),
  (58, none, .invokevirtual 274, 3, 193, 4, 2, 0, 0, []),
  (61, none, .ireturn, 1, 0, 0, 0, 0, 0, [])]
noncomputable def K_m_text : List aE := [
  (0, none, .aload_n 0, 1, 0, 0, 0, 0, 0, []),
  (1, none, .iconst 0, 1, 0, 0, 0, 0, 0, []),
  (2, none, .putfield 278, 3, 11, 23, 0, 0, 0, []),
  (5, none, .aload_n 0, 1, 0, 0, 0, 0, 0, []),
  (6, none, .iconst (-1), 1, 0, 0, 0, 0, 0, []),
  (7, none, .putfield 40, 3, 11, 25, 0, 0, 0, []),
  (10, none, .iload_n 1, 1, 1, 0, 0, 0, 0, []),
  (11, none, .iconst 0, 1, 0, 0, 0, 0, 0, []),
  (12, none, .iconst 3, 1, 0, 0, 0, 0, 0, []),
  (13, none, .invokestatic 71, 3, 148, 3, 2, 0, 0, []),
  (16, none, .ifCond .ne 10, 3, 26, 0, 0, 0, 0, []),
  (19, none, .aload_n 0, 1, 0, 0, 0, 0, 0, []),
  (20, none, .iconst 0, 1, 0, 0, 0, 0, 0, []),
  (21, none, .putfield 94, 3, 11, 16, 0, 0, 0, []),
  (24, none, .iconst (-1), 1, 0, 0, 0, 0, 0, []),
  (25, none, .ireturn, 1, 0, 0, 0, 0, 0, []),
  (26, none, .aload_n 0, 1, 0, 0, 0, 0, 0, []),
  (27, none, .iconst 0, 1, 0, 0, 0, 0, 0, []),
  (28, none, .putfield 196, 3, 11, 21, 0, 0, 0, []),
  (31, none, .aload_n 0, 1, 0, 0, 0, 0, 0, []),
  (32, none, .iconst 0, 1, 0, 0, 0, 0, 0, []),
  (33, none, .putfield 97, 3, 11, 17, 0, 0, 0, []),
  (36, none, .aload_n 0, 1, 0, 0, 0, 0, 0, []),
  (37, none, .iload_n 1, 1, 1, 0, 0, 0, 0, []),
  (38, none, .putfield 160, 3, 11, 12, 0, 0, 0, []),
  (41, none, .aload_n 0, 1, 0, 0, 0, 0, 0, []),
  (42, none, .invokevirtual 205, 3, 172, 1, 1, 0, 0, []),
  (45, none, .iload_n 1, 1, 1, 0, 0, 0, 0, []),
  (46, none, .ifCond .ne 10, 3, 56, 0, 0, 0, 0, []),
  (49, none, .aload_n 0, 1, 0, 0, 0, 0, 0, []),
  (50, none, .invokevirtual 281, 3, 184, 1, 2, 0, 0, []),
  (53, none, .goto 7, 3, 60, 0, 0, 0, 0, []),
  (56, none, .aload_n 0, 1, 0, 0, 0, 0, 0, []),
  (57, none, .invokevirtual 284, 3, 191, 1, 2, 0, 0, []),
  (60, none, .istore_n 2, 1, 2, 0, 0, 0, 0, []),
  (61, none, .aload_n 0, 1, 0, 0, 0, 0, 0, []),
  (62, none, .iconst 0, 1, 0, 0, 0, 0, 0, []),
  (63, none, .putfield 94, 3, 11, 16, 0, 0, 0, []),
  (66, none, .iload_n 2, 1, 2, 0, 0, 0, 0, []),
  (67, none, .ifCond .eq 9, 3, 76, 0, 0, 0, 0, []),
  (70, none, .aload_n 0, 1, 0, 0, 0, 0, 0, []),
  (71, none, .iload_n 1, 1, 1, 0, 0, 0, 0, []),
  (72, none, .invokevirtual 287, 3, 194, 2, 2, 0, 0, []),
  (75, none, .ireturn, 1, 0, 0, 0, 0, 0, []),
  (76, none, .aload_n 0, 1, 0, 0, 0, 0, 0, []),
  (77, none, .aload_n 0, 1, 0, 0, 0, 0, 0, []),
  (78, none, .getfield 196, 3, 11, 21, 0, 0, 0, []),
  (81, none, .putfield 278, 3, 11, 23, 0, 0, 0, []),
  (84, none, .aload_n 0, 1, 0, 0, 0, 0, 0, []),
  (85, none, .aload_n 0, 1, 0, 0, 0, 0, 0, []),
  (86, none, .getfield 199, 3, 11, 22, 0, 0, 0, []),
  (89, none, .putfield 40, 3, 11, 25, 0, 0, 0, []),
  (92, none, .iconst (-1), 1, 0, 0, 0, 0, 0, []),
  (93, none, .ireturn, 1, 0, 0, 0, 0, 0, [])]
noncomputable def K_m_fault : List aE := [
  (0, none, .iload_n 1, 1, 1, 0, 0, 0, 0, []),
  (1, none, .ifCond .ne 10, 3, 11, 0, 0, 0, 0, []),
  (4, none, .aload_n 0, 1, 0, 0, 0, 0, 0, []),
  (5, none, .getfield 278, 3, 11, 23, 0, 0, 0, []),
  (8, none, .goto 16, 3, 24, 0, 0, 0, 0, []),
  (11, none, .iload_n 1, 1, 1, 0, 0, 0, 0, []),
  (12, none, .iconst 1, 1, 0, 0, 0, 0, 0, []),
  (13, none, .if_icmp .ne 10, 3, 23, 0, 0, 0, 0, []),
  (16, none, .aload_n 0, 1, 0, 0, 0, 0, 0, []),
  (17, none, .getfield 40, 3, 11, 25, 0, 0, 0, []),
  (20, none, .goto 4, 3, 24, 0, 0, 0, 0, []),
  (23, none, .iconst (-1), 1, 0, 0, 0, 0, 0, []),
  (24, none, .ireturn, 1, 0, 0, 0, 0, 0, [])]
noncomputable def K_m_both : List aE := [
  (0, none, .iload_n 0, 1, 0, 0, 0, 0, 0, []),
  (1, none, .tableswitch 100 23 31 #[51, 55, 59, 100, 63, 74, 85, 100, 96], 51, 101, 0, 0, 0, 0, [(23, 52), (24, 56), (25, 60), (26, 101), (27, 64), (28, 75), (29, 86), (30, 101), (31, 97)]),
  (52, none, .iload_n 1, 1, 1, 0, 0, 0, 0, []),
  (53, none, .iload_n 2, 1, 2, 0, 0, 0, 0, []),
  (54, none, .iadd, 1, 0, 0, 0, 0, 0, []),
  (55, none, .ireturn, 1, 0, 0, 0, 0, 0, []),
  (56, none, .iload_n 1, 1, 1, 0, 0, 0, 0, []),
  (57, none, .iload_n 2, 1, 2, 0, 0, 0, 0, []),
  (58, none, .isub, 1, 0, 0, 0, 0, 0, []),
  (59, none, .ireturn, 1, 0, 0, 0, 0, 0, []),
  (60, none, .iload_n 1, 1, 1, 0, 0, 0, 0, []),
  (61, none, .iload_n 2, 1, 2, 0, 0, 0, 0, []),
  (62, none, .imul, 1, 0, 0, 0, 0, 0, []),
  (63, none, .ireturn, 1, 0, 0, 0, 0, 0, []),
  (64, none, .iload_n 1, 1, 1, 0, 0, 0, 0, []),
  (65, none, .iload_n 2, 1, 2, 0, 0, 0, 0, []),
  (66, none, .if_icmp .ge 7, 3, 73, 0, 0, 0, 0, []),
  (69, none, .iconst 1, 1, 0, 0, 0, 0, 0, []),
  (70, none, .goto 4, 3, 74, 0, 0, 0, 0, []),
  (73, none, .iconst 0, 1, 0, 0, 0, 0, 0, []),
  (74, none, .ireturn, 1, 0, 0, 0, 0, 0, []),
  (75, none, .iload_n 1, 1, 1, 0, 0, 0, 0, []),
  (76, none, .iload_n 2, 1, 2, 0, 0, 0, 0, []),
  (77, none, .if_icmp .ne 7, 3, 84, 0, 0, 0, 0, []),
  (80, none, .iconst 1, 1, 0, 0, 0, 0, 0, []),
  (81, none, .goto 4, 3, 85, 0, 0, 0, 0, []),
  (84, none, .iconst 0, 1, 0, 0, 0, 0, 0, []),
  (85, none, .ireturn, 1, 0, 0, 0, 0, 0, []),
  (86, none, .iload_n 1, 1, 1, 0, 0, 0, 0, []),
  (87, none, .iload_n 2, 1, 2, 0, 0, 0, 0, []),
  (88, none, .if_icmp .le 7, 3, 95, 0, 0, 0, 0, []),
  (91, none, .iconst 1, 1, 0, 0, 0, 0, 0, []),
  (92, none, .goto 4, 3, 96, 0, 0, 0, 0, []),
  (95, none, .iconst 0, 1, 0, 0, 0, 0, 0, []),
  (96, none, .ireturn, 1, 0, 0, 0, 0, 0, []),
  (97, none, .iload_n 1, 1, 1, 0, 0, 0, 0, []),
  (98, none, .iload_n 2, 1, 2, 0, 0, 0, 0, []),
  (99, none, .iand, 1, 0, 0, 0, 0, 0, []),
  (100, none, .ireturn, 1, 0, 0, 0, 0, 0, []),
  (101, none, .iload_n 1, 1, 1, 0, 0, 0, 0, []),
  (102, none, .iload_n 2, 1, 2, 0, 0, 0, 0, []),
  (103, none, .ior, 1, 0, 0, 0, 0, 0, []),
  (104, none, .ireturn, 1, 0, 0, 0, 0, 0, [])]
noncomputable def K_m_comesTo : List aE := [
  (0, none, .iconst 0, 1, 0, 0, 0, 0, 0, []),
  (1, none, .istore 4, 2, 4, 0, 0, 0, 0, []),
  (3, none, .iload_n 2, 1, 2, 0, 0, 0, 0, []),
  (4, none, .istore 5, 2, 5, 0, 0, 0, 0, []),
  (6, some [true, true, false, true, true, true, false, false], .iload 5, 2, 5, 0, 0, 0, 0, []),
  (8, none, .iload_n 3, 1, 3, 0, 0, 0, 0, []),
  (9, none, .if_icmp .ge 177, 3, 186, 0, 0, 0, 0, []),
  (12, none, .aload_n 0, 1, 0, 0, 0, 0, 0, []),
  (13, none, .getfield 7, 3, 11, 0, 22, 1, 0, []),
  (16, none, .sipush 948, 3, 0, 0, 0, 0, 0, []),
  (19, none, .sipush 820, 3, 0, 0, 0, 0, 0, []),
  (22, none, .iload_n 1, 1, 1, 0, 0, 0, 0, []),
  (23, none, .imul, 1, 0, 0, 0, 0, 0, []),
  (24, none, .iadd, 1, 0, 0, 0, 0, 0, []),
  (25, none, .iconst 2, 1, 0, 0, 0, 0, 0, []),
  (26, none, .iload 5, 2, 5, 0, 0, 0, 0, []),
  (28, none, .imul, 1, 0, 0, 0, 0, 0, []),
  (29, none, .iadd, 1, 0, 0, 0, 0, 0, []),
  (30, none, .iaload, 1, 0, 0, 0, 0, 0, []),
  (31, none, .istore 6, 2, 6, 0, 0, 0, 0, []),
  (33, none, .aload_n 0, 1, 0, 0, 0, 0, 0, []),
  (34, none, .getfield 7, 3, 11, 0, 22, 1, 0, []),
  (37, none, .sipush 948, 3, 0, 0, 0, 0, 0, []),
  (40, none, .sipush 820, 3, 0, 0, 0, 0, 0, []),
  (43, none, .iload_n 1, 1, 1, 0, 0, 0, 0, []),
  (44, none, .imul, 1, 0, 0, 0, 0, 0, []),
  (45, none, .iadd, 1, 0, 0, 0, 0, 0, []),
  (46, none, .iconst 2, 1, 0, 0, 0, 0, 0, []),
  (47, none, .iload 5, 2, 5, 0, 0, 0, 0, []),
  (49, none, .imul, 1, 0, 0, 0, 0, 0, []),
  (50, none, .iadd, 1, 0, 0, 0, 0, 0, []),
  (51, none, .iconst 1, 1, 0, 0, 0, 0, 0, []),
  (52, none, .iadd, 1, 0, 0, 0, 0, 0, []),
  (53, none, .iaload, 1, 0, 0, 0, 0, 0, []),
  (54, none, .istore 7, 2, 7, 0, 0, 0, 0, []),
  (56, none, .iload 6, 2, 6, 0, 0, 0, 0, []),
  (58, none, .bipush 23, 2, 0, 0, 0, 0, 0, []),
  (60, none, .if_icmp .ge 33, 3, 93, 0, 0, 0, 0, []),
  (63, none, .aload_n 0, 1, 0, 0, 0, 0, 0, []),
  (64, none, .getfield 34, 3, 11, 10, 22, 9, 0, []),
  (67, none, .iload 4, 2, 4, 0, 0, 0, 0, []),
  (69, none, .iload 6, 2, 6, 0, 0, 0, 0, []),
  (71, none, .ifCond .ne 8, 3, 79, 0, 0, 0, 0, []),
  (74, none, .iload 7, 2, 7, 0, 0, 0, 0, []),
  (76, none, .goto 10, 3, 86, 0, 0, 0, 0, []),
  (79, none, .aload_n 0, 1, 0, 0, 0, 0, 0, []),
  (80, none, .getfield 37, 3, 11, 11, 22, 10, 0, []),
  (83, none, .iload 6, 2, 6, 0, 0, 0, 0, []),
  (85, none, .iaload, 1, 0, 0, 0, 0, 0, []),
  (86, none, .iastore, 1, 0, 0, 0, 0, 0, []),
  (87, none, .iinc 4 1, 3, 4, 0, 0, 0, 0, []),
  (90, none, .goto 90, 3, 180, 0, 0, 0, 0, []),
  (93, none, .iload 6, 2, 6, 0, 0, 0, 0, []),
  (95, none, .bipush 26, 2, 0, 0, 0, 0, 0, []),
  (97, none, .if_icmp .ne 20, 3, 117, 0, 0, 0, 0, []),
  (100, none, .aload_n 0, 1, 0, 0, 0, 0, 0, []),
  (101, none, .getfield 34, 3, 11, 10, 22, 9, 0, []),
  (104, none, .iload 4, 2, 4, 0, 0, 0, 0, []),
  (106, none, .iconst 1, 1, 0, 0, 0, 0, 0, []),
  (107, none, .isub, 1, 0, 0, 0, 0, 0, []),
  (108, none, .dup2, 1, 0, 0, 0, 0, 0, []),
  (109, none, .iaload, 1, 0, 0, 0, 0, 0, []),
  (110, none, .iload 7, 2, 7, 0, 0, 0, 0, []),
  (112, none, .idiv, 1, 0, 0, 0, 0, 0, []),
  (113, none, .iastore, 1, 0, 0, 0, 0, 0, []),
  (114, none, .goto 66, 3, 180, 0, 0, 0, 0, []),
  (117, none, .iload 6, 2, 6, 0, 0, 0, 0, []),
  (119, none, .bipush 30, 2, 0, 0, 0, 0, 0, []),
  (121, none, .if_icmp .ne 26, 3, 147, 0, 0, 0, 0, []),
  (124, none, .aload_n 0, 1, 0, 0, 0, 0, 0, []),
  (125, none, .getfield 34, 3, 11, 10, 22, 9, 0, []),
  (128, none, .iload 4, 2, 4, 0, 0, 0, 0, []),
  (130, none, .iconst 1, 1, 0, 0, 0, 0, 0, []),
  (131, none, .isub, 1, 0, 0, 0, 0, 0, []),
  (132, none, .iconst 1, 1, 0, 0, 0, 0, 0, []),
  (133, none, .aload_n 0, 1, 0, 0, 0, 0, 0, []),
  (134, none, .getfield 34, 3, 11, 10, 22, 9, 0, []),
  (137, none, .iload 4, 2, 4, 0, 0, 0, 0, []),
  (139, none, .iconst 1, 1, 0, 0, 0, 0, 0, []),
  (140, none, .isub, 1, 0, 0, 0, 0, 0, []),
  (141, none, .iaload, 1, 0, 0, 0, 0, 0, []),
  (142, none, .isub, 1, 0, 0, 0, 0, 0, []),
  (143, none, .iastore, 1, 0, 0, 0, 0, 0, []),
  (144, none, .goto 36, 3, 180, 0, 0, 0, 0, []),
  (147, none, .iinc 4 (-1), 3, 4, 0, 0, 0, 0, []),
  (150, none, .aload_n 0, 1, 0, 0, 0, 0, 0, []),
  (151, none, .getfield 34, 3, 11, 10, 22, 9, 0, []),
  (154, none, .iload 4, 2, 4, 0, 0, 0, 0, []),
  (156, none, .iconst 1, 1, 0, 0, 0, 0, 0, []),
  (157, none, .isub, 1, 0, 0, 0, 0, 0, []),
  (158, none, .iload 6, 2, 6, 0, 0, 0, 0, []),
  (160, none, .aload_n 0, 1, 0, 0, 0, 0, 0, []),
  (161, none, .getfield 34, 3, 11, 10, 22, 9, 0, []),
  (164, none, .iload 4, 2, 4, 0, 0, 0, 0, []),
  (166, none, .iconst 1, 1, 0, 0, 0, 0, 0, []),
  (167, none, .isub, 1, 0, 0, 0, 0, 0, []),
  (168, none, .iaload, 1, 0, 0, 0, 0, 0, []),
  (169, none, .aload_n 0, 1, 0, 0, 0, 0, 0, []),
  (170, none, .getfield 34, 3, 11, 10, 22, 9, 0, []),
  (173, none, .iload 4, 2, 4, 0, 0, 0, 0, []),
  (175, none, .iaload, 1, 0, 0, 0, 0, 0, []),
  (176, none, .invokestatic 290, 3, 197, 3, 2, 0, 0, []),
  (179, none, .iastore, 1, 0, 0, 0, 0, 0, []),
  (180, none, .iinc 5 1, 3, 5, 0, 0, 0, 0, []),
  (183, none, .goto (-177), 3, 6, 0, 0, 0, 0, []),
  (186, none, .aload_n 0, 1, 0, 0, 0, 0, 0, []),
  (187, none, .getfield 34, 3, 11, 10, 22, 9, 0, []),
  (190, none, .iconst 0, 1, 0, 0, 0, 0, 0, []),
  (191, none, .iaload, 1, 0, 0, 0, 0, 0, []),
  (192, none, .ireturn, 1, 0, 0, 0, 0, 0, [])]
noncomputable def K_m_isSo : List aE := [
  (0, none, .aload_n 0, 1, 0, 0, 0, 0, 0, []),
  (1, none, .getfield 7, 3, 11, 0, 22, 1, 0, []),
  (4, none, .sipush 916, 3, 0, 0, 0, 0, 0, []),
  (7, none, .iload_n 1, 1, 1, 0, 0, 0, 0, []),
  (8, none, .iadd, 1, 0, 0, 0, 0, 0, []),
  (9, none, .iaload, 1, 0, 0, 0, 0, 0, []),
  (10, none, .aload_n 0, 1, 0, 0, 0, 0, 0, []),
  (11, none, .getfield 7, 3, 11, 0, 22, 1, 0, []),
  (14, none, .sipush 900, 3, 0, 0, 0, 0, 0, []),
  (17, none, .iload_n 1, 1, 1, 0, 0, 0, 0, []),
  (18, none, .iadd, 1, 0, 0, 0, 0, 0, []),
  (19, none, .iaload, 1, 0, 0, 0, 0, 0, []),
  (20, none, .if_icmp .eq 32, 3, 52, 0, 0, 0, 0, []),
  (23, none, .aload_n 0, 1, 0, 0, 0, 0, 0, []),
  (24, none, .iconst 0, 1, 0, 0, 0, 0, 0, []),
  (25, none, .aload_n 0, 1, 0, 0, 0, 0, 0, []),
  (26, none, .getfield 7, 3, 11, 0, 22, 1, 0, []),
  (29, none, .sipush 900, 3, 0, 0, 0, 0, 0, []),
  (32, none, .iload_n 1, 1, 1, 0, 0, 0, 0, []),
  (33, none, .iadd, 1, 0, 0, 0, 0, 0, []),
  (34, none, .iaload, 1, 0, 0, 0, 0, 0, []),
  (35, none, .aload_n 0, 1, 0, 0, 0, 0, 0, []),
  (36, none, .getfield 7, 3, 11, 0, 22, 1, 0, []),
  (39, none, .sipush 916, 3, 0, 0, 0, 0, 0, []),
  (42, none, .iload_n 1, 1, 1, 0, 0, 0, 0, []),
  (43, none, .iadd, 1, 0, 0, 0, 0, 0, []),
  (44, none, .iaload, 1, 0, 0, 0, 0, 0, []),
  (45, none, .invokevirtual 293, 3, 198, 4, 2, 0, 0, []),
  (48, none, .iconst 1, 1, 0, 0, 0, 0, 0, []),
  (49, none, .if_icmp .ne 7, 3, 56, 0, 0, 0, 0, []),
  (52, none, .iconst 1, 1, 0, 0, 0, 0, 0, []),
  (53, none, .goto 4, 3, 57, 0, 0, 0, 0, []),
  (56, none, .iconst 0, 1, 0, 0, 0, 0, 0, []),
  (57, none, .ireturn, 1, 1, 0, 0, 0, 0, [])]
noncomputable def K_m_says : List aE := [
  (0, none, .aload_n 0, 1, 0, 0, 0, 0, 0, []),
  (1, none, .getfield 37, 3, 11, 11, 22, 10, 0, []),
  (4, none, .iconst 1, 1, 0, 0, 0, 0, 0, []),
  (5, none, .iload_n 2, 1, 2, 0, 0, 0, 0, []),
  (6, none, .iastore, 1, 0, 0, 0, 0, 0, []),
  (7, none, .aload_n 0, 1, 0, 0, 0, 0, 0, []),
  (8, none, .getfield 37, 3, 11, 11, 22, 10, 0, []),
  (11, none, .iconst 2, 1, 0, 0, 0, 0, 0, []),
  (12, none, .aload_n 0, 1, 0, 0, 0, 0, 0, []),
  (13, none, .getfield 7, 3, 11, 0, 22, 1, 0, []),
  (16, none, .bipush 53, 2, 0, 0, 0, 0, 0, []),
  (18, none, .iload_n 2, 1, 2, 0, 0, 0, 0, []),
  (19, none, .iadd, 1, 0, 0, 0, 0, 0, []),
  (20, none, .iaload, 1, 0, 0, 0, 0, 0, []),
  (21, none, .iastore, 1, 0, 0, 0, 0, 0, []),
  (22, none, .aload_n 0, 1, 0, 0, 0, 0, 0, []),
  (23, none, .getfield 37, 3, 11, 11, 22, 10, 0, []),
  (26, none, .iconst 3, 1, 0, 0, 0, 0, 0, []),
  (27, none, .aload_n 0, 1, 0, 0, 0, 0, 0, []),
  (28, none, .getfield 7, 3, 11, 0, 22, 1, 0, []),
  (31, none, .bipush 11, 2, 0, 0, 0, 0, 0, []),
  (33, none, .iload_n 2, 1, 2, 0, 0, 0, 0, []),
  (34, none, .iadd, 1, 0, 0, 0, 0, 0, []),
  (35, none, .iaload, 1, 0, 0, 0, 0, 0, []),
  (36, none, .iastore, 1, 0, 0, 0, 0, 0, []),
  (37, none, .aload_n 0, 1, 0, 0, 0, 0, 0, []),
  (38, none, .getfield 37, 3, 11, 11, 22, 10, 0, []),
  (41, none, .iconst 4, 1, 0, 0, 0, 0, 0, []),
  (42, none, .aload_n 0, 1, 0, 0, 0, 0, 0, []),
  (43, none, .getfield 7, 3, 11, 0, 22, 1, 0, []),
  (46, none, .bipush 21, 2, 0, 0, 0, 0, 0, []),
  (48, none, .iload_n 2, 1, 2, 0, 0, 0, 0, []),
  (49, none, .iadd, 1, 0, 0, 0, 0, 0, []),
  (50, none, .iaload, 1, 0, 0, 0, 0, 0, []),
  (51, none, .iastore, 1, 0, 0, 0, 0, 0, []),
  (52, none, .aload_n 0, 1, 0, 0, 0, 0, 0, []),
  (53, none, .getfield 37, 3, 11, 11, 22, 10, 0, []),
  (56, none, .iconst 5, 1, 0, 0, 0, 0, 0, []),
  (57, none, .aload_n 0, 1, 0, 0, 0, 0, 0, []),
  (58, none, .getfield 7, 3, 11, 0, 22, 1, 0, []),
  (61, none, .bipush 31, 2, 0, 0, 0, 0, 0, []),
  (63, none, .iload_n 2, 1, 2, 0, 0, 0, 0, []),
  (64, none, .iadd, 1, 0, 0, 0, 0, 0, []),
  (65, none, .iaload, 1, 0, 0, 0, 0, 0, []),
  (66, none, .iastore, 1, 0, 0, 0, 0, 0, []),
  (67, none, .aload_n 0, 1, 0, 0, 0, 0, 0, []),
  (68, none, .getfield 37, 3, 11, 11, 22, 10, 0, []),
  (71, none, .bipush 6, 2, 0, 0, 0, 0, 0, []),
  (73, none, .aload_n 0, 1, 0, 0, 0, 0, 0, []),
  (74, none, .getfield 7, 3, 11, 0, 22, 1, 0, []),
  (77, none, .iconst 4, 1, 0, 0, 0, 0, 0, []),
  (78, none, .iaload, 1, 0, 0, 0, 0, 0, []),
  (79, none, .iastore, 1, 0, 0, 0, 0, 0, []),
  (80, none, .aload_n 0, 1, 0, 0, 0, 0, 0, []),
  (81, none, .getfield 37, 3, 11, 11, 22, 10, 0, []),
  (84, none, .bipush 7, 2, 0, 0, 0, 0, 0, []),
  (86, none, .aload_n 0, 1, 0, 0, 0, 0, 0, []),
  (87, none, .getfield 7, 3, 11, 0, 22, 1, 0, []),
  (90, none, .iconst 5, 1, 0, 0, 0, 0, 0, []),
  (91, none, .iaload, 1, 0, 0, 0, 0, 0, []),
  (92, none, .iastore, 1, 0, 0, 0, 0, 0, []),
  (93, none, .aload_n 0, 1, 0, 0, 0, 0, 0, []),
  (94, none, .getfield 37, 3, 11, 11, 22, 10, 0, []),
  (97, none, .bipush 8, 2, 0, 0, 0, 0, 0, []),
  (99, none, .aload_n 0, 1, 0, 0, 0, 0, 0, []),
  (100, none, .getfield 7, 3, 11, 0, 22, 1, 0, []),
  (103, none, .bipush 6, 2, 0, 0, 0, 0, 0, []),
  (105, none, .iaload, 1, 0, 0, 0, 0, 0, []),
  (106, none, .iastore, 1, 0, 0, 0, 0, 0, []),
  (107, none, .aload_n 0, 1, 0, 0, 0, 0, 0, []),
  (108, none, .getfield 37, 3, 11, 11, 22, 10, 0, []),
  (111, none, .bipush 9, 2, 0, 0, 0, 0, 0, []),
  (113, none, .aload_n 0, 1, 0, 0, 0, 0, 0, []),
  (114, none, .getfield 7, 3, 11, 0, 22, 1, 0, []),
  (117, none, .iconst 0, 1, 0, 0, 0, 0, 0, []),
  (118, none, .iaload, 1, 0, 0, 0, 0, 0, []),
  (119, none, .bipush 30, 2, 0, 0, 0, 0, 0, []),
  (121, none, .idiv, 1, 0, 0, 0, 0, 0, []),
  (122, none, .bipush 12, 2, 0, 0, 0, 0, 0, []),
  (124, none, .irem, 1, 0, 0, 0, 0, 0, []),
  (125, none, .iastore, 1, 0, 0, 0, 0, 0, []),
  (126, none, .aload_n 0, 1, 0, 0, 0, 0, 0, []),
  (127, none, .getfield 37, 3, 11, 11, 22, 10, 0, []),
  (130, none, .bipush 10, 2, 0, 0, 0, 0, 0, []),
  (132, none, .aload_n 0, 1, 0, 0, 0, 0, 0, []),
  (133, none, .getfield 7, 3, 11, 0, 22, 1, 0, []),
  (136, none, .iconst 1, 1, 0, 0, 0, 0, 0, []),
  (137, none, .iaload, 1, 0, 0, 0, 0, 0, []),
  (138, none, .iload_n 2, 1, 2, 0, 0, 0, 0, []),
  (139, none, .if_icmp .ne 7, 3, 146, 0, 0, 0, 0, []),
  (142, none, .iconst 1, 1, 0, 0, 0, 0, 0, []),
  (143, none, .goto 4, 3, 147, 0, 0, 0, 0, []),
  (146, none, .iconst 0, 1, 0, 0, 0, 0, 0, []),
  (147, none, .iastore, 1, 0, 0, 0, 0, 0, []),
  (148, none, .iconst 0, 1, 0, 0, 0, 0, 0, []),
  (149, none, .istore 5, 2, 5, 0, 0, 0, 0, []),
  (151, some [true, true, false, true, true, true], .iload 5, 2, 5, 0, 0, 0, 0, []),
  (153, none, .aload_n 0, 1, 0, 0, 0, 0, 0, []),
  (154, none, .getfield 7, 3, 11, 0, 22, 1, 0, []),
  (157, none, .bipush 44, 2, 0, 0, 0, 0, 0, []),
  (159, none, .iaload, 1, 0, 0, 0, 0, 0, []),
  (160, none, .if_icmp .ge 70, 3, 230, 0, 0, 0, 0, []),
  (163, none, .aload_n 0, 1, 0, 0, 0, 0, 0, []),
  (164, none, .getfield 7, 3, 11, 0, 22, 1, 0, []),
  (167, none, .sipush 932, 3, 0, 0, 0, 0, 0, []),
  (170, none, .iload 5, 2, 5, 0, 0, 0, 0, []),
  (172, none, .iadd, 1, 0, 0, 0, 0, 0, []),
  (173, none, .iaload, 1, 0, 0, 0, 0, 0, []),
  (174, none, .iload_n 1, 1, 1, 0, 0, 0, 0, []),
  (175, none, .if_icmp .ne 49, 3, 224, 0, 0, 0, 0, []),
  (178, none, .aload_n 0, 1, 0, 0, 0, 0, 0, []),
  (179, none, .iload 5, 2, 5, 0, 0, 0, 0, []),
  (181, none, .invokevirtual 296, 3, 199, 2, 2, 0, 0, []),
  (184, none, .ifCond .eq 40, 3, 224, 0, 0, 0, 0, []),
  (187, none, .iconst 0, 1, 0, 0, 0, 0, 0, []),
  (188, none, .iload 4, 2, 4, 0, 0, 0, 0, []),
  (190, none, .aload_n 0, 1, 0, 0, 0, 0, 0, []),
  (191, none, .iconst 0, 1, 0, 0, 0, 0, 0, []),
  (192, none, .aload_n 0, 1, 0, 0, 0, 0, 0, []),
  (193, none, .getfield 7, 3, 11, 0, 22, 1, 0, []),
  (196, none, .sipush 884, 3, 0, 0, 0, 0, 0, []),
  (199, none, .iload 5, 2, 5, 0, 0, 0, 0, []),
  (201, none, .iadd, 1, 0, 0, 0, 0, 0, []),
  (202, none, .iaload, 1, 0, 0, 0, 0, 0, []),
  (203, none, .aload_n 0, 1, 0, 0, 0, 0, 0, []),
  (204, none, .getfield 7, 3, 11, 0, 22, 1, 0, []),
  (207, none, .sipush 900, 3, 0, 0, 0, 0, 0, []),
  (210, none, .iload 5, 2, 5, 0, 0, 0, 0, []),
  (212, none, .iadd, 1, 0, 0, 0, 0, 0, []),
  (213, none, .iaload, 1, 0, 0, 0, 0, 0, []),
  (214, none, .invokevirtual 293, 3, 198, 4, 2, 0, 0, []),
  (217, none, .invokestatic 299, 3, 149, 2, 2, 0, 0, []),
  (220, none, .invokestatic 302, 3, 150, 2, 2, 0, 0, []),
  (223, none, .ireturn, 1, 0, 0, 0, 0, 0, []),
  (224, none, .iinc 5 1, 3, 5, 0, 0, 0, 0, []),
  (227, none, .goto (-76), 3, 151, 0, 0, 0, 0, []),
  (230, none, .iconst 0, 1, 0, 0, 0, 0, 0, []),
  (231, none, .iload 4, 2, 4, 0, 0, 0, 0, []),
  (233, none, .iload_n 3, 1, 3, 0, 0, 0, 0, []),
  (234, none, .invokestatic 299, 3, 149, 2, 2, 0, 0, []),
  (237, none, .invokestatic 302, 3, 150, 2, 2, 0, 0, []),
  (240, none, .ireturn, 1, 0, 0, 0, 0, 0, [])]
noncomputable def K_m_comeOf : List aE := [
  (0, none, .aload_n 0, 1, 0, 0, 0, 0, 0, []),
  (1, none, .bipush 20, 2, 0, 0, 0, 0, 0, []),
  (3, none, .iload_n 1, 1, 1, 0, 0, 0, 0, []),
  (4, none, .aload_n 0, 1, 0, 0, 0, 0, 0, []),
  (5, none, .getfield 7, 3, 11, 0, 22, 1, 0, []),
  (8, none, .bipush 21, 2, 0, 0, 0, 0, 0, []),
  (10, none, .iload_n 1, 1, 1, 0, 0, 0, 0, []),
  (11, none, .iadd, 1, 0, 0, 0, 0, 0, []),
  (12, none, .iaload, 1, 0, 0, 0, 0, 0, []),
  (13, none, .iconst 1, 1, 0, 0, 0, 0, 0, []),
  (14, none, .iadd, 1, 0, 0, 0, 0, 0, []),
  (15, none, .sipush 999, 3, 0, 0, 0, 0, 0, []),
  (18, none, .invokevirtual 305, 3, 200, 5, 2, 0, 0, []),
  (21, none, .ireturn, 1, 0, 0, 0, 0, 0, [])]
noncomputable def K_m_longOf : List aE := [
  (0, none, .aload_n 0, 1, 0, 0, 0, 0, 0, []),
  (1, none, .bipush 21, 2, 0, 0, 0, 0, 0, []),
  (3, none, .iload_n 1, 1, 1, 0, 0, 0, 0, []),
  (4, none, .bipush 6, 2, 0, 0, 0, 0, 0, []),
  (6, none, .aload_n 0, 1, 0, 0, 0, 0, 0, []),
  (7, none, .getfield 7, 3, 11, 0, 22, 1, 0, []),
  (10, none, .bipush 11, 2, 0, 0, 0, 0, 0, []),
  (12, none, .iload_n 1, 1, 1, 0, 0, 0, 0, []),
  (13, none, .iadd, 1, 0, 0, 0, 0, 0, []),
  (14, none, .iaload, 1, 0, 0, 0, 0, 0, []),
  (15, none, .iadd, 1, 0, 0, 0, 0, 0, []),
  (16, none, .bipush 24, 2, 0, 0, 0, 0, 0, []),
  (18, none, .invokevirtual 305, 3, 200, 5, 2, 0, 0, []),
  (21, none, .ireturn, 1, 0, 0, 0, 0, 0, [])]
noncomputable def K_m_shyOf : List aE := [
  (0, none, .aload_n 0, 1, 0, 0, 0, 0, 0, []),
  (1, none, .bipush 22, 2, 0, 0, 0, 0, 0, []),
  (3, none, .iload_n 1, 1, 1, 0, 0, 0, 0, []),
  (4, none, .aload_n 0, 1, 0, 0, 0, 0, 0, []),
  (5, none, .getfield 7, 3, 11, 0, 22, 1, 0, []),
  (8, none, .iconst 5, 1, 0, 0, 0, 0, 0, []),
  (9, none, .iaload, 1, 0, 0, 0, 0, 0, []),
  (10, none, .bipush 9, 2, 0, 0, 0, 0, 0, []),
  (12, none, .idiv, 1, 0, 0, 0, 0, 0, []),
  (13, none, .bipush 9, 2, 0, 0, 0, 0, 0, []),
  (15, none, .invokevirtual 305, 3, 200, 5, 2, 0, 0, []),
  (18, none, .ireturn, 1, 0, 0, 0, 0, 0, [])]
noncomputable def K_m_sumOfCome : List aE := [
  (0, none, .iconst 0, 1, 0, 0, 0, 0, 0, []),
  (1, none, .istore_n 1, 1, 1, 0, 0, 0, 0, []),
  (2, none, .iconst 0, 1, 0, 0, 0, 0, 0, []),
  (3, none, .istore_n 2, 1, 2, 0, 0, 0, 0, []),
  (4, some [true, true, true], .iload_n 2, 1, 2, 0, 0, 0, 0, []),
  (5, none, .aload_n 0, 1, 0, 0, 0, 0, 0, []),
  (6, none, .getfield 7, 3, 11, 0, 22, 1, 0, []),
  (9, none, .bipush 41, 2, 0, 0, 0, 0, 0, []),
  (11, none, .iaload, 1, 0, 0, 0, 0, 0, []),
  (12, none, .if_icmp .ge 29, 3, 41, 0, 0, 0, 0, []),
  (15, none, .iload_n 1, 1, 1, 0, 0, 0, 0, []),
  (16, none, .aload_n 0, 1, 0, 0, 0, 0, 0, []),
  (17, none, .iload_n 2, 1, 2, 0, 0, 0, 0, []),
  (18, none, .invokevirtual 309, 3, 153, 2, 2, 0, 0, []),
  (21, none, .ifCond .eq 11, 3, 32, 0, 0, 0, 0, []),
  (24, none, .aload_n 0, 1, 0, 0, 0, 0, 0, []),
  (25, none, .iload_n 2, 1, 2, 0, 0, 0, 0, []),
  (26, none, .invokevirtual 312, 3, 201, 2, 2, 0, 0, []),
  (29, none, .goto 4, 3, 33, 0, 0, 0, 0, []),
  (32, none, .iconst 0, 1, 0, 0, 0, 0, 0, []),
  (33, none, .iadd, 1, 0, 0, 0, 0, 0, []),
  (34, none, .istore_n 1, 1, 1, 0, 0, 0, 0, []),
  (35, none, .iinc 2 1, 3, 2, 0, 0, 0, 0, []),
  (38, none, .goto (-34), 3, 4, 0, 0, 0, 0, []),
  (41, none, .iload_n 1, 1, 1, 0, 0, 0, 0, []),
  (42, none, .ireturn, 1, 0, 0, 0, 0, 0, [])]
noncomputable def K_m_likeliestOne : List aE := [
  (0, none, .iconst (-1), 1, 0, 0, 0, 0, 0, []),
  (1, none, .istore_n 1, 1, 1, 0, 0, 0, 0, []),
  (2, none, .iconst 0, 1, 0, 0, 0, 0, 0, []),
  (3, none, .istore_n 2, 1, 2, 0, 0, 0, 0, []),
  (4, some [true, true, true], .iload_n 2, 1, 2, 0, 0, 0, 0, []),
  (5, none, .aload_n 0, 1, 0, 0, 0, 0, 0, []),
  (6, none, .getfield 7, 3, 11, 0, 22, 1, 0, []),
  (9, none, .bipush 41, 2, 0, 0, 0, 0, 0, []),
  (11, none, .iaload, 1, 0, 0, 0, 0, 0, []),
  (12, none, .if_icmp .ge 37, 3, 49, 0, 0, 0, 0, []),
  (15, none, .aload_n 0, 1, 0, 0, 0, 0, 0, []),
  (16, none, .iload_n 2, 1, 2, 0, 0, 0, 0, []),
  (17, none, .invokevirtual 309, 3, 153, 2, 2, 0, 0, []),
  (20, none, .ifCond .eq 23, 3, 43, 0, 0, 0, 0, []),
  (23, none, .iload_n 1, 1, 1, 0, 0, 0, 0, []),
  (24, none, .iconst (-1), 1, 0, 0, 0, 0, 0, []),
  (25, none, .if_icmp .eq 16, 3, 41, 0, 0, 0, 0, []),
  (28, none, .aload_n 0, 1, 0, 0, 0, 0, 0, []),
  (29, none, .iload_n 2, 1, 2, 0, 0, 0, 0, []),
  (30, none, .invokevirtual 312, 3, 201, 2, 2, 0, 0, []),
  (33, none, .aload_n 0, 1, 0, 0, 0, 0, 0, []),
  (34, none, .iload_n 1, 1, 1, 0, 0, 0, 0, []),
  (35, none, .invokevirtual 312, 3, 201, 2, 2, 0, 0, []),
  (38, none, .if_icmp .le 5, 3, 43, 0, 0, 0, 0, []),
  (41, none, .iload_n 2, 1, 2, 0, 0, 0, 0, []),
  (42, none, .istore_n 1, 1, 1, 0, 0, 0, 0, []),
  (43, none, .iinc 2 1, 3, 2, 0, 0, 0, 0, []),
  (46, none, .goto (-42), 3, 4, 0, 0, 0, 0, []),
  (49, none, .iload_n 1, 1, 1, 0, 0, 0, 0, []),
  (50, none, .ireturn, 1, 0, 0, 0, 0, 0, [])]
noncomputable def K_m_keeps : List aE := [
  (0, none, .aload_n 0, 1, 0, 0, 0, 0, 0, []),
  (1, none, .getfield 79, 3, 11, 4, 0, 0, 0, []),
  (4, none, .bipush 6, 2, 0, 0, 0, 0, 0, []),
  (6, none, .if_icmp .ne 43, 3, 49, 0, 0, 0, 0, []),
  (9, none, .iconst 0, 1, 0, 0, 0, 0, 0, []),
  (10, none, .istore_n 1, 1, 1, 0, 0, 0, 0, []),
  (11, some [true, true], .iload_n 1, 1, 1, 0, 0, 0, 0, []),
  (12, none, .sipush 205, 3, 0, 0, 0, 0, 0, []),
  (15, none, .if_icmp .ge 24, 3, 39, 0, 0, 0, 0, []),
  (18, none, .aload_n 0, 1, 0, 0, 0, 0, 0, []),
  (19, none, .getfield 16, 3, 11, 2, 22, 3, 0, []),
  (22, none, .iload_n 1, 1, 1, 0, 0, 0, 0, []),
  (23, none, .aload_n 0, 1, 0, 0, 0, 0, 0, []),
  (24, none, .getfield 16, 3, 11, 2, 22, 3, 0, []),
  (27, none, .iload_n 1, 1, 1, 0, 0, 0, 0, []),
  (28, none, .bipush 41, 2, 0, 0, 0, 0, 0, []),
  (30, none, .iadd, 1, 0, 0, 0, 0, 0, []),
  (31, none, .iaload, 1, 0, 0, 0, 0, 0, []),
  (32, none, .iastore, 1, 0, 0, 0, 0, 0, []),
  (33, none, .iinc 1 1, 3, 1, 0, 0, 0, 0, []),
  (36, none, .goto (-25), 3, 11, 0, 0, 0, 0, []),
  (39, none, .aload_n 0, 1, 0, 0, 0, 0, 0, []),
  (40, none, .dup, 1, 0, 0, 0, 0, 0, []),
  (41, none, .getfield 79, 3, 11, 4, 0, 0, 0, []),
  (44, none, .iconst 1, 1, 0, 0, 0, 0, 0, []),
  (45, none, .isub, 1, 0, 0, 0, 0, 0, []),
  (46, none, .putfield 79, 3, 11, 4, 0, 0, 0, []),
  (49, none, .iconst 0, 1, 0, 0, 0, 0, 0, []),
  (50, none, .istore_n 1, 1, 1, 0, 0, 0, 0, []),
  (51, some [true, true], .iload_n 1, 1, 1, 0, 0, 0, 0, []),
  (52, none, .bipush 41, 2, 0, 0, 0, 0, 0, []),
  (54, none, .if_icmp .ge 29, 3, 83, 0, 0, 0, 0, []),
  (57, none, .aload_n 0, 1, 0, 0, 0, 0, 0, []),
  (58, none, .getfield 16, 3, 11, 2, 22, 3, 0, []),
  (61, none, .bipush 41, 2, 0, 0, 0, 0, 0, []),
  (63, none, .aload_n 0, 1, 0, 0, 0, 0, 0, []),
  (64, none, .getfield 79, 3, 11, 4, 0, 0, 0, []),
  (67, none, .imul, 1, 0, 0, 0, 0, 0, []),
  (68, none, .iload_n 1, 1, 1, 0, 0, 0, 0, []),
  (69, none, .iadd, 1, 0, 0, 0, 0, 0, []),
  (70, none, .aload_n 0, 1, 0, 0, 0, 0, 0, []),
  (71, none, .getfield 7, 3, 11, 0, 22, 1, 0, []),
  (74, none, .iload_n 1, 1, 1, 0, 0, 0, 0, []),
  (75, none, .iaload, 1, 0, 0, 0, 0, 0, []),
  (76, none, .iastore, 1, 0, 0, 0, 0, 0, []),
  (77, none, .iinc 1 1, 3, 1, 0, 0, 0, 0, []),
  (80, none, .goto (-29), 3, 51, 0, 0, 0, 0, []),
  (83, none, .aload_n 0, 1, 0, 0, 0, 0, 0, []),
  (84, none, .dup, 1, 0, 0, 0, 0, 0, []),
  (85, none, .getfield 79, 3, 11, 4, 0, 0, 0, []),
  (88, none, .iconst 1, 1, 0, 0, 0, 0, 0, []),
  (89, none, .iadd, 1, 0, 0, 0, 0, 0, []),
  (90, none, .putfield 79, 3, 11, 4, 0, 0, 0, []),
  (93, none, .aload_n 0, 1, 0, 0, 0, 0, 0, []),
  (94, none, .iconst 1, 1, 0, 0, 0, 0, 0, []),
  (95, none, .putfield 315, 3, 11, 26, 1, 0, 0, []),
  (98, none, .return_, 1, 0, 0, 0, 0, 0, [])]
noncomputable def K_m_undo : List aE := [
  (0, none, .aload_n 0, 1, 0, 0, 0, 0, 0, []),
  (1, none, .getfield 79, 3, 11, 4, 0, 0, 0, []),
  (4, none, .ifCond .ne 5, 3, 9, 0, 0, 0, 0, []),
  (7, none, .iconst 0, 1, 0, 0, 0, 0, 0, []),
  (8, none, .ireturn, 1, 1, 0, 0, 0, 0, []),
  (9, none, .aload_n 0, 1, 0, 0, 0, 0, 0, []),
  (10, none, .dup, 1, 0, 0, 0, 0, 0, []),
  (11, none, .getfield 79, 3, 11, 4, 0, 0, 0, []),
  (14, none, .iconst 1, 1, 0, 0, 0, 0, 0, []),
  (15, none, .isub, 1, 0, 0, 0, 0, 0, []),
  (16, none, .putfield 79, 3, 11, 4, 0, 0, 0, []),
  (19, none, .iconst 0, 1, 0, 0, 0, 0, 0, []),
  (20, none, .istore_n 1, 1, 1, 0, 0, 0, 0, []),
  (21, some [true, true], .iload_n 1, 1, 1, 0, 0, 0, 0, []),
  (22, none, .bipush 41, 2, 0, 0, 0, 0, 0, []),
  (24, none, .if_icmp .ge 29, 3, 53, 0, 0, 0, 0, []),
  (27, none, .aload_n 0, 1, 0, 0, 0, 0, 0, []),
  (28, none, .getfield 7, 3, 11, 0, 22, 1, 0, []),
  (31, none, .iload_n 1, 1, 1, 0, 0, 0, 0, []),
  (32, none, .aload_n 0, 1, 0, 0, 0, 0, 0, []),
  (33, none, .getfield 16, 3, 11, 2, 22, 3, 0, []),
  (36, none, .bipush 41, 2, 0, 0, 0, 0, 0, []),
  (38, none, .aload_n 0, 1, 0, 0, 0, 0, 0, []),
  (39, none, .getfield 79, 3, 11, 4, 0, 0, 0, []),
  (42, none, .imul, 1, 0, 0, 0, 0, 0, []),
  (43, none, .iload_n 1, 1, 1, 0, 0, 0, 0, []),
  (44, none, .iadd, 1, 0, 0, 0, 0, 0, []),
  (45, none, .iaload, 1, 0, 0, 0, 0, 0, []),
  (46, none, .iastore, 1, 0, 0, 0, 0, 0, []),
  (47, none, .iinc 1 1, 3, 1, 0, 0, 0, 0, []),
  (50, none, .goto (-29), 3, 21, 0, 0, 0, 0, []),
  (53, none, .iconst 1, 1, 0, 0, 0, 0, 0, []),
  (54, none, .ireturn, 1, 1, 0, 0, 0, 0, [])]
noncomputable def K_m_notes : List aE := [
  (0, none, .aload_n 0, 1, 0, 0, 0, 0, 0, []),
  (1, none, .getfield 315, 3, 11, 26, 0, 0, 0, []),
  (4, none, .ifCond .eq 16, 3, 20, 0, 0, 0, 0, []),
  (7, none, .aload_n 0, 1, 0, 0, 0, 0, 0, []),
  (8, none, .getfield 7, 3, 11, 0, 22, 1, 0, []),
  (11, none, .bipush 8, 2, 0, 0, 0, 0, 0, []),
  (13, none, .iaload, 1, 0, 0, 0, 0, 0, []),
  (14, none, .sipush 150, 3, 0, 0, 0, 0, 0, []),
  (17, none, .if_icmp .ne 4, 3, 21, 0, 0, 0, 0, []),
  (20, none, .return_, 1, 0, 0, 0, 0, 0, []),
  (21, none, .sipush 284, 3, 0, 0, 0, 0, 0, []),
  (24, none, .iconst 4, 1, 0, 0, 0, 0, 0, []),
  (25, none, .aload_n 0, 1, 0, 0, 0, 0, 0, []),
  (26, none, .getfield 7, 3, 11, 0, 22, 1, 0, []),
  (29, none, .bipush 8, 2, 0, 0, 0, 0, 0, []),
  (31, none, .iaload, 1, 0, 0, 0, 0, 0, []),
  (32, none, .imul, 1, 0, 0, 0, 0, 0, []),
  (33, none, .iadd, 1, 0, 0, 0, 0, 0, []),
  (34, none, .istore 4, 2, 4, 0, 0, 0, 0, []),
  (36, none, .aload_n 0, 1, 0, 0, 0, 0, 0, []),
  (37, none, .getfield 7, 3, 11, 0, 22, 1, 0, []),
  (40, none, .iload 4, 2, 4, 0, 0, 0, 0, []),
  (42, none, .aload_n 0, 1, 0, 0, 0, 0, 0, []),
  (43, none, .getfield 7, 3, 11, 0, 22, 1, 0, []),
  (46, none, .iconst 0, 1, 0, 0, 0, 0, 0, []),
  (47, none, .iaload, 1, 0, 0, 0, 0, 0, []),
  (48, none, .iastore, 1, 0, 0, 0, 0, 0, []),
  (49, none, .aload_n 0, 1, 0, 0, 0, 0, 0, []),
  (50, none, .getfield 7, 3, 11, 0, 22, 1, 0, []),
  (53, none, .iload 4, 2, 4, 0, 0, 0, 0, []),
  (55, none, .iconst 1, 1, 0, 0, 0, 0, 0, []),
  (56, none, .iadd, 1, 0, 0, 0, 0, 0, []),
  (57, none, .iload_n 1, 1, 1, 0, 0, 0, 0, []),
  (58, none, .iastore, 1, 0, 0, 0, 0, 0, []),
  (59, none, .aload_n 0, 1, 0, 0, 0, 0, 0, []),
  (60, none, .getfield 7, 3, 11, 0, 22, 1, 0, []),
  (63, none, .iload 4, 2, 4, 0, 0, 0, 0, []),
  (65, none, .iconst 2, 1, 0, 0, 0, 0, 0, []),
  (66, none, .iadd, 1, 0, 0, 0, 0, 0, []),
  (67, none, .iload_n 2, 1, 2, 0, 0, 0, 0, []),
  (68, none, .iastore, 1, 0, 0, 0, 0, 0, []),
  (69, none, .aload_n 0, 1, 0, 0, 0, 0, 0, []),
  (70, none, .getfield 7, 3, 11, 0, 22, 1, 0, []),
  (73, none, .iload 4, 2, 4, 0, 0, 0, 0, []),
  (75, none, .iconst 3, 1, 0, 0, 0, 0, 0, []),
  (76, none, .iadd, 1, 0, 0, 0, 0, 0, []),
  (77, none, .iload_n 3, 1, 3, 0, 0, 0, 0, []),
  (78, none, .iastore, 1, 0, 0, 0, 0, 0, []),
  (79, none, .aload_n 0, 1, 0, 0, 0, 0, 0, []),
  (80, none, .getfield 7, 3, 11, 0, 22, 1, 0, []),
  (83, none, .bipush 8, 2, 0, 0, 0, 0, 0, []),
  (85, none, .dup2, 1, 0, 0, 0, 0, 0, []),
  (86, none, .iaload, 1, 0, 0, 0, 0, 0, []),
  (87, none, .iconst 1, 1, 0, 0, 0, 0, 0, []),
  (88, none, .iadd, 1, 0, 0, 0, 0, 0, []),
  (89, none, .iastore, 1, 0, 0, 0, 0, 0, []),
  (90, none, .return_, 1, 0, 0, 0, 0, 0, [])]
noncomputable def K_m_eats : List aE := [
  (0, none, .aload_n 0, 1, 0, 0, 0, 0, 0, []),
  (1, none, .getfield 7, 3, 11, 0, 22, 1, 0, []),
  (4, none, .bipush 10, 2, 0, 0, 0, 0, 0, []),
  (6, none, .iload_n 2, 1, 2, 0, 0, 0, 0, []),
  (7, none, .ifCond .eq 19, 3, 26, 0, 0, 0, 0, []),
  (10, none, .aload_n 0, 1, 0, 0, 0, 0, 0, []),
  (11, none, .getfield 7, 3, 11, 0, 22, 1, 0, []),
  (14, none, .bipush 10, 2, 0, 0, 0, 0, 0, []),
  (16, none, .iaload, 1, 0, 0, 0, 0, 0, []),
  (17, none, .iconst 1, 1, 0, 0, 0, 0, 0, []),
  (18, none, .iload_n 1, 1, 1, 0, 0, 0, 0, []),
  (19, none, .ishl, 1, 0, 0, 0, 0, 0, []),
  (20, none, .iconst (-1), 1, 0, 0, 0, 0, 0, []),
  (21, none, .ixor, 1, 0, 0, 0, 0, 0, []),
  (22, none, .iand, 1, 0, 0, 0, 0, 0, []),
  (23, none, .goto 14, 3, 37, 0, 0, 0, 0, []),
  (26, none, .aload_n 0, 1, 0, 0, 0, 0, 0, []),
  (27, none, .getfield 7, 3, 11, 0, 22, 1, 0, []),
  (30, none, .bipush 10, 2, 0, 0, 0, 0, 0, []),
  (32, none, .iaload, 1, 0, 0, 0, 0, 0, []),
  (33, none, .iconst 1, 1, 0, 0, 0, 0, 0, []),
  (34, none, .iload_n 1, 1, 1, 0, 0, 0, 0, []),
  (35, none, .ishl, 1, 0, 0, 0, 0, 0, []),
  (36, none, .ior, 1, 0, 0, 0, 0, 0, []),
  (37, none, .iastore, 1, 0, 0, 0, 0, 0, []),
  (38, none, .aload_n 0, 1, 0, 0, 0, 0, 0, []),
  (39, none, .iload_n 2, 1, 2, 0, 0, 0, 0, []),
  (40, none, .ifCond .eq 7, 3, 47, 0, 0, 0, 0, []),
  (43, none, .iconst 3, 1, 0, 0, 0, 0, 0, []),
  (44, none, .goto 4, 3, 48, 0, 0, 0, 0, []),
  (47, none, .iconst 5, 1, 0, 0, 0, 0, 0, []),
  (48, none, .iload_n 1, 1, 1, 0, 0, 0, 0, []),
  (49, none, .iconst 0, 1, 0, 0, 0, 0, 0, []),
  (50, none, .invokevirtual 319, 3, 208, 4, 1, 0, 0, []),
  (53, none, .return_, 1, 0, 0, 0, 0, 0, [])]
noncomputable def K_m_eat : List aE := [
  (0, none, .aload_n 0, 1, 0, 0, 0, 0, 0, []),
  (1, none, .iload_n 1, 1, 1, 0, 0, 0, 0, []),
  (2, none, .invokevirtual 75, 3, 152, 2, 2, 0, 0, []),
  (5, none, .ifCond .eq 12, 3, 17, 0, 0, 0, 0, []),
  (8, none, .aload_n 0, 1, 0, 0, 0, 0, 0, []),
  (9, none, .iload_n 1, 1, 1, 0, 0, 0, 0, []),
  (10, none, .invokevirtual 309, 3, 153, 2, 2, 0, 0, []),
  (13, none, .iload_n 2, 1, 2, 0, 0, 0, 0, []),
  (14, none, .if_icmp .eq 5, 3, 19, 0, 0, 0, 0, []),
  (17, none, .iconst 0, 1, 0, 0, 0, 0, 0, []),
  (18, none, .ireturn, 1, 1, 0, 0, 0, 0, []),
  (19, none, .aload_n 0, 1, 0, 0, 0, 0, 0, []),
  (20, none, .invokevirtual 323, 3, 206, 1, 1, 0, 0, []),
  (23, none, .aload_n 0, 1, 0, 0, 0, 0, 0, []),
  (24, none, .iload_n 1, 1, 1, 0, 0, 0, 0, []),
  (25, none, .iload_n 2, 1, 2, 0, 0, 0, 0, []),
  (26, none, .invokevirtual 326, 3, 209, 3, 1, 0, 0, []),
  (29, none, .iconst 1, 1, 0, 0, 0, 0, 0, []),
  (30, none, .ireturn, 1, 1, 0, 0, 0, 0, [])]
noncomputable def K_m_does : List aE := [
  (0, none, .aload_n 0, 1, 0, 0, 0, 0, 0, []),
  (1, none, .getfield 7, 3, 11, 0, 22, 1, 0, []),
  (4, none, .iload_n 1, 1, 1, 0, 0, 0, 0, []),
  (5, none, .iconst 2, 1, 0, 0, 0, 0, 0, []),
  (6, none, .iadd, 1, 0, 0, 0, 0, 0, []),
  (7, none, .iaload, 1, 0, 0, 0, 0, 0, []),
  (8, none, .istore_n 2, 1, 2, 0, 0, 0, 0, []),
  (9, none, .aload_n 0, 1, 0, 0, 0, 0, 0, []),
  (10, none, .getfield 7, 3, 11, 0, 22, 1, 0, []),
  (13, none, .iload_n 1, 1, 1, 0, 0, 0, 0, []),
  (14, none, .iconst 1, 1, 0, 0, 0, 0, 0, []),
  (15, none, .iadd, 1, 0, 0, 0, 0, 0, []),
  (16, none, .iaload, 1, 0, 0, 0, 0, 0, []),
  (17, none, .tableswitch 66 8 10 #[27, 37, 47], 27, 83, 0, 0, 0, 0, [(8, 44), (9, 54), (10, 64)]),
  (44, none, .aload_n 0, 1, 0, 0, 0, 0, 0, []),
  (45, none, .getfield 7, 3, 11, 0, 22, 1, 0, []),
  (48, none, .iconst 4, 1, 0, 0, 0, 0, 0, []),
  (49, none, .iload_n 2, 1, 2, 0, 0, 0, 0, []),
  (50, none, .iastore, 1, 0, 0, 0, 0, 0, []),
  (51, none, .goto 81, 3, 132, 0, 0, 0, 0, []),
  (54, none, .aload_n 0, 1, 0, 0, 0, 0, 0, []),
  (55, none, .getfield 7, 3, 11, 0, 22, 1, 0, []),
  (58, none, .iconst 5, 1, 0, 0, 0, 0, 0, []),
  (59, none, .iload_n 2, 1, 2, 0, 0, 0, 0, []),
  (60, none, .iastore, 1, 0, 0, 0, 0, 0, []),
  (61, none, .goto 71, 3, 132, 0, 0, 0, 0, []),
  (64, none, .aload_n 0, 1, 0, 0, 0, 0, 0, []),
  (65, none, .getfield 7, 3, 11, 0, 22, 1, 0, []),
  (68, none, .bipush 6, 2, 0, 0, 0, 0, 0, []),
  (70, none, .iconst 1, 1, 0, 0, 0, 0, 0, []),
  (71, none, .aload_n 0, 1, 0, 0, 0, 0, 0, []),
  (72, none, .getfield 7, 3, 11, 0, 22, 1, 0, []),
  (75, none, .bipush 6, 2, 0, 0, 0, 0, 0, []),
  (77, none, .iaload, 1, 0, 0, 0, 0, 0, []),
  (78, none, .isub, 1, 0, 0, 0, 0, 0, []),
  (79, none, .iastore, 1, 0, 0, 0, 0, 0, []),
  (80, none, .goto 52, 3, 132, 0, 0, 0, 0, []),
  (83, none, .aload_n 0, 1, 0, 0, 0, 0, 0, []),
  (84, none, .iload_n 2, 1, 2, 0, 0, 0, 0, []),
  (85, none, .invokevirtual 309, 3, 153, 2, 2, 0, 0, []),
  (88, none, .aload_n 0, 1, 0, 0, 0, 0, 0, []),
  (89, none, .getfield 7, 3, 11, 0, 22, 1, 0, []),
  (92, none, .iload_n 1, 1, 1, 0, 0, 0, 0, []),
  (93, none, .iconst 1, 1, 0, 0, 0, 0, 0, []),
  (94, none, .iadd, 1, 0, 0, 0, 0, 0, []),
  (95, none, .iaload, 1, 0, 0, 0, 0, 0, []),
  (96, none, .bipush 11, 2, 0, 0, 0, 0, 0, []),
  (98, none, .if_icmp .ne 7, 3, 105, 0, 0, 0, 0, []),
  (101, none, .iconst 1, 1, 0, 0, 0, 0, 0, []),
  (102, none, .goto 4, 3, 106, 0, 0, 0, 0, []),
  (105, none, .iconst 0, 1, 0, 0, 0, 0, 0, []),
  (106, none, .if_icmp .ne 26, 3, 132, 0, 0, 0, 0, []),
  (109, none, .aload_n 0, 1, 0, 0, 0, 0, 0, []),
  (110, none, .iload_n 2, 1, 2, 0, 0, 0, 0, []),
  (111, none, .aload_n 0, 1, 0, 0, 0, 0, 0, []),
  (112, none, .getfield 7, 3, 11, 0, 22, 1, 0, []),
  (115, none, .iload_n 1, 1, 1, 0, 0, 0, 0, []),
  (116, none, .iconst 1, 1, 0, 0, 0, 0, 0, []),
  (117, none, .iadd, 1, 0, 0, 0, 0, 0, []),
  (118, none, .iaload, 1, 0, 0, 0, 0, 0, []),
  (119, none, .bipush 11, 2, 0, 0, 0, 0, 0, []),
  (121, none, .if_icmp .ne 7, 3, 128, 0, 0, 0, 0, []),
  (124, none, .iconst 1, 1, 0, 0, 0, 0, 0, []),
  (125, none, .goto 4, 3, 129, 0, 0, 0, 0, []),
  (128, none, .iconst 0, 1, 0, 0, 0, 0, 0, []),
  (129, none, .invokevirtual 326, 3, 209, 3, 1, 0, 0, []),
  (132, none, .return_, 1, 0, 0, 0, 0, 0, [])]
noncomputable def K_m_byDraw : List aE := [
  (0, none, .iconst 0, 1, 0, 0, 0, 0, 0, []),
  (1, none, .istore_n 2, 1, 2, 0, 0, 0, 0, []),
  (2, none, .iconst 0, 1, 0, 0, 0, 0, 0, []),
  (3, none, .istore_n 3, 1, 3, 0, 0, 0, 0, []),
  (4, some [true, true, true, true], .iload_n 3, 1, 3, 0, 0, 0, 0, []),
  (5, none, .aload_n 0, 1, 0, 0, 0, 0, 0, []),
  (6, none, .getfield 7, 3, 11, 0, 22, 1, 0, []),
  (9, none, .bipush 41, 2, 0, 0, 0, 0, 0, []),
  (11, none, .iaload, 1, 0, 0, 0, 0, 0, []),
  (12, none, .if_icmp .ge 36, 3, 48, 0, 0, 0, 0, []),
  (15, none, .iload_n 2, 1, 2, 0, 0, 0, 0, []),
  (16, none, .aload_n 0, 1, 0, 0, 0, 0, 0, []),
  (17, none, .iload_n 3, 1, 3, 0, 0, 0, 0, []),
  (18, none, .invokevirtual 309, 3, 153, 2, 2, 0, 0, []),
  (21, none, .ifCond .eq 11, 3, 32, 0, 0, 0, 0, []),
  (24, none, .aload_n 0, 1, 0, 0, 0, 0, 0, []),
  (25, none, .iload_n 3, 1, 3, 0, 0, 0, 0, []),
  (26, none, .invokevirtual 312, 3, 201, 2, 2, 0, 0, []),
  (29, none, .goto 4, 3, 33, 0, 0, 0, 0, []),
  (32, none, .iconst 0, 1, 0, 0, 0, 0, 0, []),
  (33, none, .iadd, 1, 0, 0, 0, 0, 0, []),
  (34, none, .istore_n 2, 1, 2, 0, 0, 0, 0, []),
  (35, none, .iload_n 2, 1, 2, 0, 0, 0, 0, []),
  (36, none, .iload_n 1, 1, 1, 0, 0, 0, 0, []),
  (37, none, .if_icmp .le 5, 3, 42, 0, 0, 0, 0, []),
  (40, none, .iload_n 3, 1, 3, 0, 0, 0, 0, []),
  (41, none, .ireturn, 1, 0, 0, 0, 0, 0, []),
  (42, none, .iinc 3 1, 3, 3, 0, 0, 0, 0, []),
  (45, none, .goto (-41), 3, 4, 0, 0, 0, 0, []),
  (48, none, .iconst (-1), 1, 0, 0, 0, 0, 0, []),
  (49, none, .ireturn, 1, 0, 0, 0, 0, 0, [])]
noncomputable def K_m_dawns : List aE := [
  (0, none, .aload_n 0, 1, 0, 0, 0, 0, 0, []),
  (1, none, .getfield 315, 3, 11, 26, 0, 0, 0, []),
  (4, none, .ifCond .eq 32, 3, 36, 0, 0, 0, 0, []),
  (7, none, .aload_n 0, 1, 0, 0, 0, 0, 0, []),
  (8, none, .getfield 7, 3, 11, 0, 22, 1, 0, []),
  (11, none, .bipush 43, 2, 0, 0, 0, 0, 0, []),
  (13, none, .iaload, 1, 0, 0, 0, 0, 0, []),
  (14, none, .ifCond .le 22, 3, 36, 0, 0, 0, 0, []),
  (17, none, .aload_n 0, 1, 0, 0, 0, 0, 0, []),
  (18, none, .sipush 1000, 3, 0, 0, 0, 0, 0, []),
  (21, none, .invokevirtual 330, 3, 157, 2, 2, 0, 0, []),
  (24, none, .aload_n 0, 1, 0, 0, 0, 0, 0, []),
  (25, none, .getfield 7, 3, 11, 0, 22, 1, 0, []),
  (28, none, .bipush 43, 2, 0, 0, 0, 0, 0, []),
  (30, none, .iaload, 1, 0, 0, 0, 0, 0, []),
  (31, none, .if_icmp .ge 5, 3, 36, 0, 0, 0, 0, []),
  (34, none, .iconst (-1), 1, 0, 0, 0, 0, 0, []),
  (35, none, .ireturn, 1, 0, 0, 0, 0, 0, []),
  (36, some [true, false], .aload_n 0, 1, 0, 0, 0, 0, 0, []),
  (37, none, .invokevirtual 333, 3, 204, 1, 2, 0, 0, []),
  (40, none, .istore_n 1, 1, 1, 0, 0, 0, 0, []),
  (41, none, .iload_n 1, 1, 1, 0, 0, 0, 0, []),
  (42, none, .ifCond .ne 7, 3, 49, 0, 0, 0, 0, []),
  (45, none, .iconst (-1), 1, 0, 0, 0, 0, 0, []),
  (46, none, .goto 26, 3, 72, 0, 0, 0, 0, []),
  (49, none, .aload_n 0, 1, 0, 0, 0, 0, 0, []),
  (50, none, .getfield 315, 3, 11, 26, 0, 0, 0, []),
  (53, none, .ifCond .eq 15, 3, 68, 0, 0, 0, 0, []),
  (56, none, .aload_n 0, 1, 0, 0, 0, 0, 0, []),
  (57, none, .aload_n 0, 1, 0, 0, 0, 0, 0, []),
  (58, none, .iload_n 1, 1, 1, 0, 0, 0, 0, []),
  (59, none, .invokevirtual 330, 3, 157, 2, 2, 0, 0, []),
  (62, none, .invokevirtual 336, 3, 212, 2, 2, 0, 0, []),
  (65, none, .goto 7, 3, 72, 0, 0, 0, 0, []),
  (68, none, .aload_n 0, 1, 0, 0, 0, 0, 0, []),
  (69, none, .invokevirtual 339, 3, 205, 1, 2, 0, 0, []),
  (72, none, .ireturn, 1, 0, 0, 0, 0, 0, [])]
noncomputable def K_m_comes : List aE := [
  (0, none, .iload_n 1, 1, 1, 0, 0, 0, 0, []),
  (1, none, .iconst (-1), 1, 0, 0, 0, 0, 0, []),
  (2, none, .if_icmp .ne 7, 3, 9, 0, 0, 0, 0, []),
  (5, none, .iconst 5, 1, 0, 0, 0, 0, 0, []),
  (6, none, .goto 8, 3, 14, 0, 0, 0, 0, []),
  (9, none, .aload_n 0, 1, 0, 0, 0, 0, 0, []),
  (10, none, .iload_n 1, 1, 1, 0, 0, 0, 0, []),
  (11, none, .invokevirtual 342, 3, 202, 2, 2, 0, 0, []),
  (14, none, .istore_n 2, 1, 2, 0, 0, 0, 0, []),
  (15, none, .iload_n 1, 1, 1, 0, 0, 0, 0, []),
  (16, none, .iconst (-1), 1, 0, 0, 0, 0, 0, []),
  (17, none, .if_icmp .ne 7, 3, 24, 0, 0, 0, 0, []),
  (20, none, .iconst 0, 1, 0, 0, 0, 0, 0, []),
  (21, none, .goto 8, 3, 29, 0, 0, 0, 0, []),
  (24, none, .aload_n 0, 1, 0, 0, 0, 0, 0, []),
  (25, none, .iload_n 1, 1, 1, 0, 0, 0, 0, []),
  (26, none, .invokevirtual 345, 3, 203, 2, 2, 0, 0, []),
  (29, none, .istore_n 3, 1, 3, 0, 0, 0, 0, []),
  (30, none, .aload_n 0, 1, 0, 0, 0, 0, 0, []),
  (31, none, .getfield 7, 3, 11, 0, 22, 1, 0, []),
  (34, none, .iconst 1, 1, 0, 0, 0, 0, 0, []),
  (35, none, .iload_n 1, 1, 1, 0, 0, 0, 0, []),
  (36, none, .iastore, 1, 0, 0, 0, 0, 0, []),
  (37, none, .aload_n 0, 1, 0, 0, 0, 0, 0, []),
  (38, none, .getfield 7, 3, 11, 0, 22, 1, 0, []),
  (41, none, .iconst 3, 1, 0, 0, 0, 0, 0, []),
  (42, none, .dup2, 1, 0, 0, 0, 0, 0, []),
  (43, none, .iaload, 1, 0, 0, 0, 0, 0, []),
  (44, none, .iload_n 2, 1, 2, 0, 0, 0, 0, []),
  (45, none, .iadd, 1, 0, 0, 0, 0, 0, []),
  (46, none, .iastore, 1, 0, 0, 0, 0, 0, []),
  (47, none, .aload_n 0, 1, 0, 0, 0, 0, 0, []),
  (48, none, .iload_n 1, 1, 1, 0, 0, 0, 0, []),
  (49, none, .iconst (-1), 1, 0, 0, 0, 0, 0, []),
  (50, none, .if_icmp .ne 7, 3, 57, 0, 0, 0, 0, []),
  (53, none, .iconst 1, 1, 0, 0, 0, 0, 0, []),
  (54, none, .goto 4, 3, 58, 0, 0, 0, 0, []),
  (57, none, .iconst 0, 1, 0, 0, 0, 0, 0, []),
  (58, none, .iload_n 1, 1, 1, 0, 0, 0, 0, []),
  (59, none, .iload_n 2, 1, 2, 0, 0, 0, 0, []),
  (60, none, .invokevirtual 319, 3, 208, 4, 1, 0, 0, []),
  (63, none, .iconst 0, 1, 0, 0, 0, 0, 0, []),
  (64, none, .istore 4, 2, 4, 0, 0, 0, 0, []),
  (66, some [true, true, false, true, true], .iload 4, 2, 4, 0, 0, 0, 0, []),
  (68, none, .aload_n 0, 1, 0, 0, 0, 0, 0, []),
  (69, none, .getfield 7, 3, 11, 0, 22, 1, 0, []),
  (72, none, .bipush 41, 2, 0, 0, 0, 0, 0, []),
  (74, none, .iaload, 1, 0, 0, 0, 0, 0, []),
  (75, none, .if_icmp .ge 52, 3, 127, 0, 0, 0, 0, []),
  (78, none, .iload 4, 2, 4, 0, 0, 0, 0, []),
  (80, none, .iload_n 1, 1, 1, 0, 0, 0, 0, []),
  (81, none, .if_icmp .eq 40, 3, 121, 0, 0, 0, 0, []),
  (84, none, .aload_n 0, 1, 0, 0, 0, 0, 0, []),
  (85, none, .iload 4, 2, 4, 0, 0, 0, 0, []),
  (87, none, .invokevirtual 309, 3, 153, 2, 2, 0, 0, []),
  (90, none, .ifCond .eq 31, 3, 121, 0, 0, 0, 0, []),
  (93, none, .aload_n 0, 1, 0, 0, 0, 0, 0, []),
  (94, none, .getfield 7, 3, 11, 0, 22, 1, 0, []),
  (97, none, .bipush 21, 2, 0, 0, 0, 0, 0, []),
  (99, none, .iload 4, 2, 4, 0, 0, 0, 0, []),
  (101, none, .iadd, 1, 0, 0, 0, 0, 0, []),
  (102, none, .sipush 999, 3, 0, 0, 0, 0, 0, []),
  (105, none, .aload_n 0, 1, 0, 0, 0, 0, 0, []),
  (106, none, .getfield 7, 3, 11, 0, 22, 1, 0, []),
  (109, none, .bipush 21, 2, 0, 0, 0, 0, 0, []),
  (111, none, .iload 4, 2, 4, 0, 0, 0, 0, []),
  (113, none, .iadd, 1, 0, 0, 0, 0, 0, []),
  (114, none, .iaload, 1, 0, 0, 0, 0, 0, []),
  (115, none, .iconst 1, 1, 0, 0, 0, 0, 0, []),
  (116, none, .iadd, 1, 0, 0, 0, 0, 0, []),
  (117, none, .invokestatic 299, 3, 149, 2, 2, 0, 0, []),
  (120, none, .iastore, 1, 0, 0, 0, 0, 0, []),
  (121, none, .iinc 4 1, 3, 4, 0, 0, 0, 0, []),
  (124, none, .goto (-58), 3, 66, 0, 0, 0, 0, []),
  (127, none, .iload_n 1, 1, 1, 0, 0, 0, 0, []),
  (128, none, .iconst (-1), 1, 0, 0, 0, 0, 0, []),
  (129, none, .if_icmp .ne 4, 3, 133, 0, 0, 0, 0, []),
  (132, none, .return_, 1, 0, 0, 0, 0, 0, []),
  (133, none, .aload_n 0, 1, 0, 0, 0, 0, 0, []),
  (134, none, .getfield 7, 3, 11, 0, 22, 1, 0, []),
  (137, none, .bipush 21, 2, 0, 0, 0, 0, 0, []),
  (139, none, .iload_n 1, 1, 1, 0, 0, 0, 0, []),
  (140, none, .iadd, 1, 0, 0, 0, 0, 0, []),
  (141, none, .iconst 0, 1, 0, 0, 0, 0, 0, []),
  (142, none, .iastore, 1, 0, 0, 0, 0, 0, []),
  (143, none, .aload_n 0, 1, 0, 0, 0, 0, 0, []),
  (144, none, .getfield 7, 3, 11, 0, 22, 1, 0, []),
  (147, none, .bipush 31, 2, 0, 0, 0, 0, 0, []),
  (149, none, .iload_n 1, 1, 1, 0, 0, 0, 0, []),
  (150, none, .iadd, 1, 0, 0, 0, 0, 0, []),
  (151, none, .dup2, 1, 0, 0, 0, 0, 0, []),
  (152, none, .iaload, 1, 0, 0, 0, 0, 0, []),
  (153, none, .iconst 1, 1, 0, 0, 0, 0, 0, []),
  (154, none, .iadd, 1, 0, 0, 0, 0, 0, []),
  (155, none, .iastore, 1, 0, 0, 0, 0, 0, []),
  (156, none, .aload_n 0, 1, 0, 0, 0, 0, 0, []),
  (157, none, .getfield 7, 3, 11, 0, 22, 1, 0, []),
  (160, none, .bipush 11, 2, 0, 0, 0, 0, 0, []),
  (162, none, .iload_n 1, 1, 1, 0, 0, 0, 0, []),
  (163, none, .iadd, 1, 0, 0, 0, 0, 0, []),
  (164, none, .iconst 0, 1, 0, 0, 0, 0, 0, []),
  (165, none, .aload_n 0, 1, 0, 0, 0, 0, 0, []),
  (166, none, .getfield 7, 3, 11, 0, 22, 1, 0, []),
  (169, none, .bipush 11, 2, 0, 0, 0, 0, 0, []),
  (171, none, .iload_n 1, 1, 1, 0, 0, 0, 0, []),
  (172, none, .iadd, 1, 0, 0, 0, 0, 0, []),
  (173, none, .iaload, 1, 0, 0, 0, 0, 0, []),
  (174, none, .iload_n 3, 1, 3, 0, 0, 0, 0, []),
  (175, none, .isub, 1, 0, 0, 0, 0, 0, []),
  (176, none, .invokestatic 302, 3, 150, 2, 2, 0, 0, []),
  (179, none, .iastore, 1, 0, 0, 0, 0, 0, []),
  (180, none, .return_, 1, 0, 0, 0, 0, 0, [])]
noncomputable def K_m_pays : List aE := [
  (0, none, .iconst 0, 1, 0, 0, 0, 0, 0, []),
  (1, none, .istore_n 1, 1, 1, 0, 0, 0, 0, []),
  (2, some [true, true, false], .iload_n 1, 1, 1, 0, 0, 0, 0, []),
  (3, none, .aload_n 0, 1, 0, 0, 0, 0, 0, []),
  (4, none, .getfield 7, 3, 11, 0, 22, 1, 0, []),
  (7, none, .bipush 46, 2, 0, 0, 0, 0, 0, []),
  (9, none, .iaload, 1, 0, 0, 0, 0, 0, []),
  (10, none, .if_icmp .ge 118, 3, 128, 0, 0, 0, 0, []),
  (13, none, .bipush 111, 2, 0, 0, 0, 0, 0, []),
  (15, none, .iconst 3, 1, 0, 0, 0, 0, 0, []),
  (16, none, .iload_n 1, 1, 1, 0, 0, 0, 0, []),
  (17, none, .imul, 1, 0, 0, 0, 0, 0, []),
  (18, none, .iadd, 1, 0, 0, 0, 0, 0, []),
  (19, none, .istore_n 2, 1, 2, 0, 0, 0, 0, []),
  (20, none, .aload_n 0, 1, 0, 0, 0, 0, 0, []),
  (21, none, .getfield 7, 3, 11, 0, 22, 1, 0, []),
  (24, none, .bipush 9, 2, 0, 0, 0, 0, 0, []),
  (26, none, .iaload, 1, 0, 0, 0, 0, 0, []),
  (27, none, .iload_n 1, 1, 1, 0, 0, 0, 0, []),
  (28, none, .ishr, 1, 0, 0, 0, 0, 0, []),
  (29, none, .iconst 1, 1, 0, 0, 0, 0, 0, []),
  (30, none, .iand, 1, 0, 0, 0, 0, 0, []),
  (31, none, .iconst 1, 1, 0, 0, 0, 0, 0, []),
  (32, none, .if_icmp .eq 90, 3, 122, 0, 0, 0, 0, []),
  (35, none, .aload_n 0, 1, 0, 0, 0, 0, 0, []),
  (36, none, .getfield 7, 3, 11, 0, 22, 1, 0, []),
  (39, none, .iconst 1, 1, 0, 0, 0, 0, 0, []),
  (40, none, .iaload, 1, 0, 0, 0, 0, 0, []),
  (41, none, .iconst (-1), 1, 0, 0, 0, 0, 0, []),
  (42, none, .if_icmp .eq 80, 3, 122, 0, 0, 0, 0, []),
  (45, none, .aload_n 0, 1, 0, 0, 0, 0, 0, []),
  (46, none, .getfield 7, 3, 11, 0, 22, 1, 0, []),
  (49, none, .iload_n 2, 1, 2, 0, 0, 0, 0, []),
  (50, none, .iconst 1, 1, 0, 0, 0, 0, 0, []),
  (51, none, .iadd, 1, 0, 0, 0, 0, 0, []),
  (52, none, .iaload, 1, 0, 0, 0, 0, 0, []),
  (53, none, .aload_n 0, 1, 0, 0, 0, 0, 0, []),
  (54, none, .getfield 7, 3, 11, 0, 22, 1, 0, []),
  (57, none, .iconst 1, 1, 0, 0, 0, 0, 0, []),
  (58, none, .iaload, 1, 0, 0, 0, 0, 0, []),
  (59, none, .if_icmp .ne 63, 3, 122, 0, 0, 0, 0, []),
  (62, none, .aload_n 0, 1, 0, 0, 0, 0, 0, []),
  (63, none, .getfield 7, 3, 11, 0, 22, 1, 0, []),
  (66, none, .iconst 0, 1, 0, 0, 0, 0, 0, []),
  (67, none, .iaload, 1, 0, 0, 0, 0, 0, []),
  (68, none, .aload_n 0, 1, 0, 0, 0, 0, 0, []),
  (69, none, .getfield 7, 3, 11, 0, 22, 1, 0, []),
  (72, none, .iload_n 2, 1, 2, 0, 0, 0, 0, []),
  (73, none, .iconst 2, 1, 0, 0, 0, 0, 0, []),
  (74, none, .iadd, 1, 0, 0, 0, 0, 0, []),
  (75, none, .iaload, 1, 0, 0, 0, 0, 0, []),
  (76, none, .if_icmp .gt 6, 3, 82, 0, 0, 0, 0, []),
  (79, none, .goto 43, 3, 122, 0, 0, 0, 0, []),
  (82, none, .aload_n 0, 1, 0, 0, 0, 0, 0, []),
  (83, none, .getfield 7, 3, 11, 0, 22, 1, 0, []),
  (86, none, .bipush 9, 2, 0, 0, 0, 0, 0, []),
  (88, none, .dup2, 1, 0, 0, 0, 0, 0, []),
  (89, none, .iaload, 1, 0, 0, 0, 0, 0, []),
  (90, none, .iconst 1, 1, 0, 0, 0, 0, 0, []),
  (91, none, .iload_n 1, 1, 1, 0, 0, 0, 0, []),
  (92, none, .ishl, 1, 0, 0, 0, 0, 0, []),
  (93, none, .ior, 1, 0, 0, 0, 0, 0, []),
  (94, none, .iastore, 1, 0, 0, 0, 0, 0, []),
  (95, none, .aload_n 0, 1, 0, 0, 0, 0, 0, []),
  (96, none, .getfield 7, 3, 11, 0, 22, 1, 0, []),
  (99, none, .iconst 2, 1, 0, 0, 0, 0, 0, []),
  (100, none, .dup2, 1, 0, 0, 0, 0, 0, []),
  (101, none, .iaload, 1, 0, 0, 0, 0, 0, []),
  (102, none, .aload_n 0, 1, 0, 0, 0, 0, 0, []),
  (103, none, .getfield 7, 3, 11, 0, 22, 1, 0, []),
  (106, none, .iload_n 2, 1, 2, 0, 0, 0, 0, []),
  (107, none, .iaload, 1, 0, 0, 0, 0, 0, []),
  (108, none, .isub, 1, 0, 0, 0, 0, 0, []),
  (109, none, .iastore, 1, 0, 0, 0, 0, 0, []),
  (110, none, .aload_n 0, 1, 0, 0, 0, 0, 0, []),
  (111, none, .iconst 2, 1, 0, 0, 0, 0, 0, []),
  (112, none, .iload_n 1, 1, 1, 0, 0, 0, 0, []),
  (113, none, .aload_n 0, 1, 0, 0, 0, 0, 0, []),
  (114, none, .getfield 7, 3, 11, 0, 22, 1, 0, []),
  (117, none, .iload_n 2, 1, 2, 0, 0, 0, 0, []),
  (118, none, .iaload, 1, 0, 0, 0, 0, 0, []),
  (119, none, .invokevirtual 319, 3, 208, 4, 1, 0, 0, []),
  (122, none, .iinc 1 1, 3, 1, 0, 0, 0, 0, []),
  (125, none, .goto (-123), 3, 2, 0, 0, 0, 0, []),
  (128, none, .return_, 1, 0, 0, 0, 0, 0, [])]
noncomputable def K_m_wolves : List aE := [
  (0, none, .aload_n 0, 1, 0, 0, 0, 0, 0, []),
  (1, none, .getfield 7, 3, 11, 0, 22, 1, 0, []),
  (4, none, .bipush 42, 2, 0, 0, 0, 0, 0, []),
  (6, none, .iaload, 1, 0, 0, 0, 0, 0, []),
  (7, none, .ifCond .eq 30, 3, 37, 0, 0, 0, 0, []),
  (10, none, .aload_n 0, 1, 0, 0, 0, 0, 0, []),
  (11, none, .getfield 7, 3, 11, 0, 22, 1, 0, []),
  (14, none, .bipush 10, 2, 0, 0, 0, 0, 0, []),
  (16, none, .iaload, 1, 0, 0, 0, 0, 0, []),
  (17, none, .ifCond .eq 20, 3, 37, 0, 0, 0, 0, []),
  (20, none, .aload_n 0, 1, 0, 0, 0, 0, 0, []),
  (21, none, .sipush 1000, 3, 0, 0, 0, 0, 0, []),
  (24, none, .invokevirtual 330, 3, 157, 2, 2, 0, 0, []),
  (27, none, .aload_n 0, 1, 0, 0, 0, 0, 0, []),
  (28, none, .getfield 7, 3, 11, 0, 22, 1, 0, []),
  (31, none, .bipush 42, 2, 0, 0, 0, 0, 0, []),
  (33, none, .iaload, 1, 0, 0, 0, 0, 0, []),
  (34, none, .if_icmp .lt 4, 3, 38, 0, 0, 0, 0, []),
  (37, none, .return_, 1, 0, 0, 0, 0, 0, []),
  (38, none, .iconst (-1), 1, 0, 0, 0, 0, 0, []),
  (39, none, .istore_n 1, 1, 1, 0, 0, 0, 0, []),
  (40, none, .iconst 0, 1, 0, 0, 0, 0, 0, []),
  (41, none, .istore_n 2, 1, 2, 0, 0, 0, 0, []),
  (42, some [true, true, true], .iload_n 2, 1, 2, 0, 0, 0, 0, []),
  (43, none, .aload_n 0, 1, 0, 0, 0, 0, 0, []),
  (44, none, .getfield 7, 3, 11, 0, 22, 1, 0, []),
  (47, none, .bipush 41, 2, 0, 0, 0, 0, 0, []),
  (49, none, .iaload, 1, 0, 0, 0, 0, 0, []),
  (50, none, .if_icmp .ge 45, 3, 95, 0, 0, 0, 0, []),
  (53, none, .aload_n 0, 1, 0, 0, 0, 0, 0, []),
  (54, none, .iload_n 2, 1, 2, 0, 0, 0, 0, []),
  (55, none, .invokevirtual 309, 3, 153, 2, 2, 0, 0, []),
  (58, none, .ifCond .eq 31, 3, 89, 0, 0, 0, 0, []),
  (61, none, .iload_n 1, 1, 1, 0, 0, 0, 0, []),
  (62, none, .iconst (-1), 1, 0, 0, 0, 0, 0, []),
  (63, none, .if_icmp .eq 24, 3, 87, 0, 0, 0, 0, []),
  (66, none, .aload_n 0, 1, 0, 0, 0, 0, 0, []),
  (67, none, .getfield 7, 3, 11, 0, 22, 1, 0, []),
  (70, none, .bipush 11, 2, 0, 0, 0, 0, 0, []),
  (72, none, .iload_n 2, 1, 2, 0, 0, 0, 0, []),
  (73, none, .iadd, 1, 0, 0, 0, 0, 0, []),
  (74, none, .iaload, 1, 0, 0, 0, 0, 0, []),
  (75, none, .aload_n 0, 1, 0, 0, 0, 0, 0, []),
  (76, none, .getfield 7, 3, 11, 0, 22, 1, 0, []),
  (79, none, .bipush 11, 2, 0, 0, 0, 0, 0, []),
  (81, none, .iload_n 1, 1, 1, 0, 0, 0, 0, []),
  (82, none, .iadd, 1, 0, 0, 0, 0, 0, []),
  (83, none, .iaload, 1, 0, 0, 0, 0, 0, []),
  (84, none, .if_icmp .ge 5, 3, 89, 0, 0, 0, 0, []),
  (87, none, .iload_n 2, 1, 2, 0, 0, 0, 0, []),
  (88, none, .istore_n 1, 1, 1, 0, 0, 0, 0, []),
  (89, none, .iinc 2 1, 3, 2, 0, 0, 0, 0, []),
  (92, none, .goto (-50), 3, 42, 0, 0, 0, 0, []),
  (95, none, .aload_n 0, 1, 0, 0, 0, 0, 0, []),
  (96, none, .getfield 7, 3, 11, 0, 22, 1, 0, []),
  (99, none, .bipush 10, 2, 0, 0, 0, 0, 0, []),
  (101, none, .dup2, 1, 0, 0, 0, 0, 0, []),
  (102, none, .iaload, 1, 0, 0, 0, 0, 0, []),
  (103, none, .iconst 1, 1, 0, 0, 0, 0, 0, []),
  (104, none, .iload_n 1, 1, 1, 0, 0, 0, 0, []),
  (105, none, .ishl, 1, 0, 0, 0, 0, 0, []),
  (106, none, .iconst (-1), 1, 0, 0, 0, 0, 0, []),
  (107, none, .ixor, 1, 0, 0, 0, 0, 0, []),
  (108, none, .iand, 1, 0, 0, 0, 0, 0, []),
  (109, none, .iastore, 1, 0, 0, 0, 0, 0, []),
  (110, none, .aload_n 0, 1, 0, 0, 0, 0, 0, []),
  (111, none, .iconst 4, 1, 0, 0, 0, 0, 0, []),
  (112, none, .iload_n 1, 1, 1, 0, 0, 0, 0, []),
  (113, none, .iconst 0, 1, 0, 0, 0, 0, 0, []),
  (114, none, .invokevirtual 319, 3, 208, 4, 1, 0, 0, []),
  (117, none, .return_, 1, 0, 0, 0, 0, 0, [])]
noncomputable def K_m_aDay : List aE := [
  (0, none, .iconst 0, 1, 0, 0, 0, 0, 0, []),
  (1, none, .istore_n 1, 1, 1, 0, 0, 0, 0, []),
  (2, some [true, true], .iload_n 1, 1, 1, 0, 0, 0, 0, []),
  (3, none, .aload_n 0, 1, 0, 0, 0, 0, 0, []),
  (4, none, .getfield 7, 3, 11, 0, 22, 1, 0, []),
  (7, none, .bipush 45, 2, 0, 0, 0, 0, 0, []),
  (9, none, .iaload, 1, 0, 0, 0, 0, 0, []),
  (10, none, .if_icmp .ge 39, 3, 49, 0, 0, 0, 0, []),
  (13, none, .aload_n 0, 1, 0, 0, 0, 0, 0, []),
  (14, none, .getfield 7, 3, 11, 0, 22, 1, 0, []),
  (17, none, .bipush 63, 2, 0, 0, 0, 0, 0, []),
  (19, none, .iconst 3, 1, 0, 0, 0, 0, 0, []),
  (20, none, .iload_n 1, 1, 1, 0, 0, 0, 0, []),
  (21, none, .imul, 1, 0, 0, 0, 0, 0, []),
  (22, none, .iadd, 1, 0, 0, 0, 0, 0, []),
  (23, none, .iaload, 1, 0, 0, 0, 0, 0, []),
  (24, none, .aload_n 0, 1, 0, 0, 0, 0, 0, []),
  (25, none, .getfield 7, 3, 11, 0, 22, 1, 0, []),
  (28, none, .iconst 0, 1, 0, 0, 0, 0, 0, []),
  (29, none, .iaload, 1, 0, 0, 0, 0, 0, []),
  (30, none, .if_icmp .ne 13, 3, 43, 0, 0, 0, 0, []),
  (33, none, .aload_n 0, 1, 0, 0, 0, 0, 0, []),
  (34, none, .bipush 63, 2, 0, 0, 0, 0, 0, []),
  (36, none, .iconst 3, 1, 0, 0, 0, 0, 0, []),
  (37, none, .iload_n 1, 1, 1, 0, 0, 0, 0, []),
  (38, none, .imul, 1, 0, 0, 0, 0, 0, []),
  (39, none, .iadd, 1, 0, 0, 0, 0, 0, []),
  (40, none, .invokevirtual 348, 3, 211, 2, 1, 0, 0, []),
  (43, none, .iinc 1 1, 3, 1, 0, 0, 0, 0, []),
  (46, none, .goto (-44), 3, 2, 0, 0, 0, 0, []),
  (49, none, .aload_n 0, 1, 0, 0, 0, 0, 0, []),
  (50, none, .aload_n 0, 1, 0, 0, 0, 0, 0, []),
  (51, none, .invokevirtual 352, 3, 213, 1, 2, 0, 0, []),
  (54, none, .invokevirtual 355, 3, 214, 2, 1, 0, 0, []),
  (57, none, .aload_n 0, 1, 0, 0, 0, 0, 0, []),
  (58, none, .invokevirtual 358, 3, 215, 1, 1, 0, 0, []),
  (61, none, .aload_n 0, 1, 0, 0, 0, 0, 0, []),
  (62, none, .getfield 315, 3, 11, 26, 0, 0, 0, []),
  (65, none, .ifCond .eq 7, 3, 72, 0, 0, 0, 0, []),
  (68, none, .aload_n 0, 1, 0, 0, 0, 0, 0, []),
  (69, none, .invokevirtual 361, 3, 216, 1, 1, 0, 0, []),
  (72, some [true, false], .aload_n 0, 1, 0, 0, 0, 0, 0, []),
  (73, none, .getfield 7, 3, 11, 0, 22, 1, 0, []),
  (76, none, .iconst 4, 1, 0, 0, 0, 0, 0, []),
  (77, none, .iconst 0, 1, 0, 0, 0, 0, 0, []),
  (78, none, .aload_n 0, 1, 0, 0, 0, 0, 0, []),
  (79, none, .getfield 7, 3, 11, 0, 22, 1, 0, []),
  (82, none, .iconst 4, 1, 0, 0, 0, 0, 0, []),
  (83, none, .iaload, 1, 0, 0, 0, 0, 0, []),
  (84, none, .iconst 1, 1, 0, 0, 0, 0, 0, []),
  (85, none, .isub, 1, 0, 0, 0, 0, 0, []),
  (86, none, .invokestatic 302, 3, 150, 2, 2, 0, 0, []),
  (89, none, .iastore, 1, 0, 0, 0, 0, 0, []),
  (90, none, .aload_n 0, 1, 0, 0, 0, 0, 0, []),
  (91, none, .getfield 7, 3, 11, 0, 22, 1, 0, []),
  (94, none, .iconst 5, 1, 0, 0, 0, 0, 0, []),
  (95, none, .iconst 0, 1, 0, 0, 0, 0, 0, []),
  (96, none, .aload_n 0, 1, 0, 0, 0, 0, 0, []),
  (97, none, .getfield 7, 3, 11, 0, 22, 1, 0, []),
  (100, none, .iconst 5, 1, 0, 0, 0, 0, 0, []),
  (101, none, .iaload, 1, 0, 0, 0, 0, 0, []),
  (102, none, .iconst 1, 1, 0, 0, 0, 0, 0, []),
  (103, none, .isub, 1, 0, 0, 0, 0, 0, []),
  (104, none, .invokestatic 302, 3, 150, 2, 2, 0, 0, []),
  (107, none, .iastore, 1, 0, 0, 0, 0, 0, []),
  (108, none, .aload_n 0, 1, 0, 0, 0, 0, 0, []),
  (109, none, .getfield 7, 3, 11, 0, 22, 1, 0, []),
  (112, none, .iconst 0, 1, 0, 0, 0, 0, 0, []),
  (113, none, .dup2, 1, 0, 0, 0, 0, 0, []),
  (114, none, .iaload, 1, 0, 0, 0, 0, 0, []),
  (115, none, .iconst 1, 1, 0, 0, 0, 0, 0, []),
  (116, none, .iadd, 1, 0, 0, 0, 0, 0, []),
  (117, none, .iastore, 1, 0, 0, 0, 0, 0, []),
  (118, none, .aload_n 0, 1, 0, 0, 0, 0, 0, []),
  (119, none, .getfield 7, 3, 11, 0, 22, 1, 0, []),
  (122, none, .iconst 1, 1, 0, 0, 0, 0, 0, []),
  (123, none, .iaload, 1, 0, 0, 0, 0, 0, []),
  (124, none, .iconst (-1), 1, 0, 0, 0, 0, 0, []),
  (125, none, .if_icmp .ne 7, 3, 132, 0, 0, 0, 0, []),
  (128, none, .iconst 1, 1, 0, 0, 0, 0, 0, []),
  (129, none, .goto 4, 3, 133, 0, 0, 0, 0, []),
  (132, none, .iconst 0, 1, 0, 0, 0, 0, 0, []),
  (133, none, .ireturn, 1, 1, 0, 0, 0, 0, [])]
noncomputable def K_m_days : List aE := [
  (0, none, .iload_n 1, 1, 1, 0, 0, 0, 0, []),
  (1, none, .iconst 1, 1, 0, 0, 0, 0, 0, []),
  (2, none, .bipush 60, 2, 0, 0, 0, 0, 0, []),
  (4, none, .invokestatic 71, 3, 148, 3, 2, 0, 0, []),
  (7, none, .ifCond .eq 17, 3, 24, 0, 0, 0, 0, []),
  (10, none, .aload_n 0, 1, 0, 0, 0, 0, 0, []),
  (11, none, .getfield 7, 3, 11, 0, 22, 1, 0, []),
  (14, none, .iconst 0, 1, 0, 0, 0, 0, 0, []),
  (15, none, .iaload, 1, 0, 0, 0, 0, 0, []),
  (16, none, .iload_n 1, 1, 1, 0, 0, 0, 0, []),
  (17, none, .iadd, 1, 0, 0, 0, 0, 0, []),
  (18, none, .sipush 9999, 3, 0, 0, 0, 0, 0, []),
  (21, none, .if_icmp .le 5, 3, 26, 0, 0, 0, 0, []),
  (24, none, .iconst (-1), 1, 0, 0, 0, 0, 0, []),
  (25, none, .ireturn, 1, 0, 0, 0, 0, 0, []),
  (26, none, .iconst 0, 1, 0, 0, 0, 0, 0, []),
  (27, none, .istore_n 2, 1, 2, 0, 0, 0, 0, []),
  (28, none, .iconst 0, 1, 0, 0, 0, 0, 0, []),
  (29, none, .istore_n 3, 1, 3, 0, 0, 0, 0, []),
  (30, some [true, true, true, true], .iload_n 3, 1, 3, 0, 0, 0, 0, []),
  (31, none, .iload_n 1, 1, 1, 0, 0, 0, 0, []),
  (32, none, .if_icmp .ge 28, 3, 60, 0, 0, 0, 0, []),
  (35, none, .aload_n 0, 1, 0, 0, 0, 0, 0, []),
  (36, none, .invokevirtual 323, 3, 206, 1, 1, 0, 0, []),
  (39, none, .iload_n 2, 1, 2, 0, 0, 0, 0, []),
  (40, none, .aload_n 0, 1, 0, 0, 0, 0, 0, []),
  (41, none, .invokevirtual 364, 3, 217, 1, 2, 0, 0, []),
  (44, none, .ifCond .eq 7, 3, 51, 0, 0, 0, 0, []),
  (47, none, .iconst 1, 1, 0, 0, 0, 0, 0, []),
  (48, none, .goto 4, 3, 52, 0, 0, 0, 0, []),
  (51, none, .iconst 0, 1, 0, 0, 0, 0, 0, []),
  (52, none, .iadd, 1, 0, 0, 0, 0, 0, []),
  (53, none, .istore_n 2, 1, 2, 0, 0, 0, 0, []),
  (54, none, .iinc 3 1, 3, 3, 0, 0, 0, 0, []),
  (57, none, .goto (-27), 3, 30, 0, 0, 0, 0, []),
  (60, none, .iload_n 2, 1, 2, 0, 0, 0, 0, []),
  (61, none, .ireturn, 1, 0, 0, 0, 0, 0, [])]
noncomputable def K_m_waitFor : List aE := [
  (0, none, .aload_n 0, 1, 0, 0, 0, 0, 0, []),
  (1, none, .iload_n 1, 1, 1, 0, 0, 0, 0, []),
  (2, none, .invokevirtual 75, 3, 152, 2, 2, 0, 0, []),
  (5, none, .ifCond .eq 18, 3, 23, 0, 0, 0, 0, []),
  (8, none, .aload_n 0, 1, 0, 0, 0, 0, 0, []),
  (9, none, .getfield 7, 3, 11, 0, 22, 1, 0, []),
  (12, none, .iconst 0, 1, 0, 0, 0, 0, 0, []),
  (13, none, .iaload, 1, 0, 0, 0, 0, 0, []),
  (14, none, .bipush 30, 2, 0, 0, 0, 0, 0, []),
  (16, none, .iadd, 1, 0, 0, 0, 0, 0, []),
  (17, none, .sipush 9999, 3, 0, 0, 0, 0, 0, []),
  (20, none, .if_icmp .le 6, 3, 26, 0, 0, 0, 0, []),
  (23, none, .bipush (-2), 2, 0, 0, 0, 0, 0, []),
  (25, none, .ireturn, 1, 0, 0, 0, 0, 0, []),
  (26, none, .iconst 1, 1, 0, 0, 0, 0, 0, []),
  (27, none, .istore_n 2, 1, 2, 0, 0, 0, 0, []),
  (28, some [true, true, true], .iload_n 2, 1, 2, 0, 0, 0, 0, []),
  (29, none, .bipush 30, 2, 0, 0, 0, 0, 0, []),
  (31, none, .if_icmp .gt 30, 3, 61, 0, 0, 0, 0, []),
  (34, none, .aload_n 0, 1, 0, 0, 0, 0, 0, []),
  (35, none, .invokevirtual 323, 3, 206, 1, 1, 0, 0, []),
  (38, none, .aload_n 0, 1, 0, 0, 0, 0, 0, []),
  (39, none, .invokevirtual 364, 3, 217, 1, 2, 0, 0, []),
  (42, none, .pop, 1, 0, 0, 0, 0, 0, []),
  (43, none, .aload_n 0, 1, 0, 0, 0, 0, 0, []),
  (44, none, .getfield 7, 3, 11, 0, 22, 1, 0, []),
  (47, none, .iconst 1, 1, 0, 0, 0, 0, 0, []),
  (48, none, .iaload, 1, 0, 0, 0, 0, 0, []),
  (49, none, .iload_n 1, 1, 1, 0, 0, 0, 0, []),
  (50, none, .if_icmp .ne 5, 3, 55, 0, 0, 0, 0, []),
  (53, none, .iload_n 2, 1, 2, 0, 0, 0, 0, []),
  (54, none, .ireturn, 1, 0, 0, 0, 0, 0, []),
  (55, none, .iinc 2 1, 3, 2, 0, 0, 0, 0, []),
  (58, none, .goto (-30), 3, 28, 0, 0, 0, 0, []),
  (61, none, .iconst (-1), 1, 0, 0, 0, 0, 0, []),
  (62, none, .ireturn, 1, 0, 0, 0, 0, 0, [])]
noncomputable def K_m_of : List aE := [
  (0, none, .aload_n 0, 1, 0, 0, 0, 0, 0, []),
  (1, none, .iload_n 1, 1, 1, 0, 0, 0, 0, []),
  (2, none, .invokevirtual 75, 3, 152, 2, 2, 0, 0, []),
  (5, none, .ifCond .ne 5, 3, 10, 0, 0, 0, 0, []),
  (8, none, .iconst (-1), 1, 0, 0, 0, 0, 0, []),
  (9, none, .ireturn, 1, 0, 0, 0, 0, 0, []),
  (10, none, .iload_n 2, 1, 2, 0, 0, 0, 0, []),
  (11, none, .tableswitch 117 0 7 #[45, 55, 65, 79, 89, 99, 105, 111], 45, 128, 0, 0, 0, 0, [(0, 56), (1, 66), (2, 76), (3, 90), (4, 100), (5, 110), (6, 116), (7, 122)]),
  (56, none, .aload_n 0, 1, 0, 0, 0, 0, 0, []),
  (57, none, .getfield 7, 3, 11, 0, 22, 1, 0, []),
  (60, none, .bipush 53, 2, 0, 0, 0, 0, 0, []),
  (62, none, .iload_n 1, 1, 1, 0, 0, 0, 0, []),
  (63, none, .iadd, 1, 0, 0, 0, 0, 0, []),
  (64, none, .iaload, 1, 0, 0, 0, 0, 0, []),
  (65, none, .ireturn, 1, 0, 0, 0, 0, 0, []),
  (66, none, .aload_n 0, 1, 0, 0, 0, 0, 0, []),
  (67, none, .getfield 7, 3, 11, 0, 22, 1, 0, []),
  (70, none, .bipush 11, 2, 0, 0, 0, 0, 0, []),
  (72, none, .iload_n 1, 1, 1, 0, 0, 0, 0, []),
  (73, none, .iadd, 1, 0, 0, 0, 0, 0, []),
  (74, none, .iaload, 1, 0, 0, 0, 0, 0, []),
  (75, none, .ireturn, 1, 0, 0, 0, 0, 0, []),
  (76, none, .aload_n 0, 1, 0, 0, 0, 0, 0, []),
  (77, none, .iload_n 1, 1, 1, 0, 0, 0, 0, []),
  (78, none, .invokevirtual 309, 3, 153, 2, 2, 0, 0, []),
  (81, none, .ifCond .eq 7, 3, 88, 0, 0, 0, 0, []),
  (84, none, .iconst 1, 1, 0, 0, 0, 0, 0, []),
  (85, none, .goto 4, 3, 89, 0, 0, 0, 0, []),
  (88, none, .iconst 0, 1, 0, 0, 0, 0, 0, []),
  (89, none, .ireturn, 1, 0, 0, 0, 0, 0, []),
  (90, none, .aload_n 0, 1, 0, 0, 0, 0, 0, []),
  (91, none, .getfield 7, 3, 11, 0, 22, 1, 0, []),
  (94, none, .bipush 21, 2, 0, 0, 0, 0, 0, []),
  (96, none, .iload_n 1, 1, 1, 0, 0, 0, 0, []),
  (97, none, .iadd, 1, 0, 0, 0, 0, 0, []),
  (98, none, .iaload, 1, 0, 0, 0, 0, 0, []),
  (99, none, .ireturn, 1, 0, 0, 0, 0, 0, []),
  (100, none, .aload_n 0, 1, 0, 0, 0, 0, 0, []),
  (101, none, .getfield 7, 3, 11, 0, 22, 1, 0, []),
  (104, none, .bipush 31, 2, 0, 0, 0, 0, 0, []),
  (106, none, .iload_n 1, 1, 1, 0, 0, 0, 0, []),
  (107, none, .iadd, 1, 0, 0, 0, 0, 0, []),
  (108, none, .iaload, 1, 0, 0, 0, 0, 0, []),
  (109, none, .ireturn, 1, 0, 0, 0, 0, 0, []),
  (110, none, .aload_n 0, 1, 0, 0, 0, 0, 0, []),
  (111, none, .iload_n 1, 1, 1, 0, 0, 0, 0, []),
  (112, none, .invokevirtual 312, 3, 201, 2, 2, 0, 0, []),
  (115, none, .ireturn, 1, 0, 0, 0, 0, 0, []),
  (116, none, .aload_n 0, 1, 0, 0, 0, 0, 0, []),
  (117, none, .iload_n 1, 1, 1, 0, 0, 0, 0, []),
  (118, none, .invokevirtual 342, 3, 202, 2, 2, 0, 0, []),
  (121, none, .ireturn, 1, 0, 0, 0, 0, 0, []),
  (122, none, .aload_n 0, 1, 0, 0, 0, 0, 0, []),
  (123, none, .iload_n 1, 1, 1, 0, 0, 0, 0, []),
  (124, none, .invokevirtual 345, 3, 203, 2, 2, 0, 0, []),
  (127, none, .ireturn, 1, 0, 0, 0, 0, 0, []),
  (128, none, .iconst (-1), 1, 0, 0, 0, 0, 0, []),
  (129, none, .ireturn, 1, 0, 0, 0, 0, 0, [])]
noncomputable def K_m_due : List aE := [
  (0, none, .iload_n 1, 1, 1, 0, 0, 0, 0, []),
  (1, none, .iconst 0, 1, 0, 0, 0, 0, 0, []),
  (2, none, .aload_n 0, 1, 0, 0, 0, 0, 0, []),
  (3, none, .getfield 7, 3, 11, 0, 22, 1, 0, []),
  (6, none, .bipush 46, 2, 0, 0, 0, 0, 0, []),
  (8, none, .iaload, 1, 0, 0, 0, 0, 0, []),
  (9, none, .iconst 1, 1, 0, 0, 0, 0, 0, []),
  (10, none, .isub, 1, 0, 0, 0, 0, 0, []),
  (11, none, .invokestatic 71, 3, 148, 3, 2, 0, 0, []),
  (14, none, .ifCond .eq 12, 3, 26, 0, 0, 0, 0, []),
  (17, none, .iload_n 2, 1, 2, 0, 0, 0, 0, []),
  (18, none, .iconst 0, 1, 0, 0, 0, 0, 0, []),
  (19, none, .iconst 3, 1, 0, 0, 0, 0, 0, []),
  (20, none, .invokestatic 71, 3, 148, 3, 2, 0, 0, []),
  (23, none, .ifCond .ne 6, 3, 29, 0, 0, 0, 0, []),
  (26, none, .bipush (-2), 2, 0, 0, 0, 0, 0, []),
  (28, none, .ireturn, 1, 0, 0, 0, 0, 0, []),
  (29, none, .iload_n 2, 1, 2, 0, 0, 0, 0, []),
  (30, none, .iconst 3, 1, 0, 0, 0, 0, 0, []),
  (31, none, .if_icmp .ge 19, 3, 50, 0, 0, 0, 0, []),
  (34, none, .aload_n 0, 1, 0, 0, 0, 0, 0, []),
  (35, none, .getfield 7, 3, 11, 0, 22, 1, 0, []),
  (38, none, .bipush 111, 2, 0, 0, 0, 0, 0, []),
  (40, none, .iconst 3, 1, 0, 0, 0, 0, 0, []),
  (41, none, .iload_n 1, 1, 1, 0, 0, 0, 0, []),
  (42, none, .imul, 1, 0, 0, 0, 0, 0, []),
  (43, none, .iadd, 1, 0, 0, 0, 0, 0, []),
  (44, none, .iload_n 2, 1, 2, 0, 0, 0, 0, []),
  (45, none, .iadd, 1, 0, 0, 0, 0, 0, []),
  (46, none, .iaload, 1, 0, 0, 0, 0, 0, []),
  (47, none, .goto 14, 3, 61, 0, 0, 0, 0, []),
  (50, none, .aload_n 0, 1, 0, 0, 0, 0, 0, []),
  (51, none, .getfield 7, 3, 11, 0, 22, 1, 0, []),
  (54, none, .bipush 9, 2, 0, 0, 0, 0, 0, []),
  (56, none, .iaload, 1, 0, 0, 0, 0, 0, []),
  (57, none, .iload_n 1, 1, 1, 0, 0, 0, 0, []),
  (58, none, .ishr, 1, 0, 0, 0, 0, 0, []),
  (59, none, .iconst 1, 1, 0, 0, 0, 0, 0, []),
  (60, none, .iand, 1, 0, 0, 0, 0, 0, []),
  (61, none, .ireturn, 1, 0, 0, 0, 0, 0, [])]
noncomputable def K_m_book : List aE := [
  (0, none, .iload_n 1, 1, 1, 0, 0, 0, 0, []),
  (1, none, .iconst 0, 1, 0, 0, 0, 0, 0, []),
  (2, none, .aload_n 0, 1, 0, 0, 0, 0, 0, []),
  (3, none, .getfield 7, 3, 11, 0, 22, 1, 0, []),
  (6, none, .bipush 8, 2, 0, 0, 0, 0, 0, []),
  (8, none, .iaload, 1, 0, 0, 0, 0, 0, []),
  (9, none, .iconst 1, 1, 0, 0, 0, 0, 0, []),
  (10, none, .isub, 1, 0, 0, 0, 0, 0, []),
  (11, none, .invokestatic 71, 3, 148, 3, 2, 0, 0, []),
  (14, none, .ifCond .eq 29, 3, 43, 0, 0, 0, 0, []),
  (17, none, .iload_n 2, 1, 2, 0, 0, 0, 0, []),
  (18, none, .iconst 0, 1, 0, 0, 0, 0, 0, []),
  (19, none, .iconst 3, 1, 0, 0, 0, 0, 0, []),
  (20, none, .invokestatic 71, 3, 148, 3, 2, 0, 0, []),
  (23, none, .ifCond .eq 20, 3, 43, 0, 0, 0, 0, []),
  (26, none, .aload_n 0, 1, 0, 0, 0, 0, 0, []),
  (27, none, .getfield 7, 3, 11, 0, 22, 1, 0, []),
  (30, none, .sipush 284, 3, 0, 0, 0, 0, 0, []),
  (33, none, .iconst 4, 1, 0, 0, 0, 0, 0, []),
  (34, none, .iload_n 1, 1, 1, 0, 0, 0, 0, []),
  (35, none, .imul, 1, 0, 0, 0, 0, 0, []),
  (36, none, .iadd, 1, 0, 0, 0, 0, 0, []),
  (37, none, .iload_n 2, 1, 2, 0, 0, 0, 0, []),
  (38, none, .iadd, 1, 0, 0, 0, 0, 0, []),
  (39, none, .iaload, 1, 0, 0, 0, 0, 0, []),
  (40, none, .goto 5, 3, 45, 0, 0, 0, 0, []),
  (43, none, .bipush (-2), 2, 0, 0, 0, 0, 0, []),
  (45, none, .ireturn, 1, 0, 0, 0, 0, 0, [])]
noncomputable def K_m_nextOf : List aE := [
  (0, none, .aload_n 0, 1, 0, 0, 0, 0, 0, []),
  (1, none, .invokevirtual 333, 3, 204, 1, 2, 0, 0, []),
  (4, none, .istore_n 2, 1, 2, 0, 0, 0, 0, []),
  (5, none, .aload_n 0, 1, 0, 0, 0, 0, 0, []),
  (6, none, .iload_n 1, 1, 1, 0, 0, 0, 0, []),
  (7, none, .invokevirtual 309, 3, 153, 2, 2, 0, 0, []),
  (10, none, .ifCond .eq 7, 3, 17, 0, 0, 0, 0, []),
  (13, none, .iload_n 2, 1, 2, 0, 0, 0, 0, []),
  (14, none, .ifCond .ne 5, 3, 19, 0, 0, 0, 0, []),
  (17, none, .lconst 0, 1, 0, 0, 0, 0, 0, []),
  (18, none, .lreturn, 1, 0, 0, 0, 0, 0, []),
  (19, none, .ldc2_w 367, 3, 0, 0, 0, 0, 1000000, []),
  (22, none, .aload_n 0, 1, 0, 0, 0, 0, 0, []),
  (23, none, .iload_n 1, 1, 1, 0, 0, 0, 0, []),
  (24, none, .invokevirtual 312, 3, 201, 2, 2, 0, 0, []),
  (27, none, .i2l, 1, 0, 0, 0, 0, 0, []),
  (28, none, .lmul, 1, 0, 0, 0, 0, 0, []),
  (29, none, .iload_n 2, 1, 2, 0, 0, 0, 0, []),
  (30, none, .i2l, 1, 0, 0, 0, 0, 0, []),
  (31, none, .ldiv, 1, 0, 0, 0, 0, 0, []),
  (32, none, .sipush 1000, 3, 0, 0, 0, 0, 0, []),
  (35, none, .aload_n 0, 1, 0, 0, 0, 0, 0, []),
  (36, none, .getfield 7, 3, 11, 0, 22, 1, 0, []),
  (39, none, .bipush 43, 2, 0, 0, 0, 0, 0, []),
  (41, none, .iaload, 1, 0, 0, 0, 0, 0, []),
  (42, none, .isub, 1, 0, 0, 0, 0, 0, []),
  (43, none, .i2l, 1, 0, 0, 0, 0, 0, []),
  (44, none, .lmul, 1, 0, 0, 0, 0, 0, []),
  (45, none, .ldc2_w 369, 3, 0, 0, 0, 0, 1000, []),
  (48, none, .ldiv, 1, 0, 0, 0, 0, 0, []),
  (49, none, .lreturn, 1, 0, 0, 0, 0, 0, [])]
noncomputable def K_m_next : List aE := [
  (0, none, .aload_n 0, 1, 0, 0, 0, 0, 0, []),
  (1, none, .iload_n 1, 1, 1, 0, 0, 0, 0, []),
  (2, none, .invokevirtual 75, 3, 152, 2, 2, 0, 0, []),
  (5, none, .ifCond .eq 13, 3, 18, 0, 0, 0, 0, []),
  (8, none, .iload_n 2, 1, 2, 0, 0, 0, 0, []),
  (9, none, .iconst 0, 1, 0, 0, 0, 0, 0, []),
  (10, none, .bipush 60, 2, 0, 0, 0, 0, 0, []),
  (12, none, .invokestatic 71, 3, 148, 3, 2, 0, 0, []),
  (15, none, .ifCond .ne 5, 3, 20, 0, 0, 0, 0, []),
  (18, none, .iconst (-1), 1, 0, 0, 0, 0, 0, []),
  (19, none, .ireturn, 1, 0, 0, 0, 0, 0, []),
  (20, none, .aload_n 0, 1, 0, 0, 0, 0, 0, []),
  (21, none, .iload_n 1, 1, 1, 0, 0, 0, 0, []),
  (22, none, .invokevirtual 371, 3, 223, 2, 3, 0, 0, []),
  (25, none, .lstore_n 3, 1, 3, 0, 0, 0, 0, []),
  (26, none, .iload_n 2, 1, 2, 0, 0, 0, 0, []),
  (27, none, .ifCond .ne 6, 3, 33, 0, 0, 0, 0, []),
  (30, none, .lload_n 3, 1, 3, 0, 0, 0, 0, []),
  (31, none, .l2i, 1, 0, 0, 0, 0, 0, []),
  (32, none, .ireturn, 1, 0, 0, 0, 0, 0, []),
  (33, none, .ldc2_w 367, 3, 0, 0, 0, 0, 1000000, []),
  (36, none, .lstore 5, 2, 5, 0, 0, 0, 0, []),
  (38, none, .iconst 0, 1, 0, 0, 0, 0, 0, []),
  (39, none, .istore 7, 2, 7, 0, 0, 0, 0, []),
  (41, some [false, false, true, true, false, true, false, true], .iload 7, 2, 7, 0, 0, 0, 0, []),
  (43, none, .iload_n 2, 1, 2, 0, 0, 0, 0, []),
  (44, none, .if_icmp .ge 22, 3, 66, 0, 0, 0, 0, []),
  (47, none, .lload 5, 2, 5, 0, 0, 0, 0, []),
  (49, none, .lload 5, 2, 5, 0, 0, 0, 0, []),
  (51, none, .lload_n 3, 1, 3, 0, 0, 0, 0, []),
  (52, none, .lmul, 1, 0, 0, 0, 0, 0, []),
  (53, none, .ldc2_w 367, 3, 0, 0, 0, 0, 1000000, []),
  (56, none, .ldiv, 1, 0, 0, 0, 0, 0, []),
  (57, none, .lsub, 1, 0, 0, 0, 0, 0, []),
  (58, none, .lstore 5, 2, 5, 0, 0, 0, 0, []),
  (60, none, .iinc 7 1, 3, 7, 0, 0, 0, 0, []),
  (63, none, .goto (-22), 3, 41, 0, 0, 0, 0, []),
  (66, none, .ldc2_w 367, 3, 0, 0, 0, 0, 1000000, []),
  (69, none, .lload 5, 2, 5, 0, 0, 0, 0, []),
  (71, none, .lsub, 1, 0, 0, 0, 0, 0, []),
  (72, none, .l2i, 1, 0, 0, 0, 0, 0, []),
  (73, none, .ireturn, 1, 0, 0, 0, 0, 0, [])]
noncomputable def K_m_likeliest : List aE := [
  (0, none, .aload_n 0, 1, 0, 0, 0, 0, 0, []),
  (1, none, .invokevirtual 339, 3, 205, 1, 2, 0, 0, []),
  (4, none, .ireturn, 1, 0, 0, 0, 0, 0, [])]
noncomputable def K_m_goes : List aE := [
  (0, none, .iload_n 1, 1, 1, 0, 0, 0, 0, []),
  (1, none, .iconst 1, 1, 0, 0, 0, 0, 0, []),
  (2, none, .bipush 99, 2, 0, 0, 0, 0, 0, []),
  (4, none, .invokestatic 71, 3, 148, 3, 2, 0, 0, []),
  (7, none, .ifCond .eq 12, 3, 19, 0, 0, 0, 0, []),
  (10, none, .iload_n 2, 1, 2, 0, 0, 0, 0, []),
  (11, none, .iconst 0, 1, 0, 0, 0, 0, 0, []),
  (12, none, .iconst 3, 1, 0, 0, 0, 0, 0, []),
  (13, none, .invokestatic 71, 3, 148, 3, 2, 0, 0, []),
  (16, none, .ifCond .ne 7, 3, 23, 0, 0, 0, 0, []),
  (19, none, .ldc_w 375, 3, 0, 0, 0, 0, (-100000), []),
  (22, none, .ireturn, 1, 0, 0, 0, 0, 0, []),
  (23, none, .iconst 0, 1, 0, 0, 0, 0, 0, []),
  (24, none, .istore_n 3, 1, 3, 0, 0, 0, 0, []),
  (25, some [true, true, true, true, false], .iload_n 3, 1, 3, 0, 0, 0, 0, []),
  (26, none, .bipush 41, 2, 0, 0, 0, 0, 0, []),
  (28, none, .if_icmp .ge 21, 3, 49, 0, 0, 0, 0, []),
  (31, none, .aload_n 0, 1, 0, 0, 0, 0, 0, []),
  (32, none, .getfield 19, 3, 11, 3, 22, 4, 0, []),
  (35, none, .iload_n 3, 1, 3, 0, 0, 0, 0, []),
  (36, none, .aload_n 0, 1, 0, 0, 0, 0, 0, []),
  (37, none, .getfield 7, 3, 11, 0, 22, 1, 0, []),
  (40, none, .iload_n 3, 1, 3, 0, 0, 0, 0, []),
  (41, none, .iaload, 1, 0, 0, 0, 0, 0, []),
  (42, none, .iastore, 1, 0, 0, 0, 0, 0, []),
  (43, none, .iinc 3 1, 3, 3, 0, 0, 0, 0, []),
  (46, none, .goto (-21), 3, 25, 0, 0, 0, 0, []),
  (49, none, .aload_n 0, 1, 0, 0, 0, 0, 0, []),
  (50, none, .iconst 0, 1, 0, 0, 0, 0, 0, []),
  (51, none, .putfield 315, 3, 11, 26, 1, 0, 0, []),
  (54, none, .iconst 0, 1, 0, 0, 0, 0, 0, []),
  (55, none, .istore_n 3, 1, 3, 0, 0, 0, 0, []),
  (56, some [true, true, true, true, false], .iload_n 3, 1, 3, 0, 0, 0, 0, []),
  (57, none, .iload_n 1, 1, 1, 0, 0, 0, 0, []),
  (58, none, .if_icmp .ge 14, 3, 72, 0, 0, 0, 0, []),
  (61, none, .aload_n 0, 1, 0, 0, 0, 0, 0, []),
  (62, none, .invokevirtual 364, 3, 217, 1, 2, 0, 0, []),
  (65, none, .pop, 1, 0, 0, 0, 0, 0, []),
  (66, none, .iinc 3 1, 3, 3, 0, 0, 0, 0, []),
  (69, none, .goto (-13), 3, 56, 0, 0, 0, 0, []),
  (72, none, .iload_n 2, 1, 2, 0, 0, 0, 0, []),
  (73, none, .ifCond .ne 12, 3, 85, 0, 0, 0, 0, []),
  (76, none, .aload_n 0, 1, 0, 0, 0, 0, 0, []),
  (77, none, .getfield 7, 3, 11, 0, 22, 1, 0, []),
  (80, none, .iconst 2, 1, 0, 0, 0, 0, 0, []),
  (81, none, .iaload, 1, 0, 0, 0, 0, 0, []),
  (82, none, .goto 41, 3, 123, 0, 0, 0, 0, []),
  (85, none, .iload_n 2, 1, 2, 0, 0, 0, 0, []),
  (86, none, .iconst 1, 1, 0, 0, 0, 0, 0, []),
  (87, none, .if_icmp .ne 12, 3, 99, 0, 0, 0, 0, []),
  (90, none, .aload_n 0, 1, 0, 0, 0, 0, 0, []),
  (91, none, .getfield 7, 3, 11, 0, 22, 1, 0, []),
  (94, none, .iconst 3, 1, 0, 0, 0, 0, 0, []),
  (95, none, .iaload, 1, 0, 0, 0, 0, 0, []),
  (96, none, .goto 27, 3, 123, 0, 0, 0, 0, []),
  (99, none, .iload_n 2, 1, 2, 0, 0, 0, 0, []),
  (100, none, .iconst 2, 1, 0, 0, 0, 0, 0, []),
  (101, none, .if_icmp .ne 16, 3, 117, 0, 0, 0, 0, []),
  (104, none, .aload_n 0, 1, 0, 0, 0, 0, 0, []),
  (105, none, .getfield 7, 3, 11, 0, 22, 1, 0, []),
  (108, none, .bipush 9, 2, 0, 0, 0, 0, 0, []),
  (110, none, .iaload, 1, 0, 0, 0, 0, 0, []),
  (111, none, .invokestatic 376, 3, 154, 1, 2, 0, 0, []),
  (114, none, .goto 9, 3, 123, 0, 0, 0, 0, []),
  (117, none, .aload_n 0, 1, 0, 0, 0, 0, 0, []),
  (118, none, .getfield 7, 3, 11, 0, 22, 1, 0, []),
  (121, none, .iconst 1, 1, 0, 0, 0, 0, 0, []),
  (122, none, .iaload, 1, 0, 0, 0, 0, 0, []),
  (123, none, .istore_n 3, 1, 3, 0, 0, 0, 0, []),
  (124, none, .iconst 0, 1, 0, 0, 0, 0, 0, []),
  (125, none, .istore 4, 2, 4, 0, 0, 0, 0, []),
  (127, some [true, false, false, true, true], .iload 4, 2, 4, 0, 0, 0, 0, []),
  (129, none, .bipush 41, 2, 0, 0, 0, 0, 0, []),
  (131, none, .if_icmp .ge 23, 3, 154, 0, 0, 0, 0, []),
  (134, none, .aload_n 0, 1, 0, 0, 0, 0, 0, []),
  (135, none, .getfield 7, 3, 11, 0, 22, 1, 0, []),
  (138, none, .iload 4, 2, 4, 0, 0, 0, 0, []),
  (140, none, .aload_n 0, 1, 0, 0, 0, 0, 0, []),
  (141, none, .getfield 19, 3, 11, 3, 22, 4, 0, []),
  (144, none, .iload 4, 2, 4, 0, 0, 0, 0, []),
  (146, none, .iaload, 1, 0, 0, 0, 0, 0, []),
  (147, none, .iastore, 1, 0, 0, 0, 0, 0, []),
  (148, none, .iinc 4 1, 3, 4, 0, 0, 0, 0, []),
  (151, none, .goto (-24), 3, 127, 0, 0, 0, 0, []),
  (154, none, .iload_n 3, 1, 3, 0, 0, 0, 0, []),
  (155, none, .ireturn, 1, 0, 0, 0, 0, 0, [])]
noncomputable def K_m_reads : List aE := [
  (0, none, .iload_n 1, 1, 1, 0, 0, 0, 0, []),
  (1, none, .iconst 0, 1, 0, 0, 0, 0, 0, []),
  (2, none, .aload_n 0, 1, 0, 0, 0, 0, 0, []),
  (3, none, .getfield 7, 3, 11, 0, 22, 1, 0, []),
  (6, none, .bipush 46, 2, 0, 0, 0, 0, 0, []),
  (8, none, .iaload, 1, 0, 0, 0, 0, 0, []),
  (9, none, .iconst 1, 1, 0, 0, 0, 0, 0, []),
  (10, none, .isub, 1, 0, 0, 0, 0, 0, []),
  (11, none, .invokestatic 71, 3, 148, 3, 2, 0, 0, []),
  (14, none, .ifCond .ne 5, 3, 19, 0, 0, 0, 0, []),
  (17, none, .iconst (-1), 1, 0, 0, 0, 0, 0, []),
  (18, none, .ireturn, 1, 0, 0, 0, 0, 0, []),
  (19, none, .aload_n 0, 1, 0, 0, 0, 0, 0, []),
  (20, none, .getfield 7, 3, 11, 0, 22, 1, 0, []),
  (23, none, .bipush 111, 2, 0, 0, 0, 0, 0, []),
  (25, none, .iconst 3, 1, 0, 0, 0, 0, 0, []),
  (26, none, .iload_n 1, 1, 1, 0, 0, 0, 0, []),
  (27, none, .imul, 1, 0, 0, 0, 0, 0, []),
  (28, none, .iadd, 1, 0, 0, 0, 0, 0, []),
  (29, none, .iconst 1, 1, 0, 0, 0, 0, 0, []),
  (30, none, .iadd, 1, 0, 0, 0, 0, 0, []),
  (31, none, .iaload, 1, 0, 0, 0, 0, 0, []),
  (32, none, .istore_n 2, 1, 2, 0, 0, 0, 0, []),
  (33, none, .aload_n 0, 1, 0, 0, 0, 0, 0, []),
  (34, none, .iload_n 2, 1, 2, 0, 0, 0, 0, []),
  (35, none, .invokevirtual 309, 3, 153, 2, 2, 0, 0, []),
  (38, none, .ifCond .eq 5, 3, 43, 0, 0, 0, 0, []),
  (41, none, .iconst (-1), 1, 0, 0, 0, 0, 0, []),
  (42, none, .ireturn, 1, 0, 0, 0, 0, 0, []),
  (43, none, .iconst (-1), 1, 0, 0, 0, 0, 0, []),
  (44, none, .istore_n 3, 1, 3, 0, 0, 0, 0, []),
  (45, none, .iconst 0, 1, 0, 0, 0, 0, 0, []),
  (46, none, .istore 4, 2, 4, 0, 0, 0, 0, []),
  (48, some [true, false, true, true, true, false, false], .iload 4, 2, 4, 0, 0, 0, 0, []),
  (50, none, .aload_n 0, 1, 0, 0, 0, 0, 0, []),
  (51, none, .getfield 7, 3, 11, 0, 22, 1, 0, []),
  (54, none, .bipush 41, 2, 0, 0, 0, 0, 0, []),
  (56, none, .iaload, 1, 0, 0, 0, 0, 0, []),
  (57, none, .if_icmp .ge 157, 3, 214, 0, 0, 0, 0, []),
  (60, none, .aload_n 0, 1, 0, 0, 0, 0, 0, []),
  (61, none, .iload 4, 2, 4, 0, 0, 0, 0, []),
  (63, none, .invokevirtual 309, 3, 153, 2, 2, 0, 0, []),
  (66, none, .ifCond .ne 6, 3, 72, 0, 0, 0, 0, []),
  (69, none, .goto 139, 3, 208, 0, 0, 0, 0, []),
  (72, none, .iload_n 3, 1, 3, 0, 0, 0, 0, []),
  (73, none, .iconst (-1), 1, 0, 0, 0, 0, 0, []),
  (74, none, .if_icmp .ne 7, 3, 81, 0, 0, 0, 0, []),
  (77, none, .iconst (-1), 1, 0, 0, 0, 0, 0, []),
  (78, none, .goto 49, 3, 127, 0, 0, 0, 0, []),
  (81, none, .aload_n 0, 1, 0, 0, 0, 0, 0, []),
  (82, none, .getfield 7, 3, 11, 0, 22, 1, 0, []),
  (85, none, .bipush 53, 2, 0, 0, 0, 0, 0, []),
  (87, none, .iload 4, 2, 4, 0, 0, 0, 0, []),
  (89, none, .iadd, 1, 0, 0, 0, 0, 0, []),
  (90, none, .iaload, 1, 0, 0, 0, 0, 0, []),
  (91, none, .aload_n 0, 1, 0, 0, 0, 0, 0, []),
  (92, none, .getfield 7, 3, 11, 0, 22, 1, 0, []),
  (95, none, .bipush 53, 2, 0, 0, 0, 0, 0, []),
  (97, none, .iload_n 2, 1, 2, 0, 0, 0, 0, []),
  (98, none, .iadd, 1, 0, 0, 0, 0, 0, []),
  (99, none, .iaload, 1, 0, 0, 0, 0, 0, []),
  (100, none, .isub, 1, 0, 0, 0, 0, 0, []),
  (101, none, .invokestatic 379, 3, 151, 1, 2, 0, 0, []),
  (104, none, .aload_n 0, 1, 0, 0, 0, 0, 0, []),
  (105, none, .getfield 7, 3, 11, 0, 22, 1, 0, []),
  (108, none, .bipush 53, 2, 0, 0, 0, 0, 0, []),
  (110, none, .iload_n 3, 1, 3, 0, 0, 0, 0, []),
  (111, none, .iadd, 1, 0, 0, 0, 0, 0, []),
  (112, none, .iaload, 1, 0, 0, 0, 0, 0, []),
  (113, none, .aload_n 0, 1, 0, 0, 0, 0, 0, []),
  (114, none, .getfield 7, 3, 11, 0, 22, 1, 0, []),
  (117, none, .bipush 53, 2, 0, 0, 0, 0, 0, []),
  (119, none, .iload_n 2, 1, 2, 0, 0, 0, 0, []),
  (120, none, .iadd, 1, 0, 0, 0, 0, 0, []),
  (121, none, .iaload, 1, 0, 0, 0, 0, 0, []),
  (122, none, .isub, 1, 0, 0, 0, 0, 0, []),
  (123, none, .invokestatic 379, 3, 151, 1, 2, 0, 0, []),
  (126, none, .isub, 1, 0, 0, 0, 0, 0, []),
  (127, none, .istore 5, 2, 5, 0, 0, 0, 0, []),
  (129, none, .iload_n 3, 1, 3, 0, 0, 0, 0, []),
  (130, none, .iconst (-1), 1, 0, 0, 0, 0, 0, []),
  (131, none, .if_icmp .ne 7, 3, 138, 0, 0, 0, 0, []),
  (134, none, .iconst (-1), 1, 0, 0, 0, 0, 0, []),
  (135, none, .goto 49, 3, 184, 0, 0, 0, 0, []),
  (138, none, .aload_n 0, 1, 0, 0, 0, 0, 0, []),
  (139, none, .getfield 7, 3, 11, 0, 22, 1, 0, []),
  (142, none, .bipush 11, 2, 0, 0, 0, 0, 0, []),
  (144, none, .iload 4, 2, 4, 0, 0, 0, 0, []),
  (146, none, .iadd, 1, 0, 0, 0, 0, 0, []),
  (147, none, .iaload, 1, 0, 0, 0, 0, 0, []),
  (148, none, .aload_n 0, 1, 0, 0, 0, 0, 0, []),
  (149, none, .getfield 7, 3, 11, 0, 22, 1, 0, []),
  (152, none, .bipush 11, 2, 0, 0, 0, 0, 0, []),
  (154, none, .iload_n 2, 1, 2, 0, 0, 0, 0, []),
  (155, none, .iadd, 1, 0, 0, 0, 0, 0, []),
  (156, none, .iaload, 1, 0, 0, 0, 0, 0, []),
  (157, none, .isub, 1, 0, 0, 0, 0, 0, []),
  (158, none, .invokestatic 379, 3, 151, 1, 2, 0, 0, []),
  (161, none, .aload_n 0, 1, 0, 0, 0, 0, 0, []),
  (162, none, .getfield 7, 3, 11, 0, 22, 1, 0, []),
  (165, none, .bipush 11, 2, 0, 0, 0, 0, 0, []),
  (167, none, .iload_n 3, 1, 3, 0, 0, 0, 0, []),
  (168, none, .iadd, 1, 0, 0, 0, 0, 0, []),
  (169, none, .iaload, 1, 0, 0, 0, 0, 0, []),
  (170, none, .aload_n 0, 1, 0, 0, 0, 0, 0, []),
  (171, none, .getfield 7, 3, 11, 0, 22, 1, 0, []),
  (174, none, .bipush 11, 2, 0, 0, 0, 0, 0, []),
  (176, none, .iload_n 2, 1, 2, 0, 0, 0, 0, []),
  (177, none, .iadd, 1, 0, 0, 0, 0, 0, []),
  (178, none, .iaload, 1, 0, 0, 0, 0, 0, []),
  (179, none, .isub, 1, 0, 0, 0, 0, 0, []),
  (180, none, .invokestatic 379, 3, 151, 1, 2, 0, 0, []),
  (183, none, .isub, 1, 0, 0, 0, 0, 0, []),
  (184, none, .istore 6, 2, 6, 0, 0, 0, 0, []),
  (186, none, .iload 5, 2, 5, 0, 0, 0, 0, []),
  (188, none, .ifCond .lt 13, 3, 201, 0, 0, 0, 0, []),
  (191, none, .iload 5, 2, 5, 0, 0, 0, 0, []),
  (193, none, .ifCond .ne 13, 3, 206, 0, 0, 0, 0, []),
  (196, none, .iload 6, 2, 6, 0, 0, 0, 0, []),
  (198, none, .ifCond .ge 8, 3, 206, 0, 0, 0, 0, []),
  (201, some [true, false, true, false, true, false, false], .iload 4, 2, 4, 0, 0, 0, 0, []),
  (203, none, .goto 4, 3, 207, 0, 0, 0, 0, []),
  (206, none, .iload_n 3, 1, 3, 0, 0, 0, 0, []),
  (207, none, .istore_n 3, 1, 3, 0, 0, 0, 0, []),
  (208, some [true, false, true, true, true, false, false], .iinc 4 1, 3, 4, 0, 0, 0, 0, []),
  (211, none, .goto (-163), 3, 48, 0, 0, 0, 0, []),
  (214, none, .iload_n 3, 1, 3, 0, 0, 0, 0, []),
  (215, none, .ireturn, 1, 0, 0, 0, 0, 0, [])]
noncomputable def K_m_seen : List aE := [
  (0, none, .iload_n 1, 1, 1, 0, 0, 0, 0, []),
  (1, none, .iconst (-1), 1, 0, 0, 0, 0, 0, []),
  (2, none, .if_icmp .ne 13, 3, 15, 0, 0, 0, 0, []),
  (5, none, .aload_n 0, 1, 0, 0, 0, 0, 0, []),
  (6, none, .getfield 7, 3, 11, 0, 22, 1, 0, []),
  (9, none, .bipush 48, 2, 0, 0, 0, 0, 0, []),
  (11, none, .iconst 0, 1, 0, 0, 0, 0, 0, []),
  (12, none, .iastore, 1, 0, 0, 0, 0, 0, []),
  (13, none, .iconst 0, 1, 0, 0, 0, 0, 0, []),
  (14, none, .ireturn, 1, 0, 0, 0, 0, 0, []),
  (15, none, .aload_n 0, 1, 0, 0, 0, 0, 0, []),
  (16, none, .iload_n 1, 1, 1, 0, 0, 0, 0, []),
  (17, none, .invokevirtual 75, 3, 152, 2, 2, 0, 0, []),
  (20, none, .ifCond .eq 28, 3, 48, 0, 0, 0, 0, []),
  (23, none, .aload_n 0, 1, 0, 0, 0, 0, 0, []),
  (24, none, .iload_n 2, 1, 2, 0, 0, 0, 0, []),
  (25, none, .invokevirtual 75, 3, 152, 2, 2, 0, 0, []),
  (28, none, .ifCond .eq 20, 3, 48, 0, 0, 0, 0, []),
  (31, none, .iload_n 1, 1, 1, 0, 0, 0, 0, []),
  (32, none, .iload_n 2, 1, 2, 0, 0, 0, 0, []),
  (33, none, .if_icmp .eq 15, 3, 48, 0, 0, 0, 0, []),
  (36, none, .aload_n 0, 1, 0, 0, 0, 0, 0, []),
  (37, none, .getfield 7, 3, 11, 0, 22, 1, 0, []),
  (40, none, .bipush 48, 2, 0, 0, 0, 0, 0, []),
  (42, none, .iaload, 1, 0, 0, 0, 0, 0, []),
  (43, none, .bipush 12, 2, 0, 0, 0, 0, 0, []),
  (45, none, .if_icmp .ne 5, 3, 50, 0, 0, 0, 0, []),
  (48, none, .iconst (-1), 1, 0, 0, 0, 0, 0, []),
  (49, none, .ireturn, 1, 0, 0, 0, 0, 0, []),
  (50, none, .aload_n 0, 1, 0, 0, 0, 0, 0, []),
  (51, none, .getfield 7, 3, 11, 0, 22, 1, 0, []),
  (54, none, .sipush 175, 3, 0, 0, 0, 0, 0, []),
  (57, none, .iconst 2, 1, 0, 0, 0, 0, 0, []),
  (58, none, .aload_n 0, 1, 0, 0, 0, 0, 0, []),
  (59, none, .getfield 7, 3, 11, 0, 22, 1, 0, []),
  (62, none, .bipush 48, 2, 0, 0, 0, 0, 0, []),
  (64, none, .iaload, 1, 0, 0, 0, 0, 0, []),
  (65, none, .imul, 1, 0, 0, 0, 0, 0, []),
  (66, none, .iadd, 1, 0, 0, 0, 0, 0, []),
  (67, none, .iload_n 1, 1, 1, 0, 0, 0, 0, []),
  (68, none, .iastore, 1, 0, 0, 0, 0, 0, []),
  (69, none, .aload_n 0, 1, 0, 0, 0, 0, 0, []),
  (70, none, .getfield 7, 3, 11, 0, 22, 1, 0, []),
  (73, none, .sipush 175, 3, 0, 0, 0, 0, 0, []),
  (76, none, .iconst 2, 1, 0, 0, 0, 0, 0, []),
  (77, none, .aload_n 0, 1, 0, 0, 0, 0, 0, []),
  (78, none, .getfield 7, 3, 11, 0, 22, 1, 0, []),
  (81, none, .bipush 48, 2, 0, 0, 0, 0, 0, []),
  (83, none, .iaload, 1, 0, 0, 0, 0, 0, []),
  (84, none, .imul, 1, 0, 0, 0, 0, 0, []),
  (85, none, .iadd, 1, 0, 0, 0, 0, 0, []),
  (86, none, .iconst 1, 1, 0, 0, 0, 0, 0, []),
  (87, none, .iadd, 1, 0, 0, 0, 0, 0, []),
  (88, none, .iload_n 2, 1, 2, 0, 0, 0, 0, []),
  (89, none, .iastore, 1, 0, 0, 0, 0, 0, []),
  (90, none, .aload_n 0, 1, 0, 0, 0, 0, 0, []),
  (91, none, .getfield 7, 3, 11, 0, 22, 1, 0, []),
  (94, none, .bipush 48, 2, 0, 0, 0, 0, 0, []),
  (96, none, .dup2, 1, 0, 0, 0, 0, 0, []),
  (97, none, .iaload, 1, 0, 0, 0, 0, 0, []),
  (98, none, .iconst 1, 1, 0, 0, 0, 0, 0, []),
  (99, none, .iadd, 1, 0, 0, 0, 0, 0, []),
  (100, none, .iastore, 1, 0, 0, 0, 0, 0, []),
  (101, none, .aload_n 0, 1, 0, 0, 0, 0, 0, []),
  (102, none, .getfield 7, 3, 11, 0, 22, 1, 0, []),
  (105, none, .bipush 48, 2, 0, 0, 0, 0, 0, []),
  (107, none, .iaload, 1, 0, 0, 0, 0, 0, []),
  (108, none, .ireturn, 1, 0, 0, 0, 0, 0, [])]
noncomputable def K_m_laysAhead : List aE := [
  (0, none, .iconst 0, 1, 0, 0, 0, 0, 0, []),
  (1, none, .istore_n 1, 1, 1, 0, 0, 0, 0, []),
  (2, some [true, true], .iload_n 1, 1, 1, 0, 0, 0, 0, []),
  (3, none, .bipush 10, 2, 0, 0, 0, 0, 0, []),
  (5, none, .if_icmp .ge 16, 3, 21, 0, 0, 0, 0, []),
  (8, none, .aload_n 0, 1, 0, 0, 0, 0, 0, []),
  (9, none, .getfield 44, 3, 11, 27, 22, 11, 0, []),
  (12, none, .iload_n 1, 1, 1, 0, 0, 0, 0, []),
  (13, none, .iconst 0, 1, 0, 0, 0, 0, 0, []),
  (14, none, .iastore, 1, 0, 0, 0, 0, 0, []),
  (15, none, .iinc 1 1, 3, 1, 0, 0, 0, 0, []),
  (18, none, .goto (-16), 3, 2, 0, 0, 0, 0, []),
  (21, none, .iconst 0, 1, 0, 0, 0, 0, 0, []),
  (22, none, .istore_n 1, 1, 1, 0, 0, 0, 0, []),
  (23, some [true, true], .iload_n 1, 1, 1, 0, 0, 0, 0, []),
  (24, none, .aload_n 0, 1, 0, 0, 0, 0, 0, []),
  (25, none, .getfield 7, 3, 11, 0, 22, 1, 0, []),
  (28, none, .bipush 48, 2, 0, 0, 0, 0, 0, []),
  (30, none, .iaload, 1, 0, 0, 0, 0, 0, []),
  (31, none, .if_icmp .ge 45, 3, 76, 0, 0, 0, 0, []),
  (34, none, .aload_n 0, 1, 0, 0, 0, 0, 0, []),
  (35, none, .getfield 44, 3, 11, 27, 22, 11, 0, []),
  (38, none, .aload_n 0, 1, 0, 0, 0, 0, 0, []),
  (39, none, .getfield 7, 3, 11, 0, 22, 1, 0, []),
  (42, none, .sipush 175, 3, 0, 0, 0, 0, 0, []),
  (45, none, .iconst 2, 1, 0, 0, 0, 0, 0, []),
  (46, none, .iload_n 1, 1, 1, 0, 0, 0, 0, []),
  (47, none, .imul, 1, 0, 0, 0, 0, 0, []),
  (48, none, .iadd, 1, 0, 0, 0, 0, 0, []),
  (49, none, .iconst 1, 1, 0, 0, 0, 0, 0, []),
  (50, none, .iadd, 1, 0, 0, 0, 0, 0, []),
  (51, none, .iaload, 1, 0, 0, 0, 0, 0, []),
  (52, none, .dup2, 1, 0, 0, 0, 0, 0, []),
  (53, none, .iaload, 1, 0, 0, 0, 0, 0, []),
  (54, none, .iconst 1, 1, 0, 0, 0, 0, 0, []),
  (55, none, .aload_n 0, 1, 0, 0, 0, 0, 0, []),
  (56, none, .getfield 7, 3, 11, 0, 22, 1, 0, []),
  (59, none, .sipush 175, 3, 0, 0, 0, 0, 0, []),
  (62, none, .iconst 2, 1, 0, 0, 0, 0, 0, []),
  (63, none, .iload_n 1, 1, 1, 0, 0, 0, 0, []),
  (64, none, .imul, 1, 0, 0, 0, 0, 0, []),
  (65, none, .iadd, 1, 0, 0, 0, 0, 0, []),
  (66, none, .iaload, 1, 0, 0, 0, 0, 0, []),
  (67, none, .ishl, 1, 0, 0, 0, 0, 0, []),
  (68, none, .ior, 1, 0, 0, 0, 0, 0, []),
  (69, none, .iastore, 1, 0, 0, 0, 0, 0, []),
  (70, none, .iinc 1 1, 3, 1, 0, 0, 0, 0, []),
  (73, none, .goto (-50), 3, 23, 0, 0, 0, 0, []),
  (76, none, .return_, 1, 0, 0, 0, 0, 0, [])]
noncomputable def K_m_laysOrders : List aE := [
  (0, none, .iconst 1, 1, 0, 0, 0, 0, 0, []),
  (1, none, .aload_n 0, 1, 0, 0, 0, 0, 0, []),
  (2, none, .getfield 7, 3, 11, 0, 22, 1, 0, []),
  (5, none, .bipush 41, 2, 0, 0, 0, 0, 0, []),
  (7, none, .iaload, 1, 0, 0, 0, 0, 0, []),
  (8, none, .ishl, 1, 0, 0, 0, 0, 0, []),
  (9, none, .iconst 1, 1, 0, 0, 0, 0, 0, []),
  (10, none, .isub, 1, 0, 0, 0, 0, 0, []),
  (11, none, .istore_n 1, 1, 1, 0, 0, 0, 0, []),
  (12, none, .aload_n 0, 1, 0, 0, 0, 0, 0, []),
  (13, none, .getfield 47, 3, 11, 28, 22, 12, 0, []),
  (16, none, .iconst 0, 1, 0, 0, 0, 0, 0, []),
  (17, none, .iconst 1, 1, 0, 0, 0, 0, 0, []),
  (18, none, .iastore, 1, 0, 0, 0, 0, 0, []),
  (19, none, .iconst 1, 1, 0, 0, 0, 0, 0, []),
  (20, none, .istore_n 2, 1, 2, 0, 0, 0, 0, []),
  (21, some [true, true, true, false], .iload_n 2, 1, 2, 0, 0, 0, 0, []),
  (22, none, .iload_n 1, 1, 1, 0, 0, 0, 0, []),
  (23, none, .if_icmp .gt 84, 3, 107, 0, 0, 0, 0, []),
  (26, none, .aload_n 0, 1, 0, 0, 0, 0, 0, []),
  (27, none, .getfield 47, 3, 11, 28, 22, 12, 0, []),
  (30, none, .iload_n 2, 1, 2, 0, 0, 0, 0, []),
  (31, none, .iconst 0, 1, 0, 0, 0, 0, 0, []),
  (32, none, .iastore, 1, 0, 0, 0, 0, 0, []),
  (33, none, .iconst 0, 1, 0, 0, 0, 0, 0, []),
  (34, none, .istore_n 3, 1, 3, 0, 0, 0, 0, []),
  (35, some [true, true, true, true], .iload_n 3, 1, 3, 0, 0, 0, 0, []),
  (36, none, .aload_n 0, 1, 0, 0, 0, 0, 0, []),
  (37, none, .getfield 7, 3, 11, 0, 22, 1, 0, []),
  (40, none, .bipush 41, 2, 0, 0, 0, 0, 0, []),
  (42, none, .iaload, 1, 0, 0, 0, 0, 0, []),
  (43, none, .if_icmp .ge 58, 3, 101, 0, 0, 0, 0, []),
  (46, none, .iload_n 2, 1, 2, 0, 0, 0, 0, []),
  (47, none, .iload_n 3, 1, 3, 0, 0, 0, 0, []),
  (48, none, .ishr, 1, 0, 0, 0, 0, 0, []),
  (49, none, .iconst 1, 1, 0, 0, 0, 0, 0, []),
  (50, none, .iand, 1, 0, 0, 0, 0, 0, []),
  (51, none, .iconst 1, 1, 0, 0, 0, 0, 0, []),
  (52, none, .if_icmp .ne 43, 3, 95, 0, 0, 0, 0, []),
  (55, none, .aload_n 0, 1, 0, 0, 0, 0, 0, []),
  (56, none, .getfield 44, 3, 11, 27, 22, 11, 0, []),
  (59, none, .iload_n 3, 1, 3, 0, 0, 0, 0, []),
  (60, none, .iaload, 1, 0, 0, 0, 0, 0, []),
  (61, none, .iload_n 2, 1, 2, 0, 0, 0, 0, []),
  (62, none, .iconst 1, 1, 0, 0, 0, 0, 0, []),
  (63, none, .iload_n 3, 1, 3, 0, 0, 0, 0, []),
  (64, none, .ishl, 1, 0, 0, 0, 0, 0, []),
  (65, none, .iconst (-1), 1, 0, 0, 0, 0, 0, []),
  (66, none, .ixor, 1, 0, 0, 0, 0, 0, []),
  (67, none, .iand, 1, 0, 0, 0, 0, 0, []),
  (68, none, .iconst (-1), 1, 0, 0, 0, 0, 0, []),
  (69, none, .ixor, 1, 0, 0, 0, 0, 0, []),
  (70, none, .iand, 1, 0, 0, 0, 0, 0, []),
  (71, none, .ifCond .ne 24, 3, 95, 0, 0, 0, 0, []),
  (74, none, .aload_n 0, 1, 0, 0, 0, 0, 0, []),
  (75, none, .getfield 47, 3, 11, 28, 22, 12, 0, []),
  (78, none, .iload_n 2, 1, 2, 0, 0, 0, 0, []),
  (79, none, .dup2, 1, 0, 0, 0, 0, 0, []),
  (80, none, .iaload, 1, 0, 0, 0, 0, 0, []),
  (81, none, .aload_n 0, 1, 0, 0, 0, 0, 0, []),
  (82, none, .getfield 47, 3, 11, 28, 22, 12, 0, []),
  (85, none, .iload_n 2, 1, 2, 0, 0, 0, 0, []),
  (86, none, .iconst 1, 1, 0, 0, 0, 0, 0, []),
  (87, none, .iload_n 3, 1, 3, 0, 0, 0, 0, []),
  (88, none, .ishl, 1, 0, 0, 0, 0, 0, []),
  (89, none, .iconst (-1), 1, 0, 0, 0, 0, 0, []),
  (90, none, .ixor, 1, 0, 0, 0, 0, 0, []),
  (91, none, .iand, 1, 0, 0, 0, 0, 0, []),
  (92, none, .iaload, 1, 0, 0, 0, 0, 0, []),
  (93, none, .iadd, 1, 0, 0, 0, 0, 0, []),
  (94, none, .iastore, 1, 0, 0, 0, 0, 0, []),
  (95, none, .iinc 3 1, 3, 3, 0, 0, 0, 0, []),
  (98, none, .goto (-63), 3, 35, 0, 0, 0, 0, []),
  (101, none, .iinc 2 1, 3, 2, 0, 0, 0, 0, []),
  (104, none, .goto (-83), 3, 21, 0, 0, 0, 0, []),
  (107, none, .aload_n 0, 1, 0, 0, 0, 0, 0, []),
  (108, none, .getfield 47, 3, 11, 28, 22, 12, 0, []),
  (111, none, .iload_n 1, 1, 1, 0, 0, 0, 0, []),
  (112, none, .iaload, 1, 0, 0, 0, 0, 0, []),
  (113, none, .ireturn, 1, 0, 0, 0, 0, 0, [])]
noncomputable def K_m_waysWith : List aE := [
  (0, none, .aload_n 0, 1, 0, 0, 0, 0, 0, []),
  (1, none, .getfield 44, 3, 11, 27, 22, 11, 0, []),
  (4, none, .iload_n 2, 1, 2, 0, 0, 0, 0, []),
  (5, none, .iaload, 1, 0, 0, 0, 0, 0, []),
  (6, none, .istore_n 3, 1, 3, 0, 0, 0, 0, []),
  (7, none, .aload_n 0, 1, 0, 0, 0, 0, 0, []),
  (8, none, .getfield 44, 3, 11, 27, 22, 11, 0, []),
  (11, none, .iload_n 2, 1, 2, 0, 0, 0, 0, []),
  (12, none, .dup2, 1, 0, 0, 0, 0, 0, []),
  (13, none, .iaload, 1, 0, 0, 0, 0, 0, []),
  (14, none, .iconst 1, 1, 0, 0, 0, 0, 0, []),
  (15, none, .iload_n 1, 1, 1, 0, 0, 0, 0, []),
  (16, none, .ishl, 1, 0, 0, 0, 0, 0, []),
  (17, none, .ior, 1, 0, 0, 0, 0, 0, []),
  (18, none, .iastore, 1, 0, 0, 0, 0, 0, []),
  (19, none, .aload_n 0, 1, 0, 0, 0, 0, 0, []),
  (20, none, .invokevirtual 382, 3, 230, 1, 2, 0, 0, []),
  (23, none, .istore 4, 2, 4, 0, 0, 0, 0, []),
  (25, none, .aload_n 0, 1, 0, 0, 0, 0, 0, []),
  (26, none, .getfield 44, 3, 11, 27, 22, 11, 0, []),
  (29, none, .iload_n 2, 1, 2, 0, 0, 0, 0, []),
  (30, none, .iload_n 3, 1, 3, 0, 0, 0, 0, []),
  (31, none, .iastore, 1, 0, 0, 0, 0, 0, []),
  (32, none, .iload 4, 2, 4, 0, 0, 0, 0, []),
  (34, none, .ireturn, 1, 0, 0, 0, 0, 0, [])]
noncomputable def K_m_bestCouple : List aE := [
  (0, none, .iconst (-1), 1, 0, 0, 0, 0, 0, []),
  (1, none, .istore_n 2, 1, 2, 0, 0, 0, 0, []),
  (2, none, .ldc_w 385, 3, 0, 0, 0, 0, 10000000, []),
  (5, none, .istore_n 3, 1, 3, 0, 0, 0, 0, []),
  (6, none, .iconst 0, 1, 0, 0, 0, 0, 0, []),
  (7, none, .istore 4, 2, 4, 0, 0, 0, 0, []),
  (9, some [true, true, true, true, true, false, false], .iload 4, 2, 4, 0, 0, 0, 0, []),
  (11, none, .aload_n 0, 1, 0, 0, 0, 0, 0, []),
  (12, none, .getfield 7, 3, 11, 0, 22, 1, 0, []),
  (15, none, .bipush 41, 2, 0, 0, 0, 0, 0, []),
  (17, none, .iaload, 1, 0, 0, 0, 0, 0, []),
  (18, none, .if_icmp .ge 78, 3, 96, 0, 0, 0, 0, []),
  (21, none, .iload 4, 2, 4, 0, 0, 0, 0, []),
  (23, none, .iconst 1, 1, 0, 0, 0, 0, 0, []),
  (24, none, .iadd, 1, 0, 0, 0, 0, 0, []),
  (25, none, .istore 5, 2, 5, 0, 0, 0, 0, []),
  (27, some [true, true, true, true, true, true, false], .iload 5, 2, 5, 0, 0, 0, 0, []),
  (29, none, .aload_n 0, 1, 0, 0, 0, 0, 0, []),
  (30, none, .getfield 7, 3, 11, 0, 22, 1, 0, []),
  (33, none, .bipush 41, 2, 0, 0, 0, 0, 0, []),
  (35, none, .iaload, 1, 0, 0, 0, 0, 0, []),
  (36, none, .if_icmp .ge 54, 3, 90, 0, 0, 0, 0, []),
  (39, none, .aload_n 0, 1, 0, 0, 0, 0, 0, []),
  (40, none, .iload 4, 2, 4, 0, 0, 0, 0, []),
  (42, none, .iload 5, 2, 5, 0, 0, 0, 0, []),
  (44, none, .invokevirtual 386, 3, 231, 3, 2, 0, 0, []),
  (47, none, .istore 6, 2, 6, 0, 0, 0, 0, []),
  (49, none, .iload 6, 2, 6, 0, 0, 0, 0, []),
  (51, none, .iload_n 1, 1, 1, 0, 0, 0, 0, []),
  (52, none, .iload 6, 2, 6, 0, 0, 0, 0, []),
  (54, none, .isub, 1, 0, 0, 0, 0, 0, []),
  (55, none, .invokestatic 302, 3, 150, 2, 2, 0, 0, []),
  (58, none, .iload_n 3, 1, 3, 0, 0, 0, 0, []),
  (59, none, .if_icmp .lt 6, 3, 65, 0, 0, 0, 0, []),
  (62, none, .goto 22, 3, 84, 0, 0, 0, 0, []),
  (65, none, .iload 6, 2, 6, 0, 0, 0, 0, []),
  (67, none, .iload_n 1, 1, 1, 0, 0, 0, 0, []),
  (68, none, .iload 6, 2, 6, 0, 0, 0, 0, []),
  (70, none, .isub, 1, 0, 0, 0, 0, 0, []),
  (71, none, .invokestatic 302, 3, 150, 2, 2, 0, 0, []),
  (74, none, .istore_n 3, 1, 3, 0, 0, 0, 0, []),
  (75, none, .bipush 10, 2, 0, 0, 0, 0, 0, []),
  (77, none, .iload 4, 2, 4, 0, 0, 0, 0, []),
  (79, none, .imul, 1, 0, 0, 0, 0, 0, []),
  (80, none, .iload 5, 2, 5, 0, 0, 0, 0, []),
  (82, none, .iadd, 1, 0, 0, 0, 0, 0, []),
  (83, none, .istore_n 2, 1, 2, 0, 0, 0, 0, []),
  (84, none, .iinc 5 1, 3, 5, 0, 0, 0, 0, []),
  (87, none, .goto (-60), 3, 27, 0, 0, 0, 0, []),
  (90, none, .iinc 4 1, 3, 4, 0, 0, 0, 0, []),
  (93, none, .goto (-84), 3, 9, 0, 0, 0, 0, []),
  (96, none, .iload_n 2, 1, 2, 0, 0, 0, 0, []),
  (97, none, .ireturn, 1, 0, 0, 0, 0, 0, [])]
noncomputable def K_m_firstOrder : List aE := [
  (0, none, .iconst 0, 1, 0, 0, 0, 0, 0, []),
  (1, none, .istore_n 2, 1, 2, 0, 0, 0, 0, []),
  (2, none, .iconst (-1), 1, 0, 0, 0, 0, 0, []),
  (3, none, .istore_n 3, 1, 3, 0, 0, 0, 0, []),
  (4, none, .iconst 0, 1, 0, 0, 0, 0, 0, []),
  (5, none, .istore 4, 2, 4, 0, 0, 0, 0, []),
  (7, some [true, true, true, true, true], .iload 4, 2, 4, 0, 0, 0, 0, []),
  (9, none, .iload_n 1, 1, 1, 0, 0, 0, 0, []),
  (10, none, .if_icmp .gt 45, 3, 55, 0, 0, 0, 0, []),
  (13, none, .iconst 0, 1, 0, 0, 0, 0, 0, []),
  (14, none, .istore_n 3, 1, 3, 0, 0, 0, 0, []),
  (15, some [true, true, true, true, true], .iload_n 2, 1, 2, 0, 0, 0, 0, []),
  (16, none, .iload_n 3, 1, 3, 0, 0, 0, 0, []),
  (17, none, .ishr, 1, 0, 0, 0, 0, 0, []),
  (18, none, .iconst 1, 1, 0, 0, 0, 0, 0, []),
  (19, none, .iand, 1, 0, 0, 0, 0, 0, []),
  (20, none, .iconst 1, 1, 0, 0, 0, 0, 0, []),
  (21, none, .if_icmp .eq 16, 3, 37, 0, 0, 0, 0, []),
  (24, none, .aload_n 0, 1, 0, 0, 0, 0, 0, []),
  (25, none, .getfield 44, 3, 11, 27, 22, 11, 0, []),
  (28, none, .iload_n 3, 1, 3, 0, 0, 0, 0, []),
  (29, none, .iaload, 1, 0, 0, 0, 0, 0, []),
  (30, none, .iload_n 2, 1, 2, 0, 0, 0, 0, []),
  (31, none, .iconst (-1), 1, 0, 0, 0, 0, 0, []),
  (32, none, .ixor, 1, 0, 0, 0, 0, 0, []),
  (33, none, .iand, 1, 0, 0, 0, 0, 0, []),
  (34, none, .ifCond .eq 9, 3, 43, 0, 0, 0, 0, []),
  (37, none, .iinc 3 1, 3, 3, 0, 0, 0, 0, []),
  (40, none, .goto (-25), 3, 15, 0, 0, 0, 0, []),
  (43, none, .iload_n 2, 1, 2, 0, 0, 0, 0, []),
  (44, none, .iconst 1, 1, 0, 0, 0, 0, 0, []),
  (45, none, .iload_n 3, 1, 3, 0, 0, 0, 0, []),
  (46, none, .ishl, 1, 0, 0, 0, 0, 0, []),
  (47, none, .ior, 1, 0, 0, 0, 0, 0, []),
  (48, none, .istore_n 2, 1, 2, 0, 0, 0, 0, []),
  (49, none, .iinc 4 1, 3, 4, 0, 0, 0, 0, []),
  (52, none, .goto (-45), 3, 7, 0, 0, 0, 0, []),
  (55, none, .iload_n 3, 1, 3, 0, 0, 0, 0, []),
  (56, none, .ireturn, 1, 0, 0, 0, 0, 0, [])]
noncomputable def K_m_orders : List aE := [
  (0, none, .aload_n 0, 1, 0, 0, 0, 0, 0, []),
  (1, none, .invokevirtual 389, 3, 229, 1, 1, 0, 0, []),
  (4, none, .aload_n 0, 1, 0, 0, 0, 0, 0, []),
  (5, none, .invokevirtual 382, 3, 230, 1, 2, 0, 0, []),
  (8, none, .istore_n 2, 1, 2, 0, 0, 0, 0, []),
  (9, none, .iload_n 1, 1, 1, 0, 0, 0, 0, []),
  (10, none, .ifCond .ne 5, 3, 15, 0, 0, 0, 0, []),
  (13, none, .iload_n 2, 1, 2, 0, 0, 0, 0, []),
  (14, none, .ireturn, 1, 0, 0, 0, 0, 0, []),
  (15, none, .iload_n 2, 1, 2, 0, 0, 0, 0, []),
  (16, none, .ifCond .ne 5, 3, 21, 0, 0, 0, 0, []),
  (19, none, .iconst (-1), 1, 0, 0, 0, 0, 0, []),
  (20, none, .ireturn, 1, 0, 0, 0, 0, 0, []),
  (21, none, .iload_n 1, 1, 1, 0, 0, 0, 0, []),
  (22, none, .iconst 1, 1, 0, 0, 0, 0, 0, []),
  (23, none, .iconst 2, 1, 0, 0, 0, 0, 0, []),
  (24, none, .invokestatic 71, 3, 148, 3, 2, 0, 0, []),
  (27, none, .ifCond .eq 37, 3, 64, 0, 0, 0, 0, []),
  (30, none, .iload_n 2, 1, 2, 0, 0, 0, 0, []),
  (31, none, .iconst 2, 1, 0, 0, 0, 0, 0, []),
  (32, none, .if_icmp .ge 7, 3, 39, 0, 0, 0, 0, []),
  (35, none, .iconst (-1), 1, 0, 0, 0, 0, 0, []),
  (36, none, .goto 27, 3, 63, 0, 0, 0, 0, []),
  (39, none, .iload_n 1, 1, 1, 0, 0, 0, 0, []),
  (40, none, .iconst 1, 1, 0, 0, 0, 0, 0, []),
  (41, none, .if_icmp .ne 14, 3, 55, 0, 0, 0, 0, []),
  (44, none, .aload_n 0, 1, 0, 0, 0, 0, 0, []),
  (45, none, .iload_n 2, 1, 2, 0, 0, 0, 0, []),
  (46, none, .invokevirtual 392, 3, 232, 2, 2, 0, 0, []),
  (49, none, .bipush 10, 2, 0, 0, 0, 0, 0, []),
  (51, none, .idiv, 1, 0, 0, 0, 0, 0, []),
  (52, none, .goto 11, 3, 63, 0, 0, 0, 0, []),
  (55, none, .aload_n 0, 1, 0, 0, 0, 0, 0, []),
  (56, none, .iload_n 2, 1, 2, 0, 0, 0, 0, []),
  (57, none, .invokevirtual 392, 3, 232, 2, 2, 0, 0, []),
  (60, none, .bipush 10, 2, 0, 0, 0, 0, 0, []),
  (62, none, .irem, 1, 0, 0, 0, 0, 0, []),
  (63, none, .ireturn, 1, 0, 0, 0, 0, 0, []),
  (64, none, .iload_n 1, 1, 1, 0, 0, 0, 0, []),
  (65, none, .bipush 10, 2, 0, 0, 0, 0, 0, []),
  (67, none, .bipush 9, 2, 0, 0, 0, 0, 0, []),
  (69, none, .aload_n 0, 1, 0, 0, 0, 0, 0, []),
  (70, none, .getfield 7, 3, 11, 0, 22, 1, 0, []),
  (73, none, .bipush 41, 2, 0, 0, 0, 0, 0, []),
  (75, none, .iaload, 1, 0, 0, 0, 0, 0, []),
  (76, none, .iadd, 1, 0, 0, 0, 0, 0, []),
  (77, none, .invokestatic 71, 3, 148, 3, 2, 0, 0, []),
  (80, none, .ifCond .eq 14, 3, 94, 0, 0, 0, 0, []),
  (83, none, .aload_n 0, 1, 0, 0, 0, 0, 0, []),
  (84, none, .iload_n 1, 1, 1, 0, 0, 0, 0, []),
  (85, none, .bipush 10, 2, 0, 0, 0, 0, 0, []),
  (87, none, .isub, 1, 0, 0, 0, 0, 0, []),
  (88, none, .invokevirtual 395, 3, 233, 2, 2, 0, 0, []),
  (91, none, .goto 4, 3, 95, 0, 0, 0, 0, []),
  (94, none, .iconst (-1), 1, 0, 0, 0, 0, 0, []),
  (95, none, .ireturn, 1, 0, 0, 0, 0, 0, [])]
noncomputable def K_m_canLie : List aE := [
  (0, none, .aload_n 0, 1, 0, 0, 0, 0, 0, []),
  (1, none, .getfield 53, 3, 11, 30, 22, 14, 0, []),
  (4, none, .iload_n 1, 1, 1, 0, 0, 0, 0, []),
  (5, none, .iaload, 1, 0, 0, 0, 0, 0, []),
  (6, none, .iconst (-1), 1, 0, 0, 0, 0, 0, []),
  (7, none, .if_icmp .ne 45, 3, 52, 0, 0, 0, 0, []),
  (10, none, .iload_n 2, 1, 2, 0, 0, 0, 0, []),
  (11, none, .aload_n 0, 1, 0, 0, 0, 0, 0, []),
  (12, none, .getfield 7, 3, 11, 0, 22, 1, 0, []),
  (15, none, .sipush 159, 3, 0, 0, 0, 0, 0, []),
  (18, none, .iconst 2, 1, 0, 0, 0, 0, 0, []),
  (19, none, .iload_n 1, 1, 1, 0, 0, 0, 0, []),
  (20, none, .imul, 1, 0, 0, 0, 0, 0, []),
  (21, none, .iadd, 1, 0, 0, 0, 0, 0, []),
  (22, none, .iaload, 1, 0, 0, 0, 0, 0, []),
  (23, none, .isub, 1, 0, 0, 0, 0, 0, []),
  (24, none, .invokestatic 379, 3, 151, 1, 2, 0, 0, []),
  (27, none, .aload_n 0, 1, 0, 0, 0, 0, 0, []),
  (28, none, .getfield 7, 3, 11, 0, 22, 1, 0, []),
  (31, none, .sipush 159, 3, 0, 0, 0, 0, 0, []),
  (34, none, .iconst 2, 1, 0, 0, 0, 0, 0, []),
  (35, none, .iload_n 1, 1, 1, 0, 0, 0, 0, []),
  (36, none, .imul, 1, 0, 0, 0, 0, 0, []),
  (37, none, .iadd, 1, 0, 0, 0, 0, 0, []),
  (38, none, .iconst 1, 1, 0, 0, 0, 0, 0, []),
  (39, none, .iadd, 1, 0, 0, 0, 0, 0, []),
  (40, none, .iaload, 1, 0, 0, 0, 0, 0, []),
  (41, none, .if_icmp .gt 7, 3, 48, 0, 0, 0, 0, []),
  (44, none, .iconst 1, 1, 0, 0, 0, 0, 0, []),
  (45, none, .goto 22, 3, 67, 0, 0, 0, 0, []),
  (48, none, .iconst 0, 1, 0, 0, 0, 0, 0, []),
  (49, none, .goto 18, 3, 67, 0, 0, 0, 0, []),
  (52, none, .aload_n 0, 1, 0, 0, 0, 0, 0, []),
  (53, none, .getfield 53, 3, 11, 30, 22, 14, 0, []),
  (56, none, .iload_n 1, 1, 1, 0, 0, 0, 0, []),
  (57, none, .iaload, 1, 0, 0, 0, 0, 0, []),
  (58, none, .iload_n 2, 1, 2, 0, 0, 0, 0, []),
  (59, none, .if_icmp .ne 7, 3, 66, 0, 0, 0, 0, []),
  (62, none, .iconst 1, 1, 0, 0, 0, 0, 0, []),
  (63, none, .goto 4, 3, 67, 0, 0, 0, 0, []),
  (66, none, .iconst 0, 1, 0, 0, 0, 0, 0, []),
  (67, none, .ireturn, 1, 1, 0, 0, 0, 0, [])]
noncomputable def K_m_laysFeasts : List aE := [
  (0, none, .iconst 1, 1, 0, 0, 0, 0, 0, []),
  (1, none, .aload_n 0, 1, 0, 0, 0, 0, 0, []),
  (2, none, .getfield 7, 3, 11, 0, 22, 1, 0, []),
  (5, none, .bipush 47, 2, 0, 0, 0, 0, 0, []),
  (7, none, .iaload, 1, 0, 0, 0, 0, 0, []),
  (8, none, .ishl, 1, 0, 0, 0, 0, 0, []),
  (9, none, .istore_n 1, 1, 1, 0, 0, 0, 0, []),
  (10, none, .bipush 40, 2, 0, 0, 0, 0, 0, []),
  (12, none, .istore_n 2, 1, 2, 0, 0, 0, 0, []),
  (13, some [true, true, true, false, false, false], .iload_n 2, 1, 2, 0, 0, 0, 0, []),
  (14, none, .ifCond .lt 166, 3, 180, 0, 0, 0, 0, []),
  (17, none, .iconst 0, 1, 0, 0, 0, 0, 0, []),
  (18, none, .istore_n 3, 1, 3, 0, 0, 0, 0, []),
  (19, some [true, true, true, true, false, false], .iload_n 3, 1, 3, 0, 0, 0, 0, []),
  (20, none, .iload_n 1, 1, 1, 0, 0, 0, 0, []),
  (21, none, .if_icmp .ge 153, 3, 174, 0, 0, 0, 0, []),
  (24, none, .iload_n 2, 1, 2, 0, 0, 0, 0, []),
  (25, none, .bipush 40, 2, 0, 0, 0, 0, 0, []),
  (27, none, .if_icmp .ne 17, 3, 44, 0, 0, 0, 0, []),
  (30, none, .iload_n 3, 1, 3, 0, 0, 0, 0, []),
  (31, none, .ifCond .ne 7, 3, 38, 0, 0, 0, 0, []),
  (34, none, .iconst 0, 1, 0, 0, 0, 0, 0, []),
  (35, none, .goto 23, 3, 58, 0, 0, 0, 0, []),
  (38, none, .ldc_w 398, 3, 0, 0, 0, 0, 1000000, []),
  (41, none, .goto 17, 3, 58, 0, 0, 0, 0, []),
  (44, none, .aload_n 0, 1, 0, 0, 0, 0, 0, []),
  (45, none, .getfield 50, 3, 11, 29, 22, 13, 0, []),
  (48, none, .sipush 256, 3, 0, 0, 0, 0, 0, []),
  (51, none, .iload_n 2, 1, 2, 0, 0, 0, 0, []),
  (52, none, .iconst 1, 1, 0, 0, 0, 0, 0, []),
  (53, none, .iadd, 1, 0, 0, 0, 0, 0, []),
  (54, none, .imul, 1, 0, 0, 0, 0, 0, []),
  (55, none, .iload_n 3, 1, 3, 0, 0, 0, 0, []),
  (56, none, .iadd, 1, 0, 0, 0, 0, 0, []),
  (57, none, .iaload, 1, 0, 0, 0, 0, 0, []),
  (58, none, .istore 4, 2, 4, 0, 0, 0, 0, []),
  (60, none, .iconst 0, 1, 0, 0, 0, 0, 0, []),
  (61, none, .istore 5, 2, 5, 0, 0, 0, 0, []),
  (63, some [true, true, true, true, true, true], .iload 5, 2, 5, 0, 0, 0, 0, []),
  (65, none, .aload_n 0, 1, 0, 0, 0, 0, 0, []),
  (66, none, .getfield 7, 3, 11, 0, 22, 1, 0, []),
  (69, none, .bipush 47, 2, 0, 0, 0, 0, 0, []),
  (71, none, .iaload, 1, 0, 0, 0, 0, 0, []),
  (72, none, .if_icmp .ge 82, 3, 154, 0, 0, 0, 0, []),
  (75, none, .iload_n 2, 1, 2, 0, 0, 0, 0, []),
  (76, none, .bipush 40, 2, 0, 0, 0, 0, 0, []),
  (78, none, .if_icmp .ge 76, 3, 154, 0, 0, 0, 0, []),
  (81, none, .iload_n 3, 1, 3, 0, 0, 0, 0, []),
  (82, none, .iload 5, 2, 5, 0, 0, 0, 0, []),
  (84, none, .ishr, 1, 0, 0, 0, 0, 0, []),
  (85, none, .iconst 1, 1, 0, 0, 0, 0, 0, []),
  (86, none, .iand, 1, 0, 0, 0, 0, 0, []),
  (87, none, .iconst 1, 1, 0, 0, 0, 0, 0, []),
  (88, none, .if_icmp .ne 60, 3, 148, 0, 0, 0, 0, []),
  (91, none, .aload_n 0, 1, 0, 0, 0, 0, 0, []),
  (92, none, .iload 5, 2, 5, 0, 0, 0, 0, []),
  (94, none, .iload_n 2, 1, 2, 0, 0, 0, 0, []),
  (95, none, .invokevirtual 399, 3, 235, 3, 2, 0, 0, []),
  (98, none, .ifCond .eq 50, 3, 148, 0, 0, 0, 0, []),
  (101, none, .iload 4, 2, 4, 0, 0, 0, 0, []),
  (103, none, .aload_n 0, 1, 0, 0, 0, 0, 0, []),
  (104, none, .getfield 50, 3, 11, 29, 22, 13, 0, []),
  (107, none, .sipush 256, 3, 0, 0, 0, 0, 0, []),
  (110, none, .iload_n 2, 1, 2, 0, 0, 0, 0, []),
  (111, none, .iconst 1, 1, 0, 0, 0, 0, 0, []),
  (112, none, .iadd, 1, 0, 0, 0, 0, 0, []),
  (113, none, .imul, 1, 0, 0, 0, 0, 0, []),
  (114, none, .iload_n 3, 1, 3, 0, 0, 0, 0, []),
  (115, none, .iconst 1, 1, 0, 0, 0, 0, 0, []),
  (116, none, .iload 5, 2, 5, 0, 0, 0, 0, []),
  (118, none, .ishl, 1, 0, 0, 0, 0, 0, []),
  (119, none, .iconst (-1), 1, 0, 0, 0, 0, 0, []),
  (120, none, .ixor, 1, 0, 0, 0, 0, 0, []),
  (121, none, .iand, 1, 0, 0, 0, 0, 0, []),
  (122, none, .iadd, 1, 0, 0, 0, 0, 0, []),
  (123, none, .iaload, 1, 0, 0, 0, 0, 0, []),
  (124, none, .iload_n 2, 1, 2, 0, 0, 0, 0, []),
  (125, none, .aload_n 0, 1, 0, 0, 0, 0, 0, []),
  (126, none, .getfield 7, 3, 11, 0, 22, 1, 0, []),
  (129, none, .sipush 159, 3, 0, 0, 0, 0, 0, []),
  (132, none, .iconst 2, 1, 0, 0, 0, 0, 0, []),
  (133, none, .iload 5, 2, 5, 0, 0, 0, 0, []),
  (135, none, .imul, 1, 0, 0, 0, 0, 0, []),
  (136, none, .iadd, 1, 0, 0, 0, 0, 0, []),
  (137, none, .iaload, 1, 0, 0, 0, 0, 0, []),
  (138, none, .isub, 1, 0, 0, 0, 0, 0, []),
  (139, none, .invokestatic 379, 3, 151, 1, 2, 0, 0, []),
  (142, none, .iadd, 1, 0, 0, 0, 0, 0, []),
  (143, none, .invokestatic 299, 3, 149, 2, 2, 0, 0, []),
  (146, none, .istore 4, 2, 4, 0, 0, 0, 0, []),
  (148, none, .iinc 5 1, 3, 5, 0, 0, 0, 0, []),
  (151, none, .goto (-88), 3, 63, 0, 0, 0, 0, []),
  (154, none, .aload_n 0, 1, 0, 0, 0, 0, 0, []),
  (155, none, .getfield 50, 3, 11, 29, 22, 13, 0, []),
  (158, none, .sipush 256, 3, 0, 0, 0, 0, 0, []),
  (161, none, .iload_n 2, 1, 2, 0, 0, 0, 0, []),
  (162, none, .imul, 1, 0, 0, 0, 0, 0, []),
  (163, none, .iload_n 3, 1, 3, 0, 0, 0, 0, []),
  (164, none, .iadd, 1, 0, 0, 0, 0, 0, []),
  (165, none, .iload 4, 2, 4, 0, 0, 0, 0, []),
  (167, none, .iastore, 1, 0, 0, 0, 0, 0, []),
  (168, none, .iinc 3 1, 3, 3, 0, 0, 0, 0, []),
  (171, none, .goto (-152), 3, 19, 0, 0, 0, 0, []),
  (174, none, .iinc 2 (-1), 3, 2, 0, 0, 0, 0, []),
  (177, none, .goto (-164), 3, 13, 0, 0, 0, 0, []),
  (180, none, .aload_n 0, 1, 0, 0, 0, 0, 0, []),
  (181, none, .getfield 50, 3, 11, 29, 22, 13, 0, []),
  (184, none, .iload_n 1, 1, 1, 0, 0, 0, 0, []),
  (185, none, .iconst 1, 1, 0, 0, 0, 0, 0, []),
  (186, none, .isub, 1, 0, 0, 0, 0, 0, []),
  (187, none, .iaload, 1, 0, 0, 0, 0, 0, []),
  (188, none, .ireturn, 1, 0, 0, 0, 0, 0, [])]
noncomputable def K_m_moves : List aE := [
  (0, none, .iload_n 1, 1, 1, 0, 0, 0, 0, []),
  (1, none, .ifCond .eq 24, 3, 25, 0, 0, 0, 0, []),
  (4, none, .iload_n 1, 1, 1, 0, 0, 0, 0, []),
  (5, none, .bipush 10, 2, 0, 0, 0, 0, 0, []),
  (7, none, .bipush 9, 2, 0, 0, 0, 0, 0, []),
  (9, none, .aload_n 0, 1, 0, 0, 0, 0, 0, []),
  (10, none, .getfield 7, 3, 11, 0, 22, 1, 0, []),
  (13, none, .bipush 47, 2, 0, 0, 0, 0, 0, []),
  (15, none, .iaload, 1, 0, 0, 0, 0, 0, []),
  (16, none, .iadd, 1, 0, 0, 0, 0, 0, []),
  (17, none, .invokestatic 71, 3, 148, 3, 2, 0, 0, []),
  (20, none, .ifCond .ne 5, 3, 25, 0, 0, 0, 0, []),
  (23, none, .iconst (-1), 1, 0, 0, 0, 0, 0, []),
  (24, none, .ireturn, 1, 0, 0, 0, 0, 0, []),
  (25, none, .iconst 0, 1, 0, 0, 0, 0, 0, []),
  (26, none, .istore_n 2, 1, 2, 0, 0, 0, 0, []),
  (27, some [true, true, true, false, false], .iload_n 2, 1, 2, 0, 0, 0, 0, []),
  (28, none, .bipush 8, 2, 0, 0, 0, 0, 0, []),
  (30, none, .if_icmp .ge 16, 3, 46, 0, 0, 0, 0, []),
  (33, none, .aload_n 0, 1, 0, 0, 0, 0, 0, []),
  (34, none, .getfield 53, 3, 11, 30, 22, 14, 0, []),
  (37, none, .iload_n 2, 1, 2, 0, 0, 0, 0, []),
  (38, none, .iconst (-1), 1, 0, 0, 0, 0, 0, []),
  (39, none, .iastore, 1, 0, 0, 0, 0, 0, []),
  (40, none, .iinc 2 1, 3, 2, 0, 0, 0, 0, []),
  (43, none, .goto (-16), 3, 27, 0, 0, 0, 0, []),
  (46, none, .aload_n 0, 1, 0, 0, 0, 0, 0, []),
  (47, none, .invokevirtual 403, 3, 236, 1, 2, 0, 0, []),
  (50, none, .istore_n 2, 1, 2, 0, 0, 0, 0, []),
  (51, none, .iload_n 2, 1, 2, 0, 0, 0, 0, []),
  (52, none, .ldc_w 398, 3, 0, 0, 0, 0, 1000000, []),
  (55, none, .if_icmp .ge 7, 3, 62, 0, 0, 0, 0, []),
  (58, none, .iload_n 1, 1, 1, 0, 0, 0, 0, []),
  (59, none, .ifCond .ne 16, 3, 75, 0, 0, 0, 0, []),
  (62, none, .iload_n 2, 1, 2, 0, 0, 0, 0, []),
  (63, none, .ldc_w 398, 3, 0, 0, 0, 0, 1000000, []),
  (66, none, .if_icmp .lt 7, 3, 73, 0, 0, 0, 0, []),
  (69, none, .iconst (-1), 1, 0, 0, 0, 0, 0, []),
  (70, none, .goto 4, 3, 74, 0, 0, 0, 0, []),
  (73, none, .iload_n 2, 1, 2, 0, 0, 0, 0, []),
  (74, none, .ireturn, 1, 0, 0, 0, 0, 0, []),
  (75, none, .iconst 0, 1, 0, 0, 0, 0, 0, []),
  (76, none, .istore_n 3, 1, 3, 0, 0, 0, 0, []),
  (77, some [true, true, true, true, false], .iload_n 3, 1, 3, 0, 0, 0, 0, []),
  (78, none, .iload_n 1, 1, 1, 0, 0, 0, 0, []),
  (79, none, .bipush 10, 2, 0, 0, 0, 0, 0, []),
  (81, none, .isub, 1, 0, 0, 0, 0, 0, []),
  (82, none, .if_icmp .gt 72, 3, 154, 0, 0, 0, 0, []),
  (85, none, .iconst 0, 1, 0, 0, 0, 0, 0, []),
  (86, none, .aload_n 0, 1, 0, 0, 0, 0, 0, []),
  (87, none, .getfield 7, 3, 11, 0, 22, 1, 0, []),
  (90, none, .sipush 159, 3, 0, 0, 0, 0, 0, []),
  (93, none, .iconst 2, 1, 0, 0, 0, 0, 0, []),
  (94, none, .iload_n 3, 1, 3, 0, 0, 0, 0, []),
  (95, none, .imul, 1, 0, 0, 0, 0, 0, []),
  (96, none, .iadd, 1, 0, 0, 0, 0, 0, []),
  (97, none, .iaload, 1, 0, 0, 0, 0, 0, []),
  (98, none, .aload_n 0, 1, 0, 0, 0, 0, 0, []),
  (99, none, .getfield 7, 3, 11, 0, 22, 1, 0, []),
  (102, none, .sipush 159, 3, 0, 0, 0, 0, 0, []),
  (105, none, .iconst 2, 1, 0, 0, 0, 0, 0, []),
  (106, none, .iload_n 3, 1, 3, 0, 0, 0, 0, []),
  (107, none, .imul, 1, 0, 0, 0, 0, 0, []),
  (108, none, .iadd, 1, 0, 0, 0, 0, 0, []),
  (109, none, .iconst 1, 1, 0, 0, 0, 0, 0, []),
  (110, none, .iadd, 1, 0, 0, 0, 0, 0, []),
  (111, none, .iaload, 1, 0, 0, 0, 0, 0, []),
  (112, none, .isub, 1, 0, 0, 0, 0, 0, []),
  (113, none, .invokestatic 302, 3, 150, 2, 2, 0, 0, []),
  (116, none, .istore 4, 2, 4, 0, 0, 0, 0, []),
  (118, none, .aload_n 0, 1, 0, 0, 0, 0, 0, []),
  (119, none, .getfield 53, 3, 11, 30, 22, 14, 0, []),
  (122, none, .iload_n 3, 1, 3, 0, 0, 0, 0, []),
  (123, none, .iload 4, 2, 4, 0, 0, 0, 0, []),
  (125, none, .iastore, 1, 0, 0, 0, 0, 0, []),
  (126, some [true, true, true, true, true], .aload_n 0, 1, 0, 0, 0, 0, 0, []),
  (127, none, .invokevirtual 403, 3, 236, 1, 2, 0, 0, []),
  (130, none, .iload_n 2, 1, 2, 0, 0, 0, 0, []),
  (131, none, .if_icmp .eq 17, 3, 148, 0, 0, 0, 0, []),
  (134, none, .iinc 4 1, 3, 4, 0, 0, 0, 0, []),
  (137, none, .aload_n 0, 1, 0, 0, 0, 0, 0, []),
  (138, none, .getfield 53, 3, 11, 30, 22, 14, 0, []),
  (141, none, .iload_n 3, 1, 3, 0, 0, 0, 0, []),
  (142, none, .iload 4, 2, 4, 0, 0, 0, 0, []),
  (144, none, .iastore, 1, 0, 0, 0, 0, 0, []),
  (145, none, .goto (-19), 3, 126, 0, 0, 0, 0, []),
  (148, none, .iinc 3 1, 3, 3, 0, 0, 0, 0, []),
  (151, none, .goto (-74), 3, 77, 0, 0, 0, 0, []),
  (154, none, .aload_n 0, 1, 0, 0, 0, 0, 0, []),
  (155, none, .getfield 53, 3, 11, 30, 22, 14, 0, []),
  (158, none, .iload_n 1, 1, 1, 0, 0, 0, 0, []),
  (159, none, .bipush 10, 2, 0, 0, 0, 0, 0, []),
  (161, none, .isub, 1, 0, 0, 0, 0, 0, []),
  (162, none, .iaload, 1, 0, 0, 0, 0, 0, []),
  (163, none, .ireturn, 1, 0, 0, 0, 0, 0, [])]
noncomputable def K_m_work : List aE := [
  (0, none, .iload_n 1, 1, 1, 0, 0, 0, 0, []),
  (1, none, .iconst (-1), 1, 0, 0, 0, 0, 0, []),
  (2, none, .if_icmp .ne 13, 3, 15, 0, 0, 0, 0, []),
  (5, none, .aload_n 0, 1, 0, 0, 0, 0, 0, []),
  (6, none, .getfield 7, 3, 11, 0, 22, 1, 0, []),
  (9, none, .bipush 49, 2, 0, 0, 0, 0, 0, []),
  (11, none, .iconst 0, 1, 0, 0, 0, 0, 0, []),
  (12, none, .iastore, 1, 0, 0, 0, 0, 0, []),
  (13, none, .iconst 0, 1, 0, 0, 0, 0, 0, []),
  (14, none, .ireturn, 1, 0, 0, 0, 0, 0, []),
  (15, none, .iload_n 1, 1, 1, 0, 0, 0, 0, []),
  (16, none, .iconst 1, 1, 0, 0, 0, 0, 0, []),
  (17, none, .bipush 24, 2, 0, 0, 0, 0, 0, []),
  (19, none, .invokestatic 71, 3, 148, 3, 2, 0, 0, []),
  (22, none, .ifCond .eq 15, 3, 37, 0, 0, 0, 0, []),
  (25, none, .aload_n 0, 1, 0, 0, 0, 0, 0, []),
  (26, none, .getfield 7, 3, 11, 0, 22, 1, 0, []),
  (29, none, .bipush 49, 2, 0, 0, 0, 0, 0, []),
  (31, none, .iaload, 1, 0, 0, 0, 0, 0, []),
  (32, none, .bipush 8, 2, 0, 0, 0, 0, 0, []),
  (34, none, .if_icmp .ne 5, 3, 39, 0, 0, 0, 0, []),
  (37, none, .iconst (-1), 1, 0, 0, 0, 0, 0, []),
  (38, none, .ireturn, 1, 0, 0, 0, 0, 0, []),
  (39, none, .aload_n 0, 1, 0, 0, 0, 0, 0, []),
  (40, none, .getfield 7, 3, 11, 0, 22, 1, 0, []),
  (43, none, .sipush 199, 3, 0, 0, 0, 0, 0, []),
  (46, none, .aload_n 0, 1, 0, 0, 0, 0, 0, []),
  (47, none, .getfield 7, 3, 11, 0, 22, 1, 0, []),
  (50, none, .bipush 49, 2, 0, 0, 0, 0, 0, []),
  (52, none, .iaload, 1, 0, 0, 0, 0, 0, []),
  (53, none, .iadd, 1, 0, 0, 0, 0, 0, []),
  (54, none, .iload_n 1, 1, 1, 0, 0, 0, 0, []),
  (55, none, .iastore, 1, 0, 0, 0, 0, 0, []),
  (56, none, .aload_n 0, 1, 0, 0, 0, 0, 0, []),
  (57, none, .getfield 7, 3, 11, 0, 22, 1, 0, []),
  (60, none, .bipush 49, 2, 0, 0, 0, 0, 0, []),
  (62, none, .dup2, 1, 0, 0, 0, 0, 0, []),
  (63, none, .iaload, 1, 0, 0, 0, 0, 0, []),
  (64, none, .iconst 1, 1, 0, 0, 0, 0, 0, []),
  (65, none, .iadd, 1, 0, 0, 0, 0, 0, []),
  (66, none, .iastore, 1, 0, 0, 0, 0, 0, []),
  (67, none, .aload_n 0, 1, 0, 0, 0, 0, 0, []),
  (68, none, .getfield 7, 3, 11, 0, 22, 1, 0, []),
  (71, none, .bipush 49, 2, 0, 0, 0, 0, 0, []),
  (73, none, .iaload, 1, 0, 0, 0, 0, 0, []),
  (74, none, .ireturn, 1, 0, 0, 0, 0, 0, [])]
noncomputable def K_m_laysHerd : List aE := [
  (0, none, .aload_n 0, 1, 0, 0, 0, 0, 0, []),
  (1, none, .invokevirtual 339, 3, 205, 1, 2, 0, 0, []),
  (4, none, .istore_n 1, 1, 1, 0, 0, 0, 0, []),
  (5, none, .iconst 0, 1, 0, 0, 0, 0, 0, []),
  (6, none, .istore_n 2, 1, 2, 0, 0, 0, 0, []),
  (7, none, .aload_n 0, 1, 0, 0, 0, 0, 0, []),
  (8, none, .iconst 0, 1, 0, 0, 0, 0, 0, []),
  (9, none, .putfield 406, 3, 11, 33, 0, 0, 0, []),
  (12, none, .iconst 0, 1, 0, 0, 0, 0, 0, []),
  (13, none, .istore_n 3, 1, 3, 0, 0, 0, 0, []),
  (14, some [true, true, true, true, false], .iload_n 3, 1, 3, 0, 0, 0, 0, []),
  (15, none, .aload_n 0, 1, 0, 0, 0, 0, 0, []),
  (16, none, .getfield 7, 3, 11, 0, 22, 1, 0, []),
  (19, none, .bipush 41, 2, 0, 0, 0, 0, 0, []),
  (21, none, .iaload, 1, 0, 0, 0, 0, 0, []),
  (22, none, .if_icmp .ge 66, 3, 88, 0, 0, 0, 0, []),
  (25, none, .iload_n 1, 1, 1, 0, 0, 0, 0, []),
  (26, none, .iload_n 3, 1, 3, 0, 0, 0, 0, []),
  (27, none, .iadd, 1, 0, 0, 0, 0, 0, []),
  (28, none, .aload_n 0, 1, 0, 0, 0, 0, 0, []),
  (29, none, .getfield 7, 3, 11, 0, 22, 1, 0, []),
  (32, none, .bipush 41, 2, 0, 0, 0, 0, 0, []),
  (34, none, .iaload, 1, 0, 0, 0, 0, 0, []),
  (35, none, .irem, 1, 0, 0, 0, 0, 0, []),
  (36, none, .istore 4, 2, 4, 0, 0, 0, 0, []),
  (38, none, .aload_n 0, 1, 0, 0, 0, 0, 0, []),
  (39, none, .iload 4, 2, 4, 0, 0, 0, 0, []),
  (41, none, .invokevirtual 309, 3, 153, 2, 2, 0, 0, []),
  (44, none, .ifCond .ne 6, 3, 50, 0, 0, 0, 0, []),
  (47, none, .goto 35, 3, 82, 0, 0, 0, 0, []),
  (50, none, .aload_n 0, 1, 0, 0, 0, 0, 0, []),
  (51, none, .getfield 56, 3, 11, 31, 22, 15, 0, []),
  (54, none, .aload_n 0, 1, 0, 0, 0, 0, 0, []),
  (55, none, .getfield 406, 3, 11, 33, 0, 0, 0, []),
  (58, none, .iload 4, 2, 4, 0, 0, 0, 0, []),
  (60, none, .iastore, 1, 0, 0, 0, 0, 0, []),
  (61, none, .aload_n 0, 1, 0, 0, 0, 0, 0, []),
  (62, none, .dup, 1, 0, 0, 0, 0, 0, []),
  (63, none, .getfield 406, 3, 11, 33, 0, 0, 0, []),
  (66, none, .iconst 1, 1, 0, 0, 0, 0, 0, []),
  (67, none, .iadd, 1, 0, 0, 0, 0, 0, []),
  (68, none, .putfield 406, 3, 11, 33, 0, 0, 0, []),
  (71, none, .iload_n 2, 1, 2, 0, 0, 0, 0, []),
  (72, none, .aload_n 0, 1, 0, 0, 0, 0, 0, []),
  (73, none, .iload 4, 2, 4, 0, 0, 0, 0, []),
  (75, none, .invokevirtual 342, 3, 202, 2, 2, 0, 0, []),
  (78, none, .invokestatic 302, 3, 150, 2, 2, 0, 0, []),
  (81, none, .istore_n 2, 1, 2, 0, 0, 0, 0, []),
  (82, none, .iinc 3 1, 3, 3, 0, 0, 0, 0, []),
  (85, none, .goto (-71), 3, 14, 0, 0, 0, 0, []),
  (88, none, .iload_n 2, 1, 2, 0, 0, 0, 0, []),
  (89, none, .ireturn, 1, 0, 0, 0, 0, 0, [])]
noncomputable def K_m_behind : List aE := [
  (0, none, .iload_n 1, 1, 1, 0, 0, 0, 0, []),
  (1, none, .bipush 100, 2, 0, 0, 0, 0, 0, []),
  (3, none, .idiv, 1, 0, 0, 0, 0, 0, []),
  (4, none, .istore_n 3, 1, 3, 0, 0, 0, 0, []),
  (5, none, .iload_n 1, 1, 1, 0, 0, 0, 0, []),
  (6, none, .bipush 100, 2, 0, 0, 0, 0, 0, []),
  (8, none, .irem, 1, 0, 0, 0, 0, 0, []),
  (9, none, .istore 4, 2, 4, 0, 0, 0, 0, []),
  (11, some [true, false, true, true, true], .iload_n 3, 1, 3, 0, 0, 0, 0, []),
  (12, none, .ifCond .eq 27, 3, 39, 0, 0, 0, 0, []),
  (15, none, .iload 4, 2, 4, 0, 0, 0, 0, []),
  (17, none, .iload_n 2, 1, 2, 0, 0, 0, 0, []),
  (18, none, .iadd, 1, 0, 0, 0, 0, 0, []),
  (19, none, .aload_n 0, 1, 0, 0, 0, 0, 0, []),
  (20, none, .aload_n 0, 1, 0, 0, 0, 0, 0, []),
  (21, none, .getfield 56, 3, 11, 31, 22, 15, 0, []),
  (24, none, .iload_n 3, 1, 3, 0, 0, 0, 0, []),
  (25, none, .iconst 1, 1, 0, 0, 0, 0, 0, []),
  (26, none, .isub, 1, 0, 0, 0, 0, 0, []),
  (27, none, .aload_n 0, 1, 0, 0, 0, 0, 0, []),
  (28, none, .getfield 406, 3, 11, 33, 0, 0, 0, []),
  (31, none, .irem, 1, 0, 0, 0, 0, 0, []),
  (32, none, .iaload, 1, 0, 0, 0, 0, 0, []),
  (33, none, .invokevirtual 342, 3, 202, 2, 2, 0, 0, []),
  (36, none, .if_icmp .le 12, 3, 48, 0, 0, 0, 0, []),
  (39, none, .iinc 3 1, 3, 3, 0, 0, 0, 0, []),
  (42, none, .iconst 0, 1, 0, 0, 0, 0, 0, []),
  (43, none, .istore 4, 2, 4, 0, 0, 0, 0, []),
  (45, none, .goto (-34), 3, 11, 0, 0, 0, 0, []),
  (48, none, .bipush 100, 2, 0, 0, 0, 0, 0, []),
  (50, none, .iload_n 3, 1, 3, 0, 0, 0, 0, []),
  (51, none, .imul, 1, 0, 0, 0, 0, 0, []),
  (52, none, .iload 4, 2, 4, 0, 0, 0, 0, []),
  (54, none, .iadd, 1, 0, 0, 0, 0, 0, []),
  (55, none, .iload_n 2, 1, 2, 0, 0, 0, 0, []),
  (56, none, .iadd, 1, 0, 0, 0, 0, 0, []),
  (57, none, .ireturn, 1, 0, 0, 0, 0, 0, [])]
noncomputable def K_m_inOrder : List aE := [
  (0, none, .iconst 0, 1, 0, 0, 0, 0, 0, []),
  (1, none, .istore_n 1, 1, 1, 0, 0, 0, 0, []),
  (2, none, .iconst 0, 1, 0, 0, 0, 0, 0, []),
  (3, none, .istore_n 2, 1, 2, 0, 0, 0, 0, []),
  (4, some [true, true, true], .iload_n 2, 1, 2, 0, 0, 0, 0, []),
  (5, none, .aload_n 0, 1, 0, 0, 0, 0, 0, []),
  (6, none, .getfield 7, 3, 11, 0, 22, 1, 0, []),
  (9, none, .bipush 49, 2, 0, 0, 0, 0, 0, []),
  (11, none, .iaload, 1, 0, 0, 0, 0, 0, []),
  (12, none, .if_icmp .ge 25, 3, 37, 0, 0, 0, 0, []),
  (15, none, .aload_n 0, 1, 0, 0, 0, 0, 0, []),
  (16, none, .iload_n 1, 1, 1, 0, 0, 0, 0, []),
  (17, none, .aload_n 0, 1, 0, 0, 0, 0, 0, []),
  (18, none, .getfield 7, 3, 11, 0, 22, 1, 0, []),
  (21, none, .sipush 199, 3, 0, 0, 0, 0, 0, []),
  (24, none, .iload_n 2, 1, 2, 0, 0, 0, 0, []),
  (25, none, .iadd, 1, 0, 0, 0, 0, 0, []),
  (26, none, .iaload, 1, 0, 0, 0, 0, 0, []),
  (27, none, .invokevirtual 409, 3, 240, 3, 2, 0, 0, []),
  (30, none, .istore_n 1, 1, 1, 0, 0, 0, 0, []),
  (31, none, .iinc 2 1, 3, 2, 0, 0, 0, 0, []),
  (34, none, .goto (-30), 3, 4, 0, 0, 0, 0, []),
  (37, none, .iload_n 1, 1, 1, 0, 0, 0, 0, []),
  (38, none, .ireturn, 1, 0, 0, 0, 0, 0, [])]
noncomputable def K_m_bestOrder : List aE := [
  (0, none, .iconst 0, 1, 0, 0, 0, 0, 0, []),
  (1, none, .istore_n 1, 1, 1, 0, 0, 0, 0, []),
  (2, some [true, true, false], .iload_n 1, 1, 1, 0, 0, 0, 0, []),
  (3, none, .iconst 1, 1, 0, 0, 0, 0, 0, []),
  (4, none, .aload_n 0, 1, 0, 0, 0, 0, 0, []),
  (5, none, .getfield 7, 3, 11, 0, 22, 1, 0, []),
  (8, none, .bipush 49, 2, 0, 0, 0, 0, 0, []),
  (10, none, .iaload, 1, 0, 0, 0, 0, 0, []),
  (11, none, .ishl, 1, 0, 0, 0, 0, 0, []),
  (12, none, .if_icmp .ge 95, 3, 107, 0, 0, 0, 0, []),
  (15, none, .aload_n 0, 1, 0, 0, 0, 0, 0, []),
  (16, none, .getfield 59, 3, 11, 32, 22, 16, 0, []),
  (19, none, .iload_n 1, 1, 1, 0, 0, 0, 0, []),
  (20, none, .iload_n 1, 1, 1, 0, 0, 0, 0, []),
  (21, none, .ifCond .ne 7, 3, 28, 0, 0, 0, 0, []),
  (24, none, .iconst 0, 1, 0, 0, 0, 0, 0, []),
  (25, none, .goto 6, 3, 31, 0, 0, 0, 0, []),
  (28, none, .ldc_w 398, 3, 0, 0, 0, 0, 1000000, []),
  (31, none, .iastore, 1, 0, 0, 0, 0, 0, []),
  (32, none, .iconst 0, 1, 0, 0, 0, 0, 0, []),
  (33, none, .istore_n 2, 1, 2, 0, 0, 0, 0, []),
  (34, some [true, true, true], .iload_n 2, 1, 2, 0, 0, 0, 0, []),
  (35, none, .aload_n 0, 1, 0, 0, 0, 0, 0, []),
  (36, none, .getfield 7, 3, 11, 0, 22, 1, 0, []),
  (39, none, .bipush 49, 2, 0, 0, 0, 0, 0, []),
  (41, none, .iaload, 1, 0, 0, 0, 0, 0, []),
  (42, none, .if_icmp .ge 59, 3, 101, 0, 0, 0, 0, []),
  (45, none, .iload_n 1, 1, 1, 0, 0, 0, 0, []),
  (46, none, .iload_n 2, 1, 2, 0, 0, 0, 0, []),
  (47, none, .ishr, 1, 0, 0, 0, 0, 0, []),
  (48, none, .iconst 1, 1, 0, 0, 0, 0, 0, []),
  (49, none, .iand, 1, 0, 0, 0, 0, 0, []),
  (50, none, .iconst 1, 1, 0, 0, 0, 0, 0, []),
  (51, none, .if_icmp .ne 44, 3, 95, 0, 0, 0, 0, []),
  (54, none, .aload_n 0, 1, 0, 0, 0, 0, 0, []),
  (55, none, .getfield 59, 3, 11, 32, 22, 16, 0, []),
  (58, none, .iload_n 1, 1, 1, 0, 0, 0, 0, []),
  (59, none, .aload_n 0, 1, 0, 0, 0, 0, 0, []),
  (60, none, .getfield 59, 3, 11, 32, 22, 16, 0, []),
  (63, none, .iload_n 1, 1, 1, 0, 0, 0, 0, []),
  (64, none, .iaload, 1, 0, 0, 0, 0, 0, []),
  (65, none, .aload_n 0, 1, 0, 0, 0, 0, 0, []),
  (66, none, .aload_n 0, 1, 0, 0, 0, 0, 0, []),
  (67, none, .getfield 59, 3, 11, 32, 22, 16, 0, []),
  (70, none, .iload_n 1, 1, 1, 0, 0, 0, 0, []),
  (71, none, .iconst 1, 1, 0, 0, 0, 0, 0, []),
  (72, none, .iload_n 2, 1, 2, 0, 0, 0, 0, []),
  (73, none, .ishl, 1, 0, 0, 0, 0, 0, []),
  (74, none, .iconst (-1), 1, 0, 0, 0, 0, 0, []),
  (75, none, .ixor, 1, 0, 0, 0, 0, 0, []),
  (76, none, .iand, 1, 0, 0, 0, 0, 0, []),
  (77, none, .iaload, 1, 0, 0, 0, 0, 0, []),
  (78, none, .aload_n 0, 1, 0, 0, 0, 0, 0, []),
  (79, none, .getfield 7, 3, 11, 0, 22, 1, 0, []),
  (82, none, .sipush 199, 3, 0, 0, 0, 0, 0, []),
  (85, none, .iload_n 2, 1, 2, 0, 0, 0, 0, []),
  (86, none, .iadd, 1, 0, 0, 0, 0, 0, []),
  (87, none, .iaload, 1, 0, 0, 0, 0, 0, []),
  (88, none, .invokevirtual 409, 3, 240, 3, 2, 0, 0, []),
  (91, none, .invokestatic 299, 3, 149, 2, 2, 0, 0, []),
  (94, none, .iastore, 1, 0, 0, 0, 0, 0, []),
  (95, none, .iinc 2 1, 3, 2, 0, 0, 0, 0, []),
  (98, none, .goto (-64), 3, 34, 0, 0, 0, 0, []),
  (101, none, .iinc 1 1, 3, 1, 0, 0, 0, 0, []),
  (104, none, .goto (-102), 3, 2, 0, 0, 0, 0, []),
  (107, none, .aload_n 0, 1, 0, 0, 0, 0, 0, []),
  (108, none, .getfield 59, 3, 11, 32, 22, 16, 0, []),
  (111, none, .iconst 1, 1, 0, 0, 0, 0, 0, []),
  (112, none, .aload_n 0, 1, 0, 0, 0, 0, 0, []),
  (113, none, .getfield 7, 3, 11, 0, 22, 1, 0, []),
  (116, none, .bipush 49, 2, 0, 0, 0, 0, 0, []),
  (118, none, .iaload, 1, 0, 0, 0, 0, 0, []),
  (119, none, .ishl, 1, 0, 0, 0, 0, 0, []),
  (120, none, .iconst 1, 1, 0, 0, 0, 0, 0, []),
  (121, none, .isub, 1, 0, 0, 0, 0, 0, []),
  (122, none, .iaload, 1, 0, 0, 0, 0, 0, []),
  (123, none, .ireturn, 1, 0, 0, 0, 0, 0, [])]
noncomputable def K_m_works : List aE := [
  (0, none, .iload_n 1, 1, 1, 0, 0, 0, 0, []),
  (1, none, .iconst 0, 1, 0, 0, 0, 0, 0, []),
  (2, none, .iconst 2, 1, 0, 0, 0, 0, 0, []),
  (3, none, .invokestatic 71, 3, 148, 3, 2, 0, 0, []),
  (6, none, .ifCond .eq 13, 3, 19, 0, 0, 0, 0, []),
  (9, none, .aload_n 0, 1, 0, 0, 0, 0, 0, []),
  (10, none, .getfield 7, 3, 11, 0, 22, 1, 0, []),
  (13, none, .bipush 10, 2, 0, 0, 0, 0, 0, []),
  (15, none, .iaload, 1, 0, 0, 0, 0, 0, []),
  (16, none, .ifCond .ne 5, 3, 21, 0, 0, 0, 0, []),
  (19, none, .iconst (-1), 1, 0, 0, 0, 0, 0, []),
  (20, none, .ireturn, 1, 0, 0, 0, 0, 0, []),
  (21, none, .aload_n 0, 1, 0, 0, 0, 0, 0, []),
  (22, none, .invokevirtual 412, 3, 239, 1, 2, 0, 0, []),
  (25, none, .istore_n 2, 1, 2, 0, 0, 0, 0, []),
  (26, none, .iconst 0, 1, 0, 0, 0, 0, 0, []),
  (27, none, .istore_n 3, 1, 3, 0, 0, 0, 0, []),
  (28, some [true, true, true, true], .iload_n 3, 1, 3, 0, 0, 0, 0, []),
  (29, none, .aload_n 0, 1, 0, 0, 0, 0, 0, []),
  (30, none, .getfield 7, 3, 11, 0, 22, 1, 0, []),
  (33, none, .bipush 49, 2, 0, 0, 0, 0, 0, []),
  (35, none, .iaload, 1, 0, 0, 0, 0, 0, []),
  (36, none, .if_icmp .ge 25, 3, 61, 0, 0, 0, 0, []),
  (39, none, .aload_n 0, 1, 0, 0, 0, 0, 0, []),
  (40, none, .getfield 7, 3, 11, 0, 22, 1, 0, []),
  (43, none, .sipush 199, 3, 0, 0, 0, 0, 0, []),
  (46, none, .iload_n 3, 1, 3, 0, 0, 0, 0, []),
  (47, none, .iadd, 1, 0, 0, 0, 0, 0, []),
  (48, none, .iaload, 1, 0, 0, 0, 0, 0, []),
  (49, none, .iload_n 2, 1, 2, 0, 0, 0, 0, []),
  (50, none, .if_icmp .le 5, 3, 55, 0, 0, 0, 0, []),
  (53, none, .iconst (-1), 1, 0, 0, 0, 0, 0, []),
  (54, none, .ireturn, 1, 0, 0, 0, 0, 0, []),
  (55, none, .iinc 3 1, 3, 3, 0, 0, 0, 0, []),
  (58, none, .goto (-30), 3, 28, 0, 0, 0, 0, []),
  (61, none, .iload_n 1, 1, 1, 0, 0, 0, 0, []),
  (62, none, .iconst 2, 1, 0, 0, 0, 0, 0, []),
  (63, none, .if_icmp .ne 11, 3, 74, 0, 0, 0, 0, []),
  (66, none, .aload_n 0, 1, 0, 0, 0, 0, 0, []),
  (67, none, .invokevirtual 415, 3, 242, 1, 2, 0, 0, []),
  (70, none, .bipush 100, 2, 0, 0, 0, 0, 0, []),
  (72, none, .idiv, 1, 0, 0, 0, 0, 0, []),
  (73, none, .ireturn, 1, 0, 0, 0, 0, 0, []),
  (74, none, .aload_n 0, 1, 0, 0, 0, 0, 0, []),
  (75, none, .invokevirtual 418, 3, 241, 1, 2, 0, 0, []),
  (78, none, .bipush 100, 2, 0, 0, 0, 0, 0, []),
  (80, none, .idiv, 1, 0, 0, 0, 0, 0, []),
  (81, none, .istore_n 3, 1, 3, 0, 0, 0, 0, []),
  (82, none, .iload_n 1, 1, 1, 0, 0, 0, 0, []),
  (83, none, .ifCond .ne 7, 3, 90, 0, 0, 0, 0, []),
  (86, none, .iload_n 3, 1, 3, 0, 0, 0, 0, []),
  (87, none, .goto 24, 3, 111, 0, 0, 0, 0, []),
  (90, none, .iload_n 3, 1, 3, 0, 0, 0, 0, []),
  (91, none, .ifCond .ne 7, 3, 98, 0, 0, 0, 0, []),
  (94, none, .iconst (-1), 1, 0, 0, 0, 0, 0, []),
  (95, none, .goto 16, 3, 111, 0, 0, 0, 0, []),
  (98, none, .aload_n 0, 1, 0, 0, 0, 0, 0, []),
  (99, none, .getfield 56, 3, 11, 31, 22, 15, 0, []),
  (102, none, .iload_n 3, 1, 3, 0, 0, 0, 0, []),
  (103, none, .iconst 1, 1, 0, 0, 0, 0, 0, []),
  (104, none, .isub, 1, 0, 0, 0, 0, 0, []),
  (105, none, .aload_n 0, 1, 0, 0, 0, 0, 0, []),
  (106, none, .getfield 406, 3, 11, 33, 0, 0, 0, []),
  (109, none, .irem, 1, 0, 0, 0, 0, 0, []),
  (110, none, .iaload, 1, 0, 0, 0, 0, 0, []),
  (111, none, .ireturn, 1, 0, 0, 0, 0, 0, [])]
noncomputable def K_m_isGate : List aE := [
  (0, none, .iload_n 0, 1, 0, 0, 0, 0, 0, []),
  (1, none, .iconst 0, 1, 0, 0, 0, 0, 0, []),
  (2, none, .bipush 9, 2, 0, 0, 0, 0, 0, []),
  (4, none, .invokestatic 71, 3, 148, 3, 2, 0, 0, []),
  (7, none, .ireturn, 1, 1, 0, 0, 0, 0, [])]
noncomputable def K_m_gate : List aE := [
  (0, none, .iload_n 1, 1, 1, 0, 0, 0, 0, []),
  (1, none, .iconst (-1), 1, 0, 0, 0, 0, 0, []),
  (2, none, .if_icmp .ne 13, 3, 15, 0, 0, 0, 0, []),
  (5, none, .aload_n 0, 1, 0, 0, 0, 0, 0, []),
  (6, none, .getfield 7, 3, 11, 0, 22, 1, 0, []),
  (9, none, .bipush 50, 2, 0, 0, 0, 0, 0, []),
  (11, none, .iconst 0, 1, 0, 0, 0, 0, 0, []),
  (12, none, .iastore, 1, 0, 0, 0, 0, 0, []),
  (13, none, .iconst 0, 1, 0, 0, 0, 0, 0, []),
  (14, none, .ireturn, 1, 0, 0, 0, 0, 0, []),
  (15, none, .iload_n 1, 1, 1, 0, 0, 0, 0, []),
  (16, none, .invokestatic 421, 3, 244, 1, 2, 0, 0, []),
  (19, none, .ifCond .eq 27, 3, 46, 0, 0, 0, 0, []),
  (22, none, .iload_n 2, 1, 2, 0, 0, 0, 0, []),
  (23, none, .invokestatic 421, 3, 244, 1, 2, 0, 0, []),
  (26, none, .ifCond .eq 20, 3, 46, 0, 0, 0, 0, []),
  (29, none, .iload_n 1, 1, 1, 0, 0, 0, 0, []),
  (30, none, .iload_n 2, 1, 2, 0, 0, 0, 0, []),
  (31, none, .if_icmp .eq 15, 3, 46, 0, 0, 0, 0, []),
  (34, none, .aload_n 0, 1, 0, 0, 0, 0, 0, []),
  (35, none, .getfield 7, 3, 11, 0, 22, 1, 0, []),
  (38, none, .bipush 50, 2, 0, 0, 0, 0, 0, []),
  (40, none, .iaload, 1, 0, 0, 0, 0, 0, []),
  (41, none, .bipush 14, 2, 0, 0, 0, 0, 0, []),
  (43, none, .if_icmp .ne 5, 3, 48, 0, 0, 0, 0, []),
  (46, none, .iconst (-1), 1, 0, 0, 0, 0, 0, []),
  (47, none, .ireturn, 1, 0, 0, 0, 0, 0, []),
  (48, none, .aload_n 0, 1, 0, 0, 0, 0, 0, []),
  (49, none, .getfield 7, 3, 11, 0, 22, 1, 0, []),
  (52, none, .sipush 207, 3, 0, 0, 0, 0, 0, []),
  (55, none, .iconst 2, 1, 0, 0, 0, 0, 0, []),
  (56, none, .aload_n 0, 1, 0, 0, 0, 0, 0, []),
  (57, none, .getfield 7, 3, 11, 0, 22, 1, 0, []),
  (60, none, .bipush 50, 2, 0, 0, 0, 0, 0, []),
  (62, none, .iaload, 1, 0, 0, 0, 0, 0, []),
  (63, none, .imul, 1, 0, 0, 0, 0, 0, []),
  (64, none, .iadd, 1, 0, 0, 0, 0, 0, []),
  (65, none, .iload_n 1, 1, 1, 0, 0, 0, 0, []),
  (66, none, .iastore, 1, 0, 0, 0, 0, 0, []),
  (67, none, .aload_n 0, 1, 0, 0, 0, 0, 0, []),
  (68, none, .getfield 7, 3, 11, 0, 22, 1, 0, []),
  (71, none, .sipush 207, 3, 0, 0, 0, 0, 0, []),
  (74, none, .iconst 2, 1, 0, 0, 0, 0, 0, []),
  (75, none, .aload_n 0, 1, 0, 0, 0, 0, 0, []),
  (76, none, .getfield 7, 3, 11, 0, 22, 1, 0, []),
  (79, none, .bipush 50, 2, 0, 0, 0, 0, 0, []),
  (81, none, .iaload, 1, 0, 0, 0, 0, 0, []),
  (82, none, .imul, 1, 0, 0, 0, 0, 0, []),
  (83, none, .iadd, 1, 0, 0, 0, 0, 0, []),
  (84, none, .iconst 1, 1, 0, 0, 0, 0, 0, []),
  (85, none, .iadd, 1, 0, 0, 0, 0, 0, []),
  (86, none, .iload_n 2, 1, 2, 0, 0, 0, 0, []),
  (87, none, .iastore, 1, 0, 0, 0, 0, 0, []),
  (88, none, .aload_n 0, 1, 0, 0, 0, 0, 0, []),
  (89, none, .getfield 7, 3, 11, 0, 22, 1, 0, []),
  (92, none, .bipush 50, 2, 0, 0, 0, 0, 0, []),
  (94, none, .dup2, 1, 0, 0, 0, 0, 0, []),
  (95, none, .iaload, 1, 0, 0, 0, 0, 0, []),
  (96, none, .iconst 1, 1, 0, 0, 0, 0, 0, []),
  (97, none, .iadd, 1, 0, 0, 0, 0, 0, []),
  (98, none, .iastore, 1, 0, 0, 0, 0, 0, []),
  (99, none, .aload_n 0, 1, 0, 0, 0, 0, 0, []),
  (100, none, .getfield 7, 3, 11, 0, 22, 1, 0, []),
  (103, none, .bipush 50, 2, 0, 0, 0, 0, 0, []),
  (105, none, .iaload, 1, 0, 0, 0, 0, 0, []),
  (106, none, .ireturn, 1, 0, 0, 0, 0, 0, [])]
noncomputable def K_m_watches : List aE := [
  (0, none, .iconst 0, 1, 0, 0, 0, 0, 0, []),
  (1, none, .istore_n 2, 1, 2, 0, 0, 0, 0, []),
  (2, some [true, true, true], .iload_n 2, 1, 2, 0, 0, 0, 0, []),
  (3, none, .aload_n 0, 1, 0, 0, 0, 0, 0, []),
  (4, none, .getfield 7, 3, 11, 0, 22, 1, 0, []),
  (7, none, .bipush 50, 2, 0, 0, 0, 0, 0, []),
  (9, none, .iaload, 1, 0, 0, 0, 0, 0, []),
  (10, none, .if_icmp .ge 51, 3, 61, 0, 0, 0, 0, []),
  (13, none, .iload_n 1, 1, 1, 0, 0, 0, 0, []),
  (14, none, .aload_n 0, 1, 0, 0, 0, 0, 0, []),
  (15, none, .getfield 7, 3, 11, 0, 22, 1, 0, []),
  (18, none, .sipush 207, 3, 0, 0, 0, 0, 0, []),
  (21, none, .iconst 2, 1, 0, 0, 0, 0, 0, []),
  (22, none, .iload_n 2, 1, 2, 0, 0, 0, 0, []),
  (23, none, .imul, 1, 0, 0, 0, 0, 0, []),
  (24, none, .iadd, 1, 0, 0, 0, 0, 0, []),
  (25, none, .iaload, 1, 0, 0, 0, 0, 0, []),
  (26, none, .ishr, 1, 0, 0, 0, 0, 0, []),
  (27, none, .iconst 1, 1, 0, 0, 0, 0, 0, []),
  (28, none, .iand, 1, 0, 0, 0, 0, 0, []),
  (29, none, .ifCond .ne 26, 3, 55, 0, 0, 0, 0, []),
  (32, none, .iload_n 1, 1, 1, 0, 0, 0, 0, []),
  (33, none, .aload_n 0, 1, 0, 0, 0, 0, 0, []),
  (34, none, .getfield 7, 3, 11, 0, 22, 1, 0, []),
  (37, none, .sipush 207, 3, 0, 0, 0, 0, 0, []),
  (40, none, .iconst 2, 1, 0, 0, 0, 0, 0, []),
  (41, none, .iload_n 2, 1, 2, 0, 0, 0, 0, []),
  (42, none, .imul, 1, 0, 0, 0, 0, 0, []),
  (43, none, .iadd, 1, 0, 0, 0, 0, 0, []),
  (44, none, .iconst 1, 1, 0, 0, 0, 0, 0, []),
  (45, none, .iadd, 1, 0, 0, 0, 0, 0, []),
  (46, none, .iaload, 1, 0, 0, 0, 0, 0, []),
  (47, none, .ishr, 1, 0, 0, 0, 0, 0, []),
  (48, none, .iconst 1, 1, 0, 0, 0, 0, 0, []),
  (49, none, .iand, 1, 0, 0, 0, 0, 0, []),
  (50, none, .ifCond .ne 5, 3, 55, 0, 0, 0, 0, []),
  (53, none, .iconst 0, 1, 0, 0, 0, 0, 0, []),
  (54, none, .ireturn, 1, 1, 0, 0, 0, 0, []),
  (55, none, .iinc 2 1, 3, 2, 0, 0, 0, 0, []),
  (58, none, .goto (-56), 3, 2, 0, 0, 0, 0, []),
  (61, none, .iconst 1, 1, 0, 0, 0, 0, 0, []),
  (62, none, .ireturn, 1, 1, 0, 0, 0, 0, [])]
noncomputable def K_m_watch : List aE := [
  (0, none, .iload_n 1, 1, 1, 0, 0, 0, 0, []),
  (1, none, .iconst 0, 1, 0, 0, 0, 0, 0, []),
  (2, none, .iconst 1, 1, 0, 0, 0, 0, 0, []),
  (3, none, .invokestatic 71, 3, 148, 3, 2, 0, 0, []),
  (6, none, .ifCond .ne 5, 3, 11, 0, 0, 0, 0, []),
  (9, none, .iconst (-1), 1, 0, 0, 0, 0, 0, []),
  (10, none, .ireturn, 1, 0, 0, 0, 0, 0, []),
  (11, none, .sipush 1023, 3, 0, 0, 0, 0, 0, []),
  (14, none, .istore_n 2, 1, 2, 0, 0, 0, 0, []),
  (15, none, .iconst 0, 1, 0, 0, 0, 0, 0, []),
  (16, none, .istore_n 3, 1, 3, 0, 0, 0, 0, []),
  (17, some [true, true, true, true], .iload_n 3, 1, 3, 0, 0, 0, 0, []),
  (18, none, .sipush 1024, 3, 0, 0, 0, 0, 0, []),
  (21, none, .if_icmp .ge 30, 3, 51, 0, 0, 0, 0, []),
  (24, none, .iload_n 3, 1, 3, 0, 0, 0, 0, []),
  (25, none, .invokestatic 376, 3, 154, 1, 2, 0, 0, []),
  (28, none, .iload_n 2, 1, 2, 0, 0, 0, 0, []),
  (29, none, .invokestatic 376, 3, 154, 1, 2, 0, 0, []),
  (32, none, .if_icmp .ge 13, 3, 45, 0, 0, 0, 0, []),
  (35, none, .aload_n 0, 1, 0, 0, 0, 0, 0, []),
  (36, none, .iload_n 3, 1, 3, 0, 0, 0, 0, []),
  (37, none, .invokevirtual 424, 3, 246, 2, 2, 0, 0, []),
  (40, none, .ifCond .eq 5, 3, 45, 0, 0, 0, 0, []),
  (43, none, .iload_n 3, 1, 3, 0, 0, 0, 0, []),
  (44, none, .istore_n 2, 1, 2, 0, 0, 0, 0, []),
  (45, none, .iinc 3 1, 3, 3, 0, 0, 0, 0, []),
  (48, none, .goto (-31), 3, 17, 0, 0, 0, 0, []),
  (51, none, .iload_n 1, 1, 1, 0, 0, 0, 0, []),
  (52, none, .ifCond .ne 10, 3, 62, 0, 0, 0, 0, []),
  (55, none, .iload_n 2, 1, 2, 0, 0, 0, 0, []),
  (56, none, .invokestatic 376, 3, 154, 1, 2, 0, 0, []),
  (59, none, .goto 4, 3, 63, 0, 0, 0, 0, []),
  (62, none, .iload_n 2, 1, 2, 0, 0, 0, 0, []),
  (63, none, .ireturn, 1, 0, 0, 0, 0, 0, [])]
noncomputable def K_m_ate : List aE := [
  (0, none, .iload_n 1, 1, 1, 0, 0, 0, 0, []),
  (1, none, .iconst (-1), 1, 0, 0, 0, 0, 0, []),
  (2, none, .if_icmp .ne 13, 3, 15, 0, 0, 0, 0, []),
  (5, none, .aload_n 0, 1, 0, 0, 0, 0, 0, []),
  (6, none, .getfield 7, 3, 11, 0, 22, 1, 0, []),
  (9, none, .bipush 51, 2, 0, 0, 0, 0, 0, []),
  (11, none, .iconst 0, 1, 0, 0, 0, 0, 0, []),
  (12, none, .iastore, 1, 0, 0, 0, 0, 0, []),
  (13, none, .iconst 0, 1, 0, 0, 0, 0, 0, []),
  (14, none, .ireturn, 1, 0, 0, 0, 0, 0, []),
  (15, none, .iload_n 1, 1, 1, 0, 0, 0, 0, []),
  (16, none, .iconst 0, 1, 0, 0, 0, 0, 0, []),
  (17, none, .bipush 6, 2, 0, 0, 0, 0, 0, []),
  (19, none, .invokestatic 71, 3, 148, 3, 2, 0, 0, []),
  (22, none, .ifCond .eq 23, 3, 45, 0, 0, 0, 0, []),
  (25, none, .aload_n 0, 1, 0, 0, 0, 0, 0, []),
  (26, none, .iload_n 2, 1, 2, 0, 0, 0, 0, []),
  (27, none, .invokevirtual 75, 3, 152, 2, 2, 0, 0, []),
  (30, none, .ifCond .eq 15, 3, 45, 0, 0, 0, 0, []),
  (33, none, .aload_n 0, 1, 0, 0, 0, 0, 0, []),
  (34, none, .getfield 7, 3, 11, 0, 22, 1, 0, []),
  (37, none, .bipush 51, 2, 0, 0, 0, 0, 0, []),
  (39, none, .iaload, 1, 0, 0, 0, 0, 0, []),
  (40, none, .bipush 20, 2, 0, 0, 0, 0, 0, []),
  (42, none, .if_icmp .ne 5, 3, 47, 0, 0, 0, 0, []),
  (45, none, .iconst (-1), 1, 0, 0, 0, 0, 0, []),
  (46, none, .ireturn, 1, 0, 0, 0, 0, 0, []),
  (47, none, .aload_n 0, 1, 0, 0, 0, 0, 0, []),
  (48, none, .getfield 7, 3, 11, 0, 22, 1, 0, []),
  (51, none, .sipush 235, 3, 0, 0, 0, 0, 0, []),
  (54, none, .iconst 2, 1, 0, 0, 0, 0, 0, []),
  (55, none, .aload_n 0, 1, 0, 0, 0, 0, 0, []),
  (56, none, .getfield 7, 3, 11, 0, 22, 1, 0, []),
  (59, none, .bipush 51, 2, 0, 0, 0, 0, 0, []),
  (61, none, .iaload, 1, 0, 0, 0, 0, 0, []),
  (62, none, .imul, 1, 0, 0, 0, 0, 0, []),
  (63, none, .iadd, 1, 0, 0, 0, 0, 0, []),
  (64, none, .iload_n 1, 1, 1, 0, 0, 0, 0, []),
  (65, none, .iastore, 1, 0, 0, 0, 0, 0, []),
  (66, none, .aload_n 0, 1, 0, 0, 0, 0, 0, []),
  (67, none, .getfield 7, 3, 11, 0, 22, 1, 0, []),
  (70, none, .sipush 235, 3, 0, 0, 0, 0, 0, []),
  (73, none, .iconst 2, 1, 0, 0, 0, 0, 0, []),
  (74, none, .aload_n 0, 1, 0, 0, 0, 0, 0, []),
  (75, none, .getfield 7, 3, 11, 0, 22, 1, 0, []),
  (78, none, .bipush 51, 2, 0, 0, 0, 0, 0, []),
  (80, none, .iaload, 1, 0, 0, 0, 0, 0, []),
  (81, none, .imul, 1, 0, 0, 0, 0, 0, []),
  (82, none, .iadd, 1, 0, 0, 0, 0, 0, []),
  (83, none, .iconst 1, 1, 0, 0, 0, 0, 0, []),
  (84, none, .iadd, 1, 0, 0, 0, 0, 0, []),
  (85, none, .iload_n 2, 1, 2, 0, 0, 0, 0, []),
  (86, none, .iastore, 1, 0, 0, 0, 0, 0, []),
  (87, none, .aload_n 0, 1, 0, 0, 0, 0, 0, []),
  (88, none, .getfield 7, 3, 11, 0, 22, 1, 0, []),
  (91, none, .bipush 51, 2, 0, 0, 0, 0, 0, []),
  (93, none, .dup2, 1, 0, 0, 0, 0, 0, []),
  (94, none, .iaload, 1, 0, 0, 0, 0, 0, []),
  (95, none, .iconst 1, 1, 0, 0, 0, 0, 0, []),
  (96, none, .iadd, 1, 0, 0, 0, 0, 0, []),
  (97, none, .iastore, 1, 0, 0, 0, 0, 0, []),
  (98, none, .aload_n 0, 1, 0, 0, 0, 0, 0, []),
  (99, none, .getfield 7, 3, 11, 0, 22, 1, 0, []),
  (102, none, .bipush 51, 2, 0, 0, 0, 0, 0, []),
  (104, none, .iaload, 1, 0, 0, 0, 0, 0, []),
  (105, none, .ireturn, 1, 0, 0, 0, 0, 0, [])]
noncomputable def K_m_laysAte : List aE := [
  (0, none, .iconst 0, 1, 0, 0, 0, 0, 0, []),
  (1, none, .istore_n 1, 1, 1, 0, 0, 0, 0, []),
  (2, some [true, true], .iload_n 1, 1, 1, 0, 0, 0, 0, []),
  (3, none, .bipush 7, 2, 0, 0, 0, 0, 0, []),
  (5, none, .if_icmp .ge 16, 3, 21, 0, 0, 0, 0, []),
  (8, none, .aload_n 0, 1, 0, 0, 0, 0, 0, []),
  (9, none, .getfield 62, 3, 11, 34, 22, 17, 0, []),
  (12, none, .iload_n 1, 1, 1, 0, 0, 0, 0, []),
  (13, none, .iconst 0, 1, 0, 0, 0, 0, 0, []),
  (14, none, .iastore, 1, 0, 0, 0, 0, 0, []),
  (15, none, .iinc 1 1, 3, 1, 0, 0, 0, 0, []),
  (18, none, .goto (-16), 3, 2, 0, 0, 0, 0, []),
  (21, none, .iconst 0, 1, 0, 0, 0, 0, 0, []),
  (22, none, .istore_n 1, 1, 1, 0, 0, 0, 0, []),
  (23, some [true, true], .iload_n 1, 1, 1, 0, 0, 0, 0, []),
  (24, none, .aload_n 0, 1, 0, 0, 0, 0, 0, []),
  (25, none, .getfield 7, 3, 11, 0, 22, 1, 0, []),
  (28, none, .bipush 51, 2, 0, 0, 0, 0, 0, []),
  (30, none, .iaload, 1, 0, 0, 0, 0, 0, []),
  (31, none, .if_icmp .ge 45, 3, 76, 0, 0, 0, 0, []),
  (34, none, .aload_n 0, 1, 0, 0, 0, 0, 0, []),
  (35, none, .getfield 62, 3, 11, 34, 22, 17, 0, []),
  (38, none, .aload_n 0, 1, 0, 0, 0, 0, 0, []),
  (39, none, .getfield 7, 3, 11, 0, 22, 1, 0, []),
  (42, none, .sipush 235, 3, 0, 0, 0, 0, 0, []),
  (45, none, .iconst 2, 1, 0, 0, 0, 0, 0, []),
  (46, none, .iload_n 1, 1, 1, 0, 0, 0, 0, []),
  (47, none, .imul, 1, 0, 0, 0, 0, 0, []),
  (48, none, .iadd, 1, 0, 0, 0, 0, 0, []),
  (49, none, .iaload, 1, 0, 0, 0, 0, 0, []),
  (50, none, .dup2, 1, 0, 0, 0, 0, 0, []),
  (51, none, .iaload, 1, 0, 0, 0, 0, 0, []),
  (52, none, .iconst 1, 1, 0, 0, 0, 0, 0, []),
  (53, none, .aload_n 0, 1, 0, 0, 0, 0, 0, []),
  (54, none, .getfield 7, 3, 11, 0, 22, 1, 0, []),
  (57, none, .sipush 235, 3, 0, 0, 0, 0, 0, []),
  (60, none, .iconst 2, 1, 0, 0, 0, 0, 0, []),
  (61, none, .iload_n 1, 1, 1, 0, 0, 0, 0, []),
  (62, none, .imul, 1, 0, 0, 0, 0, 0, []),
  (63, none, .iadd, 1, 0, 0, 0, 0, 0, []),
  (64, none, .iconst 1, 1, 0, 0, 0, 0, 0, []),
  (65, none, .iadd, 1, 0, 0, 0, 0, 0, []),
  (66, none, .iaload, 1, 0, 0, 0, 0, 0, []),
  (67, none, .ishl, 1, 0, 0, 0, 0, 0, []),
  (68, none, .ior, 1, 0, 0, 0, 0, 0, []),
  (69, none, .iastore, 1, 0, 0, 0, 0, 0, []),
  (70, none, .iinc 1 1, 3, 1, 0, 0, 0, 0, []),
  (73, none, .goto (-50), 3, 23, 0, 0, 0, 0, []),
  (76, none, .return_, 1, 0, 0, 0, 0, 0, [])]
noncomputable def K_m_waysFrom : List aE := [
  (0, none, .iload_n 1, 1, 1, 0, 0, 0, 0, []),
  (1, none, .bipush 7, 2, 0, 0, 0, 0, 0, []),
  (3, none, .if_icmp .ne 5, 3, 8, 0, 0, 0, 0, []),
  (6, none, .iconst 1, 1, 0, 0, 0, 0, 0, []),
  (7, none, .ireturn, 1, 0, 0, 0, 0, 0, []),
  (8, none, .aload_n 0, 1, 0, 0, 0, 0, 0, []),
  (9, none, .getfield 62, 3, 11, 34, 22, 17, 0, []),
  (12, none, .iload_n 1, 1, 1, 0, 0, 0, 0, []),
  (13, none, .iaload, 1, 0, 0, 0, 0, 0, []),
  (14, none, .ifCond .ne 12, 3, 26, 0, 0, 0, 0, []),
  (17, none, .aload_n 0, 1, 0, 0, 0, 0, 0, []),
  (18, none, .iload_n 1, 1, 1, 0, 0, 0, 0, []),
  (19, none, .iconst 1, 1, 0, 0, 0, 0, 0, []),
  (20, none, .iadd, 1, 0, 0, 0, 0, 0, []),
  (21, none, .iload_n 2, 1, 2, 0, 0, 0, 0, []),
  (22, none, .invokevirtual 427, 3, 250, 3, 2, 0, 0, []),
  (25, none, .ireturn, 1, 0, 0, 0, 0, 0, []),
  (26, none, .iconst 0, 1, 0, 0, 0, 0, 0, []),
  (27, none, .istore_n 3, 1, 3, 0, 0, 0, 0, []),
  (28, none, .iconst 0, 1, 0, 0, 0, 0, 0, []),
  (29, none, .istore 4, 2, 4, 0, 0, 0, 0, []),
  (31, some [true, true, true, true, true], .iload 4, 2, 4, 0, 0, 0, 0, []),
  (33, none, .aload_n 0, 1, 0, 0, 0, 0, 0, []),
  (34, none, .getfield 7, 3, 11, 0, 22, 1, 0, []),
  (37, none, .bipush 41, 2, 0, 0, 0, 0, 0, []),
  (39, none, .iaload, 1, 0, 0, 0, 0, 0, []),
  (40, none, .if_icmp .ge 44, 3, 84, 0, 0, 0, 0, []),
  (43, none, .aload_n 0, 1, 0, 0, 0, 0, 0, []),
  (44, none, .getfield 62, 3, 11, 34, 22, 17, 0, []),
  (47, none, .iload_n 1, 1, 1, 0, 0, 0, 0, []),
  (48, none, .iaload, 1, 0, 0, 0, 0, 0, []),
  (49, none, .iload_n 2, 1, 2, 0, 0, 0, 0, []),
  (50, none, .iconst (-1), 1, 0, 0, 0, 0, 0, []),
  (51, none, .ixor, 1, 0, 0, 0, 0, 0, []),
  (52, none, .iand, 1, 0, 0, 0, 0, 0, []),
  (53, none, .iload 4, 2, 4, 0, 0, 0, 0, []),
  (55, none, .ishr, 1, 0, 0, 0, 0, 0, []),
  (56, none, .iconst 1, 1, 0, 0, 0, 0, 0, []),
  (57, none, .iand, 1, 0, 0, 0, 0, 0, []),
  (58, none, .iconst 1, 1, 0, 0, 0, 0, 0, []),
  (59, none, .if_icmp .ne 19, 3, 78, 0, 0, 0, 0, []),
  (62, none, .iload_n 3, 1, 3, 0, 0, 0, 0, []),
  (63, none, .aload_n 0, 1, 0, 0, 0, 0, 0, []),
  (64, none, .iload_n 1, 1, 1, 0, 0, 0, 0, []),
  (65, none, .iconst 1, 1, 0, 0, 0, 0, 0, []),
  (66, none, .iadd, 1, 0, 0, 0, 0, 0, []),
  (67, none, .iload_n 2, 1, 2, 0, 0, 0, 0, []),
  (68, none, .iconst 1, 1, 0, 0, 0, 0, 0, []),
  (69, none, .iload 4, 2, 4, 0, 0, 0, 0, []),
  (71, none, .ishl, 1, 0, 0, 0, 0, 0, []),
  (72, none, .ior, 1, 0, 0, 0, 0, 0, []),
  (73, none, .invokevirtual 427, 3, 250, 3, 2, 0, 0, []),
  (76, none, .iadd, 1, 0, 0, 0, 0, 0, []),
  (77, none, .istore_n 3, 1, 3, 0, 0, 0, 0, []),
  (78, none, .iinc 4 1, 3, 4, 0, 0, 0, 0, []),
  (81, none, .goto (-50), 3, 31, 0, 0, 0, 0, []),
  (84, none, .iload_n 3, 1, 3, 0, 0, 0, 0, []),
  (85, none, .ireturn, 1, 0, 0, 0, 0, 0, [])]
noncomputable def K_m_sureOnes : List aE := [
  (0, none, .iconst 0, 1, 0, 0, 0, 0, 0, []),
  (1, none, .istore_n 2, 1, 2, 0, 0, 0, 0, []),
  (2, none, .iconst 0, 1, 0, 0, 0, 0, 0, []),
  (3, none, .istore_n 3, 1, 3, 0, 0, 0, 0, []),
  (4, some [true, true, true, true, false, false], .iload_n 3, 1, 3, 0, 0, 0, 0, []),
  (5, none, .bipush 7, 2, 0, 0, 0, 0, 0, []),
  (7, none, .if_icmp .ge 87, 3, 94, 0, 0, 0, 0, []),
  (10, none, .aload_n 0, 1, 0, 0, 0, 0, 0, []),
  (11, none, .getfield 62, 3, 11, 34, 22, 17, 0, []),
  (14, none, .iload_n 3, 1, 3, 0, 0, 0, 0, []),
  (15, none, .iaload, 1, 0, 0, 0, 0, 0, []),
  (16, none, .istore 4, 2, 4, 0, 0, 0, 0, []),
  (18, none, .iconst 0, 1, 0, 0, 0, 0, 0, []),
  (19, none, .istore 5, 2, 5, 0, 0, 0, 0, []),
  (21, some [true, true, true, true, true, true], .iload 5, 2, 5, 0, 0, 0, 0, []),
  (23, none, .aload_n 0, 1, 0, 0, 0, 0, 0, []),
  (24, none, .getfield 7, 3, 11, 0, 22, 1, 0, []),
  (27, none, .bipush 41, 2, 0, 0, 0, 0, 0, []),
  (29, none, .iaload, 1, 0, 0, 0, 0, 0, []),
  (30, none, .if_icmp .ge 50, 3, 80, 0, 0, 0, 0, []),
  (33, none, .iload 4, 2, 4, 0, 0, 0, 0, []),
  (35, none, .iload 5, 2, 5, 0, 0, 0, 0, []),
  (37, none, .ishr, 1, 0, 0, 0, 0, 0, []),
  (38, none, .iconst 1, 1, 0, 0, 0, 0, 0, []),
  (39, none, .iand, 1, 0, 0, 0, 0, 0, []),
  (40, none, .ifCond .ne 6, 3, 46, 0, 0, 0, 0, []),
  (43, none, .goto 31, 3, 74, 0, 0, 0, 0, []),
  (46, none, .aload_n 0, 1, 0, 0, 0, 0, 0, []),
  (47, none, .getfield 62, 3, 11, 34, 22, 17, 0, []),
  (50, none, .iload_n 3, 1, 3, 0, 0, 0, 0, []),
  (51, none, .iconst 1, 1, 0, 0, 0, 0, 0, []),
  (52, none, .iload 5, 2, 5, 0, 0, 0, 0, []),
  (54, none, .ishl, 1, 0, 0, 0, 0, 0, []),
  (55, none, .iastore, 1, 0, 0, 0, 0, 0, []),
  (56, none, .iload_n 2, 1, 2, 0, 0, 0, 0, []),
  (57, none, .aload_n 0, 1, 0, 0, 0, 0, 0, []),
  (58, none, .iconst 0, 1, 0, 0, 0, 0, 0, []),
  (59, none, .iconst 0, 1, 0, 0, 0, 0, 0, []),
  (60, none, .invokevirtual 427, 3, 250, 3, 2, 0, 0, []),
  (63, none, .iload_n 1, 1, 1, 0, 0, 0, 0, []),
  (64, none, .if_icmp .ne 7, 3, 71, 0, 0, 0, 0, []),
  (67, none, .iconst 1, 1, 0, 0, 0, 0, 0, []),
  (68, none, .goto 4, 3, 72, 0, 0, 0, 0, []),
  (71, none, .iconst 0, 1, 0, 0, 0, 0, 0, []),
  (72, none, .iadd, 1, 0, 0, 0, 0, 0, []),
  (73, none, .istore_n 2, 1, 2, 0, 0, 0, 0, []),
  (74, none, .iinc 5 1, 3, 5, 0, 0, 0, 0, []),
  (77, none, .goto (-56), 3, 21, 0, 0, 0, 0, []),
  (80, none, .aload_n 0, 1, 0, 0, 0, 0, 0, []),
  (81, none, .getfield 62, 3, 11, 34, 22, 17, 0, []),
  (84, none, .iload_n 3, 1, 3, 0, 0, 0, 0, []),
  (85, none, .iload 4, 2, 4, 0, 0, 0, 0, []),
  (87, none, .iastore, 1, 0, 0, 0, 0, 0, []),
  (88, none, .iinc 3 1, 3, 3, 0, 0, 0, 0, []),
  (91, none, .goto (-87), 3, 4, 0, 0, 0, 0, []),
  (94, none, .iload_n 2, 1, 2, 0, 0, 0, 0, []),
  (95, none, .ireturn, 1, 0, 0, 0, 0, 0, [])]
noncomputable def K_m_ways : List aE := [
  (0, none, .iload_n 1, 1, 1, 0, 0, 0, 0, []),
  (1, none, .iconst 0, 1, 0, 0, 0, 0, 0, []),
  (2, none, .iconst 1, 1, 0, 0, 0, 0, 0, []),
  (3, none, .invokestatic 71, 3, 148, 3, 2, 0, 0, []),
  (6, none, .ifCond .ne 5, 3, 11, 0, 0, 0, 0, []),
  (9, none, .iconst (-1), 1, 0, 0, 0, 0, 0, []),
  (10, none, .ireturn, 1, 0, 0, 0, 0, 0, []),
  (11, none, .aload_n 0, 1, 0, 0, 0, 0, 0, []),
  (12, none, .invokevirtual 430, 3, 249, 1, 1, 0, 0, []),
  (15, none, .aload_n 0, 1, 0, 0, 0, 0, 0, []),
  (16, none, .iconst 0, 1, 0, 0, 0, 0, 0, []),
  (17, none, .iconst 0, 1, 0, 0, 0, 0, 0, []),
  (18, none, .invokevirtual 427, 3, 250, 3, 2, 0, 0, []),
  (21, none, .istore_n 2, 1, 2, 0, 0, 0, 0, []),
  (22, none, .iload_n 1, 1, 1, 0, 0, 0, 0, []),
  (23, none, .ifCond .ne 7, 3, 30, 0, 0, 0, 0, []),
  (26, none, .iload_n 2, 1, 2, 0, 0, 0, 0, []),
  (27, none, .goto 16, 3, 43, 0, 0, 0, 0, []),
  (30, none, .iload_n 2, 1, 2, 0, 0, 0, 0, []),
  (31, none, .ifCond .ne 7, 3, 38, 0, 0, 0, 0, []),
  (34, none, .iconst 0, 1, 0, 0, 0, 0, 0, []),
  (35, none, .goto 8, 3, 43, 0, 0, 0, 0, []),
  (38, none, .aload_n 0, 1, 0, 0, 0, 0, 0, []),
  (39, none, .iload_n 2, 1, 2, 0, 0, 0, 0, []),
  (40, none, .invokevirtual 433, 3, 251, 2, 2, 0, 0, []),
  (43, none, .ireturn, 1, 0, 0, 0, 0, 0, [])]
noncomputable def K_m_vote : List aE := [
  (0, none, .iload_n 1, 1, 1, 0, 0, 0, 0, []),
  (1, none, .iconst (-1), 1, 0, 0, 0, 0, 0, []),
  (2, none, .if_icmp .ne 13, 3, 15, 0, 0, 0, 0, []),
  (5, none, .aload_n 0, 1, 0, 0, 0, 0, 0, []),
  (6, none, .getfield 7, 3, 11, 0, 22, 1, 0, []),
  (9, none, .bipush 52, 2, 0, 0, 0, 0, 0, []),
  (11, none, .iconst 0, 1, 0, 0, 0, 0, 0, []),
  (12, none, .iastore, 1, 0, 0, 0, 0, 0, []),
  (13, none, .iconst 0, 1, 0, 0, 0, 0, 0, []),
  (14, none, .ireturn, 1, 0, 0, 0, 0, 0, []),
  (15, none, .iload_n 1, 1, 1, 0, 0, 0, 0, []),
  (16, none, .iconst 0, 1, 0, 0, 0, 0, 0, []),
  (17, none, .bipush 24, 2, 0, 0, 0, 0, 0, []),
  (19, none, .invokestatic 71, 3, 148, 3, 2, 0, 0, []),
  (22, none, .ifCond .eq 15, 3, 37, 0, 0, 0, 0, []),
  (25, none, .aload_n 0, 1, 0, 0, 0, 0, 0, []),
  (26, none, .getfield 7, 3, 11, 0, 22, 1, 0, []),
  (29, none, .bipush 52, 2, 0, 0, 0, 0, 0, []),
  (31, none, .iaload, 1, 0, 0, 0, 0, 0, []),
  (32, none, .bipush 9, 2, 0, 0, 0, 0, 0, []),
  (34, none, .if_icmp .ne 5, 3, 39, 0, 0, 0, 0, []),
  (37, none, .iconst (-1), 1, 0, 0, 0, 0, 0, []),
  (38, none, .ireturn, 1, 0, 0, 0, 0, 0, []),
  (39, none, .aload_n 0, 1, 0, 0, 0, 0, 0, []),
  (40, none, .getfield 7, 3, 11, 0, 22, 1, 0, []),
  (43, none, .sipush 275, 3, 0, 0, 0, 0, 0, []),
  (46, none, .aload_n 0, 1, 0, 0, 0, 0, 0, []),
  (47, none, .getfield 7, 3, 11, 0, 22, 1, 0, []),
  (50, none, .bipush 52, 2, 0, 0, 0, 0, 0, []),
  (52, none, .iaload, 1, 0, 0, 0, 0, 0, []),
  (53, none, .iadd, 1, 0, 0, 0, 0, 0, []),
  (54, none, .iload_n 1, 1, 1, 0, 0, 0, 0, []),
  (55, none, .iastore, 1, 0, 0, 0, 0, 0, []),
  (56, none, .aload_n 0, 1, 0, 0, 0, 0, 0, []),
  (57, none, .getfield 7, 3, 11, 0, 22, 1, 0, []),
  (60, none, .bipush 52, 2, 0, 0, 0, 0, 0, []),
  (62, none, .dup2, 1, 0, 0, 0, 0, 0, []),
  (63, none, .iaload, 1, 0, 0, 0, 0, 0, []),
  (64, none, .iconst 1, 1, 0, 0, 0, 0, 0, []),
  (65, none, .iadd, 1, 0, 0, 0, 0, 0, []),
  (66, none, .iastore, 1, 0, 0, 0, 0, 0, []),
  (67, none, .aload_n 0, 1, 0, 0, 0, 0, 0, []),
  (68, none, .getfield 7, 3, 11, 0, 22, 1, 0, []),
  (71, none, .bipush 52, 2, 0, 0, 0, 0, 0, []),
  (73, none, .iaload, 1, 0, 0, 0, 0, 0, []),
  (74, none, .ireturn, 1, 0, 0, 0, 0, 0, [])]
noncomputable def K_m_farFrom : List aE := [
  (0, none, .iconst 0, 1, 0, 0, 0, 0, 0, []),
  (1, none, .istore_n 2, 1, 2, 0, 0, 0, 0, []),
  (2, none, .iconst 0, 1, 0, 0, 0, 0, 0, []),
  (3, none, .istore_n 3, 1, 3, 0, 0, 0, 0, []),
  (4, some [true, true, true, true], .iload_n 3, 1, 3, 0, 0, 0, 0, []),
  (5, none, .aload_n 0, 1, 0, 0, 0, 0, 0, []),
  (6, none, .getfield 7, 3, 11, 0, 22, 1, 0, []),
  (9, none, .bipush 52, 2, 0, 0, 0, 0, 0, []),
  (11, none, .iaload, 1, 0, 0, 0, 0, 0, []),
  (12, none, .if_icmp .ge 27, 3, 39, 0, 0, 0, 0, []),
  (15, none, .iload_n 2, 1, 2, 0, 0, 0, 0, []),
  (16, none, .aload_n 0, 1, 0, 0, 0, 0, 0, []),
  (17, none, .getfield 7, 3, 11, 0, 22, 1, 0, []),
  (20, none, .sipush 275, 3, 0, 0, 0, 0, 0, []),
  (23, none, .iload_n 3, 1, 3, 0, 0, 0, 0, []),
  (24, none, .iadd, 1, 0, 0, 0, 0, 0, []),
  (25, none, .iaload, 1, 0, 0, 0, 0, 0, []),
  (26, none, .iload_n 1, 1, 1, 0, 0, 0, 0, []),
  (27, none, .isub, 1, 0, 0, 0, 0, 0, []),
  (28, none, .invokestatic 379, 3, 151, 1, 2, 0, 0, []),
  (31, none, .iadd, 1, 0, 0, 0, 0, 0, []),
  (32, none, .istore_n 2, 1, 2, 0, 0, 0, 0, []),
  (33, none, .iinc 3 1, 3, 3, 0, 0, 0, 0, []),
  (36, none, .goto (-32), 3, 4, 0, 0, 0, 0, []),
  (39, none, .iload_n 2, 1, 2, 0, 0, 0, 0, []),
  (40, none, .ireturn, 1, 0, 0, 0, 0, 0, [])]
noncomputable def K_m_votes : List aE := [
  (0, none, .iload_n 1, 1, 1, 0, 0, 0, 0, []),
  (1, none, .iconst 0, 1, 0, 0, 0, 0, 0, []),
  (2, none, .iconst 1, 1, 0, 0, 0, 0, 0, []),
  (3, none, .invokestatic 71, 3, 148, 3, 2, 0, 0, []),
  (6, none, .ifCond .eq 13, 3, 19, 0, 0, 0, 0, []),
  (9, none, .aload_n 0, 1, 0, 0, 0, 0, 0, []),
  (10, none, .getfield 7, 3, 11, 0, 22, 1, 0, []),
  (13, none, .bipush 52, 2, 0, 0, 0, 0, 0, []),
  (15, none, .iaload, 1, 0, 0, 0, 0, 0, []),
  (16, none, .ifCond .ne 5, 3, 21, 0, 0, 0, 0, []),
  (19, none, .iconst (-1), 1, 0, 0, 0, 0, 0, []),
  (20, none, .ireturn, 1, 0, 0, 0, 0, 0, []),
  (21, none, .iconst 0, 1, 0, 0, 0, 0, 0, []),
  (22, none, .istore_n 2, 1, 2, 0, 0, 0, 0, []),
  (23, none, .iconst 1, 1, 0, 0, 0, 0, 0, []),
  (24, none, .istore_n 3, 1, 3, 0, 0, 0, 0, []),
  (25, some [true, true, true, true], .iload_n 3, 1, 3, 0, 0, 0, 0, []),
  (26, none, .bipush 24, 2, 0, 0, 0, 0, 0, []),
  (28, none, .if_icmp .gt 24, 3, 52, 0, 0, 0, 0, []),
  (31, none, .aload_n 0, 1, 0, 0, 0, 0, 0, []),
  (32, none, .iload_n 3, 1, 3, 0, 0, 0, 0, []),
  (33, none, .invokevirtual 436, 3, 254, 2, 2, 0, 0, []),
  (36, none, .aload_n 0, 1, 0, 0, 0, 0, 0, []),
  (37, none, .iload_n 2, 1, 2, 0, 0, 0, 0, []),
  (38, none, .invokevirtual 436, 3, 254, 2, 2, 0, 0, []),
  (41, none, .if_icmp .ge 5, 3, 46, 0, 0, 0, 0, []),
  (44, none, .iload_n 3, 1, 3, 0, 0, 0, 0, []),
  (45, none, .istore_n 2, 1, 2, 0, 0, 0, 0, []),
  (46, none, .iinc 3 1, 3, 3, 0, 0, 0, 0, []),
  (49, none, .goto (-24), 3, 25, 0, 0, 0, 0, []),
  (52, none, .iload_n 1, 1, 1, 0, 0, 0, 0, []),
  (53, none, .ifCond .ne 7, 3, 60, 0, 0, 0, 0, []),
  (56, none, .iload_n 2, 1, 2, 0, 0, 0, 0, []),
  (57, none, .goto 8, 3, 65, 0, 0, 0, 0, []),
  (60, none, .aload_n 0, 1, 0, 0, 0, 0, 0, []),
  (61, none, .iload_n 2, 1, 2, 0, 0, 0, 0, []),
  (62, none, .invokevirtual 436, 3, 254, 2, 2, 0, 0, []),
  (65, none, .ireturn, 1, 0, 0, 0, 0, 0, [])]
noncomputable def K_m_laysSalt : List aE := [
  (0, none, .aload_n 0, 1, 0, 0, 0, 0, 0, []),
  (1, none, .getfield 7, 3, 11, 0, 22, 1, 0, []),
  (4, none, .iconst 4, 1, 0, 0, 0, 0, 0, []),
  (5, none, .iaload, 1, 0, 0, 0, 0, 0, []),
  (6, none, .istore_n 2, 1, 2, 0, 0, 0, 0, []),
  (7, none, .iconst 0, 1, 0, 0, 0, 0, 0, []),
  (8, none, .istore_n 3, 1, 3, 0, 0, 0, 0, []),
  (9, some [true, true, true, true, false, false, false], .iload_n 3, 1, 3, 0, 0, 0, 0, []),
  (10, none, .aload_n 0, 1, 0, 0, 0, 0, 0, []),
  (11, none, .getfield 7, 3, 11, 0, 22, 1, 0, []),
  (14, none, .bipush 41, 2, 0, 0, 0, 0, 0, []),
  (16, none, .iaload, 1, 0, 0, 0, 0, 0, []),
  (17, none, .if_icmp .ge 56, 3, 73, 0, 0, 0, 0, []),
  (20, none, .iconst 0, 1, 0, 0, 0, 0, 0, []),
  (21, none, .istore 4, 2, 4, 0, 0, 0, 0, []),
  (23, some [true, true, true, true, true, false, false], .iload 4, 2, 4, 0, 0, 0, 0, []),
  (25, none, .iload_n 1, 1, 1, 0, 0, 0, 0, []),
  (26, none, .if_icmp .gt 41, 3, 67, 0, 0, 0, 0, []),
  (29, none, .aload_n 0, 1, 0, 0, 0, 0, 0, []),
  (30, none, .getfield 7, 3, 11, 0, 22, 1, 0, []),
  (33, none, .iconst 4, 1, 0, 0, 0, 0, 0, []),
  (34, none, .bipush 99, 2, 0, 0, 0, 0, 0, []),
  (36, none, .iload_n 2, 1, 2, 0, 0, 0, 0, []),
  (37, none, .iload 4, 2, 4, 0, 0, 0, 0, []),
  (39, none, .iadd, 1, 0, 0, 0, 0, 0, []),
  (40, none, .invokestatic 299, 3, 149, 2, 2, 0, 0, []),
  (43, none, .iastore, 1, 0, 0, 0, 0, 0, []),
  (44, none, .aload_n 0, 1, 0, 0, 0, 0, 0, []),
  (45, none, .getfield 65, 3, 11, 35, 22, 18, 0, []),
  (48, none, .bipush 21, 2, 0, 0, 0, 0, 0, []),
  (50, none, .iload_n 3, 1, 3, 0, 0, 0, 0, []),
  (51, none, .imul, 1, 0, 0, 0, 0, 0, []),
  (52, none, .iload 4, 2, 4, 0, 0, 0, 0, []),
  (54, none, .iadd, 1, 0, 0, 0, 0, 0, []),
  (55, none, .aload_n 0, 1, 0, 0, 0, 0, 0, []),
  (56, none, .iload_n 3, 1, 3, 0, 0, 0, 0, []),
  (57, none, .invokevirtual 312, 3, 201, 2, 2, 0, 0, []),
  (60, none, .iastore, 1, 0, 0, 0, 0, 0, []),
  (61, none, .iinc 4 1, 3, 4, 0, 0, 0, 0, []),
  (64, none, .goto (-41), 3, 23, 0, 0, 0, 0, []),
  (67, none, .iinc 3 1, 3, 3, 0, 0, 0, 0, []),
  (70, none, .goto (-61), 3, 9, 0, 0, 0, 0, []),
  (73, none, .aload_n 0, 1, 0, 0, 0, 0, 0, []),
  (74, none, .getfield 7, 3, 11, 0, 22, 1, 0, []),
  (77, none, .iconst 4, 1, 0, 0, 0, 0, 0, []),
  (78, none, .iload_n 2, 1, 2, 0, 0, 0, 0, []),
  (79, none, .iastore, 1, 0, 0, 0, 0, 0, []),
  (80, none, .aload_n 0, 1, 0, 0, 0, 0, 0, []),
  (81, none, .getfield 7, 3, 11, 0, 22, 1, 0, []),
  (84, none, .bipush 41, 2, 0, 0, 0, 0, 0, []),
  (86, none, .iaload, 1, 0, 0, 0, 0, 0, []),
  (87, none, .istore_n 3, 1, 3, 0, 0, 0, 0, []),
  (88, some [true, true, false, true, false, false, false], .iload_n 3, 1, 3, 0, 0, 0, 0, []),
  (89, none, .ifCond .lt 155, 3, 244, 0, 0, 0, 0, []),
  (92, none, .iconst 0, 1, 0, 0, 0, 0, 0, []),
  (93, none, .istore 4, 2, 4, 0, 0, 0, 0, []),
  (95, some [true, true, false, true, true, false, false], .iload 4, 2, 4, 0, 0, 0, 0, []),
  (97, none, .iload_n 1, 1, 1, 0, 0, 0, 0, []),
  (98, none, .if_icmp .gt 140, 3, 238, 0, 0, 0, 0, []),
  (101, none, .iload_n 3, 1, 3, 0, 0, 0, 0, []),
  (102, none, .aload_n 0, 1, 0, 0, 0, 0, 0, []),
  (103, none, .getfield 7, 3, 11, 0, 22, 1, 0, []),
  (106, none, .bipush 41, 2, 0, 0, 0, 0, 0, []),
  (108, none, .iaload, 1, 0, 0, 0, 0, 0, []),
  (109, none, .if_icmp .ne 18, 3, 127, 0, 0, 0, 0, []),
  (112, none, .iload 4, 2, 4, 0, 0, 0, 0, []),
  (114, none, .ifCond .ne 7, 3, 121, 0, 0, 0, 0, []),
  (117, none, .iconst 0, 1, 0, 0, 0, 0, 0, []),
  (118, none, .goto 37, 3, 155, 0, 0, 0, 0, []),
  (121, none, .ldc_w 439, 3, 0, 0, 0, 0, (-1000000), []),
  (124, none, .goto 31, 3, 155, 0, 0, 0, 0, []),
  (127, none, .aload_n 0, 1, 0, 0, 0, 0, 0, []),
  (128, none, .iload_n 3, 1, 3, 0, 0, 0, 0, []),
  (129, none, .invokevirtual 309, 3, 153, 2, 2, 0, 0, []),
  (132, none, .ifCond .eq 9, 3, 141, 0, 0, 0, 0, []),
  (135, none, .ldc_w 439, 3, 0, 0, 0, 0, (-1000000), []),
  (138, none, .goto 17, 3, 155, 0, 0, 0, 0, []),
  (141, none, .aload_n 0, 1, 0, 0, 0, 0, 0, []),
  (142, none, .getfield 68, 3, 11, 36, 22, 19, 0, []),
  (145, none, .bipush 21, 2, 0, 0, 0, 0, 0, []),
  (147, none, .iload_n 3, 1, 3, 0, 0, 0, 0, []),
  (148, none, .iconst 1, 1, 0, 0, 0, 0, 0, []),
  (149, none, .iadd, 1, 0, 0, 0, 0, 0, []),
  (150, none, .imul, 1, 0, 0, 0, 0, 0, []),
  (151, none, .iload 4, 2, 4, 0, 0, 0, 0, []),
  (153, none, .iadd, 1, 0, 0, 0, 0, 0, []),
  (154, none, .iaload, 1, 0, 0, 0, 0, 0, []),
  (155, none, .istore 5, 2, 5, 0, 0, 0, 0, []),
  (157, none, .iconst 0, 1, 0, 0, 0, 0, 0, []),
  (158, none, .istore 6, 2, 6, 0, 0, 0, 0, []),
  (160, some [true, true, false, true, true, true, true], .iload 6, 2, 6, 0, 0, 0, 0, []),
  (162, none, .iload 4, 2, 4, 0, 0, 0, 0, []),
  (164, none, .if_icmp .gt 54, 3, 218, 0, 0, 0, 0, []),
  (167, none, .aload_n 0, 1, 0, 0, 0, 0, 0, []),
  (168, none, .iload_n 3, 1, 3, 0, 0, 0, 0, []),
  (169, none, .invokevirtual 309, 3, 153, 2, 2, 0, 0, []),
  (172, none, .ifCond .eq 46, 3, 218, 0, 0, 0, 0, []),
  (175, none, .iload 5, 2, 5, 0, 0, 0, 0, []),
  (177, none, .aload_n 0, 1, 0, 0, 0, 0, 0, []),
  (178, none, .getfield 65, 3, 11, 35, 22, 18, 0, []),
  (181, none, .bipush 21, 2, 0, 0, 0, 0, 0, []),
  (183, none, .iload_n 3, 1, 3, 0, 0, 0, 0, []),
  (184, none, .imul, 1, 0, 0, 0, 0, 0, []),
  (185, none, .iload 6, 2, 6, 0, 0, 0, 0, []),
  (187, none, .iadd, 1, 0, 0, 0, 0, 0, []),
  (188, none, .iaload, 1, 0, 0, 0, 0, 0, []),
  (189, none, .aload_n 0, 1, 0, 0, 0, 0, 0, []),
  (190, none, .getfield 68, 3, 11, 36, 22, 19, 0, []),
  (193, none, .bipush 21, 2, 0, 0, 0, 0, 0, []),
  (195, none, .iload_n 3, 1, 3, 0, 0, 0, 0, []),
  (196, none, .iconst 1, 1, 0, 0, 0, 0, 0, []),
  (197, none, .iadd, 1, 0, 0, 0, 0, 0, []),
  (198, none, .imul, 1, 0, 0, 0, 0, 0, []),
  (199, none, .iload 4, 2, 4, 0, 0, 0, 0, []),
  (201, none, .iadd, 1, 0, 0, 0, 0, 0, []),
  (202, none, .iload 6, 2, 6, 0, 0, 0, 0, []),
  (204, none, .isub, 1, 0, 0, 0, 0, 0, []),
  (205, none, .iaload, 1, 0, 0, 0, 0, 0, []),
  (206, none, .iadd, 1, 0, 0, 0, 0, 0, []),
  (207, none, .invokestatic 302, 3, 150, 2, 2, 0, 0, []),
  (210, none, .istore 5, 2, 5, 0, 0, 0, 0, []),
  (212, none, .iinc 6 1, 3, 6, 0, 0, 0, 0, []),
  (215, none, .goto (-55), 3, 160, 0, 0, 0, 0, []),
  (218, none, .aload_n 0, 1, 0, 0, 0, 0, 0, []),
  (219, none, .getfield 68, 3, 11, 36, 22, 19, 0, []),
  (222, none, .bipush 21, 2, 0, 0, 0, 0, 0, []),
  (224, none, .iload_n 3, 1, 3, 0, 0, 0, 0, []),
  (225, none, .imul, 1, 0, 0, 0, 0, 0, []),
  (226, none, .iload 4, 2, 4, 0, 0, 0, 0, []),
  (228, none, .iadd, 1, 0, 0, 0, 0, 0, []),
  (229, none, .iload 5, 2, 5, 0, 0, 0, 0, []),
  (231, none, .iastore, 1, 0, 0, 0, 0, 0, []),
  (232, none, .iinc 4 1, 3, 4, 0, 0, 0, 0, []),
  (235, none, .goto (-140), 3, 95, 0, 0, 0, 0, []),
  (238, none, .iinc 3 (-1), 3, 3, 0, 0, 0, 0, []),
  (241, none, .goto (-153), 3, 88, 0, 0, 0, 0, []),
  (244, none, .return_, 1, 0, 0, 0, 0, 0, [])]
noncomputable def K_m_salts : List aE := [
  (0, none, .iload_n 1, 1, 1, 0, 0, 0, 0, []),
  (1, none, .iconst 1, 1, 0, 0, 0, 0, 0, []),
  (2, none, .bipush 20, 2, 0, 0, 0, 0, 0, []),
  (4, none, .invokestatic 71, 3, 148, 3, 2, 0, 0, []),
  (7, none, .ifCond .eq 36, 3, 43, 0, 0, 0, 0, []),
  (10, none, .aload_n 0, 1, 0, 0, 0, 0, 0, []),
  (11, none, .getfield 7, 3, 11, 0, 22, 1, 0, []),
  (14, none, .bipush 10, 2, 0, 0, 0, 0, 0, []),
  (16, none, .iaload, 1, 0, 0, 0, 0, 0, []),
  (17, none, .ifCond .eq 26, 3, 43, 0, 0, 0, 0, []),
  (20, none, .iload_n 2, 1, 2, 0, 0, 0, 0, []),
  (21, none, .ifCond .eq 24, 3, 45, 0, 0, 0, 0, []),
  (24, none, .iload_n 2, 1, 2, 0, 0, 0, 0, []),
  (25, none, .bipush 10, 2, 0, 0, 0, 0, 0, []),
  (27, none, .bipush 9, 2, 0, 0, 0, 0, 0, []),
  (29, none, .aload_n 0, 1, 0, 0, 0, 0, 0, []),
  (30, none, .getfield 7, 3, 11, 0, 22, 1, 0, []),
  (33, none, .bipush 41, 2, 0, 0, 0, 0, 0, []),
  (35, none, .iaload, 1, 0, 0, 0, 0, 0, []),
  (36, none, .iadd, 1, 0, 0, 0, 0, 0, []),
  (37, none, .invokestatic 71, 3, 148, 3, 2, 0, 0, []),
  (40, none, .ifCond .ne 5, 3, 45, 0, 0, 0, 0, []),
  (43, none, .iconst (-1), 1, 0, 0, 0, 0, 0, []),
  (44, none, .ireturn, 1, 0, 0, 0, 0, 0, []),
  (45, none, .aload_n 0, 1, 0, 0, 0, 0, 0, []),
  (46, none, .iload_n 1, 1, 1, 0, 0, 0, 0, []),
  (47, none, .invokevirtual 440, 3, 256, 2, 1, 0, 0, []),
  (50, none, .iload_n 2, 1, 2, 0, 0, 0, 0, []),
  (51, none, .ifCond .ne 10, 3, 61, 0, 0, 0, 0, []),
  (54, none, .aload_n 0, 1, 0, 0, 0, 0, 0, []),
  (55, none, .getfield 68, 3, 11, 36, 22, 19, 0, []),
  (58, none, .iload_n 1, 1, 1, 0, 0, 0, 0, []),
  (59, none, .iaload, 1, 0, 0, 0, 0, 0, []),
  (60, none, .ireturn, 1, 0, 0, 0, 0, 0, []),
  (61, none, .iload_n 1, 1, 1, 0, 0, 0, 0, []),
  (62, none, .istore_n 3, 1, 3, 0, 0, 0, 0, []),
  (63, none, .iconst 0, 1, 0, 0, 0, 0, 0, []),
  (64, none, .istore 4, 2, 4, 0, 0, 0, 0, []),
  (66, none, .iconst 0, 1, 0, 0, 0, 0, 0, []),
  (67, none, .istore 5, 2, 5, 0, 0, 0, 0, []),
  (69, some [true, false, true, true, true, true], .iload 5, 2, 5, 0, 0, 0, 0, []),
  (71, none, .iload_n 2, 1, 2, 0, 0, 0, 0, []),
  (72, none, .bipush 10, 2, 0, 0, 0, 0, 0, []),
  (74, none, .isub, 1, 0, 0, 0, 0, 0, []),
  (75, none, .if_icmp .gt 78, 3, 153, 0, 0, 0, 0, []),
  (78, none, .iconst 0, 1, 0, 0, 0, 0, 0, []),
  (79, none, .istore 4, 2, 4, 0, 0, 0, 0, []),
  (81, some [true, false, true, true, true, true], .aload_n 0, 1, 0, 0, 0, 0, 0, []),
  (82, none, .iload 5, 2, 5, 0, 0, 0, 0, []),
  (84, none, .invokevirtual 309, 3, 153, 2, 2, 0, 0, []),
  (87, none, .ifCond .eq 55, 3, 142, 0, 0, 0, 0, []),
  (90, none, .aload_n 0, 1, 0, 0, 0, 0, 0, []),
  (91, none, .getfield 65, 3, 11, 35, 22, 18, 0, []),
  (94, none, .bipush 21, 2, 0, 0, 0, 0, 0, []),
  (96, none, .iload 5, 2, 5, 0, 0, 0, 0, []),
  (98, none, .imul, 1, 0, 0, 0, 0, 0, []),
  (99, none, .iload 4, 2, 4, 0, 0, 0, 0, []),
  (101, none, .iadd, 1, 0, 0, 0, 0, 0, []),
  (102, none, .iaload, 1, 0, 0, 0, 0, 0, []),
  (103, none, .aload_n 0, 1, 0, 0, 0, 0, 0, []),
  (104, none, .getfield 68, 3, 11, 36, 22, 19, 0, []),
  (107, none, .bipush 21, 2, 0, 0, 0, 0, 0, []),
  (109, none, .iload 5, 2, 5, 0, 0, 0, 0, []),
  (111, none, .iconst 1, 1, 0, 0, 0, 0, 0, []),
  (112, none, .iadd, 1, 0, 0, 0, 0, 0, []),
  (113, none, .imul, 1, 0, 0, 0, 0, 0, []),
  (114, none, .iload_n 3, 1, 3, 0, 0, 0, 0, []),
  (115, none, .iadd, 1, 0, 0, 0, 0, 0, []),
  (116, none, .iload 4, 2, 4, 0, 0, 0, 0, []),
  (118, none, .isub, 1, 0, 0, 0, 0, 0, []),
  (119, none, .iaload, 1, 0, 0, 0, 0, 0, []),
  (120, none, .iadd, 1, 0, 0, 0, 0, 0, []),
  (121, none, .aload_n 0, 1, 0, 0, 0, 0, 0, []),
  (122, none, .getfield 68, 3, 11, 36, 22, 19, 0, []),
  (125, none, .bipush 21, 2, 0, 0, 0, 0, 0, []),
  (127, none, .iload 5, 2, 5, 0, 0, 0, 0, []),
  (129, none, .imul, 1, 0, 0, 0, 0, 0, []),
  (130, none, .iload_n 3, 1, 3, 0, 0, 0, 0, []),
  (131, none, .iadd, 1, 0, 0, 0, 0, 0, []),
  (132, none, .iaload, 1, 0, 0, 0, 0, 0, []),
  (133, none, .if_icmp .eq 9, 3, 142, 0, 0, 0, 0, []),
  (136, none, .iinc 4 1, 3, 4, 0, 0, 0, 0, []),
  (139, none, .goto (-58), 3, 81, 0, 0, 0, 0, []),
  (142, none, .iload_n 3, 1, 3, 0, 0, 0, 0, []),
  (143, none, .iload 4, 2, 4, 0, 0, 0, 0, []),
  (145, none, .isub, 1, 0, 0, 0, 0, 0, []),
  (146, none, .istore_n 3, 1, 3, 0, 0, 0, 0, []),
  (147, none, .iinc 5 1, 3, 5, 0, 0, 0, 0, []),
  (150, none, .goto (-81), 3, 69, 0, 0, 0, 0, []),
  (153, none, .iload 4, 2, 4, 0, 0, 0, 0, []),
  (155, none, .ireturn, 1, 0, 0, 0, 0, 0, [])]
noncomputable def K_m_marked : List aE := [
  (0, none, .iconst 0, 1, 0, 0, 0, 0, 0, []),
  (1, none, .istore_n 2, 1, 2, 0, 0, 0, 0, []),
  (2, none, .iconst 0, 1, 0, 0, 0, 0, 0, []),
  (3, none, .istore_n 3, 1, 3, 0, 0, 0, 0, []),
  (4, some [true, true, true, true], .iload_n 3, 1, 3, 0, 0, 0, 0, []),
  (5, none, .aload_n 0, 1, 0, 0, 0, 0, 0, []),
  (6, none, .getfield 7, 3, 11, 0, 22, 1, 0, []),
  (9, none, .bipush 41, 2, 0, 0, 0, 0, 0, []),
  (11, none, .iaload, 1, 0, 0, 0, 0, 0, []),
  (12, none, .if_icmp .ge 38, 3, 50, 0, 0, 0, 0, []),
  (15, none, .iload_n 2, 1, 2, 0, 0, 0, 0, []),
  (16, none, .aload_n 0, 1, 0, 0, 0, 0, 0, []),
  (17, none, .iload_n 3, 1, 3, 0, 0, 0, 0, []),
  (18, none, .invokevirtual 309, 3, 153, 2, 2, 0, 0, []),
  (21, none, .ifCond .eq 20, 3, 41, 0, 0, 0, 0, []),
  (24, none, .aload_n 0, 1, 0, 0, 0, 0, 0, []),
  (25, none, .getfield 7, 3, 11, 0, 22, 1, 0, []),
  (28, none, .bipush 53, 2, 0, 0, 0, 0, 0, []),
  (30, none, .iload_n 3, 1, 3, 0, 0, 0, 0, []),
  (31, none, .iadd, 1, 0, 0, 0, 0, 0, []),
  (32, none, .iaload, 1, 0, 0, 0, 0, 0, []),
  (33, none, .iload_n 1, 1, 1, 0, 0, 0, 0, []),
  (34, none, .if_icmp .ne 7, 3, 41, 0, 0, 0, 0, []),
  (37, none, .iconst 1, 1, 0, 0, 0, 0, 0, []),
  (38, none, .goto 4, 3, 42, 0, 0, 0, 0, []),
  (41, none, .iconst 0, 1, 0, 0, 0, 0, 0, []),
  (42, none, .iadd, 1, 0, 0, 0, 0, 0, []),
  (43, none, .istore_n 2, 1, 2, 0, 0, 0, 0, []),
  (44, none, .iinc 3 1, 3, 3, 0, 0, 0, 0, []),
  (47, none, .goto (-43), 3, 4, 0, 0, 0, 0, []),
  (50, none, .iload_n 2, 1, 2, 0, 0, 0, 0, []),
  (51, none, .ireturn, 1, 0, 0, 0, 0, 0, [])]
noncomputable def K_m_nods : List aE := [
  (0, none, .iload_n 1, 1, 1, 0, 0, 0, 0, []),
  (1, none, .iconst 0, 1, 0, 0, 0, 0, 0, []),
  (2, none, .iconst 5, 1, 0, 0, 0, 0, 0, []),
  (3, none, .invokestatic 71, 3, 148, 3, 2, 0, 0, []),
  (6, none, .ifCond .eq 12, 3, 18, 0, 0, 0, 0, []),
  (9, none, .iload_n 2, 1, 2, 0, 0, 0, 0, []),
  (10, none, .iconst 0, 1, 0, 0, 0, 0, 0, []),
  (11, none, .iconst 5, 1, 0, 0, 0, 0, 0, []),
  (12, none, .invokestatic 71, 3, 148, 3, 2, 0, 0, []),
  (15, none, .ifCond .ne 5, 3, 20, 0, 0, 0, 0, []),
  (18, none, .iconst (-1), 1, 0, 0, 0, 0, 0, []),
  (19, none, .ireturn, 1, 0, 0, 0, 0, 0, []),
  (20, none, .iload_n 1, 1, 1, 0, 0, 0, 0, []),
  (21, none, .iload_n 2, 1, 2, 0, 0, 0, 0, []),
  (22, none, .if_icmp .ne 21, 3, 43, 0, 0, 0, 0, []),
  (25, none, .aload_n 0, 1, 0, 0, 0, 0, 0, []),
  (26, none, .iload_n 1, 1, 1, 0, 0, 0, 0, []),
  (27, none, .invokevirtual 443, 3, 258, 2, 2, 0, 0, []),
  (30, none, .aload_n 0, 1, 0, 0, 0, 0, 0, []),
  (31, none, .iload_n 1, 1, 1, 0, 0, 0, 0, []),
  (32, none, .invokevirtual 443, 3, 258, 2, 2, 0, 0, []),
  (35, none, .iconst 1, 1, 0, 0, 0, 0, 0, []),
  (36, none, .isub, 1, 0, 0, 0, 0, 0, []),
  (37, none, .imul, 1, 0, 0, 0, 0, 0, []),
  (38, none, .iconst 2, 1, 0, 0, 0, 0, 0, []),
  (39, none, .idiv, 1, 0, 0, 0, 0, 0, []),
  (40, none, .goto 14, 3, 54, 0, 0, 0, 0, []),
  (43, none, .aload_n 0, 1, 0, 0, 0, 0, 0, []),
  (44, none, .iload_n 1, 1, 1, 0, 0, 0, 0, []),
  (45, none, .invokevirtual 443, 3, 258, 2, 2, 0, 0, []),
  (48, none, .aload_n 0, 1, 0, 0, 0, 0, 0, []),
  (49, none, .iload_n 2, 1, 2, 0, 0, 0, 0, []),
  (50, none, .invokevirtual 443, 3, 258, 2, 2, 0, 0, []),
  (53, none, .imul, 1, 0, 0, 0, 0, 0, []),
  (54, none, .ireturn, 1, 0, 0, 0, 0, 0, [])]
noncomputable def K_m_heapOf : List aE := [
  (0, none, .aload_n 0, 1, 0, 0, 0, 0, 0, []),
  (1, none, .iload_n 1, 1, 1, 0, 0, 0, 0, []),
  (2, none, .invokevirtual 309, 3, 153, 2, 2, 0, 0, []),
  (5, none, .ifCond .eq 15, 3, 20, 0, 0, 0, 0, []),
  (8, none, .aload_n 0, 1, 0, 0, 0, 0, 0, []),
  (9, none, .getfield 7, 3, 11, 0, 22, 1, 0, []),
  (12, none, .bipush 31, 2, 0, 0, 0, 0, 0, []),
  (14, none, .iload_n 1, 1, 1, 0, 0, 0, 0, []),
  (15, none, .iadd, 1, 0, 0, 0, 0, 0, []),
  (16, none, .iaload, 1, 0, 0, 0, 0, 0, []),
  (17, none, .goto 4, 3, 21, 0, 0, 0, 0, []),
  (20, none, .iconst 0, 1, 0, 0, 0, 0, 0, []),
  (21, none, .ireturn, 1, 0, 0, 0, 0, 0, [])]
noncomputable def K_m_game : List aE := [
  (0, none, .iload_n 1, 1, 1, 0, 0, 0, 0, []),
  (1, none, .iconst 0, 1, 0, 0, 0, 0, 0, []),
  (2, none, .iconst 1, 1, 0, 0, 0, 0, 0, []),
  (3, none, .invokestatic 71, 3, 148, 3, 2, 0, 0, []),
  (6, none, .ifCond .ne 5, 3, 11, 0, 0, 0, 0, []),
  (9, none, .iconst (-1), 1, 0, 0, 0, 0, 0, []),
  (10, none, .ireturn, 1, 0, 0, 0, 0, 0, []),
  (11, none, .iconst 0, 1, 0, 0, 0, 0, 0, []),
  (12, none, .istore_n 2, 1, 2, 0, 0, 0, 0, []),
  (13, none, .iconst 0, 1, 0, 0, 0, 0, 0, []),
  (14, none, .istore_n 3, 1, 3, 0, 0, 0, 0, []),
  (15, some [true, true, true, true, false], .iload_n 3, 1, 3, 0, 0, 0, 0, []),
  (16, none, .aload_n 0, 1, 0, 0, 0, 0, 0, []),
  (17, none, .getfield 7, 3, 11, 0, 22, 1, 0, []),
  (20, none, .bipush 41, 2, 0, 0, 0, 0, 0, []),
  (22, none, .iaload, 1, 0, 0, 0, 0, 0, []),
  (23, none, .if_icmp .ge 19, 3, 42, 0, 0, 0, 0, []),
  (26, none, .iload_n 2, 1, 2, 0, 0, 0, 0, []),
  (27, none, .aload_n 0, 1, 0, 0, 0, 0, 0, []),
  (28, none, .iload_n 3, 1, 3, 0, 0, 0, 0, []),
  (29, none, .invokevirtual 446, 3, 260, 2, 2, 0, 0, []),
  (32, none, .iconst 4, 1, 0, 0, 0, 0, 0, []),
  (33, none, .irem, 1, 0, 0, 0, 0, 0, []),
  (34, none, .ixor, 1, 0, 0, 0, 0, 0, []),
  (35, none, .istore_n 2, 1, 2, 0, 0, 0, 0, []),
  (36, none, .iinc 3 1, 3, 3, 0, 0, 0, 0, []),
  (39, none, .goto (-24), 3, 15, 0, 0, 0, 0, []),
  (42, none, .iconst 0, 1, 0, 0, 0, 0, 0, []),
  (43, none, .istore_n 3, 1, 3, 0, 0, 0, 0, []),
  (44, some [true, true, true, true, false], .iload_n 3, 1, 3, 0, 0, 0, 0, []),
  (45, none, .aload_n 0, 1, 0, 0, 0, 0, 0, []),
  (46, none, .getfield 7, 3, 11, 0, 22, 1, 0, []),
  (49, none, .bipush 41, 2, 0, 0, 0, 0, 0, []),
  (51, none, .iaload, 1, 0, 0, 0, 0, 0, []),
  (52, none, .if_icmp .ge 65, 3, 117, 0, 0, 0, 0, []),
  (55, none, .iconst 1, 1, 0, 0, 0, 0, 0, []),
  (56, none, .istore 4, 2, 4, 0, 0, 0, 0, []),
  (58, some [true, true, true, true, true], .iload 4, 2, 4, 0, 0, 0, 0, []),
  (60, none, .iconst 3, 1, 0, 0, 0, 0, 0, []),
  (61, none, .aload_n 0, 1, 0, 0, 0, 0, 0, []),
  (62, none, .iload_n 3, 1, 3, 0, 0, 0, 0, []),
  (63, none, .invokevirtual 446, 3, 260, 2, 2, 0, 0, []),
  (66, none, .invokestatic 299, 3, 149, 2, 2, 0, 0, []),
  (69, none, .if_icmp .gt 42, 3, 111, 0, 0, 0, 0, []),
  (72, none, .iload_n 2, 1, 2, 0, 0, 0, 0, []),
  (73, none, .aload_n 0, 1, 0, 0, 0, 0, 0, []),
  (74, none, .iload_n 3, 1, 3, 0, 0, 0, 0, []),
  (75, none, .invokevirtual 446, 3, 260, 2, 2, 0, 0, []),
  (78, none, .iconst 4, 1, 0, 0, 0, 0, 0, []),
  (79, none, .irem, 1, 0, 0, 0, 0, 0, []),
  (80, none, .ixor, 1, 0, 0, 0, 0, 0, []),
  (81, none, .aload_n 0, 1, 0, 0, 0, 0, 0, []),
  (82, none, .iload_n 3, 1, 3, 0, 0, 0, 0, []),
  (83, none, .invokevirtual 446, 3, 260, 2, 2, 0, 0, []),
  (86, none, .iload 4, 2, 4, 0, 0, 0, 0, []),
  (88, none, .isub, 1, 0, 0, 0, 0, 0, []),
  (89, none, .iconst 4, 1, 0, 0, 0, 0, 0, []),
  (90, none, .irem, 1, 0, 0, 0, 0, 0, []),
  (91, none, .if_icmp .ne 14, 3, 105, 0, 0, 0, 0, []),
  (94, none, .iload_n 1, 1, 1, 0, 0, 0, 0, []),
  (95, none, .ifCond .ne 7, 3, 102, 0, 0, 0, 0, []),
  (98, none, .iload_n 3, 1, 3, 0, 0, 0, 0, []),
  (99, none, .goto 5, 3, 104, 0, 0, 0, 0, []),
  (102, none, .iload 4, 2, 4, 0, 0, 0, 0, []),
  (104, none, .ireturn, 1, 0, 0, 0, 0, 0, []),
  (105, none, .iinc 4 1, 3, 4, 0, 0, 0, 0, []),
  (108, none, .goto (-50), 3, 58, 0, 0, 0, 0, []),
  (111, none, .iinc 3 1, 3, 3, 0, 0, 0, 0, []),
  (114, none, .goto (-70), 3, 44, 0, 0, 0, 0, []),
  (117, none, .iconst (-1), 1, 0, 0, 0, 0, 0, []),
  (118, none, .ireturn, 1, 0, 0, 0, 0, 0, [])]
noncomputable def K_m_image : List aE := [
  (0, none, .iload_n 1, 1, 1, 0, 0, 0, 0, []),
  (1, none, .ifCond .ne 12, 3, 13, 0, 0, 0, 0, []),
  (4, none, .aload_n 0, 1, 0, 0, 0, 0, 0, []),
  (5, none, .getfield 449, 3, 11, 5, 0, 0, 0, []),
  (8, none, .ifCond .ne 5, 3, 13, 0, 0, 0, 0, []),
  (11, none, .iconst 0, 1, 0, 0, 0, 0, 0, []),
  (12, none, .ireturn, 1, 1, 0, 0, 0, 0, []),
  (13, none, .iconst 0, 1, 0, 0, 0, 0, 0, []),
  (14, none, .istore_n 2, 1, 2, 0, 0, 0, 0, []),
  (15, some [true, true, true], .iload_n 2, 1, 2, 0, 0, 0, 0, []),
  (16, none, .sipush 1768, 3, 0, 0, 0, 0, 0, []),
  (19, none, .if_icmp .ge 40, 3, 59, 0, 0, 0, 0, []),
  (22, none, .iload_n 1, 1, 1, 0, 0, 0, 0, []),
  (23, none, .ifCond .eq 18, 3, 41, 0, 0, 0, 0, []),
  (26, none, .aload_n 0, 1, 0, 0, 0, 0, 0, []),
  (27, none, .getfield 13, 3, 11, 1, 22, 2, 0, []),
  (30, none, .iload_n 2, 1, 2, 0, 0, 0, 0, []),
  (31, none, .aload_n 0, 1, 0, 0, 0, 0, 0, []),
  (32, none, .getfield 7, 3, 11, 0, 22, 1, 0, []),
  (35, none, .iload_n 2, 1, 2, 0, 0, 0, 0, []),
  (36, none, .iaload, 1, 0, 0, 0, 0, 0, []),
  (37, none, .iastore, 1, 0, 0, 0, 0, 0, []),
  (38, none, .goto 15, 3, 53, 0, 0, 0, 0, []),
  (41, none, .aload_n 0, 1, 0, 0, 0, 0, 0, []),
  (42, none, .getfield 7, 3, 11, 0, 22, 1, 0, []),
  (45, none, .iload_n 2, 1, 2, 0, 0, 0, 0, []),
  (46, none, .aload_n 0, 1, 0, 0, 0, 0, 0, []),
  (47, none, .getfield 13, 3, 11, 1, 22, 2, 0, []),
  (50, none, .iload_n 2, 1, 2, 0, 0, 0, 0, []),
  (51, none, .iaload, 1, 0, 0, 0, 0, 0, []),
  (52, none, .iastore, 1, 0, 0, 0, 0, 0, []),
  (53, none, .iinc 2 1, 3, 2, 0, 0, 0, 0, []),
  (56, none, .goto (-41), 3, 15, 0, 0, 0, 0, []),
  (59, none, .iload_n 1, 1, 1, 0, 0, 0, 0, []),
  (60, none, .ifCond .ne 7, 3, 67, 0, 0, 0, 0, []),
  (63, none, .aload_n 0, 1, 0, 0, 0, 0, 0, []),
  (64, none, .invokevirtual 82, 3, 155, 1, 1, 0, 0, []),
  (67, none, .aload_n 0, 1, 0, 0, 0, 0, 0, []),
  (68, none, .iconst 1, 1, 0, 0, 0, 0, 0, []),
  (69, none, .putfield 449, 3, 11, 5, 1, 0, 0, []),
  (72, none, .iconst 1, 1, 0, 0, 0, 0, 0, []),
  (73, none, .ireturn, 1, 1, 0, 0, 0, 0, [])]
noncomputable def K_m_look : List aE := [
  (0, none, .iload_n 1, 1, 1, 0, 0, 0, 0, []),
  (1, none, .tableswitch 258 0 20 #[99, 107, 114, 121, 128, 135, 142, 149, 157, 165, 173, 181, 189, 197, 205, 213, 221, 229, 237, 245, 253], 99, 259, 0, 0, 0, 0, [(0, 100), (1, 108), (2, 115), (3, 122), (4, 129), (5, 136), (6, 143), (7, 150), (8, 158), (9, 166), (10, 174), (11, 182), (12, 190), (13, 198), (14, 206), (15, 214), (16, 222), (17, 230), (18, 238), (19, 246), (20, 254)]),
  (100, none, .aload_n 0, 1, 0, 0, 0, 0, 0, []),
  (101, none, .getfield 7, 3, 11, 0, 22, 1, 0, []),
  (104, none, .bipush 41, 2, 0, 0, 0, 0, 0, []),
  (106, none, .iaload, 1, 0, 0, 0, 0, 0, []),
  (107, none, .ireturn, 1, 0, 0, 0, 0, 0, []),
  (108, none, .aload_n 0, 1, 0, 0, 0, 0, 0, []),
  (109, none, .getfield 7, 3, 11, 0, 22, 1, 0, []),
  (112, none, .iconst 0, 1, 0, 0, 0, 0, 0, []),
  (113, none, .iaload, 1, 0, 0, 0, 0, 0, []),
  (114, none, .ireturn, 1, 0, 0, 0, 0, 0, []),
  (115, none, .aload_n 0, 1, 0, 0, 0, 0, 0, []),
  (116, none, .getfield 7, 3, 11, 0, 22, 1, 0, []),
  (119, none, .iconst 1, 1, 0, 0, 0, 0, 0, []),
  (120, none, .iaload, 1, 0, 0, 0, 0, 0, []),
  (121, none, .ireturn, 1, 0, 0, 0, 0, 0, []),
  (122, none, .aload_n 0, 1, 0, 0, 0, 0, 0, []),
  (123, none, .getfield 7, 3, 11, 0, 22, 1, 0, []),
  (126, none, .iconst 2, 1, 0, 0, 0, 0, 0, []),
  (127, none, .iaload, 1, 0, 0, 0, 0, 0, []),
  (128, none, .ireturn, 1, 0, 0, 0, 0, 0, []),
  (129, none, .aload_n 0, 1, 0, 0, 0, 0, 0, []),
  (130, none, .getfield 7, 3, 11, 0, 22, 1, 0, []),
  (133, none, .iconst 3, 1, 0, 0, 0, 0, 0, []),
  (134, none, .iaload, 1, 0, 0, 0, 0, 0, []),
  (135, none, .ireturn, 1, 0, 0, 0, 0, 0, []),
  (136, none, .aload_n 0, 1, 0, 0, 0, 0, 0, []),
  (137, none, .getfield 7, 3, 11, 0, 22, 1, 0, []),
  (140, none, .iconst 4, 1, 0, 0, 0, 0, 0, []),
  (141, none, .iaload, 1, 0, 0, 0, 0, 0, []),
  (142, none, .ireturn, 1, 0, 0, 0, 0, 0, []),
  (143, none, .aload_n 0, 1, 0, 0, 0, 0, 0, []),
  (144, none, .getfield 7, 3, 11, 0, 22, 1, 0, []),
  (147, none, .iconst 5, 1, 0, 0, 0, 0, 0, []),
  (148, none, .iaload, 1, 0, 0, 0, 0, 0, []),
  (149, none, .ireturn, 1, 0, 0, 0, 0, 0, []),
  (150, none, .aload_n 0, 1, 0, 0, 0, 0, 0, []),
  (151, none, .getfield 7, 3, 11, 0, 22, 1, 0, []),
  (154, none, .bipush 6, 2, 0, 0, 0, 0, 0, []),
  (156, none, .iaload, 1, 0, 0, 0, 0, 0, []),
  (157, none, .ireturn, 1, 0, 0, 0, 0, 0, []),
  (158, none, .aload_n 0, 1, 0, 0, 0, 0, 0, []),
  (159, none, .getfield 7, 3, 11, 0, 22, 1, 0, []),
  (162, none, .bipush 10, 2, 0, 0, 0, 0, 0, []),
  (164, none, .iaload, 1, 0, 0, 0, 0, 0, []),
  (165, none, .ireturn, 1, 0, 0, 0, 0, 0, []),
  (166, none, .aload_n 0, 1, 0, 0, 0, 0, 0, []),
  (167, none, .getfield 7, 3, 11, 0, 22, 1, 0, []),
  (170, none, .bipush 8, 2, 0, 0, 0, 0, 0, []),
  (172, none, .iaload, 1, 0, 0, 0, 0, 0, []),
  (173, none, .ireturn, 1, 0, 0, 0, 0, 0, []),
  (174, none, .aload_n 0, 1, 0, 0, 0, 0, 0, []),
  (175, none, .getfield 7, 3, 11, 0, 22, 1, 0, []),
  (178, none, .bipush 7, 2, 0, 0, 0, 0, 0, []),
  (180, none, .iaload, 1, 0, 0, 0, 0, 0, []),
  (181, none, .ireturn, 1, 0, 0, 0, 0, 0, []),
  (182, none, .aload_n 0, 1, 0, 0, 0, 0, 0, []),
  (183, none, .getfield 7, 3, 11, 0, 22, 1, 0, []),
  (186, none, .bipush 44, 2, 0, 0, 0, 0, 0, []),
  (188, none, .iaload, 1, 0, 0, 0, 0, 0, []),
  (189, none, .ireturn, 1, 0, 0, 0, 0, 0, []),
  (190, none, .aload_n 0, 1, 0, 0, 0, 0, 0, []),
  (191, none, .getfield 7, 3, 11, 0, 22, 1, 0, []),
  (194, none, .bipush 45, 2, 0, 0, 0, 0, 0, []),
  (196, none, .iaload, 1, 0, 0, 0, 0, 0, []),
  (197, none, .ireturn, 1, 0, 0, 0, 0, 0, []),
  (198, none, .aload_n 0, 1, 0, 0, 0, 0, 0, []),
  (199, none, .getfield 7, 3, 11, 0, 22, 1, 0, []),
  (202, none, .bipush 46, 2, 0, 0, 0, 0, 0, []),
  (204, none, .iaload, 1, 0, 0, 0, 0, 0, []),
  (205, none, .ireturn, 1, 0, 0, 0, 0, 0, []),
  (206, none, .aload_n 0, 1, 0, 0, 0, 0, 0, []),
  (207, none, .getfield 7, 3, 11, 0, 22, 1, 0, []),
  (210, none, .bipush 47, 2, 0, 0, 0, 0, 0, []),
  (212, none, .iaload, 1, 0, 0, 0, 0, 0, []),
  (213, none, .ireturn, 1, 0, 0, 0, 0, 0, []),
  (214, none, .aload_n 0, 1, 0, 0, 0, 0, 0, []),
  (215, none, .getfield 7, 3, 11, 0, 22, 1, 0, []),
  (218, none, .bipush 48, 2, 0, 0, 0, 0, 0, []),
  (220, none, .iaload, 1, 0, 0, 0, 0, 0, []),
  (221, none, .ireturn, 1, 0, 0, 0, 0, 0, []),
  (222, none, .aload_n 0, 1, 0, 0, 0, 0, 0, []),
  (223, none, .getfield 7, 3, 11, 0, 22, 1, 0, []),
  (226, none, .bipush 49, 2, 0, 0, 0, 0, 0, []),
  (228, none, .iaload, 1, 0, 0, 0, 0, 0, []),
  (229, none, .ireturn, 1, 0, 0, 0, 0, 0, []),
  (230, none, .aload_n 0, 1, 0, 0, 0, 0, 0, []),
  (231, none, .getfield 7, 3, 11, 0, 22, 1, 0, []),
  (234, none, .bipush 50, 2, 0, 0, 0, 0, 0, []),
  (236, none, .iaload, 1, 0, 0, 0, 0, 0, []),
  (237, none, .ireturn, 1, 0, 0, 0, 0, 0, []),
  (238, none, .aload_n 0, 1, 0, 0, 0, 0, 0, []),
  (239, none, .getfield 7, 3, 11, 0, 22, 1, 0, []),
  (242, none, .bipush 51, 2, 0, 0, 0, 0, 0, []),
  (244, none, .iaload, 1, 0, 0, 0, 0, 0, []),
  (245, none, .ireturn, 1, 0, 0, 0, 0, 0, []),
  (246, none, .aload_n 0, 1, 0, 0, 0, 0, 0, []),
  (247, none, .getfield 7, 3, 11, 0, 22, 1, 0, []),
  (250, none, .bipush 52, 2, 0, 0, 0, 0, 0, []),
  (252, none, .iaload, 1, 0, 0, 0, 0, 0, []),
  (253, none, .ireturn, 1, 0, 0, 0, 0, 0, []),
  (254, none, .aload_n 0, 1, 0, 0, 0, 0, 0, []),
  (255, none, .getfield 79, 3, 11, 4, 0, 0, 0, []),
  (258, none, .ireturn, 1, 0, 0, 0, 0, 0, []),
  (259, none, .ldc_w 439, 3, 0, 0, 0, 0, (-1000000), []),
  (262, none, .ireturn, 1, 0, 0, 0, 0, 0, [])]
noncomputable def K_ji_bitCount : List aE := [
  (0, none, .iload_n 0, 1, 0, 0, 0, 0, 0, []),
  (1, none, .iload_n 0, 1, 0, 0, 0, 0, 0, []),
  (2, none, .iconst 1, 1, 0, 0, 0, 0, 0, []),
  (3, none, .iushr, 1, 0, 0, 0, 0, 0, []),
  (4, none, .ldc_w 265, 3, 0, 0, 0, 0, 1431655765, []),
  (7, none, .iand, 1, 0, 0, 0, 0, 0, []),
  (8, none, .isub, 1, 0, 0, 0, 0, 0, []),
  (9, none, .istore_n 0, 1, 0, 0, 0, 0, 0, []),
  (10, none, .iload_n 0, 1, 0, 0, 0, 0, 0, []),
  (11, none, .ldc_w 266, 3, 0, 0, 0, 0, 858993459, []),
  (14, none, .iand, 1, 0, 0, 0, 0, 0, []),
  (15, none, .iload_n 0, 1, 0, 0, 0, 0, 0, []),
  (16, none, .iconst 2, 1, 0, 0, 0, 0, 0, []),
  (17, none, .iushr, 1, 0, 0, 0, 0, 0, []),
  (18, none, .ldc_w 266, 3, 0, 0, 0, 0, 858993459, []),
  (21, none, .iand, 1, 0, 0, 0, 0, 0, []),
  (22, none, .iadd, 1, 0, 0, 0, 0, 0, []),
  (23, none, .istore_n 0, 1, 0, 0, 0, 0, 0, []),
  (24, none, .iload_n 0, 1, 0, 0, 0, 0, 0, []),
  (25, none, .iload_n 0, 1, 0, 0, 0, 0, 0, []),
  (26, none, .iconst 4, 1, 0, 0, 0, 0, 0, []),
  (27, none, .iushr, 1, 0, 0, 0, 0, 0, []),
  (28, none, .iadd, 1, 0, 0, 0, 0, 0, []),
  (29, none, .ldc_w 267, 3, 0, 0, 0, 0, 252645135, []),
  (32, none, .iand, 1, 0, 0, 0, 0, 0, []),
  (33, none, .istore_n 0, 1, 0, 0, 0, 0, 0, []),
  (34, none, .iload_n 0, 1, 0, 0, 0, 0, 0, []),
  (35, none, .iload_n 0, 1, 0, 0, 0, 0, 0, []),
  (36, none, .bipush 8, 2, 0, 0, 0, 0, 0, []),
  (38, none, .iushr, 1, 0, 0, 0, 0, 0, []),
  (39, none, .iadd, 1, 0, 0, 0, 0, 0, []),
  (40, none, .istore_n 0, 1, 0, 0, 0, 0, 0, []),
  (41, none, .iload_n 0, 1, 0, 0, 0, 0, 0, []),
  (42, none, .iload_n 0, 1, 0, 0, 0, 0, 0, []),
  (43, none, .bipush 16, 2, 0, 0, 0, 0, 0, []),
  (45, none, .iushr, 1, 0, 0, 0, 0, 0, []),
  (46, none, .iadd, 1, 0, 0, 0, 0, 0, []),
  (47, none, .istore_n 0, 1, 0, 0, 0, 0, 0, []),
  (48, none, .iload_n 0, 1, 0, 0, 0, 0, 0, []),
  (49, none, .bipush 63, 2, 0, 0, 0, 0, 0, []),
  (51, none, .iand, 1, 0, 0, 0, 0, 0, []),
  (52, none, .ireturn, 1, 0, 0, 0, 0, 0, [])]
noncomputable def K_jm_floorMod : List aE := [
  (0, none, .iload_n 0, 1, 0, 0, 0, 0, 0, []),
  (1, none, .iload_n 1, 1, 1, 0, 0, 0, 0, []),
  (2, none, .irem, 1, 0, 0, 0, 0, 0, []),
  (3, none, .istore_n 2, 1, 2, 0, 0, 0, 0, []),
  (4, none, .iload_n 0, 1, 0, 0, 0, 0, 0, []),
  (5, none, .iload_n 1, 1, 1, 0, 0, 0, 0, []),
  (6, none, .ixor, 1, 0, 0, 0, 0, 0, []),
  (7, none, .ifCond .ge 11, 3, 18, 0, 0, 0, 0, []),
  (10, none, .iload_n 2, 1, 2, 0, 0, 0, 0, []),
  (11, none, .ifCond .eq 7, 3, 18, 0, 0, 0, 0, []),
  (14, none, .iload_n 2, 1, 2, 0, 0, 0, 0, []),
  (15, none, .iload_n 1, 1, 1, 0, 0, 0, 0, []),
  (16, none, .iadd, 1, 0, 0, 0, 0, 0, []),
  (17, none, .ireturn, 1, 0, 0, 0, 0, 0, []),
  (18, none, .iload_n 2, 1, 2, 0, 0, 0, 0, []),
  (19, none, .ireturn, 1, 0, 0, 0, 0, 0, [])]
noncomputable def K_js_length : List aE := [
  (0, none, .aload_n 0, 1, 0, 0, 0, 0, 0, []),
  (1, none, .getfield 9, 3, 24, 0, 27, 0, 0, []),
  (4, none, .arraylength, 1, 0, 0, 0, 0, 0, []),
  (5, none, .aload_n 0, 1, 0, 0, 0, 0, 0, []),
  (6, none, .invokevirtual 335, 3, 270, 1, 2, 0, 0, []),
  (9, none, .ishr, 1, 0, 0, 0, 0, 0, []),
  (10, none, .ireturn, 1, 0, 0, 0, 0, 0, [])]
noncomputable def K_js_charAt : List aE := [
  (0, none, .aload_n 0, 1, 0, 0, 0, 0, 0, []),
  (1, none, .invokevirtual 492, 3, 271, 1, 2, 0, 0, []),
  (4, none, .ifCond .eq 12, 3, 16, 0, 0, 0, 0, []),
  (7, none, .aload_n 0, 1, 0, 0, 0, 0, 0, []),
  (8, none, .getfield 9, 3, 24, 0, 27, 0, 0, []),
  (11, none, .iload_n 1, 1, 1, 0, 0, 0, 0, []),
  (12, none, .invokestatic 495, 3, 273, 2, 2, 0, 0, []),
  (15, none, .ireturn, 1, 2, 0, 0, 0, 0, []),
  (16, none, .aload_n 0, 1, 0, 0, 0, 0, 0, []),
  (17, none, .getfield 9, 3, 24, 0, 27, 0, 0, []),
  (20, none, .iload_n 1, 1, 1, 0, 0, 0, 0, []),
  (21, none, .invokestatic 498, 3, 0, 0, 5, 0, 0, []),
  (24, none, .ireturn, 1, 2, 0, 0, 0, 0, [])]
noncomputable def K_js_indexOf4 : List aE := [
  (0, none, .aload_n 0, 1, 0, 0, 0, 0, 0, []),
  (1, none, .iload_n 1, 1, 1, 0, 0, 0, 0, []),
  (2, none, .iconst 0, 1, 0, 0, 0, 0, 0, []),
  (3, none, .invokevirtual 633, 3, 269, 3, 2, 0, 0, []),
  (6, none, .ireturn, 1, 0, 0, 0, 0, 0, [])]
noncomputable def K_js_indexOf5 : List aE := [
  (0, none, .aload_n 0, 1, 0, 0, 0, 0, 0, []),
  (1, none, .invokevirtual 492, 3, 271, 1, 2, 0, 0, []),
  (4, none, .ifCond .eq 19, 3, 23, 0, 0, 0, 0, []),
  (7, none, .aload_n 0, 1, 0, 0, 0, 0, 0, []),
  (8, none, .getfield 9, 3, 24, 0, 27, 0, 0, []),
  (11, none, .iload_n 1, 1, 1, 0, 0, 0, 0, []),
  (12, none, .iload_n 2, 1, 2, 0, 0, 0, 0, []),
  (13, none, .aload_n 0, 1, 0, 0, 0, 0, 0, []),
  (14, none, .invokevirtual 505, 3, 266, 1, 2, 0, 0, []),
  (17, none, .invokestatic 637, 3, 275, 4, 2, 0, 0, []),
  (20, none, .goto 16, 3, 36, 0, 0, 0, 0, []),
  (23, none, .aload_n 0, 1, 0, 0, 0, 0, 0, []),
  (24, none, .getfield 9, 3, 24, 0, 27, 0, 0, []),
  (27, none, .iload_n 1, 1, 1, 0, 0, 0, 0, []),
  (28, none, .iload_n 2, 1, 2, 0, 0, 0, 0, []),
  (29, none, .aload_n 0, 1, 0, 0, 0, 0, 0, []),
  (30, none, .invokevirtual 505, 3, 266, 1, 2, 0, 0, []),
  (33, none, .invokestatic 640, 3, 0, 0, 5, 0, 0, []),
  (36, none, .ireturn, 1, 0, 0, 0, 0, 0, [])]
noncomputable def K_js_coder : List aE := [
  (0, none, .getstatic 38, 3, 0, 0, 0, 0, 0, []),
  (3, none, .ifCond .eq 10, 3, 13, 0, 0, 0, 0, []),
  (6, none, .aload_n 0, 1, 0, 0, 0, 0, 0, []),
  (7, none, .getfield 15, 3, 24, 0, 1, 0, 0, []),
  (10, none, .goto 4, 3, 14, 0, 0, 0, 0, []),
  (13, none, .iconst 1, 1, 0, 0, 0, 0, 0, []),
  (14, none, .ireturn, 1, 3, 0, 0, 0, 0, [])]
noncomputable def K_js_isLatin1 : List aE := [
  (0, none, .getstatic 38, 3, 0, 0, 0, 0, 0, []),
  (3, none, .ifCond .eq 14, 3, 17, 0, 0, 0, 0, []),
  (6, none, .aload_n 0, 1, 0, 0, 0, 0, 0, []),
  (7, none, .getfield 15, 3, 24, 0, 1, 0, 0, []),
  (10, none, .ifCond .ne 7, 3, 17, 0, 0, 0, 0, []),
  (13, none, .iconst 1, 1, 0, 0, 0, 0, 0, []),
  (14, none, .goto 4, 3, 18, 0, 0, 0, 0, []),
  (17, none, .iconst 0, 1, 0, 0, 0, 0, 0, []),
  (18, none, .ireturn, 1, 1, 0, 0, 0, 0, [])]
noncomputable def K_js_checkIndex : List aE := [
  (0, none, .iload_n 0, 1, 0, 0, 0, 0, 0, []),
  (1, none, .iload_n 1, 1, 1, 0, 0, 0, 0, []),
  (2, none, .getstatic 1053, 3, 1, 0, 0, 0, 0, []),
  (5, none, .invokestatic 1059, 3, 279, 3, 2, 0, 0, []),
  (8, none, .pop, 1, 0, 0, 0, 0, 0, []),
  (9, none, .return_, 1, 0, 0, 0, 0, 0, [])]
noncomputable def K_jl_charAt : List aE := [
  (0, none, .iload_n 1, 1, 1, 0, 0, 0, 0, []),
  (1, none, .aload_n 0, 1, 0, 0, 0, 0, 0, []),
  (2, none, .arraylength, 1, 0, 0, 0, 0, 0, []),
  (3, none, .invokestatic 9, 3, 272, 2, 1, 0, 0, []),
  (6, none, .aload_n 0, 1, 0, 0, 0, 0, 0, []),
  (7, none, .iload_n 1, 1, 1, 0, 0, 0, 0, []),
  (8, none, .baload, 1, 0, 0, 0, 0, 0, []),
  (9, none, .sipush 255, 3, 0, 0, 0, 0, 0, []),
  (12, none, .iand, 1, 0, 0, 0, 0, 0, []),
  (13, none, .i2c, 1, 0, 0, 0, 0, 0, []),
  (14, none, .ireturn, 1, 2, 0, 0, 0, 0, [])]
noncomputable def K_jl_canEncode : List aE := [
  (0, none, .iload_n 0, 1, 0, 0, 0, 0, 0, []),
  (1, none, .ifCond .lt 14, 3, 15, 0, 0, 0, 0, []),
  (4, none, .iload_n 0, 1, 0, 0, 0, 0, 0, []),
  (5, none, .sipush 255, 3, 0, 0, 0, 0, 0, []),
  (8, none, .if_icmp .gt 7, 3, 15, 0, 0, 0, 0, []),
  (11, none, .iconst 1, 1, 0, 0, 0, 0, 0, []),
  (12, none, .goto 4, 3, 16, 0, 0, 0, 0, []),
  (15, none, .iconst 0, 1, 0, 0, 0, 0, 0, []),
  (16, none, .ireturn, 1, 1, 0, 0, 0, 0, [])]
noncomputable def K_jl_indexOf : List aE := [
  (0, none, .iload_n 1, 1, 1, 0, 0, 0, 0, []),
  (1, none, .invokestatic 88, 3, 274, 1, 2, 0, 0, []),
  (4, none, .ifCond .ne 5, 3, 9, 0, 0, 0, 0, []),
  (7, none, .iconst (-1), 1, 0, 0, 0, 0, 0, []),
  (8, none, .ireturn, 1, 0, 0, 0, 0, 0, []),
  (9, none, .iload_n 2, 1, 2, 0, 0, 0, 0, []),
  (10, none, .iconst 0, 1, 0, 0, 0, 0, 0, []),
  (11, none, .invokestatic 92, 3, 4, 0, 0, 0, 0, []),
  (14, none, .istore_n 2, 1, 2, 0, 0, 0, 0, []),
  (15, none, .iload_n 3, 1, 3, 0, 0, 0, 0, []),
  (16, none, .aload_n 0, 1, 0, 0, 0, 0, 0, []),
  (17, none, .arraylength, 1, 0, 0, 0, 0, 0, []),
  (18, none, .invokestatic 38, 3, 5, 0, 0, 0, 0, []),
  (21, none, .istore_n 3, 1, 3, 0, 0, 0, 0, []),
  (22, none, .iload_n 2, 1, 2, 0, 0, 0, 0, []),
  (23, none, .iload_n 3, 1, 3, 0, 0, 0, 0, []),
  (24, none, .if_icmp .lt 5, 3, 29, 0, 0, 0, 0, []),
  (27, none, .iconst (-1), 1, 0, 0, 0, 0, 0, []),
  (28, none, .ireturn, 1, 0, 0, 0, 0, 0, []),
  (29, none, .aload_n 0, 1, 0, 0, 0, 0, 0, []),
  (30, none, .iload_n 1, 1, 1, 0, 0, 0, 0, []),
  (31, none, .iload_n 2, 1, 2, 0, 0, 0, 0, []),
  (32, none, .iload_n 3, 1, 3, 0, 0, 0, 0, []),
  (33, none, .invokestatic 95, 3, 276, 4, 2, 0, 0, []),
  (36, none, .ireturn, 1, 0, 0, 0, 0, 0, [])]
noncomputable def K_jl_indexOfChar : List aE := [
  (0, none, .iload_n 1, 1, 1, 0, 0, 0, 0, []),
  (1, none, .i2b, 1, 0, 0, 0, 0, 0, []),
  (2, none, .istore 4, 2, 4, 0, 0, 0, 0, []),
  (4, none, .iload_n 2, 1, 2, 0, 0, 0, 0, []),
  (5, none, .istore 5, 2, 5, 0, 0, 0, 0, []),
  (7, some [true, false, false, true, true, true], .iload 5, 2, 5, 0, 0, 0, 0, []),
  (9, none, .iload_n 3, 1, 3, 0, 0, 0, 0, []),
  (10, none, .if_icmp .ge 21, 3, 31, 0, 0, 0, 0, []),
  (13, none, .aload_n 0, 1, 0, 0, 0, 0, 0, []),
  (14, none, .iload 5, 2, 5, 0, 0, 0, 0, []),
  (16, none, .baload, 1, 0, 0, 0, 0, 0, []),
  (17, none, .iload 4, 2, 4, 0, 0, 0, 0, []),
  (19, none, .if_icmp .ne 6, 3, 25, 0, 0, 0, 0, []),
  (22, none, .iload 5, 2, 5, 0, 0, 0, 0, []),
  (24, none, .ireturn, 1, 0, 0, 0, 0, 0, []),
  (25, none, .iinc 5 1, 3, 5, 0, 0, 0, 0, []),
  (28, none, .goto (-21), 3, 7, 0, 0, 0, 0, []),
  (31, none, .iconst (-1), 1, 0, 0, 0, 0, 0, []),
  (32, none, .ireturn, 1, 0, 0, 0, 0, 0, [])]
noncomputable def K_ja_fillJ : List aE := [
  (0, none, .iconst 0, 1, 0, 0, 0, 0, 0, []),
  (1, none, .istore_n 3, 1, 3, 0, 0, 0, 0, []),
  (2, none, .aload_n 0, 1, 0, 0, 0, 0, 0, []),
  (3, none, .arraylength, 1, 0, 0, 0, 0, 0, []),
  (4, none, .istore 4, 2, 4, 0, 0, 0, 0, []),
  (6, some [true, true, false, true, true], .iload_n 3, 1, 3, 0, 0, 0, 0, []),
  (7, none, .iload 4, 2, 4, 0, 0, 0, 0, []),
  (9, none, .if_icmp .ge 13, 3, 22, 0, 0, 0, 0, []),
  (12, none, .aload_n 0, 1, 0, 0, 0, 0, 0, []),
  (13, none, .iload_n 3, 1, 3, 0, 0, 0, 0, []),
  (14, none, .lload_n 1, 1, 1, 0, 0, 0, 0, []),
  (15, none, .lastore, 1, 0, 0, 0, 0, 0, []),
  (16, none, .iinc 3 1, 3, 3, 0, 0, 0, 0, []),
  (19, none, .goto (-13), 3, 6, 0, 0, 0, 0, []),
  (22, none, .return_, 1, 0, 0, 0, 0, 0, [])]
noncomputable def K_ja_fillI : List aE := [
  (0, none, .iconst 0, 1, 0, 0, 0, 0, 0, []),
  (1, none, .istore_n 2, 1, 2, 0, 0, 0, 0, []),
  (2, none, .aload_n 0, 1, 0, 0, 0, 0, 0, []),
  (3, none, .arraylength, 1, 0, 0, 0, 0, 0, []),
  (4, none, .istore_n 3, 1, 3, 0, 0, 0, 0, []),
  (5, some [true, true, true, true], .iload_n 2, 1, 2, 0, 0, 0, 0, []),
  (6, none, .iload_n 3, 1, 3, 0, 0, 0, 0, []),
  (7, none, .if_icmp .ge 13, 3, 20, 0, 0, 0, 0, []),
  (10, none, .aload_n 0, 1, 0, 0, 0, 0, 0, []),
  (11, none, .iload_n 2, 1, 2, 0, 0, 0, 0, []),
  (12, none, .iload_n 1, 1, 1, 0, 0, 0, 0, []),
  (13, none, .iastore, 1, 0, 0, 0, 0, 0, []),
  (14, none, .iinc 2 1, 3, 2, 0, 0, 0, 0, []),
  (17, none, .goto (-12), 3, 5, 0, 0, 0, 0, []),
  (20, none, .return_, 1, 0, 0, 0, 0, 0, [])]
noncomputable def K_jp_checkIndex : List aE := [
  (0, none, .iload_n 0, 1, 0, 0, 0, 0, 0, []),
  (1, none, .ifCond .lt 8, 3, 9, 0, 0, 0, 0, []),
  (4, none, .iload_n 0, 1, 0, 0, 0, 0, 0, []),
  (5, none, .iload_n 1, 1, 1, 0, 0, 0, 0, []),
  (6, none, .if_icmp .lt 10, 3, 16, 0, 0, 0, 0, []),
  (9, none, .aload_n 2, 1, 2, 0, 0, 0, 0, []),
  (10, none, .iload_n 0, 1, 0, 0, 0, 0, 0, []),
  (11, none, .iload_n 1, 1, 1, 0, 0, 0, 0, []),
  (12, none, .invokestatic 95, 3, 0, 0, 5, 0, 0, []),
  (15, none, .athrow, 1, 0, 0, 0, 0, 0, []),
  (16, none, .iload_n 0, 1, 0, 0, 0, 0, 0, []),
  (17, none, .ireturn, 1, 0, 0, 0, 0, 0, [])]
noncomputable def K_lw_law : List aE := [
  (0, none, .new 7, 3, 0, 0, 0, 0, 0, []),
  (3, none, .dup, 1, 0, 0, 0, 0, 0, []),
  (4, none, .invokespecial 9, 3, 0, 0, 0, 0, 0, []),
  (7, none, .astore_n 1, 1, 1, 0, 0, 0, 0, []),
  (8, none, .new 10, 3, 0, 0, 0, 0, 0, []),
  (11, none, .dup, 1, 0, 0, 0, 0, 0, []),
  (12, none, .invokespecial 12, 3, 0, 0, 0, 0, 0, []),
  (15, none, .astore_n 2, 1, 2, 0, 0, 0, 0, []),
  (16, none, .iconst 0, 1, 0, 0, 0, 0, 0, []),
  (17, none, .istore_n 3, 1, 3, 0, 0, 0, 0, []),
  (18, some [true, true, true, true], .iload_n 3, 1, 3, 0, 0, 0, 0, []),
  (19, none, .aload_n 0, 1, 0, 0, 0, 0, 0, []),
  (20, none, .arraylength, 1, 0, 0, 0, 0, 0, []),
  (21, none, .bipush 6, 2, 0, 0, 0, 0, 0, []),
  (23, none, .isub, 1, 0, 0, 0, 0, 0, []),
  (24, none, .if_icmp .gt 1140, 3, 1164, 0, 0, 0, 0, []),
  (27, none, .aload_n 0, 1, 0, 0, 0, 0, 0, []),
  (28, none, .iload_n 3, 1, 3, 0, 0, 0, 0, []),
  (29, none, .iaload, 1, 0, 0, 0, 0, 0, []),
  (30, none, .bipush 63, 2, 0, 0, 0, 0, 0, []),
  (32, none, .iand, 1, 0, 0, 0, 0, 0, []),
  (33, none, .tableswitch 1125 0 33 #[151, 174, 207, 250, 299, 322, 345, 408, 431, 454, 477, 510, 543, 576, 609, 622, 655, 678, 711, 734, 757, 780, 803, 836, 859, 892, 915, 938, 961, 994, 1027, 1050, 1063, 1102], 151, 1158, 0, 0, 0, 0, [(0, 184), (1, 207), (2, 240), (3, 283), (4, 332), (5, 355), (6, 378), (7, 441), (8, 464), (9, 487), (10, 510), (11, 543), (12, 576), (13, 609), (14, 642), (15, 655), (16, 688), (17, 711), (18, 744), (19, 767), (20, 790), (21, 813), (22, 836), (23, 869), (24, 892), (25, 925), (26, 948), (27, 971), (28, 994), (29, 1027), (30, 1060), (31, 1083), (32, 1096), (33, 1135)]),
  (184, none, .aload_n 1, 1, 1, 0, 0, 0, 0, []),
  (185, none, .aload_n 0, 1, 0, 0, 0, 0, 0, []),
  (186, none, .iload_n 3, 1, 3, 0, 0, 0, 0, []),
  (187, none, .iconst 1, 1, 0, 0, 0, 0, 0, []),
  (188, none, .iadd, 1, 0, 0, 0, 0, 0, []),
  (189, none, .iaload, 1, 0, 0, 0, 0, 0, []),
  (190, none, .invokevirtual 13, 3, 109, 2, 2, 0, 0, []),
  (193, none, .aload_n 2, 1, 2, 0, 0, 0, 0, []),
  (194, none, .aload_n 0, 1, 0, 0, 0, 0, 0, []),
  (195, none, .iload_n 3, 1, 3, 0, 0, 0, 0, []),
  (196, none, .iconst 1, 1, 0, 0, 0, 0, 0, []),
  (197, none, .iadd, 1, 0, 0, 0, 0, 0, []),
  (198, none, .iaload, 1, 0, 0, 0, 0, 0, []),
  (199, none, .invokevirtual 17, 3, 156, 2, 2, 0, 0, []),
  (202, none, .if_icmp .eq 956, 3, 1158, 0, 0, 0, 0, []),
  (205, none, .iconst 0, 1, 0, 0, 0, 0, 0, []),
  (206, none, .ireturn, 1, 1, 0, 0, 0, 0, []),
  (207, none, .aload_n 1, 1, 1, 0, 0, 0, 0, []),
  (208, none, .aload_n 0, 1, 0, 0, 0, 0, 0, []),
  (209, none, .iload_n 3, 1, 3, 0, 0, 0, 0, []),
  (210, none, .iconst 1, 1, 0, 0, 0, 0, 0, []),
  (211, none, .iadd, 1, 0, 0, 0, 0, 0, []),
  (212, none, .iaload, 1, 0, 0, 0, 0, 0, []),
  (213, none, .aload_n 0, 1, 0, 0, 0, 0, 0, []),
  (214, none, .iload_n 3, 1, 3, 0, 0, 0, 0, []),
  (215, none, .iconst 2, 1, 0, 0, 0, 0, 0, []),
  (216, none, .iadd, 1, 0, 0, 0, 0, 0, []),
  (217, none, .iaload, 1, 0, 0, 0, 0, 0, []),
  (218, none, .invokevirtual 18, 3, 110, 3, 2, 0, 0, []),
  (221, none, .aload_n 2, 1, 2, 0, 0, 0, 0, []),
  (222, none, .aload_n 0, 1, 0, 0, 0, 0, 0, []),
  (223, none, .iload_n 3, 1, 3, 0, 0, 0, 0, []),
  (224, none, .iconst 1, 1, 0, 0, 0, 0, 0, []),
  (225, none, .iadd, 1, 0, 0, 0, 0, 0, []),
  (226, none, .iaload, 1, 0, 0, 0, 0, 0, []),
  (227, none, .aload_n 0, 1, 0, 0, 0, 0, 0, []),
  (228, none, .iload_n 3, 1, 3, 0, 0, 0, 0, []),
  (229, none, .iconst 2, 1, 0, 0, 0, 0, 0, []),
  (230, none, .iadd, 1, 0, 0, 0, 0, 0, []),
  (231, none, .iaload, 1, 0, 0, 0, 0, 0, []),
  (232, none, .invokevirtual 22, 3, 158, 3, 2, 0, 0, []),
  (235, none, .if_icmp .eq 923, 3, 1158, 0, 0, 0, 0, []),
  (238, none, .iconst 0, 1, 0, 0, 0, 0, 0, []),
  (239, none, .ireturn, 1, 1, 0, 0, 0, 0, []),
  (240, none, .aload_n 1, 1, 1, 0, 0, 0, 0, []),
  (241, none, .aload_n 0, 1, 0, 0, 0, 0, 0, []),
  (242, none, .iload_n 3, 1, 3, 0, 0, 0, 0, []),
  (243, none, .iconst 1, 1, 0, 0, 0, 0, 0, []),
  (244, none, .iadd, 1, 0, 0, 0, 0, 0, []),
  (245, none, .iaload, 1, 0, 0, 0, 0, 0, []),
  (246, none, .aload_n 0, 1, 0, 0, 0, 0, 0, []),
  (247, none, .iload_n 3, 1, 3, 0, 0, 0, 0, []),
  (248, none, .iconst 2, 1, 0, 0, 0, 0, 0, []),
  (249, none, .iadd, 1, 0, 0, 0, 0, 0, []),
  (250, none, .iaload, 1, 0, 0, 0, 0, 0, []),
  (251, none, .aload_n 0, 1, 0, 0, 0, 0, 0, []),
  (252, none, .iload_n 3, 1, 3, 0, 0, 0, 0, []),
  (253, none, .iconst 3, 1, 0, 0, 0, 0, 0, []),
  (254, none, .iadd, 1, 0, 0, 0, 0, 0, []),
  (255, none, .iaload, 1, 0, 0, 0, 0, 0, []),
  (256, none, .invokevirtual 23, 3, 111, 4, 2, 0, 0, []),
  (259, none, .aload_n 2, 1, 2, 0, 0, 0, 0, []),
  (260, none, .aload_n 0, 1, 0, 0, 0, 0, 0, []),
  (261, none, .iload_n 3, 1, 3, 0, 0, 0, 0, []),
  (262, none, .iconst 1, 1, 0, 0, 0, 0, 0, []),
  (263, none, .iadd, 1, 0, 0, 0, 0, 0, []),
  (264, none, .iaload, 1, 0, 0, 0, 0, 0, []),
  (265, none, .aload_n 0, 1, 0, 0, 0, 0, 0, []),
  (266, none, .iload_n 3, 1, 3, 0, 0, 0, 0, []),
  (267, none, .iconst 2, 1, 0, 0, 0, 0, 0, []),
  (268, none, .iadd, 1, 0, 0, 0, 0, 0, []),
  (269, none, .iaload, 1, 0, 0, 0, 0, 0, []),
  (270, none, .aload_n 0, 1, 0, 0, 0, 0, 0, []),
  (271, none, .iload_n 3, 1, 3, 0, 0, 0, 0, []),
  (272, none, .iconst 3, 1, 0, 0, 0, 0, 0, []),
  (273, none, .iadd, 1, 0, 0, 0, 0, 0, []),
  (274, none, .iaload, 1, 0, 0, 0, 0, 0, []),
  (275, none, .invokevirtual 27, 3, 161, 4, 2, 0, 0, []),
  (278, none, .if_icmp .eq 880, 3, 1158, 0, 0, 0, 0, []),
  (281, none, .iconst 0, 1, 0, 0, 0, 0, 0, []),
  (282, none, .ireturn, 1, 1, 0, 0, 0, 0, []),
  (283, none, .aload_n 1, 1, 1, 0, 0, 0, 0, []),
  (284, none, .aload_n 0, 1, 0, 0, 0, 0, 0, []),
  (285, none, .iload_n 3, 1, 3, 0, 0, 0, 0, []),
  (286, none, .iconst 1, 1, 0, 0, 0, 0, 0, []),
  (287, none, .iadd, 1, 0, 0, 0, 0, 0, []),
  (288, none, .iaload, 1, 0, 0, 0, 0, 0, []),
  (289, none, .aload_n 0, 1, 0, 0, 0, 0, 0, []),
  (290, none, .iload_n 3, 1, 3, 0, 0, 0, 0, []),
  (291, none, .iconst 2, 1, 0, 0, 0, 0, 0, []),
  (292, none, .iadd, 1, 0, 0, 0, 0, 0, []),
  (293, none, .iaload, 1, 0, 0, 0, 0, 0, []),
  (294, none, .ifCond .eq 7, 3, 301, 0, 0, 0, 0, []),
  (297, none, .iconst 1, 1, 0, 0, 0, 0, 0, []),
  (298, none, .goto 4, 3, 302, 0, 0, 0, 0, []),
  (301, none, .iconst 0, 1, 0, 0, 0, 0, 0, []),
  (302, none, .invokevirtual 28, 3, 112, 3, 2, 0, 0, []),
  (305, none, .aload_n 2, 1, 2, 0, 0, 0, 0, []),
  (306, none, .aload_n 0, 1, 0, 0, 0, 0, 0, []),
  (307, none, .iload_n 3, 1, 3, 0, 0, 0, 0, []),
  (308, none, .iconst 1, 1, 0, 0, 0, 0, 0, []),
  (309, none, .iadd, 1, 0, 0, 0, 0, 0, []),
  (310, none, .iaload, 1, 0, 0, 0, 0, 0, []),
  (311, none, .aload_n 0, 1, 0, 0, 0, 0, 0, []),
  (312, none, .iload_n 3, 1, 3, 0, 0, 0, 0, []),
  (313, none, .iconst 2, 1, 0, 0, 0, 0, 0, []),
  (314, none, .iadd, 1, 0, 0, 0, 0, 0, []),
  (315, none, .iaload, 1, 0, 0, 0, 0, 0, []),
  (316, none, .ifCond .eq 7, 3, 323, 0, 0, 0, 0, []),
  (319, none, .iconst 1, 1, 0, 0, 0, 0, 0, []),
  (320, none, .goto 4, 3, 324, 0, 0, 0, 0, []),
  (323, none, .iconst 0, 1, 0, 0, 0, 0, 0, []),
  (324, none, .invokevirtual 32, 3, 210, 3, 2, 0, 0, []),
  (327, none, .if_icmp .eq 831, 3, 1158, 0, 0, 0, 0, []),
  (330, none, .iconst 0, 1, 0, 0, 0, 0, 0, []),
  (331, none, .ireturn, 1, 1, 0, 0, 0, 0, []),
  (332, none, .aload_n 1, 1, 1, 0, 0, 0, 0, []),
  (333, none, .aload_n 0, 1, 0, 0, 0, 0, 0, []),
  (334, none, .iload_n 3, 1, 3, 0, 0, 0, 0, []),
  (335, none, .iconst 1, 1, 0, 0, 0, 0, 0, []),
  (336, none, .iadd, 1, 0, 0, 0, 0, 0, []),
  (337, none, .iaload, 1, 0, 0, 0, 0, 0, []),
  (338, none, .invokevirtual 33, 3, 113, 2, 2, 0, 0, []),
  (341, none, .aload_n 2, 1, 2, 0, 0, 0, 0, []),
  (342, none, .aload_n 0, 1, 0, 0, 0, 0, 0, []),
  (343, none, .iload_n 3, 1, 3, 0, 0, 0, 0, []),
  (344, none, .iconst 1, 1, 0, 0, 0, 0, 0, []),
  (345, none, .iadd, 1, 0, 0, 0, 0, 0, []),
  (346, none, .iaload, 1, 0, 0, 0, 0, 0, []),
  (347, none, .invokevirtual 36, 3, 218, 2, 2, 0, 0, []),
  (350, none, .if_icmp .eq 808, 3, 1158, 0, 0, 0, 0, []),
  (353, none, .iconst 0, 1, 0, 0, 0, 0, 0, []),
  (354, none, .ireturn, 1, 1, 0, 0, 0, 0, []),
  (355, none, .aload_n 1, 1, 1, 0, 0, 0, 0, []),
  (356, none, .aload_n 0, 1, 0, 0, 0, 0, 0, []),
  (357, none, .iload_n 3, 1, 3, 0, 0, 0, 0, []),
  (358, none, .iconst 1, 1, 0, 0, 0, 0, 0, []),
  (359, none, .iadd, 1, 0, 0, 0, 0, 0, []),
  (360, none, .iaload, 1, 0, 0, 0, 0, 0, []),
  (361, none, .invokevirtual 37, 3, 114, 2, 2, 0, 0, []),
  (364, none, .aload_n 2, 1, 2, 0, 0, 0, 0, []),
  (365, none, .aload_n 0, 1, 0, 0, 0, 0, 0, []),
  (366, none, .iload_n 3, 1, 3, 0, 0, 0, 0, []),
  (367, none, .iconst 1, 1, 0, 0, 0, 0, 0, []),
  (368, none, .iadd, 1, 0, 0, 0, 0, 0, []),
  (369, none, .iaload, 1, 0, 0, 0, 0, 0, []),
  (370, none, .invokevirtual 40, 3, 219, 2, 2, 0, 0, []),
  (373, none, .if_icmp .eq 785, 3, 1158, 0, 0, 0, 0, []),
  (376, none, .iconst 0, 1, 0, 0, 0, 0, 0, []),
  (377, none, .ireturn, 1, 1, 0, 0, 0, 0, []),
  (378, none, .aload_n 1, 1, 1, 0, 0, 0, 0, []),
  (379, none, .aload_n 0, 1, 0, 0, 0, 0, 0, []),
  (380, none, .iload_n 3, 1, 3, 0, 0, 0, 0, []),
  (381, none, .iconst 1, 1, 0, 0, 0, 0, 0, []),
  (382, none, .iadd, 1, 0, 0, 0, 0, 0, []),
  (383, none, .iaload, 1, 0, 0, 0, 0, 0, []),
  (384, none, .aload_n 0, 1, 0, 0, 0, 0, 0, []),
  (385, none, .iload_n 3, 1, 3, 0, 0, 0, 0, []),
  (386, none, .iconst 2, 1, 0, 0, 0, 0, 0, []),
  (387, none, .iadd, 1, 0, 0, 0, 0, 0, []),
  (388, none, .iaload, 1, 0, 0, 0, 0, 0, []),
  (389, none, .aload_n 0, 1, 0, 0, 0, 0, 0, []),
  (390, none, .iload_n 3, 1, 3, 0, 0, 0, 0, []),
  (391, none, .iconst 3, 1, 0, 0, 0, 0, 0, []),
  (392, none, .iadd, 1, 0, 0, 0, 0, 0, []),
  (393, none, .iaload, 1, 0, 0, 0, 0, 0, []),
  (394, none, .aload_n 0, 1, 0, 0, 0, 0, 0, []),
  (395, none, .iload_n 3, 1, 3, 0, 0, 0, 0, []),
  (396, none, .iconst 4, 1, 0, 0, 0, 0, 0, []),
  (397, none, .iadd, 1, 0, 0, 0, 0, 0, []),
  (398, none, .iaload, 1, 0, 0, 0, 0, 0, []),
  (399, none, .aload_n 0, 1, 0, 0, 0, 0, 0, []),
  (400, none, .iload_n 3, 1, 3, 0, 0, 0, 0, []),
  (401, none, .iconst 5, 1, 0, 0, 0, 0, 0, []),
  (402, none, .iadd, 1, 0, 0, 0, 0, 0, []),
  (403, none, .iaload, 1, 0, 0, 0, 0, 0, []),
  (404, none, .invokevirtual 41, 3, 115, 6, 2, 0, 0, []),
  (407, none, .aload_n 2, 1, 2, 0, 0, 0, 0, []),
  (408, none, .aload_n 0, 1, 0, 0, 0, 0, 0, []),
  (409, none, .iload_n 3, 1, 3, 0, 0, 0, 0, []),
  (410, none, .iconst 1, 1, 0, 0, 0, 0, 0, []),
  (411, none, .iadd, 1, 0, 0, 0, 0, 0, []),
  (412, none, .iaload, 1, 0, 0, 0, 0, 0, []),
  (413, none, .aload_n 0, 1, 0, 0, 0, 0, 0, []),
  (414, none, .iload_n 3, 1, 3, 0, 0, 0, 0, []),
  (415, none, .iconst 2, 1, 0, 0, 0, 0, 0, []),
  (416, none, .iadd, 1, 0, 0, 0, 0, 0, []),
  (417, none, .iaload, 1, 0, 0, 0, 0, 0, []),
  (418, none, .aload_n 0, 1, 0, 0, 0, 0, 0, []),
  (419, none, .iload_n 3, 1, 3, 0, 0, 0, 0, []),
  (420, none, .iconst 3, 1, 0, 0, 0, 0, 0, []),
  (421, none, .iadd, 1, 0, 0, 0, 0, 0, []),
  (422, none, .iaload, 1, 0, 0, 0, 0, 0, []),
  (423, none, .aload_n 0, 1, 0, 0, 0, 0, 0, []),
  (424, none, .iload_n 3, 1, 3, 0, 0, 0, 0, []),
  (425, none, .iconst 4, 1, 0, 0, 0, 0, 0, []),
  (426, none, .iadd, 1, 0, 0, 0, 0, 0, []),
  (427, none, .iaload, 1, 0, 0, 0, 0, 0, []),
  (428, none, .aload_n 0, 1, 0, 0, 0, 0, 0, []),
  (429, none, .iload_n 3, 1, 3, 0, 0, 0, 0, []),
  (430, none, .iconst 5, 1, 0, 0, 0, 0, 0, []),
  (431, none, .iadd, 1, 0, 0, 0, 0, 0, []),
  (432, none, .iaload, 1, 0, 0, 0, 0, 0, []),
  (433, none, .invokevirtual 45, 3, 162, 6, 2, 0, 0, []),
  (436, none, .if_icmp .eq 722, 3, 1158, 0, 0, 0, 0, []),
  (439, none, .iconst 0, 1, 0, 0, 0, 0, 0, []),
  (440, none, .ireturn, 1, 1, 0, 0, 0, 0, []),
  (441, none, .aload_n 1, 1, 1, 0, 0, 0, 0, []),
  (442, none, .aload_n 0, 1, 0, 0, 0, 0, 0, []),
  (443, none, .iload_n 3, 1, 3, 0, 0, 0, 0, []),
  (444, none, .iconst 1, 1, 0, 0, 0, 0, 0, []),
  (445, none, .iadd, 1, 0, 0, 0, 0, 0, []),
  (446, none, .iaload, 1, 0, 0, 0, 0, 0, []),
  (447, none, .invokevirtual 46, 3, 116, 2, 2, 0, 0, []),
  (450, none, .aload_n 2, 1, 2, 0, 0, 0, 0, []),
  (451, none, .aload_n 0, 1, 0, 0, 0, 0, 0, []),
  (452, none, .iload_n 3, 1, 3, 0, 0, 0, 0, []),
  (453, none, .iconst 1, 1, 0, 0, 0, 0, 0, []),
  (454, none, .iadd, 1, 0, 0, 0, 0, 0, []),
  (455, none, .iaload, 1, 0, 0, 0, 0, 0, []),
  (456, none, .invokevirtual 50, 3, 163, 2, 2, 0, 0, []),
  (459, none, .if_icmp .eq 699, 3, 1158, 0, 0, 0, 0, []),
  (462, none, .iconst 0, 1, 0, 0, 0, 0, 0, []),
  (463, none, .ireturn, 1, 1, 0, 0, 0, 0, []),
  (464, none, .aload_n 1, 1, 1, 0, 0, 0, 0, []),
  (465, none, .aload_n 0, 1, 0, 0, 0, 0, 0, []),
  (466, none, .iload_n 3, 1, 3, 0, 0, 0, 0, []),
  (467, none, .iconst 1, 1, 0, 0, 0, 0, 0, []),
  (468, none, .iadd, 1, 0, 0, 0, 0, 0, []),
  (469, none, .iaload, 1, 0, 0, 0, 0, 0, []),
  (470, none, .invokevirtual 51, 3, 117, 2, 2, 0, 0, []),
  (473, none, .aload_n 2, 1, 2, 0, 0, 0, 0, []),
  (474, none, .aload_n 0, 1, 0, 0, 0, 0, 0, []),
  (475, none, .iload_n 3, 1, 3, 0, 0, 0, 0, []),
  (476, none, .iconst 1, 1, 0, 0, 0, 0, 0, []),
  (477, none, .iadd, 1, 0, 0, 0, 0, 0, []),
  (478, none, .iaload, 1, 0, 0, 0, 0, 0, []),
  (479, none, .invokevirtual 54, 3, 195, 2, 2, 0, 0, []),
  (482, none, .if_icmp .eq 676, 3, 1158, 0, 0, 0, 0, []),
  (485, none, .iconst 0, 1, 0, 0, 0, 0, 0, []),
  (486, none, .ireturn, 1, 1, 0, 0, 0, 0, []),
  (487, none, .aload_n 1, 1, 1, 0, 0, 0, 0, []),
  (488, none, .aload_n 0, 1, 0, 0, 0, 0, 0, []),
  (489, none, .iload_n 3, 1, 3, 0, 0, 0, 0, []),
  (490, none, .iconst 1, 1, 0, 0, 0, 0, 0, []),
  (491, none, .iadd, 1, 0, 0, 0, 0, 0, []),
  (492, none, .iaload, 1, 0, 0, 0, 0, 0, []),
  (493, none, .invokevirtual 55, 3, 118, 2, 2, 0, 0, []),
  (496, none, .aload_n 2, 1, 2, 0, 0, 0, 0, []),
  (497, none, .aload_n 0, 1, 0, 0, 0, 0, 0, []),
  (498, none, .iload_n 3, 1, 3, 0, 0, 0, 0, []),
  (499, none, .iconst 1, 1, 0, 0, 0, 0, 0, []),
  (500, none, .iadd, 1, 0, 0, 0, 0, 0, []),
  (501, none, .iaload, 1, 0, 0, 0, 0, 0, []),
  (502, none, .invokevirtual 58, 3, 196, 2, 2, 0, 0, []),
  (505, none, .if_icmp .eq 653, 3, 1158, 0, 0, 0, 0, []),
  (508, none, .iconst 0, 1, 0, 0, 0, 0, 0, []),
  (509, none, .ireturn, 1, 1, 0, 0, 0, 0, []),
  (510, none, .aload_n 1, 1, 1, 0, 0, 0, 0, []),
  (511, none, .aload_n 0, 1, 0, 0, 0, 0, 0, []),
  (512, none, .iload_n 3, 1, 3, 0, 0, 0, 0, []),
  (513, none, .iconst 1, 1, 0, 0, 0, 0, 0, []),
  (514, none, .iadd, 1, 0, 0, 0, 0, 0, []),
  (515, none, .iaload, 1, 0, 0, 0, 0, 0, []),
  (516, none, .aload_n 0, 1, 0, 0, 0, 0, 0, []),
  (517, none, .iload_n 3, 1, 3, 0, 0, 0, 0, []),
  (518, none, .iconst 2, 1, 0, 0, 0, 0, 0, []),
  (519, none, .iadd, 1, 0, 0, 0, 0, 0, []),
  (520, none, .iaload, 1, 0, 0, 0, 0, 0, []),
  (521, none, .invokevirtual 59, 3, 119, 3, 2, 0, 0, []),
  (524, none, .aload_n 2, 1, 2, 0, 0, 0, 0, []),
  (525, none, .aload_n 0, 1, 0, 0, 0, 0, 0, []),
  (526, none, .iload_n 3, 1, 3, 0, 0, 0, 0, []),
  (527, none, .iconst 1, 1, 0, 0, 0, 0, 0, []),
  (528, none, .iadd, 1, 0, 0, 0, 0, 0, []),
  (529, none, .iaload, 1, 0, 0, 0, 0, 0, []),
  (530, none, .aload_n 0, 1, 0, 0, 0, 0, 0, []),
  (531, none, .iload_n 3, 1, 3, 0, 0, 0, 0, []),
  (532, none, .iconst 2, 1, 0, 0, 0, 0, 0, []),
  (533, none, .iadd, 1, 0, 0, 0, 0, 0, []),
  (534, none, .iaload, 1, 0, 0, 0, 0, 0, []),
  (535, none, .invokevirtual 62, 3, 220, 3, 2, 0, 0, []),
  (538, none, .if_icmp .eq 620, 3, 1158, 0, 0, 0, 0, []),
  (541, none, .iconst 0, 1, 0, 0, 0, 0, 0, []),
  (542, none, .ireturn, 1, 1, 0, 0, 0, 0, []),
  (543, none, .aload_n 1, 1, 1, 0, 0, 0, 0, []),
  (544, none, .aload_n 0, 1, 0, 0, 0, 0, 0, []),
  (545, none, .iload_n 3, 1, 3, 0, 0, 0, 0, []),
  (546, none, .iconst 1, 1, 0, 0, 0, 0, 0, []),
  (547, none, .iadd, 1, 0, 0, 0, 0, 0, []),
  (548, none, .iaload, 1, 0, 0, 0, 0, 0, []),
  (549, none, .aload_n 0, 1, 0, 0, 0, 0, 0, []),
  (550, none, .iload_n 3, 1, 3, 0, 0, 0, 0, []),
  (551, none, .iconst 2, 1, 0, 0, 0, 0, 0, []),
  (552, none, .iadd, 1, 0, 0, 0, 0, 0, []),
  (553, none, .iaload, 1, 0, 0, 0, 0, 0, []),
  (554, none, .invokevirtual 63, 3, 120, 3, 2, 0, 0, []),
  (557, none, .aload_n 2, 1, 2, 0, 0, 0, 0, []),
  (558, none, .aload_n 0, 1, 0, 0, 0, 0, 0, []),
  (559, none, .iload_n 3, 1, 3, 0, 0, 0, 0, []),
  (560, none, .iconst 1, 1, 0, 0, 0, 0, 0, []),
  (561, none, .iadd, 1, 0, 0, 0, 0, 0, []),
  (562, none, .iaload, 1, 0, 0, 0, 0, 0, []),
  (563, none, .aload_n 0, 1, 0, 0, 0, 0, 0, []),
  (564, none, .iload_n 3, 1, 3, 0, 0, 0, 0, []),
  (565, none, .iconst 2, 1, 0, 0, 0, 0, 0, []),
  (566, none, .iadd, 1, 0, 0, 0, 0, 0, []),
  (567, none, .iaload, 1, 0, 0, 0, 0, 0, []),
  (568, none, .invokevirtual 66, 3, 221, 3, 2, 0, 0, []),
  (571, none, .if_icmp .eq 587, 3, 1158, 0, 0, 0, 0, []),
  (574, none, .iconst 0, 1, 0, 0, 0, 0, 0, []),
  (575, none, .ireturn, 1, 1, 0, 0, 0, 0, []),
  (576, none, .aload_n 1, 1, 1, 0, 0, 0, 0, []),
  (577, none, .aload_n 0, 1, 0, 0, 0, 0, 0, []),
  (578, none, .iload_n 3, 1, 3, 0, 0, 0, 0, []),
  (579, none, .iconst 1, 1, 0, 0, 0, 0, 0, []),
  (580, none, .iadd, 1, 0, 0, 0, 0, 0, []),
  (581, none, .iaload, 1, 0, 0, 0, 0, 0, []),
  (582, none, .aload_n 0, 1, 0, 0, 0, 0, 0, []),
  (583, none, .iload_n 3, 1, 3, 0, 0, 0, 0, []),
  (584, none, .iconst 2, 1, 0, 0, 0, 0, 0, []),
  (585, none, .iadd, 1, 0, 0, 0, 0, 0, []),
  (586, none, .iaload, 1, 0, 0, 0, 0, 0, []),
  (587, none, .invokevirtual 67, 3, 121, 3, 2, 0, 0, []),
  (590, none, .aload_n 2, 1, 2, 0, 0, 0, 0, []),
  (591, none, .aload_n 0, 1, 0, 0, 0, 0, 0, []),
  (592, none, .iload_n 3, 1, 3, 0, 0, 0, 0, []),
  (593, none, .iconst 1, 1, 0, 0, 0, 0, 0, []),
  (594, none, .iadd, 1, 0, 0, 0, 0, 0, []),
  (595, none, .iaload, 1, 0, 0, 0, 0, 0, []),
  (596, none, .aload_n 0, 1, 0, 0, 0, 0, 0, []),
  (597, none, .iload_n 3, 1, 3, 0, 0, 0, 0, []),
  (598, none, .iconst 2, 1, 0, 0, 0, 0, 0, []),
  (599, none, .iadd, 1, 0, 0, 0, 0, 0, []),
  (600, none, .iaload, 1, 0, 0, 0, 0, 0, []),
  (601, none, .invokevirtual 70, 3, 222, 3, 2, 0, 0, []),
  (604, none, .if_icmp .eq 554, 3, 1158, 0, 0, 0, 0, []),
  (607, none, .iconst 0, 1, 0, 0, 0, 0, 0, []),
  (608, none, .ireturn, 1, 1, 0, 0, 0, 0, []),
  (609, none, .aload_n 1, 1, 1, 0, 0, 0, 0, []),
  (610, none, .aload_n 0, 1, 0, 0, 0, 0, 0, []),
  (611, none, .iload_n 3, 1, 3, 0, 0, 0, 0, []),
  (612, none, .iconst 1, 1, 0, 0, 0, 0, 0, []),
  (613, none, .iadd, 1, 0, 0, 0, 0, 0, []),
  (614, none, .iaload, 1, 0, 0, 0, 0, 0, []),
  (615, none, .aload_n 0, 1, 0, 0, 0, 0, 0, []),
  (616, none, .iload_n 3, 1, 3, 0, 0, 0, 0, []),
  (617, none, .iconst 2, 1, 0, 0, 0, 0, 0, []),
  (618, none, .iadd, 1, 0, 0, 0, 0, 0, []),
  (619, none, .iaload, 1, 0, 0, 0, 0, 0, []),
  (620, none, .invokevirtual 71, 3, 122, 3, 2, 0, 0, []),
  (623, none, .aload_n 2, 1, 2, 0, 0, 0, 0, []),
  (624, none, .aload_n 0, 1, 0, 0, 0, 0, 0, []),
  (625, none, .iload_n 3, 1, 3, 0, 0, 0, 0, []),
  (626, none, .iconst 1, 1, 0, 0, 0, 0, 0, []),
  (627, none, .iadd, 1, 0, 0, 0, 0, 0, []),
  (628, none, .iaload, 1, 0, 0, 0, 0, 0, []),
  (629, none, .aload_n 0, 1, 0, 0, 0, 0, 0, []),
  (630, none, .iload_n 3, 1, 3, 0, 0, 0, 0, []),
  (631, none, .iconst 2, 1, 0, 0, 0, 0, 0, []),
  (632, none, .iadd, 1, 0, 0, 0, 0, 0, []),
  (633, none, .iaload, 1, 0, 0, 0, 0, 0, []),
  (634, none, .invokevirtual 74, 3, 224, 3, 2, 0, 0, []),
  (637, none, .if_icmp .eq 521, 3, 1158, 0, 0, 0, 0, []),
  (640, none, .iconst 0, 1, 0, 0, 0, 0, 0, []),
  (641, none, .ireturn, 1, 1, 0, 0, 0, 0, []),
  (642, none, .aload_n 1, 1, 1, 0, 0, 0, 0, []),
  (643, none, .invokevirtual 75, 3, 123, 1, 2, 0, 0, []),
  (646, none, .aload_n 2, 1, 2, 0, 0, 0, 0, []),
  (647, none, .invokevirtual 79, 3, 225, 1, 2, 0, 0, []),
  (650, none, .if_icmp .eq 508, 3, 1158, 0, 0, 0, 0, []),
  (653, none, .iconst 0, 1, 0, 0, 0, 0, 0, []),
  (654, none, .ireturn, 1, 1, 0, 0, 0, 0, []),
  (655, none, .aload_n 1, 1, 1, 0, 0, 0, 0, []),
  (656, none, .aload_n 0, 1, 0, 0, 0, 0, 0, []),
  (657, none, .iload_n 3, 1, 3, 0, 0, 0, 0, []),
  (658, none, .iconst 1, 1, 0, 0, 0, 0, 0, []),
  (659, none, .iadd, 1, 0, 0, 0, 0, 0, []),
  (660, none, .iaload, 1, 0, 0, 0, 0, 0, []),
  (661, none, .aload_n 0, 1, 0, 0, 0, 0, 0, []),
  (662, none, .iload_n 3, 1, 3, 0, 0, 0, 0, []),
  (663, none, .iconst 2, 1, 0, 0, 0, 0, 0, []),
  (664, none, .iadd, 1, 0, 0, 0, 0, 0, []),
  (665, none, .iaload, 1, 0, 0, 0, 0, 0, []),
  (666, none, .invokevirtual 80, 3, 124, 3, 2, 0, 0, []),
  (669, none, .aload_n 2, 1, 2, 0, 0, 0, 0, []),
  (670, none, .aload_n 0, 1, 0, 0, 0, 0, 0, []),
  (671, none, .iload_n 3, 1, 3, 0, 0, 0, 0, []),
  (672, none, .iconst 1, 1, 0, 0, 0, 0, 0, []),
  (673, none, .iadd, 1, 0, 0, 0, 0, 0, []),
  (674, none, .iaload, 1, 0, 0, 0, 0, 0, []),
  (675, none, .aload_n 0, 1, 0, 0, 0, 0, 0, []),
  (676, none, .iload_n 3, 1, 3, 0, 0, 0, 0, []),
  (677, none, .iconst 2, 1, 0, 0, 0, 0, 0, []),
  (678, none, .iadd, 1, 0, 0, 0, 0, 0, []),
  (679, none, .iaload, 1, 0, 0, 0, 0, 0, []),
  (680, none, .invokevirtual 83, 3, 226, 3, 2, 0, 0, []),
  (683, none, .if_icmp .eq 475, 3, 1158, 0, 0, 0, 0, []),
  (686, none, .iconst 0, 1, 0, 0, 0, 0, 0, []),
  (687, none, .ireturn, 1, 1, 0, 0, 0, 0, []),
  (688, none, .aload_n 1, 1, 1, 0, 0, 0, 0, []),
  (689, none, .aload_n 0, 1, 0, 0, 0, 0, 0, []),
  (690, none, .iload_n 3, 1, 3, 0, 0, 0, 0, []),
  (691, none, .iconst 1, 1, 0, 0, 0, 0, 0, []),
  (692, none, .iadd, 1, 0, 0, 0, 0, 0, []),
  (693, none, .iaload, 1, 0, 0, 0, 0, 0, []),
  (694, none, .invokevirtual 84, 3, 125, 2, 2, 0, 0, []),
  (697, none, .aload_n 2, 1, 2, 0, 0, 0, 0, []),
  (698, none, .aload_n 0, 1, 0, 0, 0, 0, 0, []),
  (699, none, .iload_n 3, 1, 3, 0, 0, 0, 0, []),
  (700, none, .iconst 1, 1, 0, 0, 0, 0, 0, []),
  (701, none, .iadd, 1, 0, 0, 0, 0, 0, []),
  (702, none, .iaload, 1, 0, 0, 0, 0, 0, []),
  (703, none, .invokevirtual 87, 3, 227, 2, 2, 0, 0, []),
  (706, none, .if_icmp .eq 452, 3, 1158, 0, 0, 0, 0, []),
  (709, none, .iconst 0, 1, 0, 0, 0, 0, 0, []),
  (710, none, .ireturn, 1, 1, 0, 0, 0, 0, []),
  (711, none, .aload_n 1, 1, 1, 0, 0, 0, 0, []),
  (712, none, .aload_n 0, 1, 0, 0, 0, 0, 0, []),
  (713, none, .iload_n 3, 1, 3, 0, 0, 0, 0, []),
  (714, none, .iconst 1, 1, 0, 0, 0, 0, 0, []),
  (715, none, .iadd, 1, 0, 0, 0, 0, 0, []),
  (716, none, .iaload, 1, 0, 0, 0, 0, 0, []),
  (717, none, .aload_n 0, 1, 0, 0, 0, 0, 0, []),
  (718, none, .iload_n 3, 1, 3, 0, 0, 0, 0, []),
  (719, none, .iconst 2, 1, 0, 0, 0, 0, 0, []),
  (720, none, .iadd, 1, 0, 0, 0, 0, 0, []),
  (721, none, .iaload, 1, 0, 0, 0, 0, 0, []),
  (722, none, .invokevirtual 88, 3, 126, 3, 2, 0, 0, []),
  (725, none, .aload_n 2, 1, 2, 0, 0, 0, 0, []),
  (726, none, .aload_n 0, 1, 0, 0, 0, 0, 0, []),
  (727, none, .iload_n 3, 1, 3, 0, 0, 0, 0, []),
  (728, none, .iconst 1, 1, 0, 0, 0, 0, 0, []),
  (729, none, .iadd, 1, 0, 0, 0, 0, 0, []),
  (730, none, .iaload, 1, 0, 0, 0, 0, 0, []),
  (731, none, .aload_n 0, 1, 0, 0, 0, 0, 0, []),
  (732, none, .iload_n 3, 1, 3, 0, 0, 0, 0, []),
  (733, none, .iconst 2, 1, 0, 0, 0, 0, 0, []),
  (734, none, .iadd, 1, 0, 0, 0, 0, 0, []),
  (735, none, .iaload, 1, 0, 0, 0, 0, 0, []),
  (736, none, .invokevirtual 91, 3, 228, 3, 2, 0, 0, []),
  (739, none, .if_icmp .eq 419, 3, 1158, 0, 0, 0, 0, []),
  (742, none, .iconst 0, 1, 0, 0, 0, 0, 0, []),
  (743, none, .ireturn, 1, 1, 0, 0, 0, 0, []),
  (744, none, .aload_n 1, 1, 1, 0, 0, 0, 0, []),
  (745, none, .aload_n 0, 1, 0, 0, 0, 0, 0, []),
  (746, none, .iload_n 3, 1, 3, 0, 0, 0, 0, []),
  (747, none, .iconst 1, 1, 0, 0, 0, 0, 0, []),
  (748, none, .iadd, 1, 0, 0, 0, 0, 0, []),
  (749, none, .iaload, 1, 0, 0, 0, 0, 0, []),
  (750, none, .invokevirtual 92, 3, 127, 2, 2, 0, 0, []),
  (753, none, .aload_n 2, 1, 2, 0, 0, 0, 0, []),
  (754, none, .aload_n 0, 1, 0, 0, 0, 0, 0, []),
  (755, none, .iload_n 3, 1, 3, 0, 0, 0, 0, []),
  (756, none, .iconst 1, 1, 0, 0, 0, 0, 0, []),
  (757, none, .iadd, 1, 0, 0, 0, 0, 0, []),
  (758, none, .iaload, 1, 0, 0, 0, 0, 0, []),
  (759, none, .invokevirtual 95, 3, 234, 2, 2, 0, 0, []),
  (762, none, .if_icmp .eq 396, 3, 1158, 0, 0, 0, 0, []),
  (765, none, .iconst 0, 1, 0, 0, 0, 0, 0, []),
  (766, none, .ireturn, 1, 1, 0, 0, 0, 0, []),
  (767, none, .aload_n 1, 1, 1, 0, 0, 0, 0, []),
  (768, none, .aload_n 0, 1, 0, 0, 0, 0, 0, []),
  (769, none, .iload_n 3, 1, 3, 0, 0, 0, 0, []),
  (770, none, .iconst 1, 1, 0, 0, 0, 0, 0, []),
  (771, none, .iadd, 1, 0, 0, 0, 0, 0, []),
  (772, none, .iaload, 1, 0, 0, 0, 0, 0, []),
  (773, none, .invokevirtual 96, 3, 128, 2, 2, 0, 0, []),
  (776, none, .aload_n 2, 1, 2, 0, 0, 0, 0, []),
  (777, none, .aload_n 0, 1, 0, 0, 0, 0, 0, []),
  (778, none, .iload_n 3, 1, 3, 0, 0, 0, 0, []),
  (779, none, .iconst 1, 1, 0, 0, 0, 0, 0, []),
  (780, none, .iadd, 1, 0, 0, 0, 0, 0, []),
  (781, none, .iaload, 1, 0, 0, 0, 0, 0, []),
  (782, none, .invokevirtual 99, 3, 237, 2, 2, 0, 0, []),
  (785, none, .if_icmp .eq 373, 3, 1158, 0, 0, 0, 0, []),
  (788, none, .iconst 0, 1, 0, 0, 0, 0, 0, []),
  (789, none, .ireturn, 1, 1, 0, 0, 0, 0, []),
  (790, none, .aload_n 1, 1, 1, 0, 0, 0, 0, []),
  (791, none, .aload_n 0, 1, 0, 0, 0, 0, 0, []),
  (792, none, .iload_n 3, 1, 3, 0, 0, 0, 0, []),
  (793, none, .iconst 1, 1, 0, 0, 0, 0, 0, []),
  (794, none, .iadd, 1, 0, 0, 0, 0, 0, []),
  (795, none, .iaload, 1, 0, 0, 0, 0, 0, []),
  (796, none, .invokevirtual 100, 3, 129, 2, 2, 0, 0, []),
  (799, none, .aload_n 2, 1, 2, 0, 0, 0, 0, []),
  (800, none, .aload_n 0, 1, 0, 0, 0, 0, 0, []),
  (801, none, .iload_n 3, 1, 3, 0, 0, 0, 0, []),
  (802, none, .iconst 1, 1, 0, 0, 0, 0, 0, []),
  (803, none, .iadd, 1, 0, 0, 0, 0, 0, []),
  (804, none, .iaload, 1, 0, 0, 0, 0, 0, []),
  (805, none, .invokevirtual 103, 3, 238, 2, 2, 0, 0, []),
  (808, none, .if_icmp .eq 350, 3, 1158, 0, 0, 0, 0, []),
  (811, none, .iconst 0, 1, 0, 0, 0, 0, 0, []),
  (812, none, .ireturn, 1, 1, 0, 0, 0, 0, []),
  (813, none, .aload_n 1, 1, 1, 0, 0, 0, 0, []),
  (814, none, .aload_n 0, 1, 0, 0, 0, 0, 0, []),
  (815, none, .iload_n 3, 1, 3, 0, 0, 0, 0, []),
  (816, none, .iconst 1, 1, 0, 0, 0, 0, 0, []),
  (817, none, .iadd, 1, 0, 0, 0, 0, 0, []),
  (818, none, .iaload, 1, 0, 0, 0, 0, 0, []),
  (819, none, .invokevirtual 104, 3, 130, 2, 2, 0, 0, []),
  (822, none, .aload_n 2, 1, 2, 0, 0, 0, 0, []),
  (823, none, .aload_n 0, 1, 0, 0, 0, 0, 0, []),
  (824, none, .iload_n 3, 1, 3, 0, 0, 0, 0, []),
  (825, none, .iconst 1, 1, 0, 0, 0, 0, 0, []),
  (826, none, .iadd, 1, 0, 0, 0, 0, 0, []),
  (827, none, .iaload, 1, 0, 0, 0, 0, 0, []),
  (828, none, .invokevirtual 107, 3, 243, 2, 2, 0, 0, []),
  (831, none, .if_icmp .eq 327, 3, 1158, 0, 0, 0, 0, []),
  (834, none, .iconst 0, 1, 0, 0, 0, 0, 0, []),
  (835, none, .ireturn, 1, 1, 0, 0, 0, 0, []),
  (836, none, .aload_n 1, 1, 1, 0, 0, 0, 0, []),
  (837, none, .aload_n 0, 1, 0, 0, 0, 0, 0, []),
  (838, none, .iload_n 3, 1, 3, 0, 0, 0, 0, []),
  (839, none, .iconst 1, 1, 0, 0, 0, 0, 0, []),
  (840, none, .iadd, 1, 0, 0, 0, 0, 0, []),
  (841, none, .iaload, 1, 0, 0, 0, 0, 0, []),
  (842, none, .aload_n 0, 1, 0, 0, 0, 0, 0, []),
  (843, none, .iload_n 3, 1, 3, 0, 0, 0, 0, []),
  (844, none, .iconst 2, 1, 0, 0, 0, 0, 0, []),
  (845, none, .iadd, 1, 0, 0, 0, 0, 0, []),
  (846, none, .iaload, 1, 0, 0, 0, 0, 0, []),
  (847, none, .invokevirtual 108, 3, 131, 3, 2, 0, 0, []),
  (850, none, .aload_n 2, 1, 2, 0, 0, 0, 0, []),
  (851, none, .aload_n 0, 1, 0, 0, 0, 0, 0, []),
  (852, none, .iload_n 3, 1, 3, 0, 0, 0, 0, []),
  (853, none, .iconst 1, 1, 0, 0, 0, 0, 0, []),
  (854, none, .iadd, 1, 0, 0, 0, 0, 0, []),
  (855, none, .iaload, 1, 0, 0, 0, 0, 0, []),
  (856, none, .aload_n 0, 1, 0, 0, 0, 0, 0, []),
  (857, none, .iload_n 3, 1, 3, 0, 0, 0, 0, []),
  (858, none, .iconst 2, 1, 0, 0, 0, 0, 0, []),
  (859, none, .iadd, 1, 0, 0, 0, 0, 0, []),
  (860, none, .iaload, 1, 0, 0, 0, 0, 0, []),
  (861, none, .invokevirtual 111, 3, 245, 3, 2, 0, 0, []),
  (864, none, .if_icmp .eq 294, 3, 1158, 0, 0, 0, 0, []),
  (867, none, .iconst 0, 1, 0, 0, 0, 0, 0, []),
  (868, none, .ireturn, 1, 1, 0, 0, 0, 0, []),
  (869, none, .aload_n 1, 1, 1, 0, 0, 0, 0, []),
  (870, none, .aload_n 0, 1, 0, 0, 0, 0, 0, []),
  (871, none, .iload_n 3, 1, 3, 0, 0, 0, 0, []),
  (872, none, .iconst 1, 1, 0, 0, 0, 0, 0, []),
  (873, none, .iadd, 1, 0, 0, 0, 0, 0, []),
  (874, none, .iaload, 1, 0, 0, 0, 0, 0, []),
  (875, none, .invokevirtual 112, 3, 132, 2, 2, 0, 0, []),
  (878, none, .aload_n 2, 1, 2, 0, 0, 0, 0, []),
  (879, none, .aload_n 0, 1, 0, 0, 0, 0, 0, []),
  (880, none, .iload_n 3, 1, 3, 0, 0, 0, 0, []),
  (881, none, .iconst 1, 1, 0, 0, 0, 0, 0, []),
  (882, none, .iadd, 1, 0, 0, 0, 0, 0, []),
  (883, none, .iaload, 1, 0, 0, 0, 0, 0, []),
  (884, none, .invokevirtual 115, 3, 247, 2, 2, 0, 0, []),
  (887, none, .if_icmp .eq 271, 3, 1158, 0, 0, 0, 0, []),
  (890, none, .iconst 0, 1, 0, 0, 0, 0, 0, []),
  (891, none, .ireturn, 1, 1, 0, 0, 0, 0, []),
  (892, none, .aload_n 1, 1, 1, 0, 0, 0, 0, []),
  (893, none, .aload_n 0, 1, 0, 0, 0, 0, 0, []),
  (894, none, .iload_n 3, 1, 3, 0, 0, 0, 0, []),
  (895, none, .iconst 1, 1, 0, 0, 0, 0, 0, []),
  (896, none, .iadd, 1, 0, 0, 0, 0, 0, []),
  (897, none, .iaload, 1, 0, 0, 0, 0, 0, []),
  (898, none, .aload_n 0, 1, 0, 0, 0, 0, 0, []),
  (899, none, .iload_n 3, 1, 3, 0, 0, 0, 0, []),
  (900, none, .iconst 2, 1, 0, 0, 0, 0, 0, []),
  (901, none, .iadd, 1, 0, 0, 0, 0, 0, []),
  (902, none, .iaload, 1, 0, 0, 0, 0, 0, []),
  (903, none, .invokevirtual 116, 3, 133, 3, 2, 0, 0, []),
  (906, none, .aload_n 2, 1, 2, 0, 0, 0, 0, []),
  (907, none, .aload_n 0, 1, 0, 0, 0, 0, 0, []),
  (908, none, .iload_n 3, 1, 3, 0, 0, 0, 0, []),
  (909, none, .iconst 1, 1, 0, 0, 0, 0, 0, []),
  (910, none, .iadd, 1, 0, 0, 0, 0, 0, []),
  (911, none, .iaload, 1, 0, 0, 0, 0, 0, []),
  (912, none, .aload_n 0, 1, 0, 0, 0, 0, 0, []),
  (913, none, .iload_n 3, 1, 3, 0, 0, 0, 0, []),
  (914, none, .iconst 2, 1, 0, 0, 0, 0, 0, []),
  (915, none, .iadd, 1, 0, 0, 0, 0, 0, []),
  (916, none, .iaload, 1, 0, 0, 0, 0, 0, []),
  (917, none, .invokevirtual 119, 3, 248, 3, 2, 0, 0, []),
  (920, none, .if_icmp .eq 238, 3, 1158, 0, 0, 0, 0, []),
  (923, none, .iconst 0, 1, 0, 0, 0, 0, 0, []),
  (924, none, .ireturn, 1, 1, 0, 0, 0, 0, []),
  (925, none, .aload_n 1, 1, 1, 0, 0, 0, 0, []),
  (926, none, .aload_n 0, 1, 0, 0, 0, 0, 0, []),
  (927, none, .iload_n 3, 1, 3, 0, 0, 0, 0, []),
  (928, none, .iconst 1, 1, 0, 0, 0, 0, 0, []),
  (929, none, .iadd, 1, 0, 0, 0, 0, 0, []),
  (930, none, .iaload, 1, 0, 0, 0, 0, 0, []),
  (931, none, .invokevirtual 120, 3, 134, 2, 2, 0, 0, []),
  (934, none, .aload_n 2, 1, 2, 0, 0, 0, 0, []),
  (935, none, .aload_n 0, 1, 0, 0, 0, 0, 0, []),
  (936, none, .iload_n 3, 1, 3, 0, 0, 0, 0, []),
  (937, none, .iconst 1, 1, 0, 0, 0, 0, 0, []),
  (938, none, .iadd, 1, 0, 0, 0, 0, 0, []),
  (939, none, .iaload, 1, 0, 0, 0, 0, 0, []),
  (940, none, .invokevirtual 123, 3, 252, 2, 2, 0, 0, []),
  (943, none, .if_icmp .eq 215, 3, 1158, 0, 0, 0, 0, []),
  (946, none, .iconst 0, 1, 0, 0, 0, 0, 0, []),
  (947, none, .ireturn, 1, 1, 0, 0, 0, 0, []),
  (948, none, .aload_n 1, 1, 1, 0, 0, 0, 0, []),
  (949, none, .aload_n 0, 1, 0, 0, 0, 0, 0, []),
  (950, none, .iload_n 3, 1, 3, 0, 0, 0, 0, []),
  (951, none, .iconst 1, 1, 0, 0, 0, 0, 0, []),
  (952, none, .iadd, 1, 0, 0, 0, 0, 0, []),
  (953, none, .iaload, 1, 0, 0, 0, 0, 0, []),
  (954, none, .invokevirtual 124, 3, 135, 2, 2, 0, 0, []),
  (957, none, .aload_n 2, 1, 2, 0, 0, 0, 0, []),
  (958, none, .aload_n 0, 1, 0, 0, 0, 0, 0, []),
  (959, none, .iload_n 3, 1, 3, 0, 0, 0, 0, []),
  (960, none, .iconst 1, 1, 0, 0, 0, 0, 0, []),
  (961, none, .iadd, 1, 0, 0, 0, 0, 0, []),
  (962, none, .iaload, 1, 0, 0, 0, 0, 0, []),
  (963, none, .invokevirtual 127, 3, 253, 2, 2, 0, 0, []),
  (966, none, .if_icmp .eq 192, 3, 1158, 0, 0, 0, 0, []),
  (969, none, .iconst 0, 1, 0, 0, 0, 0, 0, []),
  (970, none, .ireturn, 1, 1, 0, 0, 0, 0, []),
  (971, none, .aload_n 1, 1, 1, 0, 0, 0, 0, []),
  (972, none, .aload_n 0, 1, 0, 0, 0, 0, 0, []),
  (973, none, .iload_n 3, 1, 3, 0, 0, 0, 0, []),
  (974, none, .iconst 1, 1, 0, 0, 0, 0, 0, []),
  (975, none, .iadd, 1, 0, 0, 0, 0, 0, []),
  (976, none, .iaload, 1, 0, 0, 0, 0, 0, []),
  (977, none, .invokevirtual 128, 3, 136, 2, 2, 0, 0, []),
  (980, none, .aload_n 2, 1, 2, 0, 0, 0, 0, []),
  (981, none, .aload_n 0, 1, 0, 0, 0, 0, 0, []),
  (982, none, .iload_n 3, 1, 3, 0, 0, 0, 0, []),
  (983, none, .iconst 1, 1, 0, 0, 0, 0, 0, []),
  (984, none, .iadd, 1, 0, 0, 0, 0, 0, []),
  (985, none, .iaload, 1, 0, 0, 0, 0, 0, []),
  (986, none, .invokevirtual 131, 3, 255, 2, 2, 0, 0, []),
  (989, none, .if_icmp .eq 169, 3, 1158, 0, 0, 0, 0, []),
  (992, none, .iconst 0, 1, 0, 0, 0, 0, 0, []),
  (993, none, .ireturn, 1, 1, 0, 0, 0, 0, []),
  (994, none, .aload_n 1, 1, 1, 0, 0, 0, 0, []),
  (995, none, .aload_n 0, 1, 0, 0, 0, 0, 0, []),
  (996, none, .iload_n 3, 1, 3, 0, 0, 0, 0, []),
  (997, none, .iconst 1, 1, 0, 0, 0, 0, 0, []),
  (998, none, .iadd, 1, 0, 0, 0, 0, 0, []),
  (999, none, .iaload, 1, 0, 0, 0, 0, 0, []),
  (1000, none, .aload_n 0, 1, 0, 0, 0, 0, 0, []),
  (1001, none, .iload_n 3, 1, 3, 0, 0, 0, 0, []),
  (1002, none, .iconst 2, 1, 0, 0, 0, 0, 0, []),
  (1003, none, .iadd, 1, 0, 0, 0, 0, 0, []),
  (1004, none, .iaload, 1, 0, 0, 0, 0, 0, []),
  (1005, none, .invokevirtual 132, 3, 137, 3, 2, 0, 0, []),
  (1008, none, .aload_n 2, 1, 2, 0, 0, 0, 0, []),
  (1009, none, .aload_n 0, 1, 0, 0, 0, 0, 0, []),
  (1010, none, .iload_n 3, 1, 3, 0, 0, 0, 0, []),
  (1011, none, .iconst 1, 1, 0, 0, 0, 0, 0, []),
  (1012, none, .iadd, 1, 0, 0, 0, 0, 0, []),
  (1013, none, .iaload, 1, 0, 0, 0, 0, 0, []),
  (1014, none, .aload_n 0, 1, 0, 0, 0, 0, 0, []),
  (1015, none, .iload_n 3, 1, 3, 0, 0, 0, 0, []),
  (1016, none, .iconst 2, 1, 0, 0, 0, 0, 0, []),
  (1017, none, .iadd, 1, 0, 0, 0, 0, 0, []),
  (1018, none, .iaload, 1, 0, 0, 0, 0, 0, []),
  (1019, none, .invokevirtual 135, 3, 257, 3, 2, 0, 0, []),
  (1022, none, .if_icmp .eq 136, 3, 1158, 0, 0, 0, 0, []),
  (1025, none, .iconst 0, 1, 0, 0, 0, 0, 0, []),
  (1026, none, .ireturn, 1, 1, 0, 0, 0, 0, []),
  (1027, none, .aload_n 1, 1, 1, 0, 0, 0, 0, []),
  (1028, none, .aload_n 0, 1, 0, 0, 0, 0, 0, []),
  (1029, none, .iload_n 3, 1, 3, 0, 0, 0, 0, []),
  (1030, none, .iconst 1, 1, 0, 0, 0, 0, 0, []),
  (1031, none, .iadd, 1, 0, 0, 0, 0, 0, []),
  (1032, none, .iaload, 1, 0, 0, 0, 0, 0, []),
  (1033, none, .aload_n 0, 1, 0, 0, 0, 0, 0, []),
  (1034, none, .iload_n 3, 1, 3, 0, 0, 0, 0, []),
  (1035, none, .iconst 2, 1, 0, 0, 0, 0, 0, []),
  (1036, none, .iadd, 1, 0, 0, 0, 0, 0, []),
  (1037, none, .iaload, 1, 0, 0, 0, 0, 0, []),
  (1038, none, .invokevirtual 136, 3, 138, 3, 2, 0, 0, []),
  (1041, none, .aload_n 2, 1, 2, 0, 0, 0, 0, []),
  (1042, none, .aload_n 0, 1, 0, 0, 0, 0, 0, []),
  (1043, none, .iload_n 3, 1, 3, 0, 0, 0, 0, []),
  (1044, none, .iconst 1, 1, 0, 0, 0, 0, 0, []),
  (1045, none, .iadd, 1, 0, 0, 0, 0, 0, []),
  (1046, none, .iaload, 1, 0, 0, 0, 0, 0, []),
  (1047, none, .aload_n 0, 1, 0, 0, 0, 0, 0, []),
  (1048, none, .iload_n 3, 1, 3, 0, 0, 0, 0, []),
  (1049, none, .iconst 2, 1, 0, 0, 0, 0, 0, []),
  (1050, none, .iadd, 1, 0, 0, 0, 0, 0, []),
  (1051, none, .iaload, 1, 0, 0, 0, 0, 0, []),
  (1052, none, .invokevirtual 139, 3, 259, 3, 2, 0, 0, []),
  (1055, none, .if_icmp .eq 103, 3, 1158, 0, 0, 0, 0, []),
  (1058, none, .iconst 0, 1, 0, 0, 0, 0, 0, []),
  (1059, none, .ireturn, 1, 1, 0, 0, 0, 0, []),
  (1060, none, .aload_n 1, 1, 1, 0, 0, 0, 0, []),
  (1061, none, .aload_n 0, 1, 0, 0, 0, 0, 0, []),
  (1062, none, .iload_n 3, 1, 3, 0, 0, 0, 0, []),
  (1063, none, .iconst 1, 1, 0, 0, 0, 0, 0, []),
  (1064, none, .iadd, 1, 0, 0, 0, 0, 0, []),
  (1065, none, .iaload, 1, 0, 0, 0, 0, 0, []),
  (1066, none, .invokevirtual 140, 3, 139, 2, 2, 0, 0, []),
  (1069, none, .aload_n 2, 1, 2, 0, 0, 0, 0, []),
  (1070, none, .aload_n 0, 1, 0, 0, 0, 0, 0, []),
  (1071, none, .iload_n 3, 1, 3, 0, 0, 0, 0, []),
  (1072, none, .iconst 1, 1, 0, 0, 0, 0, 0, []),
  (1073, none, .iadd, 1, 0, 0, 0, 0, 0, []),
  (1074, none, .iaload, 1, 0, 0, 0, 0, 0, []),
  (1075, none, .invokevirtual 143, 3, 261, 2, 2, 0, 0, []),
  (1078, none, .if_icmp .eq 80, 3, 1158, 0, 0, 0, 0, []),
  (1081, none, .iconst 0, 1, 0, 0, 0, 0, 0, []),
  (1082, none, .ireturn, 1, 1, 0, 0, 0, 0, []),
  (1083, none, .aload_n 1, 1, 1, 0, 0, 0, 0, []),
  (1084, none, .invokevirtual 144, 3, 140, 1, 2, 0, 0, []),
  (1087, none, .aload_n 2, 1, 2, 0, 0, 0, 0, []),
  (1088, none, .invokevirtual 148, 3, 207, 1, 2, 0, 0, []),
  (1091, none, .if_icmp .eq 67, 3, 1158, 0, 0, 0, 0, []),
  (1094, none, .iconst 0, 1, 0, 0, 0, 0, 0, []),
  (1095, none, .ireturn, 1, 1, 0, 0, 0, 0, []),
  (1096, none, .aload_n 1, 1, 1, 0, 0, 0, 0, []),
  (1097, none, .aload_n 0, 1, 0, 0, 0, 0, 0, []),
  (1098, none, .iload_n 3, 1, 3, 0, 0, 0, 0, []),
  (1099, none, .iconst 1, 1, 0, 0, 0, 0, 0, []),
  (1100, none, .iadd, 1, 0, 0, 0, 0, 0, []),
  (1101, none, .iaload, 1, 0, 0, 0, 0, 0, []),
  (1102, none, .ifCond .eq 7, 3, 1109, 0, 0, 0, 0, []),
  (1105, none, .iconst 1, 1, 0, 0, 0, 0, 0, []),
  (1106, none, .goto 4, 3, 1110, 0, 0, 0, 0, []),
  (1109, none, .iconst 0, 1, 0, 0, 0, 0, 0, []),
  (1110, none, .invokevirtual 149, 3, 141, 2, 2, 0, 0, []),
  (1113, none, .aload_n 2, 1, 2, 0, 0, 0, 0, []),
  (1114, none, .aload_n 0, 1, 0, 0, 0, 0, 0, []),
  (1115, none, .iload_n 3, 1, 3, 0, 0, 0, 0, []),
  (1116, none, .iconst 1, 1, 0, 0, 0, 0, 0, []),
  (1117, none, .iadd, 1, 0, 0, 0, 0, 0, []),
  (1118, none, .iaload, 1, 0, 0, 0, 0, 0, []),
  (1119, none, .ifCond .eq 7, 3, 1126, 0, 0, 0, 0, []),
  (1122, none, .iconst 1, 1, 0, 0, 0, 0, 0, []),
  (1123, none, .goto 4, 3, 1127, 0, 0, 0, 0, []),
  (1126, none, .iconst 0, 1, 0, 0, 0, 0, 0, []),
  (1127, none, .invokevirtual 153, 3, 262, 2, 2, 0, 0, []),
  (1130, none, .if_icmp .eq 28, 3, 1158, 0, 0, 0, 0, []),
  (1133, none, .iconst 0, 1, 0, 0, 0, 0, 0, []),
  (1134, none, .ireturn, 1, 1, 0, 0, 0, 0, []),
  (1135, none, .aload_n 1, 1, 1, 0, 0, 0, 0, []),
  (1136, none, .aload_n 0, 1, 0, 0, 0, 0, 0, []),
  (1137, none, .iload_n 3, 1, 3, 0, 0, 0, 0, []),
  (1138, none, .iconst 1, 1, 0, 0, 0, 0, 0, []),
  (1139, none, .iadd, 1, 0, 0, 0, 0, 0, []),
  (1140, none, .iaload, 1, 0, 0, 0, 0, 0, []),
  (1141, none, .invokevirtual 154, 3, 142, 2, 2, 0, 0, []),
  (1144, none, .aload_n 2, 1, 2, 0, 0, 0, 0, []),
  (1145, none, .aload_n 0, 1, 0, 0, 0, 0, 0, []),
  (1146, none, .iload_n 3, 1, 3, 0, 0, 0, 0, []),
  (1147, none, .iconst 1, 1, 0, 0, 0, 0, 0, []),
  (1148, none, .iadd, 1, 0, 0, 0, 0, 0, []),
  (1149, none, .iaload, 1, 0, 0, 0, 0, 0, []),
  (1150, none, .invokevirtual 157, 3, 263, 2, 2, 0, 0, []),
  (1153, none, .if_icmp .eq 5, 3, 1158, 0, 0, 0, 0, []),
  (1156, none, .iconst 0, 1, 0, 0, 0, 0, 0, []),
  (1157, none, .ireturn, 1, 1, 0, 0, 0, 0, []),
  (1158, some [true, true, true, true], .iinc 3 6, 3, 3, 0, 0, 0, 0, []),
  (1161, none, .goto (-1143), 3, 18, 0, 0, 0, 0, []),
  (1164, none, .iconst 1, 1, 0, 0, 0, 0, 0, []),
  (1165, none, .ireturn, 1, 1, 0, 0, 0, 0, [])]
noncomputable def aCodes : List (Nat × List aE) := [(1, K_acts_forget), (4, K_acts_keep), (4, K_acts_goBack), (6, K_labour_takeTurns), (3, K_labour_lengthOf), (5, K_labour_spotBehind), (4, K_labour_lastSpot), (7, K_labour_bestSpot), (2, K_labour_daysOf), (3, K_labour_deerOf), (2, K_law_emit), (6, K_law_tell), (3, K_law_held), (2, K_law_unsaid), (7, K_law_value), (3, K_law_joined), (1, K_law_clear), (2, K_law_copyFrom), (2, K_ord_howMany), (1, K_ord_herdSize), (5, K_ord_learn), (3, K_ord_canFollow), (5, K_ord_countUpTo), (5, K_ord_countBehind), (7, K_ord_countCouples), (9, K_ord_asks), (8, K_ord_placeOfFirst), (4, K_ord_leastToFollow), (6, K_rd_read), (1, K_rd_wordsOf), (2, K_rd_step), (2, K_rd_fail), (2, K_rd_take), (4, K_rd_takeNumber), (5, K_rd_planLine), (5, K_rd_dueLine), (3, K_rd_feastLine), (4, K_rd_lawLine), (4, K_rd_expression), (2, K_rd_operand), (4, K_rd_condition), (2, K_rd_openOne), (2, K_rd_comparison), (2, K_rd_goOnBehind), (2, K_rd_hold), (1, K_rd_lastWaiting), (1, K_rd_closeNots), (2, K_rd_joinDownTo), (2, K_rows_has), (4, K_rows_cell), (6, K_rows_put), (4, K_rows_tell), (3, K_rows_copyFrom), (3, K_tape_append), (6, K_tape_split), (2, K_tape_byteAt), (4, K_tape_addToken), (4, K_tape_behindRun), (5, K_tape_numberOf), (7, K_tape_wordToken), (7, K_tape_startsAt), (1, K_tape_isLetter), (1, K_tape_isDigit), (4, K_th_movedDays), (6, K_th_movedTo), (4, K_th_firstWay), (8, K_th_weighDay), (6, K_th_offerDay), (5, K_th_leastWatch), (3, K_th_watchesAll), (4, K_th_waysToHaveEaten), (6, K_th_waysFrom), (4, K_th_sureCouples), (4, K_th_nearestHour), (5, K_th_farness), (3, K_th_saltedSum), (7, K_th_saltGiven), (5, K_th_fewest), (4, K_th_giveSalts), (6, K_th_askGains), (6, K_th_addGains), (3, K_th_antlersOf), (5, K_th_antlersTaken), (2, K_wood_has), (2, K_wood_isAlive), (2, K_wood_isPaid), (4, K_wood_enter), (2, K_wood_draw), (3, K_wood_putFacts), (5, K_wood_bring), (3, K_wood_leastCalm), (6, K_wood_nearestTo), (4, K_wood_aliveWithMark), (2, K_wood_copyFrom), (3, K_world_asked), (3, K_world_comeWithSalt), (2, K_world_askComes), (1, K_world_likeliestDeer), (3, K_world_greatestCome), (2, K_world_likelihood), (3, K_world_eatOrFree), (5, K_world_passDay), (2, K_world_followPlan), (3, K_world_followLine), (1, K_world_dreamtDeer), (3, K_world_drawnDeer), (3, K_world_payDues), (2, K_world_sendWolves), (2, K_world_copyFrom), (3, K_x_state), (3, K_x_deer), (5, K_x_set), (3, K_x_eat), (4, K_x_days), (3, K_x_waitFor), (6, K_x_feed), (2, K_x_end), (3, K_x_text), (2, K_x_fault), (4, K_x_of), (3, K_x_due), (3, K_x_book), (4, K_x_next), (1, K_x_likeliest), (4, K_x_goes), (3, K_x_reads), (4, K_x_seen), (2, K_x_orders), (2, K_x_moves), (2, K_x_work), (2, K_x_works), (3, K_x_gate), (3, K_x_watch), (3, K_x_ate), (3, K_x_ways), (2, K_x_vote), (3, K_x_votes), (3, K_x_salts), (4, K_x_nods), (3, K_x_game), (1, K_x_undo), (2, K_x_image), (3, K_x_look), (2, K_x_within), (4, K_x_setWood), (5, K_x_setDeer), (2, K_x_takeText), (5, K_x_likelyWithin), (3, K_m_isIn), (2, K_m_lesser), (2, K_m_greater), (1, K_m_size), (2, K_m_isDeer), (2, K_m_isAlive), (3, K_m_count), (1, K_m_forgets), (3, K_m_state), (2, K_m_draw), (4, K_m_deer), (4, K_m_canSet), (2, K_m_placeOf), (4, K_m_set), (8, K_m_feed), (2, K_m_end), (2, K_m_see), (1, K_m_isLetter), (1, K_m_isDigit), (4, K_m_is), (1, K_m_asked), (1, K_m_lawWord), (1, K_m_planWord), (1, K_m_word), (3, K_m_next0), (2, K_m_bad), (2, K_m_need), (3, K_m_lay), (1, K_m_opens), (2, K_m_sumUp), (3, K_m_product), (2, K_m_unit), (1, K_m_any), (1, K_m_every), (2, K_m_oneTest), (1, K_m_aLine), (2, K_m_readsLaw), (4, K_m_number), (5, K_m_told), (3, K_m_aPlan), (2, K_m_aDue), (1, K_m_aFeast), (1, K_m_aRow), (3, K_m_readsRows), (2, K_m_putsLaw), (5, K_m_puts), (2, K_m_putsText), (3, K_m_text), (2, K_m_fault), (3, K_m_both), (8, K_m_comesTo), (2, K_m_isSo), (6, K_m_says), (2, K_m_comeOf), (2, K_m_longOf), (2, K_m_shyOf), (3, K_m_sumOfCome), (3, K_m_likeliestOne), (2, K_m_keeps), (2, K_m_undo), (5, K_m_notes), (3, K_m_eats), (3, K_m_eat), (3, K_m_does), (4, K_m_byDraw), (2, K_m_dawns), (5, K_m_comes), (3, K_m_pays), (3, K_m_wolves), (2, K_m_aDay), (4, K_m_days), (3, K_m_waitFor), (3, K_m_of), (3, K_m_due), (3, K_m_book), (3, K_m_nextOf), (8, K_m_next), (1, K_m_likeliest), (5, K_m_goes), (7, K_m_reads), (3, K_m_seen), (2, K_m_laysAhead), (4, K_m_laysOrders), (5, K_m_waysWith), (7, K_m_bestCouple), (5, K_m_firstOrder), (3, K_m_orders), (3, K_m_canLie), (6, K_m_laysFeasts), (5, K_m_moves), (2, K_m_work), (5, K_m_laysHerd), (5, K_m_behind), (3, K_m_inOrder), (3, K_m_bestOrder), (4, K_m_works), (1, K_m_isGate), (3, K_m_gate), (3, K_m_watches), (4, K_m_watch), (3, K_m_ate), (2, K_m_laysAte), (5, K_m_waysFrom), (6, K_m_sureOnes), (3, K_m_ways), (2, K_m_vote), (4, K_m_farFrom), (4, K_m_votes), (7, K_m_laysSalt), (6, K_m_salts), (4, K_m_marked), (3, K_m_nods), (2, K_m_heapOf), (5, K_m_game), (3, K_m_image), (2, K_m_look), (1, K_ji_bitCount), (3, K_jm_floorMod), (1, K_js_length), (2, K_js_charAt), (2, K_js_indexOf4), (3, K_js_indexOf5), (1, K_js_coder), (1, K_js_isLatin1), (2, K_js_checkIndex), (2, K_jl_charAt), (1, K_jl_canEncode), (4, K_jl_indexOf), (6, K_jl_indexOfChar), (5, K_ja_fillJ), (4, K_ja_fillI), (3, K_jp_checkIndex), (4, K_lw_law)]
def aLkC : List (Nat × List aE) → Nat → Nat × List aE
  | [], _ => (0, [])
  | x :: _, 0 => x
  | _ :: l, n + 1 => aLkC l n
def aInit : Nat → List aV → aL
  | 0, _ => []
  | n + 1, [] => none :: aInit n []
  | n + 1, .inr (.inl x) :: l => some (aJ x) :: (match n with | 0 => [] | k + 1 => none :: aInit k l)
  | n + 1, v :: l => some v :: aInit n l
noncomputable def aSem (d : Nat) : aO :=
  Nat.rec (motive := fun _ => aO) (fun _ _ _ => none) (fun _ ih y args M => aOm ih (aLkC aCodes y).2 0 (aInit (aLkC aCodes y).1 args) [] M) d

noncomputable def w_acts_forget (d : Nat)  (M : aM) : aR := aSem d 0 [aQ 0 94] M
noncomputable def w_acts_keep (d : Nat) (a1 : Nat) (M : aM) : aR := aSem d 1 [aQ 0 94, aQ 9 a1] M
noncomputable def w_acts_goBack (d : Nat) (a1 : Nat) (M : aM) : aR := aSem d 2 [aQ 0 94, aQ 9 a1] M
noncomputable def w_labour_takeTurns (d : Nat) (a1 : Nat) (M : aM) : aR := aSem d 3 [aQ 1 146, aQ 9 a1] M
noncomputable def w_labour_takeTurns_15 (d : Nat) (a1 : Nat) (v2 : Int) (v3 : Int) (v4 : Int) (M : aM) : aR := aOm (aSem d) K_labour_takeTurns 15 [some (aQ 1 146), some (aQ 9 a1), some (aI v2), some (aI v3), some (aI v4), none] [] M
noncomputable def w_labour_takeTurns_110 (d : Nat) (a1 : Nat) (v3 : Int) (v4 : Int) (M : aM) : aR := aOm (aSem d) K_labour_takeTurns 110 [some (aQ 1 146), some (aQ 9 a1), none, some (aI v3), some (aI v4), none] [] M
noncomputable def w_labour_lengthOf (d : Nat) (v1 : Int) (M : aM) : aR := aSem d 4 [aQ 1 146, aI v1] M
noncomputable def w_labour_spotBehind (d : Nat) (v1 : Int) (v2 : Int) (M : aM) : aR := aSem d 5 [aQ 1 146, aI v1, aI v2] M
noncomputable def w_labour_spotBehind_26 (d : Nat) (v1 : Int) (v2 : Int) (v3 : Int) (v4 : Int) (M : aM) : aR := aOm (aSem d) K_labour_spotBehind 26 [some (aQ 1 146), some (aI v1), some (aI v2), some (aI v3), some (aI v4)] [] M
noncomputable def w_labour_lastSpot (d : Nat) (a1 : Nat) (M : aM) : aR := aSem d 6 [aQ 1 146, aQ 5 a1] M
noncomputable def w_labour_lastSpot_4 (d : Nat) (a1 : Nat) (v2 : Int) (v3 : Int) (M : aM) : aR := aOm (aSem d) K_labour_lastSpot 4 [some (aQ 1 146), some (aQ 5 a1), some (aI v2), some (aI v3)] [] M
noncomputable def w_labour_bestSpot (d : Nat) (a1 : Nat) (M : aM) : aR := aSem d 7 [aQ 1 146, aQ 5 a1] M
noncomputable def w_labour_bestSpot_23 (d : Nat) (a1 : Nat) (v2 : Int) (v3 : Int) (M : aM) : aR := aOm (aSem d) K_labour_bestSpot 23 [some (aQ 1 146), some (aQ 5 a1), some (aI v2), some (aI v3), none, none, none] [] M
noncomputable def w_labour_bestSpot_36 (d : Nat) (a1 : Nat) (v2 : Int) (v3 : Int) (v4 : Int) (v5 : Int) (M : aM) : aR := aOm (aSem d) K_labour_bestSpot 36 [some (aQ 1 146), some (aQ 5 a1), some (aI v2), some (aI v3), some (aI v4), some (aI v5), none] [] M
noncomputable def w_labour_daysOf (d : Nat) (v1 : Int) (M : aM) : aR := aSem d 8 [aQ 1 146, aI v1] M
noncomputable def w_labour_deerOf (d : Nat) (v1 : Int) (M : aM) : aR := aSem d 9 [aQ 1 146, aI v1] M
noncomputable def w_law_emit (d : Nat) (a0 : Nat) (v1 : Int) (M : aM) : aR := aSem d 10 [aQ 2 a0, aI v1] M
noncomputable def w_law_tell (d : Nat) (a0 : Nat) (v1 : Int) (a2 : Nat) (M : aM) : aR := aSem d 11 [aQ 2 a0, aI v1, aQ 20 a2] M
noncomputable def w_law_tell_2 (d : Nat) (a0 : Nat) (v1 : Int) (a2 : Nat) (v3 : Int) (M : aM) : aR := aOm (aSem d) K_law_tell 2 [some (aQ 2 a0), some (aI v1), some (aQ 20 a2), some (aI v3), none, none] [] M
noncomputable def w_law_held (d : Nat) (v0 : Int) (v1 : Int) (M : aM) : aR := aSem d 12 [aI v0, aI v1] M
noncomputable def w_law_unsaid (d : Nat) (v0 : Int) (a1 : Nat) (M : aM) : aR := aSem d 13 [aI v0, aQ 20 a1] M
noncomputable def w_law_value (d : Nat) (a0 : Nat) (v1 : Int) (v2 : Int) (a3 : Nat) (M : aM) : aR := aSem d 14 [aQ 2 a0, aI v1, aI v2, aQ 20 a3] M
noncomputable def w_law_value_10 (d : Nat) (a0 : Nat) (v2 : Int) (a3 : Nat) (v4 : Int) (v5 : Int) (M : aM) : aR := aOm (aSem d) K_law_value 10 [some (aQ 2 a0), none, some (aI v2), some (aQ 20 a3), some (aI v4), some (aI v5), none] [] M
noncomputable def w_law_joined (d : Nat) (v0 : Int) (v1 : Int) (v2 : Int) (M : aM) : aR := aSem d 15 [aI v0, aI v1, aI v2] M
noncomputable def w_law_clear (d : Nat) (a0 : Nat) (M : aM) : aR := aSem d 16 [aQ 2 a0] M
noncomputable def w_law_copyFrom (d : Nat) (a0 : Nat) (a1 : Nat) (M : aM) : aR := aSem d 17 [aQ 2 a0, aQ 2 a1] M
noncomputable def w_ord_howMany (d : Nat) (a1 : Nat) (M : aM) : aR := aSem d 18 [aQ 3 141, aQ 9 a1] M
noncomputable def w_ord_herdSize (d : Nat) (a0 : Nat) (M : aM) : aR := aSem d 19 [aQ 9 a0] M
noncomputable def w_ord_learn (d : Nat) (a1 : Nat) (M : aM) : aR := aSem d 20 [aQ 3 141, aQ 9 a1] M
noncomputable def w_ord_learn_10 (d : Nat) (a1 : Nat) (v2 : Int) (M : aM) : aR := aOm (aSem d) K_ord_learn 10 [some (aQ 3 141), some (aQ 9 a1), some (aI v2), none, none] [] M
noncomputable def w_ord_canFollow (d : Nat) (v1 : Int) (v2 : Int) (M : aM) : aR := aSem d 21 [aQ 3 141, aI v1, aI v2] M
noncomputable def w_ord_countUpTo (d : Nat) (v1 : Int) (M : aM) : aR := aSem d 22 [aQ 3 141, aI v1] M
noncomputable def w_ord_countUpTo_23 (d : Nat) (v1 : Int) (v2 : Int) (v3 : Int) (M : aM) : aR := aOm (aSem d) K_ord_countUpTo 23 [some (aQ 3 141), some (aI v1), some (aI v2), some (aI v3), none] [] M
noncomputable def w_ord_countUpTo_31 (d : Nat) (v1 : Int) (v2 : Int) (v3 : Int) (v4 : Int) (M : aM) : aR := aOm (aSem d) K_ord_countUpTo 31 [some (aQ 3 141), some (aI v1), some (aI v2), some (aI v3), some (aI v4)] [] M
noncomputable def w_ord_countBehind (d : Nat) (v1 : Int) (M : aM) : aR := aSem d 23 [aQ 3 141, aI v1] M
noncomputable def w_ord_countBehind_25 (d : Nat) (v1 : Int) (v3 : Int) (M : aM) : aR := aOm (aSem d) K_ord_countBehind 25 [some (aQ 3 141), some (aI v1), none, some (aI v3), none] [] M
noncomputable def w_ord_countBehind_32 (d : Nat) (v1 : Int) (v3 : Int) (v4 : Int) (M : aM) : aR := aOm (aSem d) K_ord_countBehind 32 [some (aQ 3 141), some (aI v1), none, some (aI v3), some (aI v4)] [] M
noncomputable def w_ord_countCouples (d : Nat) (v1 : Int) (M : aM) : aR := aSem d 24 [aQ 3 141, aI v1] M
noncomputable def w_ord_countCouples_16 (d : Nat) (v1 : Int) (v2 : Int) (v3 : Int) (M : aM) : aR := aOm (aSem d) K_ord_countCouples 16 [some (aQ 3 141), some (aI v1), some (aI v2), some (aI v3), none, none, none] [] M
noncomputable def w_ord_countCouples_24 (d : Nat) (v1 : Int) (v2 : Int) (v3 : Int) (v4 : Int) (M : aM) : aR := aOm (aSem d) K_ord_countCouples 24 [some (aQ 3 141), some (aI v1), some (aI v2), some (aI v3), some (aI v4), none, none] [] M
noncomputable def w_ord_countCouples_76 (d : Nat) (v1 : Int) (v2 : Int) (v3 : Int) (v4 : Int) (v5 : Int) (v6 : Int) (M : aM) : aR := aOm (aSem d) K_ord_countCouples 76 [some (aQ 3 141), some (aI v1), some (aI v2), some (aI v3), some (aI v4), some (aI v5), some (aI v6)] [] M
noncomputable def w_ord_asks (d : Nat) (a1 : Nat) (v2 : Int) (M : aM) : aR := aSem d 25 [aQ 3 141, aQ 9 a1, aI v2] M
noncomputable def w_ord_asks_40 (d : Nat) (v2 : Int) (v3 : Int) (v4 : Int) (v5 : Int) (v6 : Int) (M : aM) : aR := aOm (aSem d) K_ord_asks 40 [some (aQ 3 141), none, some (aI v2), some (aI v3), some (aI v4), some (aI v5), some (aI v6), none, none] [] M
noncomputable def w_ord_asks_52 (d : Nat) (v2 : Int) (v3 : Int) (v4 : Int) (v5 : Int) (v6 : Int) (v7 : Int) (M : aM) : aR := aOm (aSem d) K_ord_asks 52 [some (aQ 3 141), none, some (aI v2), some (aI v3), some (aI v4), some (aI v5), some (aI v6), some (aI v7), none] [] M
noncomputable def w_ord_placeOfFirst (d : Nat) (a1 : Nat) (v2 : Int) (M : aM) : aR := aSem d 26 [aQ 3 141, aQ 9 a1, aI v2] M
noncomputable def w_ord_placeOfFirst_19 (d : Nat) (v2 : Int) (v3 : Int) (v4 : Int) (v5 : Int) (v6 : Int) (M : aM) : aR := aOm (aSem d) K_ord_placeOfFirst 19 [some (aQ 3 141), none, some (aI v2), some (aI v3), some (aI v4), some (aI v5), some (aI v6), none] [] M
noncomputable def w_ord_leastToFollow (d : Nat) (v1 : Int) (v2 : Int) (M : aM) : aR := aSem d 27 [aQ 3 141, aI v1, aI v2] M
noncomputable def w_ord_leastToFollow_2 (d : Nat) (v1 : Int) (v2 : Int) (v3 : Int) (M : aM) : aR := aOm (aSem d) K_ord_leastToFollow 2 [some (aQ 3 141), some (aI v1), some (aI v2), some (aI v3)] [] M
noncomputable def w_rd_read (d : Nat) (v1 : Int) (v2 : Int) (M : aM) : aR := aSem d 28 [aQ 4 132, aI v1, aI v2] M
noncomputable def w_rd_read_72 (d : Nat) (v1 : Int) (v2 : Int) (v3 : Int) (v4 : Int) (M : aM) : aR := aOm (aSem d) K_rd_read 72 [some (aQ 4 132), some (aI v1), some (aI v2), some (aI v3), some (aI v4), none] [] M
noncomputable def w_rd_read_186 (d : Nat) (v1 : Int) (v2 : Int) (v3 : Int) (v4 : Int) (M : aM) : aR := aOm (aSem d) K_rd_read 186 [some (aQ 4 132), some (aI v1), some (aI v2), some (aI v3), some (aI v4), none] [] M
noncomputable def w_rd_wordsOf (d : Nat) (v0 : Int) (M : aM) : aR := aSem d 29 [aI v0] M
noncomputable def w_rd_step (d : Nat)  (M : aM) : aR := aSem d 30 [aQ 4 132] M
noncomputable def w_rd_step_45 (d : Nat)  (M : aM) : aR := aOm (aSem d) K_rd_step 45 [some (aQ 4 132), none] [] M
noncomputable def w_rd_fail (d : Nat) (v1 : Int) (M : aM) : aR := aSem d 31 [aQ 4 132, aI v1] M
noncomputable def w_rd_take (d : Nat) (v1 : Int) (M : aM) : aR := aSem d 32 [aQ 4 132, aI v1] M
noncomputable def w_rd_takeNumber (d : Nat) (v1 : Int) (v2 : Int) (M : aM) : aR := aSem d 33 [aQ 4 132, aI v1, aI v2] M
noncomputable def w_rd_planLine (d : Nat) (v1 : Int) (M : aM) : aR := aSem d 34 [aQ 4 132, aI v1] M
noncomputable def w_rd_planLine_47 (d : Nat) (v1 : Int) (v2 : Int) (v3 : Int) (v4 : Int) (M : aM) : aR := aOm (aSem d) K_rd_planLine 47 [some (aQ 4 132), some (aI v1), some (aI v2), some (aI v3), some (aI v4)] [] M
noncomputable def w_rd_planLine_96 (d : Nat) (v2 : Int) (v3 : Int) (v4 : Int) (M : aM) : aR := aOm (aSem d) K_rd_planLine 96 [some (aQ 4 132), none, some (aI v2), some (aI v3), some (aI v4)] [] M
noncomputable def w_rd_dueLine (d : Nat) (v1 : Int) (M : aM) : aR := aSem d 35 [aQ 4 132, aI v1] M
noncomputable def w_rd_feastLine (d : Nat)  (M : aM) : aR := aSem d 36 [aQ 4 132] M
noncomputable def w_rd_lawLine (d : Nat) (v1 : Int) (M : aM) : aR := aSem d 37 [aQ 4 132, aI v1] M
noncomputable def w_rd_lawLine_49 (d : Nat) (v1 : Int) (v2 : Int) (v3 : Int) (M : aM) : aR := aOm (aSem d) K_rd_lawLine 49 [some (aQ 4 132), some (aI v1), some (aI v2), some (aI v3)] [] M
noncomputable def w_rd_expression (d : Nat)  (M : aM) : aR := aSem d 38 [aQ 4 132] M
noncomputable def w_rd_expression_8 (d : Nat) (v1 : Int) (v2 : Int) (M : aM) : aR := aOm (aSem d) K_rd_expression 8 [some (aQ 4 132), some (aI v1), some (aI v2), none] [] M
noncomputable def w_rd_expression_115 (d : Nat) (v2 : Int) (v3 : Int) (M : aM) : aR := aOm (aSem d) K_rd_expression 115 [some (aQ 4 132), none, some (aI v2), some (aI v3)] [] M
noncomputable def w_rd_operand (d : Nat)  (M : aM) : aR := aSem d 39 [aQ 4 132] M
noncomputable def w_rd_condition (d : Nat)  (M : aM) : aR := aSem d 40 [aQ 4 132] M
noncomputable def w_rd_condition_19 (d : Nat) (v1 : Int) (v2 : Int) (M : aM) : aR := aOm (aSem d) K_rd_condition 19 [some (aQ 4 132), some (aI v1), some (aI v2), none] [] M
noncomputable def w_rd_openOne (d : Nat) (v1 : Int) (M : aM) : aR := aSem d 41 [aQ 4 132, aI v1] M
noncomputable def w_rd_comparison (d : Nat)  (M : aM) : aR := aSem d 42 [aQ 4 132] M
noncomputable def w_rd_comparison_39 (d : Nat) (v1 : Int) (M : aM) : aR := aOm (aSem d) K_rd_comparison 39 [some (aQ 4 132), some (aI v1)] [] M
noncomputable def w_rd_goOnBehind (d : Nat)  (M : aM) : aR := aSem d 43 [aQ 4 132] M
noncomputable def w_rd_goOnBehind_6 (d : Nat) (v1 : Int) (M : aM) : aR := aOm (aSem d) K_rd_goOnBehind 6 [some (aQ 4 132), some (aI v1)] [] M
noncomputable def w_rd_goOnBehind_79 (d : Nat)  (M : aM) : aR := aOm (aSem d) K_rd_goOnBehind 79 [some (aQ 4 132), none] [] M
noncomputable def w_rd_hold (d : Nat) (v1 : Int) (M : aM) : aR := aSem d 44 [aQ 4 132, aI v1] M
noncomputable def w_rd_lastWaiting (d : Nat)  (M : aM) : aR := aSem d 45 [aQ 4 132] M
noncomputable def w_rd_closeNots (d : Nat)  (M : aM) : aR := aSem d 46 [aQ 4 132] M
noncomputable def w_rd_closeNots_0 (d : Nat)  (M : aM) : aR := aOm (aSem d) K_rd_closeNots 0 [some (aQ 4 132)] [] M
noncomputable def w_rd_joinDownTo (d : Nat) (v1 : Int) (M : aM) : aR := aSem d 47 [aQ 4 132, aI v1] M
noncomputable def w_rd_joinDownTo_34 (d : Nat) (v1 : Int) (M : aM) : aR := aOm (aSem d) K_rd_joinDownTo 34 [some (aQ 4 132), some (aI v1)] [] M
noncomputable def w_rd_joinDownTo_0 (d : Nat) (v1 : Int) (M : aM) : aR := aOm (aSem d) K_rd_joinDownTo 0 [some (aQ 4 132), some (aI v1)] [] M
noncomputable def w_rows_has (d : Nat) (a0 : Nat) (v1 : Int) (M : aM) : aR := aSem d 48 [aQ 5 a0, aI v1] M
noncomputable def w_rows_cell (d : Nat) (a0 : Nat) (v1 : Int) (v2 : Int) (M : aM) : aR := aSem d 49 [aQ 5 a0, aI v1, aI v2] M
noncomputable def w_rows_put (d : Nat) (a0 : Nat) (v1 : Int) (v2 : Int) (v3 : Int) (v4 : Int) (M : aM) : aR := aSem d 50 [aQ 5 a0, aI v1, aI v2, aI v3, aI v4] M
noncomputable def w_rows_tell (d : Nat) (a0 : Nat) (v1 : Int) (v2 : Int) (v3 : Int) (M : aM) : aR := aSem d 51 [aQ 5 a0, aI v1, aI v2, aI v3] M
noncomputable def w_rows_copyFrom (d : Nat) (a0 : Nat) (a1 : Nat) (M : aM) : aR := aSem d 52 [aQ 5 a0, aQ 5 a1] M
noncomputable def w_tape_append (d : Nat) (v1 : Int) (M : aM) : aR := aSem d 53 [aQ 6 127, aI v1] M
noncomputable def w_tape_append_3 (d : Nat) (v1 : Int) (v2 : Int) (M : aM) : aR := aOm (aSem d) K_tape_append 3 [some (aQ 6 127), some (aI v1), some (aI v2)] [] M
noncomputable def w_tape_split (d : Nat) (a1 : Nat) (M : aM) : aR := aSem d 54 [aQ 6 127, aQ 24 a1] M
noncomputable def w_tape_split_9 (d : Nat) (a1 : Nat) (v2 : Int) (v3 : Int) (M : aM) : aR := aOm (aSem d) K_tape_split 9 [some (aQ 6 127), some (aQ 24 a1), some (aI v2), some (aI v3), none, none] [] M
noncomputable def w_tape_split_150 (d : Nat) (a1 : Nat) (v3 : Int) (v5 : Int) (M : aM) : aR := aOm (aSem d) K_tape_split 150 [some (aQ 6 127), some (aQ 24 a1), none, some (aI v3), none, some (aI v5)] [] M
noncomputable def w_tape_byteAt (d : Nat) (v1 : Int) (M : aM) : aR := aSem d 55 [aQ 6 127, aI v1] M
noncomputable def w_tape_addToken (d : Nat) (v1 : Int) (v2 : Int) (v3 : Int) (M : aM) : aR := aSem d 56 [aQ 6 127, aI v1, aI v2, aI v3] M
noncomputable def w_tape_behindRun (d : Nat) (v1 : Int) (v2 : Int) (M : aM) : aR := aSem d 57 [aQ 6 127, aI v1, aI v2] M
noncomputable def w_tape_behindRun_2 (d : Nat) (v2 : Int) (v3 : Int) (M : aM) : aR := aOm (aSem d) K_tape_behindRun 2 [some (aQ 6 127), none, some (aI v2), some (aI v3)] [] M
noncomputable def w_tape_numberOf (d : Nat) (v1 : Int) (v2 : Int) (M : aM) : aR := aSem d 58 [aQ 6 127, aI v1, aI v2] M
noncomputable def w_tape_numberOf_5 (d : Nat) (v1 : Int) (v2 : Int) (v3 : Int) (v4 : Int) (M : aM) : aR := aOm (aSem d) K_tape_numberOf 5 [some (aQ 6 127), some (aI v1), some (aI v2), some (aI v3), some (aI v4)] [] M
noncomputable def w_tape_wordToken (d : Nat) (a1 : Nat) (v2 : Int) (v3 : Int) (M : aM) : aR := aSem d 59 [aQ 6 127, aQ 24 a1, aI v2, aI v3] M
noncomputable def w_tape_wordToken_9 (d : Nat) (a1 : Nat) (v2 : Int) (v3 : Int) (v4 : Int) (v5 : Int) (v6 : Int) (M : aM) : aR := aOm (aSem d) K_tape_wordToken 9 [some (aQ 6 127), some (aQ 24 a1), some (aI v2), some (aI v3), some (aI v4), some (aI v5), some (aI v6)] [] M
noncomputable def w_tape_wordToken_38 (d : Nat) (a1 : Nat) (v2 : Int) (v3 : Int) (v4 : Int) (v5 : Int) (v6 : Int) (M : aM) : aR := aOm (aSem d) K_tape_wordToken 38 [some (aQ 6 127), some (aQ 24 a1), some (aI v2), some (aI v3), some (aI v4), some (aI v5), some (aI v6)] [] M
noncomputable def w_tape_startsAt (d : Nat) (a1 : Nat) (v2 : Int) (v3 : Int) (v4 : Int) (M : aM) : aR := aSem d 60 [aQ 6 127, aQ 24 a1, aI v2, aI v3, aI v4] M
noncomputable def w_tape_startsAt_3 (d : Nat) (a1 : Nat) (v2 : Int) (v3 : Int) (v4 : Int) (v5 : Int) (M : aM) : aR := aOm (aSem d) K_tape_startsAt 3 [some (aQ 6 127), some (aQ 24 a1), some (aI v2), some (aI v3), some (aI v4), some (aI v5), none] [] M
noncomputable def w_tape_isLetter (d : Nat) (v0 : Int) (M : aM) : aR := aSem d 61 [aI v0] M
noncomputable def w_tape_isDigit (d : Nat) (v0 : Int) (M : aM) : aR := aSem d 62 [aI v0] M
noncomputable def w_th_movedDays (d : Nat) (a1 : Nat) (M : aM) : aR := aSem d 63 [aQ 7 150, aQ 5 a1] M
noncomputable def w_th_movedTo (d : Nat) (a1 : Nat) (v2 : Int) (M : aM) : aR := aSem d 64 [aQ 7 150, aQ 5 a1, aI v2] M
noncomputable def w_th_movedTo_20 (d : Nat) (v2 : Int) (v3 : Int) (v5 : Int) (M : aM) : aR := aOm (aSem d) K_th_movedTo 20 [none, none, some (aI v2), some (aJ v3), none, some (aI v5)] [] M
noncomputable def w_th_firstWay (d : Nat) (a1 : Nat) (M : aM) : aR := aSem d 65 [aQ 7 150, aQ 5 a1] M
noncomputable def w_th_firstWay_33 (d : Nat) (a1 : Nat) (v2 : Int) (v3 : Int) (M : aM) : aR := aOm (aSem d) K_th_firstWay 33 [some (aQ 7 150), some (aQ 5 a1), some (aI v2), some (aI v3)] [] M
noncomputable def w_th_weighDay (d : Nat) (a1 : Nat) (v2 : Int) (v3 : Int) (M : aM) : aR := aSem d 66 [aQ 7 150, aQ 5 a1, aI v2, aI v3] M
noncomputable def w_th_weighDay_8 (d : Nat) (a1 : Nat) (v2 : Int) (v3 : Int) (v4 : Int) (v6 : Int) (M : aM) : aR := aOm (aSem d) K_th_weighDay 8 [some (aQ 7 150), some (aQ 5 a1), some (aI v2), some (aI v3), some (aJ v4), none, some (aI v6), none] [] M
noncomputable def w_th_offerDay (d : Nat) (v1 : Int) (M : aM) : aR := aSem d 67 [aQ 7 150, aI v1] M
noncomputable def w_th_offerDay_6 (d : Nat) (v1 : Int) (v2 : Int) (M : aM) : aR := aOm (aSem d) K_th_offerDay 6 [some (aQ 7 150), some (aI v1), some (aI v2), none, none, none] [] M
noncomputable def w_th_offerDay_12 (d : Nat) (v1 : Int) (v2 : Int) (v3 : Int) (M : aM) : aR := aOm (aSem d) K_th_offerDay 12 [some (aQ 7 150), some (aI v1), some (aI v2), some (aI v3), none, none] [] M
noncomputable def w_th_leastWatch (d : Nat) (a1 : Nat) (M : aM) : aR := aSem d 68 [aQ 7 150, aQ 5 a1] M
noncomputable def w_th_leastWatch_9 (d : Nat) (a1 : Nat) (v2 : Int) (v3 : Int) (v4 : Int) (M : aM) : aR := aOm (aSem d) K_th_leastWatch 9 [none, some (aQ 5 a1), some (aI v2), some (aI v3), some (aI v4)] [] M
noncomputable def w_th_watchesAll (d : Nat) (a0 : Nat) (v1 : Int) (M : aM) : aR := aSem d 69 [aQ 5 a0, aI v1] M
noncomputable def w_th_watchesAll_2 (d : Nat) (a0 : Nat) (v1 : Int) (v2 : Int) (M : aM) : aR := aOm (aSem d) K_th_watchesAll 2 [some (aQ 5 a0), some (aI v1), some (aI v2)] [] M
noncomputable def w_th_waysToHaveEaten (d : Nat) (a1 : Nat) (M : aM) : aR := aSem d 70 [aQ 7 150, aQ 5 a1] M
noncomputable def w_th_waysToHaveEaten_18 (d : Nat) (a1 : Nat) (v2 : Int) (M : aM) : aR := aOm (aSem d) K_th_waysToHaveEaten 18 [some (aQ 7 150), some (aQ 5 a1), some (aI v2), none] [] M
noncomputable def w_th_waysFrom (d : Nat) (v1 : Int) (v2 : Int) (M : aM) : aR := aSem d 71 [aQ 7 150, aI v1, aI v2] M
noncomputable def w_th_waysFrom_35 (d : Nat) (v1 : Int) (v2 : Int) (v3 : Int) (v4 : Int) (M : aM) : aR := aOm (aSem d) K_th_waysFrom 35 [some (aQ 7 150), some (aI v1), some (aI v2), some (aI v3), some (aI v4), none] [] M
noncomputable def w_th_sureCouples (d : Nat) (v1 : Int) (M : aM) : aR := aSem d 72 [aQ 7 150, aI v1] M
noncomputable def w_th_sureCouples_4 (d : Nat) (v1 : Int) (v2 : Int) (v3 : Int) (M : aM) : aR := aOm (aSem d) K_th_sureCouples 4 [some (aQ 7 150), some (aI v1), some (aI v2), some (aI v3)] [] M
noncomputable def w_th_nearestHour (d : Nat) (a1 : Nat) (M : aM) : aR := aSem d 73 [aQ 7 150, aQ 5 a1] M
noncomputable def w_th_nearestHour_4 (d : Nat) (a1 : Nat) (v2 : Int) (v3 : Int) (M : aM) : aR := aOm (aSem d) K_th_nearestHour 4 [some (aQ 7 150), some (aQ 5 a1), some (aI v2), some (aI v3)] [] M
noncomputable def w_th_farness (d : Nat) (a1 : Nat) (v2 : Int) (M : aM) : aR := aSem d 74 [aQ 7 150, aQ 5 a1, aI v2] M
noncomputable def w_th_farness_5 (d : Nat) (a1 : Nat) (v2 : Int) (v3 : Int) (v4 : Int) (M : aM) : aR := aOm (aSem d) K_th_farness 5 [none, some (aQ 5 a1), some (aI v2), some (aI v3), some (aI v4)] [] M
noncomputable def w_th_saltedSum (d : Nat) (a1 : Nat) (v2 : Int) (M : aM) : aR := aSem d 75 [aQ 7 150, aQ 9 a1, aI v2] M
noncomputable def w_th_saltGiven (d : Nat) (a1 : Nat) (v2 : Int) (v3 : Int) (M : aM) : aR := aSem d 76 [aQ 7 150, aQ 9 a1, aI v2, aI v3] M
noncomputable def w_th_saltGiven_15 (d : Nat) (a1 : Nat) (v3 : Int) (v4 : Int) (v5 : Int) (v6 : Int) (M : aM) : aR := aOm (aSem d) K_th_saltGiven 15 [some (aQ 7 150), some (aQ 9 a1), none, some (aI v3), some (aI v4), some (aI v5), some (aI v6)] [] M
noncomputable def w_th_fewest (d : Nat) (v1 : Int) (v2 : Int) (M : aM) : aR := aSem d 77 [aQ 7 150, aI v1, aI v2] M
noncomputable def w_th_fewest_2 (d : Nat) (v1 : Int) (v2 : Int) (v3 : Int) (M : aM) : aR := aOm (aSem d) K_th_fewest 2 [some (aQ 7 150), some (aI v1), some (aI v2), some (aI v3), none] [] M
noncomputable def w_th_giveSalts (d : Nat) (a1 : Nat) (v2 : Int) (M : aM) : aR := aSem d 78 [aQ 7 150, aQ 9 a1, aI v2] M
noncomputable def w_th_giveSalts_21 (d : Nat) (a1 : Nat) (v2 : Int) (v3 : Int) (M : aM) : aR := aOm (aSem d) K_th_giveSalts 21 [some (aQ 7 150), some (aQ 9 a1), some (aI v2), some (aI v3)] [] M
noncomputable def w_th_askGains (d : Nat) (a1 : Nat) (v2 : Int) (v3 : Int) (M : aM) : aR := aSem d 79 [aQ 7 150, aQ 9 a1, aI v2, aI v3] M
noncomputable def w_th_askGains_3 (d : Nat) (a1 : Nat) (v2 : Int) (v3 : Int) (v4 : Int) (M : aM) : aR := aOm (aSem d) K_th_askGains 3 [some (aQ 7 150), some (aQ 9 a1), some (aI v2), some (aI v3), some (aI v4), none] [] M
noncomputable def w_th_addGains (d : Nat) (v1 : Int) (v2 : Int) (M : aM) : aR := aSem d 80 [aQ 7 150, aI v1, aI v2] M
noncomputable def w_th_addGains_2 (d : Nat) (v1 : Int) (v2 : Int) (v3 : Int) (M : aM) : aR := aOm (aSem d) K_th_addGains 2 [some (aQ 7 150), some (aI v1), some (aI v2), some (aI v3), none, none] [] M
noncomputable def w_th_addGains_16 (d : Nat) (v1 : Int) (v2 : Int) (v3 : Int) (v4 : Int) (M : aM) : aR := aOm (aSem d) K_th_addGains 16 [some (aQ 7 150), some (aI v1), some (aI v2), some (aI v3), some (aI v4), none] [] M
noncomputable def w_th_antlersOf (d : Nat) (a1 : Nat) (M : aM) : aR := aSem d 81 [aQ 7 150, aQ 8 a1] M
noncomputable def w_th_antlersOf_2 (d : Nat) (a1 : Nat) (v2 : Int) (M : aM) : aR := aOm (aSem d) K_th_antlersOf 2 [some (aQ 7 150), some (aQ 8 a1), some (aI v2)] [] M
noncomputable def w_th_antlersTaken (d : Nat) (a1 : Nat) (v2 : Int) (M : aM) : aR := aSem d 82 [aQ 7 150, aQ 8 a1, aI v2] M
noncomputable def w_th_antlersTaken_5 (d : Nat) (a1 : Nat) (v2 : Int) (v3 : Int) (v4 : Int) (M : aM) : aR := aOm (aSem d) K_th_antlersTaken 5 [none, some (aQ 8 a1), some (aI v2), some (aI v3), some (aI v4)] [] M
noncomputable def w_wood_has (d : Nat) (a0 : Nat) (v1 : Int) (M : aM) : aR := aSem d 83 [aQ 8 a0, aI v1] M
noncomputable def w_wood_isAlive (d : Nat) (a0 : Nat) (v1 : Int) (M : aM) : aR := aSem d 84 [aQ 8 a0, aI v1] M
noncomputable def w_wood_isPaid (d : Nat) (a0 : Nat) (v1 : Int) (M : aM) : aR := aSem d 85 [aQ 8 a0, aI v1] M
noncomputable def w_wood_enter (d : Nat) (a0 : Nat) (v1 : Int) (v2 : Int) (M : aM) : aR := aSem d 86 [aQ 8 a0, aI v1, aI v2] M
noncomputable def w_wood_draw (d : Nat) (a0 : Nat) (v1 : Int) (M : aM) : aR := aSem d 87 [aQ 8 a0, aI v1] M
noncomputable def w_wood_putFacts (d : Nat) (a0 : Nat) (v1 : Int) (a2 : Nat) (M : aM) : aR := aSem d 88 [aQ 8 a0, aI v1, aQ 20 a2] M
noncomputable def w_wood_bring (d : Nat) (a0 : Nat) (v1 : Int) (v2 : Int) (v3 : Int) (M : aM) : aR := aSem d 89 [aQ 8 a0, aI v1, aI v2, aI v3] M
noncomputable def w_wood_bring_3 (d : Nat) (a0 : Nat) (v1 : Int) (v2 : Int) (v3 : Int) (v4 : Int) (M : aM) : aR := aOm (aSem d) K_wood_bring 3 [some (aQ 8 a0), some (aI v1), some (aI v2), some (aI v3), some (aI v4)] [] M
noncomputable def w_wood_leastCalm (d : Nat) (a0 : Nat) (M : aM) : aR := aSem d 90 [aQ 8 a0] M
noncomputable def w_wood_leastCalm_4 (d : Nat) (a0 : Nat) (v1 : Int) (v2 : Int) (M : aM) : aR := aOm (aSem d) K_wood_leastCalm 4 [some (aQ 8 a0), some (aI v1), some (aI v2)] [] M
noncomputable def w_wood_nearestTo (d : Nat) (a0 : Nat) (v1 : Int) (M : aM) : aR := aSem d 91 [aQ 8 a0, aI v1] M
noncomputable def w_wood_nearestTo_17 (d : Nat) (a0 : Nat) (v1 : Int) (v2 : Int) (v3 : Int) (v4 : Int) (M : aM) : aR := aOm (aSem d) K_wood_nearestTo 17 [some (aQ 8 a0), some (aI v1), some (aI v2), some (aI v3), some (aI v4), none] [] M
noncomputable def w_wood_aliveWithMark (d : Nat) (a0 : Nat) (v1 : Int) (M : aM) : aR := aSem d 92 [aQ 8 a0, aI v1] M
noncomputable def w_wood_aliveWithMark_4 (d : Nat) (a0 : Nat) (v1 : Int) (v2 : Int) (v3 : Int) (M : aM) : aR := aOm (aSem d) K_wood_aliveWithMark 4 [some (aQ 8 a0), some (aI v1), some (aI v2), some (aI v3)] [] M
noncomputable def w_wood_copyFrom (d : Nat) (a0 : Nat) (a1 : Nat) (M : aM) : aR := aSem d 93 [aQ 8 a0, aQ 8 a1] M
noncomputable def w_world_asked (d : Nat) (a0 : Nat) (v1 : Int) (v2 : Int) (M : aM) : aR := aSem d 94 [aQ 9 a0, aI v1, aI v2] M
noncomputable def w_world_comeWithSalt (d : Nat) (a0 : Nat) (v1 : Int) (v2 : Int) (M : aM) : aR := aSem d 95 [aQ 9 a0, aI v1, aI v2] M
noncomputable def w_world_askComes (d : Nat) (a0 : Nat) (M : aM) : aR := aSem d 96 [aQ 9 a0] M
noncomputable def w_world_askComes_7 (d : Nat) (a0 : Nat) (v1 : Int) (M : aM) : aR := aOm (aSem d) K_world_askComes 7 [some (aQ 9 a0), some (aI v1)] [] M
noncomputable def w_world_likeliestDeer (d : Nat) (a0 : Nat) (M : aM) : aR := aSem d 97 [aQ 9 a0] M
noncomputable def w_world_greatestCome (d : Nat) (a0 : Nat) (M : aM) : aR := aSem d 98 [aQ 9 a0] M
noncomputable def w_world_greatestCome_4 (d : Nat) (a0 : Nat) (v1 : Int) (v2 : Int) (M : aM) : aR := aOm (aSem d) K_world_greatestCome 4 [some (aQ 9 a0), some (aI v1), some (aI v2)] [] M
noncomputable def w_world_likelihood (d : Nat) (a0 : Nat) (v1 : Int) (M : aM) : aR := aSem d 99 [aQ 9 a0, aI v1] M
noncomputable def w_world_eatOrFree (d : Nat) (a0 : Nat) (v1 : Int) (v2 : Int) (M : aM) : aR := aSem d 100 [aQ 9 a0, aI v1, aI v2] M
noncomputable def w_world_passDay (d : Nat) (a0 : Nat) (v1 : Int) (M : aM) : aR := aSem d 101 [aQ 9 a0, aI v1] M
noncomputable def w_world_passDay_116 (d : Nat) (a0 : Nat) (v2 : Int) (M : aM) : aR := aOm (aSem d) K_world_passDay 116 [some (aQ 9 a0), none, some (aI v2), none, none] [] M
noncomputable def w_world_followPlan (d : Nat) (a0 : Nat) (M : aM) : aR := aSem d 102 [aQ 9 a0] M
noncomputable def w_world_followPlan_2 (d : Nat) (a0 : Nat) (v1 : Int) (M : aM) : aR := aOm (aSem d) K_world_followPlan 2 [some (aQ 9 a0), some (aI v1)] [] M
noncomputable def w_world_followLine (d : Nat) (a0 : Nat) (v1 : Int) (v2 : Int) (M : aM) : aR := aSem d 103 [aQ 9 a0, aI v1, aI v2] M
noncomputable def w_world_dreamtDeer (d : Nat) (a0 : Nat) (M : aM) : aR := aSem d 104 [aQ 9 a0] M
noncomputable def w_world_drawnDeer (d : Nat) (a0 : Nat) (M : aM) : aR := aSem d 105 [aQ 9 a0] M
noncomputable def w_world_drawnDeer_53 (d : Nat) (a0 : Nat) (v1 : Int) (v2 : Int) (M : aM) : aR := aOm (aSem d) K_world_drawnDeer 53 [some (aQ 9 a0), some (aI v1), some (aI v2)] [] M
noncomputable def w_world_payDues (d : Nat) (a0 : Nat) (M : aM) : aR := aSem d 106 [aQ 9 a0] M
noncomputable def w_world_payDues_2 (d : Nat) (a0 : Nat) (v1 : Int) (M : aM) : aR := aOm (aSem d) K_world_payDues 2 [some (aQ 9 a0), some (aI v1), none] [] M
noncomputable def w_world_payDues_47 (d : Nat) (a0 : Nat) (v1 : Int) (M : aM) : aR := aOm (aSem d) K_world_payDues 47 [some (aQ 9 a0), some (aI v1), none] [] M
noncomputable def w_world_sendWolves (d : Nat) (a0 : Nat) (M : aM) : aR := aSem d 107 [aQ 9 a0] M
noncomputable def w_world_copyFrom (d : Nat) (a0 : Nat) (a1 : Nat) (M : aM) : aR := aSem d 108 [aQ 9 a0, aQ 9 a1] M
noncomputable def w_x_state (d : Nat) (v1 : Int) (M : aM) : aR := aSem d 109 [aQ 10 0, aI v1] M
noncomputable def w_x_deer (d : Nat) (v1 : Int) (v2 : Int) (M : aM) : aR := aSem d 110 [aQ 10 0, aI v1, aI v2] M
noncomputable def w_x_set (d : Nat) (v1 : Int) (v2 : Int) (v3 : Int) (M : aM) : aR := aSem d 111 [aQ 10 0, aI v1, aI v2, aI v3] M
noncomputable def w_x_eat (d : Nat) (v1 : Int) (v2 : Int) (M : aM) : aR := aSem d 112 [aQ 10 0, aI v1, aI v2] M
noncomputable def w_x_days (d : Nat) (v1 : Int) (M : aM) : aR := aSem d 113 [aQ 10 0, aI v1] M
noncomputable def w_x_days_35 (d : Nat) (v1 : Int) (v2 : Int) (v3 : Int) (M : aM) : aR := aOm (aSem d) K_x_days 35 [some (aQ 10 0), some (aI v1), some (aI v2), some (aI v3)] [] M
noncomputable def w_x_waitFor (d : Nat) (v1 : Int) (M : aM) : aR := aSem d 114 [aQ 10 0, aI v1] M
noncomputable def w_x_waitFor_38 (d : Nat) (v1 : Int) (v2 : Int) (M : aM) : aR := aOm (aSem d) K_x_waitFor 38 [some (aQ 10 0), some (aI v1), some (aI v2)] [] M
noncomputable def w_x_feed (d : Nat) (v1 : Int) (v2 : Int) (v3 : Int) (v4 : Int) (v5 : Int) (M : aM) : aR := aSem d 115 [aQ 10 0, aI v1, aI v2, aI v3, aI v4, aI v5] M
noncomputable def w_x_end (d : Nat) (v1 : Int) (M : aM) : aR := aSem d 116 [aQ 10 0, aI v1] M
noncomputable def w_x_text (d : Nat) (v1 : Int) (M : aM) : aR := aSem d 117 [aQ 10 0, aI v1] M
noncomputable def w_x_fault (d : Nat) (v1 : Int) (M : aM) : aR := aSem d 118 [aQ 10 0, aI v1] M
noncomputable def w_x_of (d : Nat) (v1 : Int) (v2 : Int) (M : aM) : aR := aSem d 119 [aQ 10 0, aI v1, aI v2] M
noncomputable def w_x_due (d : Nat) (v1 : Int) (v2 : Int) (M : aM) : aR := aSem d 120 [aQ 10 0, aI v1, aI v2] M
noncomputable def w_x_book (d : Nat) (v1 : Int) (v2 : Int) (M : aM) : aR := aSem d 121 [aQ 10 0, aI v1, aI v2] M
noncomputable def w_x_next (d : Nat) (v1 : Int) (v2 : Int) (M : aM) : aR := aSem d 122 [aQ 10 0, aI v1, aI v2] M
noncomputable def w_x_likeliest (d : Nat)  (M : aM) : aR := aSem d 123 [aQ 10 0] M
noncomputable def w_x_goes (d : Nat) (v1 : Int) (v2 : Int) (M : aM) : aR := aSem d 124 [aQ 10 0, aI v1, aI v2] M
noncomputable def w_x_goes_35 (d : Nat) (v1 : Int) (v2 : Int) (v3 : Int) (M : aM) : aR := aOm (aSem d) K_x_goes 35 [some (aQ 10 0), some (aI v1), some (aI v2), some (aI v3)] [] M
noncomputable def w_x_reads (d : Nat) (v1 : Int) (M : aM) : aR := aSem d 125 [aQ 10 0, aI v1] M
noncomputable def w_x_seen (d : Nat) (v1 : Int) (v2 : Int) (M : aM) : aR := aSem d 126 [aQ 10 0, aI v1, aI v2] M
noncomputable def w_x_orders (d : Nat) (v1 : Int) (M : aM) : aR := aSem d 127 [aQ 10 0, aI v1] M
noncomputable def w_x_moves (d : Nat) (v1 : Int) (M : aM) : aR := aSem d 128 [aQ 10 0, aI v1] M
noncomputable def w_x_work (d : Nat) (v1 : Int) (M : aM) : aR := aSem d 129 [aQ 10 0, aI v1] M
noncomputable def w_x_works (d : Nat) (v1 : Int) (M : aM) : aR := aSem d 130 [aQ 10 0, aI v1] M
noncomputable def w_x_gate (d : Nat) (v1 : Int) (v2 : Int) (M : aM) : aR := aSem d 131 [aQ 10 0, aI v1, aI v2] M
noncomputable def w_x_watch (d : Nat) (v1 : Int) (M : aM) : aR := aSem d 132 [aQ 10 0, aI v1] M
noncomputable def w_x_ate (d : Nat) (v1 : Int) (v2 : Int) (M : aM) : aR := aSem d 133 [aQ 10 0, aI v1, aI v2] M
noncomputable def w_x_ways (d : Nat) (v1 : Int) (M : aM) : aR := aSem d 134 [aQ 10 0, aI v1] M
noncomputable def w_x_vote (d : Nat) (v1 : Int) (M : aM) : aR := aSem d 135 [aQ 10 0, aI v1] M
noncomputable def w_x_votes (d : Nat) (v1 : Int) (M : aM) : aR := aSem d 136 [aQ 10 0, aI v1] M
noncomputable def w_x_salts (d : Nat) (v1 : Int) (v2 : Int) (M : aM) : aR := aSem d 137 [aQ 10 0, aI v1, aI v2] M
noncomputable def w_x_nods (d : Nat) (v1 : Int) (v2 : Int) (M : aM) : aR := aSem d 138 [aQ 10 0, aI v1, aI v2] M
noncomputable def w_x_game (d : Nat) (v1 : Int) (M : aM) : aR := aSem d 139 [aQ 10 0, aI v1] M
noncomputable def w_x_undo (d : Nat)  (M : aM) : aR := aSem d 140 [aQ 10 0] M
noncomputable def w_x_image (d : Nat) (v1 : Int) (M : aM) : aR := aSem d 141 [aQ 10 0, aI v1] M
noncomputable def w_x_look (d : Nat) (v1 : Int) (M : aM) : aR := aSem d 142 [aQ 10 0, aI v1] M
noncomputable def w_x_within (d : Nat) (v0 : Int) (v1 : Int) (M : aM) : aR := aSem d 143 [aI v0, aI v1] M
noncomputable def w_x_setWood (d : Nat) (v1 : Int) (v2 : Int) (M : aM) : aR := aSem d 144 [aQ 10 0, aI v1, aI v2] M
noncomputable def w_x_setDeer (d : Nat) (v1 : Int) (v2 : Int) (v3 : Int) (M : aM) : aR := aSem d 145 [aQ 10 0, aI v1, aI v2, aI v3] M
noncomputable def w_x_takeText (d : Nat) (v1 : Int) (M : aM) : aR := aSem d 146 [aQ 10 0, aI v1] M
noncomputable def w_x_likelyWithin (d : Nat) (v0 : Int) (v1 : Int) (M : aM) : aR := aSem d 147 [aI v0, aI v1] M
noncomputable def w_x_likelyWithin_7 (d : Nat) (v0 : Int) (v1 : Int) (v2 : Int) (v4 : Int) (M : aM) : aR := aOm (aSem d) K_x_likelyWithin 7 [some (aI v0), some (aI v1), some (aJ v2), none, some (aI v4)] [] M
noncomputable def w_m_isIn (d : Nat) (v0 : Int) (v1 : Int) (v2 : Int) (M : aM) : aR := aSem d 148 [aI v0, aI v1, aI v2] M
noncomputable def w_m_lesser (d : Nat) (v0 : Int) (v1 : Int) (M : aM) : aR := aSem d 149 [aI v0, aI v1] M
noncomputable def w_m_greater (d : Nat) (v0 : Int) (v1 : Int) (M : aM) : aR := aSem d 150 [aI v0, aI v1] M
noncomputable def w_m_size (d : Nat) (v0 : Int) (M : aM) : aR := aSem d 151 [aI v0] M
noncomputable def w_m_isDeer (d : Nat) (v1 : Int) (M : aM) : aR := aSem d 152 [aQ 11 157, aI v1] M
noncomputable def w_m_isAlive (d : Nat) (v1 : Int) (M : aM) : aR := aSem d 153 [aQ 11 157, aI v1] M
noncomputable def w_m_count (d : Nat) (v0 : Int) (M : aM) : aR := aSem d 154 [aI v0] M
noncomputable def w_m_count_4 (d : Nat) (v0 : Int) (v1 : Int) (v2 : Int) (M : aM) : aR := aOm (aSem d) K_m_count 4 [some (aI v0), some (aI v1), some (aI v2)] [] M
noncomputable def w_m_forgets (d : Nat)  (M : aM) : aR := aSem d 155 [aQ 11 157] M
noncomputable def w_m_state (d : Nat) (v1 : Int) (M : aM) : aR := aSem d 156 [aQ 11 157, aI v1] M
noncomputable def w_m_draw (d : Nat) (v1 : Int) (M : aM) : aR := aSem d 157 [aQ 11 157, aI v1] M
noncomputable def w_m_deer (d : Nat) (v1 : Int) (v2 : Int) (M : aM) : aR := aSem d 158 [aQ 11 157, aI v1, aI v2] M
noncomputable def w_m_canSet (d : Nat) (v1 : Int) (v2 : Int) (v3 : Int) (M : aM) : aR := aSem d 159 [aQ 11 157, aI v1, aI v2, aI v3] M
noncomputable def w_m_placeOf (d : Nat) (v0 : Int) (v1 : Int) (M : aM) : aR := aSem d 160 [aI v0, aI v1] M
noncomputable def w_m_set (d : Nat) (v1 : Int) (v2 : Int) (v3 : Int) (M : aM) : aR := aSem d 161 [aQ 11 157, aI v1, aI v2, aI v3] M
noncomputable def w_m_feed (d : Nat) (v1 : Int) (v2 : Int) (v3 : Int) (v4 : Int) (v5 : Int) (M : aM) : aR := aSem d 162 [aQ 11 157, aI v1, aI v2, aI v3, aI v4, aI v5] M
noncomputable def w_m_feed_18 (d : Nat) (v1 : Int) (v2 : Int) (v3 : Int) (v4 : Int) (v5 : Int) (v6 : Int) (M : aM) : aR := aOm (aSem d) K_m_feed 18 [some (aQ 11 157), some (aI v1), some (aI v2), some (aI v3), some (aI v4), some (aI v5), some (aI v6), none] [] M
noncomputable def w_m_end (d : Nat) (v1 : Int) (M : aM) : aR := aSem d 163 [aQ 11 157, aI v1] M
noncomputable def w_m_see (d : Nat) (v1 : Int) (M : aM) : aR := aSem d 164 [aQ 11 157, aI v1] M
noncomputable def w_m_isLetter (d : Nat) (v0 : Int) (M : aM) : aR := aSem d 165 [aI v0] M
noncomputable def w_m_isDigit (d : Nat) (v0 : Int) (M : aM) : aR := aSem d 166 [aI v0] M
noncomputable def w_m_is (d : Nat) (a1 : Nat) (M : aM) : aR := aSem d 167 [aQ 11 157, aQ 24 a1] M
noncomputable def w_m_is_24 (d : Nat) (a1 : Nat) (v2 : Int) (v3 : Int) (M : aM) : aR := aOm (aSem d) K_m_is 24 [some (aQ 11 157), some (aQ 24 a1), some (aI v2), some (aI v3)] [] M
noncomputable def w_m_asked (d : Nat)  (M : aM) : aR := aSem d 168 [aQ 11 157] M
noncomputable def w_m_lawWord (d : Nat)  (M : aM) : aR := aSem d 169 [aQ 11 157] M
noncomputable def w_m_planWord (d : Nat)  (M : aM) : aR := aSem d 170 [aQ 11 157] M
noncomputable def w_m_word (d : Nat)  (M : aM) : aR := aSem d 171 [aQ 11 157] M
noncomputable def w_m_next0 (d : Nat)  (M : aM) : aR := aSem d 172 [aQ 11 157] M
noncomputable def w_m_next0_0 (d : Nat)  (M : aM) : aR := aOm (aSem d) K_m_next0 0 [some (aQ 11 157), none, none] [] M
noncomputable def w_m_next0_76 (d : Nat)  (M : aM) : aR := aOm (aSem d) K_m_next0 76 [some (aQ 11 157), none, none] [] M
noncomputable def w_m_next0_126 (d : Nat)  (M : aM) : aR := aOm (aSem d) K_m_next0 126 [some (aQ 11 157), none, none] [] M
noncomputable def w_m_next0_284 (d : Nat) (v1 : Int) (M : aM) : aR := aOm (aSem d) K_m_next0 284 [some (aQ 11 157), some (aI v1), none] [] M
noncomputable def w_m_bad (d : Nat) (v1 : Int) (M : aM) : aR := aSem d 173 [aQ 11 157, aI v1] M
noncomputable def w_m_need (d : Nat) (v1 : Int) (M : aM) : aR := aSem d 174 [aQ 11 157, aI v1] M
noncomputable def w_m_lay (d : Nat) (v1 : Int) (v2 : Int) (M : aM) : aR := aSem d 175 [aQ 11 157, aI v1, aI v2] M
noncomputable def w_m_opens (d : Nat)  (M : aM) : aR := aSem d 176 [aQ 11 157] M
noncomputable def w_m_sumUp (d : Nat)  (M : aM) : aR := aSem d 177 [aQ 11 157] M
noncomputable def w_m_sumUp_9 (d : Nat)  (M : aM) : aR := aOm (aSem d) K_m_sumUp 9 [some (aQ 11 157), none] [] M
noncomputable def w_m_sumUp_29 (d : Nat)  (M : aM) : aR := aOm (aSem d) K_m_sumUp 29 [some (aQ 11 157), none] [] M
noncomputable def w_m_product (d : Nat)  (M : aM) : aR := aSem d 178 [aQ 11 157] M
noncomputable def w_m_product_9 (d : Nat)  (M : aM) : aR := aOm (aSem d) K_m_product 9 [some (aQ 11 157), none, none] [] M
noncomputable def w_m_product_29 (d : Nat)  (M : aM) : aR := aOm (aSem d) K_m_product 29 [some (aQ 11 157), none, none] [] M
noncomputable def w_m_unit (d : Nat)  (M : aM) : aR := aSem d 179 [aQ 11 157] M
noncomputable def w_m_any (d : Nat)  (M : aM) : aR := aSem d 180 [aQ 11 157] M
noncomputable def w_m_any_9 (d : Nat)  (M : aM) : aR := aOm (aSem d) K_m_any 9 [some (aQ 11 157)] [] M
noncomputable def w_m_every (d : Nat)  (M : aM) : aR := aSem d 181 [aQ 11 157] M
noncomputable def w_m_every_9 (d : Nat)  (M : aM) : aR := aOm (aSem d) K_m_every 9 [some (aQ 11 157)] [] M
noncomputable def w_m_oneTest (d : Nat)  (M : aM) : aR := aSem d 182 [aQ 11 157] M
noncomputable def w_m_aLine (d : Nat)  (M : aM) : aR := aSem d 183 [aQ 11 157] M
noncomputable def w_m_readsLaw (d : Nat)  (M : aM) : aR := aSem d 184 [aQ 11 157] M
noncomputable def w_m_readsLaw_12 (d : Nat) (v1 : Int) (M : aM) : aR := aOm (aSem d) K_m_readsLaw 12 [some (aQ 11 157), some (aI v1)] [] M
noncomputable def w_m_number (d : Nat) (v1 : Int) (v2 : Int) (v3 : Int) (M : aM) : aR := aSem d 185 [aQ 11 157, aI v1, aI v2, aI v3] M
noncomputable def w_m_told (d : Nat) (v1 : Int) (v2 : Int) (v3 : Int) (v4 : Int) (M : aM) : aR := aSem d 186 [aQ 11 157, aI v1, aI v2, aI v3, aI v4] M
noncomputable def w_m_aPlan (d : Nat)  (M : aM) : aR := aSem d 187 [aQ 11 157] M
noncomputable def w_m_aDue (d : Nat)  (M : aM) : aR := aSem d 188 [aQ 11 157] M
noncomputable def w_m_aFeast (d : Nat)  (M : aM) : aR := aSem d 189 [aQ 11 157] M
noncomputable def w_m_aRow (d : Nat)  (M : aM) : aR := aSem d 190 [aQ 11 157] M
noncomputable def w_m_readsRows (d : Nat)  (M : aM) : aR := aSem d 191 [aQ 11 157] M
noncomputable def w_m_readsRows_36 (d : Nat) (v1 : Int) (v2 : Int) (M : aM) : aR := aOm (aSem d) K_m_readsRows 36 [some (aQ 11 157), some (aI v1), some (aI v2)] [] M
noncomputable def w_m_putsLaw (d : Nat)  (M : aM) : aR := aSem d 192 [aQ 11 157] M
noncomputable def w_m_putsLaw_13 (d : Nat) (v1 : Int) (M : aM) : aR := aOm (aSem d) K_m_putsLaw 13 [some (aQ 11 157), some (aI v1)] [] M
noncomputable def w_m_putsLaw_107 (d : Nat) (v1 : Int) (M : aM) : aR := aOm (aSem d) K_m_putsLaw 107 [some (aQ 11 157), some (aI v1)] [] M
noncomputable def w_m_puts (d : Nat) (v1 : Int) (v2 : Int) (v3 : Int) (M : aM) : aR := aSem d 193 [aQ 11 157, aI v1, aI v2, aI v3] M
noncomputable def w_m_puts_13 (d : Nat) (v2 : Int) (v3 : Int) (v4 : Int) (M : aM) : aR := aOm (aSem d) K_m_puts 13 [some (aQ 11 157), none, some (aI v2), some (aI v3), some (aI v4)] [] M
noncomputable def w_m_putsText (d : Nat) (v1 : Int) (M : aM) : aR := aSem d 194 [aQ 11 157, aI v1] M
noncomputable def w_m_text (d : Nat) (v1 : Int) (M : aM) : aR := aSem d 195 [aQ 11 157, aI v1] M
noncomputable def w_m_fault (d : Nat) (v1 : Int) (M : aM) : aR := aSem d 196 [aQ 11 157, aI v1] M
noncomputable def w_m_both (d : Nat) (v0 : Int) (v1 : Int) (v2 : Int) (M : aM) : aR := aSem d 197 [aI v0, aI v1, aI v2] M
noncomputable def w_m_comesTo (d : Nat) (v1 : Int) (v2 : Int) (v3 : Int) (M : aM) : aR := aSem d 198 [aQ 11 157, aI v1, aI v2, aI v3] M
noncomputable def w_m_comesTo_6 (d : Nat) (v1 : Int) (v3 : Int) (v4 : Int) (v5 : Int) (M : aM) : aR := aOm (aSem d) K_m_comesTo 6 [some (aQ 11 157), some (aI v1), none, some (aI v3), some (aI v4), some (aI v5), none, none] [] M
noncomputable def w_m_isSo (d : Nat) (v1 : Int) (M : aM) : aR := aSem d 199 [aQ 11 157, aI v1] M
noncomputable def w_m_says (d : Nat) (v1 : Int) (v2 : Int) (v3 : Int) (v4 : Int) (M : aM) : aR := aSem d 200 [aQ 11 157, aI v1, aI v2, aI v3, aI v4] M
noncomputable def w_m_says_151 (d : Nat) (v1 : Int) (v3 : Int) (v4 : Int) (v5 : Int) (M : aM) : aR := aOm (aSem d) K_m_says 151 [some (aQ 11 157), some (aI v1), none, some (aI v3), some (aI v4), some (aI v5)] [] M
noncomputable def w_m_comeOf (d : Nat) (v1 : Int) (M : aM) : aR := aSem d 201 [aQ 11 157, aI v1] M
noncomputable def w_m_longOf (d : Nat) (v1 : Int) (M : aM) : aR := aSem d 202 [aQ 11 157, aI v1] M
noncomputable def w_m_shyOf (d : Nat) (v1 : Int) (M : aM) : aR := aSem d 203 [aQ 11 157, aI v1] M
noncomputable def w_m_sumOfCome (d : Nat)  (M : aM) : aR := aSem d 204 [aQ 11 157] M
noncomputable def w_m_sumOfCome_4 (d : Nat) (v1 : Int) (v2 : Int) (M : aM) : aR := aOm (aSem d) K_m_sumOfCome 4 [some (aQ 11 157), some (aI v1), some (aI v2)] [] M
noncomputable def w_m_likeliestOne (d : Nat)  (M : aM) : aR := aSem d 205 [aQ 11 157] M
noncomputable def w_m_likeliestOne_4 (d : Nat) (v1 : Int) (v2 : Int) (M : aM) : aR := aOm (aSem d) K_m_likeliestOne 4 [some (aQ 11 157), some (aI v1), some (aI v2)] [] M
noncomputable def w_m_keeps (d : Nat)  (M : aM) : aR := aSem d 206 [aQ 11 157] M
noncomputable def w_m_keeps_11 (d : Nat) (v1 : Int) (M : aM) : aR := aOm (aSem d) K_m_keeps 11 [some (aQ 11 157), some (aI v1)] [] M
noncomputable def w_m_keeps_51 (d : Nat) (v1 : Int) (M : aM) : aR := aOm (aSem d) K_m_keeps 51 [some (aQ 11 157), some (aI v1)] [] M
noncomputable def w_m_undo (d : Nat)  (M : aM) : aR := aSem d 207 [aQ 11 157] M
noncomputable def w_m_undo_21 (d : Nat) (v1 : Int) (M : aM) : aR := aOm (aSem d) K_m_undo 21 [some (aQ 11 157), some (aI v1)] [] M
noncomputable def w_m_notes (d : Nat) (v1 : Int) (v2 : Int) (v3 : Int) (M : aM) : aR := aSem d 208 [aQ 11 157, aI v1, aI v2, aI v3] M
noncomputable def w_m_eats (d : Nat) (v1 : Int) (v2 : Int) (M : aM) : aR := aSem d 209 [aQ 11 157, aI v1, aI v2] M
noncomputable def w_m_eat (d : Nat) (v1 : Int) (v2 : Int) (M : aM) : aR := aSem d 210 [aQ 11 157, aI v1, aI v2] M
noncomputable def w_m_does (d : Nat) (v1 : Int) (M : aM) : aR := aSem d 211 [aQ 11 157, aI v1] M
noncomputable def w_m_byDraw (d : Nat) (v1 : Int) (M : aM) : aR := aSem d 212 [aQ 11 157, aI v1] M
noncomputable def w_m_byDraw_4 (d : Nat) (v1 : Int) (v2 : Int) (v3 : Int) (M : aM) : aR := aOm (aSem d) K_m_byDraw 4 [some (aQ 11 157), some (aI v1), some (aI v2), some (aI v3)] [] M
noncomputable def w_m_dawns (d : Nat)  (M : aM) : aR := aSem d 213 [aQ 11 157] M
noncomputable def w_m_dawns_36 (d : Nat)  (M : aM) : aR := aOm (aSem d) K_m_dawns 36 [some (aQ 11 157), none] [] M
noncomputable def w_m_comes (d : Nat) (v1 : Int) (M : aM) : aR := aSem d 214 [aQ 11 157, aI v1] M
noncomputable def w_m_comes_66 (d : Nat) (v1 : Int) (v3 : Int) (v4 : Int) (M : aM) : aR := aOm (aSem d) K_m_comes 66 [some (aQ 11 157), some (aI v1), none, some (aI v3), some (aI v4)] [] M
noncomputable def w_m_pays (d : Nat)  (M : aM) : aR := aSem d 215 [aQ 11 157] M
noncomputable def w_m_pays_2 (d : Nat) (v1 : Int) (M : aM) : aR := aOm (aSem d) K_m_pays 2 [some (aQ 11 157), some (aI v1), none] [] M
noncomputable def w_m_wolves (d : Nat)  (M : aM) : aR := aSem d 216 [aQ 11 157] M
noncomputable def w_m_wolves_42 (d : Nat) (v1 : Int) (v2 : Int) (M : aM) : aR := aOm (aSem d) K_m_wolves 42 [some (aQ 11 157), some (aI v1), some (aI v2)] [] M
noncomputable def w_m_aDay (d : Nat)  (M : aM) : aR := aSem d 217 [aQ 11 157] M
noncomputable def w_m_aDay_2 (d : Nat) (v1 : Int) (M : aM) : aR := aOm (aSem d) K_m_aDay 2 [some (aQ 11 157), some (aI v1)] [] M
noncomputable def w_m_aDay_72 (d : Nat)  (M : aM) : aR := aOm (aSem d) K_m_aDay 72 [some (aQ 11 157), none] [] M
noncomputable def w_m_days (d : Nat) (v1 : Int) (M : aM) : aR := aSem d 218 [aQ 11 157, aI v1] M
noncomputable def w_m_days_30 (d : Nat) (v1 : Int) (v2 : Int) (v3 : Int) (M : aM) : aR := aOm (aSem d) K_m_days 30 [some (aQ 11 157), some (aI v1), some (aI v2), some (aI v3)] [] M
noncomputable def w_m_waitFor (d : Nat) (v1 : Int) (M : aM) : aR := aSem d 219 [aQ 11 157, aI v1] M
noncomputable def w_m_waitFor_28 (d : Nat) (v1 : Int) (v2 : Int) (M : aM) : aR := aOm (aSem d) K_m_waitFor 28 [some (aQ 11 157), some (aI v1), some (aI v2)] [] M
noncomputable def w_m_of (d : Nat) (v1 : Int) (v2 : Int) (M : aM) : aR := aSem d 220 [aQ 11 157, aI v1, aI v2] M
noncomputable def w_m_due (d : Nat) (v1 : Int) (v2 : Int) (M : aM) : aR := aSem d 221 [aQ 11 157, aI v1, aI v2] M
noncomputable def w_m_book (d : Nat) (v1 : Int) (v2 : Int) (M : aM) : aR := aSem d 222 [aQ 11 157, aI v1, aI v2] M
noncomputable def w_m_nextOf (d : Nat) (v1 : Int) (M : aM) : aR := aSem d 223 [aQ 11 157, aI v1] M
noncomputable def w_m_next (d : Nat) (v1 : Int) (v2 : Int) (M : aM) : aR := aSem d 224 [aQ 11 157, aI v1, aI v2] M
noncomputable def w_m_next_41 (d : Nat) (v2 : Int) (v3 : Int) (v5 : Int) (v7 : Int) (M : aM) : aR := aOm (aSem d) K_m_next 41 [none, none, some (aI v2), some (aJ v3), none, some (aJ v5), none, some (aI v7)] [] M
noncomputable def w_m_likeliest (d : Nat)  (M : aM) : aR := aSem d 225 [aQ 11 157] M
noncomputable def w_m_goes (d : Nat) (v1 : Int) (v2 : Int) (M : aM) : aR := aSem d 226 [aQ 11 157, aI v1, aI v2] M
noncomputable def w_m_goes_25 (d : Nat) (v1 : Int) (v2 : Int) (v3 : Int) (M : aM) : aR := aOm (aSem d) K_m_goes 25 [some (aQ 11 157), some (aI v1), some (aI v2), some (aI v3), none] [] M
noncomputable def w_m_goes_56 (d : Nat) (v1 : Int) (v2 : Int) (v3 : Int) (M : aM) : aR := aOm (aSem d) K_m_goes 56 [some (aQ 11 157), some (aI v1), some (aI v2), some (aI v3), none] [] M
noncomputable def w_m_goes_127 (d : Nat) (v3 : Int) (v4 : Int) (M : aM) : aR := aOm (aSem d) K_m_goes 127 [some (aQ 11 157), none, none, some (aI v3), some (aI v4)] [] M
noncomputable def w_m_reads (d : Nat) (v1 : Int) (M : aM) : aR := aSem d 227 [aQ 11 157, aI v1] M
noncomputable def w_m_reads_48 (d : Nat) (v2 : Int) (v3 : Int) (v4 : Int) (M : aM) : aR := aOm (aSem d) K_m_reads 48 [some (aQ 11 157), none, some (aI v2), some (aI v3), some (aI v4), none, none] [] M
noncomputable def w_m_reads_201 (d : Nat) (v2 : Int) (v4 : Int) (M : aM) : aR := aOm (aSem d) K_m_reads 201 [some (aQ 11 157), none, some (aI v2), none, some (aI v4), none, none] [] M
noncomputable def w_m_reads_208 (d : Nat) (v2 : Int) (v3 : Int) (v4 : Int) (M : aM) : aR := aOm (aSem d) K_m_reads 208 [some (aQ 11 157), none, some (aI v2), some (aI v3), some (aI v4), none, none] [] M
noncomputable def w_m_seen (d : Nat) (v1 : Int) (v2 : Int) (M : aM) : aR := aSem d 228 [aQ 11 157, aI v1, aI v2] M
noncomputable def w_m_laysAhead (d : Nat)  (M : aM) : aR := aSem d 229 [aQ 11 157] M
noncomputable def w_m_laysAhead_2 (d : Nat) (v1 : Int) (M : aM) : aR := aOm (aSem d) K_m_laysAhead 2 [some (aQ 11 157), some (aI v1)] [] M
noncomputable def w_m_laysAhead_23 (d : Nat) (v1 : Int) (M : aM) : aR := aOm (aSem d) K_m_laysAhead 23 [some (aQ 11 157), some (aI v1)] [] M
noncomputable def w_m_laysOrders (d : Nat)  (M : aM) : aR := aSem d 230 [aQ 11 157] M
noncomputable def w_m_laysOrders_21 (d : Nat) (v1 : Int) (v2 : Int) (M : aM) : aR := aOm (aSem d) K_m_laysOrders 21 [some (aQ 11 157), some (aI v1), some (aI v2), none] [] M
noncomputable def w_m_laysOrders_35 (d : Nat) (v1 : Int) (v2 : Int) (v3 : Int) (M : aM) : aR := aOm (aSem d) K_m_laysOrders 35 [some (aQ 11 157), some (aI v1), some (aI v2), some (aI v3)] [] M
noncomputable def w_m_waysWith (d : Nat) (v1 : Int) (v2 : Int) (M : aM) : aR := aSem d 231 [aQ 11 157, aI v1, aI v2] M
noncomputable def w_m_bestCouple (d : Nat) (v1 : Int) (M : aM) : aR := aSem d 232 [aQ 11 157, aI v1] M
noncomputable def w_m_bestCouple_9 (d : Nat) (v1 : Int) (v2 : Int) (v3 : Int) (v4 : Int) (M : aM) : aR := aOm (aSem d) K_m_bestCouple 9 [some (aQ 11 157), some (aI v1), some (aI v2), some (aI v3), some (aI v4), none, none] [] M
noncomputable def w_m_bestCouple_27 (d : Nat) (v1 : Int) (v2 : Int) (v3 : Int) (v4 : Int) (v5 : Int) (M : aM) : aR := aOm (aSem d) K_m_bestCouple 27 [some (aQ 11 157), some (aI v1), some (aI v2), some (aI v3), some (aI v4), some (aI v5), none] [] M
noncomputable def w_m_firstOrder (d : Nat) (v1 : Int) (M : aM) : aR := aSem d 233 [aQ 11 157, aI v1] M
noncomputable def w_m_firstOrder_7 (d : Nat) (v1 : Int) (v2 : Int) (v3 : Int) (v4 : Int) (M : aM) : aR := aOm (aSem d) K_m_firstOrder 7 [some (aQ 11 157), some (aI v1), some (aI v2), some (aI v3), some (aI v4)] [] M
noncomputable def w_m_firstOrder_15 (d : Nat) (v1 : Int) (v2 : Int) (v3 : Int) (v4 : Int) (M : aM) : aR := aOm (aSem d) K_m_firstOrder 15 [some (aQ 11 157), some (aI v1), some (aI v2), some (aI v3), some (aI v4)] [] M
noncomputable def w_m_orders (d : Nat) (v1 : Int) (M : aM) : aR := aSem d 234 [aQ 11 157, aI v1] M
noncomputable def w_m_canLie (d : Nat) (v1 : Int) (v2 : Int) (M : aM) : aR := aSem d 235 [aQ 11 157, aI v1, aI v2] M
noncomputable def w_m_laysFeasts (d : Nat)  (M : aM) : aR := aSem d 236 [aQ 11 157] M
noncomputable def w_m_laysFeasts_13 (d : Nat) (v1 : Int) (v2 : Int) (M : aM) : aR := aOm (aSem d) K_m_laysFeasts 13 [some (aQ 11 157), some (aI v1), some (aI v2), none, none, none] [] M
noncomputable def w_m_laysFeasts_19 (d : Nat) (v1 : Int) (v2 : Int) (v3 : Int) (M : aM) : aR := aOm (aSem d) K_m_laysFeasts 19 [some (aQ 11 157), some (aI v1), some (aI v2), some (aI v3), none, none] [] M
noncomputable def w_m_laysFeasts_63 (d : Nat) (v1 : Int) (v2 : Int) (v3 : Int) (v4 : Int) (v5 : Int) (M : aM) : aR := aOm (aSem d) K_m_laysFeasts 63 [some (aQ 11 157), some (aI v1), some (aI v2), some (aI v3), some (aI v4), some (aI v5)] [] M
noncomputable def w_m_moves (d : Nat) (v1 : Int) (M : aM) : aR := aSem d 237 [aQ 11 157, aI v1] M
noncomputable def w_m_moves_27 (d : Nat) (v1 : Int) (v2 : Int) (M : aM) : aR := aOm (aSem d) K_m_moves 27 [some (aQ 11 157), some (aI v1), some (aI v2), none, none] [] M
noncomputable def w_m_moves_77 (d : Nat) (v1 : Int) (v2 : Int) (v3 : Int) (M : aM) : aR := aOm (aSem d) K_m_moves 77 [some (aQ 11 157), some (aI v1), some (aI v2), some (aI v3), none] [] M
noncomputable def w_m_moves_126 (d : Nat) (v1 : Int) (v2 : Int) (v3 : Int) (v4 : Int) (M : aM) : aR := aOm (aSem d) K_m_moves 126 [some (aQ 11 157), some (aI v1), some (aI v2), some (aI v3), some (aI v4)] [] M
noncomputable def w_m_work (d : Nat) (v1 : Int) (M : aM) : aR := aSem d 238 [aQ 11 157, aI v1] M
noncomputable def w_m_laysHerd (d : Nat)  (M : aM) : aR := aSem d 239 [aQ 11 157] M
noncomputable def w_m_laysHerd_14 (d : Nat) (v1 : Int) (v2 : Int) (v3 : Int) (M : aM) : aR := aOm (aSem d) K_m_laysHerd 14 [some (aQ 11 157), some (aI v1), some (aI v2), some (aI v3), none] [] M
noncomputable def w_m_behind (d : Nat) (v1 : Int) (v2 : Int) (M : aM) : aR := aSem d 240 [aQ 11 157, aI v1, aI v2] M
noncomputable def w_m_behind_11 (d : Nat) (v2 : Int) (v3 : Int) (v4 : Int) (M : aM) : aR := aOm (aSem d) K_m_behind 11 [some (aQ 11 157), none, some (aI v2), some (aI v3), some (aI v4)] [] M
noncomputable def w_m_inOrder (d : Nat)  (M : aM) : aR := aSem d 241 [aQ 11 157] M
noncomputable def w_m_inOrder_4 (d : Nat) (v1 : Int) (v2 : Int) (M : aM) : aR := aOm (aSem d) K_m_inOrder 4 [some (aQ 11 157), some (aI v1), some (aI v2)] [] M
noncomputable def w_m_bestOrder (d : Nat)  (M : aM) : aR := aSem d 242 [aQ 11 157] M
noncomputable def w_m_bestOrder_2 (d : Nat) (v1 : Int) (M : aM) : aR := aOm (aSem d) K_m_bestOrder 2 [some (aQ 11 157), some (aI v1), none] [] M
noncomputable def w_m_bestOrder_34 (d : Nat) (v1 : Int) (v2 : Int) (M : aM) : aR := aOm (aSem d) K_m_bestOrder 34 [some (aQ 11 157), some (aI v1), some (aI v2)] [] M
noncomputable def w_m_works (d : Nat) (v1 : Int) (M : aM) : aR := aSem d 243 [aQ 11 157, aI v1] M
noncomputable def w_m_works_28 (d : Nat) (v1 : Int) (v2 : Int) (v3 : Int) (M : aM) : aR := aOm (aSem d) K_m_works 28 [some (aQ 11 157), some (aI v1), some (aI v2), some (aI v3)] [] M
noncomputable def w_m_isGate (d : Nat) (v0 : Int) (M : aM) : aR := aSem d 244 [aI v0] M
noncomputable def w_m_gate (d : Nat) (v1 : Int) (v2 : Int) (M : aM) : aR := aSem d 245 [aQ 11 157, aI v1, aI v2] M
noncomputable def w_m_watches (d : Nat) (v1 : Int) (M : aM) : aR := aSem d 246 [aQ 11 157, aI v1] M
noncomputable def w_m_watches_2 (d : Nat) (v1 : Int) (v2 : Int) (M : aM) : aR := aOm (aSem d) K_m_watches 2 [some (aQ 11 157), some (aI v1), some (aI v2)] [] M
noncomputable def w_m_watch (d : Nat) (v1 : Int) (M : aM) : aR := aSem d 247 [aQ 11 157, aI v1] M
noncomputable def w_m_watch_17 (d : Nat) (v1 : Int) (v2 : Int) (v3 : Int) (M : aM) : aR := aOm (aSem d) K_m_watch 17 [some (aQ 11 157), some (aI v1), some (aI v2), some (aI v3)] [] M
noncomputable def w_m_ate (d : Nat) (v1 : Int) (v2 : Int) (M : aM) : aR := aSem d 248 [aQ 11 157, aI v1, aI v2] M
noncomputable def w_m_laysAte (d : Nat)  (M : aM) : aR := aSem d 249 [aQ 11 157] M
noncomputable def w_m_laysAte_2 (d : Nat) (v1 : Int) (M : aM) : aR := aOm (aSem d) K_m_laysAte 2 [some (aQ 11 157), some (aI v1)] [] M
noncomputable def w_m_laysAte_23 (d : Nat) (v1 : Int) (M : aM) : aR := aOm (aSem d) K_m_laysAte 23 [some (aQ 11 157), some (aI v1)] [] M
noncomputable def w_m_waysFrom (d : Nat) (v1 : Int) (v2 : Int) (M : aM) : aR := aSem d 250 [aQ 11 157, aI v1, aI v2] M
noncomputable def w_m_waysFrom_31 (d : Nat) (v1 : Int) (v2 : Int) (v3 : Int) (v4 : Int) (M : aM) : aR := aOm (aSem d) K_m_waysFrom 31 [some (aQ 11 157), some (aI v1), some (aI v2), some (aI v3), some (aI v4)] [] M
noncomputable def w_m_sureOnes (d : Nat) (v1 : Int) (M : aM) : aR := aSem d 251 [aQ 11 157, aI v1] M
noncomputable def w_m_sureOnes_4 (d : Nat) (v1 : Int) (v2 : Int) (v3 : Int) (M : aM) : aR := aOm (aSem d) K_m_sureOnes 4 [some (aQ 11 157), some (aI v1), some (aI v2), some (aI v3), none, none] [] M
noncomputable def w_m_sureOnes_21 (d : Nat) (v1 : Int) (v2 : Int) (v3 : Int) (v4 : Int) (v5 : Int) (M : aM) : aR := aOm (aSem d) K_m_sureOnes 21 [some (aQ 11 157), some (aI v1), some (aI v2), some (aI v3), some (aI v4), some (aI v5)] [] M
noncomputable def w_m_ways (d : Nat) (v1 : Int) (M : aM) : aR := aSem d 252 [aQ 11 157, aI v1] M
noncomputable def w_m_vote (d : Nat) (v1 : Int) (M : aM) : aR := aSem d 253 [aQ 11 157, aI v1] M
noncomputable def w_m_farFrom (d : Nat) (v1 : Int) (M : aM) : aR := aSem d 254 [aQ 11 157, aI v1] M
noncomputable def w_m_farFrom_4 (d : Nat) (v1 : Int) (v2 : Int) (v3 : Int) (M : aM) : aR := aOm (aSem d) K_m_farFrom 4 [some (aQ 11 157), some (aI v1), some (aI v2), some (aI v3)] [] M
noncomputable def w_m_votes (d : Nat) (v1 : Int) (M : aM) : aR := aSem d 255 [aQ 11 157, aI v1] M
noncomputable def w_m_votes_25 (d : Nat) (v1 : Int) (v2 : Int) (v3 : Int) (M : aM) : aR := aOm (aSem d) K_m_votes 25 [some (aQ 11 157), some (aI v1), some (aI v2), some (aI v3)] [] M
noncomputable def w_m_laysSalt (d : Nat) (v1 : Int) (M : aM) : aR := aSem d 256 [aQ 11 157, aI v1] M
noncomputable def w_m_laysSalt_9 (d : Nat) (v1 : Int) (v2 : Int) (v3 : Int) (M : aM) : aR := aOm (aSem d) K_m_laysSalt 9 [some (aQ 11 157), some (aI v1), some (aI v2), some (aI v3), none, none, none] [] M
noncomputable def w_m_laysSalt_23 (d : Nat) (v1 : Int) (v2 : Int) (v3 : Int) (v4 : Int) (M : aM) : aR := aOm (aSem d) K_m_laysSalt 23 [some (aQ 11 157), some (aI v1), some (aI v2), some (aI v3), some (aI v4), none, none] [] M
noncomputable def w_m_laysSalt_88 (d : Nat) (v1 : Int) (v3 : Int) (M : aM) : aR := aOm (aSem d) K_m_laysSalt 88 [some (aQ 11 157), some (aI v1), none, some (aI v3), none, none, none] [] M
noncomputable def w_m_laysSalt_95 (d : Nat) (v1 : Int) (v3 : Int) (v4 : Int) (M : aM) : aR := aOm (aSem d) K_m_laysSalt 95 [some (aQ 11 157), some (aI v1), none, some (aI v3), some (aI v4), none, none] [] M
noncomputable def w_m_laysSalt_160 (d : Nat) (v1 : Int) (v3 : Int) (v4 : Int) (v5 : Int) (v6 : Int) (M : aM) : aR := aOm (aSem d) K_m_laysSalt 160 [some (aQ 11 157), some (aI v1), none, some (aI v3), some (aI v4), some (aI v5), some (aI v6)] [] M
noncomputable def w_m_salts (d : Nat) (v1 : Int) (v2 : Int) (M : aM) : aR := aSem d 257 [aQ 11 157, aI v1, aI v2] M
noncomputable def w_m_salts_69 (d : Nat) (v2 : Int) (v3 : Int) (v4 : Int) (v5 : Int) (M : aM) : aR := aOm (aSem d) K_m_salts 69 [some (aQ 11 157), none, some (aI v2), some (aI v3), some (aI v4), some (aI v5)] [] M
noncomputable def w_m_salts_81 (d : Nat) (v2 : Int) (v3 : Int) (v4 : Int) (v5 : Int) (M : aM) : aR := aOm (aSem d) K_m_salts 81 [some (aQ 11 157), none, some (aI v2), some (aI v3), some (aI v4), some (aI v5)] [] M
noncomputable def w_m_marked (d : Nat) (v1 : Int) (M : aM) : aR := aSem d 258 [aQ 11 157, aI v1] M
noncomputable def w_m_marked_4 (d : Nat) (v1 : Int) (v2 : Int) (v3 : Int) (M : aM) : aR := aOm (aSem d) K_m_marked 4 [some (aQ 11 157), some (aI v1), some (aI v2), some (aI v3)] [] M
noncomputable def w_m_nods (d : Nat) (v1 : Int) (v2 : Int) (M : aM) : aR := aSem d 259 [aQ 11 157, aI v1, aI v2] M
noncomputable def w_m_heapOf (d : Nat) (v1 : Int) (M : aM) : aR := aSem d 260 [aQ 11 157, aI v1] M
noncomputable def w_m_game (d : Nat) (v1 : Int) (M : aM) : aR := aSem d 261 [aQ 11 157, aI v1] M
noncomputable def w_m_game_15 (d : Nat) (v1 : Int) (v2 : Int) (v3 : Int) (M : aM) : aR := aOm (aSem d) K_m_game 15 [some (aQ 11 157), some (aI v1), some (aI v2), some (aI v3), none] [] M
noncomputable def w_m_game_44 (d : Nat) (v1 : Int) (v2 : Int) (v3 : Int) (M : aM) : aR := aOm (aSem d) K_m_game 44 [some (aQ 11 157), some (aI v1), some (aI v2), some (aI v3), none] [] M
noncomputable def w_m_game_58 (d : Nat) (v1 : Int) (v2 : Int) (v3 : Int) (v4 : Int) (M : aM) : aR := aOm (aSem d) K_m_game 58 [some (aQ 11 157), some (aI v1), some (aI v2), some (aI v3), some (aI v4)] [] M
noncomputable def w_m_image (d : Nat) (v1 : Int) (M : aM) : aR := aSem d 262 [aQ 11 157, aI v1] M
noncomputable def w_m_image_15 (d : Nat) (v1 : Int) (v2 : Int) (M : aM) : aR := aOm (aSem d) K_m_image 15 [some (aQ 11 157), some (aI v1), some (aI v2)] [] M
noncomputable def w_m_look (d : Nat) (v1 : Int) (M : aM) : aR := aSem d 263 [aQ 11 157, aI v1] M
noncomputable def w_ji_bitCount (d : Nat) (v0 : Int) (M : aM) : aR := aSem d 264 [aI v0] M
noncomputable def w_jm_floorMod (d : Nat) (v0 : Int) (v1 : Int) (M : aM) : aR := aSem d 265 [aI v0, aI v1] M
noncomputable def w_js_length (d : Nat) (a0 : Nat) (M : aM) : aR := aSem d 266 [aQ 24 a0] M
noncomputable def w_js_charAt (d : Nat) (a0 : Nat) (v1 : Int) (M : aM) : aR := aSem d 267 [aQ 24 a0, aI v1] M
noncomputable def w_js_indexOf4 (d : Nat) (a0 : Nat) (v1 : Int) (M : aM) : aR := aSem d 268 [aQ 24 a0, aI v1] M
noncomputable def w_js_indexOf5 (d : Nat) (a0 : Nat) (v1 : Int) (v2 : Int) (M : aM) : aR := aSem d 269 [aQ 24 a0, aI v1, aI v2] M
noncomputable def w_js_coder (d : Nat) (a0 : Nat) (M : aM) : aR := aSem d 270 [aQ 24 a0] M
noncomputable def w_js_isLatin1 (d : Nat) (a0 : Nat) (M : aM) : aR := aSem d 271 [aQ 24 a0] M
noncomputable def w_js_checkIndex (d : Nat) (v0 : Int) (v1 : Int) (M : aM) : aR := aSem d 272 [aI v0, aI v1] M
noncomputable def w_jl_charAt (d : Nat) (a0 : Nat) (v1 : Int) (M : aM) : aR := aSem d 273 [aQ 25 a0, aI v1] M
noncomputable def w_jl_canEncode (d : Nat) (v0 : Int) (M : aM) : aR := aSem d 274 [aI v0] M
noncomputable def w_jl_indexOf (d : Nat) (a0 : Nat) (v1 : Int) (v2 : Int) (v3 : Int) (M : aM) : aR := aSem d 275 [aQ 25 a0, aI v1, aI v2, aI v3] M
noncomputable def w_jl_indexOfChar (d : Nat) (a0 : Nat) (v1 : Int) (v2 : Int) (v3 : Int) (M : aM) : aR := aSem d 276 [aQ 25 a0, aI v1, aI v2, aI v3] M
noncomputable def w_jl_indexOfChar_7 (d : Nat) (a0 : Nat) (v3 : Int) (v4 : Int) (v5 : Int) (M : aM) : aR := aOm (aSem d) K_jl_indexOfChar 7 [some (aQ 25 a0), none, none, some (aI v3), some (aI v4), some (aI v5)] [] M
noncomputable def w_ja_fillJ (d : Nat) (a0 : Nat) (v1 : Int) (M : aM) : aR := aSem d 277 [aQ 21 a0, aJ v1] M
noncomputable def w_ja_fillJ_6 (d : Nat) (a0 : Nat) (v1 : Int) (v3 : Int) (v4 : Int) (M : aM) : aR := aOm (aSem d) K_ja_fillJ 6 [some (aQ 21 a0), some (aJ v1), none, some (aI v3), some (aI v4)] [] M
noncomputable def w_ja_fillI (d : Nat) (a0 : Nat) (v1 : Int) (M : aM) : aR := aSem d 278 [aQ 20 a0, aI v1] M
noncomputable def w_ja_fillI_5 (d : Nat) (a0 : Nat) (v1 : Int) (v2 : Int) (v3 : Int) (M : aM) : aR := aOm (aSem d) K_ja_fillI 5 [some (aQ 20 a0), some (aI v1), some (aI v2), some (aI v3)] [] M
noncomputable def w_jp_checkIndex (d : Nat) (v0 : Int) (v1 : Int) (M : aM) : aR := aSem d 279 [aI v0, aI v1, aQ 26 0] M
noncomputable def w_lw_law_18 (d : Nat) (v3 : Int) (M : aM) : aR := aOm (aSem d) K_lw_law 18 [some (aQ 23 999), some (aQ 10 0), some (aQ 11 157), some (aI v3)] [] M
noncomputable def w_lw_law_1158 (d : Nat) (v3 : Int) (M : aM) : aR := aOm (aSem d) K_lw_law 1158 [some (aQ 23 999), some (aQ 10 0), some (aQ 11 157), some (aI v3)] [] M
end
section
set_option maxRecDepth 20000 in
theorem u_acts_forget (d : Nat)  (M : aM) : w_acts_forget (d + 1)  M = (
    let M12 : aM := aUp M 94 3 0
    some ([], M12)) :=
  (aOm_fix (aSem d) K_acts_forget 0 _ [] M).trans rfl
set_option maxRecDepth 20000 in
theorem u_acts_keep (d : Nat) (a1 : Nat) (M : aM) : w_acts_keep (d + 1) a1 M = (
    bndI (w_jm_floorMod d (w32 ((M 94 2) + (M 94 3))) 6 M) fun y14 M13 =>
    inb y14 (aLen 95) <|
    bndV (w_wood_copyFrom d (97 + 5 * y14.toNat) (a1 + 1) M13) fun M15 =>
    inb y14 (aLen 96) <|
    let M16 : aM := aUp M15 96 y14.toNat (M15 (a1 + 17) 2)
    if (M16 94 3) < 6 then
      let M17 : aM := aUp M16 94 3 (w32 ((M16 94 3) + 1))
      some ([], M17)
    else
      bndI (w_jm_floorMod d (w32 ((M16 94 2) + 1)) 6 M16) fun y19 M18 =>
      let M20 : aM := aUp M18 94 2 y19
      some ([], M20)) :=
  (aOm_fix (aSem d) K_acts_keep 0 _ [] M).trans rfl
set_option maxRecDepth 20000 in
theorem u_acts_goBack (d : Nat) (a1 : Nat) (M : aM) : w_acts_goBack (d + 1) a1 M = (
    if 0 < (M 94 3) then
      bndI (w_jm_floorMod d (w32 ((w32 ((M 94 2) + (M 94 3))) - 1)) 6 M) fun y14 M13 =>
      inb y14 (aLen 95) <|
      bndV (w_wood_copyFrom d (a1 + 1) (97 + 5 * y14.toNat) M13) fun M15 =>
      inb y14 (aLen 96) <|
      let M16 : aM := aUp M15 (a1 + 17) 2 (M15 96 y14.toNat)
      let M17 : aM := aUp M16 94 3 (w32 ((M16 94 3) - 1))
      some ([aI 1], M17)
    else
      some ([aI 0], M)) :=
  (aOm_fix (aSem d) K_acts_goBack 0 _ [] M).trans rfl
set_option maxRecDepth 20000 in
theorem u_labour_takeTurns (d : Nat) (a1 : Nat) (M : aM) : w_labour_takeTurns (d + 1) a1 M = (
    bndI (w_world_likeliestDeer d a1 M) fun y14 M13 =>
    let M15 : aM := aUp M13 146 3 0
    w_labour_takeTurns_15 d a1 y14 0 0 M15) :=
  (aOm_fix (aSem d) K_labour_takeTurns 0 _ [] M).trans rfl
set_option maxRecDepth 20000 in
theorem u_labour_takeTurns_15 (d : Nat) (a1 : Nat) (v2 : Int) (v3 : Int) (v4 : Int) (M : aM) : w_labour_takeTurns_15 d a1 v2 v3 v4 M = (
    if v4 < 10 then
      if v2 = (-1) then
        w_labour_takeTurns_110 d a1 v3 0 M
      else
        bndI (w_jm_floorMod d (w32 (v2 + v4)) 10 M) fun y18 M17 =>
        bndI (w_wood_isAlive d (a1 + 1) y18 M17) fun y20 M19 =>
        if y20 = 0 then
          let v21 : Int := w32 (v4 + 1)
          w_labour_takeTurns_15 d a1 v2 v3 v21 M19
        else
          inb (M19 146 3) (aLen 147) <|
          let M22 : aM := aUp M19 147 (M19 146 3).toNat y18
          bndI (w_world_asked d a1 1 y18 M22) fun y24 M23 =>
          inb (M22 146 3) (aLen 148) <|
          let M25 : aM := aUp M23 148 (M22 146 3).toNat y24
          inb (M25 146 3) (aLen 148) <|
          let v26 : Int := (imax v3 (M25 148 (M25 146 3).toNat))
          let M27 : aM := aUp M25 146 3 (w32 ((M25 146 3) + 1))
          let v28 : Int := w32 (v4 + 1)
          w_labour_takeTurns_15 d a1 v2 v26 v28 M27
    else
      w_labour_takeTurns_110 d a1 v3 0 M) :=
  (aOm_fix _ _ _ _ _ _).trans rfl
set_option maxRecDepth 20000 in
theorem u_labour_takeTurns_110 (d : Nat) (a1 : Nat) (v3 : Int) (v4 : Int) (M : aM) : w_labour_takeTurns_110 d a1 v3 v4 M = (
    if v4 < (M (a1 + 21) 2) then
      bndI (w_rows_cell d (a1 + 21) v4 0 M) fun y18 M17 =>
      if v3 < y18 then
        some ([aI 0], M17)
      else
        let v19 : Int := w32 (v4 + 1)
        w_labour_takeTurns_110 d a1 v3 v19 M17
    else
      if 0 < (M 146 3) then
        some ([aI 1], M)
      else
        some ([aI 0], M)) :=
  (aOm_fix _ _ _ _ _ _).trans rfl
set_option maxRecDepth 20000 in
theorem u_labour_lengthOf (d : Nat) (v1 : Int) (M : aM) : w_labour_lengthOf (d + 1) v1 M = (
    if 0 < (M 146 3) then
      bndI (w_jm_floorMod d v1 (M 146 3) M) fun y14 M13 =>
      if y14 < 10 then
        inb y14 (aLen 148) <|
        some ([aI (M13 148 y14.toNat)], M13)
      else
        some ([aI 0], M13)
    else
      if (0 : Int) < 10 then
        inb 0 (aLen 148) <|
        some ([aI (M 148 0)], M)
      else
        some ([aI 0], M)) :=
  (aOm_fix (aSem d) K_labour_lengthOf 0 _ [] M).trans rfl
set_option maxRecDepth 20000 in
theorem u_labour_spotBehind (d : Nat) (v1 : Int) (v2 : Int) (M : aM) : w_labour_spotBehind (d + 1) v1 v2 M = (
    let v14 : Int := (idiv v1 32)
    bndI (w_labour_lengthOf d v14 M) fun y16 M15 =>
    if y16 < (w32 ((irem v1 32) + v2)) then
      w_labour_spotBehind_26 d v1 v2 v14 1 M15
    else
      some ([aI (w32 (v1 + v2))], M15)) :=
  (aOm_fix (aSem d) K_labour_spotBehind 0 _ [] M).trans rfl
set_option maxRecDepth 20000 in
theorem u_labour_spotBehind_26 (d : Nat) (v1 : Int) (v2 : Int) (v3 : Int) (v4 : Int) (M : aM) : w_labour_spotBehind_26 d v1 v2 v3 v4 M = (
    if (M 146 3) < v4 then
      some ([aI v1], M)
    else
      bndI (w_labour_lengthOf d (w32 (v3 + v4)) M) fun y17 M16 =>
      if y17 < v2 then
        let v18 : Int := w32 (v4 + 1)
        w_labour_spotBehind_26 d v1 v2 v3 v18 M16
      else
        some ([aI (w32 ((w32 ((w32 (v3 + v4)) * 32)) + v2))], M16)) :=
  (aOm_fix _ _ _ _ _ _).trans rfl
set_option maxRecDepth 20000 in
theorem u_labour_lastSpot (d : Nat) (a1 : Nat) (M : aM) : w_labour_lastSpot (d + 1) a1 M = (
    w_labour_lastSpot_4 d a1 0 0 M) :=
  (aOm_fix (aSem d) K_labour_lastSpot 0 _ [] M).trans rfl
set_option maxRecDepth 20000 in
theorem u_labour_lastSpot_4 (d : Nat) (a1 : Nat) (v2 : Int) (v3 : Int) (M : aM) : w_labour_lastSpot_4 d a1 v2 v3 M = (
    if v3 < (M a1 2) then
      bndI (w_rows_cell d a1 v3 0 M) fun y16 M15 =>
      bndI (w_labour_spotBehind d v2 y16 M15) fun y18 M17 =>
      let v19 : Int := w32 (v3 + 1)
      w_labour_lastSpot_4 d a1 y18 v19 M17
    else
      some ([aI v2], M)) :=
  (aOm_fix _ _ _ _ _ _).trans rfl
set_option maxRecDepth 20000 in
theorem u_labour_bestSpot (d : Nat) (a1 : Nat) (M : aM) : w_labour_bestSpot (d + 1) a1 M = (
    let v13 : Int := (imax 0 (imin 8 (M a1 2)))
    inb 0 (aLen 149) <|
    let M14 : aM := aUp M 149 0 0
    w_labour_bestSpot_23 d a1 v13 1 M14) :=
  (aOm_fix (aSem d) K_labour_bestSpot 0 _ [] M).trans rfl
set_option maxRecDepth 20000 in
theorem u_labour_bestSpot_23 (d : Nat) (a1 : Nat) (v2 : Int) (v3 : Int) (M : aM) : w_labour_bestSpot_23 d a1 v2 v3 M = (
    if v3 < (ishl 1 v2) then
      w_labour_bestSpot_36 d a1 v2 v3 (-1) 0 M
    else
      inb (w32 ((ishl 1 v2) - 1)) (aLen 149) <|
      some ([aI (M 149 (w32 ((ishl 1 v2) - 1)).toNat)], M)) :=
  (aOm_fix _ _ _ _ _ _).trans rfl
set_option maxRecDepth 20000 in
theorem u_labour_bestSpot_36 (d : Nat) (a1 : Nat) (v2 : Int) (v3 : Int) (v4 : Int) (v5 : Int) (M : aM) : w_labour_bestSpot_36 d a1 v2 v3 v4 v5 M = (
    if v5 < v2 then
      if (iand (ishr v3 v5) 1) = 1 then
        inb (ixor v3 (ishl 1 v5)) (aLen 149) <|
        bndI (w_rows_cell d a1 v5 0 M) fun y19 M18 =>
        bndI (w_labour_spotBehind d (M 149 (ixor v3 (ishl 1 v5)).toNat) y19 M18) fun y21 M20 =>
        if v4 = (-1) then
          let v22 : Int := w32 (v5 + 1)
          w_labour_bestSpot_36 d a1 v2 v3 y21 v22 M20
        else
          let v23 : Int := (imin v4 y21)
          let v24 : Int := w32 (v5 + 1)
          w_labour_bestSpot_36 d a1 v2 v3 v23 v24 M20
      else
        let v25 : Int := w32 (v5 + 1)
        w_labour_bestSpot_36 d a1 v2 v3 v4 v25 M
    else
      inb v3 (aLen 149) <|
      let M26 : aM := aUp M 149 v3.toNat v4
      let v27 : Int := w32 (v3 + 1)
      w_labour_bestSpot_23 d a1 v2 v27 M26) :=
  (aOm_fix _ _ _ _ _ _).trans rfl
set_option maxRecDepth 20000 in
theorem u_labour_daysOf (d : Nat) (v1 : Int) (M : aM) : w_labour_daysOf (d + 1) v1 M = (
    if v1 = 0 then
      some ([aI 0], M)
    else
      some ([aI (w32 ((idiv v1 32) + 1))], M)) :=
  (aOm_fix (aSem d) K_labour_daysOf 0 _ [] M).trans rfl
set_option maxRecDepth 20000 in
theorem u_labour_deerOf (d : Nat) (v1 : Int) (M : aM) : w_labour_deerOf (d + 1) v1 M = (
    if 0 < (M 146 3) then
      bndI (w_jm_floorMod d (idiv v1 32) (M 146 3) M) fun y14 M13 =>
      if v1 = 0 then
        some ([aI (-1)], M13)
      else
        if y14 < 10 then
          inb y14 (aLen 147) <|
          some ([aI (M13 147 y14.toNat)], M13)
        else
          some ([aI (-1)], M13)
    else
      if v1 = 0 then
        some ([aI (-1)], M)
      else
        if (0 : Int) < 10 then
          inb 0 (aLen 147) <|
          some ([aI (M 147 0)], M)
        else
          some ([aI (-1)], M)) :=
  (aOm_fix (aSem d) K_labour_deerOf 0 _ [] M).trans rfl
set_option maxRecDepth 20000 in
theorem u_law_emit (d : Nat) (a0 : Nat) (v1 : Int) (M : aM) : w_law_emit (d + 1) a0 v1 M = (
    if (M a0 3) < 0 then
      some ([], M)
    else
      if (M a0 3) < ((aLen (a0 + 1) : Nat) : Int) then
        inb (M a0 3) (aLen (a0 + 1)) <|
        let M13 : aM := aUp M (a0 + 1) (M a0 3).toNat v1
        let M14 : aM := aUp M13 a0 3 (w32 ((M13 a0 3) + 1))
        some ([], M14)
      else
        some ([], M)) :=
  (aOm_fix (aSem d) K_law_emit 0 _ [] M).trans rfl
set_option maxRecDepth 20000 in
theorem u_law_tell (d : Nat) (a0 : Nat) (v1 : Int) (a2 : Nat) (M : aM) : w_law_tell (d + 1) a0 v1 a2 M = (
    w_law_tell_2 d a0 v1 a2 0 M) :=
  (aOm_fix (aSem d) K_law_tell 0 _ [] M).trans rfl
set_option maxRecDepth 20000 in
theorem u_law_tell_2 (d : Nat) (a0 : Nat) (v1 : Int) (a2 : Nat) (v3 : Int) (M : aM) : w_law_tell_2 d a0 v1 a2 v3 M = (
    if v3 < (M (a0 + 3) 2) then
      bndI (w_rows_cell d (a0 + 3) v3 0 M) fun y18 M17 =>
      if y18 = v1 then
        bndI (w_rows_cell d (a0 + 3) v3 2 M17) fun y20 M19 =>
        bndI (w_rows_cell d (a0 + 3) v3 3 M19) fun y22 M21 =>
        if y20 = y22 then
          bndI (w_rows_cell d (a0 + 3) v3 1 M21) fun y24 M23 =>
          bndI (w_law_value d a0 y24 y20 a2 M23) fun y26 M25 =>
          bndI (w_law_held d v1 y26 M25) fun y28 M27 =>
          some ([aI y28], M27)
        else
          bndI (w_law_value d a0 y20 y22 a2 M21) fun y30 M29 =>
          if y30 = 0 then
            let v31 : Int := w32 (v3 + 1)
            w_law_tell_2 d a0 v1 a2 v31 M29
          else
            bndI (w_rows_cell d (a0 + 3) v3 1 M29) fun y33 M32 =>
            bndI (w_law_value d a0 y33 y20 a2 M32) fun y35 M34 =>
            bndI (w_law_held d v1 y35 M34) fun y37 M36 =>
            some ([aI y37], M36)
      else
        let v38 : Int := w32 (v3 + 1)
        w_law_tell_2 d a0 v1 a2 v38 M17
    else
      bndI (w_law_unsaid d v1 a2 M) fun y40 M39 =>
      bndI (w_law_held d v1 y40 M39) fun y42 M41 =>
      some ([aI y42], M41)) :=
  (aOm_fix _ _ _ _ _ _).trans rfl
set_option maxRecDepth 20000 in
theorem u_law_held (d : Nat) (v0 : Int) (v1 : Int) (M : aM) : w_law_held (d + 1) v0 v1 M = (
    if v0 = 0 then
      some ([aI (imax 0 (imin 999 v1))], M)
    else
      if v0 = 1 then
        some ([aI (imax 0 (imin 24 v1))], M)
      else
        some ([aI (imax 0 (imin 9 v1))], M)) :=
  (aOm_fix (aSem d) K_law_held 0 _ [] M).trans rfl
set_option maxRecDepth 20000 in
theorem u_law_unsaid (d : Nat) (v0 : Int) (a1 : Nat) (M : aM) : w_law_unsaid (d + 1) v0 a1 M = (
    if ((aLen a1 : Nat) : Int) < 10 then
      some ([aI 0], M)
    else
      if v0 = 0 then
        inb 3 (aLen a1) <|
        some ([aI (w32 ((M a1 3) + 1))], M)
      else
        if v0 = 1 then
          inb 2 (aLen a1) <|
          some ([aI (w32 (6 + (M a1 2)))], M)
        else
          inb 6 (aLen a1) <|
          some ([aI (idiv (M a1 6) 9)], M)) :=
  (aOm_fix (aSem d) K_law_unsaid 0 _ [] M).trans rfl
set_option maxRecDepth 20000 in
theorem u_law_value (d : Nat) (a0 : Nat) (v1 : Int) (v2 : Int) (a3 : Nat) (M : aM) : w_law_value (d + 1) a0 v1 v2 a3 M = (
    let v15 : Int := (imax 0 v1)
    w_law_value_10 d a0 v2 a3 0 v15 M) :=
  (aOm_fix (aSem d) K_law_value 0 _ [] M).trans rfl
set_option maxRecDepth 20000 in
theorem u_law_value_10 (d : Nat) (a0 : Nat) (v2 : Int) (a3 : Nat) (v4 : Int) (v5 : Int) (M : aM) : w_law_value_10 d a0 v2 a3 v4 v5 M = (
    if v5 < v2 then
      if v5 < ((aLen (a0 + 1) : Nat) : Int) then
        inb v5 (aLen (a0 + 1)) <|
        let v18 : Int := (M (a0 + 1) v5.toNat)
        if (-11) < v18 then
          if v4 < 32 then
            if v18 < 0 then
              if (w32 ((-1) - v18)) < ((aLen a3 : Nat) : Int) then
                inb (w32 ((-1) - v18)) (aLen a3) <|
                inb v4 (aLen (a0 + 2)) <|
                let M19 : aM := aUp M (a0 + 2) v4.toNat (M a3 (w32 ((-1) - v18)).toNat)
                let v20 : Int := w32 (v4 + 1)
                let v21 : Int := w32 (v5 + 1)
                w_law_value_10 d a0 v2 a3 v20 v21 M19
              else
                inb v4 (aLen (a0 + 2)) <|
                let M22 : aM := aUp M (a0 + 2) v4.toNat 0
                let v23 : Int := w32 (v4 + 1)
                let v24 : Int := w32 (v5 + 1)
                w_law_value_10 d a0 v2 a3 v23 v24 M22
            else
              inb v4 (aLen (a0 + 2)) <|
              let M25 : aM := aUp M (a0 + 2) v4.toNat v18
              let v26 : Int := w32 (v4 + 1)
              let v27 : Int := w32 (v5 + 1)
              w_law_value_10 d a0 v2 a3 v26 v27 M25
          else
            let v28 : Int := w32 (v5 + 1)
            w_law_value_10 d a0 v2 a3 v4 v28 M
        else
          if v18 = (-18) then
            if 0 < v4 then
              inb (w32 (v4 - 1)) (aLen (a0 + 2)) <|
              inb (w32 (v4 - 1)) (aLen (a0 + 2)) <|
              let M29 : aM := aUp M (a0 + 2) (w32 (v4 - 1)).toNat (w32 (1 - (M (a0 + 2) (w32 (v4 - 1)).toNat)))
              let v30 : Int := w32 (v5 + 1)
              w_law_value_10 d a0 v2 a3 v4 v30 M29
            else
              let v31 : Int := w32 (v5 + 1)
              w_law_value_10 d a0 v2 a3 v4 v31 M
          else
            if 1 < v4 then
              let v32 : Int := w32 (v4 + (-1))
              inb (w32 (v32 - 1)) (aLen (a0 + 2)) <|
              inb v32 (aLen (a0 + 2)) <|
              bndI (w_law_joined d v18 (M (a0 + 2) (w32 (v32 - 1)).toNat) (M (a0 + 2) v32.toNat) M) fun y34 M33 =>
              inb (w32 (v32 - 1)) (aLen (a0 + 2)) <|
              let M35 : aM := aUp M33 (a0 + 2) (w32 (v32 - 1)).toNat y34
              let v36 : Int := w32 (v5 + 1)
              w_law_value_10 d a0 v2 a3 v32 v36 M35
            else
              let v37 : Int := w32 (v5 + 1)
              w_law_value_10 d a0 v2 a3 v4 v37 M
      else
        if 0 < v4 then
          inb (w32 (v4 - 1)) (aLen (a0 + 2)) <|
          some ([aI (M (a0 + 2) (w32 (v4 - 1)).toNat)], M)
        else
          some ([aI 0], M)
    else
      if 0 < v4 then
        inb (w32 (v4 - 1)) (aLen (a0 + 2)) <|
        some ([aI (M (a0 + 2) (w32 (v4 - 1)).toNat)], M)
      else
        some ([aI 0], M)) :=
  (aOm_fix _ _ _ _ _ _).trans rfl
set_option maxRecDepth 20000 in
theorem u_law_joined (d : Nat) (v0 : Int) (v1 : Int) (v2 : Int) (M : aM) : w_law_joined (d + 1) v0 v1 v2 M = (
    if v0 = (-19) then
      some ([aI (iand v1 v2)], M)
    else
    if v0 = (-18) then
      some ([aI (ior v1 v2)], M)
    else
    if v0 = (-17) then
      if v2 < v1 then
        some ([aI 1], M)
      else
        some ([aI 0], M)
    else
    if v0 = (-16) then
      if v1 = v2 then
        some ([aI 1], M)
      else
        some ([aI 0], M)
    else
    if v0 = (-15) then
      if v1 < v2 then
        some ([aI 1], M)
      else
        some ([aI 0], M)
    else
    if v0 = (-14) then
      if v2 = 0 then
        some ([aI 0], M)
      else
        if v2 = 0 then none else
        some ([aI (idiv v1 v2)], M)
    else
    if v0 = (-13) then
      some ([aI (w32 (v1 * v2))], M)
    else
    if v0 = (-12) then
      some ([aI (w32 (v1 - v2))], M)
    else
    if v0 = (-11) then
      some ([aI (w32 (v1 + v2))], M)
    else
      some ([aI (ior v1 v2)], M)) :=
  (aOm_fix (aSem d) K_law_joined 0 _ [] M).trans rfl
set_option maxRecDepth 20000 in
theorem u_law_clear (d : Nat) (a0 : Nat) (M : aM) : w_law_clear (d + 1) a0 M = (
    let M12 : aM := aUp M (a0 + 3) 2 0
    let M13 : aM := aUp M12 a0 3 0
    some ([], M13)) :=
  (aOm_fix (aSem d) K_law_clear 0 _ [] M).trans rfl
set_option maxRecDepth 20000 in
theorem u_law_copyFrom (d : Nat) (a0 : Nat) (a1 : Nat) (M : aM) : w_law_copyFrom (d + 1) a0 a1 M = (
    let M13 : aM := aUp M a0 3 (imax 0 (imin 400 (M a1 3)))
    if (0 : Int) ≤ (M13 a0 3) ∧ (0 : Int) ≤ 0 ∧ (0 : Int) ≤ 0 ∧ (0 + (M13 a0 3) : Int) ≤ aLen (a1 + 1) ∧ (0 + (M13 a0 3) : Int) ≤ aLen (a0 + 1) then
      let M14 : aM := aCpy M13 (a1 + 1) (a0 + 1) 0 0 (M13 a0 3).toNat
      bndV (w_rows_copyFrom d (a0 + 3) (a1 + 3) M14) fun M15 =>
      some ([], M15)
    else none) :=
  (aOm_fix (aSem d) K_law_copyFrom 0 _ [] M).trans rfl
set_option maxRecDepth 20000 in
theorem u_ord_howMany (d : Nat) (a1 : Nat) (M : aM) : w_ord_howMany (d + 1) a1 M = (
    bndV (w_ord_learn d a1 M) fun M13 =>
    bndI (w_ord_herdSize d a1 M13) fun y15 M14 =>
    bndI (w_ord_countUpTo d y15 M14) fun y17 M16 =>
    some ([aI y17], M16)) :=
  (aOm_fix (aSem d) K_ord_howMany 0 _ [] M).trans rfl
set_option maxRecDepth 20000 in
theorem u_ord_herdSize (d : Nat) (a0 : Nat) (M : aM) : w_ord_herdSize (d + 1) a0 M = (
    some ([aI (imax 0 (imin 10 (M (a0 + 1) 4)))], M)) :=
  (aOm_fix (aSem d) K_ord_herdSize 0 _ [] M).trans rfl
set_option maxRecDepth 20000 in
theorem u_ord_learn (d : Nat) (a1 : Nat) (M : aM) : w_ord_learn (d + 1) a1 M = (
    bndV (w_ja_fillI d 142 0 M) fun M13 =>
    w_ord_learn_10 d a1 0 M13) :=
  (aOm_fix (aSem d) K_ord_learn 0 _ [] M).trans rfl
set_option maxRecDepth 20000 in
theorem u_ord_learn_10 (d : Nat) (a1 : Nat) (v2 : Int) (M : aM) : w_ord_learn_10 d a1 v2 M = (
    if v2 < (M (a1 + 19) 2) then
      bndI (w_rows_cell d (a1 + 19) v2 0 M) fun y17 M16 =>
      bndI (w_rows_cell d (a1 + 19) v2 1 M16) fun y19 M18 =>
      bndI (w_wood_has d (a1 + 1) y17 M18) fun y21 M20 =>
      if y21 = 0 then
        let v22 : Int := w32 (v2 + 1)
        w_ord_learn_10 d a1 v22 M20
      else
        bndI (w_wood_has d (a1 + 1) y19 M20) fun y24 M23 =>
        if y24 = 0 then
          let v25 : Int := w32 (v2 + 1)
          w_ord_learn_10 d a1 v25 M23
        else
          inb y19 (aLen 142) <|
          inb y19 (aLen 142) <|
          let M26 : aM := aUp M23 142 y19.toNat (ior (M23 142 y19.toNat) (ishl 1 y17))
          let v27 : Int := w32 (v2 + 1)
          w_ord_learn_10 d a1 v27 M26
    else
      some ([], M)) :=
  (aOm_fix _ _ _ _ _ _).trans rfl
set_option maxRecDepth 20000 in
theorem u_ord_canFollow (d : Nat) (v1 : Int) (v2 : Int) (M : aM) : w_ord_canFollow (d + 1) v1 v2 M = (
    if (iand (ishr v1 v2) 1) = 0 then
      inb v2 (aLen 142) <|
      if (iand (M 142 v2.toNat) (ixor v1 (-1))) = 0 then
        some ([aI 1], M)
      else
        some ([aI 0], M)
    else
      some ([aI 0], M)) :=
  (aOm_fix (aSem d) K_ord_canFollow 0 _ [] M).trans rfl
set_option maxRecDepth 20000 in
theorem u_ord_countUpTo (d : Nat) (v1 : Int) (M : aM) : w_ord_countUpTo (d + 1) v1 M = (
    bndV (w_ja_fillI d 143 0 M) fun M13 =>
    let v14 : Int := (w32 ((ishl 1 v1) - 1))
    inb 0 (aLen 143) <|
    let M15 : aM := aUp M13 143 0 1
    w_ord_countUpTo_23 d v1 v14 0 M15) :=
  (aOm_fix (aSem d) K_ord_countUpTo 0 _ [] M).trans rfl
set_option maxRecDepth 20000 in
theorem u_ord_countUpTo_23 (d : Nat) (v1 : Int) (v2 : Int) (v3 : Int) (M : aM) : w_ord_countUpTo_23 d v1 v2 v3 M = (
    if v3 < v2 then
      w_ord_countUpTo_31 d v1 v2 v3 0 M
    else
      inb v2 (aLen 143) <|
      some ([aI (M 143 v2.toNat)], M)) :=
  (aOm_fix _ _ _ _ _ _).trans rfl
set_option maxRecDepth 20000 in
theorem u_ord_countUpTo_31 (d : Nat) (v1 : Int) (v2 : Int) (v3 : Int) (v4 : Int) (M : aM) : w_ord_countUpTo_31 d v1 v2 v3 v4 M = (
    if v4 < v1 then
      inb v3 (aLen 143) <|
      if (M 143 v3.toNat) = 0 then
        let v16 : Int := w32 (v3 + 1)
        w_ord_countUpTo_23 d v1 v2 v16 M
      else
        bndI (w_ord_canFollow d v3 v4 M) fun y18 M17 =>
        if y18 = 0 then
          let v19 : Int := w32 (v4 + 1)
          w_ord_countUpTo_31 d v1 v2 v3 v19 M17
        else
          inb (ior v3 (ishl 1 v4)) (aLen 143) <|
          inb v3 (aLen 143) <|
          inb (ior v3 (ishl 1 v4)) (aLen 143) <|
          let M20 : aM := aUp M17 143 (ior v3 (ishl 1 v4)).toNat (w32 ((M17 143 (ior v3 (ishl 1 v4)).toNat) + (M17 143 v3.toNat)))
          let v21 : Int := w32 (v4 + 1)
          w_ord_countUpTo_31 d v1 v2 v3 v21 M20
    else
      let v22 : Int := w32 (v3 + 1)
      w_ord_countUpTo_23 d v1 v2 v22 M) :=
  (aOm_fix _ _ _ _ _ _).trans rfl
set_option maxRecDepth 20000 in
theorem u_ord_countBehind (d : Nat) (v1 : Int) (M : aM) : w_ord_countBehind (d + 1) v1 M = (
    bndV (w_ja_fillI d 144 0 M) fun M13 =>
    let v14 : Int := (w32 ((ishl 1 v1) - 1))
    inb v14 (aLen 144) <|
    let M15 : aM := aUp M13 144 v14.toNat 1
    let v16 : Int := (w32 (v14 - 1))
    w_ord_countBehind_25 d v1 v16 M15) :=
  (aOm_fix (aSem d) K_ord_countBehind 0 _ [] M).trans rfl
set_option maxRecDepth 20000 in
theorem u_ord_countBehind_25 (d : Nat) (v1 : Int) (v3 : Int) (M : aM) : w_ord_countBehind_25 d v1 v3 M = (
    if v3 < 0 then
      some ([], M)
    else
      w_ord_countBehind_32 d v1 v3 0 M) :=
  (aOm_fix _ _ _ _ _ _).trans rfl
set_option maxRecDepth 20000 in
theorem u_ord_countBehind_32 (d : Nat) (v1 : Int) (v3 : Int) (v4 : Int) (M : aM) : w_ord_countBehind_32 d v1 v3 v4 M = (
    if v4 < v1 then
      inb v3 (aLen 143) <|
      if (M 143 v3.toNat) = 0 then
        let v16 : Int := w32 (v3 + (-1))
        w_ord_countBehind_25 d v1 v16 M
      else
        bndI (w_ord_canFollow d v3 v4 M) fun y18 M17 =>
        if y18 = 0 then
          let v19 : Int := w32 (v4 + 1)
          w_ord_countBehind_32 d v1 v3 v19 M17
        else
          inb v3 (aLen 144) <|
          inb (ior v3 (ishl 1 v4)) (aLen 144) <|
          inb v3 (aLen 144) <|
          let M20 : aM := aUp M17 144 v3.toNat (w32 ((M17 144 v3.toNat) + (M17 144 (ior v3 (ishl 1 v4)).toNat)))
          let v21 : Int := w32 (v4 + 1)
          w_ord_countBehind_32 d v1 v3 v21 M20
    else
      let v22 : Int := w32 (v3 + (-1))
      w_ord_countBehind_25 d v1 v22 M) :=
  (aOm_fix _ _ _ _ _ _).trans rfl
set_option maxRecDepth 20000 in
theorem u_ord_countCouples (d : Nat) (v1 : Int) (M : aM) : w_ord_countCouples (d + 1) v1 M = (
    bndV (w_ja_fillI d 145 0 M) fun M13 =>
    let v14 : Int := (w32 ((ishl 1 v1) - 1))
    w_ord_countCouples_16 d v1 v14 1 M13) :=
  (aOm_fix (aSem d) K_ord_countCouples 0 _ [] M).trans rfl
set_option maxRecDepth 20000 in
theorem u_ord_countCouples_16 (d : Nat) (v1 : Int) (v2 : Int) (v3 : Int) (M : aM) : w_ord_countCouples_16 d v1 v2 v3 M = (
    if v3 < v2 then
      w_ord_countCouples_24 d v1 v2 v3 0 M
    else
      some ([], M)) :=
  (aOm_fix _ _ _ _ _ _).trans rfl
set_option maxRecDepth 20000 in
theorem u_ord_countCouples_24 (d : Nat) (v1 : Int) (v2 : Int) (v3 : Int) (v4 : Int) (M : aM) : w_ord_countCouples_24 d v1 v2 v3 v4 M = (
    if v4 < v1 then
      inb v3 (aLen 143) <|
      if (M 143 v3.toNat) = 0 then
        let v18 : Int := w32 (v3 + 1)
        w_ord_countCouples_16 d v1 v2 v18 M
      else
        bndI (w_ord_canFollow d v3 v4 M) fun y20 M19 =>
        if y20 = 0 then
          w_ord_countCouples_76 d v1 v2 v3 v4 0 0 M19
        else
          inb v3 (aLen 143) <|
          inb (ior v3 (ishl 1 v4)) (aLen 144) <|
          let v21 : Int := (w32 ((M19 143 v3.toNat) * (M19 144 (ior v3 (ishl 1 v4)).toNat)))
          w_ord_countCouples_76 d v1 v2 v3 v4 v21 0 M19
    else
      let v22 : Int := w32 (v3 + 1)
      w_ord_countCouples_16 d v1 v2 v22 M) :=
  (aOm_fix _ _ _ _ _ _).trans rfl
set_option maxRecDepth 20000 in
theorem u_ord_countCouples_76 (d : Nat) (v1 : Int) (v2 : Int) (v3 : Int) (v4 : Int) (v5 : Int) (v6 : Int) (M : aM) : w_ord_countCouples_76 d v1 v2 v3 v4 v5 v6 M = (
    if v6 < v1 then
      if v5 = 0 then
        let v18 : Int := w32 (v4 + 1)
        w_ord_countCouples_24 d v1 v2 v3 v18 M
      else
        inb (w32 ((w32 (v6 * 10)) + v4)) (aLen 145) <|
        inb (w32 ((w32 (v6 * 10)) + v4)) (aLen 145) <|
        let M19 : aM := aUp M 145 (w32 ((w32 (v6 * 10)) + v4)).toNat (w32 ((M 145 (w32 ((w32 (v6 * 10)) + v4)).toNat) + (w32 (v5 * (iand (ishr v3 v6) 1)))))
        let v20 : Int := w32 (v6 + 1)
        w_ord_countCouples_76 d v1 v2 v3 v4 v5 v20 M19
    else
      let v21 : Int := w32 (v4 + 1)
      w_ord_countCouples_24 d v1 v2 v3 v21 M) :=
  (aOm_fix _ _ _ _ _ _).trans rfl
set_option maxRecDepth 20000 in
theorem u_ord_asks (d : Nat) (a1 : Nat) (v2 : Int) (M : aM) : w_ord_asks (d + 1) a1 v2 M = (
    bndI (w_ord_herdSize d a1 M) fun y15 M14 =>
    bndV (w_ord_learn d a1 M14) fun M16 =>
    bndI (w_ord_countUpTo d y15 M16) fun y18 M17 =>
    if y18 < 2 then
      some ([aI (-1)], M17)
    else
      bndV (w_ord_countBehind d y15 M17) fun M19 =>
      bndV (w_ord_countCouples d y15 M19) fun M20 =>
      w_ord_asks_40 d v2 y15 0 (-1) 0 M20) :=
  (aOm_fix (aSem d) K_ord_asks 0 _ [] M).trans rfl
set_option maxRecDepth 20000 in
theorem u_ord_asks_40 (d : Nat) (v2 : Int) (v3 : Int) (v4 : Int) (v5 : Int) (v6 : Int) (M : aM) : w_ord_asks_40 d v2 v3 v4 v5 v6 M = (
    if v6 < v3 then
      let v20 : Int := (w32 (v6 + 1))
      w_ord_asks_52 d v2 v3 v4 v5 v6 v20 M
    else
      if v5 = (-1) then
        some ([aI (-1)], M)
      else
        if v2 = 0 then
          some ([aI (irem v5 10)], M)
        else
          some ([aI (idiv v5 10)], M)) :=
  (aOm_fix _ _ _ _ _ _).trans rfl
set_option maxRecDepth 20000 in
theorem u_ord_asks_52 (d : Nat) (v2 : Int) (v3 : Int) (v4 : Int) (v5 : Int) (v6 : Int) (v7 : Int) (M : aM) : w_ord_asks_52 d v2 v3 v4 v5 v6 v7 M = (
    if v7 < v3 then
      inb (w32 ((w32 (v6 * 10)) + v7)) (aLen 145) <|
      inb (w32 ((w32 (v7 * 10)) + v6)) (aLen 145) <|
      let v20 : Int := (imax (M 145 (w32 ((w32 (v6 * 10)) + v7)).toNat) (M 145 (w32 ((w32 (v7 * 10)) + v6)).toNat))
      if v5 = (-1) then
        let v21 : Int := (w32 ((w32 (v6 * 10)) + v7))
        let v22 : Int := w32 (v7 + 1)
        w_ord_asks_52 d v2 v3 v20 v21 v6 v22 M
      else
        if v20 < v4 then
          let v23 : Int := (w32 ((w32 (v6 * 10)) + v7))
          let v24 : Int := w32 (v7 + 1)
          w_ord_asks_52 d v2 v3 v20 v23 v6 v24 M
        else
          let v25 : Int := w32 (v7 + 1)
          w_ord_asks_52 d v2 v3 v4 v5 v6 v25 M
    else
      let v26 : Int := w32 (v6 + 1)
      w_ord_asks_40 d v2 v3 v4 v5 v26 M) :=
  (aOm_fix _ _ _ _ _ _).trans rfl
set_option maxRecDepth 20000 in
theorem u_ord_placeOfFirst (d : Nat) (a1 : Nat) (v2 : Int) (M : aM) : w_ord_placeOfFirst (d + 1) a1 v2 M = (
    bndI (w_ord_herdSize d a1 M) fun y15 M14 =>
    bndV (w_ord_learn d a1 M14) fun M16 =>
    w_ord_placeOfFirst_19 d v2 y15 0 (-1) 0 M16) :=
  (aOm_fix (aSem d) K_ord_placeOfFirst 0 _ [] M).trans rfl
set_option maxRecDepth 20000 in
theorem u_ord_placeOfFirst_19 (d : Nat) (v2 : Int) (v3 : Int) (v4 : Int) (v5 : Int) (v6 : Int) (M : aM) : w_ord_placeOfFirst_19 d v2 v3 v4 v5 v6 M = (
    if v6 < v3 then
      bndI (w_ord_leastToFollow d v4 v3 M) fun y20 M19 =>
      if y20 = (-1) then
        some ([aI (-1)], M19)
      else
        let v21 : Int := (ior v4 (ishl 1 y20))
        if v6 = v2 then
          let v22 : Int := w32 (v6 + 1)
          w_ord_placeOfFirst_19 d v2 v3 v21 y20 v22 M19
        else
          let v23 : Int := w32 (v6 + 1)
          w_ord_placeOfFirst_19 d v2 v3 v21 v5 v23 M19
    else
      some ([aI v5], M)) :=
  (aOm_fix _ _ _ _ _ _).trans rfl
set_option maxRecDepth 20000 in
theorem u_ord_leastToFollow (d : Nat) (v1 : Int) (v2 : Int) (M : aM) : w_ord_leastToFollow (d + 1) v1 v2 M = (
    w_ord_leastToFollow_2 d v1 v2 0 M) :=
  (aOm_fix (aSem d) K_ord_leastToFollow 0 _ [] M).trans rfl
set_option maxRecDepth 20000 in
theorem u_ord_leastToFollow_2 (d : Nat) (v1 : Int) (v2 : Int) (v3 : Int) (M : aM) : w_ord_leastToFollow_2 d v1 v2 v3 M = (
    if v3 < v2 then
      bndI (w_ord_canFollow d v1 v3 M) fun y16 M15 =>
      if y16 = 0 then
        let v17 : Int := w32 (v3 + 1)
        w_ord_leastToFollow_2 d v1 v2 v17 M15
      else
        some ([aI v3], M15)
    else
      some ([aI (-1)], M)) :=
  (aOm_fix _ _ _ _ _ _).trans rfl
set_option maxRecDepth 20000 in
theorem u_rd_read (d : Nat) (v1 : Int) (v2 : Int) (M : aM) : w_rd_read (d + 1) v1 v2 M = (
    let M14 : aM := aUp M 132 2 0
    let M15 : aM := aUp M14 132 3 (-1)
    if v1 < 0 then
      some ([aI 0], M15)
    else
      if 3 < v1 then
        some ([aI 0], M15)
      else
        bndS (w_rd_wordsOf d v1 M15) fun s17 M16 =>
        bndV (w_tape_split d s17 M16) fun M18 =>
        let M19 : aM := aUp M18 132 9 (-1)
        bndV (w_rd_step d M19) fun M20 =>
        bndV (w_law_clear d 133 M20) fun M21 =>
        let M22 : aM := aUp M21 138 2 0
        if v1 = 3 then
          w_rd_read_72 d v1 v2 8 0 M22
        else
          w_rd_read_72 d v1 v2 16 0 M22) :=
  (aOm_fix (aSem d) K_rd_read 0 _ [] M).trans rfl
set_option maxRecDepth 20000 in
theorem u_rd_read_72 (d : Nat) (v1 : Int) (v2 : Int) (v3 : Int) (v4 : Int) (M : aM) : w_rd_read_72 d v1 v2 v3 v4 M = (
    if v3 < v4 then
      if (M 132 2) = 0 then
        some ([aI 1], M)
      else
        some ([aI 0], M)
    else
      if (M 132 2) = 0 then
        if (M 132 10) = 0 then
          if (M 132 2) = 0 then
            some ([aI 1], M)
          else
            some ([aI 0], M)
        else
          let v17 : Int := (w32 ((M 132 10) - 256))
          if v17 < 0 then
            bndV (w_rd_fail d 1 M) fun M18 =>
            w_rd_read_186 d v1 v2 v3 v4 M18
          else
            if v1 = 0 then
              if 2 < v17 then
                bndV (w_rd_fail d 1 M) fun M19 =>
                w_rd_read_186 d v1 v2 v3 v4 M19
              else
                if v4 < v3 then
                  if v1 = 0 then
                    bndV (w_rd_lawLine d v17 M) fun M20 =>
                    w_rd_read_186 d v1 v2 v3 v4 M20
                  else
                    if v1 = 1 then
                      bndV (w_rd_planLine d v2 M) fun M21 =>
                      w_rd_read_186 d v1 v2 v3 v4 M21
                    else
                      if v1 = 2 then
                        bndV (w_rd_dueLine d v2 M) fun M22 =>
                        w_rd_read_186 d v1 v2 v3 v4 M22
                      else
                        bndV (w_rd_feastLine d M) fun M23 =>
                        w_rd_read_186 d v1 v2 v3 v4 M23
                else
                  bndV (w_rd_fail d 3 M) fun M24 =>
                  w_rd_read_186 d v1 v2 v3 v4 M24
            else
              if 0 < v17 then
                bndV (w_rd_fail d 1 M) fun M25 =>
                w_rd_read_186 d v1 v2 v3 v4 M25
              else
                if v4 < v3 then
                  if v1 = 0 then
                    bndV (w_rd_lawLine d v17 M) fun M26 =>
                    w_rd_read_186 d v1 v2 v3 v4 M26
                  else
                    if v1 = 1 then
                      bndV (w_rd_planLine d v2 M) fun M27 =>
                      w_rd_read_186 d v1 v2 v3 v4 M27
                    else
                      if v1 = 2 then
                        bndV (w_rd_dueLine d v2 M) fun M28 =>
                        w_rd_read_186 d v1 v2 v3 v4 M28
                      else
                        bndV (w_rd_feastLine d M) fun M29 =>
                        w_rd_read_186 d v1 v2 v3 v4 M29
                else
                  bndV (w_rd_fail d 3 M) fun M30 =>
                  w_rd_read_186 d v1 v2 v3 v4 M30
      else
        if (M 132 2) = 0 then
          some ([aI 1], M)
        else
          some ([aI 0], M)) :=
  (aOm_fix _ _ _ _ _ _).trans rfl
set_option maxRecDepth 20000 in
theorem u_rd_read_186 (d : Nat) (v1 : Int) (v2 : Int) (v3 : Int) (v4 : Int) (M : aM) : w_rd_read_186 d v1 v2 v3 v4 M = (
    let v17 : Int := w32 (v4 + 1)
    w_rd_read_72 d v1 v2 v3 v17 M) :=
  (aOm_fix _ _ _ _ _ _).trans rfl
set_option maxRecDepth 20000 in
theorem u_rd_wordsOf (d : Nat) (v0 : Int) (M : aM) : w_rd_wordsOf (d + 1) v0 M = (
    if v0 = 0 then
      some ([aQ 24 0], M)
    else
    if v0 = 1 then
      some ([aQ 24 1], M)
    else
    if v0 = 2 then
      some ([aQ 24 2], M)
    else
      some ([aQ 24 3], M)) :=
  (aOm_fix (aSem d) K_rd_wordsOf 0 _ [] M).trans rfl
set_option maxRecDepth 20000 in
theorem u_rd_step (d : Nat)  (M : aM) : w_rd_step (d + 1)  M = (
    let M12 : aM := aUp M 132 9 (w32 ((M 132 9) + 1))
    if (M12 132 9) < 0 then
      w_rd_step_45 d M12
    else
      if (M12 132 9) < (M12 127 4) then
        if (M12 132 9) < 400 then
          if (1 : Int) = 0 then
            let M13 : aM := aUp M12 132 10 0
            if (1 : Int) = 0 then
              let M14 : aM := aUp M13 132 11 0
              if (1 : Int) = 0 then
                let M15 : aM := aUp M14 132 12 (M14 127 5)
                some ([], M15)
              else
                inb (M14 132 9) (aLen 131) <|
                let M16 : aM := aUp M14 132 12 (M14 131 (M14 132 9).toNat)
                some ([], M16)
            else
              inb (M13 132 9) (aLen 130) <|
              let M17 : aM := aUp M13 132 11 (M13 130 (M13 132 9).toNat)
              if (1 : Int) = 0 then
                let M18 : aM := aUp M17 132 12 (M17 127 5)
                some ([], M18)
              else
                inb (M17 132 9) (aLen 131) <|
                let M19 : aM := aUp M17 132 12 (M17 131 (M17 132 9).toNat)
                some ([], M19)
          else
            inb (M12 132 9) (aLen 129) <|
            let M20 : aM := aUp M12 132 10 (M12 129 (M12 132 9).toNat)
            if (1 : Int) = 0 then
              let M21 : aM := aUp M20 132 11 0
              if (1 : Int) = 0 then
                let M22 : aM := aUp M21 132 12 (M21 127 5)
                some ([], M22)
              else
                inb (M21 132 9) (aLen 131) <|
                let M23 : aM := aUp M21 132 12 (M21 131 (M21 132 9).toNat)
                some ([], M23)
            else
              inb (M20 132 9) (aLen 130) <|
              let M24 : aM := aUp M20 132 11 (M20 130 (M20 132 9).toNat)
              if (1 : Int) = 0 then
                let M25 : aM := aUp M24 132 12 (M24 127 5)
                some ([], M25)
              else
                inb (M24 132 9) (aLen 131) <|
                let M26 : aM := aUp M24 132 12 (M24 131 (M24 132 9).toNat)
                some ([], M26)
        else
          w_rd_step_45 d M12
      else
        w_rd_step_45 d M12) :=
  (aOm_fix (aSem d) K_rd_step 0 _ [] M).trans rfl
set_option maxRecDepth 20000 in
theorem u_rd_step_45 (d : Nat)  (M : aM) : w_rd_step_45 d  M = (
    if (0 : Int) = 0 then
      let M13 : aM := aUp M 132 10 0
      if (0 : Int) = 0 then
        let M14 : aM := aUp M13 132 11 0
        if (0 : Int) = 0 then
          let M15 : aM := aUp M14 132 12 (M14 127 5)
          some ([], M15)
        else
          inb (M14 132 9) (aLen 131) <|
          let M16 : aM := aUp M14 132 12 (M14 131 (M14 132 9).toNat)
          some ([], M16)
      else
        inb (M13 132 9) (aLen 130) <|
        let M17 : aM := aUp M13 132 11 (M13 130 (M13 132 9).toNat)
        if (0 : Int) = 0 then
          let M18 : aM := aUp M17 132 12 (M17 127 5)
          some ([], M18)
        else
          inb (M17 132 9) (aLen 131) <|
          let M19 : aM := aUp M17 132 12 (M17 131 (M17 132 9).toNat)
          some ([], M19)
    else
      inb (M 132 9) (aLen 129) <|
      let M20 : aM := aUp M 132 10 (M 129 (M 132 9).toNat)
      if (0 : Int) = 0 then
        let M21 : aM := aUp M20 132 11 0
        if (0 : Int) = 0 then
          let M22 : aM := aUp M21 132 12 (M21 127 5)
          some ([], M22)
        else
          inb (M21 132 9) (aLen 131) <|
          let M23 : aM := aUp M21 132 12 (M21 131 (M21 132 9).toNat)
          some ([], M23)
      else
        inb (M20 132 9) (aLen 130) <|
        let M24 : aM := aUp M20 132 11 (M20 130 (M20 132 9).toNat)
        if (0 : Int) = 0 then
          let M25 : aM := aUp M24 132 12 (M24 127 5)
          some ([], M25)
        else
          inb (M24 132 9) (aLen 131) <|
          let M26 : aM := aUp M24 132 12 (M24 131 (M24 132 9).toNat)
          some ([], M26)) :=
  (aOm_fix _ _ _ _ _ _).trans rfl
set_option maxRecDepth 20000 in
theorem u_rd_fail (d : Nat) (v1 : Int) (M : aM) : w_rd_fail (d + 1) v1 M = (
    if (M 132 2) = 0 then
      let M13 : aM := aUp M 132 2 v1
      let M14 : aM := aUp M13 132 3 (M13 132 12)
      some ([], M14)
    else
      some ([], M)) :=
  (aOm_fix (aSem d) K_rd_fail 0 _ [] M).trans rfl
set_option maxRecDepth 20000 in
theorem u_rd_take (d : Nat) (v1 : Int) (M : aM) : w_rd_take (d + 1) v1 M = (
    if (M 132 10) = v1 then
      bndV (w_rd_step d M) fun M13 =>
      some ([], M13)
    else
      bndV (w_rd_fail d 1 M) fun M14 =>
      some ([], M14)) :=
  (aOm_fix (aSem d) K_rd_take 0 _ [] M).trans rfl
set_option maxRecDepth 20000 in
theorem u_rd_takeNumber (d : Nat) (v1 : Int) (v2 : Int) (M : aM) : w_rd_takeNumber (d + 1) v1 v2 M = (
    let v14 : Int := (M 132 11)
    if (M 132 10) = 1 then
      if v14 < v1 then
        bndV (w_rd_fail d 2 M) fun M15 =>
        some ([aI v14], M15)
      else
        if v2 < v14 then
          bndV (w_rd_fail d 2 M) fun M16 =>
          some ([aI v14], M16)
        else
          bndV (w_rd_step d M) fun M17 =>
          some ([aI v14], M17)
    else
      bndV (w_rd_fail d 1 M) fun M18 =>
      some ([aI v14], M18)) :=
  (aOm_fix (aSem d) K_rd_takeNumber 0 _ [] M).trans rfl
set_option maxRecDepth 20000 in
theorem u_rd_planLine (d : Nat) (v1 : Int) (M : aM) : w_rd_planLine (d + 1) v1 M = (
    bndV (w_rd_step d M) fun M13 =>
    bndI (w_rd_takeNumber d 0 999 M13) fun y15 M14 =>
    let v16 : Int := (w32 ((M14 132 10) - 256))
    if (M14 132 2) = 0 then
      if v16 < 1 then
        bndV (w_rd_fail d 1 M14) fun M17 =>
        w_rd_planLine_47 d v1 y15 v16 0 M17
      else
        if 5 < v16 then
          bndV (w_rd_fail d 1 M14) fun M18 =>
          w_rd_planLine_47 d v1 y15 v16 0 M18
        else
          w_rd_planLine_47 d v1 y15 v16 0 M14
    else
      w_rd_planLine_47 d v1 y15 v16 0 M14) :=
  (aOm_fix (aSem d) K_rd_planLine 0 _ [] M).trans rfl
set_option maxRecDepth 20000 in
theorem u_rd_planLine_47 (d : Nat) (v1 : Int) (v2 : Int) (v3 : Int) (v4 : Int) (M : aM) : w_rd_planLine_47 d v1 v2 v3 v4 M = (
    if (M 132 2) = 0 then
      bndV (w_rd_step d M) fun M16 =>
      if v3 = 1 then
        bndI (w_rd_takeNumber d 0 99 M16) fun y18 M17 =>
        w_rd_planLine_96 d v2 v3 y18 M17
      else
        if v3 = 2 then
          bndI (w_rd_takeNumber d 0 99 M16) fun y20 M19 =>
          w_rd_planLine_96 d v2 v3 y20 M19
        else
          if v3 = 3 then
            w_rd_planLine_96 d v2 v3 v4 M16
          else
            bndI (w_rd_takeNumber d 0 (w32 (v1 - 1)) M16) fun y22 M21 =>
            w_rd_planLine_96 d v2 v3 y22 M21
    else
      some ([], M)) :=
  (aOm_fix _ _ _ _ _ _).trans rfl
set_option maxRecDepth 20000 in
theorem u_rd_planLine_96 (d : Nat) (v2 : Int) (v3 : Int) (v4 : Int) (M : aM) : w_rd_planLine_96 d v2 v3 v4 M = (
    bndV (w_rd_take d 59 M) fun M16 =>
    bndI (w_rows_put d 138 v2 v3 v4 0 M16) fun y18 M17 =>
    some ([], M17)) :=
  (aOm_fix _ _ _ _ _ _).trans rfl
set_option maxRecDepth 20000 in
theorem u_rd_dueLine (d : Nat) (v1 : Int) (M : aM) : w_rd_dueLine (d + 1) v1 M = (
    bndV (w_rd_step d M) fun M13 =>
    bndI (w_rd_takeNumber d 1 999 M13) fun y15 M14 =>
    bndV (w_rd_take d 257 M14) fun M16 =>
    bndI (w_rd_takeNumber d 0 (w32 (v1 - 1)) M16) fun y18 M17 =>
    if (M17 132 2) = 0 then
      if (M17 132 10) = 258 then
        bndV (w_rd_step d M17) fun M19 =>
        bndI (w_rd_takeNumber d 0 999 M19) fun y21 M20 =>
        bndV (w_rd_take d 59 M20) fun M22 =>
        bndI (w_rows_put d 138 y15 y18 y21 0 M22) fun y24 M23 =>
        some ([], M23)
      else
        bndV (w_rd_take d 59 M17) fun M25 =>
        bndI (w_rows_put d 138 y15 y18 (-1) 0 M25) fun y27 M26 =>
        some ([], M26)
    else
      bndV (w_rd_take d 59 M17) fun M28 =>
      bndI (w_rows_put d 138 y15 y18 (-1) 0 M28) fun y30 M29 =>
      some ([], M29)) :=
  (aOm_fix (aSem d) K_rd_dueLine 0 _ [] M).trans rfl
set_option maxRecDepth 20000 in
theorem u_rd_feastLine (d : Nat)  (M : aM) : w_rd_feastLine (d + 1)  M = (
    bndV (w_rd_step d M) fun M12 =>
    bndI (w_rd_takeNumber d 0 30 M12) fun y14 M13 =>
    bndV (w_rd_take d 257 M13) fun M15 =>
    bndI (w_rd_takeNumber d 0 9 M15) fun y17 M16 =>
    bndV (w_rd_take d 59 M16) fun M18 =>
    bndI (w_rows_put d 138 y14 y17 0 0 M18) fun y20 M19 =>
    some ([], M19)) :=
  (aOm_fix (aSem d) K_rd_feastLine 0 _ [] M).trans rfl
set_option maxRecDepth 20000 in
theorem u_rd_lawLine (d : Nat) (v1 : Int) (M : aM) : w_rd_lawLine (d + 1) v1 M = (
    bndV (w_rd_step d M) fun M13 =>
    let v14 : Int := (M13 133 3)
    bndV (w_rd_expression d M13) fun M15 =>
    let v16 : Int := (M15 133 3)
    if (M15 132 2) = 0 then
      if (M15 132 10) = 259 then
        bndV (w_rd_step d M15) fun M17 =>
        bndV (w_rd_condition d M17) fun M18 =>
        w_rd_lawLine_49 d v1 v14 v16 M18
      else
        w_rd_lawLine_49 d v1 v14 v16 M15
    else
      w_rd_lawLine_49 d v1 v14 v16 M15) :=
  (aOm_fix (aSem d) K_rd_lawLine 0 _ [] M).trans rfl
set_option maxRecDepth 20000 in
theorem u_rd_lawLine_49 (d : Nat) (v1 : Int) (v2 : Int) (v3 : Int) (M : aM) : w_rd_lawLine_49 d v1 v2 v3 M = (
    if (M 132 2) = 0 then
      bndV (w_rd_take d 59 M) fun M15 =>
      bndI (w_rows_put d 136 v1 v2 v3 (M15 133 3) M15) fun y17 M16 =>
      some ([], M16)
    else
      bndI (w_rows_put d 136 v1 v2 v3 (M 133 3) M) fun y19 M18 =>
      some ([], M18)) :=
  (aOm_fix _ _ _ _ _ _).trans rfl
set_option maxRecDepth 20000 in
theorem u_rd_expression (d : Nat)  (M : aM) : w_rd_expression (d + 1)  M = (
    bndV (w_rd_operand d M) fun M12 =>
    w_rd_expression_8 d 0 0 M12) :=
  (aOm_fix (aSem d) K_rd_expression 0 _ [] M).trans rfl
set_option maxRecDepth 20000 in
theorem u_rd_expression_8 (d : Nat) (v1 : Int) (v2 : Int) (M : aM) : w_rd_expression_8 d v1 v2 M = (
    if v2 < 400 then
      if (M 132 2) = 0 then
        let v15 : Int := (M 132 10)
        if v15 = 42 then
          bndV (w_rd_step d M) fun M16 =>
          bndV (w_rd_operand d M16) fun M17 =>
          bndV (w_law_emit d 133 (-13) M17) fun M18 =>
          let v19 : Int := w32 (v2 + 1)
          w_rd_expression_8 d v1 v19 M18
        else
          if v15 = 47 then
            bndV (w_rd_step d M) fun M20 =>
            bndI (w_rd_takeNumber d 1 9999 M20) fun y22 M21 =>
            bndV (w_law_emit d 133 y22 M21) fun M23 =>
            bndV (w_law_emit d 133 (-14) M23) fun M24 =>
            let v25 : Int := w32 (v2 + 1)
            w_rd_expression_8 d v1 v25 M24
          else
            if v1 = 0 then
              if v15 = 43 then
                w_rd_expression_115 d v2 v15 M
              else
                if v15 = 45 then
                  w_rd_expression_115 d v2 v15 M
                else
                  some ([], M)
            else
              bndV (w_law_emit d 133 v1 M) fun M26 =>
              if v15 = 43 then
                w_rd_expression_115 d v2 v15 M26
              else
                if v15 = 45 then
                  w_rd_expression_115 d v2 v15 M26
                else
                  some ([], M26)
      else
        some ([], M)
    else
      some ([], M)) :=
  (aOm_fix _ _ _ _ _ _).trans rfl
set_option maxRecDepth 20000 in
theorem u_rd_expression_115 (d : Nat) (v2 : Int) (v3 : Int) (M : aM) : w_rd_expression_115 d v2 v3 M = (
    if v3 = 43 then
      bndV (w_rd_step d M) fun M15 =>
      bndV (w_rd_operand d M15) fun M16 =>
      let v17 : Int := w32 (v2 + 1)
      w_rd_expression_8 d (-11) v17 M16
    else
      bndV (w_rd_step d M) fun M18 =>
      bndV (w_rd_operand d M18) fun M19 =>
      let v20 : Int := w32 (v2 + 1)
      w_rd_expression_8 d (-12) v20 M19) :=
  (aOm_fix _ _ _ _ _ _).trans rfl
set_option maxRecDepth 20000 in
theorem u_rd_operand (d : Nat)  (M : aM) : w_rd_operand (d + 1)  M = (
    let v12 : Int := (w32 ((M 132 10) - 263))
    if (M 132 10) = 1 then
      bndV (w_law_emit d 133 (M 132 11) M) fun M13 =>
      bndV (w_rd_step d M13) fun M14 =>
      some ([], M14)
    else
      if v12 < 0 then
        bndV (w_rd_fail d 1 M) fun M15 =>
        some ([], M15)
      else
        if v12 < 10 then
          bndV (w_law_emit d 133 (w32 ((-1) - v12)) M) fun M16 =>
          bndV (w_rd_step d M16) fun M17 =>
          some ([], M17)
        else
          bndV (w_rd_fail d 1 M) fun M18 =>
          some ([], M18)) :=
  (aOm_fix (aSem d) K_rd_operand 0 _ [] M).trans rfl
set_option maxRecDepth 20000 in
theorem u_rd_condition (d : Nat)  (M : aM) : w_rd_condition (d + 1)  M = (
    let M12 : aM := aUp M 132 6 0
    let M13 : aM := aUp M12 132 7 0
    let M14 : aM := aUp M13 132 8 0
    w_rd_condition_19 d 1 0 M14) :=
  (aOm_fix (aSem d) K_rd_condition 0 _ [] M).trans rfl
set_option maxRecDepth 20000 in
theorem u_rd_condition_19 (d : Nat) (v1 : Int) (v2 : Int) (M : aM) : w_rd_condition_19 d v1 v2 M = (
    if 400 < v2 then
      some ([], M)
    else
      if v1 = 0 then
        some ([], M)
      else
        if (M 132 2) = 0 then
          let v15 : Int := (M 132 10)
          if v15 = 40 then
            bndV (w_rd_openOne d v15 M) fun M16 =>
            let v17 : Int := w32 (v2 + 1)
            w_rd_condition_19 d v1 v17 M16
          else
            if v15 = 262 then
              bndV (w_rd_openOne d v15 M) fun M18 =>
              let v19 : Int := w32 (v2 + 1)
              w_rd_condition_19 d v1 v19 M18
            else
              bndV (w_rd_comparison d M) fun M20 =>
              if (M20 132 2) = 0 then
                bndI (w_rd_goOnBehind d M20) fun y22 M21 =>
                if y22 = 0 then
                  let v23 : Int := w32 (v2 + 1)
                  w_rd_condition_19 d 0 v23 M21
                else
                  let v24 : Int := w32 (v2 + 1)
                  w_rd_condition_19 d 1 v24 M21
              else
                let v25 : Int := w32 (v2 + 1)
                w_rd_condition_19 d 0 v25 M20
        else
          some ([], M)) :=
  (aOm_fix _ _ _ _ _ _).trans rfl
set_option maxRecDepth 20000 in
theorem u_rd_openOne (d : Nat) (v1 : Int) (M : aM) : w_rd_openOne (d + 1) v1 M = (
    if (M 132 8) < 8 then
      let M13 : aM := aUp M 132 8 (w32 ((M 132 8) + 1))
      if v1 = 40 then
        let M14 : aM := aUp M13 132 7 (w32 ((M13 132 7) + 1))
        bndV (w_rd_hold d v1 M14) fun M15 =>
        bndV (w_rd_step d M15) fun M16 =>
        some ([], M16)
      else
        bndV (w_rd_hold d v1 M13) fun M17 =>
        bndV (w_rd_step d M17) fun M18 =>
        some ([], M18)
    else
      bndV (w_rd_fail d 3 M) fun M19 =>
      some ([], M19)) :=
  (aOm_fix (aSem d) K_rd_openOne 0 _ [] M).trans rfl
set_option maxRecDepth 20000 in
theorem u_rd_comparison (d : Nat)  (M : aM) : w_rd_comparison (d + 1)  M = (
    bndV (w_rd_expression d M) fun M12 =>
    let v13 : Int := (M12 132 10)
    if (M12 132 2) = 0 then
      if v13 = 60 then
        w_rd_comparison_39 d v13 M12
      else
        if v13 = 61 then
          w_rd_comparison_39 d v13 M12
        else
          if v13 = 62 then
            w_rd_comparison_39 d v13 M12
          else
            bndV (w_rd_fail d 1 M12) fun M14 =>
            w_rd_comparison_39 d v13 M14
    else
      w_rd_comparison_39 d v13 M12) :=
  (aOm_fix (aSem d) K_rd_comparison 0 _ [] M).trans rfl
set_option maxRecDepth 20000 in
theorem u_rd_comparison_39 (d : Nat) (v1 : Int) (M : aM) : w_rd_comparison_39 d v1 M = (
    if (M 132 2) = 0 then
      bndV (w_rd_step d M) fun M13 =>
      bndV (w_rd_expression d M13) fun M14 =>
      if v1 = 60 then
        bndV (w_law_emit d 133 (-15) M14) fun M15 =>
        some ([], M15)
      else
        if v1 = 61 then
          bndV (w_law_emit d 133 (-16) M14) fun M16 =>
          some ([], M16)
        else
          bndV (w_law_emit d 133 (-17) M14) fun M17 =>
          some ([], M17)
    else
      some ([], M)) :=
  (aOm_fix _ _ _ _ _ _).trans rfl
set_option maxRecDepth 20000 in
theorem u_rd_goOnBehind (d : Nat)  (M : aM) : w_rd_goOnBehind (d + 1)  M = (
    bndV (w_rd_closeNots d M) fun M12 =>
    w_rd_goOnBehind_6 d 0 M12) :=
  (aOm_fix (aSem d) K_rd_goOnBehind 0 _ [] M).trans rfl
set_option maxRecDepth 20000 in
theorem u_rd_goOnBehind_6 (d : Nat) (v1 : Int) (M : aM) : w_rd_goOnBehind_6 d v1 M = (
    if v1 < 8 then
      if 0 < (M 132 7) then
        if (M 132 10) = 41 then
          bndV (w_rd_joinDownTo d 260 M) fun M13 =>
          let M14 : aM := aUp M13 132 6 (w32 ((M13 132 6) - 1))
          let M15 : aM := aUp M14 132 7 (w32 ((M14 132 7) - 1))
          let M16 : aM := aUp M15 132 8 (w32 ((M15 132 8) - 1))
          bndV (w_rd_step d M16) fun M17 =>
          bndV (w_rd_closeNots d M17) fun M18 =>
          let v19 : Int := w32 (v1 + 1)
          w_rd_goOnBehind_6 d v19 M18
        else
          w_rd_goOnBehind_79 d M
      else
        w_rd_goOnBehind_79 d M
    else
      w_rd_goOnBehind_79 d M) :=
  (aOm_fix _ _ _ _ _ _).trans rfl
set_option maxRecDepth 20000 in
theorem u_rd_goOnBehind_79 (d : Nat)  (M : aM) : w_rd_goOnBehind_79 d  M = (
    let v13 : Int := (M 132 10)
    if v13 = 261 then
      bndV (w_rd_joinDownTo d v13 M) fun M14 =>
      bndV (w_rd_hold d v13 M14) fun M15 =>
      bndV (w_rd_step d M15) fun M16 =>
      some ([aI 1], M16)
    else
      if v13 = 260 then
        bndV (w_rd_joinDownTo d v13 M) fun M17 =>
        bndV (w_rd_hold d v13 M17) fun M18 =>
        bndV (w_rd_step d M18) fun M19 =>
        some ([aI 1], M19)
      else
        if 0 < (M 132 7) then
          bndV (w_rd_fail d 1 M) fun M20 =>
          some ([aI 0], M20)
        else
          bndV (w_rd_joinDownTo d 260 M) fun M21 =>
          some ([aI 0], M21)) :=
  (aOm_fix _ _ _ _ _ _).trans rfl
set_option maxRecDepth 20000 in
theorem u_rd_hold (d : Nat) (v1 : Int) (M : aM) : w_rd_hold (d + 1) v1 M = (
    if (M 132 6) < 0 then
      some ([], M)
    else
      if (M 132 6) < 32 then
        inb (M 132 6) (aLen 140) <|
        let M13 : aM := aUp M 140 (M 132 6).toNat v1
        let M14 : aM := aUp M13 132 6 (w32 ((M13 132 6) + 1))
        some ([], M14)
      else
        some ([], M)) :=
  (aOm_fix (aSem d) K_rd_hold 0 _ [] M).trans rfl
set_option maxRecDepth 20000 in
theorem u_rd_lastWaiting (d : Nat)  (M : aM) : w_rd_lastWaiting (d + 1)  M = (
    if 0 < (M 132 6) then
      if 32 < (M 132 6) then
        some ([aI 0], M)
      else
        inb (w32 ((M 132 6) - 1)) (aLen 140) <|
        some ([aI (M 140 (w32 ((M 132 6) - 1)).toNat)], M)
    else
      some ([aI 0], M)) :=
  (aOm_fix (aSem d) K_rd_lastWaiting 0 _ [] M).trans rfl
set_option maxRecDepth 20000 in
theorem u_rd_closeNots (d : Nat)  (M : aM) : w_rd_closeNots (d + 1)  M = (
    if 0 < (M 132 6) then
      bndI (w_rd_lastWaiting d M) fun y13 M12 =>
      if y13 = 262 then
        bndV (w_law_emit d 133 (-18) M12) fun M14 =>
        let M15 : aM := aUp M14 132 6 (w32 ((M14 132 6) - 1))
        let M16 : aM := aUp M15 132 8 (w32 ((M15 132 8) - 1))
        w_rd_closeNots_0 d M16
      else
        some ([], M12)
    else
      some ([], M)) :=
  (aOm_fix (aSem d) K_rd_closeNots 0 _ [] M).trans rfl
set_option maxRecDepth 20000 in
theorem u_rd_closeNots_0 (d : Nat)  (M : aM) : w_rd_closeNots_0 d  M = (
    if 0 < (M 132 6) then
      bndI (w_rd_lastWaiting d M) fun y13 M12 =>
      if y13 = 262 then
        bndV (w_law_emit d 133 (-18) M12) fun M14 =>
        let M15 : aM := aUp M14 132 6 (w32 ((M14 132 6) - 1))
        let M16 : aM := aUp M15 132 8 (w32 ((M15 132 8) - 1))
        w_rd_closeNots_0 d M16
      else
        some ([], M12)
    else
      some ([], M)) :=
  (aOm_fix _ _ _ _ _ _).trans rfl
set_option maxRecDepth 20000 in
theorem u_rd_joinDownTo (d : Nat) (v1 : Int) (M : aM) : w_rd_joinDownTo (d + 1) v1 M = (
    if 0 < (M 132 6) then
      bndI (w_rd_lastWaiting d M) fun y14 M13 =>
      if y14 = 261 then
        w_rd_joinDownTo_34 d v1 M13
      else
        bndI (w_rd_lastWaiting d M13) fun y16 M15 =>
        if y16 = 260 then
          if v1 = 260 then
            w_rd_joinDownTo_34 d v1 M15
          else
            some ([], M15)
        else
          some ([], M15)
    else
      some ([], M)) :=
  (aOm_fix (aSem d) K_rd_joinDownTo 0 _ [] M).trans rfl
set_option maxRecDepth 20000 in
theorem u_rd_joinDownTo_34 (d : Nat) (v1 : Int) (M : aM) : w_rd_joinDownTo_34 d v1 M = (
    bndI (w_rd_lastWaiting d M) fun y14 M13 =>
    if y14 = 261 then
      bndV (w_law_emit d 133 (-19) M13) fun M15 =>
      let M16 : aM := aUp M15 132 6 (w32 ((M15 132 6) - 1))
      w_rd_joinDownTo_0 d v1 M16
    else
      bndV (w_law_emit d 133 (-20) M13) fun M17 =>
      let M18 : aM := aUp M17 132 6 (w32 ((M17 132 6) - 1))
      w_rd_joinDownTo_0 d v1 M18) :=
  (aOm_fix _ _ _ _ _ _).trans rfl
set_option maxRecDepth 20000 in
theorem u_rd_joinDownTo_0 (d : Nat) (v1 : Int) (M : aM) : w_rd_joinDownTo_0 d v1 M = (
    if 0 < (M 132 6) then
      bndI (w_rd_lastWaiting d M) fun y14 M13 =>
      if y14 = 261 then
        w_rd_joinDownTo_34 d v1 M13
      else
        bndI (w_rd_lastWaiting d M13) fun y16 M15 =>
        if y16 = 260 then
          if v1 = 260 then
            w_rd_joinDownTo_34 d v1 M15
          else
            some ([], M15)
        else
          some ([], M15)
    else
      some ([], M)) :=
  (aOm_fix _ _ _ _ _ _).trans rfl
set_option maxRecDepth 20000 in
theorem u_rows_has (d : Nat) (a0 : Nat) (v1 : Int) (M : aM) : w_rows_has (d + 1) a0 v1 M = (
    if v1 < 0 then
      some ([aI 0], M)
    else
      if v1 < (M a0 2) then
        some ([aI 1], M)
      else
        some ([aI 0], M)) :=
  (aOm_fix (aSem d) K_rows_has 0 _ [] M).trans rfl
set_option maxRecDepth 20000 in
theorem u_rows_cell (d : Nat) (a0 : Nat) (v1 : Int) (v2 : Int) (M : aM) : w_rows_cell (d + 1) a0 v1 v2 M = (
    let v14 : Int := (w32 ((w32 (v1 * 4)) + v2))
    bndI (w_rows_has d a0 v1 M) fun y16 M15 =>
    if y16 = 0 then
      some ([aI 0], M15)
    else
      if v2 < 0 then
        some ([aI 0], M15)
      else
        if v2 < 4 then
          if v14 < ((aLen (a0 + 1) : Nat) : Int) then
            inb v14 (aLen (a0 + 1)) <|
            some ([aI (M15 (a0 + 1) v14.toNat)], M15)
          else
            some ([aI 0], M15)
        else
          some ([aI 0], M15)) :=
  (aOm_fix (aSem d) K_rows_cell 0 _ [] M).trans rfl
set_option maxRecDepth 20000 in
theorem u_rows_put (d : Nat) (a0 : Nat) (v1 : Int) (v2 : Int) (v3 : Int) (v4 : Int) (M : aM) : w_rows_put (d + 1) a0 v1 v2 v3 v4 M = (
    let v16 : Int := (w32 ((M a0 2) * 4))
    if (M a0 2) < (M a0 0) then
      if v16 < 0 then
        some ([aI 0], M)
      else
        if (w32 (v16 + 3)) < ((aLen (a0 + 1) : Nat) : Int) then
          inb v16 (aLen (a0 + 1)) <|
          let M17 : aM := aUp M (a0 + 1) v16.toNat v1
          inb (w32 (v16 + 1)) (aLen (a0 + 1)) <|
          let M18 : aM := aUp M17 (a0 + 1) (w32 (v16 + 1)).toNat v2
          inb (w32 (v16 + 2)) (aLen (a0 + 1)) <|
          let M19 : aM := aUp M18 (a0 + 1) (w32 (v16 + 2)).toNat v3
          inb (w32 (v16 + 3)) (aLen (a0 + 1)) <|
          let M20 : aM := aUp M19 (a0 + 1) (w32 (v16 + 3)).toNat v4
          let M21 : aM := aUp M20 a0 2 (w32 ((M20 a0 2) + 1))
          some ([aI 1], M21)
        else
          some ([aI 0], M)
    else
      some ([aI 0], M)) :=
  (aOm_fix (aSem d) K_rows_put 0 _ [] M).trans rfl
set_option maxRecDepth 20000 in
theorem u_rows_tell (d : Nat) (a0 : Nat) (v1 : Int) (v2 : Int) (v3 : Int) (M : aM) : w_rows_tell (d + 1) a0 v1 v2 v3 M = (
    if v1 = (-1) then
      let M15 : aM := aUp M a0 2 0
      some ([aI 0], M15)
    else
      if v3 = 0 then
        some ([aI (-1)], M)
      else
        bndI (w_rows_put d a0 v1 v2 0 0 M) fun y17 M16 =>
        if y17 = 0 then
          some ([aI (-1)], M16)
        else
          some ([aI (M16 a0 2)], M16)) :=
  (aOm_fix (aSem d) K_rows_tell 0 _ [] M).trans rfl
set_option maxRecDepth 20000 in
theorem u_rows_copyFrom (d : Nat) (a0 : Nat) (a1 : Nat) (M : aM) : w_rows_copyFrom (d + 1) a0 a1 M = (
    let M13 : aM := aUp M a0 2 (imin (M a1 2) (M a0 0))
    let v14 : Int := (imin (w32 ((M13 a0 2) * 4)) (imin ((aLen (a0 + 1) : Nat) : Int) ((aLen (a1 + 1) : Nat) : Int)))
    if (0 : Int) ≤ v14 ∧ (0 : Int) ≤ 0 ∧ (0 : Int) ≤ 0 ∧ (0 + v14 : Int) ≤ aLen (a1 + 1) ∧ (0 + v14 : Int) ≤ aLen (a0 + 1) then
      let M15 : aM := aCpy M13 (a1 + 1) (a0 + 1) 0 0 v14.toNat
      some ([], M15)
    else none) :=
  (aOm_fix (aSem d) K_rows_copyFrom 0 _ [] M).trans rfl
set_option maxRecDepth 20000 in
theorem u_tape_append (d : Nat) (v1 : Int) (M : aM) : w_tape_append (d + 1) v1 M = (
    w_tape_append_3 d v1 24 M) :=
  (aOm_fix (aSem d) K_tape_append 0 _ [] M).trans rfl
set_option maxRecDepth 20000 in
theorem u_tape_append_3 (d : Nat) (v1 : Int) (v2 : Int) (M : aM) : w_tape_append_3 d v1 v2 M = (
    if v2 < 0 then
      some ([], M)
    else
      if (M 127 5) < 0 then
        let v14 : Int := w32 (v2 + (-8))
        w_tape_append_3 d v1 v14 M
      else
        if (M 127 5) < 400 then
          inb (M 127 5) (aLen 128) <|
          let M15 : aM := aUp M 128 (M 127 5).toNat (iand (iushr v1 v2) 255)
          let M16 : aM := aUp M15 127 5 (w32 ((M15 127 5) + 1))
          let v17 : Int := w32 (v2 + (-8))
          w_tape_append_3 d v1 v17 M16
        else
          let v18 : Int := w32 (v2 + (-8))
          w_tape_append_3 d v1 v18 M) :=
  (aOm_fix _ _ _ _ _ _).trans rfl
set_option maxRecDepth 20000 in
theorem u_tape_split (d : Nat) (a1 : Nat) (M : aM) : w_tape_split (d + 1) a1 M = (
    let M13 : aM := aUp M 127 4 0
    w_tape_split_9 d a1 0 0 M13) :=
  (aOm_fix (aSem d) K_tape_split 0 _ [] M).trans rfl
set_option maxRecDepth 20000 in
theorem u_tape_split_9 (d : Nat) (a1 : Nat) (v2 : Int) (v3 : Int) (M : aM) : w_tape_split_9 d a1 v2 v3 M = (
    if v3 < 400 then
      if v2 < (M 127 5) then
        bndI (w_tape_byteAt d v2 M) fun y18 M17 =>
        let v19 : Int := (w32 (v2 + 1))
        bndI (w_tape_isLetter d y18 M17) fun y21 M20 =>
        if y21 = 0 then
          bndI (w_tape_isDigit d y18 M20) fun y23 M22 =>
          if y23 = 0 then
            if y18 = 32 then
              w_tape_split_150 d a1 v3 v19 M22
            else
              if y18 = 10 then
                w_tape_split_150 d a1 v3 v19 M22
              else
                bndI (w_js_indexOf4 d 4 (y18 % 65536) M22) fun y25 M24 =>
                if y25 < 0 then
                  bndV (w_tape_addToken d 2 0 v2 M24) fun M26 =>
                  w_tape_split_150 d a1 v3 v19 M26
                else
                  bndV (w_tape_addToken d y18 0 v2 M24) fun M27 =>
                  w_tape_split_150 d a1 v3 v19 M27
          else
            bndI (w_tape_behindRun d v2 0 M22) fun y29 M28 =>
            if 4 < (w32 (y29 - v2)) then
              bndI (w_tape_numberOf d v2 y29 M28) fun y31 M30 =>
              bndV (w_tape_addToken d 2 y31 v2 M30) fun M32 =>
              w_tape_split_150 d a1 v3 y29 M32
            else
              bndI (w_tape_numberOf d v2 y29 M28) fun y34 M33 =>
              bndV (w_tape_addToken d 1 y34 v2 M33) fun M35 =>
              w_tape_split_150 d a1 v3 y29 M35
        else
          bndI (w_tape_behindRun d v2 1 M20) fun y37 M36 =>
          bndI (w_tape_wordToken d a1 v2 y37 M36) fun y39 M38 =>
          bndV (w_tape_addToken d y39 0 v2 M38) fun M40 =>
          w_tape_split_150 d a1 v3 y37 M40
      else
        some ([], M)
    else
      some ([], M)) :=
  (aOm_fix _ _ _ _ _ _).trans rfl
set_option maxRecDepth 20000 in
theorem u_tape_split_150 (d : Nat) (a1 : Nat) (v3 : Int) (v5 : Int) (M : aM) : w_tape_split_150 d a1 v3 v5 M = (
    let v17 : Int := w32 (v3 + 1)
    w_tape_split_9 d a1 v5 v17 M) :=
  (aOm_fix _ _ _ _ _ _).trans rfl
set_option maxRecDepth 20000 in
theorem u_tape_byteAt (d : Nat) (v1 : Int) (M : aM) : w_tape_byteAt (d + 1) v1 M = (
    if v1 < 0 then
      some ([aI 0], M)
    else
      if v1 < (M 127 5) then
        if v1 < 400 then
          inb v1 (aLen 128) <|
          some ([aI (M 128 v1.toNat)], M)
        else
          some ([aI 0], M)
      else
        some ([aI 0], M)) :=
  (aOm_fix (aSem d) K_tape_byteAt 0 _ [] M).trans rfl
set_option maxRecDepth 20000 in
theorem u_tape_addToken (d : Nat) (v1 : Int) (v2 : Int) (v3 : Int) (M : aM) : w_tape_addToken (d + 1) v1 v2 v3 M = (
    if (M 127 4) < 0 then
      some ([], M)
    else
      if (M 127 4) < 400 then
        inb (M 127 4) (aLen 129) <|
        let M15 : aM := aUp M 129 (M 127 4).toNat v1
        inb (M15 127 4) (aLen 130) <|
        let M16 : aM := aUp M15 130 (M15 127 4).toNat v2
        inb (M16 127 4) (aLen 131) <|
        let M17 : aM := aUp M16 131 (M16 127 4).toNat v3
        let M18 : aM := aUp M17 127 4 (w32 ((M17 127 4) + 1))
        some ([], M18)
      else
        some ([], M)) :=
  (aOm_fix (aSem d) K_tape_addToken 0 _ [] M).trans rfl
set_option maxRecDepth 20000 in
theorem u_tape_behindRun (d : Nat) (v1 : Int) (v2 : Int) (M : aM) : w_tape_behindRun (d + 1) v1 v2 M = (
    w_tape_behindRun_2 d v2 v1 M) :=
  (aOm_fix (aSem d) K_tape_behindRun 0 _ [] M).trans rfl
set_option maxRecDepth 20000 in
theorem u_tape_behindRun_2 (d : Nat) (v2 : Int) (v3 : Int) (M : aM) : w_tape_behindRun_2 d v2 v3 M = (
    if v3 < (M 127 5) then
      if v2 = 0 then
        bndI (w_tape_byteAt d v3 M) fun y16 M15 =>
        bndI (w_tape_isDigit d y16 M15) fun y18 M17 =>
        if y18 = 0 then
          some ([aI v3], M17)
        else
          let v19 : Int := w32 (v3 + 1)
          w_tape_behindRun_2 d v2 v19 M17
      else
        bndI (w_tape_byteAt d v3 M) fun y21 M20 =>
        bndI (w_tape_isLetter d y21 M20) fun y23 M22 =>
        if y23 = 0 then
          some ([aI v3], M22)
        else
          let v24 : Int := w32 (v3 + 1)
          w_tape_behindRun_2 d v2 v24 M22
    else
      some ([aI v3], M)) :=
  (aOm_fix _ _ _ _ _ _).trans rfl
set_option maxRecDepth 20000 in
theorem u_tape_numberOf (d : Nat) (v1 : Int) (v2 : Int) (M : aM) : w_tape_numberOf (d + 1) v1 v2 M = (
    w_tape_numberOf_5 d v1 v2 0 v1 M) :=
  (aOm_fix (aSem d) K_tape_numberOf 0 _ [] M).trans rfl
set_option maxRecDepth 20000 in
theorem u_tape_numberOf_5 (d : Nat) (v1 : Int) (v2 : Int) (v3 : Int) (v4 : Int) (M : aM) : w_tape_numberOf_5 d v1 v2 v3 v4 M = (
    if v4 < v2 then
      if v4 < (w32 (v1 + 4)) then
        bndI (w_tape_byteAt d v4 M) fun y17 M16 =>
        let v18 : Int := (w32 ((w32 ((w32 (v3 * 10)) + y17)) - 48))
        let v19 : Int := w32 (v4 + 1)
        w_tape_numberOf_5 d v1 v2 v18 v19 M16
      else
        some ([aI v3], M)
    else
      some ([aI v3], M)) :=
  (aOm_fix _ _ _ _ _ _).trans rfl
set_option maxRecDepth 20000 in
theorem u_tape_wordToken (d : Nat) (a1 : Nat) (v2 : Int) (v3 : Int) (M : aM) : w_tape_wordToken (d + 1) a1 v2 v3 M = (
    w_tape_wordToken_9 d a1 v2 v3 0 0 0 M) :=
  (aOm_fix (aSem d) K_tape_wordToken 0 _ [] M).trans rfl
set_option maxRecDepth 20000 in
theorem u_tape_wordToken_9 (d : Nat) (a1 : Nat) (v2 : Int) (v3 : Int) (v4 : Int) (v5 : Int) (v6 : Int) (M : aM) : w_tape_wordToken_9 d a1 v2 v3 v4 v5 v6 M = (
    bndI (w_js_length d a1 M) fun y19 M18 =>
    if y19 < v6 then
      some ([aI 2], M18)
    else
      bndI (w_js_length d a1 M18) fun y21 M20 =>
      if v6 = y21 then
        w_tape_wordToken_38 d a1 v2 v3 v4 v5 v6 M20
      else
        bndI (w_js_charAt d a1 v6 M20) fun y23 M22 =>
        if y23 = 32 then
          w_tape_wordToken_38 d a1 v2 v3 v4 v5 v6 M22
        else
          let v24 : Int := w32 (v6 + 1)
          w_tape_wordToken_9 d a1 v2 v3 v4 v5 v24 M22) :=
  (aOm_fix _ _ _ _ _ _).trans rfl
set_option maxRecDepth 20000 in
theorem u_tape_wordToken_38 (d : Nat) (a1 : Nat) (v2 : Int) (v3 : Int) (v4 : Int) (v5 : Int) (v6 : Int) (M : aM) : w_tape_wordToken_38 d a1 v2 v3 v4 v5 v6 M = (
    if (w32 (v6 - v5)) = (w32 (v3 - v2)) then
      bndI (w_tape_startsAt d a1 v5 v2 v3 M) fun y19 M18 =>
      if y19 = 0 then
        let v20 : Int := w32 (v4 + 1)
        let v21 : Int := (w32 (v6 + 1))
        let v22 : Int := w32 (v6 + 1)
        w_tape_wordToken_9 d a1 v2 v3 v20 v21 v22 M18
      else
        some ([aI (w32 (256 + v4))], M18)
    else
      let v23 : Int := w32 (v4 + 1)
      let v24 : Int := (w32 (v6 + 1))
      let v25 : Int := w32 (v6 + 1)
      w_tape_wordToken_9 d a1 v2 v3 v23 v24 v25 M) :=
  (aOm_fix _ _ _ _ _ _).trans rfl
set_option maxRecDepth 20000 in
theorem u_tape_startsAt (d : Nat) (a1 : Nat) (v2 : Int) (v3 : Int) (v4 : Int) (M : aM) : w_tape_startsAt (d + 1) a1 v2 v3 v4 M = (
    w_tape_startsAt_3 d a1 v2 v3 v4 v3 M) :=
  (aOm_fix (aSem d) K_tape_startsAt 0 _ [] M).trans rfl
set_option maxRecDepth 20000 in
theorem u_tape_startsAt_3 (d : Nat) (a1 : Nat) (v2 : Int) (v3 : Int) (v4 : Int) (v5 : Int) (M : aM) : w_tape_startsAt_3 d a1 v2 v3 v4 v5 M = (
    if v5 < v4 then
      let v18 : Int := (w32 ((w32 (v2 + v5)) - v3))
      if v18 < 0 then
        some ([aI 0], M)
      else
        bndI (w_js_length d a1 M) fun y20 M19 =>
        if v18 < y20 then
          bndI (w_js_charAt d a1 v18 M19) fun y22 M21 =>
          bndI (w_tape_byteAt d v5 M21) fun y24 M23 =>
          if y22 = y24 then
            let v25 : Int := w32 (v5 + 1)
            w_tape_startsAt_3 d a1 v2 v3 v4 v25 M23
          else
            some ([aI 0], M23)
        else
          some ([aI 0], M19)
    else
      some ([aI 1], M)) :=
  (aOm_fix _ _ _ _ _ _).trans rfl
set_option maxRecDepth 20000 in
theorem u_tape_isLetter (d : Nat) (v0 : Int) (M : aM) : w_tape_isLetter (d + 1) v0 M = (
    if v0 < 97 then
      if v0 < 65 then
        some ([aI 0], M)
      else
        if 90 < v0 then
          some ([aI 0], M)
        else
          some ([aI 1], M)
    else
      if 122 < v0 then
        if v0 < 65 then
          some ([aI 0], M)
        else
          if 90 < v0 then
            some ([aI 0], M)
          else
            some ([aI 1], M)
      else
        some ([aI 1], M)) :=
  (aOm_fix (aSem d) K_tape_isLetter 0 _ [] M).trans rfl
set_option maxRecDepth 20000 in
theorem u_tape_isDigit (d : Nat) (v0 : Int) (M : aM) : w_tape_isDigit (d + 1) v0 M = (
    if v0 < 48 then
      some ([aI 0], M)
    else
      if 57 < v0 then
        some ([aI 0], M)
      else
        some ([aI 1], M)) :=
  (aOm_fix (aSem d) K_tape_isDigit 0 _ [] M).trans rfl
set_option maxRecDepth 20000 in
theorem u_th_movedDays (d : Nat) (a1 : Nat) (M : aM) : w_th_movedDays (d + 1) a1 M = (
    bndJ (w_th_firstWay d a1 M) fun y14 M13 =>
    if (lcmp y14 4000000000000000000) < 0 then
      some ([aI (w32 (ldiv y14 6553600000000))], M13)
    else
      some ([aI (-1)], M13)) :=
  (aOm_fix (aSem d) K_th_movedDays 0 _ [] M).trans rfl
set_option maxRecDepth 20000 in
theorem u_th_movedTo (d : Nat) (a1 : Nat) (v2 : Int) (M : aM) : w_th_movedTo (d + 1) a1 v2 M = (
    bndJ (w_th_firstWay d a1 M) fun y15 M14 =>
    if (lcmp y15 4000000000000000000) < 0 then
      w_th_movedTo_20 d v2 y15 7 M14
    else
      some ([aI (-1)], M14)) :=
  (aOm_fix (aSem d) K_th_movedTo 0 _ [] M).trans rfl
set_option maxRecDepth 20000 in
theorem u_th_movedTo_20 (d : Nat) (v2 : Int) (v3 : Int) (v5 : Int) (M : aM) : w_th_movedTo_20 d v2 v3 v5 M = (
    if v2 < v5 then
      let v17 : Int := (ldiv v3 40)
      let v18 : Int := w32 (v5 + (-1))
      w_th_movedTo_20 d v2 v17 v18 M
    else
      some ([aI (w32 (lrem v3 40))], M)) :=
  (aOm_fix _ _ _ _ _ _).trans rfl
set_option maxRecDepth 20000 in
theorem u_th_firstWay (d : Nat) (a1 : Nat) (M : aM) : w_th_firstWay (d + 1) a1 M = (
    let v13 : Int := (imax 0 (imin 8 (M a1 2)))
    bndV (w_ja_fillJ d 151 4000000000000000000 M) fun M14 =>
    inb 0 (aLen 151) <|
    let M15 : aM := aUp M14 151 0 0
    w_th_firstWay_33 d a1 v13 0 M15) :=
  (aOm_fix (aSem d) K_th_firstWay 0 _ [] M).trans rfl
set_option maxRecDepth 20000 in
theorem u_th_firstWay_33 (d : Nat) (a1 : Nat) (v2 : Int) (v3 : Int) (M : aM) : w_th_firstWay_33 d a1 v2 v3 M = (
    if v3 < 40 then
      bndV (w_th_weighDay d a1 v2 v3 M) fun M15 =>
      bndV (w_th_offerDay d v2 M15) fun M16 =>
      let v17 : Int := w32 (v3 + 1)
      w_th_firstWay_33 d a1 v2 v17 M16
    else
      inb (w32 ((ishl 1 v2) - 1)) (aLen 151) <|
      some ([aJ (M 151 (w32 ((ishl 1 v2) - 1)).toNat)], M)) :=
  (aOm_fix _ _ _ _ _ _).trans rfl
set_option maxRecDepth 20000 in
theorem u_th_weighDay (d : Nat) (a1 : Nat) (v2 : Int) (v3 : Int) (M : aM) : w_th_weighDay (d + 1) a1 v2 v3 M = (
    w_th_weighDay_8 d a1 v2 v3 6553600000000 0 M) :=
  (aOm_fix (aSem d) K_th_weighDay 0 _ [] M).trans rfl
set_option maxRecDepth 20000 in
theorem u_th_weighDay_8 (d : Nat) (a1 : Nat) (v2 : Int) (v3 : Int) (v4 : Int) (v6 : Int) (M : aM) : w_th_weighDay_8 d a1 v2 v3 v4 v6 M = (
    if v6 < v2 then
      bndI (w_rows_cell d a1 v6 0 M) fun y20 M19 =>
      let v21 : Int := (iabs (w32 (v3 - y20)))
      let v22 : Int := (ldiv v4 40)
      bndI (w_rows_cell d a1 v6 1 M19) fun y24 M23 =>
      if y24 < v21 then
        inb v6 (aLen 152) <|
        let M25 : aM := aUp M23 152 v6.toNat 4000000000000000000
        let v26 : Int := w32 (v6 + 1)
        w_th_weighDay_8 d a1 v2 v3 v22 v26 M25
      else
        inb v6 (aLen 152) <|
        let M27 : aM := aUp M23 152 v6.toNat (w64 ((w64 (v21 * 6553600000000)) + (w64 (v3 * v22))))
        let v28 : Int := w32 (v6 + 1)
        w_th_weighDay_8 d a1 v2 v3 v22 v28 M27
    else
      some ([], M)) :=
  (aOm_fix _ _ _ _ _ _).trans rfl
set_option maxRecDepth 20000 in
theorem u_th_offerDay (d : Nat) (v1 : Int) (M : aM) : w_th_offerDay (d + 1) v1 M = (
    let v13 : Int := (w32 ((ishl 1 v1) - 1))
    w_th_offerDay_6 d v1 v13 M) :=
  (aOm_fix (aSem d) K_th_offerDay 0 _ [] M).trans rfl
set_option maxRecDepth 20000 in
theorem u_th_offerDay_6 (d : Nat) (v1 : Int) (v2 : Int) (M : aM) : w_th_offerDay_6 d v1 v2 M = (
    if 0 < v2 then
      w_th_offerDay_12 d v1 v2 0 M
    else
      some ([], M)) :=
  (aOm_fix _ _ _ _ _ _).trans rfl
set_option maxRecDepth 20000 in
theorem u_th_offerDay_12 (d : Nat) (v1 : Int) (v2 : Int) (v3 : Int) (M : aM) : w_th_offerDay_12 d v1 v2 v3 M = (
    if v3 < v1 then
      if (iand (ishr v2 v3) 1) = 1 then
        inb (ixor v2 (ishl 1 v3)) (aLen 151) <|
        let v17 : Int := (M 151 (ixor v2 (ishl 1 v3)).toNat)
        if (lcmp v17 4000000000000000000) < 0 then
          inb v3 (aLen 152) <|
          if (lcmp (M 152 v3.toNat) 4000000000000000000) < 0 then
            inb v2 (aLen 151) <|
            inb v3 (aLen 152) <|
            inb v2 (aLen 151) <|
            let M18 : aM := aUp M 151 v2.toNat (imin (M 151 v2.toNat) (w64 (v17 + (M 152 v3.toNat))))
            let v19 : Int := w32 (v3 + 1)
            w_th_offerDay_12 d v1 v2 v19 M18
          else
            let v20 : Int := w32 (v3 + 1)
            w_th_offerDay_12 d v1 v2 v20 M
        else
          let v21 : Int := w32 (v3 + 1)
          w_th_offerDay_12 d v1 v2 v21 M
      else
        if (lcmp 4000000000000000000 4000000000000000000) < 0 then
          inb v3 (aLen 152) <|
          if (lcmp (M 152 v3.toNat) 4000000000000000000) < 0 then
            inb v2 (aLen 151) <|
            inb v3 (aLen 152) <|
            inb v2 (aLen 151) <|
            let M22 : aM := aUp M 151 v2.toNat (imin (M 151 v2.toNat) (w64 (4000000000000000000 + (M 152 v3.toNat))))
            let v23 : Int := w32 (v3 + 1)
            w_th_offerDay_12 d v1 v2 v23 M22
          else
            let v24 : Int := w32 (v3 + 1)
            w_th_offerDay_12 d v1 v2 v24 M
        else
          let v25 : Int := w32 (v3 + 1)
          w_th_offerDay_12 d v1 v2 v25 M
    else
      let v26 : Int := w32 (v2 + (-1))
      w_th_offerDay_6 d v1 v26 M) :=
  (aOm_fix _ _ _ _ _ _).trans rfl
set_option maxRecDepth 20000 in
theorem u_th_leastWatch (d : Nat) (a1 : Nat) (M : aM) : w_th_leastWatch (d + 1) a1 M = (
    w_th_leastWatch_9 d a1 1023 1023 0 M) :=
  (aOm_fix (aSem d) K_th_leastWatch 0 _ [] M).trans rfl
set_option maxRecDepth 20000 in
theorem u_th_leastWatch_9 (d : Nat) (a1 : Nat) (v2 : Int) (v3 : Int) (v4 : Int) (M : aM) : w_th_leastWatch_9 d a1 v2 v3 v4 M = (
    if v4 < v2 then
      bndI (w_ji_bitCount d v4 M) fun y17 M16 =>
      bndI (w_ji_bitCount d v3 M16) fun y19 M18 =>
      if y17 < y19 then
        bndI (w_th_watchesAll d a1 v4 M18) fun y21 M20 =>
        if y21 = 0 then
          let v22 : Int := w32 (v4 + 1)
          w_th_leastWatch_9 d a1 v2 v3 v22 M20
        else
          let v23 : Int := w32 (v4 + 1)
          w_th_leastWatch_9 d a1 v2 v4 v23 M20
      else
        let v24 : Int := w32 (v4 + 1)
        w_th_leastWatch_9 d a1 v2 v3 v24 M18
    else
      some ([aI v3], M)) :=
  (aOm_fix _ _ _ _ _ _).trans rfl
set_option maxRecDepth 20000 in
theorem u_th_watchesAll (d : Nat) (a0 : Nat) (v1 : Int) (M : aM) : w_th_watchesAll (d + 1) a0 v1 M = (
    w_th_watchesAll_2 d a0 v1 0 M) :=
  (aOm_fix (aSem d) K_th_watchesAll 0 _ [] M).trans rfl
set_option maxRecDepth 20000 in
theorem u_th_watchesAll_2 (d : Nat) (a0 : Nat) (v1 : Int) (v2 : Int) (M : aM) : w_th_watchesAll_2 d a0 v1 v2 M = (
    if v2 < (M a0 2) then
      bndI (w_rows_cell d a0 v2 0 M) fun y15 M14 =>
      if (iand (ishr v1 y15) 1) = 0 then
        bndI (w_rows_cell d a0 v2 1 M14) fun y17 M16 =>
        if (iand (ishr v1 y17) 1) = 0 then
          some ([aI 0], M16)
        else
          let v18 : Int := w32 (v2 + 1)
          w_th_watchesAll_2 d a0 v1 v18 M16
      else
        let v19 : Int := w32 (v2 + 1)
        w_th_watchesAll_2 d a0 v1 v19 M14
    else
      some ([aI 1], M)) :=
  (aOm_fix _ _ _ _ _ _).trans rfl
set_option maxRecDepth 20000 in
theorem u_th_waysToHaveEaten (d : Nat) (a1 : Nat) (M : aM) : w_th_waysToHaveEaten (d + 1) a1 M = (
    bndV (w_ja_fillI d 153 0 M) fun M13 =>
    bndV (w_ja_fillI d 154 0 M13) fun M14 =>
    w_th_waysToHaveEaten_18 d a1 0 M14) :=
  (aOm_fix (aSem d) K_th_waysToHaveEaten 0 _ [] M).trans rfl
set_option maxRecDepth 20000 in
theorem u_th_waysToHaveEaten_18 (d : Nat) (a1 : Nat) (v2 : Int) (M : aM) : w_th_waysToHaveEaten_18 d a1 v2 M = (
    if v2 < (M a1 2) then
      bndI (w_rows_cell d a1 v2 0 M) fun y16 M15 =>
      if y16 < 0 then
        let v17 : Int := w32 (v2 + 1)
        w_th_waysToHaveEaten_18 d a1 v17 M15
      else
        if y16 < 7 then
          inb y16 (aLen 153) <|
          bndI (w_rows_cell d a1 v2 1 M15) fun y19 M18 =>
          inb y16 (aLen 153) <|
          let M20 : aM := aUp M18 153 y16.toNat (ior (M15 153 y16.toNat) (ishl 1 y19))
          let v21 : Int := w32 (v2 + 1)
          w_th_waysToHaveEaten_18 d a1 v21 M20
        else
          let v22 : Int := w32 (v2 + 1)
          w_th_waysToHaveEaten_18 d a1 v22 M15
    else
      bndI (w_th_waysFrom d 0 0 M) fun y24 M23 =>
      some ([aI y24], M23)) :=
  (aOm_fix _ _ _ _ _ _).trans rfl
set_option maxRecDepth 20000 in
theorem u_th_waysFrom (d : Nat) (v1 : Int) (v2 : Int) (M : aM) : w_th_waysFrom (d + 1) v1 v2 M = (
    if v1 < 0 then
      some ([aI 1], M)
    else
      if v1 < 7 then
        inb v1 (aLen 153) <|
        if (M 153 v1.toNat) = 0 then
          bndI (w_th_waysFrom d (w32 (v1 + 1)) v2 M) fun y15 M14 =>
          some ([aI y15], M14)
        else
          w_th_waysFrom_35 d v1 v2 0 0 M
      else
        some ([aI 1], M)) :=
  (aOm_fix (aSem d) K_th_waysFrom 0 _ [] M).trans rfl
set_option maxRecDepth 20000 in
theorem u_th_waysFrom_35 (d : Nat) (v1 : Int) (v2 : Int) (v3 : Int) (v4 : Int) (M : aM) : w_th_waysFrom_35 d v1 v2 v3 v4 M = (
    if v4 < 10 then
      inb v1 (aLen 153) <|
      if (iand (ishr (iand (M 153 v1.toNat) (ixor v2 (-1))) v4) 1) = 1 then
        bndI (w_th_waysFrom d (w32 (v1 + 1)) (ior v2 (ishl 1 v4)) M) fun y18 M17 =>
        inb (w32 ((w32 (v1 * 10)) + v4)) (aLen 154) <|
        inb (w32 ((w32 (v1 * 10)) + v4)) (aLen 154) <|
        let M19 : aM := aUp M17 154 (w32 ((w32 (v1 * 10)) + v4)).toNat (w32 ((M17 154 (w32 ((w32 (v1 * 10)) + v4)).toNat) + y18))
        let v20 : Int := (w32 (v3 + y18))
        let v21 : Int := w32 (v4 + 1)
        w_th_waysFrom_35 d v1 v2 v20 v21 M19
      else
        let v22 : Int := w32 (v4 + 1)
        w_th_waysFrom_35 d v1 v2 v3 v22 M
    else
      some ([aI v3], M)) :=
  (aOm_fix _ _ _ _ _ _).trans rfl
set_option maxRecDepth 20000 in
theorem u_th_sureCouples (d : Nat) (v1 : Int) (M : aM) : w_th_sureCouples (d + 1) v1 M = (
    w_th_sureCouples_4 d v1 0 0 M) :=
  (aOm_fix (aSem d) K_th_sureCouples 0 _ [] M).trans rfl
set_option maxRecDepth 20000 in
theorem u_th_sureCouples_4 (d : Nat) (v1 : Int) (v2 : Int) (v3 : Int) (M : aM) : w_th_sureCouples_4 d v1 v2 v3 M = (
    if v3 < ((aLen 154 : Nat) : Int) then
      if 0 < v1 then
        inb v3 (aLen 154) <|
        if (M 154 v3.toNat) = v1 then
          let v15 : Int := w32 (v2 + 1)
          let v16 : Int := w32 (v3 + 1)
          w_th_sureCouples_4 d v1 v15 v16 M
        else
          let v17 : Int := w32 (v3 + 1)
          w_th_sureCouples_4 d v1 v2 v17 M
      else
        some ([aI v2], M)
    else
      some ([aI v2], M)) :=
  (aOm_fix _ _ _ _ _ _).trans rfl
set_option maxRecDepth 20000 in
theorem u_th_nearestHour (d : Nat) (a1 : Nat) (M : aM) : w_th_nearestHour (d + 1) a1 M = (
    w_th_nearestHour_4 d a1 0 1 M) :=
  (aOm_fix (aSem d) K_th_nearestHour 0 _ [] M).trans rfl
set_option maxRecDepth 20000 in
theorem u_th_nearestHour_4 (d : Nat) (a1 : Nat) (v2 : Int) (v3 : Int) (M : aM) : w_th_nearestHour_4 d a1 v2 v3 M = (
    if 24 < v3 then
      some ([aI v2], M)
    else
      bndI (w_th_farness d a1 v3 M) fun y16 M15 =>
      bndI (w_th_farness d a1 v2 M15) fun y18 M17 =>
      if y16 < y18 then
        let v19 : Int := w32 (v3 + 1)
        w_th_nearestHour_4 d a1 v3 v19 M17
      else
        let v20 : Int := w32 (v3 + 1)
        w_th_nearestHour_4 d a1 v2 v20 M17) :=
  (aOm_fix _ _ _ _ _ _).trans rfl
set_option maxRecDepth 20000 in
theorem u_th_farness (d : Nat) (a1 : Nat) (v2 : Int) (M : aM) : w_th_farness (d + 1) a1 v2 M = (
    w_th_farness_5 d a1 v2 0 0 M) :=
  (aOm_fix (aSem d) K_th_farness 0 _ [] M).trans rfl
set_option maxRecDepth 20000 in
theorem u_th_farness_5 (d : Nat) (a1 : Nat) (v2 : Int) (v3 : Int) (v4 : Int) (M : aM) : w_th_farness_5 d a1 v2 v3 v4 M = (
    if v4 < (M a1 2) then
      bndI (w_rows_cell d a1 v4 0 M) fun y17 M16 =>
      let v18 : Int := (w32 (v3 + (iabs (w32 (y17 - v2)))))
      let v19 : Int := w32 (v4 + 1)
      w_th_farness_5 d a1 v2 v18 v19 M16
    else
      some ([aI v3], M)) :=
  (aOm_fix _ _ _ _ _ _).trans rfl
set_option maxRecDepth 20000 in
theorem u_th_saltedSum (d : Nat) (a1 : Nat) (v2 : Int) (M : aM) : w_th_saltedSum (d + 1) a1 v2 M = (
    bndV (w_th_giveSalts d a1 v2 M) fun M14 =>
    if v2 < 0 then
      some ([aI 0], M14)
    else
      if v2 < 21 then
        inb v2 (aLen 155) <|
        some ([aI (M14 155 v2.toNat)], M14)
      else
        some ([aI 0], M14)) :=
  (aOm_fix (aSem d) K_th_saltedSum 0 _ [] M).trans rfl
set_option maxRecDepth 20000 in
theorem u_th_saltGiven (d : Nat) (a1 : Nat) (v2 : Int) (v3 : Int) (M : aM) : w_th_saltGiven (d + 1) a1 v2 v3 M = (
    bndV (w_th_giveSalts d a1 v2 M) fun M15 =>
    w_th_saltGiven_15 d a1 v3 v2 0 0 M15) :=
  (aOm_fix (aSem d) K_th_saltGiven 0 _ [] M).trans rfl
set_option maxRecDepth 20000 in
theorem u_th_saltGiven_15 (d : Nat) (a1 : Nat) (v3 : Int) (v4 : Int) (v5 : Int) (v6 : Int) (M : aM) : w_th_saltGiven_15 d a1 v3 v4 v5 v6 M = (
    if v3 < v6 then
      some ([aI v5], M)
    else
      if v6 < 10 then
        bndI (w_wood_isAlive d (a1 + 1) v6 M) fun y19 M18 =>
        if y19 = 0 then
          let v20 : Int := (w32 (v4 - 0))
          let v21 : Int := w32 (v6 + 1)
          w_th_saltGiven_15 d a1 v3 v20 0 v21 M18
        else
          bndI (w_th_fewest d v6 v4 M18) fun y23 M22 =>
          let v24 : Int := (w32 (v4 - y23))
          let v25 : Int := w32 (v6 + 1)
          w_th_saltGiven_15 d a1 v3 v24 y23 v25 M22
      else
        some ([aI v5], M)) :=
  (aOm_fix _ _ _ _ _ _).trans rfl
set_option maxRecDepth 20000 in
theorem u_th_fewest (d : Nat) (v1 : Int) (v2 : Int) (M : aM) : w_th_fewest (d + 1) v1 v2 M = (
    w_th_fewest_2 d v1 v2 0 M) :=
  (aOm_fix (aSem d) K_th_fewest 0 _ [] M).trans rfl
set_option maxRecDepth 20000 in
theorem u_th_fewest_2 (d : Nat) (v1 : Int) (v2 : Int) (v3 : Int) (M : aM) : w_th_fewest_2 d v1 v2 v3 M = (
    if v2 < v3 then
      some ([aI 0], M)
    else
      if v2 < 21 then
        inb (w32 ((w32 ((w32 ((w32 (v1 + 1)) * 21)) + v2)) - v3)) (aLen 155) <|
        let v16 : Int := (M 155 (w32 ((w32 ((w32 ((w32 (v1 + 1)) * 21)) + v2)) - v3)).toNat)
        inb (w32 ((w32 (v1 * 21)) + v3)) (aLen 156) <|
        inb (w32 ((w32 (v1 * 21)) + v2)) (aLen 155) <|
        if (w32 ((M 156 (w32 ((w32 (v1 * 21)) + v3)).toNat) + v16)) = (M 155 (w32 ((w32 (v1 * 21)) + v2)).toNat) then
          some ([aI v3], M)
        else
          let v17 : Int := w32 (v3 + 1)
          w_th_fewest_2 d v1 v2 v17 M
      else
        some ([aI 0], M)) :=
  (aOm_fix _ _ _ _ _ _).trans rfl
set_option maxRecDepth 20000 in
theorem u_th_giveSalts (d : Nat) (a1 : Nat) (v2 : Int) (M : aM) : w_th_giveSalts (d + 1) a1 v2 M = (
    bndV (w_ja_fillI d 155 (-1000000) M) fun M14 =>
    inb 210 (aLen 155) <|
    let M15 : aM := aUp M14 155 210 0
    w_th_giveSalts_21 d a1 v2 9 M15) :=
  (aOm_fix (aSem d) K_th_giveSalts 0 _ [] M).trans rfl
set_option maxRecDepth 20000 in
theorem u_th_giveSalts_21 (d : Nat) (a1 : Nat) (v2 : Int) (v3 : Int) (M : aM) : w_th_giveSalts_21 d a1 v2 v3 M = (
    if v3 < 0 then
      some ([], M)
    else
      bndI (w_wood_isAlive d (a1 + 1) v3 M) fun y16 M15 =>
      if y16 = 0 then
        if (0 : Int) ≤ 21 ∧ (0 : Int) ≤ (w32 ((w32 (v3 + 1)) * 21)) ∧ (0 : Int) ≤ (w32 (v3 * 21)) ∧ ((w32 ((w32 (v3 + 1)) * 21)) + 21 : Int) ≤ aLen 155 ∧ ((w32 (v3 * 21)) + 21 : Int) ≤ aLen 155 then
          let M17 : aM := aCpy M15 155 155 (w32 ((w32 (v3 + 1)) * 21)).toNat (w32 (v3 * 21)).toNat 21
          let v18 : Int := w32 (v3 + (-1))
          w_th_giveSalts_21 d a1 v2 v18 M17
        else none
      else
        bndV (w_th_askGains d a1 v3 v2 M15) fun M19 =>
        bndV (w_th_addGains d v3 v2 M19) fun M20 =>
        let v21 : Int := w32 (v3 + (-1))
        w_th_giveSalts_21 d a1 v2 v21 M20) :=
  (aOm_fix _ _ _ _ _ _).trans rfl
set_option maxRecDepth 20000 in
theorem u_th_askGains (d : Nat) (a1 : Nat) (v2 : Int) (v3 : Int) (M : aM) : w_th_askGains (d + 1) a1 v2 v3 M = (
    w_th_askGains_3 d a1 v2 v3 0 M) :=
  (aOm_fix (aSem d) K_th_askGains 0 _ [] M).trans rfl
set_option maxRecDepth 20000 in
theorem u_th_askGains_3 (d : Nat) (a1 : Nat) (v2 : Int) (v3 : Int) (v4 : Int) (M : aM) : w_th_askGains_3 d a1 v2 v3 v4 M = (
    if v3 < v4 then
      some ([], M)
    else
      if v4 < 21 then
        let v17 : Int := (imin 99 (w32 ((M (a1 + 1) 6) + v4)))
        bndI (w_world_comeWithSalt d a1 v2 v17 M) fun y19 M18 =>
        inb (w32 ((w32 (v2 * 21)) + v4)) (aLen 156) <|
        let M20 : aM := aUp M18 156 (w32 ((w32 (v2 * 21)) + v4)).toNat y19
        let v21 : Int := w32 (v4 + 1)
        w_th_askGains_3 d a1 v2 v3 v21 M20
      else
        some ([], M)) :=
  (aOm_fix _ _ _ _ _ _).trans rfl
set_option maxRecDepth 20000 in
theorem u_th_addGains (d : Nat) (v1 : Int) (v2 : Int) (M : aM) : w_th_addGains (d + 1) v1 v2 M = (
    w_th_addGains_2 d v1 v2 0 M) :=
  (aOm_fix (aSem d) K_th_addGains 0 _ [] M).trans rfl
set_option maxRecDepth 20000 in
theorem u_th_addGains_2 (d : Nat) (v1 : Int) (v2 : Int) (v3 : Int) (M : aM) : w_th_addGains_2 d v1 v2 v3 M = (
    if v2 < v3 then
      some ([], M)
    else
      if v3 < 21 then
        w_th_addGains_16 d v1 v2 v3 0 M
      else
        some ([], M)) :=
  (aOm_fix _ _ _ _ _ _).trans rfl
set_option maxRecDepth 20000 in
theorem u_th_addGains_16 (d : Nat) (v1 : Int) (v2 : Int) (v3 : Int) (v4 : Int) (M : aM) : w_th_addGains_16 d v1 v2 v3 v4 M = (
    if v3 < v4 then
      let v17 : Int := w32 (v3 + 1)
      w_th_addGains_2 d v1 v2 v17 M
    else
      inb (w32 ((w32 (v1 * 21)) + v4)) (aLen 156) <|
      inb (w32 ((w32 ((w32 ((w32 (v1 + 1)) * 21)) + v3)) - v4)) (aLen 155) <|
      let v18 : Int := (w32 ((M 156 (w32 ((w32 (v1 * 21)) + v4)).toNat) + (M 155 (w32 ((w32 ((w32 ((w32 (v1 + 1)) * 21)) + v3)) - v4)).toNat)))
      inb (w32 ((w32 (v1 * 21)) + v3)) (aLen 155) <|
      inb (w32 ((w32 (v1 * 21)) + v3)) (aLen 155) <|
      let M19 : aM := aUp M 155 (w32 ((w32 (v1 * 21)) + v3)).toNat (imax (M 155 (w32 ((w32 (v1 * 21)) + v3)).toNat) v18)
      let v20 : Int := w32 (v4 + 1)
      w_th_addGains_16 d v1 v2 v3 v20 M19) :=
  (aOm_fix _ _ _ _ _ _).trans rfl
set_option maxRecDepth 20000 in
theorem u_th_antlersOf (d : Nat) (a1 : Nat) (M : aM) : w_th_antlersOf (d + 1) a1 M = (
    w_th_antlersOf_2 d a1 0 M) :=
  (aOm_fix (aSem d) K_th_antlersOf 0 _ [] M).trans rfl
set_option maxRecDepth 20000 in
theorem u_th_antlersOf_2 (d : Nat) (a1 : Nat) (v2 : Int) (M : aM) : w_th_antlersOf_2 d a1 v2 M = (
    if v2 < 10 then
      bndI (w_wood_isAlive d a1 v2 M) fun y15 M14 =>
      if y15 = 0 then
        let v16 : Int := w32 (v2 + 1)
        w_th_antlersOf_2 d a1 v16 M14
      else
        bndI (w_th_antlersTaken d a1 v2 M14) fun y18 M17 =>
        if y18 = (-1) then
          let v19 : Int := w32 (v2 + 1)
          w_th_antlersOf_2 d a1 v19 M17
        else
          some ([aI v2], M17)
    else
      some ([aI (-1)], M)) :=
  (aOm_fix _ _ _ _ _ _).trans rfl
set_option maxRecDepth 20000 in
theorem u_th_antlersTaken (d : Nat) (a1 : Nat) (v2 : Int) (M : aM) : w_th_antlersTaken (d + 1) a1 v2 M = (
    w_th_antlersTaken_5 d a1 v2 0 0 M) :=
  (aOm_fix (aSem d) K_th_antlersTaken 0 _ [] M).trans rfl
set_option maxRecDepth 20000 in
theorem u_th_antlersTaken_5 (d : Nat) (a1 : Nat) (v2 : Int) (v3 : Int) (v4 : Int) (M : aM) : w_th_antlersTaken_5 d a1 v2 v3 v4 M = (
    if v4 < 10 then
      bndI (w_wood_isAlive d a1 v4 M) fun y17 M16 =>
      if y17 = 0 then
        let v18 : Int := w32 (v4 + 1)
        w_th_antlersTaken_5 d a1 v2 v3 v18 M16
      else
        if v4 = v2 then
          let v19 : Int := w32 (v4 + 1)
          w_th_antlersTaken_5 d a1 v2 v3 v19 M16
        else
          inb v4 (aLen (a1 + 4)) <|
          let v20 : Int := (ixor v3 (iand (M16 (a1 + 4) v4.toNat) 3))
          let v21 : Int := w32 (v4 + 1)
          w_th_antlersTaken_5 d a1 v2 v20 v21 M16
    else
      bndI (w_wood_has d a1 v2 M) fun y23 M22 =>
      if y23 = 0 then
        if (0 : Int) < 1 then
          some ([aI (-1)], M22)
        else
          inb v2 (aLen (a1 + 4)) <|
          if (M22 (a1 + 4) v2.toNat) < (0 : Int) then
            some ([aI (-1)], M22)
          else
            some ([aI 0], M22)
      else
        inb v2 (aLen (a1 + 4)) <|
        let v24 : Int := (iand (w32 ((M22 (a1 + 4) v2.toNat) - v3)) 3)
        if v24 < 1 then
          some ([aI (-1)], M22)
        else
          inb v2 (aLen (a1 + 4)) <|
          if (M22 (a1 + 4) v2.toNat) < v24 then
            some ([aI (-1)], M22)
          else
            some ([aI v24], M22)) :=
  (aOm_fix _ _ _ _ _ _).trans rfl
set_option maxRecDepth 20000 in
theorem u_wood_has (d : Nat) (a0 : Nat) (v1 : Int) (M : aM) : w_wood_has (d + 1) a0 v1 M = (
    if v1 < 0 then
      some ([aI 0], M)
    else
      if v1 < (M a0 4) then
        if v1 < 10 then
          some ([aI 1], M)
        else
          some ([aI 0], M)
      else
        some ([aI 0], M)) :=
  (aOm_fix (aSem d) K_wood_has 0 _ [] M).trans rfl
set_option maxRecDepth 20000 in
theorem u_wood_isAlive (d : Nat) (a0 : Nat) (v1 : Int) (M : aM) : w_wood_isAlive (d + 1) a0 v1 M = (
    bndI (w_wood_has d a0 v1 M) fun y14 M13 =>
    if y14 = 0 then
      some ([aI 0], M13)
    else
      if (iand (ishr (M13 a0 5) v1) 1) = 1 then
        some ([aI 1], M13)
      else
        some ([aI 0], M13)) :=
  (aOm_fix (aSem d) K_wood_isAlive 0 _ [] M).trans rfl
set_option maxRecDepth 20000 in
theorem u_wood_isPaid (d : Nat) (a0 : Nat) (v1 : Int) (M : aM) : w_wood_isPaid (d + 1) a0 v1 M = (
    if v1 < 0 then
      some ([aI 0], M)
    else
      if v1 < 16 then
        if (iand (ishr (M a0 16) v1) 1) = 1 then
          some ([aI 1], M)
        else
          some ([aI 0], M)
      else
        some ([aI 0], M)) :=
  (aOm_fix (aSem d) K_wood_isPaid 0 _ [] M).trans rfl
set_option maxRecDepth 20000 in
theorem u_wood_enter (d : Nat) (a0 : Nat) (v1 : Int) (v2 : Int) (M : aM) : w_wood_enter (d + 1) a0 v1 v2 M = (
    let v14 : Int := (M a0 4)
    if v14 < 0 then
      some ([aI (-1)], M)
    else
      if v14 < 10 then
        inb v14 (aLen (a0 + 1)) <|
        let M15 : aM := aUp M (a0 + 1) v14.toNat v1
        inb v14 (aLen (a0 + 2)) <|
        let M16 : aM := aUp M15 (a0 + 2) v14.toNat v2
        inb v14 (aLen (a0 + 3)) <|
        let M17 : aM := aUp M16 (a0 + 3) v14.toNat 0
        inb v14 (aLen (a0 + 4)) <|
        let M18 : aM := aUp M17 (a0 + 4) v14.toNat 0
        let M19 : aM := aUp M18 a0 5 (ior (M18 a0 5) (ishl 1 v14))
        let M20 : aM := aUp M19 a0 4 (w32 (v14 + 1))
        some ([aI v14], M20)
      else
        some ([aI (-1)], M)) :=
  (aOm_fix (aSem d) K_wood_enter 0 _ [] M).trans rfl
set_option maxRecDepth 20000 in
theorem u_wood_draw (d : Nat) (a0 : Nat) (v1 : Int) (M : aM) : w_wood_draw (d + 1) a0 v1 M = (
    let M13 : aM := aUp M a0 15 (w32 ((w32 ((M a0 15) * 1664525)) + 1013904223))
    if 0 < v1 then
      if v1 = 0 then none else
      some ([aI (irem (iushr (M13 a0 15) 8) v1)], M13)
    else
      some ([aI 0], M13)) :=
  (aOm_fix (aSem d) K_wood_draw 0 _ [] M).trans rfl
set_option maxRecDepth 20000 in
theorem u_wood_putFacts (d : Nat) (a0 : Nat) (v1 : Int) (a2 : Nat) (M : aM) : w_wood_putFacts (d + 1) a0 v1 a2 M = (
    bndI (w_wood_has d a0 v1 M) fun y15 M14 =>
    if y15 = 0 then
      some ([], M14)
    else
      if ((aLen a2 : Nat) : Int) < 10 then
        some ([], M14)
      else
        inb 0 (aLen a2) <|
        let M16 : aM := aUp M14 a2 0 v1
        inb v1 (aLen (a0 + 1)) <|
        inb 1 (aLen a2) <|
        let M17 : aM := aUp M16 a2 1 (M16 (a0 + 1) v1.toNat)
        inb v1 (aLen (a0 + 2)) <|
        inb 2 (aLen a2) <|
        let M18 : aM := aUp M17 a2 2 (M17 (a0 + 2) v1.toNat)
        inb v1 (aLen (a0 + 3)) <|
        inb 3 (aLen a2) <|
        let M19 : aM := aUp M18 a2 3 (M18 (a0 + 3) v1.toNat)
        inb v1 (aLen (a0 + 4)) <|
        inb 4 (aLen a2) <|
        let M20 : aM := aUp M19 a2 4 (M19 (a0 + 4) v1.toNat)
        inb 5 (aLen a2) <|
        let M21 : aM := aUp M20 a2 5 (M20 a0 6)
        inb 6 (aLen a2) <|
        let M22 : aM := aUp M21 a2 6 (M21 a0 7)
        inb 7 (aLen a2) <|
        let M23 : aM := aUp M22 a2 7 (M22 a0 8)
        inb 8 (aLen a2) <|
        let M24 : aM := aUp M23 a2 8 (irem (idiv (M23 a0 14) 30) 12)
        if (M24 a0 11) = v1 then
          inb 9 (aLen a2) <|
          let M25 : aM := aUp M24 a2 9 1
          some ([], M25)
        else
          inb 9 (aLen a2) <|
          let M26 : aM := aUp M24 a2 9 0
          some ([], M26)) :=
  (aOm_fix (aSem d) K_wood_putFacts 0 _ [] M).trans rfl
set_option maxRecDepth 20000 in
theorem u_wood_bring (d : Nat) (a0 : Nat) (v1 : Int) (v2 : Int) (v3 : Int) (M : aM) : w_wood_bring (d + 1) a0 v1 v2 v3 M = (
    w_wood_bring_3 d a0 v1 v2 v3 0 M) :=
  (aOm_fix (aSem d) K_wood_bring 0 _ [] M).trans rfl
set_option maxRecDepth 20000 in
theorem u_wood_bring_3 (d : Nat) (a0 : Nat) (v1 : Int) (v2 : Int) (v3 : Int) (v4 : Int) (M : aM) : w_wood_bring_3 d a0 v1 v2 v3 v4 M = (
    if v4 < (M a0 4) then
      if v4 < 10 then
        if v4 = v1 then
          inb v4 (aLen (a0 + 3)) <|
          let M16 : aM := aUp M (a0 + 3) v4.toNat 0
          inb v4 (aLen (a0 + 4)) <|
          inb v4 (aLen (a0 + 4)) <|
          let M17 : aM := aUp M16 (a0 + 4) v4.toNat (w32 ((M16 (a0 + 4) v4.toNat) + 1))
          inb v4 (aLen (a0 + 2)) <|
          inb v4 (aLen (a0 + 2)) <|
          let M18 : aM := aUp M17 (a0 + 2) v4.toNat (imax 0 (w32 ((M17 (a0 + 2) v4.toNat) - v3)))
          let v19 : Int := w32 (v4 + 1)
          w_wood_bring_3 d a0 v1 v2 v3 v19 M18
        else
          bndI (w_wood_isAlive d a0 v4 M) fun y21 M20 =>
          if y21 = 0 then
            let v22 : Int := w32 (v4 + 1)
            w_wood_bring_3 d a0 v1 v2 v3 v22 M20
          else
            inb v4 (aLen (a0 + 3)) <|
            inb v4 (aLen (a0 + 3)) <|
            let M23 : aM := aUp M20 (a0 + 3) v4.toNat (imin 999 (w32 ((M20 (a0 + 3) v4.toNat) + 1)))
            let v24 : Int := w32 (v4 + 1)
            w_wood_bring_3 d a0 v1 v2 v3 v24 M23
      else
        let M25 : aM := aUp M a0 11 v1
        let M26 : aM := aUp M25 a0 13 (w32 ((M25 a0 13) + v2))
        some ([], M26)
    else
      let M27 : aM := aUp M a0 11 v1
      let M28 : aM := aUp M27 a0 13 (w32 ((M27 a0 13) + v2))
      some ([], M28)) :=
  (aOm_fix _ _ _ _ _ _).trans rfl
set_option maxRecDepth 20000 in
theorem u_wood_leastCalm (d : Nat) (a0 : Nat) (M : aM) : w_wood_leastCalm (d + 1) a0 M = (
    w_wood_leastCalm_4 d a0 (-1) 0 M) :=
  (aOm_fix (aSem d) K_wood_leastCalm 0 _ [] M).trans rfl
set_option maxRecDepth 20000 in
theorem u_wood_leastCalm_4 (d : Nat) (a0 : Nat) (v1 : Int) (v2 : Int) (M : aM) : w_wood_leastCalm_4 d a0 v1 v2 M = (
    if v2 < (M a0 4) then
      if v2 < 10 then
        bndI (w_wood_isAlive d a0 v2 M) fun y15 M14 =>
        if y15 = 0 then
          let v16 : Int := w32 (v2 + 1)
          w_wood_leastCalm_4 d a0 v1 v16 M14
        else
          if v1 = (-1) then
            let v17 : Int := w32 (v2 + 1)
            w_wood_leastCalm_4 d a0 v2 v17 M14
          else
            inb v2 (aLen (a0 + 2)) <|
            inb v1 (aLen (a0 + 2)) <|
            if (M14 (a0 + 2) v2.toNat) < (M14 (a0 + 2) v1.toNat) then
              let v18 : Int := w32 (v2 + 1)
              w_wood_leastCalm_4 d a0 v2 v18 M14
            else
              let v19 : Int := w32 (v2 + 1)
              w_wood_leastCalm_4 d a0 v1 v19 M14
      else
        some ([aI v1], M)
    else
      some ([aI v1], M)) :=
  (aOm_fix _ _ _ _ _ _).trans rfl
set_option maxRecDepth 20000 in
theorem u_wood_nearestTo (d : Nat) (a0 : Nat) (v1 : Int) (M : aM) : w_wood_nearestTo (d + 1) a0 v1 M = (
    bndI (w_wood_has d a0 v1 M) fun y14 M13 =>
    if y14 = 0 then
      some ([aI (-1)], M13)
    else
      w_wood_nearestTo_17 d a0 v1 (-1) 0 0 M13) :=
  (aOm_fix (aSem d) K_wood_nearestTo 0 _ [] M).trans rfl
set_option maxRecDepth 20000 in
theorem u_wood_nearestTo_17 (d : Nat) (a0 : Nat) (v1 : Int) (v2 : Int) (v3 : Int) (v4 : Int) (M : aM) : w_wood_nearestTo_17 d a0 v1 v2 v3 v4 M = (
    if v4 < (M a0 4) then
      if v4 < 10 then
        inb v4 (aLen (a0 + 1)) <|
        inb v1 (aLen (a0 + 1)) <|
        inb v4 (aLen (a0 + 2)) <|
        inb v1 (aLen (a0 + 2)) <|
        let v17 : Int := (w32 ((w32 ((iabs (w32 ((M (a0 + 1) v4.toNat) - (M (a0 + 1) v1.toNat)))) * 100)) + (iabs (w32 ((M (a0 + 2) v4.toNat) - (M (a0 + 2) v1.toNat))))))
        bndI (w_wood_isAlive d a0 v4 M) fun y19 M18 =>
        if y19 = 0 then
          let v20 : Int := w32 (v4 + 1)
          w_wood_nearestTo_17 d a0 v1 v2 v3 v20 M18
        else
          if v2 = (-1) then
            let v21 : Int := w32 (v4 + 1)
            w_wood_nearestTo_17 d a0 v1 v4 v17 v21 M18
          else
            if v17 < v3 then
              let v22 : Int := w32 (v4 + 1)
              w_wood_nearestTo_17 d a0 v1 v4 v17 v22 M18
            else
              let v23 : Int := w32 (v4 + 1)
              w_wood_nearestTo_17 d a0 v1 v2 v3 v23 M18
      else
        some ([aI v2], M)
    else
      some ([aI v2], M)) :=
  (aOm_fix _ _ _ _ _ _).trans rfl
set_option maxRecDepth 20000 in
theorem u_wood_aliveWithMark (d : Nat) (a0 : Nat) (v1 : Int) (M : aM) : w_wood_aliveWithMark (d + 1) a0 v1 M = (
    w_wood_aliveWithMark_4 d a0 v1 0 0 M) :=
  (aOm_fix (aSem d) K_wood_aliveWithMark 0 _ [] M).trans rfl
set_option maxRecDepth 20000 in
theorem u_wood_aliveWithMark_4 (d : Nat) (a0 : Nat) (v1 : Int) (v2 : Int) (v3 : Int) (M : aM) : w_wood_aliveWithMark_4 d a0 v1 v2 v3 M = (
    if v3 < (M a0 4) then
      if v3 < 10 then
        bndI (w_wood_isAlive d a0 v3 M) fun y16 M15 =>
        if y16 = 0 then
          let v17 : Int := w32 (v3 + 1)
          w_wood_aliveWithMark_4 d a0 v1 v2 v17 M15
        else
          inb v3 (aLen (a0 + 1)) <|
          if (M15 (a0 + 1) v3.toNat) = v1 then
            let v18 : Int := w32 (v2 + 1)
            let v19 : Int := w32 (v3 + 1)
            w_wood_aliveWithMark_4 d a0 v1 v18 v19 M15
          else
            let v20 : Int := w32 (v3 + 1)
            w_wood_aliveWithMark_4 d a0 v1 v2 v20 M15
      else
        some ([aI v2], M)
    else
      some ([aI v2], M)) :=
  (aOm_fix _ _ _ _ _ _).trans rfl
set_option maxRecDepth 20000 in
theorem u_wood_copyFrom (d : Nat) (a0 : Nat) (a1 : Nat) (M : aM) : w_wood_copyFrom (d + 1) a0 a1 M = (
    if (0 : Int) ≤ 10 ∧ (0 : Int) ≤ 0 ∧ (0 : Int) ≤ 0 ∧ (0 + 10 : Int) ≤ aLen (a1 + 1) ∧ (0 + 10 : Int) ≤ aLen (a0 + 1) then
      let M13 : aM := aCpy M (a1 + 1) (a0 + 1) 0 0 10
      if (0 : Int) ≤ 10 ∧ (0 : Int) ≤ 0 ∧ (0 : Int) ≤ 0 ∧ (0 + 10 : Int) ≤ aLen (a1 + 2) ∧ (0 + 10 : Int) ≤ aLen (a0 + 2) then
        let M14 : aM := aCpy M13 (a1 + 2) (a0 + 2) 0 0 10
        if (0 : Int) ≤ 10 ∧ (0 : Int) ≤ 0 ∧ (0 : Int) ≤ 0 ∧ (0 + 10 : Int) ≤ aLen (a1 + 3) ∧ (0 + 10 : Int) ≤ aLen (a0 + 3) then
          let M15 : aM := aCpy M14 (a1 + 3) (a0 + 3) 0 0 10
          if (0 : Int) ≤ 10 ∧ (0 : Int) ≤ 0 ∧ (0 : Int) ≤ 0 ∧ (0 + 10 : Int) ≤ aLen (a1 + 4) ∧ (0 + 10 : Int) ≤ aLen (a0 + 4) then
            let M16 : aM := aCpy M15 (a1 + 4) (a0 + 4) 0 0 10
            let M17 : aM := aUp M16 a0 4 (M16 a1 4)
            let M18 : aM := aUp M17 a0 5 (M17 a1 5)
            let M19 : aM := aUp M18 a0 6 (M18 a1 6)
            let M20 : aM := aUp M19 a0 7 (M19 a1 7)
            let M21 : aM := aUp M20 a0 8 (M20 a1 8)
            let M22 : aM := aUp M21 a0 9 (M21 a1 9)
            let M23 : aM := aUp M22 a0 10 (M22 a1 10)
            let M24 : aM := aUp M23 a0 11 (M23 a1 11)
            let M25 : aM := aUp M24 a0 12 (M24 a1 12)
            let M26 : aM := aUp M25 a0 13 (M25 a1 13)
            let M27 : aM := aUp M26 a0 14 (M26 a1 14)
            let M28 : aM := aUp M27 a0 15 (M27 a1 15)
            let M29 : aM := aUp M28 a0 16 (M28 a1 16)
            some ([], M29)
          else none
        else none
      else none
    else none) :=
  (aOm_fix (aSem d) K_wood_copyFrom 0 _ [] M).trans rfl
set_option maxRecDepth 20000 in
theorem u_world_asked (d : Nat) (a0 : Nat) (v1 : Int) (v2 : Int) (M : aM) : w_world_asked (d + 1) a0 v1 v2 M = (
    bndV (w_wood_putFacts d (a0 + 1) v2 (a0 + 29) M) fun M14 =>
    bndI (w_law_tell d (a0 + 6) v1 (a0 + 29) M14) fun y16 M15 =>
    some ([aI y16], M15)) :=
  (aOm_fix (aSem d) K_world_asked 0 _ [] M).trans rfl
set_option maxRecDepth 20000 in
theorem u_world_comeWithSalt (d : Nat) (a0 : Nat) (v1 : Int) (v2 : Int) (M : aM) : w_world_comeWithSalt (d + 1) a0 v1 v2 M = (
    bndV (w_wood_putFacts d (a0 + 1) v1 (a0 + 29) M) fun M14 =>
    inb 5 (aLen (a0 + 29)) <|
    let M15 : aM := aUp M14 (a0 + 29) 5 v2
    bndI (w_law_tell d (a0 + 6) 0 (a0 + 29) M15) fun y17 M16 =>
    some ([aI y17], M16)) :=
  (aOm_fix (aSem d) K_world_comeWithSalt 0 _ [] M).trans rfl
set_option maxRecDepth 20000 in
theorem u_world_askComes (d : Nat) (a0 : Nat) (M : aM) : w_world_askComes (d + 1) a0 M = (
    let M12 : aM := aUp M a0 13 0
    w_world_askComes_7 d a0 0 M12) :=
  (aOm_fix (aSem d) K_world_askComes 0 _ [] M).trans rfl
set_option maxRecDepth 20000 in
theorem u_world_askComes_7 (d : Nat) (a0 : Nat) (v1 : Int) (M : aM) : w_world_askComes_7 d a0 v1 M = (
    if v1 < 10 then
      bndI (w_wood_isAlive d (a0 + 1) v1 M) fun y14 M13 =>
      if y14 = 0 then
        inb v1 (aLen (a0 + 30)) <|
        let M15 : aM := aUp M13 (a0 + 30) v1.toNat 0
        inb v1 (aLen (a0 + 30)) <|
        let M16 : aM := aUp M15 a0 13 (w32 ((M15 a0 13) + (M15 (a0 + 30) v1.toNat)))
        let v17 : Int := w32 (v1 + 1)
        w_world_askComes_7 d a0 v17 M16
      else
        bndI (w_world_asked d a0 0 v1 M13) fun y19 M18 =>
        inb v1 (aLen (a0 + 30)) <|
        let M20 : aM := aUp M18 (a0 + 30) v1.toNat y19
        inb v1 (aLen (a0 + 30)) <|
        let M21 : aM := aUp M20 a0 13 (w32 ((M20 a0 13) + (M20 (a0 + 30) v1.toNat)))
        let v22 : Int := w32 (v1 + 1)
        w_world_askComes_7 d a0 v22 M21
    else
      some ([], M)) :=
  (aOm_fix _ _ _ _ _ _).trans rfl
set_option maxRecDepth 20000 in
theorem u_world_likeliestDeer (d : Nat) (a0 : Nat) (M : aM) : w_world_likeliestDeer (d + 1) a0 M = (
    bndV (w_world_askComes d a0 M) fun M12 =>
    bndI (w_world_greatestCome d a0 M12) fun y14 M13 =>
    some ([aI y14], M13)) :=
  (aOm_fix (aSem d) K_world_likeliestDeer 0 _ [] M).trans rfl
set_option maxRecDepth 20000 in
theorem u_world_greatestCome (d : Nat) (a0 : Nat) (M : aM) : w_world_greatestCome (d + 1) a0 M = (
    w_world_greatestCome_4 d a0 (-1) 0 M) :=
  (aOm_fix (aSem d) K_world_greatestCome 0 _ [] M).trans rfl
set_option maxRecDepth 20000 in
theorem u_world_greatestCome_4 (d : Nat) (a0 : Nat) (v1 : Int) (v2 : Int) (M : aM) : w_world_greatestCome_4 d a0 v1 v2 M = (
    if v2 < 10 then
      bndI (w_wood_isAlive d (a0 + 1) v2 M) fun y15 M14 =>
      if y15 = 0 then
        let v16 : Int := w32 (v2 + 1)
        w_world_greatestCome_4 d a0 v1 v16 M14
      else
        if v1 = (-1) then
          let v17 : Int := w32 (v2 + 1)
          w_world_greatestCome_4 d a0 v2 v17 M14
        else
          inb v2 (aLen (a0 + 30)) <|
          inb v1 (aLen (a0 + 30)) <|
          if (M14 (a0 + 30) v1.toNat) < (M14 (a0 + 30) v2.toNat) then
            let v18 : Int := w32 (v2 + 1)
            w_world_greatestCome_4 d a0 v2 v18 M14
          else
            let v19 : Int := w32 (v2 + 1)
            w_world_greatestCome_4 d a0 v1 v19 M14
    else
      some ([aI v1], M)) :=
  (aOm_fix _ _ _ _ _ _).trans rfl
set_option maxRecDepth 20000 in
theorem u_world_likelihood (d : Nat) (a0 : Nat) (v1 : Int) (M : aM) : w_world_likelihood (d + 1) a0 v1 M = (
    bndV (w_world_askComes d a0 M) fun M13 =>
    bndI (w_wood_isAlive d (a0 + 1) v1 M13) fun y15 M14 =>
    if y15 = 0 then
      some ([aI 0], M14)
    else
      if 0 < (M14 a0 13) then
        inb v1 (aLen (a0 + 30)) <|
        if (M14 a0 13) = 0 then none else
        some ([aI (idiv (w32 ((idiv (w32 (1000000 * (M14 (a0 + 30) v1.toNat))) (M14 a0 13)) * (w32 (1000 - (M14 (a0 + 1) 10))))) 1000)], M14)
      else
        some ([aI 0], M14)) :=
  (aOm_fix (aSem d) K_world_likelihood 0 _ [] M).trans rfl
set_option maxRecDepth 20000 in
theorem u_world_eatOrFree (d : Nat) (a0 : Nat) (v1 : Int) (v2 : Int) (M : aM) : w_world_eatOrFree (d + 1) a0 v1 v2 M = (
    if v2 = 0 then
      let M14 : aM := aUp M (a0 + 1) 5 (ior (M (a0 + 1) 5) (ishl 1 v1))
      if v2 = 0 then
        bndI (w_rows_put d (a0 + 17) (M14 (a0 + 1) 14) 5 v1 0 M14) fun y16 M15 =>
        some ([], M15)
      else
        bndI (w_rows_put d (a0 + 17) (M14 (a0 + 1) 14) 3 v1 0 M14) fun y18 M17 =>
        some ([], M17)
    else
      let M19 : aM := aUp M (a0 + 1) 5 (iand (M (a0 + 1) 5) (ixor (ishl 1 v1) (-1)))
      if v2 = 0 then
        bndI (w_rows_put d (a0 + 17) (M19 (a0 + 1) 14) 5 v1 0 M19) fun y21 M20 =>
        some ([], M20)
      else
        bndI (w_rows_put d (a0 + 17) (M19 (a0 + 1) 14) 3 v1 0 M19) fun y23 M22 =>
        some ([], M22)) :=
  (aOm_fix (aSem d) K_world_eatOrFree 0 _ [] M).trans rfl
set_option maxRecDepth 20000 in
theorem u_world_passDay (d : Nat) (a0 : Nat) (v1 : Int) (M : aM) : w_world_passDay (d + 1) a0 v1 M = (
    bndV (w_world_followPlan d a0 M) fun M13 =>
    bndV (w_world_askComes d a0 M13) fun M14 =>
    if v1 = 0 then
      bndI (w_world_drawnDeer d a0 M14) fun y16 M15 =>
      if y16 = (-1) then
        bndI (w_rows_put d (a0 + 17) (M15 (a0 + 1) 14) 1 (-1) 5 M15) fun y18 M17 =>
        bndV (w_wood_bring d (a0 + 1) (-1) 5 0 M17) fun M19 =>
        if v1 = 0 then
          bndV (w_world_sendWolves d a0 M19) fun M20 =>
          w_world_passDay_116 d a0 y16 M20
        else
          w_world_passDay_116 d a0 y16 M19
      else
        bndI (w_world_asked d a0 1 y16 M15) fun y22 M21 =>
        bndI (w_world_asked d a0 2 y16 M21) fun y24 M23 =>
        bndI (w_rows_put d (a0 + 17) (M23 (a0 + 1) 14) 0 y16 y22 M23) fun y26 M25 =>
        bndV (w_wood_bring d (a0 + 1) y16 y22 y24 M25) fun M27 =>
        bndV (w_world_payDues d a0 M27) fun M28 =>
        if v1 = 0 then
          bndV (w_world_sendWolves d a0 M28) fun M29 =>
          w_world_passDay_116 d a0 y16 M29
        else
          w_world_passDay_116 d a0 y16 M28
    else
      bndI (w_world_dreamtDeer d a0 M14) fun y31 M30 =>
      if y31 = (-1) then
        bndI (w_rows_put d (a0 + 17) (M30 (a0 + 1) 14) 1 (-1) 5 M30) fun y33 M32 =>
        bndV (w_wood_bring d (a0 + 1) (-1) 5 0 M32) fun M34 =>
        if v1 = 0 then
          bndV (w_world_sendWolves d a0 M34) fun M35 =>
          w_world_passDay_116 d a0 y31 M35
        else
          w_world_passDay_116 d a0 y31 M34
      else
        bndI (w_world_asked d a0 1 y31 M30) fun y37 M36 =>
        bndI (w_world_asked d a0 2 y31 M36) fun y39 M38 =>
        bndI (w_rows_put d (a0 + 17) (M38 (a0 + 1) 14) 0 y31 y37 M38) fun y41 M40 =>
        bndV (w_wood_bring d (a0 + 1) y31 y37 y39 M40) fun M42 =>
        bndV (w_world_payDues d a0 M42) fun M43 =>
        if v1 = 0 then
          bndV (w_world_sendWolves d a0 M43) fun M44 =>
          w_world_passDay_116 d a0 y31 M44
        else
          w_world_passDay_116 d a0 y31 M43) :=
  (aOm_fix (aSem d) K_world_passDay 0 _ [] M).trans rfl
set_option maxRecDepth 20000 in
theorem u_world_passDay_116 (d : Nat) (a0 : Nat) (v2 : Int) (M : aM) : w_world_passDay_116 d a0 v2 M = (
    let M16 : aM := aUp M (a0 + 1) 6 (imax 0 (w32 ((M (a0 + 1) 6) - 1)))
    let M17 : aM := aUp M16 (a0 + 1) 7 (imax 0 (w32 ((M16 (a0 + 1) 7) - 1)))
    let M18 : aM := aUp M17 (a0 + 1) 14 (w32 ((M17 (a0 + 1) 14) + 1))
    if v2 = (-1) then
      some ([aI 1], M18)
    else
      some ([aI 0], M18)) :=
  (aOm_fix _ _ _ _ _ _).trans rfl
set_option maxRecDepth 20000 in
theorem u_world_followPlan (d : Nat) (a0 : Nat) (M : aM) : w_world_followPlan (d + 1) a0 M = (
    w_world_followPlan_2 d a0 0 M) :=
  (aOm_fix (aSem d) K_world_followPlan 0 _ [] M).trans rfl
set_option maxRecDepth 20000 in
theorem u_world_followPlan_2 (d : Nat) (a0 : Nat) (v1 : Int) (M : aM) : w_world_followPlan_2 d a0 v1 M = (
    if v1 < (M (a0 + 11) 2) then
      bndI (w_rows_cell d (a0 + 11) v1 0 M) fun y14 M13 =>
      if y14 = (M13 (a0 + 1) 14) then
        bndI (w_rows_cell d (a0 + 11) v1 1 M13) fun y16 M15 =>
        bndI (w_rows_cell d (a0 + 11) v1 2 M15) fun y18 M17 =>
        bndV (w_world_followLine d a0 y16 y18 M17) fun M19 =>
        let v20 : Int := w32 (v1 + 1)
        w_world_followPlan_2 d a0 v20 M19
      else
        let v21 : Int := w32 (v1 + 1)
        w_world_followPlan_2 d a0 v21 M13
    else
      some ([], M)) :=
  (aOm_fix _ _ _ _ _ _).trans rfl
set_option maxRecDepth 20000 in
theorem u_world_followLine (d : Nat) (a0 : Nat) (v1 : Int) (v2 : Int) (M : aM) : w_world_followLine (d + 1) a0 v1 v2 M = (
    if v1 = 1 then
      let M14 : aM := aUp M (a0 + 1) 6 v2
      some ([], M14)
    else
    if v1 = 2 then
      let M15 : aM := aUp M (a0 + 1) 7 v2
      some ([], M15)
    else
    if v1 = 3 then
      let M16 : aM := aUp M (a0 + 1) 8 (w32 (1 - (M (a0 + 1) 8)))
      some ([], M16)
    else
      bndI (w_wood_has d (a0 + 1) v2 M) fun y18 M17 =>
      if y18 = 0 then
        some ([], M17)
      else
        bndI (w_wood_isAlive d (a0 + 1) v2 M17) fun y20 M19 =>
        if v1 = 4 then
          if y20 = 1 then
            if v1 = 4 then
              bndV (w_world_eatOrFree d a0 v2 1 M19) fun M21 =>
              some ([], M21)
            else
              bndV (w_world_eatOrFree d a0 v2 0 M19) fun M22 =>
              some ([], M22)
          else
            some ([], M19)
        else
          if y20 = 0 then
            if v1 = 4 then
              bndV (w_world_eatOrFree d a0 v2 1 M19) fun M23 =>
              some ([], M23)
            else
              bndV (w_world_eatOrFree d a0 v2 0 M19) fun M24 =>
              some ([], M24)
          else
            some ([], M19)) :=
  (aOm_fix (aSem d) K_world_followLine 0 _ [] M).trans rfl
set_option maxRecDepth 20000 in
theorem u_world_dreamtDeer (d : Nat) (a0 : Nat) (M : aM) : w_world_dreamtDeer (d + 1) a0 M = (
    if 0 < (M a0 13) then
      bndI (w_world_greatestCome d a0 M) fun y13 M12 =>
      some ([aI y13], M12)
    else
      some ([aI (-1)], M)) :=
  (aOm_fix (aSem d) K_world_dreamtDeer 0 _ [] M).trans rfl
set_option maxRecDepth 20000 in
theorem u_world_drawnDeer (d : Nat) (a0 : Nat) (M : aM) : w_world_drawnDeer (d + 1) a0 M = (
    if 0 < (M (a0 + 1) 10) then
      bndI (w_wood_draw d (a0 + 1) 1000 M) fun y13 M12 =>
      if y13 < (M12 (a0 + 1) 10) then
        some ([aI (-1)], M12)
      else
        if 0 < (M12 a0 13) then
          bndI (w_wood_draw d (a0 + 1) (M12 a0 13) M12) fun y15 M14 =>
          w_world_drawnDeer_53 d a0 y15 0 M14
        else
          some ([aI (-1)], M12)
    else
      if 0 < (M a0 13) then
        bndI (w_wood_draw d (a0 + 1) (M a0 13) M) fun y17 M16 =>
        w_world_drawnDeer_53 d a0 y17 0 M16
      else
        some ([aI (-1)], M)) :=
  (aOm_fix (aSem d) K_world_drawnDeer 0 _ [] M).trans rfl
set_option maxRecDepth 20000 in
theorem u_world_drawnDeer_53 (d : Nat) (a0 : Nat) (v1 : Int) (v2 : Int) (M : aM) : w_world_drawnDeer_53 d a0 v1 v2 M = (
    if v2 < 10 then
      inb v2 (aLen (a0 + 30)) <|
      let v14 : Int := (w32 (v1 - (M (a0 + 30) v2.toNat)))
      if v14 < 0 then
        some ([aI v2], M)
      else
        let v15 : Int := w32 (v2 + 1)
        w_world_drawnDeer_53 d a0 v14 v15 M
    else
      some ([aI (-1)], M)) :=
  (aOm_fix _ _ _ _ _ _).trans rfl
set_option maxRecDepth 20000 in
theorem u_world_payDues (d : Nat) (a0 : Nat) (M : aM) : w_world_payDues (d + 1) a0 M = (
    w_world_payDues_2 d a0 0 M) :=
  (aOm_fix (aSem d) K_world_payDues 0 _ [] M).trans rfl
set_option maxRecDepth 20000 in
theorem u_world_payDues_2 (d : Nat) (a0 : Nat) (v1 : Int) (M : aM) : w_world_payDues_2 d a0 v1 M = (
    if v1 < (M (a0 + 13) 2) then
      bndI (w_wood_isPaid d (a0 + 1) v1 M) fun y15 M14 =>
      if y15 = 0 then
        bndI (w_rows_cell d (a0 + 13) v1 1 M14) fun y17 M16 =>
        if y17 = (M16 (a0 + 1) 11) then
          if (1 : Int) = 0 then
            let v18 : Int := w32 (v1 + 1)
            w_world_payDues_2 d a0 v18 M16
          else
            bndI (w_rows_cell d (a0 + 13) v1 2 M16) fun y20 M19 =>
            if y20 < (M16 (a0 + 1) 14) then
              let M21 : aM := aUp M19 (a0 + 1) 16 (ior (M19 (a0 + 1) 16) (ishl 1 v1))
              bndI (w_rows_cell d (a0 + 13) v1 0 M21) fun y23 M22 =>
              let M24 : aM := aUp M22 (a0 + 1) 12 (w32 ((M21 (a0 + 1) 12) - y23))
              bndI (w_rows_cell d (a0 + 13) v1 0 M24) fun y26 M25 =>
              bndI (w_rows_put d (a0 + 17) (M24 (a0 + 1) 14) 2 v1 y26 M25) fun y28 M27 =>
              let v29 : Int := w32 (v1 + 1)
              w_world_payDues_2 d a0 v29 M27
            else
              let v30 : Int := w32 (v1 + 1)
              w_world_payDues_2 d a0 v30 M19
        else
          w_world_payDues_47 d a0 v1 M16
      else
        w_world_payDues_47 d a0 v1 M14
    else
      some ([], M)) :=
  (aOm_fix _ _ _ _ _ _).trans rfl
set_option maxRecDepth 20000 in
theorem u_world_payDues_47 (d : Nat) (a0 : Nat) (v1 : Int) (M : aM) : w_world_payDues_47 d a0 v1 M = (
    if (0 : Int) = 0 then
      let v14 : Int := w32 (v1 + 1)
      w_world_payDues_2 d a0 v14 M
    else
      bndI (w_rows_cell d (a0 + 13) v1 2 M) fun y16 M15 =>
      if y16 < (M (a0 + 1) 14) then
        let M17 : aM := aUp M15 (a0 + 1) 16 (ior (M15 (a0 + 1) 16) (ishl 1 v1))
        bndI (w_rows_cell d (a0 + 13) v1 0 M17) fun y19 M18 =>
        let M20 : aM := aUp M18 (a0 + 1) 12 (w32 ((M17 (a0 + 1) 12) - y19))
        bndI (w_rows_cell d (a0 + 13) v1 0 M20) fun y22 M21 =>
        bndI (w_rows_put d (a0 + 17) (M20 (a0 + 1) 14) 2 v1 y22 M21) fun y24 M23 =>
        let v25 : Int := w32 (v1 + 1)
        w_world_payDues_2 d a0 v25 M23
      else
        let v26 : Int := w32 (v1 + 1)
        w_world_payDues_2 d a0 v26 M15) :=
  (aOm_fix _ _ _ _ _ _).trans rfl
set_option maxRecDepth 20000 in
theorem u_world_sendWolves (d : Nat) (a0 : Nat) (M : aM) : w_world_sendWolves (d + 1) a0 M = (
    if 0 < (M (a0 + 1) 9) then
      if (M (a0 + 1) 5) = 0 then
        some ([], M)
      else
        bndI (w_wood_draw d (a0 + 1) 1000 M) fun y13 M12 =>
        if y13 < (M12 (a0 + 1) 9) then
          bndI (w_wood_leastCalm d (a0 + 1) M12) fun y15 M14 =>
          if y15 = (-1) then
            some ([], M14)
          else
            let M16 : aM := aUp M14 (a0 + 1) 5 (iand (M14 (a0 + 1) 5) (ixor (ishl 1 y15) (-1)))
            bndI (w_rows_put d (a0 + 17) (M16 (a0 + 1) 14) 4 y15 0 M16) fun y18 M17 =>
            some ([], M17)
        else
          some ([], M12)
    else
      some ([], M)) :=
  (aOm_fix (aSem d) K_world_sendWolves 0 _ [] M).trans rfl
set_option maxRecDepth 20000 in
theorem u_world_copyFrom (d : Nat) (a0 : Nat) (a1 : Nat) (M : aM) : w_world_copyFrom (d + 1) a0 a1 M = (
    bndV (w_wood_copyFrom d (a0 + 1) (a1 + 1) M) fun M13 =>
    bndV (w_law_copyFrom d (a0 + 6) (a1 + 6) M13) fun M14 =>
    bndV (w_rows_copyFrom d (a0 + 11) (a1 + 11) M14) fun M15 =>
    bndV (w_rows_copyFrom d (a0 + 13) (a1 + 13) M15) fun M16 =>
    bndV (w_rows_copyFrom d (a0 + 15) (a1 + 15) M16) fun M17 =>
    bndV (w_rows_copyFrom d (a0 + 17) (a1 + 17) M17) fun M18 =>
    bndV (w_rows_copyFrom d (a0 + 19) (a1 + 19) M18) fun M19 =>
    bndV (w_rows_copyFrom d (a0 + 21) (a1 + 21) M19) fun M20 =>
    bndV (w_rows_copyFrom d (a0 + 23) (a1 + 23) M20) fun M21 =>
    bndV (w_rows_copyFrom d (a0 + 25) (a1 + 25) M21) fun M22 =>
    bndV (w_rows_copyFrom d (a0 + 27) (a1 + 27) M22) fun M23 =>
    some ([], M23)) :=
  (aOm_fix (aSem d) K_world_copyFrom 0 _ [] M).trans rfl
set_option maxRecDepth 20000 in
theorem u_x_state (d : Nat) (v1 : Int) (M : aM) : w_x_state (d + 1) v1 M = (
    let v13 : Int := (M 2 15)
    let M14 : aM := aUp M 2 15 v1
    bndV (w_acts_forget d M14) fun M15 =>
    some ([aI v13], M15)) :=
  (aOm_fix (aSem d) K_x_state 0 _ [] M).trans rfl
set_option maxRecDepth 20000 in
theorem u_x_deer (d : Nat) (v1 : Int) (v2 : Int) (M : aM) : w_x_deer (d + 1) v1 v2 M = (
    bndI (w_x_within d v1 5 M) fun y15 M14 =>
    if y15 = 0 then
      some ([aI (-1)], M14)
    else
      bndI (w_x_within d v2 9 M14) fun y17 M16 =>
      if y17 = 0 then
        some ([aI (-1)], M16)
      else
        if (M16 2 4) < 10 then
          bndV (w_acts_forget d M16) fun M18 =>
          bndI (w_wood_enter d 2 v1 v2 M18) fun y20 M19 =>
          some ([aI y20], M19)
        else
          some ([aI (-1)], M16)) :=
  (aOm_fix (aSem d) K_x_deer 0 _ [] M).trans rfl
set_option maxRecDepth 20000 in
theorem u_x_set (d : Nat) (v1 : Int) (v2 : Int) (v3 : Int) (M : aM) : w_x_set (d + 1) v1 v2 v3 M = (
    if v1 < 5 then
      bndI (w_x_setWood d v1 v3 M) fun y16 M15 =>
      if y16 = 0 then
        aBool y16 <| some ([aI y16], M15)
      else
        bndV (w_acts_forget d M15) fun M17 =>
        aBool y16 <| some ([aI y16], M17)
    else
      bndI (w_x_setDeer d v1 v2 v3 M) fun y19 M18 =>
      if y19 = 0 then
        aBool y19 <| some ([aI y19], M18)
      else
        bndV (w_acts_forget d M18) fun M20 =>
        aBool y19 <| some ([aI y19], M20)) :=
  (aOm_fix (aSem d) K_x_set 0 _ [] M).trans rfl
set_option maxRecDepth 20000 in
theorem u_x_eat (d : Nat) (v1 : Int) (v2 : Int) (M : aM) : w_x_eat (d + 1) v1 v2 M = (
    bndI (w_wood_has d 2 v1 M) fun y15 M14 =>
    if y15 = 0 then
      some ([aI 0], M14)
    else
      bndI (w_wood_isAlive d 2 v1 M14) fun y17 M16 =>
      if y17 = v2 then
        bndV (w_acts_keep d 1 M16) fun M18 =>
        bndV (w_world_eatOrFree d 1 v1 v2 M18) fun M19 =>
        some ([aI 1], M19)
      else
        some ([aI 0], M16)) :=
  (aOm_fix (aSem d) K_x_eat 0 _ [] M).trans rfl
set_option maxRecDepth 20000 in
theorem u_x_days (d : Nat) (v1 : Int) (M : aM) : w_x_days (d + 1) v1 M = (
    if v1 < 1 then
      some ([aI (-1)], M)
    else
      if 60 < v1 then
        some ([aI (-1)], M)
      else
        if 9999 < (w32 ((M 2 14) + v1)) then
          some ([aI (-1)], M)
        else
          w_x_days_35 d v1 0 0 M) :=
  (aOm_fix (aSem d) K_x_days 0 _ [] M).trans rfl
set_option maxRecDepth 20000 in
theorem u_x_days_35 (d : Nat) (v1 : Int) (v2 : Int) (v3 : Int) (M : aM) : w_x_days_35 d v1 v2 v3 M = (
    if v3 < v1 then
      bndV (w_acts_keep d 1 M) fun M15 =>
      bndI (w_world_passDay d 1 0 M15) fun y17 M16 =>
      if y17 = 0 then
        let v18 : Int := w32 (v3 + 1)
        w_x_days_35 d v1 v2 v18 M16
      else
        let v19 : Int := w32 (v2 + 1)
        let v20 : Int := w32 (v3 + 1)
        w_x_days_35 d v1 v19 v20 M16
    else
      some ([aI v2], M)) :=
  (aOm_fix _ _ _ _ _ _).trans rfl
set_option maxRecDepth 20000 in
theorem u_x_waitFor (d : Nat) (v1 : Int) (M : aM) : w_x_waitFor (d + 1) v1 M = (
    bndI (w_wood_has d 2 v1 M) fun y14 M13 =>
    if y14 = 0 then
      some ([aI (-2)], M13)
    else
      if 9999 < (w32 ((M13 2 14) + 30)) then
        some ([aI (-2)], M13)
      else
        w_x_waitFor_38 d v1 1 M13) :=
  (aOm_fix (aSem d) K_x_waitFor 0 _ [] M).trans rfl
set_option maxRecDepth 20000 in
theorem u_x_waitFor_38 (d : Nat) (v1 : Int) (v2 : Int) (M : aM) : w_x_waitFor_38 d v1 v2 M = (
    if 30 < v2 then
      some ([aI (-1)], M)
    else
      bndV (w_acts_keep d 1 M) fun M14 =>
      bndI (w_world_passDay d 1 0 M14) fun y16 M15 =>
      if (M15 2 11) = v1 then
        some ([aI v2], M15)
      else
        let v17 : Int := w32 (v2 + 1)
        w_x_waitFor_38 d v1 v17 M15) :=
  (aOm_fix _ _ _ _ _ _).trans rfl
set_option maxRecDepth 20000 in
theorem u_x_feed (d : Nat) (v1 : Int) (v2 : Int) (v3 : Int) (v4 : Int) (v5 : Int) (M : aM) : w_x_feed (d + 1) v1 v2 v3 v4 v5 M = (
    if 400 < (w32 ((M 127 5) + 20)) then
      some ([aI (-1)], M)
    else
      bndV (w_tape_append d v1 M) fun M17 =>
      bndV (w_tape_append d v2 M17) fun M18 =>
      bndV (w_tape_append d v3 M18) fun M19 =>
      bndV (w_tape_append d v4 M19) fun M20 =>
      bndV (w_tape_append d v5 M20) fun M21 =>
      some ([aI (M21 127 5)], M21)) :=
  (aOm_fix (aSem d) K_x_feed 0 _ [] M).trans rfl
set_option maxRecDepth 20000 in
theorem u_x_end (d : Nat) (v1 : Int) (M : aM) : w_x_end (d + 1) v1 M = (
    if v1 < 0 then
      some ([aI 0], M)
    else
      if (M 127 5) < v1 then
        some ([aI 0], M)
      else
        let M13 : aM := aUp M 127 5 v1
        some ([aI 1], M13)) :=
  (aOm_fix (aSem d) K_x_end 0 _ [] M).trans rfl
set_option maxRecDepth 20000 in
theorem u_x_text (d : Nat) (v1 : Int) (M : aM) : w_x_text (d + 1) v1 M = (
    bndI (w_rd_read d v1 (M 2 4) M) fun y14 M13 =>
    let M15 : aM := aUp M13 127 5 0
    if y14 = 0 then
      some ([aI (-1)], M15)
    else
      bndI (w_x_takeText d v1 M15) fun y17 M16 =>
      some ([aI y17], M16)) :=
  (aOm_fix (aSem d) K_x_text 0 _ [] M).trans rfl
set_option maxRecDepth 20000 in
theorem u_x_fault (d : Nat) (v1 : Int) (M : aM) : w_x_fault (d + 1) v1 M = (
    if v1 = 0 then
      some ([aI (M 132 2)], M)
    else
    if v1 = 1 then
      some ([aI (M 132 3)], M)
    else
      some ([aI (-1)], M)) :=
  (aOm_fix (aSem d) K_x_fault 0 _ [] M).trans rfl
set_option maxRecDepth 20000 in
theorem u_x_of (d : Nat) (v1 : Int) (v2 : Int) (M : aM) : w_x_of (d + 1) v1 v2 M = (
    bndI (w_wood_has d 2 v1 M) fun y15 M14 =>
    if y15 = 0 then
      some ([aI (-1)], M14)
    else
      if v2 = 0 then
        inb v1 (aLen 3) <|
        some ([aI (M14 3 v1.toNat)], M14)
      else
      if v2 = 1 then
        inb v1 (aLen 4) <|
        some ([aI (M14 4 v1.toNat)], M14)
      else
      if v2 = 2 then
        bndI (w_wood_isAlive d 2 v1 M14) fun y17 M16 =>
        if y17 = 0 then
          some ([aI 0], M16)
        else
          some ([aI 1], M16)
      else
      if v2 = 3 then
        inb v1 (aLen 5) <|
        some ([aI (M14 5 v1.toNat)], M14)
      else
      if v2 = 4 then
        inb v1 (aLen 6) <|
        some ([aI (M14 6 v1.toNat)], M14)
      else
      if v2 = 5 then
        bndI (w_world_asked d 1 0 v1 M14) fun y19 M18 =>
        some ([aI y19], M18)
      else
      if v2 = 6 then
        bndI (w_world_asked d 1 1 v1 M14) fun y21 M20 =>
        some ([aI y21], M20)
      else
      if v2 = 7 then
        bndI (w_world_asked d 1 2 v1 M14) fun y23 M22 =>
        some ([aI y23], M22)
      else
        some ([aI (-1)], M14)) :=
  (aOm_fix (aSem d) K_x_of 0 _ [] M).trans rfl
set_option maxRecDepth 20000 in
theorem u_x_due (d : Nat) (v1 : Int) (v2 : Int) (M : aM) : w_x_due (d + 1) v1 v2 M = (
    bndI (w_rows_has d 14 v1 M) fun y15 M14 =>
    if y15 = 0 then
      some ([aI (-2)], M14)
    else
      if v2 < 0 then
        some ([aI (-2)], M14)
      else
        if 3 < v2 then
          some ([aI (-2)], M14)
        else
          if v2 = 3 then
            bndI (w_wood_isPaid d 2 v1 M14) fun y17 M16 =>
            if y17 = 0 then
              some ([aI 0], M16)
            else
              some ([aI 1], M16)
          else
            bndI (w_rows_cell d 14 v1 v2 M14) fun y19 M18 =>
            some ([aI y19], M18)) :=
  (aOm_fix (aSem d) K_x_due 0 _ [] M).trans rfl
set_option maxRecDepth 20000 in
theorem u_x_book (d : Nat) (v1 : Int) (v2 : Int) (M : aM) : w_x_book (d + 1) v1 v2 M = (
    bndI (w_rows_has d 18 v1 M) fun y15 M14 =>
    if y15 = 0 then
      some ([aI (-2)], M14)
    else
      bndI (w_x_within d v2 3 M14) fun y17 M16 =>
      if y17 = 0 then
        some ([aI (-2)], M16)
      else
        bndI (w_rows_cell d 18 v1 v2 M16) fun y19 M18 =>
        some ([aI y19], M18)) :=
  (aOm_fix (aSem d) K_x_book 0 _ [] M).trans rfl
set_option maxRecDepth 20000 in
theorem u_x_next (d : Nat) (v1 : Int) (v2 : Int) (M : aM) : w_x_next (d + 1) v1 v2 M = (
    bndI (w_wood_has d 2 v1 M) fun y15 M14 =>
    if y15 = 0 then
      some ([aI (-1)], M14)
    else
      bndI (w_x_within d v2 60 M14) fun y17 M16 =>
      if y17 = 0 then
        some ([aI (-1)], M16)
      else
        bndI (w_world_likelihood d 1 v1 M16) fun y19 M18 =>
        if v2 = 0 then
          some ([aI y19], M18)
        else
          bndI (w_x_likelyWithin d y19 v2 M18) fun y21 M20 =>
          some ([aI y21], M20)) :=
  (aOm_fix (aSem d) K_x_next 0 _ [] M).trans rfl
set_option maxRecDepth 20000 in
theorem u_x_likeliest (d : Nat)  (M : aM) : w_x_likeliest (d + 1)  M = (
    bndI (w_world_likeliestDeer d 1 M) fun y13 M12 =>
    some ([aI y13], M12)) :=
  (aOm_fix (aSem d) K_x_likeliest 0 _ [] M).trans rfl
set_option maxRecDepth 20000 in
theorem u_x_goes (d : Nat) (v1 : Int) (v2 : Int) (M : aM) : w_x_goes (d + 1) v1 v2 M = (
    if v1 < 1 then
      some ([aI (-100000)], M)
    else
      if 99 < v1 then
        some ([aI (-100000)], M)
      else
        bndI (w_x_within d v2 3 M) fun y15 M14 =>
        if y15 = 0 then
          some ([aI (-100000)], M14)
        else
          bndV (w_world_copyFrom d 63 1 M14) fun M16 =>
          w_x_goes_35 d v1 v2 0 M16) :=
  (aOm_fix (aSem d) K_x_goes 0 _ [] M).trans rfl
set_option maxRecDepth 20000 in
theorem u_x_goes_35 (d : Nat) (v1 : Int) (v2 : Int) (v3 : Int) (M : aM) : w_x_goes_35 d v1 v2 v3 M = (
    if v3 < v1 then
      bndI (w_world_passDay d 63 1 M) fun y16 M15 =>
      let v17 : Int := w32 (v3 + 1)
      w_x_goes_35 d v1 v2 v17 M15
    else
      if v2 = 0 then
        some ([aI (M 64 12)], M)
      else
      if v2 = 1 then
        some ([aI (M 64 13)], M)
      else
      if v2 = 2 then
        bndI (w_ji_bitCount d (M 64 16) M) fun y19 M18 =>
        some ([aI y19], M18)
      else
        some ([aI (M 64 11)], M)) :=
  (aOm_fix _ _ _ _ _ _).trans rfl
set_option maxRecDepth 20000 in
theorem u_x_reads (d : Nat) (v1 : Int) (M : aM) : w_x_reads (d + 1) v1 M = (
    bndI (w_rows_has d 14 v1 M) fun y14 M13 =>
    if y14 = 0 then
      some ([aI (-1)], M13)
    else
      bndI (w_rows_cell d 14 v1 1 M13) fun y16 M15 =>
      bndI (w_wood_isAlive d 2 y16 M15) fun y18 M17 =>
      if y18 = 0 then
        bndI (w_wood_nearestTo d 2 y16 M17) fun y20 M19 =>
        some ([aI y20], M19)
      else
        some ([aI (-1)], M17)) :=
  (aOm_fix (aSem d) K_x_reads 0 _ [] M).trans rfl
set_option maxRecDepth 20000 in
theorem u_x_seen (d : Nat) (v1 : Int) (v2 : Int) (M : aM) : w_x_seen (d + 1) v1 v2 M = (
    bndI (w_wood_has d 2 v1 M) fun y15 M14 =>
    if y15 = 0 then
      bndI (w_rows_tell d 20 v1 v2 0 M14) fun y17 M16 =>
      some ([aI y17], M16)
    else
      bndI (w_wood_has d 2 v2 M14) fun y19 M18 =>
      if y19 = 0 then
        bndI (w_rows_tell d 20 v1 v2 0 M18) fun y21 M20 =>
        some ([aI y21], M20)
      else
        if v1 = v2 then
          bndI (w_rows_tell d 20 v1 v2 0 M18) fun y23 M22 =>
          some ([aI y23], M22)
        else
          bndI (w_rows_tell d 20 v1 v2 1 M18) fun y25 M24 =>
          some ([aI y25], M24)) :=
  (aOm_fix (aSem d) K_x_seen 0 _ [] M).trans rfl
set_option maxRecDepth 20000 in
theorem u_x_orders (d : Nat) (v1 : Int) (M : aM) : w_x_orders (d + 1) v1 M = (
    if v1 = 0 then
      bndI (w_ord_howMany d 1 M) fun y14 M13 =>
      some ([aI y14], M13)
    else
      if v1 = 1 then
        if v1 = 1 then
          bndI (w_ord_asks d 1 1 M) fun y16 M15 =>
          some ([aI y16], M15)
        else
          bndI (w_ord_asks d 1 0 M) fun y18 M17 =>
          some ([aI y18], M17)
      else
        if v1 = 2 then
          if v1 = 1 then
            bndI (w_ord_asks d 1 1 M) fun y20 M19 =>
            some ([aI y20], M19)
          else
            bndI (w_ord_asks d 1 0 M) fun y22 M21 =>
            some ([aI y22], M21)
        else
          if v1 < 10 then
            some ([aI (-1)], M)
          else
            bndI (w_wood_has d 2 (w32 (v1 - 10)) M) fun y24 M23 =>
            if y24 = 0 then
              some ([aI (-1)], M23)
            else
              bndI (w_ord_placeOfFirst d 1 (w32 (v1 - 10)) M23) fun y26 M25 =>
              some ([aI y26], M25)) :=
  (aOm_fix (aSem d) K_x_orders 0 _ [] M).trans rfl
set_option maxRecDepth 20000 in
theorem u_x_moves (d : Nat) (v1 : Int) (M : aM) : w_x_moves (d + 1) v1 M = (
    if v1 = 0 then
      bndI (w_th_movedDays d 16 M) fun y14 M13 =>
      some ([aI y14], M13)
    else
      if v1 < 10 then
        some ([aI (-1)], M)
      else
        bndI (w_rows_has d 16 (w32 (v1 - 10)) M) fun y16 M15 =>
        if y16 = 0 then
          some ([aI (-1)], M15)
        else
          bndI (w_th_movedTo d 16 (w32 (v1 - 10)) M15) fun y18 M17 =>
          some ([aI y18], M17)) :=
  (aOm_fix (aSem d) K_x_moves 0 _ [] M).trans rfl
set_option maxRecDepth 20000 in
theorem u_x_work (d : Nat) (v1 : Int) (M : aM) : w_x_work (d + 1) v1 M = (
    if v1 < 1 then
      bndI (w_rows_tell d 22 v1 0 0 M) fun y14 M13 =>
      some ([aI y14], M13)
    else
      if 24 < v1 then
        bndI (w_rows_tell d 22 v1 0 0 M) fun y16 M15 =>
        some ([aI y16], M15)
      else
        bndI (w_rows_tell d 22 v1 0 1 M) fun y18 M17 =>
        some ([aI y18], M17)) :=
  (aOm_fix (aSem d) K_x_work 0 _ [] M).trans rfl
set_option maxRecDepth 20000 in
theorem u_x_works (d : Nat) (v1 : Int) (M : aM) : w_x_works (d + 1) v1 M = (
    bndI (w_x_within d v1 2 M) fun y14 M13 =>
    if y14 = 0 then
      some ([aI (-1)], M13)
    else
      bndI (w_labour_takeTurns d 1 M13) fun y16 M15 =>
      if y16 = 0 then
        some ([aI (-1)], M15)
      else
        if v1 = 0 then
          bndI (w_labour_lastSpot d 22 M15) fun y18 M17 =>
          bndI (w_labour_daysOf d y18 M17) fun y20 M19 =>
          some ([aI y20], M19)
        else
        if v1 = 1 then
          bndI (w_labour_lastSpot d 22 M15) fun y22 M21 =>
          bndI (w_labour_deerOf d y22 M21) fun y24 M23 =>
          some ([aI y24], M23)
        else
          bndI (w_labour_bestSpot d 22 M15) fun y26 M25 =>
          bndI (w_labour_daysOf d y26 M25) fun y28 M27 =>
          some ([aI y28], M27)) :=
  (aOm_fix (aSem d) K_x_works 0 _ [] M).trans rfl
set_option maxRecDepth 20000 in
theorem u_x_gate (d : Nat) (v1 : Int) (v2 : Int) (M : aM) : w_x_gate (d + 1) v1 v2 M = (
    bndI (w_x_within d v1 9 M) fun y15 M14 =>
    if y15 = 0 then
      bndI (w_rows_tell d 24 v1 v2 0 M14) fun y17 M16 =>
      some ([aI y17], M16)
    else
      bndI (w_x_within d v2 9 M14) fun y19 M18 =>
      if y19 = 0 then
        bndI (w_rows_tell d 24 v1 v2 0 M18) fun y21 M20 =>
        some ([aI y21], M20)
      else
        if v1 = v2 then
          bndI (w_rows_tell d 24 v1 v2 0 M18) fun y23 M22 =>
          some ([aI y23], M22)
        else
          bndI (w_rows_tell d 24 v1 v2 1 M18) fun y25 M24 =>
          some ([aI y25], M24)) :=
  (aOm_fix (aSem d) K_x_gate 0 _ [] M).trans rfl
set_option maxRecDepth 20000 in
theorem u_x_watch (d : Nat) (v1 : Int) (M : aM) : w_x_watch (d + 1) v1 M = (
    bndI (w_x_within d v1 1 M) fun y14 M13 =>
    if y14 = 0 then
      some ([aI (-1)], M13)
    else
      bndI (w_th_leastWatch d 24 M13) fun y16 M15 =>
      if v1 = 0 then
        bndI (w_ji_bitCount d y16 M15) fun y18 M17 =>
        some ([aI y18], M17)
      else
        some ([aI y16], M15)) :=
  (aOm_fix (aSem d) K_x_watch 0 _ [] M).trans rfl
set_option maxRecDepth 20000 in
theorem u_x_ate (d : Nat) (v1 : Int) (v2 : Int) (M : aM) : w_x_ate (d + 1) v1 v2 M = (
    bndI (w_x_within d v1 6 M) fun y15 M14 =>
    if y15 = 0 then
      bndI (w_rows_tell d 26 v1 v2 0 M14) fun y17 M16 =>
      some ([aI y17], M16)
    else
      bndI (w_wood_has d 2 v2 M14) fun y19 M18 =>
      if y19 = 0 then
        bndI (w_rows_tell d 26 v1 v2 0 M18) fun y21 M20 =>
        some ([aI y21], M20)
      else
        bndI (w_rows_tell d 26 v1 v2 1 M18) fun y23 M22 =>
        some ([aI y23], M22)) :=
  (aOm_fix (aSem d) K_x_ate 0 _ [] M).trans rfl
set_option maxRecDepth 20000 in
theorem u_x_ways (d : Nat) (v1 : Int) (M : aM) : w_x_ways (d + 1) v1 M = (
    bndI (w_x_within d v1 1 M) fun y14 M13 =>
    if y14 = 0 then
      some ([aI (-1)], M13)
    else
      bndI (w_th_waysToHaveEaten d 26 M13) fun y16 M15 =>
      if v1 = 0 then
        some ([aI y16], M15)
      else
        bndI (w_th_sureCouples d y16 M15) fun y18 M17 =>
        some ([aI y18], M17)) :=
  (aOm_fix (aSem d) K_x_ways 0 _ [] M).trans rfl
set_option maxRecDepth 20000 in
theorem u_x_vote (d : Nat) (v1 : Int) (M : aM) : w_x_vote (d + 1) v1 M = (
    bndI (w_x_within d v1 24 M) fun y14 M13 =>
    bndI (w_rows_tell d 28 v1 0 y14 M13) fun y16 M15 =>
    some ([aI y16], M15)) :=
  (aOm_fix (aSem d) K_x_vote 0 _ [] M).trans rfl
set_option maxRecDepth 20000 in
theorem u_x_votes (d : Nat) (v1 : Int) (M : aM) : w_x_votes (d + 1) v1 M = (
    if (M 28 2) = 0 then
      some ([aI (-1)], M)
    else
      bndI (w_x_within d v1 1 M) fun y14 M13 =>
      if y14 = 0 then
        some ([aI (-1)], M13)
      else
        bndI (w_th_nearestHour d 28 M13) fun y16 M15 =>
        if v1 = 0 then
          some ([aI y16], M15)
        else
          bndI (w_th_farness d 28 y16 M15) fun y18 M17 =>
          some ([aI y18], M17)) :=
  (aOm_fix (aSem d) K_x_votes 0 _ [] M).trans rfl
set_option maxRecDepth 20000 in
theorem u_x_salts (d : Nat) (v1 : Int) (v2 : Int) (M : aM) : w_x_salts (d + 1) v1 v2 M = (
    if (M 2 5) = 0 then
      some ([aI (-1)], M)
    else
      if v1 < 1 then
        some ([aI (-1)], M)
      else
        if 20 < v1 then
          some ([aI (-1)], M)
        else
          if v2 = 0 then
            bndI (w_th_saltedSum d 1 v1 M) fun y15 M14 =>
            some ([aI y15], M14)
          else
            if v2 < 10 then
              some ([aI (-1)], M)
            else
              bndI (w_wood_has d 2 (w32 (v2 - 10)) M) fun y17 M16 =>
              if y17 = 0 then
                some ([aI (-1)], M16)
              else
                bndI (w_th_saltGiven d 1 v1 (w32 (v2 - 10)) M16) fun y19 M18 =>
                some ([aI y19], M18)) :=
  (aOm_fix (aSem d) K_x_salts 0 _ [] M).trans rfl
set_option maxRecDepth 20000 in
theorem u_x_nods (d : Nat) (v1 : Int) (v2 : Int) (M : aM) : w_x_nods (d + 1) v1 v2 M = (
    bndI (w_x_within d v1 5 M) fun y15 M14 =>
    if y15 = 0 then
      some ([aI (-1)], M14)
    else
      bndI (w_x_within d v2 5 M14) fun y17 M16 =>
      if y17 = 0 then
        some ([aI (-1)], M16)
      else
        bndI (w_wood_aliveWithMark d 2 v1 M16) fun y19 M18 =>
        if v1 = v2 then
          some ([aI (idiv (w32 (y19 * (w32 (y19 - 1)))) 2)], M18)
        else
          bndI (w_wood_aliveWithMark d 2 v2 M18) fun y21 M20 =>
          some ([aI (w32 (y19 * y21))], M20)) :=
  (aOm_fix (aSem d) K_x_nods 0 _ [] M).trans rfl
set_option maxRecDepth 20000 in
theorem u_x_game (d : Nat) (v1 : Int) (M : aM) : w_x_game (d + 1) v1 M = (
    bndI (w_x_within d v1 1 M) fun y14 M13 =>
    if y14 = 0 then
      some ([aI (-1)], M13)
    else
      bndI (w_th_antlersOf d 2 M13) fun y16 M15 =>
      if v1 = 0 then
        some ([aI y16], M15)
      else
        if y16 = (-1) then
          some ([aI y16], M15)
        else
          bndI (w_th_antlersTaken d 2 y16 M15) fun y18 M17 =>
          some ([aI y18], M17)) :=
  (aOm_fix (aSem d) K_x_game 0 _ [] M).trans rfl
set_option maxRecDepth 20000 in
theorem u_x_undo (d : Nat)  (M : aM) : w_x_undo (d + 1)  M = (
    bndI (w_acts_goBack d 1 M) fun y13 M12 =>
    aBool y13 <| some ([aI y13], M12)) :=
  (aOm_fix (aSem d) K_x_undo 0 _ [] M).trans rfl
set_option maxRecDepth 20000 in
theorem u_x_image (d : Nat) (v1 : Int) (M : aM) : w_x_image (d + 1) v1 M = (
    if v1 = 0 then
      if (M 0 9) = 0 then
        some ([aI 0], M)
      else
        bndV (w_world_copyFrom d 1 32 M) fun M13 =>
        bndV (w_acts_forget d M13) fun M14 =>
        some ([aI 1], M14)
    else
      bndV (w_world_copyFrom d 32 1 M) fun M15 =>
      let M16 : aM := aUp M15 0 9 1
      some ([aI 1], M16)) :=
  (aOm_fix (aSem d) K_x_image 0 _ [] M).trans rfl
set_option maxRecDepth 20000 in
theorem u_x_look (d : Nat) (v1 : Int) (M : aM) : w_x_look (d + 1) v1 M = (
    if v1 = 0 then
      some ([aI (M 2 4)], M)
    else
    if v1 = 1 then
      some ([aI (M 2 14)], M)
    else
    if v1 = 2 then
      some ([aI (M 2 11)], M)
    else
    if v1 = 3 then
      some ([aI (M 2 12)], M)
    else
    if v1 = 4 then
      some ([aI (M 2 13)], M)
    else
    if v1 = 5 then
      some ([aI (M 2 6)], M)
    else
    if v1 = 6 then
      some ([aI (M 2 7)], M)
    else
    if v1 = 7 then
      some ([aI (M 2 8)], M)
    else
    if v1 = 8 then
      some ([aI (M 2 5)], M)
    else
    if v1 = 9 then
      some ([aI (M 18 2)], M)
    else
    if v1 = 10 then
      some ([aI (M 2 15)], M)
    else
    if v1 = 11 then
      some ([aI (M 10 2)], M)
    else
    if v1 = 12 then
      some ([aI (M 12 2)], M)
    else
    if v1 = 13 then
      some ([aI (M 14 2)], M)
    else
    if v1 = 14 then
      some ([aI (M 16 2)], M)
    else
    if v1 = 15 then
      some ([aI (M 20 2)], M)
    else
    if v1 = 16 then
      some ([aI (M 22 2)], M)
    else
    if v1 = 17 then
      some ([aI (M 24 2)], M)
    else
    if v1 = 18 then
      some ([aI (M 26 2)], M)
    else
    if v1 = 19 then
      some ([aI (M 28 2)], M)
    else
    if v1 = 20 then
      some ([aI (M 94 3)], M)
    else
      some ([aI (-1000000)], M)) :=
  (aOm_fix (aSem d) K_x_look 0 _ [] M).trans rfl
set_option maxRecDepth 20000 in
theorem u_x_within (d : Nat) (v0 : Int) (v1 : Int) (M : aM) : w_x_within (d + 1) v0 v1 M = (
    if v0 < 0 then
      some ([aI 0], M)
    else
      if v1 < v0 then
        some ([aI 0], M)
      else
        some ([aI 1], M)) :=
  (aOm_fix (aSem d) K_x_within 0 _ [] M).trans rfl
set_option maxRecDepth 20000 in
theorem u_x_setWood (d : Nat) (v1 : Int) (v2 : Int) (M : aM) : w_x_setWood (d + 1) v1 v2 M = (
    if v1 = 0 then
      bndI (w_x_within d v2 99 M) fun y15 M14 =>
      if y15 = 0 then
        some ([aI 0], M14)
      else
        let M16 : aM := aUp M14 2 6 v2
        some ([aI 1], M16)
    else
    if v1 = 1 then
      bndI (w_x_within d v2 99 M) fun y18 M17 =>
      if y18 = 0 then
        some ([aI 0], M17)
      else
        let M19 : aM := aUp M17 2 7 v2
        some ([aI 1], M19)
    else
    if v1 = 2 then
      bndI (w_x_within d v2 1 M) fun y21 M20 =>
      if y21 = 0 then
        some ([aI 0], M20)
      else
        let M22 : aM := aUp M20 2 8 v2
        some ([aI 1], M22)
    else
    if v1 = 3 then
      bndI (w_x_within d v2 1000 M) fun y24 M23 =>
      if y24 = 0 then
        some ([aI 0], M23)
      else
        let M25 : aM := aUp M23 2 9 v2
        some ([aI 1], M25)
    else
    if v1 = 4 then
      bndI (w_x_within d v2 1000 M) fun y27 M26 =>
      if y27 = 0 then
        some ([aI 0], M26)
      else
        let M28 : aM := aUp M26 2 10 v2
        some ([aI 1], M28)
    else
      some ([aI 0], M)) :=
  (aOm_fix (aSem d) K_x_setWood 0 _ [] M).trans rfl
set_option maxRecDepth 20000 in
theorem u_x_setDeer (d : Nat) (v1 : Int) (v2 : Int) (v3 : Int) (M : aM) : w_x_setDeer (d + 1) v1 v2 v3 M = (
    bndI (w_wood_has d 2 v2 M) fun y16 M15 =>
    if y16 = 0 then
      some ([aI 0], M15)
    else
      if v1 = 5 then
        bndI (w_x_within d v3 5 M15) fun y18 M17 =>
        if y18 = 0 then
          some ([aI 0], M17)
        else
          inb v2 (aLen 3) <|
          let M19 : aM := aUp M17 3 v2.toNat v3
          some ([aI 1], M19)
      else
      if v1 = 6 then
        bndI (w_x_within d v3 9 M15) fun y21 M20 =>
        if y21 = 0 then
          some ([aI 0], M20)
        else
          inb v2 (aLen 4) <|
          let M22 : aM := aUp M20 4 v2.toNat v3
          some ([aI 1], M22)
      else
      if v1 = 7 then
        bndI (w_x_within d v3 999 M15) fun y24 M23 =>
        if y24 = 0 then
          some ([aI 0], M23)
        else
          inb v2 (aLen 5) <|
          let M25 : aM := aUp M23 5 v2.toNat v3
          some ([aI 1], M25)
      else
      if v1 = 8 then
        bndI (w_x_within d v3 999 M15) fun y27 M26 =>
        if y27 = 0 then
          some ([aI 0], M26)
        else
          inb v2 (aLen 6) <|
          let M28 : aM := aUp M26 6 v2.toNat v3
          some ([aI 1], M28)
      else
        some ([aI 0], M15)) :=
  (aOm_fix (aSem d) K_x_setDeer 0 _ [] M).trans rfl
set_option maxRecDepth 20000 in
theorem u_x_takeText (d : Nat) (v1 : Int) (M : aM) : w_x_takeText (d + 1) v1 M = (
    if v1 = 0 then
      bndV (w_law_copyFrom d 7 133 M) fun M13 =>
      some ([aI (M13 10 2)], M13)
    else
    if v1 = 1 then
      bndV (w_rows_copyFrom d 12 138 M) fun M14 =>
      bndV (w_acts_forget d M14) fun M15 =>
      some ([aI (M15 12 2)], M15)
    else
    if v1 = 2 then
      bndV (w_rows_copyFrom d 14 138 M) fun M16 =>
      let M17 : aM := aUp M16 2 16 0
      bndV (w_acts_forget d M17) fun M18 =>
      some ([aI (M18 14 2)], M18)
    else
      bndV (w_rows_copyFrom d 16 138 M) fun M19 =>
      some ([aI (M19 16 2)], M19)) :=
  (aOm_fix (aSem d) K_x_takeText 0 _ [] M).trans rfl
set_option maxRecDepth 20000 in
theorem u_x_likelyWithin (d : Nat) (v0 : Int) (v1 : Int) (M : aM) : w_x_likelyWithin (d + 1) v0 v1 M = (
    w_x_likelyWithin_7 d v0 v1 1000000 0 M) :=
  (aOm_fix (aSem d) K_x_likelyWithin 0 _ [] M).trans rfl
set_option maxRecDepth 20000 in
theorem u_x_likelyWithin_7 (d : Nat) (v0 : Int) (v1 : Int) (v2 : Int) (v4 : Int) (M : aM) : w_x_likelyWithin_7 d v0 v1 v2 v4 M = (
    if v4 < v1 then
      let v16 : Int := (w64 (v2 - (ldiv (w64 (v2 * v0)) 1000000)))
      let v17 : Int := w32 (v4 + 1)
      w_x_likelyWithin_7 d v0 v1 v16 v17 M
    else
      some ([aI (w32 (w64 (1000000 - v2)))], M)) :=
  (aOm_fix _ _ _ _ _ _).trans rfl
set_option maxRecDepth 20000 in
theorem u_m_isIn (d : Nat) (v0 : Int) (v1 : Int) (v2 : Int) (M : aM) : w_m_isIn (d + 1) v0 v1 v2 M = (
    if v0 < v1 then
      some ([aI 0], M)
    else
      if v2 < v0 then
        some ([aI 0], M)
      else
        some ([aI 1], M)) :=
  (aOm_fix (aSem d) K_m_isIn 0 _ [] M).trans rfl
set_option maxRecDepth 20000 in
theorem u_m_lesser (d : Nat) (v0 : Int) (v1 : Int) (M : aM) : w_m_lesser (d + 1) v0 v1 M = (
    if v0 < v1 then
      some ([aI v0], M)
    else
      some ([aI v1], M)) :=
  (aOm_fix (aSem d) K_m_lesser 0 _ [] M).trans rfl
set_option maxRecDepth 20000 in
theorem u_m_greater (d : Nat) (v0 : Int) (v1 : Int) (M : aM) : w_m_greater (d + 1) v0 v1 M = (
    if v1 < v0 then
      some ([aI v0], M)
    else
      some ([aI v1], M)) :=
  (aOm_fix (aSem d) K_m_greater 0 _ [] M).trans rfl
set_option maxRecDepth 20000 in
theorem u_m_size (d : Nat) (v0 : Int) (M : aM) : w_m_size (d + 1) v0 M = (
    if v0 < 0 then
      some ([aI (w32 (-v0))], M)
    else
      some ([aI v0], M)) :=
  (aOm_fix (aSem d) K_m_size 0 _ [] M).trans rfl
set_option maxRecDepth 20000 in
theorem u_m_isDeer (d : Nat) (v1 : Int) (M : aM) : w_m_isDeer (d + 1) v1 M = (
    inb 41 (aLen 158) <|
    bndI (w_m_isIn d v1 0 (w32 ((M 158 41) - 1)) M) fun y14 M13 =>
    aBool y14 <| some ([aI y14], M13)) :=
  (aOm_fix (aSem d) K_m_isDeer 0 _ [] M).trans rfl
set_option maxRecDepth 20000 in
theorem u_m_isAlive (d : Nat) (v1 : Int) (M : aM) : w_m_isAlive (d + 1) v1 M = (
    bndI (w_m_isDeer d v1 M) fun y14 M13 =>
    if y14 = 0 then
      some ([aI 0], M13)
    else
      inb 10 (aLen 158) <|
      if (iand (ishr (M13 158 10) v1) 1) = 1 then
        some ([aI 1], M13)
      else
        some ([aI 0], M13)) :=
  (aOm_fix (aSem d) K_m_isAlive 0 _ [] M).trans rfl
set_option maxRecDepth 20000 in
theorem u_m_count (d : Nat) (v0 : Int) (M : aM) : w_m_count (d + 1) v0 M = (
    w_m_count_4 d v0 0 0 M) :=
  (aOm_fix (aSem d) K_m_count 0 _ [] M).trans rfl
set_option maxRecDepth 20000 in
theorem u_m_count_4 (d : Nat) (v0 : Int) (v1 : Int) (v2 : Int) (M : aM) : w_m_count_4 d v0 v1 v2 M = (
    if v2 < 16 then
      let v14 : Int := (w32 (v1 + (iand (ishr v0 v2) 1)))
      let v15 : Int := w32 (v2 + 1)
      w_m_count_4 d v0 v14 v15 M
    else
      some ([aI v1], M)) :=
  (aOm_fix _ _ _ _ _ _).trans rfl
set_option maxRecDepth 20000 in
theorem u_m_forgets (d : Nat)  (M : aM) : w_m_forgets (d + 1)  M = (
    let M12 : aM := aUp M 157 4 0
    some ([], M12)) :=
  (aOm_fix (aSem d) K_m_forgets 0 _ [] M).trans rfl
set_option maxRecDepth 20000 in
theorem u_m_state (d : Nat) (v1 : Int) (M : aM) : w_m_state (d + 1) v1 M = (
    inb 7 (aLen 158) <|
    let v13 : Int := (M 158 7)
    inb 7 (aLen 158) <|
    let M14 : aM := aUp M 158 7 v1
    bndV (w_m_forgets d M14) fun M15 =>
    some ([aI v13], M15)) :=
  (aOm_fix (aSem d) K_m_state 0 _ [] M).trans rfl
set_option maxRecDepth 20000 in
theorem u_m_draw (d : Nat) (v1 : Int) (M : aM) : w_m_draw (d + 1) v1 M = (
    inb 7 (aLen 158) <|
    inb 7 (aLen 158) <|
    let M13 : aM := aUp M 158 7 (w32 ((w32 (1664525 * (M 158 7))) + 1013904223))
    inb 7 (aLen 158) <|
    if v1 = 0 then none else
    some ([aI (irem (iushr (M13 158 7) 8) v1)], M13)) :=
  (aOm_fix (aSem d) K_m_draw 0 _ [] M).trans rfl
set_option maxRecDepth 20000 in
theorem u_m_deer (d : Nat) (v1 : Int) (v2 : Int) (M : aM) : w_m_deer (d + 1) v1 v2 M = (
    bndI (w_m_isIn d v1 0 5 M) fun y15 M14 =>
    if y15 = 0 then
      some ([aI (-1)], M14)
    else
      bndI (w_m_isIn d v2 0 9 M14) fun y17 M16 =>
      if y17 = 0 then
        some ([aI (-1)], M16)
      else
        inb 41 (aLen 158) <|
        if (M16 158 41) = 10 then
          some ([aI (-1)], M16)
        else
          inb 41 (aLen 158) <|
          let v18 : Int := (M16 158 41)
          inb (w32 (53 + v18)) (aLen 158) <|
          let M19 : aM := aUp M16 158 (w32 (53 + v18)).toNat v1
          inb (w32 (11 + v18)) (aLen 158) <|
          let M20 : aM := aUp M19 158 (w32 (11 + v18)).toNat v2
          inb (w32 (21 + v18)) (aLen 158) <|
          let M21 : aM := aUp M20 158 (w32 (21 + v18)).toNat 0
          inb (w32 (31 + v18)) (aLen 158) <|
          let M22 : aM := aUp M21 158 (w32 (31 + v18)).toNat 0
          inb 10 (aLen 158) <|
          inb 10 (aLen 158) <|
          let M23 : aM := aUp M22 158 10 (ior (M22 158 10) (ishl 1 v18))
          inb 41 (aLen 158) <|
          inb 41 (aLen 158) <|
          let M24 : aM := aUp M23 158 41 (w32 ((M23 158 41) + 1))
          bndV (w_m_forgets d M24) fun M25 =>
          some ([aI v18], M25)) :=
  (aOm_fix (aSem d) K_m_deer 0 _ [] M).trans rfl
set_option maxRecDepth 20000 in
theorem u_m_canSet (d : Nat) (v1 : Int) (v2 : Int) (v3 : Int) (M : aM) : w_m_canSet (d + 1) v1 v2 v3 M = (
    if v1 = 0 then
      bndI (w_m_isIn d v3 0 99 M) fun y16 M15 =>
      aBool y16 <| some ([aI y16], M15)
    else
    if v1 = 1 then
      bndI (w_m_isIn d v3 0 99 M) fun y18 M17 =>
      aBool y18 <| some ([aI y18], M17)
    else
    if v1 = 2 then
      bndI (w_m_isIn d v3 0 1 M) fun y20 M19 =>
      aBool y20 <| some ([aI y20], M19)
    else
    if v1 = 3 then
      bndI (w_m_isIn d v3 0 1000 M) fun y22 M21 =>
      aBool y22 <| some ([aI y22], M21)
    else
    if v1 = 4 then
      bndI (w_m_isIn d v3 0 1000 M) fun y24 M23 =>
      aBool y24 <| some ([aI y24], M23)
    else
    if v1 = 5 then
      bndI (w_m_isDeer d v2 M) fun y26 M25 =>
      if y26 = 0 then
        some ([aI 0], M25)
      else
        bndI (w_m_isIn d v3 0 5 M25) fun y28 M27 =>
        if y28 = 0 then
          some ([aI 0], M27)
        else
          some ([aI 1], M27)
    else
    if v1 = 6 then
      bndI (w_m_isDeer d v2 M) fun y30 M29 =>
      if y30 = 0 then
        some ([aI 0], M29)
      else
        bndI (w_m_isIn d v3 0 9 M29) fun y32 M31 =>
        if y32 = 0 then
          some ([aI 0], M31)
        else
          some ([aI 1], M31)
    else
    if v1 = 7 then
      bndI (w_m_isDeer d v2 M) fun y34 M33 =>
      if y34 = 0 then
        some ([aI 0], M33)
      else
        bndI (w_m_isIn d v3 0 999 M33) fun y36 M35 =>
        if y36 = 0 then
          some ([aI 0], M35)
        else
          some ([aI 1], M35)
    else
    if v1 = 8 then
      bndI (w_m_isDeer d v2 M) fun y38 M37 =>
      if y38 = 0 then
        some ([aI 0], M37)
      else
        bndI (w_m_isIn d v3 0 999 M37) fun y40 M39 =>
        if y40 = 0 then
          some ([aI 0], M39)
        else
          some ([aI 1], M39)
    else
      some ([aI 0], M)) :=
  (aOm_fix (aSem d) K_m_canSet 0 _ [] M).trans rfl
set_option maxRecDepth 20000 in
theorem u_m_placeOf (d : Nat) (v0 : Int) (v1 : Int) (M : aM) : w_m_placeOf (d + 1) v0 v1 M = (
    if v0 = 0 then
      some ([aI 4], M)
    else
    if v0 = 1 then
      some ([aI 5], M)
    else
    if v0 = 2 then
      some ([aI 6], M)
    else
    if v0 = 3 then
      some ([aI 42], M)
    else
    if v0 = 4 then
      some ([aI 43], M)
    else
    if v0 = 5 then
      some ([aI (w32 (53 + v1))], M)
    else
    if v0 = 6 then
      some ([aI (w32 (11 + v1))], M)
    else
    if v0 = 7 then
      some ([aI (w32 (21 + v1))], M)
    else
      some ([aI (w32 (31 + v1))], M)) :=
  (aOm_fix (aSem d) K_m_placeOf 0 _ [] M).trans rfl
set_option maxRecDepth 20000 in
theorem u_m_set (d : Nat) (v1 : Int) (v2 : Int) (v3 : Int) (M : aM) : w_m_set (d + 1) v1 v2 v3 M = (
    bndI (w_m_canSet d v1 v2 v3 M) fun y16 M15 =>
    if y16 = 0 then
      some ([aI 0], M15)
    else
      bndI (w_m_placeOf d v1 v2 M15) fun y18 M17 =>
      inb y18 (aLen 158) <|
      let M19 : aM := aUp M17 158 y18.toNat v3
      bndV (w_m_forgets d M19) fun M20 =>
      some ([aI 1], M20)) :=
  (aOm_fix (aSem d) K_m_set 0 _ [] M).trans rfl
set_option maxRecDepth 20000 in
theorem u_m_feed (d : Nat) (v1 : Int) (v2 : Int) (v3 : Int) (v4 : Int) (v5 : Int) (M : aM) : w_m_feed (d + 1) v1 v2 v3 v4 v5 M = (
    if 400 < (w32 ((M 157 16) + 20)) then
      some ([aI (-1)], M)
    else
      w_m_feed_18 d v1 v2 v3 v4 v5 0 M) :=
  (aOm_fix (aSem d) K_m_feed 0 _ [] M).trans rfl
set_option maxRecDepth 20000 in
theorem u_m_feed_18 (d : Nat) (v1 : Int) (v2 : Int) (v3 : Int) (v4 : Int) (v5 : Int) (v6 : Int) (M : aM) : w_m_feed_18 d v1 v2 v3 v4 v5 v6 M = (
    if v6 < 20 then
      if v6 < 4 then
        inb (M 157 16) (aLen 165) <|
        let M19 : aM := aUp M 165 (M 157 16).toNat (iand (ishr v1 (w32 (24 - (w32 (8 * (irem v6 4)))))) 255)
        let M20 : aM := aUp M19 157 16 (w32 ((M19 157 16) + 1))
        let v21 : Int := w32 (v6 + 1)
        w_m_feed_18 d v1 v2 v3 v4 v5 v21 M20
      else
        if v6 < 8 then
          inb (M 157 16) (aLen 165) <|
          let M22 : aM := aUp M 165 (M 157 16).toNat (iand (ishr v2 (w32 (24 - (w32 (8 * (irem v6 4)))))) 255)
          let M23 : aM := aUp M22 157 16 (w32 ((M22 157 16) + 1))
          let v24 : Int := w32 (v6 + 1)
          w_m_feed_18 d v1 v2 v3 v4 v5 v24 M23
        else
          if v6 < 12 then
            inb (M 157 16) (aLen 165) <|
            let M25 : aM := aUp M 165 (M 157 16).toNat (iand (ishr v3 (w32 (24 - (w32 (8 * (irem v6 4)))))) 255)
            let M26 : aM := aUp M25 157 16 (w32 ((M25 157 16) + 1))
            let v27 : Int := w32 (v6 + 1)
            w_m_feed_18 d v1 v2 v3 v4 v5 v27 M26
          else
            if v6 < 16 then
              inb (M 157 16) (aLen 165) <|
              let M28 : aM := aUp M 165 (M 157 16).toNat (iand (ishr v4 (w32 (24 - (w32 (8 * (irem v6 4)))))) 255)
              let M29 : aM := aUp M28 157 16 (w32 ((M28 157 16) + 1))
              let v30 : Int := w32 (v6 + 1)
              w_m_feed_18 d v1 v2 v3 v4 v5 v30 M29
            else
              inb (M 157 16) (aLen 165) <|
              let M31 : aM := aUp M 165 (M 157 16).toNat (iand (ishr v5 (w32 (24 - (w32 (8 * (irem v6 4)))))) 255)
              let M32 : aM := aUp M31 157 16 (w32 ((M31 157 16) + 1))
              let v33 : Int := w32 (v6 + 1)
              w_m_feed_18 d v1 v2 v3 v4 v5 v33 M32
    else
      some ([aI (M 157 16)], M)) :=
  (aOm_fix _ _ _ _ _ _).trans rfl
set_option maxRecDepth 20000 in
theorem u_m_end (d : Nat) (v1 : Int) (M : aM) : w_m_end (d + 1) v1 M = (
    bndI (w_m_isIn d v1 0 (M 157 16) M) fun y14 M13 =>
    if y14 = 0 then
      some ([aI 0], M13)
    else
      let M15 : aM := aUp M13 157 16 v1
      some ([aI 1], M15)) :=
  (aOm_fix (aSem d) K_m_end 0 _ [] M).trans rfl
set_option maxRecDepth 20000 in
theorem u_m_see (d : Nat) (v1 : Int) (M : aM) : w_m_see (d + 1) v1 M = (
    if v1 < (M 157 16) then
      inb v1 (aLen 165) <|
      some ([aI (M 165 v1.toNat)], M)
    else
      some ([aI (-1)], M)) :=
  (aOm_fix (aSem d) K_m_see 0 _ [] M).trans rfl
set_option maxRecDepth 20000 in
theorem u_m_isLetter (d : Nat) (v0 : Int) (M : aM) : w_m_isLetter (d + 1) v0 M = (
    bndI (w_m_isIn d v0 97 122 M) fun y13 M12 =>
    if y13 = 0 then
      bndI (w_m_isIn d v0 65 90 M12) fun y15 M14 =>
      if y15 = 0 then
        some ([aI 0], M14)
      else
        some ([aI 1], M14)
    else
      some ([aI 1], M12)) :=
  (aOm_fix (aSem d) K_m_isLetter 0 _ [] M).trans rfl
set_option maxRecDepth 20000 in
theorem u_m_isDigit (d : Nat) (v0 : Int) (M : aM) : w_m_isDigit (d + 1) v0 M = (
    bndI (w_m_isIn d v0 48 57 M) fun y13 M12 =>
    aBool y13 <| some ([aI y13], M12)) :=
  (aOm_fix (aSem d) K_m_isDigit 0 _ [] M).trans rfl
set_option maxRecDepth 20000 in
theorem u_m_is (d : Nat) (a1 : Nat) (M : aM) : w_m_is (d + 1) a1 M = (
    bndI (w_js_length d a1 M) fun y14 M13 =>
    if (w32 ((M 157 17) - (M 157 19))) = y14 then
      w_m_is_24 d a1 1 0 M13
    else
      w_m_is_24 d a1 0 0 M13) :=
  (aOm_fix (aSem d) K_m_is 0 _ [] M).trans rfl
set_option maxRecDepth 20000 in
theorem u_m_is_24 (d : Nat) (a1 : Nat) (v2 : Int) (v3 : Int) (M : aM) : w_m_is_24 d a1 v2 v3 M = (
    bndI (w_js_length d a1 M) fun y16 M15 =>
    if v3 < y16 then
      if v2 = 0 then
        aBool v2 <| some ([aI v2], M15)
      else
        inb (w32 ((M15 157 19) + v3)) (aLen 165) <|
        bndI (w_js_charAt d a1 v3 M15) fun y18 M17 =>
        if (M15 165 (w32 ((M15 157 19) + v3)).toNat) = y18 then
          let v19 : Int := w32 (v3 + 1)
          w_m_is_24 d a1 1 v19 M17
        else
          let v20 : Int := w32 (v3 + 1)
          w_m_is_24 d a1 0 v20 M17
    else
      aBool v2 <| some ([aI v2], M15)) :=
  (aOm_fix _ _ _ _ _ _).trans rfl
set_option maxRecDepth 20000 in
theorem u_m_asked (d : Nat)  (M : aM) : w_m_asked (d + 1)  M = (
    bndI (w_m_is d 12 M) fun y13 M12 =>
    if y13 = 0 then
      bndI (w_m_is d 13 M12) fun y15 M14 =>
      if y15 = 0 then
        bndI (w_m_is d 14 M14) fun y17 M16 =>
        if y17 = 0 then
          bndI (w_m_is d 15 M16) fun y19 M18 =>
          if y19 = 0 then
            bndI (w_m_is d 16 M18) fun y21 M20 =>
            if y21 = 0 then
              bndI (w_m_is d 17 M20) fun y23 M22 =>
              if y23 = 0 then
                bndI (w_m_is d 18 M22) fun y25 M24 =>
                if y25 = 0 then
                  bndI (w_m_is d 19 M24) fun y27 M26 =>
                  if y27 = 0 then
                    bndI (w_m_is d 20 M26) fun y29 M28 =>
                    if y29 = 0 then
                      bndI (w_m_is d 21 M28) fun y31 M30 =>
                      if y31 = 0 then
                        some ([aI 1], M30)
                      else
                        some ([aI 50], M30)
                    else
                      some ([aI 49], M28)
                  else
                    some ([aI 48], M26)
                else
                  some ([aI 47], M24)
              else
                some ([aI 46], M22)
            else
              some ([aI 45], M20)
          else
            some ([aI 44], M18)
        else
          some ([aI 43], M16)
      else
        some ([aI 42], M14)
    else
      some ([aI 41], M12)) :=
  (aOm_fix (aSem d) K_m_asked 0 _ [] M).trans rfl
set_option maxRecDepth 20000 in
theorem u_m_lawWord (d : Nat)  (M : aM) : w_m_lawWord (d + 1)  M = (
    bndI (w_m_is d 5 M) fun y13 M12 =>
    if y13 = 0 then
      bndI (w_m_is d 6 M12) fun y15 M14 =>
      if y15 = 0 then
        bndI (w_m_is d 7 M14) fun y17 M16 =>
        if y17 = 0 then
          bndI (w_m_is d 8 M16) fun y19 M18 =>
          if y19 = 0 then
            bndI (w_m_is d 9 M18) fun y21 M20 =>
            if y21 = 0 then
              bndI (w_m_is d 10 M20) fun y23 M22 =>
              if y23 = 0 then
                bndI (w_m_is d 11 M22) fun y25 M24 =>
                if y25 = 0 then
                  bndI (w_m_asked d M24) fun y27 M26 =>
                  some ([aI y27], M26)
                else
                  some ([aI 22], M24)
              else
                some ([aI 21], M22)
            else
              some ([aI 20], M20)
          else
            some ([aI 6], M18)
        else
          some ([aI 5], M16)
      else
        some ([aI 4], M14)
    else
      some ([aI 3], M12)) :=
  (aOm_fix (aSem d) K_m_lawWord 0 _ [] M).trans rfl
set_option maxRecDepth 20000 in
theorem u_m_planWord (d : Nat)  (M : aM) : w_m_planWord (d + 1)  M = (
    bndI (w_m_is d 22 M) fun y13 M12 =>
    if y13 = 0 then
      bndI (w_m_is d 17 M12) fun y15 M14 =>
      if y15 = 0 then
        bndI (w_m_is d 18 M14) fun y17 M16 =>
        if y17 = 0 then
          bndI (w_m_is d 19 M16) fun y19 M18 =>
          if y19 = 0 then
            bndI (w_m_is d 23 M18) fun y21 M20 =>
            if y21 = 0 then
              bndI (w_m_is d 24 M20) fun y23 M22 =>
              if y23 = 0 then
                some ([aI 1], M22)
              else
                some ([aI 12], M22)
            else
              some ([aI 11], M20)
          else
            some ([aI 10], M18)
        else
          some ([aI 9], M16)
      else
        some ([aI 8], M14)
    else
      some ([aI 7], M12)) :=
  (aOm_fix (aSem d) K_m_planWord 0 _ [] M).trans rfl
set_option maxRecDepth 20000 in
theorem u_m_word (d : Nat)  (M : aM) : w_m_word (d + 1)  M = (
    if (M 157 12) = 0 then
      bndI (w_m_lawWord d M) fun y13 M12 =>
      some ([aI y13], M12)
    else
    if (M 157 12) = 1 then
      bndI (w_m_planWord d M) fun y15 M14 =>
      some ([aI y15], M14)
    else
    if (M 157 12) = 2 then
      bndI (w_m_is d 25 M) fun y17 M16 =>
      if y17 = 0 then
        bndI (w_m_is d 22 M16) fun y19 M18 =>
        if y19 = 0 then
          bndI (w_m_is d 26 M18) fun y21 M20 =>
          if y21 = 0 then
            some ([aI 1], M20)
          else
            some ([aI 14], M20)
        else
          some ([aI 7], M18)
      else
        some ([aI 13], M16)
    else
      bndI (w_m_is d 27 M) fun y23 M22 =>
      if y23 = 0 then
        bndI (w_m_is d 28 M22) fun y25 M24 =>
        if y25 = 0 then
          some ([aI 1], M24)
        else
          some ([aI 16], M24)
      else
        some ([aI 15], M22)) :=
  (aOm_fix (aSem d) K_m_word 0 _ [] M).trans rfl
set_option maxRecDepth 20000 in
theorem u_m_next0 (d : Nat)  (M : aM) : w_m_next0 (d + 1)  M = (
    bndI (w_m_see d (M 157 17) M) fun y13 M12 =>
    if y13 = 32 then
      let M14 : aM := aUp M12 157 17 (w32 ((M12 157 17) + 1))
      w_m_next0_0 d M14
    else
      bndI (w_m_see d (M12 157 17) M12) fun y16 M15 =>
      if y16 = 10 then
        let M17 : aM := aUp M15 157 17 (w32 ((M15 157 17) + 1))
        w_m_next0_0 d M17
      else
        let M18 : aM := aUp M15 157 19 (M15 157 17)
        bndI (w_m_see d (M18 157 17) M18) fun y20 M19 =>
        if y20 = (-1) then
          let M21 : aM := aUp M19 157 18 0
          some ([], M21)
        else
          bndI (w_m_isLetter d y20 M19) fun y23 M22 =>
          if y23 = 0 then
            bndI (w_m_isDigit d y20 M22) fun y25 M24 =>
            if y25 = 0 then
              let M26 : aM := aUp M24 157 17 (w32 ((M24 157 17) + 1))
              if y20 = 59 then
                w_m_next0_284 d y20 M26
              else
                if y20 = 43 then
                  w_m_next0_284 d y20 M26
                else
                  if y20 = 45 then
                    w_m_next0_284 d y20 M26
                  else
                    if y20 = 42 then
                      w_m_next0_284 d y20 M26
                    else
                      if y20 = 47 then
                        w_m_next0_284 d y20 M26
                      else
                        if y20 = 40 then
                          w_m_next0_284 d y20 M26
                        else
                          if y20 = 41 then
                            w_m_next0_284 d y20 M26
                          else
                            if y20 = 60 then
                              w_m_next0_284 d y20 M26
                            else
                              if y20 = 61 then
                                w_m_next0_284 d y20 M26
                              else
                                if y20 = 62 then
                                  w_m_next0_284 d y20 M26
                                else
                                  if (0 : Int) = 0 then
                                    let M27 : aM := aUp M26 157 18 1
                                    some ([], M27)
                                  else
                                    let M28 : aM := aUp M26 157 18 (w32 (100 + y20))
                                    some ([], M28)
            else
              let M29 : aM := aUp M24 157 20 0
              w_m_next0_126 d M29
          else
            w_m_next0_76 d M22) :=
  (aOm_fix (aSem d) K_m_next0 0 _ [] M).trans rfl
set_option maxRecDepth 20000 in
theorem u_m_next0_0 (d : Nat)  (M : aM) : w_m_next0_0 d  M = (
    bndI (w_m_see d (M 157 17) M) fun y15 M14 =>
    if y15 = 32 then
      let M16 : aM := aUp M14 157 17 (w32 ((M14 157 17) + 1))
      w_m_next0_0 d M16
    else
      bndI (w_m_see d (M14 157 17) M14) fun y18 M17 =>
      if y18 = 10 then
        let M19 : aM := aUp M17 157 17 (w32 ((M17 157 17) + 1))
        w_m_next0_0 d M19
      else
        let M20 : aM := aUp M17 157 19 (M17 157 17)
        bndI (w_m_see d (M20 157 17) M20) fun y22 M21 =>
        if y22 = (-1) then
          let M23 : aM := aUp M21 157 18 0
          some ([], M23)
        else
          bndI (w_m_isLetter d y22 M21) fun y25 M24 =>
          if y25 = 0 then
            bndI (w_m_isDigit d y22 M24) fun y27 M26 =>
            if y27 = 0 then
              let M28 : aM := aUp M26 157 17 (w32 ((M26 157 17) + 1))
              if y22 = 59 then
                w_m_next0_284 d y22 M28
              else
                if y22 = 43 then
                  w_m_next0_284 d y22 M28
                else
                  if y22 = 45 then
                    w_m_next0_284 d y22 M28
                  else
                    if y22 = 42 then
                      w_m_next0_284 d y22 M28
                    else
                      if y22 = 47 then
                        w_m_next0_284 d y22 M28
                      else
                        if y22 = 40 then
                          w_m_next0_284 d y22 M28
                        else
                          if y22 = 41 then
                            w_m_next0_284 d y22 M28
                          else
                            if y22 = 60 then
                              w_m_next0_284 d y22 M28
                            else
                              if y22 = 61 then
                                w_m_next0_284 d y22 M28
                              else
                                if y22 = 62 then
                                  w_m_next0_284 d y22 M28
                                else
                                  if (0 : Int) = 0 then
                                    let M29 : aM := aUp M28 157 18 1
                                    some ([], M29)
                                  else
                                    let M30 : aM := aUp M28 157 18 (w32 (100 + y22))
                                    some ([], M30)
            else
              let M31 : aM := aUp M26 157 20 0
              w_m_next0_126 d M31
          else
            w_m_next0_76 d M24) :=
  (aOm_fix _ _ _ _ _ _).trans rfl
set_option maxRecDepth 20000 in
theorem u_m_next0_76 (d : Nat)  (M : aM) : w_m_next0_76 d  M = (
    bndI (w_m_see d (M 157 17) M) fun y15 M14 =>
    bndI (w_m_isLetter d y15 M14) fun y17 M16 =>
    if y17 = 0 then
      bndI (w_m_word d M16) fun y19 M18 =>
      let M20 : aM := aUp M18 157 18 y19
      some ([], M20)
    else
      let M21 : aM := aUp M16 157 17 (w32 ((M16 157 17) + 1))
      w_m_next0_76 d M21) :=
  (aOm_fix _ _ _ _ _ _).trans rfl
set_option maxRecDepth 20000 in
theorem u_m_next0_126 (d : Nat)  (M : aM) : w_m_next0_126 d  M = (
    bndI (w_m_see d (M 157 17) M) fun y15 M14 =>
    bndI (w_m_isDigit d y15 M14) fun y17 M16 =>
    if y17 = 0 then
      if (w32 ((M16 157 17) - (M16 157 19))) < 5 then
        let M18 : aM := aUp M16 157 18 2
        some ([], M18)
      else
        let M19 : aM := aUp M16 157 18 1
        some ([], M19)
    else
      if (M16 157 17) < (w32 ((M16 157 19) + 4)) then
        bndI (w_m_see d (M16 157 17) M16) fun y21 M20 =>
        let M22 : aM := aUp M20 157 20 (w32 ((w32 ((w32 (10 * (M16 157 20))) + y21)) - 48))
        let M23 : aM := aUp M22 157 17 (w32 ((M22 157 17) + 1))
        w_m_next0_126 d M23
      else
        let M24 : aM := aUp M16 157 17 (w32 ((M16 157 17) + 1))
        w_m_next0_126 d M24) :=
  (aOm_fix _ _ _ _ _ _).trans rfl
set_option maxRecDepth 20000 in
theorem u_m_next0_284 (d : Nat) (v1 : Int) (M : aM) : w_m_next0_284 d v1 M = (
    if (1 : Int) = 0 then
      let M14 : aM := aUp M 157 18 1
      some ([], M14)
    else
      let M15 : aM := aUp M 157 18 (w32 (100 + v1))
      some ([], M15)) :=
  (aOm_fix _ _ _ _ _ _).trans rfl
set_option maxRecDepth 20000 in
theorem u_m_bad (d : Nat) (v1 : Int) (M : aM) : w_m_bad (d + 1) v1 M = (
    let M13 : aM := aUp M 157 21 v1
    let M14 : aM := aUp M13 157 22 (M13 157 19)
    some ([aI 0], M14)) :=
  (aOm_fix (aSem d) K_m_bad 0 _ [] M).trans rfl
set_option maxRecDepth 20000 in
theorem u_m_need (d : Nat) (v1 : Int) (M : aM) : w_m_need (d + 1) v1 M = (
    if (M 157 18) = v1 then
      bndV (w_m_next0 d M) fun M13 =>
      some ([aI 1], M13)
    else
      bndI (w_m_bad d 1 M) fun y15 M14 =>
      aBool y15 <| some ([aI y15], M14)) :=
  (aOm_fix (aSem d) K_m_need 0 _ [] M).trans rfl
set_option maxRecDepth 20000 in
theorem u_m_lay (d : Nat) (v1 : Int) (v2 : Int) (M : aM) : w_m_lay (d + 1) v1 v2 M = (
    inb (w32 (2 * (M 157 14))) (aLen 163) <|
    let M14 : aM := aUp M 163 (w32 (2 * (M 157 14))).toNat v1
    inb (w32 ((w32 (2 * (M14 157 14))) + 1)) (aLen 163) <|
    let M15 : aM := aUp M14 163 (w32 ((w32 (2 * (M14 157 14))) + 1)).toNat v2
    let M16 : aM := aUp M15 157 14 (w32 ((M15 157 14) + 1))
    some ([], M16)) :=
  (aOm_fix (aSem d) K_m_lay 0 _ [] M).trans rfl
set_option maxRecDepth 20000 in
theorem u_m_opens (d : Nat)  (M : aM) : w_m_opens (d + 1)  M = (
    if (M 157 24) = 8 then
      bndI (w_m_bad d 3 M) fun y13 M12 =>
      aBool y13 <| some ([aI y13], M12)
    else
      let M14 : aM := aUp M 157 24 (w32 ((M 157 24) + 1))
      bndV (w_m_next0 d M14) fun M15 =>
      some ([aI 1], M15)) :=
  (aOm_fix (aSem d) K_m_opens 0 _ [] M).trans rfl
set_option maxRecDepth 20000 in
theorem u_m_sumUp (d : Nat)  (M : aM) : w_m_sumUp (d + 1)  M = (
    bndI (w_m_product d M) fun y13 M12 =>
    if y13 = 0 then
      some ([aI 0], M12)
    else
      w_m_sumUp_9 d M12) :=
  (aOm_fix (aSem d) K_m_sumUp 0 _ [] M).trans rfl
set_option maxRecDepth 20000 in
theorem u_m_sumUp_9 (d : Nat)  (M : aM) : w_m_sumUp_9 d  M = (
    if (M 157 18) = 143 then
      w_m_sumUp_29 d M
    else
      if (M 157 18) = 145 then
        w_m_sumUp_29 d M
      else
        some ([aI 1], M)) :=
  (aOm_fix _ _ _ _ _ _).trans rfl
set_option maxRecDepth 20000 in
theorem u_m_sumUp_29 (d : Nat)  (M : aM) : w_m_sumUp_29 d  M = (
    if (M 157 18) = 143 then
      bndV (w_m_next0 d M) fun M13 =>
      bndI (w_m_product d M13) fun y15 M14 =>
      if y15 = 0 then
        some ([aI 0], M14)
      else
        bndV (w_m_lay d 23 0 M14) fun M16 =>
        w_m_sumUp_9 d M16
    else
      bndV (w_m_next0 d M) fun M17 =>
      bndI (w_m_product d M17) fun y19 M18 =>
      if y19 = 0 then
        some ([aI 0], M18)
      else
        bndV (w_m_lay d 24 0 M18) fun M20 =>
        w_m_sumUp_9 d M20) :=
  (aOm_fix _ _ _ _ _ _).trans rfl
set_option maxRecDepth 20000 in
theorem u_m_product (d : Nat)  (M : aM) : w_m_product (d + 1)  M = (
    bndI (w_m_unit d M) fun y13 M12 =>
    if y13 = 0 then
      some ([aI 0], M12)
    else
      w_m_product_9 d M12) :=
  (aOm_fix (aSem d) K_m_product 0 _ [] M).trans rfl
set_option maxRecDepth 20000 in
theorem u_m_product_9 (d : Nat)  (M : aM) : w_m_product_9 d  M = (
    if (M 157 18) = 142 then
      w_m_product_29 d M
    else
      if (M 157 18) = 147 then
        w_m_product_29 d M
      else
        some ([aI 1], M)) :=
  (aOm_fix _ _ _ _ _ _).trans rfl
set_option maxRecDepth 20000 in
theorem u_m_product_29 (d : Nat)  (M : aM) : w_m_product_29 d  M = (
    if (M 157 18) = 147 then
      bndV (w_m_next0 d M) fun M14 =>
      if (1 : Int) = 0 then
        bndI (w_m_unit d M14) fun y16 M15 =>
        if y16 = 0 then
          some ([aI 0], M15)
        else
          bndV (w_m_lay d 25 0 M15) fun M17 =>
          w_m_product_9 d M17
      else
        let v18 : Int := (M14 157 20)
        if (M14 157 18) = 2 then
          if v18 = 0 then
            bndI (w_m_bad d 2 M14) fun y20 M19 =>
            aBool y20 <| some ([aI y20], M19)
          else
            bndV (w_m_next0 d M14) fun M21 =>
            bndV (w_m_lay d 26 v18 M21) fun M22 =>
            w_m_product_9 d M22
        else
          bndI (w_m_bad d 1 M14) fun y24 M23 =>
          aBool y24 <| some ([aI y24], M23)
    else
      bndV (w_m_next0 d M) fun M25 =>
      if (0 : Int) = 0 then
        bndI (w_m_unit d M25) fun y27 M26 =>
        if y27 = 0 then
          some ([aI 0], M26)
        else
          bndV (w_m_lay d 25 0 M26) fun M28 =>
          w_m_product_9 d M28
      else
        let v29 : Int := (M25 157 20)
        if (M25 157 18) = 2 then
          if v29 = 0 then
            bndI (w_m_bad d 2 M25) fun y31 M30 =>
            aBool y31 <| some ([aI y31], M30)
          else
            bndV (w_m_next0 d M25) fun M32 =>
            bndV (w_m_lay d 26 v29 M32) fun M33 =>
            w_m_product_9 d M33
        else
          bndI (w_m_bad d 1 M25) fun y35 M34 =>
          aBool y35 <| some ([aI y35], M34)) :=
  (aOm_fix _ _ _ _ _ _).trans rfl
set_option maxRecDepth 20000 in
theorem u_m_unit (d : Nat)  (M : aM) : w_m_unit (d + 1)  M = (
    bndI (w_m_isIn d (M 157 18) 41 50 M) fun y13 M12 =>
    if (M12 157 18) = 2 then
      if y13 = 0 then
        bndV (w_m_lay d 0 (M12 157 20) M12) fun M14 =>
        bndV (w_m_next0 d M14) fun M15 =>
        some ([aI 1], M15)
      else
        bndV (w_m_lay d (w32 ((M12 157 18) - 40)) (M12 157 20) M12) fun M16 =>
        bndV (w_m_next0 d M16) fun M17 =>
        some ([aI 1], M17)
    else
      if y13 = 0 then
        bndI (w_m_bad d 1 M12) fun y19 M18 =>
        aBool y19 <| some ([aI y19], M18)
      else
        if y13 = 0 then
          bndV (w_m_lay d 0 (M12 157 20) M12) fun M20 =>
          bndV (w_m_next0 d M20) fun M21 =>
          some ([aI 1], M21)
        else
          bndV (w_m_lay d (w32 ((M12 157 18) - 40)) (M12 157 20) M12) fun M22 =>
          bndV (w_m_next0 d M22) fun M23 =>
          some ([aI 1], M23)) :=
  (aOm_fix (aSem d) K_m_unit 0 _ [] M).trans rfl
set_option maxRecDepth 20000 in
theorem u_m_any (d : Nat)  (M : aM) : w_m_any (d + 1)  M = (
    bndI (w_m_every d M) fun y13 M12 =>
    if y13 = 0 then
      some ([aI 0], M12)
    else
      w_m_any_9 d M12) :=
  (aOm_fix (aSem d) K_m_any 0 _ [] M).trans rfl
set_option maxRecDepth 20000 in
theorem u_m_any_9 (d : Nat)  (M : aM) : w_m_any_9 d  M = (
    if (M 157 18) = 4 then
      bndV (w_m_next0 d M) fun M12 =>
      bndI (w_m_every d M12) fun y14 M13 =>
      if y14 = 0 then
        some ([aI 0], M13)
      else
        bndV (w_m_lay d 32 0 M13) fun M15 =>
        w_m_any_9 d M15
    else
      some ([aI 1], M)) :=
  (aOm_fix _ _ _ _ _ _).trans rfl
set_option maxRecDepth 20000 in
theorem u_m_every (d : Nat)  (M : aM) : w_m_every (d + 1)  M = (
    bndI (w_m_oneTest d M) fun y13 M12 =>
    if y13 = 0 then
      some ([aI 0], M12)
    else
      w_m_every_9 d M12) :=
  (aOm_fix (aSem d) K_m_every 0 _ [] M).trans rfl
set_option maxRecDepth 20000 in
theorem u_m_every_9 (d : Nat)  (M : aM) : w_m_every_9 d  M = (
    if (M 157 18) = 5 then
      bndV (w_m_next0 d M) fun M12 =>
      bndI (w_m_oneTest d M12) fun y14 M13 =>
      if y14 = 0 then
        some ([aI 0], M13)
      else
        bndV (w_m_lay d 31 0 M13) fun M15 =>
        w_m_every_9 d M15
    else
      some ([aI 1], M)) :=
  (aOm_fix _ _ _ _ _ _).trans rfl
set_option maxRecDepth 20000 in
theorem u_m_oneTest (d : Nat)  (M : aM) : w_m_oneTest (d + 1)  M = (
    if (M 157 18) = 6 then
      bndI (w_m_opens d M) fun y13 M12 =>
      if y13 = 0 then
        some ([aI 0], M12)
      else
        bndI (w_m_oneTest d M12) fun y15 M14 =>
        if y15 = 0 then
          some ([aI 0], M14)
        else
          let M16 : aM := aUp M14 157 24 (w32 ((M14 157 24) - 1))
          bndV (w_m_lay d 30 0 M16) fun M17 =>
          some ([aI 1], M17)
    else
      if (M 157 18) = 140 then
        bndI (w_m_opens d M) fun y19 M18 =>
        if y19 = 0 then
          some ([aI 0], M18)
        else
          bndI (w_m_any d M18) fun y21 M20 =>
          if y21 = 0 then
            some ([aI 0], M20)
          else
            bndI (w_m_need d 141 M20) fun y23 M22 =>
            if y23 = 0 then
              some ([aI 0], M22)
            else
              let M24 : aM := aUp M22 157 24 (w32 ((M22 157 24) - 1))
              some ([aI 1], M24)
      else
        bndI (w_m_sumUp d M) fun y26 M25 =>
        if y26 = 0 then
          some ([aI 0], M25)
        else
          if (M25 157 18) = 160 then
            if (27 : Int) = (-1) then
              bndI (w_m_bad d 1 M25) fun y28 M27 =>
              aBool y28 <| some ([aI y28], M27)
            else
              bndV (w_m_next0 d M25) fun M29 =>
              bndI (w_m_sumUp d M29) fun y31 M30 =>
              if y31 = 0 then
                some ([aI 0], M30)
              else
                bndV (w_m_lay d 27 0 M30) fun M32 =>
                some ([aI 1], M32)
          else
            if (M25 157 18) = 161 then
              if (28 : Int) = (-1) then
                bndI (w_m_bad d 1 M25) fun y34 M33 =>
                aBool y34 <| some ([aI y34], M33)
              else
                bndV (w_m_next0 d M25) fun M35 =>
                bndI (w_m_sumUp d M35) fun y37 M36 =>
                if y37 = 0 then
                  some ([aI 0], M36)
                else
                  bndV (w_m_lay d 28 0 M36) fun M38 =>
                  some ([aI 1], M38)
            else
              if (M25 157 18) = 162 then
                if (29 : Int) = (-1) then
                  bndI (w_m_bad d 1 M25) fun y40 M39 =>
                  aBool y40 <| some ([aI y40], M39)
                else
                  bndV (w_m_next0 d M25) fun M41 =>
                  bndI (w_m_sumUp d M41) fun y43 M42 =>
                  if y43 = 0 then
                    some ([aI 0], M42)
                  else
                    bndV (w_m_lay d 29 0 M42) fun M44 =>
                    some ([aI 1], M44)
              else
                if ((-1) : Int) = (-1) then
                  bndI (w_m_bad d 1 M25) fun y46 M45 =>
                  aBool y46 <| some ([aI y46], M45)
                else
                  bndV (w_m_next0 d M25) fun M47 =>
                  bndI (w_m_sumUp d M47) fun y49 M48 =>
                  if y49 = 0 then
                    some ([aI 0], M48)
                  else
                    bndV (w_m_lay d (-1) 0 M48) fun M50 =>
                    some ([aI 1], M50)) :=
  (aOm_fix (aSem d) K_m_oneTest 0 _ [] M).trans rfl
set_option maxRecDepth 20000 in
theorem u_m_aLine (d : Nat)  (M : aM) : w_m_aLine (d + 1)  M = (
    bndI (w_m_isIn d (M 157 18) 20 22 M) fun y13 M12 =>
    if y13 = 0 then
      bndI (w_m_bad d 1 M12) fun y15 M14 =>
      aBool y15 <| some ([aI y15], M14)
    else
      if (M12 157 13) = 16 then
        bndI (w_m_bad d 3 M12) fun y17 M16 =>
        aBool y17 <| some ([aI y17], M16)
      else
        let M18 : aM := aUp M12 157 24 0
        inb (w32 ((w32 (4 * (M18 157 13))) + 3)) (aLen 162) <|
        let M19 : aM := aUp M18 162 (w32 ((w32 (4 * (M18 157 13))) + 3)).toNat (M18 157 18)
        bndV (w_m_next0 d M19) fun M20 =>
        inb (w32 (4 * (M20 157 13))) (aLen 162) <|
        let M21 : aM := aUp M20 162 (w32 (4 * (M20 157 13))).toNat (M20 157 14)
        bndI (w_m_sumUp d M21) fun y23 M22 =>
        if y23 = 0 then
          some ([aI 0], M22)
        else
          inb (w32 ((w32 (4 * (M22 157 13))) + 1)) (aLen 162) <|
          let M24 : aM := aUp M22 162 (w32 ((w32 (4 * (M22 157 13))) + 1)).toNat (M22 157 14)
          if (M24 157 18) = 3 then
            bndV (w_m_next0 d M24) fun M25 =>
            bndI (w_m_any d M25) fun y27 M26 =>
            if y27 = 0 then
              some ([aI 0], M26)
            else
              inb (w32 ((w32 (4 * (M26 157 13))) + 2)) (aLen 162) <|
              let M28 : aM := aUp M26 162 (w32 ((w32 (4 * (M26 157 13))) + 2)).toNat (M26 157 14)
              bndI (w_m_need d 159 M28) fun y30 M29 =>
              aBool y30 <| some ([aI y30], M29)
          else
            inb (w32 ((w32 (4 * (M24 157 13))) + 2)) (aLen 162) <|
            let M31 : aM := aUp M24 162 (w32 ((w32 (4 * (M24 157 13))) + 2)).toNat (M24 157 14)
            bndI (w_m_need d 159 M31) fun y33 M32 =>
            aBool y33 <| some ([aI y33], M32)) :=
  (aOm_fix (aSem d) K_m_aLine 0 _ [] M).trans rfl
set_option maxRecDepth 20000 in
theorem u_m_readsLaw (d : Nat)  (M : aM) : w_m_readsLaw (d + 1)  M = (
    let M12 : aM := aUp M 157 13 0
    let M13 : aM := aUp M12 157 14 0
    w_m_readsLaw_12 d 1 M13) :=
  (aOm_fix (aSem d) K_m_readsLaw 0 _ [] M).trans rfl
set_option maxRecDepth 20000 in
theorem u_m_readsLaw_12 (d : Nat) (v1 : Int) (M : aM) : w_m_readsLaw_12 d v1 M = (
    if v1 = 0 then
      aBool v1 <| some ([aI v1], M)
    else
      if (M 157 18) = 0 then
        aBool v1 <| some ([aI v1], M)
      else
        bndI (w_m_aLine d M) fun y14 M13 =>
        if y14 = 0 then
          let M15 : aM := aUp M13 157 13 (w32 ((M13 157 13) + 0))
          w_m_readsLaw_12 d y14 M15
        else
          let M16 : aM := aUp M13 157 13 (w32 ((M13 157 13) + 1))
          w_m_readsLaw_12 d y14 M16) :=
  (aOm_fix _ _ _ _ _ _).trans rfl
set_option maxRecDepth 20000 in
theorem u_m_number (d : Nat) (v1 : Int) (v2 : Int) (v3 : Int) (M : aM) : w_m_number (d + 1) v1 v2 v3 M = (
    if (M 157 18) = 2 then
      bndI (w_m_isIn d (M 157 20) v2 v3 M) fun y16 M15 =>
      if y16 = 0 then
        bndI (w_m_bad d 2 M15) fun y18 M17 =>
        aBool y18 <| some ([aI y18], M17)
      else
        inb v1 (aLen 164) <|
        let M19 : aM := aUp M15 164 v1.toNat (M15 157 20)
        bndV (w_m_next0 d M19) fun M20 =>
        some ([aI 1], M20)
    else
      bndI (w_m_bad d 1 M) fun y22 M21 =>
      aBool y22 <| some ([aI y22], M21)) :=
  (aOm_fix (aSem d) K_m_number 0 _ [] M).trans rfl
set_option maxRecDepth 20000 in
theorem u_m_told (d : Nat) (v1 : Int) (v2 : Int) (v3 : Int) (v4 : Int) (M : aM) : w_m_told (d + 1) v1 v2 v3 v4 M = (
    bndI (w_m_need d v2 M) fun y17 M16 =>
    if y17 = 0 then
      some ([aI 0], M16)
    else
      bndI (w_m_number d v1 v3 v4 M16) fun y19 M18 =>
      if y19 = 0 then
        some ([aI 0], M18)
      else
        some ([aI 1], M18)) :=
  (aOm_fix (aSem d) K_m_told 0 _ [] M).trans rfl
set_option maxRecDepth 20000 in
theorem u_m_aPlan (d : Nat)  (M : aM) : w_m_aPlan (d + 1)  M = (
    let v12 : Int := (w32 (3 * (M 157 15)))
    bndI (w_m_told d v12 7 0 999 M) fun y14 M13 =>
    if y14 = 0 then
      some ([aI 0], M13)
    else
      bndI (w_m_isIn d (M13 157 18) 8 12 M13) fun y16 M15 =>
      if y16 = 0 then
        bndI (w_m_bad d 1 M15) fun y18 M17 =>
        aBool y18 <| some ([aI y18], M17)
      else
        let v19 : Int := (M15 157 18)
        inb (w32 (v12 + 1)) (aLen 164) <|
        let M20 : aM := aUp M15 164 (w32 (v12 + 1)).toNat v19
        inb (w32 (v12 + 2)) (aLen 164) <|
        let M21 : aM := aUp M20 164 (w32 (v12 + 2)).toNat 0
        bndV (w_m_next0 d M21) fun M22 =>
        if v19 = 10 then
          some ([aI 1], M22)
        else
          if v19 = 8 then
            bndI (w_m_number d (w32 (v12 + 2)) 0 99 M22) fun y24 M23 =>
            if y24 = 0 then
              some ([aI 0], M23)
            else
              some ([aI 1], M23)
          else
            if v19 = 9 then
              bndI (w_m_number d (w32 (v12 + 2)) 0 99 M22) fun y26 M25 =>
              if y26 = 0 then
                some ([aI 0], M25)
              else
                some ([aI 1], M25)
            else
              inb 41 (aLen 158) <|
              bndI (w_m_number d (w32 (v12 + 2)) 0 (w32 ((M22 158 41) - 1)) M22) fun y28 M27 =>
              if y28 = 0 then
                some ([aI 0], M27)
              else
                some ([aI 1], M27)) :=
  (aOm_fix (aSem d) K_m_aPlan 0 _ [] M).trans rfl
set_option maxRecDepth 20000 in
theorem u_m_aDue (d : Nat)  (M : aM) : w_m_aDue (d + 1)  M = (
    let v12 : Int := (w32 (3 * (M 157 15)))
    bndI (w_m_told d v12 13 1 999 M) fun y14 M13 =>
    if y14 = 0 then
      some ([aI 0], M13)
    else
      inb 41 (aLen 158) <|
      bndI (w_m_told d (w32 (v12 + 1)) 7 0 (w32 ((M13 158 41) - 1)) M13) fun y16 M15 =>
      if y16 = 0 then
        some ([aI 0], M15)
      else
        inb (w32 (v12 + 2)) (aLen 164) <|
        let M17 : aM := aUp M15 164 (w32 (v12 + 2)).toNat (-1)
        if (M17 157 18) = 14 then
          bndI (w_m_told d (w32 (v12 + 2)) 14 0 999 M17) fun y19 M18 =>
          if y19 = 0 then
            some ([aI 0], M18)
          else
            some ([aI 1], M18)
        else
          some ([aI 1], M17)) :=
  (aOm_fix (aSem d) K_m_aDue 0 _ [] M).trans rfl
set_option maxRecDepth 20000 in
theorem u_m_aFeast (d : Nat)  (M : aM) : w_m_aFeast (d + 1)  M = (
    bndI (w_m_told d (w32 (2 * (M 157 15))) 15 0 30 M) fun y13 M12 =>
    if y13 = 0 then
      some ([aI 0], M12)
    else
      bndI (w_m_told d (w32 ((w32 (2 * (M12 157 15))) + 1)) 16 0 9 M12) fun y15 M14 =>
      if y15 = 0 then
        some ([aI 0], M14)
      else
        some ([aI 1], M14)) :=
  (aOm_fix (aSem d) K_m_aFeast 0 _ [] M).trans rfl
set_option maxRecDepth 20000 in
theorem u_m_aRow (d : Nat)  (M : aM) : w_m_aRow (d + 1)  M = (
    if (M 157 12) = 1 then
      bndI (w_m_aPlan d M) fun y13 M12 =>
      if y13 = 0 then
        some ([aI 0], M12)
      else
        bndI (w_m_need d 159 M12) fun y15 M14 =>
        if y15 = 0 then
          some ([aI 0], M14)
        else
          some ([aI 1], M14)
    else
      if (M 157 12) = 2 then
        bndI (w_m_aDue d M) fun y17 M16 =>
        if y17 = 0 then
          some ([aI 0], M16)
        else
          bndI (w_m_need d 159 M16) fun y19 M18 =>
          if y19 = 0 then
            some ([aI 0], M18)
          else
            some ([aI 1], M18)
      else
        bndI (w_m_aFeast d M) fun y21 M20 =>
        if y21 = 0 then
          some ([aI 0], M20)
        else
          bndI (w_m_need d 159 M20) fun y23 M22 =>
          if y23 = 0 then
            some ([aI 0], M22)
          else
            some ([aI 1], M22)) :=
  (aOm_fix (aSem d) K_m_aRow 0 _ [] M).trans rfl
set_option maxRecDepth 20000 in
theorem u_m_readsRows (d : Nat)  (M : aM) : w_m_readsRows (d + 1)  M = (
    let M12 : aM := aUp M 157 15 0
    if (M12 157 12) = 1 then
      w_m_readsRows_36 d 7 1 M12
    else
      if (M12 157 12) = 2 then
        w_m_readsRows_36 d 13 1 M12
      else
        w_m_readsRows_36 d 15 1 M12) :=
  (aOm_fix (aSem d) K_m_readsRows 0 _ [] M).trans rfl
set_option maxRecDepth 20000 in
theorem u_m_readsRows_36 (d : Nat) (v1 : Int) (v2 : Int) (M : aM) : w_m_readsRows_36 d v1 v2 M = (
    if v2 = 0 then
      aBool v2 <| some ([aI v2], M)
    else
      if (M 157 18) = 0 then
        aBool v2 <| some ([aI v2], M)
      else
        if (M 157 18) = v1 then
          if (M 157 12) = 3 then
            if (M 157 15) = 8 then
              bndI (w_m_bad d 3 M) fun y15 M14 =>
              aBool y15 <| some ([aI y15], M14)
            else
              bndI (w_m_aRow d M) fun y17 M16 =>
              if y17 = 0 then
                let M18 : aM := aUp M16 157 15 (w32 ((M16 157 15) + 0))
                w_m_readsRows_36 d v1 y17 M18
              else
                let M19 : aM := aUp M16 157 15 (w32 ((M16 157 15) + 1))
                w_m_readsRows_36 d v1 y17 M19
          else
            if (M 157 15) = 16 then
              bndI (w_m_bad d 3 M) fun y21 M20 =>
              aBool y21 <| some ([aI y21], M20)
            else
              bndI (w_m_aRow d M) fun y23 M22 =>
              if y23 = 0 then
                let M24 : aM := aUp M22 157 15 (w32 ((M22 157 15) + 0))
                w_m_readsRows_36 d v1 y23 M24
              else
                let M25 : aM := aUp M22 157 15 (w32 ((M22 157 15) + 1))
                w_m_readsRows_36 d v1 y23 M25
        else
          bndI (w_m_bad d 1 M) fun y27 M26 =>
          aBool y27 <| some ([aI y27], M26)) :=
  (aOm_fix _ _ _ _ _ _).trans rfl
set_option maxRecDepth 20000 in
theorem u_m_putsLaw (d : Nat)  (M : aM) : w_m_putsLaw (d + 1)  M = (
    inb 44 (aLen 158) <|
    let M12 : aM := aUp M 158 44 (M 157 13)
    w_m_putsLaw_13 d 0 M12) :=
  (aOm_fix (aSem d) K_m_putsLaw 0 _ [] M).trans rfl
set_option maxRecDepth 20000 in
theorem u_m_putsLaw_13 (d : Nat) (v1 : Int) (M : aM) : w_m_putsLaw_13 d v1 M = (
    if v1 < (M 157 13) then
      inb (w32 (4 * v1)) (aLen 162) <|
      inb (w32 (884 + v1)) (aLen 158) <|
      let M13 : aM := aUp M 158 (w32 (884 + v1)).toNat (M 162 (w32 (4 * v1)).toNat)
      inb (w32 ((w32 (4 * v1)) + 1)) (aLen 162) <|
      inb (w32 (900 + v1)) (aLen 158) <|
      let M14 : aM := aUp M13 158 (w32 (900 + v1)).toNat (M13 162 (w32 ((w32 (4 * v1)) + 1)).toNat)
      inb (w32 ((w32 (4 * v1)) + 2)) (aLen 162) <|
      inb (w32 (916 + v1)) (aLen 158) <|
      let M15 : aM := aUp M14 158 (w32 (916 + v1)).toNat (M14 162 (w32 ((w32 (4 * v1)) + 2)).toNat)
      inb (w32 ((w32 (4 * v1)) + 3)) (aLen 162) <|
      inb (w32 (932 + v1)) (aLen 158) <|
      let M16 : aM := aUp M15 158 (w32 (932 + v1)).toNat (M15 162 (w32 ((w32 (4 * v1)) + 3)).toNat)
      let v17 : Int := w32 (v1 + 1)
      w_m_putsLaw_13 d v17 M16
    else
      w_m_putsLaw_107 d 0 M) :=
  (aOm_fix _ _ _ _ _ _).trans rfl
set_option maxRecDepth 20000 in
theorem u_m_putsLaw_107 (d : Nat) (v1 : Int) (M : aM) : w_m_putsLaw_107 d v1 M = (
    if v1 < (w32 (2 * (M 157 14))) then
      inb v1 (aLen 163) <|
      inb (w32 (948 + v1)) (aLen 158) <|
      let M13 : aM := aUp M 158 (w32 (948 + v1)).toNat (M 163 v1.toNat)
      let v14 : Int := w32 (v1 + 1)
      w_m_putsLaw_107 d v14 M13
    else
      some ([aI (M 157 13)], M)) :=
  (aOm_fix _ _ _ _ _ _).trans rfl
set_option maxRecDepth 20000 in
theorem u_m_puts (d : Nat) (v1 : Int) (v2 : Int) (v3 : Int) (M : aM) : w_m_puts (d + 1) v1 v2 v3 M = (
    inb v1 (aLen 158) <|
    let M15 : aM := aUp M 158 v1.toNat (M 157 15)
    w_m_puts_13 d v2 v3 0 M15) :=
  (aOm_fix (aSem d) K_m_puts 0 _ [] M).trans rfl
set_option maxRecDepth 20000 in
theorem u_m_puts_13 (d : Nat) (v2 : Int) (v3 : Int) (v4 : Int) (M : aM) : w_m_puts_13 d v2 v3 v4 M = (
    if v4 < (w32 (v3 * (M 157 15))) then
      inb v4 (aLen 164) <|
      inb (w32 (v2 + v4)) (aLen 158) <|
      let M16 : aM := aUp M 158 (w32 (v2 + v4)).toNat (M 164 v4.toNat)
      let v17 : Int := w32 (v4 + 1)
      w_m_puts_13 d v2 v3 v17 M16
    else
      some ([aI (M 157 15)], M)) :=
  (aOm_fix _ _ _ _ _ _).trans rfl
set_option maxRecDepth 20000 in
theorem u_m_putsText (d : Nat) (v1 : Int) (M : aM) : w_m_putsText (d + 1) v1 M = (
    if v1 = 0 then
      bndI (w_m_putsLaw d M) fun y14 M13 =>
      some ([aI y14], M13)
    else
      if v1 = 3 then
        bndI (w_m_puts d 47 159 2 M) fun y16 M15 =>
        some ([aI y16], M15)
      else
        bndV (w_m_forgets d M) fun M17 =>
        if v1 = 1 then
          bndI (w_m_puts d 45 63 3 M17) fun y19 M18 =>
          some ([aI y19], M18)
        else
          inb 9 (aLen 158) <|
          let M20 : aM := aUp M17 158 9 0
          bndI (w_m_puts d 46 111 3 M20) fun y22 M21 =>
          some ([aI y22], M21)) :=
  (aOm_fix (aSem d) K_m_putsText 0 _ [] M).trans rfl
set_option maxRecDepth 20000 in
theorem u_m_text (d : Nat) (v1 : Int) (M : aM) : w_m_text (d + 1) v1 M = (
    let M13 : aM := aUp M 157 23 0
    let M14 : aM := aUp M13 157 25 (-1)
    bndI (w_m_isIn d v1 0 3 M14) fun y16 M15 =>
    if y16 = 0 then
      let M17 : aM := aUp M15 157 16 0
      some ([aI (-1)], M17)
    else
      let M18 : aM := aUp M15 157 21 0
      let M19 : aM := aUp M18 157 17 0
      let M20 : aM := aUp M19 157 12 v1
      bndV (w_m_next0 d M20) fun M21 =>
      if v1 = 0 then
        bndI (w_m_readsLaw d M21) fun y23 M22 =>
        let M24 : aM := aUp M22 157 16 0
        if y23 = 0 then
          let M25 : aM := aUp M24 157 23 (M24 157 21)
          let M26 : aM := aUp M25 157 25 (M25 157 22)
          some ([aI (-1)], M26)
        else
          bndI (w_m_putsText d v1 M24) fun y28 M27 =>
          some ([aI y28], M27)
      else
        bndI (w_m_readsRows d M21) fun y30 M29 =>
        let M31 : aM := aUp M29 157 16 0
        if y30 = 0 then
          let M32 : aM := aUp M31 157 23 (M31 157 21)
          let M33 : aM := aUp M32 157 25 (M32 157 22)
          some ([aI (-1)], M33)
        else
          bndI (w_m_putsText d v1 M31) fun y35 M34 =>
          some ([aI y35], M34)) :=
  (aOm_fix (aSem d) K_m_text 0 _ [] M).trans rfl
set_option maxRecDepth 20000 in
theorem u_m_fault (d : Nat) (v1 : Int) (M : aM) : w_m_fault (d + 1) v1 M = (
    if v1 = 0 then
      some ([aI (M 157 23)], M)
    else
      if v1 = 1 then
        some ([aI (M 157 25)], M)
      else
        some ([aI (-1)], M)) :=
  (aOm_fix (aSem d) K_m_fault 0 _ [] M).trans rfl
set_option maxRecDepth 20000 in
theorem u_m_both (d : Nat) (v0 : Int) (v1 : Int) (v2 : Int) (M : aM) : w_m_both (d + 1) v0 v1 v2 M = (
    if v0 = 23 then
      some ([aI (w32 (v1 + v2))], M)
    else
    if v0 = 24 then
      some ([aI (w32 (v1 - v2))], M)
    else
    if v0 = 25 then
      some ([aI (w32 (v1 * v2))], M)
    else
    if v0 = 26 then
      some ([aI (ior v1 v2)], M)
    else
    if v0 = 27 then
      if v1 < v2 then
        some ([aI 1], M)
      else
        some ([aI 0], M)
    else
    if v0 = 28 then
      if v1 = v2 then
        some ([aI 1], M)
      else
        some ([aI 0], M)
    else
    if v0 = 29 then
      if v2 < v1 then
        some ([aI 1], M)
      else
        some ([aI 0], M)
    else
    if v0 = 30 then
      some ([aI (ior v1 v2)], M)
    else
    if v0 = 31 then
      some ([aI (iand v1 v2)], M)
    else
      some ([aI (ior v1 v2)], M)) :=
  (aOm_fix (aSem d) K_m_both 0 _ [] M).trans rfl
set_option maxRecDepth 20000 in
theorem u_m_comesTo (d : Nat) (v1 : Int) (v2 : Int) (v3 : Int) (M : aM) : w_m_comesTo (d + 1) v1 v2 v3 M = (
    w_m_comesTo_6 d v1 v3 0 v2 M) :=
  (aOm_fix (aSem d) K_m_comesTo 0 _ [] M).trans rfl
set_option maxRecDepth 20000 in
theorem u_m_comesTo_6 (d : Nat) (v1 : Int) (v3 : Int) (v4 : Int) (v5 : Int) (M : aM) : w_m_comesTo_6 d v1 v3 v4 v5 M = (
    if v5 < v3 then
      inb (w32 ((w32 (948 + (w32 (820 * v1)))) + (w32 (2 * v5)))) (aLen 158) <|
      let v19 : Int := (M 158 (w32 ((w32 (948 + (w32 (820 * v1)))) + (w32 (2 * v5)))).toNat)
      inb (w32 ((w32 ((w32 (948 + (w32 (820 * v1)))) + (w32 (2 * v5)))) + 1)) (aLen 158) <|
      let v20 : Int := (M 158 (w32 ((w32 ((w32 (948 + (w32 (820 * v1)))) + (w32 (2 * v5)))) + 1)).toNat)
      if v19 < 23 then
        if v19 = 0 then
          inb v4 (aLen 166) <|
          let M21 : aM := aUp M 166 v4.toNat v20
          let v22 : Int := w32 (v4 + 1)
          let v23 : Int := w32 (v5 + 1)
          w_m_comesTo_6 d v1 v3 v22 v23 M21
        else
          inb v19 (aLen 167) <|
          inb v4 (aLen 166) <|
          let M24 : aM := aUp M 166 v4.toNat (M 167 v19.toNat)
          let v25 : Int := w32 (v4 + 1)
          let v26 : Int := w32 (v5 + 1)
          w_m_comesTo_6 d v1 v3 v25 v26 M24
      else
        if v19 = 26 then
          inb (w32 (v4 - 1)) (aLen 166) <|
          if v20 = 0 then none else
          inb (w32 (v4 - 1)) (aLen 166) <|
          let M27 : aM := aUp M 166 (w32 (v4 - 1)).toNat (idiv (M 166 (w32 (v4 - 1)).toNat) v20)
          let v28 : Int := w32 (v5 + 1)
          w_m_comesTo_6 d v1 v3 v4 v28 M27
        else
          if v19 = 30 then
            inb (w32 (v4 - 1)) (aLen 166) <|
            inb (w32 (v4 - 1)) (aLen 166) <|
            let M29 : aM := aUp M 166 (w32 (v4 - 1)).toNat (w32 (1 - (M 166 (w32 (v4 - 1)).toNat)))
            let v30 : Int := w32 (v5 + 1)
            w_m_comesTo_6 d v1 v3 v4 v30 M29
          else
            let v31 : Int := w32 (v4 + (-1))
            inb (w32 (v31 - 1)) (aLen 166) <|
            inb v31 (aLen 166) <|
            bndI (w_m_both d v19 (M 166 (w32 (v31 - 1)).toNat) (M 166 v31.toNat) M) fun y33 M32 =>
            inb (w32 (v31 - 1)) (aLen 166) <|
            let M34 : aM := aUp M32 166 (w32 (v31 - 1)).toNat y33
            let v35 : Int := w32 (v5 + 1)
            w_m_comesTo_6 d v1 v3 v31 v35 M34
    else
      inb 0 (aLen 166) <|
      some ([aI (M 166 0)], M)) :=
  (aOm_fix _ _ _ _ _ _).trans rfl
set_option maxRecDepth 20000 in
theorem u_m_isSo (d : Nat) (v1 : Int) (M : aM) : w_m_isSo (d + 1) v1 M = (
    inb (w32 (916 + v1)) (aLen 158) <|
    inb (w32 (900 + v1)) (aLen 158) <|
    if (M 158 (w32 (916 + v1)).toNat) = (M 158 (w32 (900 + v1)).toNat) then
      some ([aI 1], M)
    else
      inb (w32 (900 + v1)) (aLen 158) <|
      inb (w32 (916 + v1)) (aLen 158) <|
      bndI (w_m_comesTo d 0 (M 158 (w32 (900 + v1)).toNat) (M 158 (w32 (916 + v1)).toNat) M) fun y14 M13 =>
      if y14 = 1 then
        some ([aI 1], M13)
      else
        some ([aI 0], M13)) :=
  (aOm_fix (aSem d) K_m_isSo 0 _ [] M).trans rfl
set_option maxRecDepth 20000 in
theorem u_m_says (d : Nat) (v1 : Int) (v2 : Int) (v3 : Int) (v4 : Int) (M : aM) : w_m_says (d + 1) v1 v2 v3 v4 M = (
    inb 1 (aLen 167) <|
    let M16 : aM := aUp M 167 1 v2
    inb (w32 (53 + v2)) (aLen 158) <|
    inb 2 (aLen 167) <|
    let M17 : aM := aUp M16 167 2 (M16 158 (w32 (53 + v2)).toNat)
    inb (w32 (11 + v2)) (aLen 158) <|
    inb 3 (aLen 167) <|
    let M18 : aM := aUp M17 167 3 (M17 158 (w32 (11 + v2)).toNat)
    inb (w32 (21 + v2)) (aLen 158) <|
    inb 4 (aLen 167) <|
    let M19 : aM := aUp M18 167 4 (M18 158 (w32 (21 + v2)).toNat)
    inb (w32 (31 + v2)) (aLen 158) <|
    inb 5 (aLen 167) <|
    let M20 : aM := aUp M19 167 5 (M19 158 (w32 (31 + v2)).toNat)
    inb 4 (aLen 158) <|
    inb 6 (aLen 167) <|
    let M21 : aM := aUp M20 167 6 (M20 158 4)
    inb 5 (aLen 158) <|
    inb 7 (aLen 167) <|
    let M22 : aM := aUp M21 167 7 (M21 158 5)
    inb 6 (aLen 158) <|
    inb 8 (aLen 167) <|
    let M23 : aM := aUp M22 167 8 (M22 158 6)
    inb 0 (aLen 158) <|
    inb 9 (aLen 167) <|
    let M24 : aM := aUp M23 167 9 (irem (idiv (M23 158 0) 30) 12)
    inb 1 (aLen 158) <|
    if (M24 158 1) = v2 then
      inb 10 (aLen 167) <|
      let M25 : aM := aUp M24 167 10 1
      w_m_says_151 d v1 v3 v4 0 M25
    else
      inb 10 (aLen 167) <|
      let M26 : aM := aUp M24 167 10 0
      w_m_says_151 d v1 v3 v4 0 M26) :=
  (aOm_fix (aSem d) K_m_says 0 _ [] M).trans rfl
set_option maxRecDepth 20000 in
theorem u_m_says_151 (d : Nat) (v1 : Int) (v3 : Int) (v4 : Int) (v5 : Int) (M : aM) : w_m_says_151 d v1 v3 v4 v5 M = (
    inb 44 (aLen 158) <|
    if v5 < (M 158 44) then
      inb (w32 (932 + v5)) (aLen 158) <|
      if (M 158 (w32 (932 + v5)).toNat) = v1 then
        bndI (w_m_isSo d v5 M) fun y18 M17 =>
        if y18 = 0 then
          let v19 : Int := w32 (v5 + 1)
          w_m_says_151 d v1 v3 v4 v19 M17
        else
          inb (w32 (884 + v5)) (aLen 158) <|
          inb (w32 (900 + v5)) (aLen 158) <|
          bndI (w_m_comesTo d 0 (M17 158 (w32 (884 + v5)).toNat) (M17 158 (w32 (900 + v5)).toNat) M17) fun y21 M20 =>
          bndI (w_m_lesser d v4 y21 M20) fun y23 M22 =>
          bndI (w_m_greater d 0 y23 M22) fun y25 M24 =>
          some ([aI y25], M24)
      else
        let v26 : Int := w32 (v5 + 1)
        w_m_says_151 d v1 v3 v4 v26 M
    else
      bndI (w_m_lesser d v4 v3 M) fun y28 M27 =>
      bndI (w_m_greater d 0 y28 M27) fun y30 M29 =>
      some ([aI y30], M29)) :=
  (aOm_fix _ _ _ _ _ _).trans rfl
set_option maxRecDepth 20000 in
theorem u_m_comeOf (d : Nat) (v1 : Int) (M : aM) : w_m_comeOf (d + 1) v1 M = (
    inb (w32 (21 + v1)) (aLen 158) <|
    bndI (w_m_says d 20 v1 (w32 ((M 158 (w32 (21 + v1)).toNat) + 1)) 999 M) fun y14 M13 =>
    some ([aI y14], M13)) :=
  (aOm_fix (aSem d) K_m_comeOf 0 _ [] M).trans rfl
set_option maxRecDepth 20000 in
theorem u_m_longOf (d : Nat) (v1 : Int) (M : aM) : w_m_longOf (d + 1) v1 M = (
    inb (w32 (11 + v1)) (aLen 158) <|
    bndI (w_m_says d 21 v1 (w32 (6 + (M 158 (w32 (11 + v1)).toNat))) 24 M) fun y14 M13 =>
    some ([aI y14], M13)) :=
  (aOm_fix (aSem d) K_m_longOf 0 _ [] M).trans rfl
set_option maxRecDepth 20000 in
theorem u_m_shyOf (d : Nat) (v1 : Int) (M : aM) : w_m_shyOf (d + 1) v1 M = (
    inb 5 (aLen 158) <|
    bndI (w_m_says d 22 v1 (idiv (M 158 5) 9) 9 M) fun y14 M13 =>
    some ([aI y14], M13)) :=
  (aOm_fix (aSem d) K_m_shyOf 0 _ [] M).trans rfl
set_option maxRecDepth 20000 in
theorem u_m_sumOfCome (d : Nat)  (M : aM) : w_m_sumOfCome (d + 1)  M = (
    w_m_sumOfCome_4 d 0 0 M) :=
  (aOm_fix (aSem d) K_m_sumOfCome 0 _ [] M).trans rfl
set_option maxRecDepth 20000 in
theorem u_m_sumOfCome_4 (d : Nat) (v1 : Int) (v2 : Int) (M : aM) : w_m_sumOfCome_4 d v1 v2 M = (
    inb 41 (aLen 158) <|
    if v2 < (M 158 41) then
      bndI (w_m_isAlive d v2 M) fun y15 M14 =>
      if y15 = 0 then
        let v16 : Int := (w32 (v1 + 0))
        let v17 : Int := w32 (v2 + 1)
        w_m_sumOfCome_4 d v16 v17 M14
      else
        bndI (w_m_comeOf d v2 M14) fun y19 M18 =>
        let v20 : Int := (w32 (v1 + y19))
        let v21 : Int := w32 (v2 + 1)
        w_m_sumOfCome_4 d v20 v21 M18
    else
      some ([aI v1], M)) :=
  (aOm_fix _ _ _ _ _ _).trans rfl
set_option maxRecDepth 20000 in
theorem u_m_likeliestOne (d : Nat)  (M : aM) : w_m_likeliestOne (d + 1)  M = (
    w_m_likeliestOne_4 d (-1) 0 M) :=
  (aOm_fix (aSem d) K_m_likeliestOne 0 _ [] M).trans rfl
set_option maxRecDepth 20000 in
theorem u_m_likeliestOne_4 (d : Nat) (v1 : Int) (v2 : Int) (M : aM) : w_m_likeliestOne_4 d v1 v2 M = (
    inb 41 (aLen 158) <|
    if v2 < (M 158 41) then
      bndI (w_m_isAlive d v2 M) fun y15 M14 =>
      if y15 = 0 then
        let v16 : Int := w32 (v2 + 1)
        w_m_likeliestOne_4 d v1 v16 M14
      else
        if v1 = (-1) then
          let v17 : Int := w32 (v2 + 1)
          w_m_likeliestOne_4 d v2 v17 M14
        else
          bndI (w_m_comeOf d v2 M14) fun y19 M18 =>
          bndI (w_m_comeOf d v1 M18) fun y21 M20 =>
          if y21 < y19 then
            let v22 : Int := w32 (v2 + 1)
            w_m_likeliestOne_4 d v2 v22 M20
          else
            let v23 : Int := w32 (v2 + 1)
            w_m_likeliestOne_4 d v1 v23 M20
    else
      some ([aI v1], M)) :=
  (aOm_fix _ _ _ _ _ _).trans rfl
set_option maxRecDepth 20000 in
theorem u_m_keeps (d : Nat)  (M : aM) : w_m_keeps (d + 1)  M = (
    if (M 157 4) = 6 then
      w_m_keeps_11 d 0 M
    else
      w_m_keeps_51 d 0 M) :=
  (aOm_fix (aSem d) K_m_keeps 0 _ [] M).trans rfl
set_option maxRecDepth 20000 in
theorem u_m_keeps_11 (d : Nat) (v1 : Int) (M : aM) : w_m_keeps_11 d v1 M = (
    if v1 < 205 then
      inb (w32 (v1 + 41)) (aLen 160) <|
      inb v1 (aLen 160) <|
      let M13 : aM := aUp M 160 v1.toNat (M 160 (w32 (v1 + 41)).toNat)
      let v14 : Int := w32 (v1 + 1)
      w_m_keeps_11 d v14 M13
    else
      let M15 : aM := aUp M 157 4 (w32 ((M 157 4) - 1))
      w_m_keeps_51 d 0 M15) :=
  (aOm_fix _ _ _ _ _ _).trans rfl
set_option maxRecDepth 20000 in
theorem u_m_keeps_51 (d : Nat) (v1 : Int) (M : aM) : w_m_keeps_51 d v1 M = (
    if v1 < 41 then
      inb v1 (aLen 158) <|
      inb (w32 ((w32 (41 * (M 157 4))) + v1)) (aLen 160) <|
      let M13 : aM := aUp M 160 (w32 ((w32 (41 * (M 157 4))) + v1)).toNat (M 158 v1.toNat)
      let v14 : Int := w32 (v1 + 1)
      w_m_keeps_51 d v14 M13
    else
      let M15 : aM := aUp M 157 4 (w32 ((M 157 4) + 1))
      let M16 : aM := aUp M15 157 26 1
      some ([], M16)) :=
  (aOm_fix _ _ _ _ _ _).trans rfl
set_option maxRecDepth 20000 in
theorem u_m_undo (d : Nat)  (M : aM) : w_m_undo (d + 1)  M = (
    if (M 157 4) = 0 then
      some ([aI 0], M)
    else
      let M12 : aM := aUp M 157 4 (w32 ((M 157 4) - 1))
      w_m_undo_21 d 0 M12) :=
  (aOm_fix (aSem d) K_m_undo 0 _ [] M).trans rfl
set_option maxRecDepth 20000 in
theorem u_m_undo_21 (d : Nat) (v1 : Int) (M : aM) : w_m_undo_21 d v1 M = (
    if v1 < 41 then
      inb (w32 ((w32 (41 * (M 157 4))) + v1)) (aLen 160) <|
      inb v1 (aLen 158) <|
      let M13 : aM := aUp M 158 v1.toNat (M 160 (w32 ((w32 (41 * (M 157 4))) + v1)).toNat)
      let v14 : Int := w32 (v1 + 1)
      w_m_undo_21 d v14 M13
    else
      some ([aI 1], M)) :=
  (aOm_fix _ _ _ _ _ _).trans rfl
set_option maxRecDepth 20000 in
theorem u_m_notes (d : Nat) (v1 : Int) (v2 : Int) (v3 : Int) (M : aM) : w_m_notes (d + 1) v1 v2 v3 M = (
    if (M 157 26) = 0 then
      some ([], M)
    else
      inb 8 (aLen 158) <|
      if (M 158 8) = 150 then
        some ([], M)
      else
        inb 8 (aLen 158) <|
        let v15 : Int := (w32 (284 + (w32 (4 * (M 158 8)))))
        inb 0 (aLen 158) <|
        inb v15 (aLen 158) <|
        let M16 : aM := aUp M 158 v15.toNat (M 158 0)
        inb (w32 (v15 + 1)) (aLen 158) <|
        let M17 : aM := aUp M16 158 (w32 (v15 + 1)).toNat v1
        inb (w32 (v15 + 2)) (aLen 158) <|
        let M18 : aM := aUp M17 158 (w32 (v15 + 2)).toNat v2
        inb (w32 (v15 + 3)) (aLen 158) <|
        let M19 : aM := aUp M18 158 (w32 (v15 + 3)).toNat v3
        inb 8 (aLen 158) <|
        inb 8 (aLen 158) <|
        let M20 : aM := aUp M19 158 8 (w32 ((M19 158 8) + 1))
        some ([], M20)) :=
  (aOm_fix (aSem d) K_m_notes 0 _ [] M).trans rfl
set_option maxRecDepth 20000 in
theorem u_m_eats (d : Nat) (v1 : Int) (v2 : Int) (M : aM) : w_m_eats (d + 1) v1 v2 M = (
    if v2 = 0 then
      inb 10 (aLen 158) <|
      inb 10 (aLen 158) <|
      let M14 : aM := aUp M 158 10 (ior (M 158 10) (ishl 1 v1))
      if v2 = 0 then
        bndV (w_m_notes d 5 v1 0 M14) fun M15 =>
        some ([], M15)
      else
        bndV (w_m_notes d 3 v1 0 M14) fun M16 =>
        some ([], M16)
    else
      inb 10 (aLen 158) <|
      inb 10 (aLen 158) <|
      let M17 : aM := aUp M 158 10 (iand (M 158 10) (ixor (ishl 1 v1) (-1)))
      if v2 = 0 then
        bndV (w_m_notes d 5 v1 0 M17) fun M18 =>
        some ([], M18)
      else
        bndV (w_m_notes d 3 v1 0 M17) fun M19 =>
        some ([], M19)) :=
  (aOm_fix (aSem d) K_m_eats 0 _ [] M).trans rfl
set_option maxRecDepth 20000 in
theorem u_m_eat (d : Nat) (v1 : Int) (v2 : Int) (M : aM) : w_m_eat (d + 1) v1 v2 M = (
    bndI (w_m_isDeer d v1 M) fun y15 M14 =>
    if y15 = 0 then
      some ([aI 0], M14)
    else
      bndI (w_m_isAlive d v1 M14) fun y17 M16 =>
      if y17 = v2 then
        bndV (w_m_keeps d M16) fun M18 =>
        bndV (w_m_eats d v1 v2 M18) fun M19 =>
        some ([aI 1], M19)
      else
        some ([aI 0], M16)) :=
  (aOm_fix (aSem d) K_m_eat 0 _ [] M).trans rfl
set_option maxRecDepth 20000 in
theorem u_m_does (d : Nat) (v1 : Int) (M : aM) : w_m_does (d + 1) v1 M = (
    inb (w32 (v1 + 2)) (aLen 158) <|
    let v13 : Int := (M 158 (w32 (v1 + 2)).toNat)
    inb (w32 (v1 + 1)) (aLen 158) <|
    if (M 158 (w32 (v1 + 1)).toNat) = 8 then
      inb 4 (aLen 158) <|
      let M14 : aM := aUp M 158 4 v13
      some ([], M14)
    else
    if (M 158 (w32 (v1 + 1)).toNat) = 9 then
      inb 5 (aLen 158) <|
      let M15 : aM := aUp M 158 5 v13
      some ([], M15)
    else
    if (M 158 (w32 (v1 + 1)).toNat) = 10 then
      inb 6 (aLen 158) <|
      inb 6 (aLen 158) <|
      let M16 : aM := aUp M 158 6 (w32 (1 - (M 158 6)))
      some ([], M16)
    else
      bndI (w_m_isAlive d v13 M) fun y18 M17 =>
      inb (w32 (v1 + 1)) (aLen 158) <|
      if (M17 158 (w32 (v1 + 1)).toNat) = 11 then
        if y18 = 1 then
          inb (w32 (v1 + 1)) (aLen 158) <|
          if (M17 158 (w32 (v1 + 1)).toNat) = 11 then
            bndV (w_m_eats d v13 1 M17) fun M19 =>
            some ([], M19)
          else
            bndV (w_m_eats d v13 0 M17) fun M20 =>
            some ([], M20)
        else
          some ([], M17)
      else
        if y18 = 0 then
          inb (w32 (v1 + 1)) (aLen 158) <|
          if (M17 158 (w32 (v1 + 1)).toNat) = 11 then
            bndV (w_m_eats d v13 1 M17) fun M21 =>
            some ([], M21)
          else
            bndV (w_m_eats d v13 0 M17) fun M22 =>
            some ([], M22)
        else
          some ([], M17)) :=
  (aOm_fix (aSem d) K_m_does 0 _ [] M).trans rfl
set_option maxRecDepth 20000 in
theorem u_m_byDraw (d : Nat) (v1 : Int) (M : aM) : w_m_byDraw (d + 1) v1 M = (
    w_m_byDraw_4 d v1 0 0 M) :=
  (aOm_fix (aSem d) K_m_byDraw 0 _ [] M).trans rfl
set_option maxRecDepth 20000 in
theorem u_m_byDraw_4 (d : Nat) (v1 : Int) (v2 : Int) (v3 : Int) (M : aM) : w_m_byDraw_4 d v1 v2 v3 M = (
    inb 41 (aLen 158) <|
    if v3 < (M 158 41) then
      bndI (w_m_isAlive d v3 M) fun y16 M15 =>
      if y16 = 0 then
        let v17 : Int := (w32 (v2 + 0))
        if v1 < v17 then
          some ([aI v3], M15)
        else
          let v18 : Int := w32 (v3 + 1)
          w_m_byDraw_4 d v1 v17 v18 M15
      else
        bndI (w_m_comeOf d v3 M15) fun y20 M19 =>
        let v21 : Int := (w32 (v2 + y20))
        if v1 < v21 then
          some ([aI v3], M19)
        else
          let v22 : Int := w32 (v3 + 1)
          w_m_byDraw_4 d v1 v21 v22 M19
    else
      some ([aI (-1)], M)) :=
  (aOm_fix _ _ _ _ _ _).trans rfl
set_option maxRecDepth 20000 in
theorem u_m_dawns (d : Nat)  (M : aM) : w_m_dawns (d + 1)  M = (
    if (M 157 26) = 0 then
      w_m_dawns_36 d M
    else
      inb 43 (aLen 158) <|
      if 0 < (M 158 43) then
        bndI (w_m_draw d 1000 M) fun y13 M12 =>
        inb 43 (aLen 158) <|
        if y13 < (M12 158 43) then
          some ([aI (-1)], M12)
        else
          w_m_dawns_36 d M12
      else
        w_m_dawns_36 d M) :=
  (aOm_fix (aSem d) K_m_dawns 0 _ [] M).trans rfl
set_option maxRecDepth 20000 in
theorem u_m_dawns_36 (d : Nat)  (M : aM) : w_m_dawns_36 d  M = (
    bndI (w_m_sumOfCome d M) fun y14 M13 =>
    if y14 = 0 then
      some ([aI (-1)], M13)
    else
      if (M13 157 26) = 0 then
        bndI (w_m_likeliestOne d M13) fun y16 M15 =>
        some ([aI y16], M15)
      else
        bndI (w_m_draw d y14 M13) fun y18 M17 =>
        bndI (w_m_byDraw d y18 M17) fun y20 M19 =>
        some ([aI y20], M19)) :=
  (aOm_fix _ _ _ _ _ _).trans rfl
set_option maxRecDepth 20000 in
theorem u_m_comes (d : Nat) (v1 : Int) (M : aM) : w_m_comes (d + 1) v1 M = (
    if v1 = (-1) then
      if v1 = (-1) then
        inb 1 (aLen 158) <|
        let M13 : aM := aUp M 158 1 v1
        inb 3 (aLen 158) <|
        inb 3 (aLen 158) <|
        let M14 : aM := aUp M13 158 3 (w32 ((M13 158 3) + 5))
        if v1 = (-1) then
          bndV (w_m_notes d 1 v1 5 M14) fun M15 =>
          w_m_comes_66 d v1 0 0 M15
        else
          bndV (w_m_notes d 0 v1 5 M14) fun M16 =>
          w_m_comes_66 d v1 0 0 M16
      else
        bndI (w_m_shyOf d v1 M) fun y18 M17 =>
        inb 1 (aLen 158) <|
        let M19 : aM := aUp M17 158 1 v1
        inb 3 (aLen 158) <|
        inb 3 (aLen 158) <|
        let M20 : aM := aUp M19 158 3 (w32 ((M19 158 3) + 5))
        if v1 = (-1) then
          bndV (w_m_notes d 1 v1 5 M20) fun M21 =>
          w_m_comes_66 d v1 y18 0 M21
        else
          bndV (w_m_notes d 0 v1 5 M20) fun M22 =>
          w_m_comes_66 d v1 y18 0 M22
    else
      bndI (w_m_longOf d v1 M) fun y24 M23 =>
      if v1 = (-1) then
        inb 1 (aLen 158) <|
        let M25 : aM := aUp M23 158 1 v1
        inb 3 (aLen 158) <|
        inb 3 (aLen 158) <|
        let M26 : aM := aUp M25 158 3 (w32 ((M25 158 3) + y24))
        if v1 = (-1) then
          bndV (w_m_notes d 1 v1 y24 M26) fun M27 =>
          w_m_comes_66 d v1 0 0 M27
        else
          bndV (w_m_notes d 0 v1 y24 M26) fun M28 =>
          w_m_comes_66 d v1 0 0 M28
      else
        bndI (w_m_shyOf d v1 M23) fun y30 M29 =>
        inb 1 (aLen 158) <|
        let M31 : aM := aUp M29 158 1 v1
        inb 3 (aLen 158) <|
        inb 3 (aLen 158) <|
        let M32 : aM := aUp M31 158 3 (w32 ((M31 158 3) + y24))
        if v1 = (-1) then
          bndV (w_m_notes d 1 v1 y24 M32) fun M33 =>
          w_m_comes_66 d v1 y30 0 M33
        else
          bndV (w_m_notes d 0 v1 y24 M32) fun M34 =>
          w_m_comes_66 d v1 y30 0 M34) :=
  (aOm_fix (aSem d) K_m_comes 0 _ [] M).trans rfl
set_option maxRecDepth 20000 in
theorem u_m_comes_66 (d : Nat) (v1 : Int) (v3 : Int) (v4 : Int) (M : aM) : w_m_comes_66 d v1 v3 v4 M = (
    inb 41 (aLen 158) <|
    if v4 < (M 158 41) then
      if v4 = v1 then
        let v16 : Int := w32 (v4 + 1)
        w_m_comes_66 d v1 v3 v16 M
      else
        bndI (w_m_isAlive d v4 M) fun y18 M17 =>
        if y18 = 0 then
          let v19 : Int := w32 (v4 + 1)
          w_m_comes_66 d v1 v3 v19 M17
        else
          inb (w32 (21 + v4)) (aLen 158) <|
          bndI (w_m_lesser d 999 (w32 ((M17 158 (w32 (21 + v4)).toNat) + 1)) M17) fun y21 M20 =>
          inb (w32 (21 + v4)) (aLen 158) <|
          let M22 : aM := aUp M20 158 (w32 (21 + v4)).toNat y21
          let v23 : Int := w32 (v4 + 1)
          w_m_comes_66 d v1 v3 v23 M22
    else
      if v1 = (-1) then
        some ([], M)
      else
        inb (w32 (21 + v1)) (aLen 158) <|
        let M24 : aM := aUp M 158 (w32 (21 + v1)).toNat 0
        inb (w32 (31 + v1)) (aLen 158) <|
        inb (w32 (31 + v1)) (aLen 158) <|
        let M25 : aM := aUp M24 158 (w32 (31 + v1)).toNat (w32 ((M24 158 (w32 (31 + v1)).toNat) + 1))
        inb (w32 (11 + v1)) (aLen 158) <|
        bndI (w_m_greater d 0 (w32 ((M25 158 (w32 (11 + v1)).toNat) - v3)) M25) fun y27 M26 =>
        inb (w32 (11 + v1)) (aLen 158) <|
        let M28 : aM := aUp M26 158 (w32 (11 + v1)).toNat y27
        some ([], M28)) :=
  (aOm_fix _ _ _ _ _ _).trans rfl
set_option maxRecDepth 20000 in
theorem u_m_pays (d : Nat)  (M : aM) : w_m_pays (d + 1)  M = (
    w_m_pays_2 d 0 M) :=
  (aOm_fix (aSem d) K_m_pays 0 _ [] M).trans rfl
set_option maxRecDepth 20000 in
theorem u_m_pays_2 (d : Nat) (v1 : Int) (M : aM) : w_m_pays_2 d v1 M = (
    inb 46 (aLen 158) <|
    if v1 < (M 158 46) then
      let v14 : Int := (w32 (111 + (w32 (3 * v1))))
      inb 9 (aLen 158) <|
      if (iand (ishr (M 158 9) v1) 1) = 1 then
        let v15 : Int := w32 (v1 + 1)
        w_m_pays_2 d v15 M
      else
        inb 1 (aLen 158) <|
        if (M 158 1) = (-1) then
          let v16 : Int := w32 (v1 + 1)
          w_m_pays_2 d v16 M
        else
          inb (w32 (v14 + 1)) (aLen 158) <|
          inb 1 (aLen 158) <|
          if (M 158 (w32 (v14 + 1)).toNat) = (M 158 1) then
            inb 0 (aLen 158) <|
            inb (w32 (v14 + 2)) (aLen 158) <|
            if (M 158 (w32 (v14 + 2)).toNat) < (M 158 0) then
              inb 9 (aLen 158) <|
              inb 9 (aLen 158) <|
              let M17 : aM := aUp M 158 9 (ior (M 158 9) (ishl 1 v1))
              inb 2 (aLen 158) <|
              inb v14 (aLen 158) <|
              inb 2 (aLen 158) <|
              let M18 : aM := aUp M17 158 2 (w32 ((M17 158 2) - (M17 158 v14.toNat)))
              inb v14 (aLen 158) <|
              bndV (w_m_notes d 2 v1 (M18 158 v14.toNat) M18) fun M19 =>
              let v20 : Int := w32 (v1 + 1)
              w_m_pays_2 d v20 M19
            else
              let v21 : Int := w32 (v1 + 1)
              w_m_pays_2 d v21 M
          else
            let v22 : Int := w32 (v1 + 1)
            w_m_pays_2 d v22 M
    else
      some ([], M)) :=
  (aOm_fix _ _ _ _ _ _).trans rfl
set_option maxRecDepth 20000 in
theorem u_m_wolves (d : Nat)  (M : aM) : w_m_wolves (d + 1)  M = (
    inb 42 (aLen 158) <|
    if (M 158 42) = 0 then
      some ([], M)
    else
      inb 10 (aLen 158) <|
      if (M 158 10) = 0 then
        some ([], M)
      else
        bndI (w_m_draw d 1000 M) fun y13 M12 =>
        inb 42 (aLen 158) <|
        if y13 < (M12 158 42) then
          w_m_wolves_42 d (-1) 0 M12
        else
          some ([], M12)) :=
  (aOm_fix (aSem d) K_m_wolves 0 _ [] M).trans rfl
set_option maxRecDepth 20000 in
theorem u_m_wolves_42 (d : Nat) (v1 : Int) (v2 : Int) (M : aM) : w_m_wolves_42 d v1 v2 M = (
    inb 41 (aLen 158) <|
    if v2 < (M 158 41) then
      bndI (w_m_isAlive d v2 M) fun y15 M14 =>
      if y15 = 0 then
        let v16 : Int := w32 (v2 + 1)
        w_m_wolves_42 d v1 v16 M14
      else
        if v1 = (-1) then
          let v17 : Int := w32 (v2 + 1)
          w_m_wolves_42 d v2 v17 M14
        else
          inb (w32 (11 + v2)) (aLen 158) <|
          inb (w32 (11 + v1)) (aLen 158) <|
          if (M14 158 (w32 (11 + v2)).toNat) < (M14 158 (w32 (11 + v1)).toNat) then
            let v18 : Int := w32 (v2 + 1)
            w_m_wolves_42 d v2 v18 M14
          else
            let v19 : Int := w32 (v2 + 1)
            w_m_wolves_42 d v1 v19 M14
    else
      inb 10 (aLen 158) <|
      inb 10 (aLen 158) <|
      let M20 : aM := aUp M 158 10 (iand (M 158 10) (ixor (ishl 1 v1) (-1)))
      bndV (w_m_notes d 4 v1 0 M20) fun M21 =>
      some ([], M21)) :=
  (aOm_fix _ _ _ _ _ _).trans rfl
set_option maxRecDepth 20000 in
theorem u_m_aDay (d : Nat)  (M : aM) : w_m_aDay (d + 1)  M = (
    w_m_aDay_2 d 0 M) :=
  (aOm_fix (aSem d) K_m_aDay 0 _ [] M).trans rfl
set_option maxRecDepth 20000 in
theorem u_m_aDay_2 (d : Nat) (v1 : Int) (M : aM) : w_m_aDay_2 d v1 M = (
    inb 45 (aLen 158) <|
    if v1 < (M 158 45) then
      inb (w32 (63 + (w32 (3 * v1)))) (aLen 158) <|
      inb 0 (aLen 158) <|
      if (M 158 (w32 (63 + (w32 (3 * v1)))).toNat) = (M 158 0) then
        bndV (w_m_does d (w32 (63 + (w32 (3 * v1)))) M) fun M13 =>
        let v14 : Int := w32 (v1 + 1)
        w_m_aDay_2 d v14 M13
      else
        let v15 : Int := w32 (v1 + 1)
        w_m_aDay_2 d v15 M
    else
      bndI (w_m_dawns d M) fun y17 M16 =>
      bndV (w_m_comes d y17 M16) fun M18 =>
      bndV (w_m_pays d M18) fun M19 =>
      if (M19 157 26) = 0 then
        w_m_aDay_72 d M19
      else
        bndV (w_m_wolves d M19) fun M20 =>
        w_m_aDay_72 d M20) :=
  (aOm_fix _ _ _ _ _ _).trans rfl
set_option maxRecDepth 20000 in
theorem u_m_aDay_72 (d : Nat)  (M : aM) : w_m_aDay_72 d  M = (
    inb 4 (aLen 158) <|
    bndI (w_m_greater d 0 (w32 ((M 158 4) - 1)) M) fun y14 M13 =>
    inb 4 (aLen 158) <|
    let M15 : aM := aUp M13 158 4 y14
    inb 5 (aLen 158) <|
    bndI (w_m_greater d 0 (w32 ((M15 158 5) - 1)) M15) fun y17 M16 =>
    inb 5 (aLen 158) <|
    let M18 : aM := aUp M16 158 5 y17
    inb 0 (aLen 158) <|
    inb 0 (aLen 158) <|
    let M19 : aM := aUp M18 158 0 (w32 ((M18 158 0) + 1))
    inb 1 (aLen 158) <|
    if (M19 158 1) = (-1) then
      some ([aI 1], M19)
    else
      some ([aI 0], M19)) :=
  (aOm_fix _ _ _ _ _ _).trans rfl
set_option maxRecDepth 20000 in
theorem u_m_days (d : Nat) (v1 : Int) (M : aM) : w_m_days (d + 1) v1 M = (
    bndI (w_m_isIn d v1 1 60 M) fun y14 M13 =>
    if y14 = 0 then
      some ([aI (-1)], M13)
    else
      inb 0 (aLen 158) <|
      if 9999 < (w32 ((M13 158 0) + v1)) then
        some ([aI (-1)], M13)
      else
        w_m_days_30 d v1 0 0 M13) :=
  (aOm_fix (aSem d) K_m_days 0 _ [] M).trans rfl
set_option maxRecDepth 20000 in
theorem u_m_days_30 (d : Nat) (v1 : Int) (v2 : Int) (v3 : Int) (M : aM) : w_m_days_30 d v1 v2 v3 M = (
    if v3 < v1 then
      bndV (w_m_keeps d M) fun M15 =>
      bndI (w_m_aDay d M15) fun y17 M16 =>
      if y17 = 0 then
        let v18 : Int := (w32 (v2 + 0))
        let v19 : Int := w32 (v3 + 1)
        w_m_days_30 d v1 v18 v19 M16
      else
        let v20 : Int := (w32 (v2 + 1))
        let v21 : Int := w32 (v3 + 1)
        w_m_days_30 d v1 v20 v21 M16
    else
      some ([aI v2], M)) :=
  (aOm_fix _ _ _ _ _ _).trans rfl
set_option maxRecDepth 20000 in
theorem u_m_waitFor (d : Nat) (v1 : Int) (M : aM) : w_m_waitFor (d + 1) v1 M = (
    bndI (w_m_isDeer d v1 M) fun y14 M13 =>
    if y14 = 0 then
      some ([aI (-2)], M13)
    else
      inb 0 (aLen 158) <|
      if 9999 < (w32 ((M13 158 0) + 30)) then
        some ([aI (-2)], M13)
      else
        w_m_waitFor_28 d v1 1 M13) :=
  (aOm_fix (aSem d) K_m_waitFor 0 _ [] M).trans rfl
set_option maxRecDepth 20000 in
theorem u_m_waitFor_28 (d : Nat) (v1 : Int) (v2 : Int) (M : aM) : w_m_waitFor_28 d v1 v2 M = (
    if 30 < v2 then
      some ([aI (-1)], M)
    else
      bndV (w_m_keeps d M) fun M14 =>
      bndI (w_m_aDay d M14) fun y16 M15 =>
      inb 1 (aLen 158) <|
      if (M15 158 1) = v1 then
        some ([aI v2], M15)
      else
        let v17 : Int := w32 (v2 + 1)
        w_m_waitFor_28 d v1 v17 M15) :=
  (aOm_fix _ _ _ _ _ _).trans rfl
set_option maxRecDepth 20000 in
theorem u_m_of (d : Nat) (v1 : Int) (v2 : Int) (M : aM) : w_m_of (d + 1) v1 v2 M = (
    bndI (w_m_isDeer d v1 M) fun y15 M14 =>
    if y15 = 0 then
      some ([aI (-1)], M14)
    else
      if v2 = 0 then
        inb (w32 (53 + v1)) (aLen 158) <|
        some ([aI (M14 158 (w32 (53 + v1)).toNat)], M14)
      else
      if v2 = 1 then
        inb (w32 (11 + v1)) (aLen 158) <|
        some ([aI (M14 158 (w32 (11 + v1)).toNat)], M14)
      else
      if v2 = 2 then
        bndI (w_m_isAlive d v1 M14) fun y17 M16 =>
        if y17 = 0 then
          some ([aI 0], M16)
        else
          some ([aI 1], M16)
      else
      if v2 = 3 then
        inb (w32 (21 + v1)) (aLen 158) <|
        some ([aI (M14 158 (w32 (21 + v1)).toNat)], M14)
      else
      if v2 = 4 then
        inb (w32 (31 + v1)) (aLen 158) <|
        some ([aI (M14 158 (w32 (31 + v1)).toNat)], M14)
      else
      if v2 = 5 then
        bndI (w_m_comeOf d v1 M14) fun y19 M18 =>
        some ([aI y19], M18)
      else
      if v2 = 6 then
        bndI (w_m_longOf d v1 M14) fun y21 M20 =>
        some ([aI y21], M20)
      else
      if v2 = 7 then
        bndI (w_m_shyOf d v1 M14) fun y23 M22 =>
        some ([aI y23], M22)
      else
        some ([aI (-1)], M14)) :=
  (aOm_fix (aSem d) K_m_of 0 _ [] M).trans rfl
set_option maxRecDepth 20000 in
theorem u_m_due (d : Nat) (v1 : Int) (v2 : Int) (M : aM) : w_m_due (d + 1) v1 v2 M = (
    inb 46 (aLen 158) <|
    bndI (w_m_isIn d v1 0 (w32 ((M 158 46) - 1)) M) fun y15 M14 =>
    if y15 = 0 then
      some ([aI (-2)], M14)
    else
      bndI (w_m_isIn d v2 0 3 M14) fun y17 M16 =>
      if y17 = 0 then
        some ([aI (-2)], M16)
      else
        if v2 < 3 then
          inb (w32 ((w32 (111 + (w32 (3 * v1)))) + v2)) (aLen 158) <|
          some ([aI (M16 158 (w32 ((w32 (111 + (w32 (3 * v1)))) + v2)).toNat)], M16)
        else
          inb 9 (aLen 158) <|
          some ([aI (iand (ishr (M16 158 9) v1) 1)], M16)) :=
  (aOm_fix (aSem d) K_m_due 0 _ [] M).trans rfl
set_option maxRecDepth 20000 in
theorem u_m_book (d : Nat) (v1 : Int) (v2 : Int) (M : aM) : w_m_book (d + 1) v1 v2 M = (
    inb 8 (aLen 158) <|
    bndI (w_m_isIn d v1 0 (w32 ((M 158 8) - 1)) M) fun y15 M14 =>
    if y15 = 0 then
      some ([aI (-2)], M14)
    else
      bndI (w_m_isIn d v2 0 3 M14) fun y17 M16 =>
      if y17 = 0 then
        some ([aI (-2)], M16)
      else
        inb (w32 ((w32 (284 + (w32 (4 * v1)))) + v2)) (aLen 158) <|
        some ([aI (M16 158 (w32 ((w32 (284 + (w32 (4 * v1)))) + v2)).toNat)], M16)) :=
  (aOm_fix (aSem d) K_m_book 0 _ [] M).trans rfl
set_option maxRecDepth 20000 in
theorem u_m_nextOf (d : Nat) (v1 : Int) (M : aM) : w_m_nextOf (d + 1) v1 M = (
    bndI (w_m_sumOfCome d M) fun y14 M13 =>
    bndI (w_m_isAlive d v1 M13) fun y16 M15 =>
    if y16 = 0 then
      some ([aJ 0], M15)
    else
      if y14 = 0 then
        some ([aJ 0], M15)
      else
        bndI (w_m_comeOf d v1 M15) fun y18 M17 =>
        if y14 = 0 then none else
        inb 43 (aLen 158) <|
        some ([aJ (ldiv (w64 ((ldiv (w64 (1000000 * y18)) y14) * (w32 (1000 - (M17 158 43))))) 1000)], M17)) :=
  (aOm_fix (aSem d) K_m_nextOf 0 _ [] M).trans rfl
set_option maxRecDepth 20000 in
theorem u_m_next (d : Nat) (v1 : Int) (v2 : Int) (M : aM) : w_m_next (d + 1) v1 v2 M = (
    bndI (w_m_isDeer d v1 M) fun y15 M14 =>
    if y15 = 0 then
      some ([aI (-1)], M14)
    else
      bndI (w_m_isIn d v2 0 60 M14) fun y17 M16 =>
      if y17 = 0 then
        some ([aI (-1)], M16)
      else
        bndJ (w_m_nextOf d v1 M16) fun y19 M18 =>
        if v2 = 0 then
          some ([aI (w32 y19)], M18)
        else
          w_m_next_41 d v2 y19 1000000 0 M18) :=
  (aOm_fix (aSem d) K_m_next 0 _ [] M).trans rfl
set_option maxRecDepth 20000 in
theorem u_m_next_41 (d : Nat) (v2 : Int) (v3 : Int) (v5 : Int) (v7 : Int) (M : aM) : w_m_next_41 d v2 v3 v5 v7 M = (
    if v7 < v2 then
      let v19 : Int := (w64 (v5 - (ldiv (w64 (v5 * v3)) 1000000)))
      let v20 : Int := w32 (v7 + 1)
      w_m_next_41 d v2 v3 v19 v20 M
    else
      some ([aI (w32 (w64 (1000000 - v5)))], M)) :=
  (aOm_fix _ _ _ _ _ _).trans rfl
set_option maxRecDepth 20000 in
theorem u_m_likeliest (d : Nat)  (M : aM) : w_m_likeliest (d + 1)  M = (
    bndI (w_m_likeliestOne d M) fun y13 M12 =>
    some ([aI y13], M12)) :=
  (aOm_fix (aSem d) K_m_likeliest 0 _ [] M).trans rfl
set_option maxRecDepth 20000 in
theorem u_m_goes (d : Nat) (v1 : Int) (v2 : Int) (M : aM) : w_m_goes (d + 1) v1 v2 M = (
    bndI (w_m_isIn d v1 1 99 M) fun y15 M14 =>
    if y15 = 0 then
      some ([aI (-100000)], M14)
    else
      bndI (w_m_isIn d v2 0 3 M14) fun y17 M16 =>
      if y17 = 0 then
        some ([aI (-100000)], M16)
      else
        w_m_goes_25 d v1 v2 0 M16) :=
  (aOm_fix (aSem d) K_m_goes 0 _ [] M).trans rfl
set_option maxRecDepth 20000 in
theorem u_m_goes_25 (d : Nat) (v1 : Int) (v2 : Int) (v3 : Int) (M : aM) : w_m_goes_25 d v1 v2 v3 M = (
    if v3 < 41 then
      inb v3 (aLen 158) <|
      inb v3 (aLen 161) <|
      let M16 : aM := aUp M 161 v3.toNat (M 158 v3.toNat)
      let v17 : Int := w32 (v3 + 1)
      w_m_goes_25 d v1 v2 v17 M16
    else
      let M18 : aM := aUp M 157 26 0
      w_m_goes_56 d v1 v2 0 M18) :=
  (aOm_fix _ _ _ _ _ _).trans rfl
set_option maxRecDepth 20000 in
theorem u_m_goes_56 (d : Nat) (v1 : Int) (v2 : Int) (v3 : Int) (M : aM) : w_m_goes_56 d v1 v2 v3 M = (
    if v3 < v1 then
      bndI (w_m_aDay d M) fun y17 M16 =>
      let v18 : Int := w32 (v3 + 1)
      w_m_goes_56 d v1 v2 v18 M16
    else
      if v2 = 0 then
        inb 2 (aLen 158) <|
        let v19 : Int := (M 158 2)
        w_m_goes_127 d v19 0 M
      else
        if v2 = 1 then
          inb 3 (aLen 158) <|
          let v20 : Int := (M 158 3)
          w_m_goes_127 d v20 0 M
        else
          if v2 = 2 then
            inb 9 (aLen 158) <|
            bndI (w_m_count d (M 158 9) M) fun y22 M21 =>
            w_m_goes_127 d y22 0 M21
          else
            inb 1 (aLen 158) <|
            let v23 : Int := (M 158 1)
            w_m_goes_127 d v23 0 M) :=
  (aOm_fix _ _ _ _ _ _).trans rfl
set_option maxRecDepth 20000 in
theorem u_m_goes_127 (d : Nat) (v3 : Int) (v4 : Int) (M : aM) : w_m_goes_127 d v3 v4 M = (
    if v4 < 41 then
      inb v4 (aLen 161) <|
      inb v4 (aLen 158) <|
      let M16 : aM := aUp M 158 v4.toNat (M 161 v4.toNat)
      let v17 : Int := w32 (v4 + 1)
      w_m_goes_127 d v3 v17 M16
    else
      some ([aI v3], M)) :=
  (aOm_fix _ _ _ _ _ _).trans rfl
set_option maxRecDepth 20000 in
theorem u_m_reads (d : Nat) (v1 : Int) (M : aM) : w_m_reads (d + 1) v1 M = (
    inb 46 (aLen 158) <|
    bndI (w_m_isIn d v1 0 (w32 ((M 158 46) - 1)) M) fun y14 M13 =>
    if y14 = 0 then
      some ([aI (-1)], M13)
    else
      inb (w32 ((w32 (111 + (w32 (3 * v1)))) + 1)) (aLen 158) <|
      let v15 : Int := (M13 158 (w32 ((w32 (111 + (w32 (3 * v1)))) + 1)).toNat)
      bndI (w_m_isAlive d v15 M13) fun y17 M16 =>
      if y17 = 0 then
        w_m_reads_48 d v15 (-1) 0 M16
      else
        some ([aI (-1)], M16)) :=
  (aOm_fix (aSem d) K_m_reads 0 _ [] M).trans rfl
set_option maxRecDepth 20000 in
theorem u_m_reads_48 (d : Nat) (v2 : Int) (v3 : Int) (v4 : Int) (M : aM) : w_m_reads_48 d v2 v3 v4 M = (
    inb 41 (aLen 158) <|
    if v4 < (M 158 41) then
      bndI (w_m_isAlive d v4 M) fun y19 M18 =>
      if y19 = 0 then
        w_m_reads_208 d v2 v3 v4 M18
      else
        if v3 = (-1) then
          if v3 = (-1) then
            if ((-1) : Int) < 0 then
              w_m_reads_201 d v2 v4 M18
            else
              if ((-1) : Int) = 0 then
                if ((-1) : Int) < 0 then
                  w_m_reads_201 d v2 v4 M18
                else
                  w_m_reads_208 d v2 v3 v4 M18
              else
                w_m_reads_208 d v2 v3 v4 M18
          else
            inb (w32 (11 + v4)) (aLen 158) <|
            inb (w32 (11 + v2)) (aLen 158) <|
            bndI (w_m_size d (w32 ((M18 158 (w32 (11 + v4)).toNat) - (M18 158 (w32 (11 + v2)).toNat))) M18) fun y21 M20 =>
            inb (w32 (11 + v3)) (aLen 158) <|
            inb (w32 (11 + v2)) (aLen 158) <|
            bndI (w_m_size d (w32 ((M20 158 (w32 (11 + v3)).toNat) - (M20 158 (w32 (11 + v2)).toNat))) M20) fun y23 M22 =>
            let v24 : Int := (w32 (y21 - y23))
            if ((-1) : Int) < 0 then
              w_m_reads_201 d v2 v4 M22
            else
              if ((-1) : Int) = 0 then
                if v24 < 0 then
                  w_m_reads_201 d v2 v4 M22
                else
                  w_m_reads_208 d v2 v3 v4 M22
              else
                w_m_reads_208 d v2 v3 v4 M22
        else
          inb (w32 (53 + v4)) (aLen 158) <|
          inb (w32 (53 + v2)) (aLen 158) <|
          bndI (w_m_size d (w32 ((M18 158 (w32 (53 + v4)).toNat) - (M18 158 (w32 (53 + v2)).toNat))) M18) fun y26 M25 =>
          inb (w32 (53 + v3)) (aLen 158) <|
          inb (w32 (53 + v2)) (aLen 158) <|
          bndI (w_m_size d (w32 ((M25 158 (w32 (53 + v3)).toNat) - (M25 158 (w32 (53 + v2)).toNat))) M25) fun y28 M27 =>
          let v29 : Int := (w32 (y26 - y28))
          if v3 = (-1) then
            if v29 < 0 then
              w_m_reads_201 d v2 v4 M27
            else
              if v29 = 0 then
                if ((-1) : Int) < 0 then
                  w_m_reads_201 d v2 v4 M27
                else
                  w_m_reads_208 d v2 v3 v4 M27
              else
                w_m_reads_208 d v2 v3 v4 M27
          else
            inb (w32 (11 + v4)) (aLen 158) <|
            inb (w32 (11 + v2)) (aLen 158) <|
            bndI (w_m_size d (w32 ((M27 158 (w32 (11 + v4)).toNat) - (M27 158 (w32 (11 + v2)).toNat))) M27) fun y31 M30 =>
            inb (w32 (11 + v3)) (aLen 158) <|
            inb (w32 (11 + v2)) (aLen 158) <|
            bndI (w_m_size d (w32 ((M30 158 (w32 (11 + v3)).toNat) - (M30 158 (w32 (11 + v2)).toNat))) M30) fun y33 M32 =>
            let v34 : Int := (w32 (y31 - y33))
            if v29 < 0 then
              w_m_reads_201 d v2 v4 M32
            else
              if v29 = 0 then
                if v34 < 0 then
                  w_m_reads_201 d v2 v4 M32
                else
                  w_m_reads_208 d v2 v3 v4 M32
              else
                w_m_reads_208 d v2 v3 v4 M32
    else
      some ([aI v3], M)) :=
  (aOm_fix _ _ _ _ _ _).trans rfl
set_option maxRecDepth 20000 in
theorem u_m_reads_201 (d : Nat) (v2 : Int) (v4 : Int) (M : aM) : w_m_reads_201 d v2 v4 M = (
    w_m_reads_208 d v2 v4 v4 M) :=
  (aOm_fix _ _ _ _ _ _).trans rfl
set_option maxRecDepth 20000 in
theorem u_m_reads_208 (d : Nat) (v2 : Int) (v3 : Int) (v4 : Int) (M : aM) : w_m_reads_208 d v2 v3 v4 M = (
    let v18 : Int := w32 (v4 + 1)
    w_m_reads_48 d v2 v3 v18 M) :=
  (aOm_fix _ _ _ _ _ _).trans rfl
set_option maxRecDepth 20000 in
theorem u_m_seen (d : Nat) (v1 : Int) (v2 : Int) (M : aM) : w_m_seen (d + 1) v1 v2 M = (
    if v1 = (-1) then
      inb 48 (aLen 158) <|
      let M14 : aM := aUp M 158 48 0
      some ([aI 0], M14)
    else
      bndI (w_m_isDeer d v1 M) fun y16 M15 =>
      if y16 = 0 then
        some ([aI (-1)], M15)
      else
        bndI (w_m_isDeer d v2 M15) fun y18 M17 =>
        if y18 = 0 then
          some ([aI (-1)], M17)
        else
          if v1 = v2 then
            some ([aI (-1)], M17)
          else
            inb 48 (aLen 158) <|
            if (M17 158 48) = 12 then
              some ([aI (-1)], M17)
            else
              inb 48 (aLen 158) <|
              inb (w32 (175 + (w32 (2 * (M17 158 48))))) (aLen 158) <|
              let M19 : aM := aUp M17 158 (w32 (175 + (w32 (2 * (M17 158 48))))).toNat v1
              inb 48 (aLen 158) <|
              inb (w32 ((w32 (175 + (w32 (2 * (M19 158 48))))) + 1)) (aLen 158) <|
              let M20 : aM := aUp M19 158 (w32 ((w32 (175 + (w32 (2 * (M19 158 48))))) + 1)).toNat v2
              inb 48 (aLen 158) <|
              inb 48 (aLen 158) <|
              let M21 : aM := aUp M20 158 48 (w32 ((M20 158 48) + 1))
              inb 48 (aLen 158) <|
              some ([aI (M21 158 48)], M21)) :=
  (aOm_fix (aSem d) K_m_seen 0 _ [] M).trans rfl
set_option maxRecDepth 20000 in
theorem u_m_laysAhead (d : Nat)  (M : aM) : w_m_laysAhead (d + 1)  M = (
    w_m_laysAhead_2 d 0 M) :=
  (aOm_fix (aSem d) K_m_laysAhead 0 _ [] M).trans rfl
set_option maxRecDepth 20000 in
theorem u_m_laysAhead_2 (d : Nat) (v1 : Int) (M : aM) : w_m_laysAhead_2 d v1 M = (
    if v1 < 10 then
      inb v1 (aLen 168) <|
      let M13 : aM := aUp M 168 v1.toNat 0
      let v14 : Int := w32 (v1 + 1)
      w_m_laysAhead_2 d v14 M13
    else
      w_m_laysAhead_23 d 0 M) :=
  (aOm_fix _ _ _ _ _ _).trans rfl
set_option maxRecDepth 20000 in
theorem u_m_laysAhead_23 (d : Nat) (v1 : Int) (M : aM) : w_m_laysAhead_23 d v1 M = (
    inb 48 (aLen 158) <|
    if v1 < (M 158 48) then
      inb (w32 ((w32 (175 + (w32 (2 * v1)))) + 1)) (aLen 158) <|
      inb (M 158 (w32 ((w32 (175 + (w32 (2 * v1)))) + 1)).toNat) (aLen 168) <|
      inb (w32 (175 + (w32 (2 * v1)))) (aLen 158) <|
      inb (M 158 (w32 ((w32 (175 + (w32 (2 * v1)))) + 1)).toNat) (aLen 168) <|
      let M13 : aM := aUp M 168 (M 158 (w32 ((w32 (175 + (w32 (2 * v1)))) + 1)).toNat).toNat (ior (M 168 (M 158 (w32 ((w32 (175 + (w32 (2 * v1)))) + 1)).toNat).toNat) (ishl 1 (M 158 (w32 (175 + (w32 (2 * v1)))).toNat)))
      let v14 : Int := w32 (v1 + 1)
      w_m_laysAhead_23 d v14 M13
    else
      some ([], M)) :=
  (aOm_fix _ _ _ _ _ _).trans rfl
set_option maxRecDepth 20000 in
theorem u_m_laysOrders (d : Nat)  (M : aM) : w_m_laysOrders (d + 1)  M = (
    inb 41 (aLen 158) <|
    let v12 : Int := (w32 ((ishl 1 (M 158 41)) - 1))
    inb 0 (aLen 169) <|
    let M13 : aM := aUp M 169 0 1
    w_m_laysOrders_21 d v12 1 M13) :=
  (aOm_fix (aSem d) K_m_laysOrders 0 _ [] M).trans rfl
set_option maxRecDepth 20000 in
theorem u_m_laysOrders_21 (d : Nat) (v1 : Int) (v2 : Int) (M : aM) : w_m_laysOrders_21 d v1 v2 M = (
    if v1 < v2 then
      inb v1 (aLen 169) <|
      some ([aI (M 169 v1.toNat)], M)
    else
      inb v2 (aLen 169) <|
      let M15 : aM := aUp M 169 v2.toNat 0
      w_m_laysOrders_35 d v1 v2 0 M15) :=
  (aOm_fix _ _ _ _ _ _).trans rfl
set_option maxRecDepth 20000 in
theorem u_m_laysOrders_35 (d : Nat) (v1 : Int) (v2 : Int) (v3 : Int) (M : aM) : w_m_laysOrders_35 d v1 v2 v3 M = (
    inb 41 (aLen 158) <|
    if v3 < (M 158 41) then
      if (iand (ishr v2 v3) 1) = 1 then
        inb v3 (aLen 168) <|
        if (iand (M 168 v3.toNat) (ixor (iand v2 (ixor (ishl 1 v3) (-1))) (-1))) = 0 then
          inb v2 (aLen 169) <|
          inb (iand v2 (ixor (ishl 1 v3) (-1))) (aLen 169) <|
          inb v2 (aLen 169) <|
          let M15 : aM := aUp M 169 v2.toNat (w32 ((M 169 v2.toNat) + (M 169 (iand v2 (ixor (ishl 1 v3) (-1))).toNat)))
          let v16 : Int := w32 (v3 + 1)
          w_m_laysOrders_35 d v1 v2 v16 M15
        else
          let v17 : Int := w32 (v3 + 1)
          w_m_laysOrders_35 d v1 v2 v17 M
      else
        let v18 : Int := w32 (v3 + 1)
        w_m_laysOrders_35 d v1 v2 v18 M
    else
      let v19 : Int := w32 (v2 + 1)
      w_m_laysOrders_21 d v1 v19 M) :=
  (aOm_fix _ _ _ _ _ _).trans rfl
set_option maxRecDepth 20000 in
theorem u_m_waysWith (d : Nat) (v1 : Int) (v2 : Int) (M : aM) : w_m_waysWith (d + 1) v1 v2 M = (
    inb v2 (aLen 168) <|
    let v14 : Int := (M 168 v2.toNat)
    inb v2 (aLen 168) <|
    inb v2 (aLen 168) <|
    let M15 : aM := aUp M 168 v2.toNat (ior (M 168 v2.toNat) (ishl 1 v1))
    bndI (w_m_laysOrders d M15) fun y17 M16 =>
    inb v2 (aLen 168) <|
    let M18 : aM := aUp M16 168 v2.toNat v14
    some ([aI y17], M18)) :=
  (aOm_fix (aSem d) K_m_waysWith 0 _ [] M).trans rfl
set_option maxRecDepth 20000 in
theorem u_m_bestCouple (d : Nat) (v1 : Int) (M : aM) : w_m_bestCouple (d + 1) v1 M = (
    w_m_bestCouple_9 d v1 (-1) 10000000 0 M) :=
  (aOm_fix (aSem d) K_m_bestCouple 0 _ [] M).trans rfl
set_option maxRecDepth 20000 in
theorem u_m_bestCouple_9 (d : Nat) (v1 : Int) (v2 : Int) (v3 : Int) (v4 : Int) (M : aM) : w_m_bestCouple_9 d v1 v2 v3 v4 M = (
    inb 41 (aLen 158) <|
    if v4 < (M 158 41) then
      let v18 : Int := (w32 (v4 + 1))
      w_m_bestCouple_27 d v1 v2 v3 v4 v18 M
    else
      some ([aI v2], M)) :=
  (aOm_fix _ _ _ _ _ _).trans rfl
set_option maxRecDepth 20000 in
theorem u_m_bestCouple_27 (d : Nat) (v1 : Int) (v2 : Int) (v3 : Int) (v4 : Int) (v5 : Int) (M : aM) : w_m_bestCouple_27 d v1 v2 v3 v4 v5 M = (
    inb 41 (aLen 158) <|
    if v5 < (M 158 41) then
      bndI (w_m_waysWith d v4 v5 M) fun y19 M18 =>
      bndI (w_m_greater d y19 (w32 (v1 - y19)) M18) fun y21 M20 =>
      if y21 < v3 then
        bndI (w_m_greater d y19 (w32 (v1 - y19)) M20) fun y23 M22 =>
        let v24 : Int := (w32 ((w32 (10 * v4)) + v5))
        let v25 : Int := w32 (v5 + 1)
        w_m_bestCouple_27 d v1 v24 y23 v4 v25 M22
      else
        let v26 : Int := w32 (v5 + 1)
        w_m_bestCouple_27 d v1 v2 v3 v4 v26 M20
    else
      let v27 : Int := w32 (v4 + 1)
      w_m_bestCouple_9 d v1 v2 v3 v27 M) :=
  (aOm_fix _ _ _ _ _ _).trans rfl
set_option maxRecDepth 20000 in
theorem u_m_firstOrder (d : Nat) (v1 : Int) (M : aM) : w_m_firstOrder (d + 1) v1 M = (
    w_m_firstOrder_7 d v1 0 (-1) 0 M) :=
  (aOm_fix (aSem d) K_m_firstOrder 0 _ [] M).trans rfl
set_option maxRecDepth 20000 in
theorem u_m_firstOrder_7 (d : Nat) (v1 : Int) (v2 : Int) (v3 : Int) (v4 : Int) (M : aM) : w_m_firstOrder_7 d v1 v2 v3 v4 M = (
    if v1 < v4 then
      some ([aI v3], M)
    else
      w_m_firstOrder_15 d v1 v2 0 v4 M) :=
  (aOm_fix _ _ _ _ _ _).trans rfl
set_option maxRecDepth 20000 in
theorem u_m_firstOrder_15 (d : Nat) (v1 : Int) (v2 : Int) (v3 : Int) (v4 : Int) (M : aM) : w_m_firstOrder_15 d v1 v2 v3 v4 M = (
    if (iand (ishr v2 v3) 1) = 1 then
      let v16 : Int := w32 (v3 + 1)
      w_m_firstOrder_15 d v1 v2 v16 v4 M
    else
      inb v3 (aLen 168) <|
      if (iand (M 168 v3.toNat) (ixor v2 (-1))) = 0 then
        let v17 : Int := (ior v2 (ishl 1 v3))
        let v18 : Int := w32 (v4 + 1)
        w_m_firstOrder_7 d v1 v17 v3 v18 M
      else
        let v19 : Int := w32 (v3 + 1)
        w_m_firstOrder_15 d v1 v2 v19 v4 M) :=
  (aOm_fix _ _ _ _ _ _).trans rfl
set_option maxRecDepth 20000 in
theorem u_m_orders (d : Nat) (v1 : Int) (M : aM) : w_m_orders (d + 1) v1 M = (
    bndV (w_m_laysAhead d M) fun M13 =>
    bndI (w_m_laysOrders d M13) fun y15 M14 =>
    if v1 = 0 then
      some ([aI y15], M14)
    else
      if y15 = 0 then
        some ([aI (-1)], M14)
      else
        bndI (w_m_isIn d v1 1 2 M14) fun y17 M16 =>
        if y17 = 0 then
          inb 41 (aLen 158) <|
          bndI (w_m_isIn d v1 10 (w32 (9 + (M16 158 41))) M16) fun y19 M18 =>
          if y19 = 0 then
            some ([aI (-1)], M18)
          else
            bndI (w_m_firstOrder d (w32 (v1 - 10)) M18) fun y21 M20 =>
            some ([aI y21], M20)
        else
          if y15 < 2 then
            some ([aI (-1)], M16)
          else
            if v1 = 1 then
              bndI (w_m_bestCouple d y15 M16) fun y23 M22 =>
              some ([aI (idiv y23 10)], M22)
            else
              bndI (w_m_bestCouple d y15 M16) fun y25 M24 =>
              some ([aI (irem y25 10)], M24)) :=
  (aOm_fix (aSem d) K_m_orders 0 _ [] M).trans rfl
set_option maxRecDepth 20000 in
theorem u_m_canLie (d : Nat) (v1 : Int) (v2 : Int) (M : aM) : w_m_canLie (d + 1) v1 v2 M = (
    inb v1 (aLen 171) <|
    if (M 171 v1.toNat) = (-1) then
      inb (w32 (159 + (w32 (2 * v1)))) (aLen 158) <|
      bndI (w_m_size d (w32 (v2 - (M 158 (w32 (159 + (w32 (2 * v1)))).toNat))) M) fun y15 M14 =>
      inb (w32 ((w32 (159 + (w32 (2 * v1)))) + 1)) (aLen 158) <|
      if (M14 158 (w32 ((w32 (159 + (w32 (2 * v1)))) + 1)).toNat) < y15 then
        some ([aI 0], M14)
      else
        some ([aI 1], M14)
    else
      inb v1 (aLen 171) <|
      if (M 171 v1.toNat) = v2 then
        some ([aI 1], M)
      else
        some ([aI 0], M)) :=
  (aOm_fix (aSem d) K_m_canLie 0 _ [] M).trans rfl
set_option maxRecDepth 20000 in
theorem u_m_laysFeasts (d : Nat)  (M : aM) : w_m_laysFeasts (d + 1)  M = (
    inb 47 (aLen 158) <|
    let v12 : Int := (ishl 1 (M 158 47))
    w_m_laysFeasts_13 d v12 40 M) :=
  (aOm_fix (aSem d) K_m_laysFeasts 0 _ [] M).trans rfl
set_option maxRecDepth 20000 in
theorem u_m_laysFeasts_13 (d : Nat) (v1 : Int) (v2 : Int) (M : aM) : w_m_laysFeasts_13 d v1 v2 M = (
    if v2 < 0 then
      inb (w32 (v1 - 1)) (aLen 170) <|
      some ([aI (M 170 (w32 (v1 - 1)).toNat)], M)
    else
      w_m_laysFeasts_19 d v1 v2 0 M) :=
  (aOm_fix _ _ _ _ _ _).trans rfl
set_option maxRecDepth 20000 in
theorem u_m_laysFeasts_19 (d : Nat) (v1 : Int) (v2 : Int) (v3 : Int) (M : aM) : w_m_laysFeasts_19 d v1 v2 v3 M = (
    if v3 < v1 then
      if v2 = 40 then
        if v3 = 0 then
          w_m_laysFeasts_63 d v1 v2 v3 0 0 M
        else
          w_m_laysFeasts_63 d v1 v2 v3 1000000 0 M
      else
        inb (w32 ((w32 (256 * (w32 (v2 + 1)))) + v3)) (aLen 170) <|
        let v17 : Int := (M 170 (w32 ((w32 (256 * (w32 (v2 + 1)))) + v3)).toNat)
        w_m_laysFeasts_63 d v1 v2 v3 v17 0 M
    else
      let v18 : Int := w32 (v2 + (-1))
      w_m_laysFeasts_13 d v1 v18 M) :=
  (aOm_fix _ _ _ _ _ _).trans rfl
set_option maxRecDepth 20000 in
theorem u_m_laysFeasts_63 (d : Nat) (v1 : Int) (v2 : Int) (v3 : Int) (v4 : Int) (v5 : Int) (M : aM) : w_m_laysFeasts_63 d v1 v2 v3 v4 v5 M = (
    inb 47 (aLen 158) <|
    if v5 < (M 158 47) then
      if v2 < 40 then
        if (iand (ishr v3 v5) 1) = 1 then
          bndI (w_m_canLie d v5 v2 M) fun y18 M17 =>
          if y18 = 0 then
            let v19 : Int := w32 (v5 + 1)
            w_m_laysFeasts_63 d v1 v2 v3 v4 v19 M17
          else
            inb (w32 ((w32 (256 * (w32 (v2 + 1)))) + (iand v3 (ixor (ishl 1 v5) (-1))))) (aLen 170) <|
            inb (w32 (159 + (w32 (2 * v5)))) (aLen 158) <|
            bndI (w_m_size d (w32 (v2 - (M17 158 (w32 (159 + (w32 (2 * v5)))).toNat))) M17) fun y21 M20 =>
            bndI (w_m_lesser d v4 (w32 ((M17 170 (w32 ((w32 (256 * (w32 (v2 + 1)))) + (iand v3 (ixor (ishl 1 v5) (-1))))).toNat) + y21)) M20) fun y23 M22 =>
            let v24 : Int := w32 (v5 + 1)
            w_m_laysFeasts_63 d v1 v2 v3 y23 v24 M22
        else
          let v25 : Int := w32 (v5 + 1)
          w_m_laysFeasts_63 d v1 v2 v3 v4 v25 M
      else
        inb (w32 ((w32 (256 * v2)) + v3)) (aLen 170) <|
        let M26 : aM := aUp M 170 (w32 ((w32 (256 * v2)) + v3)).toNat v4
        let v27 : Int := w32 (v3 + 1)
        w_m_laysFeasts_19 d v1 v2 v27 M26
    else
      inb (w32 ((w32 (256 * v2)) + v3)) (aLen 170) <|
      let M28 : aM := aUp M 170 (w32 ((w32 (256 * v2)) + v3)).toNat v4
      let v29 : Int := w32 (v3 + 1)
      w_m_laysFeasts_19 d v1 v2 v29 M28) :=
  (aOm_fix _ _ _ _ _ _).trans rfl
set_option maxRecDepth 20000 in
theorem u_m_moves (d : Nat) (v1 : Int) (M : aM) : w_m_moves (d + 1) v1 M = (
    if v1 = 0 then
      w_m_moves_27 d v1 0 M
    else
      inb 47 (aLen 158) <|
      bndI (w_m_isIn d v1 10 (w32 (9 + (M 158 47))) M) fun y14 M13 =>
      if y14 = 0 then
        some ([aI (-1)], M13)
      else
        w_m_moves_27 d v1 0 M13) :=
  (aOm_fix (aSem d) K_m_moves 0 _ [] M).trans rfl
set_option maxRecDepth 20000 in
theorem u_m_moves_27 (d : Nat) (v1 : Int) (v2 : Int) (M : aM) : w_m_moves_27 d v1 v2 M = (
    if v2 < 8 then
      inb v2 (aLen 171) <|
      let M16 : aM := aUp M 171 v2.toNat (-1)
      let v17 : Int := w32 (v2 + 1)
      w_m_moves_27 d v1 v17 M16
    else
      bndI (w_m_laysFeasts d M) fun y19 M18 =>
      if y19 < 1000000 then
        if v1 = 0 then
          if y19 < 1000000 then
            some ([aI y19], M18)
          else
            some ([aI (-1)], M18)
        else
          w_m_moves_77 d v1 y19 0 M18
      else
        if y19 < 1000000 then
          some ([aI y19], M18)
        else
          some ([aI (-1)], M18)) :=
  (aOm_fix _ _ _ _ _ _).trans rfl
set_option maxRecDepth 20000 in
theorem u_m_moves_77 (d : Nat) (v1 : Int) (v2 : Int) (v3 : Int) (M : aM) : w_m_moves_77 d v1 v2 v3 M = (
    if (w32 (v1 - 10)) < v3 then
      inb (w32 (v1 - 10)) (aLen 171) <|
      some ([aI (M 171 (w32 (v1 - 10)).toNat)], M)
    else
      inb (w32 (159 + (w32 (2 * v3)))) (aLen 158) <|
      inb (w32 ((w32 (159 + (w32 (2 * v3)))) + 1)) (aLen 158) <|
      bndI (w_m_greater d 0 (w32 ((M 158 (w32 (159 + (w32 (2 * v3)))).toNat) - (M 158 (w32 ((w32 (159 + (w32 (2 * v3)))) + 1)).toNat))) M) fun y17 M16 =>
      inb v3 (aLen 171) <|
      let M18 : aM := aUp M16 171 v3.toNat y17
      w_m_moves_126 d v1 v2 v3 y17 M18) :=
  (aOm_fix _ _ _ _ _ _).trans rfl
set_option maxRecDepth 20000 in
theorem u_m_moves_126 (d : Nat) (v1 : Int) (v2 : Int) (v3 : Int) (v4 : Int) (M : aM) : w_m_moves_126 d v1 v2 v3 v4 M = (
    bndI (w_m_laysFeasts d M) fun y17 M16 =>
    if y17 = v2 then
      let v18 : Int := w32 (v3 + 1)
      w_m_moves_77 d v1 v2 v18 M16
    else
      let v19 : Int := w32 (v4 + 1)
      inb v3 (aLen 171) <|
      let M20 : aM := aUp M16 171 v3.toNat v19
      w_m_moves_126 d v1 v2 v3 v19 M20) :=
  (aOm_fix _ _ _ _ _ _).trans rfl
set_option maxRecDepth 20000 in
theorem u_m_work (d : Nat) (v1 : Int) (M : aM) : w_m_work (d + 1) v1 M = (
    if v1 = (-1) then
      inb 49 (aLen 158) <|
      let M13 : aM := aUp M 158 49 0
      some ([aI 0], M13)
    else
      bndI (w_m_isIn d v1 1 24 M) fun y15 M14 =>
      if y15 = 0 then
        some ([aI (-1)], M14)
      else
        inb 49 (aLen 158) <|
        if (M14 158 49) = 8 then
          some ([aI (-1)], M14)
        else
          inb 49 (aLen 158) <|
          inb (w32 (199 + (M14 158 49))) (aLen 158) <|
          let M16 : aM := aUp M14 158 (w32 (199 + (M14 158 49))).toNat v1
          inb 49 (aLen 158) <|
          inb 49 (aLen 158) <|
          let M17 : aM := aUp M16 158 49 (w32 ((M16 158 49) + 1))
          inb 49 (aLen 158) <|
          some ([aI (M17 158 49)], M17)) :=
  (aOm_fix (aSem d) K_m_work 0 _ [] M).trans rfl
set_option maxRecDepth 20000 in
theorem u_m_laysHerd (d : Nat)  (M : aM) : w_m_laysHerd (d + 1)  M = (
    bndI (w_m_likeliestOne d M) fun y13 M12 =>
    let M14 : aM := aUp M12 157 33 0
    w_m_laysHerd_14 d y13 0 0 M14) :=
  (aOm_fix (aSem d) K_m_laysHerd 0 _ [] M).trans rfl
set_option maxRecDepth 20000 in
theorem u_m_laysHerd_14 (d : Nat) (v1 : Int) (v2 : Int) (v3 : Int) (M : aM) : w_m_laysHerd_14 d v1 v2 v3 M = (
    inb 41 (aLen 158) <|
    if v3 < (M 158 41) then
      inb 41 (aLen 158) <|
      if (M 158 41) = 0 then none else
      let v16 : Int := (irem (w32 (v1 + v3)) (M 158 41))
      bndI (w_m_isAlive d v16 M) fun y18 M17 =>
      if y18 = 0 then
        let v19 : Int := w32 (v3 + 1)
        w_m_laysHerd_14 d v1 v2 v19 M17
      else
        inb (M17 157 33) (aLen 172) <|
        let M20 : aM := aUp M17 172 (M17 157 33).toNat v16
        let M21 : aM := aUp M20 157 33 (w32 ((M20 157 33) + 1))
        bndI (w_m_longOf d v16 M21) fun y23 M22 =>
        bndI (w_m_greater d v2 y23 M22) fun y25 M24 =>
        let v26 : Int := w32 (v3 + 1)
        w_m_laysHerd_14 d v1 y25 v26 M24
    else
      some ([aI v2], M)) :=
  (aOm_fix _ _ _ _ _ _).trans rfl
set_option maxRecDepth 20000 in
theorem u_m_behind (d : Nat) (v1 : Int) (v2 : Int) (M : aM) : w_m_behind (d + 1) v1 v2 M = (
    let v14 : Int := (idiv v1 100)
    let v15 : Int := (irem v1 100)
    w_m_behind_11 d v2 v14 v15 M) :=
  (aOm_fix (aSem d) K_m_behind 0 _ [] M).trans rfl
set_option maxRecDepth 20000 in
theorem u_m_behind_11 (d : Nat) (v2 : Int) (v3 : Int) (v4 : Int) (M : aM) : w_m_behind_11 d v2 v3 v4 M = (
    if v3 = 0 then
      let v16 : Int := w32 (v3 + 1)
      w_m_behind_11 d v2 v16 0 M
    else
      if (M 157 33) = 0 then none else
      inb (irem (w32 (v3 - 1)) (M 157 33)) (aLen 172) <|
      bndI (w_m_longOf d (M 172 (irem (w32 (v3 - 1)) (M 157 33)).toNat) M) fun y18 M17 =>
      if y18 < (w32 (v4 + v2)) then
        let v19 : Int := w32 (v3 + 1)
        w_m_behind_11 d v2 v19 0 M17
      else
        some ([aI (w32 ((w32 ((w32 (100 * v3)) + v4)) + v2))], M17)) :=
  (aOm_fix _ _ _ _ _ _).trans rfl
set_option maxRecDepth 20000 in
theorem u_m_inOrder (d : Nat)  (M : aM) : w_m_inOrder (d + 1)  M = (
    w_m_inOrder_4 d 0 0 M) :=
  (aOm_fix (aSem d) K_m_inOrder 0 _ [] M).trans rfl
set_option maxRecDepth 20000 in
theorem u_m_inOrder_4 (d : Nat) (v1 : Int) (v2 : Int) (M : aM) : w_m_inOrder_4 d v1 v2 M = (
    inb 49 (aLen 158) <|
    if v2 < (M 158 49) then
      inb (w32 (199 + v2)) (aLen 158) <|
      bndI (w_m_behind d v1 (M 158 (w32 (199 + v2)).toNat) M) fun y15 M14 =>
      let v16 : Int := w32 (v2 + 1)
      w_m_inOrder_4 d y15 v16 M14
    else
      some ([aI v1], M)) :=
  (aOm_fix _ _ _ _ _ _).trans rfl
set_option maxRecDepth 20000 in
theorem u_m_bestOrder (d : Nat)  (M : aM) : w_m_bestOrder (d + 1)  M = (
    w_m_bestOrder_2 d 0 M) :=
  (aOm_fix (aSem d) K_m_bestOrder 0 _ [] M).trans rfl
set_option maxRecDepth 20000 in
theorem u_m_bestOrder_2 (d : Nat) (v1 : Int) (M : aM) : w_m_bestOrder_2 d v1 M = (
    inb 49 (aLen 158) <|
    if v1 < (ishl 1 (M 158 49)) then
      if v1 = 0 then
        inb v1 (aLen 173) <|
        let M14 : aM := aUp M 173 v1.toNat 0
        w_m_bestOrder_34 d v1 0 M14
      else
        inb v1 (aLen 173) <|
        let M15 : aM := aUp M 173 v1.toNat 1000000
        w_m_bestOrder_34 d v1 0 M15
    else
      inb 49 (aLen 158) <|
      inb (w32 ((ishl 1 (M 158 49)) - 1)) (aLen 173) <|
      some ([aI (M 173 (w32 ((ishl 1 (M 158 49)) - 1)).toNat)], M)) :=
  (aOm_fix _ _ _ _ _ _).trans rfl
set_option maxRecDepth 20000 in
theorem u_m_bestOrder_34 (d : Nat) (v1 : Int) (v2 : Int) (M : aM) : w_m_bestOrder_34 d v1 v2 M = (
    inb 49 (aLen 158) <|
    if v2 < (M 158 49) then
      if (iand (ishr v1 v2) 1) = 1 then
        inb v1 (aLen 173) <|
        inb (iand v1 (ixor (ishl 1 v2) (-1))) (aLen 173) <|
        inb (w32 (199 + v2)) (aLen 158) <|
        bndI (w_m_behind d (M 173 (iand v1 (ixor (ishl 1 v2) (-1))).toNat) (M 158 (w32 (199 + v2)).toNat) M) fun y15 M14 =>
        bndI (w_m_lesser d (M 173 v1.toNat) y15 M14) fun y17 M16 =>
        inb v1 (aLen 173) <|
        let M18 : aM := aUp M16 173 v1.toNat y17
        let v19 : Int := w32 (v2 + 1)
        w_m_bestOrder_34 d v1 v19 M18
      else
        let v20 : Int := w32 (v2 + 1)
        w_m_bestOrder_34 d v1 v20 M
    else
      let v21 : Int := w32 (v1 + 1)
      w_m_bestOrder_2 d v21 M) :=
  (aOm_fix _ _ _ _ _ _).trans rfl
set_option maxRecDepth 20000 in
theorem u_m_works (d : Nat) (v1 : Int) (M : aM) : w_m_works (d + 1) v1 M = (
    bndI (w_m_isIn d v1 0 2 M) fun y14 M13 =>
    if y14 = 0 then
      some ([aI (-1)], M13)
    else
      inb 10 (aLen 158) <|
      if (M13 158 10) = 0 then
        some ([aI (-1)], M13)
      else
        bndI (w_m_laysHerd d M13) fun y16 M15 =>
        w_m_works_28 d v1 y16 0 M15) :=
  (aOm_fix (aSem d) K_m_works 0 _ [] M).trans rfl
set_option maxRecDepth 20000 in
theorem u_m_works_28 (d : Nat) (v1 : Int) (v2 : Int) (v3 : Int) (M : aM) : w_m_works_28 d v1 v2 v3 M = (
    inb 49 (aLen 158) <|
    if v3 < (M 158 49) then
      inb (w32 (199 + v3)) (aLen 158) <|
      if v2 < (M 158 (w32 (199 + v3)).toNat) then
        some ([aI (-1)], M)
      else
        let v15 : Int := w32 (v3 + 1)
        w_m_works_28 d v1 v2 v15 M
    else
      if v1 = 2 then
        bndI (w_m_bestOrder d M) fun y17 M16 =>
        some ([aI (idiv y17 100)], M16)
      else
        bndI (w_m_inOrder d M) fun y19 M18 =>
        let v20 : Int := (idiv y19 100)
        if v1 = 0 then
          some ([aI v20], M18)
        else
          if v20 = 0 then
            some ([aI (-1)], M18)
          else
            if (M18 157 33) = 0 then none else
            inb (irem (w32 (v20 - 1)) (M18 157 33)) (aLen 172) <|
            some ([aI (M18 172 (irem (w32 (v20 - 1)) (M18 157 33)).toNat)], M18)) :=
  (aOm_fix _ _ _ _ _ _).trans rfl
set_option maxRecDepth 20000 in
theorem u_m_isGate (d : Nat) (v0 : Int) (M : aM) : w_m_isGate (d + 1) v0 M = (
    bndI (w_m_isIn d v0 0 9 M) fun y13 M12 =>
    aBool y13 <| some ([aI y13], M12)) :=
  (aOm_fix (aSem d) K_m_isGate 0 _ [] M).trans rfl
set_option maxRecDepth 20000 in
theorem u_m_gate (d : Nat) (v1 : Int) (v2 : Int) (M : aM) : w_m_gate (d + 1) v1 v2 M = (
    if v1 = (-1) then
      inb 50 (aLen 158) <|
      let M14 : aM := aUp M 158 50 0
      some ([aI 0], M14)
    else
      bndI (w_m_isGate d v1 M) fun y16 M15 =>
      if y16 = 0 then
        some ([aI (-1)], M15)
      else
        bndI (w_m_isGate d v2 M15) fun y18 M17 =>
        if y18 = 0 then
          some ([aI (-1)], M17)
        else
          if v1 = v2 then
            some ([aI (-1)], M17)
          else
            inb 50 (aLen 158) <|
            if (M17 158 50) = 14 then
              some ([aI (-1)], M17)
            else
              inb 50 (aLen 158) <|
              inb (w32 (207 + (w32 (2 * (M17 158 50))))) (aLen 158) <|
              let M19 : aM := aUp M17 158 (w32 (207 + (w32 (2 * (M17 158 50))))).toNat v1
              inb 50 (aLen 158) <|
              inb (w32 ((w32 (207 + (w32 (2 * (M19 158 50))))) + 1)) (aLen 158) <|
              let M20 : aM := aUp M19 158 (w32 ((w32 (207 + (w32 (2 * (M19 158 50))))) + 1)).toNat v2
              inb 50 (aLen 158) <|
              inb 50 (aLen 158) <|
              let M21 : aM := aUp M20 158 50 (w32 ((M20 158 50) + 1))
              inb 50 (aLen 158) <|
              some ([aI (M21 158 50)], M21)) :=
  (aOm_fix (aSem d) K_m_gate 0 _ [] M).trans rfl
set_option maxRecDepth 20000 in
theorem u_m_watches (d : Nat) (v1 : Int) (M : aM) : w_m_watches (d + 1) v1 M = (
    w_m_watches_2 d v1 0 M) :=
  (aOm_fix (aSem d) K_m_watches 0 _ [] M).trans rfl
set_option maxRecDepth 20000 in
theorem u_m_watches_2 (d : Nat) (v1 : Int) (v2 : Int) (M : aM) : w_m_watches_2 d v1 v2 M = (
    inb 50 (aLen 158) <|
    if v2 < (M 158 50) then
      inb (w32 (207 + (w32 (2 * v2)))) (aLen 158) <|
      if (iand (ishr v1 (M 158 (w32 (207 + (w32 (2 * v2)))).toNat)) 1) = 0 then
        inb (w32 ((w32 (207 + (w32 (2 * v2)))) + 1)) (aLen 158) <|
        if (iand (ishr v1 (M 158 (w32 ((w32 (207 + (w32 (2 * v2)))) + 1)).toNat)) 1) = 0 then
          some ([aI 0], M)
        else
          let v14 : Int := w32 (v2 + 1)
          w_m_watches_2 d v1 v14 M
      else
        let v15 : Int := w32 (v2 + 1)
        w_m_watches_2 d v1 v15 M
    else
      some ([aI 1], M)) :=
  (aOm_fix _ _ _ _ _ _).trans rfl
set_option maxRecDepth 20000 in
theorem u_m_watch (d : Nat) (v1 : Int) (M : aM) : w_m_watch (d + 1) v1 M = (
    bndI (w_m_isIn d v1 0 1 M) fun y14 M13 =>
    if y14 = 0 then
      some ([aI (-1)], M13)
    else
      w_m_watch_17 d v1 1023 0 M13) :=
  (aOm_fix (aSem d) K_m_watch 0 _ [] M).trans rfl
set_option maxRecDepth 20000 in
theorem u_m_watch_17 (d : Nat) (v1 : Int) (v2 : Int) (v3 : Int) (M : aM) : w_m_watch_17 d v1 v2 v3 M = (
    if v3 < 1024 then
      bndI (w_m_count d v3 M) fun y16 M15 =>
      bndI (w_m_count d v2 M15) fun y18 M17 =>
      if y16 < y18 then
        bndI (w_m_watches d v3 M17) fun y20 M19 =>
        if y20 = 0 then
          let v21 : Int := w32 (v3 + 1)
          w_m_watch_17 d v1 v2 v21 M19
        else
          let v22 : Int := w32 (v3 + 1)
          w_m_watch_17 d v1 v3 v22 M19
      else
        let v23 : Int := w32 (v3 + 1)
        w_m_watch_17 d v1 v2 v23 M17
    else
      if v1 = 0 then
        bndI (w_m_count d v2 M) fun y25 M24 =>
        some ([aI y25], M24)
      else
        some ([aI v2], M)) :=
  (aOm_fix _ _ _ _ _ _).trans rfl
set_option maxRecDepth 20000 in
theorem u_m_ate (d : Nat) (v1 : Int) (v2 : Int) (M : aM) : w_m_ate (d + 1) v1 v2 M = (
    if v1 = (-1) then
      inb 51 (aLen 158) <|
      let M14 : aM := aUp M 158 51 0
      some ([aI 0], M14)
    else
      bndI (w_m_isIn d v1 0 6 M) fun y16 M15 =>
      if y16 = 0 then
        some ([aI (-1)], M15)
      else
        bndI (w_m_isDeer d v2 M15) fun y18 M17 =>
        if y18 = 0 then
          some ([aI (-1)], M17)
        else
          inb 51 (aLen 158) <|
          if (M17 158 51) = 20 then
            some ([aI (-1)], M17)
          else
            inb 51 (aLen 158) <|
            inb (w32 (235 + (w32 (2 * (M17 158 51))))) (aLen 158) <|
            let M19 : aM := aUp M17 158 (w32 (235 + (w32 (2 * (M17 158 51))))).toNat v1
            inb 51 (aLen 158) <|
            inb (w32 ((w32 (235 + (w32 (2 * (M19 158 51))))) + 1)) (aLen 158) <|
            let M20 : aM := aUp M19 158 (w32 ((w32 (235 + (w32 (2 * (M19 158 51))))) + 1)).toNat v2
            inb 51 (aLen 158) <|
            inb 51 (aLen 158) <|
            let M21 : aM := aUp M20 158 51 (w32 ((M20 158 51) + 1))
            inb 51 (aLen 158) <|
            some ([aI (M21 158 51)], M21)) :=
  (aOm_fix (aSem d) K_m_ate 0 _ [] M).trans rfl
set_option maxRecDepth 20000 in
theorem u_m_laysAte (d : Nat)  (M : aM) : w_m_laysAte (d + 1)  M = (
    w_m_laysAte_2 d 0 M) :=
  (aOm_fix (aSem d) K_m_laysAte 0 _ [] M).trans rfl
set_option maxRecDepth 20000 in
theorem u_m_laysAte_2 (d : Nat) (v1 : Int) (M : aM) : w_m_laysAte_2 d v1 M = (
    if v1 < 7 then
      inb v1 (aLen 174) <|
      let M13 : aM := aUp M 174 v1.toNat 0
      let v14 : Int := w32 (v1 + 1)
      w_m_laysAte_2 d v14 M13
    else
      w_m_laysAte_23 d 0 M) :=
  (aOm_fix _ _ _ _ _ _).trans rfl
set_option maxRecDepth 20000 in
theorem u_m_laysAte_23 (d : Nat) (v1 : Int) (M : aM) : w_m_laysAte_23 d v1 M = (
    inb 51 (aLen 158) <|
    if v1 < (M 158 51) then
      inb (w32 (235 + (w32 (2 * v1)))) (aLen 158) <|
      inb (M 158 (w32 (235 + (w32 (2 * v1)))).toNat) (aLen 174) <|
      inb (w32 ((w32 (235 + (w32 (2 * v1)))) + 1)) (aLen 158) <|
      inb (M 158 (w32 (235 + (w32 (2 * v1)))).toNat) (aLen 174) <|
      let M13 : aM := aUp M 174 (M 158 (w32 (235 + (w32 (2 * v1)))).toNat).toNat (ior (M 174 (M 158 (w32 (235 + (w32 (2 * v1)))).toNat).toNat) (ishl 1 (M 158 (w32 ((w32 (235 + (w32 (2 * v1)))) + 1)).toNat)))
      let v14 : Int := w32 (v1 + 1)
      w_m_laysAte_23 d v14 M13
    else
      some ([], M)) :=
  (aOm_fix _ _ _ _ _ _).trans rfl
set_option maxRecDepth 20000 in
theorem u_m_waysFrom (d : Nat) (v1 : Int) (v2 : Int) (M : aM) : w_m_waysFrom (d + 1) v1 v2 M = (
    if v1 = 7 then
      some ([aI 1], M)
    else
      inb v1 (aLen 174) <|
      if (M 174 v1.toNat) = 0 then
        bndI (w_m_waysFrom d (w32 (v1 + 1)) v2 M) fun y15 M14 =>
        some ([aI y15], M14)
      else
        w_m_waysFrom_31 d v1 v2 0 0 M) :=
  (aOm_fix (aSem d) K_m_waysFrom 0 _ [] M).trans rfl
set_option maxRecDepth 20000 in
theorem u_m_waysFrom_31 (d : Nat) (v1 : Int) (v2 : Int) (v3 : Int) (v4 : Int) (M : aM) : w_m_waysFrom_31 d v1 v2 v3 v4 M = (
    inb 41 (aLen 158) <|
    if v4 < (M 158 41) then
      inb v1 (aLen 174) <|
      if (iand (ishr (iand (M 174 v1.toNat) (ixor v2 (-1))) v4) 1) = 1 then
        bndI (w_m_waysFrom d (w32 (v1 + 1)) (ior v2 (ishl 1 v4)) M) fun y17 M16 =>
        let v18 : Int := (w32 (v3 + y17))
        let v19 : Int := w32 (v4 + 1)
        w_m_waysFrom_31 d v1 v2 v18 v19 M16
      else
        let v20 : Int := w32 (v4 + 1)
        w_m_waysFrom_31 d v1 v2 v3 v20 M
    else
      some ([aI v3], M)) :=
  (aOm_fix _ _ _ _ _ _).trans rfl
set_option maxRecDepth 20000 in
theorem u_m_sureOnes (d : Nat) (v1 : Int) (M : aM) : w_m_sureOnes (d + 1) v1 M = (
    w_m_sureOnes_4 d v1 0 0 M) :=
  (aOm_fix (aSem d) K_m_sureOnes 0 _ [] M).trans rfl
set_option maxRecDepth 20000 in
theorem u_m_sureOnes_4 (d : Nat) (v1 : Int) (v2 : Int) (v3 : Int) (M : aM) : w_m_sureOnes_4 d v1 v2 v3 M = (
    if v3 < 7 then
      inb v3 (aLen 174) <|
      let v17 : Int := (M 174 v3.toNat)
      w_m_sureOnes_21 d v1 v2 v3 v17 0 M
    else
      some ([aI v2], M)) :=
  (aOm_fix _ _ _ _ _ _).trans rfl
set_option maxRecDepth 20000 in
theorem u_m_sureOnes_21 (d : Nat) (v1 : Int) (v2 : Int) (v3 : Int) (v4 : Int) (v5 : Int) (M : aM) : w_m_sureOnes_21 d v1 v2 v3 v4 v5 M = (
    inb 41 (aLen 158) <|
    if v5 < (M 158 41) then
      if (iand (ishr v4 v5) 1) = 0 then
        let v17 : Int := w32 (v5 + 1)
        w_m_sureOnes_21 d v1 v2 v3 v4 v17 M
      else
        inb v3 (aLen 174) <|
        let M18 : aM := aUp M 174 v3.toNat (ishl 1 v5)
        bndI (w_m_waysFrom d 0 0 M18) fun y20 M19 =>
        if y20 = v1 then
          let v21 : Int := (w32 (v2 + 1))
          let v22 : Int := w32 (v5 + 1)
          w_m_sureOnes_21 d v1 v21 v3 v4 v22 M19
        else
          let v23 : Int := (w32 (v2 + 0))
          let v24 : Int := w32 (v5 + 1)
          w_m_sureOnes_21 d v1 v23 v3 v4 v24 M19
    else
      inb v3 (aLen 174) <|
      let M25 : aM := aUp M 174 v3.toNat v4
      let v26 : Int := w32 (v3 + 1)
      w_m_sureOnes_4 d v1 v2 v26 M25) :=
  (aOm_fix _ _ _ _ _ _).trans rfl
set_option maxRecDepth 20000 in
theorem u_m_ways (d : Nat) (v1 : Int) (M : aM) : w_m_ways (d + 1) v1 M = (
    bndI (w_m_isIn d v1 0 1 M) fun y14 M13 =>
    if y14 = 0 then
      some ([aI (-1)], M13)
    else
      bndV (w_m_laysAte d M13) fun M15 =>
      bndI (w_m_waysFrom d 0 0 M15) fun y17 M16 =>
      if v1 = 0 then
        some ([aI y17], M16)
      else
        if y17 = 0 then
          some ([aI 0], M16)
        else
          bndI (w_m_sureOnes d y17 M16) fun y19 M18 =>
          some ([aI y19], M18)) :=
  (aOm_fix (aSem d) K_m_ways 0 _ [] M).trans rfl
set_option maxRecDepth 20000 in
theorem u_m_vote (d : Nat) (v1 : Int) (M : aM) : w_m_vote (d + 1) v1 M = (
    if v1 = (-1) then
      inb 52 (aLen 158) <|
      let M13 : aM := aUp M 158 52 0
      some ([aI 0], M13)
    else
      bndI (w_m_isIn d v1 0 24 M) fun y15 M14 =>
      if y15 = 0 then
        some ([aI (-1)], M14)
      else
        inb 52 (aLen 158) <|
        if (M14 158 52) = 9 then
          some ([aI (-1)], M14)
        else
          inb 52 (aLen 158) <|
          inb (w32 (275 + (M14 158 52))) (aLen 158) <|
          let M16 : aM := aUp M14 158 (w32 (275 + (M14 158 52))).toNat v1
          inb 52 (aLen 158) <|
          inb 52 (aLen 158) <|
          let M17 : aM := aUp M16 158 52 (w32 ((M16 158 52) + 1))
          inb 52 (aLen 158) <|
          some ([aI (M17 158 52)], M17)) :=
  (aOm_fix (aSem d) K_m_vote 0 _ [] M).trans rfl
set_option maxRecDepth 20000 in
theorem u_m_farFrom (d : Nat) (v1 : Int) (M : aM) : w_m_farFrom (d + 1) v1 M = (
    w_m_farFrom_4 d v1 0 0 M) :=
  (aOm_fix (aSem d) K_m_farFrom 0 _ [] M).trans rfl
set_option maxRecDepth 20000 in
theorem u_m_farFrom_4 (d : Nat) (v1 : Int) (v2 : Int) (v3 : Int) (M : aM) : w_m_farFrom_4 d v1 v2 v3 M = (
    inb 52 (aLen 158) <|
    if v3 < (M 158 52) then
      inb (w32 (275 + v3)) (aLen 158) <|
      bndI (w_m_size d (w32 ((M 158 (w32 (275 + v3)).toNat) - v1)) M) fun y16 M15 =>
      let v17 : Int := (w32 (v2 + y16))
      let v18 : Int := w32 (v3 + 1)
      w_m_farFrom_4 d v1 v17 v18 M15
    else
      some ([aI v2], M)) :=
  (aOm_fix _ _ _ _ _ _).trans rfl
set_option maxRecDepth 20000 in
theorem u_m_votes (d : Nat) (v1 : Int) (M : aM) : w_m_votes (d + 1) v1 M = (
    bndI (w_m_isIn d v1 0 1 M) fun y14 M13 =>
    if y14 = 0 then
      some ([aI (-1)], M13)
    else
      inb 52 (aLen 158) <|
      if (M13 158 52) = 0 then
        some ([aI (-1)], M13)
      else
        w_m_votes_25 d v1 0 1 M13) :=
  (aOm_fix (aSem d) K_m_votes 0 _ [] M).trans rfl
set_option maxRecDepth 20000 in
theorem u_m_votes_25 (d : Nat) (v1 : Int) (v2 : Int) (v3 : Int) (M : aM) : w_m_votes_25 d v1 v2 v3 M = (
    if 24 < v3 then
      if v1 = 0 then
        some ([aI v2], M)
      else
        bndI (w_m_farFrom d v2 M) fun y16 M15 =>
        some ([aI y16], M15)
    else
      bndI (w_m_farFrom d v3 M) fun y18 M17 =>
      bndI (w_m_farFrom d v2 M17) fun y20 M19 =>
      if y18 < y20 then
        let v21 : Int := w32 (v3 + 1)
        w_m_votes_25 d v1 v3 v21 M19
      else
        let v22 : Int := w32 (v3 + 1)
        w_m_votes_25 d v1 v2 v22 M19) :=
  (aOm_fix _ _ _ _ _ _).trans rfl
set_option maxRecDepth 20000 in
theorem u_m_laysSalt (d : Nat) (v1 : Int) (M : aM) : w_m_laysSalt (d + 1) v1 M = (
    inb 4 (aLen 158) <|
    let v13 : Int := (M 158 4)
    w_m_laysSalt_9 d v1 v13 0 M) :=
  (aOm_fix (aSem d) K_m_laysSalt 0 _ [] M).trans rfl
set_option maxRecDepth 20000 in
theorem u_m_laysSalt_9 (d : Nat) (v1 : Int) (v2 : Int) (v3 : Int) (M : aM) : w_m_laysSalt_9 d v1 v2 v3 M = (
    inb 41 (aLen 158) <|
    if v3 < (M 158 41) then
      w_m_laysSalt_23 d v1 v2 v3 0 M
    else
      inb 4 (aLen 158) <|
      let M18 : aM := aUp M 158 4 v2
      inb 41 (aLen 158) <|
      let v19 : Int := (M18 158 41)
      w_m_laysSalt_88 d v1 v19 M18) :=
  (aOm_fix _ _ _ _ _ _).trans rfl
set_option maxRecDepth 20000 in
theorem u_m_laysSalt_23 (d : Nat) (v1 : Int) (v2 : Int) (v3 : Int) (v4 : Int) (M : aM) : w_m_laysSalt_23 d v1 v2 v3 v4 M = (
    if v1 < v4 then
      let v18 : Int := w32 (v3 + 1)
      w_m_laysSalt_9 d v1 v2 v18 M
    else
      bndI (w_m_lesser d 99 (w32 (v2 + v4)) M) fun y20 M19 =>
      inb 4 (aLen 158) <|
      let M21 : aM := aUp M19 158 4 y20
      bndI (w_m_comeOf d v3 M21) fun y23 M22 =>
      inb (w32 ((w32 (21 * v3)) + v4)) (aLen 175) <|
      let M24 : aM := aUp M22 175 (w32 ((w32 (21 * v3)) + v4)).toNat y23
      let v25 : Int := w32 (v4 + 1)
      w_m_laysSalt_23 d v1 v2 v3 v25 M24) :=
  (aOm_fix _ _ _ _ _ _).trans rfl
set_option maxRecDepth 20000 in
theorem u_m_laysSalt_88 (d : Nat) (v1 : Int) (v3 : Int) (M : aM) : w_m_laysSalt_88 d v1 v3 M = (
    if v3 < 0 then
      some ([], M)
    else
      w_m_laysSalt_95 d v1 v3 0 M) :=
  (aOm_fix _ _ _ _ _ _).trans rfl
set_option maxRecDepth 20000 in
theorem u_m_laysSalt_95 (d : Nat) (v1 : Int) (v3 : Int) (v4 : Int) (M : aM) : w_m_laysSalt_95 d v1 v3 v4 M = (
    if v1 < v4 then
      let v18 : Int := w32 (v3 + (-1))
      w_m_laysSalt_88 d v1 v18 M
    else
      inb 41 (aLen 158) <|
      if v3 = (M 158 41) then
        if v4 = 0 then
          w_m_laysSalt_160 d v1 v3 v4 0 0 M
        else
          w_m_laysSalt_160 d v1 v3 v4 (-1000000) 0 M
      else
        bndI (w_m_isAlive d v3 M) fun y20 M19 =>
        if y20 = 0 then
          inb (w32 ((w32 (21 * (w32 (v3 + 1)))) + v4)) (aLen 176) <|
          let v21 : Int := (M19 176 (w32 ((w32 (21 * (w32 (v3 + 1)))) + v4)).toNat)
          w_m_laysSalt_160 d v1 v3 v4 v21 0 M19
        else
          w_m_laysSalt_160 d v1 v3 v4 (-1000000) 0 M19) :=
  (aOm_fix _ _ _ _ _ _).trans rfl
set_option maxRecDepth 20000 in
theorem u_m_laysSalt_160 (d : Nat) (v1 : Int) (v3 : Int) (v4 : Int) (v5 : Int) (v6 : Int) (M : aM) : w_m_laysSalt_160 d v1 v3 v4 v5 v6 M = (
    if v4 < v6 then
      inb (w32 ((w32 (21 * v3)) + v4)) (aLen 176) <|
      let M18 : aM := aUp M 176 (w32 ((w32 (21 * v3)) + v4)).toNat v5
      let v19 : Int := w32 (v4 + 1)
      w_m_laysSalt_95 d v1 v3 v19 M18
    else
      bndI (w_m_isAlive d v3 M) fun y21 M20 =>
      if y21 = 0 then
        inb (w32 ((w32 (21 * v3)) + v4)) (aLen 176) <|
        let M22 : aM := aUp M20 176 (w32 ((w32 (21 * v3)) + v4)).toNat v5
        let v23 : Int := w32 (v4 + 1)
        w_m_laysSalt_95 d v1 v3 v23 M22
      else
        inb (w32 ((w32 (21 * v3)) + v6)) (aLen 175) <|
        inb (w32 ((w32 ((w32 (21 * (w32 (v3 + 1)))) + v4)) - v6)) (aLen 176) <|
        bndI (w_m_greater d v5 (w32 ((M20 175 (w32 ((w32 (21 * v3)) + v6)).toNat) + (M20 176 (w32 ((w32 ((w32 (21 * (w32 (v3 + 1)))) + v4)) - v6)).toNat))) M20) fun y25 M24 =>
        let v26 : Int := w32 (v6 + 1)
        w_m_laysSalt_160 d v1 v3 v4 y25 v26 M24) :=
  (aOm_fix _ _ _ _ _ _).trans rfl
set_option maxRecDepth 20000 in
theorem u_m_salts (d : Nat) (v1 : Int) (v2 : Int) (M : aM) : w_m_salts (d + 1) v1 v2 M = (
    bndI (w_m_isIn d v1 1 20 M) fun y15 M14 =>
    if y15 = 0 then
      some ([aI (-1)], M14)
    else
      inb 10 (aLen 158) <|
      if (M14 158 10) = 0 then
        some ([aI (-1)], M14)
      else
        if v2 = 0 then
          bndV (w_m_laysSalt d v1 M14) fun M16 =>
          if v2 = 0 then
            inb v1 (aLen 176) <|
            some ([aI (M16 176 v1.toNat)], M16)
          else
            w_m_salts_69 d v2 v1 0 0 M16
        else
          inb 41 (aLen 158) <|
          bndI (w_m_isIn d v2 10 (w32 (9 + (M14 158 41))) M14) fun y18 M17 =>
          if y18 = 0 then
            some ([aI (-1)], M17)
          else
            bndV (w_m_laysSalt d v1 M17) fun M19 =>
            if v2 = 0 then
              inb v1 (aLen 176) <|
              some ([aI (M19 176 v1.toNat)], M19)
            else
              w_m_salts_69 d v2 v1 0 0 M19) :=
  (aOm_fix (aSem d) K_m_salts 0 _ [] M).trans rfl
set_option maxRecDepth 20000 in
theorem u_m_salts_69 (d : Nat) (v2 : Int) (v3 : Int) (v4 : Int) (v5 : Int) (M : aM) : w_m_salts_69 d v2 v3 v4 v5 M = (
    if (w32 (v2 - 10)) < v5 then
      some ([aI v4], M)
    else
      w_m_salts_81 d v2 v3 0 v5 M) :=
  (aOm_fix _ _ _ _ _ _).trans rfl
set_option maxRecDepth 20000 in
theorem u_m_salts_81 (d : Nat) (v2 : Int) (v3 : Int) (v4 : Int) (v5 : Int) (M : aM) : w_m_salts_81 d v2 v3 v4 v5 M = (
    bndI (w_m_isAlive d v5 M) fun y18 M17 =>
    if y18 = 0 then
      let v19 : Int := (w32 (v3 - v4))
      let v20 : Int := w32 (v5 + 1)
      w_m_salts_69 d v2 v19 v4 v20 M17
    else
      inb (w32 ((w32 (21 * v5)) + v4)) (aLen 175) <|
      inb (w32 ((w32 ((w32 (21 * (w32 (v5 + 1)))) + v3)) - v4)) (aLen 176) <|
      inb (w32 ((w32 (21 * v5)) + v3)) (aLen 176) <|
      if (w32 ((M17 175 (w32 ((w32 (21 * v5)) + v4)).toNat) + (M17 176 (w32 ((w32 ((w32 (21 * (w32 (v5 + 1)))) + v3)) - v4)).toNat))) = (M17 176 (w32 ((w32 (21 * v5)) + v3)).toNat) then
        let v21 : Int := (w32 (v3 - v4))
        let v22 : Int := w32 (v5 + 1)
        w_m_salts_69 d v2 v21 v4 v22 M17
      else
        let v23 : Int := w32 (v4 + 1)
        w_m_salts_81 d v2 v3 v23 v5 M17) :=
  (aOm_fix _ _ _ _ _ _).trans rfl
set_option maxRecDepth 20000 in
theorem u_m_marked (d : Nat) (v1 : Int) (M : aM) : w_m_marked (d + 1) v1 M = (
    w_m_marked_4 d v1 0 0 M) :=
  (aOm_fix (aSem d) K_m_marked 0 _ [] M).trans rfl
set_option maxRecDepth 20000 in
theorem u_m_marked_4 (d : Nat) (v1 : Int) (v2 : Int) (v3 : Int) (M : aM) : w_m_marked_4 d v1 v2 v3 M = (
    inb 41 (aLen 158) <|
    if v3 < (M 158 41) then
      bndI (w_m_isAlive d v3 M) fun y16 M15 =>
      if y16 = 0 then
        let v17 : Int := (w32 (v2 + 0))
        let v18 : Int := w32 (v3 + 1)
        w_m_marked_4 d v1 v17 v18 M15
      else
        inb (w32 (53 + v3)) (aLen 158) <|
        if (M15 158 (w32 (53 + v3)).toNat) = v1 then
          let v19 : Int := (w32 (v2 + 1))
          let v20 : Int := w32 (v3 + 1)
          w_m_marked_4 d v1 v19 v20 M15
        else
          let v21 : Int := (w32 (v2 + 0))
          let v22 : Int := w32 (v3 + 1)
          w_m_marked_4 d v1 v21 v22 M15
    else
      some ([aI v2], M)) :=
  (aOm_fix _ _ _ _ _ _).trans rfl
set_option maxRecDepth 20000 in
theorem u_m_nods (d : Nat) (v1 : Int) (v2 : Int) (M : aM) : w_m_nods (d + 1) v1 v2 M = (
    bndI (w_m_isIn d v1 0 5 M) fun y15 M14 =>
    if y15 = 0 then
      some ([aI (-1)], M14)
    else
      bndI (w_m_isIn d v2 0 5 M14) fun y17 M16 =>
      if y17 = 0 then
        some ([aI (-1)], M16)
      else
        if v1 = v2 then
          bndI (w_m_marked d v1 M16) fun y19 M18 =>
          bndI (w_m_marked d v1 M18) fun y21 M20 =>
          some ([aI (idiv (w32 (y19 * (w32 (y21 - 1)))) 2)], M20)
        else
          bndI (w_m_marked d v1 M16) fun y23 M22 =>
          bndI (w_m_marked d v2 M22) fun y25 M24 =>
          some ([aI (w32 (y23 * y25))], M24)) :=
  (aOm_fix (aSem d) K_m_nods 0 _ [] M).trans rfl
set_option maxRecDepth 20000 in
theorem u_m_heapOf (d : Nat) (v1 : Int) (M : aM) : w_m_heapOf (d + 1) v1 M = (
    bndI (w_m_isAlive d v1 M) fun y14 M13 =>
    if y14 = 0 then
      some ([aI 0], M13)
    else
      inb (w32 (31 + v1)) (aLen 158) <|
      some ([aI (M13 158 (w32 (31 + v1)).toNat)], M13)) :=
  (aOm_fix (aSem d) K_m_heapOf 0 _ [] M).trans rfl
set_option maxRecDepth 20000 in
theorem u_m_game (d : Nat) (v1 : Int) (M : aM) : w_m_game (d + 1) v1 M = (
    bndI (w_m_isIn d v1 0 1 M) fun y14 M13 =>
    if y14 = 0 then
      some ([aI (-1)], M13)
    else
      w_m_game_15 d v1 0 0 M13) :=
  (aOm_fix (aSem d) K_m_game 0 _ [] M).trans rfl
set_option maxRecDepth 20000 in
theorem u_m_game_15 (d : Nat) (v1 : Int) (v2 : Int) (v3 : Int) (M : aM) : w_m_game_15 d v1 v2 v3 M = (
    inb 41 (aLen 158) <|
    if v3 < (M 158 41) then
      bndI (w_m_heapOf d v3 M) fun y17 M16 =>
      let v18 : Int := (ixor v2 (irem y17 4))
      let v19 : Int := w32 (v3 + 1)
      w_m_game_15 d v1 v18 v19 M16
    else
      w_m_game_44 d v1 v2 0 M) :=
  (aOm_fix _ _ _ _ _ _).trans rfl
set_option maxRecDepth 20000 in
theorem u_m_game_44 (d : Nat) (v1 : Int) (v2 : Int) (v3 : Int) (M : aM) : w_m_game_44 d v1 v2 v3 M = (
    inb 41 (aLen 158) <|
    if v3 < (M 158 41) then
      w_m_game_58 d v1 v2 v3 1 M
    else
      some ([aI (-1)], M)) :=
  (aOm_fix _ _ _ _ _ _).trans rfl
set_option maxRecDepth 20000 in
theorem u_m_game_58 (d : Nat) (v1 : Int) (v2 : Int) (v3 : Int) (v4 : Int) (M : aM) : w_m_game_58 d v1 v2 v3 v4 M = (
    bndI (w_m_heapOf d v3 M) fun y17 M16 =>
    bndI (w_m_lesser d 3 y17 M16) fun y19 M18 =>
    if y19 < v4 then
      let v20 : Int := w32 (v3 + 1)
      w_m_game_44 d v1 v2 v20 M18
    else
      bndI (w_m_heapOf d v3 M18) fun y22 M21 =>
      bndI (w_m_heapOf d v3 M21) fun y24 M23 =>
      if (ixor v2 (irem y22 4)) = (irem (w32 (y24 - v4)) 4) then
        if v1 = 0 then
          some ([aI v3], M23)
        else
          some ([aI v4], M23)
      else
        let v25 : Int := w32 (v4 + 1)
        w_m_game_58 d v1 v2 v3 v25 M23) :=
  (aOm_fix _ _ _ _ _ _).trans rfl
set_option maxRecDepth 20000 in
theorem u_m_image (d : Nat) (v1 : Int) (M : aM) : w_m_image (d + 1) v1 M = (
    if v1 = 0 then
      if (M 157 5) = 0 then
        some ([aI 0], M)
      else
        w_m_image_15 d v1 0 M
    else
      w_m_image_15 d v1 0 M) :=
  (aOm_fix (aSem d) K_m_image 0 _ [] M).trans rfl
set_option maxRecDepth 20000 in
theorem u_m_image_15 (d : Nat) (v1 : Int) (v2 : Int) (M : aM) : w_m_image_15 d v1 v2 M = (
    if v2 < 1768 then
      if v1 = 0 then
        inb v2 (aLen 159) <|
        inb v2 (aLen 158) <|
        let M14 : aM := aUp M 158 v2.toNat (M 159 v2.toNat)
        let v15 : Int := w32 (v2 + 1)
        w_m_image_15 d v1 v15 M14
      else
        inb v2 (aLen 158) <|
        inb v2 (aLen 159) <|
        let M16 : aM := aUp M 159 v2.toNat (M 158 v2.toNat)
        let v17 : Int := w32 (v2 + 1)
        w_m_image_15 d v1 v17 M16
    else
      if v1 = 0 then
        bndV (w_m_forgets d M) fun M18 =>
        let M19 : aM := aUp M18 157 5 1
        some ([aI 1], M19)
      else
        let M20 : aM := aUp M 157 5 1
        some ([aI 1], M20)) :=
  (aOm_fix _ _ _ _ _ _).trans rfl
set_option maxRecDepth 20000 in
theorem u_m_look (d : Nat) (v1 : Int) (M : aM) : w_m_look (d + 1) v1 M = (
    if v1 = 0 then
      inb 41 (aLen 158) <|
      some ([aI (M 158 41)], M)
    else
    if v1 = 1 then
      inb 0 (aLen 158) <|
      some ([aI (M 158 0)], M)
    else
    if v1 = 2 then
      inb 1 (aLen 158) <|
      some ([aI (M 158 1)], M)
    else
    if v1 = 3 then
      inb 2 (aLen 158) <|
      some ([aI (M 158 2)], M)
    else
    if v1 = 4 then
      inb 3 (aLen 158) <|
      some ([aI (M 158 3)], M)
    else
    if v1 = 5 then
      inb 4 (aLen 158) <|
      some ([aI (M 158 4)], M)
    else
    if v1 = 6 then
      inb 5 (aLen 158) <|
      some ([aI (M 158 5)], M)
    else
    if v1 = 7 then
      inb 6 (aLen 158) <|
      some ([aI (M 158 6)], M)
    else
    if v1 = 8 then
      inb 10 (aLen 158) <|
      some ([aI (M 158 10)], M)
    else
    if v1 = 9 then
      inb 8 (aLen 158) <|
      some ([aI (M 158 8)], M)
    else
    if v1 = 10 then
      inb 7 (aLen 158) <|
      some ([aI (M 158 7)], M)
    else
    if v1 = 11 then
      inb 44 (aLen 158) <|
      some ([aI (M 158 44)], M)
    else
    if v1 = 12 then
      inb 45 (aLen 158) <|
      some ([aI (M 158 45)], M)
    else
    if v1 = 13 then
      inb 46 (aLen 158) <|
      some ([aI (M 158 46)], M)
    else
    if v1 = 14 then
      inb 47 (aLen 158) <|
      some ([aI (M 158 47)], M)
    else
    if v1 = 15 then
      inb 48 (aLen 158) <|
      some ([aI (M 158 48)], M)
    else
    if v1 = 16 then
      inb 49 (aLen 158) <|
      some ([aI (M 158 49)], M)
    else
    if v1 = 17 then
      inb 50 (aLen 158) <|
      some ([aI (M 158 50)], M)
    else
    if v1 = 18 then
      inb 51 (aLen 158) <|
      some ([aI (M 158 51)], M)
    else
    if v1 = 19 then
      inb 52 (aLen 158) <|
      some ([aI (M 158 52)], M)
    else
    if v1 = 20 then
      some ([aI (M 157 4)], M)
    else
      some ([aI (-1000000)], M)) :=
  (aOm_fix (aSem d) K_m_look 0 _ [] M).trans rfl
set_option maxRecDepth 20000 in
theorem u_ji_bitCount (d : Nat) (v0 : Int) (M : aM) : w_ji_bitCount (d + 1) v0 M = (
    let v12 : Int := (w32 (v0 - (iand (iushr v0 1) 1431655765)))
    let v13 : Int := (w32 ((iand v12 858993459) + (iand (iushr v12 2) 858993459)))
    let v14 : Int := (iand (w32 (v13 + (iushr v13 4))) 252645135)
    let v15 : Int := (w32 (v14 + (iushr v14 8)))
    let v16 : Int := (w32 (v15 + (iushr v15 16)))
    some ([aI (iand v16 63)], M)) :=
  (aOm_fix (aSem d) K_ji_bitCount 0 _ [] M).trans rfl
set_option maxRecDepth 20000 in
theorem u_jm_floorMod (d : Nat) (v0 : Int) (v1 : Int) (M : aM) : w_jm_floorMod (d + 1) v0 v1 M = (
    if v1 = 0 then none else
    let v13 : Int := (irem v0 v1)
    if (ixor v0 v1) < 0 then
      if v13 = 0 then
        some ([aI v13], M)
      else
        some ([aI (w32 (v13 + v1))], M)
    else
      some ([aI v13], M)) :=
  (aOm_fix (aSem d) K_jm_floorMod 0 _ [] M).trans rfl
set_option maxRecDepth 20000 in
theorem u_js_length (d : Nat) (a0 : Nat) (M : aM) : w_js_length (d + 1) a0 M = (
    bndI (w_js_coder d a0 M) fun y13 M12 =>
    some ([aI (ishr (((aStrL a0).length : Nat) : Int) y13)], M12)) :=
  (aOm_fix (aSem d) K_js_length 0 _ [] M).trans rfl
set_option maxRecDepth 20000 in
theorem u_js_charAt (d : Nat) (a0 : Nat) (v1 : Int) (M : aM) : w_js_charAt (d + 1) a0 v1 M = (
    bndI (w_js_isLatin1 d a0 M) fun y14 M13 =>
    if y14 = 0 then
      none
    else
      bndI (w_jl_charAt d a0 v1 M13) fun y16 M15 =>
      aRng 0 65535 y16 <| some ([aI y16], M15)) :=
  (aOm_fix (aSem d) K_js_charAt 0 _ [] M).trans rfl
set_option maxRecDepth 20000 in
theorem u_js_indexOf4 (d : Nat) (a0 : Nat) (v1 : Int) (M : aM) : w_js_indexOf4 (d + 1) a0 v1 M = (
    bndI (w_js_indexOf5 d a0 v1 0 M) fun y14 M13 =>
    some ([aI y14], M13)) :=
  (aOm_fix (aSem d) K_js_indexOf4 0 _ [] M).trans rfl
set_option maxRecDepth 20000 in
theorem u_js_indexOf5 (d : Nat) (a0 : Nat) (v1 : Int) (v2 : Int) (M : aM) : w_js_indexOf5 (d + 1) a0 v1 v2 M = (
    bndI (w_js_isLatin1 d a0 M) fun y15 M14 =>
    if y15 = 0 then
      bndI (w_js_length d a0 M14) fun y17 M16 =>
      none
    else
      bndI (w_js_length d a0 M14) fun y19 M18 =>
      bndI (w_jl_indexOf d a0 v1 v2 y19 M18) fun y21 M20 =>
      some ([aI y21], M20)) :=
  (aOm_fix (aSem d) K_js_indexOf5 0 _ [] M).trans rfl
set_option maxRecDepth 20000 in
theorem u_js_coder (d : Nat) (a0 : Nat) (M : aM) : w_js_coder (d + 1) a0 M = (
    if (1 : Int) = 0 then
      aRng (-128) 127 1 <| some ([aI 1], M)
    else
      aRng (-128) 127 0 <| some ([aI 0], M)) :=
  (aOm_fix (aSem d) K_js_coder 0 _ [] M).trans rfl
set_option maxRecDepth 20000 in
theorem u_js_isLatin1 (d : Nat) (a0 : Nat) (M : aM) : w_js_isLatin1 (d + 1) a0 M = (
    if (1 : Int) = 0 then
      some ([aI 0], M)
    else
      if (0 : Int) = 0 then
        some ([aI 1], M)
      else
        some ([aI 0], M)) :=
  (aOm_fix (aSem d) K_js_isLatin1 0 _ [] M).trans rfl
set_option maxRecDepth 20000 in
theorem u_js_checkIndex (d : Nat) (v0 : Int) (v1 : Int) (M : aM) : w_js_checkIndex (d + 1) v0 v1 M = (
    bndI (w_jp_checkIndex d v0 v1 M) fun y14 M13 =>
    some ([], M13)) :=
  (aOm_fix (aSem d) K_js_checkIndex 0 _ [] M).trans rfl
set_option maxRecDepth 20000 in
theorem u_jl_charAt (d : Nat) (a0 : Nat) (v1 : Int) (M : aM) : w_jl_charAt (d + 1) a0 v1 M = (
    bndV (w_js_checkIndex d v1 (((aStrL a0).length : Nat) : Int) M) fun M13 =>
    inb v1 (aStrL a0).length <|
    aRng 0 65535 ((iand (aChr a0 v1) 255) % 65536) <| some ([aI ((iand (aChr a0 v1) 255) % 65536)], M13)) :=
  (aOm_fix (aSem d) K_jl_charAt 0 _ [] M).trans rfl
set_option maxRecDepth 20000 in
theorem u_jl_canEncode (d : Nat) (v0 : Int) (M : aM) : w_jl_canEncode (d + 1) v0 M = (
    if v0 < 0 then
      some ([aI 0], M)
    else
      if 255 < v0 then
        some ([aI 0], M)
      else
        some ([aI 1], M)) :=
  (aOm_fix (aSem d) K_jl_canEncode 0 _ [] M).trans rfl
set_option maxRecDepth 20000 in
theorem u_jl_indexOf (d : Nat) (a0 : Nat) (v1 : Int) (v2 : Int) (v3 : Int) (M : aM) : w_jl_indexOf (d + 1) a0 v1 v2 v3 M = (
    bndI (w_jl_canEncode d v1 M) fun y16 M15 =>
    if y16 = 0 then
      some ([aI (-1)], M15)
    else
      let v17 : Int := (imax v2 0)
      let v18 : Int := (imin v3 (((aStrL a0).length : Nat) : Int))
      if v17 < v18 then
        bndI (w_jl_indexOfChar d a0 v1 v17 v18 M15) fun y20 M19 =>
        some ([aI y20], M19)
      else
        some ([aI (-1)], M15)) :=
  (aOm_fix (aSem d) K_jl_indexOf 0 _ [] M).trans rfl
set_option maxRecDepth 20000 in
theorem u_jl_indexOfChar (d : Nat) (a0 : Nat) (v1 : Int) (v2 : Int) (v3 : Int) (M : aM) : w_jl_indexOfChar (d + 1) a0 v1 v2 v3 M = (
    let v15 : Int := ((v1 + 128) % 256 - 128)
    w_jl_indexOfChar_7 d a0 v3 v15 v2 M) :=
  (aOm_fix (aSem d) K_jl_indexOfChar 0 _ [] M).trans rfl
set_option maxRecDepth 20000 in
theorem u_jl_indexOfChar_7 (d : Nat) (a0 : Nat) (v3 : Int) (v4 : Int) (v5 : Int) (M : aM) : w_jl_indexOfChar_7 d a0 v3 v4 v5 M = (
    if v5 < v3 then
      inb v5 (aStrL a0).length <|
      if (aChr a0 v5) = v4 then
        some ([aI v5], M)
      else
        let v17 : Int := w32 (v5 + 1)
        w_jl_indexOfChar_7 d a0 v3 v4 v17 M
    else
      some ([aI (-1)], M)) :=
  (aOm_fix _ _ _ _ _ _).trans rfl
set_option maxRecDepth 20000 in
theorem u_ja_fillJ (d : Nat) (a0 : Nat) (v1 : Int) (M : aM) : w_ja_fillJ (d + 1) a0 v1 M = (
    let v13 : Int := ((aLen a0 : Nat) : Int)
    w_ja_fillJ_6 d a0 v1 0 v13 M) :=
  (aOm_fix (aSem d) K_ja_fillJ 0 _ [] M).trans rfl
set_option maxRecDepth 20000 in
theorem u_ja_fillJ_6 (d : Nat) (a0 : Nat) (v1 : Int) (v3 : Int) (v4 : Int) (M : aM) : w_ja_fillJ_6 d a0 v1 v3 v4 M = (
    if v3 < v4 then
      inb v3 (aLen a0) <|
      let M16 : aM := aUp M a0 v3.toNat v1
      let v17 : Int := w32 (v3 + 1)
      w_ja_fillJ_6 d a0 v1 v17 v4 M16
    else
      some ([], M)) :=
  (aOm_fix _ _ _ _ _ _).trans rfl
set_option maxRecDepth 20000 in
theorem u_ja_fillI (d : Nat) (a0 : Nat) (v1 : Int) (M : aM) : w_ja_fillI (d + 1) a0 v1 M = (
    let v13 : Int := ((aLen a0 : Nat) : Int)
    w_ja_fillI_5 d a0 v1 0 v13 M) :=
  (aOm_fix (aSem d) K_ja_fillI 0 _ [] M).trans rfl
set_option maxRecDepth 20000 in
theorem u_ja_fillI_5 (d : Nat) (a0 : Nat) (v1 : Int) (v2 : Int) (v3 : Int) (M : aM) : w_ja_fillI_5 d a0 v1 v2 v3 M = (
    if v2 < v3 then
      inb v2 (aLen a0) <|
      let M15 : aM := aUp M a0 v2.toNat v1
      let v16 : Int := w32 (v2 + 1)
      w_ja_fillI_5 d a0 v1 v16 v3 M15
    else
      some ([], M)) :=
  (aOm_fix _ _ _ _ _ _).trans rfl
set_option maxRecDepth 20000 in
theorem u_jp_checkIndex (d : Nat) (v0 : Int) (v1 : Int) (M : aM) : w_jp_checkIndex (d + 1) v0 v1 M = (
    if v0 < 0 then
      none
    else
      if v0 < v1 then
        some ([aI v0], M)
      else
        none) :=
  (aOm_fix (aSem d) K_jp_checkIndex 0 _ [] M).trans rfl
end
