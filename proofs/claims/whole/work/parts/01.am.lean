/-! An abstract machine over a memory of whole numbers: objects by their number, a place by its number. -/
abbrev aV : Type := Int ⊕ Int ⊕ (Nat × Nat)
abbrev aM : Type := Nat → Nat → Int
abbrev aL : Type := List (Option aV)
abbrev aR : Type := Option (List aV × aM)
abbrev aO : Type := Nat → List aV → aM → aR
/-- pc, mask of a cut, instruction, length, r1, r2, r3, r4, r5, targets of a switch -/
abbrev aE : Type := Nat × Option (List Bool) × Instr × Nat × Nat × Nat × Nat × Nat × Int × List (Int × Nat)
abbrev aI (x : Int) : aV := .inl x
abbrev aJ (x : Int) : aV := .inr (.inl x)
abbrev aQ (t a : Nat) : aV := .inr (.inr (t, a))
theorem w32_ex : ∃ f : Int → Int, ∀ x : Int, f x = (x + 2147483648) % 4294967296 - 2147483648 := ⟨fun x => (x + 2147483648) % 4294967296 - 2147483648, fun _  => rfl⟩
noncomputable def w32 : Int → Int := Classical.choose w32_ex
theorem w32_def (x : Int) : w32 x = (x + 2147483648) % 4294967296 - 2147483648 := Classical.choose_spec w32_ex x
theorem w64_ex : ∃ f : Int → Int, ∀ x : Int, f x = (x + 9223372036854775808) % 18446744073709551616 - 9223372036854775808 := ⟨fun x => (x + 9223372036854775808) % 18446744073709551616 - 9223372036854775808, fun _  => rfl⟩
noncomputable def w64 : Int → Int := Classical.choose w64_ex
theorem w64_def (x : Int) : w64 x = (x + 9223372036854775808) % 18446744073709551616 - 9223372036854775808 := Classical.choose_spec w64_ex x
theorem iand_ex : ∃ f : Int → Int → Int, ∀ x y : Int, f x y = (Int32.ofInt x &&& Int32.ofInt y).toInt := ⟨fun x y => (Int32.ofInt x &&& Int32.ofInt y).toInt, fun _ _  => rfl⟩
noncomputable def iand : Int → Int → Int := Classical.choose iand_ex
theorem iand_def (x y : Int) : iand x y = (Int32.ofInt x &&& Int32.ofInt y).toInt := Classical.choose_spec iand_ex x y
theorem ior_ex : ∃ f : Int → Int → Int, ∀ x y : Int, f x y = (Int32.ofInt x ||| Int32.ofInt y).toInt := ⟨fun x y => (Int32.ofInt x ||| Int32.ofInt y).toInt, fun _ _  => rfl⟩
noncomputable def ior : Int → Int → Int := Classical.choose ior_ex
theorem ior_def (x y : Int) : ior x y = (Int32.ofInt x ||| Int32.ofInt y).toInt := Classical.choose_spec ior_ex x y
theorem ixor_ex : ∃ f : Int → Int → Int, ∀ x y : Int, f x y = (Int32.ofInt x ^^^ Int32.ofInt y).toInt := ⟨fun x y => (Int32.ofInt x ^^^ Int32.ofInt y).toInt, fun _ _  => rfl⟩
noncomputable def ixor : Int → Int → Int := Classical.choose ixor_ex
theorem ixor_def (x y : Int) : ixor x y = (Int32.ofInt x ^^^ Int32.ofInt y).toInt := Classical.choose_spec ixor_ex x y
theorem ishl_ex : ∃ f : Int → Int → Int, ∀ x y : Int, f x y = w32 (x * 2 ^ (y % 32).toNat) := ⟨fun x y => w32 (x * 2 ^ (y % 32).toNat), fun _ _  => rfl⟩
noncomputable def ishl : Int → Int → Int := Classical.choose ishl_ex
theorem ishl_def (x y : Int) : ishl x y = w32 (x * 2 ^ (y % 32).toNat) := Classical.choose_spec ishl_ex x y
theorem ishr_ex : ∃ f : Int → Int → Int, ∀ x y : Int, f x y = x / 2 ^ (y % 32).toNat := ⟨fun x y => x / 2 ^ (y % 32).toNat, fun _ _  => rfl⟩
noncomputable def ishr : Int → Int → Int := Classical.choose ishr_ex
theorem ishr_def (x y : Int) : ishr x y = x / 2 ^ (y % 32).toNat := Classical.choose_spec ishr_ex x y
theorem iushr_ex : ∃ f : Int → Int → Int, ∀ x y : Int, f x y = w32 (x % 4294967296 / 2 ^ (y % 32).toNat) := ⟨fun x y => w32 (x % 4294967296 / 2 ^ (y % 32).toNat), fun _ _  => rfl⟩
noncomputable def iushr : Int → Int → Int := Classical.choose iushr_ex
theorem iushr_def (x y : Int) : iushr x y = w32 (x % 4294967296 / 2 ^ (y % 32).toNat) := Classical.choose_spec iushr_ex x y
theorem idiv_ex : ∃ f : Int → Int → Int, ∀ x y : Int, f x y = w32 (x.tdiv y) := ⟨fun x y => w32 (x.tdiv y), fun _ _  => rfl⟩
noncomputable def idiv : Int → Int → Int := Classical.choose idiv_ex
theorem idiv_def (x y : Int) : idiv x y = w32 (x.tdiv y) := Classical.choose_spec idiv_ex x y
theorem irem_ex : ∃ f : Int → Int → Int, ∀ x y : Int, f x y = x.tmod y := ⟨fun x y => x.tmod y, fun _ _  => rfl⟩
noncomputable def irem : Int → Int → Int := Classical.choose irem_ex
theorem irem_def (x y : Int) : irem x y = x.tmod y := Classical.choose_spec irem_ex x y
theorem ldiv_ex : ∃ f : Int → Int → Int, ∀ x y : Int, f x y = w64 (x.tdiv y) := ⟨fun x y => w64 (x.tdiv y), fun _ _  => rfl⟩
noncomputable def ldiv : Int → Int → Int := Classical.choose ldiv_ex
theorem ldiv_def (x y : Int) : ldiv x y = w64 (x.tdiv y) := Classical.choose_spec ldiv_ex x y
theorem lrem_ex : ∃ f : Int → Int → Int, ∀ x y : Int, f x y = x.tmod y := ⟨fun x y => x.tmod y, fun _ _  => rfl⟩
noncomputable def lrem : Int → Int → Int := Classical.choose lrem_ex
theorem lrem_def (x y : Int) : lrem x y = x.tmod y := Classical.choose_spec lrem_ex x y
def lcmp (x y : Int) : Int := if x < y then -1 else if x = y then 0 else 1
def imax (x y : Int) : Int := if x < y then y else x
def imin (x y : Int) : Int := if x < y then x else y
noncomputable def iabs (x : Int) : Int := if x < 0 then w32 (-x) else x
def aUp (M : aM) (a j : Nat) (x : Int) : aM := fun b k => if b = a ∧ k = j then x else M b k
def aCpy (M : aM) (a b : Nat) (sp dp n : Nat) : aM := fun c k => if c = b ∧ dp ≤ k ∧ k < dp + n then M a (sp + (k - dp)) else M c k
def aNth : aL → Nat → Option aV
  | [], _ => none
  | o :: _, 0 => o
  | _ :: l, n + 1 => aNth l n
def aSet : aL → Nat → Option aV → aL
  | [], _, _ => []
  | _ :: l, 0, v => v :: l
  | o :: l, n + 1, v => o :: aSet l n v
def aMsk : List Bool → aL → aL
  | true :: m, o :: l => o :: aMsk m l
  | false :: m, _ :: l => none :: aMsk m l
  | _, _ => []
def aLk : List Nat → Nat → Nat
  | [], _ => 0
  | x :: _, 0 => x
  | _ :: l, n + 1 => aLk l n
def aFind : List aE → Nat → List aE
  | [], _ => []
  | e :: l, pc => bif Nat.beq e.1 pc then e :: l else aFind l pc
def inb (i : Int) (n : Nat) (k : aR) : aR := if 0 ≤ i ∧ i < n then k else none
def aI1 (st : List aV) (f : Int → List aV → aR) : aR := match st with | .inl x :: r => f x r | _ => none
def aI2 (st : List aV) (f : Int → Int → List aV → aR) : aR := match st with | .inl y :: .inl x :: r => f x y r | _ => none
def aJ1 (st : List aV) (f : Int → List aV → aR) : aR := match st with | .inr (.inl x) :: r => f x r | _ => none
def aJ2 (st : List aV) (f : Int → Int → List aV → aR) : aR := match st with | .inr (.inl y) :: .inr (.inl x) :: r => f x y r | _ => none
def aQ1 (t : Nat) (st : List aV) (f : Nat → List aV → aR) : aR := match st with | .inr (.inr (t', a)) :: r => bif Nat.beq t' t then f a r else none | _ => none
/-- a store to a place behind a long of two places is none of this machine's -/
def aSt (ls : aL) (i : Nat) (v : aV) (k : aL → aR) : aR := match i with
  | 0 => k (aSet ls 0 (some v))
  | j + 1 => match aNth ls j with
    | some (.inr (.inl _)) => none
    | _ => k (aSet ls (j + 1) (some v))
def bndV (x : aR) (k : aM → aR) : aR := match x with | some ([], M) => k M | _ => none
def bndI (x : aR) (k : Int → aM → aR) : aR := match x with | some ([.inl v], M) => k v M | _ => none
def bndJ (x : aR) (k : Int → aM → aR) : aR := match x with | some ([.inr (.inl v)], M) => k v M | _ => none
def bndS (x : aR) (k : Nat → aM → aR) : aR := match x with | some ([.inr (.inr (24, a))], M) => k a M | _ => none
def aBool (x : Int) (k : aR) : aR := if x = 0 then k else if x = 1 then k else none
def aSw (x : Int) (d : aR) (j : Nat → aR) : List (Int × Nat) → aR
  | [] => d
  | q :: l => if x = q.1 then j q.2 else aSw x d j l
/-- the lengths of the rows, by the objects' numbers -/
def aLens : List Nat := [0, 0, 0, 10, 10, 10, 10, 0, 400, 32, 0, 64, 0, 64, 0, 64, 0, 32, 0, 600, 0, 48, 0, 32, 0, 56, 0, 80, 0, 36, 10, 10, 0, 0, 10, 10, 10, 10, 0, 400, 32, 0, 64, 0, 64, 0, 64, 0, 32, 0, 600, 0, 48, 0, 32, 0, 56, 0, 80, 0, 36, 10, 10, 0, 0, 10, 10, 10, 10, 0, 400, 32, 0, 64, 0, 64, 0, 64, 0, 32, 0, 600, 0, 48, 0, 32, 0, 56, 0, 80, 0, 36, 10, 10, 0, 6, 6, 0, 10, 10, 10, 10, 0, 10, 10, 10, 10, 0, 10, 10, 10, 10, 0, 10, 10, 10, 10, 0, 10, 10, 10, 10, 0, 10, 10, 10, 10, 0, 400, 400, 400, 400, 0, 0, 400, 32, 0, 64, 0, 64, 32, 0, 10, 1024, 1024, 100, 0, 10, 10, 256, 0, 256, 8, 7, 70, 231, 210, 0, 1768, 1768, 246, 41, 64, 820, 48, 400, 420, 11, 10, 1024, 10496, 8, 10, 256, 7, 210, 231]
def aLen (a : Nat) : Nat := aLk aLens a
/-- the String constants: their signs' numbers -/
def aStrs : List (List Nat) := [[99, 111, 109, 101, 32, 108, 111, 110, 103, 32, 115, 104, 121, 32, 119, 104, 101, 110, 32, 111, 114, 32, 97, 110, 100, 32, 110, 111, 116, 32, 100, 101, 101, 114, 32, 109, 97, 114, 107, 32, 99, 97, 108, 109, 32, 115, 105, 110, 99, 101, 32, 99, 97, 109, 101, 32, 115, 97, 108, 116, 32, 110, 111, 105, 115, 101, 32, 103, 97, 116, 101, 32, 115, 101, 97, 115, 111, 110, 32, 116, 111, 100, 97, 121], [111, 110, 32, 115, 97, 108, 116, 32, 110, 111, 105, 115, 101, 32, 103, 97, 116, 101, 32, 101, 97, 116, 32, 102, 114, 101, 101], [100, 117, 101, 32, 111, 110, 32, 97, 102, 116, 101, 114], [102, 101, 97, 115, 116, 32, 102, 111, 114], [59, 43, 45, 42, 47, 40, 41, 60, 61, 62], [119, 104, 101, 110], [111, 114], [97, 110, 100], [110, 111, 116], [99, 111, 109, 101], [108, 111, 110, 103], [115, 104, 121], [100, 101, 101, 114], [109, 97, 114, 107], [99, 97, 108, 109], [115, 105, 110, 99, 101], [99, 97, 109, 101], [115, 97, 108, 116], [110, 111, 105, 115, 101], [103, 97, 116, 101], [115, 101, 97, 115, 111, 110], [116, 111, 100, 97, 121], [111, 110], [101, 97, 116], [102, 114, 101, 101], [100, 117, 101], [97, 102, 116, 101, 114], [102, 101, 97, 115, 116], [102, 111, 114]]
def aStrL (k : Nat) : List Nat := aStrs.getD k []
def aChr (k : Nat) (i : Int) : Int := ((aStrL k).getD i.toNat 0 : Nat)
def aIdx : List Nat → Int → Int → Int
  | [], _, _ => -1
  | c :: l, x, n => if (c : Int) = x then n else aIdx l x (n + 1)
/-- a builtin's answer: the calls that the kit's rows pay -/
noncomputable def aBlt (f : Nat) (st : List aV) (ls : aL) (M : aM) (kf : aL → List aV → aM → aR) : aR := match f with
  | 0 => match st with
    | .inl n :: .inl dp :: .inr (.inr (t2, b)) :: .inl sp :: .inr (.inr (t1, a)) :: r => bif Nat.beq t1 20 && Nat.beq t2 20 then (if 0 ≤ n ∧ 0 ≤ sp ∧ 0 ≤ dp ∧ sp + n ≤ aLen a ∧ dp + n ≤ aLen b then kf ls r (aCpy M a b sp.toNat dp.toNat n.toNat) else none) else none
    | _ => none
  | 1 => aQ1 24 st fun k r => kf ls (aI (aStrL k).length :: r) M
  | 2 => aI1 st fun i r => aQ1 24 r fun k r => inb i (aStrL k).length (kf ls (aI (aChr k i) :: r) M)
  | 3 => aI1 st fun x r => aQ1 24 r fun k r => kf ls (aI (aIdx (aStrL k) x 0) :: r) M
  | 4 => aI2 st fun x y r => kf ls (aI (imax x y) :: r) M
  | 5 => aI2 st fun x y r => kf ls (aI (imin x y) :: r) M
  | 6 => aI1 st fun x r => kf ls (aI (iabs x) :: r) M
  | 7 => aJ2 st fun x y r => kf ls (aJ (imin x y) :: r) M
  | _ => none
/-- one instruction: kf falls through, kj jumps, a return answers -/
noncomputable def aEx (O : aO) (e : aE) (ls : aL) (st : List aV) (M : aM) (kf : aL → List aV → aM → aR) (kj : Nat → aL → List aV → aM → aR) : aR :=
  match e with
  | (_, _, i, _, r1, r2, r3, r4, r5, sw) => match i with
    | .iload _ | .iload_n _ => match aNth ls r1 with | some (.inl x) => kf ls (aI x :: st) M | _ => none
    | .lload _ | .lload_n _ => match aNth ls r1 with | some (.inr (.inl x)) => kf ls (aJ x :: st) M | _ => none
    | .aload _ | .aload_n _ => match aNth ls r1 with | some (.inr (.inr q)) => kf ls (.inr (.inr q) :: st) M | _ => none
    | .istore _ | .istore_n _ => aI1 st fun x r => aSt ls r1 (aI x) fun ls => kf ls r M
    | .astore _ | .astore_n _ => match st with | .inr (.inr q) :: r => aSt ls r1 (.inr (.inr q)) fun ls => kf ls r M | _ => none
    | .lstore _ | .lstore_n _ => aJ1 st fun x r => aSt ls r1 (aJ x) fun ls => kf (aSet ls (r1 + 1) none) r M
    | .iinc _ n => match aNth ls r1 with | some (.inl x) => kf (aSet ls r1 (some (aI (w32 (x + n))))) st M | _ => none
    | .iconst v | .bipush v | .sipush v => kf ls (aI v :: st) M
    | .lconst _ | .ldc2_w _ => kf ls (aJ r5 :: st) M
    | .ldc _ | .ldc_w _ => match r1 with | 0 => kf ls (aI r5 :: st) M | _ => kf ls (aQ 24 r2 :: st) M
    | .iadd => aI2 st fun x y r => kf ls (aI (w32 (x + y)) :: r) M
    | .isub => aI2 st fun x y r => kf ls (aI (w32 (x - y)) :: r) M
    | .imul => aI2 st fun x y r => kf ls (aI (w32 (x * y)) :: r) M
    | .idiv => aI2 st fun x y r => if y = 0 then none else kf ls (aI (idiv x y) :: r) M
    | .irem => aI2 st fun x y r => if y = 0 then none else kf ls (aI (irem x y) :: r) M
    | .ineg => aI1 st fun x r => kf ls (aI (w32 (-x)) :: r) M
    | .iand => aI2 st fun x y r => kf ls (aI (iand x y) :: r) M
    | .ior => aI2 st fun x y r => kf ls (aI (ior x y) :: r) M
    | .ixor => aI2 st fun x y r => kf ls (aI (ixor x y) :: r) M
    | .ishl => aI2 st fun x y r => kf ls (aI (ishl x y) :: r) M
    | .ishr => aI2 st fun x y r => kf ls (aI (ishr x y) :: r) M
    | .iushr => aI2 st fun x y r => kf ls (aI (iushr x y) :: r) M
    | .i2c => aI1 st fun x r => kf ls (aI (x % 65536) :: r) M
    | .i2l => aI1 st fun x r => kf ls (aJ x :: r) M
    | .l2i => aJ1 st fun x r => kf ls (aI (w32 x) :: r) M
    | .ladd => aJ2 st fun x y r => kf ls (aJ (w64 (x + y)) :: r) M
    | .lsub => aJ2 st fun x y r => kf ls (aJ (w64 (x - y)) :: r) M
    | .lmul => aJ2 st fun x y r => kf ls (aJ (w64 (x * y)) :: r) M
    | .ldiv => aJ2 st fun x y r => if y = 0 then none else kf ls (aJ (ldiv x y) :: r) M
    | .lrem => aJ2 st fun x y r => if y = 0 then none else kf ls (aJ (lrem x y) :: r) M
    | .lcmp => aJ2 st fun x y r => kf ls (aI (lcmp x y) :: r) M
    | .dup => match st with | .inl x :: r => kf ls (aI x :: aI x :: r) M | .inr (.inr q) :: r => kf ls (.inr (.inr q) :: .inr (.inr q) :: r) M | _ => none
    | .dup2 => match st with | .inl y :: .inr (.inr q) :: r => kf ls (aI y :: .inr (.inr q) :: aI y :: .inr (.inr q) :: r) M | _ => none
    | .pop => match st with | .inl _ :: r => kf ls r M | _ => none
    | .goto _ => kj r1 ls st M
    | .if_icmp c _ => aI2 st fun x y r => match c with
      | .eq => if x = y then kj r1 ls r M else kf ls r M
      | .ne => if x = y then kf ls r M else kj r1 ls r M
      | .lt => if x < y then kj r1 ls r M else kf ls r M
      | .ge => if x < y then kf ls r M else kj r1 ls r M
      | .gt => if y < x then kj r1 ls r M else kf ls r M
      | .le => if y < x then kf ls r M else kj r1 ls r M
    | .ifCond c _ => aI1 st fun x r => match c with
      | .eq => if x = 0 then kj r1 ls r M else kf ls r M
      | .ne => if x = 0 then kf ls r M else kj r1 ls r M
      | .lt => if x < 0 then kj r1 ls r M else kf ls r M
      | .ge => if x < 0 then kf ls r M else kj r1 ls r M
      | .gt => if 0 < x then kj r1 ls r M else kf ls r M
      | .le => if 0 < x then kf ls r M else kj r1 ls r M
    | .ifnonnull _ => match st with | .inr (.inr _) :: r => kj r1 ls r M | _ => none
    | .tableswitch .. | .lookupswitch .. => aI1 st fun x r => aSw x (kj r1 ls r M) (fun t => kj t ls r M) sw
    | .getfield _ => aQ1 r1 st fun a r => match r3 with | 0 => kf ls (aI (M a r2) :: r) M | t + 1 => (match sw with | [] => kf ls (aQ t (a + r4) :: r) M | _ => kf ls (aQ t r4 :: r) M)
    | .putfield _ => aI1 st fun x r => aQ1 r1 r fun a r => match r3 with | 0 => kf ls r (aUp M a r2 x) | _ => aBool x (kf ls r (aUp M a r2 x))
    | .iaload => aI1 st fun i r => match r with
      | .inr (.inr (20, a)) :: r => inb i (aLen a) (kf ls (aI (M a i.toNat) :: r) M)
      | .inr (.inr (23, _)) :: r => inb i (M 998 0).toNat (kf ls (aI (M 999 i.toNat) :: r) M)
      | _ => none
    | .iastore => aI2 st fun i x r => aQ1 20 r fun a r => inb i (aLen a) (kf ls r (aUp M a i.toNat x))
    | .laload => aI1 st fun i r => aQ1 21 r fun a r => inb i (aLen a) (kf ls (aJ (M a i.toNat) :: r) M)
    | .lastore => aJ1 st fun x r => aI1 r fun i r => aQ1 21 r fun a r => inb i (aLen a) (kf ls r (aUp M a i.toNat x))
    | .aaload => aI1 st fun i r => aQ1 22 r fun a r => inb i (aLen a) (kf ls (aQ 8 (a + 2 + 5 * i.toNat) :: r) M)
    | .arraylength => match st with
      | .inr (.inr (20, a)) :: r => kf ls (aI (aLen a) :: r) M
      | .inr (.inr (21, a)) :: r => kf ls (aI (aLen a) :: r) M
      | .inr (.inr (23, _)) :: r => kf ls (aI (M 998 0) :: r) M
      | _ => none
    | .invokevirtual _ | .invokestatic _ => match r3 with
      | 0 => aBlt r1 st ls M kf
      | 1 => bndV (O r1 (st.take r2).reverse M) fun M => kf ls (st.drop r2) M
      | 2 => bndI (O r1 (st.take r2).reverse M) fun v M => kf ls (aI v :: st.drop r2) M
      | 3 => bndJ (O r1 (st.take r2).reverse M) fun v M => kf ls (aJ v :: st.drop r2) M
      | _ => bndS (O r1 (st.take r2).reverse M) fun k M => kf ls (aQ 24 k :: st.drop r2) M
    | .ireturn => match st with | [.inl x] => (match r1 with | 0 => some ([aI x], M) | _ => aBool x (some ([aI x], M))) | _ => none
    | .lreturn => match st with | [.inr (.inl x)] => some ([aJ x], M) | _ => none
    | .areturn => match st with | [.inr (.inr q)] => some ([.inr (.inr q)], M) | _ => none
    | .return_ => match st with | [] => some ([], M) | _ => none
    | _ => none
/-- on from a place that isn't a cut to the next cut, which k answers -/
noncomputable def aSeg (O : aO) (cod : List aE) (k : Nat → aL → List aV → aM → aR) (g : Nat) : List aE → aL → List aV → aM → aR :=
  Nat.rec (motive := fun _ => List aE → aL → List aV → aM → aR) (fun _ _ _ _ => none) (fun _ ih l ls st M => match l with
    | [] => none
    | e :: l => aEx O e ls st M
      (fun ls st M => match l with | [] => none | e2 :: l2 => match e2.2.1 with | none => ih (e2 :: l2) ls st M | some m => k e2.1 (aMsk m ls) st M)
      (fun t ls st M => match aFind cod t with | [] => none | e2 :: l2 => match e2.2.1 with | none => ih (e2 :: l2) ls st M | some m => k e2.1 (aMsk m ls) st M)) g
noncomputable def aEv (O : aO) (cod : List aE) (n : Nat) : Nat → aL → List aV → aM → aR :=
  Nat.rec (motive := fun _ => Nat → aL → List aV → aM → aR) (fun _ _ _ _ => none) (fun _ ih pc ls st M => aSeg O cod ih 3000 (aFind cod pc) ls st M) n
noncomputable def aLim (f : Nat → aR) : aR := @dite _ (∃ r n, f n = some r) (Classical.propDecidable _) (fun h => some (Classical.choose h)) (fun _ => none)
noncomputable def aOm (O : aO) (cod : List aE) (pc : Nat) (ls : aL) (st : List aV) (M : aM) : aR := aLim fun n => aEv O cod n pc ls st M
theorem aOm_fix (O : aO) (cod : List aE) (pc : Nat) (ls : aL) (st : List aV) (M : aM) : aOm O cod pc ls st M = aSeg O cod (aOm O cod) 3000 (aFind cod pc) ls st M := sorry
