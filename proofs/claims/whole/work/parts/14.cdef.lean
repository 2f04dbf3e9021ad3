/-! The constructors: an abstract machine of their own, over lists of entries; a reference is told by its distance from the first. -/
abbrev ctV : Type := Nat × Int
abbrev ctE : Type := (Nat × List ctV) ⊕ (Nat × Nat × List (Nat × ctV))
abbrev ctI : Type := Nat × Nat × Nat × Nat × Int × Nat
abbrev ctL : Type := List (Nat × ctV)
def ctVal (base : Nat) (v : ctV) : Value := if v.1 = 0 then .int (Int32.ofInt v.2) else if v.1 = 1 then .ref ((base : Int) + v.2).toNat else if v.1 = 2 then .null else .long (Int64.ofInt v.2)
def ctInt : ctL → Nat → Int
  | [], _ => 0
  | (i, v) :: l, j => if j = i then v.2 else ctInt l j
def ctRef (base : Nat) : ctL → Nat → Option Nat
  | [], _ => none
  | (i, v) :: l, j => if j = i then some ((base : Int) + v.2).toNat else ctRef base l j
def ctEnt (cI cJ cO : ClassId) (base : Nat) (x : ctE) : va_E := match x with
  | .inl (ci, fs) => .inr (ci, fs.map (ctVal base))
  | .inr (0, n, l) => .inl (cI, n, .inl fun j => Int32.ofInt (ctInt l j))
  | .inr (1, n, _) => .inl (cJ, n, .inr (.inl fun _ => 0))
  | .inr (_, n, l) => .inl (cO, n, .inr (.inr (.inr (.inr (ctRef base l)))))
def ctGet (l : ctL) (a : Nat) : Option ctV := (l.find? fun q => Nat.beq q.1 a).map (·.2)
def ctSh (k : Int) (v : ctV) : ctV := if v.1 = 1 then (1, v.2 + k) else v
def ctShE (k : Int) (x : ctE) : ctE := match x with
  | .inl (ci, fs) => .inl (ci, fs.map (ctSh k))
  | .inr (t, n, l) => .inr (t, n, l.map fun q => (q.1, (q.2.1, if t = 0 ∨ t = 1 then q.2.2 else q.2.2 + k)))
/-- an instruction as it is written, and its length -/
def ctIns (q : ctI) : Instr × Nat := match q.2.1 with
  | 0 => (.aload_n (Fin.ofNat 4 q.2.2.1), 1)
  | 1 => (.iload_n (Fin.ofNat 4 q.2.2.1), 1)
  | 2 => (.iconst q.2.2.2.2.1, 1)
  | 3 => (.bipush q.2.2.2.2.1, 2)
  | 4 => (.sipush q.2.2.2.2.1, 3)
  | 5 => (.dup, 1)
  | 6 => (.new q.2.2.1, 3)
  | 7 => (.newarray .int, 2)
  | 8 => (.newarray .long, 2)
  | 9 => (.anewarray q.2.2.1, 3)
  | 10 => (.putfield q.2.2.1, 3)
  | 11 => (.getfield q.2.2.1, 3)
  | 12 => (.invokespecial q.2.2.1, 3)
  | 13 => (.invokespecial q.2.2.1, 3)
  | 14 => (.aastore, 1)
  | 15 => (.iastore, 1)
  | 16 => (.return_, 1)
  | 17 => (.invokestatic q.2.2.1, 3)
  | 18 => (.imul, 1)
  | 19 => (.istore_n (Fin.ofNat 4 q.2.2.1), 1)
  | 20 => (.if_icmp .ge q.2.2.2.2.1, 3)
  | 21 => (.iinc q.2.2.1 q.2.2.2.2.1, 3)
  | _ => (.goto q.2.2.2.2.1, 3)
def ctEqB : ctE → ctE → Bool
  | .inl (a, l), .inl (b, k) => Nat.beq a b && decide (l = k)
  | .inr (a, n, l), .inr (b, m, k) => Nat.beq a b && Nat.beq n m && decide (l.map (fun q => (q.1, q.2.1)) = k.map fun q => (q.1, q.2.1)) && decide (l.map (fun q => q.2.2) = k.map fun q => q.2.2)
  | _, _ => false
def ctCod0 : List ctI := [(0, 0, 0, 0, 0, 0), (1, 12, 3, 0, 0, 0), (4, 0, 0, 0, 0, 0), (5, 3, 0, 0, 6, 0), (7, 9, 9, 0, 0, 0), (10, 10, 11, 0, 0, 0), (13, 0, 0, 0, 0, 0), (14, 3, 0, 0, 6, 0), (16, 7, 0, 0, 0, 0), (18, 10, 17, 1, 0, 0), (21, 2, 0, 0, 0, 0), (22, 19, 1, 0, 0, 0), (23, 1, 1, 0, 0, 0), (24, 3, 0, 0, 6, 0), (26, 20, 0, 0, 22, 48), (29, 0, 0, 0, 0, 0), (30, 11, 11, 0, 0, 0), (33, 1, 1, 0, 0, 0), (34, 6, 9, 8, 0, 0), (37, 5, 0, 0, 0, 0), (38, 13, 21, 8, 0, 1), (41, 14, 0, 0, 0, 0), (42, 21, 1, 0, 1, 0), (45, 22, 0, 0, -22, 23), (48, 16, 0, 0, 0, 0)]
def ctCod1 : List ctI := [(0, 0, 0, 0, 0, 0), (1, 12, 3, 0, 0, 0), (4, 0, 0, 0, 0, 0), (5, 3, 0, 0, 10, 0), (7, 7, 0, 0, 0, 0), (9, 10, 9, 0, 0, 0), (12, 0, 0, 0, 0, 0), (13, 3, 0, 0, 10, 0), (15, 7, 0, 0, 0, 0), (17, 10, 15, 1, 0, 0), (20, 0, 0, 0, 0, 0), (21, 4, 0, 0, 256, 0), (24, 7, 0, 0, 0, 0), (26, 10, 18, 2, 0, 0), (29, 16, 0, 0, 0, 0)]
def ctCod2 : List ctI := [(0, 0, 0, 0, 0, 0), (1, 12, 3, 0, 0, 0), (4, 0, 0, 0, 0, 0), (5, 4, 0, 0, 400, 0), (8, 7, 0, 0, 0, 0), (10, 10, 9, 0, 0, 0), (13, 0, 0, 0, 0, 0), (14, 3, 0, 0, 32, 0), (16, 7, 0, 0, 0, 0), (18, 10, 15, 1, 0, 0), (21, 0, 0, 0, 0, 0), (22, 6, 18, 5, 0, 0), (25, 5, 0, 0, 0, 0), (26, 3, 0, 0, 16, 0), (28, 13, 20, 5, 1, 0), (31, 10, 23, 2, 0, 0), (34, 16, 0, 0, 0, 0)]
def ctCod3 : List ctI := [(0, 0, 0, 0, 0, 0), (1, 12, 3, 0, 0, 0), (4, 0, 0, 0, 0, 0), (5, 3, 0, 0, 10, 0), (7, 7, 0, 0, 0, 0), (9, 10, 9, 0, 0, 0), (12, 0, 0, 0, 0, 0), (13, 4, 0, 0, 1024, 0), (16, 7, 0, 0, 0, 0), (18, 10, 15, 1, 0, 0), (21, 0, 0, 0, 0, 0), (22, 4, 0, 0, 1024, 0), (25, 7, 0, 0, 0, 0), (27, 10, 18, 2, 0, 0), (30, 0, 0, 0, 0, 0), (31, 3, 0, 0, 100, 0), (33, 7, 0, 0, 0, 0), (35, 10, 21, 3, 0, 0), (38, 16, 0, 0, 0, 0)]
def ctCod4 : List ctI := [(0, 0, 0, 0, 0, 0), (1, 12, 5, 0, 0, 0), (4, 0, 0, 0, 0, 0), (5, 6, 11, 2, 0, 0), (8, 5, 0, 0, 0, 0), (9, 13, 13, 2, 0, 1), (12, 10, 14, 0, 0, 0), (15, 0, 0, 0, 0, 0), (16, 6, 20, 5, 0, 0), (19, 5, 0, 0, 0, 0), (20, 3, 0, 0, 16, 0), (22, 13, 22, 5, 1, 0), (25, 10, 25, 1, 0, 0), (28, 0, 0, 0, 0, 0), (29, 2, 0, 0, -1, 0), (30, 10, 29, 3, 0, 0), (33, 0, 0, 0, 0, 0), (34, 3, 0, 0, 32, 0), (36, 7, 0, 0, 0, 0), (38, 10, 33, 4, 0, 0), (41, 0, 0, 0, 0, 0), (42, 0, 1, 0, 0, 0), (43, 10, 37, 5, 0, 0), (46, 16, 0, 0, 0, 0)]
def ctCod5 : List ctI := [(0, 0, 0, 0, 0, 0), (1, 12, 3, 0, 0, 0), (4, 0, 0, 0, 0, 0), (5, 2, 0, 0, 0, 0), (6, 1, 1, 0, 0, 0), (7, 17, 9, 0, 0, 0), (10, 10, 15, 0, 0, 0), (13, 0, 0, 0, 0, 0), (14, 2, 0, 0, 0, 0), (15, 1, 1, 0, 0, 0), (16, 17, 9, 0, 0, 0), (19, 2, 0, 0, 4, 0), (20, 18, 0, 0, 0, 0), (21, 7, 0, 0, 0, 0), (23, 10, 21, 1, 0, 0), (26, 0, 0, 0, 0, 0), (27, 2, 0, 0, 0, 0), (28, 10, 25, 2, 0, 0), (31, 16, 0, 0, 0, 0)]
def ctCod6 : List ctI := [(0, 0, 0, 0, 0, 0), (1, 12, 3, 0, 0, 0), (4, 0, 0, 0, 0, 0), (5, 4, 0, 0, 400, 0), (8, 7, 0, 0, 0, 0), (10, 10, 9, 0, 0, 0), (13, 0, 0, 0, 0, 0), (14, 4, 0, 0, 400, 0), (17, 7, 0, 0, 0, 0), (19, 10, 15, 1, 0, 0), (22, 0, 0, 0, 0, 0), (23, 4, 0, 0, 400, 0), (26, 7, 0, 0, 0, 0), (28, 10, 18, 2, 0, 0), (31, 0, 0, 0, 0, 0), (32, 4, 0, 0, 400, 0), (35, 7, 0, 0, 0, 0), (37, 10, 21, 3, 0, 0), (40, 16, 0, 0, 0, 0)]
def ctCod7 : List ctI := [(0, 0, 0, 0, 0, 0), (1, 12, 3, 0, 0, 0), (4, 0, 0, 0, 0, 0), (5, 4, 0, 0, 256, 0), (8, 8, 0, 0, 0, 0), (10, 10, 9, 0, 0, 0), (13, 0, 0, 0, 0, 0), (14, 3, 0, 0, 8, 0), (16, 8, 0, 0, 0, 0), (18, 10, 15, 1, 0, 0), (21, 0, 0, 0, 0, 0), (22, 3, 0, 0, 7, 0), (24, 7, 0, 0, 0, 0), (26, 10, 18, 2, 0, 0), (29, 0, 0, 0, 0, 0), (30, 3, 0, 0, 70, 0), (32, 7, 0, 0, 0, 0), (34, 10, 22, 3, 0, 0), (37, 0, 0, 0, 0, 0), (38, 4, 0, 0, 231, 0), (41, 7, 0, 0, 0, 0), (43, 10, 25, 4, 0, 0), (46, 0, 0, 0, 0, 0), (47, 4, 0, 0, 210, 0), (50, 7, 0, 0, 0, 0), (52, 10, 28, 5, 0, 0), (55, 16, 0, 0, 0, 0)]
def ctCod8 : List ctI := [(0, 0, 0, 0, 0, 0), (1, 12, 3, 0, 0, 0), (4, 0, 0, 0, 0, 0), (5, 3, 0, 0, 10, 0), (7, 7, 0, 0, 0, 0), (9, 10, 9, 0, 0, 0), (12, 0, 0, 0, 0, 0), (13, 3, 0, 0, 10, 0), (15, 7, 0, 0, 0, 0), (17, 10, 15, 1, 0, 0), (20, 0, 0, 0, 0, 0), (21, 3, 0, 0, 10, 0), (23, 7, 0, 0, 0, 0), (25, 10, 18, 2, 0, 0), (28, 0, 0, 0, 0, 0), (29, 3, 0, 0, 10, 0), (31, 7, 0, 0, 0, 0), (33, 10, 21, 3, 0, 0), (36, 0, 0, 0, 0, 0), (37, 2, 0, 0, -1, 0), (38, 10, 24, 11, 0, 0), (41, 16, 0, 0, 0, 0)]
def ctCod9 : List ctI := [(0, 0, 0, 0, 0, 0), (1, 12, 3, 0, 0, 0), (4, 0, 0, 0, 0, 0), (5, 6, 9, 8, 0, 0), (8, 5, 0, 0, 0, 0), (9, 13, 11, 8, 0, 1), (12, 10, 12, 0, 0, 0), (15, 0, 0, 0, 0, 0), (16, 6, 18, 2, 0, 0), (19, 5, 0, 0, 0, 0), (20, 13, 20, 2, 0, 1), (23, 10, 21, 1, 0, 0), (26, 0, 0, 0, 0, 0), (27, 6, 25, 5, 0, 0), (30, 5, 0, 0, 0, 0), (31, 3, 0, 0, 16, 0), (33, 13, 27, 5, 1, 0), (36, 10, 30, 2, 0, 0), (39, 0, 0, 0, 0, 0), (40, 6, 25, 5, 0, 0), (43, 5, 0, 0, 0, 0), (44, 3, 0, 0, 16, 0), (46, 13, 27, 5, 1, 0), (49, 10, 34, 3, 0, 0), (52, 0, 0, 0, 0, 0), (53, 6, 25, 5, 0, 0), (56, 5, 0, 0, 0, 0), (57, 3, 0, 0, 8, 0), (59, 13, 27, 5, 1, 0), (62, 10, 37, 4, 0, 0), (65, 0, 0, 0, 0, 0), (66, 6, 25, 5, 0, 0), (69, 5, 0, 0, 0, 0), (70, 4, 0, 0, 150, 0), (73, 13, 27, 5, 1, 0), (76, 10, 40, 5, 0, 0), (79, 0, 0, 0, 0, 0), (80, 6, 25, 5, 0, 0), (83, 5, 0, 0, 0, 0), (84, 3, 0, 0, 12, 0), (86, 13, 27, 5, 1, 0), (89, 10, 43, 6, 0, 0), (92, 0, 0, 0, 0, 0), (93, 6, 25, 5, 0, 0), (96, 5, 0, 0, 0, 0), (97, 3, 0, 0, 8, 0), (99, 13, 27, 5, 1, 0), (102, 10, 46, 7, 0, 0), (105, 0, 0, 0, 0, 0), (106, 6, 25, 5, 0, 0), (109, 5, 0, 0, 0, 0), (110, 3, 0, 0, 14, 0), (112, 13, 27, 5, 1, 0), (115, 10, 49, 8, 0, 0), (118, 0, 0, 0, 0, 0), (119, 6, 25, 5, 0, 0), (122, 5, 0, 0, 0, 0), (123, 3, 0, 0, 20, 0), (125, 13, 27, 5, 1, 0), (128, 10, 52, 9, 0, 0), (131, 0, 0, 0, 0, 0), (132, 6, 25, 5, 0, 0), (135, 5, 0, 0, 0, 0), (136, 3, 0, 0, 9, 0), (138, 13, 27, 5, 1, 0), (141, 10, 55, 10, 0, 0), (144, 0, 0, 0, 0, 0), (145, 3, 0, 0, 10, 0), (147, 7, 0, 0, 0, 0), (149, 10, 58, 11, 0, 0), (152, 0, 0, 0, 0, 0), (153, 3, 0, 0, 10, 0), (155, 7, 0, 0, 0, 0), (157, 10, 62, 12, 0, 0), (160, 16, 0, 0, 0, 0)]
def ctCod10 : List ctI := [(0, 0, 0, 0, 0, 0), (1, 12, 1, 0, 0, 0), (4, 0, 0, 0, 0, 0), (5, 6, 7, 9, 0, 0), (8, 5, 0, 0, 0, 0), (9, 13, 9, 9, 0, 1), (12, 10, 10, 0, 0, 0), (15, 0, 0, 0, 0, 0), (16, 6, 7, 9, 0, 0), (19, 5, 0, 0, 0, 0), (20, 13, 9, 9, 0, 1), (23, 10, 16, 1, 0, 0), (26, 0, 0, 0, 0, 0), (27, 6, 7, 9, 0, 0), (30, 5, 0, 0, 0, 0), (31, 13, 9, 9, 0, 1), (34, 10, 19, 2, 0, 0), (37, 0, 0, 0, 0, 0), (38, 6, 22, 0, 0, 0), (41, 5, 0, 0, 0, 0), (42, 13, 24, 0, 0, 0), (45, 10, 25, 3, 0, 0), (48, 0, 0, 0, 0, 0), (49, 6, 29, 6, 0, 0), (52, 5, 0, 0, 0, 0), (53, 13, 31, 6, 0, 1), (56, 10, 32, 4, 0, 0), (59, 0, 0, 0, 0, 0), (60, 6, 36, 4, 0, 0), (63, 5, 0, 0, 0, 0), (64, 0, 0, 0, 0, 0), (65, 11, 32, 4, 0, 0), (68, 13, 38, 4, 1, 0), (71, 10, 41, 5, 0, 0), (74, 0, 0, 0, 0, 0), (75, 6, 45, 3, 0, 0), (78, 5, 0, 0, 0, 0), (79, 13, 47, 3, 0, 1), (82, 10, 48, 6, 0, 0), (85, 0, 0, 0, 0, 0), (86, 6, 52, 1, 0, 0), (89, 5, 0, 0, 0, 0), (90, 13, 54, 1, 0, 1), (93, 10, 55, 7, 0, 0), (96, 0, 0, 0, 0, 0), (97, 6, 59, 7, 0, 0), (100, 5, 0, 0, 0, 0), (101, 13, 61, 7, 0, 1), (104, 10, 62, 8, 0, 0), (107, 0, 0, 0, 0, 0), (108, 2, 0, 0, 0, 0), (109, 10, 66, 9, 0, 0), (112, 16, 0, 0, 0, 0)]
def ctCod11 : List ctI := [(0, 0, 0, 0, 0, 0), (1, 12, 1, 0, 0, 0), (4, 0, 0, 0, 0, 0), (5, 4, 0, 0, 1768, 0), (8, 7, 0, 0, 0, 0), (10, 10, 7, 0, 0, 0), (13, 0, 0, 0, 0, 0), (14, 4, 0, 0, 1768, 0), (17, 7, 0, 0, 0, 0), (19, 10, 13, 1, 0, 0), (22, 0, 0, 0, 0, 0), (23, 4, 0, 0, 246, 0), (26, 7, 0, 0, 0, 0), (28, 10, 16, 2, 0, 0), (31, 0, 0, 0, 0, 0), (32, 3, 0, 0, 41, 0), (34, 7, 0, 0, 0, 0), (36, 10, 19, 3, 0, 0), (39, 0, 0, 0, 0, 0), (40, 3, 0, 0, 64, 0), (42, 7, 0, 0, 0, 0), (44, 10, 22, 6, 0, 0), (47, 0, 0, 0, 0, 0), (48, 4, 0, 0, 820, 0), (51, 7, 0, 0, 0, 0), (53, 10, 25, 7, 0, 0), (56, 0, 0, 0, 0, 0), (57, 3, 0, 0, 48, 0), (59, 7, 0, 0, 0, 0), (61, 10, 28, 8, 0, 0), (64, 0, 0, 0, 0, 0), (65, 4, 0, 0, 400, 0), (68, 7, 0, 0, 0, 0), (70, 10, 31, 9, 0, 0), (73, 0, 0, 0, 0, 0), (74, 4, 0, 0, 420, 0), (77, 7, 0, 0, 0, 0), (79, 10, 34, 10, 0, 0), (82, 0, 0, 0, 0, 0), (83, 3, 0, 0, 11, 0), (85, 7, 0, 0, 0, 0), (87, 10, 37, 11, 0, 0), (90, 0, 0, 0, 0, 0), (91, 2, 0, 0, -1, 0), (92, 10, 40, 25, 0, 0), (95, 0, 0, 0, 0, 0), (96, 3, 0, 0, 10, 0), (98, 7, 0, 0, 0, 0), (100, 10, 44, 27, 0, 0), (103, 0, 0, 0, 0, 0), (104, 4, 0, 0, 1024, 0), (107, 7, 0, 0, 0, 0), (109, 10, 47, 28, 0, 0), (112, 0, 0, 0, 0, 0), (113, 4, 0, 0, 10496, 0), (116, 7, 0, 0, 0, 0), (118, 10, 50, 29, 0, 0), (121, 0, 0, 0, 0, 0), (122, 3, 0, 0, 8, 0), (124, 7, 0, 0, 0, 0), (126, 10, 53, 30, 0, 0), (129, 0, 0, 0, 0, 0), (130, 3, 0, 0, 10, 0), (132, 7, 0, 0, 0, 0), (134, 10, 56, 31, 0, 0), (137, 0, 0, 0, 0, 0), (138, 4, 0, 0, 256, 0), (141, 7, 0, 0, 0, 0), (143, 10, 59, 32, 0, 0), (146, 0, 0, 0, 0, 0), (147, 3, 0, 0, 7, 0), (149, 7, 0, 0, 0, 0), (151, 10, 62, 34, 0, 0), (154, 0, 0, 0, 0, 0), (155, 4, 0, 0, 210, 0), (158, 7, 0, 0, 0, 0), (160, 10, 65, 35, 0, 0), (163, 0, 0, 0, 0, 0), (164, 4, 0, 0, 231, 0), (167, 7, 0, 0, 0, 0), (169, 10, 68, 36, 0, 0), (172, 0, 0, 0, 0, 0), (173, 11, 7, 0, 0, 0), (176, 2, 0, 0, 1, 0), (177, 2, 0, 0, -1, 0), (178, 15, 0, 0, 0, 0), (179, 16, 0, 0, 0, 0)]
def ctCod (y : Nat) : List ctI := match y with
  | 0 => ctCod0
  | 1 => ctCod1
  | 2 => ctCod2
  | 3 => ctCod3
  | 4 => ctCod4
  | 5 => ctCod5
  | 6 => ctCod6
  | 7 => ctCod7
  | 8 => ctCod8
  | 9 => ctCod9
  | 10 => ctCod10
  | _ => ctCod11
def ctTyL : List (List Nat) := [[2, 2, 0, 0], [2, 2, 2, 0], [2, 2, 2, 0], [2, 2, 2, 2], [2, 2, 0, 0, 2, 2, 0, 0, 0, 0, 0, 0, 0], [0, 2, 0], [2, 2, 2, 2, 0, 0], [2, 2, 2, 2, 2, 2], [2, 2, 2, 2, 0, 0, 0, 0, 0, 0, 0, 0, 0, 0, 0, 0, 0], [2, 2, 2, 2, 2, 2, 2, 2, 2, 2, 2, 2, 2, 0], [2, 2, 2, 2, 2, 2, 2, 2, 2, 1], [2, 2, 2, 2, 0, 1, 2, 2, 2, 2, 2, 2, 0, 0, 0, 0, 0, 0, 0, 0, 0, 0, 0, 0, 0, 0, 1, 2, 2, 2, 2, 2, 2, 0, 2, 2, 2]]
def ctMxL : List Nat := [2, 1, 1, 1, 2, 2, 1, 1, 1, 1, 1, 1]
noncomputable def ctMe (y : Nat) : MethodName × ByteArray := match y with
  | 0 => (⟨"DeerDays$Acts", "<init>", "()V"⟩, prog_2_method_1_code)
  | 1 => (⟨"DeerDays$Labour", "<init>", "()V"⟩, prog_3_method_1_code)
  | 2 => (⟨"DeerDays$Law", "<init>", "()V"⟩, prog_4_method_1_code)
  | 3 => (⟨"DeerDays$Orders", "<init>", "()V"⟩, prog_5_method_1_code)
  | 4 => (⟨"DeerDays$Reader", "<init>", "(LDeerDays$Tape;)V"⟩, prog_6_method_1_code)
  | 5 => (⟨"DeerDays$Rows", "<init>", "(I)V"⟩, prog_7_method_1_code)
  | 6 => (⟨"DeerDays$Tape", "<init>", "()V"⟩, prog_8_method_1_code)
  | 7 => (⟨"DeerDays$Thought", "<init>", "()V"⟩, prog_9_method_1_code)
  | 8 => (⟨"DeerDays$Wood", "<init>", "()V"⟩, prog_10_method_1_code)
  | 9 => (⟨"DeerDays$World", "<init>", "()V"⟩, prog_11_method_1_code)
  | 10 => (⟨"DeerDays", "<init>", "()V"⟩, prog_1_method_1_code)
  | _ => (⟨"DeerDaysModel", "<init>", "()V"⟩, prog_13_method_1_code)
def ctNa (y : Nat) : Nat := match y with
  | 4 => 1
  | 5 => 1
  | _ => 0
def ctCapL : List (Nat × Nat) := [(32, 354), (3, 276), (4, 1035), (4, 2158), (8, 1674), (1, 600), (4, 1600), (6, 782), (4, 40), (30, 6543), (156, 26552), (19, 17838)]
/-- calls of a constructor that is private to a nest mate -/
def ctNw : List (Nat × Nat × Nat) := [(0, 21, 8), (4, 13, 2), (9, 11, 8), (9, 20, 2), (10, 9, 9), (10, 31, 6), (10, 47, 3), (10, 54, 1), (10, 61, 7)]
def ctTy (ci j : Nat) : Nat := (ctTyL.getD ci []).getD j 9
def ctDf (ci : Nat) : ctE := .inl (ci, (ctTyL.getD ci []).map fun t => (if t = 1 then 0 else t, 0))
def ctCap (y : Nat) : Nat × Nat := ctCapL.getD y (0, 0)
def ctMx (y : Nat) : Nat := ctMxL.getD y 0
/-- the words that an instruction wants of the tables -/
noncomputable def ctWd (own : Nat) (q : ctI) : List Cond := match q.2.1 with
  | 6 => [.classLink (aCls own) q.2.2.1 (aCls q.2.2.2.1), .instantiable (aCls q.2.2.2.1) (aNF q.2.2.2.1), .initialized (aCls q.2.2.2.1)]
  | 7 => [.arrayClass .int]
  | 8 => [.arrayClass .long]
  | 9 => [.classLink (aCls own) q.2.2.1 (aCls 8)]
  | 10 => [.fieldLink (aCls own) q.2.2.1 (aCls own) (aT own q.2.2.2.1).2.1 (aT own q.2.2.2.1).2.2.1]
  | 11 => [.fieldLink (aCls own) q.2.2.1 (aCls own) (aT own q.2.2.2.1).2.1 (aT own q.2.2.2.1).2.2.1]
  | 12 => [.methodLink (aCls own) q.2.2.1 objectInit]
  | 13 => if q.2.2.2.2.2 = 0 then [.methodLink (aCls own) q.2.2.1 (ctMe q.2.2.2.1).1] else []
  | 17 => [.methodLink (aCls own) q.2.2.1 Lib.Math.max.name]
  | _ => []
noncomputable def ctNwW (t : Nat × Nat × Nat) : Cond := .methodLinkNest (aCls t.1) t.2.1 (ctMe t.2.2).1 "DeerDays"
def ctNs (U : State) : Prop := ∀ t ∈ ctNw, va_Nw (ctNwW t) U
abbrev ctS : Type := Nat × List ctE × ctL × List ctV × Nat × Nat
/-- may a field of this kind hold this value -/
def ctFit (t : Nat) (v : ctV) : Bool := if t = 0 then Nat.beq v.1 0 else if t = 1 then Nat.beq v.1 0 && decide (v.2 = 0 ∨ v.2 = 1) else if t = 2 then Nat.beq v.1 1 else false
def ctSto (ls : ctL) (a : Nat) (v : ctV) : ctL := (a, v) :: ls.filter fun q => !(Nat.beq q.1 a) && !(Nat.beq (q.1 + 1) a && Nat.ble 3 q.2.1)
def ctSm (x : Int) : Bool := decide (0 ≤ x ∧ x < 20000)
/-- one instruction (none: it isn't one of these, or stands wrong) -/
noncomputable def ctOp (sem : Nat → List ctV → Option (List ctE)) (own nL : Nat) (q : ctI) (E : List ctE) (ls : ctL) (st : List ctV) (nc ns : Nat) : Option ctS := match q.2.1 with
  | 0 => match ctGet ls q.2.2.1 with
    | some (1, z) => bif Nat.blt q.2.2.1 4 then some (q.1 + 1, E, ls, (1, z) :: st, nc, ns) else none
    | _ => none
  | 1 => match ctGet ls q.2.2.1 with
    | some (0, z) => bif Nat.blt q.2.2.1 4 then some (q.1 + 1, E, ls, (0, z) :: st, nc, ns) else none
    | _ => none
  | 2 => some (q.1 + 1, E, ls, (0, q.2.2.2.2.1) :: st, nc, ns)
  | 3 => bif decide ((Int8.ofInt q.2.2.2.2.1).toInt32 = Int32.ofInt q.2.2.2.2.1) then some (q.1 + 2, E, ls, (0, q.2.2.2.2.1) :: st, nc, ns) else none
  | 4 => bif decide ((Int16.ofInt q.2.2.2.2.1).toInt32 = Int32.ofInt q.2.2.2.2.1) then some (q.1 + 3, E, ls, (0, q.2.2.2.2.1) :: st, nc, ns) else none
  | 5 => match st with
    | (1, z) :: st => some (q.1 + 1, E, ls, (1, z) :: (1, z) :: st, nc, ns)
    | _ => none
  | 6 => bif Nat.blt q.2.2.2.1 12 then some (q.1 + 3, E ++ [ctDf q.2.2.2.1], ls, (1, (E.length : Int)) :: st, nc + 1, ns + aNF q.2.2.2.1) else none
  | 7 => match st with
    | (0, n) :: st => bif ctSm n then some (q.1 + 2, E ++ [.inr (0, n.toNat, [])], ls, (1, (E.length : Int)) :: st, nc + 1, ns + n.toNat) else none
    | _ => none
  | 8 => match st with
    | (0, n) :: st => bif ctSm n then some (q.1 + 2, E ++ [.inr (1, n.toNat, [])], ls, (1, (E.length : Int)) :: st, nc + 1, ns + n.toNat) else none
    | _ => none
  | 9 => match st with
    | (0, n) :: st => bif ctSm n then some (q.1 + 3, E ++ [.inr (2, n.toNat, [])], ls, (1, (E.length : Int)) :: st, nc + 1, ns + n.toNat) else none
    | _ => none
  | 10 => match st with
    | v :: (1, z) :: st => match E[z.toNat]? with
      | some (.inl (ci, fs)) => bif decide (0 ≤ z) && Nat.beq ci own && Nat.blt q.2.2.2.1 (aNF own) && Nat.blt q.2.2.2.1 fs.length && ctFit (ctTy own q.2.2.2.1) v then some (q.1 + 3, E.set z.toNat (.inl (own, fs.set q.2.2.2.1 v)), ls, st, nc, ns) else none
      | _ => none
    | _ => none
  | 11 => match st with
    | (1, z) :: st => match E[z.toNat]? with
      | some (.inl (ci, fs)) => match fs[q.2.2.2.1]? with
        | some v => bif decide (0 ≤ z) && Nat.beq ci own && Nat.blt q.2.2.2.1 (aNF own) then some (q.1 + 3, E, ls, v :: st, nc, ns) else none
        | _ => none
      | _ => none
    | _ => none
  | 12 => match st with
    | (1, _) :: st => bif Nat.ble st.length 3 && st.all (fun v => Nat.blt v.1 3) then some (q.1 + 3, E, ls, st, nc, ns) else none
    | _ => none
  | 13 => match st.drop q.2.2.2.2.1.toNat with
    | (1, z) :: rest => match sem q.2.2.2.1 ((st.take q.2.2.2.2.1.toNat).reverse.map (ctSh (-z))) with
      | some E2 => bif (Nat.beq q.2.2.2.2.2 0 || decide ((own, q.2.2.1, q.2.2.2.1) ∈ ctNw)) && decide (z = (E.length : Int) - 1 ∧ 0 ≤ z) && (match E[z.toNat]? with | some x => ctEqB x (ctDf q.2.2.2.1) | none => false) && Nat.blt q.2.2.2.1 12 && decide (q.2.2.2.2.1.toNat = ctNa q.2.2.2.1) && Nat.ble rest.length 3 && rest.all (fun v => Nat.blt v.1 3) then some (q.1 + 3, E.take z.toNat ++ E2.map (ctShE z), ls, rest, nc + (ctCap q.2.2.2.1).1, ns + (ctCap q.2.2.2.1).2) else none
      | none => none
    | _ => none
  | 14 => match st with
    | (1, v) :: (0, i) :: (1, z) :: st => match E[z.toNat]?, E[v.toNat]? with
      | some (.inr (t, n, l)), some (.inl (ci, _)) => bif decide (0 ≤ z) && decide (0 ≤ v) && Nat.beq t 2 && Nat.beq ci 8 && ctSm i && Nat.blt i.toNat n then some (q.1 + 1, E.set z.toNat (.inr (2, n, (i.toNat, (1, v)) :: l)), ls, st, nc, ns) else none
      | _, _ => none
    | _ => none
  | 15 => match st with
    | (0, x) :: (0, i) :: (1, z) :: st => match E[z.toNat]? with
      | some (.inr (t, n, l)) => bif decide (0 ≤ z) && Nat.beq t 0 && ctSm i && Nat.blt i.toNat n then some (q.1 + 1, E.set z.toNat (.inr (0, n, (i.toNat, (0, x)) :: l)), ls, st, nc, ns) else none
      | _ => none
    | _ => none
  | 17 => match st with
    | (0, y) :: (0, x) :: st => bif ctSm x && ctSm y && Nat.ble st.length 3 && st.all (fun v => Nat.blt v.1 3) then some (q.1 + 3, E, ls, (0, if x < y then y else x) :: st, nc, ns) else none
    | _ => none
  | 18 => match st with
    | (0, y) :: (0, x) :: st => bif ctSm (x * y) then some (q.1 + 1, E, ls, (0, x * y) :: st, nc, ns) else none
    | _ => none
  | 19 => match st with
    | (0, x) :: st => bif Nat.blt q.2.2.1 4 && Nat.blt q.2.2.1 nL then some (q.1 + 1, E, ctSto ls q.2.2.1 (0, x), st, nc, ns) else none
    | _ => none
  | 20 => match st with
    | (0, y) :: (0, x) :: st => bif ctSm x && ctSm y && decide ((q.1 : Int) + q.2.2.2.2.1 = (q.2.2.2.2.2 : Int)) then some (if y ≤ x then q.2.2.2.2.2 else q.1 + 3, E, ls, st, nc, ns) else none
    | _ => none
  | 21 => match ctGet ls q.2.2.1 with
    | some (0, x) => bif Nat.blt q.2.2.1 nL && ctSm (x + q.2.2.2.2.1) then some (q.1 + 3, E, ctSto ls q.2.2.1 (0, x + q.2.2.2.2.1), st, nc, ns) else none
    | _ => none
  | 22 => bif decide ((q.1 : Int) + q.2.2.2.2.1 = (q.2.2.2.2.2 : Int)) then some (q.2.2.2.2.2, E, ls, st, nc, ns) else none
  | _ => none
noncomputable def ctRun (sem : Nat → List ctV → Option (List ctE)) (own nL : Nat) (cod : List ctI) (cap : Nat × Nat) : Nat → ctS → Option (List ctE)
  | 0, _ => none
  | f + 1, (pc, E, ls, st, nc, ns) => match cod.find? fun q => Nat.beq q.1 pc with
    | none => none
    | some q => bif Nat.beq q.2.1 16 then (bif st.isEmpty && Nat.ble nc cap.1 && Nat.ble ns cap.2 then some E else none)
      else match ctOp sem own nL q E ls st nc ns with
        | none => none
        | some s => bif Nat.ble s.2.2.2.2.1 cap.1 && Nat.ble s.2.2.2.2.2 cap.2 then ctRun sem own nL cod cap f s else none
def ctSt (vs : List ctV) : ctL := (0, (1, 0)) :: match vs with
  | [v] => [(1, v)]
  | _ => []
noncomputable def ctSem : Nat → Nat → List ctV → Option (List ctE)
  | 0, _, _ => none
  | d + 1, y, vs => bif Nat.beq vs.length (ctNa y) && vs.all (fun v => Nat.blt v.1 2) then ctRun (ctSem d) y (ctMx y) (ctCod y) (ctCap y) 400 (0, [ctDf y], ctSt vs, [], 0, 0) else none
