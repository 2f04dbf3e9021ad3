/-! What the reference's row of cells tells, and how the class holds the same. -/
abbrev aW : Type := Nat → Int
abbrev aLaw : Type := List (Int × List (Int × Int) × List (Int × Int))
def vS (V : aW) (k : Nat) (x : Int) : aW := fun j => if j = k then x else V j
def bI (b : Bool) : Int := if b = true then 1 else 0
theorem bI_t : bI true = 1 := rfl
theorem bI_f : bI false = 0 := rfl
noncomputable def al (V : aW) (i : Int) : Bool := decide (0 ≤ i ∧ i < V 41 ∧ iand (ishr (V 10) i) 1 = 1)
def cl (m x : Int) : Int := imax 0 (imin m x)
noncomputable def pF (V : aW) (d : Nat) (k : Nat) : Int :=
  if k = 1 then d else if k = 2 then V (53 + d) else if k = 3 then V (11 + d) else if k = 4 then V (21 + d) else if k = 5 then V (31 + d)
  else if k = 6 then V 4 else if k = 7 then V 5 else if k = 8 then V 6 else if k = 9 then irem (idiv (V 0) 30) 12 else if V 1 = d then 1 else 0
noncomputable def tellL (F : Nat → Int) (w : Int) : aLaw → Option Int
  | [] => none
  | (w', E, B) :: L => if w' = w ∧ (B = [] ∨ (iEv F B []).headD 0 = 1) then some ((iEv F E []).headD 0) else tellL F w L
noncomputable def come (V : aW) (L : aLaw) (d : Nat) : Int := cl 999 ((tellL (pF V d) 0 L).getD (w32 (V (21 + d) + 1)))
noncomputable def long (V : aW) (L : aLaw) (d : Nat) : Int := cl 24 ((tellL (pF V d) 1 L).getD (w32 (6 + V (11 + d))))
noncomputable def shy (V : aW) (L : aLaw) (d : Nat) : Int := cl 9 ((tellL (pF V d) 2 L).getD (idiv (V 5) 9))
theorem cl_in {m x : Int} (h : 0 ≤ m) : 0 ≤ cl m x ∧ cl m x ≤ m := by
  unfold cl imax imin; split <;> split <;> omega
def okLine (x : Int × List (Int × Int) × List (Int × Int)) : Prop := (∃ b, iTy x.2.1 [] = some [b]) ∧ (x.2.2 = [] ∨ iTy x.2.2 [] = some [true])
def okLaw (L : aLaw) : Prop := L.length ≤ 16 ∧ ∀ x, x ∈ L → okLine x
def vLn (V : aW) : Nat → aLaw → Prop
  | _, [] => True
  | i, (w, E, B) :: L => (∃ p : Nat, V (884 + i) = p ∧ V (900 + i) = (p + E.length : Nat) ∧ V (916 + i) = (p + E.length + B.length : Nat) ∧ V (932 + i) = 20 + w ∧ p + E.length + B.length ≤ 410 ∧ seg2 V p E ∧ seg2 V (p + E.length) B) ∧ vLn V (i + 1) L
def vLaw (L : aLaw) (V : aW) : Prop := V 44 = L.length ∧ vLn V 0 L
def rLn (C A : Nat → Int) (n : Nat) : Nat → aLaw → Prop
  | _, [] => True
  | i, (w, E, B) :: L => (∃ p : Nat, C (4 * i) = w ∧ C (4 * i + 1) = p ∧ C (4 * i + 2) = (p + (cEnc E).length : Nat) ∧ C (4 * i + 3) = (p + (cEnc E).length + (cEnc B).length : Nat) ∧ p + (cEnc E).length + (cEnc B).length ≤ n ∧ seg1 A p (cEnc E) ∧ seg1 A (p + (cEnc E).length) (cEnc B)) ∧ rLn C A n (i + 1) L
def rLaw (e : Nat) (L : aLaw) (M : aM) : Prop := ∃ n : Nat, n ≤ 400 ∧ M e 3 = n ∧ M (e + 3) 2 = L.length ∧ rLn (M (e + 4)) (M (e + 1)) n 0 L ∧ M (e + 3) 0 = 16
/-- the deer and what days change -/
def rWd (b : Nat) (V : aW) (M : aM) : Prop :=
  M b 4 = V 41 ∧ M b 5 = V 10 ∧ M b 6 = V 4 ∧ M b 7 = V 5 ∧ M b 8 = V 6 ∧ M b 9 = V 42 ∧ M b 10 = V 43 ∧ M b 11 = V 1 ∧ M b 12 = V 2 ∧ M b 13 = V 3 ∧ M b 14 = V 0 ∧ M b 15 = V 7 ∧ M b 16 = V 9 ∧
  (∀ i, i < 10 → M (b + 1) i = V (53 + i)) ∧ (∀ i, i < 10 → M (b + 2) i = V (11 + i)) ∧ (∀ i, i < 10 → M (b + 3) i = V (21 + i)) ∧ (∀ i, i < 10 → M (b + 4) i = V (31 + i))
/-- a told list: its bound, its number of rows, its cells -/
def rRow (c most : Nat) (N : Int) (f : Nat → Nat → Int) (w : Nat) (M : aM) : Prop :=
  M c 0 = most ∧ M c 2 = N ∧ ∀ i j : Nat, (i : Int) < N → j < w → M (c + 1) (4 * i + j) = f i j
/-- all that is told but the book -/
def rTl (a : Nat) (V : aW) (M : aM) : Prop :=
  rRow (a + 11) 16 (V 45) (fun i j => V (63 + 3 * i + j) - (if j = 1 then 7 else 0)) 3 M ∧
  rRow (a + 13) 16 (V 46) (fun i j => V (111 + 3 * i + j)) 3 M ∧
  rRow (a + 15) 8 (V 47) (fun i j => V (159 + 2 * i + j)) 2 M ∧
  rRow (a + 19) 12 (V 48) (fun i j => V (175 + 2 * i + j)) 2 M ∧
  rRow (a + 21) 8 (V 49) (fun i j => V (199 + i + j)) 1 M ∧
  rRow (a + 23) 14 (V 50) (fun i j => V (207 + 2 * i + j)) 2 M ∧
  rRow (a + 25) 20 (V 51) (fun i j => V (235 + 2 * i + j)) 2 M ∧
  rRow (a + 27) 9 (V 52) (fun i j => V (275 + i + j)) 1 M
def rBk (a : Nat) (V : aW) (M : aM) : Prop := rRow (a + 17) 150 (V 8) (fun i j => V (284 + 4 * i + j)) 4 M
/-- the class's world at a is what V tells, but for the book -/
def rWo (a : Nat) (V : aW) (L : aLaw) (M : aM) : Prop := rWd (a + 1) V M ∧ rTl a V M ∧ rLaw (a + 6) L M ∧ M (a + 17) 0 = 150 ∧ 0 ≤ M (a + 17) 2 ∧ M (a + 17) 2 ≤ 150
theorem rWd_fr {b : Nat} {V : aW} {M M' : aM} (h : rWd b V M) (f : ∀ k, b ≤ k → k < b + 5 → M' k = M k) : rWd b V M' := by
  unfold rWd at h ⊢
  rw [f b (by omega) (by omega), f (b + 1) (by omega) (by omega), f (b + 2) (by omega) (by omega), f (b + 3) (by omega) (by omega), f (b + 4) (by omega) (by omega)]
  exact h
theorem rRow_fr {c most w : Nat} {N : Int} {g : Nat → Nat → Int} {M M' : aM} (h : rRow c most N g w M) (f : ∀ k, c ≤ k → k < c + 2 → M' k = M k) : rRow c most N g w M' := by
  unfold rRow at h ⊢
  rw [f c (by omega) (by omega), f (c + 1) (by omega) (by omega)]
  exact h
theorem rTl_fr {a : Nat} {V : aW} {M M' : aM} (h : rTl a V M) (f : ∀ k, a + 11 ≤ k → k < a + 29 → M' k = M k) : rTl a V M' := by
  obtain ⟨h1, h2, h3, h4, h5, h6, h7, h8⟩ := h
  exact ⟨rRow_fr h1 fun k _ _ => f k (by omega) (by omega), rRow_fr h2 fun k _ _ => f k (by omega) (by omega), rRow_fr h3 fun k _ _ => f k (by omega) (by omega), rRow_fr h4 fun k _ _ => f k (by omega) (by omega), rRow_fr h5 fun k _ _ => f k (by omega) (by omega), rRow_fr h6 fun k _ _ => f k (by omega) (by omega), rRow_fr h7 fun k _ _ => f k (by omega) (by omega), rRow_fr h8 fun k _ _ => f k (by omega) (by omega)⟩
theorem rLaw_fr {e : Nat} {L : aLaw} {M M' : aM} (h : rLaw e L M) (f : ∀ k, e ≤ k → k < e + 5 → k ≠ e + 2 → M' k = M k) : rLaw e L M' := by
  unfold rLaw at h ⊢
  rw [f e (by omega) (by omega) (by omega), f (e + 1) (by omega) (by omega) (by omega), f (e + 3) (by omega) (by omega) (by omega), f (e + 4) (by omega) (by omega) (by omega)]
  exact h
theorem rWo_fr {a : Nat} {V : aW} {L : aLaw} {M M' : aM} (h : rWo a V L M) (f : ∀ k, a < k → k < a + 29 → k ≠ a + 8 → M' k = M k) : rWo a V L M' := by
  obtain ⟨h1, h2, h3, h4⟩ := h
  refine ⟨rWd_fr h1 fun k _ _ => f k (by omega) (by omega) (by omega), rTl_fr h2 fun k _ _ => f k (by omega) (by omega) (by omega), rLaw_fr h3 fun k _ _ _ => f k (by omega) (by omega) (by omega), ?_⟩
  rw [f (a + 17) (by omega) (by omega) (by omega)]
  exact h4
/-! the leaves -/
theorem rows_has_eq (d c : Nat) (v : Int) (M : aM) : w_rows_has (d + 1) c v M = some ([aI (bI (decide (0 ≤ v ∧ v < M c 2)))], M) := by
  rw [u_rows_has]
  by_cases h1 : v < 0
  · rw [if_pos h1, decide_eq_false (by omega)]; rfl
  · rw [if_neg h1]
    by_cases h2 : v < M c 2
    · rw [if_pos h2, decide_eq_true (by omega)]; rfl
    · rw [if_neg h2, decide_eq_false (by omega)]; rfl
theorem rows_cell_eq (d c i j : Nat) (M : aM) (h : (i : Int) < M c 2) (hj : j < 4) (hl : 4 * i + j < aLen (c + 1)) (hb : i < 400000000) : w_rows_cell (d + 2) c i j M = some ([aI (M (c + 1) (4 * i + j))], M) := by
  rw [u_rows_cell]
  have e : w32 (w32 ((i : Int) * 4) + j) = ((4 * i + j : Nat) : Int) := by
    simp (disch := omega) only [w32_i]; omega
  simp only [e]
  rw [rows_has_eq, bndI_s, decide_eq_true (by omega), bI_t, if_neg (by decide), if_neg (by omega), if_pos (by omega), if_pos (by omega), inb_s (by omega) (by omega), tn_n]
theorem wood_has_eq (d b : Nat) (v : Int) (V : aW) (M : aM) (h : M b 4 = V 41) (h10 : V 41 ≤ 10) : w_wood_has (d + 1) b v M = some ([aI (bI (decide (0 ≤ v ∧ v < V 41)))], M) := by
  rw [u_wood_has, h]
  by_cases h1 : v < 0
  · rw [if_pos h1, decide_eq_false (by omega)]; rfl
  · rw [if_neg h1]
    by_cases h2 : v < V 41
    · rw [if_pos h2, if_pos (by omega), decide_eq_true (by omega)]; rfl
    · rw [if_neg h2, decide_eq_false (by omega)]; rfl
theorem wood_isAlive_eq (d b : Nat) (v : Int) (V : aW) (M : aM) (h : rWd b V M) (h10 : V 41 ≤ 10) : w_wood_isAlive (d + 2) b v M = some ([aI (bI (al V v))], M) := by
  rw [u_wood_isAlive, wood_has_eq d b v V M h.1 h10, bndI_s, h.2.1]
  unfold al
  by_cases h1 : 0 ≤ v ∧ v < V 41
  · rw [decide_eq_true h1, bI_t, if_neg (by decide)]
    by_cases h2 : iand (ishr (V 10) v) 1 = 1
    · rw [if_pos h2, decide_eq_true ⟨h1.1, h1.2, h2⟩]; rfl
    · rw [if_neg h2, decide_eq_false fun e => h2 e.2.2]; rfl
  · rw [decide_eq_false h1, decide_eq_false fun e => h1 ⟨e.1, e.2.1⟩]; rfl
theorem m_isIn_eq (d : Nat) (v x y : Int) (M : aM) : w_m_isIn (d + 1) v x y M = some ([aI (bI (decide (x ≤ v ∧ v ≤ y)))], M) := by
  rw [u_m_isIn]
  by_cases h1 : v < x
  · rw [if_pos h1, decide_eq_false (by omega)]; rfl
  · rw [if_neg h1]
    by_cases h2 : y < v
    · rw [if_pos h2, decide_eq_false (by omega)]; rfl
    · rw [if_neg h2, decide_eq_true (by omega)]; rfl
theorem m_lesser_eq (d : Nat) (x y : Int) (M : aM) : w_m_lesser (d + 1) x y M = some ([aI (imin x y)], M) := by
  rw [u_m_lesser]; unfold imin; split <;> rfl
theorem m_greater_eq (d : Nat) (x y : Int) (M : aM) : w_m_greater (d + 1) x y M = some ([aI (imax x y)], M) := by
  rw [u_m_greater]; unfold imax
  by_cases h1 : y < x
  · rw [if_pos h1, if_neg (by omega)]
  · rw [if_neg h1]
    by_cases h2 : x < y
    · rw [if_pos h2]
    · rw [if_neg h2, show y = x by omega]
theorem m_size_eq (d : Nat) (x : Int) (M : aM) : w_m_size (d + 1) x M = some ([aI (iabs x)], M) := by
  rw [u_m_size]; unfold iabs; split <;> rfl
theorem aBool_bI (b : Bool) (k : aR) : aBool (bI b) k = k := by cases b <;> rfl
theorem m_isDeer_eq (d : Nat) (v : Int) (M : aM) (h0 : 0 ≤ M 158 41) (h10 : M 158 41 ≤ 10) : w_m_isDeer (d + 2) v M = some ([aI (bI (decide (0 ≤ v ∧ v < M 158 41)))], M) := by
  rw [u_m_isDeer, al158, inb_s (by omega) (by omega), m_isIn_eq, bndI_s, aBool_bI, w32_i (by omega) (by omega)]
  congr 6
  exact propext ⟨fun _ => by omega, fun _ => by omega⟩
theorem m_isAlive_eq (d : Nat) (v : Int) (M : aM) (h0 : 0 ≤ M 158 41) (h10 : M 158 41 ≤ 10) : w_m_isAlive (d + 3) v M = some ([aI (bI (al (M 158) v))], M) := by
  rw [u_m_isAlive, m_isDeer_eq d v M h0 h10, bndI_s, al158, inb_s (by omega) (by omega)]
  unfold al
  by_cases h1 : 0 ≤ v ∧ v < M 158 41
  · rw [decide_eq_true h1, bI_t, if_neg (by decide)]
    by_cases h2 : iand (ishr (M 158 10) v) 1 = 1
    · rw [if_pos h2, decide_eq_true ⟨h1.1, h1.2, h2⟩]; rfl
    · rw [if_neg h2, decide_eq_false fun e => h2 e.2.2]; rfl
  · rw [decide_eq_false h1, decide_eq_false fun e => h1 ⟨e.1, e.2.1⟩]; rfl
