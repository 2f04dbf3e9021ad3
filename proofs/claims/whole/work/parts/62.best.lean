/-! works: in the best order -/
theorem bit_off2 {k i : Nat} (hk : k < 2147483648) (h : k.testBit i = true) : k &&& (2 ^ i ^^^ 2147483647) = k ^^^ 2 ^ i := by
  apply Nat.eq_of_testBit_eq
  intro j
  rw [tb_nbit hk, Nat.testBit_xor, Nat.testBit_two_pow]
  by_cases e : i = j
  · subst e; rw [h]; simp
  · simp [e]
theorem bit_off {k i : Nat} (hk : k < 2147483648) (h : k.testBit i = true) : k ^^^ 2 ^ i < k := by
  have h1 : k ^^^ 2 ^ i ≤ k := by rw [← bit_off2 hk h]; exact Nat.and_le_left
  have h2 : k ^^^ 2 ^ i ≠ k := by
    intro e
    have := congrArg (fun x => x.testBit i) e
    rw [Nat.testBit_xor, h, Nat.testBit_two_pow] at this
    simp at this
  omega
def enc32 (x : Nat × Int) : Int := 32 * (x.1 : Int) + x.2
noncomputable def pmin (y z : Nat × Int) : Nat × Int := if enc32 y < enc32 z then y else z
noncomputable def cmb (V : aW) (L : aLaw) (P : List Nat) (T : Nat → Nat × Int) (k : Nat) : Nat → Option (Nat × Int)
  | 0 => none
  | i + 1 => if k.testBit i = true then
      (match cmb V L P T k i with
        | none => some (layT V L P (V (199 + i)) (T (k ^^^ 2 ^ i)))
        | some y => some (pmin y (layT V L P (V (199 + i)) (T (k ^^^ 2 ^ i)))))
    else cmb V L P T k i
noncomputable def tabY (V : aW) (L : aLaw) (P : List Nat) (m : Nat) : Nat → Nat → Nat × Int
  | 0, _ => (0, 0)
  | k + 1, s => if s = k ∧ k ≠ 0 then ((cmb V L P (tabY V L P m k) k m).getD (0, 0)) else tabY V L P m k s
def okY (b : Nat) (y : Nat × Int) : Prop := y.1 ≤ b ∧ 0 ≤ y.2 ∧ y.2 ≤ 24
theorem pmin_or (y z : Nat × Int) : pmin y z = y ∨ pmin y z = z := by unfold pmin; split; exact Or.inl rfl; exact Or.inr rfl
theorem cmb_in {V : aW} {L : aLaw} {P : List Nat} {T : Nat → Nat × Int} {k m b : Nat} (hP : 0 < P.length) (hP2 : P.length ≤ 10) (hw : ∀ i, i < m → (1 ≤ V (199 + i) ∧ V (199 + i) ≤ 24) ∧ V (199 + i) ≤ mxL V L P) (hT : ∀ s, okY b (T s)) : ∀ i, i ≤ m → ∀ y, cmb V L P T k i = some y → okY (b + 11) y ∧ 1 ≤ y.2
  | 0, _, y, h => by simp [cmb] at h
  | i + 1, hi, y, h => by
    obtain ⟨w1, w2⟩ := hw i (by omega)
    have hl := layT_in (x := T (k ^^^ 2 ^ i)) hP hP2 (hT _).2.1 w1 w2
    have hTb := (hT (k ^^^ 2 ^ i)).1
    have hz : okY (b + 11) (layT V L P (V (199 + i)) (T (k ^^^ 2 ^ i))) ∧ 1 ≤ (layT V L P (V (199 + i)) (T (k ^^^ 2 ^ i))).2 := ⟨⟨by omega, by omega, by omega⟩, by omega⟩
    simp only [cmb] at h
    split at h
    · cases hc : cmb V L P T k i with
      | none => rw [hc] at h; simp only [Option.some.injEq] at h; subst h; exact hz
      | some y' =>
        rw [hc] at h
        simp only [Option.some.injEq] at h
        subst h
        rcases pmin_or y' (layT V L P (V (199 + i)) (T (k ^^^ 2 ^ i))) with e | e
        · rw [e]; exact cmb_in hP hP2 hw hT i (by omega) y' hc
        · rw [e]; exact hz
    · exact cmb_in hP hP2 hw hT i (by omega) y h
theorem cmb_some {V : aW} {L : aLaw} {P : List Nat} {T : Nat → Nat × Int} {k : Nat} : ∀ i, (∃ j, j < i ∧ k.testBit j = true) → ∃ y, cmb V L P T k i = some y
  | 0, h => by obtain ⟨j, hj, _⟩ := h; omega
  | i + 1, h => by
    simp only [cmb]
    split
    · split <;> exact ⟨_, rfl⟩
    · next hb =>
      refine cmb_some i ?_
      obtain ⟨j, hj, e⟩ := h
      refine ⟨j, ?_, e⟩
      by_cases hji : j = i
      · subst hji; exact absurd e hb
      · omega
theorem tabY_in {V : aW} {L : aLaw} {P : List Nat} {m : Nat} (hP : 0 < P.length) (hP2 : P.length ≤ 10) (hw : ∀ i, i < m → (1 ≤ V (199 + i) ∧ V (199 + i) ≤ 24) ∧ V (199 + i) ≤ mxL V L P) : ∀ k s, okY (11 * k) (tabY V L P m k s)
  | 0, s => ⟨by simp [tabY], by simp [tabY], by simp [tabY]⟩
  | k + 1, s => by
    have ih := tabY_in hP hP2 hw k
    simp only [tabY]
    split
    · cases hc : cmb V L P (tabY V L P m k) k m with
      | none => exact ⟨by simp, by simp, by simp⟩
      | some y =>
        have := (cmb_in hP hP2 hw ih m (Nat.le_refl _) y hc).1
        exact ⟨by have := this.1; simp; omega, this.2⟩
    · have := ih s
      exact ⟨by have := this.1; omega, this.2⟩
theorem tabY_lo {V : aW} {L : aLaw} {P : List Nat} {m : Nat} : ∀ k s, s < k → tabY V L P m k s = tabY V L P m (s + 1) s
  | 0, s, h => by omega
  | k + 1, s, h => by
    by_cases e : s = k
    · subst e; rfl
    · have : tabY V L P m (k + 1) s = tabY V L P m k s := by simp only [tabY]; rw [if_neg fun hh => e hh.1]
      rw [this, tabY_lo k s (by omega)]
theorem tabY_0 {V : aW} {L : aLaw} {P : List Nat} {m : Nat} : ∀ k, tabY V L P m k 0 = (0, 0)
  | 0 => rfl
  | k + 1 => by
    simp only [tabY]
    rw [if_neg (by omega), tabY_0 k]
/-! in the class -/
theorem lab_best_36_lp (d : Nat) (V : aW) (L : aLaw) (P : List Nat) (m k : Nat) (T : Nat → Nat × Int) (hP : 0 < P.length) (hP2 : P.length ≤ 10) (hm8 : m ≤ 8) (hk : k < 2 ^ m) (hT : ∀ s, okY 2900 (T s)) (hw : ∀ i, i < m → (1 ≤ V (199 + i) ∧ V (199 + i) ≤ 24) ∧ V (199 + i) ≤ mxL V L P) (M : aM) (hl : labR V L P M) (r2 : M 22 2 = m) (rc : ∀ i, i < m → M 23 (4 * i) = V (199 + i)) (ht : ∀ s, s < k → M 149 s = enc32 (T s)) (R : aR) (hR : w_labour_bestSpot_36 (d + 4) 22 m k (match cmb V L P T k m with | none => -1 | some y => enc32 y) m M = R) : ∀ (f i : Nat), i + f = m →
    w_labour_bestSpot_36 (d + 4) 22 m k (match cmb V L P T k i with | none => -1 | some y => enc32 y) i M = R
  | 0, i, h => by rw [show i = m by omega]; exact hR
  | f + 1, i, h => by
    have ih := lab_best_36_lp d V L P m k T hP hP2 hm8 hk hT hw M hl r2 rc ht R hR f (i + 1) (by omega)
    have hp8 : 2 ^ m ≤ 2 ^ 8 := Nat.pow_le_pow_right (by omega) hm8
    have e5 : w32 ((i : Int) + 1) = ((i + 1 : Nat) : Int) := by rw [w32_i (by omega) (by omega)]; rfl
    obtain ⟨w1, w2⟩ := hw i (by omega)
    rw [u_labour_bestSpot_36, if_pos (by omega), bit01_nat (by omega) (by omega)]
    simp only [cmb] at ih
    cases hb : k.testBit i with
    | false =>
      rw [if_neg (show ¬ (if false = true then (1 : Int) else 0) = 1 by decide), e5]
      rw [hb, if_neg (by decide)] at ih
      exact ih
    | true =>
      have hlt := bit_off (by omega) hb
      have q0 : w_rows_cell (d + 4) 22 (i : Int) 0 M = some ([aI (V (199 + i))], M) := (rows_cell_eq (d + 2) 22 i 0 M (by omega) (by decide) (by rw [al23]; omega) (by omega)).trans (by rw [← rc i (by omega)]; rfl)
      have ex : ixor (k : Int) (ishl 1 i) = ((k ^^^ 2 ^ i : Nat) : Int) := by rw [ishl_pow i (by omega), ixor_nat (by omega) (pow_lt31 (by omega))]
      obtain ⟨t1, t2, t3⟩ := hT (k ^^^ 2 ^ i)
      have hs := lab_spotBehind_eq (d + 1) V L P M hl hP hP2 (T (k ^^^ 2 ^ i)) (V (199 + i)) (by omega) w1 w2
      rw [if_pos (show (if true = true then (1 : Int) else 0) = 1 by decide), ex, al149, inb_s (by omega) (by omega), q0, bndI_s, tn_n, ht _ hlt]
      unfold enc32
      rw [hs, bndI_s, e5]
      rw [hb, if_pos rfl] at ih
      have hlay := layT_in (x := T (k ^^^ 2 ^ i)) hP hP2 t2 w1 w2
      cases hc : cmb V L P T k i with
      | none =>
        rw [hc] at ih
        rw [if_pos rfl]
        exact ih
      | some y =>
        rw [hc] at ih
        have hy := cmb_in hP hP2 hw hT i (by omega) y hc
        have hy1 := hy.1.1
        simp only
        rw [if_neg (by omega)]
        have em : imin (32 * (y.1 : Int) + y.2) (32 * ((layT V L P (V (199 + i)) (T (k ^^^ 2 ^ i))).1 : Int) + (layT V L P (V (199 + i)) (T (k ^^^ 2 ^ i))).2) = enc32 (pmin y (layT V L P (V (199 + i)) (T (k ^^^ 2 ^ i)))) := by
          unfold imin pmin enc32
          split <;> rfl
        rw [em]
        exact ih
