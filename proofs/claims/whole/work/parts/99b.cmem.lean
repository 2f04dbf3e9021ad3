/-! The first memory: what the constructors leave. -/
def ctNumL : List (Nat × Nat × Int) := [(2, 11, -1), (10, 0, 16), (12, 0, 16), (14, 0, 16), (16, 0, 8), (18, 0, 150), (20, 0, 12), (22, 0, 8), (24, 0, 14), (26, 0, 20), (28, 0, 9), (33, 11, -1), (41, 0, 16), (43, 0, 16), (45, 0, 16), (47, 0, 8), (49, 0, 150), (51, 0, 12), (53, 0, 8), (55, 0, 14), (57, 0, 20), (59, 0, 9), (64, 11, -1), (72, 0, 16), (74, 0, 16), (76, 0, 16), (78, 0, 8), (80, 0, 150), (82, 0, 12), (84, 0, 8), (86, 0, 14), (88, 0, 20), (90, 0, 9), (97, 11, -1), (102, 11, -1), (107, 11, -1), (112, 11, -1), (117, 11, -1), (122, 11, -1), (132, 3, -1), (136, 0, 16), (138, 0, 16), (157, 25, -1), (158, 1, -1)]
def ctNum (a i : Nat) : Int := match ctNumL.find? fun q => Nat.beq q.1 a && Nat.beq q.2.1 i with
  | some q => q.2.2
  | none => 0
def ctM0 (L : Nat) (xs : Nat → Int32) : aM := fun a i => if a = 998 then (if i = 0 then (L : Int) else 0) else if a = 999 then (if i < L then (xs i).toInt else 0) else ctNum a i
theorem ctNum_in (a i : Nat) : -1 ≤ ctNum a i ∧ ctNum a i ≤ 150 := by
  unfold ctNum
  split
  · next q hq =>
    have h : (ctNumL.all fun q => decide (-1 ≤ q.2.2 ∧ q.2.2 ≤ 150)) = true := by decide +kernel
    exact of_decide_eq_true (List.all_eq_true.mp h q (List.mem_of_find?_eq_some hq))
  · omega
theorem ctNum_0 {a : Nat} (h : (ctNumL.all fun q => !(Nat.beq q.1 a)) = true) (i : Nat) : ctNum a i = 0 := by
  unfold ctNum
  split
  · next q hq =>
    have h1 := List.find?_some hq
    have h1 := (and_of h1).1
    have h2 := List.all_eq_true.mp h q (List.mem_of_find?_eq_some hq)
    rw [h1] at h2
    cases h2
  · rfl
theorem ctNum_158 (i : Nat) : ctNum 158 i = if i = 1 then -1 else 0 := by
  by_cases h : i = 1
  · subst h; decide +kernel
  · rw [if_neg h]
    unfold ctNum
    split
    · next q hq =>
      have h1 := List.find?_some hq
      obtain ⟨h1, h2⟩ := and_of h1
      have hm := List.mem_of_find?_eq_some hq
      have hall : (ctNumL.all fun q => !(Nat.beq q.1 158) || Nat.beq q.2.1 1) = true := by decide +kernel
      have h3 := List.all_eq_true.mp hall q hm
      rw [h1, Bool.not_true, Bool.false_or] at h3
      have e1 := Nat.eq_of_beq_eq_true h2
      have e2 := Nat.eq_of_beq_eq_true h3
      omega
    · rfl
theorem ctM0_w (L : Nat) (xs : Nat → Int32) {a : Nat} (h : a < 177) : ctM0 L xs a = fun i => ctNum a i := by
  funext i
  unfold ctM0
  rw [if_neg (by omega), if_neg (by omega)]
theorem ctM0_mem {L : Nat} (xs : Nat → Int32) (hL : L ≤ 3072) : aMem (ctM0 L xs) (ctM0 L xs) := by
  refine ⟨fun a i => ?_, fun _ _ => rfl⟩
  have h : in32 (ctM0 L xs a i) := by
    unfold ctM0
    by_cases h1 : a = 998
    · rw [if_pos h1]
      by_cases h2 : i = 0
      · rw [if_pos h2]; exact ⟨by omega, by omega⟩
      · rw [if_neg h2]; exact ⟨by omega, by omega⟩
    · rw [if_neg h1]
      by_cases h2 : a = 999
      · rw [if_pos h2]
        by_cases h3 : i < L
        · rw [if_pos h3]
          have h5 := (xs i).toInt_lt
          have h6 := (xs i).le_toInt
          exact ⟨h6, h5⟩
        · rw [if_neg h3]; exact ⟨by omega, by omega⟩
      · rw [if_neg h2]
        have := ctNum_in a i
        exact ⟨by omega, by omega⟩
  unfold in32 at h
  split
  · exact ⟨by omega, by omega⟩
  · exact h
noncomputable def ctChk (a : Nat) (x : ctE) : Bool := match x with
  | .inl (ci, fs) => Nat.beq (aTyp a) ci && Nat.blt ci 12 && decide (fs = (List.range (aNF ci)).map fun j => (match aFk ci j with | (0, _, _) => (0, ctNum a j) | (_, off, 0) => (1, ((a + off : Nat) : Int)) | (_, off, _) => (1, (off : Int)) : ctV))
  | .inr (0, n, l) => Nat.beq (aTyp a) 20 && Nat.beq (aLen a) n && (bif Nat.beq a 158 then decide (l = [(1, ((0, -1) : ctV))]) else l.isEmpty && ctNumL.all fun q => !(Nat.beq q.1 a))
  | .inr (1, n, _) => Nat.beq (aTyp a) 21 && Nat.beq (aLen a) n && ctNumL.all fun q => !(Nat.beq q.1 a)
  | .inr (_, n, l) => Nat.beq (aTyp a) 22 && Nat.beq (aLen a) n && (List.range n).all fun i => decide (ctGet l i = some ((1, ((a + (2 + 5 * i) : Nat) : Int)) : ctV))
noncomputable def ctChkL : Nat → List ctE → Bool
  | a, [] => Nat.beq a 177
  | a, x :: l => ctChk a x && ctChkL (a + 1) l
noncomputable def ctX1 : List ctE := (ctSem 4 10 []).getD []
noncomputable def ctX2 : List ctE := (ctSem 1 11 []).getD []
theorem ctX1_ok : ctSem 4 10 [] = some ctX1 := by
  have h : (ctSem 4 10 []).isSome = true := by decide +kernel
  obtain ⟨x, hx⟩ := Option.isSome_iff_exists.mp h
  unfold ctX1
  rw [hx]
  rfl
theorem ctX2_ok : ctSem 1 11 [] = some ctX2 := by
  have h : (ctSem 1 11 []).isSome = true := by decide +kernel
  obtain ⟨x, hx⟩ := Option.isSome_iff_exists.mp h
  unfold ctX2
  rw [hx]
  rfl
theorem ctX1_len : ctX1.length = 157 := by decide +kernel
theorem ctX_ok : ctChkL 0 (ctX1 ++ ctX2.map (ctShE 157)) = true := by decide +kernel
theorem ctChkL_at : ∀ (l : List ctE) (a : Nat), ctChkL a l = true → a + l.length = 177 ∧ ∀ (k : Nat) (x : ctE), l[k]? = some x → ctChk (a + k) x = true := by
  intro l
  induction l with
  | nil => intro a h; exact ⟨Nat.eq_of_beq_eq_true h, fun k x hx => by simp at hx⟩
  | cons y l ih =>
    intro a h
    obtain ⟨h1, h2⟩ := and_of h
    obtain ⟨i1, i2⟩ := ih (a + 1) h2
    refine ⟨by simp only [List.length_cons]; omega, fun k x hx => ?_⟩
    cases k with
    | zero => cases hx; exact h1
    | succ k =>
      have := i2 k x hx
      rwa [show a + 1 + k = a + (k + 1) by omega] at this
theorem ctRef_get (base : Nat) : ∀ (l : ctL) (i : Nat) (z : Int), ctGet l i = some (1, z) → ctRef base l i = some ((base : Int) + z).toNat := by
  intro l
  induction l with
  | nil => intro i z h; cases h
  | cons q l ih =>
    intro i z h
    obtain ⟨j, v⟩ := q
    unfold ctRef
    by_cases e : i = j
    · subst e
      rw [if_pos rfl]
      unfold ctGet at h
      rw [List.find?_cons_of_pos (by exact Nat.beq_refl i)] at h
      cases h
      rfl
    · rw [if_neg e]
      unfold ctGet at h
      rw [List.find?_cons_of_neg (by show ¬ Nat.beq j i = true; intro hb; exact e (Nat.eq_of_beq_eq_true hb).symm)] at h
      exact ih i z h
theorem arrV_cg {c : ClassId} {N : Nat} {f g : Nat → Value} (h : ∀ j, j < N → f j = g j) : arrV c N f = arrV c N g := by
  unfold arrV
  congr 1
  exact congrArg _ (funext fun j => h j.val j.isLt)
theorem ctChk_at {D : va_G} {cI cJ cO : ClassId} {b0 a : Nat} {x : ctE} {H : Heap} {M : aM} (ha : a < 177) (hM : M a = fun i => ctNum a i) (hc : ctChk a x = true) (h : va_at D aCl (b0 + a, ctEnt cI cJ cO b0 x) H) : va_at D aCl (b0 + a, aEnt cI cJ cO b0 M a) H := by
  rcases x with ⟨ci, fs⟩ | ⟨t, n, l⟩
  · obtain ⟨h12, h3⟩ := and_of hc
    obtain ⟨h1, h2⟩ := and_of h12
    have h1 : aTyp a = ci := Nat.eq_of_beq_eq_true h1
    have h2 : ci < 12 := Nat.le_of_ble_eq_true h2
    have h3 := of_decide_eq_true h3
    rw [aEnt_ob ha (by rw [h1]; exact h2), h1]
    have e : ctEnt cI cJ cO b0 (.inl (ci, fs)) = .inr (ci, (List.range (aNF ci)).map (aFV b0 ci a M)) := by
      show Sum.inr (ci, fs.map (ctVal b0)) = _
      rw [h3, List.map_map]
      refine congrArg (fun z => Sum.inr (ci, z)) (List.map_congr_left fun j _ => ?_)
      show ctVal b0 (match aFk ci j with | (0, _, _) => (0, ctNum a j) | (_, off, 0) => (1, ((a + off : Nat) : Int)) | (_, off, _) => (1, (off : Int))) = aFV b0 ci a M j
      unfold aFV
      rw [hM]
      generalize aFk ci j = q
      obtain ⟨_ | q1, off, _ | q3⟩ := q
      · rfl
      · rfl
      · exact ctRefN b0 (a + off)
      · exact ctRefN b0 off
    rw [← e]
    exact h
  · rcases t with _ | _ | t
    · obtain ⟨h12, h3⟩ := and_of hc
      obtain ⟨h1, h2⟩ := and_of h12
      have h1 : aTyp a = 20 := Nat.eq_of_beq_eq_true h1
      have h2 : aLen a = n := Nat.eq_of_beq_eq_true h2
      rw [aEnt_i h1, h2, hM]
      have e : ∀ j, ctInt l j = ctNum a j := by
        intro j
        cases h158 : Nat.beq a 158 with
        | true =>
          rw [h158] at h3
          obtain rfl := Nat.eq_of_beq_eq_true h158
          rw [of_decide_eq_true h3, ctNum_158]
          rfl
        | false =>
          rw [h158] at h3
          obtain ⟨h4, h5⟩ := and_of h3
          rw [List.isEmpty_iff.mp h4, ctNum_0 h5]
          rfl
      have e2 : (fun j => Int32.ofInt (ctInt l j)) = fun j => Int32.ofInt (ctNum a j) := funext fun j => by rw [e]
      show va_at D aCl (b0 + a, .inl (cI, n, .inl fun j => Int32.ofInt (ctNum a j))) H
      rw [← e2]
      exact h
    · obtain ⟨h12, h3⟩ := and_of hc
      obtain ⟨h1, h2⟩ := and_of h12
      have h1 : aTyp a = 21 := Nat.eq_of_beq_eq_true h1
      have h2 : aLen a = n := Nat.eq_of_beq_eq_true h2
      rw [aEnt_j h1, h2, hM]
      have e2 : (fun _ => (0 : Int64)) = fun j => Int64.ofInt (ctNum a j) := funext fun j => by rw [ctNum_0 h3]; rfl
      show va_at D aCl (b0 + a, .inl (cJ, n, .inr (.inl fun j => Int64.ofInt (ctNum a j)))) H
      rw [← e2]
      exact h
    · obtain ⟨h12, h3⟩ := and_of hc
      obtain ⟨h1, h2⟩ := and_of h12
      have h1 : aTyp a = 22 := Nat.eq_of_beq_eq_true h1
      have h2 : aLen a = n := Nat.eq_of_beq_eq_true h2
      rw [aEnt_q h1, h2]
      have h : H[b0 + a]? = some (vp_cell cO (n, .inr (.inr (.inr (.inr (ctRef b0 l)))))) := h
      show H[b0 + a]? = some (vp_cell cO (n, .inr (.inr (.inr (.inr fun i => some (b0 + (a + 2 + 5 * i)))))))
      rw [h, vp_cell_q, vp_cell_q]
      congr 1
      refine arrV_cg fun j hj => ?_
      have h4 := of_decide_eq_true (List.all_eq_true.mp h3 j (List.mem_range.mpr hj))
      rw [ctRef_get b0 l j _ h4]
      congr 2
      omega
theorem ctX_P {D : va_G} {cI cJ cO : ClassId} {b0 : Nat} {H : Heap} (L : Nat) (xs : Nat → Int32) (h : cW D b0 ((ctX1 ++ ctX2.map (ctShE 157)).map (ctEnt cI cJ cO b0)) H) : va_P D aCl (aWs cI cJ cO b0 (ctM0 L xs)) H := by
  obtain ⟨hl, hc⟩ := ctChkL_at _ 0 ctX_ok
  intro k q hq
  by_cases hk : k < 177
  · rw [aWs_at _ _ _ _ _ hk] at hq
    cases hq
    obtain ⟨x, hx⟩ : ∃ x, (ctX1 ++ ctX2.map (ctShE 157))[k]? = some x := ⟨_, List.getElem?_eq_getElem (by omega)⟩
    have h1 := hc k x hx
    rw [Nat.zero_add] at h1
    exact ctChk_at hk (ctM0_w L xs hk) h1 (h.2 k _ (ctAt hx))
  · unfold aWs at hq
    rw [List.getElem?_eq_none (by rw [List.length_map, List.length_range]; omega)] at hq
    cases hq
