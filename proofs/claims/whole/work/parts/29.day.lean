/-! A day: what it does to the reference's cells. -/
theorem wp_fV {x : aR} {k : aM → aR} {Q : List aV → aM → Prop} {P : aM → Prop} (h : wp x fun r M' => r = [] ∧ P M') (hk : ∀ M', P M' → wp (k M') Q) : wp (bndV x k) Q := wp_bV h hk
noncomputable def pNote (tr : Bool) (V : aW) (x y z : Int) : aW :=
  if tr = true ∧ V 8 ≠ 150 then vS (vS (vS (vS (vS V (284 + 4 * (V 8).toNat) (V 0)) (285 + 4 * (V 8).toNat) x) (286 + 4 * (V 8).toNat) y) (287 + 4 * (V 8).toNat) z) 8 (w32 (V 8 + 1)) else V
noncomputable def pEats (tr : Bool) (V : aW) (d : Int) (is : Bool) : aW :=
  pNote tr (vS V 10 (if is = true then iand (V 10) (ixor (ishl 1 d) (-1)) else ior (V 10) (ishl 1 d))) (if is = true then 3 else 5) d 0
noncomputable def pDoes (tr : Bool) (V : aW) (i : Nat) : aW :=
  if V (64 + 3 * i) = 8 then vS V 4 (V (65 + 3 * i)) else if V (64 + 3 * i) = 9 then vS V 5 (V (65 + 3 * i)) else if V (64 + 3 * i) = 10 then vS V 6 (w32 (1 - V 6))
  else if V (64 + 3 * i) = 11 then (if al V (V (65 + 3 * i)) = true then pEats tr V (V (65 + 3 * i)) true else V)
  else (if al V (V (65 + 3 * i)) = true then V else pEats tr V (V (65 + 3 * i)) false)
noncomputable def pPlan (tr : Bool) : Nat → Nat → aW → aW
  | 0, _, V => V
  | f + 1, i, V => pPlan tr f (i + 1) (if V (63 + 3 * i) = V 0 then pDoes tr V i else V)
noncomputable def rnd (s : Int) : Int := w32 (w32 (1664525 * s) + 1013904223)
noncomputable def drw (V : aW) (m : Int) : Int := irem (iushr (rnd (V 7)) 8) m
noncomputable def dawn1 (V : aW) : aW := if 0 < V 43 then vS V 7 (rnd (V 7)) else V
noncomputable def pDawn (tr : Bool) (V : aW) (L : aLaw) : aW × Int :=
  if tr = true then
    if 0 < V 43 ∧ drw V 1000 < V 43 then (dawn1 V, -1)
    else if sumC V L 10 = 0 then (dawn1 V, -1)
    else (vS (dawn1 V) 7 (rnd (dawn1 V 7)), drawC V L (drw (dawn1 V) (sumC V L 10)) 10 0)
  else (V, if sumC V L 10 = 0 then -1 else bestC V L 10)
noncomputable def pB (V : aW) (who h s : Int) : aW := fun k =>
  if k = 1 then who else if k = 3 then w32 (V 3 + h)
  else if 21 ≤ k ∧ k < 31 then (if ((k - 21 : Nat) : Int) = who then 0 else if al V ((k - 21 : Nat) : Int) = true then imin 999 (w32 (V k + 1)) else V k)
  else if 31 ≤ k ∧ k < 41 then (if ((k - 31 : Nat) : Int) = who then w32 (V k + 1) else V k)
  else if 11 ≤ k ∧ k < 21 then (if ((k - 11 : Nat) : Int) = who then imax 0 (w32 (V k - s)) else V k)
  else V k
noncomputable def pComes (tr : Bool) (V : aW) (L : aLaw) (who : Int) : aW :=
  if who = -1 then pB (pNote tr V 1 (-1) 5) (-1) 5 0 else pB (pNote tr V 0 who (long V L who.toNat)) who (long V L who.toNat) (shy V L who.toNat)
noncomputable def pPay (tr : Bool) (V : aW) (i : Nat) : aW :=
  if iand (ishr (V 9) i) 1 = 1 ∨ V 1 = -1 ∨ V (112 + 3 * i) ≠ V 1 ∨ V 0 ≤ V (113 + 3 * i) then V
  else pNote tr (vS (vS V 9 (ior (V 9) (ishl 1 i))) 2 (w32 (V 2 - V (111 + 3 * i)))) 2 i (V (111 + 3 * i))
noncomputable def pPays (tr : Bool) : Nat → Nat → aW → aW
  | 0, _, V => V
  | f + 1, i, V => pPays tr f (i + 1) (pPay tr V i)
noncomputable def lcC (V : aW) : Nat → Int
  | 0 => -1
  | k + 1 => if al V k = true ∧ (lcC V k = -1 ∨ V (11 + k) < V (11 + (lcC V k).toNat)) then k else lcC V k
noncomputable def pWolves (V : aW) : aW :=
  if V 42 = 0 ∨ V 10 = 0 then V else if drw V 1000 < V 42 then pNote true (vS (vS V 7 (rnd (V 7))) 10 (iand (V 10) (ixor (ishl 1 (lcC V 10)) (-1)))) 4 (lcC V 10) 0 else vS V 7 (rnd (V 7))
noncomputable def pEnd (V : aW) : aW := vS (vS (vS V 4 (imax 0 (w32 (V 4 - 1)))) 5 (imax 0 (w32 (V 5 - 1)))) 0 (w32 (V 0 + 1))
noncomputable def pDay (tr : Bool) (V : aW) (L : aLaw) : aW :=
  let V1 := pPlan tr (V 45).toNat 0 V
  let V2 := pDawn tr V1 L
  let V3 := pComes tr V2.1 L V2.2
  let V4 := pPays tr (V 46).toNat 0 V3
  pEnd (if tr = true then pWolves V4 else V4)
theorem vS_eq (V : aW) (k j : Nat) (x : Int) : vS V k x j = if j = k then x else V j := rfl
theorem vS_ne {V : aW} {k j : Nat} {x : Int} (h : j ≠ k) : vS V k x j = V j := if_neg h
theorem vS_at {V : aW} {k : Nat} {x : Int} : vS V k x k = x := if_pos rfl
theorem vS_up {M : aM} {k : Nat} {x : Int} : aUp M 158 k x 158 = vS (M 158) k x := by
  funext j; rw [aUp_same]; rfl
theorem pNote_ne {tr : Bool} {V : aW} {x y z : Int} {k : Nat} (h8 : 0 ≤ V 8 ∧ V 8 ≤ 150) (hk : k ≠ 8) (hk2 : k < 284 ∨ 884 ≤ k) : pNote tr V x y z k = V k := by
  unfold pNote
  split
  · next h => rw [vS_ne (by omega), vS_ne (by omega), vS_ne (by omega), vS_ne (by omega), vS_ne (by omega)]
  · rfl
theorem pNote_8 {tr : Bool} {V : aW} {x y z : Int} (h8 : 0 ≤ V 8 ∧ V 8 ≤ 150) : 0 ≤ pNote tr V x y z 8 ∧ pNote tr V x y z 8 ≤ 150 := by
  unfold pNote
  split
  · next h => rw [vS_at, w32_i (by omega) (by omega)]; omega
  · exact h8
/-! in the reference -/
/-- the writing of a cell of the reference -/
theorem wp_w {M : aM} {j : Nat} {x : Int} {k : aM → aR} {Q : List aV → aM → Prop} (hk : ∀ M', M' 158 = vS (M 158) j x → fr [158] M M' → wp (k M') Q) : wp (aLet (aUp M 158 j x) k) Q := hk _ vS_up (fr_up M 158 j x)
theorem m_notes_eq (d : Nat) (tr : Bool) (V : aW) (x y z : Int) (M : aM) (hV : M 158 = V) (ht : M 157 26 = bI tr) (h8 : 0 ≤ V 8 ∧ V 8 ≤ 150) :
    wp (w_m_notes (d + 1) x y z M) fun r M' => r = [] ∧ M' 158 = pNote tr V x y z ∧ fr [158] M M' := by
  rw [l_m_notes]
  (try simp (disch := omega) only [w32_i, tn_l, tn_n, tn_r, tn_s, tn_1, Nat.add_sub_cancel, Int.reduceToNat, Int.toNat_zero, Int.toNat_one, al3, al4, al5, al6, al8, al9, al11, al13, al15, al17, al19, al21, al23, al25, al27, al29, al30, al31, al95, al96, al128, al129, al130, al131, al134, al135, al137, al139, al140, al142, al143, al144, al145, al147, al148, al149, al151, al152, al153, al154, al155, al156, al158, al159, al160, al161, al162, al163, al164, al165, al166, al167, al168, al169, al170, al171, al172, al173, al174, al175, al176])
  rw [ht]
  cases tr with
  | false =>
    refine wp_pos rfl ?_
    exact wp_ret ⟨rfl, by rw [hV]; simp [pNote], fr_refl _ _⟩
  | true =>
    refine wp_neg (by decide) ?_
    refine wp_inb ⟨by omega, by omega⟩ ?_
    rw [hV]
    refine wp_if (fun h => ?_) (fun h => ?_)
    · exact wp_ret ⟨rfl, by rw [hV]; simp [pNote, h], fr_refl _ _⟩
    · refine wp_inb ⟨by omega, by omega⟩ ?_
      refine wp_I ?_
      refine wp_inb ⟨by omega, by omega⟩ ?_
      obtain ⟨n, hn⟩ : ∃ n : Nat, V 8 = n := ⟨(V 8).toNat, by omega⟩
      have e1 : w32 (284 + w32 (4 * (n : Int))) = ((284 + 4 * n : Nat) : Int) := by simp (disch := omega) only [w32_i]; omega
      have e2 : w32 (((284 + 4 * n : Nat) : Int) + 1) = ((285 + 4 * n : Nat) : Int) := by simp (disch := omega) only [w32_i]; omega
      have e3 : w32 (((284 + 4 * n : Nat) : Int) + 2) = ((286 + 4 * n : Nat) : Int) := by simp (disch := omega) only [w32_i]; omega
      have e4 : w32 (((284 + 4 * n : Nat) : Int) + 3) = ((287 + 4 * n : Nat) : Int) := by simp (disch := omega) only [w32_i]; omega
      rw [hn, e1, e2, e3, e4]
      simp only [tn_n]
      refine wp_inb ⟨by omega, by omega⟩ ?_
      refine wp_w fun M1 w1 f1 => ?_
      refine wp_inb ⟨by omega, by omega⟩ ?_
      refine wp_w fun M2 w2 f2 => ?_
      refine wp_inb ⟨by omega, by omega⟩ ?_
      refine wp_w fun M3 w3 f3 => ?_
      refine wp_inb ⟨by omega, by omega⟩ ?_
      refine wp_w fun M4 w4 f4 => ?_
      refine wp_inb ⟨by omega, by omega⟩ ?_
      refine wp_inb ⟨by omega, by omega⟩ ?_
      refine wp_w fun M5 w5 f5 => ?_
      refine wp_ret ⟨rfl, ?_, fr_tt f1 (fr_tt f2 (fr_tt f3 (fr_tt f4 f5)))⟩
      rw [w5, w4, w3, w2, w1, hV]
      unfold pNote
      rw [if_pos ⟨rfl, h⟩, hn, tn_n]
      congr 1
      rw [vS_ne (by omega), vS_ne (by omega), vS_ne (by omega), vS_ne (by omega), hn]
theorem m_eats_eq (d : Nat) (tr : Bool) (V : aW) (x : Int) (is : Bool) (M : aM) (hV : M 158 = V) (ht : M 157 26 = bI tr) (h8 : 0 ≤ V 8 ∧ V 8 ≤ 150) :
    wp (w_m_eats (d + 2) x (bI is) M) fun r M' => r = [] ∧ M' 158 = pEats tr V x is ∧ fr [158] M M' := by
  rw [l_m_eats]
  (try simp (disch := omega) only [w32_i, tn_l, tn_n, tn_r, tn_s, tn_1, Nat.add_sub_cancel, Int.reduceToNat, Int.toNat_zero, Int.toNat_one, al3, al4, al5, al6, al8, al9, al11, al13, al15, al17, al19, al21, al23, al25, al27, al29, al30, al31, al95, al96, al128, al129, al130, al131, al134, al135, al137, al139, al140, al142, al143, al144, al145, al147, al148, al149, al151, al152, al153, al154, al155, al156, al158, al159, al160, al161, al162, al163, al164, al165, al166, al167, al168, al169, al170, al171, al172, al173, al174, al175, al176])
  cases is with
  | false =>
    refine wp_pos rfl ?_
    refine wp_inb ⟨by omega, by omega⟩ ?_
    refine wp_inb ⟨by omega, by omega⟩ ?_
    refine wp_w fun M1 w1 f1 => ?_
    refine wp_pos rfl ?_
    refine wp_bV (m_notes_eq _ tr _ 5 x 0 M1 w1 (by rw [f1 _ (by simp), ht]) (by rw [hV, vS_ne (by omega)]; exact h8)) ?_
    rintro M2 ⟨w2, f2⟩
    refine wp_ret ⟨rfl, ?_, fr_tt f1 f2⟩
    rw [w2, hV]; rfl
  | true =>
    refine wp_neg (by decide) ?_
    refine wp_inb ⟨by omega, by omega⟩ ?_
    refine wp_inb ⟨by omega, by omega⟩ ?_
    refine wp_w fun M1 w1 f1 => ?_
    refine wp_neg (by decide) ?_
    refine wp_bV (m_notes_eq _ tr _ 3 x 0 M1 w1 (by rw [f1 _ (by simp), ht]) (by rw [hV, vS_ne (by omega)]; exact h8)) ?_
    rintro M2 ⟨w2, f2⟩
    refine wp_ret ⟨rfl, ?_, fr_tt f1 f2⟩
    rw [w2, hV]; rfl
theorem pEats_ne {tr : Bool} {V : aW} {x : Int} {is : Bool} {k : Nat} (h8 : 0 ≤ V 8 ∧ V 8 ≤ 150) (hk : k ≠ 8) (hk3 : k ≠ 10) (hk2 : k < 284 ∨ 884 ≤ k) : pEats tr V x is k = V k := by
  unfold pEats
  rw [pNote_ne (by rw [vS_ne (by omega)]; exact h8) hk hk2, vS_ne hk3]
theorem pEats_8 {tr : Bool} {V : aW} {x : Int} {is : Bool} (h8 : 0 ≤ V 8 ∧ V 8 ≤ 150) : 0 ≤ pEats tr V x is 8 ∧ pEats tr V x is 8 ≤ 150 :=
  pNote_8 (by rw [vS_ne (by omega)]; exact h8)
theorem pDoes_ne {tr : Bool} {V : aW} {i k : Nat} (h8 : 0 ≤ V 8 ∧ V 8 ≤ 150) (hk : k ≠ 8) (hk3 : k ≠ 10) (hk4 : k ≠ 4 ∧ k ≠ 5 ∧ k ≠ 6) (hk2 : k < 284 ∨ 884 ≤ k) : pDoes tr V i k = V k := by
  unfold pDoes
  repeat' split
  all_goals first | exact vS_ne (by omega) | exact pEats_ne h8 hk hk3 hk2 | rfl
theorem pDoes_8 {tr : Bool} {V : aW} {i : Nat} (h8 : 0 ≤ V 8 ∧ V 8 ≤ 150) : 0 ≤ pDoes tr V i 8 ∧ pDoes tr V i 8 ≤ 150 := by
  unfold pDoes
  repeat' split
  all_goals first | exact pEats_8 h8 | (rw [vS_ne (by omega)]; exact h8) | exact h8
theorem m_does_eq (d : Nat) (tr : Bool) (V : aW) (i : Nat) (M : aM) (hV : M 158 = V) (ht : M 157 26 = bI tr) (h8 : 0 ≤ V 8 ∧ V 8 ≤ 150) (hi : i < 16) (h0 : 0 ≤ V 41) (h10 : V 41 ≤ 10) :
    wp (w_m_does (d + 4) ((63 + 3 * i : Nat) : Int) M) fun r M' => r = [] ∧ M' 158 = pDoes tr V i ∧ fr [158] M M' := by
  rw [l_m_does]
  have e1 : w32 (((63 + 3 * i : Nat) : Int) + 1) = ((64 + 3 * i : Nat) : Int) := by simp (disch := omega) only [w32_i]; omega
  have e2 : w32 (((63 + 3 * i : Nat) : Int) + 2) = ((65 + 3 * i : Nat) : Int) := by simp (disch := omega) only [w32_i]; omega
  rw [e1, e2]
  (try simp (disch := omega) only [w32_i, tn_l, tn_n, tn_r, tn_s, tn_1, Nat.add_sub_cancel, Int.reduceToNat, Int.toNat_zero, Int.toNat_one, al3, al4, al5, al6, al8, al9, al11, al13, al15, al17, al19, al21, al23, al25, al27, al29, al30, al31, al95, al96, al128, al129, al130, al131, al134, al135, al137, al139, al140, al142, al143, al144, al145, al147, al148, al149, al151, al152, al153, al154, al155, al156, al158, al159, al160, al161, al162, al163, al164, al165, al166, al167, al168, al169, al170, al171, al172, al173, al174, al175, al176])
  refine wp_inb ⟨by omega, by omega⟩ ?_
  refine wp_I ?_
  refine wp_inb ⟨by omega, by omega⟩ ?_
  rw [hV]
  unfold pDoes
  refine wp_if (fun h1 => ?_) (fun h1 => ?_)
  · refine wp_inb ⟨by omega, by omega⟩ ?_
    rw [if_pos h1]
    refine wp_w fun M1 w1 f1 => ?_
    exact wp_ret ⟨rfl, by rw [w1, hV], f1⟩
  rw [if_neg h1]
  refine wp_if (fun h2 => ?_) (fun h2 => ?_)
  · refine wp_inb ⟨by omega, by omega⟩ ?_
    rw [if_pos h2]
    refine wp_w fun M1 w1 f1 => ?_
    exact wp_ret ⟨rfl, by rw [w1, hV], f1⟩
  rw [if_neg h2]
  refine wp_if (fun h3 => ?_) (fun h3 => ?_)
  · refine wp_inb ⟨by omega, by omega⟩ ?_
    refine wp_inb ⟨by omega, by omega⟩ ?_
    rw [if_pos h3]
    refine wp_w fun M1 w1 f1 => ?_
    exact wp_ret ⟨rfl, by rw [w1, hV], f1⟩
  rw [if_neg h3]
  refine wp_eI (m_isAlive_eq _ _ M (by rw [hV]; omega) (by rw [hV]; omega)) ?_
  refine wp_inb ⟨by omega, by omega⟩ ?_
  rw [hV]
  refine wp_if (fun h4 => ?_) (fun h4 => ?_)
  · rw [if_pos h4]
    cases ha : al V (V (65 + 3 * i)) with
    | true =>
      refine wp_pos rfl ?_
      refine wp_inb ⟨by omega, by omega⟩ ?_
      refine wp_bV (m_eats_eq _ tr V _ true M hV ht h8) ?_
      rintro M1 ⟨w1, f1⟩
      exact wp_ret ⟨rfl, by rw [w1]; simp [h4], f1⟩
    | false =>
      refine wp_neg (by decide) ?_
      exact wp_ret ⟨rfl, by rw [hV]; simp [h4], fr_refl _ _⟩
  · rw [if_neg h4]
    cases ha : al V (V (65 + 3 * i)) with
    | true =>
      refine wp_neg (by decide) ?_
      exact wp_ret ⟨rfl, by rw [hV]; simp [h4], fr_refl _ _⟩
    | false =>
      refine wp_pos rfl ?_
      refine wp_inb ⟨by omega, by omega⟩ ?_
      refine wp_bV (m_eats_eq _ tr V _ false M hV ht h8) ?_
      rintro M1 ⟨w1, f1⟩
      exact wp_ret ⟨rfl, by rw [w1]; simp [h4], f1⟩
