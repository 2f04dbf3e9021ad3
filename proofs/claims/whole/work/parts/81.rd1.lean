/-! text: the class's reader, step by step -/
/-- the tokens stand in their rows -/
def cT (TL : List aTk) (n : Nat) (M : aM) : Prop := M 127 4 = ((TL.length : Nat) : Int) ∧ M 127 5 = n ∧ TL.length ≤ 400 ∧ hT M TL
theorem cT_fr {TL : List aTk} {n : Nat} {M M' : aM} (h : cT TL n M) (f : ∀ k, k = 127 ∨ k = 129 ∨ k = 130 ∨ k = 131 → M' k = M k) : cT TL n M' := by
  obtain ⟨h1, h2, h3, h4⟩ := h
  refine ⟨by rw [f 127 (by omega)]; exact h1, by rw [f 127 (by omega)]; exact h2, h3, fun j t ht => ?_⟩
  rw [f 129 (by omega), f 130 (by omega), f 131 (by omega)]
  exact h4 j t ht
/-- the reader stands at the first of ts -/
def cS (TL : List aTk) (n : Nat) (ts : List aTk) (M : aM) : Prop := ∃ j : Nat, TL.drop j = ts ∧ j ≤ TL.length ∧ M 132 9 = j ∧ M 132 10 = hdK ts ∧ M 132 11 = hdV ts ∧ M 132 12 = hdP n ts
/-- but for what reading sets, the reader's numbers stay -/
def rdF (M M' : aM) : Prop := fr [132] M M' ∧ ∀ j, j ≠ 2 → j ≠ 3 → j ≠ 9 → j ≠ 10 → j ≠ 11 → j ≠ 12 → M' 132 j = M 132 j
theorem rdF_refl (M : aM) : rdF M M := ⟨fr_refl _ _, fun _ _ _ _ _ _ _ => rfl⟩
theorem rdF_tt {M M1 M2 : aM} (h1 : rdF M M1) (h2 : rdF M1 M2) : rdF M M2 := ⟨fr_tt h1.1 h2.1, fun j a b c d e f => (h2.2 j a b c d e f).trans (h1.2 j a b c d e f)⟩
theorem rdF_k {M M' : aM} (h : rdF M M') {k : Nat} (hk : k ≠ 132) : M' k = M k := h.1 k (by simpa using hk)
theorem cT_rd {TL : List aTk} {n : Nat} {M M' : aM} (h : cT TL n M) (f : rdF M M') : cT TL n M' := cT_fr h fun k hk => rdF_k f (by omega)
theorem hd_drop {TL : List aTk} {n j : Nat} {M : aM} (h : cT TL n M) (hj : j < TL.length) : M 129 j = hdK (TL.drop j) ∧ M 130 j = hdV (TL.drop j) ∧ M 131 j = hdP n (TL.drop j) := by
  have h1 := h.2.2.2 j TL[j] (List.getElem?_eq_getElem hj)
  rw [List.drop_eq_getElem_cons hj]
  exact h1
theorem rd_step_lp (d : Nat) {TL : List aTk} {n j : Nat} {M : aM} (hT : cT TL n M) (hj : j ≤ TL.length) (h9 : M 132 9 = (j : Int) - 1) : wp (w_rd_step (d + 1) M) fun r M' => r = [] ∧ rdF M M' ∧ (M' 132 2 = M 132 2 ∧ M' 132 3 = M 132 3) ∧ cS TL n (TL.drop j) M' := by
  obtain ⟨h1, h2, h3, h4⟩ := id hT
  rw [l_rd_step, h9, w32_i (by omega) (by omega)]
  refine wp_up fun M1 f1 g1 => ?_
  rw [g1 9, if_pos rfl, f1 127 (by simp), h1, show (j : Int) - 1 + 1 = j by omega]
  refine wp_neg (by omega) ?_
  have e45 : ¬ (j : Int) < ((TL.length : Nat) : Int) → wp (w_rd_step_45 (d + 1 - 1) M1) fun r M' => r = [] ∧ rdF M M' ∧ (M' 132 2 = M 132 2 ∧ M' 132 3 = M 132 3) ∧ cS TL n (TL.drop j) M' := by
    intro hnl
    have hd : TL.drop j = [] := List.drop_eq_nil_iff.2 (by omega)
    rw [l_rd_step_45]
    refine wp_pos rfl ?_
    refine wp_up fun M2 f2 g2 => ?_
    refine wp_pos rfl ?_
    refine wp_up fun M3 f3 g3 => ?_
    refine wp_pos rfl ?_
    rw [f3 127 (by simp), f2 127 (by simp), f1 127 (by simp), h2]
    refine wp_up fun M4 f4 g4 => ?_
    have G : ∀ i, M4 132 i = if i = 12 then (n : Int) else if i = 11 then 0 else if i = 10 then 0 else if i = 9 then (j : Int) - 1 + 1 else M 132 i := fun i => by rw [g4, g3, g2, g1]
    refine wp_ret ⟨rfl, ⟨fr_tt f1 (fr_tt f2 (fr_tt f3 f4)), fun i a b c e f g => ?_⟩, ⟨?_, ?_⟩, j, rfl, hj, ?_, ?_, ?_, ?_⟩
    · rw [G, if_neg g, if_neg f, if_neg e, if_neg c]
    · rw [G]; rfl
    · rw [G]; rfl
    · rw [G, if_neg (by decide), if_neg (by decide), if_neg (by decide), if_pos rfl]; omega
    · rw [G, hd]; rfl
    · rw [G, hd]; rfl
    · rw [G, hd]; rfl
  refine wp_if (fun hl => ?_) (fun hl => e45 hl)
  obtain ⟨q1, q2, q3⟩ := hd_drop hT (show j < TL.length by omega)
  refine wp_pos (by omega) ?_
  refine wp_neg (by decide) ?_
  rw [al129]
  refine wp_inb ⟨by omega, by omega⟩ ?_
  rw [tn_n, f1 129 (by simp), q1]
  refine wp_up fun M2 f2 g2 => ?_
  refine wp_neg (by decide) ?_
  rw [g2 9, if_neg (by decide), g1 9, if_pos rfl, show (j : Int) - 1 + 1 = j by omega, al130]
  refine wp_inb ⟨by omega, by omega⟩ ?_
  rw [tn_n, f2 130 (by simp), f1 130 (by simp), q2]
  refine wp_up fun M3 f3 g3 => ?_
  refine wp_neg (by decide) ?_
  rw [g3 9, if_neg (by decide), g2 9, if_neg (by decide), g1 9, if_pos rfl, show (j : Int) - 1 + 1 = j by omega, al131]
  refine wp_inb ⟨by omega, by omega⟩ ?_
  rw [tn_n, f3 131 (by simp), f2 131 (by simp), f1 131 (by simp), q3]
  refine wp_up fun M4 f4 g4 => ?_
  have G : ∀ i, M4 132 i = if i = 12 then hdP n (TL.drop j) else if i = 11 then hdV (TL.drop j) else if i = 10 then hdK (TL.drop j) else if i = 9 then (j : Int) - 1 + 1 else M 132 i := fun i => by rw [g4, g3, g2, g1]
  refine wp_ret ⟨rfl, ⟨fr_tt f1 (fr_tt f2 (fr_tt f3 f4)), fun i a b c e f g => ?_⟩, ⟨?_, ?_⟩, j, rfl, hj, ?_, ?_, ?_, ?_⟩
  · rw [G, if_neg g, if_neg f, if_neg e, if_neg c]
  · rw [G]; rfl
  · rw [G]; rfl
  · rw [G, if_neg (by decide), if_neg (by decide), if_neg (by decide), if_pos rfl]; omega
  · rw [G]; rfl
  · rw [G]; rfl
  · rw [G]; rfl
/-- a step, wherever the reader stands -/
theorem rd_step_F (d : Nat) {TL : List aTk} {n : Nat} {M : aM} (hT : cT TL n M) : wp (w_rd_step (d + 1) M) fun r M' => r = [] ∧ rdF M M' ∧ (M' 132 2 = M 132 2 ∧ M' 132 3 = M 132 3) := by
  obtain ⟨h1, h2, h3, h4⟩ := id hT
  have fin : ∀ (M1 M2 M3 M4 : aM) (j1 j2 j3 : Nat) (x1 x2 x3 x0 : Int), fr [132] M M1 → (∀ i, M1 132 i = if i = 9 then x0 else M 132 i) → fr [132] M1 M2 → (∀ i, M2 132 i = if i = 10 then x1 else M1 132 i) → fr [132] M2 M3 → (∀ i, M3 132 i = if i = 11 then x2 else M2 132 i) → fr [132] M3 M4 → (∀ i, M4 132 i = if i = 12 then x3 else M3 132 i) → wp (some ([], M4)) fun r M' => r = [] ∧ rdF M M' ∧ (M' 132 2 = M 132 2 ∧ M' 132 3 = M 132 3) := by
    intro M1 M2 M3 M4 j1 j2 j3 x1 x2 x3 x0 f1 g1 f2 g2 f3 g3 f4 g4
    have G : ∀ i, M4 132 i = if i = 12 then x3 else if i = 11 then x2 else if i = 10 then x1 else if i = 9 then x0 else M 132 i := fun i => by rw [g4, g3, g2, g1]
    refine wp_ret ⟨rfl, ⟨fr_tt f1 (fr_tt f2 (fr_tt f3 f4)), fun i a b c e f g => ?_⟩, ⟨?_, ?_⟩⟩
    · rw [G, if_neg g, if_neg f, if_neg e, if_neg c]
    · rw [G]; rfl
    · rw [G]; rfl
  rw [l_rd_step]
  refine wp_up fun M1 f1 g1 => ?_
  generalize hx : M1 132 9 = x
  have e45 : wp (w_rd_step_45 d M1) fun r M' => r = [] ∧ rdF M M' ∧ (M' 132 2 = M 132 2 ∧ M' 132 3 = M 132 3) := by
    rw [l_rd_step_45]
    refine wp_pos rfl ?_
    refine wp_up fun M2 f2 g2 => ?_
    refine wp_pos rfl ?_
    refine wp_up fun M3 f3 g3 => ?_
    refine wp_pos rfl ?_
    refine wp_up fun M4 f4 g4 => ?_
    exact fin M1 M2 M3 M4 0 0 0 _ _ _ _ f1 g1 f2 g2 f3 g3 f4 g4
  refine wp_if (fun _ => e45) (fun a1 => ?_)
  refine wp_if (fun a2 => ?_) (fun _ => e45)
  refine wp_if (fun a3 => ?_) (fun _ => e45)
  refine wp_neg (by decide) ?_
  rw [al129]
  refine wp_inb ⟨by omega, by omega⟩ ?_
  refine wp_up fun M2 f2 g2 => ?_
  refine wp_neg (by decide) ?_
  rw [g2 9, if_neg (by decide), hx, al130]
  refine wp_inb ⟨by omega, by omega⟩ ?_
  refine wp_up fun M3 f3 g3 => ?_
  refine wp_neg (by decide) ?_
  rw [g3 9, if_neg (by decide), g2 9, if_neg (by decide), hx, al131]
  refine wp_inb ⟨by omega, by omega⟩ ?_
  refine wp_up fun M4 f4 g4 => ?_
  exact fin M1 M2 M3 M4 0 0 0 _ _ _ _ f1 g1 f2 g2 f3 g3 f4 g4
/-- reading goes on at ts' -/
def gGo (TL : List aTk) (n : Nat) (ts' : List aTk) (M M' : aM) : Prop := rdF M M' ∧ M' 132 2 = 0 ∧ M' 132 3 = M 132 3 ∧ cS TL n ts' M'
/-- a fault has been found -/
def gF (f p : Int) (M M' : aM) : Prop := rdF M M' ∧ M' 132 2 = f ∧ M' 132 3 = p ∧ f ≠ 0
theorem rd_step_S (d : Nat) {TL : List aTk} {n : Nat} {ts : List aTk} {M : aM} (hT : cT TL n M) (hS : cS TL n ts M) (h0 : M 132 2 = 0) (hne : hdK ts ≠ 0) : wp (w_rd_step (d + 1) M) fun r M' => r = [] ∧ gGo TL n ts.tail M M' := by
  obtain ⟨j, e1, e2, e3, -⟩ := hS
  have hj : j < TL.length := by
    apply Decidable.byContradiction
    intro h
    rw [List.drop_eq_nil_iff.2 (by omega)] at e1
    subst e1
    exact hne rfl
  refine wp_mono (rd_step_lp d (j := j + 1) hT (by omega) (by rw [e3]; omega)) ?_
  rintro r M' ⟨q1, q2, ⟨q3, q4⟩, q5⟩
  refine ⟨q1, q2, by rw [q3, h0], q4, ?_⟩
  rw [show ts.tail = TL.drop (j + 1) by rw [← e1, List.tail_drop]]
  exact q5
theorem rd_fail_eq (d : Nat) (f : Int) (hf : f ≠ 0) {M : aM} (h0 : M 132 2 = 0) : wp (w_rd_fail (d + 1) f M) fun r M' => r = [] ∧ gF f (M 132 12) M M' := by
  rw [l_rd_fail]
  refine wp_pos h0 ?_
  refine wp_up fun M1 f1 g1 => ?_
  rw [g1 12, if_neg (by decide)]
  refine wp_up fun M2 f2 g2 => ?_
  refine wp_ret ⟨rfl, ⟨fr_tt f1 f2, fun i a b c e f g => ?_⟩, ?_, ?_, hf⟩
  · rw [g2, if_neg b, g1, if_neg a]
  · rw [g2, if_neg (by decide), g1, if_pos rfl]
  · rw [g2, if_pos rfl]
theorem rd_fail_F (d : Nat) (f : Int) {M : aM} (h0 : M 132 2 ≠ 0) : w_rd_fail (d + 1) f M = some ([], M) := by rw [u_rd_fail, if_neg h0]
/-- a fault stays as it was -/
def gG (M M' : aM) : Prop := rdF M M' ∧ M' 132 2 = M 132 2 ∧ M' 132 3 = M 132 3
theorem gG_refl (M : aM) : gG M M := ⟨rdF_refl M, rfl, rfl⟩
theorem gG_tt {M M1 M2 : aM} (h1 : gG M M1) (h2 : gG M1 M2) : gG M M2 := ⟨rdF_tt h1.1 h2.1, h2.2.1.trans h1.2.1, h2.2.2.trans h1.2.2⟩
theorem gF_G {f p : Int} {M M1 M2 : aM} (h1 : gF f p M M1) (h2 : gG M1 M2) : gF f p M M2 := ⟨rdF_tt h1.1 h2.1, h2.2.1.trans h1.2.1, h2.2.2.trans h1.2.2.1, h1.2.2.2⟩
theorem gF_n {f p : Int} {M M1 : aM} (h : gF f p M M1) : M1 132 2 ≠ 0 := by rw [h.2.1]; exact h.2.2.2
theorem rd_take_F (d : Nat) (t : Int) {TL : List aTk} {n : Nat} {M : aM} (hT : cT TL n M) (h0 : M 132 2 ≠ 0) : wp (w_rd_take (d + 2) t M) fun r M' => r = [] ∧ gG M M' := by
  rw [l_rd_take]
  refine wp_if (fun _ => ?_) (fun _ => ?_)
  · refine wp_bV (P := fun M' => gG M M') (rd_step_F _ hT) ?_
    intro M1 g; exact wp_ret ⟨rfl, g⟩
  · refine wp_eV (rd_fail_F _ _ h0) ?_
    exact wp_ret ⟨rfl, gG_refl M⟩
theorem rd_num_F (d : Nat) (lo hi : Int) {TL : List aTk} {n : Nat} {M : aM} (hT : cT TL n M) (h0 : M 132 2 ≠ 0) : wp (w_rd_takeNumber (d + 2) lo hi M) fun r M' => (∃ v, r = [aI v]) ∧ gG M M' := by
  rw [l_rd_takeNumber]
  refine wp_I ?_
  refine wp_if (fun _ => ?_) (fun _ => ?_)
  · refine wp_if (fun _ => ?_) (fun _ => ?_)
    · refine wp_eV (rd_fail_F _ _ h0) ?_
      exact wp_ret ⟨⟨_, rfl⟩, gG_refl M⟩
    · refine wp_if (fun _ => ?_) (fun _ => ?_)
      · refine wp_eV (rd_fail_F _ _ h0) ?_
        exact wp_ret ⟨⟨_, rfl⟩, gG_refl M⟩
      · refine wp_bV (P := fun M' => gG M M') (rd_step_F _ hT) ?_
        intro M1 g; exact wp_ret ⟨⟨_, rfl⟩, g⟩
  · refine wp_eV (rd_fail_F _ _ h0) ?_
    exact wp_ret ⟨⟨_, rfl⟩, gG_refl M⟩
/-- what taking a word or a sign comes to -/
def pTk (n : Nat) (t : Int) (ts : List aTk) : (Int × Int) ⊕ List aTk := if hdK ts = t then .inr ts.tail else .inl (1, hdP n ts)
def pNum (n : Nat) (lo hi : Int) (ts : List aTk) : (Int × Int) ⊕ (Int × List aTk) :=
  if hdK ts = 1 then (if lo ≤ hdV ts ∧ hdV ts ≤ hi then .inr (hdV ts, ts.tail) else .inl (2, hdP n ts)) else .inl (1, hdP n ts)
theorem rd_take_S (d : Nat) (t : Int) (ht : t ≠ 0) {TL : List aTk} {n : Nat} {ts : List aTk} {M : aM} (hT : cT TL n M) (hS : cS TL n ts M) (h0 : M 132 2 = 0) : wp (w_rd_take (d + 2) t M) fun r M' => r = [] ∧ match pTk n t ts with
    | .inl e => gF e.1 e.2 M M'
    | .inr ts' => gGo TL n ts' M M' := by
  obtain ⟨j, e1, e2, e3, e4, e5, e6⟩ := id hS
  unfold pTk
  rw [l_rd_take, e4]
  refine wp_if (fun h => ?_) (fun h => ?_)
  · rw [if_pos h]
    refine wp_bV (rd_step_S _ hT hS h0 (by rw [h]; exact ht)) ?_
    intro M1 g; exact wp_ret ⟨rfl, g⟩
  · rw [if_neg h]
    refine wp_bV (rd_fail_eq _ 1 (by decide) h0) ?_
    intro M1 g
    rw [e6] at g
    exact wp_ret ⟨rfl, g⟩
theorem rd_num_S (d : Nat) (lo hi : Int) {TL : List aTk} {n : Nat} {ts : List aTk} {M : aM} (hT : cT TL n M) (hS : cS TL n ts M) (h0 : M 132 2 = 0) : wp (w_rd_takeNumber (d + 2) lo hi M) fun r M' => match pNum n lo hi ts with
    | .inl e => (∃ v, r = [aI v]) ∧ gF e.1 e.2 M M'
    | .inr q => r = [aI q.1] ∧ gGo TL n q.2 M M' := by
  obtain ⟨j, e1, e2, e3, e4, e5, e6⟩ := id hS
  unfold pNum
  rw [l_rd_takeNumber, e4, e5]
  refine wp_I ?_
  refine wp_if (fun h => ?_) (fun h => ?_)
  · rw [if_pos h]
    have bad : wp (bndV (w_rd_fail (d + 1) 2 M) fun M15 => some ([aI (hdV ts)], M15)) fun r M' => (∃ v, r = [aI v]) ∧ gF 2 (hdP n ts) M M' := by
      refine wp_bV (rd_fail_eq _ 2 (by decide) h0) ?_
      intro M1 g
      rw [e6] at g
      exact wp_ret ⟨⟨_, rfl⟩, g⟩
    refine wp_if (fun h1 => ?_) (fun h1 => ?_)
    · rw [if_neg (by omega)]; exact bad
    · refine wp_if (fun h2 => ?_) (fun h2 => ?_)
      · rw [if_neg (by omega)]; exact bad
      · rw [if_pos (by omega)]
        refine wp_bV (rd_step_S _ hT hS h0 (by rw [h]; decide)) ?_
        intro M1 g; exact wp_ret ⟨rfl, g⟩
  · rw [if_neg h]
    refine wp_bV (rd_fail_eq _ 1 (by decide) h0) ?_
    intro M1 g
    rw [e6] at g
    exact wp_ret ⟨⟨_, rfl⟩, g⟩
