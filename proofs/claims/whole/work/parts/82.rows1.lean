/-! text: plans, dues, feasts, purely and in the class -/
abbrev aRow3 : Type := Int × Int × Int
abbrev aRes (α : Type) : Type := (Int × Int) ⊕ α
def tEnd (n : Nat) (r : aRow3) (ts : List aTk) : aRes (aRow3 × List aTk) :=
  match pTk n 59 ts with
  | .inl e => .inl e
  | .inr t => .inr (r, t)
def tPlan (n : Nat) (dn : Int) (ts : List aTk) : aRes (aRow3 × List aTk) :=
  match pNum n 0 999 ts.tail with
  | .inl e => .inl e
  | .inr q => if 257 ≤ hdK q.2 ∧ hdK q.2 ≤ 261 then
      (if hdK q.2 = 259 then tEnd n (q.1, hdK q.2 - 256, 0) q.2.tail else
        match pNum n 0 (if hdK q.2 = 257 ∨ hdK q.2 = 258 then 99 else dn - 1) q.2.tail with
        | .inl e => .inl e
        | .inr v => tEnd n (q.1, hdK q.2 - 256, v.1) v.2)
    else .inl (1, hdP n q.2)
def tDue (n : Nat) (dn : Int) (ts : List aTk) : aRes (aRow3 × List aTk) :=
  match pNum n 1 999 ts.tail with
  | .inl e => .inl e
  | .inr q => match pTk n 257 q.2 with
    | .inl e => .inl e
    | .inr t => match pNum n 0 (dn - 1) t with
      | .inl e => .inl e
      | .inr v => if hdK v.2 = 258 then
          (match pNum n 0 999 v.2.tail with
          | .inl e => .inl e
          | .inr y => tEnd n (q.1, v.1, y.1) y.2)
        else tEnd n (q.1, v.1, -1) v.2
def tFeast (n : Nat) (ts : List aTk) : aRes (aRow3 × List aTk) :=
  match pNum n 0 30 ts.tail with
  | .inl e => .inl e
  | .inr q => match pTk n 257 q.2 with
    | .inl e => .inl e
    | .inr t => match pNum n 0 9 t with
      | .inl e => .inl e
      | .inr v => tEnd n (q.1, v.1, 0) v.2
def tLn (k n : Nat) (dn : Int) (ts : List aTk) : aRes (aRow3 × List aTk) := if k = 1 then tPlan n dn ts else if k = 2 then tDue n dn ts else tFeast n ts
def tRows (k n : Nat) (dn : Int) (most : Nat) : Nat → List aRow3 → List aTk → aRes (List aRow3)
  | 0, _, _ => .inl (0, 0)
  | f + 1, L, ts => if hdK ts = 0 then .inr L else if hdK ts ≠ 256 then .inl (1, hdP n ts) else if L.length = most then .inl (3, hdP n ts)
    else match tLn k n dn ts with
      | .inl e => .inl e
      | .inr q => tRows k n dn most f (L ++ [q.1]) q.2
/-- the rows that have been read -/
def cRw (L : List aRow3) (M : aM) : Prop := M 138 0 = 16 ∧ M 138 2 = ((L.length : Nat) : Int) ∧ L.length ≤ 16 ∧ ∀ i t, L[i]? = some t → M 139 (4 * i) = t.1 ∧ M 139 (4 * i + 1) = t.2.1 ∧ M 139 (4 * i + 2) = t.2.2
theorem cRw_fr {L : List aRow3} {M M' : aM} (h : cRw L M) (f : ∀ k, k = 138 ∨ k = 139 → M' k = M k) : cRw L M' := by
  unfold cRw at h ⊢
  rw [f 138 (by omega), f 139 (by omega)]
  exact h
theorem rows_put_any (d c : Nat) (x y z u : Int) (M : aM) (h0 : M c 0 = 16) (n : Nat) (h2 : M c 2 = n) (hl : aLen (c + 1) = 64) : wp (w_rows_put (d + 1) c x y z u M) fun r M' => (∃ v, r = [aI v]) ∧ fr [c, c + 1] M M' ∧ M' c 0 = M c 0 := by
  by_cases hn : n < 16
  · exact wp_mono (rows_put_lt d c n 16 x y z u M h0 h2 hn (by omega) hl) fun r M' q => ⟨⟨_, q.1⟩, q.2.1, q.2.2.1.trans h0.symm⟩
  · exact ⟨_, M, rows_put_ge d c n 16 x y z u M h0 h2 (by omega), ⟨_, rfl⟩, fr_refl _ _, rfl⟩
def fr8 (M M' : aM) : Prop := fr [132, 138, 139] M M' ∧ M' 138 0 = M 138 0
theorem fr8_refl (M : aM) : fr8 M M := ⟨fr_refl _ _, rfl⟩
theorem fr8_tt {M M1 M2 : aM} (h1 : fr8 M M1) (h2 : fr8 M1 M2) : fr8 M M2 := ⟨fr_tt h1.1 h2.1, h2.2.trans h1.2⟩
theorem fr8_w {M M1 : aM} (h : fr [132] M M1) : fr8 M M1 := ⟨fr_w h (by simp), by rw [h 138 (by simp)]⟩
theorem fr8_tr {M M1 M2 : aM} (h1 : fr [132] M M1) (h2 : fr8 M1 M2) : fr8 M M2 := fr8_tt (fr8_w h1) h2
theorem fr8_p {M M1 : aM} (h : fr [138, 139] M M1) (h0 : M1 138 0 = M 138 0) : fr8 M M1 := ⟨fr_w h (by simp), h0⟩
/-- what a line comes to in the class -/
def lR (TL : List aTk) (n : Nat) (L : List aRow3) (p : aRes (aRow3 × List aTk)) (M M' : aM) : Prop := fr8 M M' ∧ match p with
  | .inl e => M' 132 2 = e.1 ∧ M' 132 3 = e.2 ∧ e.1 ≠ 0
  | .inr q => M' 132 2 = 0 ∧ M' 132 3 = M 132 3 ∧ cS TL n q.2 M' ∧ cRw (L ++ [q.1]) M'
theorem lR_tr {TL : List aTk} {n : Nat} {L : List aRow3} {p : aRes (aRow3 × List aTk)} {M M1 M' : aM} (f : fr [132] M M1) (h3 : M1 132 3 = M 132 3) (h : lR TL n L p M1 M') : lR TL n L p M M' := by
  obtain ⟨h1, h2⟩ := h
  refine ⟨fr8_tr f h1, ?_⟩
  cases p with
  | inl e => exact h2
  | inr q => exact ⟨h2.1, h2.2.1.trans h3, h2.2.2⟩
theorem rd_end_F (d : Nat) (a b c : Int) {TL : List aTk} {n : Nat} {L : List aRow3} {M : aM} (hT : cT TL n M) (h0 : M 132 2 ≠ 0) (hR : cRw L M) (x : aRow3 × List aTk) : wp (bndV (w_rd_take (d + 2) 59 M) fun M16 => bndI (w_rows_put (d + 2) 138 a b c 0 M16) fun y18 M17 => some ([], M17)) fun r M' => r = [] ∧ fr8 M M' ∧ M' 132 2 = M 132 2 ∧ M' 132 3 = M 132 3 := by
  refine wp_bV (rd_take_F d 59 hT h0) ?_
  intro M1 g1
  have hR1 := cRw_fr hR (M' := M1) fun k hk => rdF_k g1.1 (by omega)
  obtain ⟨v, M2, e, ⟨y, rfl⟩, f2, z2⟩ := rows_put_any (d + 1) 138 a b c 0 M1 hR1.1 L.length hR1.2.1 al139
  refine wp_eI e ?_
  refine wp_ret ⟨rfl, fr8_tr g1.1.1 (fr8_p f2 z2), ?_, ?_⟩
  · rw [f2 132 (by simp), g1.2.1]
  · rw [f2 132 (by simp), g1.2.2]
theorem rd_end_S (d : Nat) (a b c : Int) {TL : List aTk} {n : Nat} {ts : List aTk} {L : List aRow3} {M : aM} (hT : cT TL n M) (hS : cS TL n ts M) (h0 : M 132 2 = 0) (hR : cRw L M) (hl : L.length < 16) : wp (bndV (w_rd_take (d + 2) 59 M) fun M16 => bndI (w_rows_put (d + 2) 138 a b c 0 M16) fun y18 M17 => some ([], M17)) fun r M' => r = [] ∧ lR TL n L (tEnd n (a, b, c) ts) M M' := by
  have tk := rd_take_S d 59 (by decide) hT hS h0
  unfold tEnd
  cases hp : pTk n 59 ts with
  | inl e =>
    rw [hp] at tk
    refine wp_bV tk ?_
    intro M1 g1
    have hR1 := cRw_fr hR (M' := M1) fun k hk => rdF_k g1.1 (by omega)
    obtain ⟨v, M2, e2, ⟨y, rfl⟩, f2, z2⟩ := rows_put_any (d + 1) 138 a b c 0 M1 hR1.1 L.length hR1.2.1 al139
    refine wp_eI e2 ?_
    refine wp_ret ⟨rfl, fr8_tr g1.1.1 (fr8_p f2 z2), ?_, ?_, g1.2.2.2⟩
    · rw [f2 132 (by simp), g1.2.1]
    · rw [f2 132 (by simp), g1.2.2.1]
  | inr t =>
    rw [hp] at tk
    refine wp_bV tk ?_
    intro M1 g1
    have hR1 := cRw_fr hR (M' := M1) fun k hk => rdF_k g1.1 (by omega)
    refine wp_bI (P := fun v M' => v = 1 ∧ fr [138, 139] M1 M' ∧ M' 138 0 = 16 ∧ M' 138 2 = ((L.length + 1 : Nat) : Int) ∧ ∀ j, M' 139 j = if j = 4 * L.length then a else if j = 4 * L.length + 1 then b else if j = 4 * L.length + 2 then c else if j = 4 * L.length + 3 then 0 else M1 139 j) (wp_mono (rows_put_lt (d + 1) 138 L.length 16 a b c 0 M1 hR1.1 hR1.2.1 hl (by omega) al139) fun r M' q => ⟨_, q.1, rfl, q.2⟩) ?_
    rintro v M2 ⟨rfl, f2, k0, k2, kc⟩
    refine wp_ret ⟨rfl, fr8_tr g1.1.1 (fr8_p f2 (by rw [k0, hR1.1])), by rw [f2 132 (by simp), g1.2.1], by rw [f2 132 (by simp), g1.2.2.1], ?_, k0, by rw [k2]; simp, by simp; omega, fun i u hu => ?_⟩
    · obtain ⟨j, e1, e2, e3, e4, e5, e6⟩ := g1.2.2.2
      exact ⟨j, e1, e2, by rw [f2 132 (by simp)]; exact e3, by rw [f2 132 (by simp)]; exact e4, by rw [f2 132 (by simp)]; exact e5, by rw [f2 132 (by simp)]; exact e6⟩
    · by_cases hi : i < L.length
      · rw [List.getElem?_append_left hi] at hu
        have := hR1.2.2.2 i u hu
        rw [kc, kc, kc, if_neg (by omega), if_neg (by omega), if_neg (by omega), if_neg (by omega), if_neg (by omega), if_neg (by omega), if_neg (by omega), if_neg (by omega), if_neg (by omega), if_neg (by omega), if_neg (by omega), if_neg (by omega)]
        exact this
      · rw [List.getElem?_append_right (by omega)] at hu
        have hz : i - L.length = 0 := by
          apply Decidable.byContradiction
          intro h
          rw [List.getElem?_eq_none (by simp; omega)] at hu
          cases hu
        rw [hz] at hu
        cases hu
        rw [kc, kc, kc, if_pos (by omega), if_neg (by omega), if_pos (by omega), if_neg (by omega), if_neg (by omega), if_pos (by omega)]
        exact ⟨rfl, rfl, rfl⟩
theorem rd_feast_eq (d : Nat) {TL : List aTk} {n : Nat} {ts : List aTk} {L : List aRow3} {M : aM} (hT : cT TL n M) (hS : cS TL n ts M) (h0 : M 132 2 = 0) (hk : hdK ts = 256) (hR : cRw L M) (hl : L.length < 16) : wp (w_rd_feastLine (d + 3) M) fun r M' => r = [] ∧ lR TL n L (tFeast n ts) M M' := by
  have rows : ∀ {M1 : aM}, rdF M M1 → cRw L M1 := fun g => cRw_fr hR fun k hk => rdF_k g (by omega)
  rw [l_rd_feastLine]
  refine wp_bV (rd_step_S _ hT hS h0 (by rw [hk]; decide)) ?_
  intro M1 g1
  have T1 := cT_rd hT g1.1
  have n1 := rd_num_S d 0 30 T1 g1.2.2.2 g1.2.1
  unfold tFeast
  cases hp1 : pNum n 0 30 ts.tail with
  | inl e =>
    rw [hp1] at n1
    obtain ⟨r, M2, e2, ⟨v, rfl⟩, g2⟩ := n1
    refine wp_eI e2 ?_
    have T2 := cT_rd T1 g2.1
    refine wp_bV (rd_take_F d 257 T2 (gF_n g2)) ?_
    intro M3 g3
    have g23 := gF_G g2 g3
    have T3 := cT_rd T2 g3.1
    obtain ⟨r, M4, e4, ⟨v2, rfl⟩, g4⟩ := rd_num_F d 0 9 T3 (gF_n g23)
    refine wp_eI e4 ?_
    have g24 := gF_G g23 g4
    refine wp_mono (rd_end_F d v v2 0 (cT_rd T3 g4.1) (gF_n g24) (rows (rdF_tt g1.1 g24.1)) (default, [])) ?_
    rintro r M' ⟨q1, q2, q3, q4⟩
    exact ⟨q1, fr8_tr (rdF_tt g1.1 g24.1).1 q2, q3.trans g24.2.1, q4.trans g24.2.2.1, g24.2.2.2⟩
  | inr q =>
    rw [hp1] at n1
    obtain ⟨r, M2, e2, rfl, g2⟩ := n1
    refine wp_eI e2 ?_
    have T2 := cT_rd T1 g2.1
    have t2 := rd_take_S d 257 (by decide) T2 g2.2.2.2 g2.2.1
    dsimp only
    cases hp2 : pTk n 257 q.2 with
    | inl e =>
      rw [hp2] at t2
      refine wp_bV t2 ?_
      intro M3 g3
      have T3 := cT_rd T2 g3.1
      obtain ⟨r, M4, e4, ⟨v2, rfl⟩, g4⟩ := rd_num_F d 0 9 T3 (gF_n g3)
      refine wp_eI e4 ?_
      have g34 := gF_G g3 g4
      have gr := rdF_tt g1.1 (rdF_tt g2.1 g34.1)
      refine wp_mono (rd_end_F d _ v2 0 (cT_rd T3 g4.1) (gF_n g34) (rows gr) (default, [])) ?_
      rintro r M' ⟨q1, q2, q3, q4⟩
      exact ⟨q1, fr8_tr gr.1 q2, q3.trans g34.2.1, q4.trans g34.2.2.1, g34.2.2.2⟩
    | inr t =>
      rw [hp2] at t2
      refine wp_bV t2 ?_
      intro M3 g3
      have T3 := cT_rd T2 g3.1
      have n3 := rd_num_S d 0 9 T3 g3.2.2.2 g3.2.1
      have gr3 := rdF_tt g1.1 (rdF_tt g2.1 g3.1)
      dsimp only
      cases hp3 : pNum n 0 9 t with
      | inl e =>
        rw [hp3] at n3
        obtain ⟨r, M4, e4, ⟨v2, rfl⟩, g4⟩ := n3
        refine wp_eI e4 ?_
        have gr := rdF_tt gr3 g4.1
        refine wp_mono (rd_end_F d _ v2 0 (cT_rd T3 g4.1) (gF_n g4) (rows gr) (default, [])) ?_
        rintro r M' ⟨q1, q2, q3, q4⟩
        exact ⟨q1, fr8_tr gr.1 q2, q3.trans g4.2.1, q4.trans g4.2.2.1, g4.2.2.2⟩
      | inr v =>
        rw [hp3] at n3
        obtain ⟨r, M4, e4, rfl, g4⟩ := n3
        refine wp_eI e4 ?_
        have gr := rdF_tt gr3 g4.1
        refine wp_mono (rd_end_S d _ _ 0 (cT_rd T3 g4.1) g4.2.2.2 g4.2.1 (rows gr) hl) ?_
        rintro r M' ⟨q1, q2⟩
        exact ⟨q1, lR_tr gr.1 (by rw [g4.2.2.1, g3.2.2.1, g2.2.2.1, g1.2.2.1]) q2⟩
theorem rd_due_eq (d : Nat) (dn : Int) (hdn : 0 ≤ dn ∧ dn ≤ 10) {TL : List aTk} {n : Nat} {ts : List aTk} {L : List aRow3} {M : aM} (hT : cT TL n M) (hS : cS TL n ts M) (h0 : M 132 2 = 0) (hk : hdK ts = 256) (hR : cRw L M) (hl : L.length < 16) : wp (w_rd_dueLine (d + 3) dn M) fun r M' => r = [] ∧ lR TL n L (tDue n dn ts) M M' := by
  have rows : ∀ {M1 : aM}, rdF M M1 → cRw L M1 := fun g => cRw_fr hR fun k hk => rdF_k g (by omega)
  rw [l_rd_dueLine, w32_i (by omega) (by omega)]
  refine wp_bV (rd_step_S _ hT hS h0 (by rw [hk]; decide)) ?_
  intro M1 g1
  have T1 := cT_rd hT g1.1
  have n1 := rd_num_S d 1 999 T1 g1.2.2.2 g1.2.1
  unfold tDue
  have bad : ∀ {e : Int × Int} {M0 M4 : aM} {v y : Int}, rdF M M0 → gF e.1 e.2 M0 M4 → wp (if (M4 132 2) = 0 then
      if (M4 132 10) = 258 then
        bndV (w_rd_step (d + 2) M4) fun M19 =>
        bndI (w_rd_takeNumber (d + 2) 0 999 M19) fun y21 M20 =>
        bndV (w_rd_take (d + 2) 59 M20) fun M22 =>
        bndI (w_rows_put (d + 2) 138 v y y21 0 M22) fun y24 M23 =>
        some ([], M23)
      else
        bndV (w_rd_take (d + 2) 59 M4) fun M25 =>
        bndI (w_rows_put (d + 2) 138 v y (-1) 0 M25) fun y27 M26 =>
        some ([], M26)
    else
      bndV (w_rd_take (d + 2) 59 M4) fun M28 =>
      bndI (w_rows_put (d + 2) 138 v y (-1) 0 M28) fun y30 M29 =>
      some ([], M29)) fun r M' => r = [] ∧ lR TL n L (.inl e) M M' := by
    intro e M0 M4 v y r0 g4
    refine wp_neg (gF_n g4) ?_
    have gr := rdF_tt r0 g4.1
    refine wp_mono (rd_end_F d v y (-1) (cT_rd hT gr) (gF_n g4) (rows gr) (default, [])) ?_
    rintro r M' ⟨q1, q2, q3, q4⟩
    exact ⟨q1, fr8_tr gr.1 q2, q3.trans g4.2.1, q4.trans g4.2.2.1, g4.2.2.2⟩
  cases hp1 : pNum n 1 999 ts.tail with
  | inl e =>
    rw [hp1] at n1
    obtain ⟨r, M2, e2, ⟨v, rfl⟩, g2⟩ := n1
    refine wp_eI e2 ?_
    have T2 := cT_rd T1 g2.1
    refine wp_bV (rd_take_F d 257 T2 (gF_n g2)) ?_
    intro M3 g3
    have g23 := gF_G g2 g3
    have T3 := cT_rd T2 g3.1
    obtain ⟨r, M4, e4, ⟨v2, rfl⟩, g4⟩ := rd_num_F d 0 (dn - 1) T3 (gF_n g23)
    refine wp_eI e4 ?_
    exact bad g1.1 (gF_G g23 g4)
  | inr q =>
    rw [hp1] at n1
    obtain ⟨r, M2, e2, rfl, g2⟩ := n1
    refine wp_eI e2 ?_
    have T2 := cT_rd T1 g2.1
    have t2 := rd_take_S d 257 (by decide) T2 g2.2.2.2 g2.2.1
    dsimp only
    cases hp2 : pTk n 257 q.2 with
    | inl e =>
      rw [hp2] at t2
      refine wp_bV t2 ?_
      intro M3 g3
      have T3 := cT_rd T2 g3.1
      obtain ⟨r, M4, e4, ⟨v2, rfl⟩, g4⟩ := rd_num_F d 0 (dn - 1) T3 (gF_n g3)
      refine wp_eI e4 ?_
      exact bad (rdF_tt g1.1 g2.1) (gF_G g3 g4)
    | inr t =>
      rw [hp2] at t2
      refine wp_bV t2 ?_
      intro M3 g3
      have T3 := cT_rd T2 g3.1
      have n3 := rd_num_S d 0 (dn - 1) T3 g3.2.2.2 g3.2.1
      have gr3 := rdF_tt g1.1 (rdF_tt g2.1 g3.1)
      dsimp only
      cases hp3 : pNum n 0 (dn - 1) t with
      | inl e =>
        rw [hp3] at n3
        obtain ⟨r, M4, e4, ⟨v2, rfl⟩, g4⟩ := n3
        refine wp_eI e4 ?_
        exact bad gr3 g4
      | inr v =>
        rw [hp3] at n3
        obtain ⟨r, M4, e4, rfl, g4⟩ := n3
        refine wp_eI e4 ?_
        have gr := rdF_tt gr3 g4.1
        have h3 : M4 132 3 = M 132 3 := by rw [g4.2.2.1, g3.2.2.1, g2.2.2.1, g1.2.2.1]
        have T4 := cT_rd T3 g4.1
        obtain ⟨j, e1, e2', e3, e4', e5, e6⟩ := id g4.2.2.2
        refine wp_pos g4.2.1 ?_
        rw [e4']
        dsimp only
        refine wp_if (fun h8 => ?_) (fun h8 => ?_)
        · rw [if_pos h8]
          refine wp_bV (rd_step_S _ T4 g4.2.2.2 g4.2.1 (by rw [h8]; decide)) ?_
          intro M5 g5
          have T5 := cT_rd T4 g5.1
          have gr5 := rdF_tt gr g5.1
          have n5 := rd_num_S d 0 999 T5 g5.2.2.2 g5.2.1
          cases hp5 : pNum n 0 999 v.2.tail with
          | inl e =>
            rw [hp5] at n5
            obtain ⟨r, M6, e6, ⟨v6, rfl⟩, g6⟩ := n5
            refine wp_eI e6 ?_
            have gr6 := rdF_tt gr5 g6.1
            refine wp_mono (rd_end_F d _ _ v6 (cT_rd T5 g6.1) (gF_n g6) (rows gr6) (default, [])) ?_
            rintro r M' ⟨q1, q2, q3, q4⟩
            exact ⟨q1, fr8_tr gr6.1 q2, q3.trans g6.2.1, q4.trans g6.2.2.1, g6.2.2.2⟩
          | inr y =>
            rw [hp5] at n5
            obtain ⟨r, M6, e6, rfl, g6⟩ := n5
            refine wp_eI e6 ?_
            have gr6 := rdF_tt gr5 g6.1
            refine wp_mono (rd_end_S d _ _ _ (cT_rd T5 g6.1) g6.2.2.2 g6.2.1 (rows gr6) hl) ?_
            rintro r M' ⟨q1, q2⟩
            exact ⟨q1, lR_tr gr6.1 (by rw [g6.2.2.1, g5.2.2.1, h3]) q2⟩
        · rw [if_neg h8]
          refine wp_mono (rd_end_S d _ _ (-1) T4 g4.2.2.2 g4.2.1 (rows gr) hl) ?_
          rintro r M' ⟨q1, q2⟩
          exact ⟨q1, lR_tr gr.1 h3 q2⟩
theorem rd_plan_eq (d : Nat) (dn : Int) (hdn : 0 ≤ dn ∧ dn ≤ 10) {TL : List aTk} {n : Nat} {ts : List aTk} {L : List aRow3} {M : aM} (hT : cT TL n M) (hK : ∀ j, -1 ≤ hdK (TL.drop j) ∧ hdK (TL.drop j) < 100000) (hS : cS TL n ts M) (h0 : M 132 2 = 0) (hk : hdK ts = 256) (hR : cRw L M) (hl : L.length < 16) : wp (w_rd_planLine (d + 3) dn M) fun r M' => r = [] ∧ lR TL n L (tPlan n dn ts) M M' := by
  have rows : ∀ {M1 : aM}, rdF M M1 → cRw L M1 := fun g => cRw_fr hR fun k hk => rdF_k g (by omega)
  rw [l_rd_planLine]
  refine wp_bV (rd_step_S _ hT hS h0 (by rw [hk]; decide)) ?_
  intro M1 g1
  have T1 := cT_rd hT g1.1
  have n1 := rd_num_S d 0 999 T1 g1.2.2.2 g1.2.1
  unfold tPlan
  have bad : ∀ {e : Int × Int} {M0 M4 : aM} {y x z : Int}, rdF M M0 → gF e.1 e.2 M0 M4 → wp (w_rd_planLine_47 (d + 2) dn y x z M4) fun r M' => r = [] ∧ lR TL n L (.inl e) M M' := by
    intro e M0 M4 y x z r0 g4
    rw [l_rd_planLine_47]
    refine wp_neg (gF_n g4) ?_
    exact wp_ret ⟨rfl, fr8_w (rdF_tt r0 g4.1).1, g4.2.1, g4.2.2.1, g4.2.2.2⟩
  cases hp1 : pNum n 0 999 ts.tail with
  | inl e =>
    rw [hp1] at n1
    obtain ⟨r, M2, e2, ⟨v, rfl⟩, g2⟩ := n1
    refine wp_eI e2 ?_
    refine wp_I ?_
    refine wp_neg (gF_n g2) ?_
    exact bad g1.1 g2
  | inr q =>
    rw [hp1] at n1
    obtain ⟨r, M2, e2, rfl, g2⟩ := n1
    refine wp_eI e2 ?_
    have T2 := cT_rd T1 g2.1
    have gr2 := rdF_tt g1.1 g2.1
    obtain ⟨j, k1, k2, k3, k4, k5, k6⟩ := id g2.2.2.2
    have hKq := hK j
    rw [k1] at hKq
    rw [k4, w32_i (by omega) (by omega)]
    refine wp_I ?_
    refine wp_pos g2.2.1 ?_
    dsimp only
    have mis : ¬ (257 ≤ hdK q.2 ∧ hdK q.2 ≤ 261) → wp (bndV (w_rd_fail (d + 2) 1 M2) fun M17 => w_rd_planLine_47 (d + 2) dn q.1 (hdK q.2 - 256) 0 M17) fun r M' => r = [] ∧ lR TL n L (if 257 ≤ hdK q.2 ∧ hdK q.2 ≤ 261 then
      (if hdK q.2 = 259 then tEnd n (q.1, hdK q.2 - 256, 0) q.2.tail else
        match pNum n 0 (if hdK q.2 = 257 ∨ hdK q.2 = 258 then 99 else dn - 1) q.2.tail with
        | .inl e => .inl e
        | .inr v => tEnd n (q.1, hdK q.2 - 256, v.1) v.2)
    else .inl (1, hdP n q.2)) M M' := by
      intro hn
      rw [if_neg hn]
      refine wp_bV (rd_fail_eq _ 1 (by decide) g2.2.1) ?_
      intro M3 g3
      rw [k6] at g3
      exact bad (e := (1, hdP n q.2)) gr2 g3
    refine wp_if (fun h1 => mis (by omega)) (fun h1 => ?_)
    refine wp_if (fun h2 => mis (by omega)) (fun h2 => ?_)
    rw [if_pos (by omega), l_rd_planLine_47]
    refine wp_pos g2.2.1 ?_
    refine wp_bV (rd_step_S _ T2 g2.2.2.2 g2.2.1 (by omega)) ?_
    intro M3 g3
    have T3 := cT_rd T2 g3.1
    have gr3 := rdF_tt gr2 g3.1
    have h3 : M3 132 3 = M 132 3 := by rw [g3.2.2.1, g2.2.2.1, g1.2.2.1]
    have num : ∀ hi : Int, wp (bndI (w_rd_takeNumber (d + 2) 0 hi M3) fun y18 M17 => w_rd_planLine_96 (d + 2) q.1 (hdK q.2 - 256) y18 M17) fun r M' => r = [] ∧ lR TL n L (match pNum n 0 hi q.2.tail with
        | .inl e => .inl e
        | .inr v => tEnd n (q.1, hdK q.2 - 256, v.1) v.2) M M' := by
      intro hi
      have n3 := rd_num_S d 0 hi T3 g3.2.2.2 g3.2.1
      cases hp3 : pNum n 0 hi q.2.tail with
      | inl e =>
        rw [hp3] at n3
        obtain ⟨r, M4, e4, ⟨v4, rfl⟩, g4⟩ := n3
        refine wp_eI e4 ?_
        rw [l_rd_planLine_96]
        have gr4 := rdF_tt gr3 g4.1
        refine wp_mono (rd_end_F d _ _ v4 (cT_rd T3 g4.1) (gF_n g4) (rows gr4) (default, [])) ?_
        rintro r M' ⟨q1, q2, q3, q4⟩
        exact ⟨q1, fr8_tr gr4.1 q2, q3.trans g4.2.1, q4.trans g4.2.2.1, g4.2.2.2⟩
      | inr v =>
        rw [hp3] at n3
        obtain ⟨r, M4, e4, rfl, g4⟩ := n3
        refine wp_eI e4 ?_
        rw [l_rd_planLine_96]
        have gr4 := rdF_tt gr3 g4.1
        refine wp_mono (rd_end_S d _ _ _ (cT_rd T3 g4.1) g4.2.2.2 g4.2.1 (rows gr4) hl) ?_
        rintro r M' ⟨q1, q2⟩
        exact ⟨q1, lR_tr gr4.1 (by rw [g4.2.2.1, h3]) q2⟩
    refine wp_if (fun h4 => ?_) (fun h4 => ?_)
    · rw [if_neg (by omega), if_pos (by omega)]
      exact num 99
    refine wp_if (fun h5 => ?_) (fun h5 => ?_)
    · rw [if_neg (by omega), if_pos (by omega)]
      exact num 99
    refine wp_if (fun h6 => ?_) (fun h6 => ?_)
    · rw [if_pos (by omega), l_rd_planLine_96]
      refine wp_mono (rd_end_S d _ _ 0 T3 g3.2.2.2 g3.2.1 (rows gr3) hl) ?_
      rintro r M' ⟨q1, q2⟩
      exact ⟨q1, lR_tr gr3.1 h3 q2⟩
    · rw [if_neg (by omega), if_neg (by omega), w32_i (by omega) (by omega)]
      exact num (dn - 1)
theorem rd_line_eq (d k : Nat) (dn : Int) (hdn : 0 ≤ dn ∧ dn ≤ 10) {TL : List aTk} {n : Nat} {ts : List aTk} {L : List aRow3} {M : aM} (hT : cT TL n M) (hK : ∀ j, -1 ≤ hdK (TL.drop j) ∧ hdK (TL.drop j) < 100000) (hS : cS TL n ts M) (h0 : M 132 2 = 0) (hk : hdK ts = 256) (hR : cRw L M) (hl : L.length < 16) (hk0 : k ≠ 0) (K : aM → aR) (Q : List aV → aM → Prop) (hQ : ∀ M', lR TL n L (tLn k n dn ts) M M' → wp (K M') Q) :
    wp (if (k : Int) = 1 then bndV (w_rd_planLine (d + 3) dn M) K else if (k : Int) = 2 then bndV (w_rd_dueLine (d + 3) dn M) K else bndV (w_rd_feastLine (d + 3) M) K) Q := by
  unfold tLn at hQ
  refine wp_if (fun h1 => ?_) (fun h1 => ?_)
  · rw [if_pos (by omega)] at hQ
    exact wp_bV (rd_plan_eq d dn hdn hT hK hS h0 hk hR hl) hQ
  rw [if_neg (by omega)] at hQ
  refine wp_if (fun h2 => ?_) (fun h2 => ?_)
  · rw [if_pos (by omega)] at hQ
    exact wp_bV (rd_due_eq d dn hdn hT hS h0 hk hR hl) hQ
  · rw [if_neg (by omega)] at hQ
    exact wp_bV (rd_feast_eq d hT hS h0 hk hR hl) hQ
theorem rd_read72_lp (d k most : Nat) (dn : Int) (hdn : 0 ≤ dn ∧ dn ≤ 10) (hk0 : k ≠ 0) (hk3 : k ≤ 3) (hm : most ≤ 16) {TL : List aTk} {n : Nat} (hK : ∀ j, -1 ≤ hdK (TL.drop j) ∧ hdK (TL.drop j) < 100000) : ∀ (f : Nat) (L : List aRow3) (ts : List aTk) (M : aM), L.length + f = most + 1 → L.length ≤ most → cT TL n M → cS TL n ts M → M 132 2 = 0 → cRw L M →
    wp (w_rd_read_72 (d + 3) k dn most ((L.length : Nat) : Int) M) fun r M' => fr8 M M' ∧ match tRows k n dn most f L ts with
      | .inl e => r = [aI 0] ∧ M' 132 2 = e.1 ∧ M' 132 3 = e.2
      | .inr L' => r = [aI 1] ∧ M' 132 2 = 0 ∧ M' 132 3 = M 132 3 ∧ cRw L' M' := by
  intro f
  induction f with
  | zero => intro L ts M h hl; omega
  | succ f ih =>
    intro L ts M h hl hT hS h0 hR
    obtain ⟨j, k1, k2, k3, k4, k5, k6⟩ := id hS
    have hKq := hK j
    rw [k1] at hKq
    have hlen := hR.2.2.1
    have e5 : w32 (((L.length : Nat) : Int) + 1) = ((L.length + 1 : Nat) : Int) := by rw [w32_i (by omega) (by omega)]; rfl
    rw [l_rd_read_72, k4]
    unfold tRows
    refine wp_neg (by omega) ?_
    refine wp_pos h0 ?_
    refine wp_if (fun hz => ?_) (fun hz => ?_)
    · rw [if_pos hz]
      refine wp_pos h0 ?_
      exact wp_ret ⟨fr8_refl _, rfl, h0, rfl, hR⟩
    rw [if_neg hz, w32_i (by omega) (by omega)]
    refine wp_I ?_
    have bad : ∀ (x : Int), x ≠ 0 → wp (bndV (w_rd_fail (d + 3) x M) fun M18 => w_rd_read_186 (d + 3) k dn most ((L.length : Nat) : Int) M18) fun r M' => fr8 M M' ∧ (r = [aI 0] ∧ M' 132 2 = x ∧ M' 132 3 = hdP n ts) := by
      intro x hx
      refine wp_bV (rd_fail_eq _ x hx h0) ?_
      intro M1 g1
      rw [l_rd_read_186, e5]
      refine wp_I ?_
      rw [l_rd_read_72]
      have fin : wp (some ([aI 0], M1)) fun r M' => fr8 M M' ∧ (r = [aI 0] ∧ M' 132 2 = x ∧ M' 132 3 = hdP n ts) := wp_ret ⟨fr8_w g1.1.1, rfl, g1.2.1, by rw [g1.2.2.1, k6]⟩
      refine wp_if (fun _ => wp_neg (gF_n g1) fin) (fun _ => wp_neg (gF_n g1) (wp_neg (gF_n g1) fin))
    refine wp_if (fun h1 => ?_) (fun h1 => ?_)
    · rw [if_pos (by omega)]
      exact bad 1 (by decide)
    refine wp_neg (by omega) ?_
    refine wp_if (fun h2 => ?_) (fun h2 => ?_)
    · rw [if_pos (by omega)]
      exact bad 1 (by decide)
    rw [if_neg (show ¬ hdK ts ≠ 256 by omega)]
    refine wp_if (fun h3 => ?_) (fun h3 => ?_)
    · rw [if_neg (show ¬ L.length = most by omega)]
      refine wp_neg (by omega) ?_
      refine rd_line_eq d k dn hdn hT hK hS h0 (by omega) hR (by omega) hk0 _ _ fun M1 g1 => ?_
      rw [l_rd_read_186, e5]
      refine wp_I ?_
      cases hp : tLn k n dn ts with
      | inl e =>
        rw [hp] at g1
        obtain ⟨f1, a1, a2, a3⟩ := g1
        rw [l_rd_read_72]
        have fin : wp (some ([aI 0], M1)) fun r M' => fr8 M M' ∧ (r = [aI 0] ∧ M' 132 2 = e.1 ∧ M' 132 3 = e.2) := wp_ret ⟨f1, rfl, a1, a2⟩
        refine wp_if (fun _ => wp_neg (by rw [a1]; exact a3) fin) (fun _ => wp_neg (by rw [a1]; exact a3) (wp_neg (by rw [a1]; exact a3) fin))
      | inr q =>
        rw [hp] at g1
        obtain ⟨f1, a1, a2, a3, a4⟩ := g1
        have ih2 := ih (L ++ [q.1]) q.2 M1 (by simp; omega) (by simp; omega) (cT_fr hT fun k hk => f1.1 k (by simp; omega)) a3 a1 a4
        rw [show (L ++ [q.1]).length = L.length + 1 by simp] at ih2
        refine wp_mono ih2 ?_
        rintro r M' ⟨q1, q2⟩
        refine ⟨fr8_tt f1 q1, ?_⟩
        dsimp only
        cases hp2 : tRows k n dn most f (L ++ [q.1]) q.2 with
        | inl e => rw [hp2] at q2; exact q2
        | inr L' => rw [hp2] at q2; exact ⟨q2.1, q2.2.1, by rw [q2.2.2.1, a2], q2.2.2.2⟩
    · rw [if_pos (show L.length = most by omega)]
      exact bad 3 (by decide)
