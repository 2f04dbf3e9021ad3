/-! text: the law, conditions in the class, whole -/
theorem finB_and {n : Nat} {l : List Int} {ts : List aTk} {c : aCd} (hv : vStk l) (h1 : hd0 l ≠ 261) (h2 : hd0 l ≠ 262) (hk : hdK ts = 261) : finB n l ts c = .inr (.inr (261 :: l, ts.tail, c)) := by
  cases l with
  | nil => unfold finB; rw [if_pos hk]
  | cons x l =>
    have h1 : ¬ x = 261 := h1
    have h2 : ¬ x = 262 := h2
    unfold finB
    rw [if_neg h2, if_neg h1]
    by_cases h3 : x = 260
    · rw [if_pos h3, if_pos hk, h3]
    · have : x = 40 := by have := hv.2; omega
      rw [if_neg h3, if_pos hk, this]
theorem finB_or {n : Nat} {l : List Int} {ts : List aTk} {c : aCd} (hv : vStk l) (h1 : hd0 l ≠ 261) (h2 : hd0 l ≠ 262) (h3 : hd0 l ≠ 260) (hk : hdK ts = 260) : finB n l ts c = .inr (.inr (260 :: l, ts.tail, c)) := by
  cases l with
  | nil => unfold finB; rw [if_neg (by omega), if_pos hk]
  | cons x l =>
    have h1 : ¬ x = 261 := h1
    have h2 : ¬ x = 262 := h2
    have h3 : ¬ x = 260 := h3
    have : x = 40 := by have := hv.2; omega
    unfold finB
    rw [if_neg h2, if_neg h1, if_neg h3, if_neg (by omega), if_pos hk, this]
theorem finB_no {n : Nat} {ts : List aTk} (k1 : hdK ts ≠ 261) (k2 : hdK ts ≠ 260) (k3 : hdK ts ≠ 41) : ∀ (l : List Int) (c : aCd), 0 < brk l → finB n l ts c = .inl (1, hdP n ts)
  | [], c, h => by exact absurd h (by decide)
  | x :: l, c, h => by
    simp only [brk] at h
    unfold finB
    by_cases h1 : x = 262
    · rw [if_pos h1]; exact finB_no k1 k2 k3 l _ (by rw [if_neg (by omega)] at h; omega)
    rw [if_neg h1]
    by_cases h2 : x = 261
    · rw [if_pos h2]; exact finB_no k1 k2 k3 l _ (by rw [if_neg (by omega)] at h; omega)
    rw [if_neg h2]
    by_cases h3 : x = 260
    · rw [if_pos h3, if_neg k1]; exact finB_no k1 k2 k3 l _ (by rw [if_neg (by omega)] at h; omega)
    · rw [if_neg h3, if_neg k1, if_neg k2, if_neg k3]
/-- what going on comes to -/
def gR (TL : List aTk) (n : Nat) (C0 : List Int) (a : aAct) (M : aM) (r : List aV) (M' : aM) : Prop := dFr M M' ∧ match a with
  | .inl e => r = [aI 0] ∧ M' 132 2 = e.1 ∧ M' 132 3 = e.2 ∧ e.1 ≠ 0
  | .inr (.inl q) => r = [aI 0] ∧ M' 132 3 = M 132 3 ∧ M' 132 2 = 0 ∧ cS TL n q.2 M' ∧ cDe (C0 ++ cEnc q.1) M' ∧ C0.length + (cEnc q.1).length + q.2.length ≤ 399 ∧ sfx TL q.2
  | .inr (.inr q) => r = [aI 1] ∧ M' 132 3 = M 132 3 ∧ dS TL n C0 q.1 q.2.1 q.2.2 M'
theorem gR_tr {TL : List aTk} {n : Nat} {C0 : List Int} {a : aAct} {M M1 M' : aM} {r : List aV} (h : dR M M1) (g : gR TL n C0 a M1 r M') : gR TL n C0 a M r M' := by
  obtain ⟨g1, g2⟩ := g
  refine ⟨dFr_tt h.1 g1, ?_⟩
  rcases a with e | q | q
  · exact g2
  · exact ⟨g2.1, g2.2.1.trans h.2, g2.2.2⟩
  · exact ⟨g2.1, g2.2.1.trans h.2, g2.2.2⟩
/-- a link is put on what waits -/
theorem rd_link (d : Nat) (x : Int) (hx : x = 260 ∨ x = 261) {TL : List aTk} {n : Nat} {C0 : List Int} {l : List Int} {ts : List aTk} {c : aCd} {M : aM} (h : dS TL n C0 l ts c M) (hk : hdK ts = x) (hv : vStk (x :: l)) : wp (bndV (w_rd_hold (d + 2) x M) fun M15 => bndV (w_rd_step (d + 2) M15) fun M16 => some ([aI 1], M16)) fun r M' => r = [aI 1] ∧ dFr M M' ∧ M' 132 3 = M 132 3 ∧ dS TL n C0 (x :: l) ts.tail c M' := by
  obtain ⟨a1, a2, a3, a4, a5, a6, a7, a8, a9⟩ := h
  have hl := (vS_32 a6 a7).1
  have l1 := tail_len (ts := ts) (by omega)
  refine wp_bV (rd_hold_eq (d + 1) x a5.1 a5.2.2.2 (by omega)) ?_
  rintro M1 ⟨f1, k1, k2, k3⟩
  have d1 : dFr M M1 := ⟨fr_w f1 (by simp), fun j a => k1 j (by omega), fun j _ => by rw [f1 133 (by simp)]⟩
  refine wp_bV (rd_step_S (d + 1) (cT_d a1 d1) (cS_up a2 fun j hj => k1 j (by omega)) (by rw [k1 2 (by decide)]; exact a3) (by omega)) ?_
  intro M2 g2
  have e : ∀ j, 4 ≤ j → j ≤ 8 → M2 132 j = M1 132 j := fun j h1 h2 => g2.1.2 j (by omega) (by omega) (by omega) (by omega) (by omega) (by omega)
  have d2 := dFr_tt d1 (xF_d (rd_xF g2.1))
  refine wp_ret ⟨rfl, d2, by rw [g2.2.2.1, k1 3 (by decide)], cT_d a1 d2, g2.2.2.2, g2.2.1, ?_, ⟨?_, ?_, ?_, ?_⟩, hv, ?_, sfx_tr a8 (sfx_t _), ?_⟩
  · unfold cDe at a4 ⊢
    rw [rdF_k g2.1 (by decide), rdF_k g2.1 (by decide), f1 133 (by simp), f1 134 (by simp)]
    exact a4
  · rw [e 6 (by decide) (by decide), k2]; rfl
  · rw [e 7 (by decide) (by decide), k1 7 (by decide), a5.2.1]
    simp only [brk]
    rw [if_neg (by omega), Nat.zero_add]
  · rw [e 8 (by decide) (by decide), k1 8 (by decide), a5.2.2.1]
    simp only [opn]
    rw [if_neg (by omega), Nat.zero_add]
  · rw [rdF_k g2.1 (by decide)]; exact k3
  · simp only [opn]
    rw [if_neg (by omega), Nat.zero_add]
    exact a7
  · simp only [List.length_cons]; omega
theorem rd_go79_eq (d : Nat) {TL : List aTk} {n : Nat} {C0 : List Int} {l : List Int} {ts : List aTk} {c : aCd} {M : aM} (h : dS TL n C0 l ts c M) (h62 : hd0 l ≠ 262) (h41 : ¬ (0 < brk l ∧ hdK ts = 41)) : wp (w_rd_goOnBehind_79 (d + 2) M) fun r M' => gR TL n C0 (finB n l ts c) M r M' := by
  obtain ⟨a1, a2, a3, a4, a5, a6, a7, a8, a9⟩ := id h
  obtain ⟨j, e1, e2, e3, e4, e5, e6⟩ := id a2
  rw [l_rd_goOnBehind_79, e4]
  refine wp_I ?_
  refine wp_if (fun h1 => ?_) (fun h1 => ?_)
  · rw [h1]
    refine wp_bV (rd_jd_eq d 261 (Or.inl rfl) l c M h h62) ?_
    rintro M1 ⟨q2, l', c', q3, q4, q5, q6, q7, q8⟩
    rw [q8, finB_and q3.2.2.2.2.2.1 q5 q4 h1]
    refine wp_mono (rd_link d 261 (Or.inr rfl) q3 h1 ⟨q3.2.2.2.2.2.1, ?_⟩) ?_
    · have hv := q3.2.2.2.2.2.1
      cases l' with
      | nil => exact Or.inr (Or.inr (Or.inl ⟨rfl, Or.inl rfl⟩))
      | cons x l' =>
        have q4 : ¬ x = 262 := q4
        have q5 : ¬ x = 261 := q5
        have := hv.2
        show (261 : Int) = 40 ∨ (261 : Int) = 262 ∨ ((261 : Int) = 261 ∧ (x = 0 ∨ x = 260 ∨ x = 40)) ∨ _
        omega
    · rintro r M' ⟨p1, p2, p3, p4⟩
      exact gR_tr q2 ⟨p2, p1, p3, p4⟩
  refine wp_if (fun h2 => ?_) (fun h2 => ?_)
  · rw [h2]
    refine wp_bV (rd_jd_eq d 260 (Or.inr ⟨rfl, h1⟩) l c M h h62) ?_
    rintro M1 ⟨q2, l', c', q3, q4, q5, q6, q7, q8⟩
    have q6 := q6 rfl
    rw [q8, finB_or q3.2.2.2.2.2.1 q5 q4 q6 h2]
    refine wp_mono (rd_link d 260 (Or.inl rfl) q3 h2 ⟨q3.2.2.2.2.2.1, ?_⟩) ?_
    · have hv := q3.2.2.2.2.2.1
      cases l' with
      | nil => exact Or.inr (Or.inr (Or.inr ⟨rfl, Or.inl rfl⟩))
      | cons x l' =>
        have q4 : ¬ x = 262 := q4
        have q5 : ¬ x = 261 := q5
        have q6 : ¬ x = 260 := q6
        have := hv.2
        show (260 : Int) = 40 ∨ (260 : Int) = 262 ∨ _ ∨ ((260 : Int) = 260 ∧ (x = 0 ∨ x = 40))
        omega
    · rintro r M' ⟨p1, p2, p3, p4⟩
      exact gR_tr q2 ⟨p2, p1, p3, p4⟩
  rw [a5.2.1]
  refine wp_if (fun h3 => ?_) (fun h3 => ?_)
  · rw [finB_no h1 h2 (fun e => h41 ⟨by omega, e⟩) l c (by omega)]
    refine wp_bV (rd_fail_eq _ 1 (by decide) a3) ?_
    intro M1 g1
    rw [e6] at g1
    exact wp_ret ⟨xF_d (rd_xF g1.1), rfl, g1.2.1, g1.2.2.1, show (1 : Int) ≠ 0 by decide⟩
  · refine wp_bV (rd_jd_eq d 260 (Or.inr ⟨rfl, h1⟩) l c M h h62) ?_
    rintro M1 ⟨q2, l', c', q3, q4, q5, q6, q7, q8⟩
    have q6 := q6 rfl
    have hl' : l' = [] := by
      have hv := q3.2.2.2.2.2.1
      cases l' with
      | nil => rfl
      | cons x l' =>
        have q4 : ¬ x = 262 := q4
        have q5 : ¬ x = 261 := q5
        have q6 : ¬ x = 260 := q6
        have := hv.2
        have hx : x = 40 := by omega
        simp only [brk] at q7
        rw [if_pos hx] at q7
        omega
    subst hl'
    rw [q8]
    unfold finB
    rw [if_neg h1, if_neg h2]
    obtain ⟨b1, b2, b3, b4, b5, b6, b7, b8, b9⟩ := q3
    exact wp_ret (gR_tr q2 ⟨dFr_refl M1, rfl, rfl, b3, b2, b4, by simp only [List.length_nil] at b9; omega, b8⟩)
theorem rd_go6_lp (d : Nat) {TL : List aTk} {n : Nat} {C0 : List Int} : ∀ (f g : Nat) (l : List Int) (ts : List aTk) (c : aCd) (M : aM), g + f = 8 → brk l ≤ f → dS TL n C0 l ts c M → hd0 l ≠ 262 → wp (w_rd_goOnBehind_6 (d + 2) g M) fun r M' => gR TL n C0 (finB n l ts c) M r M' := by
  intro f
  induction f with
  | zero =>
    intro g l ts c M hg hb h h62
    rw [l_rd_goOnBehind_6]
    refine wp_neg (by omega) ?_
    exact rd_go79_eq d h h62 (by omega)
  | succ f ih =>
    intro g l ts c M hg hb h h62
    obtain ⟨a1, a2, a3, a4, a5, a6, a7, a8, a9⟩ := id h
    obtain ⟨j, e1, e2, e3, e4, e5, e6⟩ := id a2
    rw [l_rd_goOnBehind_6, a5.2.1, e4]
    refine wp_pos (by omega) ?_
    refine wp_if (fun h1 => ?_) (fun h1 => rd_go79_eq d h h62 (by omega))
    refine wp_if (fun h2 => ?_) (fun h2 => rd_go79_eq d h h62 (by omega))
    refine wp_bV (rd_jd_eq d 260 (Or.inr ⟨rfl, by omega⟩) l c M h h62) ?_
    rintro M1 ⟨q2, l', c', q3, q4, q5, q6, q7, q8⟩
    have q6 := q6 rfl
    rw [q8]
    cases l' with
    | nil => simp only [brk] at q7; omega
    | cons x l' =>
      have q4 : ¬ x = 262 := q4
      have q5 : ¬ x = 261 := q5
      have q6 : ¬ x = 260 := q6
      obtain ⟨b1, b2, b3, b4, b5, b6, b7, b8, b9⟩ := q3
      have hx : x = 40 := by have := b6.2; omega
      subst hx
      have hl := (vS_32 b6 b7).1
      have o1 : opn (40 :: l') = 1 + opn l' := by simp [opn]
      have o2 : brk (40 :: l') = 1 + brk l' := by simp [brk]
      rw [o2] at q7
      have l1 := tail_len (ts := ts) (by omega)
      simp only [List.length_cons] at hl b9
      rw [b5.1, w32_i (by simp only [List.length_cons]; omega) (by simp only [List.length_cons]; omega)]
      refine wp_up fun M2 f2 g2 => ?_
      rw [g2 7, if_neg (by decide), b5.2.1, o2, w32_i (by omega) (by omega)]
      refine wp_up fun M3 f3 g3 => ?_
      rw [g3 8, if_neg (by decide), g2 8, if_neg (by decide), b5.2.2.1, o1, w32_i (by omega) (by omega)]
      refine wp_up fun M4 f4 g4 => ?_
      have F4 : fr [132] M1 M4 := fr_tt f2 (fr_tt f3 f4)
      have G : ∀ j, j ≠ 6 → j ≠ 7 → j ≠ 8 → M4 132 j = M1 132 j := fun j x1 x2 x3 => by rw [g4, if_neg x3, g3, if_neg x2, g2, if_neg x1]
      have d4 : dFr M1 M4 := ⟨fr_w F4 (by simp), fun j a => G j (by omega) (by omega) (by omega), fun j _ => by rw [F4 133 (by simp)]⟩
      refine wp_bV (rd_step_S (d + 1) (cT_d b1 d4) (cS_up b2 fun j hj => G j (by omega) (by omega) (by omega)) (by rw [G 2 (by decide) (by decide) (by decide)]; exact b3) (by omega)) ?_
      intro M5 g5
      have e : ∀ j, 4 ≤ j → j ≤ 8 → M5 132 j = M4 132 j := fun j h1 h2 => g5.1.2 j (by omega) (by omega) (by omega) (by omega) (by omega) (by omega)
      have d5 := dFr_tt d4 (xF_d (rd_xF g5.1))
      have s5 : dS TL n C0 l' ts.tail c' M5 := by
        refine ⟨cT_d b1 d5, g5.2.2.2, g5.2.1, ?_, ⟨?_, ?_, ?_, ?_⟩, b6.1, by omega, sfx_tr b8 (sfx_t _), by omega⟩
        · unfold cDe at b4 ⊢
          rw [rdF_k g5.1 (by decide), rdF_k g5.1 (by decide), F4 133 (by simp), F4 134 (by simp)]
          exact b4
        · rw [e 6 (by decide) (by decide), g4, if_neg (by decide), g3, if_neg (by decide), g2, if_pos rfl]; simp
        · rw [e 7 (by decide) (by decide), g4, if_neg (by decide), g3, if_pos rfl]; omega
        · rw [e 8 (by decide) (by decide), g4, if_pos rfl]; omega
        · rw [rdF_k g5.1 (by decide), F4 140 (by simp)]; exact b5.2.2.2.2
      have r5 : dR M M5 := dR_tt q2 ⟨d5, by rw [g5.2.2.1, G 3 (by decide) (by decide) (by decide)]⟩
      refine wp_bV (rd_cn_eq d l' c' M5 s5) ?_
      rintro M6 ⟨p2, l'', c'', p3, p4, p5, p6⟩
      refine wp_I ?_
      rw [show w32 ((g : Int) + 1) = ((g + 1 : Nat) : Int) by rw [w32_i (by omega) (by omega)]; rfl]
      have fe : finB n (40 :: l') ts c' = finB n l'' ts.tail c'' := by
        rw [← p6]
        show (if (40 : Int) = 262 then _ else if (40 : Int) = 261 then _ else if (40 : Int) = 260 then _ else if hdK ts = 261 then _ else if hdK ts = 260 then _ else if hdK ts = 41 then finB n l' ts.tail c' else _) = _
        rw [if_neg (by decide), if_neg (by decide), if_neg (by decide), if_neg (by omega), if_neg (by omega), if_pos h2]
      rw [fe]
      refine wp_mono (ih (g + 1) l'' ts.tail c'' M6 (by omega) (by rw [p5]; omega) p3 p4) ?_
      intro r M' q
      exact gR_tr (dR_tt r5 p2) q
theorem rd_go_eq (d : Nat) {TL : List aTk} {n : Nat} {C0 : List Int} {l : List Int} {ts : List aTk} {c : aCd} {M : aM} (h : dS TL n C0 l ts c M) : wp (w_rd_goOnBehind (d + 3) M) fun r M' => gR TL n C0 (finB n l ts c) M r M' := by
  have hb : ∀ l : List Int, brk l ≤ opn l := by
    intro l
    induction l with
    | nil => exact Nat.le_refl _
    | cons x l ih =>
      simp only [brk, opn]
      split
      · next hx => rw [if_pos (Or.inl hx)]; omega
      · split <;> omega
  rw [l_rd_goOnBehind]
  refine wp_bV (rd_cn_eq d l c M h) ?_
  rintro M1 ⟨p2, l', c', p3, p4, p5, p6⟩
  rw [p6]
  refine wp_mono (rd_go6_lp d 8 0 l' ts c' M1 (by omega) (by have := hb l'; have := p3.2.2.2.2.2.2.1; omega) p3 p4) ?_
  intro r M' q
  exact gR_tr p2 q
theorem rd_open_eq (d : Nat) {TL : List aTk} {n : Nat} {C0 : List Int} {l : List Int} {ts : List aTk} {c : aCd} {M : aM} (h : dS TL n C0 l ts c M) (x : Int) (hx : x = 40 ∨ x = 262) (hk : hdK ts = x) : wp (w_rd_openOne (d + 3) x M) fun r M' => r = [] ∧ dFr M M' ∧ if opn l = 8 then (M' 132 2 = 3 ∧ M' 132 3 = hdP n ts) else (M' 132 3 = M 132 3 ∧ dS TL n C0 (x :: l) ts.tail c M') := by
  obtain ⟨a1, a2, a3, a4, a5, a6, a7, a8, a9⟩ := id h
  obtain ⟨j, e1, e2, e3, e4, e5, e6⟩ := id a2
  have hl := (vS_32 a6 a7).1
  rw [l_rd_openOne, a5.2.2.1]
  by_cases h8 : opn l = 8
  · refine wp_neg (by omega) ?_
    refine wp_bV (rd_fail_eq _ 3 (by decide) a3) ?_
    intro M1 g1
    rw [e6] at g1
    refine wp_ret ⟨rfl, xF_d (rd_xF g1.1), ?_⟩
    rw [if_pos h8]
    exact ⟨g1.2.1, g1.2.2.1⟩
  refine wp_pos (by omega) ?_
  rw [w32_i (by omega) (by omega)]
  refine wp_up fun M1 f1 g1 => ?_
  have l1 := tail_len (ts := ts) (by omega)
  have o1 : opn (x :: l) = 1 + opn l := by simp only [opn]; rw [if_pos hx]
  have rest : ∀ (M2 : aM), fr [132] M M2 → (∀ j, j ≠ 7 → j ≠ 8 → M2 132 j = M 132 j) → M2 132 7 = ((brk (x :: l) : Nat) : Int) → M2 132 8 = ((opn l : Nat) : Int) + 1 → wp (bndV (w_rd_hold (d + 2) x M2) fun M15 => bndV (w_rd_step (d + 2) M15) fun M16 => some ([], M16)) fun r M' => r = [] ∧ dFr M M' ∧ if opn l = 8 then (M' 132 2 = 3 ∧ M' 132 3 = hdP n ts) else (M' 132 3 = M 132 3 ∧ dS TL n C0 (x :: l) ts.tail c M') := by
    intro M2 f2 g2 g7 g8
    refine wp_bV (rd_hold_eq (d + 1) x (by rw [g2 6 (by decide) (by decide)]; exact a5.1) (by rw [f2 140 (by simp)]; exact a5.2.2.2) (by omega)) ?_
    rintro M3 ⟨f3, k1, k2, k3⟩
    have G : ∀ j, j ≠ 6 → j ≠ 7 → j ≠ 8 → M3 132 j = M 132 j := fun j x1 x2 x3 => by rw [k1 j x1, g2 j x2 x3]
    have d3 : dFr M M3 := ⟨fr_tr f2 f3 (by simp) (by simp), fun j a => G j (by omega) (by omega) (by omega), fun j _ => by rw [f3 133 (by simp), f2 133 (by simp)]⟩
    refine wp_bV (rd_step_S (d + 1) (cT_d a1 d3) (cS_up a2 fun j hj => G j (by omega) (by omega) (by omega)) (by rw [G 2 (by decide) (by decide) (by decide)]; exact a3) (by omega)) ?_
    intro M4 g4
    have e : ∀ j, 4 ≤ j → j ≤ 8 → M4 132 j = M3 132 j := fun j h1 h2 => g4.1.2 j (by omega) (by omega) (by omega) (by omega) (by omega) (by omega)
    have d4 := dFr_tt d3 (xF_d (rd_xF g4.1))
    refine wp_ret ⟨rfl, d4, ?_⟩
    rw [if_neg h8]
    refine ⟨by rw [g4.2.2.1, G 3 (by decide) (by decide) (by decide)], cT_d a1 d4, g4.2.2.2, g4.2.1, ?_, ⟨?_, ?_, ?_, ?_⟩, ⟨a6, by omega⟩, by omega, sfx_tr a8 (sfx_t _), by simp only [List.length_cons]; omega⟩
    · unfold cDe at a4 ⊢
      rw [rdF_k g4.1 (by decide), rdF_k g4.1 (by decide), f3 133 (by simp), f3 134 (by simp), f2 133 (by simp), f2 134 (by simp)]
      exact a4
    · rw [e 6 (by decide) (by decide), k2]; rfl
    · rw [e 7 (by decide) (by decide), k1 7 (by decide), g7]
    · rw [e 8 (by decide) (by decide), k1 8 (by decide), g8, o1]; omega
    · rw [rdF_k g4.1 (by decide)]; exact k3
  refine wp_if (fun h40 => ?_) (fun h40 => ?_)
  · have ob : brk l ≤ 100 := by
      have : ∀ l : List Int, brk l ≤ l.length := by
        intro l
        induction l with
        | nil => exact Nat.le_refl _
        | cons x l ih => simp only [brk, List.length_cons]; split <;> omega
      have := this l
      omega
    rw [g1 7, if_neg (by decide), a5.2.1, w32_i (by omega) (by omega)]
    refine wp_up fun M2 f2 g2 => ?_
    refine rest M2 (fr_tt f1 f2) (fun j x1 x2 => by rw [g2, if_neg x1, g1, if_neg x2]) ?_ (by rw [g2, if_neg (by decide), g1, if_pos rfl])
    rw [g2, if_pos rfl]
    simp only [brk]
    rw [if_pos h40]
    omega
  · refine rest M1 f1 (fun j _ x2 => by rw [g1, if_neg x2]) ?_ (by rw [g1, if_pos rfl])
    rw [g1, if_neg (by decide), a5.2.1]
    simp only [brk]
    rw [if_neg h40, Nat.zero_add]
/-- what a condition comes to in the class -/
def cRs (TL : List aTk) (n : Nat) (C0 : List Int) (res : aRes (aCd × List aTk)) (M M' : aM) : Prop := match res with
  | .inl e => M' 132 2 = e.1 ∧ M' 132 3 = e.2 ∧ e.1 ≠ 0
  | .inr q => M' 132 3 = M 132 3 ∧ M' 132 2 = 0 ∧ cS TL n q.2 M' ∧ cDe (C0 ++ cEnc q.1) M' ∧ C0.length + (cEnc q.1).length + q.2.length ≤ 399 ∧ sfx TL q.2
theorem finB_sfx {n : Nat} : ∀ (l : List Int) (ts : List aTk) (c : aCd) (r : List Int × List aTk × aCd), finB n l ts c = .inr (.inr r) → sfx ts r.2.1
  | [], ts, c, r, h => by
    unfold finB at h
    split at h
    · cases h; exact sfx_t _
    · split at h
      · cases h; exact sfx_t _
      · cases h
  | x :: l, ts, c, r, h => by
    unfold finB at h
    split at h
    · exact finB_sfx l ts _ r h
    split at h
    · exact finB_sfx l ts _ r h
    split at h
    · split at h
      · cases h; exact sfx_t _
      · exact finB_sfx l ts _ r h
    split at h
    · cases h; exact sfx_t _
    split at h
    · cases h; exact sfx_t _
    split at h
    · exact sfx_tr (sfx_t _) (finB_sfx l _ _ r h)
    · cases h
theorem sfx_len {a b : List aTk} (h : sfx a b) : b.length ≤ a.length := by
  obtain ⟨j, rfl⟩ := h
  rw [List.length_drop]
  omega
theorem rd_cond_lp (d : Nat) {TL : List aTk} {n : Nat} (hKK : ∀ ts, sfx TL ts → 0 ≤ hdK ts ∧ hdK ts < 10000) (hV : tsV TL) {C0 : List Int} : ∀ (f : Nat) (l : List Int) (ts : List aTk) (c : aCd) (M : aM) (g : Nat) (res : aRes (aCd × List aTk)), dS TL n C0 l ts c M → g + ts.length ≤ 400 → kA n f l ts c = some res → wp (w_rd_condition_19 (d + 7) 1 g M) fun r M' => r = [] ∧ dFr M M' ∧ cRs TL n C0 res M M' := by
  intro f
  induction f with
  | zero => intro l ts c M g res _ _ h; cases h
  | succ f ih =>
    intro l ts c M g res h hg hk
    obtain ⟨a1, a2, a3, a4, a5, a6, a7, a8, a9⟩ := id h
    obtain ⟨j, e1, e2, e3, e4, e5, e6⟩ := id a2
    have e5' : w32 ((g : Int) + 1) = ((g + 1 : Nat) : Int) := by rw [w32_i (by omega) (by omega)]; rfl
    rw [kA_s] at hk
    rw [l_rd_condition_19, e4, e5']
    refine wp_neg (by omega) ?_
    refine wp_neg (by decide) ?_
    refine wp_pos a3 ?_
    refine wp_I ?_
    have flt : ∀ {M1 : aM} (v : Int), M1 132 2 ≠ 0 → ∀ (y : Int), wp (w_rd_condition_19 (d + 7) v y M1) fun r M' => r = [] ∧ M' = M1 := by
      intro M1 v hb y
      rw [l_rd_condition_19]
      refine wp_if (fun _ => wp_ret ⟨rfl, rfl⟩) (fun _ => ?_)
      refine wp_if (fun _ => wp_ret ⟨rfl, rfl⟩) (fun _ => ?_)
      exact wp_neg hb (wp_ret ⟨rfl, rfl⟩)
    have opening : (hdK ts = 40 ∨ hdK ts = 262) → wp (bndV (w_rd_openOne (d + 7) (hdK ts) M) fun M16 => iLet ((g + 1 : Nat) : Int) fun v17 => w_rd_condition_19 (d + 7) 1 v17 M16) fun r M' => r = [] ∧ dFr M M' ∧ cRs TL n C0 res M M' := by
      intro hx
      rw [if_pos hx] at hk
      refine wp_bV (rd_open_eq (d + 4) h (hdK ts) hx rfl) ?_
      rintro M1 ⟨q2, q3⟩
      refine wp_I ?_
      by_cases h8 : opn l = 8
      · rw [if_pos h8] at hk q3
        cases hk
        refine wp_mono (flt 1 (by rw [q3.1]; decide) _) ?_
        rintro r M' ⟨p1, rfl⟩
        exact ⟨p1, q2, q3.1, q3.2, show (3 : Int) ≠ 0 by decide⟩
      · rw [if_neg h8] at hk q3
        have l1 := tail_len (ts := ts) (by omega)
        refine wp_mono (ih _ ts.tail c M1 (g + 1) res q3.2 (by omega) hk) ?_
        rintro r M' ⟨p1, p2, p3⟩
        refine ⟨p1, dFr_tt q2 p2, ?_⟩
        rcases res with e | q
        · exact p3
        · exact ⟨p3.1.trans q3.1, p3.2⟩
    refine wp_if (fun h40 => ?_) (fun h40 => ?_)
    · exact opening (Or.inl h40)
    refine wp_if (fun h62 => ?_) (fun h62 => ?_)
    · exact opening (Or.inr h62)
    rw [if_neg (by omega)] at hk
    have cm := rd_cm_eq (d + 1) hKK hV a8 a1 a2 a3 a4 (by rw [List.length_append]; omega)
    cases hp : pCm n ts with
    | inl e =>
      rw [hp] at cm hk
      cases hk
      refine wp_bV cm ?_
      intro M1 b1
      refine wp_neg (xB_n b1) ?_
      refine wp_I ?_
      refine wp_mono (flt 0 (xB_n b1) _) ?_
      rintro r M' ⟨p1, rfl⟩
      exact ⟨p1, xF_d b1.1, b1.2⟩
    | inr q =>
      rw [hp] at cm hk
      obtain ⟨i1, i2, i3⟩ := pCm_in (tsV_s hV a8) hp
      refine wp_bV cm ?_
      intro M1 b1
      refine wp_pos b1.2.1 ?_
      have d1 := xF_d b1.1
      have s1 : dS TL n C0 l q.2 (c ++ q.1) M1 := ⟨cT_d a1 d1, b1.2.2.2.1, b1.2.1, by rw [cEnc_app, ← List.append_assoc]; exact b1.2.2.2.2, cD_x a5 b1.1, a6, a7, sfx_tr a8 i1, by rw [cEnc_app, List.length_append]; omega⟩
      have lt : q.2.length + 1 ≤ ts.length := by
        have hne : (cEnc q.1).length ≠ 0 := by
          intro h0
          have h1 := cEnc_len q.1
          have h2 : q.1 = [] := List.eq_nil_of_length_eq_zero (by omega)
          have h3 := i3 [] (by decide)
          rw [h2] at h3
          cases h3
        omega
      obtain ⟨r, M2, em, g2⟩ := rd_go_eq (d + 4) s1
      have r1 : dR M M1 := ⟨d1, b1.2.2.1⟩
      have g2 := gR_tr r1 g2
      dsimp only at hk
      obtain ⟨z1, z2⟩ := g2
      have hsf := finB_sfx l q.2 (c ++ q.1) (n := n)
      revert hk z2 hsf
      rcases finB n l q.2 (c ++ q.1) with e | q' | q'
      · intro hk z2 _
        cases hk
        obtain ⟨rfl, y1, y2, y3⟩ := z2
        refine wp_eI em ?_
        refine wp_pos rfl ?_
        refine wp_I ?_
        refine wp_mono (flt 0 (by rw [y1]; exact y3) _) ?_
        rintro r M' ⟨p1, rfl⟩
        exact ⟨p1, z1, y1, y2, y3⟩
      · intro hk z2 _
        cases hk
        obtain ⟨rfl, y1, y2⟩ := z2
        refine wp_eI em ?_
        refine wp_pos rfl ?_
        refine wp_I ?_
        rw [l_rd_condition_19]
        have fin : wp (some ([], M2)) fun r M' => r = [] ∧ dFr M M' ∧ (M' 132 3 = M 132 3 ∧ M' 132 2 = 0 ∧ cS TL n q'.2 M' ∧ cDe (C0 ++ cEnc q'.1) M' ∧ C0.length + (cEnc q'.1).length + q'.2.length ≤ 399 ∧ sfx TL q'.2) := wp_ret ⟨rfl, z1, y1, y2⟩
        exact wp_if (fun _ => fin) (fun _ => wp_pos rfl fin)
      · intro hk z2 hsf
        obtain ⟨rfl, y1, y2⟩ := z2
        refine wp_eI em ?_
        refine wp_neg (by decide) ?_
        refine wp_I ?_
        have hk' : kA n f q'.1 q'.2.1 q'.2.2 = some res := hk
        refine wp_mono (ih q'.1 q'.2.1 q'.2.2 M2 (g + 1) res y2 ?_ hk') ?_
        · have := sfx_len (hsf q' rfl)
          omega
        · rintro r M' ⟨p1, p2, p3⟩
          refine ⟨p1, dFr_tt z1 p2, ?_⟩
          rcases res with e | q''
          · exact p3
          · exact ⟨p3.1.trans y1, p3.2⟩
