/-! text: the law, conditions in the class -/
theorem rd_cm_eq (d : Nat) {TL : List aTk} {n : Nat} (hKK : ∀ ts, sfx TL ts → 0 ≤ hdK ts ∧ hdK ts < 10000) (hV : tsV TL) {ts : List aTk} {C : List Int} {M : aM} (hx : sfx TL ts) (hT : cT TL n M) (hS : cS TL n ts M) (h0 : M 132 2 = 0) (hC : cDe C M) (hl : C.length + ts.length ≤ 399) : wp (w_rd_comparison (d + 6) M) fun r M' => r = [] ∧ match pCm n ts with
    | .inl e => xB e M M'
    | .inr q => xG TL n q.2 (C ++ cEnc q.1) M M' := by
  rw [l_rd_comparison]
  have ex0 := rd_ex_eq (d + 1) hKK (by omega) hx hT hS h0 hC (by omega) (by omega)
  have flt : ∀ {e : Int × Int} {M1 : aM} (v : Int), xB e M M1 → wp (w_rd_comparison_39 (d + 5) v M1) fun r M' => r = [] ∧ xB e M M' := by
    intro e M1 v hb
    rw [l_rd_comparison_39]
    exact wp_neg (xB_n hb) (wp_ret ⟨rfl, hb⟩)
  unfold pCm
  cases hp0 : pEx n ts with
  | inl e =>
    rw [hp0] at ex0
    refine wp_bV ex0 ?_
    intro M1 b1
    refine wp_I ?_
    exact wp_neg (xB_n b1) (flt _ b1)
  | inr q =>
    rw [hp0] at ex0
    obtain ⟨i1, i2, i3⟩ := pEx_in (tsV_s hV hx) hp0
    refine wp_bV ex0 ?_
    intro M1 b1
    obtain ⟨j, e1, e2, e3, e4, e5, e6⟩ := id b1.2.2.2.1
    refine wp_I ?_
    rw [e4]
    refine wp_pos b1.2.1 ?_
    (try dsimp only)
    have hxq : sfx TL q.2 := sfx_tr hx i1
    have good : (hdK q.2 = 60 ∨ hdK q.2 = 61 ∨ hdK q.2 = 62) → wp (w_rd_comparison_39 (d + 5) (hdK q.2) M1) fun r M' => r = [] ∧ match (if hdK q.2 = 60 ∨ hdK q.2 = 61 ∨ hdK q.2 = 62 then
      (match pEx n q.2.tail with
      | .inl e => .inl e
      | .inr q' => .inr (q.1 ++ q'.1 ++ [(hdK q.2 - 33, 0)], q'.2))
    else .inl (1, hdP n q.2) : aRes (aCd × List aTk)) with
    | .inl e => xB e M M'
    | .inr q => xG TL n q.2 (C ++ cEnc q.1) M M' := by
      intro hop
      rw [if_pos hop]
      have l1 := tail_len (ts := q.2) (by omega)
      have hx1 : sfx TL q.2.tail := sfx_tr hxq (sfx_t _)
      have T1 := cT_x hT b1.1
      have lC : (C ++ cEnc q.1).length = C.length + (cEnc q.1).length := List.length_append
      rw [l_rd_comparison_39]
      refine wp_pos b1.2.1 ?_
      refine wp_bV (rd_step_S (d + 4) T1 b1.2.2.2.1 b1.2.1 (by omega)) ?_
      intro M2 g2
      have ex := rd_ex_eq (d + 1) hKK (by omega) hx1 (cT_rd T1 g2.1) g2.2.2.2 g2.2.1 (cDe_rd b1.2.2.2.2 g2.1) (by omega) (by omega)
      have fx2 : xF M M2 := xF_tt b1.1 (rd_xF g2.1)
      have h3 : M2 132 3 = M 132 3 := by rw [g2.2.2.1, b1.2.2.1]
      cases hp : pEx n q.2.tail with
      | inl e =>
        rw [hp] at ex
        refine wp_bV ex ?_
        intro M3 b3
        have b3 := xB_tr fx2 b3
        have fin : ∀ y : Int, wp (bndV (w_law_emit (d + 5) 133 y M3) fun M15 => some ([], M15)) fun r M' => r = [] ∧ xB e M M' := by
          intro y
          refine wp_bV (law_emit_F (d + 4) _ M3) ?_
          intro M4 f4
          exact wp_ret ⟨rfl, xB_em b3 f4⟩
        exact wp_if (fun _ => fin _) (fun _ => wp_if (fun _ => fin _) (fun _ => fin _))
      | inr q' =>
        rw [hp] at ex
        obtain ⟨j1, j2, j3⟩ := pEx_in (tsV_s hV hx1) hp
        refine wp_bV ex ?_
        intro M3 b3
        have b3 := xG_tr fx2 h3 b3
        have fin : ∀ y : Int, y = 45 - hdK q.2 → wp (bndV (w_law_emit (d + 5) 133 y M3) fun M15 => some ([], M15)) fun r M' => r = [] ∧ xG TL n q'.2 (C ++ cEnc (q.1 ++ q'.1 ++ [(hdK q.2 - 33, 0)])) M M' := by
          intro y hy
          refine wp_bV (law_emit_S (d + 4) y b3.2.2.2.2 (by rw [List.length_append, lC]; omega)) ?_
          rintro M4 ⟨f4, c4⟩
          have F : M4 132 = M3 132 := f4.1 132 (by simp)
          refine wp_ret ⟨rfl, xF_tt b3.1 (em_xF f4), by rw [F]; exact b3.2.1, by rw [F]; exact b3.2.2.1, cS_fr b3.2.2.2.1 F, ?_⟩
          have e33 : cEnc [(hdK q.2 - 33, (0 : Int))] = [y] := by
            simp only [cEnc, List.append_nil]
            rw [if_neg (by omega), if_neg (by omega), if_neg (by omega), hy]
            congr 1
            omega
          rw [cEnc_app, cEnc_app, e33, ← List.append_assoc, ← List.append_assoc]
          exact c4
        refine wp_if (fun h => fin _ (by omega)) (fun h => ?_)
        exact wp_if (fun h2 => fin _ (by omega)) (fun h2 => fin _ (by omega))
    refine wp_if (fun h => good (Or.inl h)) (fun h1 => ?_)
    refine wp_if (fun h => good (Or.inr (Or.inl h))) (fun h2 => ?_)
    refine wp_if (fun h => good (Or.inr (Or.inr h))) (fun h3 => ?_)
    rw [if_neg (show ¬ (hdK q.2 = 60 ∨ hdK q.2 = 61 ∨ hdK q.2 = 62) by omega)]
    refine wp_bV (rd_fail_eq _ 1 (by decide) b1.2.1) ?_
    intro M2 g2
    rw [e6] at g2
    exact flt _ ⟨xF_tt b1.1 (rd_xF g2.1), g2.2.1, g2.2.2.1, show (1 : Int) ≠ 0 by decide⟩
/-- what waits, in its row -/
def stk (A : Nat → Int) : List Int → Prop
  | [] => True
  | x :: l => A l.length = x ∧ stk A l
theorem stk_fr {A B : Nat → Int} : ∀ (l : List Int), (∀ i, i < l.length → B i = A i) → stk A l → stk B l
  | [], _, _ => trivial
  | x :: l, h, hs => ⟨(h l.length (by simp)).trans hs.1, stk_fr l (fun i hi => h i (by simp; omega)) hs.2⟩
def cD (l : List Int) (M : aM) : Prop := M 132 6 = ((l.length : Nat) : Int) ∧ M 132 7 = ((brk l : Nat) : Int) ∧ M 132 8 = ((opn l : Nat) : Int) ∧ stk (M 140) l
theorem cD_x {l : List Int} {M M' : aM} (h : cD l M) (f : xF M M') : cD l M' := by
  obtain ⟨h1, h2, h3, h4⟩ := h
  exact ⟨(f.2.1 6 (by decide) (by decide) (by decide) (by decide) (by decide) (by decide)).trans h1, (f.2.1 7 (by decide) (by decide) (by decide) (by decide) (by decide) (by decide)).trans h2, (f.2.1 8 (by decide) (by decide) (by decide) (by decide) (by decide) (by decide)).trans h3, by rw [xF_k f (by decide)]; exact h4⟩
/-- but for what reading a condition sets, the class stays -/
def dFr (M M' : aM) : Prop := fr [132, 133, 134, 140] M M' ∧ (∀ j, (j < 2 ∨ j = 4 ∨ j = 5 ∨ 12 < j) → M' 132 j = M 132 j) ∧ ∀ j, j ≠ 3 → M' 133 j = M 133 j
theorem dFr_refl (M : aM) : dFr M M := ⟨fr_refl _ _, fun _ _ => rfl, fun _ _ => rfl⟩
theorem dFr_tt {M M1 M2 : aM} (h1 : dFr M M1) (h2 : dFr M1 M2) : dFr M M2 := ⟨fr_tt h1.1 h2.1, fun j a => (h2.2.1 j a).trans (h1.2.1 j a), fun j a => (h2.2.2 j a).trans (h1.2.2 j a)⟩
theorem xF_d {M M' : aM} (h : xF M M') : dFr M M' := ⟨fr_w h.1 (by simp), fun j a => h.2.1 j (by omega) (by omega) (by omega) (by omega) (by omega) (by omega), h.2.2⟩
theorem dFr_k {M M' : aM} (h : dFr M M') {k : Nat} (hk : k ≠ 132 ∧ k ≠ 133 ∧ k ≠ 134 ∧ k ≠ 140) : M' k = M k := h.1 k (by simp; omega)
theorem cT_d {TL : List aTk} {n : Nat} {M M' : aM} (h : cT TL n M) (f : dFr M M') : cT TL n M' := cT_fr h fun k hk => dFr_k f (by omega)
/-- a change of a number of the reader that is none of reading's -/
theorem cS_up {TL : List aTk} {n : Nat} {ts : List aTk} {M M' : aM} (h : cS TL n ts M) (f : ∀ j, 9 ≤ j → M' 132 j = M 132 j) : cS TL n ts M' := by
  obtain ⟨j, e1, e2, e3, e4, e5, e6⟩ := h
  exact ⟨j, e1, e2, (f 9 (by omega)).trans e3, (f 10 (by omega)).trans e4, (f 11 (by omega)).trans e5, (f 12 (by omega)).trans e6⟩
/-- the class within a condition: what waits, what is laid -/
def dS (TL : List aTk) (n : Nat) (C0 : List Int) (l : List Int) (ts : List aTk) (c : aCd) (M : aM) : Prop := cT TL n M ∧ cS TL n ts M ∧ M 132 2 = 0 ∧ cDe (C0 ++ cEnc c) M ∧ cD l M ∧ vStk l ∧ opn l ≤ 8 ∧ sfx TL ts ∧ C0.length + (cEnc c).length + l.length + ts.length ≤ 399
def dR (M M' : aM) : Prop := dFr M M' ∧ M' 132 3 = M 132 3
theorem dR_tt {M M1 M2 : aM} (h1 : dR M M1) (h2 : dR M1 M2) : dR M M2 := ⟨dFr_tt h1.1 h2.1, h2.2.trans h1.2⟩
theorem rd_last_eq (d : Nat) {l : List Int} {M : aM} (h6 : M 132 6 = ((l.length : Nat) : Int)) (hs : stk (M 140) l) (hl : l.length ≤ 32) : w_rd_lastWaiting (d + 1) M = some ([aI (hd0 l)], M) := by
  rw [u_rd_lastWaiting, h6]
  cases l with
  | nil => rw [if_neg (by decide)]; rfl
  | cons x l =>
    simp only [List.length_cons] at hl ⊢
    rw [if_pos (by omega), if_neg (by omega), al140, w32_i (by omega) (by omega), show ((l.length + 1 : Nat) : Int) - 1 = l.length by omega, inb_s (by omega) (by omega), tn_n, hs.1]
    rfl
/-- the last one is taken off, its code laid -/
theorem rd_pop (d : Nat) {TL : List aTk} {n : Nat} {C0 : List Int} {x : Int} {l : List Int} {ts : List aTk} {c : aCd} {M : aM} (h : dS TL n C0 (x :: l) ts c M) (s : Int) (hs : s = 30 ∨ s = 31 ∨ s = 32) : wp (w_law_emit (d + 1) 133 (12 - s) M) fun r M' => r = [] ∧ M' 132 = M 132 ∧ ∀ M2 : aM, fr [132] M' M2 → (∀ j, M2 132 j = if j = 8 ∧ x = 262 then M' 132 8 - 1 else if j = 6 then M' 132 6 - 1 else M' 132 j) → x ≠ 40 → (s = 30 ↔ x = 262) → dR M M2 ∧ dS TL n C0 l ts (c ++ [(s, 0)]) M2 := by
  obtain ⟨a1, a2, a3, a4, a5, a6, a7, a8, a9⟩ := h
  have e1 : cEnc [(s, (0 : Int))] = [12 - s] := by
    simp only [cEnc, List.append_nil]
    rw [if_neg (by omega), if_neg (by omega), if_neg (by omega)]
  simp only [List.length_cons] at a9
  refine wp_mono (law_emit_S d (12 - s) a4 (by rw [List.length_append]; omega)) ?_
  rintro r M1 ⟨q1, f1, c1⟩
  have F1 : M1 132 = M 132 := f1.1 132 (by simp)
  refine ⟨q1, F1, fun M2 f2 g2 hx hiff => ?_⟩
  have G : ∀ j, j ≠ 8 → j ≠ 6 → M2 132 j = M 132 j := fun j h1 h2 => by rw [g2, if_neg (fun e => h1 e.1), if_neg h2, F1]
  obtain ⟨b1, b2, b3, b4⟩ := a5
  have d2 : dFr M M2 := dFr_tt (xF_d (em_xF f1)) ⟨fr_w f2 (by simp), fun j a => by rw [g2, if_neg (by omega), if_neg (by omega)], fun j _ => by rw [f2 133 (by simp)]⟩
  refine ⟨⟨d2, G 3 (by decide) (by decide)⟩, cT_d a1 d2, cS_up a2 fun j hj => G j (by omega) (by omega), by rw [G 2 (by decide) (by decide)]; exact a3, ?_, ⟨?_, ?_, ?_, ?_⟩, a6.1, ?_, a8, ?_⟩
  · rw [cEnc_app, e1, ← List.append_assoc]
    unfold cDe at c1 ⊢
    rw [f2 133 (by simp), f2 134 (by simp)]
    exact c1
  · rw [g2, if_neg (by omega), if_pos rfl, F1, b1]; simp
  · rw [G 7 (by decide) (by decide), b2]
    simp only [brk]
    rw [if_neg hx, Nat.zero_add]
  · rw [g2]
    by_cases e : x = 262
    · rw [if_pos ⟨rfl, e⟩, F1, b3]
      simp only [opn]
      rw [if_pos (Or.inr e)]
      omega
    · rw [if_neg fun h => e h.2, if_neg (by decide), F1, b3]
      simp only [opn]
      rw [if_neg (by omega), Nat.zero_add]
  · rw [f2 140 (by simp), f1.1 140 (by simp)]
    exact b4.2
  · simp only [opn] at a7; omega
  · rw [cEnc_app, e1, List.length_append]
    simp only [List.length_cons, List.length_nil]
    omega
theorem rd_cn_lp (d : Nat) {TL : List aTk} {n : Nat} {C0 : List Int} {ts : List aTk} : ∀ (l : List Int) (c : aCd) (M : aM), dS TL n C0 l ts c M → wp (w_rd_closeNots_0 (d + 1) M) fun r M' => r = [] ∧ dR M M' ∧ ∃ l' c', dS TL n C0 l' ts c' M' ∧ hd0 l' ≠ 262 ∧ brk l' = brk l ∧ finB n l ts c = finB n l' ts c'
  | [], c, M, h => by
    rw [l_rd_closeNots_0, h.2.2.2.2.1.1]
    refine wp_neg (by decide) ?_
    exact wp_ret ⟨rfl, ⟨dFr_refl M, rfl⟩, [], c, h, by decide, rfl, rfl⟩
  | x :: l, c, M, h => by
    have h' := h
    obtain ⟨a1, a2, a3, a4, a5, a6, a7, a8, a9⟩ := h'
    have hl := (vS_32 a6 a7).1
    rw [l_rd_closeNots_0, a5.1]
    refine wp_pos (by simp) ?_
    refine wp_eI (rd_last_eq d a5.1 a5.2.2.2 (by omega)) ?_
    refine wp_if (fun h1 => ?_) (fun h1 => ?_)
    · have h1 : x = 262 := h1
      subst h1
      refine wp_bV (rd_pop d h 30 (Or.inl rfl)) ?_
      rintro M1 ⟨r1, k1⟩
      have o1 : 1 ≤ opn (262 :: l) := by simp [opn]
      rw [r1, a5.1, w32_i (by omega) (by omega)]
      refine wp_up fun M2 f2 g2 => ?_
      rw [g2 8, if_neg (by decide), r1, a5.2.2.1, w32_i (by omega) (by omega)]
      refine wp_up fun M3 f3 g3 => ?_
      obtain ⟨s1, s2⟩ := k1 M3 (fr_tt f2 f3) (fun j => by
        by_cases h8 : j = 8
        · subst h8
          rw [g3, if_pos rfl, if_pos ⟨rfl, rfl⟩, r1, a5.2.2.1]
        · rw [g3, if_neg h8, g2, if_neg (show ¬ (j = 8 ∧ (262 : Int) = 262) from fun e => h8 e.1), r1, a5.1]) (by decide) ⟨fun _ => rfl, fun _ => rfl⟩
      refine wp_mono (rd_cn_lp d l (c ++ [(30, 0)]) M3 s2) ?_
      rintro r M' ⟨q1, q2, l', c', q3, q4, q5, q6⟩
      refine ⟨q1, dR_tt s1 q2, l', c', q3, q4, by rw [q5]; simp [brk], ?_⟩
      rw [← q6]
      show (if (262 : Int) = 262 then _ else _) = _
      rw [if_pos rfl]
    · exact wp_ret ⟨rfl, ⟨dFr_refl M, rfl⟩, x :: l, c, h, h1, rfl, rfl⟩
theorem rd_cn_eq (d : Nat) {TL : List aTk} {n : Nat} {C0 : List Int} {ts : List aTk} (l : List Int) (c : aCd) (M : aM) (h : dS TL n C0 l ts c M) : wp (w_rd_closeNots (d + 2) M) fun r M' => r = [] ∧ dR M M' ∧ ∃ l' c', dS TL n C0 l' ts c' M' ∧ hd0 l' ≠ 262 ∧ brk l' = brk l ∧ finB n l ts c = finB n l' ts c' := by
  rw [show w_rd_closeNots (d + 2) M = w_rd_closeNots_0 (d + 1) M from (u_rd_closeNots _ M).trans (u_rd_closeNots_0 _ M).symm]
  exact rd_cn_lp d l c M h
/-- one link taken off -/
theorem rd_j34_eq (d : Nat) (v : Int) {TL : List aTk} {n : Nat} {C0 : List Int} {x : Int} {l : List Int} {ts : List aTk} {c : aCd} {M : aM} (h : dS TL n C0 (x :: l) ts c M) (hx : x = 261 ∨ x = 260) (Q : List aV → aM → Prop) (hQ : ∀ M', dR M M' → dS TL n C0 l ts (c ++ [(if x = 261 then 31 else 32, 0)]) M' → wp (w_rd_joinDownTo_0 (d + 1) v M') Q) : wp (w_rd_joinDownTo_34 (d + 1) v M) Q := by
  obtain ⟨a1, a2, a3, a4, a5, a6, a7, a8, a9⟩ := id h
  have hl := (vS_32 a6 a7).1
  rw [l_rd_joinDownTo_34]
  refine wp_eI (rd_last_eq d a5.1 a5.2.2.2 (by omega)) ?_
  have go : ∀ s : Int, (s = 31 ∨ s = 32) → (if x = 261 then (31 : Int) else 32) = s → wp (bndV (w_law_emit (d + 1) 133 (12 - s) M) fun M15 => aLet (aUp M15 132 6 (w32 ((M15 132 6) - 1))) fun M16 => w_rd_joinDownTo_0 (d + 1) v M16) Q := by
    intro s hs he
    rw [he] at hQ
    refine wp_bV (rd_pop d h s (Or.inr hs)) ?_
    rintro M1 ⟨r1, k1⟩
    rw [r1, a5.1, w32_i (by omega) (by omega)]
    refine wp_up fun M2 f2 g2 => ?_
    obtain ⟨s1, s2⟩ := k1 M2 f2 (fun j => by
      rw [g2, r1, a5.1]
      rw [if_neg (show ¬ (j = 8 ∧ x = 262) by omega)]) (by omega) (by omega)
    exact hQ M2 s1 s2
  refine wp_if (fun h1 => ?_) (fun h1 => ?_)
  · exact go 31 (Or.inl rfl) (if_pos h1)
  · exact go 32 (Or.inr rfl) (if_neg h1)
theorem rd_jd_lp (d : Nat) (v : Int) {TL : List aTk} {n : Nat} {C0 : List Int} {ts : List aTk} (hv : v = 261 ∨ (v = 260 ∧ hdK ts ≠ 261)) : ∀ (l : List Int) (c : aCd) (M : aM), dS TL n C0 l ts c M → hd0 l ≠ 262 → wp (w_rd_joinDownTo_0 (d + 1) v M) fun r M' => r = [] ∧ dR M M' ∧ ∃ l' c', dS TL n C0 l' ts c' M' ∧ hd0 l' ≠ 262 ∧ hd0 l' ≠ 261 ∧ (v = 260 → hd0 l' ≠ 260) ∧ brk l' = brk l ∧ finB n l ts c = finB n l' ts c'
  | [], c, M, h, _ => by
    rw [l_rd_joinDownTo_0, h.2.2.2.2.1.1]
    refine wp_neg (by decide) ?_
    exact wp_ret ⟨rfl, ⟨dFr_refl M, rfl⟩, [], c, h, by decide, by decide, fun _ => by decide, rfl, rfl⟩
  | x :: l, c, M, h, h62 => by
    obtain ⟨a1, a2, a3, a4, a5, a6, a7, a8, a9⟩ := id h
    have hl := (vS_32 a6 a7).1
    have hx0 : hd0 (x :: l) = x := rfl
    have hv2 := a6.2
    rw [l_rd_joinDownTo_0, a5.1]
    refine wp_pos (by simp) ?_
    refine wp_eI (rd_last_eq d a5.1 a5.2.2.2 (by omega)) ?_
    have go : (x = 261 ∨ (x = 260 ∧ v = 260)) → wp (w_rd_joinDownTo_34 (d + 1) v M) fun r M' => r = [] ∧ dR M M' ∧ ∃ l' c', dS TL n C0 l' ts c' M' ∧ hd0 l' ≠ 262 ∧ hd0 l' ≠ 261 ∧ (v = 260 → hd0 l' ≠ 260) ∧ brk l' = brk (x :: l) ∧ finB n (x :: l) ts c = finB n l' ts c' := by
      intro hx
      refine rd_j34_eq d v h (by omega) _ fun M1 s1 s2 => ?_
      refine wp_mono (rd_jd_lp d v hv l _ M1 s2 (by omega)) ?_
      rintro r M' ⟨q1, q2, l', c', q3, q4, q5, q6, q7, q8⟩
      refine ⟨q1, dR_tt s1 q2, l', c', q3, q4, q5, q6, ?_, ?_⟩
      · rw [q7]
        simp only [brk]
        rw [if_neg (by omega), Nat.zero_add]
      · rw [← q8]
        show (if x = 262 then _ else if x = 261 then finB n l ts (c ++ [(31, 0)]) else if x = 260 then (if hdK ts = 261 then _ else finB n l ts (c ++ [(32, 0)])) else _) = _
        rw [if_neg (show ¬ x = 262 by omega)]
        by_cases h1 : x = 261
        · rw [if_pos h1, if_pos h1]
        · rw [if_neg h1, if_neg h1, if_pos (show x = 260 by omega), if_neg (by omega)]
    refine wp_if (fun h1 => go (Or.inl h1)) (fun h1 => ?_)
    refine wp_eI (rd_last_eq d a5.1 a5.2.2.2 (by omega)) ?_
    have stop : (v = 260 → x ≠ 260) → wp (some ([], M)) fun r M' => r = [] ∧ dR M M' ∧ ∃ l' c', dS TL n C0 l' ts c' M' ∧ hd0 l' ≠ 262 ∧ hd0 l' ≠ 261 ∧ (v = 260 → hd0 l' ≠ 260) ∧ brk l' = brk (x :: l) ∧ finB n (x :: l) ts c = finB n l' ts c' := fun hs => wp_ret ⟨rfl, ⟨dFr_refl M, rfl⟩, x :: l, c, h, h62, h1, hs, rfl, rfl⟩
    refine wp_if (fun h2 => ?_) (fun h2 => stop fun _ => h2)
    refine wp_if (fun h3 => go (Or.inr ⟨h2, h3⟩)) (fun h3 => stop fun e => absurd e h3)
theorem rd_jd_eq (d : Nat) (v : Int) {TL : List aTk} {n : Nat} {C0 : List Int} {ts : List aTk} (hv : v = 261 ∨ (v = 260 ∧ hdK ts ≠ 261)) (l : List Int) (c : aCd) (M : aM) (h : dS TL n C0 l ts c M) (h62 : hd0 l ≠ 262) : wp (w_rd_joinDownTo (d + 2) v M) fun r M' => r = [] ∧ dR M M' ∧ ∃ l' c', dS TL n C0 l' ts c' M' ∧ hd0 l' ≠ 262 ∧ hd0 l' ≠ 261 ∧ (v = 260 → hd0 l' ≠ 260) ∧ brk l' = brk l ∧ finB n l ts c = finB n l' ts c' := by
  rw [show w_rd_joinDownTo (d + 2) v M = w_rd_joinDownTo_0 (d + 1) v M from (u_rd_joinDownTo _ v M).trans (u_rd_joinDownTo_0 _ v M).symm]
  exact rd_jd_lp d v hv l c M h h62
theorem rd_hold_eq (d : Nat) (x : Int) {l : List Int} {M : aM} (h6 : M 132 6 = ((l.length : Nat) : Int)) (hs : stk (M 140) l) (hl : l.length < 32) : wp (w_rd_hold (d + 1) x M) fun r M' => r = [] ∧ fr [132, 140] M M' ∧ (∀ j, j ≠ 6 → M' 132 j = M 132 j) ∧ M' 132 6 = ((l.length + 1 : Nat) : Int) ∧ stk (M' 140) (x :: l) := by
  rw [l_rd_hold, h6, al140]
  refine wp_neg (by omega) ?_
  refine wp_pos (by omega) ?_
  refine wp_inb ⟨by omega, by omega⟩ ?_
  rw [tn_n]
  refine wp_up fun M1 f1 g1 => ?_
  rw [f1 132 (by simp), h6, w32_i (by omega) (by omega)]
  refine wp_up fun M2 f2 g2 => ?_
  refine wp_ret ⟨rfl, fr_tr f1 f2 (by simp) (by simp), fun j hj => by rw [g2, if_neg hj, f1 132 (by simp)], by rw [g2, if_pos rfl]; rfl, ?_, ?_⟩
  · rw [f2 140 (by simp), g1, if_pos rfl]
  · exact stk_fr l (fun i hi => by rw [f2 140 (by simp), g1, if_neg (by omega)]) hs
