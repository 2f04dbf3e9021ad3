/-! Calls that only tell: look, fault, due, book, of, likeliest, next. -/
noncomputable def vLook (v : Int) (M : aM) : Int :=
  if v = 0 then M 158 41 else if v = 1 then M 158 0 else if v = 2 then M 158 1 else if v = 3 then M 158 2 else if v = 4 then M 158 3 else if v = 5 then M 158 4 else if v = 6 then M 158 5 else if v = 7 then M 158 6 else if v = 8 then M 158 10 else if v = 9 then M 158 8 else if v = 10 then M 158 7 else if v = 11 then M 158 44 else if v = 12 then M 158 45 else if v = 13 then M 158 46 else if v = 14 then M 158 47 else if v = 15 then M 158 48 else if v = 16 then M 158 49 else if v = 17 then M 158 50 else if v = 18 then M 158 51 else if v = 19 then M 158 52 else if v = 20 then M 157 4 else -1000000
theorem pr_look (d : Nat) (v : Int) : pr (w_x_look (d + 40) v) (w_m_look (d + 40) v) := by
  refine pr_q (fun M _ => vLook v M) (fun M M' L g => by unfold vLook; rw [g.1 158 (nqs (by omega)) (by omega), g.2 4 (by omega) (by omega)]) ?_ ?_
  · intro L Lk M hI
    obtain ⟨⟨-, -, ⟨⟨hw, ht, hl, -⟩, hb⟩, hv, -⟩, -, -, hr, -, -⟩ := hI
    rw [l_x_look]
    obtain ⟨n, f, r1, r2, -⟩ := hr
    obtain ⟨ln, l1, l2, l3, l4⟩ := hl
    obtain ⟨t1, t2, t3, t4, t5, t6, t7, t8⟩ := ht
    have hbk := (hb rfl).2.1
    obtain ⟨q1, q2, q3, q4, q5, q6, q7, q8, q9, q10, q11, q12, q13, -⟩ := hw
    rw [show M 94 3 = M 157 4 by omega, show M 2 4 = M 158 41 from q1, show M 2 14 = M 158 0 from q11, show M 2 11 = M 158 1 from q8, show M 2 12 = M 158 2 from q9, show M 2 13 = M 158 3 from q10, show M 2 6 = M 158 4 from q3, show M 2 7 = M 158 5 from q4, show M 2 8 = M 158 6 from q5, show M 2 5 = M 158 10 from q2, show M 2 15 = M 158 7 from q12]
    rw [show M 18 2 = M 158 8 from hbk, show M 12 2 = M 158 45 from t1.2.1, show M 14 2 = M 158 46 from t2.2.1, show M 16 2 = M 158 47 from t3.2.1, show M 20 2 = M 158 48 from t4.2.1, show M 22 2 = M 158 49 from t5.2.1, show M 24 2 = M 158 50 from t6.2.1, show M 26 2 = M 158 51 from t7.2.1, show M 28 2 = M 158 52 from t8.2.1, show M 10 2 = M 158 44 from l3.trans hv.1.symm]
    iterate 21 refine wp_if (fun h => by subst h; exact wp_ret ⟨by simp [vLook], agQ_refl _⟩) (fun h => ?_)
    exact wp_ret ⟨by simp [vLook, *], agQ_refl _⟩
  · intro L Lk M hI
    rw [l_m_look]
    simp only [al158]
    iterate 20 refine wp_if (fun h => by subst h; exact wp_inb ⟨by decide, by decide⟩ (wp_ret ⟨by simp [vLook], agQ_refl _⟩)) (fun h => ?_)
    refine wp_if (fun h => by subst h; exact wp_ret ⟨by simp [vLook], agQ_refl _⟩) (fun h => ?_)
    exact wp_ret ⟨by simp [vLook, *], agQ_refl _⟩
theorem pr_fault (d : Nat) (v : Int) : pr (w_x_fault (d + 40) v) (w_m_fault (d + 40) v) := by
  refine pr_q (fun M _ => if v = 0 then M 157 23 else if v = 1 then M 157 25 else -1) (fun M M' L g => by rw [g.2 23 (by omega) (by omega), g.2 25 (by omega) (by omega)]) ?_ ?_
  · intro L Lk M hI
    obtain ⟨-, -, -, -, -, f1, f2⟩ := hI
    rw [l_x_fault, f1, f2]
    repeat' split
    all_goals exact wp_ret ⟨rfl, agQ_refl _⟩
  · intro L Lk M hI
    rw [l_m_fault]
    repeat' split
    all_goals exact wp_ret ⟨rfl, agQ_refl _⟩
noncomputable def vDue (i w : Int) (V : aW) : Int :=
  if 0 ≤ i ∧ i < V 46 ∧ 0 ≤ w ∧ w ≤ 3 then (if w = 3 then iand (ishr (V 9) i) 1 else V (111 + 3 * i.toNat + w.toNat)) else -2
theorem pr_due (d : Nat) (i w : Int) : pr (w_x_due (d + 40) i w) (w_m_due (d + 40) i w) := by
  refine pr_qV (fun V _ => vDue i w V) ?_ ?_
  · intro L Lk M hI
    obtain ⟨⟨hW, hT, hw, -⟩, -⟩ := hI
    obtain ⟨⟨-, n46, -⟩, -⟩ := hT
    obtain ⟨r0, r2, rc⟩ := rW_row2 hw
    rw [l_x_due]
    refine wp_eI (rows_has_eq _ 14 i M) ?_
    rw [show M 14 2 = M 158 46 from r2]
    unfold vDue
    refine wp_bif (fun h => ?_) (fun h => ?_)
    · have h := of_decide_eq_false h
      refine wp_ret ⟨?_, agQ_refl _⟩
      rw [if_neg (by omega)]
    · have h := of_decide_eq_true h
      refine wp_if (fun h1 => ?_) (fun h1 => ?_)
      · refine wp_ret ⟨?_, agQ_refl _⟩
        rw [if_neg (by omega)]
      refine wp_if (fun h2 => ?_) (fun h2 => ?_)
      · refine wp_ret ⟨?_, agQ_refl _⟩
        rw [if_neg (by omega)]
      rw [if_pos (show 0 ≤ i ∧ i < M 158 46 ∧ 0 ≤ w ∧ w ≤ 3 by omega)]
      obtain ⟨k, rfl⟩ : ∃ k : Nat, i = k := ⟨i.toNat, by omega⟩
      refine wp_if (fun h3 => ?_) (fun h3 => ?_)
      · rw [if_pos h3]
        refine wp_eI (wood_isPaid_eq _ 2 k (M 158) M (rW_wd hw).2.2.2.2.2.2.2.2.2.2.2.2.1 (by omega)) ?_
        obtain ⟨x, hx, hx2⟩ := hW.2.2.2.2.2.2.2.2.2.1
        have hb := bit01_nat (x := x) (i := k) (by omega) (by omega)
        rw [hx, hb]
        cases x.testBit k with
        | true => exact wp_ret ⟨rfl, agQ_refl _⟩
        | false => exact wp_ret ⟨rfl, agQ_refl _⟩
      · rw [if_neg h3]
        obtain ⟨j, rfl⟩ : ∃ j : Nat, w = j := ⟨w.toNat, by omega⟩
        refine wp_eI (rows_cell_eq _ 14 k j M (by rw [show M 14 2 = M 158 46 from r2]; omega) (by omega) (by rw [al15]; omega) (by omega)) ?_
        refine wp_ret ⟨?_, agQ_refl _⟩
        rw [show M (14 + 1) (4 * k + j) = M 158 (111 + 3 * k + j) from rc k j (by omega) (by omega), tn_n, tn_n]
  · intro L Lk M hI
    obtain ⟨⟨hW, hT, hw, -⟩, -⟩ := hI
    obtain ⟨⟨-, n46, -⟩, -⟩ := hT
    rw [l_m_due]
    simp only [al158]
    refine wp_inb ⟨by omega, by omega⟩ ?_
    refine wp_eI (m_isIn_eq _ _ _ _ _) ?_
    unfold vDue
    rw [w32_i (by omega) (by omega)]
    refine wp_bif (fun h => ?_) (fun h => ?_)
    · have h := of_decide_eq_false h
      refine wp_ret ⟨?_, agQ_refl _⟩
      rw [if_neg (by omega)]
    have h := of_decide_eq_true h
    refine wp_eI (m_isIn_eq _ _ _ _ _) ?_
    refine wp_bif (fun h1 => ?_) (fun h1 => ?_)
    · have h1 := of_decide_eq_false h1
      refine wp_ret ⟨?_, agQ_refl _⟩
      rw [if_neg (by omega)]
    have h1 := of_decide_eq_true h1
    rw [if_pos (show 0 ≤ i ∧ i < M 158 46 ∧ 0 ≤ w ∧ w ≤ 3 by omega)]
    obtain ⟨k, rfl⟩ : ∃ k : Nat, i = k := ⟨i.toNat, by omega⟩
    refine wp_if (fun h3 => ?_) (fun h3 => ?_)
    · rw [if_neg (by omega)]
      obtain ⟨j, rfl⟩ : ∃ j : Nat, w = j := ⟨w.toNat, by omega⟩
      have e : w32 (w32 (111 + w32 (3 * (k : Int))) + j) = ((111 + 3 * k + j : Nat) : Int) := by simp (disch := omega) only [w32_i]; omega
      rw [e]
      refine wp_inb ⟨by omega, by omega⟩ ?_
      exact wp_ret ⟨rfl, agQ_refl _⟩
    · rw [if_pos (by omega)]
      refine wp_inb ⟨by omega, by omega⟩ ?_
      exact wp_ret ⟨rfl, agQ_refl _⟩
noncomputable def vBook (i w : Int) (V : aW) : Int := if 0 ≤ i ∧ i < V 8 ∧ 0 ≤ w ∧ w ≤ 3 then V (284 + 4 * i.toNat + w.toNat) else -2
theorem pr_book (d : Nat) (i w : Int) : pr (w_x_book (d + 40) i w) (w_m_book (d + 40) i w) := by
  refine pr_qV (fun V _ => vBook i w V) ?_ ?_
  · intro L Lk M hI
    obtain ⟨⟨hW, hT, hw, -⟩, -⟩ := hI
    have h8 := hW.2.1
    obtain ⟨r0, r2, rc⟩ := hw.2 rfl
    rw [l_x_book]
    refine wp_eI (rows_has_eq _ 18 i M) ?_
    rw [show M 18 2 = M 158 8 from r2]
    unfold vBook
    refine wp_bif (fun h => ?_) (fun h => ?_)
    · have h := of_decide_eq_false h
      refine wp_ret ⟨?_, agQ_refl _⟩
      rw [if_neg (by omega)]
    have h := of_decide_eq_true h
    refine wp_eI (x_within_eq _ _ _ _) ?_
    refine wp_bif (fun h1 => ?_) (fun h1 => ?_)
    · have h1 := of_decide_eq_false h1
      refine wp_ret ⟨?_, agQ_refl _⟩
      rw [if_neg (by omega)]
    have h1 := of_decide_eq_true h1
    rw [if_pos (show 0 ≤ i ∧ i < M 158 8 ∧ 0 ≤ w ∧ w ≤ 3 by omega)]
    obtain ⟨k, rfl⟩ : ∃ k : Nat, i = k := ⟨i.toNat, by omega⟩
    obtain ⟨j, rfl⟩ : ∃ j : Nat, w = j := ⟨w.toNat, by omega⟩
    refine wp_eI (rows_cell_eq _ 18 k j M (by rw [show M 18 2 = M 158 8 from r2]; omega) (by omega) (by rw [al19]; omega) (by omega)) ?_
    refine wp_ret ⟨?_, agQ_refl _⟩
    rw [show M (18 + 1) (4 * k + j) = M 158 (284 + 4 * k + j) from rc k j (by omega) (by omega), tn_n, tn_n]
  · intro L Lk M hI
    obtain ⟨⟨hW, hT, hw, -⟩, -⟩ := hI
    have h8 := hW.2.1
    rw [l_m_book]
    simp only [al158]
    refine wp_inb ⟨by omega, by omega⟩ ?_
    refine wp_eI (m_isIn_eq _ _ _ _ _) ?_
    unfold vBook
    rw [w32_i (by omega) (by omega)]
    refine wp_bif (fun h => ?_) (fun h => ?_)
    · have h := of_decide_eq_false h
      refine wp_ret ⟨?_, agQ_refl _⟩
      rw [if_neg (by omega)]
    have h := of_decide_eq_true h
    refine wp_eI (m_isIn_eq _ _ _ _ _) ?_
    refine wp_bif (fun h1 => ?_) (fun h1 => ?_)
    · have h1 := of_decide_eq_false h1
      refine wp_ret ⟨?_, agQ_refl _⟩
      rw [if_neg (by omega)]
    have h1 := of_decide_eq_true h1
    rw [if_pos (show 0 ≤ i ∧ i < M 158 8 ∧ 0 ≤ w ∧ w ≤ 3 by omega)]
    obtain ⟨k, rfl⟩ : ∃ k : Nat, i = k := ⟨i.toNat, by omega⟩
    obtain ⟨j, rfl⟩ : ∃ j : Nat, w = j := ⟨w.toNat, by omega⟩
    have e : w32 (w32 (284 + w32 (4 * (k : Int))) + j) = ((284 + 4 * k + j : Nat) : Int) := by simp (disch := omega) only [w32_i]; omega
    rw [e]
    refine wp_inb ⟨by omega, by omega⟩ ?_
    exact wp_ret ⟨rfl, agQ_refl _⟩
noncomputable def vOf (i w : Int) (V : aW) (L : aLaw) : Int :=
  if 0 ≤ i ∧ i < V 41 then
    if w = 0 then V (53 + i.toNat) else if w = 1 then V (11 + i.toNat) else if w = 2 then bI (al V i) else if w = 3 then V (21 + i.toNat) else if w = 4 then V (31 + i.toNat)
    else if w = 5 then come V L i.toNat else if w = 6 then long V L i.toNat else if w = 7 then shy V L i.toNat else -1
  else -1
theorem isWo1 : isWo 1 := Or.inl rfl
theorem pr_of (d : Nat) (i w : Int) : pr (w_x_of (d + 40) i w) (w_m_of (d + 40) i w) := by
  refine pr_qV (fun V L => vOf i w V L) ?_ ?_
  · intro L Lk M hI
    obtain ⟨⟨hW, hT, hw, hv, hok⟩, -⟩ := hI
    obtain ⟨n, hn, h10⟩ := okW_n hW
    have hd := rW_wd hw
    rw [l_x_of]
    refine wp_eI (wood_has_eq _ 2 i (M 158) M hd.1 (by omega)) ?_
    unfold vOf
    refine wp_bif (fun h => ?_) (fun h => ?_)
    · exact wp_ret ⟨by rw [if_neg (of_decide_eq_false h)], agQ_refl _⟩
    have h := of_decide_eq_true h
    rw [if_pos h]
    obtain ⟨k, rfl⟩ : ∃ k : Nat, i = k := ⟨i.toNat, by omega⟩
    simp only [al3, al4, al5, al6, tn_n]
    obtain ⟨h1, h2, h3, h4, h5, h6, h7, h8, h9, h10', h11, h12, h13, h14, h15, h16, h17⟩ := hd
    split
    · refine wp_inb ⟨by omega, by omega⟩ ?_
      exact wp_ret ⟨by rw [show M 3 k = M 158 (53 + k) from h14 k (by omega)], agQ_refl _⟩
    split
    · refine wp_inb ⟨by omega, by omega⟩ ?_
      exact wp_ret ⟨by rw [show M 4 k = M 158 (11 + k) from h15 k (by omega)], agQ_refl _⟩
    split
    · refine wp_eI (wood_isAlive_eq _ 2 _ (M 158) M (rW_wd hw) (by omega)) ?_
      refine wp_bif (fun h => ?_) (fun h => ?_)
      · exact wp_ret ⟨by rw [h]; rfl, agQ_refl _⟩
      · exact wp_ret ⟨by rw [h]; rfl, agQ_refl _⟩
    split
    · refine wp_inb ⟨by omega, by omega⟩ ?_
      exact wp_ret ⟨by rw [show M 5 k = M 158 (21 + k) from h16 k (by omega)], agQ_refl _⟩
    split
    · refine wp_inb ⟨by omega, by omega⟩ ?_
      exact wp_ret ⟨by rw [show M 6 k = M 158 (31 + k) from h17 k (by omega)], agQ_refl _⟩
    split
    · refine wp_fI (world_asked_eq _ 1 (M 158) L 0 k M isWo1 (rW_wd hw) hw.1.2.2.1 hok (by omega) h.2) fun M1 f1 => ?_
      exact wp_ret ⟨rfl, agQ_fr f1 (by intro k hk; simp at hk; unfold qs; omega)⟩
    split
    · refine wp_fI (world_asked_eq _ 1 (M 158) L 1 k M isWo1 (rW_wd hw) hw.1.2.2.1 hok (by omega) h.2) fun M1 f1 => ?_
      exact wp_ret ⟨rfl, agQ_fr f1 (by intro k hk; simp at hk; unfold qs; omega)⟩
    split
    · refine wp_fI (world_asked_eq _ 1 (M 158) L 2 k M isWo1 (rW_wd hw) hw.1.2.2.1 hok (by omega) h.2) fun M1 f1 => ?_
      exact wp_ret ⟨rfl, agQ_fr f1 (by intro k hk; simp at hk; unfold qs; omega)⟩
    exact wp_ret ⟨rfl, agQ_refl _⟩
  · intro L Lk M hI
    obtain ⟨⟨hW, hT, hw, hv, hok⟩, -⟩ := hI
    obtain ⟨n, hn, h10⟩ := okW_n hW
    rw [l_m_of]
    refine wp_eI (m_isDeer_eq _ _ _ (by omega) (by omega)) ?_
    unfold vOf
    refine wp_bif (fun h => ?_) (fun h => ?_)
    · exact wp_ret ⟨by rw [if_neg (of_decide_eq_false h)], agQ_refl _⟩
    have h := of_decide_eq_true h
    rw [if_pos h]
    obtain ⟨k, rfl⟩ : ∃ k : Nat, i = k := ⟨i.toNat, by omega⟩
    (try simp (disch := omega) only [w32_i, tn_l, tn_n, tn_r, tn_s, tn_1, Nat.add_sub_cancel, Int.reduceToNat, Int.toNat_zero, Int.toNat_one, al3, al4, al5, al6, al8, al9, al11, al13, al15, al17, al19, al21, al23, al25, al27, al29, al30, al31, al95, al96, al128, al129, al130, al131, al134, al135, al137, al139, al140, al142, al143, al144, al145, al147, al148, al149, al151, al152, al153, al154, al155, al156, al158, al159, al160, al161, al162, al163, al164, al165, al166, al167, al168, al169, al170, al171, al172, al173, al174, al175, al176])
    split
    · refine wp_inb ⟨by omega, by omega⟩ ?_
      exact wp_ret ⟨rfl, agQ_refl _⟩
    split
    · refine wp_inb ⟨by omega, by omega⟩ ?_
      exact wp_ret ⟨rfl, agQ_refl _⟩
    split
    · refine wp_eI (m_isAlive_eq _ _ _ (by omega) (by omega)) ?_
      refine wp_bif (fun h => ?_) (fun h => ?_)
      · exact wp_ret ⟨by rw [h]; rfl, agQ_refl _⟩
      · exact wp_ret ⟨by rw [h]; rfl, agQ_refl _⟩
    split
    · refine wp_inb ⟨by omega, by omega⟩ ?_
      exact wp_ret ⟨rfl, agQ_refl _⟩
    split
    · refine wp_inb ⟨by omega, by omega⟩ ?_
      exact wp_ret ⟨rfl, agQ_refl _⟩
    split
    · refine wp_fI (m_comeOf_eq _ (M 158) L k M rfl (by omega) hv hok) fun M1 f1 => ?_
      exact wp_ret ⟨rfl, agQ_fr f1 (by intro k hk; simp at hk; unfold qs; omega)⟩
    split
    · refine wp_fI (m_longOf_eq _ (M 158) L k M rfl (by omega) hv hok) fun M1 f1 => ?_
      exact wp_ret ⟨rfl, agQ_fr f1 (by intro k hk; simp at hk; unfold qs; omega)⟩
    split
    · refine wp_fI (m_shyOf_eq _ (M 158) L k M rfl (by omega) hv hok) fun M1 f1 => ?_
      exact wp_ret ⟨rfl, agQ_fr f1 (by intro k hk; simp at hk; unfold qs; omega)⟩
    exact wp_ret ⟨rfl, agQ_refl _⟩
theorem pr_likeliest (d : Nat) : pr (w_x_likeliest (d + 40)) (w_m_likeliest (d + 40)) := by
  refine pr_qV (fun V L => bestC V L 10) ?_ ?_
  · intro L Lk M hI
    obtain ⟨⟨hW, hT, hw, hv, hok⟩, -⟩ := hI
    obtain ⟨n, hn, h10⟩ := okW_n hW
    rw [l_x_likeliest]
    refine wp_fI (v := bestC (M 158) L 10) (l := [1, 9, 30, 31]) (M := M) ?_ fun M1 f1 => wp_ret ⟨rfl, agQ_fr f1 (by intro k hk; simp at hk; unfold qs; omega)⟩
    rw [l_world_likeliestDeer]
    refine wp_bV (world_askComes_eq _ 1 (M 158) L isWo1 hok (by omega) (by omega) M (rW_wd hw) hw.1.2.2.1) ?_
    rintro M1 ⟨s1, c1, f1⟩
    refine wp_eI (world_greatestCome_eq _ 1 (M 158) L isWo1 (by omega) M1 (rWd_fr (rW_wd hw) fun k _ _ => f1 k (by simp; omega)) c1) ?_
    exact wp_ret ⟨rfl, fr_w f1 (by simp)⟩
  · intro L Lk M hI
    obtain ⟨⟨hW, hT, hw, hv, hok⟩, -⟩ := hI
    obtain ⟨n, hn, h10⟩ := okW_n hW
    rw [l_m_likeliest]
    refine wp_fI (m_likeliestOne_eq _ (M 158) L n hn h10 hv hok M rfl) fun M1 f1 => ?_
    rw [bestC_hi L hn 10 h10]
    exact wp_ret ⟨rfl, agQ_fr f1 (by intro k hk; simp at hk; unfold qs; omega)⟩
