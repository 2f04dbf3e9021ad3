/-! works: in the order told -/
theorem m_behind_eq (d : Nat) (V : aW) (L : aLaw) (P : List Nat) (hv : vLaw L V) (hok : okLaw L) (hP : 0 < P.length) (hP2 : P.length ≤ 10) (hPm : ∀ j, j ∈ P → j < 10) (h p : Int) (hh : 1 ≤ h ∧ h ≤ 24) (hm : h ≤ mxL V L P) (x : Nat × Int) (hx : x.1 ≤ 3000 ∧ 0 ≤ x.2 ∧ x.2 ≤ 24) (hp : (p = 0 ∧ x = (0, 0)) ∨ p = 100 * ((x.1 : Int) + 1) + x.2) (M : aM) (hV : M 158 = V) (hr : herR P M) :
    wp (w_m_behind (d + 7) p h M) fun r M' => r = [aI (100 * (((layT V L P h x).1 : Int) + 1) + (layT V L P h x).2)] ∧ fr [166, 167] M M' := by
  obtain ⟨hx1, hx2, hx3⟩ := hx
  rw [l_m_behind]
  refine wp_I ?_
  refine wp_I ?_
  rcases hp with ⟨rfl, rfl⟩ | rfl
  · rw [show idiv 0 100 = 0 from (idiv_nn (by decide) (by decide) (by decide) (by decide)).trans (by decide), show irem 0 100 = 0 from (irem_nn (by decide) (by decide) (by decide) (by decide)).trans (by decide)]
    rw [l_m_behind_11]
    refine wp_pos rfl ?_
    refine wp_I ?_
    rw [w32_i (by omega) (by omega)]
    obtain ⟨u, a, b, c⟩ := fit_ex hP hh.1 hm 0
    refine wp_mono (m_behind_11_lp d V L P hv hok hP hP2 hPm h hh (P.length + 1) 0 M (by omega) hV hr ⟨u, a, by omega, c⟩) ?_
    rintro r M' ⟨q1, q2⟩
    refine ⟨?_, q2⟩
    have ef : fitT V L P h (P.length + 1) 0 = if h ≤ lenT V L P 0 then 0 else fitT V L P h P.length (0 + 1) := rfl
    rw [q1, ef]
    unfold layT
    dsimp only
    rw [show (0 : Int) + h = h by omega]
    by_cases hc : h ≤ lenT V L P 0
    · rw [if_pos hc, if_pos hc]
    · rw [if_neg hc, if_neg hc]
  · rw [show idiv (100 * ((x.1 : Int) + 1) + x.2) 100 = ((x.1 + 1 : Nat) : Int) by rw [idiv_nn (by omega) (by omega) (by omega) (by omega)]; omega, show irem (100 * ((x.1 : Int) + 1) + x.2) 100 = x.2 by rw [irem_nn (by omega) (by omega) (by omega) (by omega)]; omega]
    have hr' := hr
    obtain ⟨r1, r2⟩ := hr
    have hmd : x.1 % P.length < P.length := Nat.mod_lt _ hP
    have e0 : w32 (((x.1 + 1 : Nat) : Int) - 1) = (x.1 : Int) := by rw [w32_i (by omega) (by omega)]; omega
    have e1 : irem (x.1 : Int) (P.length : Int) = ((x.1 % P.length : Nat) : Int) := by rw [irem_nn (by omega) (by omega) (by omega) (by omega)]; rfl
    have g := holdL_get P 0 (x.1 % P.length) r2 hmd
    rw [Nat.zero_add] at g
    have e5 : w32 (((x.1 + 1 : Nat) : Int) + 1) = ((x.1 + 1 + 1 : Nat) : Int) := by rw [w32_i (by omega) (by omega)]; rfl
    rw [l_m_behind_11]
    refine wp_neg (by omega) ?_
    rw [r1, e0, e1, al172, tn_n, g]
    refine wp_none (by omega) ?_
    refine wp_inb ⟨by omega, by omega⟩ ?_
    refine wp_fI (m_longOf_eq _ V L (P[x.1 % P.length]'hmd) M hV (hPm _ (List.getElem_mem hmd)) hv hok) fun M1 f1 => ?_
    have el : long V L (P[x.1 % P.length]'hmd) = lenT V L P x.1 := by unfold lenT; rw [getD_at _ hmd]
    rw [el, w32_i (x := x.2 + h) (by omega) (by omega)]
    unfold layT
    refine wp_if (fun hc => ?_) (fun hc => ?_)
    · rw [if_neg (by omega)]
      refine wp_I ?_
      rw [e5]
      refine wp_mono (m_behind_11_lp d V L P hv hok hP hP2 hPm h hh P.length (x.1 + 1) M1 (by omega) (by rw [f1 158 (by simp), hV]) ⟨by rw [f1 157 (by simp), r1], by rw [f1 172 (by simp)]; exact r2⟩ (fit_ex hP hh.1 hm (x.1 + 1))) ?_
      rintro r M' ⟨q1, q2⟩
      exact ⟨q1, fr_tt f1 q2⟩
    · rw [if_pos (by omega)]
      refine wp_ret ⟨?_, f1⟩
      have e2 : w32 (w32 (w32 (100 * ((x.1 + 1 : Nat) : Int)) + x.2) + h) = 100 * ((x.1 : Int) + 1) + (x.2 + h) := by
        rw [w32_i (x := 100 * _) (by omega) (by omega), w32_i (x := _ + x.2) (by omega) (by omega), w32_i (by omega) (by omega)]; omega
      rw [e2]
noncomputable def xk (V : aW) (L : aLaw) (P : List Nat) : Nat → Nat × Int
  | 0 => (0, 0)
  | k + 1 => layT V L P (V (199 + k)) (xk V L P k)
theorem xk_in {V : aW} {L : aLaw} {P : List Nat} {m : Nat} (hP : 0 < P.length) (hP2 : P.length ≤ 10) (hw : ∀ i, i < m → (1 ≤ V (199 + i) ∧ V (199 + i) ≤ 24) ∧ V (199 + i) ≤ mxL V L P) : ∀ k, k ≤ m → (xk V L P k).1 ≤ 11 * k ∧ 0 ≤ (xk V L P k).2 ∧ (xk V L P k).2 ≤ 24 ∧ (k ≠ 0 → 1 ≤ (xk V L P k).2)
  | 0, _ => by simp [xk]
  | k + 1, hk => by
    obtain ⟨i1, i2, i3, i4⟩ := xk_in hP hP2 hw k (by omega)
    obtain ⟨w1, w2⟩ := hw k (by omega)
    have := layT_in (x := xk V L P k) hP hP2 i2 w1 w2
    simp only [xk]
    omega
theorem lab_last_lp (d : Nat) (V : aW) (L : aLaw) (P : List Nat) (m : Nat) (M : aM) (hl : labR V L P M) (hP : 0 < P.length) (hP2 : P.length ≤ 10) (hm8 : m ≤ 8) (hw : ∀ i, i < m → (1 ≤ V (199 + i) ∧ V (199 + i) ≤ 24) ∧ V (199 + i) ≤ mxL V L P) (r2 : M 22 2 = m) (rc : ∀ i, i < m → M 23 (4 * i) = V (199 + i)) : ∀ (f i : Nat), i + f = m →
    w_labour_lastSpot_4 (d + 3) 22 (32 * ((xk V L P i).1 : Int) + (xk V L P i).2) i M = some ([aI (32 * ((xk V L P m).1 : Int) + (xk V L P m).2)], M)
  | 0, i, h => by rw [u_labour_lastSpot_4, r2, if_neg (by omega), show i = m by omega]
  | f + 1, i, h => by
    have ih := lab_last_lp d V L P m M hl hP hP2 hm8 hw r2 rc f (i + 1) (by omega)
    obtain ⟨i1, i2, i3, i4⟩ := xk_in hP hP2 hw i (by omega)
    obtain ⟨w1, w2⟩ := hw i (by omega)
    have q0 : w_rows_cell (d + 3) 22 (i : Int) 0 M = some ([aI (V (199 + i))], M) := (rows_cell_eq (d + 1) 22 i 0 M (by omega) (by decide) (by rw [al23]; omega) (by omega)).trans (by rw [← rc i (by omega)]; rfl)
    have e5 : w32 ((i : Int) + 1) = ((i + 1 : Nat) : Int) := by rw [w32_i (by omega) (by omega)]; rfl
    rw [u_labour_lastSpot_4, r2, if_pos (by omega), q0, bndI_s, lab_spotBehind_eq d V L P M hl hP hP2 (xk V L P i) (V (199 + i)) (by omega) w1 w2, bndI_s, e5]
    exact ih
theorem m_inOrder_lp (d : Nat) (V : aW) (L : aLaw) (P : List Nat) (m : Nat) (hv : vLaw L V) (hok : okLaw L) (hP : 0 < P.length) (hP2 : P.length ≤ 10) (hPm : ∀ j, j ∈ P → j < 10) (hm8 : m ≤ 8) (hw : ∀ i, i < m → (1 ≤ V (199 + i) ∧ V (199 + i) ≤ 24) ∧ V (199 + i) ≤ mxL V L P) (h49 : V 49 = m) : ∀ (f i : Nat) (M : aM), i + f = m → M 158 = V → herR P M →
    wp (w_m_inOrder_4 (d + 7) (if i = 0 then 0 else 100 * (((xk V L P i).1 : Int) + 1) + (xk V L P i).2) i M) fun r M' => r = [aI (if m = 0 then 0 else 100 * (((xk V L P m).1 : Int) + 1) + (xk V L P m).2)] ∧ fr [166, 167] M M'
  | 0, i, M, h, hV, hr => by
    rw [l_m_inOrder_4, al158]
    refine wp_inb ⟨by omega, by omega⟩ ?_
    refine wp_neg (by rw [hV]; omega) ?_
    exact wp_ret ⟨by rw [show i = m by omega], fr_refl _ _⟩
  | f + 1, i, M, h, hV, hr => by
    obtain ⟨i1, i2, i3, i4⟩ := xk_in hP hP2 hw i (by omega)
    obtain ⟨w1, w2⟩ := hw i (by omega)
    have e1 : w32 (199 + (i : Int)) = ((199 + i : Nat) : Int) := by rw [w32_i (by omega) (by omega)]; omega
    have e5 : w32 ((i : Int) + 1) = ((i + 1 : Nat) : Int) := by rw [w32_i (by omega) (by omega)]; rfl
    rw [l_m_inOrder_4, e1, al158]
    refine wp_inb ⟨by omega, by omega⟩ ?_
    refine wp_pos (by rw [hV]; omega) ?_
    refine wp_inb ⟨by omega, by omega⟩ ?_
    rw [hV, tn_n]
    refine wp_fI (m_behind_eq _ V L P hv hok hP hP2 hPm (V (199 + i)) _ w1 w2 (xk V L P i) (by omega) (by
      by_cases h0 : i = 0
      · subst h0; left; exact ⟨rfl, rfl⟩
      · right; rw [if_neg h0]) M hV hr) fun M1 f1 => ?_
    refine wp_I ?_
    rw [e5]
    have ih := m_inOrder_lp d V L P m hv hok hP hP2 hPm hm8 hw h49 f (i + 1) M1 (by omega) (by rw [f1 158 (by simp), hV]) ⟨by rw [f1 157 (by simp)]; exact hr.1, by rw [f1 172 (by simp)]; exact hr.2⟩
    rw [if_neg (show ¬ i + 1 = 0 by omega)] at ih
    exact wp_mono ih fun r M' q => ⟨q.1, fr_tt f1 q.2⟩
