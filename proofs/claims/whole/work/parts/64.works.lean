/-! works: the call -/
noncomputable def wkF (V : aW) (mx : Int) : Nat → Nat → Bool
  | 0, _ => true
  | f + 1, i => if mx < V (199 + i) then false else wkF V mx f (i + 1)
theorem wkF_ok {V : aW} {mx : Int} : ∀ f i, wkF V mx f i = true → ∀ j, i ≤ j → j < i + f → V (199 + j) ≤ mx
  | 0, i, _, j, h1, h2 => by omega
  | f + 1, i, h, j, h1, h2 => by
    simp only [wkF] at h
    split at h
    · simp at h
    · by_cases e : j = i
      · subst e; omega
      · exact wkF_ok f (i + 1) h j (by omega) (by omega)
theorem lab_110_lp (d : Nat) (V : aW) (mx : Int) (m c : Nat) (M : aM) (hm8 : m ≤ 8) (r2 : M 22 2 = m) (rc : ∀ i, i < m → M 23 (4 * i) = V (199 + i)) (hc : M 146 3 = c) : ∀ (f i : Nat), i + f = m → w_labour_takeTurns_110 (d + 2) 1 mx i M = some ([aI (bI (wkF V mx f i && decide (0 < c)))], M)
  | 0, i, h => by
    rw [u_labour_takeTurns_110, show M (1 + 21) 2 = m from r2, if_neg (by omega), hc]
    by_cases h0 : 0 < c
    · rw [if_pos (by omega), decide_eq_true h0]; rfl
    · rw [if_neg (by omega), decide_eq_false h0]; rfl
  | f + 1, i, h => by
    have ih := lab_110_lp d V mx m c M hm8 r2 rc hc f (i + 1) (by omega)
    have q0 : w_rows_cell (d + 2) 22 (i : Int) 0 M = some ([aI (V (199 + i))], M) := (rows_cell_eq d 22 i 0 M (by omega) (by decide) (by rw [al23]; omega) (by omega)).trans (by rw [← rc i (by omega)]; rfl)
    have e5 : w32 ((i : Int) + 1) = ((i + 1 : Nat) : Int) := by rw [w32_i (by omega) (by omega)]; rfl
    rw [u_labour_takeTurns_110, show M (1 + 21) 2 = m from r2, if_pos (by omega), show 1 + 21 = 22 from rfl, q0, bndI_s, e5]
    simp only [wkF]
    by_cases hx : mx < V (199 + i)
    · rw [if_pos hx, if_pos hx]; rfl
    · rw [if_neg hx, if_neg hx]; exact ih
theorem bestC_al {V : aW} (L : aLaw) {j : Nat} (h : al V j = true) : ∀ k, j < k → bestC V L k ≠ -1
  | 0, hk => by omega
  | k + 1, hk => by
    simp only [bestC]
    split
    · omega
    · next hn =>
      intro he
      by_cases hjk : j = k
      · subst hjk; exact hn ⟨h, Or.inl he⟩
      · exact bestC_al L h k (by omega) he
theorem al_none {V : aW} (h : V 10 = 0) (j : Nat) (hj : j < 10) : al V j = false := by
  unfold al
  refine decide_eq_false fun hh => ?_
  have := bit01_nat (x := 0) (i := j) (by omega) (by omega)
  rw [h] at hh
  have e := hh.2.2
  rw [show iand (ishr 0 (j : Int)) 1 = iand (ishr ((0 : Nat) : Int) (j : Int)) 1 from rfl, this] at e
  simp at e
noncomputable def vWorks (w : Int) (V : aW) (L : aLaw) : Int :=
  if (0 ≤ w ∧ w ≤ 2) ∧ V 10 ≠ 0 then
    let n := (V 41).toNat
    let P := hl V n (bestC V L 10).toNat
    let m := (V 49).toNat
    if wkF V (mxL V L P) m 0 = true then
      (if w = 2 then (if m = 0 then 0 else ((tabY V L P m (2 ^ m) (2 ^ m - 1)).1 : Int) + 1)
       else if m = 0 then (if w = 0 then 0 else -1)
       else if w = 0 then ((xk V L P m).1 : Int) + 1 else ((P.getD ((xk V L P m).1 % P.length) 0 : Nat) : Int))
    else -1
  else -1
theorem tabY_end {V : aW} {L : aLaw} {P : List Nat} {m : Nat} (hP : 0 < P.length) (hP2 : P.length ≤ 10) (h0 : m ≠ 0) (hw : ∀ i, i < m → (1 ≤ V (199 + i) ∧ V (199 + i) ≤ 24) ∧ V (199 + i) ≤ mxL V L P) : 1 ≤ (tabY V L P m (2 ^ m) (2 ^ m - 1)).2 := by
  have h1 : 2 ^ 1 ≤ 2 ^ m := Nat.pow_le_pow_right (by omega) (by omega)
  rw [tabY_lo (2 ^ m) (2 ^ m - 1) (by omega)]
  obtain ⟨y, hy⟩ := cmb_some (V := V) (L := L) (P := P) (T := tabY V L P m (2 ^ m - 1)) m (low_bit (k := 2 ^ m - 1) (by omega) (by omega))
  have et : tabY V L P m (2 ^ m - 1 + 1) (2 ^ m - 1) = y := by
    simp only [tabY]; rw [if_pos ⟨trivial, by omega⟩, hy]; rfl
  rw [et]
  exact (cmb_in hP hP2 hw (tabY_in hP hP2 hw (2 ^ m - 1)) m (Nat.le_refl _) y hy).2
theorem lab_daysOf_eq (d : Nat) (x : Nat × Int) (m : Nat) (M : aM) (hx : x.1 ≤ 3000 ∧ 0 ≤ x.2 ∧ x.2 ≤ 24) (h0 : m = 0 → x = (0, 0)) (h1 : m ≠ 0 → 1 ≤ x.2) : w_labour_daysOf (d + 1) (32 * (x.1 : Int) + x.2) M = some ([aI (if m = 0 then 0 else (x.1 : Int) + 1)], M) := by
  rw [u_labour_daysOf]
  by_cases h : m = 0
  · rw [if_pos h, h0 h, if_pos (by decide)]
  · have := h1 h
    rw [if_neg h, if_neg (by omega), idiv_nn (by omega) (by omega) (by omega) (by omega), show (32 * (x.1 : Int) + x.2) / 32 = x.1 by omega, w32_i (by omega) (by omega)]
theorem pr_works (d : Nat) (w : Int) : pr (w_x_works (d + 40) w) (w_m_works (d + 40) w) := by
  refine pr_qV (fun V L => vWorks w V L) ?_ ?_
  · intro L Lk M hI
    obtain ⟨⟨hW, hT, hw, hv, hok⟩, -⟩ := hI
    obtain ⟨n, hn, h10⟩ := okW_n hW
    have n49 := hT.1.2.2.2.2.1
    have hwk := hT.2.2.2.2.2.1
    obtain ⟨m, hm⟩ : ∃ m : Nat, M 158 49 = m := ⟨(M 158 49).toNat, by omega⟩
    obtain ⟨t1, t2, t3, t4, ⟨r0, r2, rc⟩, t6, t7, t8⟩ := hw.1.2.1
    have r2 : M 22 2 = m := r2.trans hm
    have rc : ∀ i, i < m → M 23 (4 * i) = M 158 (199 + i) := fun i hi => (rc i 0 (by omega) (by decide)).trans rfl
    rw [l_x_works]
    refine wp_eI (x_within_eq _ _ _ _) ?_
    unfold vWorks
    refine wp_bif (fun h1 => ?_) (fun h1 => ?_)
    · have h1 := of_decide_eq_false h1
      exact wp_ret ⟨by rw [if_neg (by omega)], agQ_refl _⟩
    have h1 := of_decide_eq_true h1
    -- the turns
    have turns : wp (w_labour_takeTurns (d + 39) 1 M) fun r M' => fr [1, 9, 30, 31, 146, 147, 148] M M' ∧
        ((M 158 10 = 0 ∧ r = [aI 0]) ∨ (M 158 10 ≠ 0 ∧ ∃ b : Nat, b < n ∧ bestC (M 158) L 10 = b ∧ labR (M 158) L (hl (M 158) n b) M' ∧ 0 < (hl (M 158) n b).length ∧ r = [aI (bI (wkF (M 158) (mxL (M 158) L (hl (M 158) n b)) m 0))])) := by
      rw [l_labour_takeTurns]
      refine wp_bI (P := fun v M' => v = bestC (M 158) L 10 ∧ fr [1, 9, 30, 31] M M') ?_ ?_
      · rw [l_world_likeliestDeer]
        refine wp_bV (world_askComes_eq _ 1 (M 158) L isWo1 hok (by omega) (by omega) M (rW_wd hw) hw.1.2.2.1) ?_
        rintro M1 ⟨s1, c1, f1⟩
        refine wp_eI (world_greatestCome_eq _ 1 (M 158) L isWo1 (by omega) M1 (rWd_fr (rW_wd hw) fun k _ _ => f1 k (by simp; omega)) c1) ?_
        exact wp_ret ⟨_, rfl, rfl, fr_w f1 (by simp)⟩
      rintro v M1 ⟨rfl, f1⟩
      refine wp_up fun M2 f2 g2 => ?_
      have f12 : fr [1, 9, 30, 31, 146] M M2 := fr_tr f1 f2 (by simp) (by simp)
      by_cases hz : M 158 10 = 0
      · have hb : bestC (M 158) L 10 = -1 := by
          rcases bestC_in (M 158) L 10 with h | ⟨j, hj, -, ha⟩
          · exact h
          · rw [al_none hz j hj] at ha; simp at ha
        rw [hb, l_labour_takeTurns_15]
        refine wp_pos (by decide) ?_
        refine wp_pos rfl ?_
        have l110 := lab_110_lp (d + 36) (M 158) 0 m 0 M2 (by omega) (by rw [f12 22 (by simp), r2]) (fun i hi => by rw [f12 23 (by simp)]; exact rc i hi) (by rw [g2, if_pos rfl]; rfl) m 0 (by omega)
        exact ⟨_, _, l110, fr_w f12 (by simp), Or.inl ⟨hz, by simp; rfl⟩⟩
      · obtain ⟨j0, hj1, hj2⟩ := okA_al hW.1 hz
        rcases bestC_in (M 158) L 10 with h | ⟨b, hb, e, ha⟩
        · exact absurd h (bestC_al L hj2 10 (by omega))
        have hbn := al_lt ha
        rw [e]
        refine lab_turns_lp _ (M 158) L n b hok hn h10 (by omega) _ 10 0 [] 0 M2 (by omega) (by simp) (rWd_fr (rW_wd hw) fun k _ _ => f12 k (by simp; omega)) (rLaw_fr hw.1.2.2.1 fun k _ _ _ => f12 k (by simp; omega)) (by rw [g2, if_pos rfl]; rfl) trivial (fun k hk => by simp at hk) (by omega) ?_
        intro M3 P' mx' q1 q2 q3 q4 q5 q6
        rw [List.nil_append, hl_10 hn h10 (by omega)] at q1
        rw [hl_10 hn h10 (by omega)] at q6
        subst q1
        have hpos : 0 < (hl (M 158) n b).length := by
          refine List.length_pos_of_mem (a := b) ?_
          unfold hl
          rw [List.mem_filter]
          refine ⟨?_, ha⟩
          rw [List.mem_append, List.mem_range'_1]
          left; omega
        have hmx : mx' = mxL (M 158) L (hl (M 158) n b) := by
          have hge : 0 ≤ mxL (M 158) L (hl (M 158) n b) := by
            have := mxL_ge (V := M 158) (L := L) (hl (M 158) n b) (hl (M 158) n b)[0] (List.getElem_mem hpos)
            have := (long_in (M 158) L (hl (M 158) n b)[0]).1
            omega
          rw [q6]; unfold imax; split <;> omega
        have f13 : fr [1, 9, 30, 31, 146, 147, 148] M M3 := fr_tr f12 q2 (by simp) (by simp)
        have l110 := lab_110_lp (d + 36) (M 158) mx' m (hl (M 158) n b).length M3 (by omega) (by rw [f13 22 (by simp), r2]) (fun i hi => by rw [f13 23 (by simp)]; exact rc i hi) q3 m 0 (by omega)
        refine ⟨_, _, l110, f13, Or.inr ⟨hz, b, by omega, rfl, ⟨q3, q4, q5⟩, hpos, ?_⟩⟩
        rw [decide_eq_true hpos, Bool.and_true, hmx]
    obtain ⟨r, M1, e1, f1, hc⟩ := turns
    have agF : ∀ M', fr [149] M1 M' → agQ M M' := fun M' f => agQ_tr (agQ_fr f1 (by intro k hk; simp at hk; unfold qs; omega)) (agQ_fr f (by intro k hk; simp at hk; unfold qs; omega))
    rcases hc with ⟨hz, hr⟩ | ⟨hz, b, hb, hbe, hlab, hP, hr⟩
    · subst hr
      refine wp_eI e1 ?_
      refine wp_pos rfl ?_
      exact wp_ret ⟨by rw [if_neg (by omega)], agF _ (fr_refl _ _)⟩
    subst hr
    refine wp_eI e1 ?_
    rw [if_pos (show (0 ≤ w ∧ w ≤ 2) ∧ M 158 10 ≠ 0 by omega), hn, hm, hbe]
    simp only [tn_n]
    generalize hPP : hl (M 158) n b = P at *
    have hP2 : P.length ≤ 10 := by
      have := filter_len (M 158) (fun i => (b + i) % 10) 10 0
      rw [hl_10 hn h10 hb, hPP] at this
      exact this
    refine wp_bif (fun hk => ?_) (fun hk => ?_)
    · exact wp_ret ⟨by rw [hk, if_neg (by decide)], agF _ (fr_refl _ _)⟩
    rw [if_pos hk]
    have hww : ∀ i, i < m → (1 ≤ M 158 (199 + i) ∧ M 158 (199 + i) ≤ 24) ∧ M 158 (199 + i) ≤ mxL (M 158) L P := fun i hi => ⟨hwk i (by omega), wkF_ok m 0 hk i (by omega) (by omega)⟩
    have hxk := xk_in hP hP2 hww m (Nat.le_refl _)
    have r2' : M1 22 2 = m := by rw [f1 22 (by simp), r2]
    have rc' : ∀ i, i < m → M1 23 (4 * i) = M 158 (199 + i) := fun i hi => by rw [f1 23 (by simp)]; exact rc i hi
    have last : w_labour_lastSpot (d + 39) 22 M1 = some ([aI (32 * ((xk (M 158) L P m).1 : Int) + (xk (M 158) L P m).2)], M1) := (u_labour_lastSpot _ _ _).trans (lab_last_lp (d + 35) (M 158) L P m M1 hlab hP hP2 (by omega) hww r2' rc' m 0 (by omega))
    have hxx : (xk (M 158) L P m).1 ≤ 3000 ∧ 0 ≤ (xk (M 158) L P m).2 ∧ (xk (M 158) L P m).2 ≤ 24 := by omega
    refine wp_if (fun hw0 => ?_) (fun hw0 => ?_)
    · refine wp_eI last ?_
      refine wp_eI (lab_daysOf_eq _ (xk (M 158) L P m) m M1 hxx (fun h => by rw [h]; rfl) (fun h => hxk.2.2.2 h)) ?_
      refine wp_ret ⟨?_, agF _ (fr_refl _ _)⟩
      rw [if_neg (show ¬ w = 2 by omega)]
      by_cases h0 : m = 0
      · rw [if_pos h0, if_pos h0, if_pos hw0]
      · rw [if_neg h0, if_neg h0, if_pos hw0]
    refine wp_if (fun hw1 => ?_) (fun hw1 => ?_)
    · refine wp_eI last ?_
      rw [if_neg (show ¬ w = 2 by omega)]
      refine wp_eI (v := if m = 0 then -1 else ((P.getD ((xk (M 158) L P m).1 % P.length) 0 : Nat) : Int)) (M := M1) ?_ ?_
      · have hid : idiv (32 * ((xk (M 158) L P m).1 : Int) + (xk (M 158) L P m).2) 32 = (((xk (M 158) L P m).1 : Nat) : Int) := by rw [idiv_nn (by omega) (by omega) (by omega) (by omega)]; omega
        have hmd : (xk (M 158) L P m).1 % P.length < P.length := Nat.mod_lt _ hP
        rw [u_labour_deerOf, hlab.1, if_pos (by omega), hid, floorMod_eq _ _ P.length M1 (by omega) hP (by omega), bndI_s]
        by_cases h0 : m = 0
        · rw [if_pos h0, if_pos (by rw [h0]; rfl)]
        · have := hxk.2.2.2 h0
          have g := holdL_get P 0 _ hlab.2.1 hmd
          rw [Nat.zero_add] at g
          rw [if_neg h0, if_neg (by omega), if_pos (by omega), al147, inb_s (by omega) (by omega), tn_n, g, getD_at P hmd]
      · refine wp_ret ⟨?_, agF _ (fr_refl _ _)⟩
        by_cases h0 : m = 0
        · rw [if_pos h0, if_pos h0, if_neg hw0]
        · rw [if_neg h0, if_neg h0, if_neg hw0]
    · rw [if_pos (show w = 2 by omega)]
      refine wp_fI (l := [149]) (M := M1) (v := 32 * ((tabY (M 158) L P m (2 ^ m) (2 ^ m - 1)).1 : Int) + (tabY (M 158) L P m (2 ^ m) (2 ^ m - 1)).2) ?_ ?_
      · rw [l_labour_bestSpot, r2', al149]
        rw [show imax 0 (imin 8 (m : Int)) = m by unfold imax imin; split <;> split <;> omega]
        refine wp_I ?_
        refine wp_inb ⟨by omega, by omega⟩ ?_
        refine wp_up fun M2 f2 g2 => ?_
        have hp0 : 0 < 2 ^ m := Nat.two_pow_pos m
        exact wp_mono (lab_best_23_lp (d + 34) (M 158) L P m hP hP2 (by omega) hww (fun k hk s => by have := tabY_in (m := m) hP hP2 hww k s; exact ⟨by have := this.1; omega, this.2⟩) (2 ^ m - 1) 1 M2 (by omega) (by omega) (labR_fr hlab fun j _ _ => f2 j (by simp; omega)) (by rw [f2 22 (by simp), r2']) (fun i hi => by rw [f2 23 (by simp)]; exact rc' i hi) (fun s hs => by rw [g2, if_pos (by omega), show s = 0 by omega, tabY_0]; rfl)) fun r M' q => ⟨q.1, fr_tt f2 q.2⟩
      intro M2 f2
      have hp8 : 2 ^ m ≤ 2 ^ 8 := Nat.pow_le_pow_right (by omega) (by omega)
      have hty := tabY_in (m := m) hP hP2 hww (2 ^ m) (2 ^ m - 1)
      refine wp_eI (lab_daysOf_eq _ (tabY (M 158) L P m (2 ^ m) (2 ^ m - 1)) m M2 ⟨by have := hty.1; omega, hty.2⟩ (fun h => by subst h; exact tabY_0 _) (fun h => tabY_end hP hP2 h hww)) ?_
      exact wp_ret ⟨rfl, agF _ f2⟩
  · intro L Lk M hI
    obtain ⟨⟨hW, hT, hw, hv, hok⟩, -⟩ := hI
    obtain ⟨n, hn, h10⟩ := okW_n hW
    have n49 := hT.1.2.2.2.2.1
    have hwk := hT.2.2.2.2.2.1
    obtain ⟨m, hm⟩ : ∃ m : Nat, M 158 49 = m := ⟨(M 158 49).toNat, by omega⟩
    rw [l_m_works]
    refine wp_eI (m_isIn_eq _ _ _ _ _) ?_
    unfold vWorks
    refine wp_bif (fun h1 => ?_) (fun h1 => ?_)
    · have h1 := of_decide_eq_false h1
      exact wp_ret ⟨by rw [if_neg (by omega)], agQ_refl _⟩
    have h1 := of_decide_eq_true h1
    rw [al158]
    refine wp_inb ⟨by omega, by omega⟩ ?_
    refine wp_if (fun hz => wp_ret ⟨by rw [if_neg (by omega)], agQ_refl _⟩) (fun hz => ?_)
    obtain ⟨j0, hj1, hj2⟩ := okA_al hW.1 hz
    rcases bestC_in (M 158) L 10 with h | ⟨b, hb, e, ha⟩
    · exact absurd h (bestC_al L hj2 10 (by omega))
    have hbn := al_lt ha
    have hpos : 0 < (hl (M 158) n b).length := by
      refine List.length_pos_of_mem (a := b) ?_
      unfold hl
      rw [List.mem_filter]
      refine ⟨?_, ha⟩
      rw [List.mem_append, List.mem_range'_1]
      left; omega
    rw [if_pos (show (0 ≤ w ∧ w ≤ 2) ∧ M 158 10 ≠ 0 by omega), hn, hm, e]
    simp only [tn_n]
    refine wp_bI (P := fun v M' => v = mxL (M 158) L (hl (M 158) n b) ∧ fr [157, 166, 167, 172] M M' ∧ herR (hl (M 158) n b) M' ∧ (∀ j, j ≠ 33 → M' 157 j = M 157 j)) ?_ ?_
    · rw [l_m_laysHerd]
      refine wp_fI (m_likeliestOne_eq _ (M 158) L n hn h10 hv hok M rfl) fun M1 f1 => ?_
      rw [← bestC_hi L hn 10 h10, e]
      refine wp_up fun M2 f2 g2 => ?_
      refine wp_mono (m_herd_lp _ (M 158) L n b hv hok hn h10 (by omega) n 0 [] 0 M2 (by omega) (by simp) (by rw [f2 158 (by simp), f1 158 (by simp)]) (by rw [g2, if_pos rfl]; rfl) trivial (by omega)) ?_
      rintro r M' ⟨P', q1, q2, q3, q4, q5, q6⟩
      rw [List.nil_append, hl_n h10 (by omega)] at q1
      rw [hl_n h10 (by omega)] at q2
      subst q1
      refine ⟨_, q2, ?_, fr_tr (fr_tr f1 f2 (l := [157, 166, 167]) (by simp) (by simp)) q3 (by simp) (by simp), ⟨q4, q5⟩, fun j hj => by rw [q6 j hj, g2, if_neg hj, f1 157 (by simp)]⟩
      have hge : 0 ≤ mxL (M 158) L (hl (M 158) n b) := by
        have := mxL_ge (V := M 158) (L := L) (hl (M 158) n b) (hl (M 158) n b)[0] (List.getElem_mem hpos)
        have := (long_in (M 158) L (hl (M 158) n b)[0]).1
        omega
      unfold imax; split <;> omega
    rintro v M1 ⟨rfl, f1, her, g1⟩
    generalize hPP : hl (M 158) n b = P at *
    have hP2 : P.length ≤ 10 := by
      have := filter_len (M 158) (fun i => (b + i) % 10) 10 0
      rw [hl_10 hn h10 (by omega), hPP] at this
      exact this
    have hPm : ∀ j, j ∈ P → j < 10 := fun j hj => by
      rw [← hPP] at hj
      have := al_lt (hl_mem hj)
      omega
    have v1 : M1 158 = M 158 := f1 158 (by simp)
    have agF : ∀ M', fr [166, 167, 173] M1 M' → agQ M M' := fun M' f => ⟨fun k a c => by
      rw [f k (by unfold qs at a; simp; omega), f1 k (by unfold qs at a; simp; omega)], fun j a _ => by rw [f 157 (by simp), g1 j a]⟩
    have chk : ∀ (f i : Nat), i + f = m → w_m_works_28 (d + 39) w (mxL (M 158) L P) i M1 = if wkF (M 158) (mxL (M 158) L P) f i = true then w_m_works_28 (d + 39) w (mxL (M 158) L P) m M1 else some ([aI (-1)], M1) := by
      intro f
      induction f with
      | zero => intro i hi; rw [show i = m by omega]; simp [wkF]
      | succ f ih =>
        intro i hi
        have e1 : w32 (199 + (i : Int)) = ((199 + i : Nat) : Int) := by rw [w32_i (by omega) (by omega)]; omega
        have e5 : w32 ((i : Int) + 1) = ((i + 1 : Nat) : Int) := by rw [w32_i (by omega) (by omega)]; rfl
        rw [u_m_works_28, al158, inb_s (by omega) (by omega), if_pos (by rw [v1]; omega), e1, inb_s (by omega) (by omega), tn_n, v1, e5]
        have ew : wkF (M 158) (mxL (M 158) L P) (f + 1) i = if mxL (M 158) L P < M 158 (199 + i) then false else wkF (M 158) (mxL (M 158) L P) f (i + 1) := rfl
        rw [ew]
        by_cases hx : mxL (M 158) L P < M 158 (199 + i)
        · rw [if_pos hx, if_pos hx]; rfl
        · rw [if_neg hx, if_neg hx]; exact ih (i + 1) (by omega)
    have chk0 := chk m 0 (by omega)
    cases hk : wkF (M 158) (mxL (M 158) L P) m 0 with
    | false =>
      rw [hk, if_neg (by decide)] at chk0
      rw [if_neg (by decide)]
      exact ⟨_, _, chk0, rfl, agF _ (fr_refl _ _)⟩
    | true =>
      rw [hk, if_pos rfl] at chk0
      rw [if_pos rfl]
      have hww : ∀ i, i < m → (1 ≤ M 158 (199 + i) ∧ M 158 (199 + i) ≤ 24) ∧ M 158 (199 + i) ≤ mxL (M 158) L P := fun i hi => ⟨hwk i (by omega), wkF_ok m 0 hk i (by omega) (by omega)⟩
      have hxk := xk_in hpos hP2 hww m (Nat.le_refl _)
      have hp8 : 2 ^ m ≤ 2 ^ 8 := Nat.pow_le_pow_right (by omega) (by omega)
      show wp (w_m_works_28 (d + 39) w (mxL (M 158) L P) 0 M1) _
      have chk0' : w_m_works_28 (d + 39) w (mxL (M 158) L P) 0 M1 = w_m_works_28 (d + 39) w (mxL (M 158) L P) m M1 := chk0
      rw [chk0', l_m_works_28, al158]
      refine wp_inb ⟨by omega, by omega⟩ ?_
      refine wp_neg (by rw [v1]; omega) ?_
      refine wp_if (fun hw2 => ?_) (fun hw2 => ?_)
      · rw [if_pos hw2]
        refine wp_fI (l := [166, 167, 173]) (M := M1) (v := if m = 0 then 0 else encR (tabY (M 158) L P m (2 ^ m) (2 ^ m - 1))) ?_ ?_
        · rw [l_m_bestOrder]
          exact m_best_2_lp (d + 30) (M 158) L P m hv hok hpos hP2 hPm (by omega) hww hm (fun k hk s => by have := tabY_in (m := m) hpos hP2 hww k s; exact ⟨by have := this.1; omega, this.2⟩) (2 ^ m) 0 M1 (by omega) v1 her (fun s hs => by omega)
        intro M2 f2
        refine wp_ret ⟨?_, agF _ f2⟩
        by_cases h0 : m = 0
        · rw [if_pos h0, if_pos h0, idiv_nn (by decide) (by decide) (by decide) (by decide)]; rfl
        · have hty := tabY_in (m := m) hpos hP2 hww (2 ^ m) (2 ^ m - 1)
          have hty1 := hty.1
          have hty2 := hty.2
          rw [if_neg h0, if_neg h0]
          unfold encR
          rw [idiv_nn (by omega) (by omega) (by omega) (by omega)]
          congr 2
          omega
      · rw [if_neg hw2]
        refine wp_fI (l := [166, 167]) (M := M1) (v := if m = 0 then 0 else 100 * (((xk (M 158) L P m).1 : Int) + 1) + (xk (M 158) L P m).2) ?_ ?_
        · rw [l_m_inOrder]
          exact m_inOrder_lp (d + 31) (M 158) L P m hv hok hpos hP2 hPm (by omega) hww hm m 0 M1 (by omega) v1 her
        intro M2 f2
        refine wp_I ?_
        have ag2 := agF M2 (fr_w f2 (by simp))
        by_cases h0 : m = 0
        · rw [if_pos h0, if_pos h0, show idiv 0 100 = 0 from (idiv_nn (by decide) (by decide) (by decide) (by decide)).trans (by decide)]
          refine wp_if (fun hw0 => ?_) (fun hw0 => ?_)
          · exact wp_ret ⟨by rw [if_pos hw0], ag2⟩
          · refine wp_pos rfl ?_
            exact wp_ret ⟨by rw [if_neg hw0], ag2⟩
        · have := hxk.2.2.2 h0
          have hid : idiv (100 * (((xk (M 158) L P m).1 : Int) + 1) + (xk (M 158) L P m).2) 100 = (((xk (M 158) L P m).1 + 1 : Nat) : Int) := by rw [idiv_nn (by omega) (by omega) (by omega) (by omega)]; omega
          have hmd : (xk (M 158) L P m).1 % P.length < P.length := Nat.mod_lt _ hpos
          rw [if_neg h0, if_neg h0, hid]
          refine wp_if (fun hw0 => ?_) (fun hw0 => ?_)
          · exact wp_ret ⟨by rw [if_pos hw0]; rfl, ag2⟩
          · refine wp_neg (by omega) ?_
            rw [f2 157 (by simp), her.1, f2 172 (by simp), al172]
            refine wp_none (by omega) ?_
            have e0 : w32 ((((xk (M 158) L P m).1 + 1 : Nat) : Int) - 1) = ((xk (M 158) L P m).1 : Int) := by rw [w32_i (by omega) (by omega)]; omega
            have e1 : irem (((xk (M 158) L P m).1 : Nat) : Int) (P.length : Int) = (((xk (M 158) L P m).1 % P.length : Nat) : Int) := by rw [irem_nn (by omega) (by omega) (by omega) (by omega)]; rfl
            have g := holdL_get P 0 _ her.2 hmd
            rw [Nat.zero_add] at g
            rw [e0, e1, tn_n, g, getD_at P hmd]
            refine wp_inb ⟨by omega, by omega⟩ ?_
            exact wp_ret ⟨by rw [if_neg hw0], ag2⟩
