/-! deer, end, feed -/
noncomputable def pDeer (V : aW) (n : Nat) (mark calm : Int) : aW := vS (vS (vS (vS (vS (vS V (53 + n) mark) (11 + n) calm) (21 + n) 0) (31 + n) 0) 10 (ior (V 10) (ishl 1 n))) 41 ((n + 1 : Nat) : Int)
theorem pDeer_ne (V : aW) (n : Nat) (mark calm : Int) (h : n < 10) : ∀ k, (k < 11 ∨ (41 ≤ k ∧ k < 53) ∨ 63 ≤ k) → k ≠ 10 → k ≠ 41 → pDeer V n mark calm k = V k := fun k h1 h2 h3 => by
  unfold pDeer
  rw [vS_ne h3, vS_ne h2, vS_ne (by omega), vS_ne (by omega), vS_ne (by omega), vS_ne (by omega)]
theorem deer_okW {V : aW} {n : Nat} {mark calm : Int} (h : okW V) (hn : V 41 = n) (h10 : n < 10) (hm : 0 ≤ mark ∧ mark ≤ 5) (hc : 0 ≤ calm ∧ calm ≤ 9) : okW (pDeer V n mark calm) := by
  have q := pDeer_ne V n mark calm h10
  have q41 : pDeer V n mark calm 41 = ((n + 1 : Nat) : Int) := by unfold pDeer; rw [vS_at]
  have q10 : pDeer V n mark calm 10 = ior (V 10) (ishl 1 n) := by unfold pDeer; rw [vS_ne (by omega), vS_at]
  unfold okW at h ⊢
  obtain ⟨h1, h2, h3, h4, h5, h6, h7, h8, h9, h10', h11, h12, h13, h14⟩ := h
  rw [q 8 (by omega) (by omega) (by omega), q 0 (by omega) (by omega) (by omega), q 1 (by omega) (by omega) (by omega), q41, q 4 (by omega) (by omega) (by omega), q 5 (by omega) (by omega) (by omega), q 6 (by omega) (by omega) (by omega), q 42 (by omega) (by omega) (by omega), q 43 (by omega) (by omega) (by omega), q 9 (by omega) (by omega) (by omega)]
  refine ⟨?_, h2, h3, by omega, h5, h6, h7, h8, h9, h10', fun i hi => ?_, fun i hi => ?_, fun i hi => ?_, fun i hi => ?_⟩
  · obtain ⟨x, n', hx, hn', hlt, h10''⟩ := h1
    have e : n' = n := by omega
    subst e
    have hp : 2 ^ n' ≤ 2 ^ 10 := Nat.pow_le_pow_right (by omega) (by omega)
    have hp2 : 2 ^ n' < 2 ^ (n' + 1) := Nat.pow_lt_pow_right (by omega) (by omega)
    exact ⟨x ||| 2 ^ n', n' + 1, by rw [q10, hx, ior_bit (by omega) (by omega)], q41, Nat.or_lt_two_pow (by omega) hp2, by omega⟩
  · by_cases e : i = n
    · subst e; unfold pDeer; rw [vS_ne (by omega), vS_ne (by omega), vS_ne (by omega), vS_ne (by omega), vS_ne (by omega), vS_at]; exact hm
    · unfold pDeer; rw [vS_ne (by omega), vS_ne (by omega), vS_ne (by omega), vS_ne (by omega), vS_ne (by omega), vS_ne (by omega)]; exact h11 i hi
  · by_cases e : i = n
    · subst e; unfold pDeer; rw [vS_ne (by omega), vS_ne (by omega), vS_ne (by omega), vS_ne (by omega), vS_at]; exact hc
    · unfold pDeer; rw [vS_ne (by omega), vS_ne (by omega), vS_ne (by omega), vS_ne (by omega), vS_ne (by omega), vS_ne (by omega)]; exact h12 i hi
  · by_cases e : i = n
    · subst e; unfold pDeer; rw [vS_ne (by omega), vS_ne (by omega), vS_ne (by omega), vS_at]; omega
    · unfold pDeer; rw [vS_ne (by omega), vS_ne (by omega), vS_ne (by omega), vS_ne (by omega), vS_ne (by omega), vS_ne (by omega)]; exact h13 i hi
  · by_cases e : i = n
    · subst e; unfold pDeer; rw [vS_ne (by omega), vS_ne (by omega), vS_at]; omega
    · unfold pDeer; rw [vS_ne (by omega), vS_ne (by omega), vS_ne (by omega), vS_ne (by omega), vS_ne (by omega), vS_ne (by omega)]; exact h14 i hi
theorem wood_enter_eq (d : Nat) (V : aW) (n : Nat) (mark calm : Int) (M : aM) (hd : rWd 2 V M) (hn : V 41 = n) (h10 : n < 10) :
    wp (w_wood_enter (d + 1) 2 mark calm M) fun r M' => r = [aI n] ∧ rWd 2 (pDeer V n mark calm) M' ∧ fr [2, 3, 4, 5, 6] M M' := by
  rw [l_wood_enter, hd.1, hn]
  refine wp_I ?_
  refine wp_neg (by omega) ?_
  refine wp_pos (by omega) ?_
  rw [show aLen (2 + 1) = 10 from rfl, show aLen (2 + 2) = 10 from rfl, show aLen (2 + 3) = 10 from rfl, show aLen (2 + 4) = 10 from rfl]
  rw [tn_n, w32_i (by omega) (by omega)]
  refine wp_inb ⟨by omega, by omega⟩ ?_
  refine wp_up fun M1 f1 g1 => ?_
  have d1 := rWd_a hd (j := 1) (base := 53) f1 g1 h10 (by simp)
  refine wp_inb ⟨by omega, by omega⟩ ?_
  refine wp_up fun M2 f2 g2 => ?_
  have d2 := rWd_a d1 (j := 2) (base := 11) f2 g2 h10 (by simp)
  refine wp_inb ⟨by omega, by omega⟩ ?_
  refine wp_up fun M3 f3 g3 => ?_
  have d3 := rWd_a d2 (j := 3) (base := 21) f3 g3 h10 (by simp)
  refine wp_inb ⟨by omega, by omega⟩ ?_
  refine wp_up fun M4 f4 g4 => ?_
  have d4 := rWd_a d3 (j := 4) (base := 31) f4 g4 h10 (by simp)
  have e5 : M4 2 5 = V 10 := by rw [f4 _ (by simp), f3 _ (by simp), f2 _ (by simp), f1 _ (by simp)]; exact hd.2.1
  rw [e5]
  refine wp_up fun M5 f5 g5 => ?_
  have d5 := rWd_s d4 (k := 10) (j := 5) f5 g5 (by simp)
  refine wp_up fun M6 f6 g6 => ?_
  have d6 := rWd_s d5 (k := 41) (j := 4) f6 g6 (by simp)
  refine wp_ret ⟨rfl, d6, ?_⟩
  intro k hk
  simp at hk
  rw [f6 k (by simp; omega), f5 k (by simp; omega), f4 k (by simp; omega), f3 k (by simp; omega), f2 k (by simp; omega), f1 k (by simp; omega)]
theorem pr_deer (d : Nat) (mark calm : Int) : pr (w_x_deer (d + 40) mark calm) (w_m_deer (d + 40) mark calm) := by
  intro L Lk M hI
  have hI' := hI
  obtain ⟨⟨k1, k2, hw, k4, k5⟩, -⟩ := hI
  obtain ⟨n, hn, h10⟩ := okW_n k1
  have hd := rW_wd hw
  have hx : wp (w_x_deer (d + 40) mark calm M) fun r M1 => ((0 ≤ mark ∧ mark ≤ 5 ∧ 0 ≤ calm ∧ calm ≤ 9 ∧ n < 10) ∧ r = [aI n] ∧ rWd 2 (pDeer (M 158) n mark calm) M1 ∧ (∀ k, ¬ (2 ≤ k ∧ k < 7) → k ≠ 94 → M1 k = M k) ∧ M1 94 3 = 0 ∧ M1 94 2 = M 94 2) ∨ (¬ (0 ≤ mark ∧ mark ≤ 5 ∧ 0 ≤ calm ∧ calm ≤ 9 ∧ n < 10) ∧ r = [aI (-1)] ∧ M1 = M) := by
    rw [l_x_deer]
    refine wp_eI (x_within_eq _ _ _ _) ?_
    refine wp_bif (fun h => ?_) (fun h => ?_)
    · have h := of_decide_eq_false h
      exact wp_ret (Or.inr ⟨by omega, rfl, rfl⟩)
    have h := of_decide_eq_true h
    refine wp_eI (x_within_eq _ _ _ _) ?_
    refine wp_bif (fun h1 => ?_) (fun h1 => ?_)
    · have h1 := of_decide_eq_false h1
      exact wp_ret (Or.inr ⟨by omega, rfl, rfl⟩)
    have h1 := of_decide_eq_true h1
    rw [show M 2 4 = M 158 41 from hd.1, hn]
    refine wp_if (fun h2 => ?_) (fun h2 => ?_)
    · refine wp_eV (acts_forget_eq _ _) ?_
      refine wp_bI (P := fun v M' => v = n ∧ rWd 2 (pDeer (M 158) n mark calm) M' ∧ fr [2, 3, 4, 5, 6] (aUp M 94 3 0) M') (wp_mono (wood_enter_eq _ (M 158) n mark calm (aUp M 94 3 0) (rWd_fr hd fun k _ _ => aUp_N (by omega)) hn (by omega)) ?_) ?_
      · rintro r M' ⟨e, w, f⟩; exact ⟨_, e, rfl, w, f⟩
      rintro v M1 ⟨rfl, w1, f1⟩
      refine wp_ret (Or.inl ⟨by omega, rfl, w1, fun k a b => ?_, ?_, ?_⟩)
      · rw [f1 k (by simp; omega), aUp_N b]
      · rw [f1 94 (by simp)]; simp [aUp_E]
      · rw [f1 94 (by simp)]; simp [aUp_E]
    · exact wp_ret (Or.inr ⟨by omega, rfl, rfl⟩)
  obtain ⟨r, M1, e1, ⟨h1, h2, h3, h4, h5, h6⟩ | ⟨h1, h2, h3⟩⟩ := hx
  · subst h2
    have w1 : M1 158 = M 158 := h4 158 (by omega) (by omega)
    have hm : wp (w_m_deer (d + 40) mark calm M1) fun r M2 => r = [aI n] ∧ M2 158 = pDeer (M 158) n mark calm ∧ (∀ k, k ≠ 157 → k ≠ 158 → M2 k = M1 k) ∧ M2 157 4 = 0 ∧ ∀ j, j ≠ 4 → M2 157 j = M1 157 j := by
      rw [l_m_deer]
      refine wp_eI (m_isIn_eq _ _ _ _ _) ?_
      rw [decide_eq_true (show 0 ≤ mark ∧ mark ≤ 5 by omega)]
      refine wp_neg (by decide) ?_
      refine wp_eI (m_isIn_eq _ _ _ _ _) ?_
      rw [decide_eq_true (show 0 ≤ calm ∧ calm ≤ 9 by omega)]
      refine wp_neg (by decide) ?_
      rw [w1, al158, hn]
      refine wp_inb ⟨by omega, by omega⟩ ?_
      refine wp_neg (by omega) ?_
      refine wp_inb ⟨by omega, by omega⟩ ?_
      refine wp_I ?_
      (try simp (disch := omega) only [w32_i, tn_l, tn_n, tn_r, tn_s, tn_1, Nat.add_sub_cancel, Int.reduceToNat, Int.toNat_zero, Int.toNat_one, al3, al4, al5, al6, al8, al9, al11, al13, al15, al17, al19, al21, al23, al25, al27, al29, al30, al31, al95, al96, al128, al129, al130, al131, al134, al135, al137, al139, al140, al142, al143, al144, al145, al147, al148, al149, al151, al152, al153, al154, al155, al156, al158, al159, al160, al161, al162, al163, al164, al165, al166, al167, al168, al169, al170, al171, al172, al173, al174, al175, al176])
      refine wp_inb ⟨by omega, by omega⟩ ?_
      refine wp_w fun Ma wa fa => ?_
      refine wp_inb ⟨by omega, by omega⟩ ?_
      refine wp_w fun Mb wb fb => ?_
      refine wp_inb ⟨by omega, by omega⟩ ?_
      refine wp_w fun Mc wc fc => ?_
      refine wp_inb ⟨by omega, by omega⟩ ?_
      refine wp_w fun Md wd fd => ?_
      refine wp_inb ⟨by omega, by omega⟩ ?_
      refine wp_inb ⟨by omega, by omega⟩ ?_
      have e10 : Md 158 10 = M 158 10 := by rw [wd, wc, wb, wa, vS_ne (by omega), vS_ne (by omega), vS_ne (by omega), vS_ne (by omega), w1]
      rw [e10]
      refine wp_w fun Me we fe => ?_
      refine wp_inb ⟨by omega, by omega⟩ ?_
      refine wp_inb ⟨by omega, by omega⟩ ?_
      have e41 : Me 158 41 = n := by rw [we, wd, wc, wb, wa, vS_ne (by omega), vS_ne (by omega), vS_ne (by omega), vS_ne (by omega), vS_ne (by omega), w1, hn]
      rw [e41, w32_i (by omega) (by omega)]
      refine wp_w fun Mf wf ff => ?_
      refine wp_eV (m_forgets_eq _ _) ?_
      have ft : fr [158] M1 Mf := fr_tt fa (fr_tt fb (fr_tt fc (fr_tt fd (fr_tt fe ff))))
      refine wp_ret ⟨rfl, ?_, fun k a b => ?_, by simp [aUp_E], fun j hj => ?_⟩
      · rw [aUp_N (by decide), wf, we, wd, wc, wb, wa, w1]; rfl
      · rw [aUp_N a, ft k (by simp [b])]
      · rw [aUp_same, if_neg hj, ft 157 (by simp)]
    obtain ⟨r2, M2, e2, hr2, hv, fr2, g1, g2⟩ := hm
    subst hr2
    refine ⟨n, M1, M2, e1, e2, ?_, ⟨h4 _ (by omega) (by omega), h4 _ (by omega) (by omega)⟩, ?_, ?_⟩
    · have q := pDeer_ne (M 158) n mark calm (by omega)
      refine ⟨L, Lk, Inv_W hI' (fun k a b c e => (fr2 k c e).trans (h4 k a b)) (fun k hk => by rw [hv, q k (by omega) (by omega) (by omega)]) (by rw [hv]; unfold pDeer; rw [vS_at]; omega) (by rw [hv]; exact deer_okW k1 hn (by omega) (by omega) (by omega)) (by rw [hv]; exact rWd_fr h3 fun k _ _ => fr2 k (by omega) (by omega)) (by rw [fr2 94 (by omega) (by omega)]; exact h5) (by rw [fr2 94 (by omega) (by omega)]; exact h6) g1 (fun j hj => by rw [g2 j hj, h4 157 (by omega) (by omega)])⟩
    · rw [fr2 _ (by omega) (by omega)]; exact h4 _ (by omega) (by omega)
    · rw [fr2 _ (by omega) (by omega)]; exact h4 _ (by omega) (by omega)
  · subst h2 h3
    have hm : wp (w_m_deer (d + 40) mark calm M1) fun r M2 => r = [aI (-1)] ∧ M2 = M1 := by
      rw [l_m_deer]
      refine wp_eI (m_isIn_eq _ _ _ _ _) ?_
      refine wp_bif (fun h => ?_) (fun h => ?_)
      · exact wp_ret ⟨rfl, rfl⟩
      have h := of_decide_eq_true h
      refine wp_eI (m_isIn_eq _ _ _ _ _) ?_
      refine wp_bif (fun h' => ?_) (fun h' => ?_)
      · exact wp_ret ⟨rfl, rfl⟩
      have h' := of_decide_eq_true h'
      rw [al158]
      refine wp_inb ⟨by omega, by omega⟩ ?_
      refine wp_pos (by omega) ?_
      exact wp_ret ⟨rfl, rfl⟩
    obtain ⟨r2, M2, e2, hr2, hM2⟩ := hm
    subst hr2 hM2
    exact ⟨-1, M2, M2, e1, e2, ⟨L, Lk, hI'⟩, ⟨rfl, rfl⟩, rfl, rfl⟩
/-! the tape -/
theorem Inv_tape {L Lk : aLaw} {M M' : aM} (hI : Inv L Lk M) (f : ∀ k, k ≠ 127 → k ≠ 128 → k ≠ 157 → k ≠ 165 → M' k = M k) (h : iTape M') (g : ∀ j, j ≠ 16 → M' 157 j = M 157 j) : Inv L Lk M' := by
  obtain ⟨h1, h2, h3, h4, h5, h6⟩ := hI
  exact ⟨iNow_ag h1 (f 158 (by omega) (by omega) (by omega) (by omega)) fun k _ _ _ => f k (by omega) (by omega) (by omega) (by omega),
    iKept_ag h2 (by rw [f 0 (by omega) (by omega) (by omega) (by omega)]) (g 5 (by omega)) (f 159 (by omega) (by omega) (by omega) (by omega)) fun k _ _ _ => f k (by omega) (by omega) (by omega) (by omega),
    iStat_ag h3 fun k _ => by rw [f k (by omega) (by omega) (by omega) (by omega)],
    iRing_ag h4 (f 94 (by omega) (by omega) (by omega) (by omega)) (g 4 (by omega)) (f 96 (by omega) (by omega) (by omega) (by omega)) (f 160 (by omega) (by omega) (by omega) (by omega)) (f 158 (by omega) (by omega) (by omega) (by omega)) fun k _ _ => f k (by omega) (by omega) (by omega) (by omega),
    h, iFault_ag h6 (f 132 (by omega) (by omega) (by omega) (by omega)) (g 23 (by omega)) (g 25 (by omega))⟩
theorem pr_end (d : Nat) (v : Int) : pr (w_x_end (d + 40) v) (w_m_end (d + 40) v) := by
  intro L Lk M hI
  have hI' := hI
  obtain ⟨-, -, -, -, ⟨n, a1, a2, a3, a4⟩, -⟩ := hI
  by_cases h : 0 ≤ v ∧ v ≤ n
  · refine ⟨1, aUp M 127 5 v, aUp (aUp M 127 5 v) 157 16 v, ?_, ?_, ?_, ⟨rfl, rfl⟩, rfl, rfl⟩
    · rw [u_x_end, if_neg (by omega), if_neg (by omega)]
    · rw [u_m_end, m_isIn_eq, bndI_s, aUp_N (show 157 ≠ 127 by decide), decide_eq_true (by omega), if_neg (by decide)]
    · refine ⟨L, Lk, Inv_tape hI' (fun k a b c e => by rw [aUp_N c, aUp_N a]) ⟨v.toNat, by omega, by simp [aUp_E]; omega, by simp [aUp_E]; omega, fun i hi => ?_⟩ (fun j hj => by simp [aUp_E, hj])⟩
      rw [aUp_N (show 128 ≠ 157 by decide), aUp_N (show 128 ≠ 127 by decide), aUp_N (show 165 ≠ 157 by decide), aUp_N (show 165 ≠ 127 by decide)]
      exact a4 i (by omega)
  · refine ⟨0, M, M, ?_, ?_, ⟨L, Lk, hI'⟩, ⟨rfl, rfl⟩, rfl, rfl⟩
    · rw [u_x_end]
      by_cases h0 : v < 0
      · rw [if_pos h0]
      · rw [if_neg h0, if_pos (by omega)]
    · rw [u_m_end, m_isIn_eq, bndI_s, decide_eq_false (by omega)]; rfl
