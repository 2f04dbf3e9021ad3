/-! A day in the reference. -/
theorem seg2_V {V V' : aW} : ∀ (l : List (Int × Int)) (p : Nat), (∀ k, 884 ≤ k → V' k = V k) → seg2 V p l → seg2 V' p l
  | [], _, _, _ => trivial
  | (s, v) :: l, p, h, hs => ⟨(h _ (by omega)).trans hs.1, (h _ (by omega)).trans hs.2.1, seg2_V l (p + 1) h hs.2.2⟩
theorem vLn_V {V V' : aW} (h : ∀ k, 884 ≤ k → V' k = V k) : ∀ (L : aLaw) (i : Nat), vLn V i L → vLn V' i L
  | [], _, _ => trivial
  | (w, E, B) :: L, i, hs => by
    obtain ⟨⟨p, v1, v2, v3, v4, v5, v6, v7⟩, hv⟩ := hs
    exact ⟨⟨p, (h _ (by omega)).trans v1, (h _ (by omega)).trans v2, (h _ (by omega)).trans v3, (h _ (by omega)).trans v4, v5, seg2_V E p h v6, seg2_V B _ h v7⟩, vLn_V h L (i + 1) hv⟩
theorem vLaw_V {V V' : aW} {L : aLaw} (hL : vLaw L V) (h : ∀ k, k = 44 ∨ 884 ≤ k → V' k = V k) : vLaw L V' :=
  ⟨(h 44 (Or.inl rfl)).trans hL.1, vLn_V (fun k hk => h k (Or.inr hk)) L 0 hL.2⟩
theorem al_V {V V' : aW} (h1 : V' 41 = V 41) (h2 : V' 10 = V 10) (i : Int) : al V' i = al V i := by unfold al; rw [h1, h2]
theorem come_V {V V' : aW} (L : aLaw) (d : Nat) (h : ∀ k, k < 44 ∨ 53 ≤ k ∧ k < 63 → k ≠ 7 → V' k = V k) (hd : d < 10) : come V' L d = come V L d ∧ long V' L d = long V L d ∧ shy V' L d = shy V L d := by
  have e : pF V' d = pF V d := by
    funext k
    unfold pF
    rw [h (53 + d) (by omega) (by omega), h (11 + d) (by omega) (by omega), h (21 + d) (by omega) (by omega), h (31 + d) (by omega) (by omega), h 4 (by omega) (by omega), h 5 (by omega) (by omega), h 6 (by omega) (by omega), h 0 (by omega) (by omega), h 1 (by omega) (by omega)]
  unfold come long shy
  rw [e, h (11 + d) (by omega) (by omega), h (21 + d) (by omega) (by omega), h 5 (by omega) (by omega)]
  exact ⟨rfl, rfl, rfl⟩
theorem comA_V {V V' : aW} (L : aLaw) (d : Nat) (h : ∀ k, k < 44 ∨ 53 ≤ k ∧ k < 63 → k ≠ 7 → V' k = V k) (hd : d < 10) : comA V' L d = comA V L d := by
  unfold comA
  rw [al_V (h 41 (by omega) (by omega)) (h 10 (by omega) (by omega)), (come_V L d h hd).1]
theorem sumC_V {V V' : aW} (L : aLaw) (h : ∀ k, k < 44 ∨ 53 ≤ k ∧ k < 63 → k ≠ 7 → V' k = V k) : ∀ d, d ≤ 10 → sumC V' L d = sumC V L d
  | 0, _ => rfl
  | d + 1, hd => by
    simp only [sumC]
    rw [sumC_V L h d (by omega), comA_V L d h (by omega)]
theorem drawC_V {V V' : aW} (L : aLaw) (x : Int) (h : ∀ k, k < 44 ∨ 53 ≤ k ∧ k < 63 → k ≠ 7 → V' k = V k) : ∀ f k, f + k ≤ 10 → drawC V' L x f k = drawC V L x f k
  | 0, _, _ => rfl
  | f + 1, k, hk => by
    simp only [drawC]
    rw [sumC_V L h (k + 1) (by omega), drawC_V L x h f (k + 1) (by omega)]
theorem dawn1_ne {V : aW} {k : Nat} (h : k ≠ 7) : dawn1 V k = V k := by
  unfold dawn1; split
  · exact vS_ne h
  · rfl
theorem m_plan_lp (d : Nat) (tr : Bool) (n45 : Nat) (Q : List aV → aM → Prop) : ∀ (f i : Nat) (V : aW) (M : aM), i + f = n45 → n45 ≤ 16 → V 45 = n45 → M 158 = V → M 157 26 = bI tr → 0 ≤ V 8 ∧ V 8 ≤ 150 → 0 ≤ V 41 ∧ V 41 ≤ 10 →
    (∀ M', M' 158 = pPlan tr f i V → fr [158] M M' → wp (w_m_aDay_2 (d + 4) n45 M') Q) → wp (w_m_aDay_2 (d + 4) i M) Q
  | 0, i, V, M, h, h16, h45, hV, ht, h8, h41, hQ => by
    rw [show i = n45 by omega]
    exact hQ M hV (fr_refl _ _)
  | f + 1, i, V, M, h, h16, h45, hV, ht, h8, h41, hQ => by
    rw [l_m_aDay_2]
    have e1 : w32 (63 + w32 (3 * (i : Int))) = ((63 + 3 * i : Nat) : Int) := by simp (disch := omega) only [w32_i]; omega
    rw [e1]
    (try simp (disch := omega) only [w32_i, tn_l, tn_n, tn_r, tn_s, tn_1, Nat.add_sub_cancel, Int.reduceToNat, Int.toNat_zero, Int.toNat_one, al3, al4, al5, al6, al8, al9, al11, al13, al15, al17, al19, al21, al23, al25, al27, al29, al30, al31, al95, al96, al128, al129, al130, al131, al134, al135, al137, al139, al140, al142, al143, al144, al145, al147, al148, al149, al151, al152, al153, al154, al155, al156, al158, al159, al160, al161, al162, al163, al164, al165, al166, al167, al168, al169, al170, al171, al172, al173, al174, al175, al176])
    refine wp_inb ⟨by omega, by omega⟩ ?_
    refine wp_pos (by rw [hV]; omega) ?_
    refine wp_inb ⟨by omega, by omega⟩ ?_
    refine wp_inb ⟨by omega, by omega⟩ ?_
    rw [hV]
    refine wp_if (fun hc => ?_) (fun hc => ?_)
    · refine wp_bV (m_does_eq _ tr V i M hV ht h8 (by omega) h41.1 h41.2) ?_
      rintro M1 ⟨w1, f1⟩
      refine wp_I ?_
      refine m_plan_lp d tr n45 Q f (i + 1) _ M1 (by omega) h16 (by rw [pDoes_ne h8 (by omega) (by omega) (by omega) (by omega), h45]) w1 (by rw [f1 _ (by simp), ht]) (pDoes_8 h8) (by rw [pDoes_ne h8 (by omega) (by omega) (by omega) (by omega)]; exact h41) ?_
      intro M' w' f'
      refine hQ M' ?_ (fr_tt f1 f')
      rw [w']
      simp only [pPlan]
      rw [if_pos hc]
    · refine wp_I ?_
      refine m_plan_lp d tr n45 Q f (i + 1) V M (by omega) h16 h45 hV ht h8 h41 ?_
      intro M' w' f'
      refine hQ M' ?_ f'
      rw [w']
      simp only [pPlan]
      rw [if_neg hc]
theorem m_draw_eq (d : Nat) (V : aW) (m : Int) (M : aM) (hV : M 158 = V) (hm : m ≠ 0) : wp (w_m_draw (d + 1) m M) fun r M' => r = [aI (drw V m)] ∧ M' 158 = vS V 7 (rnd (V 7)) ∧ fr [158] M M' := by
  rw [l_m_draw]
  (try simp (disch := omega) only [w32_i, tn_l, tn_n, tn_r, tn_s, tn_1, Nat.add_sub_cancel, Int.reduceToNat, Int.toNat_zero, Int.toNat_one, al3, al4, al5, al6, al8, al9, al11, al13, al15, al17, al19, al21, al23, al25, al27, al29, al30, al31, al95, al96, al128, al129, al130, al131, al134, al135, al137, al139, al140, al142, al143, al144, al145, al147, al148, al149, al151, al152, al153, al154, al155, al156, al158, al159, al160, al161, al162, al163, al164, al165, al166, al167, al168, al169, al170, al171, al172, al173, al174, al175, al176])
  refine wp_inb ⟨by omega, by omega⟩ ?_
  refine wp_inb ⟨by omega, by omega⟩ ?_
  refine wp_w fun M1 w1 f1 => ?_
  refine wp_inb ⟨by omega, by omega⟩ ?_
  refine wp_none hm ?_
  rw [hV] at w1
  refine wp_ret ⟨?_, w1, f1⟩
  rw [w1, vS_at]; rfl
theorem iushr8 (x : Int) : 0 ≤ iushr x 8 ∧ iushr x 8 < 16777216 := by
  rw [iushr_def]
  have e : ((Int32.ofInt 8).toUInt32 &&& Int32.toUInt32 31) = 8 := by decide
  rw [e]
  have h : ((Int32.ofInt x).toUInt32 >>> 8).toInt32.toBitVec.toNat < 16777216 := by
    show ((Int32.ofInt x).toUInt32 >>> 8).toNat < _
    rw [UInt32.toNat_shiftRight, show (8 : UInt32).toNat % 32 = 8 from rfl, Nat.shiftRight_eq_div_pow]
    have := UInt32.toNat_lt (Int32.ofInt x).toUInt32
    omega
  rw [i32_tn _ (by omega)]
  omega
theorem drw_in (V : aW) {m : Int} (h : 0 < m) (h2 : m < 2147483648) : 0 ≤ drw V m ∧ drw V m < m := by
  have := iushr8 (rnd (V 7))
  unfold drw
  rw [irem_nn (by omega) (by omega) h h2]
  exact ⟨Int.emod_nonneg _ (by omega), Int.emod_lt_of_pos _ h⟩
theorem m_dawns_36_eq (d : Nat) (tr : Bool) (V : aW) (L : aLaw) (n : Nat) (hn : V 41 = n) (h10 : n ≤ 10) (hL : vLaw L V) (hok : okLaw L) (M : aM) (hV : M 158 = V) (ht : M 157 26 = bI tr) :
    wp (w_m_dawns_36 (d + 7) M) fun r M' => r = [aI (if sumC V L 10 = 0 then -1 else if tr = true then drawC V L (drw V (sumC V L 10)) 10 0 else bestC V L 10)] ∧ M' 158 = (if sumC V L 10 = 0 then V else if tr = true then vS V 7 (rnd (V 7)) else V) ∧ fr [158, 166, 167] M M' := by
  rw [l_m_dawns_36]
  refine wp_fI (m_sumOfCome_eq _ V L n hn h10 hL hok M hV) fun M1 f1 => ?_
  rw [← sumC_hi L hn 10 h10]
  have w1 : M1 158 = V := by rw [f1 _ (by simp), hV]
  refine wp_if (fun h => ?_) (fun h => ?_)
  · rw [if_pos h, if_pos h]
    exact wp_ret ⟨rfl, w1, fr_w f1 (by simp)⟩
  · rw [if_neg h, if_neg h, f1 157 (by simp), ht]
    cases tr with
    | false =>
      refine wp_pos rfl ?_
      refine wp_fI (m_likeliestOne_eq _ V L n hn h10 hL hok M1 w1) fun M2 f2 => ?_
      refine wp_ret ⟨?_, by rw [f2 _ (by simp), w1]; simp, fr_tr f1 f2 (by simp) (by simp)⟩
      rw [← bestC_hi L hn 10 h10]; simp
    | true =>
      refine wp_neg (by decide) ?_
      have hs := sumC_in V L 10
      refine wp_bI (P := fun v M' => v = drw V (sumC V L 10) ∧ M' 158 = vS V 7 (rnd (V 7)) ∧ fr [158] M1 M') (wp_mono (m_draw_eq _ V (sumC V L 10) M1 w1 h) ?_) ?_
      · rintro r M' ⟨e, w, f⟩; exact ⟨_, e, rfl, w, f⟩
      · rintro v M2 ⟨e, w2, f2⟩
        have hd : ∀ k, k < 44 ∨ 53 ≤ k ∧ k < 63 → k ≠ 7 → vS V 7 (rnd (V 7)) k = V k := fun k _ hk => vS_ne hk
        refine wp_fI (m_byDraw_eq _ (vS V 7 (rnd (V 7))) L n v (by rw [vS_ne (by omega), hn]) h10 (vLaw_V hL fun k hk => vS_ne (by omega)) hok M2 w2) fun M3 f3 => ?_
        refine wp_ret ⟨?_, by rw [f3 _ (by simp), w2]; simp, fr_tr f1 (fr_tr f2 f3 (l := [158, 166, 167]) (by simp) (by simp)) (by simp) (by simp)⟩
        have hz : drw V (sumC V L 10) = drw V (sumC V L 10) := rfl
        rw [drawC_V L v hd n 0 (by omega), e]
        have hx := (drw_in V (m := sumC V L 10) (by omega) (by omega)).1
        have := drawC_10 L hn (drw V (sumC V L 10)) n 0 (10 - n) (by omega) (by simpa [sumC] using hx)
        rw [← this, show n + (10 - n) = 10 by omega]
        simp
theorem pDawn_1 (tr : Bool) (V : aW) (L : aLaw) : ∀ k, k ≠ 7 → (pDawn tr V L).1 k = V k := by
  intro k hk
  unfold pDawn
  repeat' split
  all_goals first | exact dawn1_ne hk | rfl | (simp only; rw [vS_ne hk]; exact dawn1_ne hk)
theorem pDawn_2 (tr : Bool) (V : aW) (L : aLaw) (n : Nat) (hn : V 41 = n) (h10 : n ≤ 10) : (pDawn tr V L).2 = -1 ∨ ∃ j : Nat, j < n ∧ (pDawn tr V L).2 = j := by
  have hd : ∀ (x : Int) (f k : Nat), 0 ≤ x → sumC V L k ≤ x → drawC V L x f k = -1 ∨ ∃ j : Nat, j < n ∧ drawC V L x f k = j := by
    intro x f
    induction f with
    | zero => intro k _ _; exact Or.inl rfl
    | succ f ih =>
      intro k hx hs
      simp only [drawC]
      split
      · next h =>
        refine Or.inr ⟨k, ?_, rfl⟩
        refine Nat.lt_of_not_le fun hk => ?_
        rw [sumC_hi L hn k hk] at hs
        rw [sumC_hi L hn (k + 1) (by omega)] at h
        omega
      · next h => exact ih (k + 1) hx (by omega)
  unfold pDawn
  split
  · split
    · exact Or.inl rfl
    · split
      · exact Or.inl rfl
      · next h =>
        have hs := sumC_in V L 10
        have hx := (drw_in (dawn1 V) (m := sumC V L 10) (by omega) (by omega)).1
        exact hd _ 10 0 hx (by simpa [sumC] using hx)
  · simp only
    split
    · exact Or.inl rfl
    · rw [bestC_hi L hn 10 h10]
      rcases bestC_in V L n with h | ⟨j, h1, h2, -⟩
      · exact Or.inl h
      · exact Or.inr ⟨j, h1, h2⟩
theorem m_dawns_eq (d : Nat) (tr : Bool) (V : aW) (L : aLaw) (n : Nat) (hn : V 41 = n) (h10 : n ≤ 10) (hL : vLaw L V) (hok : okLaw L) (M : aM) (hV : M 158 = V) (ht : M 157 26 = bI tr) :
    wp (w_m_dawns (d + 8) M) fun r M' => r = [aI (pDawn tr V L).2] ∧ M' 158 = (pDawn tr V L).1 ∧ fr [158, 166, 167] M M' := by
  rw [l_m_dawns]
  (try simp (disch := omega) only [w32_i, tn_l, tn_n, tn_r, tn_s, tn_1, Nat.add_sub_cancel, Int.reduceToNat, Int.toNat_zero, Int.toNat_one, al3, al4, al5, al6, al8, al9, al11, al13, al15, al17, al19, al21, al23, al25, al27, al29, al30, al31, al95, al96, al128, al129, al130, al131, al134, al135, al137, al139, al140, al142, al143, al144, al145, al147, al148, al149, al151, al152, al153, al154, al155, al156, al158, al159, al160, al161, al162, al163, al164, al165, al166, al167, al168, al169, al170, al171, al172, al173, al174, al175, al176])
  rw [ht]
  cases tr with
  | false =>
    refine wp_pos rfl ?_
    refine wp_mono (m_dawns_36_eq _ false V L n hn h10 hL hok M hV ht) ?_
    rintro r M' ⟨e, w, f⟩
    refine ⟨by rw [e]; simp [pDawn], by rw [w]; simp [pDawn], f⟩
  | true =>
    have hd1 : ∀ k, k < 44 ∨ 53 ≤ k ∧ k < 63 → k ≠ 7 → vS V 7 (rnd (V 7)) k = V k := fun k _ hk => vS_ne hk
    refine wp_neg (by decide) ?_
    refine wp_inb ⟨by omega, by omega⟩ ?_
    rw [hV]
    refine wp_if (fun hm => ?_) (fun hm => ?_)
    · refine wp_bI (P := fun v M' => v = drw V 1000 ∧ M' 158 = vS V 7 (rnd (V 7)) ∧ fr [158] M M') (wp_mono (m_draw_eq _ V 1000 M hV (by decide)) ?_) ?_
      · rintro r M' ⟨e, w, f⟩; exact ⟨_, e, rfl, w, f⟩
      · rintro v M1 ⟨e, w1, f1⟩
        subst e
        refine wp_inb ⟨by omega, by omega⟩ ?_
        rw [w1, vS_ne (by omega)]
        refine wp_if (fun hv => ?_) (fun hv => ?_)
        · exact wp_ret ⟨by simp [pDawn, hm, hv], by rw [w1]; simp [pDawn, hm, hv, dawn1], fr_w f1 (by simp)⟩
        · refine wp_mono (m_dawns_36_eq _ true _ L n (by rw [vS_ne (by omega), hn]) h10 (vLaw_V hL fun k hk => vS_ne (by omega)) hok M1 w1 (by rw [f1 _ (by simp), ht])) ?_
          rintro r M' ⟨e, w, f⟩
          rw [sumC_V L hd1 10 (by omega)] at e w
          rw [drawC_V L _ hd1 10 0 (by omega)] at e
          refine ⟨?_, ?_, fr_tr f1 f (by simp) (by simp)⟩
          · rw [e]
            simp only [pDawn, hm, hv, dawn1, if_true, and_false, if_false]
            split <;> rfl
          · rw [w]
            simp only [pDawn, hm, hv, dawn1, if_true, and_false, if_false]
            split <;> rfl
    · refine wp_mono (m_dawns_36_eq _ true V L n hn h10 hL hok M hV ht) ?_
      rintro r M' ⟨e, w, f⟩
      refine ⟨?_, ?_, f⟩
      · rw [e]
        simp only [pDawn, hm, dawn1, if_true, false_and, if_false]
        split <;> rfl
      · rw [w]
        simp only [pDawn, hm, dawn1, if_true, false_and, if_false]
        split <;> rfl
/-! those who wait, and the one who comes -/
noncomputable def pS (V : aW) (who : Int) (i : Nat) : aW := fun k => if 21 ≤ k ∧ k < 21 + i ∧ ((k - 21 : Nat) : Int) ≠ who ∧ al V ((k - 21 : Nat) : Int) = true then imin 999 (w32 (V k + 1)) else V k
theorem pS_s (V : aW) (who : Int) (i : Nat) : pS V who (i + 1) = if (i : Int) ≠ who ∧ al V i = true then vS (pS V who i) (21 + i) (imin 999 (w32 (V (21 + i) + 1))) else pS V who i := by
  funext k
  by_cases hk : k = 21 + i
  · subst hk
    have e : 21 + i - 21 = i := by omega
    split
    · next h => rw [vS_at]; simp only [pS, e]; rw [if_pos ⟨by omega, by omega, h.1, h.2⟩]
    · next h =>
      simp only [pS, e]
      rw [if_neg fun hh => h ⟨hh.2.2.1, hh.2.2.2⟩, if_neg fun hh => by omega]
  · have e : (21 ≤ k ∧ k < 21 + (i + 1) ∧ ((k - 21 : Nat) : Int) ≠ who ∧ al V ((k - 21 : Nat) : Int) = true) ↔ (21 ≤ k ∧ k < 21 + i ∧ ((k - 21 : Nat) : Int) ≠ who ∧ al V ((k - 21 : Nat) : Int) = true) := ⟨fun h => ⟨h.1, by omega, h.2.2⟩, fun h => ⟨h.1, by omega, h.2.2⟩⟩
    split
    · rw [vS_ne hk]; simp only [pS, e]
    · simp only [pS, e]
theorem pS_ne {V : aW} {who : Int} {i k : Nat} (h : k < 21 ∨ 21 + i ≤ k) : pS V who i k = V k := if_neg fun hh => by omega
theorem m_comes_lp (d : Nat) (V : aW) (who s : Int) (n : Nat) (Q : List aV → aM → Prop) (hn : V 41 = n) (h10 : n ≤ 10) : ∀ (f i : Nat) (M : aM), i + f = n → M 158 = pS V who i →
    (∀ M', M' 158 = pS V who n → fr [158] M M' → wp (w_m_comes_66 (d + 3) who s n M') Q) → wp (w_m_comes_66 (d + 3) who s i M) Q
  | 0, i, M, h, hV, hQ => by
    rw [show i = n by omega] at hV ⊢
    exact hQ M hV (fr_refl _ _)
  | f + 1, i, M, h, hV, hQ => by
    rw [l_m_comes_66]
    (try simp (disch := omega) only [w32_i, tn_l, tn_n, tn_r, tn_s, tn_1, Nat.add_sub_cancel, Int.reduceToNat, Int.toNat_zero, Int.toNat_one, al3, al4, al5, al6, al8, al9, al11, al13, al15, al17, al19, al21, al23, al25, al27, al29, al30, al31, al95, al96, al128, al129, al130, al131, al134, al135, al137, al139, al140, al142, al143, al144, al145, al147, al148, al149, al151, al152, al153, al154, al155, al156, al158, al159, al160, al161, al162, al163, al164, al165, al166, al167, al168, al169, al170, al171, al172, al173, al174, al175, al176])
    refine wp_inb ⟨by omega, by omega⟩ ?_
    have e41 : M 158 41 = n := by rw [hV, pS_ne (by omega), hn]
    have hal : al (M 158) i = al V i := by rw [hV]; exact al_V (pS_ne (by omega)) (pS_ne (by omega)) i
    refine wp_pos (by omega) ?_
    have next : ∀ M1, M1 158 = pS V who (i + 1) → fr [158] M M1 → wp (w_m_comes_66 (d + 3) who s ((i : Int) + 1) M1) Q := by
      intro M1 w1 f1
      exact m_comes_lp d V who s n Q hn h10 f (i + 1) M1 (by omega) w1 fun M' w' f' => hQ M' w' (fr_tt f1 f')
    refine wp_if (fun hw => ?_) (fun hw => ?_)
    · refine wp_I ?_
      exact next M (by rw [hV, pS_s, if_neg fun h => h.1 hw]) (fr_refl _ _)
    · refine wp_eI (m_isAlive_eq _ _ M (by omega) (by omega)) ?_
      rw [hal]
      cases ha : al V i with
      | false =>
        refine wp_pos rfl ?_
        refine wp_I ?_
        exact next M (by rw [hV, pS_s, if_neg fun h => by simp [ha] at h]) (fr_refl _ _)
      | true =>
        refine wp_neg (by decide) ?_
        refine wp_inb ⟨by omega, by omega⟩ ?_
        refine wp_eI (m_lesser_eq _ _ _ _) ?_
        refine wp_inb ⟨by omega, by omega⟩ ?_
        rw [hV, pS_ne (show 21 + i < 21 ∨ 21 + i ≤ 21 + i by omega)]
        refine wp_w fun M1 w1 f1 => ?_
        refine wp_I ?_
        exact next M1 (by rw [w1, hV, pS_s, if_pos ⟨hw, ha⟩]) f1
theorem pB_mist (W : aW) (n : Nat) (hn : W 41 = n) (h10 : n ≤ 10) : pS (vS (vS W 1 (-1)) 3 (w32 (W 3 + 5))) (-1) n = pB W (-1) 5 0 := by
  funext k
  have hal : ∀ j : Int, al (vS (vS W 1 (-1)) 3 (w32 (W 3 + 5))) j = al W j := fun j => al_V (by simp [vS_eq]) (by simp [vS_eq]) j
  simp only [pS, pB, hal]
  have hne : ∀ x : Nat, ¬ ((x : Nat) : Int) = -1 := fun x => by omega
  by_cases h1 : k = 1
  · subst h1; simp [vS_eq]
  by_cases h3 : k = 3
  · subst h3; simp [vS_eq]
  simp only [vS_ne h1, vS_ne h3, h1, h3, if_false]
  by_cases h21 : 21 ≤ k ∧ k < 31
  · rw [if_pos h21, if_neg (hne _)]
    cases ha : al W ((k - 21 : Nat) : Int) with
    | true =>
      have := al_lt ha
      rw [if_pos (show 21 ≤ k ∧ k < 21 + n ∧ ((k - 21 : Nat) : Int) ≠ -1 ∧ true = true from ⟨h21.1, by omega, by omega, rfl⟩)]
      simp
    | false => simp
  · rw [if_neg h21, if_neg (show ¬ (21 ≤ k ∧ k < 21 + n ∧ ((k - 21 : Nat) : Int) ≠ -1 ∧ al W ((k - 21 : Nat) : Int) = true) by omega)]
    simp only [hne, if_false]
    simp
theorem pB_who (W : aW) (n j : Nat) (h s : Int) (hn : W 41 = n) (h10 : n ≤ 10) (hj : j < n) :
    (let P := pS (vS (vS W 1 j) 3 (w32 (W 3 + h))) j n; vS (vS (vS P (21 + j) 0) (31 + j) (w32 (P (31 + j) + 1))) (11 + j) (imax 0 (w32 (P (11 + j) - s)))) = pB W j h s := by
  funext k
  have hal : ∀ i : Int, al (vS (vS W 1 j) 3 (w32 (W 3 + h))) i = al W i := fun i => al_V (by simp [vS_eq]) (by simp [vS_eq]) i
  show vS (vS (vS (pS (vS (vS W 1 j) 3 (w32 (W 3 + h))) j n) (21 + j) 0) (31 + j) (w32 (pS (vS (vS W 1 j) 3 (w32 (W 3 + h))) j n (31 + j) + 1))) (11 + j) (imax 0 (w32 (pS (vS (vS W 1 j) 3 (w32 (W 3 + h))) j n (11 + j) - s))) k = _
  rw [pS_ne (show 31 + j < 21 ∨ 21 + n ≤ 31 + j by omega), pS_ne (show 11 + j < 21 ∨ 21 + n ≤ 11 + j by omega)]
  rw [vS_ne (show 31 + j ≠ 3 by omega), vS_ne (show 31 + j ≠ 1 by omega), vS_ne (show 11 + j ≠ 3 by omega), vS_ne (show 11 + j ≠ 1 by omega)]
  by_cases k1 : k = 11 + j
  · subst k1
    rw [vS_at]
    unfold pB
    rw [if_neg (by omega), if_neg (by omega), if_neg (by omega), if_neg (by omega), if_pos (by omega), if_pos (by omega)]
  rw [vS_ne k1]
  by_cases k2 : k = 31 + j
  · subst k2
    rw [vS_at]
    unfold pB
    rw [if_neg (by omega), if_neg (by omega), if_neg (by omega), if_pos (by omega), if_pos (by omega)]
  rw [vS_ne k2]
  by_cases k3 : k = 21 + j
  · subst k3
    rw [vS_at]
    unfold pB
    rw [if_neg (by omega), if_neg (by omega), if_pos (by omega), if_pos (by omega)]
  rw [vS_ne k3]
  by_cases h1 : k = 1
  · subst h1; simp [pB, vS_eq, pS]
  by_cases h3 : k = 3
  · subst h3; simp [pB, vS_eq, pS]
  simp only [pS, pB, hal, vS_ne h1, vS_ne h3, h1, h3, if_false]
  by_cases h21 : 21 ≤ k ∧ k < 31
  · have hne : ((k - 21 : Nat) : Int) ≠ j := by omega
    rw [if_pos h21, if_neg hne]
    cases ha : al W ((k - 21 : Nat) : Int) with
    | true =>
      have := al_lt ha
      rw [if_pos (show 21 ≤ k ∧ k < 21 + n ∧ ((k - 21 : Nat) : Int) ≠ j ∧ true = true from ⟨h21.1, by omega, hne, rfl⟩)]
      simp
    | false => simp
  · rw [if_neg h21, if_neg (show ¬ (21 ≤ k ∧ k < 21 + n ∧ ((k - 21 : Nat) : Int) ≠ j ∧ al W ((k - 21 : Nat) : Int) = true) by omega)]
    split
    · rw [if_neg (by omega)]
    · split
      · rw [if_neg (by omega)]
      · rfl
theorem pNote_13 (tr : Bool) (V : aW) (u v x y z : Int) (h8 : 0 ≤ V 8 ∧ V 8 ≤ 150) : pNote tr (vS (vS V 1 u) 3 v) x y z = vS (vS (pNote tr V x y z) 1 u) 3 v := by
  unfold pNote
  have e8 : vS (vS V 1 u) 3 v 8 = V 8 := by rw [vS_ne (by omega), vS_ne (by omega)]
  have e0 : vS (vS V 1 u) 3 v 0 = V 0 := by rw [vS_ne (by omega), vS_ne (by omega)]
  rw [e8, e0]
  split
  · funext k
    simp only [vS_eq]
    by_cases k1 : k = 1
    · subst k1; simp; omega
    · by_cases k3 : k = 3
      · subst k3; simp; omega
      · simp [k1, k3]
  · rfl
theorem m_comes_eq (d : Nat) (tr : Bool) (V : aW) (L : aLaw) (n : Nat) (who : Int) (hn : V 41 = n) (h10 : n ≤ 10) (h8 : 0 ≤ V 8 ∧ V 8 ≤ 150) (hw : who = -1 ∨ ∃ j : Nat, j < n ∧ who = j) (hL : vLaw L V) (hok : okLaw L) (M : aM) (hV : M 158 = V) (ht : M 157 26 = bI tr) :
    wp (w_m_comes (d + 7) who M) fun r M' => r = [] ∧ M' 158 = pComes tr V L who ∧ fr [158, 166, 167] M M' := by
  rw [l_m_comes]
  (try simp (disch := omega) only [w32_i, tn_l, tn_n, tn_r, tn_s, tn_1, Nat.add_sub_cancel, Int.reduceToNat, Int.toNat_zero, Int.toNat_one, al3, al4, al5, al6, al8, al9, al11, al13, al15, al17, al19, al21, al23, al25, al27, al29, al30, al31, al95, al96, al128, al129, al130, al131, al134, al135, al137, al139, al140, al142, al143, al144, al145, al147, al148, al149, al151, al152, al153, al154, al155, al156, al158, al159, al160, al161, al162, al163, al164, al165, al166, al167, al168, al169, al170, al171, al172, al173, al174, al175, al176])
  rcases hw with rfl | ⟨j, hj, rfl⟩
  · refine wp_pos rfl ?_
    refine wp_pos rfl ?_
    refine wp_inb ⟨by omega, by omega⟩ ?_
    refine wp_w fun M1 w1 f1 => ?_
    refine wp_inb ⟨by omega, by omega⟩ ?_
    refine wp_inb ⟨by omega, by omega⟩ ?_
    refine wp_w fun M2 w2 f2 => ?_
    refine wp_pos rfl ?_
    rw [w1, vS_ne (by omega), hV] at w2
    refine wp_bV (m_notes_eq _ tr _ 1 (-1) 5 M2 w2 (by rw [f2 _ (by simp), f1 _ (by simp), ht]) (by rw [vS_ne (by omega), vS_ne (by omega)]; exact h8)) ?_
    rintro M3 ⟨w3, f3⟩
    rw [pNote_13 _ _ _ _ _ _ _ h8] at w3
    have e41 : pNote tr V 1 (-1) 5 41 = n := by rw [pNote_ne h8 (by omega) (by omega), hn]
    have e3 : pNote tr V 1 (-1) 5 3 = V 3 := pNote_ne h8 (by omega) (by omega)
    rw [← e3] at w3
    refine m_comes_lp _ (vS (vS (pNote tr V 1 (-1) 5) 1 (-1)) 3 (w32 (pNote tr V 1 (-1) 5 3 + 5))) (-1) 0 n _ (by rw [vS_ne (by omega), vS_ne (by omega), e41]) h10 n 0 M3 (by omega) (by rw [w3]; funext k; simp only [pS]; rw [if_neg (by omega)]) ?_
    intro M4 w4 f4
    rw [pB_mist _ n e41 h10] at w4
    rw [l_m_comes_66]
    (try simp (disch := omega) only [w32_i, tn_l, tn_n, tn_r, tn_s, tn_1, Nat.add_sub_cancel, Int.reduceToNat, Int.toNat_zero, Int.toNat_one, al3, al4, al5, al6, al8, al9, al11, al13, al15, al17, al19, al21, al23, al25, al27, al29, al30, al31, al95, al96, al128, al129, al130, al131, al134, al135, al137, al139, al140, al142, al143, al144, al145, al147, al148, al149, al151, al152, al153, al154, al155, al156, al158, al159, al160, al161, al162, al163, al164, al165, al166, al167, al168, al169, al170, al171, al172, al173, al174, al175, al176])
    refine wp_inb ⟨by omega, by omega⟩ ?_
    refine wp_neg (by rw [w4]; simp [pB, e41]) ?_
    refine wp_pos trivial ?_
    refine wp_ret ⟨rfl, by rw [w4]; simp [pComes], fr_w (fr_tt f1 (fr_tt f2 (fr_tt f3 f4))) (by simp)⟩
  · refine wp_neg (by omega) ?_
    refine wp_fI (m_longOf_eq _ V L j M hV (by omega) hL hok) fun Ma fa => ?_
    refine wp_neg (by omega) ?_
    have wa : Ma 158 = V := by rw [fa _ (by simp), hV]
    refine wp_fI (m_shyOf_eq _ V L j Ma wa (by omega) hL hok) fun Mb fb => ?_
    have wb : Mb 158 = V := by rw [fb _ (by simp), wa]
    refine wp_inb ⟨by omega, by omega⟩ ?_
    refine wp_w fun M1 w1 f1 => ?_
    refine wp_inb ⟨by omega, by omega⟩ ?_
    refine wp_inb ⟨by omega, by omega⟩ ?_
    refine wp_w fun M2 w2 f2 => ?_
    refine wp_neg (by omega) ?_
    rw [w1, vS_ne (by omega), wb] at w2
    refine wp_bV (m_notes_eq _ tr _ 0 j (long V L j) M2 w2 (by rw [f2 _ (by simp), f1 _ (by simp), fb _ (by simp), fa _ (by simp), ht]) (by rw [vS_ne (by omega), vS_ne (by omega)]; exact h8)) ?_
    rintro M3 ⟨w3, f3⟩
    rw [pNote_13 _ _ _ _ _ _ _ h8] at w3
    have e41 : pNote tr V 0 j (long V L j) 41 = n := by rw [pNote_ne h8 (by omega) (by omega), hn]
    have e3 : pNote tr V 0 j (long V L j) 3 = V 3 := pNote_ne h8 (by omega) (by omega)
    rw [← e3] at w3
    refine m_comes_lp _ (vS (vS (pNote tr V 0 j (long V L j)) 1 j) 3 (w32 (pNote tr V 0 j (long V L j) 3 + long V L j))) j (shy V L j) n _ (by rw [vS_ne (by omega), vS_ne (by omega), e41]) h10 n 0 M3 (by omega) (by rw [w3]; funext k; simp only [pS]; rw [if_neg (by omega)]) ?_
    intro M4 w4 f4
    have hb := pB_who (pNote tr V 0 j (long V L j)) n j (long V L j) (shy V L j) e41 h10 hj
    rw [l_m_comes_66]
    (try simp (disch := omega) only [w32_i, tn_l, tn_n, tn_r, tn_s, tn_1, Nat.add_sub_cancel, Int.reduceToNat, Int.toNat_zero, Int.toNat_one, al3, al4, al5, al6, al8, al9, al11, al13, al15, al17, al19, al21, al23, al25, al27, al29, al30, al31, al95, al96, al128, al129, al130, al131, al134, al135, al137, al139, al140, al142, al143, al144, al145, al147, al148, al149, al151, al152, al153, al154, al155, al156, al158, al159, al160, al161, al162, al163, al164, al165, al166, al167, al168, al169, al170, al171, al172, al173, al174, al175, al176])
    refine wp_inb ⟨by omega, by omega⟩ ?_
    refine wp_neg (by rw [w4, pS_ne (by omega), vS_ne (by omega), vS_ne (by omega), e41]; omega) ?_
    refine wp_neg (by omega) ?_
    refine wp_inb ⟨by omega, by omega⟩ ?_
    refine wp_w fun M5 w5 f5 => ?_
    refine wp_inb ⟨by omega, by omega⟩ ?_
    refine wp_inb ⟨by omega, by omega⟩ ?_
    refine wp_w fun M6 w6 f6 => ?_
    refine wp_inb ⟨by omega, by omega⟩ ?_
    refine wp_eI (m_greater_eq _ _ _ _) ?_
    refine wp_inb ⟨by omega, by omega⟩ ?_
    refine wp_w fun M7 w7 f7 => ?_
    refine wp_ret ⟨rfl, ?_, fr_tr (fr_tt fa fb) (fr_tt f1 (fr_tt f2 (fr_tt f3 (fr_tt f4 (fr_tt f5 (fr_tt f6 f7)))))) (by simp) (by simp)⟩
    rw [w7, w6, w5, w4]
    simp only [pComes]
    rw [if_neg (by omega), tn_n, ← hb]
    simp only
    rw [vS_ne (show 31 + j ≠ 21 + j by omega), vS_ne (show 11 + j ≠ 31 + j by omega), vS_ne (show 11 + j ≠ 21 + j by omega)]
