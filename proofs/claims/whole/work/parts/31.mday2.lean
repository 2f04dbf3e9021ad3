/-! Dues, wolves, and the whole day in the reference. -/
theorem pPay_ne {tr : Bool} {V : aW} {i k : Nat} (h8 : 0 ≤ V 8 ∧ V 8 ≤ 150) (hk : k ≠ 8) (hk3 : k ≠ 9 ∧ k ≠ 2) (hk2 : k < 284 ∨ 884 ≤ k) : pPay tr V i k = V k := by
  unfold pPay
  split
  · rfl
  · rw [pNote_ne (by rw [vS_ne (by omega), vS_ne (by omega)]; exact h8) hk hk2, vS_ne hk3.2, vS_ne hk3.1]
theorem pPay_8 {tr : Bool} {V : aW} {i : Nat} (h8 : 0 ≤ V 8 ∧ V 8 ≤ 150) : 0 ≤ pPay tr V i 8 ∧ pPay tr V i 8 ≤ 150 := by
  unfold pPay
  split
  · exact h8
  · exact pNote_8 (by rw [vS_ne (by omega), vS_ne (by omega)]; exact h8)
theorem m_pays_lp (d : Nat) (tr : Bool) (n46 : Nat) : ∀ (f i : Nat) (V : aW) (M : aM), i + f = n46 → n46 ≤ 16 → V 46 = n46 → M 158 = V → M 157 26 = bI tr → 0 ≤ V 8 ∧ V 8 ≤ 150 →
    wp (w_m_pays_2 (d + 1) i M) fun r M' => r = [] ∧ M' 158 = pPays tr f i V ∧ fr [158] M M'
  | 0, i, V, M, h, h16, h46, hV, ht, h8 => by
    rw [l_m_pays_2]
    (try simp (disch := omega) only [w32_i, tn_l, tn_n, tn_r, tn_s, tn_1, Nat.add_sub_cancel, Int.reduceToNat, Int.toNat_zero, Int.toNat_one, al3, al4, al5, al6, al8, al9, al11, al13, al15, al17, al19, al21, al23, al25, al27, al29, al30, al31, al95, al96, al128, al129, al130, al131, al134, al135, al137, al139, al140, al142, al143, al144, al145, al147, al148, al149, al151, al152, al153, al154, al155, al156, al158, al159, al160, al161, al162, al163, al164, al165, al166, al167, al168, al169, al170, al171, al172, al173, al174, al175, al176])
    refine wp_inb ⟨by omega, by omega⟩ ?_
    refine wp_neg (by rw [hV]; omega) ?_
    exact wp_ret ⟨rfl, hV, fr_refl _ _⟩
  | f + 1, i, V, M, h, h16, h46, hV, ht, h8 => by
    rw [l_m_pays_2]
    have e1 : w32 (111 + w32 (3 * (i : Int))) = ((111 + 3 * i : Nat) : Int) := by simp (disch := omega) only [w32_i]; omega
    have e2 : w32 (((111 + 3 * i : Nat) : Int) + 1) = ((112 + 3 * i : Nat) : Int) := by simp (disch := omega) only [w32_i]; omega
    have e3 : w32 (((111 + 3 * i : Nat) : Int) + 2) = ((113 + 3 * i : Nat) : Int) := by simp (disch := omega) only [w32_i]; omega
    rw [e1]
    (try simp (disch := omega) only [w32_i, tn_l, tn_n, tn_r, tn_s, tn_1, Nat.add_sub_cancel, Int.reduceToNat, Int.toNat_zero, Int.toNat_one, al3, al4, al5, al6, al8, al9, al11, al13, al15, al17, al19, al21, al23, al25, al27, al29, al30, al31, al95, al96, al128, al129, al130, al131, al134, al135, al137, al139, al140, al142, al143, al144, al145, al147, al148, al149, al151, al152, al153, al154, al155, al156, al158, al159, al160, al161, al162, al163, al164, al165, al166, al167, al168, al169, al170, al171, al172, al173, al174, al175, al176])
    refine wp_inb ⟨by omega, by omega⟩ ?_
    refine wp_pos (by rw [hV]; omega) ?_
    refine wp_I ?_
    rw [e2, e3]
    (try simp (disch := omega) only [w32_i, tn_l, tn_n, tn_r, tn_s, tn_1, Nat.add_sub_cancel, Int.reduceToNat, Int.toNat_zero, Int.toNat_one, al3, al4, al5, al6, al8, al9, al11, al13, al15, al17, al19, al21, al23, al25, al27, al29, al30, al31, al95, al96, al128, al129, al130, al131, al134, al135, al137, al139, al140, al142, al143, al144, al145, al147, al148, al149, al151, al152, al153, al154, al155, al156, al158, al159, al160, al161, al162, al163, al164, al165, al166, al167, al168, al169, al170, al171, al172, al173, al174, al175, al176])
    refine wp_inb ⟨by omega, by omega⟩ ?_
    rw [hV]
    have next : ∀ M1, M1 158 = pPay tr V i → fr [158] M M1 → wp (w_m_pays_2 (d + 1) ((i : Int) + 1) M1) fun r M' => r = [] ∧ M' 158 = pPays tr (f + 1) i V ∧ fr [158] M M' := by
      intro M1 w1 f1
      have ih := m_pays_lp d tr n46 f (i + 1) _ M1 (by omega) h16 (by rw [pPay_ne h8 (by omega) (by omega) (by omega), h46]) w1 (by rw [f1 _ (by simp), ht]) (pPay_8 h8)
      exact wp_mono ih fun r M' h => ⟨h.1, h.2.1, fr_tt f1 h.2.2⟩
    refine wp_if (fun h1 => ?_) (fun h1 => ?_)
    · refine wp_I ?_
      exact next M (by rw [hV]; unfold pPay; rw [if_pos (Or.inl h1)]) (fr_refl _ _)
    refine wp_inb ⟨by omega, by omega⟩ ?_
    refine wp_if (fun h2 => ?_) (fun h2 => ?_)
    · refine wp_I ?_
      exact next M (by rw [hV]; unfold pPay; rw [if_pos (Or.inr (Or.inl h2))]) (fr_refl _ _)
    refine wp_inb ⟨by omega, by omega⟩ ?_
    refine wp_inb ⟨by omega, by omega⟩ ?_
    refine wp_if (fun h3 => ?_) (fun h3 => ?_)
    · refine wp_inb ⟨by omega, by omega⟩ ?_
      refine wp_inb ⟨by omega, by omega⟩ ?_
      refine wp_if (fun h4 => ?_) (fun h4 => ?_)
      · refine wp_inb ⟨by omega, by omega⟩ ?_
        refine wp_inb ⟨by omega, by omega⟩ ?_
        refine wp_w fun M1 w1 f1 => ?_
        refine wp_inb ⟨by omega, by omega⟩ ?_
        refine wp_inb ⟨by omega, by omega⟩ ?_
        refine wp_inb ⟨by omega, by omega⟩ ?_
        refine wp_w fun M2 w2 f2 => ?_
        refine wp_inb ⟨by omega, by omega⟩ ?_
        rw [hV] at w1
        rw [w1, vS_ne (show 2 ≠ 9 by omega), vS_ne (show 111 + 3 * i ≠ 9 by omega)] at w2
        rw [w2, vS_ne (show 111 + 3 * i ≠ 2 by omega), vS_ne (show 111 + 3 * i ≠ 9 by omega)]
        refine wp_bV (m_notes_eq _ tr _ 2 i _ M2 w2 (by rw [f2 _ (by simp), f1 _ (by simp), ht]) (by rw [vS_ne (by omega), vS_ne (by omega)]; exact h8)) ?_
        rintro M3 ⟨w3, f3⟩
        refine wp_I ?_
        refine next M3 ?_ (fr_tt f1 (fr_tt f2 f3))
        rw [w3]
        unfold pPay
        rw [if_neg (by omega)]
      · refine wp_I ?_
        exact next M (by rw [hV]; unfold pPay; rw [if_pos (by omega)]) (fr_refl _ _)
    · refine wp_I ?_
      exact next M (by rw [hV]; unfold pPay; rw [if_pos (by omega)]) (fr_refl _ _)
theorem lcC_in (V : aW) : ∀ k, lcC V k = -1 ∨ ∃ j : Nat, j < k ∧ lcC V k = j ∧ al V j = true
  | 0 => Or.inl rfl
  | k + 1 => by
    simp only [lcC]
    split
    · next h => exact Or.inr ⟨k, by omega, rfl, h.1⟩
    · rcases lcC_in V k with h | ⟨j, h1, h2, h3⟩
      · exact Or.inl h
      · exact Or.inr ⟨j, by omega, h2, h3⟩
theorem lcC_hi {V : aW} {n : Nat} (hn : V 41 = n) : ∀ k, n ≤ k → lcC V k = lcC V n
  | 0, h => by rw [show n = 0 by omega]
  | k + 1, h => by
    by_cases e : n = k + 1
    · rw [e]
    · simp only [lcC, al_hi hn (show n ≤ k by omega)]
      rw [lcC_hi hn k (by omega)]; simp
theorem lcC_V {V V' : aW} (h41 : V' 41 = V 41) (h10 : V' 10 = V 10) (h : ∀ k, 11 ≤ k → k < 21 → V' k = V k) : ∀ k, k ≤ 10 → lcC V' k = lcC V k
  | 0, _ => rfl
  | k + 1, hk => by
    simp only [lcC]
    rw [lcC_V h41 h10 h k (by omega), al_V h41 h10, h (11 + k) (by omega) (by omega)]
    rcases lcC_in V k with e | ⟨j, h1, e, -⟩
    · rw [e]; simp
    · rw [e, tn_n, h (11 + j) (by omega) (by omega)]
theorem m_wolves_lp (d : Nat) (V : aW) (n : Nat) (hn : V 41 = n) (h10 : n ≤ 10) (M : aM) (hV : M 158 = V) (ht : M 157 26 = bI true) (h8 : 0 ≤ V 8 ∧ V 8 ≤ 150) : ∀ (f i : Nat), i + f = n →
    wp (w_m_wolves_42 (d + 3) (lcC V i) i M) fun r M' => r = [] ∧ M' 158 = pNote true (vS V 10 (iand (V 10) (ixor (ishl 1 (lcC V n)) (-1)))) 4 (lcC V n) 0 ∧ fr [158] M M'
  | 0, i, h => by
    rw [l_m_wolves_42]
    (try simp (disch := omega) only [w32_i, tn_l, tn_n, tn_r, tn_s, tn_1, Nat.add_sub_cancel, Int.reduceToNat, Int.toNat_zero, Int.toNat_one, al3, al4, al5, al6, al8, al9, al11, al13, al15, al17, al19, al21, al23, al25, al27, al29, al30, al31, al95, al96, al128, al129, al130, al131, al134, al135, al137, al139, al140, al142, al143, al144, al145, al147, al148, al149, al151, al152, al153, al154, al155, al156, al158, al159, al160, al161, al162, al163, al164, al165, al166, al167, al168, al169, al170, al171, al172, al173, al174, al175, al176])
    refine wp_inb ⟨by omega, by omega⟩ ?_
    refine wp_neg (by rw [hV]; omega) ?_
    rw [show i = n by omega]
    refine wp_inb ⟨by omega, by omega⟩ ?_
    refine wp_inb ⟨by omega, by omega⟩ ?_
    refine wp_w fun M1 w1 f1 => ?_
    rw [hV] at w1
    refine wp_bV (m_notes_eq _ true _ 4 _ 0 M1 w1 (by rw [f1 _ (by simp), ht]) (by rw [vS_ne (by omega)]; exact h8)) ?_
    rintro M2 ⟨w2, f2⟩
    exact wp_ret ⟨rfl, w2, fr_tt f1 f2⟩
  | f + 1, i, h => by
    rw [l_m_wolves_42]
    (try simp (disch := omega) only [w32_i, tn_l, tn_n, tn_r, tn_s, tn_1, Nat.add_sub_cancel, Int.reduceToNat, Int.toNat_zero, Int.toNat_one, al3, al4, al5, al6, al8, al9, al11, al13, al15, al17, al19, al21, al23, al25, al27, al29, al30, al31, al95, al96, al128, al129, al130, al131, al134, al135, al137, al139, al140, al142, al143, al144, al145, al147, al148, al149, al151, al152, al153, al154, al155, al156, al158, al159, al160, al161, al162, al163, al164, al165, al166, al167, al168, al169, al170, al171, al172, al173, al174, al175, al176])
    refine wp_inb ⟨by omega, by omega⟩ ?_
    refine wp_pos (by rw [hV]; omega) ?_
    refine wp_eI (m_isAlive_eq _ _ M (by rw [hV]; omega) (by rw [hV]; omega)) ?_
    rw [hV]
    have ih := m_wolves_lp d V n hn h10 M hV ht h8 f (i + 1) (by omega)
    cases ha : al V i with
    | false =>
      refine wp_pos rfl ?_
      refine wp_I ?_
      rw [show lcC V (i + 1) = lcC V i by simp [lcC, ha]] at ih
      exact ih
    | true =>
      refine wp_neg (by decide) ?_
      rcases lcC_in V i with hb | ⟨j, hj, hb, haj⟩
      · refine wp_pos hb ?_
        refine wp_I ?_
        rw [show lcC V (i + 1) = i by simp [lcC, ha, hb]] at ih
        exact ih
      · refine wp_neg (by omega) ?_
        rw [hb]
        (try simp (disch := omega) only [w32_i, tn_l, tn_n, tn_r, tn_s, tn_1, Nat.add_sub_cancel, Int.reduceToNat, Int.toNat_zero, Int.toNat_one, al3, al4, al5, al6, al8, al9, al11, al13, al15, al17, al19, al21, al23, al25, al27, al29, al30, al31, al95, al96, al128, al129, al130, al131, al134, al135, al137, al139, al140, al142, al143, al144, al145, al147, al148, al149, al151, al152, al153, al154, al155, al156, al158, al159, al160, al161, al162, al163, al164, al165, al166, al167, al168, al169, al170, al171, al172, al173, al174, al175, al176])
        refine wp_inb ⟨by omega, by omega⟩ ?_
        refine wp_inb ⟨by omega, by omega⟩ ?_
        refine wp_if (fun hc => ?_) (fun hc => ?_)
        · refine wp_I ?_
          rw [show lcC V (i + 1) = i by simp [lcC, ha, hb, hc]] at ih
          exact ih
        · refine wp_I ?_
          rw [show lcC V (i + 1) = j by simp [lcC, ha, hb, hc] <;> omega] at ih
          exact ih
theorem m_wolves_eq (d : Nat) (V : aW) (n : Nat) (hn : V 41 = n) (h10 : n ≤ 10) (M : aM) (hV : M 158 = V) (ht : M 157 26 = bI true) (h8 : 0 ≤ V 8 ∧ V 8 ≤ 150) :
    wp (w_m_wolves (d + 4) M) fun r M' => r = [] ∧ M' 158 = pWolves V ∧ fr [158] M M' := by
  rw [l_m_wolves]
  (try simp (disch := omega) only [w32_i, tn_l, tn_n, tn_r, tn_s, tn_1, Nat.add_sub_cancel, Int.reduceToNat, Int.toNat_zero, Int.toNat_one, al3, al4, al5, al6, al8, al9, al11, al13, al15, al17, al19, al21, al23, al25, al27, al29, al30, al31, al95, al96, al128, al129, al130, al131, al134, al135, al137, al139, al140, al142, al143, al144, al145, al147, al148, al149, al151, al152, al153, al154, al155, al156, al158, al159, al160, al161, al162, al163, al164, al165, al166, al167, al168, al169, al170, al171, al172, al173, al174, al175, al176])
  refine wp_inb ⟨by omega, by omega⟩ ?_
  rw [hV]
  unfold pWolves
  refine wp_if (fun h1 => ?_) (fun h1 => ?_)
  · exact wp_ret ⟨rfl, by rw [if_pos (Or.inl h1), hV], fr_refl _ _⟩
  refine wp_inb ⟨by omega, by omega⟩ ?_
  refine wp_if (fun h2 => ?_) (fun h2 => ?_)
  · exact wp_ret ⟨rfl, by rw [if_pos (Or.inr h2), hV], fr_refl _ _⟩
  rw [if_neg (fun h => h.elim h1 h2)]
  refine wp_bI (P := fun v M' => v = drw V 1000 ∧ M' 158 = vS V 7 (rnd (V 7)) ∧ fr [158] M M') (wp_mono (m_draw_eq _ V 1000 M hV (by decide)) ?_) ?_
  · rintro r M' ⟨e, w, f⟩; exact ⟨_, e, rfl, w, f⟩
  · rintro v M1 ⟨e, w1, f1⟩
    subst e
    refine wp_inb ⟨by omega, by omega⟩ ?_
    rw [w1, vS_ne (show 42 ≠ 7 by omega)]
    refine wp_if (fun h3 => ?_) (fun h3 => ?_)
    · rw [if_pos h3]
      have el : lcC (vS V 7 (rnd (V 7))) n = lcC V 10 := by
        rw [lcC_V (vS_ne (by omega)) (vS_ne (by omega)) (fun k _ _ => vS_ne (by omega)) n h10, lcC_hi hn 10 h10]
      refine wp_mono (m_wolves_lp _ _ n (by rw [vS_ne (by omega), hn]) h10 M1 w1 (by rw [f1 _ (by simp), ht]) (by rw [vS_ne (by omega)]; exact h8) n 0 (by omega)) ?_
      rintro r M' ⟨e, w, f⟩
      rw [el, vS_ne (show 10 ≠ 7 by omega)] at w
      exact ⟨e, w, fr_tt f1 f⟩
    · rw [if_neg h3]
      exact wp_ret ⟨rfl, w1, f1⟩
theorem pPlan_ne {tr : Bool} {k : Nat} (hk : k ≠ 8) (hk3 : k ≠ 10) (hk4 : k ≠ 4 ∧ k ≠ 5 ∧ k ≠ 6) (hk2 : k < 284 ∨ 884 ≤ k) : ∀ (f i : Nat) (V : aW), 0 ≤ V 8 ∧ V 8 ≤ 150 → pPlan tr f i V k = V k ∧ (0 ≤ pPlan tr f i V 8 ∧ pPlan tr f i V 8 ≤ 150)
  | 0, _, _, h8 => ⟨rfl, h8⟩
  | f + 1, i, V, h8 => by
    simp only [pPlan]
    split
    · have ih := pPlan_ne (tr := tr) hk hk3 hk4 hk2 f (i + 1) (pDoes tr V i) (pDoes_8 h8)
      exact ⟨ih.1.trans (pDoes_ne h8 hk hk3 hk4 hk2), ih.2⟩
    · exact pPlan_ne hk hk3 hk4 hk2 f (i + 1) V h8
theorem pPays_ne {tr : Bool} {k : Nat} (hk : k ≠ 8) (hk3 : k ≠ 9 ∧ k ≠ 2) (hk2 : k < 284 ∨ 884 ≤ k) : ∀ (f i : Nat) (V : aW), 0 ≤ V 8 ∧ V 8 ≤ 150 → pPays tr f i V k = V k ∧ (0 ≤ pPays tr f i V 8 ∧ pPays tr f i V 8 ≤ 150)
  | 0, _, _, h8 => ⟨rfl, h8⟩
  | f + 1, i, V, h8 => by
    simp only [pPays]
    have ih := pPays_ne (tr := tr) hk hk3 hk2 f (i + 1) (pPay tr V i) (pPay_8 h8)
    exact ⟨ih.1.trans (pPay_ne h8 hk hk3 hk2), ih.2⟩
theorem pB_ne {V : aW} {who h s : Int} {k : Nat} (hk : k ≠ 1 ∧ k ≠ 3) (hk2 : k < 11 ∨ 41 ≤ k) : pB V who h s k = V k := by
  unfold pB
  rw [if_neg hk.1, if_neg hk.2, if_neg (by omega), if_neg (by omega), if_neg (by omega)]
theorem pComes_ne {tr : Bool} {V : aW} {L : aLaw} {who : Int} {k : Nat} (h8 : 0 ≤ V 8 ∧ V 8 ≤ 150) (hk : k ≠ 1 ∧ k ≠ 3 ∧ k ≠ 8) (hk2 : k < 11 ∨ 41 ≤ k) (hk3 : k < 284 ∨ 884 ≤ k) : pComes tr V L who k = V k ∧ (0 ≤ pComes tr V L who 8 ∧ pComes tr V L who 8 ≤ 150) := by
  unfold pComes
  split
  · rw [pB_ne ⟨hk.1, hk.2.1⟩ hk2, pB_ne (by omega) (by omega)]
    exact ⟨pNote_ne h8 hk.2.2 hk3, pNote_8 h8⟩
  · rw [pB_ne ⟨hk.1, hk.2.1⟩ hk2, pB_ne (by omega) (by omega)]
    exact ⟨pNote_ne h8 hk.2.2 hk3, pNote_8 h8⟩
theorem pWolves_ne {V : aW} {k : Nat} (h8 : 0 ≤ V 8 ∧ V 8 ≤ 150) (hk : k ≠ 7 ∧ k ≠ 8 ∧ k ≠ 10) (hk2 : k < 284 ∨ 884 ≤ k) : pWolves V k = V k ∧ (0 ≤ pWolves V 8 ∧ pWolves V 8 ≤ 150) := by
  have h8' : ∀ x, 0 ≤ vS (vS V 7 (rnd (V 7))) 10 x 8 ∧ vS (vS V 7 (rnd (V 7))) 10 x 8 ≤ 150 := fun x => by rw [vS_ne (by omega), vS_ne (by omega)]; exact h8
  unfold pWolves
  split
  · exact ⟨rfl, h8⟩
  · split
    · exact ⟨by rw [pNote_ne (h8' _) hk.2.1 hk2, vS_ne hk.2.2, vS_ne hk.1], pNote_8 (h8' _)⟩
    · exact ⟨vS_ne hk.1, by rw [vS_ne (by omega)]; exact h8⟩
theorem m_aDay_72_eq (d : Nat) (V : aW) (M : aM) (hV : M 158 = V) :
    wp (w_m_aDay_72 (d + 1) M) fun r M' => r = [aI (if V 1 = -1 then 1 else 0)] ∧ M' 158 = pEnd V ∧ fr [158] M M' := by
  rw [l_m_aDay_72]
  (try simp (disch := omega) only [w32_i, tn_l, tn_n, tn_r, tn_s, tn_1, Nat.add_sub_cancel, Int.reduceToNat, Int.toNat_zero, Int.toNat_one, al3, al4, al5, al6, al8, al9, al11, al13, al15, al17, al19, al21, al23, al25, al27, al29, al30, al31, al95, al96, al128, al129, al130, al131, al134, al135, al137, al139, al140, al142, al143, al144, al145, al147, al148, al149, al151, al152, al153, al154, al155, al156, al158, al159, al160, al161, al162, al163, al164, al165, al166, al167, al168, al169, al170, al171, al172, al173, al174, al175, al176])
  refine wp_inb ⟨by omega, by omega⟩ ?_
  refine wp_eI (m_greater_eq _ _ _ _) ?_
  refine wp_inb ⟨by omega, by omega⟩ ?_
  refine wp_w fun M1 w1 f1 => ?_
  refine wp_inb ⟨by omega, by omega⟩ ?_
  refine wp_eI (m_greater_eq _ _ _ _) ?_
  refine wp_inb ⟨by omega, by omega⟩ ?_
  refine wp_w fun M2 w2 f2 => ?_
  refine wp_inb ⟨by omega, by omega⟩ ?_
  refine wp_inb ⟨by omega, by omega⟩ ?_
  refine wp_w fun M3 w3 f3 => ?_
  refine wp_inb ⟨by omega, by omega⟩ ?_
  rw [hV] at w1
  rw [w1, vS_ne (show 5 ≠ 4 by omega)] at w2
  rw [w2, vS_ne (show 0 ≠ 5 by omega), vS_ne (show 0 ≠ 4 by omega)] at w3
  rw [w3, vS_ne (show 1 ≠ 0 by omega), vS_ne (show 1 ≠ 5 by omega), vS_ne (show 1 ≠ 4 by omega)]
  refine wp_if (fun h => ?_) (fun h => ?_)
  · exact wp_ret ⟨by rw [if_pos h], w3, fr_tt f1 (fr_tt f2 f3)⟩
  · exact wp_ret ⟨by rw [if_neg h], w3, fr_tt f1 (fr_tt f2 f3)⟩
theorem pEnd_ne {V : aW} {k : Nat} (hk : k ≠ 0 ∧ k ≠ 4 ∧ k ≠ 5) : pEnd V k = V k := by
  unfold pEnd; rw [vS_ne hk.1, vS_ne hk.2.2, vS_ne hk.2.1]
theorem m_aDay_eq (d : Nat) (tr : Bool) (V : aW) (L : aLaw) (n : Nat) (hn : V 41 = n) (h10 : n ≤ 10) (h8 : 0 ≤ V 8 ∧ V 8 ≤ 150) (h45 : 0 ≤ V 45 ∧ V 45 ≤ 16) (h46 : 0 ≤ V 46 ∧ V 46 ≤ 16) (hL : vLaw L V) (hok : okLaw L) (M : aM) (hV : M 158 = V) (ht : M 157 26 = bI tr) :
    wp (w_m_aDay (d + 9) M) fun r M' => r = [aI (if pDay tr V L 1 = -1 then 1 else 0)] ∧ M' 158 = pDay tr V L ∧ fr [158, 166, 167] M M' := by
  rw [l_m_aDay]
  refine m_plan_lp _ tr (V 45).toNat _ (V 45).toNat 0 V M (by omega) (by omega) (by omega) hV ht h8 (by omega) ?_
  intro M1 w1 f1
  have n1 : ∀ k, k ≠ 8 → k ≠ 10 → (k ≠ 4 ∧ k ≠ 5 ∧ k ≠ 6) → (k < 284 ∨ 884 ≤ k) → pPlan tr (V 45).toNat 0 V k = V k := fun k a b c e => (pPlan_ne a b c e _ 0 V h8).1
  have h81 := (pPlan_ne (tr := tr) (k := 0) (by omega) (by omega) (by omega) (by omega) (V 45).toNat 0 V h8).2
  rw [l_m_aDay_2]
  (try simp (disch := omega) only [w32_i, tn_l, tn_n, tn_r, tn_s, tn_1, Nat.add_sub_cancel, Int.reduceToNat, Int.toNat_zero, Int.toNat_one, al3, al4, al5, al6, al8, al9, al11, al13, al15, al17, al19, al21, al23, al25, al27, al29, al30, al31, al95, al96, al128, al129, al130, al131, al134, al135, al137, al139, al140, al142, al143, al144, al145, al147, al148, al149, al151, al152, al153, al154, al155, al156, al158, al159, al160, al161, al162, al163, al164, al165, al166, al167, al168, al169, al170, al171, al172, al173, al174, al175, al176])
  refine wp_inb ⟨by omega, by omega⟩ ?_
  refine wp_neg (by rw [w1, n1 45 (by omega) (by omega) (by omega) (by omega)]; omega) ?_
  have L1 := vLaw_V hL fun k hk => n1 k (by omega) (by omega) (by omega) (by omega)
  have hn1 : pPlan tr (V 45).toNat 0 V 41 = n := by rw [n1 41 (by omega) (by omega) (by omega) (by omega), hn]
  refine wp_bI (P := fun v M' => v = (pDawn tr (pPlan tr (V 45).toNat 0 V) L).2 ∧ M' 158 = (pDawn tr (pPlan tr (V 45).toNat 0 V) L).1 ∧ fr [158, 166, 167] M1 M') (wp_mono (m_dawns_eq _ tr _ L n hn1 h10 L1 hok M1 w1 (by rw [f1 _ (by simp), ht])) ?_) ?_
  · rintro r M' ⟨e, w, f⟩; exact ⟨_, e, rfl, w, f⟩
  · rintro who M2 ⟨ew, w2, f2⟩
    have n2 := pDawn_1 tr (pPlan tr (V 45).toNat 0 V) L
    have hw := pDawn_2 tr (pPlan tr (V 45).toNat 0 V) L n hn1 h10
    rw [← ew] at hw
    have h82 : 0 ≤ (pDawn tr (pPlan tr (V 45).toNat 0 V) L).1 8 ∧ (pDawn tr (pPlan tr (V 45).toNat 0 V) L).1 8 ≤ 150 := by rw [n2 8 (by omega)]; exact h81
    refine wp_bV (m_comes_eq _ tr _ L n who (by rw [n2 41 (by omega), hn1]) h10 h82 hw (vLaw_V L1 fun k hk => n2 k (by omega)) hok M2 w2 (by rw [f2 _ (by simp), f1 _ (by simp), ht])) ?_
    rintro M3 ⟨w3, f3⟩
    have n3 : ∀ k, k ≠ 1 ∧ k ≠ 3 ∧ k ≠ 8 → (k < 11 ∨ 41 ≤ k) → (k < 284 ∨ 884 ≤ k) → pComes tr (pDawn tr (pPlan tr (V 45).toNat 0 V) L).1 L who k = (pDawn tr (pPlan tr (V 45).toNat 0 V) L).1 k := fun k a b c => (pComes_ne h82 a b c).1
    have h83 := (pComes_ne (tr := tr) (L := L) (who := who) (k := 0) h82 (by omega) (by omega) (by omega)).2
    have e46 : pComes tr (pDawn tr (pPlan tr (V 45).toNat 0 V) L).1 L who 46 = ((V 46).toNat : Nat) := by
      rw [n3 46 (by omega) (by omega) (by omega), n2 46 (by omega), n1 46 (by omega) (by omega) (by omega) (by omega)]; omega
    have hf3 : fr [158, 166, 167] M M3 := fr_tr f1 (fr_tt f2 f3) (by simp) (by simp)
    have e41 : pComes tr (pDawn tr (pPlan tr (V 45).toNat 0 V) L).1 L who 41 = n := by
      rw [n3 41 (by omega) (by omega) (by omega), n2 41 (by omega), hn1]
    rw [l_m_pays]
    refine wp_bV (m_pays_lp _ tr (V 46).toNat (V 46).toNat 0 _ M3 (by omega) (by omega) e46 w3 (by rw [hf3 _ (by simp), ht]) h83) ?_
    rintro M4 ⟨w4, f4⟩
    have hf4 : fr [158, 166, 167] M M4 := fr_tr hf3 f4 (by simp) (by simp)
    have n4 : ∀ k, k ≠ 8 → k ≠ 9 ∧ k ≠ 2 → (k < 284 ∨ 884 ≤ k) → _ := fun k a b c => (pPays_ne (tr := tr) a b c (V 46).toNat 0 _ h83).1
    have h84 := (pPays_ne (tr := tr) (k := 0) (by omega) (by omega) (by omega) (V 46).toNat 0 _ h83).2
    rw [hf4 157 (by simp), ht]
    subst ew
    cases tr with
    | false =>
      refine wp_pos rfl ?_
      refine wp_mono (m_aDay_72_eq _ _ M4 w4) ?_
      rintro r M' ⟨e, w, f⟩
      have ed : pDay false V L = M' 158 := by rw [w]; simp [pDay]
      rw [ed]
      refine ⟨?_, rfl, fr_tr hf4 f (by simp) (by simp)⟩
      rw [e, w, pEnd_ne (by omega)]
    | true =>
      refine wp_neg (by decide) ?_
      refine wp_bV (m_wolves_eq _ _ n (by rw [n4 41 (by omega) (by omega) (by omega), e41]) h10 M4 w4 (by rw [hf4 157 (by simp), ht]) h84) ?_
      rintro M5 ⟨w5, f5⟩
      refine wp_mono (m_aDay_72_eq _ _ M5 w5) ?_
      rintro r M' ⟨e, w, f⟩
      have ed : pDay true V L = M' 158 := by rw [w]; simp [pDay]
      rw [ed]
      refine ⟨?_, rfl, fr_tr hf4 (fr_tt f5 f) (by simp) (by simp)⟩
      rw [e, w, pEnd_ne (by omega)]
