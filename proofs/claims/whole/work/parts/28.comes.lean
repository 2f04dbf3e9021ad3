/-! How likely each comes: sums, the likeliest, the drawn one. -/
theorem wp_fI {x : aR} {k : Int → aM → aR} {Q : List aV → aM → Prop} {v : Int} {l : List Nat} {M : aM} (h : wp x fun r M' => r = [aI v] ∧ fr l M M') (hk : ∀ M', fr l M M' → wp (k v M') Q) : wp (bndI x k) Q := by
  obtain ⟨r, M', e, e2, p⟩ := h; subst e2; rw [e]; exact hk M' p
theorem al_hi {V : aW} {n k : Nat} (hn : V 41 = n) (hk : n ≤ k) : al V k = false := decide_eq_false (by omega)
theorem al_lt {V : aW} {k : Int} (h : al V k = true) : 0 ≤ k ∧ k < V 41 := by
  have := of_decide_eq_true h; exact ⟨this.1, this.2.1⟩
noncomputable def comA (V : aW) (L : aLaw) (k : Nat) : Int := if al V k = true then come V L k else 0
theorem comA_in (V : aW) (L : aLaw) (k : Nat) : 0 ≤ comA V L k ∧ comA V L k ≤ 999 := by
  unfold comA; split
  · exact cl_in (by decide)
  · omega
noncomputable def sumC (V : aW) (L : aLaw) : Nat → Int
  | 0 => 0
  | k + 1 => sumC V L k + comA V L k
theorem sumC_in (V : aW) (L : aLaw) : ∀ k, 0 ≤ sumC V L k ∧ sumC V L k ≤ 999 * k
  | 0 => by simp [sumC]
  | k + 1 => by have := sumC_in V L k; have := comA_in V L k; simp only [sumC]; omega
theorem sumC_hi {V : aW} (L : aLaw) {n : Nat} (hn : V 41 = n) : ∀ k, n ≤ k → sumC V L k = sumC V L n
  | 0, h => by rw [show n = 0 by omega]
  | k + 1, h => by
    by_cases e : n = k + 1
    · rw [e]
    · simp only [sumC, comA, al_hi hn (show n ≤ k by omega)]
      rw [sumC_hi L hn k (by omega)]; simp
noncomputable def bestC (V : aW) (L : aLaw) : Nat → Int
  | 0 => -1
  | k + 1 => if al V k = true ∧ (bestC V L k = -1 ∨ come V L (bestC V L k).toNat < come V L k) then k else bestC V L k
theorem bestC_in (V : aW) (L : aLaw) : ∀ k, bestC V L k = -1 ∨ ∃ j : Nat, j < k ∧ bestC V L k = j ∧ al V j = true
  | 0 => Or.inl rfl
  | k + 1 => by
    simp only [bestC]
    split
    · next h => exact Or.inr ⟨k, by omega, rfl, h.1⟩
    · rcases bestC_in V L k with h | ⟨j, h1, h2, h3⟩
      · exact Or.inl h
      · exact Or.inr ⟨j, by omega, h2, h3⟩
theorem bestC_hi {V : aW} (L : aLaw) {n : Nat} (hn : V 41 = n) : ∀ k, n ≤ k → bestC V L k = bestC V L n
  | 0, h => by rw [show n = 0 by omega]
  | k + 1, h => by
    by_cases e : n = k + 1
    · rw [e]
    · simp only [bestC, al_hi hn (show n ≤ k by omega)]
      rw [bestC_hi L hn k (by omega)]; simp
noncomputable def drawC (V : aW) (L : aLaw) (x : Int) : Nat → Nat → Int
  | 0, _ => -1
  | f + 1, k => if x < sumC V L (k + 1) then k else drawC V L x f (k + 1)
theorem drawC_hi {V : aW} (L : aLaw) {n : Nat} (hn : V 41 = n) (x : Int) : ∀ (f k : Nat), n ≤ k → sumC V L k ≤ x → drawC V L x f k = -1
  | 0, _, _, _ => rfl
  | f + 1, k, h, hx => by
    have e : sumC V L (k + 1) = sumC V L k := by rw [sumC_hi L hn k h, sumC_hi L hn (k + 1) (by omega)]
    simp only [drawC]
    rw [if_neg (by omega)]
    exact drawC_hi L hn x f (k + 1) (by omega) (by omega)
theorem drawC_10 {V : aW} (L : aLaw) {n : Nat} (hn : V 41 = n) (x : Int) : ∀ (f k g : Nat), k + f = n → sumC V L k ≤ x → drawC V L x (f + g) k = drawC V L x f k
  | 0, k, g, h, hx => by rw [Nat.zero_add]; exact drawC_hi L hn x g k (by omega) hx
  | f + 1, k, g, h, hx => by
    rw [show f + 1 + g = (f + g) + 1 by omega]
    simp only [drawC]
    split
    · rfl
    · exact drawC_10 L hn x f (k + 1) g (by omega) (by omega)
/-! in the reference -/
theorem m_sumOfCome_lp (d : Nat) (V : aW) (L : aLaw) (n : Nat) (hn : V 41 = n) (h10 : n ≤ 10) (hL : vLaw L V) (hok : okLaw L) : ∀ (f i : Nat) (M : aM), i + f = n → M 158 = V → wp (w_m_sumOfCome_4 (d + 6) (sumC V L i) i M) fun r M' => r = [aI (sumC V L n)] ∧ fr [166, 167] M M'
  | 0, i, M, h, hV => by
    rw [l_m_sumOfCome_4]
    (try simp (disch := omega) only [w32_i, tn_l, tn_n, tn_r, tn_s, tn_1, Nat.add_sub_cancel, Int.reduceToNat, Int.toNat_zero, Int.toNat_one, al3, al4, al5, al6, al8, al9, al11, al13, al15, al17, al19, al21, al23, al25, al27, al29, al30, al31, al95, al96, al128, al129, al130, al131, al134, al135, al137, al139, al140, al142, al143, al144, al145, al147, al148, al149, al151, al152, al153, al154, al155, al156, al158, al159, al160, al161, al162, al163, al164, al165, al166, al167, al168, al169, al170, al171, al172, al173, al174, al175, al176])
    refine wp_inb ⟨by omega, by omega⟩ ?_
    refine wp_neg (by rw [hV]; omega) ?_
    rw [show i = n by omega]
    exact wp_ret ⟨rfl, fr_refl _ _⟩
  | f + 1, i, M, h, hV => by
    rw [l_m_sumOfCome_4]
    (try simp (disch := omega) only [w32_i, tn_l, tn_n, tn_r, tn_s, tn_1, Nat.add_sub_cancel, Int.reduceToNat, Int.toNat_zero, Int.toNat_one, al3, al4, al5, al6, al8, al9, al11, al13, al15, al17, al19, al21, al23, al25, al27, al29, al30, al31, al95, al96, al128, al129, al130, al131, al134, al135, al137, al139, al140, al142, al143, al144, al145, al147, al148, al149, al151, al152, al153, al154, al155, al156, al158, al159, al160, al161, al162, al163, al164, al165, al166, al167, al168, al169, al170, al171, al172, al173, al174, al175, al176])
    refine wp_inb ⟨by omega, by omega⟩ ?_
    refine wp_pos (by rw [hV]; omega) ?_
    refine wp_eI (m_isAlive_eq _ _ M (by rw [hV]; omega) (by rw [hV]; omega)) ?_
    have hs := sumC_in V L i
    have hc := comA_in V L i
    rw [hV]
    cases ha : al V i with
    | false =>
      refine wp_pos rfl ?_
      refine wp_I ?_
      refine wp_I ?_
      (try simp (disch := omega) only [w32_i, tn_l, tn_n, tn_r, tn_s, tn_1, Nat.add_sub_cancel, Int.reduceToNat, Int.toNat_zero, Int.toNat_one, al3, al4, al5, al6, al8, al9, al11, al13, al15, al17, al19, al21, al23, al25, al27, al29, al30, al31, al95, al96, al128, al129, al130, al131, al134, al135, al137, al139, al140, al142, al143, al144, al145, al147, al148, al149, al151, al152, al153, al154, al155, al156, al158, al159, al160, al161, al162, al163, al164, al165, al166, al167, al168, al169, al170, al171, al172, al173, al174, al175, al176])
      have ih := m_sumOfCome_lp d V L n hn h10 hL hok f (i + 1) M (by omega) hV
      rw [show sumC V L (i + 1) = sumC V L i + 0 by simp [sumC, comA, ha]] at ih
      exact ih
    | true =>
      refine wp_neg (by decide) ?_
      refine wp_fI (m_comeOf_eq _ V L i M hV (by omega) hL hok) fun M1 f1 => ?_
      refine wp_I ?_
      refine wp_I ?_
      rw [show comA V L i = come V L i by simp [comA, ha]] at hc
      (try simp (disch := omega) only [w32_i, tn_l, tn_n, tn_r, tn_s, tn_1, Nat.add_sub_cancel, Int.reduceToNat, Int.toNat_zero, Int.toNat_one, al3, al4, al5, al6, al8, al9, al11, al13, al15, al17, al19, al21, al23, al25, al27, al29, al30, al31, al95, al96, al128, al129, al130, al131, al134, al135, al137, al139, al140, al142, al143, al144, al145, al147, al148, al149, al151, al152, al153, al154, al155, al156, al158, al159, al160, al161, al162, al163, al164, al165, al166, al167, al168, al169, al170, al171, al172, al173, al174, al175, al176])
      have ih := m_sumOfCome_lp d V L n hn h10 hL hok f (i + 1) M1 (by omega) (by rw [f1 _ (by simp), hV])
      rw [show sumC V L (i + 1) = sumC V L i + come V L i by simp [sumC, comA, ha]] at ih
      exact wp_mono ih fun r M' h => ⟨h.1, fr_tt f1 h.2⟩
theorem m_sumOfCome_eq (d : Nat) (V : aW) (L : aLaw) (n : Nat) (hn : V 41 = n) (h10 : n ≤ 10) (hL : vLaw L V) (hok : okLaw L) (M : aM) (hV : M 158 = V) : wp (w_m_sumOfCome (d + 7) M) fun r M' => r = [aI (sumC V L n)] ∧ fr [166, 167] M M' := by
  rw [l_m_sumOfCome]
  exact m_sumOfCome_lp d V L n hn h10 hL hok n 0 M (by omega) hV
theorem m_likeliestOne_lp (d : Nat) (V : aW) (L : aLaw) (n : Nat) (hn : V 41 = n) (h10 : n ≤ 10) (hL : vLaw L V) (hok : okLaw L) : ∀ (f i : Nat) (M : aM), i + f = n → M 158 = V → wp (w_m_likeliestOne_4 (d + 6) (bestC V L i) i M) fun r M' => r = [aI (bestC V L n)] ∧ fr [166, 167] M M'
  | 0, i, M, h, hV => by
    rw [l_m_likeliestOne_4]
    (try simp (disch := omega) only [w32_i, tn_l, tn_n, tn_r, tn_s, tn_1, Nat.add_sub_cancel, Int.reduceToNat, Int.toNat_zero, Int.toNat_one, al3, al4, al5, al6, al8, al9, al11, al13, al15, al17, al19, al21, al23, al25, al27, al29, al30, al31, al95, al96, al128, al129, al130, al131, al134, al135, al137, al139, al140, al142, al143, al144, al145, al147, al148, al149, al151, al152, al153, al154, al155, al156, al158, al159, al160, al161, al162, al163, al164, al165, al166, al167, al168, al169, al170, al171, al172, al173, al174, al175, al176])
    refine wp_inb ⟨by omega, by omega⟩ ?_
    refine wp_neg (by rw [hV]; omega) ?_
    rw [show i = n by omega]
    exact wp_ret ⟨rfl, fr_refl _ _⟩
  | f + 1, i, M, h, hV => by
    rw [l_m_likeliestOne_4]
    (try simp (disch := omega) only [w32_i, tn_l, tn_n, tn_r, tn_s, tn_1, Nat.add_sub_cancel, Int.reduceToNat, Int.toNat_zero, Int.toNat_one, al3, al4, al5, al6, al8, al9, al11, al13, al15, al17, al19, al21, al23, al25, al27, al29, al30, al31, al95, al96, al128, al129, al130, al131, al134, al135, al137, al139, al140, al142, al143, al144, al145, al147, al148, al149, al151, al152, al153, al154, al155, al156, al158, al159, al160, al161, al162, al163, al164, al165, al166, al167, al168, al169, al170, al171, al172, al173, al174, al175, al176])
    refine wp_inb ⟨by omega, by omega⟩ ?_
    refine wp_pos (by rw [hV]; omega) ?_
    refine wp_eI (m_isAlive_eq _ _ M (by rw [hV]; omega) (by rw [hV]; omega)) ?_
    rw [hV]
    have next : ∀ (x : Int) (M1 : aM), fr [166, 167] M M1 → x = bestC V L (i + 1) → wp (w_m_likeliestOne_4 (d + 6) x ((i : Int) + 1) M1) fun r M' => r = [aI (bestC V L n)] ∧ fr [166, 167] M M' := by
      intro x M1 f1 e
      have ih := m_likeliestOne_lp d V L n hn h10 hL hok f (i + 1) M1 (by omega) (by rw [f1 _ (by simp), hV])
      rw [e]
      exact wp_mono ih fun r M' h => ⟨h.1, fr_tt f1 h.2⟩
    cases ha : al V i with
    | false =>
      refine wp_pos rfl ?_
      refine wp_I ?_
      (try simp (disch := omega) only [w32_i, tn_l, tn_n, tn_r, tn_s, tn_1, Nat.add_sub_cancel, Int.reduceToNat, Int.toNat_zero, Int.toNat_one, al3, al4, al5, al6, al8, al9, al11, al13, al15, al17, al19, al21, al23, al25, al27, al29, al30, al31, al95, al96, al128, al129, al130, al131, al134, al135, al137, al139, al140, al142, al143, al144, al145, al147, al148, al149, al151, al152, al153, al154, al155, al156, al158, al159, al160, al161, al162, al163, al164, al165, al166, al167, al168, al169, al170, al171, al172, al173, al174, al175, al176])
      exact next _ M (fr_refl _ _) (by simp [bestC, ha])
    | true =>
      refine wp_neg (by decide) ?_
      rcases bestC_in V L i with hb | ⟨j, hj, hb, haj⟩
      · refine wp_pos hb ?_
        refine wp_I ?_
        (try simp (disch := omega) only [w32_i, tn_l, tn_n, tn_r, tn_s, tn_1, Nat.add_sub_cancel, Int.reduceToNat, Int.toNat_zero, Int.toNat_one, al3, al4, al5, al6, al8, al9, al11, al13, al15, al17, al19, al21, al23, al25, al27, al29, al30, al31, al95, al96, al128, al129, al130, al131, al134, al135, al137, al139, al140, al142, al143, al144, al145, al147, al148, al149, al151, al152, al153, al154, al155, al156, al158, al159, al160, al161, al162, al163, al164, al165, al166, al167, al168, al169, al170, al171, al172, al173, al174, al175, al176])
        exact next _ M (fr_refl _ _) (by simp [bestC, ha, hb])
      · refine wp_neg (by omega) ?_
        refine wp_fI (m_comeOf_eq _ V L i M hV (by omega) hL hok) fun M1 f1 => ?_
        rw [hb]
        refine wp_fI (m_comeOf_eq _ V L j M1 (by rw [f1 _ (by simp), hV]) (by omega) hL hok) fun M2 f2 => ?_
        refine wp_if (fun hc => ?_) (fun hc => ?_)
        · refine wp_I ?_
          (try simp (disch := omega) only [w32_i, tn_l, tn_n, tn_r, tn_s, tn_1, Nat.add_sub_cancel, Int.reduceToNat, Int.toNat_zero, Int.toNat_one, al3, al4, al5, al6, al8, al9, al11, al13, al15, al17, al19, al21, al23, al25, al27, al29, al30, al31, al95, al96, al128, al129, al130, al131, al134, al135, al137, al139, al140, al142, al143, al144, al145, al147, al148, al149, al151, al152, al153, al154, al155, al156, al158, al159, al160, al161, al162, al163, al164, al165, al166, al167, al168, al169, al170, al171, al172, al173, al174, al175, al176])
          exact next _ M2 (fr_tt f1 f2) (by simp [bestC, ha, hb, hc])
        · refine wp_I ?_
          (try simp (disch := omega) only [w32_i, tn_l, tn_n, tn_r, tn_s, tn_1, Nat.add_sub_cancel, Int.reduceToNat, Int.toNat_zero, Int.toNat_one, al3, al4, al5, al6, al8, al9, al11, al13, al15, al17, al19, al21, al23, al25, al27, al29, al30, al31, al95, al96, al128, al129, al130, al131, al134, al135, al137, al139, al140, al142, al143, al144, al145, al147, al148, al149, al151, al152, al153, al154, al155, al156, al158, al159, al160, al161, al162, al163, al164, al165, al166, al167, al168, al169, al170, al171, al172, al173, al174, al175, al176])
          exact next _ M2 (fr_tt f1 f2) (by simp [bestC, ha, hb, hc] <;> omega)
theorem m_likeliestOne_eq (d : Nat) (V : aW) (L : aLaw) (n : Nat) (hn : V 41 = n) (h10 : n ≤ 10) (hL : vLaw L V) (hok : okLaw L) (M : aM) (hV : M 158 = V) : wp (w_m_likeliestOne (d + 7) M) fun r M' => r = [aI (bestC V L n)] ∧ fr [166, 167] M M' := by
  rw [l_m_likeliestOne]
  exact m_likeliestOne_lp d V L n hn h10 hL hok n 0 M (by omega) hV
theorem m_byDraw_lp (d : Nat) (V : aW) (L : aLaw) (n : Nat) (x : Int) (hn : V 41 = n) (h10 : n ≤ 10) (hL : vLaw L V) (hok : okLaw L) : ∀ (f i : Nat) (M : aM), i + f = n → M 158 = V → wp (w_m_byDraw_4 (d + 6) x (sumC V L i) i M) fun r M' => r = [aI (drawC V L x f i)] ∧ fr [166, 167] M M'
  | 0, i, M, h, hV => by
    rw [l_m_byDraw_4]
    (try simp (disch := omega) only [w32_i, tn_l, tn_n, tn_r, tn_s, tn_1, Nat.add_sub_cancel, Int.reduceToNat, Int.toNat_zero, Int.toNat_one, al3, al4, al5, al6, al8, al9, al11, al13, al15, al17, al19, al21, al23, al25, al27, al29, al30, al31, al95, al96, al128, al129, al130, al131, al134, al135, al137, al139, al140, al142, al143, al144, al145, al147, al148, al149, al151, al152, al153, al154, al155, al156, al158, al159, al160, al161, al162, al163, al164, al165, al166, al167, al168, al169, al170, al171, al172, al173, al174, al175, al176])
    refine wp_inb ⟨by omega, by omega⟩ ?_
    refine wp_neg (by rw [hV]; omega) ?_
    exact wp_ret ⟨rfl, fr_refl _ _⟩
  | f + 1, i, M, h, hV => by
    rw [l_m_byDraw_4]
    (try simp (disch := omega) only [w32_i, tn_l, tn_n, tn_r, tn_s, tn_1, Nat.add_sub_cancel, Int.reduceToNat, Int.toNat_zero, Int.toNat_one, al3, al4, al5, al6, al8, al9, al11, al13, al15, al17, al19, al21, al23, al25, al27, al29, al30, al31, al95, al96, al128, al129, al130, al131, al134, al135, al137, al139, al140, al142, al143, al144, al145, al147, al148, al149, al151, al152, al153, al154, al155, al156, al158, al159, al160, al161, al162, al163, al164, al165, al166, al167, al168, al169, al170, al171, al172, al173, al174, al175, al176])
    refine wp_inb ⟨by omega, by omega⟩ ?_
    refine wp_pos (by rw [hV]; omega) ?_
    refine wp_eI (m_isAlive_eq _ _ M (by rw [hV]; omega) (by rw [hV]; omega)) ?_
    have hs := sumC_in V L i
    have hc := comA_in V L i
    rw [hV]
    have fin : ∀ M1 : aM, fr [166, 167] M M1 → wp (if x < sumC V L (i + 1) then some ([aI (i : Int)], M1) else iLet ((i : Int) + 1) fun v18 => w_m_byDraw_4 (d + 6) x (sumC V L (i + 1)) v18 M1) fun r M' => r = [aI (drawC V L x (f + 1) i)] ∧ fr [166, 167] M M' := by
      intro M1 f1
      simp only [drawC]
      refine wp_if (fun h => ?_) (fun h => ?_)
      · rw [if_pos h]
        exact wp_ret ⟨rfl, f1⟩
      · rw [if_neg h]
        refine wp_I ?_
        (try simp (disch := omega) only [w32_i, tn_l, tn_n, tn_r, tn_s, tn_1, Nat.add_sub_cancel, Int.reduceToNat, Int.toNat_zero, Int.toNat_one, al3, al4, al5, al6, al8, al9, al11, al13, al15, al17, al19, al21, al23, al25, al27, al29, al30, al31, al95, al96, al128, al129, al130, al131, al134, al135, al137, al139, al140, al142, al143, al144, al145, al147, al148, al149, al151, al152, al153, al154, al155, al156, al158, al159, al160, al161, al162, al163, al164, al165, al166, al167, al168, al169, al170, al171, al172, al173, al174, al175, al176])
        have ih := m_byDraw_lp d V L n x hn h10 hL hok f (i + 1) M1 (by omega) (by rw [f1 _ (by simp), hV])
        exact wp_mono ih fun r M' h => ⟨h.1, fr_tt f1 h.2⟩
    cases ha : al V i with
    | false =>
      refine wp_pos rfl ?_
      refine wp_I ?_
      rw [w32_i (by omega) (by omega)]
      have e : sumC V L i + 0 = sumC V L (i + 1) := by simp [sumC, comA, ha]
      rw [e]
      exact fin M (fr_refl _ _)
    | true =>
      refine wp_neg (by decide) ?_
      refine wp_fI (m_comeOf_eq _ V L i M hV (by omega) hL hok) fun M1 f1 => ?_
      refine wp_I ?_
      rw [show comA V L i = come V L i by simp [comA, ha]] at hc
      rw [w32_i (by omega) (by omega)]
      have e : sumC V L i + come V L i = sumC V L (i + 1) := by simp [sumC, comA, ha]
      rw [e]
      exact fin M1 f1
theorem m_byDraw_eq (d : Nat) (V : aW) (L : aLaw) (n : Nat) (x : Int) (hn : V 41 = n) (h10 : n ≤ 10) (hL : vLaw L V) (hok : okLaw L) (M : aM) (hV : M 158 = V) : wp (w_m_byDraw (d + 7) x M) fun r M' => r = [aI (drawC V L x n 0)] ∧ fr [166, 167] M M' := by
  rw [l_m_byDraw]
  exact m_byDraw_lp d V L n x hn h10 hL hok n 0 M (by omega) hV
/-! in the class -/
theorem world_askComes_lp (d a : Nat) (V : aW) (L : aLaw) (ha : isWo a) (hok : okLaw L) (h0 : 0 ≤ V 41) (h10 : V 41 ≤ 10) : ∀ (f i : Nat) (M : aM), i + f = 10 → rWd (a + 1) V M → rLaw (a + 6) L M → M a 13 = sumC V L i → (∀ j, j < i → M (a + 30) j = comA V L j) →
    wp (w_world_askComes_7 (d + 6) a i M) fun r M' => r = [] ∧ M' a 13 = sumC V L 10 ∧ (∀ j, j < 10 → M' (a + 30) j = comA V L j) ∧ fr [a, a + 8, a + 29, a + 30] M M'
  | 0, i, M, h, hw, hL, hs, hc => by
    rw [l_world_askComes_7]
    refine wp_neg (by omega) ?_
    rw [show i = 10 by omega] at hs hc
    exact wp_ret ⟨rfl, hs, hc, fr_refl _ _⟩
  | f + 1, i, M, h, hw, hL, hs, hc => by
    rw [l_world_askComes_7]
    refine wp_pos (by omega) ?_
    refine wp_eI (wood_isAlive_eq _ (a + 1) i V M hw h10) ?_
    rw [wl30 ha]
    have hsi := sumC_in V L i
    have hci := comA_in V L i
    have fin : ∀ (M1 : aM) (y : Int), fr [a + 8, a + 29] M M1 → y = comA V L i → wp (inb (i : Int) 10 (aLet (aUp M1 (a + 30) (i : Int).toNat y) fun M20 => inb (i : Int) 10 (aLet (aUp M20 a 13 (w32 (M20 a 13 + M20 (a + 30) (i : Int).toNat))) fun M21 => iLet (w32 ((i : Int) + 1)) fun v22 => w_world_askComes_7 (d + 6) a v22 M21))) fun r M' => r = [] ∧ M' a 13 = sumC V L 10 ∧ (∀ j, j < 10 → M' (a + 30) j = comA V L j) ∧ fr [a, a + 8, a + 29, a + 30] M M' := by
      intro M1 y f1 hy
      refine wp_inb ⟨by omega, by omega⟩ ?_
      refine wp_up fun M2 f2 g2 => ?_
      refine wp_inb ⟨by omega, by omega⟩ ?_
      refine wp_up fun M3 f3 g3 => ?_
      refine wp_I ?_
      (try simp (disch := omega) only [w32_i, tn_l, tn_n, tn_r, tn_s, tn_1, Nat.add_sub_cancel, Int.reduceToNat, Int.toNat_zero, Int.toNat_one, al3, al4, al5, al6, al8, al9, al11, al13, al15, al17, al19, al21, al23, al25, al27, al29, al30, al31, al95, al96, al128, al129, al130, al131, al134, al135, al137, al139, al140, al142, al143, al144, al145, al147, al148, al149, al151, al152, al153, al154, al155, al156, al158, al159, al160, al161, al162, al163, al164, al165, al166, al167, al168, al169, al170, al171, al172, al173, al174, al175, al176])
      simp only [tn_n] at g2 g3
      have e1 : M2 a 13 = sumC V L i := by rw [f2 a (by simp), f1 a (by simp), hs]
      have e2 : M2 (a + 30) i = comA V L i := by rw [g2, if_pos rfl, hy]
      rw [e1, e2, w32_i (by omega) (by omega)] at g3
      have f4 : fr [a, a + 8, a + 29, a + 30] M M3 := fr_tr (fr_w f1 (l := [a, a + 8, a + 29, a + 30]) (by simp)) (fr_tr f2 f3 (l := [a + 30, a]) (by simp) (by simp)) (by simp) (by simp)
      have ih := world_askComes_lp d a V L ha hok h0 h10 f (i + 1) M3 (by omega) (rWd_fr hw fun k _ _ => f4 k (by simp; omega)) (rLaw_fr hL fun k _ _ _ => f4 k (by simp; omega)) (by rw [g3, if_pos rfl]; rfl) (fun j hj => by
        rw [f3 _ (by simp), g2]
        by_cases hji : j = i
        · rw [if_pos hji, hji, hy]
        · rw [if_neg hji, f1 _ (by simp), hc j (by omega)])
      exact wp_mono ih fun r M' h => ⟨h.1, h.2.1, h.2.2.1, fr_tt f4 h.2.2.2⟩
    cases hal : al V i with
    | false =>
      refine wp_pos rfl ?_
      exact fin M 0 (fr_refl _ _) (by simp [comA, hal])
    | true =>
      refine wp_neg (by decide) ?_
      have := al_lt hal
      refine wp_fI (world_asked_eq _ a V L 0 i M ha hw hL hok h10 (by omega)) fun M1 f1 => ?_
      rw [asked_come]
      exact fin M1 _ f1 (by simp [comA, hal])
theorem world_askComes_eq (d a : Nat) (V : aW) (L : aLaw) (ha : isWo a) (hok : okLaw L) (h0 : 0 ≤ V 41) (h10 : V 41 ≤ 10) (M : aM) (hw : rWd (a + 1) V M) (hL : rLaw (a + 6) L M) :
    wp (w_world_askComes (d + 7) a M) fun r M' => r = [] ∧ M' a 13 = sumC V L 10 ∧ (∀ j, j < 10 → M' (a + 30) j = comA V L j) ∧ fr [a, a + 8, a + 29, a + 30] M M' := by
  rw [l_world_askComes]
  refine wp_up fun M1 f1 g1 => ?_
  have ih := world_askComes_lp d a V L ha hok h0 h10 10 0 M1 (by omega) (rWd_fr hw fun k _ _ => f1 k (by simp; omega)) (rLaw_fr hL fun k _ _ _ => f1 k (by simp; omega)) (by rw [g1, if_pos rfl]; rfl) (fun j hj => by omega)
  exact wp_mono ih fun r M' h => ⟨h.1, h.2.1, h.2.2.1, fr_tr f1 h.2.2.2 (by simp) (by simp)⟩
theorem world_greatestCome_lp (d a : Nat) (V : aW) (L : aLaw) (ha : isWo a) (h10 : V 41 ≤ 10) (M : aM) (hw : rWd (a + 1) V M) (hc : ∀ j, j < 10 → M (a + 30) j = comA V L j) : ∀ (f i : Nat), i + f = 10 →
    w_world_greatestCome_4 (d + 2) a (bestC V L i) i M = some ([aI (bestC V L 10)], M)
  | 0, i, h => by
    rw [u_world_greatestCome_4, if_neg (by omega), show i = 10 by omega]
  | f + 1, i, h => by
    rw [u_world_greatestCome_4, if_pos (by omega), wood_isAlive_eq _ (a + 1) i V M hw h10, bndI_s, wl30 ha]
    have ih := world_greatestCome_lp d a V L ha h10 M hw hc f (i + 1) (by omega)
    simp (disch := omega) only [w32_i]
    cases hal : al V i with
    | false =>
      rw [if_pos (show bI false = 0 from rfl)]
      rw [show bestC V L (i + 1) = bestC V L i by simp [bestC, hal]] at ih
      exact ih
    | true =>
      rw [if_neg (show ¬ bI true = 0 by decide)]
      rcases bestC_in V L i with hb | ⟨j, hj, hb, haj⟩
      · rw [if_pos hb]
        rw [show bestC V L (i + 1) = i by simp [bestC, hal, hb]] at ih
        exact ih
      · rw [if_neg (by omega), inb_s (by omega) (by omega), inb_s (by omega) (by omega), hb, tn_n, tn_n, hc i (by omega), hc j (by omega)]
        rw [show comA V L i = come V L i by simp [comA, hal], show comA V L j = come V L j by simp [comA, haj]]
        by_cases hlt : come V L j < come V L i
        · rw [if_pos hlt]
          rw [show bestC V L (i + 1) = i by simp [bestC, hal, hb, hlt]] at ih
          exact ih
        · rw [if_neg hlt]
          rw [show bestC V L (i + 1) = j by simp [bestC, hal, hb, hlt] <;> omega] at ih
          exact ih
theorem world_greatestCome_eq (d a : Nat) (V : aW) (L : aLaw) (ha : isWo a) (h10 : V 41 ≤ 10) (M : aM) (hw : rWd (a + 1) V M) (hc : ∀ j, j < 10 → M (a + 30) j = comA V L j) : w_world_greatestCome (d + 3) a M = some ([aI (bestC V L 10)], M) := by
  rw [u_world_greatestCome]
  exact world_greatestCome_lp d a V L ha h10 M hw hc 10 0 (by omega)
theorem world_drawnDeer_lp (d a : Nat) (V : aW) (L : aLaw) (x : Int) (ha : isWo a) (M : aM) (hc : ∀ j, j < 10 → M (a + 30) j = comA V L j) (hx : x < 2147483648) : ∀ (f i : Nat), i + f = 10 → sumC V L i ≤ x →
    w_world_drawnDeer_53 d a (x - sumC V L i) i M = some ([aI (drawC V L x f i)], M)
  | 0, i, h, hs => by
    rw [u_world_drawnDeer_53, if_neg (by omega)]; rfl
  | f + 1, i, h, hs => by
    have hsi := sumC_in V L i
    have hci := comA_in V L i
    rw [u_world_drawnDeer_53, if_pos (by omega), wl30 ha, inb_s (by omega) (by omega), tn_n, hc i (by omega)]
    simp (disch := omega) only [w32_i]
    have e : x - sumC V L i - comA V L i = x - sumC V L (i + 1) := by simp only [sumC]; omega
    rw [e]
    simp only [drawC]
    by_cases h2 : x < sumC V L (i + 1)
    · rw [if_pos (by omega), if_pos h2]
    · rw [if_neg (by omega), if_neg h2]
      exact world_drawnDeer_lp d a V L x ha M hc hx f (i + 1) (by omega) (by omega)
