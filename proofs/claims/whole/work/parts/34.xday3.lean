/-! A day in the class: dues, wolves, the whole day. -/
def okA (V : aW) : Prop := ∃ x n : Nat, V 10 = x ∧ V 41 = n ∧ x < 2 ^ n ∧ n ≤ 10
theorem okA_al {V : aW} (h : okA V) (h0 : V 10 ≠ 0) : ∃ j : Nat, (j : Int) < V 41 ∧ al V j = true := by
  obtain ⟨x, n, hx, hn, hlt, h10⟩ := h
  have hp : 2 ^ n ≤ 2 ^ 10 := Nat.pow_le_pow_right (by omega) h10
  have hx0 : x ≠ 0 := by omega
  obtain ⟨j, hj⟩ := Nat.exists_testBit_of_ne_zero hx0
  have hjn : j < n := by
    refine Nat.lt_of_not_le fun h => ?_
    rw [tb_lt hlt h] at hj
    simp at hj
  refine ⟨j, by omega, ?_⟩
  unfold al
  have := bit_nat (x := x) (i := j) (by omega) (by omega)
  rw [hj] at this
  unfold bit at this
  rw [hx]
  exact decide_eq_true ⟨by omega, by omega, of_decide_eq_true this⟩
theorem lcC_al {V : aW} {j : Nat} (h : al V j = true) : ∀ k, j < k → lcC V k ≠ -1
  | 0, hk => by omega
  | k + 1, hk => by
    simp only [lcC]
    split
    · omega
    · next hn =>
      intro he
      by_cases hjk : j = k
      · subst hjk
        exact hn ⟨h, Or.inl he⟩
      · exact lcC_al h k (by omega) he
theorem wood_leastCalm_lp (d b : Nat) (V : aW) (n : Nat) (hn : V 41 = n) (h10 : n ≤ 10) (l2 : aLen (b + 2) = 10) (M : aM) (hw : rWd b V M) : ∀ (f i : Nat), i + f = n →
    w_wood_leastCalm_4 (d + 2) b (lcC V i) i M = some ([aI (lcC V 10)], M)
  | 0, i, h => by
    rw [u_wood_leastCalm_4, hw.1, if_neg (by omega), show i = n by omega, lcC_hi hn 10 h10]
  | f + 1, i, h => by
    have hc := hw.2.2.2.2.2.2.2.2.2.2.2.2.2.2.1
    have ih := wood_leastCalm_lp d b V n hn h10 l2 M hw f (i + 1) (by omega)
    rw [u_wood_leastCalm_4, hw.1, if_pos (by omega), if_pos (by omega), wood_isAlive_eq _ b i V M hw (by omega), bndI_s, l2]
    simp (disch := omega) only [w32_i]
    cases hal : al V i with
    | false =>
      rw [if_pos (show bI false = 0 from rfl)]
      rw [show lcC V (i + 1) = lcC V i by simp [lcC, hal]] at ih
      exact ih
    | true =>
      rw [if_neg (show ¬ bI true = 0 by decide)]
      rcases lcC_in V i with hb | ⟨j, hj, hb, haj⟩
      · rw [if_pos hb]
        rw [show lcC V (i + 1) = i by simp [lcC, hal, hb]] at ih
        exact ih
      · rw [if_neg (by omega), inb_s (by omega) (by omega), inb_s (by omega) (by omega), hb, tn_n, tn_n, hc i (by omega), hc j (by omega)]
        by_cases hlt : V (11 + i) < V (11 + j)
        · rw [if_pos hlt]
          rw [show lcC V (i + 1) = i by simp [lcC, hal, hb, hlt]] at ih
          exact ih
        · rw [if_neg hlt]
          rw [show lcC V (i + 1) = j by simp [lcC, hal, hb, hlt] <;> omega] at ih
          exact ih
theorem wood_leastCalm_eq (d b : Nat) (V : aW) (n : Nat) (hn : V 41 = n) (h10 : n ≤ 10) (l2 : aLen (b + 2) = 10) (M : aM) (hw : rWd b V M) : w_wood_leastCalm (d + 3) b M = some ([aI (lcC V 10)], M) := by
  rw [u_wood_leastCalm]
  exact wood_leastCalm_lp d b V n hn h10 l2 M hw n 0 (by omega)
theorem world_wolves_eq (d a : Nat) (V : aW) (L : aLaw) (M : aM) (ha : isWo a) (h : rW true a V L M) (hN : okN V) (hA : okA V) (h42 : 0 ≤ V 42) :
    wp (w_world_sendWolves (d + 4) a M) fun r M' => r = [] ∧ rW true a (pWolves V) L M' ∧ fW a M M' := by
  rw [l_world_sendWolves]
  rw [(rW_wd h).2.2.2.2.2.1, (rW_wd h).2.1]
  unfold pWolves
  refine wp_if (fun h1 => ?_) (fun h1 => ?_)
  · refine wp_if (fun h2 => ?_) (fun h2 => ?_)
    · rw [if_pos (Or.inr h2)]
      exact wp_ret ⟨rfl, h, fW_refl _ _⟩
    · rw [if_neg (show ¬ (V 42 = 0 ∨ V 10 = 0) by omega)]
      refine wp_bI (P := fun v M' => v = drw V 1000 ∧ rW true a (vS V 7 (rnd (V 7))) L M' ∧ fr [a + 1] M M') (wp_mono (wood_draw_eq _ a true V L 1000 M h hN (by decide)) ?_) ?_
      · rintro r M' ⟨e, w, f⟩; exact ⟨_, e, rfl, w, f⟩
      · rintro v M1 ⟨e, w1, f1⟩
        rw [(rW_wd w1).2.2.2.2.2.1, vS_ne (show 42 ≠ 7 by omega), e]
        refine wp_if (fun hv => ?_) (fun hv => ?_)
        · rw [if_pos hv]
          obtain ⟨j, hj1, hj2⟩ := okA_al hA h2
          obtain ⟨x, n, hx, hn, hlt, h10⟩ := hA
          have el : lcC (vS V 7 (rnd (V 7))) 10 = lcC V 10 := lcC_V (vS_ne (by omega)) (vS_ne (by omega)) (fun k _ _ => vS_ne (by omega)) 10 (by omega)
          refine wp_eI (wood_leastCalm_eq _ (a + 1) _ n (by rw [vS_ne (by omega), hn]) h10 (wl3 ha) M1 (rW_wd w1)) ?_
          rw [el]
          refine wp_neg (lcC_al hj2 10 (by omega)) ?_
          rw [(rW_wd w1).2.1, vS_ne (show 10 ≠ 7 by omega)]
          refine wp_up fun M2 f2 g2 => ?_
          have w2 := rW_s (k := 10) w1 (okN_V hN fun k _ _ => vS_ne (by omega)) f2 g2 (by omega)
          rw [(rW_wd w2).2.2.2.2.2.2.2.2.2.2.1]
          refine wp_bI (P := fun _ M' => rW true a (pNote true (vS (vS V 7 (rnd (V 7))) 10 (iand (V 10) (ixor (ishl 1 (lcC V 10)) (-1)))) 4 (lcC V 10) 0) L M' ∧ fr [a + 17, a + 18] M2 M') (wp_mono (book_put _ a true _ L 4 _ 0 M2 ha w2 (okN_V hN fun k _ _ => by rw [vS_ne (by omega), vS_ne (by omega)])) ?_) ?_
          · rintro r M' ⟨b, e, w, f⟩; exact ⟨b, e, w, f⟩
          · rintro v M3 ⟨w3, f3⟩
            exact wp_ret ⟨rfl, w3, fW_tr (fW_fr f1 (by simp)) (fW_tr (fW_fr f2 (by simp)) (fW_fr f3 (by simp)))⟩
        · rw [if_neg hv]
          exact wp_ret ⟨rfl, w1, fW_fr f1 (by simp)⟩
  · rw [if_pos (Or.inl (show V 42 = 0 by omega))]
    exact wp_ret ⟨rfl, h, fW_refl _ _⟩
theorem wood_isPaid_eq (d b i : Nat) (V : aW) (M : aM) (h : M b 16 = V 9) (hi : i < 16) : w_wood_isPaid (d + 1) b i M = some ([aI (if iand (ishr (V 9) i) 1 = 1 then 1 else 0)], M) := by
  rw [u_wood_isPaid, if_neg (by omega), if_pos (by omega), h]
  split <;> rfl
theorem world_pays_lp (d a : Nat) (tr : Bool) (L : aLaw) (n46 : Nat) (ha : isWo a) (h16 : n46 ≤ 16) : ∀ (f i : Nat) (V : aW) (M : aM), i + f = n46 → V 46 = n46 → (0 ≤ V 8 ∧ V 8 ≤ 150) → V 1 ≠ -1 → rW tr a V L M → okN V →
    wp (w_world_payDues_2 (d + 3) a i M) fun r M' => r = [] ∧ rW tr a (pPays tr f i V) L M' ∧ fW a M M'
  | 0, i, V, M, h, h46, h8, h1, hw, hN => by
    rw [l_world_payDues_2]
    refine wp_neg (by rw [(rW_row2 hw).2.1]; omega) ?_
    exact wp_ret ⟨rfl, hw, fW_refl _ _⟩
  | f + 1, i, V, M, h, h46, h8, h1, hw, hN => by
    rw [l_world_payDues_2]
    obtain ⟨r0, r2, rc⟩ := rW_row2 hw
    have n1 : ∀ k, k ≠ 8 → (k ≠ 9 ∧ k ≠ 2) → (k < 284 ∨ 884 ≤ k) → pPay tr V i k = V k := fun k b c e => pPay_ne h8 b c e
    have next : ∀ M1, rW tr a (pPay tr V i) L M1 → fW a M M1 → wp (w_world_payDues_2 (d + 3) a ((i : Int) + 1) M1) fun r M' => r = [] ∧ rW tr a (pPays tr (f + 1) i V) L M' ∧ fW a M M' := by
      intro M1 w1 f1
      have ih := world_pays_lp d a tr L n46 ha h16 f (i + 1) _ M1 (by omega) (by rw [n1 46 (by omega) (by omega) (by omega), h46]) (pPay_8 h8) (by rw [n1 1 (by omega) (by omega) (by omega)]; exact h1) w1 (okN_V hN fun k _ _ => n1 k (by omega) (by omega) (by omega))
      exact wp_mono ih fun r M' h => ⟨h.1, h.2.1, fW_tr f1 h.2.2⟩
    have skip : (iand (ishr (V 9) i) 1 = 1 ∨ V 1 = -1 ∨ V (112 + 3 * i) ≠ V 1 ∨ V 0 ≤ V (113 + 3 * i)) → wp (w_world_payDues_2 (d + 3) a ((i : Int) + 1) M) fun r M' => r = [] ∧ rW tr a (pPays tr (f + 1) i V) L M' ∧ fW a M M' := by
      intro hc
      refine next M ?_ (fW_refl _ _)
      unfold pPay
      rw [if_pos hc]
      exact hw
    have skip47 : (iand (ishr (V 9) i) 1 = 1 ∨ V 1 = -1 ∨ V (112 + 3 * i) ≠ V 1 ∨ V 0 ≤ V (113 + 3 * i)) → wp (w_world_payDues_47 (d + 3) a (i : Int) M) fun r M' => r = [] ∧ rW tr a (pPays tr (f + 1) i V) L M' ∧ fW a M M' := by
      intro hc
      rw [l_world_payDues_47]
      refine wp_pos rfl ?_
      refine wp_I ?_
      (try simp (disch := omega) only [w32_i, tn_l, tn_n, tn_r, tn_s, tn_1, Nat.add_sub_cancel, Int.reduceToNat, Int.toNat_zero, Int.toNat_one, al3, al4, al5, al6, al8, al9, al11, al13, al15, al17, al19, al21, al23, al25, al27, al29, al30, al31, al95, al96, al128, al129, al130, al131, al134, al135, al137, al139, al140, al142, al143, al144, al145, al147, al148, al149, al151, al152, al153, al154, al155, al156, al158, al159, al160, al161, al162, al163, al164, al165, al166, al167, al168, al169, al170, al171, al172, al173, al174, al175, al176])
      exact skip hc
    have lc : ∀ (j : Nat) (hj : j < 4) (d' : Nat) (M1 : aM), M1 (a + 13) 2 = V 46 → w_rows_cell (d' + 2) (a + 13) i j M1 = some ([aI (M1 (a + 13 + 1) (4 * i + j))], M1) := fun j hj d' M1 h2 => rows_cell_eq d' (a + 13) i j M1 (by omega) hj (by rw [show a + 13 + 1 = a + 14 from rfl, wl14 ha]; omega) (by omega)
    have c0 : M (a + 13 + 1) (4 * i + 0) = V (111 + 3 * i) := (rc i 0 (by omega) (by decide)).trans (by simp)
    have c1 : M (a + 13 + 1) (4 * i + 1) = V (112 + 3 * i) := (rc i 1 (by omega) (by decide)).trans (by rw [show 112 + 3 * i = 111 + 3 * i + 1 by omega])
    have c2 : M (a + 13 + 1) (4 * i + 2) = V (113 + 3 * i) := (rc i 2 (by omega) (by decide)).trans (by rw [show 113 + 3 * i = 111 + 3 * i + 2 by omega])
    refine wp_pos (by omega) ?_
    refine wp_eI (wood_isPaid_eq _ (a + 1) i V M (rW_wd hw).2.2.2.2.2.2.2.2.2.2.2.2.1 (by omega)) ?_
    by_cases hp : iand (ishr (V 9) i) 1 = 1
    · rw [if_pos hp]
      refine wp_neg (by decide) ?_
      exact skip47 (Or.inl hp)
    rw [if_neg hp]
    refine wp_pos rfl ?_
    refine wp_eI (lc 1 (by decide) _ M r2) ?_
    rw [c1, (rW_wd hw).2.2.2.2.2.2.2.1]
    refine wp_if (fun hd => ?_) (fun hd => ?_)
    · refine wp_neg (by decide) ?_
      refine wp_eI (lc 2 (by decide) _ M r2) ?_
      rw [c2, (rW_wd hw).2.2.2.2.2.2.2.2.2.2.1]
      refine wp_if (fun ht => ?_) (fun ht => ?_)
      · rw [(rW_wd hw).2.2.2.2.2.2.2.2.2.2.2.2.1]
        refine wp_up fun M1 f1 g1 => ?_
        have w1 := rW_s (k := 9) hw hN f1 g1 (by omega)
        refine wp_eI (lc 0 (by decide) _ M1 (by rw [f1 _ (by simp), r2])) ?_
        rw [f1 (a + 13 + 1) (by simp), c0, (rW_wd w1).2.2.2.2.2.2.2.2.1, vS_ne (show 2 ≠ 9 by omega)]
        refine wp_up fun M2 f2 g2 => ?_
        have hN1 := okN_V hN (V' := vS V 9 (ior (V 9) (ishl 1 i))) fun k _ _ => vS_ne (by omega)
        have w2 := rW_s (k := 2) w1 hN1 f2 g2 (by omega)
        refine wp_eI (lc 0 (by decide) _ M2 (by rw [f2 _ (by simp), f1 _ (by simp), r2])) ?_
        rw [f2 (a + 13 + 1) (by simp), f1 (a + 13 + 1) (by simp), c0, (rW_wd w2).2.2.2.2.2.2.2.2.2.2.1]
        refine wp_bI (P := fun _ M' => rW tr a (pPay tr V i) L M' ∧ fr [a + 17, a + 18] M2 M') (wp_mono (book_put _ a tr _ L 2 i (V (111 + 3 * i)) M2 ha w2 (okN_V hN1 fun k _ _ => vS_ne (by omega))) ?_) ?_
        · rintro r M' ⟨b, e, w, f⟩
          refine ⟨b, e, ?_, f⟩
          unfold pPay
          rw [if_neg (by omega)]
          exact w
        · rintro v M3 ⟨w3, f3⟩
          refine wp_I ?_
          (try simp (disch := omega) only [w32_i, tn_l, tn_n, tn_r, tn_s, tn_1, Nat.add_sub_cancel, Int.reduceToNat, Int.toNat_zero, Int.toNat_one, al3, al4, al5, al6, al8, al9, al11, al13, al15, al17, al19, al21, al23, al25, al27, al29, al30, al31, al95, al96, al128, al129, al130, al131, al134, al135, al137, al139, al140, al142, al143, al144, al145, al147, al148, al149, al151, al152, al153, al154, al155, al156, al158, al159, al160, al161, al162, al163, al164, al165, al166, al167, al168, al169, al170, al171, al172, al173, al174, al175, al176])
          exact next M3 w3 (fW_tr (fW_fr f1 (by simp)) (fW_tr (fW_fr f2 (by simp)) (fW_fr f3 (by simp))))
      · refine wp_I ?_
        (try simp (disch := omega) only [w32_i, tn_l, tn_n, tn_r, tn_s, tn_1, Nat.add_sub_cancel, Int.reduceToNat, Int.toNat_zero, Int.toNat_one, al3, al4, al5, al6, al8, al9, al11, al13, al15, al17, al19, al21, al23, al25, al27, al29, al30, al31, al95, al96, al128, al129, al130, al131, al134, al135, al137, al139, al140, al142, al143, al144, al145, al147, al148, al149, al151, al152, al153, al154, al155, al156, al158, al159, al160, al161, al162, al163, al164, al165, al166, al167, al168, al169, al170, al171, al172, al173, al174, al175, al176])
        exact skip (by omega)
    · exact skip47 (by omega)
theorem pPays_mist (tr : Bool) : ∀ (f i : Nat) (V : aW), V 1 = -1 → pPays tr f i V = V
  | 0, _, _, _ => rfl
  | f + 1, i, V, h => by
    simp only [pPays]
    have e : pPay tr V i = V := by unfold pPay; rw [if_pos (Or.inr (Or.inl h))]
    rw [e]
    exact pPays_mist tr f (i + 1) V h
theorem world_116_eq (d a : Nat) (tr : Bool) (V : aW) (L : aLaw) (who : Int) (M : aM) (h : rW tr a V L M) (hN : okN V) :
    wp (w_world_passDay_116 d a who M) fun r M' => r = [aI (if who = -1 then 1 else 0)] ∧ rW tr a (pEnd V) L M' ∧ fW a M M' := by
  rw [l_world_passDay_116]
  rw [(rW_wd h).2.2.1]
  refine wp_up fun M1 f1 g1 => ?_
  have w1 := rW_s (k := 4) h hN f1 g1 (by omega)
  have hN1 := okN_V hN (V' := vS V 4 (imax 0 (w32 (V 4 - 1)))) fun k _ _ => vS_ne (by omega)
  rw [(rW_wd w1).2.2.2.1, vS_ne (show 5 ≠ 4 by omega)]
  refine wp_up fun M2 f2 g2 => ?_
  have w2 := rW_s (k := 5) w1 hN1 f2 g2 (by omega)
  rw [(rW_wd w2).2.2.2.2.2.2.2.2.2.2.1, vS_ne (show 0 ≠ 5 by omega), vS_ne (show 0 ≠ 4 by omega)]
  refine wp_up fun M3 f3 g3 => ?_
  have w3 := rW_s (k := 0) w2 (okN_V hN1 fun k _ _ => vS_ne (by omega)) f3 g3 (by omega)
  have hf := fW_tr (fW_fr f1 (a := a) (by simp)) (fW_tr (fW_fr f2 (by simp)) (fW_fr f3 (by simp)))
  refine wp_if (fun hw => ?_) (fun hw => ?_)
  · exact wp_ret ⟨by rw [if_pos hw], w3, hf⟩
  · exact wp_ret ⟨by rw [if_neg hw], w3, hf⟩
