/-! A day in the class: the rest. -/
def okP (V : aW) : Prop := ∀ i : Nat, (i : Int) < V 45 → (8 ≤ V (64 + 3 * i) ∧ V (64 + 3 * i) ≤ 12) ∧ (11 ≤ V (64 + 3 * i) → 0 ≤ V (65 + 3 * i) ∧ V (65 + 3 * i) < V 41) ∧ (V (64 + 3 * i) ≤ 9 → 0 ≤ V (65 + 3 * i) ∧ V (65 + 3 * i) ≤ 99)
theorem okP_V {V V' : aW} (h : okP V) (hv : ∀ k, k = 41 ∨ k = 45 ∨ 63 ≤ k ∧ k < 111 → V' k = V k) (h45 : V 45 ≤ 16) : okP V' := by
  intro i hi
  rw [hv 45 (by omega)] at hi
  rw [hv (64 + 3 * i) (by omega), hv (65 + 3 * i) (by omega), hv 41 (by omega)]
  exact h i hi
theorem wood_isAlive_e2 (d b : Nat) (v : Int) (V : aW) (M : aM) (h4 : M b 4 = V 41) (h5 : M b 5 = V 10) (h10 : V 41 ≤ 10) : w_wood_isAlive (d + 2) b v M = some ([aI (bI (al V v))], M) := by
  rw [u_wood_isAlive, wood_has_eq d b v V M h4 h10, bndI_s, h5]
  unfold al
  by_cases h1 : 0 ≤ v ∧ v < V 41
  · rw [decide_eq_true h1, bI_t, if_neg (by decide)]
    by_cases h2 : iand (ishr (V 10) v) 1 = 1
    · rw [if_pos h2, decide_eq_true ⟨h1.1, h1.2, h2⟩]; rfl
    · rw [if_neg h2, decide_eq_false fun e => h2 e.2.2]; rfl
  · rw [decide_eq_false h1, decide_eq_false fun e => h1 ⟨e.1, e.2.1⟩]; rfl
theorem rW_row1 {tr : Bool} {a : Nat} {V : aW} {L : aLaw} {M : aM} (h : rW tr a V L M) : rRow (a + 11) 16 (V 45) (fun i j => V (63 + 3 * i + j) - (if j = 1 then 7 else 0)) 3 M := h.1.2.1.1
theorem rW_row2 {tr : Bool} {a : Nat} {V : aW} {L : aLaw} {M : aM} (h : rW tr a V L M) : rRow (a + 13) 16 (V 46) (fun i j => V (111 + 3 * i + j)) 3 M := h.1.2.1.2.1
theorem world_line_eq (d a : Nat) (tr : Bool) (V : aW) (L : aLaw) (i : Nat) (M : aM) (ha : isWo a) (h : rW tr a V L M) (hN : okN V) (hP : okP V) (h10 : V 41 ≤ 10) (hi : (i : Int) < V 45) :
    wp (w_world_followLine (d + 3) a (V (64 + 3 * i) - 7) (V (65 + 3 * i)) M) fun r M' => r = [] ∧ rW tr a (pDoes tr V i) L M' ∧ fW a M M' := by
  rw [l_world_followLine]
  obtain ⟨p1, p2, p3⟩ := hP i hi
  unfold pDoes
  refine wp_if (fun h1 => ?_) (fun h1 => ?_)
  · rw [if_pos (show V (64 + 3 * i) = 8 by omega)]
    refine wp_up fun M1 f1 g1 => ?_
    exact wp_ret ⟨rfl, rW_s h hN f1 g1 (by omega), fW_fr f1 (by simp)⟩
  rw [if_neg (show ¬ V (64 + 3 * i) = 8 by omega)]
  refine wp_if (fun h2 => ?_) (fun h2 => ?_)
  · rw [if_pos (show V (64 + 3 * i) = 9 by omega)]
    refine wp_up fun M1 f1 g1 => ?_
    exact wp_ret ⟨rfl, rW_s h hN f1 g1 (by omega), fW_fr f1 (by simp)⟩
  rw [if_neg (show ¬ V (64 + 3 * i) = 9 by omega)]
  refine wp_if (fun h3 => ?_) (fun h3 => ?_)
  · rw [if_pos (show V (64 + 3 * i) = 10 by omega)]
    refine wp_up fun M1 f1 g1 => ?_
    rw [(rW_wd h).2.2.2.2.1] at g1
    exact wp_ret ⟨rfl, rW_s h hN f1 g1 (by omega), fW_fr f1 (by simp)⟩
  rw [if_neg (show ¬ V (64 + 3 * i) = 10 by omega)]
  have p2 := p2 (by omega)
  refine wp_eI (wood_has_eq _ (a + 1) _ V M (rW_wd h).1 h10) ?_
  rw [decide_eq_true p2]
  refine wp_neg (by decide) ?_
  refine wp_eI (wood_isAlive_eq _ (a + 1) _ V M (rW_wd h) h10) ?_
  by_cases h4 : V (64 + 3 * i) = 11
  · rw [if_pos h4]
    refine wp_pos (by omega) ?_
    cases ha' : al V (V (65 + 3 * i)) with
    | true =>
      refine wp_pos rfl ?_
      refine wp_pos (by omega) ?_
      refine wp_bV (world_eat_eq _ a tr V L _ true M ha h hN) ?_
      rintro M1 ⟨w1, f1⟩
      exact wp_ret ⟨rfl, by simpa using w1, f1⟩
    | false =>
      refine wp_neg (by decide) ?_
      exact wp_ret ⟨rfl, by simpa using h, fW_refl _ _⟩
  · rw [if_neg h4]
    refine wp_neg (by omega) ?_
    cases ha' : al V (V (65 + 3 * i)) with
    | true =>
      refine wp_neg (by decide) ?_
      exact wp_ret ⟨rfl, by simpa using h, fW_refl _ _⟩
    | false =>
      refine wp_pos rfl ?_
      refine wp_neg (by omega) ?_
      refine wp_bV (world_eat_eq _ a tr V L _ false M ha h hN) ?_
      rintro M1 ⟨w1, f1⟩
      exact wp_ret ⟨rfl, by simpa using w1, f1⟩
theorem rW_8 {tr : Bool} {a : Nat} {V : aW} {L : aLaw} {M : aM} (h : rW tr a V L M) : tr = true → 0 ≤ V 8 ∧ V 8 ≤ 150 := by
  intro ht
  have h1 := (h.2 ht).2.1
  have h2 := h.1.2.2.2.2
  rw [h1] at h2
  exact h2
theorem pEats_f {V : aW} {x : Int} {is : Bool} : pEats false V x is = vS V 10 (if is = true then iand (V 10) (ixor (ishl 1 x) (-1)) else ior (V 10) (ishl 1 x)) := by
  unfold pEats pNote; simp
theorem world_plan_lp (d a : Nat) (tr : Bool) (L : aLaw) (n45 : Nat) (ha : isWo a) (h16 : n45 ≤ 16) : ∀ (f i : Nat) (V : aW) (M : aM), i + f = n45 → V 45 = n45 → (0 ≤ V 8 ∧ V 8 ≤ 150) → rW tr a V L M → okN V → okP V → V 41 ≤ 10 →
    wp (w_world_followPlan_2 (d + 3) a i M) fun r M' => r = [] ∧ rW tr a (pPlan tr f i V) L M' ∧ fW a M M'
  | 0, i, V, M, h, h45, h8, hw, hN, hP, h10 => by
    rw [l_world_followPlan_2]
    refine wp_neg (by rw [(rW_row1 hw).2.1]; omega) ?_
    exact wp_ret ⟨rfl, hw, fW_refl _ _⟩
  | f + 1, i, V, M, h, h45, h8, hw, hN, hP, h10 => by
    rw [l_world_followPlan_2]
    obtain ⟨r0, r2, rc⟩ := rW_row1 hw
    refine wp_pos (by omega) ?_
    refine wp_eI (rows_cell_eq _ (a + 11) i 0 M (by omega) (by decide) (by rw [show a + 11 + 1 = a + 12 from rfl, wl12 ha]; omega) (by omega)) ?_
    rw [show M (a + 11 + 1) (4 * i + 0) = V (63 + 3 * i) from (rc i 0 (by omega) (by decide)).trans (by simp), (rW_wd hw).2.2.2.2.2.2.2.2.2.2.1]
    refine wp_if (fun hc => ?_) (fun hc => ?_)
    · refine wp_eI (rows_cell_eq _ (a + 11) i 1 M (by omega) (by decide) (by rw [show a + 11 + 1 = a + 12 from rfl, wl12 ha]; omega) (by omega)) ?_
      refine wp_eI (rows_cell_eq _ (a + 11) i 2 M (by omega) (by decide) (by rw [show a + 11 + 1 = a + 12 from rfl, wl12 ha]; omega) (by omega)) ?_
      rw [show M (a + 11 + 1) (4 * i + 1) = V (64 + 3 * i) - 7 from (rc i 1 (by omega) (by decide)).trans (by rw [show 64 + 3 * i = 63 + 3 * i + 1 by omega]; simp), show M (a + 11 + 1) (4 * i + 2) = V (65 + 3 * i) from (rc i 2 (by omega) (by decide)).trans (by rw [show 65 + 3 * i = 63 + 3 * i + 2 by omega]; simp)]
      refine wp_bV (world_line_eq _ a tr V L i M ha hw hN hP h10 (by omega)) ?_
      rintro M1 ⟨w1, f1⟩
      refine wp_I ?_
      (try simp (disch := omega) only [w32_i, tn_l, tn_n, tn_r, tn_s, tn_1, Nat.add_sub_cancel, Int.reduceToNat, Int.toNat_zero, Int.toNat_one, al3, al4, al5, al6, al8, al9, al11, al13, al15, al17, al19, al21, al23, al25, al27, al29, al30, al31, al95, al96, al128, al129, al130, al131, al134, al135, al137, al139, al140, al142, al143, al144, al145, al147, al148, al149, al151, al152, al153, al154, al155, al156, al158, al159, al160, al161, al162, al163, al164, al165, al166, al167, al168, al169, al170, al171, al172, al173, al174, al175, al176])
      have n1 : ∀ k, k ≠ 8 → k ≠ 10 → (k ≠ 4 ∧ k ≠ 5 ∧ k ≠ 6) → (k < 284 ∨ 884 ≤ k) → pDoes tr V i k = V k := fun k b c e g => pDoes_ne h8 b c e g
      have ih := world_plan_lp d a tr L n45 ha h16 f (i + 1) _ M1 (by omega) (by rw [n1 45 (by omega) (by omega) (by omega) (by omega), h45]) (pDoes_8 h8) w1 (okN_V hN fun k _ _ => n1 k (by omega) (by omega) (by omega) (by omega)) (okP_V hP (fun k _ => n1 k (by omega) (by omega) (by omega) (by omega)) (by omega)) (by rw [n1 41 (by omega) (by omega) (by omega) (by omega)]; exact h10)
      refine wp_mono ih ?_
      rintro r M' ⟨e, w, f'⟩
      refine ⟨e, ?_, fW_tr f1 f'⟩
      simp only [pPlan]
      rw [if_pos hc]
      exact w
    · refine wp_I ?_
      (try simp (disch := omega) only [w32_i, tn_l, tn_n, tn_r, tn_s, tn_1, Nat.add_sub_cancel, Int.reduceToNat, Int.toNat_zero, Int.toNat_one, al3, al4, al5, al6, al8, al9, al11, al13, al15, al17, al19, al21, al23, al25, al27, al29, al30, al31, al95, al96, al128, al129, al130, al131, al134, al135, al137, al139, al140, al142, al143, al144, al145, al147, al148, al149, al151, al152, al153, al154, al155, al156, al158, al159, al160, al161, al162, al163, al164, al165, al166, al167, al168, al169, al170, al171, al172, al173, al174, al175, al176])
      have ih := world_plan_lp d a tr L n45 ha h16 f (i + 1) V M (by omega) h45 h8 hw hN hP h10
      refine wp_mono ih ?_
      rintro r M' ⟨e, w, f'⟩
      refine ⟨e, ?_, f'⟩
      simp only [pPlan]
      rw [if_neg hc]
      exact w
theorem wood_draw_eq (d a : Nat) (tr : Bool) (V : aW) (L : aLaw) (m : Int) (M : aM) (h : rW tr a V L M) (hN : okN V) (hm : 0 < m) :
    wp (w_wood_draw (d + 1) (a + 1) m M) fun r M' => r = [aI (drw V m)] ∧ rW tr a (vS V 7 (rnd (V 7))) L M' ∧ fr [a + 1] M M' := by
  rw [l_wood_draw]
  have e15 := (rW_wd h).2.2.2.2.2.2.2.2.2.2.2.1
  rw [e15, Int.mul_comm (V 7) 1664525]
  refine wp_up fun M1 f1 g1 => ?_
  refine wp_pos hm ?_
  refine wp_none (by omega) ?_
  refine wp_ret ⟨?_, rW_s h hN f1 g1 (by omega), f1⟩
  rw [g1, if_pos rfl]; rfl
theorem world_drawn_eq (d a : Nat) (tr : Bool) (V : aW) (L : aLaw) (M : aM) (ha : isWo a) (h : rW tr a V L M) (hN : okN V) (hs : M a 13 = sumC V L 10) (hc : ∀ j, j < 10 → M (a + 30) j = comA V L j) :
    wp (w_world_drawnDeer (d + 2) a M) fun r M' => r = [aI (pDawn true V L).2] ∧ rW tr a (pDawn true V L).1 L M' ∧ fW a M M' := by
  rw [l_world_drawnDeer]
  have hsi := sumC_in V L 10
  have hd1 : ∀ k, k < 44 ∨ 53 ≤ k ∧ k < 63 → k ≠ 7 → vS V 7 (rnd (V 7)) k = V k := fun k _ hk => vS_ne hk
  have tail : ∀ (V1 : aW) (M1 : aM), V1 = dawn1 V → ¬ (0 < V 43 ∧ drw V 1000 < V 43) → rW tr a V1 L M1 → fr [a + 1] M M1 → wp (if 0 < M1 a 13 then bndI (w_wood_draw (d + 1) (a + 1) (M1 a 13) M1) fun y15 M14 => w_world_drawnDeer_53 (d + 1) a y15 0 M14 else some ([aI (-1)], M1)) fun r M' => r = [aI (pDawn true V L).2] ∧ rW tr a (pDawn true V L).1 L M' ∧ fW a M M' := by
    intro V1 M1 e1 hm w1 f1
    have hv : ∀ k, k ≠ 7 → V1 k = V k := fun k hk => by rw [e1]; exact dawn1_ne hk
    rw [f1 a (by simp), hs]
    by_cases h0 : sumC V L 10 = 0
    · refine wp_neg (by omega) ?_
      refine wp_ret ⟨?_, ?_, fW_fr f1 (by simp)⟩
      · simp only [pDawn, if_true]; rw [if_neg hm, if_pos h0]
      · simp only [pDawn, if_true]; rw [if_neg hm, if_pos h0, ← e1]; exact w1
    · refine wp_pos (by omega) ?_
      refine wp_bI (P := fun v M' => v = drw V1 (sumC V L 10) ∧ rW tr a (vS V1 7 (rnd (V1 7))) L M' ∧ fr [a + 1] M1 M') (wp_mono (wood_draw_eq _ a tr V1 L _ M1 w1 (okN_V hN fun k _ _ => hv k (by omega)) (by omega)) ?_) ?_
      · rintro r M' ⟨e, w, f⟩; exact ⟨_, e, rfl, w, f⟩
      · rintro v M2 ⟨e, w2, f2⟩
        have hx := drw_in V1 (m := sumC V L 10) (by omega) (by omega)
        have hl := world_drawnDeer_lp (d + 1) a V L v ha M2 (fun j hj => by rw [f2 _ (by simp), f1 _ (by simp), hc j hj]) (by omega) 10 0 (by omega) (by simp [sumC]; omega)
        rw [show v - sumC V L 0 = v by simp [sumC]] at hl
        refine ⟨_, _, hl, ?_, ?_, fW_tr (fW_fr f1 (by simp)) (fW_fr f2 (by simp))⟩
        · simp only [pDawn, if_true]; rw [if_neg hm, if_neg h0, ← e1, e]
        · simp only [pDawn, if_true]; rw [if_neg hm, if_neg h0, ← e1]; exact w2
  rw [(rW_wd h).2.2.2.2.2.2.1]
  refine wp_if (fun h43 => ?_) (fun h43 => ?_)
  · refine wp_bI (P := fun v M' => v = drw V 1000 ∧ rW tr a (vS V 7 (rnd (V 7))) L M' ∧ fr [a + 1] M M') (wp_mono (wood_draw_eq _ a tr V L 1000 M h hN (by decide)) ?_) ?_
    · rintro r M' ⟨e, w, f⟩; exact ⟨_, e, rfl, w, f⟩
    · rintro v M1 ⟨e, w1, f1⟩
      rw [(rW_wd w1).2.2.2.2.2.2.1, vS_ne (show 43 ≠ 7 by omega)]
      have ed : dawn1 V = vS V 7 (rnd (V 7)) := by unfold dawn1; rw [if_pos h43]
      refine wp_if (fun hv => ?_) (fun hv => ?_)
      · refine wp_ret ⟨?_, ?_, fW_fr f1 (by simp)⟩
        · simp only [pDawn, if_true]; rw [if_pos ⟨h43, by omega⟩]
        · simp only [pDawn, if_true]; rw [if_pos ⟨h43, by omega⟩, ed]; exact w1
      · exact tail _ M1 ed.symm (by omega) w1 f1
  · exact tail V M (by unfold dawn1; rw [if_neg h43]) (by omega) h (fr_refl _ _)
theorem world_dreamt_eq (d a : Nat) (V : aW) (L : aLaw) (M : aM) (ha : isWo a) (h : rWd (a + 1) V M) (h10 : V 41 ≤ 10) (hs : M a 13 = sumC V L 10) (hc : ∀ j, j < 10 → M (a + 30) j = comA V L j) :
    w_world_dreamtDeer (d + 4) a M = some ([aI (pDawn false V L).2], M) := by
  have hsi := sumC_in V L 10
  rw [u_world_dreamtDeer, hs]
  by_cases h0 : sumC V L 10 = 0
  · rw [if_neg (by omega)]; simp [pDawn, h0]
  · rw [if_pos (by omega), world_greatestCome_eq _ a V L ha h10 M h hc, bndI_s]; simp [pDawn, h0]
/-! those who wait, and the one who comes -/
theorem pB_calm (V : aW) (who h s : Int) (j : Nat) (hj : j < 10) : pB V who h s (11 + j) = if (j : Int) = who then imax 0 (w32 (V (11 + j) - s)) else V (11 + j) := by
  unfold pB
  rw [if_neg (by omega), if_neg (by omega), if_neg (by omega), if_neg (by omega), if_pos (by omega), show 11 + j - 11 = j by omega]
theorem pB_since (V : aW) (who h s : Int) (j : Nat) (hj : j < 10) : pB V who h s (21 + j) = if (j : Int) = who then 0 else if al V j = true then imin 999 (w32 (V (21 + j) + 1)) else V (21 + j) := by
  unfold pB
  rw [if_neg (by omega), if_neg (by omega), if_pos (by omega), show 21 + j - 21 = j by omega]
theorem pB_came (V : aW) (who h s : Int) (j : Nat) (hj : j < 10) : pB V who h s (31 + j) = if (j : Int) = who then w32 (V (31 + j) + 1) else V (31 + j) := by
  unfold pB
  rw [if_neg (by omega), if_neg (by omega), if_neg (by omega), if_pos (by omega), show 31 + j - 31 = j by omega]
theorem wood_bring_lp (d b : Nat) (V : aW) (who h s : Int) (n : Nat) (hn : V 41 = n) (h10 : n ≤ 10) (hw : who < n) (l2 : aLen (b + 2) = 10) (l3 : aLen (b + 3) = 10) (l4 : aLen (b + 4) = 10) : ∀ (f i : Nat) (M : aM), i + f = n → M b 4 = V 41 → M b 5 = V 10 → M b 13 = V 3 →
    (∀ j, j < 10 → M (b + 2) j = if j < i then pB V who h s (11 + j) else V (11 + j)) → (∀ j, j < 10 → M (b + 3) j = if j < i then pB V who h s (21 + j) else V (21 + j)) → (∀ j, j < 10 → M (b + 4) j = if j < i then pB V who h s (31 + j) else V (31 + j)) →
    wp (w_wood_bring_3 (d + 2) b who h s i M) fun r M' => r = [] ∧ fr [b, b + 2, b + 3, b + 4] M M' ∧ (∀ k, M' b k = if k = 13 then w32 (V 3 + h) else if k = 11 then who else M b k) ∧ (∀ j, j < 10 → M' (b + 2) j = pB V who h s (11 + j)) ∧ (∀ j, j < 10 → M' (b + 3) j = pB V who h s (21 + j)) ∧ (∀ j, j < 10 → M' (b + 4) j = pB V who h s (31 + j))
  | 0, i, M, hi, q4, q5, q13, g2, g3, g4 => by
    rw [l_wood_bring_3]
    refine wp_neg (by omega) ?_
    refine wp_up fun M1 f1 e1 => ?_
    rw [e1 13, if_neg (by omega), q13]
    refine wp_up fun M2 f2 e2 => ?_
    refine wp_ret ⟨rfl, fr_tr (fr_tt f1 f2) (fr_refl [] _) (by simp) (by simp), fun k => ?_, fun j hj => ?_, fun j hj => ?_, fun j hj => ?_⟩
    · rw [e2, e1]
    · rw [f2 _ (by simp), f1 _ (by simp), g2 j hj]
      split
      · rfl
      · rw [pB_calm _ _ _ _ _ hj, if_neg (by omega)]
    · rw [f2 _ (by simp), f1 _ (by simp), g3 j hj]
      split
      · rfl
      · rw [pB_since _ _ _ _ _ hj, if_neg (by omega), al_hi hn (by omega)]; simp
    · rw [f2 _ (by simp), f1 _ (by simp), g4 j hj]
      split
      · rfl
      · rw [pB_came _ _ _ _ _ hj, if_neg (by omega)]
  | f + 1, i, M, hi, q4, q5, q13, g2, g3, g4 => by
    rw [l_wood_bring_3, l2, l3, l4]
    refine wp_pos (by omega) ?_
    refine wp_pos (by omega) ?_
    have next : ∀ M1, fr [b, b + 2, b + 3, b + 4] M M1 → (∀ k, M1 b k = M b k) → (∀ j, M1 (b + 2) j = if j = i then pB V who h s (11 + i) else M (b + 2) j) → (∀ j, M1 (b + 3) j = if j = i then pB V who h s (21 + i) else M (b + 3) j) → (∀ j, M1 (b + 4) j = if j = i then pB V who h s (31 + i) else M (b + 4) j) →
        wp (w_wood_bring_3 (d + 2) b who h s ((i : Int) + 1) M1) fun r M' => r = [] ∧ fr [b, b + 2, b + 3, b + 4] M M' ∧ (∀ k, M' b k = if k = 13 then w32 (V 3 + h) else if k = 11 then who else M b k) ∧ (∀ j, j < 10 → M' (b + 2) j = pB V who h s (11 + j)) ∧ (∀ j, j < 10 → M' (b + 3) j = pB V who h s (21 + j)) ∧ (∀ j, j < 10 → M' (b + 4) j = pB V who h s (31 + j)) := by
      intro M1 f1 e1 k2 k3 k4
      have st : ∀ (A B : Nat → Int) (o : Nat), (∀ j, j < 10 → A j = if j < i then pB V who h s (o + j) else V (o + j)) → (∀ j, B j = if j = i then pB V who h s (o + i) else A j) → ∀ j, j < 10 → B j = if j < i + 1 then pB V who h s (o + j) else V (o + j) := by
        intro A B o hA hB j hj
        rw [hB]
        by_cases hji : j = i
        · rw [if_pos hji, if_pos (by omega), hji]
        · rw [if_neg hji, hA j hj]
          by_cases h2 : j < i
          · rw [if_pos h2, if_pos (by omega)]
          · rw [if_neg h2, if_neg (by omega)]
      have ih := wood_bring_lp d b V who h s n hn h10 hw l2 l3 l4 f (i + 1) M1 (by omega) (by rw [e1, q4]) (by rw [e1, q5]) (by rw [e1, q13]) (st _ _ 11 g2 k2) (st _ _ 21 g3 k3) (st _ _ 31 g4 k4)
      refine wp_mono ih ?_
      rintro r M' ⟨h1, h2, h3, h4⟩
      exact ⟨h1, fr_tt f1 h2, fun k => by rw [h3 k, e1 k], h4⟩
    refine wp_if (fun hw => ?_) (fun hw => ?_)
    · refine wp_inb ⟨by omega, by omega⟩ ?_
      refine wp_up fun M1 f1 e1 => ?_
      refine wp_inb ⟨by omega, by omega⟩ ?_
      refine wp_inb ⟨by omega, by omega⟩ ?_
      refine wp_up fun M2 f2 e2 => ?_
      refine wp_inb ⟨by omega, by omega⟩ ?_
      refine wp_inb ⟨by omega, by omega⟩ ?_
      refine wp_up fun M3 f3 e3 => ?_
      refine wp_I ?_
      (try simp (disch := omega) only [w32_i, tn_l, tn_n, tn_r, tn_s, tn_1, Nat.add_sub_cancel, Int.reduceToNat, Int.toNat_zero, Int.toNat_one, al3, al4, al5, al6, al8, al9, al11, al13, al15, al17, al19, al21, al23, al25, al27, al29, al30, al31, al95, al96, al128, al129, al130, al131, al134, al135, al137, al139, al140, al142, al143, al144, al145, al147, al148, al149, al151, al152, al153, al154, al155, al156, al158, al159, al160, al161, al162, al163, al164, al165, al166, al167, al168, al169, al170, al171, al172, al173, al174, al175, al176])
      simp only [tn_n] at e1 e2 e3
      rw [f1 _ (by simp), g4 i (by omega), if_neg (by omega)] at e2
      rw [f2 _ (by simp), f1 _ (by simp), g2 i (by omega), if_neg (by omega)] at e3
      refine next M3 (fr_tr f1 (fr_tr f2 f3 (l := [b + 4, b + 2]) (by simp) (by simp)) (by simp) (by simp)) (fun k => by rw [f3 _ (by simp), f2 _ (by simp), f1 _ (by simp)]) (fun j => ?_) (fun j => ?_) (fun j => ?_)
      · rw [e3, pB_calm _ _ _ _ _ (by omega), if_pos hw]
      · rw [f3 _ (by simp), f2 _ (by simp), e1, pB_since _ _ _ _ _ (by omega), if_pos hw]
      · rw [f3 _ (by simp), e2, pB_came _ _ _ _ _ (by omega), if_pos hw]
    · refine wp_eI (wood_isAlive_e2 _ b i V M q4 q5 (by omega)) ?_
      have k0 : ∀ (A : Nat → Int) (o : Nat) (j : Nat), (∀ j, j < 10 → A j = if j < i then pB V who h s (o + j) else V (o + j)) → pB V who h s (o + i) = V (o + i) → A j = if j = i then pB V who h s (o + i) else A j := by
        intro A o j hA hp
        by_cases hji : j = i
        · rw [if_pos hji, hji, hA i (by omega), if_neg (by omega), hp]
        · rw [if_neg hji]
      have c2 : pB V who h s (11 + i) = V (11 + i) := by rw [pB_calm _ _ _ _ _ (by omega), if_neg hw]
      have c4 : pB V who h s (31 + i) = V (31 + i) := by rw [pB_came _ _ _ _ _ (by omega), if_neg hw]
      cases hal : al V i with
      | false =>
        refine wp_pos rfl ?_
        refine wp_I ?_
        (try simp (disch := omega) only [w32_i, tn_l, tn_n, tn_r, tn_s, tn_1, Nat.add_sub_cancel, Int.reduceToNat, Int.toNat_zero, Int.toNat_one, al3, al4, al5, al6, al8, al9, al11, al13, al15, al17, al19, al21, al23, al25, al27, al29, al30, al31, al95, al96, al128, al129, al130, al131, al134, al135, al137, al139, al140, al142, al143, al144, al145, al147, al148, al149, al151, al152, al153, al154, al155, al156, al158, al159, al160, al161, al162, al163, al164, al165, al166, al167, al168, al169, al170, al171, al172, al173, al174, al175, al176])
        exact next M (fr_refl _ _) (fun _ => rfl) (fun j => k0 _ 11 j g2 c2) (fun j => k0 _ 21 j g3 (by rw [pB_since _ _ _ _ _ (by omega), if_neg hw, hal]; simp)) (fun j => k0 _ 31 j g4 c4)
      | true =>
        refine wp_neg (by decide) ?_
        refine wp_inb ⟨by omega, by omega⟩ ?_
        refine wp_inb ⟨by omega, by omega⟩ ?_
        refine wp_up fun M1 f1 e1 => ?_
        refine wp_I ?_
        (try simp (disch := omega) only [w32_i, tn_l, tn_n, tn_r, tn_s, tn_1, Nat.add_sub_cancel, Int.reduceToNat, Int.toNat_zero, Int.toNat_one, al3, al4, al5, al6, al8, al9, al11, al13, al15, al17, al19, al21, al23, al25, al27, al29, al30, al31, al95, al96, al128, al129, al130, al131, al134, al135, al137, al139, al140, al142, al143, al144, al145, al147, al148, al149, al151, al152, al153, al154, al155, al156, al158, al159, al160, al161, al162, al163, al164, al165, al166, al167, al168, al169, al170, al171, al172, al173, al174, al175, al176])
        simp only [tn_n] at e1
        rw [g3 i (by omega), if_neg (by omega)] at e1
        refine next M1 (fr_w f1 (by simp)) (fun k => by rw [f1 _ (by simp)]) (fun j => ?_) (fun j => ?_) (fun j => ?_)
        · rw [f1 _ (by simp)]; exact k0 _ 11 j g2 c2
        · rw [e1, pB_since _ _ _ _ _ (by omega), if_neg hw, if_pos hal]
        · rw [f1 _ (by simp)]; exact k0 _ 31 j g4 c4
theorem world_bring_eq (d a : Nat) (tr : Bool) (V : aW) (L : aLaw) (who h s : Int) (n : Nat) (hn : V 41 = n) (h10 : n ≤ 10) (hw : who < n) (M : aM) (ha : isWo a) (hW : rW tr a V L M) (hN : okN V) :
    wp (w_wood_bring (d + 3) (a + 1) who h s M) fun r M' => r = [] ∧ rW tr a (pB V who h s) L M' ∧ fW a M M' := by
  rw [l_wood_bring]
  obtain ⟨⟨w1, w2, w3, w4⟩, hb⟩ := hW
  have w1' := w1
  obtain ⟨h1, h2, h3, h4, h5, h6, h7, h8, h9, h10', h11, h12, h13, h14, h15, h16, h17⟩ := w1
  refine wp_mono (wood_bring_lp _ (a + 1) V who h s n hn h10 hw (wl3 ha) (wl4 ha) (wl5 ha) n 0 M (by omega) h1 h2 h10' (fun j hj => by rw [if_neg (by omega)]; exact h15 j hj) (fun j hj => by rw [if_neg (by omega)]; exact h16 j hj) (fun j hj => by rw [if_neg (by omega)]; exact h17 j hj)) ?_
  rintro r M' ⟨e, f, g, g2, g3, g4⟩
  have hv : ∀ k, k ≠ 1 ∧ k ≠ 3 → (k < 11 ∨ 41 ≤ k) → pB V who h s k = V k := fun k a b => pB_ne a b
  refine ⟨e, ⟨⟨?_, rTl_V (rTl_fr w2 fun i _ _ => f i (by simp; omega)) hN fun i _ _ _ => hv i (by omega) (by omega), rLaw_fr w3 fun i _ _ _ => f i (by simp; omega), by rw [f (a + 17) (by simp)]; exact w4⟩, fun ht => ?_⟩, fW_fr f (by intro k hk; simp at hk; omega)⟩
  · unfold rWd
    simp only [g, f (a + 1 + 1) (by simp)]
    rw [hv 41 (by omega) (by omega), hv 10 (by omega) (by omega), hv 4 (by omega) (by omega), hv 5 (by omega) (by omega), hv 6 (by omega) (by omega), hv 42 (by omega) (by omega), hv 43 (by omega) (by omega), hv 2 (by omega) (by omega), hv 0 (by omega) (by omega), hv 7 (by omega) (by omega), hv 9 (by omega) (by omega)]
    refine ⟨h1, h2, h3, h4, h5, h6, h7, ?_, h9, ?_, h11, h12, h13, fun i hi => by rw [hv _ (by omega) (by omega)]; exact h14 i hi, g2, g3, g4⟩
    · simp [pB]
    · simp [pB]
  · exact rRow_V (rRow_fr (hb ht) fun i _ _ => f i (by simp; omega)) (hv 8 (by omega) (by omega)) fun i j _ _ => hv _ (by omega) (by omega)
