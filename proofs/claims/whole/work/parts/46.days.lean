/-! eat, days, waitFor -/
theorem m_keeps_11_lp (d : Nat) (B : Nat → Int) (Q : List aV → aM → Prop) : ∀ (f i : Nat) (M : aM), i + f = 205 → (∀ k, M 160 k = if k < i then B (k + 41) else B k) → (∀ M', fr [160] M M' → (∀ k, M' 160 k = if k < 205 then B (k + 41) else B k) → wp (w_m_keeps_11 d 205 M') Q) → wp (w_m_keeps_11 d i M) Q
  | 0, i, M, h, hB, hQ => by
    rw [show i = 205 by omega] at hB ⊢
    exact hQ M (fr_refl _ _) hB
  | f + 1, i, M, h, hB, hQ => by
    rw [l_m_keeps_11]
    (try simp (disch := omega) only [w32_i, tn_l, tn_n, tn_r, tn_s, tn_1, Nat.add_sub_cancel, Int.reduceToNat, Int.toNat_zero, Int.toNat_one, al3, al4, al5, al6, al8, al9, al11, al13, al15, al17, al19, al21, al23, al25, al27, al29, al30, al31, al95, al96, al128, al129, al130, al131, al134, al135, al137, al139, al140, al142, al143, al144, al145, al147, al148, al149, al151, al152, al153, al154, al155, al156, al158, al159, al160, al161, al162, al163, al164, al165, al166, al167, al168, al169, al170, al171, al172, al173, al174, al175, al176])
    refine wp_pos (by omega) ?_
    refine wp_inb ⟨by omega, by omega⟩ ?_
    refine wp_inb ⟨by omega, by omega⟩ ?_
    refine wp_up fun M1 f1 g1 => ?_
    refine wp_I ?_
    refine m_keeps_11_lp d B Q f (i + 1) M1 (by omega) (fun k => ?_) (fun M' f' g' => hQ M' (fr_tt f1 f') g')
    have hb41 : M 160 (i + 41) = B (i + 41) := by rw [hB, if_neg (by omega)]
    rw [g1, hb41, hB k]
    by_cases e : k = i
    · subst e; rw [if_pos rfl, if_pos (by omega)]
    · rw [if_neg e]
      by_cases e2 : k < i
      · rw [if_pos e2, if_pos (by omega)]
      · rw [if_neg e2, if_neg (by omega)]
theorem m_keeps_51_lp (d n : Nat) (V : aW) (B : Nat → Int) (hn : n < 6) : ∀ (f i : Nat) (M : aM), i + f = 41 → M 157 4 = n → M 158 = V → (∀ k, M 160 k = if 41 * n ≤ k ∧ k < 41 * n + i then V (k - 41 * n) else B k) → wp (w_m_keeps_51 d i M) fun r M' => r = [] ∧ fr [157, 160] M M' ∧ M' 157 4 = (n + 1 : Nat) ∧ M' 157 26 = 1 ∧ (∀ j, j ≠ 4 → j ≠ 26 → M' 157 j = M 157 j) ∧ ∀ k, M' 160 k = if 41 * n ≤ k ∧ k < 41 * n + 41 then V (k - 41 * n) else B k
  | 0, i, M, h, h4, hV, hB => by
    rw [l_m_keeps_51]
    refine wp_neg (by omega) ?_
    rw [h4, w32_i (by omega) (by omega)]
    refine wp_up fun M1 f1 g1 => ?_
    refine wp_up fun M2 f2 g2 => ?_
    refine wp_ret ⟨rfl, fr_w (fr_tt f1 f2) (by simp), ?_, by rw [g2, if_pos rfl], fun j a b => by rw [g2, if_neg b, g1, if_neg a], fun k => ?_⟩
    · rw [g2, if_neg (by omega), g1, if_pos rfl]; omega
    · rw [f2 _ (by simp), f1 _ (by simp), hB k, show i = 41 by omega]
  | f + 1, i, M, h, h4, hV, hB => by
    rw [l_m_keeps_51, h4]
    have e1 : w32 (w32 (41 * (n : Int)) + i) = ((41 * n + i : Nat) : Int) := by simp (disch := omega) only [w32_i]; omega
    rw [e1]
    (try simp (disch := omega) only [w32_i, tn_l, tn_n, tn_r, tn_s, tn_1, Nat.add_sub_cancel, Int.reduceToNat, Int.toNat_zero, Int.toNat_one, al3, al4, al5, al6, al8, al9, al11, al13, al15, al17, al19, al21, al23, al25, al27, al29, al30, al31, al95, al96, al128, al129, al130, al131, al134, al135, al137, al139, al140, al142, al143, al144, al145, al147, al148, al149, al151, al152, al153, al154, al155, al156, al158, al159, al160, al161, al162, al163, al164, al165, al166, al167, al168, al169, al170, al171, al172, al173, al174, al175, al176])
    refine wp_pos (by omega) ?_
    refine wp_inb ⟨by omega, by omega⟩ ?_
    refine wp_inb ⟨by omega, by omega⟩ ?_
    refine wp_up fun M1 f1 g1 => ?_
    refine wp_I ?_
    refine wp_mono (m_keeps_51_lp d n V B hn f (i + 1) M1 (by omega) (by rw [f1 _ (by simp), h4]) (by rw [f1 _ (by simp), hV]) (fun k => ?_)) ?_
    · rw [g1, hV, hB k]
      by_cases e : k = 41 * n + i
      · subst e; rw [if_pos rfl, if_pos (by omega), show 41 * n + i - 41 * n = i by omega]
      · rw [if_neg e]
        by_cases e2 : 41 * n ≤ k ∧ k < 41 * n + i
        · rw [if_pos e2, if_pos (by omega)]
        · rw [if_neg e2, if_neg (by omega)]
    · rintro r M' ⟨a, b, c, c2, c3, e⟩
      exact ⟨a, fr_tt (fr_w f1 (by simp)) b, c, c2, fun j x y => by rw [c3 j x y, f1 157 (by simp)], e⟩
theorem m_keeps_eq (d n : Nat) (S : Nat → aW) (V : aW) (M : aM) (hV : M 158 = V) (hr : mRing n S M) (hn : n ≤ 6) :
    wp (w_m_keeps (d + 1) M) fun r M' => r = [] ∧ mRing (puN n) (puS n S V) M' ∧ M' 157 26 = 1 ∧ fr [157, 160] M M' ∧ ∀ j, j ≠ 4 → j ≠ 26 → M' 157 j = M 157 j := by
  obtain ⟨c1, c2⟩ := hr
  rw [l_m_keeps, c1]
  refine wp_if (fun h => ?_) (fun h => ?_)
  · have h6 : n = 6 := by omega
    subst h6
    refine m_keeps_11_lp _ (M 160) _ 205 0 M (by omega) (fun k => by rw [if_neg (by omega)]) ?_
    intro M1 f1 g1
    rw [l_m_keeps_11]
    refine wp_neg (by omega) ?_
    rw [f1 157 (by simp), c1, w32_i (by omega) (by omega)]
    refine wp_up fun M2 f2 g2 => ?_
    refine wp_mono (m_keeps_51_lp _ 5 V (M2 160) (by omega) 41 0 M2 (by omega) (by rw [g2, if_pos rfl]; rfl) (by rw [f2 _ (by simp), f1 _ (by simp), hV]) (fun k => by rw [if_neg (by omega)])) ?_
    rintro r M' ⟨a, b, c, c', c'', e⟩
    refine ⟨a, ⟨c, fun j hj k hk => ?_⟩, c', fr_tr (fr_tr f1 f2 (l := [157, 160]) (by simp) (by simp)) b (by simp) (by simp), fun j x y => by rw [c'' j x y, g2, if_neg x, f1 157 (by simp)]⟩
    have hj : j < 6 := hj
    rw [e, puS_6 rfl, f2 _ (by simp), g1]
    by_cases h5 : j < 5
    · rw [if_pos h5, if_neg (by omega), if_pos (by omega), show 41 * j + k + 41 = 41 * (j + 1) + k by omega]
      exact c2 (j + 1) (by omega) k hk
    · rw [if_neg h5, if_pos (by omega), show 41 * j + k - 41 * 5 = k by omega]
  · refine wp_mono (m_keeps_51_lp _ n V (M 160) (by omega) 41 0 M (by omega) c1 hV (fun k => by rw [if_neg (by omega)])) ?_
    rintro r M' ⟨a, b, c, c', c'', e⟩
    have e6 : ¬ n = 6 := by omega
    refine ⟨a, ⟨by rw [c]; unfold puN; rw [if_neg e6], fun j hj k hk => ?_⟩, c', b, c''⟩
    unfold puN at hj
    rw [if_neg e6] at hj
    rw [e, puS_n e6]
    by_cases h5 : j < n
    · rw [if_pos h5, if_neg (by omega)]
      exact c2 j h5 k hk
    · rw [if_neg h5, if_pos (by omega), show 41 * j + k - 41 * n = k by omega]
theorem cRing_fr {n : Nat} {S : Nat → aW} {M M' : aM} (h : cRing n S M) (f : ∀ k, 94 ≤ k → k < 127 → M' k = M k) : cRing n S M' := by
  obtain ⟨g, b1, b2, b3, b4⟩ := h
  refine ⟨g, b1, by rw [f 94 (by omega) (by omega)]; exact b2, by rw [f 94 (by omega) (by omega)]; exact b3, fun j hj => ?_⟩
  have hs : (g + j) % 6 < 6 := Nat.mod_lt _ (by omega)
  exact ⟨rWd_fr (b4 j hj).1 fun k _ _ => f k (by omega) (by omega), by rw [f 96 (by omega) (by omega)]; exact (b4 j hj).2⟩
theorem mRing_fr {n : Nat} {S : Nat → aW} {M M' : aM} (h : mRing n S M) (h4 : M' 157 4 = M 157 4) (h160 : M' 160 = M 160) : mRing n S M' := by
  unfold mRing at h ⊢; rw [h4, h160]; exact h
/-- after calls that do something that can be undone -/
theorem Inv_D {L Lk : aLaw} {M M' : aM} {n : Nat} {S : Nat → aW} (hI : Inv L Lk M) (f : ∀ k, ¬ (1 ≤ k ∧ k < 32) → ¬ (94 ≤ k ∧ k < 127) → k ≠ 157 → k ≠ 158 → k ≠ 160 → k ≠ 166 → k ≠ 167 → M' k = M k) (g : ∀ j, j ≠ 4 → j ≠ 26 → M' 157 j = M 157 j) (hv : ∀ k, 41 ≤ k → (k < 284 ∨ 884 ≤ k) → M' 158 k = M 158 k) (hW : okW (M' 158)) (hw : rW true 1 (M' 158) L M') (r1 : cRing n S M') (r2 : mRing n S M') (r3 : sOk n S (M' 158)) : Inv L Lk M' := by
  obtain ⟨⟨k1, k2, w, k4, k5⟩, h2, h3, h4, h5, h6⟩ := hI
  refine ⟨⟨hW, okT_V k2 (by rw [hv 41 (by omega) (by omega)]; exact Int.le_refl _) fun k hk => hv k (by omega) (by omega), hw, vLaw_V k4 fun k hk => hv k (by omega) (by omega), k5⟩, ?_, ?_, ring_in r1 r2 r3, ?_, ?_⟩
  · exact iKept_ag h2 (by rw [f 0 (by omega) (by omega) (by omega) (by omega) (by omega) (by omega) (by omega)]) (g 5 (by omega) (by omega)) (f 159 (by omega) (by omega) (by omega) (by omega) (by omega) (by omega) (by omega)) fun k _ _ _ => f k (by omega) (by omega) (by omega) (by omega) (by omega) (by omega) (by omega)
  · exact iStat_ag h3 fun k _ => by rw [f k (by omega) (by omega) (by omega) (by omega) (by omega) (by omega) (by omega)]
  · exact iTape_ag h5 (f 127 (by omega) (by omega) (by omega) (by omega) (by omega) (by omega) (by omega)) (g 16 (by omega) (by omega)) (f 128 (by omega) (by omega) (by omega) (by omega) (by omega) (by omega) (by omega)) (f 165 (by omega) (by omega) (by omega) (by omega) (by omega) (by omega) (by omega))
  · exact iFault_ag h6 (f 132 (by omega) (by omega) (by omega) (by omega) (by omega) (by omega) (by omega)) (g 23 (by omega) (by omega)) (g 25 (by omega) (by omega))
theorem pEats_okW {V : aW} {j : Int} {is : Bool} (h : okW V) (hj0 : 0 ≤ j) (hj : j < V 41) : okW (pEats true V j is) := okWs_0.mp (okWs_pEats (okWs_0.mpr h) hj0 hj)
theorem pr_eat (d : Nat) (j : Int) (is : Bool) : pr (w_x_eat (d + 40) j (bI is)) (w_m_eat (d + 40) j (bI is)) := by
  intro L Lk M hI
  have hI' := hI
  obtain ⟨⟨k1, k2, hw, k4, k5⟩, -, -, hr, -⟩ := hI
  obtain ⟨c, hc, h10⟩ := okW_n k1
  obtain ⟨n, S, r1, r2, r3⟩ := ring_out hr
  by_cases hgo : (0 ≤ j ∧ j < M 158 41) ∧ al (M 158) j = is
  · have hx : wp (w_x_eat (d + 40) j (bI is) M) fun r M1 => r = [aI 1] ∧ rW true 1 (pEats true (M 158) j is) L M1 ∧ cRing (puN n) (puS n S (M 158)) M1 ∧ (∀ k, ¬ (1 ≤ k ∧ k < 32) → ¬ (94 ≤ k ∧ k < 127) → M1 k = M k) := by
      rw [l_x_eat]
      refine wp_eI (wood_has_eq _ 2 _ (M 158) M (rW_wd hw).1 (by omega)) ?_
      rw [decide_eq_true hgo.1]
      refine wp_neg (by decide) ?_
      refine wp_eI (wood_isAlive_eq _ 2 _ (M 158) M (rW_wd hw) (by omega)) ?_
      refine wp_pos (by rw [hgo.2]) ?_
      refine wp_bV (acts_keep_eq _ n S (M 158) L M hw r1 r3.1) ?_
      rintro M1 ⟨c1, f1⟩
      refine wp_bV (world_eat_eq _ 1 true (M 158) L j is M1 isWo1 (rW_fr hw fun k _ _ _ => f1 k (by omega)) k2.1) ?_
      rintro M2 ⟨w2, f2⟩
      exact wp_ret ⟨rfl, w2, cRing_fr c1 fun k _ _ => f2 k (by omega), fun k a b => by rw [f2 k (by omega), f1 k (by omega)]⟩
    obtain ⟨r, M1, e1, er, w1, c1, f1⟩ := hx
    subst er
    have h158 : M1 158 = M 158 := f1 158 (by omega) (by omega)
    have hm : wp (w_m_eat (d + 40) j (bI is) M1) fun r M2 => r = [aI 1] ∧ M2 158 = pEats true (M 158) j is ∧ mRing (puN n) (puS n S (M 158)) M2 ∧ fr [157, 158, 160] M1 M2 ∧ ∀ i, i ≠ 4 → i ≠ 26 → M2 157 i = M1 157 i := by
      rw [l_m_eat]
      refine wp_eI (m_isDeer_eq _ _ M1 (by rw [h158]; omega) (by rw [h158]; omega)) ?_
      rw [h158, decide_eq_true hgo.1]
      refine wp_neg (by decide) ?_
      refine wp_eI (m_isAlive_eq _ _ M1 (by rw [h158]; omega) (by rw [h158]; omega)) ?_
      refine wp_pos (by rw [h158, hgo.2]) ?_
      refine wp_bV (m_keeps_eq _ n S (M 158) M1 h158 (mRing_fr r2 (by rw [f1 157 (by omega) (by omega)]) (f1 160 (by omega) (by omega))) r3.1) ?_
      rintro M2 ⟨m2, t2, f2, g2⟩
      refine wp_bV (m_eats_eq _ true (M 158) j is M2 (by rw [f2 _ (by simp), h158]) (by rw [t2]; rfl) k1.2.1) ?_
      rintro M3 ⟨v3, f3⟩
      refine wp_ret ⟨rfl, v3, mRing_fr m2 (by rw [f3 _ (by simp)]) (f3 _ (by simp)), fr_tr f2 f3 (by simp) (by simp), fun i a b => by rw [f3 _ (by simp), g2 i a b]⟩
    obtain ⟨r', M2, e2, er, v2, m2, f2, g2⟩ := hm
    subst er
    refine ⟨1, M1, M2, e1, e2, ⟨L, Lk, Inv_D hI' (fun k a b c1 c2 c3 _ _ => by rw [f2 k (by simp; omega), f1 k a b]) (fun i a b => by rw [g2 i a b, f1 157 (by omega) (by omega)]) ?_ ?_ ?_ (cRing_fr c1 fun k _ _ => f2 k (by simp; omega)) m2 ?_⟩, ⟨f1 _ (by omega) (by omega), f1 _ (by omega) (by omega)⟩, ?_, ?_⟩
    · intro k a b; rw [v2, pEats_ne k1.2.1 (by omega) (by omega) (by omega)]
    · rw [v2]; exact pEats_okW k1 hgo.1.1 hgo.1.2
    · rw [v2]; exact rW_fr w1 fun k _ _ _ => f2 k (by simp; omega)
    · rw [v2]; exact sOk_push r3 k1 (pEats_up k1.2.1) fun k hk => pEats_ne k1.2.1 (by omega) (by omega) (by omega)
    · rw [f2 _ (by simp), f1 _ (by omega) (by omega)]
    · rw [f2 _ (by simp), f1 _ (by omega) (by omega)]
  · refine ⟨0, M, M, ?_, ?_, ⟨L, Lk, hI'⟩, ⟨rfl, rfl⟩, rfl, rfl⟩
    · rw [u_x_eat, wood_has_eq _ 2 _ (M 158) M (rW_wd hw).1 (by omega), bndI_s]
      by_cases h1 : 0 ≤ j ∧ j < M 158 41
      · rw [decide_eq_true h1, if_neg (by decide), wood_isAlive_eq _ 2 _ (M 158) M (rW_wd hw) (by omega), bndI_s, if_neg]
        intro e
        apply hgo
        refine ⟨h1, ?_⟩
        cases ha : al (M 158) j <;> cases is <;> rw [ha] at e <;> first | rfl | (exact absurd e (by decide))
      · rw [decide_eq_false h1, if_pos (by decide)]
    · rw [u_m_eat, m_isDeer_eq _ _ M (by omega) (by omega), bndI_s]
      by_cases h1 : 0 ≤ j ∧ j < M 158 41
      · rw [decide_eq_true h1, if_neg (by decide), m_isAlive_eq _ _ M (by omega) (by omega), bndI_s, if_neg]
        intro e
        apply hgo
        refine ⟨h1, ?_⟩
        cases ha : al (M 158) j <;> cases is <;> rw [ha] at e <;> first | rfl | (exact absurd e (by decide))
      · rw [decide_eq_false h1, if_pos (by decide)]
/-! days after days -/
noncomputable def dyV (L : aLaw) : Nat → aW → aW
  | 0, V => V
  | f + 1, V => dyV L f (pDay true V L)
def dyN : Nat → Nat → Nat
  | 0, n => n
  | f + 1, n => dyN f (puN n)
noncomputable def dyS (L : aLaw) : Nat → Nat → (Nat → aW) → aW → (Nat → aW)
  | 0, _, S, _ => S
  | f + 1, n, S, V => dyS L f (puN n) (puS n S V) (pDay true V L)
noncomputable def dyM (L : aLaw) : Nat → aW → Int
  | 0, _ => 0
  | f + 1, V => (if pDay true V L 1 = -1 then 1 else 0) + dyM L f (pDay true V L)
theorem pDay_0 (tr : Bool) (V : aW) (L : aLaw) (h8 : 0 ≤ V 8 ∧ V 8 ≤ 150) : pDay tr V L 0 = w32 (V 0 + 1) := by
  unfold pDay
  have a1 := pPlan_ne (tr := tr) (k := 0) (by omega) (by omega) (by omega) (by omega) (V 45).toNat 0 V h8
  have a2 := pDawn_1 tr (pPlan tr (V 45).toNat 0 V) L
  have h82 : 0 ≤ (pDawn tr (pPlan tr (V 45).toNat 0 V) L).1 8 ∧ (pDawn tr (pPlan tr (V 45).toNat 0 V) L).1 8 ≤ 150 := by rw [a2 8 (by omega)]; exact a1.2
  have a3 := pComes_ne (tr := tr) (L := L) (who := (pDawn tr (pPlan tr (V 45).toNat 0 V) L).2) (k := 0) h82 (by omega) (by omega) (by omega)
  have a4 := pPays_ne (tr := tr) (k := 0) (by omega) (by omega) (by omega) (V 46).toNat 0 _ a3.2
  unfold pEnd
  rw [vS_at]
  split
  · rw [(pWolves_ne a4.2 (by omega) (by omega)).1, a4.1, a3.1, a2 0 (by omega), a1.1]
  · rw [a4.1, a3.1, a2 0 (by omega), a1.1]
theorem okT_day {tr : Bool} {V : aW} {L : aLaw} (hT : okT V) (h8 : 0 ≤ V 8 ∧ V 8 ≤ 150) : okT (pDay tr V L) :=
  okT_V hT (by rw [pDay_ne tr V L h8 41 (by omega) (by omega)]; exact Int.le_refl _) fun k hk => pDay_ne tr V L h8 k (by omega) (by omega)
theorem puN_le {n : Nat} (h : n ≤ 6) : puN n ≤ 6 := by unfold puN; split <;> omega
theorem dy_ok (L : aLaw) : ∀ (f n : Nat) (S : Nat → aW) (V : aW), okW V → okT V → V 0 + f ≤ 9999 → sOk n S V → okW (dyV L f V) ∧ sOk (dyN f n) (dyS L f n S V) (dyV L f V) ∧ ∀ k, 41 ≤ k → (k < 284 ∨ 884 ≤ k) → dyV L f V k = V k
  | 0, n, S, V, h1, h2, h3, h4 => ⟨h1, h4, fun _ _ _ => rfl⟩
  | f + 1, n, S, V, h1, h2, h3, h4 => by
    have h0 := h1.2.2.1
    have ih := dy_ok L f (puN n) (puS n S V) (pDay true V L) (okW_day h1 h2 (by omega)) (okT_day h2 h1.2.1) (by rw [pDay_0 _ _ _ h1.2.1, w32_i (by omega) (by omega)]; omega) (sOk_push h4 h1 (pDay_up true V L h1.2.1).1 fun k hk => pDay_ne true V L h1.2.1 k (by omega) (by omega))
    exact ⟨ih.1, ih.2.1, fun k a b => (ih.2.2 k a b).trans (pDay_ne true V L h1.2.1 k a b)⟩
/-- one day kept and passed, in the class -/
theorem x_day1 (d n : Nat) (S : Nat → aW) (V : aW) (L : aLaw) (M : aM) (hw : rW true 1 V L M) (hr : cRing n S M) (hn : n ≤ 6) (h1 : okW V) (h2 : okT V) (hok : okLaw L) (k : Int → aM → aR) (Q : List aV → aM → Prop)
    (hk : ∀ M', rW true 1 (pDay true V L) L M' → cRing (puN n) (puS n S V) M' → (∀ k, ¬ (1 ≤ k ∧ k < 32) → ¬ (94 ≤ k ∧ k < 127) → M' k = M k) → wp (k (if pDay true V L 1 = -1 then 1 else 0) M') Q) :
    wp (bndV (w_acts_keep (d + 8) 1 M) fun M15 => bndI (w_world_passDay (d + 8) 1 0 M15) k) Q := by
  obtain ⟨c, hc, h10⟩ := okW_n h1
  refine wp_bV (acts_keep_eq _ n S V L M hw hr hn) ?_
  rintro M1 ⟨c1, f1⟩
  refine wp_bI (P := fun v M' => v = (if pDay true V L 1 = -1 then 1 else 0) ∧ rW true 1 (pDay true V L) L M' ∧ fW 1 M1 M') (wp_mono (world_passDay_eq _ 1 true V L c M1 isWo1 (rW_fr hw fun k _ _ _ => f1 k (by omega)) hc h10 h1.2.1 h2.1 h2.2.1 h1.1 hok h1.2.2.2.2.2.2.2.1.1) ?_) ?_
  · rintro r M' ⟨e, w, f⟩; exact ⟨_, e, rfl, w, f⟩
  rintro v M2 ⟨rfl, w2, f2⟩
  exact hk M2 w2 (cRing_fr c1 fun k _ _ => f2 k (by omega)) fun k a b => by rw [f2 k (by omega), f1 k (by omega)]
theorem m_day1 (d n : Nat) (S : Nat → aW) (V : aW) (L : aLaw) (M : aM) (hV : M 158 = V) (hr : mRing n S M) (hn : n ≤ 6) (h1 : okW V) (h2 : okT V) (hL : vLaw L V) (hok : okLaw L) (k : Int → aM → aR) (Q : List aV → aM → Prop)
    (hk : ∀ M', M' 158 = pDay true V L → mRing (puN n) (puS n S V) M' → fr [157, 158, 160, 166, 167] M M' → (∀ j, j ≠ 4 → j ≠ 26 → M' 157 j = M 157 j) → wp (k (if pDay true V L 1 = -1 then 1 else 0) M') Q) :
    wp (bndV (w_m_keeps (d + 9) M) fun M15 => bndI (w_m_aDay (d + 9) M15) k) Q := by
  obtain ⟨c, hc, h10⟩ := okW_n h1
  refine wp_bV (m_keeps_eq _ n S V M hV hr hn) ?_
  rintro M1 ⟨m1, t1, f1, g1⟩
  refine wp_bI (P := fun v M' => v = (if pDay true V L 1 = -1 then 1 else 0) ∧ M' 158 = pDay true V L ∧ fr [158, 166, 167] M1 M') (wp_mono (m_aDay_eq _ true V L c hc h10 h1.2.1 h2.1.1 h2.1.2.1 hL hok M1 (by rw [f1 _ (by simp), hV]) (by rw [t1]; rfl)) ?_) ?_
  · rintro r M' ⟨e, w, f⟩; exact ⟨_, e, rfl, w, f⟩
  rintro v M2 ⟨rfl, w2, f2⟩
  exact hk M2 w2 (mRing_fr m1 (by rw [f2 _ (by simp)]) (f2 _ (by simp))) (fr_tr f1 f2 (by simp) (by simp)) fun j a b => by rw [f2 _ (by simp), g1 j a b]
theorem x_days_lp (d : Nat) (L : aLaw) (N : Nat) (hok : okLaw L) (hN : N ≤ 60) : ∀ (f i : Nat) (acc : Int) (n : Nat) (S : Nat → aW) (V : aW) (M : aM), i + f = N → 0 ≤ acc ∧ acc ≤ i → rW true 1 V L M → cRing n S M → n ≤ 6 → okW V → okT V → V 0 + f ≤ 9999 →
    wp (w_x_days_35 (d + 8) N acc i M) fun r M' => r = [aI (acc + dyM L f V)] ∧ rW true 1 (dyV L f V) L M' ∧ cRing (dyN f n) (dyS L f n S V) M' ∧ (∀ k, ¬ (1 ≤ k ∧ k < 32) → ¬ (94 ≤ k ∧ k < 127) → M' k = M k)
  | 0, i, acc, n, S, V, M, hi, ha, hw, hr, hn, h1, h2, h3 => by
    rw [l_x_days_35]
    refine wp_neg (by omega) ?_
    exact wp_ret ⟨by simp [dyM], hw, hr, fun _ _ _ => rfl⟩
  | f + 1, i, acc, n, S, V, M, hi, ha, hw, hr, hn, h1, h2, h3 => by
    have h0 := h1.2.2.1
    rw [l_x_days_35]
    refine wp_pos (by omega) ?_
    refine x_day1 _ n S V L M hw hr hn h1 h2 hok _ _ ?_
    intro M1 w1 c1 f1
    have next : ∀ acc', acc' = acc + (if pDay true V L 1 = -1 then 1 else 0) → wp (w_x_days_35 (d + 8) N acc' ((i : Int) + 1) M1) fun r M' => r = [aI (acc + dyM L (f + 1) V)] ∧ rW true 1 (dyV L (f + 1) V) L M' ∧ cRing (dyN (f + 1) n) (dyS L (f + 1) n S V) M' ∧ (∀ k, ¬ (1 ≤ k ∧ k < 32) → ¬ (94 ≤ k ∧ k < 127) → M' k = M k) := by
      intro acc' hacc
      refine wp_mono (x_days_lp d L N hok hN f (i + 1) acc' (puN n) (puS n S V) (pDay true V L) M1 (by omega) (by split at hacc <;> omega) w1 c1 (puN_le hn) (okW_day h1 h2 (by omega)) (okT_day h2 h1.2.1) (by rw [pDay_0 _ _ _ h1.2.1, w32_i (by omega) (by omega)]; omega)) ?_
      rintro r M' ⟨e, w, c, fr'⟩
      refine ⟨?_, w, c, fun k a b => (fr' k a b).trans (f1 k a b)⟩
      rw [e, hacc]
      simp only [dyM]
      rw [Int.add_assoc]
    by_cases hm : pDay true V L 1 = -1
    · rw [if_pos hm]
      refine wp_neg (by decide) ?_
      refine wp_I ?_
      refine wp_I ?_
      (try simp (disch := omega) only [w32_i, tn_l, tn_n, tn_r, tn_s, tn_1, Nat.add_sub_cancel, Int.reduceToNat, Int.toNat_zero, Int.toNat_one, al3, al4, al5, al6, al8, al9, al11, al13, al15, al17, al19, al21, al23, al25, al27, al29, al30, al31, al95, al96, al128, al129, al130, al131, al134, al135, al137, al139, al140, al142, al143, al144, al145, al147, al148, al149, al151, al152, al153, al154, al155, al156, al158, al159, al160, al161, al162, al163, al164, al165, al166, al167, al168, al169, al170, al171, al172, al173, al174, al175, al176])
      exact next _ (by rw [if_pos hm])
    · rw [if_neg hm]
      refine wp_pos rfl ?_
      refine wp_I ?_
      (try simp (disch := omega) only [w32_i, tn_l, tn_n, tn_r, tn_s, tn_1, Nat.add_sub_cancel, Int.reduceToNat, Int.toNat_zero, Int.toNat_one, al3, al4, al5, al6, al8, al9, al11, al13, al15, al17, al19, al21, al23, al25, al27, al29, al30, al31, al95, al96, al128, al129, al130, al131, al134, al135, al137, al139, al140, al142, al143, al144, al145, al147, al148, al149, al151, al152, al153, al154, al155, al156, al158, al159, al160, al161, al162, al163, al164, al165, al166, al167, al168, al169, al170, al171, al172, al173, al174, al175, al176])
      exact next _ (by rw [if_neg hm]; simp)
theorem m_days_lp (d : Nat) (L : aLaw) (N : Nat) (hok : okLaw L) (hN : N ≤ 60) : ∀ (f i : Nat) (acc : Int) (n : Nat) (S : Nat → aW) (V : aW) (M : aM), i + f = N → 0 ≤ acc ∧ acc ≤ i → M 158 = V → mRing n S M → n ≤ 6 → okW V → okT V → vLaw L V → V 0 + f ≤ 9999 →
    wp (w_m_days_30 (d + 9) N acc i M) fun r M' => r = [aI (acc + dyM L f V)] ∧ M' 158 = dyV L f V ∧ mRing (dyN f n) (dyS L f n S V) M' ∧ fr [157, 158, 160, 166, 167] M M' ∧ (∀ j, j ≠ 4 → j ≠ 26 → M' 157 j = M 157 j)
  | 0, i, acc, n, S, V, M, hi, ha, hV, hr, hn, h1, h2, hL, h3 => by
    rw [l_m_days_30]
    refine wp_neg (by omega) ?_
    exact wp_ret ⟨by simp [dyM], hV, hr, fr_refl _ _, fun _ _ _ => rfl⟩
  | f + 1, i, acc, n, S, V, M, hi, ha, hV, hr, hn, h1, h2, hL, h3 => by
    have h0 := h1.2.2.1
    rw [l_m_days_30]
    refine wp_pos (by omega) ?_
    refine m_day1 _ n S V L M hV hr hn h1 h2 hL hok _ _ ?_
    intro M1 w1 c1 f1 g1
    have next : ∀ acc', acc' = acc + (if pDay true V L 1 = -1 then 1 else 0) → wp (w_m_days_30 (d + 9) N acc' ((i : Int) + 1) M1) fun r M' => r = [aI (acc + dyM L (f + 1) V)] ∧ M' 158 = dyV L (f + 1) V ∧ mRing (dyN (f + 1) n) (dyS L (f + 1) n S V) M' ∧ fr [157, 158, 160, 166, 167] M M' ∧ (∀ j, j ≠ 4 → j ≠ 26 → M' 157 j = M 157 j) := by
      intro acc' hacc
      refine wp_mono (m_days_lp d L N hok hN f (i + 1) acc' (puN n) (puS n S V) (pDay true V L) M1 (by omega) (by split at hacc <;> omega) w1 c1 (puN_le hn) (okW_day h1 h2 (by omega)) (okT_day h2 h1.2.1) (vLaw_V hL fun k hk => pDay_ne true V L h1.2.1 k (by omega) (by omega)) (by rw [pDay_0 _ _ _ h1.2.1, w32_i (by omega) (by omega)]; omega)) ?_
      rintro r M' ⟨e, w, c, fr', g'⟩
      refine ⟨?_, w, c, fr_tt f1 fr', fun j a b => (g' j a b).trans (g1 j a b)⟩
      rw [e, hacc]
      simp only [dyM]
      rw [Int.add_assoc]
    by_cases hm : pDay true V L 1 = -1
    · rw [if_pos hm]
      refine wp_neg (by decide) ?_
      refine wp_I ?_
      refine wp_I ?_
      (try simp (disch := omega) only [w32_i, tn_l, tn_n, tn_r, tn_s, tn_1, Nat.add_sub_cancel, Int.reduceToNat, Int.toNat_zero, Int.toNat_one, al3, al4, al5, al6, al8, al9, al11, al13, al15, al17, al19, al21, al23, al25, al27, al29, al30, al31, al95, al96, al128, al129, al130, al131, al134, al135, al137, al139, al140, al142, al143, al144, al145, al147, al148, al149, al151, al152, al153, al154, al155, al156, al158, al159, al160, al161, al162, al163, al164, al165, al166, al167, al168, al169, al170, al171, al172, al173, al174, al175, al176])
      exact next _ (by rw [if_pos hm])
    · rw [if_neg hm]
      refine wp_pos rfl ?_
      refine wp_I ?_
      refine wp_I ?_
      (try simp (disch := omega) only [w32_i, tn_l, tn_n, tn_r, tn_s, tn_1, Nat.add_sub_cancel, Int.reduceToNat, Int.toNat_zero, Int.toNat_one, al3, al4, al5, al6, al8, al9, al11, al13, al15, al17, al19, al21, al23, al25, al27, al29, al30, al31, al95, al96, al128, al129, al130, al131, al134, al135, al137, al139, al140, al142, al143, al144, al145, al147, al148, al149, al151, al152, al153, al154, al155, al156, al158, al159, al160, al161, al162, al163, al164, al165, al166, al167, al168, al169, al170, al171, al172, al173, al174, al175, al176])
      exact next _ (by rw [if_neg hm])
/-- the end of a call of days, on both sides -/
theorem pr_dy {L Lk : aLaw} {M M1 M2 : aM} {n k : Nat} {S : Nat → aW} (hI : Inv L Lk M) (r3 : sOk n S (M 158)) (hk : M 158 0 + k ≤ 9999) (w1 : rW true 1 (dyV L k (M 158)) L M1) (c1 : cRing (dyN k n) (dyS L k n S (M 158)) M1) (f1 : ∀ j, ¬ (1 ≤ j ∧ j < 32) → ¬ (94 ≤ j ∧ j < 127) → M1 j = M j)
    (v2 : M2 158 = dyV L k (M 158)) (m2 : mRing (dyN k n) (dyS L k n S (M 158)) M2) (f2 : fr [157, 158, 160, 166, 167] M1 M2) (g2 : ∀ j, j ≠ 4 → j ≠ 26 → M2 157 j = M1 157 j) : (∃ L Lk, Inv L Lk M2) ∧ (M1 998 = M 998 ∧ M1 999 = M 999) ∧ (M2 998 = M 998 ∧ M2 999 = M 999) := by
  obtain ⟨o1, o2, o3⟩ := dy_ok L k n S (M 158) hI.1.1 hI.1.2.1 hk r3
  refine ⟨⟨L, Lk, Inv_D hI (fun j a b _ _ _ _ _ => by rw [f2 j (by simp; omega), f1 j a b]) (fun j a b => by rw [g2 j a b, f1 157 (by omega) (by omega)]) (fun j a b => by rw [v2]; exact o3 j a b) (by rw [v2]; exact o1) (by rw [v2]; exact rW_fr w1 fun j _ _ _ => f2 j (by simp; omega)) (cRing_fr c1 fun j _ _ => f2 j (by simp; omega)) m2 (by rw [v2]; exact o2)⟩, ⟨f1 _ (by omega) (by omega), f1 _ (by omega) (by omega)⟩, ?_, ?_⟩
  · rw [f2 _ (by simp), f1 _ (by omega) (by omega)]
  · rw [f2 _ (by simp), f1 _ (by omega) (by omega)]
theorem pr_days (d : Nat) (v : Int) : pr (w_x_days (d + 40) v) (w_m_days (d + 40) v) := by
  intro L Lk M hI
  have hI' := hI
  obtain ⟨⟨k1, k2, hw, k4, k5⟩, -, -, hr, -⟩ := hI
  obtain ⟨n, S, r1, r2, r3⟩ := ring_out hr
  have e14 : M 2 14 = M 158 0 := (rW_wd hw).2.2.2.2.2.2.2.2.2.2.1
  have h0 := k1.2.2.1
  by_cases hgo : 1 ≤ v ∧ v ≤ 60 ∧ M 158 0 + v ≤ 9999
  · obtain ⟨N, rfl⟩ : ∃ N : Nat, v = N := ⟨v.toNat, by omega⟩
    have hx := x_days_lp (d + 31) L N k5 (by omega) N 0 0 n S (M 158) M (by omega) (by omega) hw r1 r3.1 k1 k2 (by omega)
    obtain ⟨r, M1, e1, er, w1, c1, f1⟩ := hx
    have h158 : M1 158 = M 158 := f1 158 (by omega) (by omega)
    have hm := m_days_lp (d + 30) L N k5 (by omega) N 0 0 n S (M 158) M1 (by omega) (by omega) h158 (mRing_fr r2 (by rw [f1 157 (by omega) (by omega)]) (f1 160 (by omega) (by omega))) r3.1 k1 k2 k4 (by omega)
    obtain ⟨r', M2, e2, er2, v2, m2, f2, g2⟩ := hm
    subst er er2
    obtain ⟨q1, q2, q3⟩ := pr_dy hI' r3 (by omega) w1 c1 f1 v2 m2 f2 g2
    refine ⟨0 + dyM L N (M 158), M1, M2, ?_, ?_, q1, q2, q3⟩
    · rw [u_x_days, if_neg (by omega), if_neg (by omega), e14, w32_i (by omega) (by omega), if_neg (by omega)]
      exact e1
    · rw [u_m_days, m_isIn_eq, bndI_s, decide_eq_true (by omega), if_neg (by decide), al158, inb_s (by decide) (by decide), h158, w32_i (by omega) (by omega), if_neg (by omega)]
      exact e2
  · refine ⟨-1, M, M, ?_, ?_, ⟨L, Lk, hI'⟩, ⟨rfl, rfl⟩, rfl, rfl⟩
    · rw [u_x_days, e14]
      by_cases a1 : v < 1
      · rw [if_pos a1]
      · rw [if_neg a1]
        by_cases a2 : 60 < v
        · rw [if_pos a2]
        · rw [if_neg a2, w32_i (by omega) (by omega), if_pos (by omega)]
    · rw [u_m_days, m_isIn_eq, bndI_s]
      by_cases a1 : 1 ≤ v ∧ v ≤ 60
      · rw [decide_eq_true a1, if_neg (by decide), al158, inb_s (by decide) (by decide), w32_i (by omega) (by omega), if_pos (by omega)]
      · rw [decide_eq_false a1, if_pos (by decide)]
/-! waiting -/
noncomputable def wtD (L : aLaw) (deer : Int) : Nat → Nat → aW → Nat × Int
  | 0, _, _ => (0, -1)
  | f + 1, i, V => if pDay true V L 1 = deer then (1, (i : Int)) else ((wtD L deer f (i + 1) (pDay true V L)).1 + 1, (wtD L deer f (i + 1) (pDay true V L)).2)
theorem wtD_le (L : aLaw) (deer : Int) : ∀ (f i : Nat) (V : aW), (wtD L deer f i V).1 ≤ f
  | 0, _, _ => Nat.le_refl _
  | f + 1, i, V => by
    simp only [wtD]
    split
    · simp
    · have := wtD_le L deer f (i + 1) (pDay true V L)
      simp only
      omega
theorem x_wait_lp (d : Nat) (L : aLaw) (deer : Int) (hok : okLaw L) : ∀ (f i : Nat) (n : Nat) (S : Nat → aW) (V : aW) (M : aM), i + f = 31 → rW true 1 V L M → cRing n S M → n ≤ 6 → okW V → okT V → V 0 + f ≤ 9999 →
    wp (w_x_waitFor_38 (d + 8) deer i M) fun r M' => r = [aI (wtD L deer f i V).2] ∧ rW true 1 (dyV L (wtD L deer f i V).1 V) L M' ∧ cRing (dyN (wtD L deer f i V).1 n) (dyS L (wtD L deer f i V).1 n S V) M' ∧ (∀ k, ¬ (1 ≤ k ∧ k < 32) → ¬ (94 ≤ k ∧ k < 127) → M' k = M k)
  | 0, i, n, S, V, M, hi, hw, hr, hn, h1, h2, h3 => by
    rw [l_x_waitFor_38]
    refine wp_pos (by omega) ?_
    exact wp_ret ⟨rfl, hw, hr, fun _ _ _ => rfl⟩
  | f + 1, i, n, S, V, M, hi, hw, hr, hn, h1, h2, h3 => by
    have h0 := h1.2.2.1
    rw [l_x_waitFor_38]
    refine wp_neg (by omega) ?_
    refine x_day1 _ n S V L M hw hr hn h1 h2 hok _ _ ?_
    intro M1 w1 c1 f1
    rw [show M1 2 11 = pDay true V L 1 from (rW_wd w1).2.2.2.2.2.2.2.1]
    refine wp_if (fun h => ?_) (fun h => ?_)
    · have e : wtD L deer (f + 1) i V = (1, (i : Int)) := by simp only [wtD]; rw [if_pos h]
      rw [e]
      exact wp_ret ⟨rfl, w1, c1, f1⟩
    · have e : wtD L deer (f + 1) i V = ((wtD L deer f (i + 1) (pDay true V L)).1 + 1, (wtD L deer f (i + 1) (pDay true V L)).2) := by simp only [wtD]; rw [if_neg h]
      rw [e]
      refine wp_I ?_
      (try simp (disch := omega) only [w32_i, tn_l, tn_n, tn_r, tn_s, tn_1, Nat.add_sub_cancel, Int.reduceToNat, Int.toNat_zero, Int.toNat_one, al3, al4, al5, al6, al8, al9, al11, al13, al15, al17, al19, al21, al23, al25, al27, al29, al30, al31, al95, al96, al128, al129, al130, al131, al134, al135, al137, al139, al140, al142, al143, al144, al145, al147, al148, al149, al151, al152, al153, al154, al155, al156, al158, al159, al160, al161, al162, al163, al164, al165, al166, al167, al168, al169, al170, al171, al172, al173, al174, al175, al176])
      refine wp_mono (x_wait_lp d L deer hok f (i + 1) (puN n) (puS n S V) (pDay true V L) M1 (by omega) w1 c1 (puN_le hn) (okW_day h1 h2 (by omega)) (okT_day h2 h1.2.1) (by rw [pDay_0 _ _ _ h1.2.1, w32_i (by omega) (by omega)]; omega)) ?_
      rintro r M' ⟨e, w, c, fr'⟩
      exact ⟨e, w, c, fun k a b => (fr' k a b).trans (f1 k a b)⟩
theorem m_wait_lp (d : Nat) (L : aLaw) (deer : Int) (hok : okLaw L) : ∀ (f i : Nat) (n : Nat) (S : Nat → aW) (V : aW) (M : aM), i + f = 31 → M 158 = V → mRing n S M → n ≤ 6 → okW V → okT V → vLaw L V → V 0 + f ≤ 9999 →
    wp (w_m_waitFor_28 (d + 9) deer i M) fun r M' => r = [aI (wtD L deer f i V).2] ∧ M' 158 = dyV L (wtD L deer f i V).1 V ∧ mRing (dyN (wtD L deer f i V).1 n) (dyS L (wtD L deer f i V).1 n S V) M' ∧ fr [157, 158, 160, 166, 167] M M' ∧ (∀ j, j ≠ 4 → j ≠ 26 → M' 157 j = M 157 j)
  | 0, i, n, S, V, M, hi, hV, hr, hn, h1, h2, hL, h3 => by
    rw [l_m_waitFor_28]
    refine wp_pos (by omega) ?_
    exact wp_ret ⟨rfl, hV, hr, fr_refl _ _, fun _ _ _ => rfl⟩
  | f + 1, i, n, S, V, M, hi, hV, hr, hn, h1, h2, hL, h3 => by
    have h0 := h1.2.2.1
    rw [l_m_waitFor_28]
    refine wp_neg (by omega) ?_
    refine m_day1 _ n S V L M hV hr hn h1 h2 hL hok _ _ ?_
    intro M1 w1 c1 f1 g1
    rw [al158]
    refine wp_inb ⟨by omega, by omega⟩ ?_
    rw [w1]
    refine wp_if (fun h => ?_) (fun h => ?_)
    · have e : wtD L deer (f + 1) i V = (1, (i : Int)) := by simp only [wtD]; rw [if_pos h]
      rw [e]
      exact wp_ret ⟨rfl, w1, c1, f1, g1⟩
    · have e : wtD L deer (f + 1) i V = ((wtD L deer f (i + 1) (pDay true V L)).1 + 1, (wtD L deer f (i + 1) (pDay true V L)).2) := by simp only [wtD]; rw [if_neg h]
      rw [e]
      refine wp_I ?_
      (try simp (disch := omega) only [w32_i, tn_l, tn_n, tn_r, tn_s, tn_1, Nat.add_sub_cancel, Int.reduceToNat, Int.toNat_zero, Int.toNat_one, al3, al4, al5, al6, al8, al9, al11, al13, al15, al17, al19, al21, al23, al25, al27, al29, al30, al31, al95, al96, al128, al129, al130, al131, al134, al135, al137, al139, al140, al142, al143, al144, al145, al147, al148, al149, al151, al152, al153, al154, al155, al156, al158, al159, al160, al161, al162, al163, al164, al165, al166, al167, al168, al169, al170, al171, al172, al173, al174, al175, al176])
      refine wp_mono (m_wait_lp d L deer hok f (i + 1) (puN n) (puS n S V) (pDay true V L) M1 (by omega) w1 c1 (puN_le hn) (okW_day h1 h2 (by omega)) (okT_day h2 h1.2.1) (vLaw_V hL fun k hk => pDay_ne true V L h1.2.1 k (by omega) (by omega)) (by rw [pDay_0 _ _ _ h1.2.1, w32_i (by omega) (by omega)]; omega)) ?_
      rintro r M' ⟨e, w, c, fr', g'⟩
      exact ⟨e, w, c, fr_tt f1 fr', fun j a b => (g' j a b).trans (g1 j a b)⟩
theorem pr_waitFor (d : Nat) (v : Int) : pr (w_x_waitFor (d + 40) v) (w_m_waitFor (d + 40) v) := by
  intro L Lk M hI
  have hI' := hI
  obtain ⟨⟨k1, k2, hw, k4, k5⟩, -, -, hr, -⟩ := hI
  obtain ⟨c, hc, h10⟩ := okW_n k1
  obtain ⟨n, S, r1, r2, r3⟩ := ring_out hr
  have e14 : M 2 14 = M 158 0 := (rW_wd hw).2.2.2.2.2.2.2.2.2.2.1
  have h0 := k1.2.2.1
  by_cases hgo : (0 ≤ v ∧ v < M 158 41) ∧ M 158 0 + 30 ≤ 9999
  · have hx := x_wait_lp (d + 31) L v k5 30 1 n S (M 158) M (by omega) hw r1 r3.1 k1 k2 (by omega)
    obtain ⟨r, M1, e1, er, w1, c1, f1⟩ := hx
    have h158 : M1 158 = M 158 := f1 158 (by omega) (by omega)
    have hm := m_wait_lp (d + 30) L v k5 30 1 n S (M 158) M1 (by omega) h158 (mRing_fr r2 (by rw [f1 157 (by omega) (by omega)]) (f1 160 (by omega) (by omega))) r3.1 k1 k2 k4 (by omega)
    obtain ⟨r', M2, e2, er2, v2, m2, f2, g2⟩ := hm
    subst er er2
    have hle := wtD_le L v 30 1 (M 158)
    obtain ⟨q1, q2, q3⟩ := pr_dy hI' r3 (by omega) w1 c1 f1 v2 m2 f2 g2
    refine ⟨(wtD L v 30 1 (M 158)).2, M1, M2, ?_, ?_, q1, q2, q3⟩
    · rw [u_x_waitFor, wood_has_eq _ 2 _ (M 158) M (rW_wd hw).1 (by omega), bndI_s, decide_eq_true hgo.1, if_neg (by decide), e14, w32_i (by omega) (by omega), if_neg (by omega)]
      exact e1
    · rw [u_m_waitFor, m_isDeer_eq _ _ M1 (by rw [h158]; omega) (by rw [h158]; omega), bndI_s, h158, decide_eq_true hgo.1, if_neg (by decide), al158, inb_s (by decide) (by decide), w32_i (by omega) (by omega), if_neg (by omega)]
      exact e2
  · refine ⟨-2, M, M, ?_, ?_, ⟨L, Lk, hI'⟩, ⟨rfl, rfl⟩, rfl, rfl⟩
    · rw [u_x_waitFor, wood_has_eq _ 2 _ (M 158) M (rW_wd hw).1 (by omega), bndI_s, e14]
      by_cases a1 : 0 ≤ v ∧ v < M 158 41
      · rw [decide_eq_true a1, if_neg (by decide), w32_i (by omega) (by omega), if_pos (by omega)]
      · rw [decide_eq_false a1, if_pos (by decide)]
    · rw [u_m_waitFor, m_isDeer_eq _ _ M (by omega) (by omega), bndI_s]
      by_cases a1 : 0 ≤ v ∧ v < M 158 41
      · rw [decide_eq_true a1, if_neg (by decide), al158, inb_s (by decide) (by decide), w32_i (by omega) (by omega), if_pos (by omega)]
      · rw [decide_eq_false a1, if_pos (by decide)]
