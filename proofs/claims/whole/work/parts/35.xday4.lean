/-! The whole day in the class. -/
theorem okA_V {V V' : aW} (h : okA V) (h1 : V' 10 = V 10) (h2 : V' 41 = V 41) : okA V' := by
  obtain ⟨x, n, a, b, c⟩ := h
  exact ⟨x, n, h1.trans a, h2.trans b, c⟩
theorem okA_or {V : aW} {j : Nat} (h : okA V) (hj : (j : Int) < V 41) : okA (vS V 10 (ior (V 10) (ishl 1 j))) := by
  obtain ⟨x, n, hx, hn, hlt, h10⟩ := h
  have hp : 2 ^ n ≤ 2 ^ 10 := Nat.pow_le_pow_right (by omega) h10
  refine ⟨x ||| 2 ^ j, n, ?_, by rw [vS_ne (by omega), hn], Nat.or_lt_two_pow hlt (Nat.pow_lt_pow_right (by omega) (by omega)), h10⟩
  rw [vS_at, hx, ior_bit (by omega) (by omega)]
theorem okA_and {V : aW} {j : Nat} (h : okA V) (hj : (j : Int) < V 41) : okA (vS V 10 (iand (V 10) (ixor (ishl 1 j) (-1)))) := by
  obtain ⟨x, n, hx, hn, hlt, h10⟩ := h
  have hp : 2 ^ n ≤ 2 ^ 10 := Nat.pow_le_pow_right (by omega) h10
  refine ⟨x &&& (2 ^ j ^^^ 2147483647), n, ?_, by rw [vS_ne (by omega), hn], Nat.lt_of_le_of_lt Nat.and_le_left hlt, h10⟩
  rw [vS_at, hx, iand_nbit (by omega) (by omega)]
theorem okA_pNote {tr : Bool} {V : aW} {x y z : Int} (h : okA V) (h8 : 0 ≤ V 8 ∧ V 8 ≤ 150) : okA (pNote tr V x y z) := okA_V h (pNote_ne h8 (by omega) (by omega)) (pNote_ne h8 (by omega) (by omega))
theorem okA_pEats {tr : Bool} {V : aW} {j : Int} {is : Bool} (h : okA V) (h8 : 0 ≤ V 8 ∧ V 8 ≤ 150) (hj0 : 0 ≤ j) (hj : j < V 41) : okA (pEats tr V j is) := by
  obtain ⟨k, rfl⟩ : ∃ k : Nat, j = k := ⟨j.toNat, by omega⟩
  unfold pEats
  refine okA_pNote ?_ (by rw [vS_ne (by omega)]; exact h8)
  cases is with
  | true => simpa using okA_and h hj
  | false => simpa using okA_or h hj
theorem okA_pDoes {tr : Bool} {V : aW} {i : Nat} (h : okA V) (h8 : 0 ≤ V 8 ∧ V 8 ≤ 150) (hP : okP V) (hi : (i : Int) < V 45) : okA (pDoes tr V i) := by
  obtain ⟨p1, p2, p3⟩ := hP i hi
  unfold pDoes
  split
  · exact okA_V h (vS_ne (by omega)) (vS_ne (by omega))
  · split
    · exact okA_V h (vS_ne (by omega)) (vS_ne (by omega))
    · split
      · exact okA_V h (vS_ne (by omega)) (vS_ne (by omega))
      · have p2 := p2 (by omega)
        split
        · split
          · exact okA_pEats h h8 p2.1 p2.2
          · exact h
        · split
          · exact h
          · exact okA_pEats h h8 p2.1 p2.2
theorem okA_pPlan {tr : Bool} (n45 : Nat) (h16 : n45 ≤ 16) : ∀ (f i : Nat) (V : aW), i + f = n45 → V 45 = n45 → okA V → (0 ≤ V 8 ∧ V 8 ≤ 150) → okP V → okA (pPlan tr f i V)
  | 0, _, _, _, _, h, _, _ => h
  | f + 1, i, V, hi, h45, h, h8, hP => by
    simp only [pPlan]
    split
    · have n1 : ∀ k, k ≠ 8 → k ≠ 10 → (k ≠ 4 ∧ k ≠ 5 ∧ k ≠ 6) → (k < 284 ∨ 884 ≤ k) → pDoes tr V i k = V k := fun k b c e g => pDoes_ne h8 b c e g
      exact okA_pPlan n45 h16 f (i + 1) _ (by omega) (by rw [n1 45 (by omega) (by omega) (by omega) (by omega), h45]) (okA_pDoes h h8 hP (by omega)) (pDoes_8 h8) (okP_V hP (fun k _ => n1 k (by omega) (by omega) (by omega) (by omega)) (by omega))
    · exact okA_pPlan n45 h16 f (i + 1) V (by omega) h45 h h8 hP
theorem world_passDay_eq (d a : Nat) (tr : Bool) (V : aW) (L : aLaw) (n : Nat) (M : aM) (ha : isWo a) (h : rW tr a V L M) (hn : V 41 = n) (h10 : n ≤ 10) (h8 : 0 ≤ V 8 ∧ V 8 ≤ 150) (hN : okN V) (hP : okP V) (hA : okA V) (hok : okLaw L) (h42 : 0 ≤ V 42) :
    wp (w_world_passDay (d + 8) a (bI (!tr)) M) fun r M' => r = [aI (if pDay tr V L 1 = -1 then 1 else 0)] ∧ rW tr a (pDay tr V L) L M' ∧ fW a M M' := by
  rw [l_world_passDay, l_world_followPlan]
  refine wp_bV (world_plan_lp _ a tr L (V 45).toNat ha (by have := hN.1; omega) (V 45).toNat 0 V M (by omega) (by have := hN.1; omega) h8 h hN hP (by omega)) ?_
  rintro M1 ⟨w1, f1⟩
  have n1 : ∀ k, k ≠ 8 → k ≠ 10 → (k ≠ 4 ∧ k ≠ 5 ∧ k ≠ 6) → (k < 284 ∨ 884 ≤ k) → pPlan tr (V 45).toNat 0 V k = V k := fun k a b c e => (pPlan_ne a b c e _ 0 V h8).1
  have h81 := (pPlan_ne (tr := tr) (k := 0) (by omega) (by omega) (by omega) (by omega) (V 45).toNat 0 V h8).2
  have hA1 : okA (pPlan tr (V 45).toNat 0 V) := okA_pPlan (V 45).toNat (by have := hN.1; omega) _ 0 V (by omega) (by have := hN.1; omega) hA h8 hP
  have hn1 : pPlan tr (V 45).toNat 0 V 41 = n := by rw [n1 41 (by omega) (by omega) (by omega) (by omega), hn]
  have hN1 : okN (pPlan tr (V 45).toNat 0 V) := okN_V hN fun k _ _ => n1 k (by omega) (by omega) (by omega) (by omega)
  have e42 : pPlan tr (V 45).toNat 0 V 42 = V 42 := n1 42 (by omega) (by omega) (by omega) (by omega)
  have e46 : pPlan tr (V 45).toNat 0 V 46 = V 46 := n1 46 (by omega) (by omega) (by omega) (by omega)
  generalize hV1 : pPlan tr (V 45).toNat 0 V = V1 at *
  refine wp_bV (world_askComes_eq _ a V1 L ha hok (by omega) (by omega) M1 (rW_wd w1) w1.1.2.2.1) ?_
  rintro M2 ⟨s2, c2, f2⟩
  have w2 : rW tr a V1 L M2 := rW_fr w1 fun k _ _ _ => f2 k (by simp; omega)
  have hf2 : fW a M M2 := fW_tr f1 (fW_fr f2 (by intro k hk; simp at hk; omega))
  have n2 := pDawn_1 tr V1 L
  have hw := pDawn_2 tr V1 L n hn1 h10
  -- behind the dawn
  have tailM : ∀ M3, rW tr a (pDawn tr V1 L).1 L M3 → fW a M M3 → (pDawn tr V1 L).2 = -1 → wp (bndI (w_rows_put (d + 7) (a + 17) (M3 (a + 1) 14) 1 (-1) 5 M3) fun y18 M17 => bndV (w_wood_bring (d + 7) (a + 1) (-1) 5 0 M17) fun M19 => if bI (!tr) = 0 then bndV (w_world_sendWolves (d + 7) a M19) fun M20 => w_world_passDay_116 (d + 7) a (-1) M20 else w_world_passDay_116 (d + 7) a (-1) M19) fun r M' => r = [aI (if pDay tr V L 1 = -1 then 1 else 0)] ∧ rW tr a (pDay tr V L) L M' ∧ fW a M M' := by
    intro M3 w3 f3 hwho
    have hN2 : okN (pDawn tr V1 L).1 := okN_V hN1 fun k _ _ => n2 k (by omega)
    have h82 : 0 ≤ (pDawn tr V1 L).1 8 ∧ (pDawn tr V1 L).1 8 ≤ 150 := by rw [n2 8 (by omega)]; exact h81
    rw [(rW_wd w3).2.2.2.2.2.2.2.2.2.2.1]
    refine wp_bI (P := fun _ M' => rW tr a (pNote tr (pDawn tr V1 L).1 1 (-1) 5) L M' ∧ fr [a + 17, a + 18] M3 M') (wp_mono (book_put _ a tr _ L 1 (-1) 5 M3 ha w3 hN2) ?_) ?_
    · rintro r M' ⟨b, e, w, f⟩; exact ⟨b, e, w, f⟩
    rintro v M4 ⟨w4, f4⟩
    have n4 : ∀ k, k ≠ 8 → (k < 284 ∨ 884 ≤ k) → pNote tr (pDawn tr V1 L).1 1 (-1) 5 k = (pDawn tr V1 L).1 k := fun k a b => pNote_ne h82 a b
    have hN4 : okN (pNote tr (pDawn tr V1 L).1 1 (-1) 5) := okN_V hN2 fun k _ _ => n4 k (by omega) (by omega)
    refine wp_bV (world_bring_eq _ a tr _ L (-1) 5 0 n (by rw [n4 41 (by omega) (by omega), n2 41 (by omega), hn1]) h10 (by omega) M4 ha w4 hN4) ?_
    rintro M5 ⟨w5, f5⟩
    have ec : pB (pNote tr (pDawn tr V1 L).1 1 (-1) 5) (-1) 5 0 = pComes tr (pDawn tr V1 L).1 L (pDawn tr V1 L).2 := by rw [hwho]; simp [pComes]
    have hf5 : fW a M M5 := fW_tr f3 (fW_tr (fW_fr f4 (by simp)) f5)
    have e1 : pB (pNote tr (pDawn tr V1 L).1 1 (-1) 5) (-1) 5 0 1 = -1 := by simp [pB]
    have n5 : ∀ k, k ≠ 1 ∧ k ≠ 3 → (k < 11 ∨ 41 ≤ k) → pB (pNote tr (pDawn tr V1 L).1 1 (-1) 5) (-1) 5 0 k = pNote tr (pDawn tr V1 L).1 1 (-1) 5 k := fun k a b => pB_ne a b
    have hN5 : okN (pB (pNote tr (pDawn tr V1 L).1 1 (-1) 5) (-1) 5 0) := okN_V hN4 fun k _ _ => n5 k (by omega) (by omega)
    have ep : pDay tr V L = pEnd (if tr = true then pWolves (pB (pNote tr (pDawn tr V1 L).1 1 (-1) 5) (-1) 5 0) else pB (pNote tr (pDawn tr V1 L).1 1 (-1) 5) (-1) 5 0) := by
      unfold pDay
      simp only [hV1]
      rw [← ec, pPays_mist tr _ 0 _ e1]
    have ep1 : pDay tr V L 1 = -1 := by
      rw [ep, pEnd_ne (by omega)]
      split
      · rw [(pWolves_ne (by rw [n5 8 (by omega) (by omega)]; exact pNote_8 h82) (by omega) (by omega)).1, e1]
      · exact e1
    rw [ep1, if_pos rfl, ep]
    cases tr with
    | true =>
      refine wp_pos rfl ?_
      refine wp_bV (world_wolves_eq _ a _ L M5 ha w5 hN5 (okA_V hA1 (by rw [n5 10 (by omega) (by omega), n4 10 (by omega) (by omega), n2 10 (by omega)]) (by rw [n5 41 (by omega) (by omega), n4 41 (by omega) (by omega), n2 41 (by omega)])) (by rw [n5 42 (by omega) (by omega), n4 42 (by omega) (by omega), n2 42 (by omega), e42]; exact h42)) ?_
      rintro M6 ⟨w6, f6⟩
      refine wp_mono (world_116_eq _ a true _ L (-1) M6 w6 (okN_V hN5 fun k _ _ => (pWolves_ne (by rw [n5 8 (by omega) (by omega)]; exact pNote_8 h82) (by omega) (by omega)).1)) ?_
      rintro r M' ⟨e, w, f⟩
      exact ⟨e, w, fW_tr hf5 (fW_tr f6 f)⟩
    | false =>
      refine wp_neg (by decide) ?_
      refine wp_mono (world_116_eq _ a false _ L (-1) M5 w5 hN5) ?_
      rintro r M' ⟨e, w, f⟩
      exact ⟨e, w, fW_tr hf5 f⟩
  have tailD : ∀ (M3 : aM) (j : Nat), rW tr a (pDawn tr V1 L).1 L M3 → fW a M M3 → (pDawn tr V1 L).2 = j → j < n → wp (bndI (w_world_asked (d + 7) a 1 (j : Int) M3) fun y22 M21 => bndI (w_world_asked (d + 7) a 2 (j : Int) M21) fun y24 M23 => bndI (w_rows_put (d + 7) (a + 17) (M23 (a + 1) 14) 0 (j : Int) y22 M23) fun y26 M25 => bndV (w_wood_bring (d + 7) (a + 1) (j : Int) y22 y24 M25) fun M27 => bndV (w_world_payDues (d + 7) a M27) fun M28 => if bI (!tr) = 0 then bndV (w_world_sendWolves (d + 7) a M28) fun M29 => w_world_passDay_116 (d + 7) a (j : Int) M29 else w_world_passDay_116 (d + 7) a (j : Int) M28) fun r M' => r = [aI (if pDay tr V L 1 = -1 then 1 else 0)] ∧ rW tr a (pDay tr V L) L M' ∧ fW a M M' := by
    intro M3 j w3 f3 hwho hj
    have hN2 : okN (pDawn tr V1 L).1 := okN_V hN1 fun k _ _ => n2 k (by omega)
    have h82 : 0 ≤ (pDawn tr V1 L).1 8 ∧ (pDawn tr V1 L).1 8 ≤ 150 := by rw [n2 8 (by omega)]; exact h81
    have hn2 : (pDawn tr V1 L).1 41 = n := by rw [n2 41 (by omega), hn1]
    refine wp_fI (world_asked_eq _ a _ L 1 j M3 ha (rW_wd w3) w3.1.2.2.1 hok (by omega) (by omega)) fun Ma fa => ?_
    have wa : rW tr a (pDawn tr V1 L).1 L Ma := rW_fr w3 fun k _ _ _ => fa k (by simp; omega)
    refine wp_fI (world_asked_eq _ a _ L 2 j Ma ha (rW_wd wa) wa.1.2.2.1 hok (by omega) (by omega)) fun Mb fb => ?_
    have wb : rW tr a (pDawn tr V1 L).1 L Mb := rW_fr wa fun k _ _ _ => fb k (by simp; omega)
    rw [asked_long, asked_shy, (rW_wd wb).2.2.2.2.2.2.2.2.2.2.1]
    refine wp_bI (P := fun _ M' => rW tr a (pNote tr (pDawn tr V1 L).1 0 j (long (pDawn tr V1 L).1 L j)) L M' ∧ fr [a + 17, a + 18] Mb M') (wp_mono (book_put _ a tr _ L 0 j _ Mb ha wb hN2) ?_) ?_
    · rintro r M' ⟨b, e, w, f⟩; exact ⟨b, e, w, f⟩
    rintro v M4 ⟨w4, f4⟩
    generalize hW : pNote tr (pDawn tr V1 L).1 0 j (long (pDawn tr V1 L).1 L j) = W at *
    have n4 : ∀ k, k ≠ 8 → (k < 284 ∨ 884 ≤ k) → W k = (pDawn tr V1 L).1 k := fun k a b => by rw [← hW]; exact pNote_ne h82 a b
    have h84 : 0 ≤ W 8 ∧ W 8 ≤ 150 := by rw [← hW]; exact pNote_8 h82
    have hN4 : okN W := okN_V hN2 fun k _ _ => n4 k (by omega) (by omega)
    refine wp_bV (world_bring_eq _ a tr _ L j _ _ n (by rw [n4 41 (by omega) (by omega), hn2]) h10 (by omega) M4 ha w4 hN4) ?_
    rintro M5 ⟨w5, f5⟩
    have hf5 : fW a M M5 := fW_tr f3 (fW_tr (fW_fr fa (by intro k hk; simp at hk; omega)) (fW_tr (fW_fr fb (by intro k hk; simp at hk; omega)) (fW_tr (fW_fr f4 (by simp)) f5)))
    have ec : pB W j (long (pDawn tr V1 L).1 L j) (shy (pDawn tr V1 L).1 L j) = pComes tr (pDawn tr V1 L).1 L (pDawn tr V1 L).2 := by
      rw [hwho]; unfold pComes; rw [if_neg (by omega), tn_n, hW]
    rw [ec] at w5
    have n5 : ∀ k, k ≠ 1 ∧ k ≠ 3 → (k < 11 ∨ 41 ≤ k) → pComes tr (pDawn tr V1 L).1 L (pDawn tr V1 L).2 k = W k := fun k a b => by rw [← ec]; exact pB_ne a b
    have e1 : pComes tr (pDawn tr V1 L).1 L (pDawn tr V1 L).2 1 = j := by rw [← ec]; simp [pB]
    generalize hX : pComes tr (pDawn tr V1 L).1 L (pDawn tr V1 L).2 = X at *
    have hN5 : okN X := okN_V hN4 fun k _ _ => n5 k (by omega) (by omega)
    have h85 : 0 ≤ X 8 ∧ X 8 ≤ 150 := by rw [n5 8 (by omega) (by omega)]; exact h84
    have x46 : X 46 = V 46 := by rw [n5 46 (by omega) (by omega), n4 46 (by omega) (by omega), n2 46 (by omega), e46]
    have h46 := hN.2.1
    rw [l_world_payDues]
    refine wp_bV (world_pays_lp _ a tr L (V 46).toNat ha (by omega) (V 46).toNat 0 X M5 (by omega) (by omega) h85 (by omega) w5 hN5) ?_
    rintro M6 ⟨w6, f6⟩
    have n6 : ∀ k, k ≠ 8 → (k ≠ 9 ∧ k ≠ 2) → (k < 284 ∨ 884 ≤ k) → pPays tr (V 46).toNat 0 X k = X k := fun k a b c => (pPays_ne a b c _ 0 X h85).1
    have h86 := (pPays_ne (tr := tr) (k := 0) (by omega) (by omega) (by omega) (V 46).toNat 0 X h85).2
    have ep : pDay tr V L = pEnd (if tr = true then pWolves (pPays tr (V 46).toNat 0 X) else pPays tr (V 46).toNat 0 X) := by
      unfold pDay
      simp only [hV1, hX]
    generalize hY : pPays tr (V 46).toNat 0 X = Y at *
    have hN6 : okN Y := okN_V hN5 fun k _ _ => n6 k (by omega) (by omega) (by omega)
    have ep1 : pDay tr V L 1 = j := by
      rw [ep, pEnd_ne (by omega)]
      split
      · rw [(pWolves_ne h86 (by omega) (by omega)).1, n6 1 (by omega) (by omega) (by omega), e1]
      · rw [n6 1 (by omega) (by omega) (by omega), e1]
    rw [ep1, ep]
    cases tr with
    | true =>
      refine wp_pos rfl ?_
      refine wp_bV (world_wolves_eq _ a _ L M6 ha w6 hN6 (okA_V hA1 (by rw [n6 10 (by omega) (by omega) (by omega), n5 10 (by omega) (by omega), n4 10 (by omega) (by omega), n2 10 (by omega)]) (by rw [n6 41 (by omega) (by omega) (by omega), n5 41 (by omega) (by omega), n4 41 (by omega) (by omega), n2 41 (by omega)])) (by rw [n6 42 (by omega) (by omega) (by omega), n5 42 (by omega) (by omega), n4 42 (by omega) (by omega), n2 42 (by omega), e42]; exact h42)) ?_
      rintro M7 ⟨w7, f7⟩
      refine wp_mono (world_116_eq _ a true _ L j M7 w7 (okN_V hN6 fun k _ _ => (pWolves_ne h86 (by omega) (by omega)).1)) ?_
      rintro r M' ⟨e, w, f⟩
      exact ⟨e, w, fW_tr hf5 (fW_tr f6 (fW_tr f7 f))⟩
    | false =>
      refine wp_neg (by decide) ?_
      refine wp_mono (world_116_eq _ a false _ L j M6 w6 hN6) ?_
      rintro r M' ⟨e, w, f⟩
      exact ⟨e, w, fW_tr hf5 (fW_tr f6 f)⟩
  cases tr with
  | true =>
    refine wp_pos rfl ?_
    refine wp_bI (P := fun v M' => v = (pDawn true V1 L).2 ∧ rW true a (pDawn true V1 L).1 L M' ∧ fW a M2 M') (wp_mono (world_drawn_eq _ a true V1 L M2 ha w2 hN1 s2 c2) ?_) ?_
    · rintro r M' ⟨e, w, f⟩; exact ⟨_, e, rfl, w, f⟩
    rintro v M3 ⟨ev, w3, f3⟩
    rcases hw with hw | ⟨j, hj, hw⟩
    · rw [hw] at ev
      subst ev
      refine wp_pos rfl ?_
      exact tailM M3 w3 (fW_tr hf2 f3) hw
    · rw [hw] at ev
      subst ev
      refine wp_neg (by omega) ?_
      exact tailD M3 j w3 (fW_tr hf2 f3) hw hj
  | false =>
    refine wp_neg (by decide) ?_
    refine wp_eI (world_dreamt_eq _ a V1 L M2 ha (rW_wd w2) (by omega) s2 c2) ?_
    have w3 : rW false a (pDawn false V1 L).1 L M2 := by simpa [pDawn] using w2
    rcases hw with hw | ⟨j, hj, hw⟩
    · rw [hw]
      refine wp_pos rfl ?_
      exact tailM M2 w3 hf2 hw
    · rw [hw]
      refine wp_neg (by omega) ?_
      exact tailD M2 j w3 hf2 hw hj
