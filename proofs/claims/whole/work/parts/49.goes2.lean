/-! goes: a dream of days -/
theorem pNote_f (V : aW) (x y z : Int) : pNote false V x y z = V := by unfold pNote; simp
theorem pDoes_f {V : aW} {i k : Nat} (hk : 41 ≤ k) : pDoes false V i k = V k := by
  unfold pDoes
  repeat' split
  all_goals first | exact vS_ne (by omega) | (unfold pEats; rw [pNote_f]; exact vS_ne (by omega)) | rfl
theorem pPlan_f {k : Nat} (hk : 41 ≤ k) : ∀ (f i : Nat) (V : aW), pPlan false f i V k = V k
  | 0, _, _ => rfl
  | f + 1, i, V => by
    simp only [pPlan]
    rw [pPlan_f hk f (i + 1)]
    split
    · exact pDoes_f hk
    · rfl
theorem pPays_f {k : Nat} (hk : 41 ≤ k) : ∀ (f i : Nat) (V : aW), pPays false f i V k = V k
  | 0, _, _ => rfl
  | f + 1, i, V => by
    simp only [pPays]
    rw [pPays_f hk f (i + 1)]
    unfold pPay
    split
    · rfl
    · rw [pNote_f, vS_ne (by omega), vS_ne (by omega)]
theorem pDay_f {V : aW} {L : aLaw} {k : Nat} (hk : 41 ≤ k) : pDay false V L k = V k := by
  unfold pDay
  rw [pEnd_ne (by omega), if_neg (by decide), pPays_f hk]
  unfold pComes
  split
  · rw [pB_ne (by omega) (by omega), pNote_f, pDawn_1 _ _ _ k (by omega), pPlan_f hk]
  · rw [pB_ne (by omega) (by omega), pNote_f, pDawn_1 _ _ _ k (by omega), pPlan_f hk]
def dI (V : aW) : Prop := okN V ∧ okP V ∧ okA V ∧ (0 ≤ V 8 ∧ V 8 ≤ 150) ∧ 0 ≤ V 42 ∧ ∃ x : Nat, V 9 = x ∧ x < 65536
theorem pPays_9 (tr : Bool) : ∀ (f i : Nat) (V : aW), i + f ≤ 16 → (0 ≤ V 8 ∧ V 8 ≤ 150) → (∃ x : Nat, V 9 = x ∧ x < 65536) → ∃ x : Nat, pPays tr f i V 9 = x ∧ x < 65536
  | 0, _, _, _, _, h => h
  | f + 1, i, V, hi, h8, h => by
    simp only [pPays]
    refine pPays_9 tr f (i + 1) _ (by omega) (pPay_8 h8) ?_
    unfold pPay
    split
    · exact h
    · obtain ⟨x, hx, hx2⟩ := h
      rw [pNote_ne (by rw [vS_ne (by omega), vS_ne (by omega)]; exact h8) (by omega) (by omega), vS_ne (by omega), vS_at, hx, ior_bit (by omega) (by omega)]
      exact ⟨_, rfl, Nat.or_lt_two_pow (n := 16) hx2 (Nat.pow_lt_pow_right (a := 2) (by omega) (by omega))⟩
theorem dI_day {V : aW} {L : aLaw} (h : dI V) : dI (pDay false V L) := by
  obtain ⟨h1, h2, h3, h4, h5, h6⟩ := h
  have n45 := h1.1
  have n46 := h1.2.1
  have q : ∀ k, 41 ≤ k → pDay false V L k = V k := fun k hk => pDay_f hk
  have a1 := fun k (b : k ≠ 8) (c : k ≠ 10) (e : k ≠ 4 ∧ k ≠ 5 ∧ k ≠ 6) (g : k < 284 ∨ 884 ≤ k) => (pPlan_ne (tr := false) b c e g (V 45).toNat 0 V h4).1
  have b1 := (pPlan_ne (tr := false) (k := 0) (by omega) (by omega) (by omega) (by omega) (V 45).toNat 0 V h4).2
  have a2 := pDawn_1 false (pPlan false (V 45).toNat 0 V) L
  have h82 : 0 ≤ (pDawn false (pPlan false (V 45).toNat 0 V) L).1 8 ∧ (pDawn false (pPlan false (V 45).toNat 0 V) L).1 8 ≤ 150 := by rw [a2 8 (by omega)]; exact b1
  have a3 := fun k (hk : k ≠ 1 ∧ k ≠ 3 ∧ k ≠ 8) (hk2 : k < 11 ∨ 41 ≤ k) (hk3 : k < 284 ∨ 884 ≤ k) => (pComes_ne (tr := false) (L := L) (who := (pDawn false (pPlan false (V 45).toNat 0 V) L).2) h82 hk hk2 hk3).1
  have b3 := (pComes_ne (tr := false) (L := L) (who := (pDawn false (pPlan false (V 45).toNat 0 V) L).2) (k := 0) h82 (by omega) (by omega) (by omega)).2
  have e10 : pDay false V L 10 = pPlan false (V 45).toNat 0 V 10 := by
    unfold pDay
    rw [pEnd_ne (by omega), if_neg (by decide), (pPays_ne (tr := false) (k := 10) (by omega) (by omega) (by omega) (V 46).toNat 0 _ b3).1, a3 10 (by omega) (by omega) (by omega), a2 10 (by omega)]
  have hA := okA_pPlan (tr := false) (V 45).toNat (by omega) (V 45).toNat 0 V (by omega) (by omega) h3 h4 h2
  refine ⟨okN_V h1 fun k _ _ => q k (by omega), okP_V h2 (fun k _ => q k (by omega)) (by omega), okA_V hA e10 (by rw [q 41 (by omega), pPlan_f (by omega)]), ?_, by rw [q 42 (by omega)]; exact h5, ?_⟩
  · have := pDay_up false V L h4
    omega
  · have : ∃ x : Nat, pPays false (V 46).toNat 0 (pComes false (pDawn false (pPlan false (V 45).toNat 0 V) L).1 L (pDawn false (pPlan false (V 45).toNat 0 V) L).2) 9 = x ∧ x < 65536 := pPays_9 false (V 46).toNat 0 _ (by omega) b3 (by rw [a3 9 (by omega) (by omega) (by omega), a2 9 (by omega), a1 9 (by omega) (by omega) (by omega) (by omega)]; exact h6)
    unfold pDay
    rw [pEnd_ne (by omega), if_neg (by decide)]
    exact this
noncomputable def dyF (L : aLaw) : Nat → aW → aW
  | 0, V => V
  | f + 1, V => dyF L f (pDay false V L)
theorem dyF_ok (L : aLaw) : ∀ (f : Nat) (V : aW), dI V → dI (dyF L f V) ∧ ∀ k, 41 ≤ k → dyF L f V k = V k
  | 0, V, h => ⟨h, fun _ _ => rfl⟩
  | f + 1, V, h => by
    have ih := dyF_ok L f (pDay false V L) (dI_day h)
    exact ⟨ih.1, fun k hk => (ih.2 k hk).trans (pDay_f hk)⟩
noncomputable def vGoes (w : Int) (V : aW) : Int := if w = 0 then V 2 else if w = 1 then V 3 else if w = 2 then ((pc (V 9).toNat 16 : Nat) : Int) else V 1
theorem x_goes_lp (d : Nat) (L : aLaw) (N : Nat) (w : Int) (hok : okLaw L) (hN : N ≤ 99) : ∀ (f i : Nat) (V : aW) (M : aM), i + f = N → rW false 63 V L M → dI V →
    wp (w_x_goes_35 (d + 8) N w i M) fun r M' => r = [aI (vGoes w (dyF L f V))] ∧ rW false 63 (dyF L f V) L M' ∧ fW 63 M M'
  | 0, i, V, M, hi, hw, hd => by
    rw [l_x_goes_35]
    refine wp_neg (by omega) ?_
    have h := rW_wd hw
    rw [show M 64 12 = V 2 from h.2.2.2.2.2.2.2.2.1, show M 64 13 = V 3 from h.2.2.2.2.2.2.2.2.2.1, show M 64 16 = V 9 from h.2.2.2.2.2.2.2.2.2.2.2.2.1, show M 64 11 = V 1 from h.2.2.2.2.2.2.2.1]
    refine wp_if (fun h0 => wp_ret ⟨by simp [vGoes, h0, dyF], hw, fW_refl _ _⟩) (fun h0 => ?_)
    refine wp_if (fun h1 => wp_ret ⟨by simp [vGoes, h1, dyF], hw, fW_refl _ _⟩) (fun h1 => ?_)
    refine wp_if (fun h2 => ?_) (fun h2 => wp_ret ⟨by simp [vGoes, h0, h1, h2, dyF], hw, fW_refl _ _⟩)
    obtain ⟨x, hx, hx2⟩ := hd.2.2.2.2.2
    rw [hx]
    refine wp_eI (ji_bitCount_eq _ x M hx2) ?_
    exact wp_ret ⟨by simp [vGoes, h2, dyF, hx], hw, fW_refl _ _⟩
  | f + 1, i, V, M, hi, hw, hd => by
    rw [l_x_goes_35]
    refine wp_pos (by omega) ?_
    have hd' := hd
    obtain ⟨h1, h2, h3, h4, h5, h6⟩ := hd'
    obtain ⟨x, n, ha, hn, hb, h10⟩ := h3
    refine wp_bI (P := fun _ M' => rW false 63 (pDay false V L) L M' ∧ fW 63 M M') (wp_mono (world_passDay_eq _ 63 false V L n M (Or.inr (Or.inr rfl)) hw hn h10 h4 h1 h2 hd.2.2.1 hok h5) ?_) ?_
    · rintro r M' ⟨e, w, f⟩; exact ⟨_, e, w, f⟩
    rintro v M1 ⟨w1, f1⟩
    refine wp_I ?_
    (try simp (disch := omega) only [w32_i, tn_l, tn_n, tn_r, tn_s, tn_1, Nat.add_sub_cancel, Int.reduceToNat, Int.toNat_zero, Int.toNat_one, al3, al4, al5, al6, al8, al9, al11, al13, al15, al17, al19, al21, al23, al25, al27, al29, al30, al31, al95, al96, al128, al129, al130, al131, al134, al135, al137, al139, al140, al142, al143, al144, al145, al147, al148, al149, al151, al152, al153, al154, al155, al156, al158, al159, al160, al161, al162, al163, al164, al165, al166, al167, al168, al169, al170, al171, al172, al173, al174, al175, al176])
    refine wp_mono (x_goes_lp d L N w hok hN f (i + 1) (pDay false V L) M1 (by omega) w1 (dI_day hd)) ?_
    rintro r M' ⟨e, w, f'⟩
    exact ⟨e, w, fW_tr f1 f'⟩
theorem m_goes_127_lp (d : Nat) (v : Int) (A W : aW) (Q : List aV → aM → Prop) : ∀ (f i : Nat) (M : aM), i + f = 41 → (∀ k, k < 41 → M 161 k = A k) → M 158 = (fun k => if k < i then A k else W k) → (∀ M', fr [158] M M' → M' 158 = (fun k => if k < 41 then A k else W k) → Q [aI v] M') → wp (w_m_goes_127 d v i M) Q
  | 0, i, M, h, hA, hV, hQ => by
    rw [l_m_goes_127]
    refine wp_neg (by omega) ?_
    exact wp_ret (hQ M (fr_refl _ _) (by rw [hV, show i = 41 by omega]))
  | f + 1, i, M, h, hA, hV, hQ => by
    rw [l_m_goes_127]
    (try simp (disch := omega) only [w32_i, tn_l, tn_n, tn_r, tn_s, tn_1, Nat.add_sub_cancel, Int.reduceToNat, Int.toNat_zero, Int.toNat_one, al3, al4, al5, al6, al8, al9, al11, al13, al15, al17, al19, al21, al23, al25, al27, al29, al30, al31, al95, al96, al128, al129, al130, al131, al134, al135, al137, al139, al140, al142, al143, al144, al145, al147, al148, al149, al151, al152, al153, al154, al155, al156, al158, al159, al160, al161, al162, al163, al164, al165, al166, al167, al168, al169, al170, al171, al172, al173, al174, al175, al176])
    refine wp_pos (by omega) ?_
    refine wp_inb ⟨by omega, by omega⟩ ?_
    refine wp_inb ⟨by omega, by omega⟩ ?_
    rw [hA i (by omega)]
    refine wp_w fun M1 w1 f1 => ?_
    refine wp_I ?_
    refine m_goes_127_lp d v A W Q f (i + 1) M1 (by omega) (fun k hk => by rw [f1 _ (by simp)]; exact hA k hk) ?_ (fun M' f' w' => hQ M' (fr_tt f1 f') w')
    rw [w1, hV]
    funext k
    simp only [vS_eq]
    by_cases e : k = i
    · subst e; rw [if_pos rfl, if_pos (by omega)]
    · rw [if_neg e]
      by_cases e2 : k < i
      · rw [if_pos e2, if_pos (by omega)]
      · rw [if_neg e2, if_neg (by omega)]
theorem m_goes_56_lp (d : Nat) (L : aLaw) (N : Nat) (w : Int) (A : aW) (hok : okLaw L) (hN : N ≤ 99) (hw0 : 0 ≤ w ∧ w ≤ 3) : ∀ (f i : Nat) (V : aW) (M : aM), i + f = N → M 158 = V → M 157 26 = 0 → vLaw L V → dI V → (∀ k, k < 41 → M 161 k = A k) → (∀ k, 41 ≤ k → A k = V k) →
    wp (w_m_goes_56 (d + 9) N w i M) fun r M' => r = [aI (vGoes w (dyF L f V))] ∧ M' 158 = A ∧ fr [158, 166, 167] M M'
  | 0, i, V, M, hi, hV, ht, hL, hd, hA, hA2 => by
    rw [l_m_goes_56]
    (try simp (disch := omega) only [w32_i, tn_l, tn_n, tn_r, tn_s, tn_1, Nat.add_sub_cancel, Int.reduceToNat, Int.toNat_zero, Int.toNat_one, al3, al4, al5, al6, al8, al9, al11, al13, al15, al17, al19, al21, al23, al25, al27, al29, al30, al31, al95, al96, al128, al129, al130, al131, al134, al135, al137, al139, al140, al142, al143, al144, al145, al147, al148, al149, al151, al152, al153, al154, al155, al156, al158, al159, al160, al161, al162, al163, al164, al165, al166, al167, al168, al169, al170, al171, al172, al173, al174, al175, al176])
    refine wp_neg (by omega) ?_
    rw [hV]
    have fin : ∀ v, v = vGoes w V → wp (w_m_goes_127 (d + 9) v 0 M) fun r M' => r = [aI (vGoes w (dyF L 0 V))] ∧ M' 158 = A ∧ fr [158, 166, 167] M M' := by
      intro v hv
      refine m_goes_127_lp _ v A V _ 41 0 M (by omega) hA (by rw [hV]; funext k; rw [if_neg (by omega)]) ?_
      intro M' f' w'
      refine ⟨by rw [hv]; rfl, ?_, fr_w f' (by simp)⟩
      rw [w']
      funext k
      split
      · rfl
      · exact (hA2 k (by omega)).symm
    refine wp_if (fun h0 => ?_) (fun h0 => ?_)
    · refine wp_inb ⟨by omega, by omega⟩ ?_
      refine wp_I ?_
      exact fin _ (by simp [vGoes, h0])
    refine wp_if (fun h1 => ?_) (fun h1 => ?_)
    · refine wp_inb ⟨by omega, by omega⟩ ?_
      refine wp_I ?_
      exact fin _ (by simp [vGoes, h1])
    refine wp_if (fun h2 => ?_) (fun h2 => ?_)
    · refine wp_inb ⟨by omega, by omega⟩ ?_
      obtain ⟨x, hx, hx2⟩ := hd.2.2.2.2.2
      rw [hx]
      refine wp_eI (m_count_eq _ x M hx2) ?_
      exact fin _ (by simp [vGoes, h2, hx])
    · refine wp_inb ⟨by omega, by omega⟩ ?_
      refine wp_I ?_
      exact fin _ (by simp [vGoes, h0, h1, h2])
  | f + 1, i, V, M, hi, hV, ht, hL, hd, hA, hA2 => by
    rw [l_m_goes_56]
    (try simp (disch := omega) only [w32_i, tn_l, tn_n, tn_r, tn_s, tn_1, Nat.add_sub_cancel, Int.reduceToNat, Int.toNat_zero, Int.toNat_one, al3, al4, al5, al6, al8, al9, al11, al13, al15, al17, al19, al21, al23, al25, al27, al29, al30, al31, al95, al96, al128, al129, al130, al131, al134, al135, al137, al139, al140, al142, al143, al144, al145, al147, al148, al149, al151, al152, al153, al154, al155, al156, al158, al159, al160, al161, al162, al163, al164, al165, al166, al167, al168, al169, al170, al171, al172, al173, al174, al175, al176])
    refine wp_pos (by omega) ?_
    have hd' := hd
    obtain ⟨h1, h2, h3, h4, h5, h6⟩ := hd'
    obtain ⟨x, n, ha, hn, hb, h10⟩ := h3
    refine wp_bI (P := fun _ M' => M' 158 = pDay false V L ∧ fr [158, 166, 167] M M') (wp_mono (m_aDay_eq _ false V L n hn h10 h4 h1.1 h1.2.1 hL hok M hV (by rw [ht]; rfl)) ?_) ?_
    · rintro r M' ⟨e, w, f⟩; exact ⟨_, e, w, f⟩
    rintro v M1 ⟨w1, f1⟩
    refine wp_I ?_
    refine wp_mono (m_goes_56_lp d L N w A hok hN hw0 f (i + 1) (pDay false V L) M1 (by omega) w1 (by rw [f1 _ (by simp), ht]) (vLaw_V hL fun k hk => pDay_f (by omega)) (dI_day hd) (fun k hk => by rw [f1 _ (by simp)]; exact hA k hk) (fun k hk => by rw [pDay_f hk]; exact hA2 k hk)) ?_
    rintro r M' ⟨e, w, f'⟩
    exact ⟨e, w, fr_tt f1 f'⟩
theorem m_goes_25_lp (d : Nat) (N : Nat) (w : Int) (A : aW) (Q : List aV → aM → Prop) : ∀ (f i : Nat) (M : aM), i + f = 41 → M 158 = A → (∀ k, k < i → M 161 k = A k) → (∀ M', fr [161] M M' → (∀ k, k < 41 → M' 161 k = A k) → wp (w_m_goes_25 d N w 41 M') Q) → wp (w_m_goes_25 d N w i M) Q
  | 0, i, M, h, hV, hA, hQ => by
    rw [show i = 41 by omega] at hA ⊢
    exact hQ M (fr_refl _ _) hA
  | f + 1, i, M, h, hV, hA, hQ => by
    rw [l_m_goes_25]
    (try simp (disch := omega) only [w32_i, tn_l, tn_n, tn_r, tn_s, tn_1, Nat.add_sub_cancel, Int.reduceToNat, Int.toNat_zero, Int.toNat_one, al3, al4, al5, al6, al8, al9, al11, al13, al15, al17, al19, al21, al23, al25, al27, al29, al30, al31, al95, al96, al128, al129, al130, al131, al134, al135, al137, al139, al140, al142, al143, al144, al145, al147, al148, al149, al151, al152, al153, al154, al155, al156, al158, al159, al160, al161, al162, al163, al164, al165, al166, al167, al168, al169, al170, al171, al172, al173, al174, al175, al176])
    refine wp_pos (by omega) ?_
    refine wp_inb ⟨by omega, by omega⟩ ?_
    refine wp_inb ⟨by omega, by omega⟩ ?_
    rw [hV]
    refine wp_up fun M1 f1 g1 => ?_
    refine wp_I ?_
    refine m_goes_25_lp d N w A Q f (i + 1) M1 (by omega) (by rw [f1 _ (by simp), hV]) (fun k hk => ?_) (fun M' f' w' => hQ M' (fr_tt f1 f') w')
    rw [g1]
    by_cases e : k = i
    · rw [if_pos e, e]
    · rw [if_neg e]; exact hA k (by omega)
theorem Inv_dream {L Lk : aLaw} {M M' : aM} (hI : Inv L Lk M) (f : ∀ k, ¬ (63 ≤ k ∧ k < 94) → k ≠ 157 → k ≠ 161 → k ≠ 166 → k ≠ 167 → M' k = M k) (g : ∀ j, j ≠ 26 → M' 157 j = M 157 j) (hs : statW 63 M') : Inv L Lk M' := by
  obtain ⟨h1, h2, h3, h4, h5, h6⟩ := hI
  have F : ∀ k, ¬ (63 ≤ k ∧ k < 94) → k < 157 → M' k = M k := fun k a b => f k a (by omega) (by omega) (by omega) (by omega)
  exact ⟨iNow_ag h1 (f 158 (by omega) (by omega) (by omega) (by omega) (by omega)) fun k _ _ _ => F k (by omega) (by omega),
    iKept_ag h2 (by rw [F 0 (by omega) (by omega)]) (g 5 (by omega)) (f 159 (by omega) (by omega) (by omega) (by omega) (by omega)) fun k _ _ _ => F k (by omega) (by omega),
    ⟨statW_ag h3.1 fun k _ _ => by rw [F k (by omega) (by omega)], hs, by rw [F 136 (by omega) (by omega)]; exact h3.2.2.1, by rw [F 138 (by omega) (by omega)]; exact h3.2.2.2⟩,
    iRing_ag h4 (F 94 (by omega) (by omega)) (g 4 (by omega)) (F 96 (by omega) (by omega)) (f 160 (by omega) (by omega) (by omega) (by omega) (by omega)) (f 158 (by omega) (by omega) (by omega) (by omega) (by omega)) fun k _ _ => F k (by omega) (by omega),
    iTape_ag h5 (F 127 (by omega) (by omega)) (g 16 (by omega)) (F 128 (by omega) (by omega)) (f 165 (by omega) (by omega) (by omega) (by omega) (by omega)),
    iFault_ag h6 (F 132 (by omega) (by omega)) (g 23 (by omega)) (g 25 (by omega))⟩
theorem pr_goes (d : Nat) (v w : Int) : pr (w_x_goes (d + 40) v w) (w_m_goes (d + 40) v w) := by
  intro L Lk M hI
  have hI' := hI
  obtain ⟨⟨k1, k2, hw, k4, k5⟩, -, hS, hr, -⟩ := hI
  by_cases hgo : (1 ≤ v ∧ v ≤ 99) ∧ (0 ≤ w ∧ w ≤ 3)
  · obtain ⟨N, rfl⟩ : ∃ N : Nat, v = N := ⟨v.toNat, by omega⟩
    have hd : dI (M 158) := ⟨k2.1, k2.2.1, k1.1, k1.2.1, k1.2.2.2.2.2.2.2.1.1, k1.2.2.2.2.2.2.2.2.2.1⟩
    have hx : wp (w_x_goes (d + 40) N w M) fun r M1 => r = [aI (vGoes w (dyF L N (M 158)))] ∧ statW 63 M1 ∧ ∀ k, k < 63 ∨ 94 ≤ k → M1 k = M k := by
      rw [l_x_goes]
      refine wp_neg (by omega) ?_
      refine wp_neg (by omega) ?_
      refine wp_eI (x_within_eq _ _ _ _) ?_
      rw [decide_eq_true hgo.2]
      refine wp_neg (by decide) ?_
      refine wp_bV (world_copy_eq _ 63 1 (M 158) L M (Or.inr (Or.inr rfl)) isWo1 (by omega) hw k2.1 k5.1 k1.2.1 hS.2.1) ?_
      rintro M1 ⟨w1, f1⟩
      refine wp_mono (x_goes_lp _ L N w k5 (by omega) N 0 (M 158) M1 (by omega) ⟨w1.1, fun h => by simp at h⟩ hd) ?_
      rintro r M' ⟨e, w', f'⟩
      exact ⟨e, statW_rW w', fun k hk => by rw [f' k (by omega), f1 k (by omega)]⟩
    obtain ⟨r, M1, e1, er, s1, f1⟩ := hx
    have h158 : M1 158 = M 158 := f1 158 (by omega)
    have hm : wp (w_m_goes (d + 40) N w M1) fun r M2 => r = [aI (vGoes w (dyF L N (M 158)))] ∧ M2 158 = M 158 ∧ (∀ j, j ≠ 26 → M2 157 j = M1 157 j) ∧ fr [157, 158, 161, 166, 167] M1 M2 := by
      rw [l_m_goes]
      refine wp_eI (m_isIn_eq _ _ _ _ _) ?_
      rw [decide_eq_true (show 1 ≤ (N : Int) ∧ (N : Int) ≤ 99 by omega)]
      refine wp_neg (by decide) ?_
      refine wp_eI (m_isIn_eq _ _ _ _ _) ?_
      rw [decide_eq_true hgo.2]
      refine wp_neg (by decide) ?_
      refine m_goes_25_lp _ N w (M 158) _ 41 0 M1 (by omega) h158 (fun k hk => by omega) ?_
      intro M2 f2 g2
      rw [l_m_goes_25]
      refine wp_neg (by decide) ?_
      refine wp_up fun M3 f3 g3 => ?_
      refine wp_mono (m_goes_56_lp _ L N w (M 158) k5 (by omega) hgo.2 N 0 (M 158) M3 (by omega) (by rw [f3 _ (by simp), f2 _ (by simp), h158]) (by rw [g3, if_pos rfl]) k4 hd (fun k hk => by rw [f3 _ (by simp)]; exact g2 k hk) (fun _ _ => rfl)) ?_
      rintro r M' ⟨e, w', f'⟩
      exact ⟨e, w', fun j hj => by rw [f' _ (by simp), g3, if_neg hj, f2 _ (by simp)], fr_tr (fr_tr f2 f3 (l := [157, 161]) (by simp) (by simp)) f' (by simp) (by simp)⟩
    obtain ⟨r', M2, e2, er2, v2, g2, f2⟩ := hm
    subst er er2
    refine ⟨vGoes w (dyF L N (M 158)), M1, M2, e1, e2, ⟨L, Lk, Inv_dream hI' (fun k a b c e1 e2 => ?_) (fun j hj => by rw [g2 j hj, f1 157 (by omega)]) (statW_ag s1 fun k _ _ => by rw [f2 k (by simp; omega)])⟩, ⟨f1 _ (by omega), f1 _ (by omega)⟩, ?_, ?_⟩
    · by_cases h : k = 158
      · subst h; exact v2
      · rw [f2 k (by simp; omega), f1 k (by omega)]
    · rw [f2 _ (by simp), f1 _ (by omega)]
    · rw [f2 _ (by simp), f1 _ (by omega)]
  · refine ⟨-100000, M, M, ?_, ?_, ⟨L, Lk, hI'⟩, ⟨rfl, rfl⟩, rfl, rfl⟩
    · rw [u_x_goes]
      by_cases a1 : v < 1
      · rw [if_pos a1]
      · rw [if_neg a1]
        by_cases a2 : 99 < v
        · rw [if_pos a2]
        · rw [if_neg a2, x_within_eq, bndI_s, decide_eq_false (by omega), if_pos (by decide)]
    · rw [u_m_goes, m_isIn_eq, bndI_s]
      by_cases a1 : 1 ≤ v ∧ v ≤ 99
      · rw [decide_eq_true a1, if_neg (by decide), m_isIn_eq, bndI_s, decide_eq_false (by omega), if_pos (by decide)]
      · rw [decide_eq_false a1, if_pos (by decide)]
