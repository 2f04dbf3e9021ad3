/-! moves: the call -/
theorem m_lays_eq (d : Nat) (n : Nat) (hn : n ≤ 8) (M : aM) (hV : M 158 47 = n) (ho : ∀ i, i < n → 0 ≤ oM (M 158) i ∧ oM (M 158) i ≤ 30) : wp (w_m_laysFeasts (d + 3) M) fun r M' => r = [aI (mvT (oM (M 158)) (feM (M 158)) (M 171) n)] ∧ fr [170] M M' := by
  have hp8 : 2 ^ n ≤ 2 ^ 8 := Nat.pow_le_pow_right (by omega) hn
  rw [l_m_laysFeasts, al158]
  refine wp_inb ⟨by omega, by omega⟩ ?_
  rw [hV, ishl_pow n (by omega)]
  refine wp_I ?_
  exact m_lays_13_lp M d n hn (M 158) (M 171) hV ho (fun r M' => r = [aI (mvT (oM (M 158)) (feM (M 158)) (M 171) n)] ∧ fr [170] M M') (fun M' z a b => ⟨rfl, z⟩) 41 M (by omega) (fr_refl _ _) rfl rfl fun r a b => by omega
theorem m_moves_126_lp (d : Nat) (n : Nat) (hn : n ≤ 8) (V : aW) (f : Nat → Nat) (b : bW (oM V) (feM V) n f) (hV : V 47 = n) (ho : ∀ i, i < n → 0 ≤ oM V i ∧ oM V i ≤ 30) (hf : ∀ i, i < n → feM V i ≤ 9) (w : Int) (j : Nat) (hj : j < n) (Q : List aV → aM → Prop) (M0 : aM)
    (hQ : ∀ M', fr [170, 171] M0 M' → (∀ i, i < 8 → M' 171 i = if i ≤ j then (f i : Int) else -1) → wp (w_m_moves_77 (d + 3) w (mvs (oM V) n f) ((j + 1 : Nat) : Int) M') Q) : ∀ (k : Nat) (M : aM) (t : Int), t + k = f j → imax 0 (oM V j - feM V j) ≤ t → fr [170, 171] M0 M → M 158 = V → (∀ i, i < 8 → M 171 i = if i < j then (f i : Int) else if i = j then t else -1) →
    wp (w_m_moves_126 (d + 3) w (mvs (oM V) n f) j t M) Q := by
  intro k
  induction k with
  | zero =>
    intro M t hk ht h0 h1 h2
    rw [l_m_moves_126]
    refine wp_fI (m_lays_eq d n hn M (by rw [h1, hV]) (by rw [h1]; exact ho)) fun M1 f1 => ?_
    refine wp_pos ?_ ?_
    · rw [h1]
      refine mvT_eq hn ho hf b fun i hi => ?_
      rw [h2 i (by omega)]
      by_cases e1 : i < j
      · rw [if_pos e1]; exact Or.inr rfl
      · rw [if_neg e1]
        by_cases e2 : i = j
        · rw [if_pos e2, e2]; exact Or.inr (by omega)
        · rw [if_neg e2]; exact Or.inl rfl
    · refine wp_I ?_
      (try simp (disch := omega) only [w32_i, tn_l, tn_n, tn_r, tn_s, tn_1, Nat.add_sub_cancel, Int.reduceToNat, Int.toNat_zero, Int.toNat_one, al3, al4, al5, al6, al8, al9, al11, al13, al15, al17, al19, al21, al23, al25, al27, al29, al30, al31, al95, al96, al128, al129, al130, al131, al134, al135, al137, al139, al140, al142, al143, al144, al145, al147, al148, al149, al151, al152, al153, al154, al155, al156, al158, al159, al160, al161, al162, al163, al164, al165, al166, al167, al168, al169, al170, al171, al172, al173, al174, al175, al176])
      refine hQ M1 (fr_tr h0 f1 (by simp) (by simp)) fun i hi => ?_
      rw [f1 171 (by simp), h2 i hi]
      by_cases e1 : i < j
      · rw [if_pos e1, if_pos (by omega)]
      · rw [if_neg e1]
        by_cases e2 : i = j
        · rw [if_pos e2, if_pos (by omega), e2]; omega
        · rw [if_neg e2, if_neg (by omega)]
  | succ k ih =>
    intro M t hk ht h0 h1 h2
    have h40 := bW_40 b j hj
    have hm : 0 ≤ imax 0 (oM V j - feM V j) := by unfold imax; split <;> omega
    rw [l_m_moves_126]
    refine wp_fI (m_lays_eq d n hn M (by rw [h1, hV]) (by rw [h1]; exact ho)) fun M1 f1 => ?_
    refine wp_neg ?_ ?_
    · rw [h1]
      refine mvT_day hn ho hf b hj (fun i hi => ?_) ⟨?_, ?_⟩ fun i hi hn' => ?_
      · rw [h2 i (by omega), if_pos hi]
      · rw [h2 j (by omega), if_neg (by omega), if_pos rfl]; exact ht
      · rw [h2 j (by omega), if_neg (by omega), if_pos rfl]; omega
      · rw [h2 i (by omega), if_neg (by omega), if_neg (by omega)]
    · rw [w32_i (by omega) (by omega), al171, tn_n]
      refine wp_I ?_
      refine wp_inb ⟨by omega, by omega⟩ ?_
      refine wp_up fun M2 f2 g2 => ?_
      have f12 : fr [170, 171] M M2 := fr_tr f1 f2 (by simp) (by simp)
      refine ih M2 (t + 1) (by omega) (by omega) (fr_tt h0 f12) (by rw [f12 158 (by simp), h1]) fun i hi => ?_
      rw [g2, f1 171 (by simp), h2 i hi]
      by_cases e2 : i = j
      · rw [if_pos e2, if_neg (by omega), if_pos e2]
      · rw [if_neg e2]
        by_cases e1 : i < j
        · rw [if_pos e1, if_pos e1]
        · rw [if_neg e1, if_neg e2, if_neg e1, if_neg e2]
theorem m_moves_77_lp (d : Nat) (n : Nat) (hn : n ≤ 8) (V : aW) (f : Nat → Nat) (b : bW (oM V) (feM V) n f) (hV : V 47 = n) (ho : ∀ i, i < n → 0 ≤ oM V i ∧ oM V i ≤ 30) (hf : ∀ i, i < n → 0 ≤ feM V i ∧ feM V i ≤ 9) (w : Nat) (hw : w < n) : ∀ (k j : Nat) (M : aM), j + k = w + 1 → M 158 = V → (∀ i, i < 8 → M 171 i = if i < j then (f i : Int) else -1) →
    wp (w_m_moves_77 (d + 3) ((w : Int) + 10) (mvs (oM V) n f) j M) fun r M' => r = [aI (f w)] ∧ fr [170, 171] M M'
  | 0, j, M, h, h1, h2 => by
    rw [l_m_moves_77, show w32 ((w : Int) + 10 - 10) = w by rw [w32_i (by omega) (by omega)]; omega, al171, tn_n]
    refine wp_pos (by omega) ?_
    refine wp_inb ⟨by omega, by omega⟩ ?_
    rw [h2 w (by omega), if_pos (by omega)]
    exact wp_ret ⟨rfl, fr_refl _ _⟩
  | k + 1, j, M, h, h1, h2 => by
    have e3 : w32 (159 + w32 (2 * (j : Int))) = ((159 + 2 * j : Nat) : Int) := by simp (disch := omega) only [w32_i]; omega
    have e4 : w32 (((159 + 2 * j : Nat) : Int) + 1) = ((160 + 2 * j : Nat) : Int) := by rw [w32_i (by omega) (by omega)]; omega
    rw [l_m_moves_77, show w32 ((w : Int) + 10 - 10) = w by rw [w32_i (by omega) (by omega)]; omega, al171, tn_n, e3, e4, al158]
    refine wp_neg (by omega) ?_
    refine wp_inb ⟨by omega, by omega⟩ ?_
    refine wp_inb ⟨by omega, by omega⟩ ?_
    refine wp_eI (m_greater_eq _ _ _ _) ?_
    rw [tn_n, tn_n, tn_n, h1, show V (159 + 2 * j) = oM V j from rfl, show V (160 + 2 * j) = feM V j from rfl, w32_i (by have := ho j (by omega); have := hf j (by omega); omega) (by have := ho j (by omega); have := hf j (by omega); omega)]
    refine wp_inb ⟨by omega, by omega⟩ ?_
    refine wp_up fun M1 f1 g1 => ?_
    have hcf : ab ((f j : Int) - oM V j) ≤ feM V j := of_decide_eq_true (b.1.1 j (by omega) (full_tb (by omega))).2
    have hle : 0 ≤ imax 0 (oM V j - feM V j) ∧ imax 0 (oM V j - feM V j) ≤ f j := by
      unfold ab at hcf; unfold imax; split at hcf <;> split <;> omega
    refine m_moves_126_lp d n hn V f b hV ho (fun i hi => (hf i hi).2) _ j (by omega) _ M (fun M2 f2 g2 => ?_) ((f j : Int) - imax 0 (oM V j - feM V j)).toNat M1 _ (by omega) (Int.le_refl _) (fr_w f1 (by simp)) (by rw [f1 158 (by simp), h1]) fun i hi => ?_
    · refine wp_mono (m_moves_77_lp d n hn V f b hV ho hf w hw k (j + 1) M2 (by omega) (by rw [f2 158 (by simp), h1]) fun i hi => ?_) ?_
      · rw [g2 i hi]
        by_cases e : i ≤ j
        · rw [if_pos e, if_pos (by omega)]
        · rw [if_neg e, if_neg (by omega)]
      · rintro r M' ⟨q1, q2⟩
        exact ⟨q1, fr_tt f2 q2⟩
    · rw [g1]
      by_cases e2 : i = j
      · rw [if_pos e2, if_neg (by omega), if_pos e2]
      · rw [if_neg e2, h2 i hi, if_neg e2]
theorem m_moves_27_lp (d : Nat) (w : Int) (Q : List aV → aM → Prop) (M0 : aM) (hQ : ∀ M', fr [171] M0 M' → (∀ i, i < 8 → M' 171 i = -1) → wp (w_m_moves_27 d w 8 M') Q) : ∀ (f i : Nat) (M : aM), i + f = 8 → fr [171] M0 M → (∀ k, k < i → M 171 k = -1) → wp (w_m_moves_27 d w i M) Q
  | 0, i, M, h, h0, h1 => by
    rw [show i = 8 by omega] at h1 ⊢
    exact hQ M h0 h1
  | f + 1, i, M, h, h0, h1 => by
    rw [l_m_moves_27]
    refine wp_pos (by omega) ?_
    rw [al171, tn_n]
    refine wp_inb ⟨by omega, by omega⟩ ?_
    refine wp_up fun M1 f1 g1 => ?_
    refine wp_I ?_
    (try simp (disch := omega) only [w32_i, tn_l, tn_n, tn_r, tn_s, tn_1, Nat.add_sub_cancel, Int.reduceToNat, Int.toNat_zero, Int.toNat_one, al3, al4, al5, al6, al8, al9, al11, al13, al15, al17, al19, al21, al23, al25, al27, al29, al30, al31, al95, al96, al128, al129, al130, al131, al134, al135, al137, al139, al140, al142, al143, al144, al145, al147, al148, al149, al151, al152, al153, al154, al155, al156, al158, al159, al160, al161, al162, al163, al164, al165, al166, al167, al168, al169, al170, al171, al172, al173, al174, al175, al176])
    refine m_moves_27_lp d w Q M0 hQ f (i + 1) M1 (by omega) (fr_tt h0 f1) fun k hk => ?_
    rw [g1]
    by_cases e : k = i
    · rw [if_pos e]
    · rw [if_neg e]; exact h1 k (by omega)
noncomputable def bWf (o fe : Nat → Int) (n : Nat) : Nat → Nat := @dite _ (∃ f, bW o fe n f) (Classical.propDecidable _) (fun h => Classical.choose h) (fun _ _ => 0)
theorem bWf_b {o fe : Nat → Int} {n : Nat} (hn : n ≤ 8) (h : mvB o fe n < 4000000000000000000) : bW o fe n (bWf o fe n) := by
  have hx := bW_ex hn h
  unfold bWf
  rw [dif_pos hx]
  exact Classical.choose_spec hx
noncomputable def vMoves (w : Int) (V : aW) : Int :=
  if w = 0 then (if mvB (oM V) (feM V) (V 47).toNat < 4000000000000000000 then mvT (oM V) (feM V) (fun _ => -1) (V 47).toNat else -1)
  else if 10 ≤ w ∧ w ≤ 9 + V 47 then (if mvB (oM V) (feM V) (V 47).toNat < 4000000000000000000 then ((bWf (oM V) (feM V) (V 47).toNat (w - 10).toNat : Nat) : Int) else -1) else -1
theorem mvT_fx {o fe fx fx' : Nat → Int} {n : Nat} (h : ∀ i, i < n → fx i = fx' i) : mvT o fe fx n = mvT o fe fx' n := by
  have hd : ∀ X S t j, j ≤ n → dF (cM o fe fx) (gM o) t X S j = dF (cM o fe fx') (gM o) t X S j := by
    intro X S t j
    induction j with
    | zero => intro _; rfl
    | succ j ih => intro hj; rw [dF_s, dF_s, ih (by omega)]; unfold cM; rw [h j (by omega)]
  have hx : ∀ k, dX (cM o fe fx) (gM o) 1000000 n k = dX (cM o fe fx') (gM o) 1000000 n k := by
    intro k
    induction k with
    | zero => rfl
    | succ k ih => funext S; show dF _ _ _ _ _ _ = dF _ _ _ _ _ _; rw [ih, hd _ _ _ n (Nat.le_refl _)]
  unfold mvT
  rw [hx]
theorem PP_8 {o fe : Nat → Int} {n : Nat} (hn : n ≤ 8) {f : Nat → Nat} (b : bW o fe n f) (ho : ∀ i, i < n → 0 ≤ o i ∧ o i ≤ 30) : 0 ≤ mvs o n f ∧ mvs o n f < 1000000 ∧ (∀ i, 0 ≤ xt n f i ∧ xt n f i < 40) ∧ mvB o fe n = PP (mvs o n f) (xt n f) 8 :=
  ⟨mvs_nn, (mv_lt2 (fx := fun _ => -1) hn ho b.1 fun i _ => Or.inl rfl).2, xt_b (bW_40 b), bW_PP hn b⟩
theorem mvB_mv {o fe : Nat → Int} {n : Nat} (hn : n ≤ 8) {f : Nat → Nat} (b : bW o fe n f) (ho : ∀ i, i < n → 0 ≤ o i ∧ o i ≤ 30) : 0 ≤ mvB o fe n ∧ ldiv (mvB o fe n) 6553600000000 = mvs o n f := by
  obtain ⟨p1, p2, p3, p4⟩ := PP_8 hn b ho
  have q := PP_hi (m := mvs o n f) ⟨p1, by omega⟩ p3 8 (by omega)
  have q0 := PP_nn p1 p3 8
  rw [p4]
  refine ⟨q0, ?_⟩
  rw [ldiv_nn q0 (by omega) (by omega) (by omega)]
  have h0 := p3 0
  have h1 := p3 1
  have h2 := p3 2
  have h3 := p3 3
  have h4 := p3 4
  have h5 := p3 5
  have h6 := p3 6
  have h7 := p3 7
  simp only [PP]
  omega
theorem pr_moves (d : Nat) (w : Int) (hw : in32 w) : pr (w_x_moves (d + 40) w) (w_m_moves (d + 40) w) := by
  have hw32 := hw
  unfold in32 at hw32
  refine pr_qV (fun V _ => vMoves w V) ?_ ?_
  · intro L Lk M hI
    obtain ⟨⟨hW, hT, hw, hv, hok⟩, -⟩ := hI
    obtain ⟨n, hn⟩ : ∃ n : Nat, M 158 47 = n := ⟨(M 158 47).toNat, by have := hT.1.2.2.1; omega⟩
    have n8 : n ≤ 8 := by have := hT.1.2.2.1; omega
    obtain ⟨t1, t2, ⟨r0, r2, rc⟩, t4⟩ := hw.1.2.1
    have hofe := hT.2.2.2.1
    have ho : ∀ i, i < n → (0 ≤ oM (M 158) i ∧ oM (M 158) i ≤ 30) ∧ (0 ≤ feM (M 158) i ∧ feM (M 158) i ≤ 9) := fun i hi => hofe i (by omega)
    have r2' : M 16 2 = n := r2.trans hn
    have hr : ∀ i, i < n → M 17 (4 * i) = oM (M 158) i ∧ M 17 (4 * i + 1) = feM (M 158) i := fun i hi => ⟨(rc i 0 (by omega) (by decide)).trans rfl, (rc i 1 (by omega) (by decide)).trans (by show M 158 (159 + 2 * i + 1) = M 158 (160 + 2 * i); rw [show 159 + 2 * i + 1 = 160 + 2 * i by omega])⟩
    have hfw := fun d => th_first_eq d (oM (M 158)) (feM (M 158)) n n8 ho M r2' hr
    have ag : ∀ M', fr [151, 152] M M' → agQ M M' := fun M' h => agQ_fr h (by intro k hk; simp at hk; unfold qs; omega)
    rw [l_x_moves]
    unfold vMoves
    rw [hn, tn_n]
    refine wp_if (fun h0 => ?_) (fun h0 => ?_)
    · rw [if_pos h0]
      refine wp_idI ?_
      rw [l_th_movedDays]
      refine wp_bJ (P := fun v M' => v = mvB (oM (M 158)) (feM (M 158)) n ∧ fr [151, 152] M M') ?_ ?_
      · refine wp_mono (hfw (d + 29)) ?_
        rintro r M' ⟨q1, q2⟩
        exact ⟨_, q1, rfl, q2⟩
      rintro v M1 ⟨rfl, f1⟩
      refine wp_if (fun h1 => ?_) (fun h1 => ?_)
      · rw [lcmp_lt] at h1
        have b := bWf_b n8 h1
        have e := mvB_mv n8 b fun i hi => (ho i hi).1
        have e2 := PP_8 n8 b fun i hi => (ho i hi).1
        rw [if_pos h1, e.2, l2i_id ⟨by omega, by omega⟩, mvT_eq n8 (fun i hi => (ho i hi).1) (fun i hi => (ho i hi).2.2) b fun i hi => Or.inl rfl]
        exact wp_ret ⟨⟨_, rfl⟩, rfl, ag _ f1⟩
      · rw [lcmp_lt] at h1
        rw [if_neg h1]
        exact wp_ret ⟨⟨_, rfl⟩, rfl, ag _ f1⟩
    · rw [if_neg h0]
      refine wp_if (fun h1 => ?_) (fun h1 => ?_)
      · rw [if_neg (by omega)]
        exact wp_ret ⟨rfl, agQ_refl _⟩
      rw [w32_i (by omega) (by omega)]
      refine wp_eI (rows_has_eq _ _ _ _) ?_
      refine wp_bif (fun h2 => ?_) (fun h2 => ?_)
      · have h2 := of_decide_eq_false h2
        rw [r2'] at h2
        rw [if_neg (by omega)]
        exact wp_ret ⟨rfl, agQ_refl _⟩
      have h2 := of_decide_eq_true h2
      rw [r2'] at h2
      rw [if_pos (by omega)]
      refine wp_idI ?_
      rw [l_th_movedTo]
      refine wp_bJ (P := fun v M' => v = mvB (oM (M 158)) (feM (M 158)) n ∧ fr [151, 152] M M') ?_ ?_
      · refine wp_mono (hfw (d + 29)) ?_
        rintro r M' ⟨q1, q2⟩
        exact ⟨_, q1, rfl, q2⟩
      rintro v M1 ⟨rfl, f1⟩
      refine wp_if (fun h3 => ?_) (fun h3 => ?_)
      · rw [lcmp_lt] at h3
        rw [if_pos h3]
        have b := bWf_b n8 h3
        obtain ⟨p1, p2, p3, p4⟩ := PP_8 n8 b fun i hi => (ho i hi).1
        obtain ⟨v, hv2⟩ : ∃ v : Nat, w - 10 = v := ⟨(w - 10).toNat, by omega⟩
        rw [hv2, tn_n]
        have key := th_movedTo_lp (d + 38) _ _ ⟨p1, by omega⟩ p3 v M1 (7 - v) (by omega)
        rw [show v + (7 - v) + 1 = 8 by omega, show v + (7 - v) = 7 by omega, ← p4] at key
        refine ⟨_, M1, key, ⟨_, rfl⟩, ?_, ag _ f1⟩
        unfold xt
        rw [if_pos (by omega)]
      · rw [lcmp_lt] at h3
        rw [if_neg h3]
        exact wp_ret ⟨⟨_, rfl⟩, rfl, ag _ f1⟩
  · intro L Lk M hI
    obtain ⟨⟨hW, hT, hw, hv, hok⟩, -⟩ := hI
    obtain ⟨n, hn⟩ : ∃ n : Nat, M 158 47 = n := ⟨(M 158 47).toNat, by have := hT.1.2.2.1; omega⟩
    have n8 : n ≤ 8 := by have := hT.1.2.2.1; omega
    have hofe := hT.2.2.2.1
    have ho : ∀ i, i < n → (0 ≤ oM (M 158) i ∧ oM (M 158) i ≤ 30) ∧ (0 ≤ feM (M 158) i ∧ feM (M 158) i ≤ 9) := fun i hi => hofe i (by omega)
    have ag : ∀ M', fr [170, 171] M M' → agQ M M' := fun M' h => agQ_fr h (by intro k hk; simp at hk; unfold qs; omega)
    have go : (w = 0 ∨ (10 ≤ w ∧ w ≤ 9 + (n : Int))) → ∀ M0 : aM, M0 = M → wp (w_m_moves_27 (d + 39) w 0 M0) fun r M' => r = [aI (vMoves w (M 158))] ∧ agQ M M' := by
      rintro hww M0 rfl
      refine m_moves_27_lp _ w _ M0 ?_ 8 0 M0 (by omega) (fr_refl _ _) fun k hk => by omega
      intro M1 f1 g1
      rw [l_m_moves_27]
      refine wp_neg (by omega) ?_
      refine wp_fI (m_lays_eq (d + 36) n n8 M1 (by rw [f1 158 (by simp), hn]) (by rw [f1 158 (by simp)]; exact fun i hi => (ho i hi).1)) fun M2 f2 => ?_
      rw [f1 158 (by simp), mvT_fx (fx' := fun _ => -1) fun i hi => g1 i (by omega)]
      have f12 : fr [170, 171] M0 M2 := fr_tr f1 f2 (by simp) (by simp)
      unfold vMoves
      rw [hn, tn_n]
      by_cases hB : mvB (oM (M0 158)) (feM (M0 158)) n < 4000000000000000000
      · have b := bWf_b n8 hB
        have e := mvT_eq (fx := fun _ => -1) n8 (fun i hi => (ho i hi).1) (fun i hi => (ho i hi).2.2) b fun i hi => Or.inl rfl
        obtain ⟨p1, p2, p3, p4⟩ := PP_8 n8 b fun i hi => (ho i hi).1
        rw [e]
        refine wp_pos p2 ?_
        refine wp_if (fun h0 => ?_) (fun h0 => ?_)
        · refine wp_pos p2 ?_
          rw [if_pos h0, if_pos hB]
          exact wp_ret ⟨rfl, ag _ f12⟩
        · rw [if_neg h0, if_pos (by omega), if_pos hB]
          obtain ⟨v, hv2⟩ : ∃ v : Nat, w - 10 = v := ⟨(w - 10).toNat, by omega⟩
          rw [hv2, tn_n, show w = (v : Int) + 10 by omega]
          refine wp_mono (m_moves_77_lp (d + 36) n n8 (M0 158) _ b hn (fun i hi => (ho i hi).1) (fun i hi => (ho i hi).2) v (by omega) (v + 1) 0 M2 (by omega) (f12 158 (by simp)) fun i hi => ?_) ?_
          · rw [if_neg (by omega), f2 171 (by simp)]
            exact g1 i hi
          · rintro r M' ⟨q1, q2⟩
            exact ⟨q1, ag _ (fr_tt f12 q2)⟩
      · have hno := mvT_no n8 (fun i hi => (ho i hi).2.2) hB (fx := fun _ => -1) fun i hi => rfl
        refine wp_neg hno ?_
        refine wp_neg hno ?_
        by_cases h0 : w = 0
        · rw [if_pos h0, if_neg hB]
          exact wp_ret ⟨rfl, ag _ f12⟩
        · rw [if_neg h0, if_pos (by omega), if_neg hB]
          exact wp_ret ⟨rfl, ag _ f12⟩
    rw [l_m_moves]
    refine wp_if (fun h0 => ?_) (fun h0 => ?_)
    · exact go (Or.inl h0) M rfl
    · rw [al158, hn]
      refine wp_inb ⟨by omega, by omega⟩ ?_
      rw [w32_i (by omega) (by omega)]
      refine wp_eI (m_isIn_eq _ _ _ _ _) ?_
      refine wp_bif (fun h2 => ?_) (fun h2 => ?_)
      · have h2 := of_decide_eq_false h2
        unfold vMoves
        rw [hn, if_neg h0, if_neg h2]
        exact wp_ret ⟨rfl, agQ_refl _⟩
      · exact go (Or.inr (of_decide_eq_true h2)) M rfl
