/-! moves: the call -/
theorem m_lays_eq (d : Nat) (n : Nat) (hn : n ≤ 8) (M : aM) (hV : M 158 47 = n) (ho : ∀ i, i < n → 0 ≤ oM (M 158) i ∧ oM (M 158) i ≤ 30) : wp (w_m_laysFeasts (d + 3) M) fun r M' => r = [aI (mvT (oM (M 158)) (feM (M 158)) (M 171) n)] ∧ fr [170] M M' := by
  have hp8 : 2 ^ n ≤ 2 ^ 8 := Nat.pow_le_pow_right (by omega) hn
  rw [l_m_laysFeasts, al158]
  refine wp_inb ⟨by omega, by omega⟩ ?_
  rw [hV, ishl_pow n (by omega)]
  refine wp_I ?_
  exact m_lays_13_lp M d n hn (M 158) (M 171) hV ho (fun r M' => r = [aI (mvT (oM (M 158)) (feM (M 158)) (M 171) n)] ∧ fr [170] M M') (fun M' z a b => ⟨rfl, z⟩) 41 M (by omega) (fr_refl _ _) rfl rfl fun r a b => by omega
theorem m_moves_126_lp (d : Nat) (n : Nat) (hn : n ≤ 8) (V : aW) (f : Nat → Nat) (b : bW (oM V) (feM V) n f) (hV : V 47 = n) (ho : ∀ i, i < n → 0 ≤ oM V i ∧ oM V i ≤ 30) (hf : ∀ i, i < n → feM V i ≤ 9) (w : Int) (j : Nat) (hj : j < n) (Q : List aV → aM → Prop) (M0 : aM)
    (hQ : ∀ M', fr [170, 171] M0 M' → (∀ i, i < 8 → M' 171 i = if i ≤ j then (f i : Int) else -1) → wp (w_m_moves_77 (d + 3) w (mvs (oM V) n f) ((j + 1 : Nat) : Int) M') Q) : ∀ (k : Nat) (M : aM) (t : Int), t + k = f j → imax 0 (oM V j - feM V j) ≤ t → fr [170, 171] M0 M → M 158 = V → (∀ i, i < 8 → M 171 i = if i < j then (f i : Int) else if i = j then t else -1) →
    wp (w_m_moves_126 (d + 3) w (mvs (oM V) n f) j t M) Q := by
  intro k
  induction k with
  | zero =>
    intro M t hk ht h0 h1 h2
    rw [l_m_moves_126]
    refine wp_fI (m_lays_eq d n hn M (by rw [h1, hV]) (by rw [h1]; exact ho)) fun M1 f1 => ?_
    refine wp_pos ?_ ?_
    · rw [h1]
      refine mvT_eq hn ho hf b fun i hi => ?_
      rw [h2 i (by omega)]
      by_cases e1 : i < j
      · rw [if_pos e1]; exact Or.inr rfl
      · rw [if_neg e1]
        by_cases e2 : i = j
        · rw [if_pos e2, e2]; exact Or.inr (by omega)
        · rw [if_neg e2]; exact Or.inl rfl
    · refine wp_I ?_
      (try simp (disch := omega) only [w32_i, tn_l, tn_n, tn_r, tn_s, tn_1, Nat.add_sub_cancel, Int.reduceToNat, Int.toNat_zero, Int.toNat_one, al3, al4, al5, al6, al8, al9, al11, al13, al15, al17, al19, al21, al23, al25, al27, al29, al30, al31, al95, al96, al128, al129, al130, al131, al134, al135, al137, al139, al140, al142, al143, al144, al145, al147, al148, al149, al151, al152, al153, al154, al155, al156, al158, al159, al160, al161, al162, al163, al164, al165, al166, al167, al168, al169, al170, al171, al172, al173, al174, al175, al176])
      refine hQ M1 (fr_tr h0 f1 (by simp) (by simp)) fun i hi => ?_
      rw [f1 171 (by simp), h2 i hi]
      by_cases e1 : i < j
      · rw [if_pos e1, if_pos (by omega)]
      · rw [if_neg e1]
        by_cases e2 : i = j
        · rw [if_pos e2, if_pos (by omega), e2]; omega
        · rw [if_neg e2, if_neg (by omega)]
  | succ k ih =>
    intro M t hk ht h0 h1 h2
    have h40 := bW_40 b j hj
    have hm : 0 ≤ imax 0 (oM V j - feM V j) := by unfold imax; split <;> omega
    rw [l_m_moves_126]
    refine wp_fI (m_lays_eq d n hn M (by rw [h1, hV]) (by rw [h1]; exact ho)) fun M1 f1 => ?_
    refine wp_neg ?_ ?_
    · rw [h1]
      refine mvT_day hn ho hf b hj (fun i hi => ?_) ⟨?_, ?_⟩ fun i hi => ?_
      sorry
      sorry
      sorry
      sorry
    · rw [w32_i (by omega) (by omega), al171, tn_n]
      refine wp_I ?_
      refine wp_inb ⟨by omega, by omega⟩ ?_
      refine wp_up fun M2 f2 g2 => ?_
      have f12 : fr [170, 171] M M2 := fr_tr f1 f2 (by simp) (by simp)
      refine ih M2 (t + 1) (by omega) (by omega) (fr_tt h0 f12) (by rw [f12 158 (by simp), h1]) fun i hi => ?_
      rw [g2, f1 171 (by simp), h2 i hi]
      by_cases e2 : i = j
      · rw [if_pos e2, if_neg (by omega), if_pos e2]
      · rw [if_neg e2]
        by_cases e1 : i < j
        · rw [if_pos e1, if_pos e1]
        · rw [if_neg e1, if_neg e2, if_neg e1, if_neg e2]
