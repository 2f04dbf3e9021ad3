/-! orders: the call -/
noncomputable def vOrd (w : Int) (V : aW) : Int :=
  if w = 0 then ((UO (aH V (V 48).toNat) (V 41).toNat (2 ^ (V 41).toNat - 1) : Nat) : Int)
  else if UO (aH V (V 48).toNat) (V 41).toNat (2 ^ (V 41).toNat - 1) = 0 then -1
  else if w = 1 ∨ w = 2 then (if UO (aH V (V 48).toNat) (V 41).toNat (2 ^ (V 41).toNat - 1) < 2 then -1
    else if w = 1 then idiv (bOu (gO (aH V (V 48).toNat) (V 41).toNat) (V 41).toNat (V 41).toNat 0 (10000000, -1)).2 10 else irem (bOu (gO (aH V (V 48).toNat) (V 41).toNat) (V 41).toNat (V 41).toNat 0 (10000000, -1)).2 10)
  else if 10 ≤ w ∧ w ≤ 9 + V 41 then gI (aH V (V 48).toNat) (V 41).toNat (w - 10).toNat else -1
theorem UO_n2 {ah : Nat → Nat} {n : Nat} (h10 : n ≤ 10) (h : ¬ UO ah n (2 ^ n - 1) < 2) : 2 ≤ n := by
  have hp : 2 ^ n ≤ 2 ^ 10 := Nat.pow_le_pow_right (by omega) h10
  have h1 := UO_fa ah n (2 ^ n - 1) (by omega)
  have h2 := pn_le n (2 ^ n - 1)
  apply Decidable.byContradiction
  intro hn
  have h3 : pn n (2 ^ n - 1) = 0 ∨ pn n (2 ^ n - 1) = 1 := by omega
  rcases h3 with e | e <;> rw [e] at h1 <;> exact h (Nat.lt_of_le_of_lt h1 (by decide))
theorem pr_orders (d : Nat) (w : Int) (hw : in32 w) : pr (w_x_orders (d + 40) w) (w_m_orders (d + 40) w) := by
  have hw32 := hw
  unfold in32 at hw32
  refine pr_qV (fun V _ => vOrd w V) ?_ ?_
  · intro L Lk M hI
    obtain ⟨⟨hW, hT, hw, hv, hok⟩, -⟩ := hI
    obtain ⟨n, hn, h10⟩ := okW_n hW
    obtain ⟨m, hm⟩ : ∃ m : Nat, M 158 48 = m := ⟨(M 158 48).toNat, by have := hT.1.2.2.2.1; omega⟩
    have m12 : m ≤ 12 := by have := hT.1.2.2.2.1; omega
    obtain ⟨t1, t2, t3, ⟨r0, r2, rc⟩, t5⟩ := hw.1.2.1
    have hsn := hT.2.2.2.2.1
    have hs : ∀ i, i < m → (0 ≤ M 158 (175 + 2 * i) ∧ M 158 (175 + 2 * i) < n) ∧ (0 ≤ M 158 (176 + 2 * i) ∧ M 158 (176 + 2 * i) < n) := fun i hi => by have := hsn i (by omega); omega
    have hp : 2 ^ n ≤ 2 ^ 10 := Nat.pow_le_pow_right (by omega) h10
    have r2' : M 20 2 = m := r2.trans hm
    have r4 : M 2 4 = n := hw.1.1.1.trans hn
    have hr : ∀ i, i < m → M 21 (4 * i) = M 158 (175 + 2 * i) ∧ M 21 (4 * i + 1) = M 158 (176 + 2 * i) := fun i hi => ⟨(rc i 0 (by omega) (by decide)).trans rfl, (rc i 1 (by omega) (by decide)).trans (by show M 158 (175 + 2 * i + 1) = M 158 (176 + 2 * i); rw [show 175 + 2 * i + 1 = 176 + 2 * i by omega])⟩
    have hal := aH_lt (V := M 158) (n := n) m fun i hi => (hs i hi).1
    have hah : ∀ b, aH (M 158) m b < 2147483648 := fun b => by have := hal b; omega
    have ag : ∀ M', fr [142, 143, 144, 145] M M' → agQ M M' := fun M' h => agQ_fr h (by intro k hk; simp at hk; unfold qs; omega)
    have hle := fun d => ord_learn_eq d (M 158) n m h10 m12 hn hs M r2' hr r4
    have hh : imax 0 (imin 10 (M 2 4)) = n := by rw [r4]; unfold imin imax; split <;> split <;> omega
    have hh1 : ∀ M1, fr [142] M M1 → imax 0 (imin 10 (M1 2 4)) = n := fun M1 f1 => by rw [f1 2 (by simp)]; exact hh
    unfold vOrd
    rw [hn, hm, tn_n, tn_n]
    generalize hAA : aH (M 158) m = ah at *
    have ask : ∀ b : Int, ((b = 1 ∧ w = 1) ∨ (b = 0 ∧ w = 2)) → wp (w_ord_asks (d + 39) 1 b M) fun r M' => (∃ v, r = [aI v]) ∧ (r = [aI (if UO ah n (2 ^ n - 1) = 0 then -1 else if UO ah n (2 ^ n - 1) < 2 then -1 else if w = 1 then idiv (bOu (gO ah n) n n 0 (10000000, -1)).2 10 else irem (bOu (gO ah n) n n 0 (10000000, -1)).2 10)] ∧ agQ M M') := by
      intro b hb
      rw [l_ord_asks, l_ord_herdSize, show (1 + 1 : Nat) = 2 from rfl, hh]
      refine wp_eI rfl ?_
      refine wp_bV (hle _) ?_
      rintro M1 ⟨f1, g1⟩
      refine wp_bI (P := fun v M' => v = ((UO ah n (2 ^ n - 1) : Nat) : Int) ∧ fr [143] M1 M' ∧ ∀ T, T < 2 ^ n → M' 143 T = ((UO ah n T : Nat) : Int)) (wp_mono (ord_up_eq _ ah n h10 hah M1 g1) fun r M' q => ⟨_, q.1, rfl, q.2⟩) ?_
      rintro v M2 ⟨rfl, f2, g2⟩
      have f12 : fr [142, 143] M M2 := fr_tr f1 f2 (by simp) (by simp)
      refine wp_if (fun h2 => ?_) (fun h2 => ?_)
      · have e : (if UO ah n (2 ^ n - 1) = 0 then (-1 : Int) else if UO ah n (2 ^ n - 1) < 2 then -1 else if w = 1 then idiv (bOu (gO ah n) n n 0 (10000000, -1)).2 10 else irem (bOu (gO ah n) n n 0 (10000000, -1)).2 10) = -1 := by
          split
          · rfl
          · rw [if_pos (by omega)]
        rw [e]
        exact wp_ret ⟨⟨_, rfl⟩, rfl, ag _ (fr_w f12 (by simp))⟩
      have hn2 := UO_n2 h10 (show ¬ UO ah n (2 ^ n - 1) < 2 by omega)
      rw [if_neg (show ¬ UO ah n (2 ^ n - 1) = 0 by omega), if_neg (show ¬ UO ah n (2 ^ n - 1) < 2 by omega)]
      have a2 : ∀ b, b < 10 → M2 142 b = ((ah b : Nat) : Int) := fun b hb => by rw [f2 142 (by simp)]; exact g1 b hb
      refine wp_bV (ord_be_eq _ ah n h10 hah M2 a2 g2) ?_
      rintro M3 ⟨f3, g3⟩
      refine wp_bV (ord_co_eq _ ah n h10 hah M3 (fun b hb => by rw [f3 142 (by simp)]; exact a2 b hb) (fun T hT => by rw [f3 143 (by simp)]; exact g2 T hT) g3) ?_
      rintro M4 ⟨f4, g4⟩
      refine wp_mono (ord_asks_40_lp _ (gO ah n) n h10 b M4 (fun x y hxy hy => ?_) n 0 0 (-1) (10000000, -1) (by omega) (Or.inl ⟨rfl, rfl⟩)) ?_
      · obtain ⟨k1, k2, k3, k4⟩ := gO_in h10 hah hxy hy
        rw [g4 y x (by omega) (by omega), g4 x y (by omega) (by omega)]
        refine ⟨?_, k3⟩
        unfold gO
        congr 1
        omega
      · rintro r M' ⟨q1, rfl⟩
        have k := bOu_2 hn2 (gO_in h10 hah (show 0 < 1 by decide) (by omega)).2.2.1
        refine ⟨⟨_, q1⟩, ?_, ag _ (fr_tr (fr_tr f12 f3 (l := [142, 143, 144]) (by simp) (by simp)) f4 (by simp) (by simp))⟩
        rw [q1, if_neg (by omega)]
        rcases hb with ⟨rfl, rfl⟩ | ⟨rfl, rfl⟩
        · rw [if_neg (by decide), if_pos rfl]
        · rw [if_pos rfl, if_neg (by decide)]
    rw [l_x_orders]
    refine wp_if (fun h0 => ?_) (fun h0 => ?_)
    · rw [if_pos h0]
      refine wp_idI ?_
      rw [l_ord_howMany]
      refine wp_bV (hle _) ?_
      rintro M1 ⟨f1, g1⟩
      rw [l_ord_herdSize, show (1 + 1 : Nat) = 2 from rfl, hh1 M1 f1]
      refine wp_eI rfl ?_
      refine wp_bI (P := fun v M' => v = ((UO ah n (2 ^ n - 1) : Nat) : Int) ∧ fr [143] M1 M') (wp_mono (ord_up_eq _ ah n h10 hah M1 g1) fun r M' q => ⟨_, q.1, rfl, q.2.1⟩) ?_
      rintro v M2 ⟨rfl, f2⟩
      exact wp_ret ⟨⟨_, rfl⟩, rfl, ag _ (fr_tr f1 f2 (by simp) (by simp))⟩
    rw [if_neg h0]
    refine wp_if (fun h1 => ?_) (fun h1 => ?_)
    · rw [if_pos (Or.inl h1)]
      refine wp_pos h1 (wp_idI (ask 1 (Or.inl ⟨rfl, h1⟩)))
    refine wp_if (fun h2 => ?_) (fun h2 => ?_)
    · rw [if_pos (Or.inr h2)]
      refine wp_neg h1 (wp_idI (ask 0 (Or.inr ⟨rfl, h2⟩)))
    rw [if_neg (show ¬ (w = 1 ∨ w = 2) by omega)]
    refine wp_if (fun h3 => ?_) (fun h3 => ?_)
    · rw [if_neg (show ¬ (10 ≤ w ∧ w ≤ 9 + (n : Int)) by omega)]
      have e : (if UO ah n (2 ^ n - 1) = 0 then (-1 : Int) else -1) = -1 := by split <;> rfl
      rw [e]
      exact wp_ret ⟨rfl, agQ_refl _⟩
    rw [w32_i (by omega) (by omega)]
    refine wp_eI (wood_has_eq _ 2 _ (M 158) M (by rw [r4, hn]) (by omega)) ?_
    refine wp_bif (fun h4 => ?_) (fun h4 => ?_)
    · have h4 := of_decide_eq_false h4
      rw [if_neg (show ¬ (10 ≤ w ∧ w ≤ 9 + (n : Int)) by omega)]
      have e : (if UO ah n (2 ^ n - 1) = 0 then (-1 : Int) else -1) = -1 := by split <;> rfl
      rw [e]
      exact wp_ret ⟨rfl, agQ_refl _⟩
    have h4 := of_decide_eq_true h4
    rw [if_pos (show (10 ≤ w ∧ w ≤ 9 + (n : Int)) by omega)]
    obtain ⟨p, hpp⟩ : ∃ p : Nat, w - 10 = p := ⟨(w - 10).toNat, by omega⟩
    rw [hpp, tn_n]
    refine wp_idI ?_
    rw [l_ord_placeOfFirst, l_ord_herdSize, show (1 + 1 : Nat) = 2 from rfl, hh]
    refine wp_eI rfl ?_
    refine wp_bV (hle _) ?_
    rintro M1 ⟨f1, g1⟩
    have key := ord_pl_19_lp (d + 36) ah n p h10 (by omega) hah M1 g1 n 0 0 (-1) (by omega) rfl (by omega)
    refine ⟨_, M1, key, ⟨_, rfl⟩, ?_, ag _ (fr_w f1 (by simp))⟩
    by_cases hU : UO ah n (2 ^ n - 1) = 0
    · rw [if_pos hU, if_pos (gS_no (by omega) hU)]
    · obtain ⟨S, s1, -⟩ := gS_all (by omega) hah hU n (Nat.le_refl _)
      rw [if_neg hU, if_neg (by rw [s1]; simp)]
  · intro L Lk M hI
    obtain ⟨⟨hW, hT, hw, hv, hok⟩, -⟩ := hI
    obtain ⟨n, hn, h10⟩ := okW_n hW
    obtain ⟨m, hm⟩ : ∃ m : Nat, M 158 48 = m := ⟨(M 158 48).toNat, by have := hT.1.2.2.2.1; omega⟩
    have m12 : m ≤ 12 := by have := hT.1.2.2.2.1; omega
    have hsn := hT.2.2.2.2.1
    have hs : ∀ i, i < m → (0 ≤ M 158 (175 + 2 * i) ∧ M 158 (175 + 2 * i) < n) ∧ (0 ≤ M 158 (176 + 2 * i) ∧ M 158 (176 + 2 * i) < n) := fun i hi => by have := hsn i (by omega); omega
    have hp : 2 ^ n ≤ 2 ^ 10 := Nat.pow_le_pow_right (by omega) h10
    have hal := aH_lt (V := M 158) (n := n) m fun i hi => (hs i hi).1
    have hah : ∀ b, aH (M 158) m b < 2147483648 := fun b => by have := hal b; omega
    have ag : ∀ M', fr [168, 169] M M' → agQ M M' := fun M' h => agQ_fr h (by intro k hk; simp at hk; unfold qs; omega)
    unfold vOrd
    rw [hn, hm, tn_n, tn_n]
    rw [l_m_orders]
    refine wp_bV (P := fun M' => fr [168] M M' ∧ ∀ b, b < 10 → M' 168 b = ((aH (M 158) m b : Nat) : Int)) ?_ ?_
    · rw [l_m_laysAhead]
      refine m_ahead_2_lp _ _ 10 0 M (by omega) (fun a h => by omega) ?_
      intro M1 f1 g1
      refine wp_mono (m_ahead_23_lp _ (M 158) n m h10 m12 hm hs m 0 M1 (by omega) (f1 158 (by simp)) (fun a ha => by rw [g1 a ha]; rfl)) ?_
      rintro r M' ⟨q1, q2, q3⟩
      exact ⟨q1, fr_tt f1 q2, q3⟩
    rintro M1 ⟨f1, g1⟩
    have v1 : M1 158 41 = n := by rw [f1 158 (by simp), hn]
    generalize hAA : aH (M 158) m = ah at *
    refine wp_fI (m_lo_eq _ ah n h10 hah M1 v1 g1) fun M2 f2 => ?_
    have f12 : fr [168, 169] M M2 := fr_tr f1 f2 (by simp) (by simp)
    have g2 : ∀ b, b < 10 → M2 168 b = ((ah b : Nat) : Int) := fun b hb => by rw [f2 168 (by simp)]; exact g1 b hb
    have v2 : M2 158 41 = n := by rw [f12 158 (by simp), hn]
    refine wp_if (fun h0 => ?_) (fun h0 => ?_)
    · rw [if_pos h0]; exact wp_ret ⟨rfl, ag _ f12⟩
    rw [if_neg h0]
    refine wp_if (fun hU => ?_) (fun hU => ?_)
    · rw [if_pos (by omega)]; exact wp_ret ⟨rfl, ag _ f12⟩
    rw [if_neg (show ¬ UO ah n (2 ^ n - 1) = 0 by omega)]
    refine wp_eI (m_isIn_eq _ _ _ _ _) ?_
    refine wp_bif (fun h1 => ?_) (fun h1 => ?_)
    · have h1 := of_decide_eq_false h1
      rw [if_neg (show ¬ (w = 1 ∨ w = 2) by omega), al158, v2]
      refine wp_inb ⟨by omega, by omega⟩ ?_
      rw [w32_i (by omega) (by omega)]
      refine wp_eI (m_isIn_eq _ _ _ _ _) ?_
      refine wp_bif (fun h2 => ?_) (fun h2 => ?_)
      · rw [if_neg (of_decide_eq_false h2)]
        exact wp_ret ⟨rfl, ag _ f12⟩
      have h2 := of_decide_eq_true h2
      rw [if_pos h2, w32_i (by omega) (by omega)]
      obtain ⟨p, hpp⟩ : ∃ p : Nat, w - 10 = p := ⟨(w - 10).toNat, by omega⟩
      rw [hpp, tn_n]
      refine wp_eI ((u_m_firstOrder _ _ _).trans (m_fo_7_lp _ ah n p h10 (by omega) hah (by omega) M2 g2 (p + 1) 0 0 (-1) (by omega) rfl (by omega))) ?_
      exact wp_ret ⟨rfl, ag _ f12⟩
    · have h1 := of_decide_eq_true h1
      rw [if_pos (show (w = 1 ∨ w = 2) by omega)]
      refine wp_if (fun h2 => ?_) (fun h2 => ?_)
      · rw [if_pos (by omega)]; exact wp_ret ⟨rfl, ag _ f12⟩
      rw [if_neg (show ¬ UO ah n (2 ^ n - 1) < 2 by omega)]
      have bc := fun d => m_bc_9_lp d ah n h10 hah n 0 (10000000, -1) M2 (by omega) v2 g2
      refine wp_if (fun h3 => ?_) (fun h3 => ?_)
      · rw [if_pos h3]
        refine wp_fI (l := [168, 169]) (v := (bOu (gO ah n) n n 0 (10000000, -1)).2) (M := M2) ?_ fun M3 f3 => ?_
        · rw [l_m_bestCouple]; exact bc _
        · exact wp_ret ⟨rfl, ag _ (fr_tt f12 f3)⟩
      · rw [if_neg h3]
        refine wp_fI (l := [168, 169]) (v := (bOu (gO ah n) n n 0 (10000000, -1)).2) (M := M2) ?_ fun M3 f3 => ?_
        · rw [l_m_bestCouple]; exact bc _
        · exact wp_ret ⟨rfl, ag _ (fr_tt f12 f3)⟩
