/-! works: in the best order, both sides -/
theorem low_bit {k m : Nat} (h0 : k ≠ 0) (hk : k < 2 ^ m) : ∃ j, j < m ∧ k.testBit j = true := by
  obtain ⟨j, hj⟩ := Nat.exists_testBit_of_ne_zero h0
  refine ⟨j, Nat.lt_of_not_le fun h => ?_, hj⟩
  rw [tb_lt hk h] at hj
  simp at hj
theorem lab_best_23_lp (d : Nat) (V : aW) (L : aLaw) (P : List Nat) (m : Nat) (hP : 0 < P.length) (hP2 : P.length ≤ 10) (hm8 : m ≤ 8) (hw : ∀ i, i < m → (1 ≤ V (199 + i) ∧ V (199 + i) ≤ 24) ∧ V (199 + i) ≤ mxL V L P) (hY : ∀ k, k ≤ 256 → ∀ s, okY 2900 (tabY V L P m k s)) : ∀ (f k : Nat) (M : aM), k + f = 2 ^ m → 1 ≤ k → labR V L P M → M 22 2 = m → (∀ i, i < m → M 23 (4 * i) = V (199 + i)) → (∀ s, s < k → M 149 s = enc32 (tabY V L P m k s)) →
    wp (w_labour_bestSpot_23 (d + 4) 22 m k M) fun r M' => r = [aI (enc32 (tabY V L P m (2 ^ m) (2 ^ m - 1)))] ∧ fr [149] M M'
  | 0, k, M, h, h1, hl, r2, rc, ht => by
    have hp8 : 2 ^ m ≤ 2 ^ 8 := Nat.pow_le_pow_right (by omega) hm8
    have hp0 : 0 < 2 ^ m := Nat.two_pow_pos m
    rw [l_labour_bestSpot_23, ishl_pow m (by omega), al149]
    refine wp_neg (by omega) ?_
    have e : w32 (((2 ^ m : Nat) : Int) - 1) = ((2 ^ m - 1 : Nat) : Int) := by rw [w32_i (by omega) (by omega)]; omega
    rw [e]
    refine wp_inb ⟨by omega, by omega⟩ ?_
    rw [tn_n, ht _ (by omega), show k = 2 ^ m by omega]
    exact wp_ret ⟨rfl, fr_refl _ _⟩
  | f + 1, k, M, h, h1, hl, r2, rc, ht => by
    have hp8 : 2 ^ m ≤ 2 ^ 8 := Nat.pow_le_pow_right (by omega) hm8
    have e5 : w32 ((k : Int) + 1) = ((k + 1 : Nat) : Int) := by rw [w32_i (by omega) (by omega)]; rfl
    obtain ⟨y, hy⟩ := cmb_some (V := V) (L := L) (P := P) (T := tabY V L P m k) m (low_bit (k := k) (by omega) (by omega))
    rw [l_labour_bestSpot_23, ishl_pow m (by omega)]
    refine wp_pos (by omega) ?_
    have lp := lab_best_36_lp d V L P m k (tabY V L P m k) hP hP2 hm8 (by omega) (hY k (by omega)) hw M hl r2 rc ht _ rfl m 0 (by omega)
    simp only [cmb] at lp
    have lp' : w_labour_bestSpot_36 (d + 4) 22 m k (-1) 0 M = w_labour_bestSpot_36 (d + 4) 22 m k (enc32 y) m M := by
      rw [hy] at lp; exact lp
    rw [lp', l_labour_bestSpot_36, al149]
    refine wp_neg (by omega) ?_
    refine wp_inb ⟨by omega, by omega⟩ ?_
    rw [tn_n]
    refine wp_up fun M1 f1 g1 => ?_
    refine wp_I ?_
    rw [e5]
    have et : tabY V L P m (k + 1) k = y := by
      simp only [tabY]; rw [if_pos ⟨trivial, by omega⟩, hy]; rfl
    refine wp_mono (lab_best_23_lp d V L P m hP hP2 hm8 hw hY f (k + 1) M1 (by omega) (by omega) (labR_fr hl fun j _ _ => f1 j (by simp; omega)) (by rw [f1 22 (by simp), r2]) (fun i hi => by rw [f1 23 (by simp)]; exact rc i hi) (fun s hs => ?_)) (fun r M' q => ⟨q.1, fr_tt f1 q.2⟩)
    rw [g1]
    by_cases e : s = k
    · subst e; rw [if_pos rfl, et]
    · rw [if_neg e, ht s (by omega), tabY_lo k s (by omega), tabY_lo (k + 1) s (by omega)]
def encR (x : Nat × Int) : Int := 100 * ((x.1 : Int) + 1) + x.2
theorem m_best_34_lp (d : Nat) (V : aW) (L : aLaw) (P : List Nat) (m k : Nat) (T : Nat → Nat × Int) (hv : vLaw L V) (hok : okLaw L) (hP : 0 < P.length) (hP2 : P.length ≤ 10) (hPm : ∀ j, j ∈ P → j < 10) (hm8 : m ≤ 8) (hk : k < 2 ^ m) (hT : ∀ s, okY 2900 (T s)) (hT0 : T 0 = (0, 0)) (hw : ∀ i, i < m → (1 ≤ V (199 + i) ∧ V (199 + i) ≤ 24) ∧ V (199 + i) ≤ mxL V L P) (h49 : V 49 = m) (Q : List aV → aM → Prop) : ∀ (f i : Nat) (M : aM), i + f = m → M 158 = V → herR P M → (∀ s, s < k → M 173 s = if s = 0 then 0 else encR (T s)) → (M 173 k = match cmb V L P T k i with | none => (if k = 0 then 0 else 1000000) | some y => encR y) →
    (∀ M', fr [166, 167, 173] M M' → (∀ s, s < k → M' 173 s = if s = 0 then 0 else encR (T s)) → (M' 173 k = match cmb V L P T k m with | none => (if k = 0 then 0 else 1000000) | some y => encR y) → wp (w_m_bestOrder_2 (d + 8) ((k + 1 : Nat) : Int) M') Q) → wp (w_m_bestOrder_34 (d + 8) k i M) Q
  | 0, i, M, h, hV, hr, ht, hc, hQ => by
    have hp8 : 2 ^ m ≤ 2 ^ 8 := Nat.pow_le_pow_right (by omega) hm8
    rw [l_m_bestOrder_34, al158]
    refine wp_inb ⟨by omega, by omega⟩ ?_
    refine wp_neg (by rw [hV]; omega) ?_
    refine wp_I ?_
    rw [w32_i (by omega) (by omega)]
    exact hQ M (fr_refl _ _) ht (by rw [hc, show i = m by omega])
  | f + 1, i, M, h, hV, hr, ht, hc, hQ => by
    have hp8 : 2 ^ m ≤ 2 ^ 8 := Nat.pow_le_pow_right (by omega) hm8
    have e5 : w32 ((i : Int) + 1) = ((i + 1 : Nat) : Int) := by rw [w32_i (by omega) (by omega)]; rfl
    obtain ⟨w1, w2⟩ := hw i (by omega)
    rw [l_m_bestOrder_34, al158]
    refine wp_inb ⟨by omega, by omega⟩ ?_
    refine wp_pos (by rw [hV]; omega) ?_
    rw [bit01_nat (by omega) (by omega)]
    have ec : cmb V L P T k (i + 1) = if k.testBit i = true then (match cmb V L P T k i with | none => some (layT V L P (V (199 + i)) (T (k ^^^ 2 ^ i))) | some y => some (pmin y (layT V L P (V (199 + i)) (T (k ^^^ 2 ^ i))))) else cmb V L P T k i := rfl
    cases hb : k.testBit i with
    | false =>
      refine wp_neg (by simp) ?_
      refine wp_I ?_
      rw [e5]
      rw [hb, if_neg (by decide)] at ec
      exact m_best_34_lp d V L P m k T hv hok hP hP2 hPm hm8 hk hT hT0 hw h49 Q f (i + 1) M (by omega) hV hr ht (by rw [hc, ec]) hQ
    | true =>
      refine wp_pos (by simp) ?_
      have hlt := bit_off (by omega) hb
      have hk0 : k ≠ 0 := by intro e; subst e; simp at hb
      rw [hb, if_pos rfl] at ec
      have e1 : w32 (199 + (i : Int)) = ((199 + i : Nat) : Int) := by rw [w32_i (by omega) (by omega)]; omega
      have ex : iand (k : Int) (ixor (ishl 1 i) (-1)) = ((k ^^^ 2 ^ i : Nat) : Int) := by rw [iand_nbit (by omega) (by omega), bit_off2 (by omega) hb]
      rw [ex, e1, al173]
      refine wp_inb ⟨by omega, by omega⟩ ?_
      refine wp_inb ⟨by omega, by omega⟩ ?_
      refine wp_inb ⟨by omega, by omega⟩ ?_
      rw [tn_n, tn_n, tn_n, hV, ht _ hlt]
      obtain ⟨t1, t2, t3⟩ := hT (k ^^^ 2 ^ i)
      have hlay := layT_in (x := T (k ^^^ 2 ^ i)) hP hP2 t2 w1 w2
      refine wp_fI (m_behind_eq _ V L P hv hok hP hP2 hPm (V (199 + i)) _ w1 w2 (T (k ^^^ 2 ^ i)) (by omega) (by
        by_cases h0 : k ^^^ 2 ^ i = 0
        · left; rw [if_pos h0, h0, hT0]; exact ⟨rfl, rfl⟩
        · right; rw [if_neg h0]; rfl) M hV hr) fun M1 f1 => ?_
      refine wp_eI (m_lesser_eq _ _ _ _) ?_
      refine wp_inb ⟨by omega, by omega⟩ ?_
      rw [hc]
      refine wp_up fun M2 f2 g2 => ?_
      refine wp_I ?_
      rw [e5]
      have fA : fr [166, 167, 173] M M2 := fr_tr f1 f2 (by simp) (by simp)
      refine m_best_34_lp d V L P m k T hv hok hP hP2 hPm hm8 hk hT hT0 hw h49 Q f (i + 1) M2 (by omega) (by rw [fA 158 (by simp), hV]) ⟨by rw [fA 157 (by simp)]; exact hr.1, by rw [fA 172 (by simp)]; exact hr.2⟩ (fun s hs => by rw [g2, if_neg (by omega), f1 173 (by simp)]; exact ht s hs) ?_ (fun M' f' => hQ M' (fr_tt fA f'))
      rw [g2, if_pos rfl, ec]
      cases hcc : cmb V L P T k i with
      | none =>
        simp only
        rw [if_neg hk0]
        unfold encR imin
        rw [if_neg (by omega)]
      | some y =>
        have hy := cmb_in hP hP2 hw hT i (by omega) y hcc
        have hy1 := hy.1
        unfold okY at hy1
        simp only
        unfold encR imin pmin enc32
        by_cases hlt2 : 32 * (y.1 : Int) + y.2 < 32 * ((layT V L P (V (199 + i)) (T (k ^^^ 2 ^ i))).1 : Int) + (layT V L P (V (199 + i)) (T (k ^^^ 2 ^ i))).2
        · rw [if_pos hlt2, if_pos (by omega)]
        · rw [if_neg hlt2]
          split
          · omega
          · rfl
theorem m_best_2_lp (d : Nat) (V : aW) (L : aLaw) (P : List Nat) (m : Nat) (hv : vLaw L V) (hok : okLaw L) (hP : 0 < P.length) (hP2 : P.length ≤ 10) (hPm : ∀ j, j ∈ P → j < 10) (hm8 : m ≤ 8) (hw : ∀ i, i < m → (1 ≤ V (199 + i) ∧ V (199 + i) ≤ 24) ∧ V (199 + i) ≤ mxL V L P) (h49 : V 49 = m) (hY : ∀ k, k ≤ 256 → ∀ s, okY 2900 (tabY V L P m k s)) : ∀ (f k : Nat) (M : aM), k + f = 2 ^ m → M 158 = V → herR P M → (∀ s, s < k → M 173 s = if s = 0 then 0 else encR (tabY V L P m k s)) →
    wp (w_m_bestOrder_2 (d + 8) k M) fun r M' => r = [aI (if m = 0 then 0 else encR (tabY V L P m (2 ^ m) (2 ^ m - 1)))] ∧ fr [166, 167, 173] M M'
  | 0, k, M, h, hV, hr, ht => by
    have hp8 : 2 ^ m ≤ 2 ^ 8 := Nat.pow_le_pow_right (by omega) hm8
    have hp0 : 0 < 2 ^ m := Nat.two_pow_pos m
    rw [l_m_bestOrder_2, al158, hV, h49, ishl_pow m (by omega), al173]
    refine wp_inb ⟨by omega, by omega⟩ ?_
    refine wp_neg (by omega) ?_
    refine wp_inb ⟨by omega, by omega⟩ ?_
    have e : w32 (((2 ^ m : Nat) : Int) - 1) = ((2 ^ m - 1 : Nat) : Int) := by rw [w32_i (by omega) (by omega)]; omega
    rw [e]
    refine wp_inb ⟨by omega, by omega⟩ ?_
    rw [tn_n, ht _ (by omega), show k = 2 ^ m by omega]
    refine wp_ret ⟨?_, fr_refl _ _⟩
    by_cases h0 : m = 0
    · subst h0; rfl
    · have : 2 ^ 1 ≤ 2 ^ m := Nat.pow_le_pow_right (by omega) (by omega)
      rw [if_neg h0, if_neg (by omega)]
  | f + 1, k, M, h, hV, hr, ht => by
    have hp8 : 2 ^ m ≤ 2 ^ 8 := Nat.pow_le_pow_right (by omega) hm8
    have go : ∀ M1 : aM, fr [173] M M1 → (∀ s, M1 173 s = if s = k then (if k = 0 then 0 else 1000000) else M 173 s) → wp (w_m_bestOrder_34 (d + 8) k 0 M1) fun r M' => r = [aI (if m = 0 then 0 else encR (tabY V L P m (2 ^ m) (2 ^ m - 1)))] ∧ fr [166, 167, 173] M M' := by
      intro M1 f1 g1
      refine m_best_34_lp d V L P m k (tabY V L P m k) hv hok hP hP2 hPm hm8 (by omega) (hY k (by omega)) (tabY_0 k) hw h49 _ m 0 M1 (by omega) (by rw [f1 158 (by simp), hV]) ⟨by rw [f1 157 (by simp)]; exact hr.1, by rw [f1 172 (by simp)]; exact hr.2⟩ (fun s hs => by rw [g1, if_neg (by omega)]; exact ht s hs) (by rw [g1, if_pos rfl]; rfl) ?_
      intro M2 f2 t2 c2
      have fA : fr [166, 167, 173] M M2 := fr_tr f1 f2 (by simp) (by simp)
      refine wp_mono (m_best_2_lp d V L P m hv hok hP hP2 hPm hm8 hw h49 hY f (k + 1) M2 (by omega) (by rw [fA 158 (by simp), hV]) ⟨by rw [fA 157 (by simp)]; exact hr.1, by rw [fA 172 (by simp)]; exact hr.2⟩ (fun s hs => ?_)) (fun r M' q => ⟨q.1, fr_tt fA q.2⟩)
      by_cases e : s = k
      · subst e
        rw [c2]
        by_cases h0 : s = 0
        · subst h0
          rw [if_pos rfl]
          have : ∀ i, cmb V L P (tabY V L P m 0) 0 i = none := by
            intro i
            induction i with
            | zero => rfl
            | succ i ih => simp only [cmb]; rw [if_neg (by simp)]; exact ih
          rw [this]; rfl
        · rw [if_neg h0]
          obtain ⟨y, hy⟩ := cmb_some (V := V) (L := L) (P := P) (T := tabY V L P m s) m (low_bit (k := s) h0 (by omega))
          have et : tabY V L P m (s + 1) s = y := by
            simp only [tabY]; rw [if_pos ⟨trivial, h0⟩, hy]; rfl
          rw [hy, et, if_neg h0]
      · rw [t2 s (by omega), tabY_lo k s (by omega), tabY_lo (k + 1) s (by omega)]
    rw [l_m_bestOrder_2, al158, hV, h49, ishl_pow m (by omega), al173]
    refine wp_inb ⟨by omega, by omega⟩ ?_
    refine wp_pos (by omega) ?_
    refine wp_if (fun h0 => ?_) (fun h0 => ?_)
    · refine wp_inb ⟨by omega, by omega⟩ ?_
      rw [tn_n]
      refine wp_up fun M1 f1 g1 => ?_
      exact go M1 f1 fun s => by rw [g1, if_pos (show k = 0 by omega)]
    · refine wp_inb ⟨by omega, by omega⟩ ?_
      rw [tn_n]
      refine wp_up fun M1 f1 g1 => ?_
      exact go M1 f1 fun s => by rw [g1, if_neg (show ¬ k = 0 by omega)]
