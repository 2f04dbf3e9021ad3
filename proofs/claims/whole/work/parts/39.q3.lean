/-! Calls that only tell: reads, votes. -/
theorem iabs_small {x : Int} (h1 : -2147483648 < x) (h2 : x < 2147483648) : iabs x = if x < 0 then -x else x := by
  unfold iabs; split
  · rw [w32_i (by omega) (by omega)]
  · rfl
def ab (x : Int) : Int := if x < 0 then -x else x
theorem iabs_w {x y : Int} (h1 : -1000000 < x - y) (h2 : x - y < 1000000) : iabs (w32 (x - y)) = ab (x - y) := by
  rw [w32_i (by omega) (by omega), iabs_small (by omega) (by omega)]; rfl
def farD (V : aW) (e i : Nat) : Int := ab (V (53 + i) - V (53 + e)) * 100 + ab (V (11 + i) - V (11 + e))
noncomputable def nearC (V : aW) (e : Nat) : Nat → Int
  | 0 => -1
  | k + 1 => if al V k = true ∧ (nearC V e k = -1 ∨ farD V e k < farD V e (nearC V e k).toNat) then k else nearC V e k
theorem nearC_in (V : aW) (e : Nat) : ∀ k, nearC V e k = -1 ∨ ∃ j : Nat, j < k ∧ nearC V e k = j ∧ al V j = true
  | 0 => Or.inl rfl
  | k + 1 => by
    simp only [nearC]
    split
    · next h => exact Or.inr ⟨k, by omega, rfl, h.1⟩
    · rcases nearC_in V e k with h | ⟨j, h1, h2, h3⟩
      · exact Or.inl h
      · exact Or.inr ⟨j, by omega, h2, h3⟩
theorem wood_nearestTo_lp (d b e : Nat) (V : aW) (n : Nat) (hW : okW V) (hn : V 41 = n) (h10 : n ≤ 10) (he : e < n) (l1 : aLen (b + 1) = 10) (l2 : aLen (b + 2) = 10) (M : aM) (hw : rWd b V M) : ∀ (f i : Nat) (x : Int), i + f = n → (nearC V e i ≠ -1 → x = farD V e (nearC V e i).toNat) →
    w_wood_nearestTo_17 (d + 2) b e (nearC V e i) x i M = some ([aI (nearC V e n)], M)
  | 0, i, x, h, hx => by rw [u_wood_nearestTo_17, hw.1, if_neg (by omega), show i = n by omega]
  | f + 1, i, x, h, hx => by
    have ih := fun y hy => wood_nearestTo_lp d b e V n hW hn h10 he l1 l2 M hw f (i + 1) y (by omega) hy
    have c1 := hw.2.2.2.2.2.2.2.2.2.2.2.2.2.1
    have c2 := hw.2.2.2.2.2.2.2.2.2.2.2.2.2.2.1
    have m1 := hW.2.2.2.2.2.2.2.2.2.2.1
    have m2 := hW.2.2.2.2.2.2.2.2.2.2.2.1
    have a1 := m1 i (by omega)
    have a2 := m1 e (by omega)
    have a3 := m2 i (by omega)
    have a4 := m2 e (by omega)
    rw [u_wood_nearestTo_17, hw.1, if_pos (by omega), if_pos (by omega), l1, l2, inb_s (by omega) (by omega), inb_s (by omega) (by omega), inb_s (by omega) (by omega), inb_s (by omega) (by omega), tn_n, tn_n, c1 i (by omega), c1 e (by omega), c2 i (by omega), c2 e (by omega), iabs_w (by omega) (by omega), iabs_w (by omega) (by omega)]
    have e1 : w32 (w32 (ab (V (53 + i) - V (53 + e)) * 100) + ab (V (11 + i) - V (11 + e))) = farD V e i := by
      unfold farD ab
      rw [w32_i (x := _ * 100) (by split <;> omega) (by split <;> omega), w32_i (by split <;> split <;> omega) (by split <;> split <;> omega)]
    rw [e1, wood_isAlive_eq _ b i V M hw (by omega), bndI_s]
    simp (disch := omega) only [w32_i]
    cases hal : al V i with
    | false =>
      rw [if_pos (show bI false = 0 from rfl)]
      have e2 : nearC V e (i + 1) = nearC V e i := by simp [nearC, hal]
      rw [e2] at ih
      exact ih x hx
    | true =>
      rw [if_neg (show ¬ bI true = 0 by decide)]
      rcases nearC_in V e i with hb | ⟨j, hj, hb, haj⟩
      · rw [if_pos hb]
        have e2 : nearC V e (i + 1) = i := by simp [nearC, hal, hb]
        rw [e2] at ih
        exact ih _ fun _ => by rw [tn_n]
      · rw [if_neg (by omega)]
        have hx2 := hx (by omega)
        rw [hb, tn_n] at hx2
        rw [hx2]
        by_cases hlt : farD V e i < farD V e j
        · rw [if_pos hlt]
          have e2 : nearC V e (i + 1) = i := by simp [nearC, hal, hb, hlt]
          rw [e2] at ih
          exact ih _ fun _ => by rw [tn_n]
        · rw [if_neg hlt]
          have e2 : nearC V e (i + 1) = nearC V e i := by simp [nearC, hal, hb, hlt]
          rw [e2] at ih
          refine ih _ fun _ => by rw [hb, tn_n]
theorem m_reads_lp (d e : Nat) (V : aW) (n : Nat) (hW : okW V) (hn : V 41 = n) (h10 : n ≤ 10) (he : e < n) (M : aM) (hV : M 158 = V) : ∀ (f i : Nat), i + f = n →
    wp (w_m_reads_48 (d + 3) e (nearC V e i) i M) fun r M' => r = [aI (nearC V e n)] ∧ M' = M
  | 0, i, h => by
    rw [l_m_reads_48]
    (try simp (disch := omega) only [w32_i, tn_l, tn_n, tn_r, tn_s, tn_1, Nat.add_sub_cancel, Int.reduceToNat, Int.toNat_zero, Int.toNat_one, al3, al4, al5, al6, al8, al9, al11, al13, al15, al17, al19, al21, al23, al25, al27, al29, al30, al31, al95, al96, al128, al129, al130, al131, al134, al135, al137, al139, al140, al142, al143, al144, al145, al147, al148, al149, al151, al152, al153, al154, al155, al156, al158, al159, al160, al161, al162, al163, al164, al165, al166, al167, al168, al169, al170, al171, al172, al173, al174, al175, al176])
    refine wp_inb ⟨by omega, by omega⟩ ?_
    refine wp_neg (by rw [hV]; omega) ?_
    exact wp_ret ⟨by rw [show i = n by omega], rfl⟩
  | f + 1, i, h => by
    have ih := m_reads_lp d e V n hW hn h10 he M hV f (i + 1) (by omega)
    have m1 := hW.2.2.2.2.2.2.2.2.2.2.1
    have m2 := hW.2.2.2.2.2.2.2.2.2.2.2.1
    have a1 := m1 i (by omega)
    have a2 := m1 e (by omega)
    have a3 := m2 i (by omega)
    have a4 := m2 e (by omega)
    have go201 : nearC V e (i + 1) = i → wp (w_m_reads_201 (d + 3) e i M) fun r M' => r = [aI (nearC V e n)] ∧ M' = M := by
      intro e2
      rw [e2] at ih
      rw [l_m_reads_201, l_m_reads_208]
      refine wp_I ?_
      (try simp (disch := omega) only [w32_i, tn_l, tn_n, tn_r, tn_s, tn_1, Nat.add_sub_cancel, Int.reduceToNat, Int.toNat_zero, Int.toNat_one, al3, al4, al5, al6, al8, al9, al11, al13, al15, al17, al19, al21, al23, al25, al27, al29, al30, al31, al95, al96, al128, al129, al130, al131, al134, al135, al137, al139, al140, al142, al143, al144, al145, al147, al148, al149, al151, al152, al153, al154, al155, al156, al158, al159, al160, al161, al162, al163, al164, al165, al166, al167, al168, al169, al170, al171, al172, al173, al174, al175, al176])
      exact ih
    have go208 : nearC V e (i + 1) = nearC V e i → wp (w_m_reads_208 (d + 3) e (nearC V e i) i M) fun r M' => r = [aI (nearC V e n)] ∧ M' = M := by
      intro e2
      rw [e2] at ih
      rw [l_m_reads_208]
      refine wp_I ?_
      (try simp (disch := omega) only [w32_i, tn_l, tn_n, tn_r, tn_s, tn_1, Nat.add_sub_cancel, Int.reduceToNat, Int.toNat_zero, Int.toNat_one, al3, al4, al5, al6, al8, al9, al11, al13, al15, al17, al19, al21, al23, al25, al27, al29, al30, al31, al95, al96, al128, al129, al130, al131, al134, al135, al137, al139, al140, al142, al143, al144, al145, al147, al148, al149, al151, al152, al153, al154, al155, al156, al158, al159, al160, al161, al162, al163, al164, al165, al166, al167, al168, al169, al170, al171, al172, al173, al174, al175, al176])
      exact ih
    rw [l_m_reads_48]
    (try simp (disch := omega) only [w32_i, tn_l, tn_n, tn_r, tn_s, tn_1, Nat.add_sub_cancel, Int.reduceToNat, Int.toNat_zero, Int.toNat_one, al3, al4, al5, al6, al8, al9, al11, al13, al15, al17, al19, al21, al23, al25, al27, al29, al30, al31, al95, al96, al128, al129, al130, al131, al134, al135, al137, al139, al140, al142, al143, al144, al145, al147, al148, al149, al151, al152, al153, al154, al155, al156, al158, al159, al160, al161, al162, al163, al164, al165, al166, al167, al168, al169, al170, al171, al172, al173, al174, al175, al176])
    refine wp_inb ⟨by omega, by omega⟩ ?_
    refine wp_pos (by rw [hV]; omega) ?_
    refine wp_eI (m_isAlive_eq _ _ M (by rw [hV]; omega) (by rw [hV]; omega)) ?_
    rw [hV]
    refine wp_bif (fun hal => ?_) (fun hal => ?_)
    · exact go208 (by simp [nearC, hal])
    rcases nearC_in V e i with hb | ⟨j, hj, hb, haj⟩
    · refine wp_pos hb ?_
      refine wp_pos hb ?_
      refine wp_pos (by decide) ?_
      exact go201 (by simp [nearC, hal, hb])
    · have b1 := m1 j (by omega)
      have b2 := m2 j (by omega)
      refine wp_neg (by omega) ?_
      refine wp_inb ⟨by omega, by omega⟩ ?_
      refine wp_inb ⟨by omega, by omega⟩ ?_
      refine wp_eI (m_size_eq _ _ _) ?_
      rw [hb]
      (try simp (disch := omega) only [w32_i, tn_l, tn_n, tn_r, tn_s, tn_1, Nat.add_sub_cancel, Int.reduceToNat, Int.toNat_zero, Int.toNat_one, al3, al4, al5, al6, al8, al9, al11, al13, al15, al17, al19, al21, al23, al25, al27, al29, al30, al31, al95, al96, al128, al129, al130, al131, al134, al135, al137, al139, al140, al142, al143, al144, al145, al147, al148, al149, al151, al152, al153, al154, al155, al156, al158, al159, al160, al161, al162, al163, al164, al165, al166, al167, al168, al169, al170, al171, al172, al173, al174, al175, al176])
      refine wp_inb ⟨by omega, by omega⟩ ?_
      refine wp_inb ⟨by omega, by omega⟩ ?_
      refine wp_eI (m_size_eq _ _ _) ?_
      refine wp_I ?_
      refine wp_neg (by omega) ?_
      refine wp_inb ⟨by omega, by omega⟩ ?_
      refine wp_inb ⟨by omega, by omega⟩ ?_
      refine wp_eI (m_size_eq _ _ _) ?_
      refine wp_inb ⟨by omega, by omega⟩ ?_
      refine wp_inb ⟨by omega, by omega⟩ ?_
      refine wp_eI (m_size_eq _ _ _) ?_
      refine wp_I ?_
      rw [hV]
      (try simp (disch := omega) only [w32_i, tn_l, tn_n, tn_r, tn_s, tn_1, Nat.add_sub_cancel, Int.reduceToNat, Int.toNat_zero, Int.toNat_one, al3, al4, al5, al6, al8, al9, al11, al13, al15, al17, al19, al21, al23, al25, al27, al29, al30, al31, al95, al96, al128, al129, al130, al131, al134, al135, al137, al139, al140, al142, al143, al144, al145, al147, al148, al149, al151, al152, al153, al154, al155, al156, al158, al159, al160, al161, al162, al163, al164, al165, al166, al167, al168, al169, al170, al171, al172, al173, al174, al175, al176])
      rw [iabs_small (x := V (53 + i) - V (53 + e)) (by omega) (by omega), iabs_small (x := V (53 + j) - V (53 + e)) (by omega) (by omega), iabs_small (x := V (11 + i) - V (11 + e)) (by omega) (by omega), iabs_small (x := V (11 + j) - V (11 + e)) (by omega) (by omega)]
      have y1 : w32 ((if V (53 + i) - V (53 + e) < 0 then -(V (53 + i) - V (53 + e)) else V (53 + i) - V (53 + e)) - (if V (53 + j) - V (53 + e) < 0 then -(V (53 + j) - V (53 + e)) else V (53 + j) - V (53 + e))) = ab (V (53 + i) - V (53 + e)) - ab (V (53 + j) - V (53 + e)) := by
        unfold ab; rw [w32_i (by split <;> split <;> omega) (by split <;> split <;> omega)]
      have y2 : w32 ((if V (11 + i) - V (11 + e) < 0 then -(V (11 + i) - V (11 + e)) else V (11 + i) - V (11 + e)) - (if V (11 + j) - V (11 + e) < 0 then -(V (11 + j) - V (11 + e)) else V (11 + j) - V (11 + e))) = ab (V (11 + i) - V (11 + e)) - ab (V (11 + j) - V (11 + e)) := by
        unfold ab; rw [w32_i (by split <;> split <;> omega) (by split <;> split <;> omega)]
      rw [y1, y2]
      have z1 : 0 ≤ ab (V (11 + i) - V (11 + e)) ∧ ab (V (11 + i) - V (11 + e)) ≤ 9 := by unfold ab; split <;> omega
      have z2 : 0 ≤ ab (V (11 + j) - V (11 + e)) ∧ ab (V (11 + j) - V (11 + e)) ≤ 9 := by unfold ab; split <;> omega
      have g1 : farD V e i < farD V e j → nearC V e (i + 1) = i := fun h => by simp [nearC, hal, hb, h]
      have g2 : ¬ farD V e i < farD V e j → nearC V e (i + 1) = nearC V e i := fun h => by simp [nearC, hal, hb, h]
      unfold farD at g1 g2
      rw [hb] at go208
      refine wp_if (fun h1 => ?_) (fun h1 => ?_)
      · exact go201 (g1 (by omega))
      refine wp_if (fun h2 => ?_) (fun h2 => ?_)
      · refine wp_if (fun h3 => ?_) (fun h3 => ?_)
        · exact go201 (g1 (by omega))
        · exact go208 (by rw [← hb]; exact g2 (by omega))
      · exact go208 (by rw [← hb]; exact g2 (by omega))
noncomputable def vReads (i : Int) (V : aW) : Int :=
  if 0 ≤ i ∧ i < V 46 then (if al V (V (112 + 3 * i.toNat)) = true then -1 else nearC V (V (112 + 3 * i.toNat)).toNat (V 41).toNat) else -1
theorem pr_reads (d : Nat) (i : Int) : pr (w_x_reads (d + 40) i) (w_m_reads (d + 40) i) := by
  refine pr_qV (fun V _ => vReads i V) ?_ ?_
  · intro L Lk M hI
    obtain ⟨⟨hW, hT, hw, hv, hok⟩, -⟩ := hI
    obtain ⟨n, hn, h10⟩ := okW_n hW
    obtain ⟨r0, r2, rc⟩ := rW_row2 hw
    have n46 := hT.1.2.1
    rw [l_x_reads]
    refine wp_eI (rows_has_eq _ 14 i M) ?_
    rw [show M 14 2 = M 158 46 from r2]
    unfold vReads
    refine wp_bif (fun h => ?_) (fun h => ?_)
    · exact wp_ret ⟨by rw [if_neg (of_decide_eq_false h)], agQ_refl _⟩
    have h := of_decide_eq_true h
    rw [if_pos h]
    obtain ⟨k, rfl⟩ : ∃ k : Nat, i = k := ⟨i.toNat, by omega⟩
    refine wp_eI (rows_cell_eq _ 14 k 1 M (by rw [show M 14 2 = M 158 46 from r2]; omega) (by decide) (by rw [al15]; omega) (by omega)) ?_
    have c1 : M (14 + 1) (4 * k + 1) = M 158 (112 + 3 * k) := (rc k 1 (by omega) (by decide)).trans (by rw [show 112 + 3 * k = 111 + 3 * k + 1 by omega])
    rw [c1, tn_n]
    have hd := (hT.2.2.1 k (by omega)).2.1
    obtain ⟨e, he⟩ : ∃ e : Nat, M 158 (112 + 3 * k) = e := ⟨(M 158 (112 + 3 * k)).toNat, by omega⟩
    rw [he]
    refine wp_eI (wood_isAlive_eq _ 2 _ (M 158) M (rW_wd hw) (by omega)) ?_
    refine wp_bif (fun h => ?_) (fun h => ?_)
    · rw [h]
      refine wp_eI (M := M) (v := nearC (M 158) e n) ?_ ?_
      · rw [u_wood_nearestTo, wood_has_eq _ 2 _ (M 158) M (rW_wd hw).1 (by omega), bndI_s, decide_eq_true (by omega), if_neg (show ¬ bI true = 0 by decide)]
        exact wood_nearestTo_lp _ 2 e (M 158) n hW hn h10 (by omega) al3 al4 M (rW_wd hw) n 0 0 (by omega) (fun h => absurd rfl h)
      · refine wp_ret ⟨?_, agQ_refl _⟩
        rw [tn_n, show (M 158 41).toNat = n by omega]
        rfl
    · exact wp_ret ⟨by rw [h]; rfl, agQ_refl _⟩
  · intro L Lk M hI
    obtain ⟨⟨hW, hT, hw, hv, hok⟩, -⟩ := hI
    obtain ⟨n, hn, h10⟩ := okW_n hW
    have n46 := hT.1.2.1
    rw [l_m_reads]
    simp only [al158]
    refine wp_inb ⟨by omega, by omega⟩ ?_
    refine wp_eI (m_isIn_eq _ _ _ _ _) ?_
    rw [w32_i (by omega) (by omega)]
    unfold vReads
    refine wp_bif (fun h => ?_) (fun h => ?_)
    · have h := of_decide_eq_false h
      exact wp_ret ⟨by rw [if_neg (by omega)], agQ_refl _⟩
    have h := of_decide_eq_true h
    rw [if_pos (show 0 ≤ i ∧ i < M 158 46 by omega)]
    obtain ⟨k, rfl⟩ : ∃ k : Nat, i = k := ⟨i.toNat, by omega⟩
    have e1 : w32 (w32 (111 + w32 (3 * (k : Int))) + 1) = ((112 + 3 * k : Nat) : Int) := by simp (disch := omega) only [w32_i]; omega
    rw [e1]
    refine wp_inb ⟨by omega, by omega⟩ ?_
    refine wp_I ?_
    rw [tn_n, tn_n]
    have hd := (hT.2.2.1 k (by omega)).2.1
    obtain ⟨e, he⟩ : ∃ e : Nat, M 158 (112 + 3 * k) = e := ⟨(M 158 (112 + 3 * k)).toNat, by omega⟩
    rw [he]
    refine wp_eI (m_isAlive_eq _ _ M (by omega) (by omega)) ?_
    refine wp_bif (fun h => ?_) (fun h => ?_)
    · rw [h]
      refine wp_mono (m_reads_lp _ e (M 158) n hW hn h10 (by omega) M rfl n 0 (by omega)) ?_
      rintro r M' ⟨e1, e2⟩
      subst e2
      refine ⟨?_, agQ_refl _⟩
      rw [e1, tn_n, show (M' 158 41).toNat = n by omega]
      rfl
    · exact wp_ret ⟨by rw [h]; rfl, agQ_refl _⟩
/-! votes -/
noncomputable def farN (V : aW) (h : Int) : Nat → Int
  | 0 => 0
  | k + 1 => farN V h k + ab (V (275 + k) - h)
noncomputable def nearH (V : aW) (n : Nat) : Nat → Nat
  | 0 => 0
  | k + 1 => if farN V ((k + 1 : Nat) : Int) n < farN V (nearH V n k) n then k + 1 else nearH V n k
theorem nearH_in (V : aW) (n : Nat) : ∀ k, nearH V n k ≤ k
  | 0 => Nat.le_refl _
  | k + 1 => by have := nearH_in V n k; simp only [nearH]; split <;> omega
theorem farN_in {V : aW} {h : Int} {n : Nat} (hh : 0 ≤ h ∧ h ≤ 24) (hv : ∀ i : Nat, i < n → 0 ≤ V (275 + i) ∧ V (275 + i) ≤ 24) : ∀ k, k ≤ n → 0 ≤ farN V h k ∧ farN V h k ≤ 24 * k
  | 0, _ => by simp [farN]
  | k + 1, hk => by
    have := farN_in hh hv k (by omega)
    have := hv k (by omega)
    simp only [farN, ab]
    split <;> omega
theorem th_farness_lp (d : Nat) (V : aW) (h : Int) (n : Nat) (M : aM) (h9 : n ≤ 9) (hh : 0 ≤ h ∧ h ≤ 24) (hv : ∀ i : Nat, i < n → 0 ≤ V (275 + i) ∧ V (275 + i) ≤ 24) (r2 : M 28 2 = n) (rc : ∀ i : Nat, i < n → M 29 (4 * i) = V (275 + i)) : ∀ (f i : Nat), i + f = n →
    w_th_farness_5 (d + 2) 28 h (farN V h i) i M = some ([aI (farN V h n)], M)
  | 0, i, hi => by rw [u_th_farness_5, r2, if_neg (by omega), show i = n by omega]
  | f + 1, i, hi => by
    have ih := th_farness_lp d V h n M h9 hh hv r2 rc f (i + 1) (by omega)
    have hb := farN_in hh hv i (by omega)
    have hc := hv i (by omega)
    rw [u_th_farness_5, r2, if_pos (by omega)]
    rw [show ((0 : Int)) = ((0 : Nat) : Int) from rfl, rows_cell_eq _ 28 i 0 M (by omega) (by decide) (by rw [al29]; omega) (by omega), bndI_s]
    rw [show M (28 + 1) (4 * i + 0) = V (275 + i) from rc i (by omega), iabs_w (by omega) (by omega)]
    have hab : 0 ≤ ab (V (275 + i) - h) ∧ ab (V (275 + i) - h) ≤ 24 := by unfold ab; split <;> omega
    simp (disch := omega) only [w32_i]
    exact ih
theorem m_farFrom_lp (d : Nat) (V : aW) (h : Int) (n : Nat) (M : aM) (h9 : n ≤ 9) (hh : 0 ≤ h ∧ h ≤ 24) (hv : ∀ i : Nat, i < n → 0 ≤ V (275 + i) ∧ V (275 + i) ≤ 24) (r2 : V 52 = n) (hV : M 158 = V) : ∀ (f i : Nat), i + f = n →
    w_m_farFrom_4 (d + 1) h (farN V h i) i M = some ([aI (farN V h n)], M)
  | 0, i, hi => by rw [u_m_farFrom_4, al158, inb_s (by omega) (by omega), hV, if_neg (by omega), show i = n by omega]
  | f + 1, i, hi => by
    have ih := m_farFrom_lp d V h n M h9 hh hv r2 hV f (i + 1) (by omega)
    have hb := farN_in hh hv i (by omega)
    have hc := hv i (by omega)
    rw [u_m_farFrom_4, al158, inb_s (by omega) (by omega), if_pos (by rw [hV]; omega)]
    have hab : 0 ≤ ab (V (275 + i) - h) ∧ ab (V (275 + i) - h) ≤ 24 := by unfold ab; split <;> omega
    have e1 : w32 (275 + (i : Int)) = ((275 + i : Nat) : Int) := by rw [w32_i (by omega) (by omega)]; omega
    rw [e1, inb_s (by omega) (by omega), m_size_eq, bndI_s, hV, tn_n, iabs_w (by omega) (by omega)]
    simp (disch := omega) only [w32_i]
    exact ih
theorem pr_votes (d : Nat) (w : Int) : pr (w_x_votes (d + 40) w) (w_m_votes (d + 40) w) := by
  refine pr_qV (fun V _ => if V 52 ≠ 0 ∧ 0 ≤ w ∧ w ≤ 1 then (if w = 0 then (nearH V (V 52).toNat 24 : Int) else farN V (nearH V (V 52).toNat 24) (V 52).toNat) else -1) ?_ ?_
  · intro L Lk M hI
    obtain ⟨⟨hW, hT, hw, hv, hok⟩, -⟩ := hI
    have n52 := hT.1.2.2.2.2.2.2.2
    have hvt := hT.2.2.2.2.2.2.2.2
    obtain ⟨t1, t2, t3, t4, t5, t6, t7, r0, r2, rc⟩ := hw.1.2.1
    obtain ⟨n, hn⟩ : ∃ n : Nat, M 158 52 = n := ⟨(M 158 52).toNat, by omega⟩
    rw [l_x_votes, show M 28 2 = M 158 52 from r2]
    refine wp_if (fun h => ?_) (fun h => ?_)
    · exact wp_ret ⟨by rw [if_neg (by omega)], agQ_refl _⟩
    refine wp_eI (x_within_eq _ _ _ _) ?_
    refine wp_bif (fun h1 => ?_) (fun h1 => ?_)
    · have h1 := of_decide_eq_false h1
      exact wp_ret ⟨by rw [if_neg (by omega)], agQ_refl _⟩
    have h1 := of_decide_eq_true h1
    rw [if_pos (show M 158 52 ≠ 0 ∧ 0 ≤ w ∧ w ≤ 1 by omega), hn, tn_n]
    have far : ∀ (d' : Nat) (h : Nat), h ≤ 24 → w_th_farness (d' + 3) 28 (h : Int) M = some ([aI (farN (M 158) h n)], M) := fun d' h hh =>
      (u_th_farness _ _ _ _).trans (th_farness_lp _ (M 158) h n M (by omega) (by omega) (fun i hi => hvt i (by omega)) (by rw [show M 28 2 = M 158 52 from r2, hn]) (fun i hi => (rc i 0 (by omega) (by decide)).trans rfl) n 0 (by omega))
    have lp : ∀ (f i : Nat), i + f = 24 → w_th_nearestHour_4 (d + 38) 28 (nearH (M 158) n i) ((i + 1 : Nat) : Int) M = some ([aI (nearH (M 158) n 24)], M) := by
      intro f
      induction f with
      | zero => intro i hi; rw [u_th_nearestHour_4, if_pos (by omega), show i = 24 by omega]
      | succ f ih =>
        intro i hi
        have hin := nearH_in (M 158) n i
        rw [u_th_nearestHour_4, if_neg (by omega), far _ (i + 1) (by omega), bndI_s, far _ _ (by omega), bndI_s]
        have e1 : w32 (((i + 1 : Nat) : Int) + 1) = ((i + 1 + 1 : Nat) : Int) := by rw [w32_i (by omega) (by omega)]; omega
        simp only [e1]
        have ih := ih (i + 1) (by omega)
        have e2 : nearH (M 158) n (i + 1) = if farN (M 158) ((i + 1 : Nat) : Int) n < farN (M 158) (nearH (M 158) n i) n then i + 1 else nearH (M 158) n i := rfl
        rw [e2] at ih
        split
        · next h => rw [if_pos h] at ih; exact ih
        · next h => rw [if_neg h] at ih; exact ih
    refine wp_eI ((u_th_nearestHour _ _ _).trans (lp 24 0 (by omega))) ?_
    refine wp_if (fun h0 => ?_) (fun h0 => ?_)
    · exact wp_ret ⟨by rw [if_pos h0], agQ_refl _⟩
    · refine wp_eI (far _ _ (nearH_in _ _ _)) ?_
      exact wp_ret ⟨by rw [if_neg h0], agQ_refl _⟩
  · intro L Lk M hI
    obtain ⟨⟨hW, hT, hw, hv, hok⟩, -⟩ := hI
    have n52 := hT.1.2.2.2.2.2.2.2
    have hvt := hT.2.2.2.2.2.2.2.2
    obtain ⟨n, hn⟩ : ∃ n : Nat, M 158 52 = n := ⟨(M 158 52).toNat, by omega⟩
    rw [l_m_votes]
    refine wp_eI (m_isIn_eq _ _ _ _ _) ?_
    refine wp_bif (fun h1 => ?_) (fun h1 => ?_)
    · have h1 := of_decide_eq_false h1
      exact wp_ret ⟨by rw [if_neg (by omega)], agQ_refl _⟩
    have h1 := of_decide_eq_true h1
    rw [al158]
    refine wp_inb ⟨by omega, by omega⟩ ?_
    refine wp_if (fun h => ?_) (fun h => ?_)
    · exact wp_ret ⟨by rw [if_neg (by omega)], agQ_refl _⟩
    rw [if_pos (show M 158 52 ≠ 0 ∧ 0 ≤ w ∧ w ≤ 1 by omega), hn, tn_n]
    have far : ∀ (d' : Nat) (h : Nat), h ≤ 24 → w_m_farFrom (d' + 2) (h : Int) M = some ([aI (farN (M 158) h n)], M) := fun d' h hh =>
      (u_m_farFrom _ _ _).trans (m_farFrom_lp _ (M 158) h n M (by omega) (by omega) (fun i hi => hvt i (by omega)) hn rfl n 0 (by omega))
    have lp : ∀ (f i : Nat), i + f = 24 → w_m_votes_25 (d + 39) w (nearH (M 158) n i) ((i + 1 : Nat) : Int) M = some ([aI (if w = 0 then (nearH (M 158) n 24 : Int) else farN (M 158) (nearH (M 158) n 24) n)], M) := by
      intro f
      induction f with
      | zero =>
        intro i hi
        have hin := nearH_in (M 158) n i
        rw [u_m_votes_25, if_pos (by omega), show i = 24 by omega]
        by_cases h0 : w = 0
        · rw [if_pos h0, if_pos h0]
        · rw [if_neg h0, if_neg h0, far _ _ (nearH_in _ _ _), bndI_s]
      | succ f ih =>
        intro i hi
        have hin := nearH_in (M 158) n i
        rw [u_m_votes_25, if_neg (by omega), far _ (i + 1) (by omega), bndI_s, far _ _ (by omega), bndI_s]
        have e1 : w32 (((i + 1 : Nat) : Int) + 1) = ((i + 1 + 1 : Nat) : Int) := by rw [w32_i (by omega) (by omega)]; omega
        simp only [e1]
        have ih := ih (i + 1) (by omega)
        have e2 : nearH (M 158) n (i + 1) = if farN (M 158) ((i + 1 : Nat) : Int) n < farN (M 158) (nearH (M 158) n i) n then i + 1 else nearH (M 158) n i := rfl
        rw [e2] at ih
        split
        · next h => rw [if_pos h] at ih; exact ih
        · next h => rw [if_neg h] at ih; exact ih
    exact ⟨_, _, lp 24 0 (by omega), rfl, agQ_refl _⟩
