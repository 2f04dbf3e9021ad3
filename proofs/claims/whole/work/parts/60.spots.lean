/-! works: a work laid behind another -/
/-- the class's turns and their lengths -/
def labR (V : aW) (L : aLaw) (P : List Nat) (M : aM) : Prop := M 146 3 = P.length ∧ holdL (M 147) 0 P ∧ ∀ k, (h : k < P.length) → M 148 k = long V L (P[k]'h)
theorem labR_fr {V : aW} {L : aLaw} {P : List Nat} {M M' : aM} (h : labR V L P M) (f : ∀ k, 146 ≤ k → k < 149 → M' k = M k) : labR V L P M' := by
  unfold labR at h ⊢; rw [f 146 (by omega) (by omega), f 147 (by omega) (by omega), f 148 (by omega) (by omega)]; exact h
theorem getD_at (P : List Nat) {i : Nat} (h : i < P.length) : P.getD i 0 = P[i]'h := by simp [List.getD, h]
theorem lab_lengthOf_eq (d t : Nat) (V : aW) (L : aLaw) (P : List Nat) (M : aM) (h : labR V L P M) (hP : 0 < P.length) (hP2 : P.length ≤ 10) (ht : t < 100000) : w_labour_lengthOf (d + 2) t M = some ([aI (lenT V L P t)], M) := by
  obtain ⟨h1, h2, h3⟩ := h
  have hm : t % P.length < P.length := Nat.mod_lt _ hP
  rw [u_labour_lengthOf, h1, if_pos (by omega), floorMod_eq _ t P.length M (by omega) hP (by omega), bndI_s, if_pos (by omega), al148, inb_s (by omega) (by omega), tn_n, h3 _ hm]
  unfold lenT
  rw [getD_at _ hm]
theorem lab_spot_26_lp (d : Nat) (V : aW) (L : aLaw) (P : List Nat) (M : aM) (hl : labR V L P M) (hP : 0 < P.length) (hP2 : P.length ≤ 10) (sp h : Int) (t : Nat) (ht : t ≤ 4000) (hh : 1 ≤ h ∧ h ≤ 24) : ∀ (f i : Nat), i + f = P.length + 1 → 1 ≤ i → (∃ u, t + i ≤ u ∧ u < t + i + f ∧ h ≤ lenT V L P u) →
    w_labour_spotBehind_26 (d + 2) sp h t i M = some ([aI (32 * ((fitT V L P h f (t + i) : Nat) : Int) + h)], M)
  | 0, i, hi, h1, ⟨u, a, b, _⟩ => by omega
  | f + 1, i, hi, h1, hu => by
    have e1 : w32 ((t : Int) + i) = ((t + i : Nat) : Int) := by rw [w32_i (by omega) (by omega)]; omega
    have e5 : w32 ((i : Int) + 1) = ((i + 1 : Nat) : Int) := by rw [w32_i (by omega) (by omega)]; rfl
    have h3 := hl.1
    rw [u_labour_spotBehind_26, h3, if_neg (by omega), e1, lab_lengthOf_eq _ (t + i) V L P M hl hP hP2 (by omega), bndI_s]
    have ef : fitT V L P h (f + 1) (t + i) = if h ≤ lenT V L P (t + i) then t + i else fitT V L P h f (t + i + 1) := rfl
    rw [ef]
    by_cases hc : h ≤ lenT V L P (t + i)
    · rw [if_neg (by omega), if_pos hc]
      have e2 : w32 (w32 (((t + i : Nat) : Int) * 32) + h) = 32 * ((t + i : Nat) : Int) + h := by rw [w32_i (x := _ * 32) (by omega) (by omega), w32_i (by omega) (by omega)]; omega
      rw [e2]
    · rw [if_pos (by omega), if_neg hc]
      dsimp only
      rw [e5]
      have ih := lab_spot_26_lp d V L P M hl hP hP2 sp h t ht hh f (i + 1) (by omega) (by omega) (by
        obtain ⟨u, a, b, c⟩ := hu
        refine ⟨u, ?_, by omega, c⟩
        by_cases e : u = t + i
        · subst e; exact absurd c hc
        · omega)
      rw [show t + (i + 1) = t + i + 1 by omega] at ih
      exact ih
/-- a work that fits some day fits one of any turn of days -/
theorem fit_ex {V : aW} {L : aLaw} {P : List Nat} {h : Int} (hP : 0 < P.length) (hh : 1 ≤ h) (hm : h ≤ mxL V L P) (t : Nat) : ∃ u, t ≤ u ∧ u < t + P.length ∧ h ≤ lenT V L P u := by
  obtain ⟨k, hk, e⟩ := mxL_ex (V := V) (L := L) P (by omega)
  have hd := Nat.div_add_mod t P.length
  have hm2 := Nat.mod_lt t hP
  by_cases hc : t % P.length ≤ k
  · refine ⟨P.length * (t / P.length) + k, by omega, by omega, ?_⟩
    unfold lenT
    rw [Nat.mul_add_mod, Nat.mod_eq_of_lt hk, getD_at _ hk, e]; exact hm
  · refine ⟨P.length * (t / P.length) + P.length + k, by omega, by omega, ?_⟩
    unfold lenT
    rw [show P.length * (t / P.length) + P.length + k = P.length * (t / P.length + 1) + k by rw [Nat.mul_add, Nat.mul_one], Nat.mul_add_mod, Nat.mod_eq_of_lt hk, getD_at _ hk, e]; exact hm
theorem lab_spotBehind_eq (d : Nat) (V : aW) (L : aLaw) (P : List Nat) (M : aM) (hl : labR V L P M) (hP : 0 < P.length) (hP2 : P.length ≤ 10) (x : Nat × Int) (h : Int) (hx : x.1 ≤ 3000 ∧ 0 ≤ x.2 ∧ x.2 ≤ 24) (hh : 1 ≤ h ∧ h ≤ 24) (hm : h ≤ mxL V L P) :
    w_labour_spotBehind (d + 3) (32 * (x.1 : Int) + x.2) h M = some ([aI (32 * ((layT V L P h x).1 : Int) + (layT V L P h x).2)], M) := by
  obtain ⟨hx1, hx2, hx3⟩ := hx
  have e1 : idiv (32 * (x.1 : Int) + x.2) 32 = ((x.1 : Nat) : Int) := by rw [idiv_nn (by omega) (by omega) (by omega) (by omega)]; omega
  have e2 : irem (32 * (x.1 : Int) + x.2) 32 = x.2 := by rw [irem_nn (by omega) (by omega) (by omega) (by omega)]; omega
  rw [u_labour_spotBehind]
  dsimp only
  rw [e1, e2, lab_lengthOf_eq _ x.1 V L P M hl hP hP2 (by omega), bndI_s, w32_i (x := x.2 + h) (by omega) (by omega)]
  unfold layT
  by_cases hc : x.2 + h ≤ lenT V L P x.1
  · rw [if_neg (by omega), if_pos hc, w32_i (by omega) (by omega)]
    dsimp only
    rw [show 32 * (x.1 : Int) + x.2 + h = 32 * (x.1 : Int) + (x.2 + h) by omega]
  · rw [if_pos (by omega), if_neg hc]
    exact lab_spot_26_lp _ V L P M hl hP hP2 _ h x.1 (by omega) hh P.length 1 (by omega) (by omega) (by
      obtain ⟨u, a, b, c⟩ := fit_ex hP hh.1 hm (x.1 + 1)
      exact ⟨u, a, by omega, c⟩)
theorem layT_in {V : aW} {L : aLaw} {P : List Nat} {h : Int} {x : Nat × Int} (hP : 0 < P.length) (hP2 : P.length ≤ 10) (hx : 0 ≤ x.2) (hh : 1 ≤ h ∧ h ≤ 24) (hm : h ≤ mxL V L P) : (layT V L P h x).1 ≤ x.1 + 11 ∧ 1 ≤ (layT V L P h x).2 ∧ (layT V L P h x).2 ≤ 24 := by
  have hl := lenT_in V L P x.1
  unfold layT
  split
  · dsimp only; omega
  · obtain ⟨u, a, b, c⟩ := fit_ex hP hh.1 hm (x.1 + 1)
    have := (fitT_ok P.length (x.1 + 1) u a b c).2
    dsimp only
    omega
/-! in the reference -/
def herR (P : List Nat) (M : aM) : Prop := M 157 33 = P.length ∧ holdL (M 172) 0 P
theorem holdL_get {A : Nat → Int} : ∀ (l : List Nat) (k i : Nat), holdL A k l → (h : i < l.length) → A (k + i) = ((l[i]'h : Nat) : Int)
  | j :: l, k, 0, hh, h => hh.1
  | j :: l, k, i + 1, hh, h => by
    have := holdL_get l (k + 1) i hh.2 (by simpa using h)
    rw [show k + 1 + i = k + (i + 1) by omega] at this
    simpa using this
theorem m_behind_11_lp (d : Nat) (V : aW) (L : aLaw) (P : List Nat) (hv : vLaw L V) (hok : okLaw L) (hP : 0 < P.length) (hP2 : P.length ≤ 10) (hPm : ∀ j, j ∈ P → j < 10) (h : Int) (hh : 1 ≤ h ∧ h ≤ 24) : ∀ (f t : Nat) (M : aM), t + f ≤ 5000 → M 158 = V → herR P M → (∃ u, t ≤ u ∧ u < t + f ∧ h ≤ lenT V L P u) →
    wp (w_m_behind_11 (d + 6) h ((t + 1 : Nat) : Int) 0 M) fun r M' => r = [aI (100 * ((fitT V L P h f t : Nat) + 1 : Int) + h)] ∧ fr [166, 167] M M'
  | 0, t, M, ht, hV, hr, ⟨u, a, b, _⟩ => by omega
  | f + 1, t, M, ht, hV, hr, hu => by
    obtain ⟨r1, r2⟩ := hr
    have hm : t % P.length < P.length := Nat.mod_lt _ hP
    have e0 : w32 (((t + 1 : Nat) : Int) - 1) = (t : Int) := by rw [w32_i (by omega) (by omega)]; omega
    have e1 : irem (t : Int) (P.length : Int) = ((t % P.length : Nat) : Int) := by rw [irem_nn (by omega) (by omega) (by omega) (by omega)]; rfl
    have g := holdL_get P 0 (t % P.length) r2 hm
    rw [Nat.zero_add] at g
    have e5 : w32 (((t + 1 : Nat) : Int) + 1) = ((t + 1 + 1 : Nat) : Int) := by rw [w32_i (by omega) (by omega)]; rfl
    rw [l_m_behind_11]
    refine wp_neg (by omega) ?_
    rw [r1, e0, e1, al172, tn_n, g]
    refine wp_none (by omega) ?_
    refine wp_inb ⟨by omega, by omega⟩ ?_
    refine wp_fI (m_longOf_eq _ V L (P[t % P.length]'hm) M hV (hPm _ (List.getElem_mem hm)) hv hok) fun M1 f1 => ?_
    have el : long V L (P[t % P.length]'hm) = lenT V L P t := by unfold lenT; rw [getD_at _ hm]
    rw [el, w32_i (x := 0 + h) (by omega) (by omega)]
    have ef : fitT V L P h (f + 1) t = if h ≤ lenT V L P t then t else fitT V L P h f (t + 1) := rfl
    rw [ef]
    refine wp_if (fun hc => ?_) (fun hc => ?_)
    · rw [if_neg (by omega)]
      refine wp_I ?_
      rw [e5]
      refine wp_mono (m_behind_11_lp d V L P hv hok hP hP2 hPm h hh f (t + 1) M1 (by omega) (by rw [f1 158 (by simp), hV]) ⟨by rw [f1 157 (by simp), r1], by rw [f1 172 (by simp)]; exact r2⟩ (by
        obtain ⟨u, a, b, c⟩ := hu
        refine ⟨u, ?_, by omega, c⟩
        by_cases e : u = t
        · subst e; omega
        · omega)) ?_
      rintro r M' ⟨q1, q2⟩
      exact ⟨q1, fr_tt f1 q2⟩
    · rw [if_pos (by omega)]
      refine wp_ret ⟨?_, f1⟩
      have e2 : w32 (w32 (w32 (100 * ((t + 1 : Nat) : Int)) + 0) + h) = 100 * ((t : Int) + 1) + h := by
        rw [w32_i (x := 100 * _) (by omega) (by omega), w32_i (x := _ + 0) (by omega) (by omega), w32_i (by omega) (by omega)]; omega
      rw [e2]
