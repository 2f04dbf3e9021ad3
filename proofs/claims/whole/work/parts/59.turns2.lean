/-! works: turns in the reference, and where works lie -/
theorem m_herd_lp (d : Nat) (V : aW) (L : aLaw) (n b : Nat) (hv : vLaw L V) (hok : okLaw L) (hn : V 41 = n) (h10 : n ≤ 10) (hb : b < n) : ∀ (f i : Nat) (P : List Nat) (mx : Int) (M : aM), i + f = n → P.length ≤ i → M 158 = V → M 157 33 = P.length → holdL (M 172) 0 P → 0 ≤ mx →
    wp (w_m_laysHerd_14 (d + 6) b mx i M) fun r M' => ∃ P', P' = P ++ ((List.range' i f).map (fun i => (b + i) % n)).filter (hlA V) ∧ r = [aI (imax mx (mxL V L (((List.range' i f).map (fun i => (b + i) % n)).filter (hlA V))))] ∧ fr [157, 166, 167, 172] M M' ∧ M' 157 33 = P'.length ∧ holdL (M' 172) 0 P' ∧ (∀ j, j ≠ 33 → M' 157 j = M 157 j)
  | 0, i, P, mx, M, hi, hP, hV, h3, h47, hm => by
    rw [l_m_laysHerd_14]
    (try simp (disch := omega) only [w32_i, tn_l, tn_n, tn_r, tn_s, tn_1, Nat.add_sub_cancel, Int.reduceToNat, Int.toNat_zero, Int.toNat_one, al3, al4, al5, al6, al8, al9, al11, al13, al15, al17, al19, al21, al23, al25, al27, al29, al30, al31, al95, al96, al128, al129, al130, al131, al134, al135, al137, al139, al140, al142, al143, al144, al145, al147, al148, al149, al151, al152, al153, al154, al155, al156, al158, al159, al160, al161, al162, al163, al164, al165, al166, al167, al168, al169, al170, al171, al172, al173, al174, al175, al176])
    refine wp_inb ⟨by omega, by omega⟩ ?_
    refine wp_neg (by rw [hV]; omega) ?_
    refine wp_ret ⟨P, by simp, ?_, fr_refl _ _, h3, h47, fun _ _ => rfl⟩
    simp only [List.range'_zero, List.map_nil, List.filter_nil, mxL]
    rw [show imax mx 0 = mx by unfold imax; split <;> omega]
  | f + 1, i, P, mx, M, hi, hP, hV, h3, h47, hm => by
    have e5 : w32 ((i : Int) + 1) = ((i + 1 : Nat) : Int) := by rw [w32_i (by omega) (by omega)]; rfl
    have e6 : w32 ((b : Int) + i) = ((b + i : Nat) : Int) := by rw [w32_i (by omega) (by omega)]; omega
    rw [l_m_laysHerd_14, e6, al158]
    refine wp_inb ⟨by omega, by omega⟩ ?_
    refine wp_pos (by rw [hV]; omega) ?_
    refine wp_inb ⟨by omega, by omega⟩ ?_
    refine wp_none (by rw [hV]; omega) ?_
    refine wp_I ?_
    rw [hV, hn, irem_nn (by omega) (by omega) (by omega) (by omega), show (((b + i : Nat) : Int) % (n : Int)) = (((b + i) % n : Nat) : Int) from rfl]
    have hj : (b + i) % n < n := Nat.mod_lt _ (by omega)
    have er : (List.range' i (f + 1)).map (fun i => (b + i) % n) = (b + i) % n :: (List.range' (i + 1) f).map (fun i => (b + i) % n) := rfl
    generalize hjj : (b + i) % n = j at *
    refine wp_eI (m_isAlive_eq _ _ M (by rw [hV]; omega) (by rw [hV]; omega)) ?_
    rw [hV]
    refine wp_bif (fun hal => ?_) (fun hal => ?_)
    · refine wp_I ?_
      rw [e5]
      have ef : ((List.range' i (f + 1)).map (fun i => (b + i) % n)).filter (hlA V) = ((List.range' (i + 1) f).map (fun i => (b + i) % n)).filter (hlA V) := by
        rw [er, List.filter_cons_of_neg (by unfold hlA; rw [hal]; decide)]
      rw [ef]
      exact m_herd_lp d V L n b hv hok hn h10 hb f (i + 1) P mx M (by omega) (by omega) hV h3 h47 hm
    · have hlo := long_in V L j
      rw [h3, al172]
      refine wp_inb ⟨by omega, by omega⟩ ?_
      rw [tn_n]
      refine wp_up fun M1 f1 g1 => ?_
      rw [f1 157 (by simp), h3, w32_i (by omega) (by omega)]
      refine wp_up fun M2 f2 g2 => ?_
      refine wp_fI (m_longOf_eq _ V L j M2 (by rw [f2 158 (by simp), f1 158 (by simp), hV]) (by omega) hv hok) fun M3 f3 => ?_
      refine wp_eI (m_greater_eq _ _ _ _) ?_
      refine wp_I ?_
      rw [e5]
      have ef : ((List.range' i (f + 1)).map (fun i => (b + i) % n)).filter (hlA V) = j :: ((List.range' (i + 1) f).map (fun i => (b + i) % n)).filter (hlA V) := by
        rw [er, List.filter_cons_of_pos (by unfold hlA; exact hal)]
      have fA : fr [157, 166, 167, 172] M M3 := fr_tr (fr_tr f1 f2 (l := [157, 172]) (by simp) (by simp)) f3 (by simp) (by simp)
      refine wp_mono (m_herd_lp d V L n b hv hok hn h10 hb f (i + 1) (P ++ [j]) (imax mx (long V L j)) M3 (by omega) (by simp; omega) (by rw [fA 158 (by simp), hV]) (by rw [f3 157 (by simp), g2, if_pos rfl]; simp) ?_ (by unfold imax; split <;> omega)) ?_
      · refine holdL_snoc P 0 h47 (fun k _ hk => ?_) ?_
        · rw [f3 172 (by simp), f2 172 (by simp), g1, if_neg (by omega)]
        · rw [f3 172 (by simp), f2 172 (by simp), g1, if_pos (by omega)]
      · rintro r M' ⟨P', q1, q2, q3, q4, q5, q6⟩
        refine ⟨P', by rw [q1, ef]; simp, ?_, fr_tt fA q3, q4, q5, fun k hk => by rw [q6 k hk, f3 157 (by simp), g2, if_neg hk, f1 157 (by simp)]⟩
        rw [q2, ef]
        simp only [mxL]
        have : ∀ x y z : Int, imax (imax x y) z = imax x (imax y z) := by
          intro x y z; unfold imax; repeat' split
          all_goals omega
        rw [this]
theorem mxL_ge {V : aW} {L : aLaw} : ∀ (l : List Nat) (j : Nat), j ∈ l → long V L j ≤ mxL V L l
  | x :: l, j, h => by
    simp only [mxL, imax]
    rcases List.mem_cons.mp h with h | h
    · subst h; split <;> omega
    · have := mxL_ge (V := V) (L := L) l j h; split <;> omega
theorem mxL_ex {V : aW} {L : aLaw} : ∀ (l : List Nat), 0 < mxL V L l → ∃ k, ∃ h : k < l.length, long V L (l[k]'h) = mxL V L l
  | [], h => by simp [mxL] at h
  | x :: l, h => by
    simp only [mxL, imax] at h ⊢
    split at h
    · next hlt =>
      obtain ⟨k, hk, e⟩ := mxL_ex l h
      exact ⟨k + 1, by simp; omega, by rw [if_pos hlt]; simpa using e⟩
    · next hlt => exact ⟨0, by simp, by rw [if_neg hlt]; rfl⟩
/-- how long the t-th day is -/
noncomputable def lenT (V : aW) (L : aLaw) (P : List Nat) (t : Nat) : Int := long V L (P.getD (t % P.length) 0)
/-- the first day from t on, within f days, that bears so many hours -/
noncomputable def fitT (V : aW) (L : aLaw) (P : List Nat) (h : Int) : Nat → Nat → Nat
  | 0, t => t
  | f + 1, t => if h ≤ lenT V L P t then t else fitT V L P h f (t + 1)
theorem lenT_in (V : aW) (L : aLaw) (P : List Nat) (t : Nat) : 0 ≤ lenT V L P t ∧ lenT V L P t ≤ 24 := long_in _ _ _
theorem fitT_ge (V : aW) (L : aLaw) (P : List Nat) (h : Int) : ∀ f t, t ≤ fitT V L P h f t ∧ fitT V L P h f t ≤ t + f
  | 0, t => by simp only [fitT]; omega
  | f + 1, t => by
    have := fitT_ge V L P h f (t + 1)
    simp only [fitT]
    split <;> omega
theorem fitT_ok {V : aW} {L : aLaw} {P : List Nat} {h : Int} : ∀ (f t u : Nat), t ≤ u → u < t + f → h ≤ lenT V L P u → h ≤ lenT V L P (fitT V L P h f t) ∧ fitT V L P h f t < t + f
  | 0, t, u, h1, h2, _ => by omega
  | f + 1, t, u, h1, h2, h3 => by
    simp only [fitT]
    split
    · next h => exact ⟨h, by omega⟩
    · next hn =>
      have : u ≠ t := by intro e; subst e; exact hn h3
      have := fitT_ok f (t + 1) u (by omega) (by omega) h3
      exact ⟨this.1, by omega⟩
/-- the work h laid behind the day t (from 0 on) with u hours used: its day and hours -/
noncomputable def layT (V : aW) (L : aLaw) (P : List Nat) (h : Int) (x : Nat × Int) : Nat × Int :=
  if x.2 + h ≤ lenT V L P x.1 then (x.1, x.2 + h) else (fitT V L P h P.length (x.1 + 1), h)
