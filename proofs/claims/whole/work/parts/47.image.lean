/-! undo, image -/
theorem m_undo_lp (d n : Nat) (S W : aW) (hn : n < 6) (Q : List aV → aM → Prop) : ∀ (f i : Nat) (M : aM), i + f = 41 → M 157 4 = n → (∀ k, k < 41 → M 160 (41 * n + k) = S k) → M 158 = (fun k => if k < i then S k else W k) → (∀ M', fr [158] M M' → M' 158 = (fun k => if k < 41 then S k else W k) → Q [aI 1] M') → wp (w_m_undo_21 d i M) Q
  | 0, i, M, h, h4, hB, hV, hQ => by
    rw [l_m_undo_21]
    refine wp_neg (by omega) ?_
    exact wp_ret (hQ M (fr_refl _ _) (by rw [hV, show i = 41 by omega]))
  | f + 1, i, M, h, h4, hB, hV, hQ => by
    rw [l_m_undo_21, h4]
    have e1 : w32 (w32 (41 * (n : Int)) + i) = ((41 * n + i : Nat) : Int) := by simp (disch := omega) only [w32_i]; omega
    rw [e1]
    (try simp (disch := omega) only [w32_i, tn_l, tn_n, tn_r, tn_s, tn_1, Nat.add_sub_cancel, Int.reduceToNat, Int.toNat_zero, Int.toNat_one, al3, al4, al5, al6, al8, al9, al11, al13, al15, al17, al19, al21, al23, al25, al27, al29, al30, al31, al95, al96, al128, al129, al130, al131, al134, al135, al137, al139, al140, al142, al143, al144, al145, al147, al148, al149, al151, al152, al153, al154, al155, al156, al158, al159, al160, al161, al162, al163, al164, al165, al166, al167, al168, al169, al170, al171, al172, al173, al174, al175, al176])
    refine wp_pos (by omega) ?_
    refine wp_inb ⟨by omega, by omega⟩ ?_
    refine wp_inb ⟨by omega, by omega⟩ ?_
    rw [hB i (by omega)]
    refine wp_w fun M1 w1 f1 => ?_
    refine wp_I ?_
    refine m_undo_lp d n S W hn Q f (i + 1) M1 (by omega) (by rw [f1 _ (by simp), h4]) (fun k hk => by rw [f1 _ (by simp)]; exact hB k hk) ?_ (fun M' f' w' => hQ M' (fr_tt f1 f') w')
    rw [w1, hV]
    funext k
    simp only [vS_eq]
    by_cases e : k = i
    · subst e; rw [if_pos rfl, if_pos (by omega)]
    · rw [if_neg e]
      by_cases e2 : k < i
      · rw [if_pos e2, if_pos (by omega)]
      · rw [if_neg e2, if_neg (by omega)]
theorem pr_undo (d : Nat) : pr (w_x_undo (d + 40)) (w_m_undo (d + 40)) := by
  intro L Lk M hI
  have hI' := hI
  obtain ⟨⟨k1, k2, hw, k4, k5⟩, -, -, hr, -⟩ := hI
  obtain ⟨n, S, r1, r2, r3⟩ := ring_out hr
  obtain ⟨f, b1, b2, b3, b4⟩ := r1
  by_cases h0 : n = 0
  · refine ⟨0, M, M, ?_, ?_, ⟨L, Lk, hI'⟩, ⟨rfl, rfl⟩, rfl, rfl⟩
    · rw [u_x_undo, u_acts_goBack, if_neg (by omega), bndI_s, aBool_0]
    · rw [u_m_undo, if_pos (by rw [r2.1]; omega)]
  · obtain ⟨m, rfl⟩ : ∃ m, n = m + 1 := ⟨n - 1, by omega⟩
    have hm6 := r3.1
    obtain ⟨g1, g2, g3⟩ := r3.2.1 m (by omega)
    obtain ⟨p1, p2⟩ := b4 m (by omega)
    have hs : (f + m) % 6 < 6 := Nat.mod_lt _ (by omega)
    have hV' : ∀ k, k < 44 ∨ 53 ≤ k ∧ k < 63 → (fun k => if k < 41 then S m k else M 158 k) k = S m k := by
      intro k hk
      simp only
      split
      · rfl
      · exact (g3 k (by omega)).symm
    have hx : wp (w_x_undo (d + 40) M) fun r M1 => r = [aI 1] ∧ rW true 1 (fun k => if k < 41 then S m k else M 158 k) L M1 ∧ cRing m S M1 ∧ (∀ k, ¬ (1 ≤ k ∧ k < 32) → ¬ (94 ≤ k ∧ k < 127) → M1 k = M k) := by
      rw [l_x_undo]
      refine wp_bI (P := fun v M' => v = 1 ∧ rW true 1 (fun k => if k < 41 then S m k else M 158 k) L M' ∧ cRing m S M' ∧ (∀ k, ¬ (1 ≤ k ∧ k < 32) → ¬ (94 ≤ k ∧ k < 127) → M' k = M k)) ?_ ?_
      · rw [l_acts_goBack, b2, b3]
        refine wp_pos (by omega) ?_
        have e1 : w32 (w32 ((f : Int) + ((m + 1 : Nat) : Int)) - 1) = ((f + m : Nat) : Int) := by rw [w32_i (x := (f : Int) + _) (by omega) (by omega), w32_i (by omega) (by omega)]; omega
        rw [e1]
        refine wp_eI (floorMod_eq _ (f + m) 6 M (by omega) (by omega) (by omega)) ?_
        rw [al95, al96]
        refine wp_inb ⟨by omega, by omega⟩ ?_
        rw [tn_n]
        refine wp_bV (wood_copy_eq _ (1 + 1) (97 + 5 * ((f + m) % 6)) (S m) M p1 (by omega) (fun k hk => by
          rcases hk with rfl | rfl
          · exact ⟨rfl, rfl, rfl, rfl⟩
          · exact slot_lens hs)) ?_
        rintro M1 ⟨w1, f1⟩
        refine wp_inb ⟨by omega, by omega⟩ ?_
        rw [f1 96 (by simp), p2]
        refine wp_up fun M2 f2 q2 => ?_
        rw [f2 94 (by simp), f1 94 (by simp), b2, w32_i (by omega) (by omega)]
        refine wp_up fun M3 f3 q3 => ?_
        have fx : ∀ k, ¬ (2 ≤ k ∧ k < 7) → k ≠ 18 → k ≠ 94 → M3 k = M k := fun k a b c => by rw [f3 k (by simp; omega), f2 k (by simp; omega), f1 k (by simp; omega)]
        refine wp_ret ⟨1, rfl, rfl, ⟨⟨?_, ?_, ?_, ?_⟩, fun _ => ?_⟩, ⟨f, b1, ?_, ?_, fun j hj => ?_⟩, fun k a b => fx k (by omega) (by omega) (by omega)⟩
        · exact rWd_V (rWd_fr w1 fun k _ _ => by rw [f3 k (by simp; omega), f2 k (by simp; omega)]) fun k _ _ _ => hV' k (by omega)
        · obtain ⟨t1, t2, t3, t4, t5, t6, t7, t8⟩ := hw.1.2.1
          exact rTl_V ⟨rRow_fr t1 fun k _ _ => fx k (by omega) (by omega) (by omega), rRow_fr t2 fun k _ _ => fx k (by omega) (by omega) (by omega), rRow_fr t3 fun k _ _ => fx k (by omega) (by omega) (by omega), rRow_fr t4 fun k _ _ => fx k (by omega) (by omega) (by omega), rRow_fr t5 fun k _ _ => fx k (by omega) (by omega) (by omega), rRow_fr t6 fun k _ _ => fx k (by omega) (by omega) (by omega), rRow_fr t7 fun k _ _ => fx k (by omega) (by omega) (by omega), rRow_fr t8 fun k _ _ => fx k (by omega) (by omega) (by omega)⟩ k2.1 fun k _ _ _ => if_neg (by omega)
        · exact rLaw_fr hw.1.2.2.1 fun k _ _ _ => fx k (by omega) (by omega) (by omega)
        · have e0 : M3 (1 + 17) 0 = M (1 + 17) 0 := by rw [f3 _ (by simp), q2, if_neg (by omega), f1 _ (by simp)]
          have e2 : M3 (1 + 17) 2 = S m 8 := by rw [f3 _ (by simp), q2, if_pos rfl]
          have h8 := g1.2.1
          rw [e0, e2]
          exact ⟨hw.1.2.2.2.1, h8⟩
        · obtain ⟨t0, t2, t⟩ := hw.2 rfl
          refine ⟨?_, ?_, fun i j hi hj => ?_⟩
          · rw [f3 _ (by simp), q2, if_neg (by omega), f1 _ (by simp)]; exact t0
          · rw [f3 _ (by simp), q2, if_pos rfl]; rfl
          · have hi' : (i : Int) < S m 8 := hi
            rw [f3 _ (by simp), f2 _ (by simp), f1 _ (by simp)]
            show _ = (if 284 + 4 * i + j < 41 then S m (284 + 4 * i + j) else M 158 (284 + 4 * i + j))
            rw [if_neg (by omega)]
            exact t i j (by omega) hj
        · rw [q3, if_pos rfl]; omega
        · rw [q3, if_neg (by omega), f2 _ (by simp), f1 _ (by simp), b3]
        · obtain ⟨q1, q1'⟩ := b4 j (by omega)
          have hsj : (f + j) % 6 < 6 := Nat.mod_lt _ (by omega)
          exact ⟨rWd_fr q1 fun k _ _ => fx k (by omega) (by omega) (by omega), by rw [fx 96 (by omega) (by omega) (by omega)]; exact q1'⟩
      · rintro v M1 ⟨rfl, h⟩
        rw [aBool_1]
        exact wp_ret ⟨rfl, h⟩
    obtain ⟨r, M1, e1, er, w1, c1, f1⟩ := hx
    have h158 : M1 158 = M 158 := f1 158 (by omega) (by omega)
    have h157 : M1 157 = M 157 := f1 157 (by omega) (by omega)
    have hm : wp (w_m_undo (d + 40) M1) fun r M2 => r = [aI 1] ∧ M2 158 = (fun k => if k < 41 then S m k else M 158 k) ∧ mRing m S M2 ∧ fr [157, 158] M1 M2 ∧ ∀ i, i ≠ 4 → M2 157 i = M1 157 i := by
      rw [l_m_undo, h157, r2.1]
      refine wp_neg (by omega) ?_
      rw [w32_i (by omega) (by omega)]
      refine wp_up fun M2 f2 q2 => ?_
      refine m_undo_lp _ m (S m) (M 158) (by omega) _ 41 0 M2 (by omega) (by rw [q2, if_pos rfl]; omega) (fun k hk => by rw [f2 _ (by simp), f1 160 (by omega) (by omega)]; exact r2.2 m (by omega) k hk) ?_ ?_
      · rw [f2 _ (by simp), h158]; funext k; rw [if_neg (by omega)]
      · intro M3 f3 w3
        refine ⟨rfl, w3, ⟨by rw [f3 _ (by simp), q2, if_pos rfl]; omega, fun j hj k hk => ?_⟩, fr_tr f2 f3 (by simp) (by simp), fun i hi => by rw [f3 _ (by simp), q2, if_neg hi, h157]⟩
        rw [f3 _ (by simp), f2 _ (by simp), f1 160 (by omega) (by omega)]
        exact r2.2 j (by omega) k hk
    obtain ⟨r', M2, e2, er2, v2, m2, f2, g2'⟩ := hm
    subst er er2
    refine ⟨1, M1, M2, e1, e2, ⟨L, Lk, Inv_D hI' (fun k a b c1 c2 c3 _ _ => by rw [f2 k (by simp; omega), f1 k a b]) (fun i a b => by rw [g2' i a, h157]) (fun k a b => by rw [v2]; simp only; rw [if_neg (by omega)]) (by rw [v2]; exact okW_V g1 fun k hk _ => hV' k hk) (by rw [v2]; exact rW_fr w1 fun k _ _ _ => f2 k (by simp; omega)) (cRing_fr c1 fun k _ _ => f2 k (by simp; omega)) m2 ?_⟩, ⟨f1 _ (by omega) (by omega), f1 _ (by omega) (by omega)⟩, ?_, ?_⟩
    · rw [v2]
      refine ⟨by omega, fun j hj => ?_, fun i j hi hj => r3.2.2 i j hi (by omega)⟩
      obtain ⟨q1, q2, q3⟩ := r3.2.1 j (by omega)
      refine ⟨q1, r3.2.2 j m (by omega) (by omega), fun k hk => ?_⟩
      rw [hV' k (by omega), q3 k hk, g3 k hk]
    · rw [f2 _ (by simp), f1 _ (by omega) (by omega)]
    · rw [f2 _ (by simp), f1 _ (by omega) (by omega)]
/-! copies of a world -/
theorem rows_copy_eq (d c e most w n : Nat) (g : Nat → Nat → Int) (M : aM) (h : rRow e most (n : Int) g w M) (hn : n ≤ most) (hm : most ≤ 1000) (hw : w ≤ 4) (h0 : M c 0 = most) (hc : aLen (c + 1) = 4 * most) (he : aLen (e + 1) = 4 * most) (hne : c + 2 ≤ e ∨ e + 2 ≤ c) :
    wp (w_rows_copyFrom (d + 1) c e M) fun r M' => r = [] ∧ rRow c most (n : Int) g w M' ∧ fr [c, c + 1] M M' := by
  obtain ⟨h1, h2, h3⟩ := h
  rw [l_rows_copyFrom, h2, h0, hc, he]
  rw [show imin (n : Int) most = n by unfold imin; split <;> omega]
  refine wp_up fun M1 f1 g1 => ?_
  rw [g1 2, if_pos rfl]
  have e1 : imin (w32 ((n : Int) * 4)) (imin ((4 * most : Nat) : Int) ((4 * most : Nat) : Int)) = ((4 * n : Nat) : Int) := by
    rw [w32_i (by omega) (by omega)]; unfold imin; split <;> split <;> omega
  rw [e1]
  refine wp_I ?_
  refine wp_som (by omega) ?_
  rw [tn_n]
  refine wp_M fun M2 e2 => ?_
  have f2 : fr [c + 1] M1 M2 := fun k hk => by rw [e2]; exact aCpy_ne (by simpa using hk)
  have g2 : ∀ j, j < 4 * n → M2 (c + 1) j = M1 (e + 1) j := fun j hj => by rw [e2, aCpy_eq, if_pos (by omega)]; simp
  refine wp_ret ⟨rfl, ⟨?_, ?_, fun i j hi hj => ?_⟩, fr_tr f1 f2 (by simp) (by simp)⟩
  · rw [f2 _ (by simp), g1, if_neg (by omega), h0]
  · rw [f2 _ (by simp), g1, if_pos rfl]
  · rw [g2 _ (by omega), f1 _ (by simp; omega)]
    exact h3 i j hi hj
theorem rLn_V {C A C' A' : Nat → Int} {n N : Nat} (hA : ∀ k, k < n → A' k = A k) (hC : ∀ k, k < 4 * N → C' k = C k) : ∀ (L : aLaw) (i : Nat), i + L.length ≤ N → rLn C A n i L → rLn C' A' n i L
  | [], _, _, _ => trivial
  | (w, E, B) :: L, i, hi, h => by
    simp only [List.length_cons] at hi
    obtain ⟨⟨p, v1, v2, v3, v4, v5, v6, v7⟩, hv⟩ := h
    have sg : ∀ (l : List Int) (q : Nat), q + l.length ≤ n → seg1 A q l → seg1 A' q l := by
      intro l
      induction l with
      | nil => intro q _ _; trivial
      | cons x l ih => intro q hq hs; simp only [List.length_cons] at hq; exact ⟨(hA q (by omega)).trans hs.1, ih (q + 1) (by omega) hs.2⟩
    exact ⟨⟨p, (hC _ (by omega)).trans v1, (hC _ (by omega)).trans v2, (hC _ (by omega)).trans v3, (hC _ (by omega)).trans v4, v5, sg _ _ (by omega) v6, sg _ _ (by omega) v7⟩, rLn_V hA hC L (i + 1) (by omega) hv⟩
theorem law_copy_eq (d c e : Nat) (L : aLaw) (M : aM) (h : rLaw e L M) (hL : L.length ≤ 16) (h0 : M (c + 3) 0 = 16) (lc : aLen (c + 1) = 400 ∧ aLen (c + 4) = 64) (le : aLen (e + 1) = 400 ∧ aLen (e + 4) = 64) (hne : c + 5 ≤ e ∨ e + 5 ≤ c) :
    wp (w_law_copyFrom (d + 2) c e M) fun r M' => r = [] ∧ rLaw c L M' ∧ fr [c, c + 1, c + 3, c + 4] M M' := by
  obtain ⟨n, h1, h2, h3, h4, h5⟩ := h
  rw [l_law_copyFrom, h2, lc.1, le.1]
  rw [show imax 0 (imin 400 (n : Int)) = n by unfold imax imin; split <;> split <;> omega]
  refine wp_up fun M1 f1 g1 => ?_
  rw [g1 3, if_pos rfl]
  refine wp_som (by omega) ?_
  rw [tn_n]
  refine wp_M fun M2 e2 => ?_
  have f2 : fr [c + 1] M1 M2 := fun k hk => by rw [e2]; exact aCpy_ne (by simpa using hk)
  have g2 : ∀ j, j < n → M2 (c + 1) j = M1 (e + 1) j := fun j hj => by rw [e2, aCpy_eq, if_pos (by omega)]; simp
  have fe : ∀ k, e ≤ k → k < e + 5 → M2 k = M k := fun k _ _ => by rw [f2 k (by simp; omega), f1 k (by simp; omega)]
  refine wp_bV (rows_copy_eq _ (c + 3) (e + 3) 16 4 L.length (fun i j => M (e + 4) (4 * i + j)) M2 ⟨by rw [fe _ (by omega) (by omega)]; exact h5, by rw [fe _ (by omega) (by omega)]; exact h3, fun i j _ _ => by rw [show e + 3 + 1 = e + 4 from rfl, fe _ (by omega) (by omega)]⟩ hL (by omega) (by omega) (by rw [f2 _ (by simp), f1 _ (by simp)]; exact h0) lc.2 le.2 (by omega)) ?_
  rintro M3 ⟨⟨q0, q2, q3⟩, f3⟩
  refine wp_ret ⟨rfl, ⟨n, h1, ?_, q2, ?_, q0⟩, ?_⟩
  · rw [f3 _ (by simp; omega), f2 _ (by simp), g1, if_pos rfl]
  · refine rLn_V (N := L.length) (fun k hk => ?_) (fun k hk => ?_) L 0 (by omega) h4
    · rw [f3 _ (by simp), g2 k hk, f1 _ (by simp; omega)]
    · have : M3 (c + 4) (4 * (k / 4) + k % 4) = M (e + 4) (4 * (k / 4) + k % 4) := q3 (k / 4) (k % 4) (by omega) (Nat.mod_lt _ (by omega))
      rw [show 4 * (k / 4) + k % 4 = k by omega] at this
      exact this
  · intro k hk
    simp at hk
    rw [f3 k (by simp; omega), f2 k (by simp; omega), f1 k (by simp; omega)]
theorem world_copy_eq (d a c : Nat) (V : aW) (L : aLaw) (M : aM) (ha : isWo a) (hc : isWo c) (hne : a ≠ c) (h : rW true c V L M) (hN : okN V) (hL : L.length ≤ 16) (h8 : 0 ≤ V 8 ∧ V 8 ≤ 150) (hs : statW a M) :
    wp (w_world_copyFrom (d + 3) a c M) fun r M' => r = [] ∧ rW true a V L M' ∧ ∀ k, (k < a ∨ a + 29 ≤ k) → M' k = M k := by
  have hsep : a + 31 ≤ c ∨ c + 31 ≤ a := by unfold isWo at ha hc; omega
  obtain ⟨⟨w1, ⟨t1, t2, t3, t4, t5, t6, t7, t8⟩, w3, w4⟩, wb⟩ := h
  have wb := wb rfl
  obtain ⟨s1, s2, s3, s4, s5, s6, s7, s8, s9, s10⟩ := hs
  obtain ⟨n1, n2, n3, n4, n5, n6, n7, n8⟩ := hN
  have nat : ∀ x : Int, 0 ≤ x → ∃ n : Nat, x = n := fun x hx => ⟨x.toNat, by omega⟩
  rw [l_world_copyFrom]
  refine wp_bV (wood_copy_eq _ (a + 1) (c + 1) V M w1 (by omega) (fun k hk => by
    rcases hk with rfl | rfl
    · exact ⟨wl2 ha, wl3 ha, wl4 ha, wl5 ha⟩
    · exact ⟨wl2 hc, wl3 hc, wl4 hc, wl5 hc⟩)) ?_
  rintro M1 ⟨d1, f1⟩
  have F1 : ∀ k, k ≤ a ∨ a + 6 ≤ k → M1 k = M k := fun k hk => f1 k (by simp; omega)
  refine wp_bV (law_copy_eq _ (a + 6) (c + 6) L M1 (rLaw_fr w3 fun k _ _ _ => F1 k (by omega)) hL (by rw [F1 (a + 6 + 3) (by omega)]; exact s1) ⟨wl7 ha, wl10 ha⟩ ⟨wl7 hc, wl10 hc⟩ (by omega)) ?_
  rintro M2 ⟨d2, f2⟩
  have F2 : ∀ k, k ≤ a ∨ a + 11 ≤ k → M2 k = M k := fun k hk => by rw [f2 k (by simp; omega), F1 k (by omega)]
  have step : ∀ (x : Nat) (most w : Nat) (N : Int) (g : Nat → Nat → Int) (Ma : aM) (K : aM → aR) (Q : List aV → aM → Prop), rRow (c + x) most N g w M → 0 ≤ N ∧ N ≤ most → most ≤ 1000 → w ≤ 4 → M (a + x) 0 = most → aLen (a + (x + 1)) = 4 * most → aLen (c + (x + 1)) = 4 * most → 11 ≤ x → x ≤ 27 → (∀ k, k ≤ a ∨ a + x ≤ k → Ma k = M k) → (∀ Mb, rRow (a + x) most N g w Mb → (∀ k, k < a + x ∨ a + x + 2 ≤ k → Mb k = Ma k) → wp (K Mb) Q) → wp (bndV (w_rows_copyFrom (d + 2) (a + x) (c + x) Ma) K) Q := by
    intro x most w N g Ma K Q hr hN hm hw h0 la lc hx hx2 hF hK
    obtain ⟨n, rfl⟩ := nat N hN.1
    refine wp_bV (rows_copy_eq _ (a + x) (c + x) most w n g Ma (rRow_fr hr fun k _ _ => hF k (by omega)) (by omega) hm hw (by rw [hF (a + x) (by omega)]; exact h0) la lc (by omega)) ?_
    rintro Mb ⟨hb, fb⟩
    exact hK Mb hb fun k hk => fb k (by simp; omega)
  refine step 11 16 3 _ _ M2 _ _ t1 n1 (by omega) (by omega) s2 (wl12 ha) (wl12 hc) (by omega) (by omega) (fun k hk => F2 k (by omega)) fun M3 d3 f3 => ?_
  refine step 13 16 3 _ _ M3 _ _ t2 n2 (by omega) (by omega) s3 (wl14 ha) (wl14 hc) (by omega) (by omega) (fun k hk => by rw [f3 k (by omega), F2 k (by omega)]) fun M4 d4 f4 => ?_
  refine step 15 8 2 _ _ M4 _ _ t3 n3 (by omega) (by omega) s4 (wl16 ha) (wl16 hc) (by omega) (by omega) (fun k hk => by rw [f4 k (by omega), f3 k (by omega), F2 k (by omega)]) fun M5 d5 f5 => ?_
  refine step 17 150 4 _ _ M5 _ _ wb h8 (by omega) (by omega) s5 (wl18 ha) (wl18 hc) (by omega) (by omega) (fun k hk => by rw [f5 k (by omega), f4 k (by omega), f3 k (by omega), F2 k (by omega)]) fun M6 d6 f6 => ?_
  refine step 19 12 2 _ _ M6 _ _ t4 n4 (by omega) (by omega) s6 (wl20 ha) (wl20 hc) (by omega) (by omega) (fun k hk => by rw [f6 k (by omega), f5 k (by omega), f4 k (by omega), f3 k (by omega), F2 k (by omega)]) fun M7 d7 f7 => ?_
  refine step 21 8 1 _ _ M7 _ _ t5 n5 (by omega) (by omega) s7 (wl22 ha) (wl22 hc) (by omega) (by omega) (fun k hk => by rw [f7 k (by omega), f6 k (by omega), f5 k (by omega), f4 k (by omega), f3 k (by omega), F2 k (by omega)]) fun M8 d8 f8 => ?_
  refine step 23 14 2 _ _ M8 _ _ t6 n6 (by omega) (by omega) s8 (wl24 ha) (wl24 hc) (by omega) (by omega) (fun k hk => by rw [f8 k (by omega), f7 k (by omega), f6 k (by omega), f5 k (by omega), f4 k (by omega), f3 k (by omega), F2 k (by omega)]) fun M9 d9 f9 => ?_
  refine step 25 20 2 _ _ M9 _ _ t7 n7 (by omega) (by omega) s9 (wl26 ha) (wl26 hc) (by omega) (by omega) (fun k hk => by rw [f9 k (by omega), f8 k (by omega), f7 k (by omega), f6 k (by omega), f5 k (by omega), f4 k (by omega), f3 k (by omega), F2 k (by omega)]) fun M10 d10 f10 => ?_
  refine step 27 9 1 _ _ M10 _ _ t8 n8 (by omega) (by omega) s10 (wl28 ha) (wl28 hc) (by omega) (by omega) (fun k hk => by rw [f10 k (by omega), f9 k (by omega), f8 k (by omega), f7 k (by omega), f6 k (by omega), f5 k (by omega), f4 k (by omega), f3 k (by omega), F2 k (by omega)]) fun M11 d11 f11 => ?_
  have z10 : ∀ k, k < a + 27 → M11 k = M10 k := fun k hk => f11 k (by omega)
  have z9 : ∀ k, k < a + 25 → M11 k = M9 k := fun k hk => (z10 k (by omega)).trans (f10 k (by omega))
  have z8 : ∀ k, k < a + 23 → M11 k = M8 k := fun k hk => (z9 k (by omega)).trans (f9 k (by omega))
  have z7 : ∀ k, k < a + 21 → M11 k = M7 k := fun k hk => (z8 k (by omega)).trans (f8 k (by omega))
  have z6 : ∀ k, k < a + 19 → M11 k = M6 k := fun k hk => (z7 k (by omega)).trans (f7 k (by omega))
  have z5 : ∀ k, k < a + 17 → M11 k = M5 k := fun k hk => (z6 k (by omega)).trans (f6 k (by omega))
  have z4 : ∀ k, k < a + 15 → M11 k = M4 k := fun k hk => (z5 k (by omega)).trans (f5 k (by omega))
  have z3 : ∀ k, k < a + 13 → M11 k = M3 k := fun k hk => (z4 k (by omega)).trans (f4 k (by omega))
  have z2 : ∀ k, k < a + 11 → M11 k = M2 k := fun k hk => (z3 k (by omega)).trans (f3 k (by omega))
  have z1 : ∀ k, k < a + 6 → M11 k = M1 k := fun k hk => (z2 k (by omega)).trans (f2 k (by simp; omega))
  have db := rRow_fr d6 (M' := M11) fun k _ _ => z6 k (by omega)
  refine wp_ret ⟨rfl, ⟨⟨rWd_fr d1 fun k _ _ => z1 k (by omega), ⟨rRow_fr d3 fun k _ _ => z3 k (by omega), rRow_fr d4 fun k _ _ => z4 k (by omega), rRow_fr d5 fun k _ _ => z5 k (by omega), rRow_fr d7 fun k _ _ => z7 k (by omega), rRow_fr d8 fun k _ _ => z8 k (by omega), rRow_fr d9 fun k _ _ => z9 k (by omega), rRow_fr d10 fun k _ _ => z10 k (by omega), d11⟩, rLaw_fr d2 fun k _ _ _ => z2 k (by omega), db.1, by rw [db.2.1]; exact h8.1, by rw [db.2.1]; exact h8.2⟩, fun _ => db⟩, fun k hk => ?_⟩
  rcases hk with hk | hk
  · rw [z1 k (by omega), F1 k (by omega)]
  · rw [f11 k (by omega), f10 k (by omega), f9 k (by omega), f8 k (by omega), f7 k (by omega), f6 k (by omega), f5 k (by omega), f4 k (by omega), f3 k (by omega), F2 k (by omega)]
