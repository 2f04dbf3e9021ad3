/-! text: both sides alike -/
theorem x_text_bad (d : Nat) (k : Int) (hk : ¬ (0 ≤ k ∧ k ≤ 3)) (M : aM) : wp (w_x_text (d + 3) k M) fun r M' => r = [aI (-1)] ∧ fr [127, 132] M M' ∧ M' 127 5 = 0 ∧ M' 132 2 = 0 ∧ M' 132 3 = -1 := by
  rw [l_x_text]
  refine wp_bI (P := fun v M' => v = 0 ∧ fr [132] M M' ∧ M' 132 2 = 0 ∧ M' 132 3 = -1) ?_ ?_
  · rw [l_rd_read]
    refine wp_up fun M1 f1 g1 => ?_
    refine wp_up fun M2 f2 g2 => ?_
    have hP : ([aI 0] : List aV) = [aI 0] ∧ fr [132] M M2 ∧ M2 132 2 = 0 ∧ M2 132 3 = -1 := ⟨rfl, fr_tt f1 f2, by rw [g2, if_neg (by decide), g1, if_pos rfl], by rw [g2, if_pos rfl]⟩
    by_cases h0 : k < 0
    · exact wp_pos h0 (wp_ret ⟨0, rfl, rfl, hP.2⟩)
    · exact wp_neg h0 (wp_pos (by omega) (wp_ret ⟨0, rfl, rfl, hP.2⟩))
  · rintro v M1 ⟨rfl, f1, a1, a2⟩
    refine wp_up fun M2 f2 g2 => ?_
    refine wp_pos rfl ?_
    exact wp_ret ⟨rfl, fr_tr f1 f2 (by simp) (by simp), by rw [g2, if_pos rfl], by rw [f2 132 (by simp)]; exact a1, by rw [f2 132 (by simp)]; exact a2⟩
theorem m_text_bad (d : Nat) (k : Int) (hk : ¬ (0 ≤ k ∧ k ≤ 3)) (M : aM) : wp (w_m_text (d + 3) k M) fun r M' => r = [aI (-1)] ∧ fr [157] M M' ∧ M' 157 16 = 0 ∧ M' 157 23 = 0 ∧ M' 157 25 = -1 ∧ M' 157 4 = M 157 4 ∧ M' 157 5 = M 157 5 := by
  rw [l_m_text]
  refine wp_up fun M1 f1 g1 => ?_
  refine wp_up fun M2 f2 g2 => ?_
  refine wp_eI (m_isIn_eq _ _ _ _ _) ?_
  rw [decide_eq_false hk]
  refine wp_pos rfl ?_
  refine wp_up fun M3 f3 g3 => ?_
  exact wp_ret ⟨rfl, fr_tt f1 (fr_tt f2 f3), by rw [g3, if_pos rfl], by rw [g3, if_neg (by decide), g2, if_neg (by decide), g1, if_pos rfl], by rw [g3, if_neg (by decide), g2, if_pos rfl], by rw [g3, if_neg (by decide), g2, if_neg (by decide), g1, if_neg (by decide)], by rw [g3, if_neg (by decide), g2, if_neg (by decide), g1, if_neg (by decide)]⟩
theorem tKp_xy {M M1 M2 : aM} {c : Nat → Prop} (hc : ∀ k, c k → k = 2 ∨ (7 ≤ k ∧ k < 18) ∨ k = 94) (hx : xK c M M1) (hy : yK M1 M2) (h5 : M1 157 5 = M 157 5) (h1 : M1 132 2 = M2 157 23) (h2 : M1 132 3 = M2 157 25) : tKp M M2 := by
  obtain ⟨x1, x2, x3, x4⟩ := hx
  obtain ⟨y1, y2, y3⟩ := hy
  refine ⟨fun k hk => ?_, by rw [y3, h5], by rw [y1 136 (by decide) (by decide) (by decide)]; exact x3, by rw [y1 138 (by decide) (by decide) (by decide)]; exact x4, by rw [y1 127 (by decide) (by decide) (by decide)]; exact x2, y2, by rw [y1 132 (by decide) (by decide) (by decide)]; exact h1, by rw [y1 132 (by decide) (by decide) (by decide)]; exact h2⟩
  unfold tq at hk
  rw [y1 k (by omega) (by omega) (by omega), x1 k (fun e => by have := hc k e; omega) (by omega) (by omega)]
theorem pr_text (d : Nat) (k : Int) : pr (w_x_text (d + 44) k) (w_m_text (d + 44) k) := by
  intro L Lk M hI
  by_cases hk : 0 ≤ k ∧ k ≤ 3
  · obtain ⟨k, rfl⟩ : ∃ j : Nat, k = j := ⟨k.toNat, by omega⟩
    have hj : k < 4 := by omega
    obtain ⟨n, n4, t1, t2, t3⟩ := hI.2.2.2.2.1
    obtain ⟨dn, hdn, hdn10⟩ := okW_n hI.1.1
    have hw := hI.1.2.2.1.1
    have hF := hI.2.2.2.2.2
    obtain ⟨r1, M1, e1, h1⟩ := x_text_eq (d + 30) k n hj dn (by omega) M n4 t1 (fun i hi => (t3 i hi).2) hI.2.2.1.2.2.1 hI.2.2.1.2.2.2 (hw.1.1.trans hdn) (by obtain ⟨_, -, -, -, -, h⟩ := hw.2.2.1; exact h) (fun c hc => by rcases hc with rfl | rfl; exact hw.2.1.1.1; exact hw.2.1.2.1.1) hw.2.1.2.2.1.1
    have hc3 : ∀ x, x = xC k ∨ x = xC k + 1 ∨ (k ≠ 3 ∧ x = 94) ∨ (k = 2 ∧ x = 2) → x = 2 ∨ (7 ≤ x ∧ x < 18) ∨ x = 94 := fun x hx => by
      unfold xC at hx
      split at hx
      · omega
      · split at hx <;> omega
    have h141 : ∀ x, 141 ≤ x → M1 x = M x := tTx_P h1 (fun e h x hx => h.2.2.2.1 x (fun e => e) (by omega) (by omega)) (fun e h x hx => h.2.2.2.1.1 x (fun e => by have := hc3 x e; omega) (by omega) (by omega)) (fun e h x hx => h.2.2.2.1.1 x (by omega) (by omega) (by omega))
    obtain ⟨r2, M2, e2, h2⟩ := m_text_eq d k n hj dn (by omega) (M 128) M1 n4 (by rw [h141 157 (by decide)]; exact t2) (fun i hi => by rw [h141 165 (by decide)]; exact ⟨(t3 i hi).1.symm, (t3 i hi).2⟩) (by rw [h141 158 (by decide)]; exact hdn)
    have e1 : w_x_text (d + 44) k M = some (r1, M1) := e1
    have h157 := h141 157 (by decide)
    have h158 := h141 158 (by decide)
    have kx1 : M1 998 = M 998 ∧ M1 999 = M 999 := ⟨h141 998 (by decide), h141 999 (by decide)⟩
    have ky : yK M1 M2 → M2 998 = M 998 ∧ M2 999 = M 999 := fun y => ⟨(y.1 998 (by decide) (by decide) (by decide)).trans kx1.1, (y.1 999 (by decide) (by decide) (by decide)).trans kx1.2⟩
    have ky2 : yK M1 M2 → ∀ x, x < 157 → M2 x = M1 x := fun y x hx => y.1 x (by omega) (by omega) (by omega)
    unfold tTx at h1 h2
    by_cases h0 : k = 0
    · rw [if_pos h0] at h1 h2
      have hTk : tsV (toks (wsk k) (M 128) n 0) := tsOK_V (toks_ok (wsk k) (M 128) n n 0 (by omega))
      have hlk := pLs_ok (n := n) 17 [] (toks (wsk k) (M 128) n 0)
      cases hp : pLs n 17 [] (toks (wsk k) (M 128) n 0) with
      | inl e =>
        rw [hp] at h1 h2
        obtain ⟨rfl, a1, a2, a3⟩ := h1
        obtain ⟨rfl, b1, b2, b3, b4, b5⟩ := h2
        refine ⟨_, M1, M2, e1, e2, ⟨L, Lk, Inv_No hI (tKp_xy (fun _ h => h.elim) a3 b3 (by rw [h157]) (a1.trans b1.symm) (a2.trans b2.symm)) (fun x hx => ?_) (by rw [b4, h157])⟩, kx1, ky b3⟩
        by_cases hx8 : x = 158
        · rw [hx8, b5, h158]
        · rw [ky2 b3 x (by omega), a3.1 x (fun e => e) (by omega) (by omega)]
      | inr N =>
        rw [hp] at h1 h2
        obtain ⟨rfl, a1, a2, a3, a4⟩ := h1
        obtain ⟨rfl, b1, b2, b3, b4, F, A, S, b5, b6, b7⟩ := h2
        have hN : okLaw N := hlk N hTk ⟨by simp, fun x hx => by cases hx⟩ hp
        have hN16 := hN.1
        have hpw : ∀ j, ¬ (884 ≤ j ∧ j < 948) → pwV F (fun j => if j = 44 then ((N.length : Nat) : Int) else M1 158 j) N.length j = if j = 44 then ((N.length : Nat) : Int) else M1 158 j := fun j hj => by
          unfold pwV
          rw [if_neg (by omega), if_neg (by omega), if_neg (by omega), if_neg (by omega)]
        refine ⟨_, M1, M2, e1, e2, ⟨acL F A 0 N, Lk, Inv_Lw hI (tKp_xy (fun _ h => by omega) a3 b3 (by rw [h157]) (a1.trans b1.symm) (a2.trans b2.symm)) (fun x hx => ?_) (by rw [b4, h157]) (fun x hx => ?_) ?_ ?_ ?_⟩, kx1, ky b3⟩
        · rw [ky2 b3 x (by omega), a3.1 x (by omega) (by omega) (by omega)]
        · rw [b7, if_neg (by omega), hpw x (by omega), if_neg (by omega), h158]
        · obtain ⟨q, q1, q2, q3, q4, q5⟩ := a4
          refine ⟨q, q1, ?_, ?_, ?_, ?_⟩
          · rw [ky2 b3 7 (by decide)]; exact q2
          · rw [ky2 b3 (7 + 3) (by decide), acL_len]; exact q3
          · rw [ky2 b3 (7 + 4) (by decide), ky2 b3 (7 + 1) (by decide)]
            exact acL_rLn N 0 b6 q4
          · rw [ky2 b3 (7 + 3) (by decide)]; exact q5
        · refine ⟨?_, acL_vLn b5 N 0 b6 (fun j _ hj => ?_) (fun j hj => ?_)⟩
          · rw [b7, if_neg (by omega), hpw 44 (by omega), if_pos rfl, acL_len]
          · rw [b7, if_neg (by omega), b7, if_neg (by omega), b7, if_neg (by omega), b7, if_neg (by omega)]
            unfold pwV
            refine ⟨?_, ?_, ?_, ?_⟩
            · rw [if_pos (by omega), show 884 + j - 884 = j by omega]
            · rw [if_neg (by omega), if_pos (by omega), show 900 + j - 900 = j by omega]
            · rw [if_neg (by omega), if_neg (by omega), if_pos (by omega), show 916 + j - 916 = j by omega]
            · rw [if_neg (by omega), if_neg (by omega), if_neg (by omega), if_pos (by omega), show 932 + j - 932 = j by omega]
          · rw [b7, if_pos (by omega), show 948 + j - 948 = j by omega]
        · exact ⟨by rw [acL_len]; exact hN16, acL_ok N 0 b6 hN.2⟩
    · rw [if_neg h0] at h1 h2
      have hk3 : k = 1 ∨ k = 2 ∨ k = 3 := by omega
      have hgd := tRows_good (n := n) (dn := dn) (most := mMost k) hk3 (mMost k + 1) [] (toks (wsk k) (M 128) n 0)
      cases hp : tRows k n dn (mMost k) (mMost k + 1) [] (toks (wsk k) (M 128) n 0) with
      | inl e =>
        rw [hp] at h1 h2
        obtain ⟨rfl, a1, a2, a3⟩ := h1
        obtain ⟨rfl, b1, b2, b3, b4, b5⟩ := h2
        refine ⟨_, M1, M2, e1, e2, ⟨L, Lk, Inv_No hI (tKp_xy (fun _ h => h.elim) a3 b3 (by rw [h157]) (a1.trans b1.symm) (a2.trans b2.symm)) (fun x hx => ?_) (by rw [b4, h157])⟩, kx1, ky b3⟩
        by_cases hx8 : x = 158
        · rw [hx8, b5, h158]
        · rw [ky2 b3 x (by omega), a3.1 x (fun e => e) (by omega) (by omega)]
      | inr N =>
        rw [hp] at h1 h2
        obtain ⟨hgN, hlN⟩ := hgd N (fun t ht => by cases ht) (by simp) hp
        rw [← hdn] at hgN
        obtain ⟨rfl, a1, a2, a3, a4, a5, a6, a7, a8⟩ := h1
        obtain ⟨rfl, b1, b2, b3, b4, b5, D, b6, b7⟩ := h2
        have hK : tKp M M2 := tKp_xy hc3 a3 b3 (by rw [h157]) (a1.trans b1.symm) (a2.trans b2.symm)
        have y2 := ky2 b3
        refine ⟨_, M1, M2, e1, e2, ⟨L, Lk, ?_⟩, kx1, ky b3⟩
        have lt : ∀ i t, N[i]? = some t → i < N.length := fun i t h => by
          obtain ⟨h, -⟩ := List.getElem?_eq_some_iff.1 h
          exact h
        rcases hk3 with rfl | rfl | rfl
        · have hm : mMost 1 = 16 := rfl
          have hmw : mW 1 = 3 := rfl
          have hxc : xC 1 = 12 := rfl
          rw [hm] at hlN a4
          rw [hxc] at a3 a4 a5 a6
          have b6 : ∀ i t, N[i]? = some t → D (3 * i) = t.1 ∧ D (3 * i + 1) = t.2.1 + 7 ∧ (1 ≠ 3 → D (3 * i + 2) = t.2.2) := b6
          have b7 : ∀ j, M2 158 j = if 63 ≤ j ∧ j < 63 + 3 * N.length then D (j - 63) else if j = 45 then ((N.length : Nat) : Int) else if (1 : Nat) = 2 ∧ j = 9 then 0 else M1 158 j := b7
          obtain ⟨a71, a72⟩ := a7 (by decide)
          refine Inv_K1 hI hgN hlN hK (fun x hx => ?_) (fun j hj hj2 => ?_) ?_ (fun i t ht => ?_) ?_ ?_ (fun i t ht => ?_) ?_ ?_ (b5 (by decide))
          · rw [y2 x (by omega), a3.1 x (by omega) (by omega) (by omega)]
          · rw [b7, if_neg (by omega), if_neg (by omega), if_neg (by omega), h158]
          · rw [b7, if_neg (by omega), if_pos rfl]
          · have hl := lt i t ht
            obtain ⟨c1, c2, c3⟩ := b6 i t ht
            rw [b7, if_pos (by omega), b7, if_pos (by omega), b7, if_pos (by omega), show 63 + 3 * i - 63 = 3 * i by omega, show 63 + 3 * i + 1 - 63 = 3 * i + 1 by omega, show 63 + 3 * i + 2 - 63 = 3 * i + 2 by omega]
            exact ⟨c1, c2, c3 (by decide)⟩
          · rw [y2 12 (by decide)]; exact a4
          · rw [y2 12 (by decide)]; exact a5
          · rw [y2 13 (by decide)]; exact a6 i t ht
          · rw [y2 94 (by decide)]; exact a71
          · rw [y2 94 (by decide)]; exact a72 2 (by decide)
        · have hm : mMost 2 = 16 := rfl
          have hmw : mW 2 = 3 := rfl
          have hxc : xC 2 = 14 := rfl
          rw [hm] at hlN a4
          rw [hxc] at a3 a4 a5 a6
          have b6 : ∀ i t, N[i]? = some t → D (3 * i) = t.1 ∧ D (3 * i + 1) = t.2.1 ∧ (2 ≠ 3 → D (3 * i + 2) = t.2.2) := b6
          have b7 : ∀ j, M2 158 j = if 111 ≤ j ∧ j < 111 + 3 * N.length then D (j - 111) else if j = 46 then ((N.length : Nat) : Int) else if (2 : Nat) = 2 ∧ j = 9 then 0 else M1 158 j := b7
          obtain ⟨a71, a72⟩ := a7 (by decide)
          obtain ⟨a81, a82⟩ := a8 rfl
          refine Inv_K2 hI hgN hlN hK (fun x hx => ?_) (fun j hj => ?_) ?_ (fun j hj hj1 hj2 => ?_) ?_ ?_ (fun i t ht => ?_) ?_ ?_ (fun i t ht => ?_) ?_ ?_ (b5 (by decide))
          · rw [y2 x (by omega), a3.1 x (by omega) (by omega) (by omega)]
          · rw [y2 2 (by decide)]; exact a82 j hj
          · rw [y2 2 (by decide)]; exact a81
          · rw [b7, if_neg (by omega), if_neg (by omega), if_neg (by omega), h158]
          · rw [b7, if_neg (by omega), if_neg (by omega), if_pos ⟨rfl, rfl⟩]
          · rw [b7, if_neg (by omega), if_pos rfl]
          · have hl := lt i t ht
            obtain ⟨c1, c2, c3⟩ := b6 i t ht
            rw [b7, if_pos (by omega), b7, if_pos (by omega), b7, if_pos (by omega), show 111 + 3 * i - 111 = 3 * i by omega, show 111 + 3 * i + 1 - 111 = 3 * i + 1 by omega, show 111 + 3 * i + 2 - 111 = 3 * i + 2 by omega]
            exact ⟨c1, c2, c3 (by decide)⟩
          · rw [y2 14 (by decide)]; exact a4
          · rw [y2 14 (by decide)]; exact a5
          · rw [y2 15 (by decide)]; exact a6 i t ht
          · rw [y2 94 (by decide)]; exact a71
          · rw [y2 94 (by decide)]; exact a72 2 (by decide)
        · have hm : mMost 3 = 8 := rfl
          have hmw : mW 3 = 2 := rfl
          have hxc : xC 3 = 16 := rfl
          rw [hm] at hlN a4
          rw [hxc] at a3 a4 a5 a6
          have b6 : ∀ i t, N[i]? = some t → D (2 * i) = t.1 ∧ D (2 * i + 1) = t.2.1 ∧ (3 ≠ 3 → D (2 * i + 2) = t.2.2) := b6
          have b7 : ∀ j, M2 158 j = if 159 ≤ j ∧ j < 159 + 2 * N.length then D (j - 159) else if j = 47 then ((N.length : Nat) : Int) else if (3 : Nat) = 2 ∧ j = 9 then 0 else M1 158 j := b7
          refine Inv_K3 hI hgN hlN hK (fun x hx => ?_) (fun j hj hj2 => ?_) ?_ (fun i t ht => ?_) ?_ ?_ (fun i t ht => ?_) ?_ ?_
          · rw [y2 x (by omega), a3.1 x (by omega) (by omega) (by omega)]
          · rw [b7, if_neg (by omega), if_neg (by omega), if_neg (by omega), h158]
          · rw [b7, if_neg (by omega), if_pos rfl]
          · have hl := lt i t ht
            obtain ⟨c1, c2, c3⟩ := b6 i t ht
            rw [b7, if_pos (by omega), b7, if_pos (by omega), show 159 + 2 * i - 159 = 2 * i by omega, show 159 + 2 * i + 1 - 159 = 2 * i + 1 by omega]
            exact ⟨c1, c2⟩
          · rw [y2 16 (by decide)]; exact a4
          · rw [y2 16 (by decide)]; exact a5
          · rw [y2 17 (by decide)]; exact a6 i t ht
          · rw [y2 94 (by decide)]; exact a3.1 94 (by omega) (by omega) (by omega)
          · rw [b4 rfl, h157]
  · obtain ⟨r1, M1, e1, rfl, f1, a1, a2, a3⟩ := x_text_bad (d + 41) k hk M
    obtain ⟨r2, M2, e2, rfl, f2, b1, b2, b3, b4, b5⟩ := m_text_bad (d + 41) k hk M1
    have h3 := hI.2.2.1
    have gg : ∀ x, x ≠ 127 → x ≠ 132 → x ≠ 157 → M2 x = M x := fun x h1 h2 h3 => by rw [f2 x (by simpa using h3), f1 x (by simp; omega)]
    have g157 : M1 157 = M 157 := f1 157 (by simp)
    refine ⟨_, M1, M2, e1, e2, ⟨L, Lk, Inv_No hI ⟨fun x hx => ?_, ?_, ?_, ?_, ?_, ?_, ?_, ?_⟩ (fun x hx => gg x (by omega) (by omega) (by omega)) (by rw [b4, g157])⟩, ⟨f1 998 (by simp), f1 999 (by simp)⟩, gg 998 (by decide) (by decide) (by decide), gg 999 (by decide) (by decide) (by decide)⟩
    · unfold tq at hx; exact gg x (by omega) (by omega) (by omega)
    · rw [b5, g157]
    · rw [gg 136 (by decide) (by decide) (by decide)]; exact h3.2.2.1
    · rw [gg 138 (by decide) (by decide) (by decide)]; exact h3.2.2.2
    · rw [f2 127 (by simp)]; exact a1
    · exact b1
    · rw [f2 132 (by simp), a2, b2]
    · rw [f2 132 (by simp), a3, b3]
