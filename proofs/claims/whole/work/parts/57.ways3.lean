/-! ways: the sure ones, and the call -/
theorem m_sure_21_lp (d : Nat) (C : Nat → Nat) (n all : Nat) (hC : ∀ a, C a < 2 ^ n) (h10 : n ≤ 10) (h0 : 0 < all) (a : Nat) (ha : a < 7) (Q : List aV → aM → Prop) : ∀ (f e : Nat) (M : aM), e + f = n → M 158 41 = n → (∀ b, b < 7 → b ≠ a → M 174 b = ((C b : Nat) : Int)) →
    (∀ M', fr [174] M M' → (∀ b, b < 7 → M' 174 b = ((C b : Nat) : Int)) → wp (w_m_sureOnes_4 (d + 8) all ((cq (tF C 7 0 0) all (10 * a + n) : Nat) : Int) ((a + 1 : Nat) : Int) M') Q) → wp (w_m_sureOnes_21 (d + 8) all ((cq (tF C 7 0 0) all (10 * a + e) : Nat) : Int) a ((C a : Nat) : Int) e M) Q
  | 0, e, M, h, hn, hc, hQ => by
    rw [l_m_sureOnes_21, al158]
    refine wp_inb ⟨by omega, by omega⟩ ?_
    refine wp_neg (by omega) ?_
    rw [al174]
    refine wp_inb ⟨by omega, by omega⟩ ?_
    refine wp_up fun M1 f1 g1 => ?_
    refine wp_I ?_
    (try simp (disch := omega) only [w32_i, tn_l, tn_n, tn_r, tn_s, tn_1, Nat.add_sub_cancel, Int.reduceToNat, Int.toNat_zero, Int.toNat_one, al3, al4, al5, al6, al8, al9, al11, al13, al15, al17, al19, al21, al23, al25, al27, al29, al30, al31, al95, al96, al128, al129, al130, al131, al134, al135, al137, al139, al140, al142, al143, al144, al145, al147, al148, al149, al151, al152, al153, al154, al155, al156, al158, al159, al160, al161, al162, al163, al164, al165, al166, al167, al168, al169, al170, al171, al172, al173, al174, al175, al176])
    simp only [tn_n] at g1
    rw [show e = n by omega]
    refine hQ M1 f1 fun b hb => ?_
    rw [g1]
    by_cases hba : b = a
    · subst hba; rw [if_pos rfl]
    · rw [if_neg hba]; exact hc b hb hba
  | f + 1, e, M, h, hn, hc, hQ => by
    have hp10 : 2 ^ n ≤ 2 ^ 10 := Nat.pow_le_pow_right (by omega) h10
    have hCa := hC a
    have hcq := cq_le (tF C 7 0 0) all (10 * a + e)
    have e5 : w32 ((e : Int) + 1) = ((e + 1 : Nat) : Int) := by rw [w32_i (by omega) (by omega)]; rfl
    have es : cq (tF C 7 0 0) all (10 * a + (e + 1)) = cq (tF C 7 0 0) all (10 * a + e) + (if tF C 7 0 0 (10 * a + e) = all then 1 else 0) := rfl
    rw [l_m_sureOnes_21, al158]
    refine wp_inb ⟨by omega, by omega⟩ ?_
    refine wp_pos (by omega) ?_
    rw [bit01_nat (by omega) (by omega)]
    cases hb : (C a).testBit e with
    | false =>
      refine wp_pos (by simp) ?_
      refine wp_I ?_
      rw [e5]
      have z := tF_no C a e (by omega) hb 7 0 0
      rw [z, if_neg (by omega)] at es
      have es2 : cq (tF C 7 0 0) all (10 * a + e) = cq (tF C 7 0 0) all (10 * a + (e + 1)) := by omega
      rw [es2]
      exact m_sure_21_lp d C n all hC h10 h0 a ha Q f (e + 1) M (by omega) hn hc hQ
    | true =>
      refine wp_neg (by simp) ?_
      rw [al174, ishl_pow e (by omega)]
      refine wp_inb ⟨by omega, by omega⟩ ?_
      refine wp_up fun M1 f1 g1 => ?_
      simp only [tn_n] at g1
      have ho : ∀ b, b ≠ a → (if b = a then 2 ^ e else C b) = C b := fun b hb => if_neg hb
      have t := tF_eq (C := C) (C' := fun b => if b = a then 2 ^ e else C b) (a := a) (d := e) (by omega) hb (if_pos rfl) ho 7 0 0 (by omega) (by omega)
      have wfe : w_m_waysFrom (d + 8) 0 0 M1 = some ([aI ((wF (fun b => if b = a then 2 ^ e else C b) 7 0 0 : Nat) : Int)], M1) := m_waysFrom_lp (fun b => if b = a then 2 ^ e else C b) n (fun b => by
        split
        · exact Nat.pow_lt_pow_right (by omega) (by omega)
        · exact hC b) h10 M1 (fun b hb => by
        rw [g1]
        by_cases hba : b = a
        · rw [if_pos hba, if_pos hba]
        · rw [if_neg hba, if_neg hba]; exact hc b hb hba) (by rw [f1 158 (by simp), hn]) 7 d 0 0 (by omega) (by omega)
      refine wp_eI wfe ?_
      rw [← t]
      have next : ∀ x, x = ((cq (tF C 7 0 0) all (10 * a + (e + 1)) : Nat) : Int) → wp (w_m_sureOnes_21 (d + 8) all x a ((C a : Nat) : Int) ((e + 1 : Nat) : Int) M1) Q := by
        intro x hx
        rw [hx]
        exact m_sure_21_lp d C n all hC h10 h0 a ha Q f (e + 1) M1 (by omega) (by rw [f1 158 (by simp), hn]) (fun b hb hba => by rw [g1, if_neg hba]; exact hc b hb hba) fun M' f' => hQ M' (fr_tt f1 f')
      refine wp_if (fun h => ?_) (fun h => ?_)
      · refine wp_I ?_
        refine wp_I ?_
        rw [e5, w32_i (by omega) (by omega)]
        refine next _ ?_
        rw [es, if_pos (by omega)]; omega
      · refine wp_I ?_
        refine wp_I ?_
        rw [e5, w32_i (by omega) (by omega)]
        refine next _ ?_
        rw [es, if_neg (by omega)]; omega
theorem cq_skip (T : Nat → Nat) (all a : Nat) : ∀ g e, (∀ j, e ≤ j → j < e + g → T (10 * a + j) ≠ all) → cq T all (10 * a + (e + g)) = cq T all (10 * a + e)
  | 0, _, _ => rfl
  | g + 1, e, h => by
    show cq T all (10 * a + (e + g)) + (if T (10 * a + (e + g)) = all then 1 else 0) = _
    rw [if_neg (h (e + g) (by omega) (by omega)), cq_skip T all a g e fun j h1 h2 => h j h1 (by omega)]
    rfl
theorem m_sure_4_lp (d : Nat) (C : Nat → Nat) (n all : Nat) (hC : ∀ a, C a < 2 ^ n) (h10 : n ≤ 10) (h0 : 0 < all) : ∀ (f a : Nat) (M : aM), a + f = 7 → M 158 41 = n → (∀ b, b < 7 → M 174 b = ((C b : Nat) : Int)) →
    wp (w_m_sureOnes_4 (d + 8) all ((cq (tF C 7 0 0) all (10 * a) : Nat) : Int) a M) fun r M' => r = [aI ((cq (tF C 7 0 0) all 70 : Nat) : Int)] ∧ fr [174] M M'
  | 0, a, M, h, hn, hc => by
    rw [l_m_sureOnes_4]
    refine wp_neg (by omega) ?_
    rw [show a = 7 by omega]
    exact wp_ret ⟨rfl, fr_refl _ _⟩
  | f + 1, a, M, h, hn, hc => by
    rw [l_m_sureOnes_4, al174]
    refine wp_pos (by omega) ?_
    refine wp_inb ⟨by omega, by omega⟩ ?_
    refine wp_I ?_
    rw [tn_n, hc a (by omega)]
    refine m_sure_21_lp d C n all hC h10 h0 a (by omega) _ n 0 M (by omega) hn (fun b hb _ => hc b hb) ?_
    intro M1 f1 g1
    have sk := cq_skip (tF C 7 0 0) all a (10 - n) n fun j h1 h2 => by
      rw [tF_no C a j (by omega) (tb_lt (hC a) h1) 7 0 0]; omega
    rw [show n + (10 - n) = 10 by omega] at sk
    rw [← sk, show 10 * a + 10 = 10 * (a + 1) by omega]
    exact wp_mono (m_sure_4_lp d C n all hC h10 h0 f (a + 1) M1 (by omega) (by rw [f1 158 (by simp), hn]) g1) fun r M' q => ⟨q.1, fr_tt f1 q.2⟩
noncomputable def vWays (w : Int) (V : aW) : Int :=
  if 0 ≤ w ∧ w ≤ 1 then (if w = 0 then ((wF (mk V (V 51).toNat) 7 0 0 : Nat) : Int) else if wF (mk V (V 51).toNat) 7 0 0 = 0 then 0 else ((cq (tF (mk V (V 51).toNat) 7 0 0) (wF (mk V (V 51).toNat) 7 0 0) 70 : Nat) : Int)) else -1
theorem pr_ways (d : Nat) (w : Int) : pr (w_x_ways (d + 40) w) (w_m_ways (d + 40) w) := by
  refine pr_qV (fun V _ => vWays w V) ?_ ?_
  · intro L Lk M hI
    obtain ⟨⟨hW, hT, hw, hv, hok⟩, -⟩ := hI
    obtain ⟨c, hc, h10⟩ := okW_n hW
    have n51 := hT.1.2.2.2.2.2.2.1
    have hat := hT.2.2.2.2.2.2.2.1
    obtain ⟨n, hn⟩ : ∃ n : Nat, M 158 51 = n := ⟨(M 158 51).toNat, by omega⟩
    obtain ⟨t1, t2, t3, t4, t5, t6, ⟨r0, r2, rc⟩, t8⟩ := hw.1.2.1
    have hp10 : 2 ^ c ≤ 2 ^ 10 := Nat.pow_le_pow_right (by omega) h10
    have hlt := mk_lt (M 158) c n h10 (fun i hi => by have := hat i (by omega); omega) n (by omega)
    rw [l_x_ways]
    refine wp_eI (x_within_eq _ _ _ _) ?_
    unfold vWays
    refine wp_bif (fun h1 => ?_) (fun h1 => ?_)
    · exact wp_ret ⟨by rw [if_neg (of_decide_eq_false h1)], agQ_refl _⟩
    have h1 := of_decide_eq_true h1
    rw [if_pos h1, hn, tn_n]
    generalize hCC : mk (M 158) n = C at *
    refine wp_bI (P := fun v M' => v = ((wF C 7 0 0 : Nat) : Int) ∧ fr [153, 154] M M' ∧ ∀ q, q < 70 → M' 154 q = ((tF C 7 0 0 q : Nat) : Int)) ?_ ?_
    · rw [l_th_waysToHaveEaten]
      refine wp_bV (ja_fillI_eq _ 153 0 7 al153 (by omega) M) ?_
      rintro M1 ⟨f1, g1⟩
      refine wp_bV (ja_fillI_eq _ 154 0 70 al154 (by omega) M1) ?_
      rintro M2 ⟨f2, g2⟩
      have f12 : fr [153, 154] M M2 := fr_tr f1 f2 (by simp) (by simp)
      refine th_ways_18_lp _ (M 158) n c (by omega) h10 (fun i hi => by have := hat i (by omega); omega) _ n 0 M2 (by omega) (by rw [f12 26 (by simp)]; exact r2.trans hn) (fun i hi => by rw [f12 27 (by simp)]; exact ⟨(rc i 0 (by omega) (by decide)).trans rfl, (rc i 1 (by omega) (by decide)).trans (by rw [show 236 + 2 * i = 235 + 2 * i + 1 by omega])⟩) (fun a ha => by rw [f2 153 (by simp), g1, if_pos ha]; rfl) ?_
      intro M3 f3 g3
      rw [hCC] at g3
      rw [l_th_waysToHaveEaten_18]
      refine wp_neg (by rw [f3 26 (by simp), f12 26 (by simp), show M 26 2 = M 158 51 from r2, hn]; omega) ?_
      refine wp_idI (wp_mono (th_waysFrom_lp C (fun a => Nat.lt_of_lt_of_le (hlt a) hp10) 7 _ 0 0 M3 (by omega) (by omega) g3 (fun q hq => ?_)) ?_)
      · have := tF_le C q 7 0 0
        rw [f3 154 (by simp), g2, if_pos hq]
        omega
      · rintro r M' ⟨e, f', g'⟩
        refine ⟨⟨_, e⟩, _, e, rfl, fr_tr (fr_tr f12 f3 (l := [153, 154]) (by simp) (by simp)) f' (by simp) (by simp), fun q hq => ?_⟩
        rw [g' q hq, f3 154 (by simp), g2, if_pos hq]; omega
    rintro v M1 ⟨rfl, f1, g1⟩
    have ag : agQ M M1 := agQ_fr f1 (by intro k hk; simp at hk; unfold qs; omega)
    refine wp_if (fun h0 => ?_) (fun h0 => ?_)
    · exact wp_ret ⟨by rw [if_pos h0], ag⟩
    rw [if_neg h0]
    by_cases hz : wF C 7 0 0 = 0
    · rw [if_pos hz, hz]
      refine wp_eI (v := 0) (M := M1) ?_ (wp_ret ⟨rfl, ag⟩)
      rw [u_th_sureCouples, u_th_sureCouples_4, al154, if_pos (by decide), if_neg (by decide)]
    · rw [if_neg hz]
      refine wp_eI ((u_th_sureCouples _ _ _).trans (th_sure_lp _ (tF C 7 0 0) (wF C 7 0 0) M1 (by omega) g1 70 0 (by omega))) ?_
      exact wp_ret ⟨rfl, ag⟩
  · intro L Lk M hI
    obtain ⟨⟨hW, hT, hw, hv, hok⟩, -⟩ := hI
    obtain ⟨c, hc, h10⟩ := okW_n hW
    have n51 := hT.1.2.2.2.2.2.2.1
    have hat := hT.2.2.2.2.2.2.2.1
    obtain ⟨n, hn⟩ : ∃ n : Nat, M 158 51 = n := ⟨(M 158 51).toNat, by omega⟩
    have hlt := mk_lt (M 158) c n h10 (fun i hi => by have := hat i (by omega); omega) n (by omega)
    rw [l_m_ways]
    refine wp_eI (m_isIn_eq _ _ _ _ _) ?_
    unfold vWays
    refine wp_bif (fun h1 => ?_) (fun h1 => ?_)
    · exact wp_ret ⟨by rw [if_neg (of_decide_eq_false h1)], agQ_refl _⟩
    have h1 := of_decide_eq_true h1
    rw [if_pos h1, hn, tn_n]
    refine wp_bV (P := fun M' => fr [174] M M' ∧ ∀ a, a < 7 → M' 174 a = ((mk (M 158) n a : Nat) : Int)) ?_ ?_
    · rw [l_m_laysAte]
      refine m_laysAte_2_lp _ _ 7 0 M (by omega) (fun a h => by omega) ?_
      intro M1 f1 g1
      refine wp_mono (m_laysAte_23_lp _ (M 158) n c (by omega) h10 hn (fun i hi => by have := hat i (by omega); omega) n 0 M1 (by omega) (f1 158 (by simp)) (fun a ha => by rw [g1 a ha]; rfl)) ?_
      rintro r M' ⟨q1, q2, q3⟩
      exact ⟨q1, fr_tt f1 q2, q3⟩
    rintro M1 ⟨f1, g1⟩
    generalize hCC : mk (M 158) n = C at *
    have ag : agQ M M1 := agQ_fr f1 (by intro k hk; simp at hk; unfold qs; omega)
    have wfe : w_m_waysFrom (d + 39) 0 0 M1 = some ([aI ((wF C 7 0 0 : Nat) : Int)], M1) := m_waysFrom_lp C c hlt h10 M1 g1 (by rw [f1 158 (by simp), hc]) 7 (d + 31) 0 0 (by omega) (by omega)
    refine wp_eI wfe ?_
    refine wp_if (fun h0 => ?_) (fun h0 => ?_)
    · exact wp_ret ⟨by rw [if_pos h0], ag⟩
    rw [if_neg h0]
    refine wp_if (fun hz => ?_) (fun hz => ?_)
    · exact wp_ret ⟨by rw [if_pos (by omega)], ag⟩
    rw [if_neg (by omega)]
    refine wp_fI (l := [174]) (M := M1) (v := ((cq (tF C 7 0 0) (wF C 7 0 0) 70 : Nat) : Int)) ?_ fun M2 f2 => wp_ret ⟨rfl, agQ_tr ag (agQ_fr f2 (by intro k hk; simp at hk; unfold qs; omega))⟩
    rw [l_m_sureOnes]
    exact m_sure_4_lp _ C c _ hlt h10 (by omega) 7 0 M1 (by omega) (by rw [f1 158 (by simp), hc]) g1
