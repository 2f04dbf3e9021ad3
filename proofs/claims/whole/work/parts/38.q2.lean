/-! Calls that only tell: next, reads, nods, votes. -/
theorem sumC_ge (V : aW) (L : aLaw) {j : Nat} : ∀ k, j < k → comA V L j ≤ sumC V L k
  | 0, h => by omega
  | k + 1, h => by
    have h1 := sumC_in V L k
    have h2 := comA_in V L k
    simp only [sumC]
    by_cases e : j = k
    · subst e; omega
    · have := sumC_ge V L k (show j < k by omega); omega
noncomputable def leftN (x : Int) : Nat → Int → Int
  | 0, l => l
  | f + 1, l => leftN x f (w64 (l - ldiv (w64 (l * x)) 1000000))
theorem x_likelyWithin_lp (d : Nat) (x : Int) (n : Nat) (hn : n ≤ 60) (M : aM) : ∀ (f i : Nat) (l : Int), i + f = n → w_x_likelyWithin_7 d x n l i M = some ([aI (l2i (w64 (1000000 - leftN x f l)))], M)
  | 0, i, l, h => by rw [u_x_likelyWithin_7, if_neg (by omega)]; rfl
  | f + 1, i, l, h => by
    rw [u_x_likelyWithin_7, if_pos (by omega)]
    simp (disch := omega) only [w32_i]
    exact x_likelyWithin_lp d x n hn M f (i + 1) _ (by omega)
theorem m_next_lp (d : Nat) (x : Int) (n : Nat) (hn : n ≤ 60) (M : aM) : ∀ (f i : Nat) (l : Int), i + f = n → w_m_next_41 d n x l i M = some ([aI (l2i (w64 (1000000 - leftN x f l)))], M)
  | 0, i, l, h => by rw [u_m_next_41, if_neg (by omega)]; rfl
  | f + 1, i, l, h => by
    rw [u_m_next_41, if_pos (by omega)]
    simp (disch := omega) only [w32_i]
    exact m_next_lp d x n hn M f (i + 1) _ (by omega)

noncomputable def pL (V : aW) (L : aLaw) (k : Nat) : Int := if al V k = true then (if sumC V L 10 = 0 then 0 else 1000000 * come V L k / sumC V L 10 * (1000 - V 43) / 1000) else 0
theorem pL_b {c s m : Int} (h0 : 0 ≤ c) (hc : c ≤ s) (h9 : c ≤ 999) (hs : 0 < s) (hs2 : s ≤ 9990) (hm : 0 ≤ m) (hm2 : m ≤ 1000) :
    idiv (w32 (1000000 * c)) s = 1000000 * c / s ∧ 0 ≤ 1000000 * c / s ∧ 1000000 * c / s ≤ 1000000 ∧ 0 ≤ 1000000 * c / s * m ∧ 1000000 * c / s * m ≤ 1000000000 := by
  have b1 : 0 ≤ 1000000 * c / s := Int.ediv_nonneg (by omega) (by omega)
  have b2 : 1000000 * c / s ≤ 1000000 := Int.ediv_le_of_le_mul hs (by omega)
  have b3 : 0 ≤ 1000000 * c / s * m := Int.mul_nonneg b1 hm
  have b4 : 1000000 * c / s * m ≤ 1000000 * 1000 := Int.mul_le_mul b2 hm2 hm (by omega)
  exact ⟨by rw [w32_i (by omega) (by omega), idiv_nn (by omega) (by omega) hs (by omega)], b1, b2, b3, by omega⟩
theorem come_in (V : aW) (L : aLaw) (k : Nat) : 0 ≤ come V L k ∧ come V L k ≤ 999 := cl_in (by decide)
theorem world_likelihood_eq (d : Nat) (L : aLaw) (k : Nat) (M : aM) (hW : okW (M 158)) (hw : rW true 1 (M 158) L M) (hok : okLaw L) (hk : (k : Int) < M 158 41) :
    wp (w_world_likelihood (d + 8) 1 k M) fun r M' => r = [aI (pL (M 158) L k)] ∧ fr [1, 9, 30, 31] M M' := by
  obtain ⟨n, hn, h10⟩ := okW_n hW
  rw [l_world_likelihood]
  refine wp_bV (world_askComes_eq _ 1 (M 158) L isWo1 hok (by omega) (by omega) M (rW_wd hw) hw.1.2.2.1) ?_
  rintro M1 ⟨s1, c1, f1⟩
  have w1 : rWd (1 + 1) (M 158) M1 := rWd_fr (rW_wd hw) fun k _ _ => f1 k (by simp; omega)
  refine wp_eI (wood_isAlive_eq _ (1 + 1) _ (M 158) M1 w1 (by omega)) ?_
  unfold pL
  refine wp_bif (fun h => ?_) (fun h => ?_)
  · exact wp_ret ⟨by rw [h]; rfl, fr_w f1 (by simp)⟩
  have hs := sumC_in (M 158) L 10
  have hc := come_in (M 158) L k
  have hcs := sumC_ge (M 158) L (j := k) 10 (by omega)
  rw [show comA (M 158) L k = come (M 158) L k by simp [comA, h]] at hcs
  rw [if_pos h, s1]
  refine wp_if (fun h0 => ?_) (fun h0 => ?_)
  · rw [show aLen (1 + 30) = 10 from rfl]
    refine wp_inb ⟨by omega, by omega⟩ ?_
    refine wp_none (by omega) ?_
    refine wp_ret ⟨?_, fr_w f1 (by simp)⟩
    have hm := hW.2.2.2.2.2.2.2.2.1
    rw [if_neg (show ¬ sumC (M 158) L 10 = 0 by omega), tn_n, c1 k (by omega), show comA (M 158) L k = come (M 158) L k by simp [comA, h], w1.2.2.2.2.2.2.1]
    obtain ⟨b1, b2, b3, b4, b5⟩ := pL_b (c := come (M 158) L k) (s := sumC (M 158) L 10) (m := 1000 - M 158 43) hc.1 hcs hc.2 h0 (by omega) (by omega) (by omega)
    rw [b1, w32_i (x := 1000 - M 158 43) (by omega) (by omega), w32_i (by omega) (by omega), idiv_nn b4 (by omega) (by omega) (by omega)]
  · rw [if_pos (by omega)]
    exact wp_ret ⟨rfl, fr_w f1 (by simp)⟩
theorem m_nextOf_eq (d : Nat) (L : aLaw) (k : Nat) (M : aM) (hW : okW (M 158)) (hv : vLaw L (M 158)) (hok : okLaw L) (hk : (k : Int) < M 158 41) :
    wp (w_m_nextOf (d + 8) k M) fun r M' => r = [aJ (pL (M 158) L k)] ∧ fr [166, 167] M M' := by
  obtain ⟨n, hn, h10⟩ := okW_n hW
  rw [l_m_nextOf]
  refine wp_fI (m_sumOfCome_eq _ (M 158) L n hn h10 hv hok M rfl) fun M1 f1 => ?_
  rw [← sumC_hi L hn 10 h10]
  have e1 : M1 158 = M 158 := f1 _ (by simp)
  refine wp_eI (m_isAlive_eq _ _ M1 (by rw [e1]; omega) (by rw [e1]; omega)) ?_
  rw [e1]
  unfold pL
  refine wp_bif (fun h => ?_) (fun h => ?_)
  · exact wp_ret ⟨by rw [h]; rfl, f1⟩
  have hs := sumC_in (M 158) L 10
  have hc := come_in (M 158) L k
  have hcs := sumC_ge (M 158) L (j := k) 10 (by omega)
  rw [show comA (M 158) L k = come (M 158) L k by simp [comA, h]] at hcs
  rw [if_pos h]
  refine wp_if (fun h0 => ?_) (fun h0 => ?_)
  · rw [if_pos h0]
    exact wp_ret ⟨rfl, f1⟩
  · rw [if_neg h0]
    refine wp_fI (m_comeOf_eq _ (M 158) L k M1 e1 (by omega) hv hok) fun M2 f2 => ?_
    refine wp_none h0 ?_
    rw [al158]
    refine wp_inb ⟨by omega, by omega⟩ ?_
    refine wp_ret ⟨?_, fr_tt f1 f2⟩
    have hm := hW.2.2.2.2.2.2.2.2.1
    rw [f2 158 (by simp), e1]
    obtain ⟨b1, b2, b3, b4, b5⟩ := pL_b (c := come (M 158) L k) (s := sumC (M 158) L 10) (m := 1000 - M 158 43) hc.1 hcs hc.2 (by omega) (by omega) (by omega) (by omega)
    rw [w64_i (x := 1000000 * come (M 158) L k) (by omega) (by omega), ldiv_nn (x := 1000000 * come (M 158) L k) (by omega) (by omega) (by omega) (by omega), w32_i (x := 1000 - M 158 43) (by omega) (by omega), w64_i (by omega) (by omega), ldiv_nn b4 (by omega) (by omega) (by omega)]
noncomputable def vNext (i n : Int) (V : aW) (L : aLaw) : Int :=
  if 0 ≤ i ∧ i < V 41 ∧ 0 ≤ n ∧ n ≤ 60 then (if n = 0 then pL V L i.toNat else l2i (w64 (1000000 - leftN (pL V L i.toNat) n.toNat 1000000))) else -1
theorem pL_in (V : aW) (L : aLaw) (k : Nat) (hW : okW V) (hk : k < 10) : 0 ≤ pL V L k ∧ pL V L k ≤ 1000000 := by
  unfold pL
  split
  · next h =>
    split
    · omega
    · next h0 =>
      have hs := sumC_in V L 10
      have hc := come_in V L k
      have hcs := sumC_ge V L (j := k) 10 hk
      rw [show comA V L k = come V L k by simp [comA, h]] at hcs
      have hm := hW.2.2.2.2.2.2.2.2.1
      obtain ⟨b1, b2, b3, b4, b5⟩ := pL_b (c := come V L k) (s := sumC V L 10) (m := 1000 - V 43) hc.1 hcs hc.2 (by omega) (by omega) (by omega) (by omega)
      omega
  · omega
theorem pr_next (d : Nat) (i n : Int) : pr (w_x_next (d + 40) i n) (w_m_next (d + 40) i n) := by
  refine pr_qV (fun V L => vNext i n V L) ?_ ?_
  · intro L Lk M hI
    obtain ⟨⟨hW, hT, hw, hv, hok⟩, -⟩ := hI
    obtain ⟨c, hn, h10⟩ := okW_n hW
    rw [l_x_next]
    refine wp_eI (wood_has_eq _ 2 i (M 158) M (rW_wd hw).1 (by omega)) ?_
    unfold vNext
    refine wp_bif (fun h => ?_) (fun h => ?_)
    · have h := of_decide_eq_false h
      exact wp_ret ⟨by rw [if_neg (by omega)], agQ_refl _⟩
    have h := of_decide_eq_true h
    refine wp_eI (x_within_eq _ _ _ _) ?_
    refine wp_bif (fun h1 => ?_) (fun h1 => ?_)
    · have h1 := of_decide_eq_false h1
      exact wp_ret ⟨by rw [if_neg (by omega)], agQ_refl _⟩
    have h1 := of_decide_eq_true h1
    rw [if_pos (show 0 ≤ i ∧ i < M 158 41 ∧ 0 ≤ n ∧ n ≤ 60 by omega)]
    obtain ⟨k, rfl⟩ : ∃ k : Nat, i = k := ⟨i.toNat, by omega⟩
    obtain ⟨j, rfl⟩ : ∃ j : Nat, n = j := ⟨n.toNat, by omega⟩
    refine wp_fI (world_likelihood_eq _ L k M hW hw hok h.2) fun M1 f1 => ?_
    have ag : agQ M M1 := agQ_fr f1 (by intro k hk; simp at hk; unfold qs; omega)
    refine wp_if (fun h0 => ?_) (fun h0 => ?_)
    · exact wp_ret ⟨by rw [if_pos h0, tn_n], ag⟩
    · rw [if_neg h0, tn_n, tn_n]
      refine wp_eI ((u_x_likelyWithin _ _ _ _).trans (x_likelyWithin_lp _ (pL (M 158) L k) j (by omega) M1 j 0 1000000 (by omega))) ?_
      exact wp_ret ⟨rfl, ag⟩
  · intro L Lk M hI
    obtain ⟨⟨hW, hT, hw, hv, hok⟩, -⟩ := hI
    obtain ⟨c, hn, h10⟩ := okW_n hW
    rw [l_m_next]
    refine wp_eI (m_isDeer_eq _ _ _ (by omega) (by omega)) ?_
    unfold vNext
    refine wp_bif (fun h => ?_) (fun h => ?_)
    · have h := of_decide_eq_false h
      exact wp_ret ⟨by rw [if_neg (by omega)], agQ_refl _⟩
    have h := of_decide_eq_true h
    refine wp_eI (m_isIn_eq _ _ _ _ _) ?_
    refine wp_bif (fun h1 => ?_) (fun h1 => ?_)
    · have h1 := of_decide_eq_false h1
      exact wp_ret ⟨by rw [if_neg (by omega)], agQ_refl _⟩
    have h1 := of_decide_eq_true h1
    rw [if_pos (show 0 ≤ i ∧ i < M 158 41 ∧ 0 ≤ n ∧ n ≤ 60 by omega)]
    obtain ⟨k, rfl⟩ : ∃ k : Nat, i = k := ⟨i.toNat, by omega⟩
    obtain ⟨j, rfl⟩ : ∃ j : Nat, n = j := ⟨n.toNat, by omega⟩
    refine wp_bJ (P := fun v M' => v = pL (M 158) L k ∧ fr [166, 167] M M') (wp_mono (m_nextOf_eq _ L k M hW hv hok h.2) ?_) ?_
    · rintro r M' ⟨e, f⟩; exact ⟨_, e, rfl, f⟩
    rintro v M1 ⟨e, f1⟩
    subst e
    have ag : agQ M M1 := agQ_fr f1 (by intro k hk; simp at hk; unfold qs; omega)
    have hp := pL_in (M 158) L k hW (by omega)
    refine wp_if (fun h0 => ?_) (fun h0 => ?_)
    · exact wp_ret ⟨by rw [if_pos h0, tn_n, l2i_id ⟨by omega, by omega⟩], ag⟩
    · rw [if_neg h0, tn_n, tn_n]
      refine ⟨_, _, m_next_lp _ (pL (M 158) L k) j (by omega) M1 j 0 1000000 (by omega), rfl, ag⟩
/-! nods -/
noncomputable def cntM (V : aW) (mk : Int) : Nat → Int
  | 0 => 0
  | k + 1 => cntM V mk k + (if al V k = true ∧ V (53 + k) = mk then 1 else 0)
theorem cntM_in (V : aW) (mk : Int) : ∀ k, 0 ≤ cntM V mk k ∧ cntM V mk k ≤ k
  | 0 => by simp [cntM]
  | k + 1 => by have := cntM_in V mk k; simp only [cntM]; split <;> omega
theorem wood_aliveWithMark_lp (d b : Nat) (V : aW) (mk : Int) (n : Nat) (hn : V 41 = n) (h10 : n ≤ 10) (l1 : aLen (b + 1) = 10) (M : aM) (hw : rWd b V M) : ∀ (f i : Nat), i + f = n →
    w_wood_aliveWithMark_4 (d + 2) b mk (cntM V mk i) i M = some ([aI (cntM V mk n)], M)
  | 0, i, h => by rw [u_wood_aliveWithMark_4, hw.1, if_neg (by omega), show i = n by omega]
  | f + 1, i, h => by
    have ih := wood_aliveWithMark_lp d b V mk n hn h10 l1 M hw f (i + 1) (by omega)
    have hc := hw.2.2.2.2.2.2.2.2.2.2.2.2.2.1
    have hb := cntM_in V mk i
    rw [u_wood_aliveWithMark_4, hw.1, if_pos (by omega), if_pos (by omega), wood_isAlive_eq _ b i V M hw (by omega), bndI_s, l1]
    simp (disch := omega) only [w32_i]
    simp only [cntM] at ih
    cases hal : al V i with
    | false =>
      rw [if_pos (show bI false = 0 from rfl)]
      rw [hal] at ih
      simpa using ih
    | true =>
      rw [if_neg (show ¬ bI true = 0 by decide), inb_s (by omega) (by omega), tn_n, hc i (by omega)]
      rw [hal] at ih
      by_cases hm : V (53 + i) = mk
      · rw [if_pos hm]
        rw [if_pos ⟨rfl, hm⟩] at ih
        exact ih
      · rw [if_neg hm]
        rw [if_neg fun h => hm h.2] at ih
        simpa using ih
theorem m_marked_lp (d : Nat) (V : aW) (mk : Int) (n : Nat) (hn : V 41 = n) (h10 : n ≤ 10) (M : aM) (hV : M 158 = V) : ∀ (f i : Nat), i + f = n →
    w_m_marked_4 (d + 3) mk (cntM V mk i) i M = some ([aI (cntM V mk n)], M)
  | 0, i, h => by rw [u_m_marked_4, al158, inb_s (by omega) (by omega), hV, if_neg (by omega), show i = n by omega]
  | f + 1, i, h => by
    have ih := m_marked_lp d V mk n hn h10 M hV f (i + 1) (by omega)
    have hb := cntM_in V mk i
    rw [u_m_marked_4, al158, inb_s (by omega) (by omega), if_pos (by rw [hV]; omega), m_isAlive_eq _ _ M (by rw [hV]; omega) (by rw [hV]; omega), bndI_s, hV]
    simp (disch := omega) only [w32_i, tn_l, Int.reduceToNat]
    simp only [cntM] at ih
    cases hal : al V i with
    | false =>
      rw [if_pos (show bI false = 0 from rfl)]
      rw [hal] at ih
      simpa using ih
    | true =>
      rw [if_neg (show ¬ bI true = 0 by decide), inb_s (by omega) (by omega)]
      rw [hal] at ih
      by_cases hm : V (53 + i) = mk
      · rw [if_pos hm]
        rw [if_pos ⟨rfl, hm⟩] at ih
        exact ih
      · rw [if_neg hm]
        rw [if_neg fun h => hm h.2] at ih
        simpa using ih
theorem pr_nods (d : Nat) (a b : Int) : pr (w_x_nods (d + 40) a b) (w_m_nods (d + 40) a b) := by
  refine pr_qV (fun V L => if 0 ≤ a ∧ a ≤ 5 ∧ 0 ≤ b ∧ b ≤ 5 then (if a = b then idiv (w32 (cntM V a (V 41).toNat * w32 (cntM V a (V 41).toNat - 1))) 2 else w32 (cntM V a (V 41).toNat * cntM V b (V 41).toNat)) else -1) ?_ ?_
  · intro L Lk M hI
    obtain ⟨⟨hW, hT, hw, hv, hok⟩, -⟩ := hI
    obtain ⟨c, hn, h10⟩ := okW_n hW
    rw [l_x_nods]
    refine wp_eI (x_within_eq _ _ _ _) ?_
    refine wp_bif (fun h => ?_) (fun h => ?_)
    · have h := of_decide_eq_false h
      exact wp_ret ⟨by rw [if_neg (by omega)], agQ_refl _⟩
    have h := of_decide_eq_true h
    refine wp_eI (x_within_eq _ _ _ _) ?_
    refine wp_bif (fun h1 => ?_) (fun h1 => ?_)
    · have h1 := of_decide_eq_false h1
      exact wp_ret ⟨by rw [if_neg (by omega)], agQ_refl _⟩
    have h1 := of_decide_eq_true h1
    rw [if_pos (show 0 ≤ a ∧ a ≤ 5 ∧ 0 ≤ b ∧ b ≤ 5 by omega)]
    rw [show (M 158 41).toNat = c by omega]
    have key : ∀ (d' : Nat) (x : Int), w_wood_aliveWithMark (d' + 3) 2 x M = some ([aI (cntM (M 158) x c)], M) := fun d' x => (u_wood_aliveWithMark _ _ _ _).trans (wood_aliveWithMark_lp _ 2 (M 158) x c hn h10 al3 M (rW_wd hw) c 0 (by omega))
    refine wp_eI (key _ a) ?_
    refine wp_if (fun e => ?_) (fun e => ?_)
    · exact wp_ret ⟨by rw [if_pos e], agQ_refl _⟩
    · refine wp_eI (key _ b) ?_
      exact wp_ret ⟨by rw [if_neg e], agQ_refl _⟩
  · intro L Lk M hI
    obtain ⟨⟨hW, hT, hw, hv, hok⟩, -⟩ := hI
    obtain ⟨c, hn, h10⟩ := okW_n hW
    rw [l_m_nods]
    refine wp_eI (m_isIn_eq _ _ _ _ _) ?_
    refine wp_bif (fun h => ?_) (fun h => ?_)
    · have h := of_decide_eq_false h
      exact wp_ret ⟨by rw [if_neg (by omega)], agQ_refl _⟩
    have h := of_decide_eq_true h
    refine wp_eI (m_isIn_eq _ _ _ _ _) ?_
    refine wp_bif (fun h1 => ?_) (fun h1 => ?_)
    · have h1 := of_decide_eq_false h1
      exact wp_ret ⟨by rw [if_neg (by omega)], agQ_refl _⟩
    have h1 := of_decide_eq_true h1
    rw [if_pos (show 0 ≤ a ∧ a ≤ 5 ∧ 0 ≤ b ∧ b ≤ 5 by omega)]
    rw [show (M 158 41).toNat = c by omega]
    have key : ∀ (d' : Nat) (x : Int), w_m_marked (d' + 4) x M = some ([aI (cntM (M 158) x c)], M) := fun d' x => (u_m_marked _ _ _).trans (m_marked_lp _ (M 158) x c hn h10 M rfl c 0 (by omega))
    refine wp_if (fun e => ?_) (fun e => ?_)
    · refine wp_eI (key _ a) ?_
      refine wp_eI (key _ a) ?_
      exact wp_ret ⟨by rw [if_pos e], agQ_refl _⟩
    · refine wp_eI (key _ a) ?_
      refine wp_eI (key _ b) ?_
      exact wp_ret ⟨by rw [if_neg e], agQ_refl _⟩
