/-! salts: the call -/
theorem m_salts_81_lp (d : Nat) (V : aW) (w : Int) (s e left n : Nat) (R G : Nat → Int) (t : Int) (M : aM) (hs : s ≤ 20) (he : e < n) (hl : left ≤ s) (hn : V 41 = n) (h10 : n ≤ 10) (hV : M 158 = V) (hal : al V e = true) (hG : ∀ g, 0 ≤ G g ∧ G g ≤ 999) (hR : ∀ l, -1000000 ≤ R l ∧ R l ≤ 9990) (hg : ∀ k, k ≤ s → M 175 (21 * e + k) = G k) (hr : ∀ l, l ≤ s → M 176 (21 * (e + 1) + l) = R l) (ht : M 176 (21 * e + left) = t) : ∀ (f g : Nat), g + f = left + 1 → (∃ g', g ≤ g' ∧ g' ≤ left ∧ G g' + R (left - g') = t) →
    w_m_salts_81 (d + 3) w left g e M = w_m_salts_69 (d + 3) w ((left - fwF R G t left f g : Nat) : Int) ((fwF R G t left f g : Nat) : Int) ((e + 1 : Nat) : Int) M
  | 0, g, h, ⟨g', h1, h2, _⟩ => by omega
  | f + 1, g, h, hex => by
    have b2 := hG g
    have b3 := hR (left - g)
    have e1 : w32 (w32 (21 * (e : Int)) + g) = ((21 * e + g : Nat) : Int) := by simp (disch := omega) only [w32_i]; omega
    have e2 : w32 (w32 (w32 (21 * w32 ((e : Int) + 1)) + left) - g) = ((21 * (e + 1) + (left - g) : Nat) : Int) := by simp (disch := omega) only [w32_i]; omega
    have e3 : w32 (w32 (21 * (e : Int)) + left) = ((21 * e + left : Nat) : Int) := by simp (disch := omega) only [w32_i]; omega
    have e4 : w32 ((left : Int) - g) = ((left - g : Nat) : Int) := by rw [w32_i (by omega) (by omega)]; omega
    have e5 : w32 ((e : Int) + 1) = ((e + 1 : Nat) : Int) := by rw [w32_i (by omega) (by omega)]; rfl
    have e6 : w32 ((g : Int) + 1) = ((g + 1 : Nat) : Int) := by rw [w32_i (by omega) (by omega)]; rfl
    rw [u_m_salts_81, m_isAlive_eq _ _ M (by rw [hV]; omega) (by rw [hV]; omega), bndI_s, hV, hal, if_neg (show ¬ bI true = 0 by decide), e1, e2, e3, al175, al176, inb_s (by omega) (by omega), inb_s (by omega) (by omega), inb_s (by omega) (by omega), tn_n, tn_n, tn_n, hg g (by omega), hr (left - g) (by omega), ht, w32_i (x := G g + _) (by omega) (by omega)]
    simp only [fwF]
    by_cases hq : G g + R (left - g) = t
    · rw [if_pos hq, if_pos hq, e4, e5]
    · rw [if_neg hq, if_neg hq, e6]
      refine m_salts_81_lp d V w s e left n R G t M hs he hl hn h10 hV hal hG hR hg hr ht f (g + 1) (by omega) ?_
      obtain ⟨g', h1, h2, h3⟩ := hex
      refine ⟨g', ?_, h2, h3⟩
      by_cases e : g' = g
      · subst e; exact absurd h3 hq
      · omega
theorem m_salts_69_lp (d : Nat) (V : aW) (L : aLaw) (s n D : Nat) (M : aM) (hs : s ≤ 20) (hn : V 41 = n) (h10 : n ≤ 10) (hD : D < n) (hV : M 158 = V) (hg : ∀ a g, a < n → g ≤ s → M 175 (21 * a + g) = gn V L a g) (ht : ∀ a l, a ≤ n → l ≤ s → M 176 (21 * a + l) = tT V L (10 - a) l) : ∀ (f e left g : Nat), e + f = D + 1 → left ≤ s → g ≤ 20 →
    w_m_salts_69 (d + 3) ((D : Int) + 10) left g e M = some ([aI ((givN V L f e left g : Nat) : Int)], M)
  | 0, e, left, g, h, hl, hg2 => by
    rw [u_m_salts_69, w32_i (by omega) (by omega), if_pos (by omega)]; rfl
  | f + 1, e, left, g, h, hl, hg2 => by
    have hle := givT_le V L left e
    have ih := m_salts_69_lp d V L s n D M hs hn h10 hD hV hg ht f (e + 1) (left - givT V L left e) (givT V L left e) (by omega) (by omega) (by omega)
    rw [u_m_salts_69, w32_i (by omega) (by omega), if_neg (by omega)]
    show _ = some ([aI ((givN V L f (e + 1) (left - givT V L left e) (givT V L left e) : Nat) : Int)], M)
    rw [← ih]
    cases hal : al V e with
    | false =>
      have eg : givT V L left e = 0 := by unfold givT; rw [hal, if_neg (by decide)]
      rw [eg, u_m_salts_81, m_isAlive_eq _ _ M (by rw [hV]; omega) (by rw [hV]; omega), bndI_s, hV, hal, if_pos (show bI false = 0 from rfl)]
      have e1 : w32 ((left : Int) - 0) = ((left - 0 : Nat) : Int) := by rw [w32_i (by omega) (by omega)]; omega
      have e5 : w32 ((e : Int) + 1) = ((e + 1 : Nat) : Int) := by rw [w32_i (by omega) (by omega)]; rfl
      dsimp only
      rw [e1, e5]
      rfl
    | true =>
      have eg : givT V L left e = fwF (tT V L (9 - e)) (gn V L e) (tT V L (10 - e) left) left (left + 1) 0 := by unfold givT; rw [hal, if_pos rfl]
      rw [eg]
      refine m_salts_81_lp d V _ s e left n _ _ _ M hs (by omega) hl hn h10 hV hal (gn_in V L e) (fun l => by have := tT_in V L (9 - e) l; omega) (fun k hk => hg e k (by omega) hk) (fun l hl' => ?_) (ht e left (by omega) hl) (left + 1) 0 (by omega) ?_
      · have := ht (e + 1) l (by omega) hl'
        rwa [show 10 - (e + 1) = 9 - e by omega] at this
      · obtain ⟨g', h1, h2⟩ := mxT_ex (R := tT V L (9 - e)) (G := gn V L e) (left := left) (fun g => (gn_in V L e g).1) (fun l => (tT_in V L (9 - e) l).1) (left + 1) (by omega)
        refine ⟨g', by omega, by omega, ?_⟩
        rw [h2, show 10 - e = (9 - e) + 1 by omega]
        simp only [tT]
        rw [show 9 - (9 - e) = e by omega, hal, if_pos rfl]
noncomputable def vSalts (v w : Int) (V : aW) (L : aLaw) : Int :=
  if V 10 ≠ 0 ∧ 1 ≤ v ∧ v ≤ 20 then (if w = 0 then tT V L 10 v.toNat else if 10 ≤ w ∧ w - 10 < V 41 then ((givN V L ((w - 10).toNat + 1) 0 v.toNat 0 : Nat) : Int) else -1) else -1
theorem pr_salts (d : Nat) (v w : Int) (hw32 : in32 w) : pr (w_x_salts (d + 40) v w) (w_m_salts (d + 40) v w) := by
  unfold in32 at hw32
  refine pr_qV (fun V L => vSalts v w V L) ?_ ?_
  · intro L Lk M hI
    obtain ⟨⟨hW, hT, hw, hv, hok⟩, -⟩ := hI
    obtain ⟨n, hn, h10⟩ := okW_n hW
    have h4 := hW.2.2.2.2.1
    rw [l_x_salts, show M 2 5 = M 158 10 from (rW_wd hw).2.1]
    unfold vSalts
    refine wp_if (fun h => wp_ret ⟨by rw [if_neg (by omega)], agQ_refl _⟩) (fun h0 => ?_)
    refine wp_if (fun h => wp_ret ⟨by rw [if_neg (by omega)], agQ_refl _⟩) (fun h1 => ?_)
    refine wp_if (fun h => wp_ret ⟨by rw [if_neg (by omega)], agQ_refl _⟩) (fun h2 => ?_)
    rw [if_pos (show M 158 10 ≠ 0 ∧ 1 ≤ v ∧ v ≤ 20 by omega)]
    obtain ⟨s, rfl⟩ : ∃ s : Nat, v = s := ⟨v.toNat, by omega⟩
    rw [tn_n]
    have agF : ∀ M', fr [9, 30, 155, 156] M M' → agQ M M' := fun M' f => agQ_fr f (by intro k hk; simp at hk; unfold qs; omega)
    refine wp_if (fun hw0 => ?_) (fun hw0 => ?_)
    · rw [if_pos hw0]
      refine wp_fI (l := [9, 30, 155, 156]) (M := M) (v := tT (M 158) L 10 s) ?_ fun M1 f1 => wp_ret ⟨rfl, agF M1 f1⟩
      rw [l_th_saltedSum]
      refine wp_bV (th_giveSalts_eq _ (M 158) L s n M (by omega) hok hn h10 h4 (rW_wd hw) hw.1.2.2.1) ?_
      rintro M1 ⟨f1, t1, g1⟩
      refine wp_neg (by omega) ?_
      refine wp_pos (by omega) ?_
      rw [al155]
      refine wp_inb ⟨by omega, by omega⟩ ?_
      refine wp_ret ⟨?_, f1⟩
      have := t1 10 s (by omega) (by omega)
      rw [tn_n]
      rw [show 21 * (10 - 10) + s = s by omega] at this
      rw [this]
    rw [if_neg hw0]
    refine wp_if (fun h => wp_ret ⟨by rw [if_neg (by omega)], agQ_refl _⟩) (fun h3 => ?_)
    rw [w32_i (by omega) (by omega)]
    refine wp_eI (wood_has_eq _ 2 _ (M 158) M (rW_wd hw).1 (by omega)) ?_
    refine wp_bif (fun h => ?_) (fun h => ?_)
    · have h := of_decide_eq_false h
      exact wp_ret ⟨by rw [if_neg (by omega)], agQ_refl _⟩
    have h := of_decide_eq_true h
    rw [if_pos (show 10 ≤ w ∧ w - 10 < M 158 41 by omega)]
    obtain ⟨D, hD⟩ : ∃ D : Nat, w - 10 = D := ⟨(w - 10).toNat, by omega⟩
    rw [hD, tn_n]
    refine wp_fI (l := [9, 30, 155, 156]) (M := M) (v := ((givN (M 158) L (D + 1) 0 s 0 : Nat) : Int)) ?_ fun M1 f1 => wp_ret ⟨rfl, agF M1 f1⟩
    rw [l_th_saltGiven]
    refine wp_bV (th_giveSalts_eq _ (M 158) L s n M (by omega) hok hn h10 h4 (rW_wd hw) hw.1.2.2.1) ?_
    rintro M1 ⟨f1, t1, g1⟩
    exact ⟨_, _, th_saltGiven_lp _ (M 158) L s n M1 (by omega) hn h10 (rWd_fr (rW_wd hw) fun k _ _ => f1 k (by simp; omega)) t1 g1 D (by omega) (D + 1) 0 s 0 (by omega) (by omega) (by omega), rfl, f1⟩
  · intro L Lk M hI
    obtain ⟨⟨hW, hT, hw, hv, hok⟩, -⟩ := hI
    obtain ⟨n, hn, h10⟩ := okW_n hW
    have h4 := hW.2.2.2.2.1
    rw [l_m_salts]
    refine wp_eI (m_isIn_eq _ _ _ _ _) ?_
    unfold vSalts
    refine wp_bif (fun h => ?_) (fun h => ?_)
    · have h := of_decide_eq_false h
      exact wp_ret ⟨by rw [if_neg (by omega)], agQ_refl _⟩
    have h1 := of_decide_eq_true h
    rw [al158]
    refine wp_inb ⟨by omega, by omega⟩ ?_
    refine wp_if (fun h => wp_ret ⟨by rw [if_neg (by omega)], agQ_refl _⟩) (fun h0 => ?_)
    rw [if_pos (show M 158 10 ≠ 0 ∧ 1 ≤ v ∧ v ≤ 20 by omega)]
    obtain ⟨s, rfl⟩ : ∃ s : Nat, v = s := ⟨v.toNat, by omega⟩
    rw [tn_n]
    have agF : ∀ M', fr [158, 166, 167, 175, 176] M M' → M' 158 = M 158 → agQ M M' := fun M' f e => ⟨fun k a b => by
      by_cases h : k = 158
      · subst h; exact e
      · exact f k (by unfold qs at a; simp; omega), fun j _ _ => by rw [f 157 (by simp)]⟩
    refine wp_if (fun hw0 => ?_) (fun hw0 => ?_)
    · rw [if_pos hw0]
      refine wp_bV (m_laysSalt_eq _ (M 158) L s n M (by omega) hn h10 hok hv h4 rfl) ?_
      rintro M1 ⟨v1, f1, g1, t1⟩
      refine wp_pos hw0 ?_
      rw [al176]
      refine wp_inb ⟨by omega, by omega⟩ ?_
      refine wp_ret ⟨?_, agF M1 f1 v1⟩
      have := t1 0 s (by omega) (by omega)
      rw [show 21 * 0 + s = s by omega] at this
      rw [this]
    rw [if_neg hw0]
    refine wp_inb ⟨by omega, by omega⟩ ?_
    refine wp_eI (m_isIn_eq _ _ _ _ _) ?_
    rw [w32_i (by omega) (by omega)]
    refine wp_bif (fun h => ?_) (fun h => ?_)
    · have h := of_decide_eq_false h
      exact wp_ret ⟨by rw [if_neg (by omega)], agQ_refl _⟩
    have h := of_decide_eq_true h
    rw [if_pos (show 10 ≤ w ∧ w - 10 < M 158 41 by omega)]
    obtain ⟨D, hD⟩ : ∃ D : Nat, w - 10 = D := ⟨(w - 10).toNat, by omega⟩
    rw [hD, tn_n]
    refine wp_bV (m_laysSalt_eq _ (M 158) L s n M (by omega) hn h10 hok hv h4 rfl) ?_
    rintro M1 ⟨v1, f1, g1, t1⟩
    refine wp_neg hw0 ?_
    have lp := m_salts_69_lp (d + 36) (M 158) L s n D M1 (by omega) hn h10 (by omega) v1 g1 t1 (D + 1) 0 s 0 (by omega) (by omega) (by omega)
    rw [show ((D : Int) + 10) = w by omega] at lp
    exact ⟨_, _, lp, rfl, agF M1 f1 v1⟩
