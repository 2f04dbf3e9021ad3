/-! salts: what each is given, and the reference -/
theorem th_giveSalts_eq (d : Nat) (V : aW) (L : aLaw) (s n : Nat) (M : aM) (hs : s ≤ 20) (hok : okLaw L) (hn : V 41 = n) (h10 : n ≤ 10) (h4 : 0 ≤ V 4 ∧ V 4 ≤ 99) (hw : rWd 2 V M) (hL : rLaw 7 L M) :
    wp (w_th_giveSalts (d + 9) 1 s M) fun r M' => r = [] ∧ fr [9, 30, 155, 156] M M' ∧ (∀ j l, j ≤ 10 → l ≤ s → M' 155 (21 * (10 - j) + l) = tT V L j l) ∧ (∀ e g : Nat, e < 10 → al V e = true → g ≤ s → M' 156 (21 * e + g) = gn V L e g) := by
  rw [l_th_giveSalts]
  refine wp_bV (ja_fillI_eq _ 155 (-1000000) 231 al155 (by omega) M) ?_
  rintro M1 ⟨f1, g1⟩
  rw [al155]
  refine wp_inb ⟨by omega, by omega⟩ ?_
  refine wp_up fun M2 f2 g2 => ?_
  have f12 : fr [155] M M2 := fr_tt f1 f2
  refine wp_mono (th_giveSalts_lp _ V L s n hs hok hn h10 h4 0 M2 (by omega) (rWd_fr hw fun j _ _ => f12 j (by simp; omega)) (rLaw_fr hL fun j _ _ _ => f12 j (by simp; omega)) (fun j l hj hl => ?_) (fun j hj => ?_) (fun e g a b _ _ => by omega)) ?_
  · have : j = 0 := by omega
    subst this
    rw [g2, g1]
    simp only [tT]
    by_cases h : l = 0
    · subst h; rw [if_pos (by omega), if_pos rfl]
    · rw [if_neg (by omega), if_pos (by omega), if_neg h]
  · rw [g2, g1, if_neg (by omega), if_pos (by omega)]
  · rintro r M' ⟨q1, q2, q3⟩
    exact ⟨q1, fr_tr f12 q2 (by simp) (by simp), q3⟩
theorem th_fewest_lp (d e s left : Nat) (R G : Nat → Int) (t : Int) (M : aM) (he : e < 10) (hs : s ≤ 20) (hl : left ≤ s) (hG : ∀ g, 0 ≤ G g ∧ G g ≤ 999) (hR : ∀ l, -1000000 ≤ R l ∧ R l ≤ 9990) (hg : ∀ k, k ≤ s → M 156 (21 * e + k) = G k) (hr : ∀ l, l ≤ s → M 155 (21 * (e + 1) + l) = R l) (ht : M 155 (21 * e + left) = t) : ∀ (f g : Nat), g + f = left + 1 →
    w_th_fewest_2 d e left g M = some ([aI ((fwF R G t left f g : Nat) : Int)], M)
  | 0, g, h => by rw [u_th_fewest_2, if_pos (by omega)]; rfl
  | f + 1, g, h => by
    have ih := th_fewest_lp d e s left R G t M he hs hl hG hR hg hr ht f (g + 1) (by omega)
    have b2 := hG g
    have b3 := hR (left - g)
    have e1 : w32 (w32 ((e : Int) * 21) + g) = ((21 * e + g : Nat) : Int) := by simp (disch := omega) only [w32_i]; omega
    have e2 : w32 (w32 (w32 (w32 ((e : Int) + 1) * 21) + left) - g) = ((21 * (e + 1) + (left - g) : Nat) : Int) := by simp (disch := omega) only [w32_i]; omega
    have e3 : w32 (w32 ((e : Int) * 21) + left) = ((21 * e + left : Nat) : Int) := by simp (disch := omega) only [w32_i]; omega
    rw [u_th_fewest_2, if_neg (by omega), if_pos (by omega), e1, e2, e3, al155, al156, inb_s (by omega) (by omega)]
    dsimp only
    rw [inb_s (by omega) (by omega), inb_s (by omega) (by omega), tn_n, tn_n, tn_n, hg g (by omega), hr (left - g) (by omega), ht, w32_i (by omega) (by omega)]
    simp only [fwF]
    by_cases hq : G g + R (left - g) = t
    · rw [if_pos hq, if_pos hq]
    · rw [if_neg hq, if_neg hq, w32_i (by omega) (by omega)]
      exact ih
theorem th_saltGiven_lp (d : Nat) (V : aW) (L : aLaw) (s n : Nat) (M : aM) (hs : s ≤ 20) (hn : V 41 = n) (h10 : n ≤ 10) (hw : rWd 2 V M) (ht : ∀ j l, j ≤ 10 → l ≤ s → M 155 (21 * (10 - j) + l) = tT V L j l) (hg : ∀ e g : Nat, e < 10 → al V e = true → g ≤ s → M 156 (21 * e + g) = gn V L e g) (D : Nat) (hD : D < n) : ∀ (f e left g : Nat), e + f = D + 1 → left ≤ s → g ≤ 20 →
    w_th_saltGiven_15 (d + 2) 1 D left g e M = some ([aI ((givN V L f e left g : Nat) : Int)], M)
  | 0, e, left, g, h, hl, hg2 => by rw [u_th_saltGiven_15, if_pos (by omega)]; rfl
  | f + 1, e, left, g, h, hl, hg2 => by
    have hle := givT_le V L left e
    have ih := th_saltGiven_lp d V L s n M hs hn h10 hw ht hg D hD f (e + 1) (left - givT V L left e) (givT V L left e) (by omega) (by omega) (by omega)
    rw [u_th_saltGiven_15, if_neg (by omega), if_pos (by omega), show 1 + 1 = 2 from rfl, wood_isAlive_eq _ 2 e V M hw (by omega), bndI_s]
    have e0 : w32 ((e : Int) + 1) = ((e + 1 : Nat) : Int) := by rw [w32_i (by omega) (by omega)]; rfl
    dsimp only
    rw [e0]
    cases hal : al V e with
    | false =>
      have eg : givT V L left e = 0 := by unfold givT; rw [hal, if_neg (by decide)]
      rw [eg] at ih
      rw [if_pos (show bI false = 0 from rfl)]
      have e1 : w32 ((left : Int) - 0) = ((left - 0 : Nat) : Int) := by rw [w32_i (by omega) (by omega)]; omega
      rw [e1]
      show _ = some ([aI ((givN V L f (e + 1) (left - givT V L left e) (givT V L left e) : Nat) : Int)], M)
      rw [eg]
      exact ih
    | true =>
      have eg : givT V L left e = fwF (tT V L (9 - e)) (gn V L e) (tT V L (10 - e) left) left (left + 1) 0 := by unfold givT; rw [hal, if_pos rfl]
      rw [if_neg (show ¬ bI true = 0 by decide)]
      have q : w_th_fewest (d + 2) e left M = some ([aI ((givT V L left e : Nat) : Int)], M) := by
        rw [eg, u_th_fewest]
        refine th_fewest_lp _ e s left _ _ _ M (by omega) hs hl (gn_in V L e) (fun l => by have := tT_in V L (9 - e) l; omega) (fun k hk => hg e k (by omega) hal hk) (fun l hl' => ?_) ?_ (left + 1) 0 (by omega)
        · have := ht (9 - e) l (by omega) hl'
          rwa [show 10 - (9 - e) = e + 1 by omega] at this
        · have := ht (10 - e) left (by omega) hl
          rwa [show 10 - (10 - e) = e by omega] at this
      rw [q, bndI_s]
      have e1 : w32 ((left : Int) - ((givT V L left e : Nat) : Int)) = ((left - givT V L left e : Nat) : Int) := by rw [w32_i (by omega) (by omega)]; omega
      rw [e1]
      exact ih
/-! in the reference -/
theorem come_4 (V : aW) (x : Int) (k : Nat) : vS (vS V 4 x) 4 (V 4) k = V k := by
  simp only [vS_eq]
  split
  · next h => rw [h]
  · rfl
theorem m_laysSalt_23_lp (d : Nat) (V : aW) (L : aLaw) (s e n : Nat) (hs : s ≤ 20) (he : e < n) (hn : V 41 = n) (h10 : n ≤ 10) (hok : okLaw L) (hL : vLaw L V) (h4 : 0 ≤ V 4 ∧ V 4 ≤ 99) (Q : List aV → aM → Prop) : ∀ (f g : Nat) (M : aM), g + f = s + 1 → (∃ x, M 158 = vS V 4 x) →
    (∀ M', fr [158, 166, 167, 175] M M' → (∃ x, M' 158 = vS V 4 x) → (∀ k, M' 175 k = if 21 * e + g ≤ k ∧ k ≤ 21 * e + s then gn V L e (k - 21 * e) else M 175 k) → wp (w_m_laysSalt_9 (d + 6) s (V 4) ((e + 1 : Nat) : Int) M') Q) → wp (w_m_laysSalt_23 (d + 6) s (V 4) e g M) Q
  | 0, g, M, h, hx, hQ => by
    rw [l_m_laysSalt_23]
    refine wp_pos (by omega) ?_
    refine wp_I ?_
    (try simp (disch := omega) only [w32_i, tn_l, tn_n, tn_r, tn_s, tn_1, Nat.add_sub_cancel, Int.reduceToNat, Int.toNat_zero, Int.toNat_one, al3, al4, al5, al6, al8, al9, al11, al13, al15, al17, al19, al21, al23, al25, al27, al29, al30, al31, al95, al96, al128, al129, al130, al131, al134, al135, al137, al139, al140, al142, al143, al144, al145, al147, al148, al149, al151, al152, al153, al154, al155, al156, al158, al159, al160, al161, al162, al163, al164, al165, al166, al167, al168, al169, al170, al171, al172, al173, al174, al175, al176])
    exact hQ M (fr_refl _ _) hx fun k => by rw [if_neg (by omega)]
  | f + 1, g, M, h, ⟨x, hx⟩, hQ => by
    rw [l_m_laysSalt_23]
    refine wp_neg (by omega) ?_
    refine wp_eI (m_lesser_eq _ _ _ _) ?_
    rw [al158]
    refine wp_inb ⟨by omega, by omega⟩ ?_
    refine wp_w fun M1 w1 f1 => ?_
    have w1' : M1 158 = vS V 4 (imin 99 (w32 (V 4 + g))) := by
      rw [w1, hx]; funext k; simp only [vS_eq]; split <;> rfl
    refine wp_fI (m_comeOf_eq _ _ L e M1 w1' (by omega) (vLaw_V hL fun k hk => vS_ne (by omega)) hok) fun M2 f2 => ?_
    have e1 : w32 (w32 (21 * (e : Int)) + g) = ((21 * e + g : Nat) : Int) := by simp (disch := omega) only [w32_i]; omega
    rw [e1, al175, tn_n]
    refine wp_inb ⟨by omega, by omega⟩ ?_
    refine wp_up fun M3 f3 g3 => ?_
    refine wp_I ?_
    (try simp (disch := omega) only [w32_i, tn_l, tn_n, tn_r, tn_s, tn_1, Nat.add_sub_cancel, Int.reduceToNat, Int.toNat_zero, Int.toNat_one, al3, al4, al5, al6, al8, al9, al11, al13, al15, al17, al19, al21, al23, al25, al27, al29, al30, al31, al95, al96, al128, al129, al130, al131, al134, al135, al137, al139, al140, al142, al143, al144, al145, al147, al148, al149, al151, al152, al153, al154, al155, al156, al158, al159, al160, al161, al162, al163, al164, al165, al166, al167, al168, al169, al170, al171, al172, al173, al174, al175, al176])
    refine m_laysSalt_23_lp d V L s e n hs he hn h10 hok hL h4 Q f (g + 1) M3 (by omega) ⟨_, by rw [f3 158 (by simp), f2 158 (by simp), w1']⟩ ?_
    intro M' f' x' g'
    refine hQ M' (fr_tt (fr_tr f1 (fr_tr f2 f3 (l := [166, 167, 175]) (by simp) (by simp)) (by simp) (by simp)) f') x' fun k => ?_
    rw [g', g3, f2 175 (by simp), f1 175 (by simp)]
    by_cases e2 : k = 21 * e + g
    · subst e2
      rw [if_neg (by omega), if_pos rfl, if_pos (by omega), show 21 * e + g - 21 * e = g by omega]
      rfl
    · by_cases e3 : 21 * e + (g + 1) ≤ k ∧ k ≤ 21 * e + s
      · rw [if_pos e3, if_pos (by omega)]
      · rw [if_neg e3, if_neg e2, if_neg (by omega)]
theorem m_laysSalt_9_lp (d : Nat) (V : aW) (L : aLaw) (s n : Nat) (hs : s ≤ 20) (hn : V 41 = n) (h10 : n ≤ 10) (hok : okLaw L) (hL : vLaw L V) (h4 : 0 ≤ V 4 ∧ V 4 ≤ 99) (Q : List aV → aM → Prop) : ∀ (f e : Nat) (M : aM), e + f = n → (∃ x, M 158 = vS V 4 x) → (∀ a g, a < e → g ≤ s → M 175 (21 * a + g) = gn V L a g) →
    (∀ M', fr [158, 166, 167, 175] M M' → M' 158 = V → (∀ a g, a < n → g ≤ s → M' 175 (21 * a + g) = gn V L a g) → wp (w_m_laysSalt_88 (d + 6) s n M') Q) → wp (w_m_laysSalt_9 (d + 6) s (V 4) e M) Q
  | 0, e, M, h, ⟨x, hx⟩, hg, hQ => by
    rw [l_m_laysSalt_9]
    (try simp (disch := omega) only [w32_i, tn_l, tn_n, tn_r, tn_s, tn_1, Nat.add_sub_cancel, Int.reduceToNat, Int.toNat_zero, Int.toNat_one, al3, al4, al5, al6, al8, al9, al11, al13, al15, al17, al19, al21, al23, al25, al27, al29, al30, al31, al95, al96, al128, al129, al130, al131, al134, al135, al137, al139, al140, al142, al143, al144, al145, al147, al148, al149, al151, al152, al153, al154, al155, al156, al158, al159, al160, al161, al162, al163, al164, al165, al166, al167, al168, al169, al170, al171, al172, al173, al174, al175, al176])
    refine wp_inb ⟨by omega, by omega⟩ ?_
    have e41 : M 158 41 = n := by rw [hx, vS_ne (by omega), hn]
    refine wp_neg (by omega) ?_
    refine wp_inb ⟨by omega, by omega⟩ ?_
    refine wp_w fun M1 w1 f1 => ?_
    have w1' : M1 158 = V := by rw [w1, hx]; funext k; exact come_4 V x k
    refine wp_inb ⟨by omega, by omega⟩ ?_
    refine wp_I ?_
    rw [w1', hn]
    exact hQ M1 (fr_w f1 (by simp)) w1' fun a g ha hg' => by rw [f1 175 (by simp)]; exact hg a g (by omega) hg'
  | f + 1, e, M, h, ⟨x, hx⟩, hg, hQ => by
    rw [l_m_laysSalt_9]
    (try simp (disch := omega) only [w32_i, tn_l, tn_n, tn_r, tn_s, tn_1, Nat.add_sub_cancel, Int.reduceToNat, Int.toNat_zero, Int.toNat_one, al3, al4, al5, al6, al8, al9, al11, al13, al15, al17, al19, al21, al23, al25, al27, al29, al30, al31, al95, al96, al128, al129, al130, al131, al134, al135, al137, al139, al140, al142, al143, al144, al145, al147, al148, al149, al151, al152, al153, al154, al155, al156, al158, al159, al160, al161, al162, al163, al164, al165, al166, al167, al168, al169, al170, al171, al172, al173, al174, al175, al176])
    refine wp_inb ⟨by omega, by omega⟩ ?_
    have e41 : M 158 41 = n := by rw [hx, vS_ne (by omega), hn]
    refine wp_pos (by omega) ?_
    refine m_laysSalt_23_lp d V L s e n hs (by omega) hn h10 hok hL h4 Q (s + 1) 0 M (by omega) ⟨x, hx⟩ ?_
    intro M1 f1 x1 g1
    refine m_laysSalt_9_lp d V L s n hs hn h10 hok hL h4 Q f (e + 1) M1 (by omega) x1 (fun a g ha hg' => ?_) (fun M' f' => hQ M' (fr_tt f1 f'))
    rw [g1]
    by_cases hae : a = e
    · subst hae
      rw [if_pos (by omega), show 21 * a + g - 21 * a = g by omega]
    · rw [if_neg (by omega)]; exact hg a g (by omega) hg'
/-- a place of the reference's table -/
theorem m_laysSalt_160_lp (d : Nat) (V : aW) (s e n left : Nat) (R G : Nat → Int) (b0 : Int) (hs : s ≤ 20) (hl : left ≤ s) (he : e ≤ n) (hn : V 41 = n) (h10 : n ≤ 10) (hG : ∀ g, 0 ≤ G g ∧ G g ≤ 999) (hR : ∀ l, -1000000 ≤ R l ∧ R l ≤ 9990) (Q : List aV → aM → Prop) : ∀ (f g : Nat) (b : Int) (M : aM), g + f = left + 1 → M 158 = V → (al V e = true → (∀ k, k ≤ s → M 175 (21 * e + k) = G k) ∧ (∀ l, l ≤ s → M 176 (21 * (e + 1) + l) = R l)) → b = (if al V e = true then mxT R G left g else b0) →
    (∀ M', fr [176] M M' → (∀ k, M' 176 k = if k = 21 * e + left then (if al V e = true then mxT R G left (left + 1) else b0) else M 176 k) → wp (w_m_laysSalt_95 (d + 3) s e ((left + 1 : Nat) : Int) M') Q) → wp (w_m_laysSalt_160 (d + 3) s e left b g M) Q := by
  have fin : ∀ (M : aM), (∀ M', fr [176] M M' → (∀ k, M' 176 k = if k = 21 * e + left then (if al V e = true then mxT R G left (left + 1) else b0) else M 176 k) → wp (w_m_laysSalt_95 (d + 3) s e ((left + 1 : Nat) : Int) M') Q) → ∀ b, b = (if al V e = true then mxT R G left (left + 1) else b0) → wp (inb (w32 ((w32 (21 * (e : Int))) + left)) (aLen 176) (aLet (aUp M 176 (w32 ((w32 (21 * (e : Int))) + left)).toNat b) fun M22 => iLet (w32 ((left : Int) + 1)) fun v23 => w_m_laysSalt_95 (d + 3) s e v23 M22)) Q := by
    intro M hQ b hb
    have e3 : w32 (w32 (21 * (e : Int)) + left) = ((21 * e + left : Nat) : Int) := by simp (disch := omega) only [w32_i]; omega
    rw [e3, al176, tn_n]
    refine wp_inb ⟨by omega, by omega⟩ ?_
    refine wp_up fun M1 f1 g1 => ?_
    refine wp_I ?_
    (try simp (disch := omega) only [w32_i, tn_l, tn_n, tn_r, tn_s, tn_1, Nat.add_sub_cancel, Int.reduceToNat, Int.toNat_zero, Int.toNat_one, al3, al4, al5, al6, al8, al9, al11, al13, al15, al17, al19, al21, al23, al25, al27, al29, al30, al31, al95, al96, al128, al129, al130, al131, al134, al135, al137, al139, al140, al142, al143, al144, al145, al147, al148, al149, al151, al152, al153, al154, al155, al156, al158, al159, al160, al161, al162, al163, al164, al165, al166, al167, al168, al169, al170, al171, al172, al173, al174, al175, al176])
    exact hQ M1 f1 fun k => by rw [g1, hb]
  intro f
  induction f with
  | zero =>
    intro g b M h hV hyp hb hQ
    rw [l_m_laysSalt_160]
    refine wp_pos (by omega) ?_
    have : g = left + 1 := by omega
    subst this
    exact fin M hQ b hb
  | succ f ih =>
    intro g b M h hV hyp hb hQ
    rw [l_m_laysSalt_160]
    refine wp_neg (by omega) ?_
    refine wp_eI (m_isAlive_eq _ _ M (by rw [hV]; omega) (by rw [hV]; omega)) ?_
    rw [hV]
    refine wp_bif (fun hal => ?_) (fun hal => ?_)
    · exact fin M hQ b (by rw [hb, hal]; simp)
    · obtain ⟨hg, hr⟩ := hyp hal
      have hlt := al_lt hal
      have b1 := mxT_in hG hR (by omega) left g
      have b2 := hG g
      have b3 := hR (left - g)
      have e1 : w32 (w32 (21 * (e : Int)) + g) = ((21 * e + g : Nat) : Int) := by simp (disch := omega) only [w32_i]; omega
      have e2 : w32 (w32 (w32 (21 * w32 ((e : Int) + 1)) + left) - g) = ((21 * (e + 1) + (left - g) : Nat) : Int) := by simp (disch := omega) only [w32_i]; omega
      rw [e1, e2, al175, al176]
      simp only [tn_n]
      refine wp_inb ⟨by omega, by omega⟩ ?_
      refine wp_inb ⟨by omega, by omega⟩ ?_
      rw [hg g (by omega), hr (left - g) (by omega), w32_i (x := G g + _) (by omega) (by omega)]
      refine wp_eI (m_greater_eq _ _ _ _) ?_
      refine wp_I ?_
      (try simp (disch := omega) only [w32_i, tn_l, tn_n, tn_r, tn_s, tn_1, Nat.add_sub_cancel, Int.reduceToNat, Int.toNat_zero, Int.toNat_one, al3, al4, al5, al6, al8, al9, al11, al13, al15, al17, al19, al21, al23, al25, al27, al29, al30, al31, al95, al96, al128, al129, al130, al131, al134, al135, al137, al139, al140, al142, al143, al144, al145, al147, al148, al149, al151, al152, al153, al154, al155, al156, al158, al159, al160, al161, al162, al163, al164, al165, al166, al167, al168, al169, al170, al171, al172, al173, al174, al175, al176])
      refine ih (g + 1) _ M (by omega) hV hyp ?_ hQ
      rw [hb, hal, if_pos rfl, if_pos rfl]; rfl
theorem m_laysSalt_95_lp (d : Nat) (V : aW) (L : aLaw) (s e n : Nat) (hs : s ≤ 20) (he : e ≤ n) (hn : V 41 = n) (h10 : n ≤ 10) (Q : List aV → aM → Prop) : ∀ (f left : Nat) (M : aM), left + f = s + 1 → M 158 = V → (∀ a g, a < n → g ≤ s → M 175 (21 * a + g) = gn V L a g) → (e < n → ∀ l, l ≤ s → M 176 (21 * (e + 1) + l) = tT V L (9 - e) l) →
    (∀ M', fr [176] M M' → (∀ k, M' 176 k = if 21 * e + left ≤ k ∧ k ≤ 21 * e + s then tT V L (10 - e) (k - 21 * e) else M 176 k) → wp (w_m_laysSalt_88 (d + 3) s ((e : Int) - 1) M') Q) → wp (w_m_laysSalt_95 (d + 3) s e left M) Q
  | 0, left, M, h, hV, hg, hr, hQ => by
    rw [l_m_laysSalt_95]
    refine wp_pos (by omega) ?_
    refine wp_I ?_
    rw [w32_i (by omega) (by omega), show (e : Int) + -1 = (e : Int) - 1 by omega]
    exact hQ M (fr_refl _ _) fun k => by rw [if_neg (by omega)]
  | f + 1, left, M, h, hV, hg, hr, hQ => by
    have hR : ∀ l, -1000000 ≤ tT V L (9 - e) l ∧ tT V L (9 - e) l ≤ 9990 := fun l => by have := tT_in V L (9 - e) l; omega
    have next : ∀ b0, (al V e = false → b0 = tT V L (10 - e) left) → ∀ b, (b = if al V e = true then mxT (tT V L (9 - e)) (gn V L e) left 0 else b0) → wp (w_m_laysSalt_160 (d + 3) s e left b 0 M) Q := by
      intro b0 hb0 b hb
      refine m_laysSalt_160_lp d V s e n left (tT V L (9 - e)) (gn V L e) b0 hs (by omega) he hn h10 (gn_in V L e) hR Q (left + 1) 0 b M (by omega) hV (fun hal => ?_) hb ?_
      · have := al_lt hal
        exact ⟨fun k hk => hg e k (by omega) hk, hr (by omega)⟩
      intro M1 f1 g1
      have val : (if al V e = true then mxT (tT V L (9 - e)) (gn V L e) left (left + 1) else b0) = tT V L (10 - e) left := by
        cases hal : al V e with
        | true =>
          have := al_lt hal
          rw [if_pos rfl, show 10 - e = (9 - e) + 1 by omega]
          simp only [tT]
          rw [show 9 - (9 - e) = e by omega, hal, if_pos rfl]
        | false => rw [if_neg (by decide)]; exact hb0 hal
      refine m_laysSalt_95_lp d V L s e n hs he hn h10 Q f (left + 1) M1 (by omega) (by rw [f1 158 (by simp), hV]) (fun a g x y => by rw [f1 175 (by simp)]; exact hg a g x y) (fun hen l hl => by rw [g1, if_neg (by omega)]; exact hr hen l hl) ?_
      intro M' f' g'
      refine hQ M' (fr_tt f1 f') fun k => ?_
      rw [g', g1, val]
      by_cases e1 : k = 21 * e + left
      · subst e1
        rw [if_neg (by omega), if_pos rfl, if_pos (by omega), show 21 * e + left - 21 * e = left by omega]
      · by_cases e2 : 21 * e + (left + 1) ≤ k ∧ k ≤ 21 * e + s
        · rw [if_pos e2, if_pos (by omega)]
        · rw [if_neg e2, if_neg e1, if_neg (by omega)]
    rw [l_m_laysSalt_95]
    refine wp_neg (by omega) ?_
    (try simp (disch := omega) only [w32_i, tn_l, tn_n, tn_r, tn_s, tn_1, Nat.add_sub_cancel, Int.reduceToNat, Int.toNat_zero, Int.toNat_one, al3, al4, al5, al6, al8, al9, al11, al13, al15, al17, al19, al21, al23, al25, al27, al29, al30, al31, al95, al96, al128, al129, al130, al131, al134, al135, al137, al139, al140, al142, al143, al144, al145, al147, al148, al149, al151, al152, al153, al154, al155, al156, al158, al159, al160, al161, al162, al163, al164, al165, al166, al167, al168, al169, al170, al171, al172, al173, al174, al175, al176])
    refine wp_inb ⟨by omega, by omega⟩ ?_
    rw [hV]
    refine wp_if (fun hen => ?_) (fun hen => ?_)
    · have hee : e = n := by omega
      have hal : al V e = false := al_hi hn (by omega)
      have tb := tT_base L hn (10 - e) (by omega) left
      refine wp_if (fun h0 => ?_) (fun h0 => ?_)
      · exact next 0 (fun _ => by rw [tb, if_pos (by omega)]) _ (by rw [hal, if_neg (by decide)])
      · exact next (-1000000) (fun _ => by rw [tb, if_neg (by omega)]) _ (by rw [hal, if_neg (by decide)])
    · refine wp_eI (m_isAlive_eq _ _ M (by rw [hV]; omega) (by rw [hV]; omega)) ?_
      rw [hV]
      refine wp_bif (fun hal => ?_) (fun hal => ?_)
      · have e2 : w32 (w32 (21 * w32 ((e : Int) + 1)) + left) = ((21 * (e + 1) + left : Nat) : Int) := by simp (disch := omega) only [w32_i]; omega
        have e2' : 21 * ((e : Int) + 1) + (left : Int) = ((21 * (e + 1) + left : Nat) : Int) := by omega
        first | rw [e2] | rw [e2']
        refine wp_inb ⟨by omega, by omega⟩ ?_
        refine wp_I ?_
        rw [show (21 * ((e : Int) + 1)).toNat + left = 21 * (e + 1) + left by omega, hr (by omega) left (by omega)]
        refine next (tT V L (9 - e) left) (fun _ => ?_) _ (by rw [hal, if_neg (by decide)])
        rw [show 10 - e = (9 - e) + 1 by omega]
        simp only [tT]
        rw [show 9 - (9 - e) = e by omega, hal, if_neg (by decide)]
      · exact next 0 (fun h => by rw [hal] at h; simp at h) _ (by rw [hal, if_pos rfl]; rfl)
theorem m_laysSalt_88_lp (d : Nat) (V : aW) (L : aLaw) (s n : Nat) (hs : s ≤ 20) (hn : V 41 = n) (h10 : n ≤ 10) : ∀ (e : Nat) (M : aM), e ≤ n → M 158 = V → (∀ a g, a < n → g ≤ s → M 175 (21 * a + g) = gn V L a g) → (∀ a l, e < a → a ≤ n → l ≤ s → M 176 (21 * a + l) = tT V L (10 - a) l) →
    wp (w_m_laysSalt_88 (d + 3) s e M) fun r M' => r = [] ∧ fr [176] M M' ∧ ∀ a l, a ≤ n → l ≤ s → M' 176 (21 * a + l) = tT V L (10 - a) l := by
  intro e
  induction e with
  | zero =>
    intro M he hV hg hr
    rw [l_m_laysSalt_88]
    refine wp_neg (by omega) ?_
    refine m_laysSalt_95_lp d V L s 0 n hs he hn h10 _ (s + 1) 0 M (by omega) hV hg (fun h l hl => by have := hr 1 l (by omega) (by omega) hl; simpa using this) ?_
    intro M1 f1 g1
    rw [l_m_laysSalt_88]
    refine wp_pos (by omega) ?_
    refine wp_ret ⟨rfl, f1, fun a l ha hl => ?_⟩
    rw [g1]
    by_cases h0 : a = 0
    · subst h0; rw [if_pos (by omega), show 21 * 0 + l - 21 * 0 = l by omega]
    · rw [if_neg (by omega)]; exact hr a l (by omega) ha hl
  | succ e ih =>
    intro M he hV hg hr
    rw [l_m_laysSalt_88]
    refine wp_neg (by omega) ?_
    refine m_laysSalt_95_lp d V L s (e + 1) n hs he hn h10 _ (s + 1) 0 M (by omega) hV hg (fun h l hl => by have := hr (e + 2) l (by omega) (by omega) hl; rwa [show 10 - (e + 2) = 9 - (e + 1) by omega] at this) ?_
    intro M1 f1 g1
    rw [show (((e + 1 : Nat) : Int) - 1) = (e : Int) by omega]
    refine wp_mono (ih M1 (by omega) (by rw [f1 158 (by simp), hV]) (fun a g x y => by rw [f1 175 (by simp)]; exact hg a g x y) (fun a l x y z => ?_)) ?_
    · rw [g1]
      by_cases h0 : a = e + 1
      · subst h0; rw [if_pos (by omega), show 21 * (e + 1) + l - 21 * (e + 1) = l by omega]
      · rw [if_neg (by omega)]; exact hr a l (by omega) y z
    · rintro r M' ⟨q1, q2, q3⟩
      exact ⟨q1, fr_tt f1 q2, q3⟩
theorem m_laysSalt_eq (d : Nat) (V : aW) (L : aLaw) (s n : Nat) (M : aM) (hs : s ≤ 20) (hn : V 41 = n) (h10 : n ≤ 10) (hok : okLaw L) (hL : vLaw L V) (h4 : 0 ≤ V 4 ∧ V 4 ≤ 99) (hV : M 158 = V) :
    wp (w_m_laysSalt (d + 7) s M) fun r M' => r = [] ∧ M' 158 = V ∧ fr [158, 166, 167, 175, 176] M M' ∧ (∀ a g, a < n → g ≤ s → M' 175 (21 * a + g) = gn V L a g) ∧ (∀ a l, a ≤ n → l ≤ s → M' 176 (21 * a + l) = tT V L (10 - a) l) := by
  rw [l_m_laysSalt]
  (try simp (disch := omega) only [w32_i, tn_l, tn_n, tn_r, tn_s, tn_1, Nat.add_sub_cancel, Int.reduceToNat, Int.toNat_zero, Int.toNat_one, al3, al4, al5, al6, al8, al9, al11, al13, al15, al17, al19, al21, al23, al25, al27, al29, al30, al31, al95, al96, al128, al129, al130, al131, al134, al135, al137, al139, al140, al142, al143, al144, al145, al147, al148, al149, al151, al152, al153, al154, al155, al156, al158, al159, al160, al161, al162, al163, al164, al165, al166, al167, al168, al169, al170, al171, al172, al173, al174, al175, al176])
  refine wp_inb ⟨by omega, by omega⟩ ?_
  refine wp_I ?_
  rw [hV]
  refine m_laysSalt_9_lp d V L s n hs hn h10 hok hL h4 _ n 0 M (by omega) ⟨V 4, by
    rw [hV]
    funext k
    by_cases h : k = 4
    · subst h; rw [vS_at]
    · rw [vS_ne h]⟩ (fun a g h => by omega) ?_
  intro M1 f1 v1 g1
  refine wp_mono (m_laysSalt_88_lp _ V L s n hs hn h10 n M1 (by omega) v1 g1 (fun a l x y => by omega)) ?_
  rintro r M' ⟨q1, q2, q3⟩
  exact ⟨q1, by rw [q2 158 (by simp), v1], fr_tr f1 q2 (by simp) (by simp), fun a g x y => by rw [q2 175 (by simp)]; exact g1 a g x y, q3⟩
