/-! salts -/
noncomputable def gn (V : aW) (L : aLaw) (e g : Nat) : Int := come (vS V 4 (imin 99 (w32 (V 4 + g)))) L e
noncomputable def mxT (R : Nat → Int) (G : Nat → Int) (left : Nat) : Nat → Int
  | 0 => -1000000
  | g + 1 => imax (mxT R G left g) (G g + R (left - g))
/-- the table's row of the deer 10 - k -/
noncomputable def tT (V : aW) (L : aLaw) : Nat → Nat → Int
  | 0, left => if left = 0 then 0 else -1000000
  | k + 1, left => if al V ((9 - k : Nat) : Int) = true then mxT (tT V L k) (gn V L (9 - k)) left (left + 1) else tT V L k left
theorem gn_in (V : aW) (L : aLaw) (e g : Nat) : 0 ≤ gn V L e g ∧ gn V L e g ≤ 999 := come_in _ _ _
theorem mxT_in {R G : Nat → Int} {b : Int} (hG : ∀ g, 0 ≤ G g ∧ G g ≤ 999) (hR : ∀ l, -1000000 ≤ R l ∧ R l ≤ b) (hb : 0 ≤ b) (left : Nat) : ∀ g, -1000000 ≤ mxT R G left g ∧ mxT R G left g ≤ b + 999
  | 0 => by simp only [mxT]; omega
  | g + 1 => by
    have := mxT_in hG hR hb left g
    have h1 := hG g
    have h2 := hR (left - g)
    simp only [mxT, imax]
    split <;> omega
theorem tT_in (V : aW) (L : aLaw) : ∀ k l, -1000000 ≤ tT V L k l ∧ tT V L k l ≤ 999 * k
  | 0, l => by simp only [tT]; split <;> omega
  | k + 1, l => by
    simp only [tT]
    split
    · have := mxT_in (R := tT V L k) (G := gn V L (9 - k)) (b := 999 * k) (gn_in V L _) (tT_in V L k) (by omega) l (l + 1)
      omega
    · have := tT_in V L k l; omega
theorem tT_base {V : aW} (L : aLaw) {n : Nat} (hn : V 41 = n) : ∀ k, k + n ≤ 10 → ∀ l, tT V L k l = if l = 0 then 0 else -1000000
  | 0, _, l => rfl
  | k + 1, h, l => by
    simp only [tT]
    rw [al_hi hn (by omega), if_neg (by decide)]
    exact tT_base L hn k (by omega) l
theorem mxT_ge {R G : Nat → Int} {left : Nat} : ∀ (m g : Nat), g < m → G g + R (left - g) ≤ mxT R G left m
  | 0, g, h => by omega
  | m + 1, g, h => by
    simp only [mxT, imax]
    by_cases e : g = m
    · subst e; split <;> omega
    · have := mxT_ge (R := R) (G := G) (left := left) m g (by omega)
      split <;> omega
theorem mxT_ex {R G : Nat → Int} {left : Nat} (hG : ∀ g, 0 ≤ G g) (hR : ∀ l, -1000000 ≤ R l) : ∀ m, 0 < m → ∃ g, g < m ∧ G g + R (left - g) = mxT R G left m
  | 0, h => by omega
  | m + 1, h => by
    simp only [mxT, imax]
    split
    · exact ⟨m, by omega, rfl⟩
    · next hlt =>
      by_cases hm : m = 0
      · subst hm
        have h1 := hG 0
        have h2 := hR left
        simp only [mxT] at hlt
        exact ⟨0, by omega, by simp only [mxT]; simp at hlt ⊢; omega⟩
      · obtain ⟨g, hg, e⟩ := mxT_ex (left := left) hG hR m (by omega)
        exact ⟨g, by omega, e⟩
/-- the fewest gift of a deer, from g on -/
noncomputable def fwF (R G : Nat → Int) (t : Int) (left : Nat) : Nat → Nat → Nat
  | 0, _ => 0
  | f + 1, g => if G g + R (left - g) = t then g else fwF R G t left f (g + 1)
theorem fwF_le (R G : Nat → Int) (t : Int) (left : Nat) : ∀ f g, g + f = left + 1 → fwF R G t left f g ≤ left
  | 0, _, _ => Nat.zero_le _
  | f + 1, g, h => by
    simp only [fwF]
    split
    · omega
    · exact fwF_le R G t left f (g + 1) (by omega)
noncomputable def givT (V : aW) (L : aLaw) (left e : Nat) : Nat := if al V e = true then fwF (tT V L (9 - e)) (gn V L e) (tT V L (10 - e) left) left (left + 1) 0 else 0
/-- what the last of f deer from e on is given, of left; g was given before -/
noncomputable def givN (V : aW) (L : aLaw) : Nat → Nat → Nat → Nat → Nat
  | 0, _, _, g => g
  | f + 1, e, left, _ => givN V L f (e + 1) (left - givT V L left e) (givT V L left e)
theorem givT_le (V : aW) (L : aLaw) (left e : Nat) : givT V L left e ≤ left := by
  unfold givT
  split
  · exact fwF_le _ _ _ _ _ _ (by omega)
  · omega
/-! in the class -/
theorem ja_fillI_lp (d a : Nat) (v : Int) (n : Nat) (hl : aLen a = n) (hn : n ≤ 100000) : ∀ (f i : Nat) (M : aM), i + f = n → wp (w_ja_fillI_5 d a v i n M) fun r M' => r = [] ∧ fr [a] M M' ∧ ∀ k, M' a k = if i ≤ k ∧ k < n then v else M a k
  | 0, i, M, h => by
    rw [l_ja_fillI_5]
    refine wp_neg (by omega) ?_
    exact wp_ret ⟨rfl, fr_refl _ _, fun k => by rw [if_neg (by omega)]⟩
  | f + 1, i, M, h => by
    rw [l_ja_fillI_5, hl]
    (try simp (disch := omega) only [w32_i, tn_l, tn_n, tn_r, tn_s, tn_1, Nat.add_sub_cancel, Int.reduceToNat, Int.toNat_zero, Int.toNat_one, al3, al4, al5, al6, al8, al9, al11, al13, al15, al17, al19, al21, al23, al25, al27, al29, al30, al31, al95, al96, al128, al129, al130, al131, al134, al135, al137, al139, al140, al142, al143, al144, al145, al147, al148, al149, al151, al152, al153, al154, al155, al156, al158, al159, al160, al161, al162, al163, al164, al165, al166, al167, al168, al169, al170, al171, al172, al173, al174, al175, al176])
    refine wp_pos (by omega) ?_
    refine wp_inb ⟨by omega, by omega⟩ ?_
    refine wp_up fun M1 f1 g1 => ?_
    refine wp_I ?_
    refine wp_mono (ja_fillI_lp d a v n hl hn f (i + 1) M1 (by omega)) ?_
    rintro r M' ⟨e, f', g'⟩
    refine ⟨e, fr_tt f1 f', fun k => ?_⟩
    rw [g', g1]
    by_cases e1 : k = i
    · subst e1; rw [if_neg (by omega), if_pos rfl, if_pos (by omega)]
    · by_cases e2 : i + 1 ≤ k ∧ k < n
      · rw [if_pos e2, if_pos (by omega)]
      · rw [if_neg e2, if_neg e1, if_neg (by omega)]
theorem ja_fillI_eq (d a : Nat) (v : Int) (n : Nat) (hl : aLen a = n) (hn : n ≤ 100000) (M : aM) : wp (w_ja_fillI (d + 1) a v M) fun r M' => r = [] ∧ fr [a] M M' ∧ ∀ k, M' a k = if k < n then v else M a k := by
  rw [l_ja_fillI, hl]
  refine wp_I ?_
  refine wp_mono (ja_fillI_lp d a v n hl hn n 0 M (by omega)) ?_
  rintro r M' ⟨e, f, g⟩
  exact ⟨e, f, fun k => by rw [g]; by_cases h : k < n <;> simp [h]⟩
theorem th_askGains_lp (d : Nat) (V : aW) (L : aLaw) (e s : Nat) (he : e < 10) (hs : s ≤ 20) (hok : okLaw L) (h10 : V 41 ≤ 10) (hk : (e : Int) < V 41) (h4 : 0 ≤ V 4 ∧ V 4 ≤ 99) : ∀ (f g : Nat) (M : aM), g + f = s + 1 → rWd 2 V M → rLaw 7 L M →
    wp (w_th_askGains_3 (d + 7) 1 e s g M) fun r M' => r = [] ∧ fr [9, 30, 156] M M' ∧ ∀ k, M' 156 k = if 21 * e + g ≤ k ∧ k ≤ 21 * e + s then gn V L e (k - 21 * e) else M 156 k
  | 0, g, M, h, hw, hL => by
    rw [l_th_askGains_3]
    refine wp_pos (by omega) ?_
    exact wp_ret ⟨rfl, fr_refl _ _, fun k => by rw [if_neg (by omega)]⟩
  | f + 1, g, M, h, hw, hL => by
    rw [l_th_askGains_3]
    refine wp_neg (by omega) ?_
    refine wp_pos (by omega) ?_
    rw [show M (1 + 1) 6 = V 4 from hw.2.2.1]
    refine wp_I ?_
    refine wp_fI (world_comeWithSalt_eq _ 1 V L (imin 99 (w32 (V 4 + g))) e M isWo1 hw hL hok h10 hk) fun M1 f1 => ?_
    have e1 : w32 (w32 ((e : Int) * 21) + g) = ((21 * e + g : Nat) : Int) := by simp (disch := omega) only [w32_i]; omega
    rw [e1, al156, tn_n]
    refine wp_inb ⟨by omega, by omega⟩ ?_
    refine wp_up fun M2 f2 g2 => ?_
    refine wp_I ?_
    (try simp (disch := omega) only [w32_i, tn_l, tn_n, tn_r, tn_s, tn_1, Nat.add_sub_cancel, Int.reduceToNat, Int.toNat_zero, Int.toNat_one, al3, al4, al5, al6, al8, al9, al11, al13, al15, al17, al19, al21, al23, al25, al27, al29, al30, al31, al95, al96, al128, al129, al130, al131, al134, al135, al137, al139, al140, al142, al143, al144, al145, al147, al148, al149, al151, al152, al153, al154, al155, al156, al158, al159, al160, al161, al162, al163, al164, al165, al166, al167, al168, al169, al170, al171, al172, al173, al174, al175, al176])
    refine wp_mono (th_askGains_lp d V L e s he hs hok h10 hk h4 f (g + 1) M2 (by omega) (rWd_fr hw fun k _ _ => by rw [f2 k (by simp; omega), f1 k (by simp; omega)]) (rLaw_fr hL fun k _ _ _ => by rw [f2 k (by simp; omega), f1 k (by simp; omega)])) ?_
    rintro r M' ⟨q1, q2, q3⟩
    refine ⟨q1, fr_tt (fr_tr f1 f2 (by simp) (by simp)) q2, fun k => ?_⟩
    rw [q3, g2, f1 156 (by simp)]
    by_cases e1 : k = 21 * e + g
    · subst e1
      rw [if_neg (by omega), if_pos rfl, if_pos (by omega), show 21 * e + g - 21 * e = g by omega]
      rfl
    · by_cases e2 : 21 * e + (g + 1) ≤ k ∧ k ≤ 21 * e + s
      · rw [if_pos e2, if_pos (by omega)]
      · rw [if_neg e2, if_neg e1, if_neg (by omega)]
/-- one place of the table's row -/
theorem th_addGains_16_lp (d e s left : Nat) (R G : Nat → Int) (he : e < 10) (hs : s ≤ 20) (hl : left ≤ s) (hG : ∀ g, 0 ≤ G g ∧ G g ≤ 999) (hR : ∀ l, -1000000 ≤ R l ∧ R l ≤ 9990) (Q : List aV → aM → Prop) : ∀ (f g : Nat) (M : aM), g + f = left + 1 → (∀ k, k ≤ s → M 156 (21 * e + k) = G k) → (∀ l, l ≤ s → M 155 (21 * (e + 1) + l) = R l) → M 155 (21 * e + left) = mxT R G left g →
    (∀ M', fr [155] M M' → (∀ k, M' 155 k = if k = 21 * e + left then mxT R G left (left + 1) else M 155 k) → wp (w_th_addGains_2 d e s ((left + 1 : Nat) : Int) M') Q) → wp (w_th_addGains_16 d e s left g M) Q
  | 0, g, M, h, hg, hr, hm, hQ => by
    rw [l_th_addGains_16]
    refine wp_pos (by omega) ?_
    refine wp_I ?_
    (try simp (disch := omega) only [w32_i, tn_l, tn_n, tn_r, tn_s, tn_1, Nat.add_sub_cancel, Int.reduceToNat, Int.toNat_zero, Int.toNat_one, al3, al4, al5, al6, al8, al9, al11, al13, al15, al17, al19, al21, al23, al25, al27, al29, al30, al31, al95, al96, al128, al129, al130, al131, al134, al135, al137, al139, al140, al142, al143, al144, al145, al147, al148, al149, al151, al152, al153, al154, al155, al156, al158, al159, al160, al161, al162, al163, al164, al165, al166, al167, al168, al169, al170, al171, al172, al173, al174, al175, al176])
    have : g = left + 1 := by omega
    subst this
    refine hQ M (fr_refl _ _) fun k => ?_
    split
    · next e1 => rw [e1, hm]
    · rfl
  | f + 1, g, M, h, hg, hr, hm, hQ => by
    have b1 := mxT_in hG hR (by omega) left g
    have b2 := hG g
    have b3 := hR (left - g)
    rw [l_th_addGains_16]
    have e1 : w32 (w32 ((e : Int) * 21) + g) = ((21 * e + g : Nat) : Int) := by simp (disch := omega) only [w32_i]; omega
    have e2 : w32 (w32 (w32 (w32 ((e : Int) + 1) * 21) + left) - g) = ((21 * (e + 1) + (left - g) : Nat) : Int) := by simp (disch := omega) only [w32_i]; omega
    have e3 : w32 (w32 ((e : Int) * 21) + left) = ((21 * e + left : Nat) : Int) := by simp (disch := omega) only [w32_i]; omega
    rw [e1, e2, e3, al155, al156]
    simp only [tn_n]
    refine wp_neg (by omega) ?_
    refine wp_inb ⟨by omega, by omega⟩ ?_
    refine wp_inb ⟨by omega, by omega⟩ ?_
    rw [hg g (by omega), hr (left - g) (by omega), hm]
    refine wp_I ?_
    refine wp_inb ⟨by omega, by omega⟩ ?_
    refine wp_inb ⟨by omega, by omega⟩ ?_
    rw [w32_i (by omega) (by omega)]
    refine wp_up fun M1 f1 g1 => ?_
    refine wp_I ?_
    (try simp (disch := omega) only [w32_i, tn_l, tn_n, tn_r, tn_s, tn_1, Nat.add_sub_cancel, Int.reduceToNat, Int.toNat_zero, Int.toNat_one, al3, al4, al5, al6, al8, al9, al11, al13, al15, al17, al19, al21, al23, al25, al27, al29, al30, al31, al95, al96, al128, al129, al130, al131, al134, al135, al137, al139, al140, al142, al143, al144, al145, al147, al148, al149, al151, al152, al153, al154, al155, al156, al158, al159, al160, al161, al162, al163, al164, al165, al166, al167, al168, al169, al170, al171, al172, al173, al174, al175, al176])
    refine th_addGains_16_lp d e s left R G he hs hl hG hR Q f (g + 1) M1 (by omega) (fun k hk => by rw [f1 156 (by simp)]; exact hg k hk) (fun l hl' => by rw [g1, if_neg (by omega)]; exact hr l hl') (by rw [g1, if_pos rfl]; rfl) ?_
    intro M' f' g'
    refine hQ M' (fr_tt f1 f') fun k => ?_
    rw [g', g1]
    split
    · rfl
    · rfl
theorem th_addGains_2_lp (d e s : Nat) (R G : Nat → Int) (he : e < 10) (hs : s ≤ 20) (hG : ∀ g, 0 ≤ G g ∧ G g ≤ 999) (hR : ∀ l, -1000000 ≤ R l ∧ R l ≤ 9990) : ∀ (f left : Nat) (M : aM), left + f = s + 1 → (∀ k, k ≤ s → M 156 (21 * e + k) = G k) → (∀ l, l ≤ s → M 155 (21 * (e + 1) + l) = R l) → (∀ l, left ≤ l → l ≤ s → M 155 (21 * e + l) = -1000000) →
    wp (w_th_addGains_2 d e s left M) fun r M' => r = [] ∧ fr [155] M M' ∧ ∀ k, M' 155 k = if 21 * e + left ≤ k ∧ k ≤ 21 * e + s then mxT R G (k - 21 * e) (k - 21 * e + 1) else M 155 k
  | 0, left, M, h, hg, hr, hm => by
    rw [l_th_addGains_2]
    refine wp_pos (by omega) ?_
    exact wp_ret ⟨rfl, fr_refl _ _, fun k => by rw [if_neg (by omega)]⟩
  | f + 1, left, M, h, hg, hr, hm => by
    rw [l_th_addGains_2]
    refine wp_neg (by omega) ?_
    refine wp_pos (by omega) ?_
    refine th_addGains_16_lp d e s left R G he hs (by omega) hG hR _ (left + 1) 0 M (by omega) hg hr (hm left (by omega) (by omega)) ?_
    intro M1 f1 g1
    refine wp_mono (th_addGains_2_lp d e s R G he hs hG hR f (left + 1) M1 (by omega) (fun k hk => by rw [f1 156 (by simp)]; exact hg k hk) (fun l hl' => by rw [g1, if_neg (by omega)]; exact hr l hl') (fun l h1 h2 => by rw [g1, if_neg (by omega)]; exact hm l (by omega) h2)) ?_
    rintro r M' ⟨q1, q2, q3⟩
    refine ⟨q1, fr_tt f1 q2, fun k => ?_⟩
    rw [q3, g1]
    by_cases e1 : k = 21 * e + left
    · subst e1
      rw [if_neg (by omega), if_pos rfl, if_pos (by omega), show 21 * e + left - 21 * e = left by omega]
    · by_cases e2 : 21 * e + (left + 1) ≤ k ∧ k ≤ 21 * e + s
      · rw [if_pos e2, if_pos (by omega)]
      · rw [if_neg e2, if_neg e1, if_neg (by omega)]
theorem th_giveSalts_lp (d : Nat) (V : aW) (L : aLaw) (s n : Nat) (hs : s ≤ 20) (hok : okLaw L) (hn : V 41 = n) (h10 : n ≤ 10) (h4 : 0 ≤ V 4 ∧ V 4 ≤ 99) : ∀ (k : Nat) (M : aM), k ≤ 10 → rWd 2 V M → rLaw 7 L M →
    (∀ j l, j ≤ k → l ≤ s → M 155 (21 * (10 - j) + l) = tT V L j l) → (∀ j, j < 21 * (10 - k) → M 155 j = -1000000) → (∀ e g : Nat, 10 - k ≤ e → e < 10 → al V e = true → g ≤ s → M 156 (21 * e + g) = gn V L e g) →
    wp (w_th_giveSalts_21 (d + 8) 1 s ((10 - k : Nat) - 1 : Int) M) fun r M' => r = [] ∧ fr [9, 30, 155, 156] M M' ∧ (∀ j l, j ≤ 10 → l ≤ s → M' 155 (21 * (10 - j) + l) = tT V L j l) ∧ (∀ e g : Nat, e < 10 → al V e = true → g ≤ s → M' 156 (21 * e + g) = gn V L e g) := by
  intro k
  induction hm : 10 - k generalizing k with
  | zero =>
    intro M hk hw hL ht hz hg
    rw [l_th_giveSalts_21]
    refine wp_pos (by omega) ?_
    have : k = 10 := by omega
    subst this
    exact wp_ret ⟨rfl, fr_refl _ _, ht, fun e g h1 h2 h3 => hg e g (by omega) h1 h2 h3⟩
  | succ m ih =>
    intro M hk hw hL ht hz hg
    have hm9 : m = 9 - k := by omega
    rw [l_th_giveSalts_21]
    have e0 : (((m + 1 : Nat) : Int) - 1) = (m : Int) := by omega
    rw [e0]
    refine wp_neg (by omega) ?_
    refine wp_eI (wood_isAlive_eq _ (1 + 1) m V M hw (by omega)) ?_
    have ea : w32 (w32 ((m : Int) + 1) * 21) = ((21 * (m + 1) : Nat) : Int) := by simp (disch := omega) only [w32_i]; omega
    have eb : w32 ((m : Int) * 21) = ((21 * m : Nat) : Int) := by rw [w32_i (by omega) (by omega)]; omega
    have ec : w32 ((m : Int) + -1) = ((m : Nat) : Int) - 1 := by rw [w32_i (by omega) (by omega)]; omega
    rw [ea, eb, ec, al155]
    have row : ∀ l, l ≤ s → M 155 (21 * (m + 1) + l) = tT V L k l := fun l hl => by
      have := ht k l (by omega) hl
      rwa [show 10 - k = m + 1 by omega] at this
    have go : ∀ M1 : aM, fr [9, 30, 155, 156] M M1 → (∀ l, l ≤ s → M1 155 (21 * m + l) = tT V L (k + 1) l) → (∀ j, j < 21 * m ∨ 21 * (m + 1) ≤ j → M1 155 j = M 155 j) → (∀ e g : Nat, m ≤ e → e < 10 → al V e = true → g ≤ s → M1 156 (21 * e + g) = gn V L e g) → wp (w_th_giveSalts_21 (d + 8) 1 s ((m : Int) - 1) M1) fun r M' => r = [] ∧ fr [9, 30, 155, 156] M M' ∧ (∀ j l, j ≤ 10 → l ≤ s → M' 155 (21 * (10 - j) + l) = tT V L j l) ∧ (∀ e g : Nat, e < 10 → al V e = true → g ≤ s → M' 156 (21 * e + g) = gn V L e g) := by
      intro M1 f1 h1 h2 h3
      refine wp_mono (ih (k + 1) (by omega) M1 (by omega) (rWd_fr hw fun j _ _ => f1 j (by simp; omega)) (rLaw_fr hL fun j _ _ _ => f1 j (by simp; omega)) (fun j l hj hl => ?_) (fun j hj => ?_) (fun e g a b c e' => h3 e g (by omega) b c e')) ?_
      · by_cases hjk : j = k + 1
        · subst hjk
          rw [show 10 - (k + 1) = m by omega]
          exact h1 l hl
        · rw [h2 _ (by omega)]
          exact ht j l (by omega) hl
      · rw [h2 j (by omega)]
        exact hz j (by omega)
      · rintro r M' ⟨q1, q2, q3⟩
        exact ⟨q1, fr_tt f1 q2, q3⟩
    refine wp_bif (fun hal => ?_) (fun hal => ?_)
    · refine wp_som (by omega) ?_
      refine wp_M fun M1 e1 => ?_
      refine wp_I ?_
      have f1 : fr [155] M M1 := fun j hj => by rw [e1]; exact aCpy_ne (by simpa using hj)
      refine go M1 (fr_w f1 (by simp)) (fun l hl => ?_) (fun j hj => ?_) (fun e g a b c e' => ?_)
      · rw [e1, aCpy_eq, if_pos (by rw [tn_n]; omega), tn_n, tn_n, show 21 * (m + 1) + (21 * m + l - 21 * m) = 21 * (m + 1) + l by omega, row l hl]
        simp only [tT]
        rw [← hm9, hal, if_neg (by decide)]
      · rw [e1, aCpy_eq, if_neg (by rw [tn_n]; omega)]
      · rw [f1 156 (by simp)]
        refine hg e g ?_ b c e'
        by_cases hem : e = m
        · rw [hem, hal] at c; simp at c
        · omega
    · have hlt := al_lt hal
      refine wp_bV ((l_th_askGains _ _ _ _ _).symm ▸ (th_askGains_lp _ V L m s (by omega) hs hok (by omega) hlt.2 h4 (s + 1) 0 M (by omega) hw hL)) ?_
      rintro M1 ⟨f1, g1⟩
      have gr : ∀ g, g ≤ s → M1 156 (21 * m + g) = gn V L m g := fun g hg' => by rw [g1, if_pos (by omega), show 21 * m + g - 21 * m = g by omega]
      refine wp_bV ((l_th_addGains _ _ _ _).symm ▸ (th_addGains_2_lp _ m s (tT V L k) (gn V L m) (by omega) hs (gn_in V L m) (fun l => by have := tT_in V L k l; omega) (s + 1) 0 M1 (by omega) gr (fun l hl => by rw [f1 155 (by simp)]; exact row l hl) (fun l _ hl => by rw [f1 155 (by simp)]; exact hz _ (by omega)))) ?_
      rintro M2 ⟨f2, g2⟩
      refine wp_I ?_
      refine go M2 (fr_tr f1 f2 (by simp) (by simp)) (fun l hl => ?_) (fun j hj => ?_) (fun e g a b c e' => ?_)
      · rw [g2, if_pos (by omega), show 21 * m + l - 21 * m = l by omega]
        simp only [tT]
        rw [← hm9, hal, if_pos rfl]
      · rw [g2, if_neg (by omega), f1 155 (by simp)]
      · rw [f2 156 (by simp)]
        by_cases hem : e = m
        · subst hem; exact gr g e'
        · rw [g1, if_neg (by omega)]
          exact hg e g (by omega) b c e'
