/-! moves: the class's loops -/
theorem ja_fillJ_lp (d a : Nat) (v : Int) (n : Nat) (hl : aLen a = n) (hn : n ≤ 100000) : ∀ (f i : Nat) (M : aM), i + f = n → wp (w_ja_fillJ_6 d a v i n M) fun r M' => r = [] ∧ fr [a] M M' ∧ ∀ k, M' a k = if i ≤ k ∧ k < n then v else M a k
  | 0, i, M, h => by
    rw [l_ja_fillJ_6]
    refine wp_neg (by omega) ?_
    exact wp_ret ⟨rfl, fr_refl _ _, fun k => by rw [if_neg (by omega)]⟩
  | f + 1, i, M, h => by
    rw [l_ja_fillJ_6, hl]
    (try simp (disch := omega) only [w32_i, tn_l, tn_n, tn_r, tn_s, tn_1, Nat.add_sub_cancel, Int.reduceToNat, Int.toNat_zero, Int.toNat_one, al3, al4, al5, al6, al8, al9, al11, al13, al15, al17, al19, al21, al23, al25, al27, al29, al30, al31, al95, al96, al128, al129, al130, al131, al134, al135, al137, al139, al140, al142, al143, al144, al145, al147, al148, al149, al151, al152, al153, al154, al155, al156, al158, al159, al160, al161, al162, al163, al164, al165, al166, al167, al168, al169, al170, al171, al172, al173, al174, al175, al176])
    refine wp_pos (by omega) ?_
    refine wp_inb ⟨by omega, by omega⟩ ?_
    refine wp_up fun M1 f1 g1 => ?_
    refine wp_I ?_
    refine wp_mono (ja_fillJ_lp d a v n hl hn f (i + 1) M1 (by omega)) ?_
    rintro r M' ⟨e, f', g'⟩
    refine ⟨e, fr_tt f1 f', fun k => ?_⟩
    rw [g', g1]
    by_cases e1 : k = i
    · subst e1; rw [if_neg (by omega), if_pos rfl, if_pos (by omega)]
    · by_cases e2 : i + 1 ≤ k ∧ k < n
      · rw [if_pos e2, if_pos (by omega)]
      · rw [if_neg e2, if_neg e1, if_neg (by omega)]
theorem ja_fillJ_eq (d a : Nat) (v : Int) (n : Nat) (hl : aLen a = n) (hn : n ≤ 100000) (M : aM) : wp (w_ja_fillJ (d + 1) a v M) fun r M' => r = [] ∧ fr [a] M M' ∧ ∀ k, M' a k = if k < n then v else M a k := by
  rw [l_ja_fillJ, hl]
  refine wp_I ?_
  refine wp_mono (ja_fillJ_lp d a v n hl hn n 0 M (by omega)) ?_
  rintro r M' ⟨e, f, g⟩
  exact ⟨e, f, fun k => by rw [g]; by_cases h : k < n <;> simp [h]⟩
theorem q8_div : ∀ i, i < 8 → ldiv (q8 i) 40 = q8 (i + 1) := by
  intro i hi
  have := q8_b i
  rw [ldiv_nn (by omega) (by omega) (by omega) (by omega)]
  rcases i with _ | _ | _ | _ | _ | _ | _ | _ | i
  iterate 8 rfl
  omega
theorem lcmp_lt {x y : Int} : lcmp x y < 0 ↔ x < y := by
  unfold lcmp
  split
  · exact ⟨fun _ => by assumption, fun _ => by omega⟩
  · split
    · exact ⟨fun h => by omega, fun h => by omega⟩
    · exact ⟨fun h => by omega, fun h => by omega⟩
/-- the weights of a day -/
noncomputable def wg (o fe : Nat → Int) (t k : Nat) : Int := if cC o fe k t = true then gC o k t else 4000000000000000000
theorem th_weigh_lp (d : Nat) (o fe : Nat → Int) (n t : Nat) (hn : n ≤ 8) (ht : t < 40) (ho : ∀ i, i < n → (0 ≤ o i ∧ o i ≤ 30) ∧ (0 ≤ fe i ∧ fe i ≤ 9)) : ∀ (f i : Nat) (M : aM), i + f = n → M 16 2 = n → (∀ i, i < n → M 17 (4 * i) = o i ∧ M 17 (4 * i + 1) = fe i) →
    wp (w_th_weighDay_8 (d + 2) 16 n t (q8 i) i M) fun r M' => r = [] ∧ fr [152] M M' ∧ ∀ k, M' 152 k = if i ≤ k ∧ k < n then wg o fe t k else M 152 k
  | 0, i, M, h, hc, hr => by
    rw [l_th_weighDay_8]
    refine wp_neg (by omega) ?_
    exact wp_ret ⟨rfl, fr_refl _ _, fun k => by rw [if_neg (by omega)]⟩
  | f + 1, i, M, h, hc, hr => by
    obtain ⟨r1, r2⟩ := hr i (by omega)
    obtain ⟨o1, o2⟩ := ho i (by omega)
    have e1 : w32 ((i : Int) + 1) = ((i + 1 : Nat) : Int) := by rw [w32_i (by omega) (by omega)]; rfl
    rw [l_th_weighDay_8]
    refine wp_pos (by omega) ?_
    refine wp_eI (rows_cell_eq d 16 i 0 M (by omega) (by omega) (by rw [al17]; omega) (by omega)) ?_
    refine wp_I ?_
    refine wp_I ?_
    rw [q8_div i (by omega)]
    refine wp_eI (rows_cell_eq d 16 i 1 M (by omega) (by omega) (by rw [al17]; omega) (by omega)) ?_
    rw [r2, show M (16 + 1) (4 * i + 0) = o i from r1, iabs_w (by omega) (by omega), al152, tn_n, e1]
    have fin : ∀ M1, fr [152] M M1 → (∀ k, M1 152 k = if k = i then wg o fe t i else M 152 k) → wp (w_th_weighDay_8 (d + 2) 16 n t (q8 (i + 1)) ((i + 1 : Nat) : Int) M1) fun r M' => r = [] ∧ fr [152] M M' ∧ ∀ k, M' 152 k = if i ≤ k ∧ k < n then wg o fe t k else M 152 k := by
      intro M1 f1 g1
      refine wp_mono (th_weigh_lp d o fe n t hn ht ho f (i + 1) M1 (by omega) (by rw [f1 16 (by simp), hc]) fun i hi => by rw [f1 17 (by simp)]; exact hr i hi) ?_
      rintro r M' ⟨e, f', g'⟩
      refine ⟨e, fr_tt f1 f', fun k => ?_⟩
      rw [g', g1]
      by_cases e1 : k = i
      · subst e1; rw [if_neg (by omega), if_pos rfl, if_pos (by omega)]
      · by_cases e2 : i + 1 ≤ k ∧ k < n
        · rw [if_pos e2, if_pos (by omega)]
        · rw [if_neg e2, if_neg e1, if_neg (by omega)]
    refine wp_if (fun hlt => ?_) (fun hlt => ?_)
    · refine wp_inb ⟨by omega, by omega⟩ ?_
      refine wp_up fun M1 f1 g1 => ?_
      refine wp_I ?_
      refine fin M1 f1 ?_
      unfold wg
      rw [if_neg (by unfold cC; rw [decide_eq_false (by omega)]; decide)]
      exact g1
    · refine wp_inb ⟨by omega, by omega⟩ ?_
      have hcc : cC o fe i t = true := decide_eq_true (by omega)
      refine wp_up fun M1 f1 g1 => ?_
      refine wp_I ?_
      refine fin M1 f1 ?_
      unfold wg
      rw [if_pos hcc]
      intro k
      rw [g1]
      have b1 := gC_nn o i t
      have b2 := gC_bd ht hcc (by omega)
      have b3 := ab_nn ((t : Int) - o i)
      have b4 : 0 ≤ (t : Int) * q8 (i + 1) := Int.mul_nonneg (by omega) (by have := q8_b (i + 1); omega)
      unfold gC at b1 b2 ⊢
      rw [w64_i (x := ab ((t : Int) - o i) * 6553600000000) (by omega) (by omega), w64_i (x := (t : Int) * q8 (i + 1)) (by omega) (by omega), w64_i (by omega) (by omega)]
theorem th_offer_12_lp (d : Nat) (o fe : Nat → Int) (n t S : Nat) (hn : n ≤ 8) (ht : t < 40) (hfe : ∀ i, i < n → fe i ≤ 9) (hS : S < 2 ^ n) (X : Nat → Int) (hX : ∀ S, 0 ≤ X S ∧ X S ≤ 4000000000000000000) (Q : List aV → aM → Prop) : ∀ (f i : Nat) (M : aM), i + f = n → (∀ k, k < n → M 152 k = wg o fe t k) → (∀ k, k < S → M 151 k = X k) → M 151 S = dF (cC o fe) (gC o) t X S i →
    (∀ M', fr [151] M M' → (∀ k, M' 151 k = if k = S then dF (cC o fe) (gC o) t X S n else M 151 k) → wp (w_th_offerDay_6 d n (w32 ((S : Int) + (-1))) M') Q) → wp (w_th_offerDay_12 d n S i M) Q
  | 0, i, M, h, hw, hs, he, hQ => by
    rw [l_th_offerDay_12]
    refine wp_neg (by omega) ?_
    refine wp_I ?_
    refine hQ M (fr_refl _ _) fun k => ?_
    by_cases e : k = S
    · rw [if_pos e, e, he, show i = n by omega]
    · rw [if_neg e]
  | f + 1, i, M, h, hw, hs, he, hQ => by
    have hp8 : 2 ^ n ≤ 2 ^ 8 := Nat.pow_le_pow_right (by omega) hn
    have e1 : w32 ((i : Int) + 1) = ((i + 1 : Nat) : Int) := by rw [w32_i (by omega) (by omega)]; rfl
    have skip : dF (cC o fe) (gC o) t X S (i + 1) = dF (cC o fe) (gC o) t X S i → wp (w_th_offerDay_12 d n S ((i + 1 : Nat) : Int) M) Q := fun e => th_offer_12_lp d o fe n t S hn ht hfe hS X hX Q f (i + 1) M (by omega) hw hs (by rw [he, e]) hQ
    rw [l_th_offerDay_12]
    refine wp_pos (by omega) ?_
    rw [bit01_nat (by omega) (by omega), e1, al151, al152, tn_n]
    cases hb : S.testBit i with
    | false =>
      refine wp_neg (by simp) ?_
      refine wp_neg (by rw [lcmp_lt]; omega) ?_
      refine wp_I ?_
      exact skip (by rw [dF_s, if_neg (by simp [hb])])
    | true =>
      have hlt := rm_lt (S := S) (i := i) (by omega) hb
      refine wp_pos (by simp) ?_
      rw [ishl_pow i (by omega), ixor_nat (by omega) (pow_lt31 (by omega)), rm_xor (by omega) hb, tn_n, tn_n]
      refine wp_inb ⟨by omega, by omega⟩ ?_
      refine wp_I ?_
      rw [hs _ hlt, hw i (by omega)]
      have x1 := hX (rm S i)
      have d0 := dF_le0 (can := cC o fe) (g := gC o) (t := t) (X := X) (S := S) i
      have d2 := hX S
      have gn := gC_nn o i t
      refine wp_if (fun hlt1 => ?_) (fun hlt1 => ?_) <;> rw [lcmp_lt] at hlt1
      · refine wp_inb ⟨by omega, by omega⟩ ?_
        refine wp_if (fun hlt2 => ?_) (fun hlt2 => ?_) <;> rw [lcmp_lt] at hlt2
        · refine wp_inb ⟨by omega, by omega⟩ ?_
          refine wp_inb ⟨by omega, by omega⟩ ?_
          refine wp_inb ⟨by omega, by omega⟩ ?_
          have hc : cC o fe i t = true := by
            cases hcc : cC o fe i t with
            | true => rfl
            | false => unfold wg at hlt2; rw [if_neg (by rw [hcc]; decide)] at hlt2; omega
          have hwg : wg o fe t i = gC o i t := by unfold wg; rw [if_pos hc]
          rw [hwg] at hlt2 ⊢
          refine wp_up fun M1 f1 g1 => ?_
          refine wp_I ?_
          refine th_offer_12_lp d o fe n t S hn ht hfe hS X hX Q f (i + 1) M1 (by omega) (fun k hk => by rw [f1 152 (by simp)]; exact hw k hk) (fun k hk => by rw [g1, if_neg (by omega)]; exact hs k hk) ?_ fun M' f' g' => hQ M' (fr_tt f1 f') fun k => ?_
          · rw [g1, if_pos rfl, dF_s, if_pos ⟨hb, hc⟩, w64_i (by omega) (by omega), he]
          · rw [g', g1]
            by_cases e : k = S
            · rw [if_pos e, if_pos e]
            · rw [if_neg e, if_neg e, if_neg e]
        · refine wp_I ?_
          refine skip ?_
          rw [dF_s, if_neg]
          rintro ⟨-, hc⟩
          unfold wg at hlt2
          rw [if_pos hc] at hlt2
          have := gC_bd ht hc (hfe i (by omega))
          omega
      · refine wp_I ?_
        refine skip ?_
        rw [dF_s]
        split
        · have := imin_le1 (dF (cC o fe) (gC o) t X S i) (X (rm S i) + gC o i t)
          omega
        · rfl
theorem th_offer_6_lp (d : Nat) (o fe : Nat → Int) (n t : Nat) (hn : n ≤ 8) (ht : t < 40) (hfe : ∀ i, i < n → fe i ≤ 9) (X : Nat → Int) (hX : ∀ S, 0 ≤ X S ∧ X S ≤ 4000000000000000000) : ∀ (S : Nat) (M : aM), S < 2 ^ n → (∀ k, k < n → M 152 k = wg o fe t k) → (∀ k, k ≤ S → M 151 k = X k) → (∀ k, S < k → k < 2 ^ n → M 151 k = dF (cC o fe) (gC o) t X k n) →
    wp (w_th_offerDay_6 d n S M) fun r M' => r = [] ∧ fr [151] M M' ∧ ∀ k, k < 2 ^ n → M' 151 k = dF (cC o fe) (gC o) t X k n
  | 0, M, hS, hw, h1, h2 => by
    rw [l_th_offerDay_6]
    refine wp_neg (by omega) ?_
    refine wp_ret ⟨rfl, fr_refl _ _, fun k hk => ?_⟩
    by_cases e : k = 0
    · subst e; rw [h1 0 (by omega), dF_ns]
    · exact h2 k (by omega) hk
  | S + 1, M, hS, hw, h1, h2 => by
    have hp8 : 2 ^ n ≤ 2 ^ 8 := Nat.pow_le_pow_right (by omega) hn
    rw [l_th_offerDay_6]
    refine wp_pos (by omega) ?_
    refine th_offer_12_lp d o fe n t (S + 1) hn ht hfe hS X hX _ n 0 M (by omega) hw (fun k hk => h1 k (by omega)) (h1 _ (by omega)) fun M1 f1 g1 => ?_
    rw [show w32 (((S + 1 : Nat) : Int) + (-1)) = ((S : Nat) : Int) by rw [w32_i (by omega) (by omega)]; omega]
    refine wp_mono (th_offer_6_lp d o fe n t hn ht hfe X hX S M1 (by omega) (fun k hk => by rw [f1 152 (by simp)]; exact hw k hk) (fun k hk => by rw [g1, if_neg (by omega)]; exact h1 k (by omega)) fun k hk hk2 => ?_) ?_
    · rw [g1]
      by_cases e : k = S + 1
      · rw [if_pos e, e]
      · rw [if_neg e]; exact h2 k (by omega) hk2
    · rintro r M' ⟨q1, q2, q3⟩
      exact ⟨q1, fr_tt f1 q2, q3⟩
theorem pw_w {n : Nat} (hn : n ≤ 8) : w32 (ishl 1 (n : Int) - 1) = ((2 ^ n - 1 : Nat) : Int) ∧ 2 ^ n ≤ 256 := by
  have hp8 : 2 ^ n ≤ 2 ^ 8 := Nat.pow_le_pow_right (by omega) hn
  have := Nat.two_pow_pos n
  rw [ishl_pow n (by omega), w32_i (by omega) (by omega)]
  omega
theorem th_first_33_lp (d : Nat) (o fe : Nat → Int) (n : Nat) (hn : n ≤ 8) (ho : ∀ i, i < n → (0 ≤ o i ∧ o i ≤ 30) ∧ (0 ≤ fe i ∧ fe i ≤ 9)) : ∀ (f t : Nat) (M : aM), t + f = 40 → M 16 2 = n → (∀ i, i < n → M 17 (4 * i) = o i ∧ M 17 (4 * i + 1) = fe i) → (∀ k, k < 2 ^ n → M 151 k = dX (cC o fe) (gC o) 4000000000000000000 n t k) →
    wp (w_th_firstWay_33 (d + 8) 16 n t M) fun r M' => r = [aJ (mvB o fe n)] ∧ fr [151, 152] M M'
  | 0, t, M, h, hc, hr, hx => by
    obtain ⟨e1, e2⟩ := pw_w hn
    rw [l_th_firstWay_33]
    refine wp_neg (by omega) ?_
    have := Nat.two_pow_pos n
    rw [e1, al151, tn_n]
    refine wp_inb ⟨by omega, by omega⟩ ?_
    rw [hx _ (by omega), show t = 40 by omega]
    exact wp_ret ⟨rfl, fr_refl _ _⟩
  | f + 1, t, M, h, hc, hr, hx => by
    obtain ⟨e1, e2⟩ := pw_w hn
    have := Nat.two_pow_pos n
    rw [l_th_firstWay_33]
    refine wp_pos (by omega) ?_
    refine wp_bV (P := fun M' => fr [152] M M' ∧ ∀ k, M' 152 k = if 0 ≤ k ∧ k < n then wg o fe t k else M 152 k) ?_ ?_
    · rw [show d + 8 = (d + 7) + 1 by omega, l_th_weighDay]
      exact th_weigh_lp _ o fe n t hn (by omega) ho n 0 M (by omega) hc hr
    rintro M1 ⟨f1, g1⟩
    refine wp_bV (P := fun M' => fr [151] M1 M' ∧ ∀ k, k < 2 ^ n → M' 151 k = dF (cC o fe) (gC o) t (dX (cC o fe) (gC o) 4000000000000000000 n t) k n) ?_ ?_
    · rw [show d + 8 = (d + 7) + 1 by omega, l_th_offerDay, e1]
      refine wp_I ?_
      exact th_offer_6_lp _ o fe n t hn (by omega) (fun i hi => by have := ho i hi; omega) _ (dX_up (gC_nn o) (by omega) t) (2 ^ n - 1) M1 (by omega) (fun k hk => by rw [g1, if_pos (by omega)]) (fun k hk => by rw [f1 151 (by simp)]; exact hx k (by omega)) (fun k hk hk2 => by omega)
    rintro M2 ⟨f2, g2⟩
    refine wp_I ?_
    (try simp (disch := omega) only [w32_i, tn_l, tn_n, tn_r, tn_s, tn_1, Nat.add_sub_cancel, Int.reduceToNat, Int.toNat_zero, Int.toNat_one, al3, al4, al5, al6, al8, al9, al11, al13, al15, al17, al19, al21, al23, al25, al27, al29, al30, al31, al95, al96, al128, al129, al130, al131, al134, al135, al137, al139, al140, al142, al143, al144, al145, al147, al148, al149, al151, al152, al153, al154, al155, al156, al158, al159, al160, al161, al162, al163, al164, al165, al166, al167, al168, al169, al170, al171, al172, al173, al174, al175, al176])
    refine wp_mono (th_first_33_lp d o fe n hn ho f (t + 1) M2 (by omega) (by rw [f2 16 (by simp), f1 16 (by simp), hc]) (fun i hi => by rw [f2 17 (by simp), f1 17 (by simp)]; exact hr i hi) g2) ?_
    rintro r M' ⟨q1, q2⟩
    exact ⟨q1, fr_tt (fr_tr f1 f2 (by simp) (by simp)) q2⟩
theorem th_first_eq (d : Nat) (o fe : Nat → Int) (n : Nat) (hn : n ≤ 8) (ho : ∀ i, i < n → (0 ≤ o i ∧ o i ≤ 30) ∧ (0 ≤ fe i ∧ fe i ≤ 9)) (M : aM) (hc : M 16 2 = n) (hr : ∀ i, i < n → M 17 (4 * i) = o i ∧ M 17 (4 * i + 1) = fe i) : wp (w_th_firstWay (d + 9) 16 M) fun r M' => r = [aJ (mvB o fe n)] ∧ fr [151, 152] M M' := by
  rw [l_th_firstWay]
  refine wp_I ?_
  rw [show imax 0 (imin 8 (M 16 2)) = n by rw [hc]; unfold imin imax; split <;> split <;> omega]
  refine wp_bV (ja_fillJ_eq _ 151 4000000000000000000 256 al151 (by omega) M) ?_
  rintro M1 ⟨f1, g1⟩
  rw [al151]
  refine wp_inb ⟨by omega, by omega⟩ ?_
  refine wp_up fun M2 f2 g2 => ?_
  have fx : fr [151, 152] M M2 := fr_tr f1 f2 (by simp) (by simp)
  refine wp_mono (th_first_33_lp d o fe n hn ho 40 0 M2 (by omega) (by rw [fx 16 (by simp), hc]) (fun i hi => by rw [fx 17 (by simp)]; exact hr i hi) fun k hk => ?_) ?_
  · obtain ⟨e1, e2⟩ := pw_w hn
    rw [g2, g1, if_pos (show k < 256 by omega)]
    rfl
  · rintro r M' ⟨q1, q2⟩
    exact ⟨q1, fr_tt fx q2⟩
theorem PP_hi {m : Int} {f : Nat → Int} (hm : 0 ≤ m ∧ m ≤ 1000000) (hf : ∀ i, 0 ≤ f i ∧ f i < 40) : ∀ j, j ≤ 8 → PP m f j < 9000000000000000000 := by
  intro j hj
  have h := fun i => hf i
  have h0 := hf 0
  have h1 := hf 1
  have h2 := hf 2
  have h3 := hf 3
  have h4 := hf 4
  have h5 := hf 5
  have h6 := hf 6
  have h7 := hf 7
  rcases j with _ | _ | _ | _ | _ | _ | _ | _ | _ | j
  all_goals first | (simp only [PP]; omega) | omega
theorem th_movedTo_lp (d : Nat) (m : Int) (f : Nat → Int) (hm : 0 ≤ m ∧ m ≤ 1000000) (hf : ∀ i, 0 ≤ f i ∧ f i < 40) (v : Nat) (M : aM) : ∀ k, v + k ≤ 7 → w_th_movedTo_20 d v (PP m f (v + k + 1)) ((v + k : Nat) : Int) M = some ([aI (f v)], M)
  | 0, hk => by
    have a := PP_hi hm hf (v + 0 + 1) (by omega)
    have b := PP_nn hm.1 hf (v + 0 + 1)
    rw [u_th_movedTo_20, if_neg (by omega), lrem_nn b (by omega) (by omega) (by omega)]
    have e : PP m f (v + 0 + 1) = PP m f v * 40 + f v := rfl
    rw [e, show (PP m f v * 40 + f v) % 40 = f v by have := hf v; omega, l2i_id (by have := hf v; constructor <;> omega)]
  | k + 1, hk => by
    have a := PP_hi hm hf (v + (k + 1) + 1) (by omega)
    have b := PP_nn hm.1 hf (v + (k + 1) + 1)
    rw [u_th_movedTo_20, if_pos (by omega), ldiv_nn b (by omega) (by omega) (by omega)]
    have e : PP m f (v + (k + 1) + 1) = PP m f (v + k + 1) * 40 + f (v + k + 1) := rfl
    rw [e, show (PP m f (v + k + 1) * 40 + f (v + k + 1)) / 40 = PP m f (v + k + 1) by have := hf (v + k + 1); omega]
    dsimp only
    rw [show w32 (((v + (k + 1) : Nat) : Int) + (-1)) = ((v + k : Nat) : Int) by rw [w32_i (by omega) (by omega)]; omega]
    exact th_movedTo_lp d m f hm hf v M k (by omega)
