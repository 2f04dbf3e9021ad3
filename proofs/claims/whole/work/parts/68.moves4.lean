/-! moves: the reference's loops, and the call -/
noncomputable def oM (V : aW) (i : Nat) : Int := V (159 + 2 * i)
noncomputable def feM (V : aW) (i : Nat) : Int := V (160 + 2 * i)
theorem bI_dec {p : Prop} [hp : Decidable p] {x y : aR} {M : aM} (h1 : ¬ p → x = some ([aI 0], M)) (h2 : p → y = some ([aI 1], M)) : (if p then y else x) = some ([aI (bI (decide p))], M) := by
  by_cases h : p
  · rw [if_pos h, h2 h, decide_eq_true h]; rfl
  · rw [if_neg h, h1 h, decide_eq_false h]; rfl
theorem m_canLie_eq (d : Nat) (M : aM) (n j t : Nat) (hn : n ≤ 8) (hj : j < n) (ht : t < 40) (ho : 0 ≤ oM (M 158) j ∧ oM (M 158) j ≤ 30) : w_m_canLie (d + 2) j t M = some ([aI (bI (cM (oM (M 158)) (feM (M 158)) (M 171) j (39 - t)))], M) := by
  have e1 : w32 (159 + w32 (2 * (j : Int))) = ((159 + 2 * j : Nat) : Int) := by simp (disch := omega) only [w32_i]; omega
  have e2 : w32 (((159 + 2 * j : Nat) : Int) + 1) = ((160 + 2 * j : Nat) : Int) := by rw [w32_i (by omega) (by omega)]; omega
  rw [u_m_canLie, e1, e2, al171, al158, inb_s (by omega) (by omega), inb_s (by omega) (by omega), inb_s (by omega) (by omega), tn_n, tn_n, tn_n, m_size_eq, bndI_s]
  unfold cM
  rw [show (39 : Int) - ((39 - t : Nat) : Int) = t by omega]
  unfold oM at ho
  by_cases h : M 171 j = -1
  · rw [if_pos h, if_pos h, inb_s (by omega) (by omega), iabs_w (by omega) (by omega), show M 158 (160 + 2 * j) = feM (M 158) j from rfl, show M 158 (159 + 2 * j) = oM (M 158) j from rfl]
    by_cases h2 : feM (M 158) j < ab ((t : Int) - oM (M 158) j)
    · rw [if_pos h2, decide_eq_false (by omega)]; rfl
    · rw [if_neg h2, decide_eq_true (by omega)]; rfl
  · rw [if_neg h, if_neg h]
    exact bI_dec (fun _ => rfl) fun _ => rfl
theorem row_w {n r S : Nat} (hr : r ≤ 41) (hS : S < 256) : w32 (w32 (256 * (r : Int)) + (S : Int)) = ((256 * r + S : Nat) : Int) := by
  simp (disch := omega) only [w32_i]; omega
theorem m_lays_63_lp (d : Nat) (n t S : Nat) (hn : n ≤ 8) (ht : t < 40) (hS : S < 2 ^ n) (X : Nat → Int) (hX : ∀ S, 0 ≤ X S ∧ X S ≤ 1000000) (c : Int) (Q : List aV → aM → Prop) (M : aM) (hM : M 158 47 = n) (ho : ∀ i, i < n → 0 ≤ oM (M 158) i ∧ oM (M 158) i ≤ 30) (hr : ∀ k, k < 2 ^ n → M 170 (256 * (t + 1) + k) = X k)
    (hQ : ∀ M', fr [170] M M' → (∀ k, M' 170 k = if k = 256 * t + S then dF (cM (oM (M 158)) (feM (M 158)) (M 171)) (gM (oM (M 158))) (39 - t) X S n else M 170 k) → wp (w_m_laysFeasts_19 (d + 2) c t ((S + 1 : Nat) : Int) M') Q) : ∀ (f i : Nat), i + f = n →
    wp (w_m_laysFeasts_63 (d + 2) c t S (dF (cM (oM (M 158)) (feM (M 158)) (M 171)) (gM (oM (M 158))) (39 - t) X S i) i M) Q
  | 0, i, h => by
    have hp8 : 2 ^ n ≤ 2 ^ 8 := Nat.pow_le_pow_right (by omega) hn
    rw [l_m_laysFeasts_63, al158]
    refine wp_inb ⟨by omega, by omega⟩ ?_
    refine wp_neg (by omega) ?_
    rw [row_w (n := n) (by omega) (by omega), al170, tn_n]
    refine wp_inb ⟨by omega, by omega⟩ ?_
    refine wp_up fun M1 f1 g1 => ?_
    refine wp_I ?_
    (try simp (disch := omega) only [w32_i, tn_l, tn_n, tn_r, tn_s, tn_1, Nat.add_sub_cancel, Int.reduceToNat, Int.toNat_zero, Int.toNat_one, al3, al4, al5, al6, al8, al9, al11, al13, al15, al17, al19, al21, al23, al25, al27, al29, al30, al31, al95, al96, al128, al129, al130, al131, al134, al135, al137, al139, al140, al142, al143, al144, al145, al147, al148, al149, al151, al152, al153, al154, al155, al156, al158, al159, al160, al161, al162, al163, al164, al165, al166, al167, al168, al169, al170, al171, al172, al173, al174, al175, al176])
    rw [show i = n by omega] at g1
    exact hQ M1 f1 g1
  | f + 1, i, h => by
    have hp8 : 2 ^ n ≤ 2 ^ 8 := Nat.pow_le_pow_right (by omega) hn
    have e1 : w32 ((i : Int) + 1) = ((i + 1 : Nat) : Int) := by rw [w32_i (by omega) (by omega)]; rfl
    have e3 : w32 (159 + w32 (2 * (i : Int))) = ((159 + 2 * i : Nat) : Int) := by simp (disch := omega) only [w32_i]; omega
    have ih := m_lays_63_lp d n t S hn ht hS X hX c Q M hM ho hr hQ f (i + 1) (by omega)
    have skip : ∀ b, b = false → (S.testBit i && cM (oM (M 158)) (feM (M 158)) (M 171) i (39 - t)) = b → wp (w_m_laysFeasts_63 (d + 2) c t S (dF (cM (oM (M 158)) (feM (M 158)) (M 171)) (gM (oM (M 158))) (39 - t) X S i) ((i + 1 : Nat) : Int) M) Q := by
      intro b hb e
      subst hb
      rw [dF_s, if_neg (fun e' => by rw [e'.1, e'.2] at e; exact absurd e (by decide))] at ih
      exact ih
    rw [l_m_laysFeasts_63, al158]
    refine wp_inb ⟨by omega, by omega⟩ ?_
    refine wp_pos (by omega) ?_
    refine wp_pos (by omega) ?_
    rw [bit01_nat (by omega) (by omega), e1, e3]
    cases hb : S.testBit i with
    | false =>
      refine wp_neg (by simp) ?_
      refine wp_I ?_
      exact skip false rfl (by rw [hb]; rfl)
    | true =>
      have hlt := rm_lt (S := S) (i := i) (by omega) hb
      refine wp_pos (by simp) ?_
      refine wp_eI (m_canLie_eq d M n i t hn (by omega) ht (ho i (by omega))) ?_
      cases hc : cM (oM (M 158)) (feM (M 158)) (M 171) i (39 - t) with
      | false =>
        refine wp_pos rfl ?_
        refine wp_I ?_
        exact skip false rfl (by rw [hc]; simp)
      | true =>
        refine wp_neg (by decide) ?_
        rw [iand_nbit (by omega) (by omega), show S &&& (2 ^ i ^^^ 2147483647) = rm S i from rfl, show w32 ((t : Int) + 1) = ((t + 1 : Nat) : Int) by rw [w32_i (by omega) (by omega)]; omega, row_w (n := n) (by omega) (by omega), al170, tn_n, tn_n]
        refine wp_inb ⟨by omega, by omega⟩ ?_
        refine wp_inb ⟨by omega, by omega⟩ ?_
        refine wp_eI (m_size_eq _ _ _) ?_
        have oi := ho i (by omega)
        have hg : iabs (w32 ((t : Int) - M 158 (159 + 2 * i))) = gM (oM (M 158)) i (39 - t) := by
          unfold oM at oi
          rw [iabs_w (by omega) (by omega)]
          unfold gM oM
          rw [show (39 : Int) - ((39 - t : Nat) : Int) = t by omega]
        have hg2 : 0 ≤ gM (oM (M 158)) i (39 - t) ∧ gM (oM (M 158)) i (39 - t) ≤ 40 := by
          unfold gM ab; split <;> omega
        rw [hg, hr _ (by omega)]
        refine wp_eI (m_lesser_eq _ _ _ _) ?_
        have x1 := hX (rm S i)
        refine wp_I ?_
        rw [dF_s, if_pos ⟨hb, hc⟩] at ih
        rw [w32_i (x := X (rm S i) + gM (oM (M 158)) i (39 - t)) (by omega) (by omega)]
        exact ih
/-- the last row: nothing is laid -/
theorem m_lays_63_40 (d : Nat) (n S : Nat) (hn : n ≤ 8) (hS : S < 2 ^ n) (c x : Int) (Q : List aV → aM → Prop) (M : aM) (hM : M 158 47 = n)
    (hQ : ∀ M', fr [170] M M' → (∀ k, M' 170 k = if k = 256 * 40 + S then x else M 170 k) → wp (w_m_laysFeasts_19 (d + 2) c 40 ((S + 1 : Nat) : Int) M') Q) : wp (w_m_laysFeasts_63 (d + 2) c 40 S x 0 M) Q := by
  have hp8 : 2 ^ n ≤ 2 ^ 8 := Nat.pow_le_pow_right (by omega) hn
  have e := row_w (n := n) (r := 40) (S := S) (by omega) (by omega)
  rw [show ((40 : Nat) : Int) = 40 from rfl] at e
  rw [l_m_laysFeasts_63, al158]
  refine wp_inb ⟨by omega, by omega⟩ ?_
  rw [e, al170, tn_n]
  have fin : wp (inb ((256 * 40 + S : Nat) : Int) 10496 <| aLet (aUp M 170 (256 * 40 + S) x) fun M28 => iLet (w32 ((S : Int) + 1)) fun v29 => w_m_laysFeasts_19 (d + 2) c 40 v29 M28) Q := by
    refine wp_inb ⟨by omega, by omega⟩ ?_
    refine wp_up fun M1 f1 g1 => ?_
    refine wp_I ?_
    (try simp (disch := omega) only [w32_i, tn_l, tn_n, tn_r, tn_s, tn_1, Nat.add_sub_cancel, Int.reduceToNat, Int.toNat_zero, Int.toNat_one, al3, al4, al5, al6, al8, al9, al11, al13, al15, al17, al19, al21, al23, al25, al27, al29, al30, al31, al95, al96, al128, al129, al130, al131, al134, al135, al137, al139, al140, al142, al143, al144, al145, al147, al148, al149, al151, al152, al153, al154, al155, al156, al158, al159, al160, al161, al162, al163, al164, al165, al166, al167, al168, al169, al170, al171, al172, al173, al174, al175, al176])
    exact hQ M1 f1 g1
  refine wp_if (fun _ => ?_) (fun _ => ?_)
  · exact wp_neg (by omega) fin
  · exact fin
/-- the rows: from row t on all is told -/
def rowsT (X : Nat → Nat → Int) (n t : Nat) (M : aM) : Prop := ∀ r, t ≤ r → r ≤ 40 → ∀ k, k < 2 ^ n → M 170 (256 * r + k) = X (40 - r) k
theorem m_lays_19_lp (M0 : aM) (d : Nat) (n t : Nat) (hn : n ≤ 8) (ht : t ≤ 40) (Q : List aV → aM → Prop) (V : aW) (fx : Nat → Int) (hV : V 47 = n) (ho : ∀ i, i < n → 0 ≤ oM V i ∧ oM V i ≤ 30)
    (hQ : ∀ M', fr [170] M0 M' → M' 158 = V → M' 171 = fx → rowsT (dX (cM (oM V) (feM V) fx) (gM (oM V)) 1000000 n) n t M' → wp (w_m_laysFeasts_13 (d + 2) ((2 ^ n : Nat) : Int) (w32 ((t : Int) + (-1))) M') Q) : ∀ (f S : Nat) (M : aM), S + f = 2 ^ n → fr [170] M0 M → M 158 = V → M 171 = fx → rowsT (dX (cM (oM V) (feM V) fx) (gM (oM V)) 1000000 n) n (t + 1) M → (∀ k, k < S → M 170 (256 * t + k) = dX (cM (oM V) (feM V) fx) (gM (oM V)) 1000000 n (40 - t) k) →
    wp (w_m_laysFeasts_19 (d + 2) ((2 ^ n : Nat) : Int) t S M) Q
  | 0, S, M, h, h0, h1, h2, h3, h4 => by
    rw [l_m_laysFeasts_19]
    refine wp_neg (by omega) ?_
    refine wp_I ?_
    refine hQ M h0 h1 h2 fun r a b k hk => ?_
    by_cases e : r = t
    · subst e; exact h4 k (by omega)
    · exact h3 r (by omega) b k hk
  | f + 1, S, M, h, h0, h1, h2, h3, h4 => by
    have hp8 : 2 ^ n ≤ 2 ^ 8 := Nat.pow_le_pow_right (by omega) hn
    have next : ∀ M', fr [170] M M' → (∀ k, M' 170 k = if k = 256 * t + S then dX (cM (oM V) (feM V) fx) (gM (oM V)) 1000000 n (40 - t) S else M 170 k) → wp (w_m_laysFeasts_19 (d + 2) ((2 ^ n : Nat) : Int) t ((S + 1 : Nat) : Int) M') Q := by
      intro M1 f1 g1
      refine m_lays_19_lp M0 d n t hn ht Q V fx hV ho hQ f (S + 1) M1 (by omega) (fr_tt h0 f1) (by rw [f1 158 (by simp), h1]) (by rw [f1 171 (by simp), h2]) (fun r a b k hk => ?_) fun k hk => ?_
      · rw [g1, if_neg (by omega)]; exact h3 r a b k hk
      · rw [g1]
        by_cases e : k = S
        · rw [if_pos (by omega), e]
        · rw [if_neg (by omega)]; exact h4 k (by omega)
    rw [l_m_laysFeasts_19]
    refine wp_pos (by omega) ?_
    by_cases e : t = 40
    · subst e
      refine wp_pos rfl ?_
      by_cases hz : S = 0
      · subst hz
        refine wp_pos rfl ?_
        exact m_lays_63_40 d n 0 hn (by omega) _ 0 Q M (by rw [h1, hV]) next
      · refine wp_neg (by omega) ?_
        have nx := next
        rw [show (dX (cM (oM V) (feM V) fx) (gM (oM V)) 1000000 n (40 - 40) S) = 1000000 from if_neg hz] at nx
        exact m_lays_63_40 d n S hn (by omega) _ 1000000 Q M (by rw [h1, hV]) nx
    · refine wp_neg (by omega) ?_
      rw [show w32 ((t : Int) + 1) = ((t + 1 : Nat) : Int) by rw [w32_i (by omega) (by omega)]; omega, row_w (n := n) (by omega) (by omega), al170, tn_n]
      refine wp_inb ⟨by omega, by omega⟩ ?_
      refine wp_I ?_
      have ek : 40 - t = (39 - t) + 1 := by omega
      rw [h3 (t + 1) (by omega) (by omega) S (by omega), show 40 - (t + 1) = 39 - t by omega]
      subst h1 h2
      rw [ek] at next
      exact m_lays_63_lp d n t S hn (by omega) (by omega) _ (dX_up (gM_nn _) (by omega) (39 - t)) _ Q M hV ho (fun k hk => by rw [h3 (t + 1) (by omega) (by omega) k hk, show 40 - (t + 1) = 39 - t by omega]) next n 0 (by omega)
theorem m_lays_13_lp (M0 : aM) (d : Nat) (n : Nat) (hn : n ≤ 8) (V : aW) (fx : Nat → Int) (hV : V 47 = n) (ho : ∀ i, i < n → 0 ≤ oM V i ∧ oM V i ≤ 30) (Q : List aV → aM → Prop) (hQ : ∀ M', fr [170] M0 M' → M' 158 = V → M' 171 = fx → Q [aI (mvT (oM V) (feM V) fx n)] M') : ∀ (t : Nat) (M : aM), t ≤ 41 → fr [170] M0 M → M 158 = V → M 171 = fx → rowsT (dX (cM (oM V) (feM V) fx) (gM (oM V)) 1000000 n) n t M → wp (w_m_laysFeasts_13 (d + 2) ((2 ^ n : Nat) : Int) ((t : Int) - 1) M) Q
  | 0, M, ht, h0, h1, h2, h3 => by
    have hp8 : 2 ^ n ≤ 2 ^ 8 := Nat.pow_le_pow_right (by omega) hn
    have := Nat.two_pow_pos n
    rw [l_m_laysFeasts_13]
    refine wp_pos (by omega) ?_
    rw [show w32 (((2 ^ n : Nat) : Int) - 1) = ((2 ^ n - 1 : Nat) : Int) by rw [w32_i (by omega) (by omega)]; omega, al170, tn_n]
    refine wp_inb ⟨by omega, by omega⟩ ?_
    have e := h3 0 (by omega) (by omega) (2 ^ n - 1) (by omega)
    rw [Nat.mul_zero, Nat.zero_add] at e
    rw [e]
    exact wp_ret (hQ M h0 h1 h2)
  | t + 1, M, ht, h0, h1, h2, h3 => by
    rw [l_m_laysFeasts_13]
    refine wp_neg (by omega) ?_
    rw [show ((t + 1 : Nat) : Int) - 1 = (t : Int) by omega]
    refine m_lays_19_lp M0 d n t hn (by omega) Q V fx hV ho (fun M' z a b c => ?_) (2 ^ n) 0 M (by omega) h0 h1 h2 h3 fun k hk => by omega
    rw [show w32 ((t : Int) + (-1)) = (t : Int) - 1 by rw [w32_i (by omega) (by omega)]; omega]
    exact m_lays_13_lp M0 d n hn V fx hV ho Q hQ t M' (by omega) z a b c
