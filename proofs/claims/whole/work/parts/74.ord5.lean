/-! orders: the reference -/
theorem m_ahead_23_lp (d : Nat) (V : aW) (n m : Nat) (h10 : n ≤ 10) (hm : m ≤ 12) (h48 : V 48 = m) (hs : ∀ i, i < m → (0 ≤ V (175 + 2 * i) ∧ V (175 + 2 * i) < n) ∧ (0 ≤ V (176 + 2 * i) ∧ V (176 + 2 * i) < n)) : ∀ (f i : Nat) (M : aM), i + f = m → M 158 = V → (∀ b, b < 10 → M 168 b = ((aH V i b : Nat) : Int)) →
    wp (w_m_laysAhead_23 d i M) fun r M' => r = [] ∧ fr [168] M M' ∧ ∀ b, b < 10 → M' 168 b = ((aH V m b : Nat) : Int)
  | 0, i, M, h, hV, hb => by
    rw [l_m_laysAhead_23]
    (try simp (disch := omega) only [w32_i, tn_l, tn_n, tn_r, tn_s, tn_1, Nat.add_sub_cancel, Int.reduceToNat, Int.toNat_zero, Int.toNat_one, al3, al4, al5, al6, al8, al9, al11, al13, al15, al17, al19, al21, al23, al25, al27, al29, al30, al31, al95, al96, al128, al129, al130, al131, al134, al135, al137, al139, al140, al142, al143, al144, al145, al147, al148, al149, al151, al152, al153, al154, al155, al156, al158, al159, al160, al161, al162, al163, al164, al165, al166, al167, al168, al169, al170, al171, al172, al173, al174, al175, al176])
    refine wp_inb ⟨by omega, by omega⟩ ?_
    refine wp_neg (by rw [hV]; omega) ?_
    exact wp_ret ⟨rfl, fr_refl _ _, by rw [show m = i by omega]; exact hb⟩
  | f + 1, i, M, h, hV, hb => by
    obtain ⟨v0, v1⟩ := hs i (by omega)
    have hlt := aH_lt (V := V) (n := n) i fun i hi => (hs i (by omega)).1
    have hp : 2 ^ n ≤ 2 ^ 10 := Nat.pow_le_pow_right (by omega) h10
    have e1 : w32 (175 + w32 (2 * (i : Int))) = ((175 + 2 * i : Nat) : Int) := by simp (disch := omega) only [w32_i]; omega
    have e2 : w32 (((175 + 2 * i : Nat) : Int) + 1) = ((176 + 2 * i : Nat) : Int) := by rw [w32_i (by omega) (by omega)]; omega
    rw [l_m_laysAhead_23, e1, e2, al158, al168, hV, tn_n, tn_n]
    refine wp_inb ⟨by omega, by omega⟩ ?_
    refine wp_pos (by omega) ?_
    refine wp_inb ⟨by omega, by omega⟩ ?_
    refine wp_inb ⟨by omega, by omega⟩ ?_
    refine wp_inb ⟨by omega, by omega⟩ ?_
    refine wp_inb ⟨by omega, by omega⟩ ?_
    obtain ⟨a, ha⟩ : ∃ a : Nat, V (175 + 2 * i) = a := ⟨(V (175 + 2 * i)).toNat, by omega⟩
    obtain ⟨e, he⟩ : ∃ e : Nat, V (176 + 2 * i) = e := ⟨(V (176 + 2 * i)).toNat, by omega⟩
    have hla := hlt e
    rw [ha, he, tn_n, hb e (by omega), ior_bit (by omega) (by omega)]
    refine wp_up fun M1 f1 g1 => ?_
    refine wp_I ?_
    (try simp (disch := omega) only [w32_i, tn_l, tn_n, tn_r, tn_s, tn_1, Nat.add_sub_cancel, Int.reduceToNat, Int.toNat_zero, Int.toNat_one, al3, al4, al5, al6, al8, al9, al11, al13, al15, al17, al19, al21, al23, al25, al27, al29, al30, al31, al95, al96, al128, al129, al130, al131, al134, al135, al137, al139, al140, al142, al143, al144, al145, al147, al148, al149, al151, al152, al153, al154, al155, al156, al158, al159, al160, al161, al162, al163, al164, al165, al166, al167, al168, al169, al170, al171, al172, al173, al174, al175, al176])
    refine wp_mono (m_ahead_23_lp d V n m h10 hm h48 hs f (i + 1) M1 (by omega) (by rw [f1 158 (by simp), hV]) fun b hb2 => ?_) fun r M' q => ⟨q.1, fr_tt f1 q.2.1, q.2.2⟩
    rw [g1]
    simp only [aH]
    rw [ha, tn_n]
    by_cases hba : b = e
    · subst hba; rw [if_pos rfl, if_pos he]
    · rw [if_neg hba, if_neg (by omega), hb b hb2]
theorem m_ahead_2_lp (d : Nat) (Q : List aV → aM → Prop) : ∀ (f i : Nat) (M : aM), i + f = 10 → (∀ a, a < i → M 168 a = 0) → (∀ M', fr [168] M M' → (∀ a, a < 10 → M' 168 a = 0) → wp (w_m_laysAhead_23 d 0 M') Q) → wp (w_m_laysAhead_2 d i M) Q
  | 0, i, M, h, hm, hQ => by
    rw [l_m_laysAhead_2]
    refine wp_neg (by omega) ?_
    exact hQ M (fr_refl _ _) (by rw [show 10 = i by omega]; exact hm)
  | f + 1, i, M, h, hm, hQ => by
    rw [l_m_laysAhead_2]
    (try simp (disch := omega) only [w32_i, tn_l, tn_n, tn_r, tn_s, tn_1, Nat.add_sub_cancel, Int.reduceToNat, Int.toNat_zero, Int.toNat_one, al3, al4, al5, al6, al8, al9, al11, al13, al15, al17, al19, al21, al23, al25, al27, al29, al30, al31, al95, al96, al128, al129, al130, al131, al134, al135, al137, al139, al140, al142, al143, al144, al145, al147, al148, al149, al151, al152, al153, al154, al155, al156, al158, al159, al160, al161, al162, al163, al164, al165, al166, al167, al168, al169, al170, al171, al172, al173, al174, al175, al176])
    refine wp_pos (by omega) ?_
    refine wp_inb ⟨by omega, by omega⟩ ?_
    refine wp_up fun M1 f1 g1 => ?_
    refine wp_I ?_
    (try simp (disch := omega) only [w32_i, tn_l, tn_n, tn_r, tn_s, tn_1, Nat.add_sub_cancel, Int.reduceToNat, Int.toNat_zero, Int.toNat_one, al3, al4, al5, al6, al8, al9, al11, al13, al15, al17, al19, al21, al23, al25, al27, al29, al30, al31, al95, al96, al128, al129, al130, al131, al134, al135, al137, al139, al140, al142, al143, al144, al145, al147, al148, al149, al151, al152, al153, al154, al155, al156, al158, al159, al160, al161, al162, al163, al164, al165, al166, al167, al168, al169, al170, al171, al172, al173, al174, al175, al176])
    refine m_ahead_2_lp d Q f (i + 1) M1 (by omega) (fun a ha => ?_) fun M' f' => hQ M' (fr_tt f1 f')
    rw [g1]
    by_cases e : a = i
    · rw [if_pos e]
    · rw [if_neg e]; exact hm a (by omega)
theorem iand_rm {S i : Nat} (hS : S < 2147483648) (hi : i < 31) : iand S (ixor (ishl 1 i) (-1)) = ((rm S i : Nat) : Int) := iand_nbit hS hi
theorem m_lo_35_lp (d : Nat) (ah : Nat → Nat) (n S : Nat) (h10 : n ≤ 10) (hah : ∀ b, ah b < 2147483648) (hS : S < 2 ^ n) (h0 : S ≠ 0) (Q : List aV → aM → Prop) : ∀ (f i : Nat) (M : aM), i + f = n → M 158 41 = n → (∀ b, b < 10 → M 168 b = ((ah b : Nat) : Int)) → (∀ T, T < S → M 169 T = ((UO ah n T : Nat) : Int)) → M 169 S = ((sN (fun d => if S.testBit d = true ∧ can ah d (rm S d) = true then UO ah n (rm S d) else 0) i : Nat) : Int) →
    (∀ M', fr [169] M M' → (∀ T, T < S + 1 → M' 169 T = ((UO ah n T : Nat) : Int)) → wp (w_m_laysOrders_21 d ((2 ^ n - 1 : Nat) : Int) ((S + 1 : Nat) : Int) M') Q) → wp (w_m_laysOrders_35 d ((2 ^ n - 1 : Nat) : Int) S i M) Q
  | 0, i, M, h, hV, ha, hu, hs, hQ => by
    have hp : 2 ^ n ≤ 2 ^ 10 := Nat.pow_le_pow_right (by omega) h10
    rw [l_m_laysOrders_35, al158]
    refine wp_inb ⟨by omega, by omega⟩ ?_
    refine wp_neg (by omega) ?_
    refine wp_I ?_
    (try simp (disch := omega) only [w32_i, tn_l, tn_n, tn_r, tn_s, tn_1, Nat.add_sub_cancel, Int.reduceToNat, Int.toNat_zero, Int.toNat_one, al3, al4, al5, al6, al8, al9, al11, al13, al15, al17, al19, al21, al23, al25, al27, al29, al30, al31, al95, al96, al128, al129, al130, al131, al134, al135, al137, al139, al140, al142, al143, al144, al145, al147, al148, al149, al151, al152, al153, al154, al155, al156, al158, al159, al160, al161, al162, al163, al164, al165, al166, al167, al168, al169, al170, al171, al172, al173, al174, al175, al176])
    refine hQ M (fr_refl _ _) fun T hT => ?_
    by_cases e : T = S
    · subst e
      rw [hs, UO_eq h0 (by omega), show i = n by omega]
    · exact hu T (by omega)
  | f + 1, i, M, h, hV, ha, hu, hs, hQ => by
    have hp : 2 ^ n ≤ 2 ^ 10 := Nat.pow_le_pow_right (by omega) h10
    have ih := fun M1 h1 h2 h3 h4 h5 => m_lo_35_lp d ah n S h10 hah hS h0 Q f (i + 1) M1 (by omega) h1 h2 h3 h4 h5
    rw [l_m_laysOrders_35, al158, al168, al169, hV, bit01_nat (by omega) (by omega), iand_rm (by omega) (by omega), tn_n, tn_n, tn_n, ha i (by omega)]
    have hr : rm S i ≤ S := rm_le
    rw [iand_not_def _ _ (hah i) (by omega)]
    refine wp_inb ⟨by omega, by omega⟩ ?_
    refine wp_pos (by omega) ?_
    by_cases hb : S.testBit i = true
    · have hlt := rm_lt (show S < 2147483648 by omega) hb
      rw [if_pos hb]
      refine wp_pos rfl ?_
      refine wp_inb ⟨by omega, by omega⟩ ?_
      refine wp_if (fun hc => ?_) (fun hc => ?_)
      · have hc2 : can ah i (rm S i) = true := decide_eq_true (by omega)
        refine wp_inb ⟨by omega, by omega⟩ ?_
        refine wp_inb ⟨by omega, by omega⟩ ?_
        refine wp_inb ⟨by omega, by omega⟩ ?_
        have b1 : UO ah n S = sN (fun d => if S.testBit d = true ∧ can ah d (rm S d) = true then UO ah n (rm S d) else 0) n := UO_eq h0 (by omega)
        have b2 : sN (fun d => if S.testBit d = true ∧ can ah d (rm S d) = true then UO ah n (rm S d) else 0) (i + 1) = sN (fun d => if S.testBit d = true ∧ can ah d (rm S d) = true then UO ah n (rm S d) else 0) i + UO ah n (rm S i) := by rw [sN_s, if_pos ⟨hb, hc2⟩]
        have b3 : sN (fun d => if S.testBit d = true ∧ can ah d (rm S d) = true then UO ah n (rm S d) else 0) (i + 1) ≤ UO ah n S := by
          rw [b1]
          obtain ⟨x, hx⟩ : ∃ x, n = (i + 1) + x := ⟨n - (i + 1), by omega⟩
          generalize hF : (fun d => if S.testBit d = true ∧ can ah d (rm S d) = true then UO ah n (rm S d) else 0) = F
          have hsp := sN_spl F (i + 1) x
          rw [← hx] at hsp
          omega
        have b4 := UO_lt ah h10 (show S < 2147483648 by omega)
        rw [hs, hu _ hlt, w32_i (by omega) (by omega)]
        refine wp_up fun M1 f1 g1 => ?_
        refine wp_I ?_
        (try simp (disch := omega) only [w32_i, tn_l, tn_n, tn_r, tn_s, tn_1, Nat.add_sub_cancel, Int.reduceToNat, Int.toNat_zero, Int.toNat_one, al3, al4, al5, al6, al8, al9, al11, al13, al15, al17, al19, al21, al23, al25, al27, al29, al30, al31, al95, al96, al128, al129, al130, al131, al134, al135, al137, al139, al140, al142, al143, al144, al145, al147, al148, al149, al151, al152, al153, al154, al155, al156, al158, al159, al160, al161, al162, al163, al164, al165, al166, al167, al168, al169, al170, al171, al172, al173, al174, al175, al176])
        refine ih M1 (by rw [f1 158 (by simp), hV]) (fun b hb => by rw [f1 168 (by simp)]; exact ha b hb) (fun T hT => by rw [g1, if_neg (by omega)]; exact hu T hT) ?_ fun M' f' => hQ M' (fr_tt f1 f')
        rw [g1, if_pos rfl, b2]; rfl
      · have hc2 : ¬ can ah i (rm S i) = true := fun e => hc (by have := of_decide_eq_true e; omega)
        refine wp_I ?_
        (try simp (disch := omega) only [w32_i, tn_l, tn_n, tn_r, tn_s, tn_1, Nat.add_sub_cancel, Int.reduceToNat, Int.toNat_zero, Int.toNat_one, al3, al4, al5, al6, al8, al9, al11, al13, al15, al17, al19, al21, al23, al25, al27, al29, al30, al31, al95, al96, al128, al129, al130, al131, al134, al135, al137, al139, al140, al142, al143, al144, al145, al147, al148, al149, al151, al152, al153, al154, al155, al156, al158, al159, al160, al161, al162, al163, al164, al165, al166, al167, al168, al169, al170, al171, al172, al173, al174, al175, al176])
        refine ih M hV ha hu ?_ hQ
        rw [hs, sN_s, if_neg fun e => hc2 e.2, Nat.add_zero]
    · rw [if_neg hb]
      refine wp_neg (by decide) ?_
      refine wp_I ?_
      (try simp (disch := omega) only [w32_i, tn_l, tn_n, tn_r, tn_s, tn_1, Nat.add_sub_cancel, Int.reduceToNat, Int.toNat_zero, Int.toNat_one, al3, al4, al5, al6, al8, al9, al11, al13, al15, al17, al19, al21, al23, al25, al27, al29, al30, al31, al95, al96, al128, al129, al130, al131, al134, al135, al137, al139, al140, al142, al143, al144, al145, al147, al148, al149, al151, al152, al153, al154, al155, al156, al158, al159, al160, al161, al162, al163, al164, al165, al166, al167, al168, al169, al170, al171, al172, al173, al174, al175, al176])
      refine ih M hV ha hu ?_ hQ
      rw [hs, sN_s, if_neg fun e => hb e.1, Nat.add_zero]
theorem m_lo_21_lp (d : Nat) (ah : Nat → Nat) (n : Nat) (h10 : n ≤ 10) (hah : ∀ b, ah b < 2147483648) : ∀ (f S : Nat) (M : aM), S + f = 2 ^ n → S ≠ 0 → M 158 41 = n → (∀ b, b < 10 → M 168 b = ((ah b : Nat) : Int)) → (∀ T, T < S → M 169 T = ((UO ah n T : Nat) : Int)) →
    wp (w_m_laysOrders_21 d ((2 ^ n - 1 : Nat) : Int) S M) fun r M' => r = [aI ((UO ah n (2 ^ n - 1) : Nat) : Int)] ∧ fr [169] M M'
  | 0, S, M, h, h0, hV, ha, hu => by
    have hp : 2 ^ n ≤ 2 ^ 10 := Nat.pow_le_pow_right (by omega) h10
    rw [l_m_laysOrders_21, al169, tn_n, hu _ (by omega)]
    refine wp_pos (by omega) ?_
    refine wp_inb ⟨by omega, by omega⟩ ?_
    exact wp_ret ⟨rfl, fr_refl _ _⟩
  | f + 1, S, M, h, h0, hV, ha, hu => by
    have hp : 2 ^ n ≤ 2 ^ 10 := Nat.pow_le_pow_right (by omega) h10
    rw [l_m_laysOrders_21, al169, tn_n]
    refine wp_neg (by omega) ?_
    refine wp_inb ⟨by omega, by omega⟩ ?_
    refine wp_up fun M1 f1 g1 => ?_
    refine m_lo_35_lp d ah n S h10 hah (by omega) h0 _ n 0 M1 (by omega) (by rw [f1 158 (by simp), hV]) (fun b hb => by rw [f1 168 (by simp)]; exact ha b hb) (fun T hT => by rw [g1, if_neg (by omega)]; exact hu T hT) (by rw [g1, tn_n, if_pos rfl]; rfl) fun M2 f2 g2 => ?_
    have f12 := fr_tt f1 f2
    refine wp_mono (m_lo_21_lp d ah n h10 hah f (S + 1) M2 (by omega) (by omega) (by rw [f12 158 (by simp), hV]) (fun b hb => by rw [f12 168 (by simp)]; exact ha b hb) g2) ?_
    rintro r M' ⟨q1, q2⟩
    exact ⟨q1, fr_tt f12 q2⟩
theorem m_lo_eq (d : Nat) (ah : Nat → Nat) (n : Nat) (h10 : n ≤ 10) (hah : ∀ b, ah b < 2147483648) (M : aM) (hV : M 158 41 = n) (ha : ∀ b, b < 10 → M 168 b = ((ah b : Nat) : Int)) :
    wp (w_m_laysOrders (d + 1) M) fun r M' => r = [aI ((UO ah n (2 ^ n - 1) : Nat) : Int)] ∧ fr [169] M M' := by
  have hpos := Nat.two_pow_pos n
  rw [l_m_laysOrders, al158, al169]
  refine wp_inb ⟨by omega, by omega⟩ ?_
  rw [hV, pw1 h10]
  refine wp_I ?_
  refine wp_inb ⟨by omega, by omega⟩ ?_
  refine wp_up fun M1 f1 g1 => ?_
  refine wp_mono (m_lo_21_lp d ah n h10 hah (2 ^ n - 1) 1 M1 (by omega) (by decide) (by rw [f1 158 (by simp), hV]) (fun b hb => by rw [f1 168 (by simp)]; exact ha b hb) fun T hT => ?_) ?_
  · rw [show T = 0 by omega, g1, if_pos rfl]; rfl
  · rintro r M' ⟨q1, q2⟩
    exact ⟨q1, fr_tt f1 q2⟩
theorem m_ww_eq (d : Nat) (ah : Nat → Nat) (n a b : Nat) (h10 : n ≤ 10) (hah : ∀ b, ah b < 2147483648) (h1 : a < 10) (h2 : b < 10) (M : aM) (hV : M 158 41 = n) (ha : ∀ b, b < 10 → M 168 b = ((ah b : Nat) : Int)) :
    wp (w_m_waysWith (d + 2) a b M) fun r M' => r = [aI ((UO (updA ah a b) n (2 ^ n - 1) : Nat) : Int)] ∧ (fr [168, 169] M M' ∧ ∀ b, b < 10 → M' 168 b = ((ah b : Nat) : Int)) := by
  have hA := hah b
  rw [l_m_waysWith, al168, tn_n, ha b h2, ior_bit hA (by omega)]
  refine wp_inb ⟨by omega, by omega⟩ ?_
  refine wp_I ?_
  refine wp_inb ⟨by omega, by omega⟩ ?_
  refine wp_inb ⟨by omega, by omega⟩ ?_
  refine wp_up fun M1 f1 g1 => ?_
  refine wp_fI (m_lo_eq d (updA ah a b) n h10 (upd_lt (n := 31) (by omega) hah) M1 (by rw [f1 158 (by simp), hV]) fun c hc => ?_) fun M2 f2 => ?_
  · rw [g1]
    unfold updA
    by_cases e : c = b
    · rw [if_pos e, if_pos e]
    · rw [if_neg e, if_neg e]; exact ha c hc
  · refine wp_inb ⟨by omega, by omega⟩ ?_
    refine wp_up fun M3 f3 g3 => ?_
    refine wp_ret ⟨rfl, fr_tr (fr_tr f1 f2 (l := [168, 169]) (by simp) (by simp)) f3 (by simp) (by simp), fun c hc => ?_⟩
    rw [g3]
    by_cases e : c = b
    · rw [if_pos e, e]
    · rw [if_neg e, f2 168 (by simp), g1, if_neg e]; exact ha c hc
/-- with a ahead of b, or the other way: the greater number -/
def gO (ah : Nat → Nat) (n a b : Nat) : Int := imax ((UO (updA ah a b) n (2 ^ n - 1) : Nat) : Int) ((UO ah n (2 ^ n - 1) : Nat) - (UO (updA ah a b) n (2 ^ n - 1) : Nat))
theorem gO_in {ah : Nat → Nat} {n a b : Nat} (h10 : n ≤ 10) (hah : ∀ b, ah b < 2147483648) (hab : a < b) (hb : b < n) : UO (updA ah a b) n (2 ^ n - 1) + UO (updA ah b a) n (2 ^ n - 1) = UO ah n (2 ^ n - 1) ∧ UO ah n (2 ^ n - 1) ≤ 3628800 ∧ gO ah n a b < 10000000 ∧ 0 ≤ gO ah n a b := by
  have hp : 2 ^ n ≤ 2 ^ 10 := Nat.pow_le_pow_right (by omega) h10
  have h := UO_two (n := n) (show a ≠ b by omega) (by omega) (by omega) hah (2 ^ n - 1) (by omega) (Or.inl (full_tb (by omega)))
  have h2 := UO_lt ah h10 (show 2 ^ n - 1 < 2147483648 by omega)
  refine ⟨h, h2, ?_⟩
  unfold gO imax
  split <;> omega
theorem m_bc_27_lp (d : Nat) (ah : Nat → Nat) (n a : Nat) (h10 : n ≤ 10) (hah : ∀ b, ah b < 2147483648) (Q : List aV → aM → Prop) : ∀ (f b : Nat) (st : Int × Int) (M : aM), a < b → b + f = n → M 158 41 = n → (∀ b, b < 10 → M 168 b = ((ah b : Nat) : Int)) →
    (∀ M', fr [168, 169] M M' → (∀ b, b < 10 → M' 168 b = ((ah b : Nat) : Int)) → wp (w_m_bestCouple_9 (d + 2) ((UO ah n (2 ^ n - 1) : Nat) : Int) (bIn (gO ah n) a f b st).2 (bIn (gO ah n) a f b st).1 ((a + 1 : Nat) : Int) M') Q) → wp (w_m_bestCouple_27 (d + 2) ((UO ah n (2 ^ n - 1) : Nat) : Int) st.2 st.1 a b M) Q
  | 0, b, st, M, hab, h, hV, ha, hQ => by
    rw [l_m_bestCouple_27, al158]
    refine wp_inb ⟨by omega, by omega⟩ ?_
    refine wp_neg (by omega) ?_
    refine wp_I ?_
    (try simp (disch := omega) only [w32_i, tn_l, tn_n, tn_r, tn_s, tn_1, Nat.add_sub_cancel, Int.reduceToNat, Int.toNat_zero, Int.toNat_one, al3, al4, al5, al6, al8, al9, al11, al13, al15, al17, al19, al21, al23, al25, al27, al29, al30, al31, al95, al96, al128, al129, al130, al131, al134, al135, al137, al139, al140, al142, al143, al144, al145, al147, al148, al149, al151, al152, al153, al154, al155, al156, al158, al159, al160, al161, al162, al163, al164, al165, al166, al167, al168, al169, al170, al171, al172, al173, al174, al175, al176])
    exact hQ M (fr_refl _ _) ha
  | f + 1, b, st, M, hab, h, hV, ha, hQ => by
    obtain ⟨k1, k2, k3, k4⟩ := gO_in h10 hah hab (show b < n by omega)
    rw [l_m_bestCouple_27, al158]
    refine wp_inb ⟨by omega, by omega⟩ ?_
    refine wp_pos (by omega) ?_
    refine wp_bI (P := fun v M' => v = ((UO (updA ah a b) n (2 ^ n - 1) : Nat) : Int) ∧ fr [168, 169] M M' ∧ ∀ b, b < 10 → M' 168 b = ((ah b : Nat) : Int)) (wp_mono (m_ww_eq d ah n a b h10 hah (by omega) (by omega) M hV ha) fun r M' q => ⟨_, q.1, rfl, q.2⟩) ?_
    rintro v M1 ⟨rfl, f1, g1⟩
    rw [w32_i (by omega) (by omega)]
    refine wp_eI (m_greater_eq _ _ _ _) ?_
    refine wp_if (fun hc => ?_) (fun hc => ?_)
    · refine wp_eI (m_greater_eq _ _ _ _) ?_
      refine wp_I ?_
      refine wp_I ?_
      rw [show w32 (w32 (10 * (a : Int)) + (b : Int)) = 10 * (a : Int) + b by simp (disch := omega) only [w32_i]]
      (try simp (disch := omega) only [w32_i, tn_l, tn_n, tn_r, tn_s, tn_1, Nat.add_sub_cancel, Int.reduceToNat, Int.toNat_zero, Int.toNat_one, al3, al4, al5, al6, al8, al9, al11, al13, al15, al17, al19, al21, al23, al25, al27, al29, al30, al31, al95, al96, al128, al129, al130, al131, al134, al135, al137, al139, al140, al142, al143, al144, al145, al147, al148, al149, al151, al152, al153, al154, al155, al156, al158, al159, al160, al161, al162, al163, al164, al165, al166, al167, al168, al169, al170, al171, al172, al173, al174, al175, al176])
      have ih := m_bc_27_lp d ah n a h10 hah Q f (b + 1) (gO ah n a b, 10 * (a : Int) + b) M1 (by omega) (by omega) (by rw [f1 158 (by simp), hV]) g1 fun M' f' g' => by
        have := hQ M' (fr_tt f1 f') g'
        rw [show bIn (gO ah n) a (f + 1) b st = bIn (gO ah n) a f (b + 1) (gO ah n a b, 10 * (a : Int) + b) by simp only [bIn]; rw [if_pos (show gO ah n a b < st.1 from hc)]] at this
        exact this
      exact ih
    · refine wp_I ?_
      (try simp (disch := omega) only [w32_i, tn_l, tn_n, tn_r, tn_s, tn_1, Nat.add_sub_cancel, Int.reduceToNat, Int.toNat_zero, Int.toNat_one, al3, al4, al5, al6, al8, al9, al11, al13, al15, al17, al19, al21, al23, al25, al27, al29, al30, al31, al95, al96, al128, al129, al130, al131, al134, al135, al137, al139, al140, al142, al143, al144, al145, al147, al148, al149, al151, al152, al153, al154, al155, al156, al158, al159, al160, al161, al162, al163, al164, al165, al166, al167, al168, al169, al170, al171, al172, al173, al174, al175, al176])
      have ih := m_bc_27_lp d ah n a h10 hah Q f (b + 1) st M1 (by omega) (by omega) (by rw [f1 158 (by simp), hV]) g1 fun M' f' g' => by
        have := hQ M' (fr_tt f1 f') g'
        rw [show bIn (gO ah n) a (f + 1) b st = bIn (gO ah n) a f (b + 1) st by simp only [bIn]; rw [if_neg (show ¬ gO ah n a b < st.1 from hc)]] at this
        exact this
      exact ih
theorem m_bc_9_lp (d : Nat) (ah : Nat → Nat) (n : Nat) (h10 : n ≤ 10) (hah : ∀ b, ah b < 2147483648) : ∀ (f a : Nat) (st : Int × Int) (M : aM), a + f = n → M 158 41 = n → (∀ b, b < 10 → M 168 b = ((ah b : Nat) : Int)) →
    wp (w_m_bestCouple_9 (d + 2) ((UO ah n (2 ^ n - 1) : Nat) : Int) st.2 st.1 a M) fun r M' => r = [aI (bOu (gO ah n) n f a st).2] ∧ fr [168, 169] M M'
  | 0, a, st, M, h, hV, ha => by
    rw [l_m_bestCouple_9, al158]
    refine wp_inb ⟨by omega, by omega⟩ ?_
    refine wp_neg (by omega) ?_
    exact wp_ret ⟨rfl, fr_refl _ _⟩
  | f + 1, a, st, M, h, hV, ha => by
    rw [l_m_bestCouple_9, al158]
    refine wp_inb ⟨by omega, by omega⟩ ?_
    refine wp_pos (by omega) ?_
    refine wp_I ?_
    (try simp (disch := omega) only [w32_i, tn_l, tn_n, tn_r, tn_s, tn_1, Nat.add_sub_cancel, Int.reduceToNat, Int.toNat_zero, Int.toNat_one, al3, al4, al5, al6, al8, al9, al11, al13, al15, al17, al19, al21, al23, al25, al27, al29, al30, al31, al95, al96, al128, al129, al130, al131, al134, al135, al137, al139, al140, al142, al143, al144, al145, al147, al148, al149, al151, al152, al153, al154, al155, al156, al158, al159, al160, al161, al162, al163, al164, al165, al166, al167, al168, al169, al170, al171, al172, al173, al174, al175, al176])
    refine m_bc_27_lp d ah n a h10 hah _ (n - (a + 1)) (a + 1) st M (by omega) (by omega) hV ha fun M1 f1 g1 => ?_
    refine wp_mono (m_bc_9_lp d ah n h10 hah f (a + 1) _ M1 (by omega) (by rw [f1 158 (by simp), hV]) g1) ?_
    rintro r M' ⟨q1, q2⟩
    exact ⟨q1, fr_tt f1 q2⟩
theorem bIn_ok {g : Nat → Nat → Int} {a : Nat} : ∀ k b st, (0 ≤ st.2) → 0 ≤ (bIn g a k b st).2
  | 0, b, st, h => h
  | k + 1, b, st, h => by
    simp only [bIn]
    refine bIn_ok k (b + 1) _ ?_
    split
    · dsimp only; omega
    · exact h
theorem bOu_ok {g : Nat → Nat → Int} {n : Nat} : ∀ k a st, (0 ≤ st.2) → 0 ≤ (bOu g n k a st).2
  | 0, a, st, h => h
  | k + 1, a, st, h => by
    simp only [bOu]
    exact bOu_ok k (a + 1) _ (bIn_ok _ _ _ h)
theorem bOu_2 {g : Nat → Nat → Int} {n : Nat} (hn : 2 ≤ n) (hg : g 0 1 < 10000000) : 0 ≤ (bOu g n n 0 (10000000, -1)).2 := by
  obtain ⟨k, rfl⟩ : ∃ k, n = k + 2 := ⟨n - 2, by omega⟩
  show 0 ≤ (bOu g (k + 2) (k + 1) 1 (bIn g 0 (k + 2 - (0 + 1)) (0 + 1) (10000000, -1))).2
  refine bOu_ok _ _ _ ?_
  rw [show k + 2 - (0 + 1) = k + 1 by omega]
  show 0 ≤ (bIn g 0 k (0 + 1 + 1) _).2
  refine bIn_ok _ _ _ ?_
  rw [if_pos hg]
  show (0 : Int) ≤ 10 * ((0 : Nat) : Int) + ((1 : Nat) : Int)
  omega
theorem m_fo_15_lp (d : Nat) (ah : Nat → Nat) (S j k : Nat) (p : Int) (hS : S < 1024) (hah : ∀ b, ah b < 2147483648) (M : aM) (ha : ∀ b, b < 10 → M 168 b = ((ah b : Nat) : Int)) (hk : k < 100) : ∀ (f x : Nat), x + f ≤ 10 → lfo ah S f x = some j → w_m_firstOrder_15 d p S x k M = w_m_firstOrder_7 d p ((S ||| 2 ^ j : Nat) : Int) j ((k + 1 : Nat) : Int) M
  | 0, x, hx, h => by cases h
  | f + 1, x, hx, h => by
    have e5 : w32 ((x : Int) + 1) = ((x + 1 : Nat) : Int) := by rw [w32_i (by omega) (by omega)]; rfl
    have e6 : w32 ((k : Int) + 1) = ((k + 1 : Nat) : Int) := by rw [w32_i (by omega) (by omega)]; rfl
    unfold lfo at h
    rw [u_m_firstOrder_15, bit01_nat (by omega) (by omega), al168, tn_n, ha x (by omega), iand_not_def _ _ (hah x) (by omega), inb_s (by omega) (by omega), ior_bit (by omega) (by omega), e5, e6]
    by_cases hb : S.testBit x = true
    · rw [if_pos hb, if_pos rfl]
      rw [if_neg fun e => by rw [hb] at e; cases e.1] at h
      exact m_fo_15_lp d ah S j k p hS hah M ha hk f (x + 1) (by omega) h
    · rw [if_neg hb, if_neg (by decide)]
      by_cases hc : ah x &&& (S ^^^ 2147483647) = 0
      · rw [if_pos ⟨by simpa using hb, decide_eq_true hc⟩] at h
        cases h
        rw [if_pos (by omega)]
      · rw [if_neg fun e => hc (of_decide_eq_true e.2)] at h
        rw [if_neg (by omega)]
        exact m_fo_15_lp d ah S j k p hS hah M ha hk f (x + 1) (by omega) h
theorem m_fo_7_lp (d : Nat) (ah : Nat → Nat) (n p : Nat) (h10 : n ≤ 10) (hp : p < n) (hah : ∀ b, ah b < 2147483648) (hU : UO ah n (2 ^ n - 1) ≠ 0) (M : aM) (ha : ∀ b, b < 10 → M 168 b = ((ah b : Nat) : Int)) : ∀ (f k S : Nat) (ans : Int), k + f = p + 1 → gS ah n k = some S → (p < k → ans = gI ah n p) →
    w_m_firstOrder_7 d p S ans k M = some ([aI (gI ah n p)], M)
  | 0, k, S, ans, h, hs, hans => by rw [u_m_firstOrder_7, if_pos (by omega), hans (by omega)]
  | f + 1, k, S, ans, h, hs, hans => by
    have hpw : 2 ^ n ≤ 2 ^ 10 := Nat.pow_le_pow_right (by omega) h10
    obtain ⟨s1, s2, s3⟩ := gS_spec (by omega) k S hs
    obtain ⟨S', t1, t2⟩ := gS_all (by omega) hah hU k (by omega)
    rw [hs] at t1
    cases t1
    obtain ⟨j, hj⟩ := t2 (by omega)
    have h1 : gS ah n (k + 1) = some (S ||| 2 ^ j) := by unfold gS; rw [hs]; simp only; rw [hj]
    rw [u_m_firstOrder_7, if_neg (by omega), show w_m_firstOrder_15 d p S 0 k M = _ from m_fo_15_lp d ah S j k p (by omega) hah M ha (by omega) n 0 (by omega) hj]
    refine m_fo_7_lp d ah n p h10 hp hah hU M ha f (k + 1) _ _ (by omega) h1 fun hk => ?_
    have : p = k := by omega
    subst this
    unfold gI
    rw [hs]
    simp only
    rw [hj]
