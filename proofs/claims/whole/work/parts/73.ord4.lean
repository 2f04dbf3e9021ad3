/-! orders: the class, who comes behind, and the couples -/
def pBh (ah : Nat → Nat) (n S i : Nat) : Nat := sN (fun d => if S.testBit d = false ∧ can ah d S = true then BO ah n (S ||| 2 ^ d) else 0) i
theorem ord_be_32_lp (d : Nat) (ah : Nat → Nat) (n S : Nat) (h10 : n ≤ 10) (hah : ∀ b, ah b < 2147483648) (hS : S < 2 ^ n - 1) (Q : List aV → aM → Prop) : ∀ (f i : Nat) (M : aM), i + f = n → (∀ b, b < 10 → M 142 b = ((ah b : Nat) : Int)) → (∀ T, T < 2 ^ n → M 143 T = ((UO ah n T : Nat) : Int)) → (∀ T, T < S → M 144 T = 0) → M 144 S = w32 ((pBh ah n S i : Nat) : Int) → (∀ T, S < T → T < 2 ^ n → UO ah n T ≠ 0 → M 144 T = w32 ((BO ah n T : Nat) : Int)) →
    (∀ M', fr [144] M M' → (∀ T, T < S → M' 144 T = 0) → (∀ T, S ≤ T → T < 2 ^ n → UO ah n T ≠ 0 → M' 144 T = w32 ((BO ah n T : Nat) : Int)) → wp (w_ord_countBehind_25 (d + 1) n ((S : Int) - 1) M') Q) → wp (w_ord_countBehind_32 (d + 1) n S i M) Q
  | 0, i, M, h, ha, hu, h1, h2, h3, hQ => by
    have hp : 2 ^ n ≤ 2 ^ 10 := Nat.pow_le_pow_right (by omega) h10
    rw [l_ord_countBehind_32]
    refine wp_neg (by omega) ?_
    refine wp_I ?_
    rw [w32_i (by omega) (by omega), show (S : Int) + -1 = (S : Int) - 1 by omega]
    refine hQ M (fr_refl _ _) h1 fun T a b c => ?_
    by_cases e : T = S
    · subst e
      rw [h2, BO_eq (by omega) (by omega), show i = n by omega]
      rfl
    · exact h3 T (by omega) b c
  | f + 1, i, M, h, ha, hu, h1, h2, h3, hQ => by
    have hp : 2 ^ n ≤ 2 ^ 10 := Nat.pow_le_pow_right (by omega) h10
    rw [l_ord_countBehind_32, al143, al144, tn_n, hu S (by omega)]
    refine wp_pos (by omega) ?_
    refine wp_inb ⟨by omega, by omega⟩ ?_
    refine wp_if (fun h0 => ?_) (fun h0 => ?_)
    · refine wp_I ?_
      rw [w32_i (by omega) (by omega), show (S : Int) + -1 = (S : Int) - 1 by omega]
      refine hQ M (fr_refl _ _) h1 fun T a b c => ?_
      by_cases e : T = S
      · subst e; omega
      · exact h3 T (by omega) b c
    refine wp_eI (ord_can_eq _ ah S i M ha hah (by omega) (by omega)) ?_
    refine wp_bif (fun hc => ?_) (fun hc => ?_)
    · have hc := of_decide_eq_false hc
      refine wp_I ?_
      (try simp (disch := omega) only [w32_i, tn_l, tn_n, tn_r, tn_s, tn_1, Nat.add_sub_cancel, Int.reduceToNat, Int.toNat_zero, Int.toNat_one, al3, al4, al5, al6, al8, al9, al11, al13, al15, al17, al19, al21, al23, al25, al27, al29, al30, al31, al95, al96, al128, al129, al130, al131, al134, al135, al137, al139, al140, al142, al143, al144, al145, al147, al148, al149, al151, al152, al153, al154, al155, al156, al158, al159, al160, al161, al162, al163, al164, al165, al166, al167, al168, al169, al170, al171, al172, al173, al174, al175, al176])
      refine ord_be_32_lp d ah n S h10 hah hS Q f (i + 1) M (by omega) ha hu h1 ?_ h3 hQ
      rw [h2]
      unfold pBh
      rw [sN_s, if_neg hc, Nat.add_zero]
    · have hc := of_decide_eq_true hc
      have hg := or_gt (show S < 2 ^ n by omega) (show i < n by omega) hc.1
      have hz := UO_nz (by omega) (by omega) (by omega) hc.1 hc.2 (by omega : UO ah n S ≠ 0)
      rw [ior_bit (by omega) (by omega), tn_n, h2, h3 _ hg.1 hg.2 hz]
      refine wp_inb ⟨by omega, by omega⟩ ?_
      refine wp_inb ⟨by omega, by omega⟩ ?_
      refine wp_inb ⟨by omega, by omega⟩ ?_
      rw [w32_a2]
      refine wp_up fun M1 f1 g1 => ?_
      refine wp_I ?_
      (try simp (disch := omega) only [w32_i, tn_l, tn_n, tn_r, tn_s, tn_1, Nat.add_sub_cancel, Int.reduceToNat, Int.toNat_zero, Int.toNat_one, al3, al4, al5, al6, al8, al9, al11, al13, al15, al17, al19, al21, al23, al25, al27, al29, al30, al31, al95, al96, al128, al129, al130, al131, al134, al135, al137, al139, al140, al142, al143, al144, al145, al147, al148, al149, al151, al152, al153, al154, al155, al156, al158, al159, al160, al161, al162, al163, al164, al165, al166, al167, al168, al169, al170, al171, al172, al173, al174, al175, al176])
      refine ord_be_32_lp d ah n S h10 hah hS Q f (i + 1) M1 (by omega) (fun b hb => by rw [f1 142 (by simp)]; exact ha b hb) (fun T hT => by rw [f1 143 (by simp)]; exact hu T hT) (fun T hT => by rw [g1, if_neg (by omega)]; exact h1 T hT) ?_ (fun T a b c => by rw [g1, if_neg (by omega)]; exact h3 T a b c) fun M' f' => hQ M' (fr_tt f1 f')
      rw [g1, if_pos rfl]
      unfold pBh
      rw [sN_s, if_pos hc]
      rfl
theorem ord_be_25_lp (d : Nat) (ah : Nat → Nat) (n : Nat) (h10 : n ≤ 10) (hah : ∀ b, ah b < 2147483648) : ∀ (S : Nat) (M : aM), S < 2 ^ n → (∀ b, b < 10 → M 142 b = ((ah b : Nat) : Int)) → (∀ T, T < 2 ^ n → M 143 T = ((UO ah n T : Nat) : Int)) → (∀ T, T < S → M 144 T = 0) → (∀ T, S ≤ T → T < 2 ^ n → UO ah n T ≠ 0 → M 144 T = w32 ((BO ah n T : Nat) : Int)) →
    wp (w_ord_countBehind_25 (d + 1) n ((S : Int) - 1) M) fun r M' => r = [] ∧ fr [144] M M' ∧ ∀ T, T < 2 ^ n → UO ah n T ≠ 0 → M' 144 T = w32 ((BO ah n T : Nat) : Int)
  | 0, M, hS, ha, hu, h1, h2 => by
    rw [l_ord_countBehind_25]
    refine wp_pos (by omega) ?_
    exact wp_ret ⟨rfl, fr_refl _ _, fun T a b => h2 T (by omega) a b⟩
  | S + 1, M, hS, ha, hu, h1, h2 => by
    rw [l_ord_countBehind_25]
    refine wp_neg (by omega) ?_
    rw [show ((S + 1 : Nat) : Int) - 1 = S by omega]
    refine ord_be_32_lp d ah n S h10 hah (by omega) _ n 0 M (by omega) ha hu (fun T hT => h1 T (by omega)) (by rw [h1 S (by omega)]; show (0 : Int) = w32 0; rw [w32_i (by omega) (by omega)]) (fun T a b c => h2 T (by omega) b c) fun M1 f1 k1 k2 => ?_
    refine wp_mono (ord_be_25_lp d ah n h10 hah S M1 (by omega) (fun b hb => by rw [f1 142 (by simp)]; exact ha b hb) (fun T hT => by rw [f1 143 (by simp)]; exact hu T hT) k1 k2) ?_
    rintro r M' ⟨q1, q2, q3⟩
    exact ⟨q1, fr_tt f1 q2, q3⟩
theorem ord_be_eq (d : Nat) (ah : Nat → Nat) (n : Nat) (h10 : n ≤ 10) (hah : ∀ b, ah b < 2147483648) (M : aM) (ha : ∀ b, b < 10 → M 142 b = ((ah b : Nat) : Int)) (hu : ∀ T, T < 2 ^ n → M 143 T = ((UO ah n T : Nat) : Int)) :
    wp (w_ord_countBehind (d + 2) n M) fun r M' => r = [] ∧ fr [144] M M' ∧ ∀ T, T < 2 ^ n → UO ah n T ≠ 0 → M' 144 T = w32 ((BO ah n T : Nat) : Int) := by
  have hp : 2 ^ n ≤ 2 ^ 10 := Nat.pow_le_pow_right (by omega) h10
  have hpos := Nat.two_pow_pos n
  rw [l_ord_countBehind]
  refine wp_bV (ja_fillI_eq _ 144 0 1024 al144 (by omega) M) ?_
  rintro M1 ⟨f1, g1⟩
  rw [pw1 h10, al144]
  refine wp_I ?_
  rw [tn_n]
  refine wp_inb ⟨by omega, by omega⟩ ?_
  refine wp_up fun M2 f2 g2 => ?_
  have f12 := fr_tt f1 f2
  refine wp_I ?_
  rw [w32_i (by omega) (by omega)]
  refine wp_mono (ord_be_25_lp d ah n h10 hah (2 ^ n - 1) M2 (by omega) (fun b hb => by rw [f12 142 (by simp)]; exact ha b hb) (fun T hT => by rw [f12 143 (by simp)]; exact hu T hT) (fun T hT => ?_) fun T a b c => ?_) ?_
  · rw [g2, if_neg (by omega), g1, if_pos (show T < 1024 by omega)]
  · have : T = 2 ^ n - 1 := by omega
    subst this
    rw [g2, if_pos rfl, BO_full, show ((1 : Nat) : Int) = 1 from rfl, w32_i (by omega) (by omega)]
  · rintro r M' ⟨q1, q2, q3⟩
    exact ⟨q1, fr_tt f12 q2, q3⟩
/-- the ways of set S on which its i-th comes next, with a in it -/
def tC (ah : Nat → Nat) (n S i a : Nat) : Nat := if S.testBit i = true then 0 else (if can (updA ah a i) i S = true then UO ah n S * BO ah n (S ||| 2 ^ i) else 0)
def wC (ah : Nat → Nat) (n S i : Nat) : Nat := if S.testBit i = false ∧ can ah i S = true then UO ah n S * BO ah n (S ||| 2 ^ i) else 0
theorem tC_w {ah : Nat → Nat} {n S i a : Nat} (hah : ∀ b, ah b < 2147483648) (ha : a < 31) : tC ah n S i a = if S.testBit a = true then wC ah n S i else 0 := by
  unfold tC wC
  rw [can_upd ha hah]
  cases S.testBit i <;> cases can ah i S <;> cases S.testBit a <;> simp
def pC (ah : Nat → Nat) (n S i0 a0 i a : Nat) : Nat := sN (fun S => tC ah n S i a) S + (if i < i0 ∨ (i = i0 ∧ a < a0) then tC ah n S i a else 0)
theorem pC_n {ah : Nat → Nat} {n S i a : Nat} (hi : i < n) : pC ah n S n 0 i a = pC ah n (S + 1) 0 0 i a := by
  unfold pC
  rw [if_pos (Or.inl hi), if_neg (by omega), sN_s]
  rfl
theorem pC_z {ah : Nat → Nat} {n S i0 a0 i a : Nat} (h : tC ah n S i a = 0) : pC ah n S i0 a0 i a = pC ah n (S + 1) 0 0 i a := by
  unfold pC
  rw [h, if_neg (show ¬ (i < 0 ∨ (i = 0 ∧ a < 0)) by omega), sN_s, h]
  split <;> rfl
theorem pC_a {ah : Nat → Nat} {n S i0 i a : Nat} (ha : a < n) : pC ah n S i0 n i a = pC ah n S (i0 + 1) 0 i a := by
  unfold pC
  congr 1
  have : (i < i0 ∨ (i = i0 ∧ a < n)) ↔ (i < i0 + 1 ∨ (i = i0 + 1 ∧ a < 0)) := by omega
  simp only [this]
theorem pC_s {ah : Nat → Nat} {n S i0 a0 i a : Nat} : pC ah n S i0 (a0 + 1) i a = pC ah n S i0 a0 i a + (if i = i0 ∧ a = a0 then tC ah n S i a else 0) := by
  unfold pC
  by_cases e : i = i0 ∧ a = a0
  · rw [if_pos (by omega), if_neg (show ¬ (i < i0 ∨ (i = i0 ∧ a < a0)) by omega), if_pos e]; rfl
  · have : (i < i0 ∨ (i = i0 ∧ a < a0 + 1)) ↔ (i < i0 ∨ (i = i0 ∧ a < a0)) := by omega
    simp only [this]
    rw [if_neg e]; rfl
theorem ord_co_76_lp (d : Nat) (ah : Nat → Nat) (n S i : Nat) (h10 : n ≤ 10) (hah : ∀ b, ah b < 2147483648) (hS : S < 2 ^ n) (hi : i < n) (Q : List aV → aM → Prop) : ∀ (f a : Nat) (M : aM), a + f = n → (∀ j b, j < n → b < n → M 145 (10 * b + j) = w32 ((pC ah n S i a j b : Nat) : Int)) →
    (∀ M', fr [145] M M' → (∀ j b, j < n → b < n → M' 145 (10 * b + j) = w32 ((pC ah n S (i + 1) 0 j b : Nat) : Int)) → wp (w_ord_countCouples_24 (d + 1) n ((2 ^ n - 1 : Nat) : Int) S ((i + 1 : Nat) : Int) M') Q) → wp (w_ord_countCouples_76 (d + 1) n ((2 ^ n - 1 : Nat) : Int) S i (w32 ((wC ah n S i : Nat) : Int)) a M) Q
  | 0, a, M, h, hm, hQ => by
    rw [l_ord_countCouples_76]
    refine wp_neg (by omega) ?_
    refine wp_I ?_
    (try simp (disch := omega) only [w32_i, tn_l, tn_n, tn_r, tn_s, tn_1, Nat.add_sub_cancel, Int.reduceToNat, Int.toNat_zero, Int.toNat_one, al3, al4, al5, al6, al8, al9, al11, al13, al15, al17, al19, al21, al23, al25, al27, al29, al30, al31, al95, al96, al128, al129, al130, al131, al134, al135, al137, al139, al140, al142, al143, al144, al145, al147, al148, al149, al151, al152, al153, al154, al155, al156, al158, al159, al160, al161, al162, al163, al164, al165, al166, al167, al168, al169, al170, al171, al172, al173, al174, al175, al176])
    refine hQ M (fr_refl _ _) fun j b hj hb => ?_
    rw [hm j b hj hb, show a = n by omega, pC_a hb]
  | f + 1, a, M, h, hm, hQ => by
    have hp : 2 ^ n ≤ 2 ^ 10 := Nat.pow_le_pow_right (by omega) h10
    have e1 : w32 (w32 ((a : Int) * 10) + (i : Int)) = ((10 * a + i : Nat) : Int) := by simp (disch := omega) only [w32_i]; omega
    rw [l_ord_countCouples_76, e1, al145, tn_n]
    refine wp_pos (by omega) ?_
    refine wp_if (fun h0 => ?_) (fun h0 => ?_)
    · refine wp_I ?_
      (try simp (disch := omega) only [w32_i, tn_l, tn_n, tn_r, tn_s, tn_1, Nat.add_sub_cancel, Int.reduceToNat, Int.toNat_zero, Int.toNat_one, al3, al4, al5, al6, al8, al9, al11, al13, al15, al17, al19, al21, al23, al25, al27, al29, al30, al31, al95, al96, al128, al129, al130, al131, al134, al135, al137, al139, al140, al142, al143, al144, al145, al147, al148, al149, al151, al152, al153, al154, al155, al156, al158, al159, al160, al161, al162, al163, al164, al165, al166, al167, al168, al169, al170, al171, al172, al173, al174, al175, al176])
      refine hQ M (fr_refl _ _) fun j b hj hb => ?_
      rw [hm j b hj hb, ← pC_a hb]
      unfold pC
      by_cases e : j = i
      · subst e
        rw [if_pos (show j < j ∨ (j = j ∧ b < n) from Or.inr ⟨rfl, hb⟩)]
        by_cases e2 : b < a
        · rw [if_pos (show j < j ∨ (j = j ∧ b < a) from Or.inr ⟨rfl, e2⟩)]
        · rw [if_neg (show ¬ (j < j ∨ (j = j ∧ b < a)) by omega), tC_w hah (by omega)]
          split
          · rw [Int.natCast_add, Int.natCast_add, w32_z h0]; rw [show ((0 : Nat) : Int) = 0 from rfl, Int.add_zero]
          · rfl
      · have : (j < i ∨ (j = i ∧ b < a)) ↔ (j < i ∨ (j = i ∧ b < n)) := by omega
        simp only [this]
    · refine wp_inb ⟨by omega, by omega⟩ ?_
      refine wp_inb ⟨by omega, by omega⟩ ?_
      rw [hm i a hi (by omega), bit01_nat (by omega) (by omega)]
      refine wp_up fun M1 f1 g1 => ?_
      refine wp_I ?_
      (try simp (disch := omega) only [w32_i, tn_l, tn_n, tn_r, tn_s, tn_1, Nat.add_sub_cancel, Int.reduceToNat, Int.toNat_zero, Int.toNat_one, al3, al4, al5, al6, al8, al9, al11, al13, al15, al17, al19, al21, al23, al25, al27, al29, al30, al31, al95, al96, al128, al129, al130, al131, al134, al135, al137, al139, al140, al142, al143, al144, al145, al147, al148, al149, al151, al152, al153, al154, al155, al156, al158, al159, al160, al161, al162, al163, al164, al165, al166, al167, al168, al169, al170, al171, al172, al173, al174, al175, al176])
      refine ord_co_76_lp d ah n S i h10 hah hS hi Q f (a + 1) M1 (by omega) (fun j b hj hb => ?_) fun M' f' => hQ M' (fr_tt f1 f')
      rw [g1, pC_s]
      by_cases e : j = i ∧ b = a
      · obtain ⟨rfl, rfl⟩ := e
        rw [if_pos rfl, if_pos (show j = j ∧ b = b from ⟨rfl, rfl⟩), tC_w hah (by omega), w32_m1, w32_a2]
        by_cases hbb : S.testBit b = true
        · rw [if_pos hbb, if_pos hbb, Int.mul_one]; rfl
        · rw [if_neg hbb, if_neg hbb, Int.mul_zero]; rfl
      · rw [if_neg (by omega), if_neg e, hm j b hj hb]; rfl
theorem ord_co_24_lp (d : Nat) (ah : Nat → Nat) (n S : Nat) (h10 : n ≤ 10) (hah : ∀ b, ah b < 2147483648) (hS : S < 2 ^ n) (Q : List aV → aM → Prop) (U B : Nat → Int) (hU : ∀ T, T < 2 ^ n → U T = ((UO ah n T : Nat) : Int)) (hB : ∀ T, T < 2 ^ n → UO ah n T ≠ 0 → B T = w32 ((BO ah n T : Nat) : Int)) : ∀ (f i : Nat) (M : aM), i + f = n → (∀ b, b < 10 → M 142 b = ((ah b : Nat) : Int)) → M 143 = U → M 144 = B → (∀ j b, j < n → b < n → M 145 (10 * b + j) = w32 ((pC ah n S i 0 j b : Nat) : Int)) →
    (∀ M', fr [145] M M' → (∀ j b, j < n → b < n → M' 145 (10 * b + j) = w32 ((pC ah n (S + 1) 0 0 j b : Nat) : Int)) → wp (w_ord_countCouples_16 (d + 1) n ((2 ^ n - 1 : Nat) : Int) ((S + 1 : Nat) : Int) M') Q) → wp (w_ord_countCouples_24 (d + 1) n ((2 ^ n - 1 : Nat) : Int) S i M) Q
  | 0, i, M, h, ha, hu, hb, hm, hQ => by
    have hp : 2 ^ n ≤ 2 ^ 10 := Nat.pow_le_pow_right (by omega) h10
    rw [l_ord_countCouples_24]
    refine wp_neg (by omega) ?_
    refine wp_I ?_
    (try simp (disch := omega) only [w32_i, tn_l, tn_n, tn_r, tn_s, tn_1, Nat.add_sub_cancel, Int.reduceToNat, Int.toNat_zero, Int.toNat_one, al3, al4, al5, al6, al8, al9, al11, al13, al15, al17, al19, al21, al23, al25, al27, al29, al30, al31, al95, al96, al128, al129, al130, al131, al134, al135, al137, al139, al140, al142, al143, al144, al145, al147, al148, al149, al151, al152, al153, al154, al155, al156, al158, al159, al160, al161, al162, al163, al164, al165, al166, al167, al168, al169, al170, al171, al172, al173, al174, al175, al176])
    refine hQ M (fr_refl _ _) fun j b hj hb => ?_
    rw [hm j b hj hb, show i = n by omega, pC_n hj]
  | f + 1, i, M, h, ha, hu, hb, hm, hQ => by
    have hp : 2 ^ n ≤ 2 ^ 10 := Nat.pow_le_pow_right (by omega) h10
    rw [l_ord_countCouples_24, al143, al144, tn_n, hu, hU S hS]
    refine wp_pos (by omega) ?_
    refine wp_inb ⟨by omega, by omega⟩ ?_
    refine wp_if (fun h0 => ?_) (fun h0 => ?_)
    · refine wp_I ?_
      (try simp (disch := omega) only [w32_i, tn_l, tn_n, tn_r, tn_s, tn_1, Nat.add_sub_cancel, Int.reduceToNat, Int.toNat_zero, Int.toNat_one, al3, al4, al5, al6, al8, al9, al11, al13, al15, al17, al19, al21, al23, al25, al27, al29, al30, al31, al95, al96, al128, al129, al130, al131, al134, al135, al137, al139, al140, al142, al143, al144, al145, al147, al148, al149, al151, al152, al153, al154, al155, al156, al158, al159, al160, al161, al162, al163, al164, al165, al166, al167, al168, al169, al170, al171, al172, al173, al174, al175, al176])
      refine hQ M (fr_refl _ _) fun j b hj hb => ?_
      rw [hm j b hj hb, pC_z]
      unfold tC
      rw [show UO ah n S = 0 by omega]
      simp
    refine wp_eI (ord_can_eq _ ah S i M ha hah (by omega) (by omega)) ?_
    have go : ∀ x : Int, x = w32 ((wC ah n S i : Nat) : Int) → wp (w_ord_countCouples_76 (d + 1) n ((2 ^ n - 1 : Nat) : Int) S i x 0 M) Q := by
      rintro x rfl
      refine ord_co_76_lp d ah n S i h10 hah hS (by omega) Q n 0 M (by omega) hm fun M1 f1 g1 => ?_
      exact ord_co_24_lp d ah n S h10 hah hS Q U B hU hB f (i + 1) M1 (by omega) (fun b hb => by rw [f1 142 (by simp)]; exact ha b hb) (by rw [f1 143 (by simp), hu]) (by rw [f1 144 (by simp), hb]) g1 fun M' f' => hQ M' (fr_tt f1 f')
    refine wp_bif (fun hc => ?_) (fun hc => ?_)
    · have hc := of_decide_eq_false hc
      refine go 0 ?_
      unfold wC
      rw [if_neg hc]
      show (0 : Int) = w32 0
      rw [w32_i (by omega) (by omega)]
    · have hc := of_decide_eq_true hc
      have hg := or_gt hS (show i < n by omega) hc.1
      have hz := UO_nz (by omega) hS (by omega) hc.1 hc.2 (by omega : UO ah n S ≠ 0)
      rw [ior_bit (by omega) (by omega), tn_n, hu, hb, hU S hS, hB _ hg.2 hz]
      refine wp_inb ⟨by omega, by omega⟩ ?_
      refine wp_inb ⟨by omega, by omega⟩ ?_
      refine wp_I ?_
      refine go _ ?_
      unfold wC
      rw [if_pos hc, w32_m]
      rfl
theorem ord_co_16_lp (d : Nat) (ah : Nat → Nat) (n : Nat) (h10 : n ≤ 10) (hah : ∀ b, ah b < 2147483648) (U B : Nat → Int) (hU : ∀ T, T < 2 ^ n → U T = ((UO ah n T : Nat) : Int)) (hB : ∀ T, T < 2 ^ n → UO ah n T ≠ 0 → B T = w32 ((BO ah n T : Nat) : Int)) : ∀ (f S : Nat) (M : aM), S + f = 2 ^ n - 1 ∨ (f = 0 ∧ 2 ^ n - 1 ≤ S ∧ S ≤ 2 ^ n) → (∀ b, b < 10 → M 142 b = ((ah b : Nat) : Int)) → M 143 = U → M 144 = B → (∀ j b, j < n → b < n → M 145 (10 * b + j) = w32 ((pC ah n S 0 0 j b : Nat) : Int)) →
    wp (w_ord_countCouples_16 (d + 1) n ((2 ^ n - 1 : Nat) : Int) S M) fun r M' => r = [] ∧ fr [145] M M' ∧ ∀ j b, j < n → b < n → M' 145 (10 * b + j) = w32 ((UO (updA ah b j) n (2 ^ n - 1) : Nat) : Int)
  | 0, S, M, h, ha, hu, hb, hm => by
    have hpos := Nat.two_pow_pos n
    rw [l_ord_countCouples_16]
    refine wp_neg (by omega) ?_
    refine wp_ret ⟨rfl, fr_refl _ _, fun j b hj hb => ?_⟩
    rw [hm j b hj hb]
    have e1 := flow (ah := ah) (ah' := updA ah b j) (show n ≤ 30 by omega) hj fun d hd => upd_ne hd
    rw [← e1]
    congr 2
    unfold pC
    rw [if_neg (by omega), Nat.add_zero]
    have hS : S = 2 ^ n - 1 ∨ S = 2 ^ n := by omega
    rcases hS with hS | hS
    · rw [show (2 ^ n) = S + 1 by omega, sN_s, if_pos (by rw [hS]; exact full_tb hj)]
      rfl
    · rw [hS]; rfl
  | f + 1, S, M, h, ha, hu, hb, hm => by
    have hpos := Nat.two_pow_pos n
    rw [l_ord_countCouples_16]
    refine wp_pos (by omega) ?_
    refine ord_co_24_lp d ah n S h10 hah (by omega) _ U B hU hB n 0 M (by omega) ha hu hb hm fun M1 f1 g1 => ?_
    refine wp_mono (ord_co_16_lp d ah n h10 hah U B hU hB f (S + 1) M1 (by omega) (fun b hb => by rw [f1 142 (by simp)]; exact ha b hb) (by rw [f1 143 (by simp), hu]) (by rw [f1 144 (by simp), hb]) g1) ?_
    rintro r M' ⟨q1, q2, q3⟩
    exact ⟨q1, fr_tt f1 q2, q3⟩
theorem ord_co_eq (d : Nat) (ah : Nat → Nat) (n : Nat) (h10 : n ≤ 10) (hah : ∀ b, ah b < 2147483648) (M : aM) (ha : ∀ b, b < 10 → M 142 b = ((ah b : Nat) : Int)) (hU : ∀ T, T < 2 ^ n → M 143 T = ((UO ah n T : Nat) : Int)) (hB : ∀ T, T < 2 ^ n → UO ah n T ≠ 0 → M 144 T = w32 ((BO ah n T : Nat) : Int)) :
    wp (w_ord_countCouples (d + 2) n M) fun r M' => r = [] ∧ fr [145] M M' ∧ ∀ j b, j < n → b < n → M' 145 (10 * b + j) = ((UO (updA ah b j) n (2 ^ n - 1) : Nat) : Int) := by
  have hp : 2 ^ n ≤ 2 ^ 10 := Nat.pow_le_pow_right (by omega) h10
  have hpos := Nat.two_pow_pos n
  rw [l_ord_countCouples]
  refine wp_bV (ja_fillI_eq _ 145 0 100 al145 (by omega) M) ?_
  rintro M1 ⟨f1, g1⟩
  rw [pw1 h10]
  refine wp_I ?_
  refine wp_mono (ord_co_16_lp d ah n h10 hah (M 143) (M 144) hU hB (2 ^ n - 2) 1 M1 (by omega) (fun b hb => by rw [f1 142 (by simp)]; exact ha b hb) (f1 143 (by simp)) (f1 144 (by simp)) fun j b hj hb => ?_) ?_
  · rw [g1, if_pos (by omega)]
    have : pC ah n 1 0 0 j b = 0 := by
      unfold pC
      rw [if_neg (by omega), Nat.add_zero, sN_s, tC_w hah (by omega), Nat.zero_testBit]
      rfl
    rw [this]
    show (0 : Int) = w32 0
    rw [w32_i (by omega) (by omega)]
  · rintro r M' ⟨q1, q2, q3⟩
    refine ⟨q1, fr_tt f1 q2, fun j b hj hb => ?_⟩
    have := UO_lt (updA ah b j) h10 (show 2 ^ n - 1 < 2147483648 by omega)
    rw [q3 j b hj hb, w32_i (by omega) (by omega)]
/-- the couple for which the greater number is least -/
def bIn (g : Nat → Nat → Int) (a : Nat) : Nat → Nat → Int × Int → Int × Int
  | 0, _, st => st
  | k + 1, b, st => bIn g a k (b + 1) (if g a b < st.1 then (g a b, 10 * (a : Int) + b) else st)
def bOu (g : Nat → Nat → Int) (n : Nat) : Nat → Nat → Int × Int → Int × Int
  | 0, _, st => st
  | k + 1, a, st => bOu g n k (a + 1) (bIn g a (n - (a + 1)) (a + 1) st)
def stR (l c : Int) (st : Int × Int) : Prop := (c = -1 ∧ st = (10000000, -1)) ∨ (0 ≤ c ∧ c < 110 ∧ st = (l, c))
theorem ord_asks_52_lp (d : Nat) (g : Nat → Nat → Int) (n a : Nat) (h10 : n ≤ 10) (ha : a < n) (w : Int) (M : aM) (hg : ∀ b, a < b → b < n → imax (M 145 (10 * a + b)) (M 145 (10 * b + a)) = g a b ∧ g a b < 10000000) (Q : List aV → aM → Prop) : ∀ (f b : Nat) (l c : Int) (st : Int × Int), a < b → b + f = n → stR l c st →
    (∀ l c, stR l c (bIn g a f b st) → wp (w_ord_asks_40 d w n l c ((a + 1 : Nat) : Int) M) Q) → wp (w_ord_asks_52 d w n l c a b M) Q
  | 0, b, l, c, st, hab, h, hr, hQ => by
    rw [l_ord_asks_52]
    refine wp_neg (by omega) ?_
    refine wp_I ?_
    (try simp (disch := omega) only [w32_i, tn_l, tn_n, tn_r, tn_s, tn_1, Nat.add_sub_cancel, Int.reduceToNat, Int.toNat_zero, Int.toNat_one, al3, al4, al5, al6, al8, al9, al11, al13, al15, al17, al19, al21, al23, al25, al27, al29, al30, al31, al95, al96, al128, al129, al130, al131, al134, al135, al137, al139, al140, al142, al143, al144, al145, al147, al148, al149, al151, al152, al153, al154, al155, al156, al158, al159, al160, al161, al162, al163, al164, al165, al166, al167, al168, al169, al170, al171, al172, al173, al174, al175, al176])
    exact hQ l c hr
  | f + 1, b, l, c, st, hab, h, hr, hQ => by
    have e1 : w32 (w32 ((a : Int) * 10) + (b : Int)) = ((10 * a + b : Nat) : Int) := by simp (disch := omega) only [w32_i]; omega
    have e2 : w32 (w32 ((b : Int) * 10) + (a : Int)) = ((10 * b + a : Nat) : Int) := by simp (disch := omega) only [w32_i]; omega
    obtain ⟨g1, g2⟩ := hg b hab (by omega)
    rw [l_ord_asks_52, e1, e2, al145, tn_n, tn_n, g1]
    refine wp_pos (by omega) ?_
    refine wp_inb ⟨by omega, by omega⟩ ?_
    refine wp_inb ⟨by omega, by omega⟩ ?_
    refine wp_I ?_
    have next : ∀ l c, stR l c (if g a b < st.1 then (g a b, 10 * (a : Int) + b) else st) → wp (w_ord_asks_52 d w n l c a ((b + 1 : Nat) : Int) M) Q := fun l c hr => ord_asks_52_lp d g n a h10 ha w M hg Q f (b + 1) l c _ (by omega) (by omega) hr hQ
    refine wp_if (fun hc => ?_) (fun hc => ?_)
    · refine wp_I ?_
      refine wp_I ?_
      (try simp (disch := omega) only [w32_i, tn_l, tn_n, tn_r, tn_s, tn_1, Nat.add_sub_cancel, Int.reduceToNat, Int.toNat_zero, Int.toNat_one, al3, al4, al5, al6, al8, al9, al11, al13, al15, al17, al19, al21, al23, al25, al27, al29, al30, al31, al95, al96, al128, al129, al130, al131, al134, al135, al137, al139, al140, al142, al143, al144, al145, al147, al148, al149, al151, al152, al153, al154, al155, al156, al158, al159, al160, al161, al162, al163, al164, al165, al166, al167, al168, al169, al170, al171, al172, al173, al174, al175, al176])
      refine next _ _ ?_
      rcases hr with ⟨-, rfl⟩ | h
      · rw [if_pos g2]
        exact Or.inr ⟨by omega, by omega, rfl⟩
      · omega
    · rcases hr with h | ⟨h1, h3, rfl⟩
      · exact absurd h.1 hc
      refine wp_if (fun h2 => ?_) (fun h2 => ?_)
      · refine wp_I ?_
        refine wp_I ?_
        (try simp (disch := omega) only [w32_i, tn_l, tn_n, tn_r, tn_s, tn_1, Nat.add_sub_cancel, Int.reduceToNat, Int.toNat_zero, Int.toNat_one, al3, al4, al5, al6, al8, al9, al11, al13, al15, al17, al19, al21, al23, al25, al27, al29, al30, al31, al95, al96, al128, al129, al130, al131, al134, al135, al137, al139, al140, al142, al143, al144, al145, al147, al148, al149, al151, al152, al153, al154, al155, al156, al158, al159, al160, al161, al162, al163, al164, al165, al166, al167, al168, al169, al170, al171, al172, al173, al174, al175, al176])
        refine next _ _ ?_
        rw [if_pos h2]
        exact Or.inr ⟨by omega, by omega, rfl⟩
      · refine wp_I ?_
        (try simp (disch := omega) only [w32_i, tn_l, tn_n, tn_r, tn_s, tn_1, Nat.add_sub_cancel, Int.reduceToNat, Int.toNat_zero, Int.toNat_one, al3, al4, al5, al6, al8, al9, al11, al13, al15, al17, al19, al21, al23, al25, al27, al29, al30, al31, al95, al96, al128, al129, al130, al131, al134, al135, al137, al139, al140, al142, al143, al144, al145, al147, al148, al149, al151, al152, al153, al154, al155, al156, al158, al159, al160, al161, al162, al163, al164, al165, al166, al167, al168, al169, al170, al171, al172, al173, al174, al175, al176])
        refine next _ _ ?_
        rw [if_neg h2]
        exact Or.inr ⟨h1, h3, rfl⟩
theorem ord_asks_40_lp (d : Nat) (g : Nat → Nat → Int) (n : Nat) (h10 : n ≤ 10) (w : Int) (M : aM) (hg : ∀ a b, a < b → b < n → imax (M 145 (10 * a + b)) (M 145 (10 * b + a)) = g a b ∧ g a b < 10000000) : ∀ (f a : Nat) (l c : Int) (st : Int × Int), a + f = n → stR l c st →
    wp (w_ord_asks_40 d w n l c a M) fun r M' => r = [aI (if (bOu g n f a st).2 = -1 then -1 else if w = 0 then irem (bOu g n f a st).2 10 else idiv (bOu g n f a st).2 10)] ∧ M' = M
  | 0, a, l, c, st, h, hr => by
    have e : (bOu g n 0 a st).2 = c := by
      rcases hr with ⟨h1, rfl⟩ | ⟨h1, h2, rfl⟩
      · exact h1.symm
      · rfl
    rw [l_ord_asks_40, e]
    refine wp_neg (by omega) ?_
    refine wp_if (fun h0 => ?_) (fun h0 => ?_)
    · rw [if_pos h0]; exact wp_ret ⟨rfl, rfl⟩
    · rw [if_neg h0]
      refine wp_if (fun h1 => ?_) (fun h1 => ?_)
      · rw [if_pos h1]; exact wp_ret ⟨rfl, rfl⟩
      · rw [if_neg h1]; exact wp_ret ⟨rfl, rfl⟩
  | f + 1, a, l, c, st, h, hr => by
    rw [l_ord_asks_40]
    refine wp_pos (by omega) ?_
    refine wp_I ?_
    (try simp (disch := omega) only [w32_i, tn_l, tn_n, tn_r, tn_s, tn_1, Nat.add_sub_cancel, Int.reduceToNat, Int.toNat_zero, Int.toNat_one, al3, al4, al5, al6, al8, al9, al11, al13, al15, al17, al19, al21, al23, al25, al27, al29, al30, al31, al95, al96, al128, al129, al130, al131, al134, al135, al137, al139, al140, al142, al143, al144, al145, al147, al148, al149, al151, al152, al153, al154, al155, al156, al158, al159, al160, al161, al162, al163, al164, al165, al166, al167, al168, al169, al170, al171, al172, al173, al174, al175, al176])
    refine ord_asks_52_lp d g n a h10 (by omega) w M (fun b hab hb => hg a b hab hb) _ (n - (a + 1)) (a + 1) l c st (by omega) (by omega) hr fun l c hr => ?_
    exact ord_asks_40_lp d g n h10 w M hg f (a + 1) l c _ (by omega) hr
theorem ord_ltf_lp (d : Nat) (ah : Nat → Nat) (S n : Nat) (h10 : n ≤ 10) (hah : ∀ b, ah b < 2147483648) (hS : S < 2147483648) (M : aM) (ha : ∀ b, b < 10 → M 142 b = ((ah b : Nat) : Int)) : ∀ (f i : Nat), i + f = n → w_ord_leastToFollow_2 (d + 1) S n i M = some ([aI (match lfo ah S f i with | none => -1 | some j => (j : Int))], M)
  | 0, i, h => by rw [u_ord_leastToFollow_2, if_neg (by omega)]; rfl
  | f + 1, i, h => by
    have ih := ord_ltf_lp d ah S n h10 hah hS M ha f (i + 1) (by omega)
    rw [u_ord_leastToFollow_2, if_pos (by omega), ord_can_eq d ah S i M ha hah hS (by omega), bndI_s]
    unfold lfo
    by_cases hc : S.testBit i = false ∧ can ah i S = true
    · rw [decide_eq_true hc, bI_t, if_neg (by decide), if_pos hc]
    · rw [decide_eq_false hc, bI_f, if_pos rfl, if_neg hc]
      (try dsimp only)
      rw [show w32 ((i : Int) + 1) = ((i + 1 : Nat) : Int) by rw [w32_i (by omega) (by omega)]; rfl]
      exact ih
/-- who comes k-th in the first order -/
def gI (ah : Nat → Nat) (n k : Nat) : Int := match gS ah n k with
  | none => -1
  | some S => match lfo ah S n 0 with
    | none => -1
    | some i => (i : Int)
theorem gS_none {ah : Nat → Nat} {n k : Nat} (h : gS ah n k = none) : ∀ j, gS ah n (k + j) = none
  | 0 => h
  | j + 1 => by
    have := gS_none h j
    show gS ah n (k + j + 1) = none
    unfold gS
    rw [this]
theorem ord_pl_19_lp (d : Nat) (ah : Nat → Nat) (n p : Nat) (h10 : n ≤ 10) (hp : p < n) (hah : ∀ b, ah b < 2147483648) (M : aM) (ha : ∀ b, b < 10 → M 142 b = ((ah b : Nat) : Int)) : ∀ (f k S : Nat) (ans : Int), k + f = n → gS ah n k = some S → (p < k → ans = gI ah n p) →
    w_ord_placeOfFirst_19 (d + 2) p n S ans k M = some ([aI (if gS ah n n = none then -1 else gI ah n p)], M)
  | 0, k, S, ans, h, hs, hans => by
    rw [u_ord_placeOfFirst_19, if_neg (by omega), hans (by omega), if_neg]
    rw [show k = n by omega] at hs
    rw [hs]
    simp
  | f + 1, k, S, ans, h, hs, hans => by
    have hpw : 2 ^ n ≤ 2 ^ 10 := Nat.pow_le_pow_right (by omega) h10
    obtain ⟨s1, s2, s3⟩ := gS_spec (by omega) k S hs
    rw [u_ord_placeOfFirst_19, if_pos (by omega), u_ord_leastToFollow, show w_ord_leastToFollow_2 (d + 1) S n 0 M = _ from ord_ltf_lp d ah S n h10 hah (by omega) M ha n 0 (by omega), bndI_s]
    cases hl : lfo ah S n 0 with
    | none =>
      have h1 : gS ah n (k + 1) = none := by unfold gS; rw [hs]; simp only; rw [hl]
      have h2 := gS_none h1 f
      rw [show k + 1 + f = n by omega] at h2
      (try dsimp only)
      rw [if_pos rfl, if_pos h2]
    | some i =>
      obtain ⟨-, i2, i3, i4⟩ := lfo_s n 0 hl
      have h1 : gS ah n (k + 1) = some (S ||| 2 ^ i) := by unfold gS; rw [hs]; simp only; rw [hl]
      (try dsimp only)
      rw [if_neg (by omega), ior_bit (by omega) (by omega)]
      have e5 : w32 ((k : Int) + 1) = ((k + 1 : Nat) : Int) := by rw [w32_i (by omega) (by omega)]; rfl
      rw [e5]
      by_cases e : k = p
      · rw [if_pos (by omega)]
        refine ord_pl_19_lp d ah n p h10 hp hah M ha f (k + 1) _ _ (by omega) h1 fun _ => ?_
        unfold gI
        rw [← e, hs]
        simp only
        rw [hl]
      · rw [if_neg (by omega)]
        exact ord_pl_19_lp d ah n p h10 hp hah M ha f (k + 1) _ _ (by omega) h1 fun hk => hans (by omega)
