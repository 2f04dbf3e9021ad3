/-! orders: the class -/
theorem w32_a2 (a b : Int) : w32 (w32 a + w32 b) = w32 (a + b) := by simp only [w32_def]; omega
theorem w32_sub (x t : Int) : w32 (x - 4294967296 * t) = w32 x := by simp only [w32_def]; omega
theorem w32_m (a b : Int) : w32 (a * w32 b) = w32 (a * b) := by
  have e : w32 b = b - 4294967296 * ((b + 2147483648) / 4294967296) := by rw [w32_def]; omega
  rw [e, Int.mul_sub, show a * (4294967296 * ((b + 2147483648) / 4294967296)) = 4294967296 * (a * ((b + 2147483648) / 4294967296)) by rw [← Int.mul_assoc, Int.mul_comm a, Int.mul_assoc], w32_sub]
theorem w32_m1 (a b : Int) : w32 (w32 a * b) = w32 (a * b) := by rw [Int.mul_comm, w32_m, Int.mul_comm]
theorem w32_z {x y : Int} (h : w32 y = 0) : w32 (x + y) = w32 x := by
  rw [← w32_a2, h]; simp only [w32_def]; omega
/-- who is told to come ahead of b, by the first of SEEN -/
def aH (V : aW) : Nat → Nat → Nat
  | 0, _ => 0
  | i + 1, b => if V (176 + 2 * i) = (b : Int) then aH V i b ||| 2 ^ (V (175 + 2 * i)).toNat else aH V i b
theorem aH_lt {V : aW} {n : Nat} : ∀ m, (∀ i, i < m → 0 ≤ V (175 + 2 * i) ∧ V (175 + 2 * i) < n) → ∀ b, aH V m b < 2 ^ n
  | 0, _, b => Nat.two_pow_pos n
  | m + 1, h, b => by
    have ih := aH_lt m (fun i hi => h i (by omega)) b
    unfold aH
    split
    · have := h m (by omega)
      exact Nat.or_lt_two_pow ih (Nat.pow_lt_pow_right (by omega) (by omega))
    · exact ih
theorem ord_learn_lp (d : Nat) (V : aW) (n m : Nat) (h10 : n ≤ 10) (hm : m ≤ 12) (h41 : V 41 = n) (hs : ∀ i, i < m → (0 ≤ V (175 + 2 * i) ∧ V (175 + 2 * i) < n) ∧ (0 ≤ V (176 + 2 * i) ∧ V (176 + 2 * i) < n)) : ∀ (f i : Nat) (M : aM), i + f = m → M 20 2 = m → (∀ i, i < m → M 21 (4 * i) = V (175 + 2 * i) ∧ M 21 (4 * i + 1) = V (176 + 2 * i)) → M 2 4 = n → (∀ b, b < 10 → M 142 b = ((aH V i b : Nat) : Int)) →
    wp (w_ord_learn_10 (d + 2) 1 i M) fun r M' => r = [] ∧ fr [142] M M' ∧ ∀ b, b < 10 → M' 142 b = ((aH V m b : Nat) : Int)
  | 0, i, M, h, r2, rc, hn, hb => by
    rw [l_ord_learn_10, show (1 + 19 : Nat) = 20 from rfl]
    refine wp_neg (by omega) ?_
    exact wp_ret ⟨rfl, fr_refl _ _, by rw [show m = i by omega]; exact hb⟩
  | f + 1, i, M, h, r2, rc, hn, hb => by
    obtain ⟨c0, c1⟩ := rc i (by omega)
    obtain ⟨v0, v1⟩ := hs i (by omega)
    have q0 : w_rows_cell (d + 2) 20 (i : Int) 0 M = some ([aI (V (175 + 2 * i))], M) := (rows_cell_eq d 20 i 0 M (by omega) (by decide) (by rw [al21]; omega) (by omega)).trans (by rw [← c0]; rfl)
    have q1 : w_rows_cell (d + 2) 20 (i : Int) 1 M = some ([aI (V (176 + 2 * i))], M) := (rows_cell_eq d 20 i 1 M (by omega) (by decide) (by rw [al21]; omega) (by omega)).trans (by rw [← c1])
    have hlt := aH_lt (V := V) (n := n) i fun i hi => (hs i (by omega)).1
    have hp : 2 ^ n ≤ 2 ^ 10 := Nat.pow_le_pow_right (by omega) h10
    rw [l_ord_learn_10, show (1 + 19 : Nat) = 20 from rfl]
    refine wp_pos (by omega) ?_
    refine wp_eI q0 ?_
    refine wp_eI q1 ?_
    refine wp_eI (wood_has_eq _ 2 _ V M (by rw [hn, h41]) (by omega)) ?_
    refine wp_neg (by rw [decide_eq_true (by omega)]; decide) ?_
    refine wp_eI (wood_has_eq _ 2 _ V M (by rw [hn, h41]) (by omega)) ?_
    refine wp_neg (by rw [decide_eq_true (by omega)]; decide) ?_
    rw [al142]
    refine wp_inb ⟨by omega, by omega⟩ ?_
    refine wp_inb ⟨by omega, by omega⟩ ?_
    obtain ⟨a, ha⟩ : ∃ a : Nat, V (175 + 2 * i) = a := ⟨(V (175 + 2 * i)).toNat, by omega⟩
    obtain ⟨e, he⟩ : ∃ e : Nat, V (176 + 2 * i) = e := ⟨(V (176 + 2 * i)).toNat, by omega⟩
    have hla := hlt e
    rw [ha, he, tn_n, hb e (by omega), ior_bit (by omega) (by omega)]
    refine wp_up fun M1 f1 g1 => ?_
    refine wp_I ?_
    (try simp (disch := omega) only [w32_i, tn_l, tn_n, tn_r, tn_s, tn_1, Nat.add_sub_cancel, Int.reduceToNat, Int.toNat_zero, Int.toNat_one, al3, al4, al5, al6, al8, al9, al11, al13, al15, al17, al19, al21, al23, al25, al27, al29, al30, al31, al95, al96, al128, al129, al130, al131, al134, al135, al137, al139, al140, al142, al143, al144, al145, al147, al148, al149, al151, al152, al153, al154, al155, al156, al158, al159, al160, al161, al162, al163, al164, al165, al166, al167, al168, al169, al170, al171, al172, al173, al174, al175, al176])
    refine wp_mono (ord_learn_lp d V n m h10 hm h41 hs f (i + 1) M1 (by omega) (by rw [f1 20 (by simp), r2]) (fun j hj => by rw [f1 21 (by simp)]; exact rc j hj) (by rw [f1 2 (by simp), hn]) fun b hb2 => ?_) fun r M' q => ⟨q.1, fr_tt f1 q.2.1, q.2.2⟩
    rw [g1]
    simp only [aH]
    rw [ha, tn_n]
    by_cases hba : b = e
    · subst hba; rw [if_pos rfl, if_pos he]
    · rw [if_neg hba, if_neg (by omega), hb b hb2]
theorem ord_learn_eq (d : Nat) (V : aW) (n m : Nat) (h10 : n ≤ 10) (hm : m ≤ 12) (h41 : V 41 = n) (hs : ∀ i, i < m → (0 ≤ V (175 + 2 * i) ∧ V (175 + 2 * i) < n) ∧ (0 ≤ V (176 + 2 * i) ∧ V (176 + 2 * i) < n)) (M : aM) (r2 : M 20 2 = m) (rc : ∀ i, i < m → M 21 (4 * i) = V (175 + 2 * i) ∧ M 21 (4 * i + 1) = V (176 + 2 * i)) (hn : M 2 4 = n) :
    wp (w_ord_learn (d + 3) 1 M) fun r M' => r = [] ∧ fr [142] M M' ∧ ∀ b, b < 10 → M' 142 b = ((aH V m b : Nat) : Int) := by
  rw [l_ord_learn]
  refine wp_bV (ja_fillI_eq _ 142 0 10 al142 (by omega) M) ?_
  rintro M1 ⟨f1, g1⟩
  refine wp_mono (ord_learn_lp d V n m h10 hm h41 hs m 0 M1 (by omega) (by rw [f1 20 (by simp), r2]) (fun j hj => by rw [f1 21 (by simp)]; exact rc j hj) (by rw [f1 2 (by simp), hn]) fun b hb2 => ?_) fun r M' q => ⟨q.1, fr_tt f1 q.2.1, q.2.2⟩
  rw [g1, if_pos hb2]; rfl
theorem ord_can_eq (d : Nat) (ah : Nat → Nat) (S i : Nat) (M : aM) (h : ∀ b, b < 10 → M 142 b = ((ah b : Nat) : Int)) (hah : ∀ b, ah b < 2147483648) (hS : S < 2147483648) (hi : i < 10) : w_ord_canFollow (d + 1) S i M = some ([aI (bI (decide (S.testBit i = false ∧ can ah i S = true)))], M) := by
  rw [u_ord_canFollow, bit01_nat hS (by omega), al142, inb_s (by omega) (by omega), tn_n, h i hi, iand_not_def _ _ (hah i) hS]
  unfold can
  cases h1 : S.testBit i with
  | true => rw [if_pos rfl, if_neg (by decide), decide_eq_false (by simp)]; rfl
  | false =>
    rw [if_pos (show (if false = true then (1 : Int) else 0) = 0 from rfl)]
    by_cases h2 : ah i &&& (S ^^^ 2147483647) = 0
    · rw [h2, if_pos (show ((0 : Nat) : Int) = 0 from rfl), decide_eq_true (by simp)]; rfl
    · rw [if_neg (by omega), decide_eq_false (by simp [h2])]; rfl
theorem UO_nz {ah : Nat → Nat} {n S i : Nat} (hn : n ≤ 30) (hS : S < 2 ^ n) (hi : i < n) (h1 : S.testBit i = false) (h2 : can ah i S = true) (h : UO ah n S ≠ 0) : UO ah n (S ||| 2 ^ i) ≠ 0 := by
  have hp : 2 ^ n ≤ 2 ^ 30 := Nat.pow_le_pow_right (by omega) hn
  have hg := or_gt hS hi h1
  have hr := rm_or (show S < 2147483648 by omega) (show i < 31 by omega) h1
  have hb : (S ||| 2 ^ i).testBit i = true := by rw [tb_or]; simp
  rw [UO_eq (by omega) (by omega)]
  have := sN_ge (f := fun d => if (S ||| 2 ^ i).testBit d = true ∧ can ah d (rm (S ||| 2 ^ i) d) = true then UO ah n (rm (S ||| 2 ^ i) d) else 0) n hi
  (try dsimp only at this)
  rw [hr, if_pos ⟨hb, h2⟩] at this
  omega
/-- what has come together when set S is at its i-th -/
def pU (ah : Nat → Nat) (n S i T : Nat) : Nat := if T = 0 then 1 else sN (fun d => if (T.testBit d = true ∧ can ah d (rm T d) = true) ∧ (rm T d < S ∨ (rm T d = S ∧ d < i)) then UO ah n (rm T d) else 0) n
theorem pU_0 (ah : Nat → Nat) (n T : Nat) : pU ah n 0 0 T = if T = 0 then 1 else 0 := by
  unfold pU
  split
  · rfl
  · exact sN_z n fun d hd => by (try dsimp only); rw [if_neg (by omega)]
theorem pU_U {ah : Nat → Nat} {n S i T : Nat} (h : T ≤ S) (hT : T < 2147483648) : pU ah n S i T = UO ah n T := by
  unfold pU
  by_cases h0 : T = 0
  · subst h0; rfl
  · rw [if_neg h0, UO_eq h0 hT]
    refine sN_c n fun d hd => ?_
    (try dsimp only)
    by_cases hc : T.testBit d = true ∧ can ah d (rm T d) = true
    · have := rm_lt hT hc.1
      rw [if_pos ⟨hc, by omega⟩, if_pos hc]
    · rw [if_neg fun e => hc e.1, if_neg hc]
theorem pU_le {ah : Nat → Nat} {n S i T : Nat} (hT : T < 2147483648) : pU ah n S i T ≤ UO ah n T := by
  unfold pU
  by_cases h0 : T = 0
  · subst h0; exact Nat.le_refl _
  · rw [if_neg h0, UO_eq h0 hT]
    refine sN_le n fun d hd => ?_
    (try dsimp only)
    by_cases hc : T.testBit d = true ∧ can ah d (rm T d) = true
    · rw [if_pos hc]; split
      · exact Nat.le_refl _
      · exact Nat.zero_le _
    · rw [if_neg fun e => hc e.1]; exact Nat.zero_le _
theorem pU_n (ah : Nat → Nat) (n S T : Nat) : pU ah n S n T = pU ah n (S + 1) 0 T := by
  unfold pU
  congr 1
  refine sN_c n fun d hd => ?_
  (try dsimp only)
  congr 1
  exact propext ⟨fun e => ⟨e.1, by omega⟩, fun e => ⟨e.1, by omega⟩⟩
theorem pU_z {ah : Nat → Nat} {n S : Nat} (h : UO ah n S = 0) (i T : Nat) : pU ah n S i T = pU ah n (S + 1) 0 T := by
  unfold pU
  congr 1
  refine sN_c n fun d hd => ?_
  (try dsimp only)
  by_cases e : rm T d = S
  · rw [e, h]; simp
  · congr 1
    exact propext ⟨fun e => ⟨e.1, by omega⟩, fun e => ⟨e.1, by omega⟩⟩
theorem pU_s {ah : Nat → Nat} {n S i T : Nat} (hn : n ≤ 30) (hi : i < n) (hS : S < 2147483648) (hT : T < 2147483648) : pU ah n S (i + 1) T = pU ah n S i T + (if T = S ||| 2 ^ i ∧ (S.testBit i = false ∧ can ah i S = true) then UO ah n S else 0) := by
  unfold pU
  by_cases h0 : T = 0
  · subst h0
    rw [if_pos rfl, if_pos rfl, if_neg]
    rintro ⟨e, -⟩
    have : (S ||| 2 ^ i).testBit i = true := by rw [tb_or]; simp
    rw [← e, Nat.zero_testBit] at this
    cases this
  · rw [if_neg h0, if_neg h0]
    by_cases hc : T.testBit i = true ∧ rm T i = S
    · obtain ⟨c1, c2⟩ := hc
      have e1 : T = S ||| 2 ^ i := by rw [← c2, or_rm hT c1]
      have e2 : S.testBit i = false := by rw [← c2, rm_tb hT]; simp
      refine sN_1 (i := i) ?_ n hi fun d hd hne => ?_
      · (try dsimp only)
        rw [c2]
        by_cases h3 : can ah i S = true
        · rw [if_pos ⟨⟨c1, h3⟩, by omega⟩, if_neg (fun e => absurd e.2 (by omega)), if_pos ⟨e1, e2, h3⟩, Nat.zero_add]
        · rw [if_neg fun e => h3 e.1.2, if_neg fun e => h3 e.1.2, if_neg fun e => h3 e.2.2]
      · (try dsimp only)
        congr 1
        exact propext ⟨fun e => ⟨e.1, by omega⟩, fun e => ⟨e.1, by omega⟩⟩
    · rw [if_neg, Nat.add_zero]
      · refine sN_c n fun d hd => ?_
        (try dsimp only)
        by_cases hb : T.testBit d = true
        · have : ¬ (rm T d = S ∧ d = i) := by rintro ⟨e1, e2⟩; subst e2; exact hc ⟨hb, e1⟩
          congr 1
          exact propext ⟨fun e => ⟨e.1, by omega⟩, fun e => ⟨e.1, by omega⟩⟩
        · rw [if_neg fun e => hb e.1.1, if_neg fun e => hb e.1.1]
      · rintro ⟨e1, e2, e3⟩
        refine hc ⟨by rw [e1, tb_or]; simp, ?_⟩
        rw [e1]
        exact rm_or hS (by omega) e2
theorem ord_up_31_lp (d : Nat) (ah : Nat → Nat) (n S : Nat) (h10 : n ≤ 10) (hah : ∀ b, ah b < 2147483648) (hS : S < 2 ^ n) (Q : List aV → aM → Prop) : ∀ (f i : Nat) (M : aM), i + f = n → (∀ b, b < 10 → M 142 b = ((ah b : Nat) : Int)) → (∀ T, T < 2 ^ n → M 143 T = ((pU ah n S i T : Nat) : Int)) →
    (∀ M', fr [143] M M' → (∀ T, T < 2 ^ n → M' 143 T = ((pU ah n (S + 1) 0 T : Nat) : Int)) → wp (w_ord_countUpTo_23 (d + 1) n ((2 ^ n - 1 : Nat) : Int) ((S + 1 : Nat) : Int) M') Q) → wp (w_ord_countUpTo_31 (d + 1) n ((2 ^ n - 1 : Nat) : Int) S i M) Q
  | 0, i, M, h, ha, hu, hQ => by
    have hp : 2 ^ n ≤ 2 ^ 10 := Nat.pow_le_pow_right (by omega) h10
    rw [l_ord_countUpTo_31]
    refine wp_neg (by omega) ?_
    refine wp_I ?_
    (try simp (disch := omega) only [w32_i, tn_l, tn_n, tn_r, tn_s, tn_1, Nat.add_sub_cancel, Int.reduceToNat, Int.toNat_zero, Int.toNat_one, al3, al4, al5, al6, al8, al9, al11, al13, al15, al17, al19, al21, al23, al25, al27, al29, al30, al31, al95, al96, al128, al129, al130, al131, al134, al135, al137, al139, al140, al142, al143, al144, al145, al147, al148, al149, al151, al152, al153, al154, al155, al156, al158, al159, al160, al161, al162, al163, al164, al165, al166, al167, al168, al169, al170, al171, al172, al173, al174, al175, al176])
    refine hQ M (fr_refl _ _) fun T hT => ?_
    rw [hu T hT, show i = n by omega, pU_n]
  | f + 1, i, M, h, ha, hu, hQ => by
    have hp : 2 ^ n ≤ 2 ^ 10 := Nat.pow_le_pow_right (by omega) h10
    rw [l_ord_countUpTo_31, al143, tn_n, hu S hS, pU_U (Nat.le_refl _) (by omega)]
    refine wp_pos (by omega) ?_
    refine wp_inb ⟨by omega, by omega⟩ ?_
    refine wp_if (fun h0 => ?_) (fun h0 => ?_)
    · refine wp_I ?_
      (try simp (disch := omega) only [w32_i, tn_l, tn_n, tn_r, tn_s, tn_1, Nat.add_sub_cancel, Int.reduceToNat, Int.toNat_zero, Int.toNat_one, al3, al4, al5, al6, al8, al9, al11, al13, al15, al17, al19, al21, al23, al25, al27, al29, al30, al31, al95, al96, al128, al129, al130, al131, al134, al135, al137, al139, al140, al142, al143, al144, al145, al147, al148, al149, al151, al152, al153, al154, al155, al156, al158, al159, al160, al161, al162, al163, al164, al165, al166, al167, al168, al169, al170, al171, al172, al173, al174, al175, al176])
      refine hQ M (fr_refl _ _) fun T hT => ?_
      rw [hu T hT, pU_z (by omega)]
    refine wp_eI (ord_can_eq _ ah S i M ha hah (by omega) (by omega)) ?_
    refine wp_bif (fun hc => ?_) (fun hc => ?_)
    · have hc := of_decide_eq_false hc
      refine wp_I ?_
      (try simp (disch := omega) only [w32_i, tn_l, tn_n, tn_r, tn_s, tn_1, Nat.add_sub_cancel, Int.reduceToNat, Int.toNat_zero, Int.toNat_one, al3, al4, al5, al6, al8, al9, al11, al13, al15, al17, al19, al21, al23, al25, al27, al29, al30, al31, al95, al96, al128, al129, al130, al131, al134, al135, al137, al139, al140, al142, al143, al144, al145, al147, al148, al149, al151, al152, al153, al154, al155, al156, al158, al159, al160, al161, al162, al163, al164, al165, al166, al167, al168, al169, al170, al171, al172, al173, al174, al175, al176])
      refine ord_up_31_lp d ah n S h10 hah hS Q f (i + 1) M (by omega) ha (fun T hT => ?_) hQ
      rw [hu T hT, pU_s (by omega) (by omega) (by omega) (by omega), if_neg fun e => hc e.2, Nat.add_zero]
    · have hc := of_decide_eq_true hc
      have hg := or_gt hS (show i < n by omega) hc.1
      rw [ior_bit (by omega) (by omega), tn_n, hu _ hg.2, hu S hS, pU_U (Nat.le_refl _) (by omega)]
      refine wp_inb ⟨by omega, by omega⟩ ?_
      refine wp_inb ⟨by omega, by omega⟩ ?_
      refine wp_inb ⟨by omega, by omega⟩ ?_
      have b1 := pU_s (ah := ah) (S := S) (T := S ||| 2 ^ i) (show n ≤ 30 by omega) (show i < n by omega) (by omega) (by omega)
      rw [if_pos ⟨rfl, hc⟩] at b1
      have b2 := pU_le (ah := ah) (n := n) (S := S) (i := i + 1) (show S ||| 2 ^ i < 2147483648 by omega)
      have b3 := UO_lt ah h10 (show S ||| 2 ^ i < 2147483648 by omega)
      rw [w32_i (by omega) (by omega)]
      refine wp_up fun M1 f1 g1 => ?_
      refine wp_I ?_
      (try simp (disch := omega) only [w32_i, tn_l, tn_n, tn_r, tn_s, tn_1, Nat.add_sub_cancel, Int.reduceToNat, Int.toNat_zero, Int.toNat_one, al3, al4, al5, al6, al8, al9, al11, al13, al15, al17, al19, al21, al23, al25, al27, al29, al30, al31, al95, al96, al128, al129, al130, al131, al134, al135, al137, al139, al140, al142, al143, al144, al145, al147, al148, al149, al151, al152, al153, al154, al155, al156, al158, al159, al160, al161, al162, al163, al164, al165, al166, al167, al168, al169, al170, al171, al172, al173, al174, al175, al176])
      refine ord_up_31_lp d ah n S h10 hah hS Q f (i + 1) M1 (by omega) (fun b hb => by rw [f1 142 (by simp)]; exact ha b hb) (fun T hT => ?_) fun M' f' => hQ M' (fr_tt f1 f')
      rw [g1, pU_s (by omega) (by omega) (by omega) (by omega)]
      by_cases e : T = S ||| 2 ^ i
      · rw [if_pos e, if_pos ⟨e, hc⟩, e]; rfl
      · rw [if_neg e, if_neg fun x => e x.1, hu T hT]; rfl
theorem ord_up_23_lp (d : Nat) (ah : Nat → Nat) (n : Nat) (h10 : n ≤ 10) (hah : ∀ b, ah b < 2147483648) : ∀ (f S : Nat) (M : aM), S + f = 2 ^ n - 1 → (∀ b, b < 10 → M 142 b = ((ah b : Nat) : Int)) → (∀ T, T < 2 ^ n → M 143 T = ((pU ah n S 0 T : Nat) : Int)) →
    wp (w_ord_countUpTo_23 (d + 1) n ((2 ^ n - 1 : Nat) : Int) S M) fun r M' => r = [aI ((UO ah n (2 ^ n - 1) : Nat) : Int)] ∧ fr [143] M M' ∧ ∀ T, T < 2 ^ n → M' 143 T = ((UO ah n T : Nat) : Int)
  | 0, S, M, h, ha, hu => by
    have hp : 2 ^ n ≤ 2 ^ 10 := Nat.pow_le_pow_right (by omega) h10
    have hpos := Nat.two_pow_pos n
    rw [l_ord_countUpTo_23, al143, tn_n, hu _ (by omega), pU_U (by omega) (by omega)]
    refine wp_neg (by omega) ?_
    refine wp_inb ⟨by omega, by omega⟩ ?_
    refine wp_ret ⟨rfl, fr_refl _ _, fun T hT => ?_⟩
    rw [hu T hT, pU_U (by omega) (by omega)]
  | f + 1, S, M, h, ha, hu => by
    have hpos := Nat.two_pow_pos n
    rw [l_ord_countUpTo_23]
    refine wp_pos (by omega) ?_
    refine ord_up_31_lp d ah n S h10 hah (by omega) _ n 0 M (by omega) ha hu fun M1 f1 g1 => ?_
    refine wp_mono (ord_up_23_lp d ah n h10 hah f (S + 1) M1 (by omega) (fun b hb => by rw [f1 142 (by simp)]; exact ha b hb) g1) ?_
    rintro r M' ⟨q1, q2, q3⟩
    exact ⟨q1, fr_tt f1 q2, q3⟩
theorem pw1 {n : Nat} (h10 : n ≤ 10) : w32 (ishl 1 (n : Int) - 1) = ((2 ^ n - 1 : Nat) : Int) := by
  have hp : 2 ^ n ≤ 2 ^ 10 := Nat.pow_le_pow_right (by omega) h10
  have hpos := Nat.two_pow_pos n
  rw [ishl_pow n (by omega), w32_i (by omega) (by omega)]
  omega
theorem ord_up_eq (d : Nat) (ah : Nat → Nat) (n : Nat) (h10 : n ≤ 10) (hah : ∀ b, ah b < 2147483648) (M : aM) (ha : ∀ b, b < 10 → M 142 b = ((ah b : Nat) : Int)) :
    wp (w_ord_countUpTo (d + 2) n M) fun r M' => r = [aI ((UO ah n (2 ^ n - 1) : Nat) : Int)] ∧ fr [143] M M' ∧ ∀ T, T < 2 ^ n → M' 143 T = ((UO ah n T : Nat) : Int) := by
  have hp : 2 ^ n ≤ 2 ^ 10 := Nat.pow_le_pow_right (by omega) h10
  rw [l_ord_countUpTo]
  refine wp_bV (ja_fillI_eq _ 143 0 1024 al143 (by omega) M) ?_
  rintro M1 ⟨f1, g1⟩
  rw [pw1 h10, al143]
  refine wp_I ?_
  refine wp_inb ⟨by omega, by omega⟩ ?_
  refine wp_up fun M2 f2 g2 => ?_
  have f12 := fr_tt f1 f2
  refine wp_mono (ord_up_23_lp d ah n h10 hah (2 ^ n - 1) 0 M2 (by omega) (fun b hb => by rw [f12 142 (by simp)]; exact ha b hb) fun T hT => ?_) ?_
  · rw [g2, g1, if_pos (show T < 1024 by omega), pU_0]
    split <;> rfl
  · rintro r M' ⟨q1, q2, q3⟩
    exact ⟨q1, fr_tt f12 q2, q3⟩
