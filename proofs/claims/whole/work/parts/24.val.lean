/-! The law's code in the class, and that conditions come to 0 or 1. -/
def cEnc : List (Int × Int) → List Int
  | [] => []
  | (s, v) :: l => (if s = 0 then [v] else if s < 11 then [-s] else if s = 26 then [v, -14] else [12 - s]) ++ cEnc l
def seg1 (A : Nat → Int) : Nat → List Int → Prop
  | _, [] => True
  | p, x :: l => A p = x ∧ seg1 A (p + 1) l
theorem law_joined_eq (d : Nat) (s x y : Int) (M : aM) (h : s = 23 ∨ s = 24 ∨ s = 25 ∨ s = 27 ∨ s = 28 ∨ s = 29 ∨ s = 31 ∨ s = 32) : w_law_joined (d + 1) (12 - s) x y M = some ([aI (iBop s x y)], M) := by
  rw [u_law_joined]
  rcases h with h | h | h | h | h | h | h | h <;> subst h <;> simp [iBop] <;> split <;> rfl
theorem law_joined_by (d : Nat) (x y : Int) (M : aM) (h : y ≠ 0) : w_law_joined (d + 1) (-14) x y M = some ([aI (idiv x y)], M) := by
  rw [u_law_joined]
  simp [h]
theorem law_value_lp (d e f : Nat) (A : Nat → Int) (F : Nat → Int) (he1 : aLen (e + 1) = 400) (he2 : aLen (e + 2) = 32) (hf : aLen f = 10) (hne : f ≠ e + 2) : ∀ (l : List (Int × Int)) (p q : Nat) (ty tz : List Bool) (t : List Int) (M : aM), M (e + 1) = A → (∀ k, k < 10 → M f k = F (k + 1)) → q = p + (cEnc l).length → q ≤ 400 → seg1 A p (cEnc l) → t.length = ty.length → ty.length ≤ 31 → iTy l ty = some tz → hold (M (e + 2)) t →
    wp (w_law_value_10 (d + 1) e q f t.length p M) fun r M' => r = [aI ((iEv F l t).headD 0)] ∧ (iEv F l t).length = tz.length ∧ fr [e + 2] M M'
  | [], p, q, ty, tz, t, M, hA, hF, hq, hq4, hs, hl, h31, ht, hh => by
    rw [l_law_value_10]
    simp only [cEnc, List.length_nil] at hq
    simp only [iTy, Option.some.injEq] at ht
    subst ht
    refine wp_neg (by omega) ?_
    rcases t with _ | ⟨x, t⟩
    · refine wp_neg (by simp) ?_
      exact wp_ret ⟨rfl, hl, fr_refl _ _⟩
    · simp only [List.length_cons] at hl ⊢
      refine wp_pos (by omega) ?_
      (try simp (disch := omega) only [Int.natCast_add, Int.cast_ofNat_Int, Int.natCast_one, Int.add_sub_cancel, Int.add_neg_cancel_right, w32_i, tn_l, tn_n, tn_r, tn_s, tn_1, Nat.add_sub_cancel, Int.reduceToNat, Int.toNat_zero, Int.toNat_one, al3, al4, al5, al6, al8, al9, al11, al13, al15, al17, al19, al21, al23, al25, al27, al29, al30, al31, al95, al96, al128, al129, al130, al131, al134, al135, al137, al139, al140, al142, al143, al144, al145, al147, al148, al149, al151, al152, al153, al154, al155, al156, al158, al159, al160, al161, al162, al163, al164, al165, al166, al167, al168, al169, al170, al171, al172, al173, al174, al175, al176])
      refine wp_inb ⟨by omega, by omega⟩ ?_
      refine wp_ret ⟨?_, hl, fr_refl _ _⟩
      simp only [iEv, List.headD_cons, hh.1]
  | (s, v) :: l, p, q, ty, tz, t, M, hA, hF, hq, hq4, hs, hl, h31, ht, hh => by
    rw [l_law_value_10]
    by_cases c1 : s < 11
    · simp only [iTy, c1, if_true] at ht
      split at ht
      · next hc =>
        have hlen : (cEnc ((s, v) :: l)).length = 1 + (cEnc l).length := by
          simp only [cEnc, List.length_append]; split <;> simp
        rw [hlen] at hq
        have hs' : A p = (if s = 0 then v else -s) ∧ seg1 A (p + 1) (cEnc l) := by
          simp only [cEnc, c1, if_true] at hs
          by_cases c2 : s = 0
          · simp only [c2, if_true, List.cons_append, List.nil_append, seg1] at hs ⊢; exact hs
          · simp only [c2, if_false, List.cons_append, List.nil_append, seg1] at hs ⊢; exact hs
        have key : ∀ M1 : aM, fr [e + 2] M M1 → (∀ i, M1 (e + 2) i = if i = t.length then (if s = 0 then v else F s.toNat) else M (e + 2) i) → wp (w_law_value_10 (d + 1) e q f ((t.length : Int) + 1) ((p : Int) + 1) M1) fun r M' => r = [aI ((iEv F ((s, v) :: l) t).headD 0)] ∧ (iEv F ((s, v) :: l) t).length = tz.length ∧ fr [e + 2] M M' := by
          intro M1 f1 g1
          have ih := law_value_lp d e f A F he1 he2 hf hne l (p + 1) q (false :: ty) tz ((if s = 0 then v else F s.toNat) :: t) M1 (by rw [f1 _ (by simp), hA]) (by rw [f1 _ (by simp [hne])]; exact hF) (by omega) hq4 hs'.2 (by simp [hl]) (by simp; omega) ht ⟨by rw [g1, if_pos rfl], hold_up hh fun i hi => by rw [g1, if_neg (by omega)]⟩
          refine wp_mono ih ?_
          rintro r M' ⟨e, hl', f'⟩
          refine ⟨?_, ?_, fr_tr f1 f' (by simp) (by simp)⟩
          · simpa only [iEv, c1, if_true] using e
          · simpa only [iEv, c1, if_true] using hl'
        refine wp_pos (by omega) ?_
        rw [he1, he2, hf]
        refine wp_pos (by omega) ?_
        refine wp_inb ⟨by omega, by omega⟩ ?_
        refine wp_I ?_
        rw [tn_n, hA, hs'.1]
        by_cases c2 : s = 0
        · simp only [c2, if_true] at key ⊢
          have hv := hc.2.2 c2
          refine wp_pos (by omega) ?_
          refine wp_pos (by omega) ?_
          refine wp_neg (by omega) ?_
          refine wp_inb ⟨by omega, by omega⟩ ?_
          refine wp_up fun M1 f1 g1 => ?_
          refine wp_I ?_
          refine wp_I ?_
          (try simp (disch := omega) only [w32_i, tn_l, tn_n, tn_r, tn_s, tn_1, Nat.add_sub_cancel, Int.reduceToNat, Int.toNat_zero, Int.toNat_one, al3, al4, al5, al6, al8, al9, al11, al13, al15, al17, al19, al21, al23, al25, al27, al29, al30, al31, al95, al96, al128, al129, al130, al131, al134, al135, al137, al139, al140, al142, al143, al144, al145, al147, al148, al149, al151, al152, al153, al154, al155, al156, al158, al159, al160, al161, al162, al163, al164, al165, al166, al167, al168, al169, al170, al171, al172, al173, al174, al175, al176])
          exact key M1 f1 g1
        · simp only [c2, if_false] at key ⊢
          obtain ⟨n, rfl⟩ : ∃ n : Nat, s = (n : Int) + 1 := ⟨(s - 1).toNat, by omega⟩
          refine wp_pos (by omega) ?_
          refine wp_pos (by omega) ?_
          refine wp_pos (by omega) ?_
          have e1 : w32 (-1 - -((n : Int) + 1)) = n := by rw [w32_i (by omega) (by omega)]; omega
          rw [e1]
          refine wp_pos (by omega) ?_
          refine wp_inb ⟨by omega, by omega⟩ ?_
          refine wp_inb ⟨by omega, by omega⟩ ?_
          refine wp_up fun M1 f1 g1 => ?_
          refine wp_I ?_
          refine wp_I ?_
          (try simp (disch := omega) only [w32_i, tn_l, tn_n, tn_r, tn_s, tn_1, Nat.add_sub_cancel, Int.reduceToNat, Int.toNat_zero, Int.toNat_one, al3, al4, al5, al6, al8, al9, al11, al13, al15, al17, al19, al21, al23, al25, al27, al29, al30, al31, al95, al96, al128, al129, al130, al131, al134, al135, al137, al139, al140, al142, al143, al144, al145, al147, al148, al149, al151, al152, al153, al154, al155, al156, al158, al159, al160, al161, al162, al163, al164, al165, al166, al167, al168, al169, al170, al171, al172, al173, al174, al175, al176])
          simp only [tn_n] at g1
          rw [hF n (by omega)] at g1
          exact key M1 f1 g1
      · simp at ht
    · rcases t with _ | ⟨x, t⟩
      · rcases ty with _ | ⟨y, ty⟩
        · simp [iTy, c1] at ht
        · simp at hl
      rcases ty with _ | ⟨xb, ty⟩
      · simp at hl
      simp only [List.length_cons] at hl h31
      have key : ∀ (M1 : aM) (z : Int) (tt : List Int) (zb : Bool) (tyy : List Bool) (p' : Nat), q = p' + (cEnc l).length → seg1 A p' (cEnc l) → tt.length = tyy.length → tyy.length ≤ ty.length → iEv F ((s, v) :: l) (x :: t) = iEv F l (z :: tt) → iTy l (zb :: tyy) = some tz → fr [e + 2] M M1 → M1 (e + 2) tt.length = z → hold (M1 (e + 2)) tt → wp (w_law_value_10 (d + 1) e q f (((z :: tt).length : Nat) : Int) (p' : Int) M1) fun r M' => r = [aI ((iEv F ((s, v) :: l) (x :: t)).headD 0)] ∧ (iEv F ((s, v) :: l) (x :: t)).length = tz.length ∧ fr [e + 2] M M' := by
        intro M1 z tt zb tyy p' hq' s3 h1 h2 h3 h4 f1 g1 g2
        have ih := law_value_lp d e f A F he1 he2 hf hne l p' q (zb :: tyy) tz (z :: tt) M1 (by rw [f1 _ (by simp), hA]) (by rw [f1 _ (by simp [hne])]; exact hF) hq' hq4 s3 (by simp [h1]) (by simp; omega) h4 ⟨g1, g2⟩
        refine wp_mono ih ?_
        rintro r M' ⟨e, hl', f'⟩
        exact ⟨by rw [h3]; exact e, by rw [h3]; exact hl', fr_tr f1 f' (by simp) (by simp)⟩
      obtain ⟨hx, hh⟩ := hh
      simp only [List.length_cons]
      by_cases c2 : s = 26
      · have ht' : (1 ≤ v ∧ v ≤ 9999) ∧ iTy l (false :: ty) = some tz := by
          subst c2
          simpa [iTy] using ht
        have hlen : (cEnc ((s, v) :: l)).length = 2 + (cEnc l).length := by
          subst c2; simp [cEnc]; omega
        rw [hlen] at hq
        have hs' : A p = v ∧ A (p + 1) = -14 ∧ seg1 A (p + 2) (cEnc l) := by
          subst c2
          simpa [cEnc, seg1] using hs
        refine wp_pos (by omega) ?_
        rw [he1, he2, hf]
        refine wp_pos (by omega) ?_
        refine wp_inb ⟨by omega, by omega⟩ ?_
        refine wp_I ?_
        rw [tn_n, hA, hs'.1]
        refine wp_pos (by omega) ?_
        refine wp_pos (by omega) ?_
        refine wp_neg (by omega) ?_
        refine wp_inb ⟨by omega, by omega⟩ ?_
        refine wp_up fun M1 f1 g1 => ?_
        refine wp_I ?_
        refine wp_I ?_
        (try simp (disch := omega) only [Int.natCast_add, Int.cast_ofNat_Int, Int.natCast_one, Int.add_sub_cancel, Int.add_neg_cancel_right, w32_i, tn_l, tn_n, tn_r, tn_s, tn_1, Nat.add_sub_cancel, Int.reduceToNat, Int.toNat_zero, Int.toNat_one, al3, al4, al5, al6, al8, al9, al11, al13, al15, al17, al19, al21, al23, al25, al27, al29, al30, al31, al95, al96, al128, al129, al130, al131, al134, al135, al137, al139, al140, al142, al143, al144, al145, al147, al148, al149, al151, al152, al153, al154, al155, al156, al158, al159, al160, al161, al162, al163, al164, al165, al166, al167, al168, al169, al170, al171, al172, al173, al174, al175, al176])
        rw [l_law_value_10]
        refine wp_pos (by omega) ?_
        rw [he1, he2]
        refine wp_pos (by omega) ?_
        refine wp_inb ⟨by omega, by omega⟩ ?_
        refine wp_I ?_
        rw [tn_1, f1 _ (by simp), hA, hs'.2.1]
        refine wp_neg (by omega) ?_
        refine wp_neg (by omega) ?_
        refine wp_pos (by omega) ?_
        refine wp_I ?_
        (try simp (disch := omega) only [Int.natCast_add, Int.cast_ofNat_Int, Int.natCast_one, Int.add_sub_cancel, Int.add_neg_cancel_right, w32_i, tn_l, tn_n, tn_r, tn_s, tn_1, Nat.add_sub_cancel, Int.reduceToNat, Int.toNat_zero, Int.toNat_one, al3, al4, al5, al6, al8, al9, al11, al13, al15, al17, al19, al21, al23, al25, al27, al29, al30, al31, al95, al96, al128, al129, al130, al131, al134, al135, al137, al139, al140, al142, al143, al144, al145, al147, al148, al149, al151, al152, al153, al154, al155, al156, al158, al159, al160, al161, al162, al163, al164, al165, al166, al167, al168, al169, al170, al171, al172, al173, al174, al175, al176])
        have g3 : M1 (e + 2) t.length = x := by rw [g1, if_neg (by simp), hx]
        have g4 : M1 (e + 2) (t.length + 1) = v := by rw [g1, if_pos (by rw [tn_n])]
        refine wp_inb ⟨by omega, by omega⟩ ?_
        refine wp_inb ⟨by omega, by omega⟩ ?_
        refine wp_eI (law_joined_by d _ _ M1 (by rw [g4]; omega)) ?_
        refine wp_inb ⟨by omega, by omega⟩ ?_
        rw [g3, g4]
        refine wp_up fun M2 f2 g2 => ?_
        refine wp_I ?_
        (try simp (disch := omega) only [Int.natCast_add, Int.cast_ofNat_Int, Int.natCast_one, Int.add_sub_cancel, Int.add_neg_cancel_right, w32_i, tn_l, tn_n, tn_r, tn_s, tn_1, Nat.add_sub_cancel, Int.reduceToNat, Int.toNat_zero, Int.toNat_one, al3, al4, al5, al6, al8, al9, al11, al13, al15, al17, al19, al21, al23, al25, al27, al29, al30, al31, al95, al96, al128, al129, al130, al131, al134, al135, al137, al139, al140, al142, al143, al144, al145, al147, al148, al149, al151, al152, al153, al154, al155, al156, al158, al159, al160, al161, al162, al163, al164, al165, al166, al167, al168, al169, al170, al171, al172, al173, al174, al175, al176])
        refine key M2 (idiv x v) t false ty (p + 2) (by omega) hs'.2.2 (by omega) (by omega) (by simp [iEv, c1, c2]) ht'.2 (fr_tr f1 f2 (by simp) (by simp)) (by rw [g2, if_pos rfl]) (hold_up hh fun i hi => by rw [g2, if_neg (by omega), g1, if_neg (by simp; omega)])
      have hlen : (cEnc ((s, v) :: l)).length = 1 + (cEnc l).length := by
        simp [cEnc, c1, c2, show s ≠ 0 by omega]; omega
      rw [hlen] at hq
      have hs' : A p = 12 - s ∧ seg1 A (p + 1) (cEnc l) := by
        simpa [cEnc, seg1, c1, c2, show s ≠ 0 by omega] using hs
      refine wp_pos (by omega) ?_
      rw [he1, he2, hf]
      refine wp_pos (by omega) ?_
      refine wp_inb ⟨by omega, by omega⟩ ?_
      refine wp_I ?_
      rw [tn_n, hA, hs'.1]
      by_cases c3 : s = 30
      · have ht' : iTy l (true :: ty) = some tz := by
          simp only [iTy, c1, c2, c3, if_true, if_false] at ht
          rcases xb with _ | _
          · simp at ht
          · simpa using ht
        refine wp_neg (by omega) ?_
        refine wp_pos (by omega) ?_
        refine wp_pos (by omega) ?_
        (try simp (disch := omega) only [Int.natCast_add, Int.cast_ofNat_Int, Int.natCast_one, Int.add_sub_cancel, Int.add_neg_cancel_right, w32_i, tn_l, tn_n, tn_r, tn_s, tn_1, Nat.add_sub_cancel, Int.reduceToNat, Int.toNat_zero, Int.toNat_one, al3, al4, al5, al6, al8, al9, al11, al13, al15, al17, al19, al21, al23, al25, al27, al29, al30, al31, al95, al96, al128, al129, al130, al131, al134, al135, al137, al139, al140, al142, al143, al144, al145, al147, al148, al149, al151, al152, al153, al154, al155, al156, al158, al159, al160, al161, al162, al163, al164, al165, al166, al167, al168, al169, al170, al171, al172, al173, al174, al175, al176])
        refine wp_inb ⟨by omega, by omega⟩ ?_
        refine wp_inb ⟨by omega, by omega⟩ ?_
        refine wp_up fun M1 f1 g1 => ?_
        refine wp_I ?_
        (try simp (disch := omega) only [Int.natCast_add, Int.cast_ofNat_Int, Int.natCast_one, Int.add_sub_cancel, Int.add_neg_cancel_right, w32_i, tn_l, tn_n, tn_r, tn_s, tn_1, Nat.add_sub_cancel, Int.reduceToNat, Int.toNat_zero, Int.toNat_one, al3, al4, al5, al6, al8, al9, al11, al13, al15, al17, al19, al21, al23, al25, al27, al29, al30, al31, al95, al96, al128, al129, al130, al131, al134, al135, al137, al139, al140, al142, al143, al144, al145, al147, al148, al149, al151, al152, al153, al154, al155, al156, al158, al159, al160, al161, al162, al163, al164, al165, al166, al167, al168, al169, al170, al171, al172, al173, al174, al175, al176])
        refine key M1 (w32 (1 - x)) t true ty (p + 1) (by omega) hs'.2 (by omega) (by omega) (by simp [iEv, c1, c2, c3]) ht' f1 (by rw [g1, if_pos rfl, hx]) (hold_up hh fun i hi => by rw [g1, if_neg (by omega)])
      · obtain ⟨hop, yb, ty', rfl, zb, ht', -⟩ := iTy_op ht c1 c2 c3
        rcases t with _ | ⟨y, t⟩
        · simp at hl
        obtain ⟨hy, hh⟩ := hh
        simp only [List.length_cons] at hl h31 hx ⊢
        refine wp_neg (by omega) ?_
        refine wp_neg (by omega) ?_
        refine wp_pos (by omega) ?_
        refine wp_I ?_
        (try simp (disch := omega) only [Int.natCast_add, Int.cast_ofNat_Int, Int.natCast_one, Int.add_sub_cancel, Int.add_neg_cancel_right, w32_i, tn_l, tn_n, tn_r, tn_s, tn_1, Nat.add_sub_cancel, Int.reduceToNat, Int.toNat_zero, Int.toNat_one, al3, al4, al5, al6, al8, al9, al11, al13, al15, al17, al19, al21, al23, al25, al27, al29, al30, al31, al95, al96, al128, al129, al130, al131, al134, al135, al137, al139, al140, al142, al143, al144, al145, al147, al148, al149, al151, al152, al153, al154, al155, al156, al158, al159, al160, al161, al162, al163, al164, al165, al166, al167, al168, al169, al170, al171, al172, al173, al174, al175, al176])
        refine wp_inb ⟨by omega, by omega⟩ ?_
        refine wp_inb ⟨by omega, by omega⟩ ?_
        refine wp_eI (law_joined_eq d s _ _ M hop) ?_
        refine wp_inb ⟨by omega, by omega⟩ ?_
        refine wp_up fun M1 f1 g1 => ?_
        refine wp_I ?_
        (try simp (disch := omega) only [Int.natCast_add, Int.cast_ofNat_Int, Int.natCast_one, Int.add_sub_cancel, Int.add_neg_cancel_right, w32_i, tn_l, tn_n, tn_r, tn_s, tn_1, Nat.add_sub_cancel, Int.reduceToNat, Int.toNat_zero, Int.toNat_one, al3, al4, al5, al6, al8, al9, al11, al13, al15, al17, al19, al21, al23, al25, al27, al29, al30, al31, al95, al96, al128, al129, al130, al131, al134, al135, al137, al139, al140, al142, al143, al144, al145, al147, al148, al149, al151, al152, al153, al154, al155, al156, al158, al159, al160, al161, al162, al163, al164, al165, al166, al167, al168, al169, al170, al171, al172, al173, al174, al175, al176])
        refine key M1 (iBop s y x) t zb ty' (p + 1) (by omega) hs'.2 (by omega) (by simp) (by simp [iEv, c1, c2, c3]) ht' f1 (by rw [g1, if_pos rfl, hx, hy]) (hold_up hh fun i hi => by rw [g1, if_neg (by omega)])
/-- values that are told to be 0 or 1 are so -/
def okv : List Bool → List Int → Prop
  | [], [] => True
  | b :: ty, x :: t => (b = true → x = 0 ∨ x = 1) ∧ okv ty t
  | _, _ => False
theorem iand01 {x y : Int} (hx : x = 0 ∨ x = 1) (hy : y = 0 ∨ y = 1) : iand x y = 0 ∨ iand x y = 1 := by
  rcases hx with rfl | rfl <;> rcases hy with rfl | rfl
  · left; exact iand_nat (x := 0) (y := 0) (by decide) (by decide)
  · left; exact iand_nat (x := 0) (y := 1) (by decide) (by decide)
  · left; exact iand_nat (x := 1) (y := 0) (by decide) (by decide)
  · right; exact iand_nat (x := 1) (y := 1) (by decide) (by decide)
theorem ior01 {x y : Int} (hx : x = 0 ∨ x = 1) (hy : y = 0 ∨ y = 1) : ior x y = 0 ∨ ior x y = 1 := by
  rcases hx with rfl | rfl <;> rcases hy with rfl | rfl
  · left; exact ior_nat (x := 0) (y := 0) (by decide) (by decide)
  · right; exact ior_nat (x := 0) (y := 1) (by decide) (by decide)
  · right; exact ior_nat (x := 1) (y := 0) (by decide) (by decide)
  · right; exact ior_nat (x := 1) (y := 1) (by decide) (by decide)
theorem iEv_ok (F : Nat → Int) : ∀ (l : List (Int × Int)) (ty tz : List Bool) (t : List Int), iTy l ty = some tz → okv ty t → okv tz (iEv F l t)
  | [], ty, tz, t, h, ho => by simp only [iTy, Option.some.injEq] at h; subst h; exact ho
  | (s, v) :: l, ty, tz, t, h, ho => by
    by_cases c1 : s < 11
    · simp only [iTy, c1, if_true] at h
      split at h
      · simp only [iEv, c1, if_true]
        exact iEv_ok F l _ tz _ h ⟨by simp, ho⟩
      · simp at h
    rcases ty with _ | ⟨xb, ty⟩
    · simp [iTy, c1] at h
    rcases t with _ | ⟨x, t⟩
    · simp [okv] at ho
    obtain ⟨o1, ho⟩ := ho
    by_cases c2 : s = 26
    · subst c2
      have h' : (1 ≤ v ∧ v ≤ 9999) ∧ iTy l (false :: ty) = some tz := by simpa [iTy] using h
      simp [iEv]
      exact iEv_ok F l _ tz _ h'.2 ⟨by simp, ho⟩
    by_cases c3 : s = 30
    · subst c3
      rcases xb with _ | _
      · simp [iTy] at h
      · have h' : iTy l (true :: ty) = some tz := by simpa [iTy] using h
        simp [iEv]
        refine iEv_ok F l _ tz _ h' ⟨fun _ => ?_, ho⟩
        rcases o1 rfl with rfl | rfl
        · right; rw [w32_i (by omega) (by omega)]; rfl
        · left; rw [w32_i (by omega) (by omega)]; rfl
    obtain ⟨hop, yb, ty', rfl, zb, h', hb, hc, hd⟩ := iTy_op h c1 c2 c3
    rcases t with _ | ⟨y, t⟩
    · simp [okv] at ho
    obtain ⟨o2, ho⟩ := ho
    simp only [iEv, c1, c2, c3, if_false]
    refine iEv_ok F l _ tz _ h' ⟨fun hz => ?_, ho⟩
    by_cases hs1 : s = 31 ∨ s = 32
    · obtain ⟨hxb, hyb, -⟩ := hb hs1
      rcases hs1 with hs1 | hs1
      · subst hs1; simpa [iBop] using iand01 (o2 hyb) (o1 hxb)
      · subst hs1; simpa [iBop] using ior01 (o2 hyb) (o1 hxb)
    · by_cases hs2 : s = 27 ∨ s = 28 ∨ s = 29
      · rcases hs2 with hs2 | hs2 | hs2 <;> subst hs2 <;> simp only [iBop] <;> simp <;> omega
      · exfalso
        have hs3 : s = 23 ∨ s = 24 ∨ s = 25 := by omega
        simp [hd hs3] at hz
