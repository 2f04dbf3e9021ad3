/-! The law: its code, and what it comes to, in the reference. -/
theorem al3 : aLen 3 = 10 := rfl
theorem al4 : aLen 4 = 10 := rfl
theorem al5 : aLen 5 = 10 := rfl
theorem al6 : aLen 6 = 10 := rfl
theorem al8 : aLen 8 = 400 := rfl
theorem al9 : aLen 9 = 32 := rfl
theorem al11 : aLen 11 = 64 := rfl
theorem al13 : aLen 13 = 64 := rfl
theorem al15 : aLen 15 = 64 := rfl
theorem al17 : aLen 17 = 32 := rfl
theorem al19 : aLen 19 = 600 := rfl
theorem al21 : aLen 21 = 48 := rfl
theorem al23 : aLen 23 = 32 := rfl
theorem al25 : aLen 25 = 56 := rfl
theorem al27 : aLen 27 = 80 := rfl
theorem al29 : aLen 29 = 36 := rfl
theorem al30 : aLen 30 = 10 := rfl
theorem al31 : aLen 31 = 10 := rfl
theorem al95 : aLen 95 = 6 := rfl
theorem al96 : aLen 96 = 6 := rfl
theorem al128 : aLen 128 = 400 := rfl
theorem al129 : aLen 129 = 400 := rfl
theorem al130 : aLen 130 = 400 := rfl
theorem al131 : aLen 131 = 400 := rfl
theorem al134 : aLen 134 = 400 := rfl
theorem al135 : aLen 135 = 32 := rfl
theorem al137 : aLen 137 = 64 := rfl
theorem al139 : aLen 139 = 64 := rfl
theorem al140 : aLen 140 = 32 := rfl
theorem al142 : aLen 142 = 10 := rfl
theorem al143 : aLen 143 = 1024 := rfl
theorem al144 : aLen 144 = 1024 := rfl
theorem al145 : aLen 145 = 100 := rfl
theorem al147 : aLen 147 = 10 := rfl
theorem al148 : aLen 148 = 10 := rfl
theorem al149 : aLen 149 = 256 := rfl
theorem al151 : aLen 151 = 256 := rfl
theorem al152 : aLen 152 = 8 := rfl
theorem al153 : aLen 153 = 7 := rfl
theorem al154 : aLen 154 = 70 := rfl
theorem al155 : aLen 155 = 231 := rfl
theorem al156 : aLen 156 = 210 := rfl
theorem al158 : aLen 158 = 1768 := rfl
theorem al159 : aLen 159 = 1768 := rfl
theorem al160 : aLen 160 = 246 := rfl
theorem al161 : aLen 161 = 41 := rfl
theorem al162 : aLen 162 = 64 := rfl
theorem al163 : aLen 163 = 820 := rfl
theorem al164 : aLen 164 = 48 := rfl
theorem al165 : aLen 165 = 400 := rfl
theorem al166 : aLen 166 = 420 := rfl
theorem al167 : aLen 167 = 11 := rfl
theorem al168 : aLen 168 = 10 := rfl
theorem al169 : aLen 169 = 1024 := rfl
theorem al170 : aLen 170 = 10496 := rfl
theorem al171 : aLen 171 = 8 := rfl
theorem al172 : aLen 172 = 10 := rfl
theorem al173 : aLen 173 = 256 := rfl
theorem al174 : aLen 174 = 7 := rfl
theorem al175 : aLen 175 = 210 := rfl
theorem al176 : aLen 176 = 231 := rfl
def iTy : List (Int × Int) → List Bool → Option (List Bool)
  | [], t => some t
  | (s, v) :: l, t =>
    if s < 11 then if 0 ≤ s ∧ t.length < 31 ∧ (s = 0 → 0 ≤ v ∧ v ≤ 9999) then iTy l (false :: t) else none
    else match t with
      | [] => none
      | x :: t => if s = 26 then if 1 ≤ v ∧ v ≤ 9999 then iTy l (false :: t) else none
        else if s = 30 then if x then iTy l (true :: t) else none
        else match t with
          | [] => none
          | y :: t => if s = 23 ∨ s = 24 ∨ s = 25 then iTy l (false :: t)
            else if s = 27 ∨ s = 28 ∨ s = 29 then iTy l (true :: t)
            else if (s = 31 ∨ s = 32) ∧ x = true ∧ y = true then iTy l (true :: t) else none
noncomputable def iBop (s x y : Int) : Int :=
  if s = 23 then w32 (x + y) else if s = 24 then w32 (x - y) else if s = 25 then w32 (x * y)
  else if s = 27 then (if x < y then 1 else 0) else if s = 28 then (if x = y then 1 else 0) else if s = 29 then (if y < x then 1 else 0)
  else if s = 31 then iand x y else ior x y
noncomputable def iEv (F : Nat → Int) : List (Int × Int) → List Int → List Int
  | [], t => t
  | (s, v) :: l, t =>
    if s < 11 then iEv F l ((if s = 0 then v else F s.toNat) :: t)
    else match t with
      | [] => []
      | x :: t => if s = 26 then iEv F l (idiv x v :: t)
        else if s = 30 then iEv F l (w32 (1 - x) :: t)
        else match t with
          | [] => []
          | y :: t => iEv F l (iBop s y x :: t)
/-- a stack's values from below, the top one last -/
def hold (A : Nat → Int) : List Int → Prop
  | [] => True
  | x :: t => A t.length = x ∧ hold A t
theorem hold_up {A B : Nat → Int} {t : List Int} (h : hold A t) (e : ∀ i, i < t.length → B i = A i) : hold B t := by
  induction t with
  | nil => trivial
  | cons x t ih => exact ⟨(e _ (by simp)).trans h.1, ih h.2 fun i hi => e i (by simp; omega)⟩
def seg2 (A : Nat → Int) : Nat → List (Int × Int) → Prop
  | _, [] => True
  | p, (s, v) :: l => A (948 + 2 * p) = s ∧ A (949 + 2 * p) = v ∧ seg2 A (p + 1) l
theorem m_both_eq (d : Nat) (s x y : Int) (M : aM) (h : s = 23 ∨ s = 24 ∨ s = 25 ∨ s = 27 ∨ s = 28 ∨ s = 29 ∨ s = 31 ∨ s = 32) : w_m_both (d + 1) s x y M = some ([aI (iBop s x y)], M) := by
  rw [u_m_both]
  rcases h with h | h | h | h | h | h | h | h <;> subst h <;> simp [iBop] <;> split <;> rfl
theorem iTy_op {s v : Int} {l : List (Int × Int)} {x : Bool} {ty tz : List Bool} (h : iTy ((s, v) :: l) (x :: ty) = some tz) (h1 : ¬ s < 11) (h2 : s ≠ 26) (h3 : s ≠ 30) : (s = 23 ∨ s = 24 ∨ s = 25 ∨ s = 27 ∨ s = 28 ∨ s = 29 ∨ s = 31 ∨ s = 32) ∧ ∃ y ty', ty = y :: ty' ∧ ∃ z, iTy l (z :: ty') = some tz ∧ (s = 31 ∨ s = 32 → x = true ∧ y = true ∧ z = true) ∧ (s = 27 ∨ s = 28 ∨ s = 29 → z = true) ∧ (s = 23 ∨ s = 24 ∨ s = 25 → z = false) := by
  rcases ty with _ | ⟨y, ty⟩
  · simp [iTy, h1, h2, h3] at h
  · simp only [iTy, h1, h2, h3, if_false] at h
    refine ⟨?_, y, ty, rfl, ?_⟩
    · split at h
      · omega
      · split at h
        · omega
        · split at h
          · omega
          · simp at h
    · split at h
      · exact ⟨_, h, fun _ => by omega, fun _ => by omega, fun _ => rfl⟩
      · split at h
        · exact ⟨_, h, fun _ => by omega, fun _ => rfl, fun _ => by omega⟩
        · split at h
          · next h4 => exact ⟨_, h, fun _ => ⟨h4.2.1, h4.2.2, rfl⟩, fun _ => by omega, fun _ => by omega⟩
          · simp at h
theorem m_comesTo_lp (d : Nat) (V : Nat → Int) (F : Nat → Int) : ∀ (l : List (Int × Int)) (p q : Nat) (ty tz : List Bool) (t : List Int) (M : aM), M 158 = V → (∀ k, k < 10 → M 167 (k + 1) = F (k + 1)) → q = p + l.length → q ≤ 410 → seg2 V p l → t.length = ty.length → ty.length ≤ 31 → iTy l ty = some tz → hold (M 166) t →
    wp (w_m_comesTo_6 (d + 1) 0 q t.length p M) fun r M' => r = [aI (M' 166 0)] ∧ hold (M' 166) (iEv F l t) ∧ (iEv F l t).length = tz.length ∧ fr [166] M M'
  | [], p, q, ty, tz, t, M, hV, hF, hq, hq4, hs, hl, h31, ht, hh => by
    rw [l_m_comesTo_6]
    refine wp_neg (by simp at hq; omega) ?_
    refine wp_inb (by simp [al166]) ?_
    refine wp_ret ⟨rfl, hh, ?_, fr_refl _ _⟩
    simp only [iTy, Option.some.injEq] at ht
    subst ht; exact hl
  | (s, v) :: l, p, q, ty, tz, t, M, hV, hF, hq, hq4, hs, hl, h31, ht, hh => by
    rw [l_m_comesTo_6]
    simp only [List.length_cons] at hq
    obtain ⟨s1, s2, s3⟩ := hs
    have e1 : w32 (w32 (948 + w32 (820 * 0)) + w32 (2 * (p : Int))) = ((948 + 2 * p : Nat) : Int) := by
      simp (disch := omega) only [w32_i]; omega
    have e2 : w32 (((948 + 2 * p : Nat) : Int) + 1) = ((949 + 2 * p : Nat) : Int) := by
      rw [w32_i (by omega) (by omega)]; omega
    rw [e1, e2]
    (try simp (disch := omega) only [w32_i, tn_l, tn_n, tn_r, tn_s, tn_1, Nat.add_sub_cancel, Int.reduceToNat, Int.toNat_zero, Int.toNat_one, al3, al4, al5, al6, al8, al9, al11, al13, al15, al17, al19, al21, al23, al25, al27, al29, al30, al31, al95, al96, al128, al129, al130, al131, al134, al135, al137, al139, al140, al142, al143, al144, al145, al147, al148, al149, al151, al152, al153, al154, al155, al156, al158, al159, al160, al161, al162, al163, al164, al165, al166, al167, al168, al169, al170, al171, al172, al173, al174, al175, al176])
    refine wp_pos (by omega) ?_
    refine wp_inb ⟨by omega, by omega⟩ ?_
    refine wp_I ?_
    refine wp_inb ⟨by omega, by omega⟩ ?_
    refine wp_I ?_
    (try simp (disch := omega) only [w32_i, tn_l, tn_n, tn_r, tn_s, tn_1, Nat.add_sub_cancel, Int.reduceToNat, Int.toNat_zero, Int.toNat_one, al3, al4, al5, al6, al8, al9, al11, al13, al15, al17, al19, al21, al23, al25, al27, al29, al30, al31, al95, al96, al128, al129, al130, al131, al134, al135, al137, al139, al140, al142, al143, al144, al145, al147, al148, al149, al151, al152, al153, al154, al155, al156, al158, al159, al160, al161, al162, al163, al164, al165, al166, al167, al168, al169, al170, al171, al172, al173, al174, al175, al176])
    rw [hV, s1, s2]
    by_cases c1 : s < 11
    · refine wp_pos (by omega) ?_
      simp only [iTy, c1, if_true] at ht
      split at ht
      · next hc =>
        have key : ∀ M1 : aM, fr [166] M M1 → (∀ i, M1 166 i = if i = t.length then (if s = 0 then v else F s.toNat) else M 166 i) → wp (w_m_comesTo_6 (d + 1) 0 q ((t.length : Int) + 1) ((p : Int) + 1) M1) fun r M' => r = [aI (M' 166 0)] ∧ hold (M' 166) (iEv F ((s, v) :: l) t) ∧ (iEv F ((s, v) :: l) t).length = tz.length ∧ fr [166] M M' := by
          intro M1 f1 g1
          have ih := m_comesTo_lp d V F l (p + 1) q (false :: ty) tz ((if s = 0 then v else F s.toNat) :: t) M1 (by rw [f1 _ (by simp), hV]) (by rw [f1 _ (by simp)]; exact hF) (by omega) hq4 s3 (by simp [hl]) (by simp; omega) ht ⟨by rw [g1, if_pos rfl], hold_up hh fun i hi => by rw [g1, if_neg (by omega)]⟩
          refine wp_mono ih ?_
          rintro r M' ⟨e, hh', hl', f'⟩
          refine ⟨e, ?_, ?_, fr_tr f1 f' (by simp) (by simp)⟩
          · simpa only [iEv, c1, if_true] using hh'
          · simpa only [iEv, c1, if_true] using hl'
        by_cases c2 : s = 0
        · refine wp_pos c2 ?_
          refine wp_inb ⟨by omega, by omega⟩ ?_
          refine wp_up fun M1 f1 g1 => ?_
          refine wp_I ?_
          refine wp_I ?_
          (try simp (disch := omega) only [w32_i, tn_l, tn_n, tn_r, tn_s, tn_1, Nat.add_sub_cancel, Int.reduceToNat, Int.toNat_zero, Int.toNat_one, al3, al4, al5, al6, al8, al9, al11, al13, al15, al17, al19, al21, al23, al25, al27, al29, al30, al31, al95, al96, al128, al129, al130, al131, al134, al135, al137, al139, al140, al142, al143, al144, al145, al147, al148, al149, al151, al152, al153, al154, al155, al156, al158, al159, al160, al161, al162, al163, al164, al165, al166, al167, al168, al169, al170, al171, al172, al173, al174, al175, al176])
          exact key M1 f1 (by simpa only [c2, if_true] using g1)
        · refine wp_neg c2 ?_
          refine wp_inb ⟨by omega, by omega⟩ ?_
          refine wp_inb ⟨by omega, by omega⟩ ?_
          refine wp_up fun M1 f1 g1 => ?_
          refine wp_I ?_
          refine wp_I ?_
          (try simp (disch := omega) only [w32_i, tn_l, tn_n, tn_r, tn_s, tn_1, Nat.add_sub_cancel, Int.reduceToNat, Int.toNat_zero, Int.toNat_one, al3, al4, al5, al6, al8, al9, al11, al13, al15, al17, al19, al21, al23, al25, al27, al29, al30, al31, al95, al96, al128, al129, al130, al131, al134, al135, al137, al139, al140, al142, al143, al144, al145, al147, al148, al149, al151, al152, al153, al154, al155, al156, al158, al159, al160, al161, al162, al163, al164, al165, al166, al167, al168, al169, al170, al171, al172, al173, al174, al175, al176])
          have hFs : M 167 s.toNat = F s.toNat := by
            have := hF (s.toNat - 1) (by omega)
            rwa [show s.toNat - 1 + 1 = s.toNat by omega] at this
          rw [hFs] at g1
          exact key M1 f1 (by simpa only [c2, if_false] using g1)
      · simp at ht
    · rcases t with _ | ⟨x, t⟩
      · rcases ty with _ | ⟨y, ty⟩
        · simp [iTy, c1] at ht
        · simp at hl
      · rcases ty with _ | ⟨xb, ty⟩
        · simp at hl
        · simp only [List.length_cons] at hl h31
          have key : ∀ (M1 : aM) (z : Int) (tt : List Int) (zb : Bool) (tyy : List Bool), tt.length = tyy.length → tyy.length ≤ ty.length → iEv F ((s, v) :: l) (x :: t) = iEv F l (z :: tt) → iTy l (zb :: tyy) = some tz → fr [166] M M1 → M1 166 tt.length = z → hold (M1 166) tt → wp (w_m_comesTo_6 (d + 1) 0 q (((z :: tt).length : Nat) : Int) ((p + 1 : Nat) : Int) M1) fun r M' => r = [aI (M' 166 0)] ∧ hold (M' 166) (iEv F ((s, v) :: l) (x :: t)) ∧ (iEv F ((s, v) :: l) (x :: t)).length = tz.length ∧ fr [166] M M' := by
            intro M1 z tt zb tyy h1 h2 h3 h4 f1 g1 g2
            have ih := m_comesTo_lp d V F l (p + 1) q (zb :: tyy) tz (z :: tt) M1 (by rw [f1 _ (by simp), hV]) (by rw [f1 _ (by simp)]; exact hF) (by omega) hq4 s3 (by simp [h1]) (by simp; omega) h4 ⟨g1, g2⟩
            refine wp_mono ih ?_
            rintro r M' ⟨e, hh', hl', f'⟩
            exact ⟨e, by rw [h3]; exact hh', by rw [h3]; exact hl', fr_tr f1 f' (by simp) (by simp)⟩
          obtain ⟨hx, hh⟩ := hh
          simp only [List.length_cons]
          (try simp (disch := omega) only [w32_i, tn_l, tn_n, tn_r, tn_s, tn_1, Nat.add_sub_cancel, Int.reduceToNat, Int.toNat_zero, Int.toNat_one, al3, al4, al5, al6, al8, al9, al11, al13, al15, al17, al19, al21, al23, al25, al27, al29, al30, al31, al95, al96, al128, al129, al130, al131, al134, al135, al137, al139, al140, al142, al143, al144, al145, al147, al148, al149, al151, al152, al153, al154, al155, al156, al158, al159, al160, al161, al162, al163, al164, al165, al166, al167, al168, al169, al170, al171, al172, al173, al174, al175, al176])
          by_cases c2 : s = 26
          · refine wp_neg (by omega) ?_
            refine wp_pos c2 ?_
            have ht' : 1 ≤ v ∧ v ≤ 9999 ∧ iTy l (false :: ty) = some tz := by
              subst c2
              simpa [iTy, and_assoc] using ht
            (try simp (disch := omega) only [Int.natCast_add, Int.cast_ofNat_Int, Int.natCast_one, Int.add_sub_cancel, Int.add_neg_cancel_right, w32_i, tn_l, tn_n, tn_r, tn_s, tn_1, Nat.add_sub_cancel, Int.reduceToNat, Int.toNat_zero, Int.toNat_one, al3, al4, al5, al6, al8, al9, al11, al13, al15, al17, al19, al21, al23, al25, al27, al29, al30, al31, al95, al96, al128, al129, al130, al131, al134, al135, al137, al139, al140, al142, al143, al144, al145, al147, al148, al149, al151, al152, al153, al154, al155, al156, al158, al159, al160, al161, al162, al163, al164, al165, al166, al167, al168, al169, al170, al171, al172, al173, al174, al175, al176])
            refine wp_inb ⟨by omega, by omega⟩ ?_
            refine wp_none (by omega) ?_
            refine wp_inb ⟨by omega, by omega⟩ ?_
            refine wp_up fun M1 f1 g1 => ?_
            refine wp_I ?_
            (try simp (disch := omega) only [w32_i, tn_l, tn_n, tn_r, tn_s, tn_1, Nat.add_sub_cancel, Int.reduceToNat, Int.toNat_zero, Int.toNat_one, al3, al4, al5, al6, al8, al9, al11, al13, al15, al17, al19, al21, al23, al25, al27, al29, al30, al31, al95, al96, al128, al129, al130, al131, al134, al135, al137, al139, al140, al142, al143, al144, al145, al147, al148, al149, al151, al152, al153, al154, al155, al156, al158, al159, al160, al161, al162, al163, al164, al165, al166, al167, al168, al169, al170, al171, al172, al173, al174, al175, al176])
            try simp only [tn_n] at g1
            refine key M1 (idiv x v) t false ty (by omega) (by omega) (by simp [iEv, c1, c2]) ht'.2.2 f1 (by rw [g1, if_pos rfl, hx]) (hold_up hh fun i hi => by rw [g1, if_neg (by omega)])
          · by_cases c3 : s = 30
            · refine wp_neg (by omega) ?_
              refine wp_neg c2 ?_
              refine wp_pos c3 ?_
              have ht' : iTy l (true :: ty) = some tz := by
                simp only [iTy, c1, c2, c3, if_true, if_false] at ht
                rcases xb with _ | _
                · simp at ht
                · simpa using ht
              (try simp (disch := omega) only [Int.natCast_add, Int.cast_ofNat_Int, Int.natCast_one, Int.add_sub_cancel, Int.add_neg_cancel_right, w32_i, tn_l, tn_n, tn_r, tn_s, tn_1, Nat.add_sub_cancel, Int.reduceToNat, Int.toNat_zero, Int.toNat_one, al3, al4, al5, al6, al8, al9, al11, al13, al15, al17, al19, al21, al23, al25, al27, al29, al30, al31, al95, al96, al128, al129, al130, al131, al134, al135, al137, al139, al140, al142, al143, al144, al145, al147, al148, al149, al151, al152, al153, al154, al155, al156, al158, al159, al160, al161, al162, al163, al164, al165, al166, al167, al168, al169, al170, al171, al172, al173, al174, al175, al176])
              refine wp_inb ⟨by omega, by omega⟩ ?_
              refine wp_inb ⟨by omega, by omega⟩ ?_
              refine wp_up fun M1 f1 g1 => ?_
              refine wp_I ?_
              (try simp (disch := omega) only [w32_i, tn_l, tn_n, tn_r, tn_s, tn_1, Nat.add_sub_cancel, Int.reduceToNat, Int.toNat_zero, Int.toNat_one, al3, al4, al5, al6, al8, al9, al11, al13, al15, al17, al19, al21, al23, al25, al27, al29, al30, al31, al95, al96, al128, al129, al130, al131, al134, al135, al137, al139, al140, al142, al143, al144, al145, al147, al148, al149, al151, al152, al153, al154, al155, al156, al158, al159, al160, al161, al162, al163, al164, al165, al166, al167, al168, al169, al170, al171, al172, al173, al174, al175, al176])
              try simp only [tn_n] at g1
              refine key M1 (w32 (1 - x)) t true ty (by omega) (by omega) (by simp [iEv, c1, c2, c3]) ht' f1 (by rw [g1, if_pos rfl, hx]) (hold_up hh fun i hi => by rw [g1, if_neg (by omega)])
            · obtain ⟨hop, yb, ty', rfl, zb, ht', -⟩ := iTy_op ht c1 c2 c3
              rcases t with _ | ⟨y, t⟩
              · simp at hl
              · obtain ⟨hy, hh⟩ := hh
                simp only [List.length_cons] at hl h31 hx ⊢
                refine wp_neg (by omega) ?_
                refine wp_neg c2 ?_
                refine wp_neg c3 ?_
                refine wp_I ?_
                (try simp (disch := omega) only [Int.natCast_add, Int.cast_ofNat_Int, Int.natCast_one, Int.add_sub_cancel, Int.add_neg_cancel_right, w32_i, tn_l, tn_n, tn_r, tn_s, tn_1, Nat.add_sub_cancel, Int.reduceToNat, Int.toNat_zero, Int.toNat_one, al3, al4, al5, al6, al8, al9, al11, al13, al15, al17, al19, al21, al23, al25, al27, al29, al30, al31, al95, al96, al128, al129, al130, al131, al134, al135, al137, al139, al140, al142, al143, al144, al145, al147, al148, al149, al151, al152, al153, al154, al155, al156, al158, al159, al160, al161, al162, al163, al164, al165, al166, al167, al168, al169, al170, al171, al172, al173, al174, al175, al176])
                refine wp_inb ⟨by omega, by omega⟩ ?_
                refine wp_inb ⟨by omega, by omega⟩ ?_
                refine wp_eI (m_both_eq d s _ _ M hop) ?_
                refine wp_inb ⟨by omega, by omega⟩ ?_
                refine wp_up fun M1 f1 g1 => ?_
                refine wp_I ?_
                (try simp (disch := omega) only [w32_i, tn_l, tn_n, tn_r, tn_s, tn_1, Nat.add_sub_cancel, Int.reduceToNat, Int.toNat_zero, Int.toNat_one, al3, al4, al5, al6, al8, al9, al11, al13, al15, al17, al19, al21, al23, al25, al27, al29, al30, al31, al95, al96, al128, al129, al130, al131, al134, al135, al137, al139, al140, al142, al143, al144, al145, al147, al148, al149, al151, al152, al153, al154, al155, al156, al158, al159, al160, al161, al162, al163, al164, al165, al166, al167, al168, al169, al170, al171, al172, al173, al174, al175, al176])
                try simp only [tn_n] at g1
                refine key M1 (iBop s y x) t zb ty' (by omega) (by simp) (by simp [iEv, c1, c2, c3]) ht' f1 (by rw [g1, if_pos rfl, hx, hy]) (hold_up hh fun i hi => by rw [g1, if_neg (by omega)])
