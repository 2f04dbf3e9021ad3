/-! text: the reference's call -/
theorem m_puts13_lp (d p e r : Nat) (Q : List aV → aM → Prop) (he : e * r ≤ 48) (hp : p + 48 ≤ 1768) (M0 : aM) (hQ : ∀ M', fr [158] M0 M' → (∀ j, M' 158 j = if p ≤ j ∧ j < p + e * r then M0 164 (j - p) else M0 158 j) → Q [aI r] M') (he4 : e ≤ 4) (hr : r ≤ 16) : ∀ (f i : Nat) (M : aM), i + f = e * r → M 157 15 = r → fr [158] M0 M → (∀ j, M 158 j = if p ≤ j ∧ j < p + i then M0 164 (j - p) else M0 158 j) → wp (w_m_puts_13 d p e i M) Q := by
  have ew : w32 ((e : Int) * (r : Int)) = ((e * r : Nat) : Int) := by
    rw [← Int.natCast_mul, w32_i (by omega) (by omega)]
  intro f
  induction f with
  | zero =>
    intro i M h h15 h0 hv
    rw [l_m_puts_13, h15, ew]
    refine wp_neg (by omega) ?_
    refine wp_ret (hQ M h0 fun j => ?_)
    rw [hv, show i = e * r by omega]
  | succ f ih =>
    intro i M h h15 h0 hv
    rw [l_m_puts_13, h15, ew, al164, al158]
    refine wp_pos (by omega) ?_
    refine wp_inb ⟨by omega, by omega⟩ ?_
    rw [show w32 ((p : Int) + (i : Int)) = ((p + i : Nat) : Int) by rw [w32_i (by omega) (by omega)]; omega, tn_n, tn_n]
    refine wp_inb ⟨by omega, by omega⟩ ?_
    refine wp_up fun M1 f1 g1 => ?_
    refine wp_I ?_
    (try simp (disch := omega) only [w32_i, tn_l, tn_n, tn_r, tn_s, tn_1, Nat.add_sub_cancel, Int.reduceToNat, Int.toNat_zero, Int.toNat_one, al3, al4, al5, al6, al8, al9, al11, al13, al15, al17, al19, al21, al23, al25, al27, al29, al30, al31, al95, al96, al128, al129, al130, al131, al134, al135, al137, al139, al140, al142, al143, al144, al145, al147, al148, al149, al151, al152, al153, al154, al155, al156, al158, al159, al160, al161, al162, al163, al164, al165, al166, al167, al168, al169, al170, al171, al172, al173, al174, al175, al176])
    refine ih (i + 1) M1 (by omega) (by rw [f1 157 (by simp)]; exact h15) (fr_tt h0 f1) fun j => ?_
    rw [g1]
    by_cases ej : j = p + i
    · rw [if_pos ej, if_pos (by omega), h0 164 (by simp), show j - p = i by omega]
    · rw [if_neg ej, hv]
      by_cases hj : p ≤ j ∧ j < p + i
      · rw [if_pos hj, if_pos (by omega)]
      · rw [if_neg hj, if_neg (by omega)]
theorem m_puts_eq (d c p e r : Nat) (he : e * r ≤ 48) (hp : p + 48 ≤ 1768) (hc : c < p) (he4 : e ≤ 4) (hr : r ≤ 16) (M : aM) (h15 : M 157 15 = r) : wp (w_m_puts (d + 1) c p e M) fun x M' => x = [aI r] ∧ fr [158] M M' ∧ ∀ j, M' 158 j = if p ≤ j ∧ j < p + e * r then M 164 (j - p) else if j = c then (r : Int) else M 158 j := by
  rw [l_m_puts, al158, h15, tn_n]
  refine wp_inb ⟨by omega, by omega⟩ ?_
  refine wp_up fun M1 f1 g1 => ?_
  refine m_puts13_lp d p e r _ he hp M1 (fun M' f' g' => ?_) he4 hr (e * r) 0 M1 (by omega) (by rw [f1 157 (by simp)]; exact h15) (fr_refl _ _) fun j => by rw [if_neg (by omega)]
  refine ⟨rfl, fr_tt f1 f', fun j => ?_⟩
  rw [g', f1 164 (by simp), g1]
theorem m_pl107_lp (d s L : Nat) (hs : s ≤ 409) (M0 : aM) (Q : List aV → aM → Prop) (hQ : ∀ M', fr [158] M0 M' → (∀ j, M' 158 j = if 948 ≤ j ∧ j < 948 + 2 * s then M0 163 (j - 948) else M0 158 j) → Q [aI L] M') : ∀ (f i : Nat) (M : aM), i + f = 2 * s → M 157 14 = s → M 157 13 = L → fr [158] M0 M → (∀ j, M 158 j = if 948 ≤ j ∧ j < 948 + i then M0 163 (j - 948) else M0 158 j) → wp (w_m_putsLaw_107 d i M) Q := by
  have ew : w32 (2 * (s : Int)) = ((2 * s : Nat) : Int) := by rw [w32_i (by omega) (by omega)]; omega
  intro f
  induction f with
  | zero =>
    intro i M h h14 h13 h0 hv
    rw [l_m_putsLaw_107, h14, ew]
    refine wp_neg (by omega) ?_
    rw [h13]
    refine wp_ret (hQ M h0 fun j => ?_)
    rw [hv, show i = 2 * s by omega]
  | succ f ih =>
    intro i M h h14 h13 h0 hv
    rw [l_m_putsLaw_107, h14, ew, al163, al158]
    refine wp_pos (by omega) ?_
    refine wp_inb ⟨by omega, by omega⟩ ?_
    rw [show w32 (948 + (i : Int)) = ((948 + i : Nat) : Int) by rw [w32_i (by omega) (by omega)]; omega, tn_n, tn_n]
    refine wp_inb ⟨by omega, by omega⟩ ?_
    refine wp_up fun M1 f1 g1 => ?_
    refine wp_I ?_
    (try simp (disch := omega) only [w32_i, tn_l, tn_n, tn_r, tn_s, tn_1, Nat.add_sub_cancel, Int.reduceToNat, Int.toNat_zero, Int.toNat_one, al3, al4, al5, al6, al8, al9, al11, al13, al15, al17, al19, al21, al23, al25, al27, al29, al30, al31, al95, al96, al128, al129, al130, al131, al134, al135, al137, al139, al140, al142, al143, al144, al145, al147, al148, al149, al151, al152, al153, al154, al155, al156, al158, al159, al160, al161, al162, al163, al164, al165, al166, al167, al168, al169, al170, al171, al172, al173, al174, al175, al176])
    refine ih (i + 1) M1 (by omega) (by rw [f1 157 (by simp)]; exact h14) (by rw [f1 157 (by simp)]; exact h13) (fr_tt h0 f1) fun j => ?_
    rw [g1]
    by_cases ej : j = 948 + i
    · rw [if_pos ej, if_pos (by omega), h0 163 (by simp), show j - 948 = i by omega]
    · rw [if_neg ej, hv]
      by_cases hj : 948 ≤ j ∧ j < 948 + i
      · rw [if_pos hj, if_pos (by omega)]
      · rw [if_neg hj, if_neg (by omega)]
def pwV (F : Nat → Int) (V : aW) (i : Nat) : aW := fun j => if 884 ≤ j ∧ j < 884 + i then F (4 * (j - 884)) else if 900 ≤ j ∧ j < 900 + i then F (4 * (j - 900) + 1) else if 916 ≤ j ∧ j < 916 + i then F (4 * (j - 916) + 2) else if 932 ≤ j ∧ j < 932 + i then F (4 * (j - 932) + 3) else V j
theorem pwV_s (F : Nat → Int) (V : aW) (i : Nat) (hi : i < 16) (j : Nat) : pwV F V (i + 1) j = if j = 932 + i then F (4 * i + 3) else if j = 916 + i then F (4 * i + 2) else if j = 900 + i then F (4 * i + 1) else if j = 884 + i then F (4 * i) else pwV F V i j := by
  unfold pwV
  by_cases e1 : j = 932 + i
  · subst e1
    rw [if_pos rfl, if_neg (by omega), if_neg (by omega), if_neg (by omega), if_pos (by omega), show 932 + i - 932 = i by omega]
  rw [if_neg e1]
  by_cases e2 : j = 916 + i
  · subst e2
    rw [if_pos rfl, if_neg (by omega), if_neg (by omega), if_pos (by omega), show 916 + i - 916 = i by omega]
  rw [if_neg e2]
  by_cases e3 : j = 900 + i
  · subst e3
    rw [if_pos rfl, if_neg (by omega), if_pos (by omega), show 900 + i - 900 = i by omega]
  rw [if_neg e3]
  by_cases e4 : j = 884 + i
  · subst e4
    rw [if_pos rfl, if_pos (by omega), show 884 + i - 884 = i by omega]
  rw [if_neg e4]
  have h1 : (884 ≤ j ∧ j < 884 + (i + 1)) ↔ (884 ≤ j ∧ j < 884 + i) := by omega
  have h2 : (900 ≤ j ∧ j < 900 + (i + 1)) ↔ (900 ≤ j ∧ j < 900 + i) := by omega
  have h3 : (916 ≤ j ∧ j < 916 + (i + 1)) ↔ (916 ≤ j ∧ j < 916 + i) := by omega
  have h4 : (932 ≤ j ∧ j < 932 + (i + 1)) ↔ (932 ≤ j ∧ j < 932 + i) := by omega
  simp only [h1, h2, h3, h4]
theorem m_pl13_lp (d L : Nat) (hL : L ≤ 16) (M0 : aM) (Q : List aV → aM → Prop) (hQ : ∀ M', fr [158] M0 M' → M' 158 = pwV (M0 162) (M0 158) L → wp (w_m_putsLaw_107 d 0 M') Q) : ∀ (f i : Nat) (M : aM), i + f = L → M 157 13 = L → fr [158] M0 M → M 158 = pwV (M0 162) (M0 158) i → wp (w_m_putsLaw_13 d i M) Q := by
  intro f
  induction f with
  | zero =>
    intro i M h h13 h0 hv
    rw [l_m_putsLaw_13, h13]
    refine wp_neg (by omega) ?_
    exact hQ M h0 (by rw [hv, show i = L by omega])
  | succ f ih =>
    intro i M h h13 h0 hv
    have e4 : w32 (4 * (i : Int)) = ((4 * i : Nat) : Int) := by rw [w32_i (by omega) (by omega)]; omega
    have e41 : w32 (((4 * i : Nat) : Int) + 1) = ((4 * i + 1 : Nat) : Int) := by rw [w32_i (by omega) (by omega)]; omega
    have e42 : w32 (((4 * i : Nat) : Int) + 2) = ((4 * i + 2 : Nat) : Int) := by rw [w32_i (by omega) (by omega)]; omega
    have e43 : w32 (((4 * i : Nat) : Int) + 3) = ((4 * i + 3 : Nat) : Int) := by rw [w32_i (by omega) (by omega)]; omega
    have a1 : w32 (884 + (i : Int)) = ((884 + i : Nat) : Int) := by rw [w32_i (by omega) (by omega)]; omega
    have a2 : w32 (900 + (i : Int)) = ((900 + i : Nat) : Int) := by rw [w32_i (by omega) (by omega)]; omega
    have a3 : w32 (916 + (i : Int)) = ((916 + i : Nat) : Int) := by rw [w32_i (by omega) (by omega)]; omega
    have a4 : w32 (932 + (i : Int)) = ((932 + i : Nat) : Int) := by rw [w32_i (by omega) (by omega)]; omega
    rw [l_m_putsLaw_13, h13, e4, e41, e42, e43, a1, a2, a3, a4, al162, al158]
    simp only [tn_n]
    refine wp_pos (by omega) ?_
    refine wp_inb ⟨by omega, by omega⟩ ?_
    refine wp_inb ⟨by omega, by omega⟩ ?_
    refine wp_up fun M1 f1 g1 => ?_
    refine wp_inb ⟨by omega, by omega⟩ ?_
    refine wp_inb ⟨by omega, by omega⟩ ?_
    refine wp_up fun M2 f2 g2 => ?_
    refine wp_inb ⟨by omega, by omega⟩ ?_
    refine wp_inb ⟨by omega, by omega⟩ ?_
    refine wp_up fun M3 f3 g3 => ?_
    refine wp_inb ⟨by omega, by omega⟩ ?_
    refine wp_inb ⟨by omega, by omega⟩ ?_
    refine wp_up fun M4 f4 g4 => ?_
    refine wp_I ?_
    (try simp (disch := omega) only [w32_i, tn_l, tn_n, tn_r, tn_s, tn_1, Nat.add_sub_cancel, Int.reduceToNat, Int.toNat_zero, Int.toNat_one, al3, al4, al5, al6, al8, al9, al11, al13, al15, al17, al19, al21, al23, al25, al27, al29, al30, al31, al95, al96, al128, al129, al130, al131, al134, al135, al137, al139, al140, al142, al143, al144, al145, al147, al148, al149, al151, al152, al153, al154, al155, al156, al158, al159, al160, al161, al162, al163, al164, al165, al166, al167, al168, al169, al170, al171, al172, al173, al174, al175, al176])
    have f14 : fr [158] M M4 := fr_tt f1 (fr_tt f2 (fr_tt f3 f4))
    have E0 : M 162 = M0 162 := h0 162 (by simp)
    refine ih (i + 1) M4 (by omega) (by rw [f14 157 (by simp)]; exact h13) (fr_tt h0 f14) ?_
    funext j
    rw [pwV_s _ _ i (by omega), g4, g3, g2, g1, f3 162 (by simp), f2 162 (by simp), f1 162 (by simp), E0, hv]
theorem m_putsLaw_eq (d L s : Nat) (hL : L ≤ 16) (hs : s ≤ 409) (M : aM) (h13 : M 157 13 = L) (h14 : M 157 14 = s) : wp (w_m_putsLaw (d + 1) M) fun x M' => x = [aI L] ∧ fr [158] M M' ∧ ∀ j, M' 158 j = if 948 ≤ j ∧ j < 948 + 2 * s then M 163 (j - 948) else pwV (M 162) (fun j => if j = 44 then (L : Int) else M 158 j) L j := by
  rw [l_m_putsLaw, al158, h13]
  refine wp_inb ⟨by omega, by omega⟩ ?_
  refine wp_up fun M1 f1 g1 => ?_
  have e1 : M1 158 = fun j => if j = 44 then (L : Int) else M 158 j := funext g1
  refine m_pl13_lp d L hL M1 _ (fun M2 f2 g2 => ?_) L 0 M1 (by omega) (by rw [f1 157 (by simp)]; exact h13) (fr_refl _ _) ?_
  · refine m_pl107_lp d s L hs M2 _ (fun M' f' g' => ?_) (2 * s) 0 M2 (by omega) (by rw [f2 157 (by simp), f1 157 (by simp)]; exact h14) (by rw [f2 157 (by simp), f1 157 (by simp)]; exact h13) (fr_refl _ _) fun j => by rw [if_neg (by omega)]
    refine ⟨rfl, fr_tt f1 (fr_tt f2 f'), fun j => ?_⟩
    rw [g', f2 163 (by simp), f1 163 (by simp), g2, f1 162 (by simp), e1]
  · funext j
    unfold pwV
    rw [if_neg (by omega), if_neg (by omega), if_neg (by omega), if_neg (by omega)]
/-- what no text changes in the reference, but for where it goes -/
def yK (M M' : aM) : Prop := (∀ k, k ≠ 157 → k ≠ 158 → ¬ (162 ≤ k ∧ k < 165) → M' k = M k) ∧ M' 157 16 = 0 ∧ M' 157 5 = M 157 5
theorem m_text_eq (d k n : Nat) (hk : k < 4) (dn : Int) (hdn : 0 ≤ dn ∧ dn ≤ 10) (b : Nat → Int) (M : aM) (h4 : n ≤ 400) (h16 : M 157 16 = n) (hb : ∀ i, i < n → M 165 i = b i ∧ 0 ≤ b i ∧ b i ≤ 255) (h41 : M 158 41 = dn) :
    wp (w_m_text (d + 44) k M) fun r M' => tTx k n dn (toks (wsk k) b n 0)
      (fun e => r = [aI (-1)] ∧ M' 157 23 = e.1 ∧ M' 157 25 = e.2 ∧ yK M M' ∧ M' 157 4 = M 157 4 ∧ M' 158 = M 158)
      (fun L => r = [aI ((L.length : Nat) : Int)] ∧ M' 157 23 = 0 ∧ M' 157 25 = -1 ∧ yK M M' ∧ (k = 3 → M' 157 4 = M 157 4) ∧ (k ≠ 3 → M' 157 4 = 0) ∧ ∃ D : Nat → Int, (∀ i t, L[i]? = some t → D (mW k * i) = t.1 ∧ D (mW k * i + 1) = (if k = 1 then t.2.1 + 7 else t.2.1) ∧ (k ≠ 3 → D (mW k * i + 2) = t.2.2)) ∧ ∀ j, M' 158 j = if (if k = 1 then 63 else if k = 2 then 111 else 159) ≤ j ∧ j < (if k = 1 then 63 else if k = 2 then 111 else 159) + mW k * L.length then D (j - (if k = 1 then 63 else if k = 2 then 111 else 159)) else if j = 44 + k then ((L.length : Nat) : Int) else if k = 2 ∧ j = 9 then 0 else M 158 j)
      (fun L => r = [aI ((L.length : Nat) : Int)] ∧ M' 157 23 = 0 ∧ M' 157 25 = -1 ∧ yK M M' ∧ M' 157 4 = M 157 4 ∧ ∃ (F A : Nat → Int) (S : Nat), S ≤ 409 ∧ mLd F A S 0 L ∧ ∀ j, M' 158 j = if 948 ≤ j ∧ j < 948 + 2 * S then A (j - 948) else pwV F (fun j => if j = 44 then ((L.length : Nat) : Int) else M 158 j) L.length j) := by
  have hlen : (toks (wsk k) b n 0).length ≤ 400 := by
    have := toks_len (wsk k) b n n 0 (by omega)
    omega
  have hok : tsOK k (toks (wsk k) b n 0) := toks_ok (wsk k) b n n 0 (by omega)
  generalize hTL : toks (wsk k) b n 0 = TL at *
  rw [l_m_text]
  refine wp_up fun M1 f1 g1 => ?_
  refine wp_up fun M2 f2 g2 => ?_
  refine wp_eI (m_isIn_eq _ _ _ _ _) ?_
  rw [decide_eq_true (by omega)]
  refine wp_neg (by decide) ?_
  refine wp_up fun M3 f3 g3 => ?_
  refine wp_up fun M4 f4 g4 => ?_
  refine wp_up fun M5 f5 g5 => ?_
  have F5 : fr [157] M M5 := fr_tt f1 (fr_tt f2 (fr_tt f3 (fr_tt f4 f5)))
  have G5 : ∀ j, M5 157 j = if j = 12 then (k : Int) else if j = 17 then 0 else if j = 21 then 0 else if j = 25 then -1 else if j = 23 then 0 else M 157 j := fun j => by rw [g5, g4, g3, g2, g1]
  have B5 : rB k b n M5 := ⟨by rw [G5, if_pos rfl], by rw [G5]; exact h16, h4, fun i hi => by rw [F5 165 (by simp)]; exact hb i hi⟩
  refine wp_bV (m_next_eq (d + 33) hk (Nat.zero_le n) B5 (by rw [G5]; rfl)) ?_
  rintro M6 ⟨q6, s6⟩
  rw [hTL] at s6
  have B6 := rB_fq B5 q6
  have K6 : ∀ j, (j = 4 ∨ j = 5 ∨ j = 16) → M6 157 j = M 157 j := fun j hj => by
    rw [q6.2 j (by omega) (by omega) (by omega) (by omega), G5, if_neg (by omega), if_neg (by omega), if_neg (by omega), if_neg (by omega), if_neg (by omega)]
  have K23 : M6 157 23 = 0 := by rw [q6.2 23 (by decide) (by decide) (by decide) (by decide), G5]; rfl
  have K25 : M6 157 25 = -1 := by rw [q6.2 25 (by decide) (by decide) (by decide) (by decide), G5]; rfl
  have O6 : ∀ x, x ≠ 157 → M6 x = M x := fun x hx => by rw [q6.1 x hx, F5 x (by simpa using hx)]
  unfold tTx
  by_cases h0 : k = 0
  · subst h0
    simp only [if_pos rfl]
    refine wp_pos rfl ?_
    obtain ⟨r7, M7, e7, o7, h7⟩ := m_readsLaw_eq (d + 1) B6 s6 hok (by omega)
    have O7 : ∀ x, x ≠ 157 → x ≠ 162 → x ≠ 163 → M7 x = M x := fun x a b c => by rw [o7.1 x a b c, O6 x a]
    cases hp : pLs n 17 [] TL with
    | inl e =>
      rw [hp] at h7
      obtain ⟨rfl, a1, a2⟩ := h7
      refine wp_eI e7 ?_
      refine wp_up fun M8 f8 g8 => ?_
      refine wp_pos rfl ?_
      refine wp_up fun M9 f9 g9 => ?_
      refine wp_up fun Ma fa ga => ?_
      have Fa : fr [157] M7 Ma := fr_tt f8 (fr_tt f9 fa)
      refine wp_ret ⟨rfl, ?_, ?_, ⟨fun x x1 x2 x3 => ?_, ?_, ?_⟩, ?_, ?_⟩
      · rw [ga, if_neg (by decide), g9, if_pos rfl, g8, if_neg (by decide), a1]
      · rw [ga, if_pos rfl, g9, if_neg (by decide), g8, if_neg (by decide), a2]
      · rw [Fa x (by simpa using x1), O7 x x1 (by omega) (by omega)]
      · rw [ga, if_neg (by decide), g9, if_neg (by decide), g8, if_pos rfl]
      · rw [ga, if_neg (by decide), g9, if_neg (by decide), g8, if_neg (by decide), o7.2 5 (by omega), K6 5 (by omega)]
      · rw [ga, if_neg (by decide), g9, if_neg (by decide), g8, if_neg (by decide), o7.2 4 (by omega), K6 4 (by omega)]
      · rw [Fa 158 (by simp), O7 158 (by decide) (by decide) (by decide)]
    | inr L =>
      rw [hp] at h7
      obtain ⟨rfl, C, m1, m2, m3, m4⟩ := h7
      refine wp_eI e7 ?_
      refine wp_up fun M8 f8 g8 => ?_
      refine wp_neg (by decide) ?_
      refine wp_idI ?_
      have F8 : ∀ j, j ≠ 16 → M8 157 j = M7 157 j := fun j hj => by rw [g8, if_neg hj]
      rw [l_m_putsText]
      refine wp_pos rfl ?_
      refine wp_idI ?_
      refine wp_mono (m_putsLaw_eq (d + 41) L.length C.length m3 m1.2.1 M8 (by rw [F8 13 (by decide), m2]) (by rw [F8 14 (by decide), m1.1])) ?_
      rintro r M9 ⟨p1, p2, p3⟩
      have F9 : M9 157 = M8 157 := p2 157 (by simp)
      refine ⟨⟨_, p1⟩, ⟨_, p1⟩, p1, ?_, ?_, ⟨fun x x1 x2 x3 => ?_, ?_, ?_⟩, ?_, M7 162, M7 163, C.length, m1.2.1, m4, fun j => ?_⟩
      · rw [F9, F8 23 (by decide), o7.2 23 (by omega), K23]
      · rw [F9, F8 25 (by decide), o7.2 25 (by omega), K25]
      · rw [p2 x (by simpa using x2), f8 x (by simpa using x1), O7 x x1 (by omega) (by omega)]
      · rw [F9, g8, if_pos rfl]
      · rw [F9, F8 5 (by decide), o7.2 5 (by omega), K6 5 (by omega)]
      · rw [F9, F8 4 (by decide), o7.2 4 (by omega), K6 4 (by omega)]
      · rw [p3, f8 163 (by simp), f8 162 (by simp), f8 158 (by simp), O7 158 (by decide) (by decide) (by decide)]
  · simp only [if_neg h0]
    refine wp_neg (by omega) ?_
    have hk3 : k = 1 ∨ k = 2 ∨ k = 3 := by omega
    obtain ⟨r7, M7, e7, o7, h7⟩ := m_readsRows_eq (d + 28) k hk3 dn hdn TL M6 B6 s6 hok (by rw [O6 158 (by decide), h41])
    have O7 : ∀ x, x ≠ 157 → x ≠ 164 → M7 x = M x := fun x a b => by rw [o7.1 x a b, O6 x a]
    cases hp : tRows k n dn (mMost k) (mMost k + 1) [] TL with
    | inl e =>
      rw [hp] at h7
      obtain ⟨rfl, a1, a2⟩ := h7
      refine wp_eI e7 ?_
      refine wp_up fun M8 f8 g8 => ?_
      refine wp_pos rfl ?_
      refine wp_up fun M9 f9 g9 => ?_
      refine wp_up fun Ma fa ga => ?_
      have Fa : fr [157] M7 Ma := fr_tt f8 (fr_tt f9 fa)
      refine wp_ret ⟨rfl, ?_, ?_, ⟨fun x x1 x2 x3 => ?_, ?_, ?_⟩, ?_, ?_⟩
      · rw [ga, if_neg (by decide), g9, if_pos rfl, g8, if_neg (by decide), a1]
      · rw [ga, if_pos rfl, g9, if_neg (by decide), g8, if_neg (by decide), a2]
      · rw [Fa x (by simpa using x1), O7 x x1 (by omega)]
      · rw [ga, if_neg (by decide), g9, if_neg (by decide), g8, if_pos rfl]
      · rw [ga, if_neg (by decide), g9, if_neg (by decide), g8, if_neg (by decide), o7.2 5 (by omega), K6 5 (by omega)]
      · rw [ga, if_neg (by decide), g9, if_neg (by decide), g8, if_neg (by decide), o7.2 4 (by omega), K6 4 (by omega)]
      · rw [Fa 158 (by simp), O7 158 (by decide) (by decide)]
    | inr L =>
      rw [hp] at h7
      obtain ⟨rfl, a1, a2, a3⟩ := h7
      refine wp_eI e7 ?_
      refine wp_up fun M8 f8 g8 => ?_
      refine wp_neg (by decide) ?_
      refine wp_idI ?_
      have F8 : ∀ j, j ≠ 16 → M8 157 j = M7 157 j := fun j hj => by rw [g8, if_neg hj]
      have h15 : M8 157 15 = ((L.length : Nat) : Int) := by rw [F8 15 (by decide), a1]
      have h164 : ∀ {x : aM}, x 164 = M8 164 → ∀ i t, L[i]? = some t → x 164 (mW k * i) = t.1 ∧ x 164 (mW k * i + 1) = (if k = 1 then t.2.1 + 7 else t.2.1) ∧ (k ≠ 3 → x 164 (mW k * i + 2) = t.2.2) := by
        intro x hx i t hit
        rw [hx, f8 164 (by simp)]
        exact a3 i t hit
      rw [l_m_putsText]
      refine wp_neg (by omega) ?_
      rcases hk3 with rfl | rfl | rfl
      · refine wp_neg (by decide) ?_
        refine wp_eV (m_forgets_eq _ M8) ?_
        refine wp_pos (by decide) ?_
        refine wp_idI ?_
        have am : mMost 1 = 16 := rfl
        rw [am] at a2
        generalize hM9 : aUp M8 157 4 0 = M9
        have f9 : fr [157] M8 M9 := by rw [← hM9]; exact fr_up _ _ _ _
        have g9 : ∀ j, M9 157 j = if j = 4 then 0 else M8 157 j := fun j => by rw [← hM9]; exact aUp_same _ _ _ _ _
        refine wp_mono (m_puts_eq (d + 41) 45 63 3 L.length (by omega) (by omega) (by omega) (by omega) a2 M9 (by rw [g9, if_neg (by decide)]; exact h15)) ?_
        rintro r Ma ⟨p1, p2, p3⟩
        have Fa : Ma 157 = M9 157 := p2 157 (by simp)
        refine ⟨⟨_, p1⟩, ⟨_, p1⟩, p1, ?_, ?_, ⟨fun x x1 x2 x3 => ?_, ?_, ?_⟩, fun e => absurd e (by decide), fun _ => ?_, M9 164, h164 (f9 164 (by simp)), fun j => ?_⟩
        · rw [Fa, g9, if_neg (by decide), F8 23 (by decide), o7.2 23 (by omega), K23]
        · rw [Fa, g9, if_neg (by decide), F8 25 (by decide), o7.2 25 (by omega), K25]
        · rw [p2 x (by simpa using x2), f9 x (by simpa using x1), f8 x (by simpa using x1), O7 x x1 (by omega)]
        · rw [Fa, g9, if_neg (by decide), g8, if_pos rfl]
        · rw [Fa, g9, if_neg (by decide), F8 5 (by decide), o7.2 5 (by omega), K6 5 (by omega)]
        · rw [Fa, g9, if_pos rfl]
        · rw [p3, f9 158 (by simp), f8 158 (by simp), O7 158 (by decide) (by decide), if_neg (show ¬ (1 = 2 ∧ j = 9) by omega)]
          rfl
      · refine wp_neg (by decide) ?_
        refine wp_eV (m_forgets_eq _ M8) ?_
        refine wp_neg (by decide) ?_
        have am : mMost 2 = 16 := rfl
        rw [am] at a2
        generalize hM9 : aUp M8 157 4 0 = M9
        have f9 : fr [157] M8 M9 := by rw [← hM9]; exact fr_up _ _ _ _
        have g9 : ∀ j, M9 157 j = if j = 4 then 0 else M8 157 j := fun j => by rw [← hM9]; exact aUp_same _ _ _ _ _
        rw [al158]
        refine wp_inb ⟨by omega, by omega⟩ ?_
        refine wp_up fun Mb fb gb => ?_
        refine wp_idI ?_
        refine wp_mono (m_puts_eq (d + 41) 46 111 3 L.length (by omega) (by omega) (by omega) (by omega) a2 Mb (by rw [fb 157 (by simp), g9, if_neg (by decide)]; exact h15)) ?_
        rintro r Ma ⟨p1, p2, p3⟩
        have Fa : Ma 157 = M9 157 := (p2 157 (by simp)).trans (fb 157 (by simp))
        refine ⟨⟨_, p1⟩, ⟨_, p1⟩, p1, ?_, ?_, ⟨fun x x1 x2 x3 => ?_, ?_, ?_⟩, fun e => absurd e (by decide), fun _ => ?_, M9 164, h164 (f9 164 (by simp)), fun j => ?_⟩
        · rw [Fa, g9, if_neg (by decide), F8 23 (by decide), o7.2 23 (by omega), K23]
        · rw [Fa, g9, if_neg (by decide), F8 25 (by decide), o7.2 25 (by omega), K25]
        · rw [p2 x (by simpa using x2), fb x (by simpa using x2), f9 x (by simpa using x1), f8 x (by simpa using x1), O7 x x1 (by omega)]
        · rw [Fa, g9, if_neg (by decide), g8, if_pos rfl]
        · rw [Fa, g9, if_neg (by decide), F8 5 (by decide), o7.2 5 (by omega), K6 5 (by omega)]
        · rw [Fa, g9, if_pos rfl]
        · rw [p3, fb 164 (by simp), gb, f9 158 (by simp), f8 158 (by simp), O7 158 (by decide) (by decide)]
          have e2 : (if (2:Nat) = 2 ∧ j = 9 then (0:Int) else M 158 j) = if j = 9 then 0 else M 158 j := by
            by_cases h : j = 9
            · rw [if_pos h, if_pos ⟨rfl, h⟩]
            · rw [if_neg h, if_neg fun e => h e.2]
          rw [e2]
          rfl
      · refine wp_pos (by decide) ?_
        refine wp_idI ?_
        have am : mMost 3 = 8 := rfl
        rw [am] at a2
        refine wp_mono (m_puts_eq (d + 41) 47 159 2 L.length (by omega) (by omega) (by omega) (by omega) (by omega) M8 h15) ?_
        rintro r Ma ⟨p1, p2, p3⟩
        have Fa : Ma 157 = M8 157 := p2 157 (by simp)
        refine ⟨⟨_, p1⟩, ⟨_, p1⟩, p1, ?_, ?_, ⟨fun x x1 x2 x3 => ?_, ?_, ?_⟩, fun _ => ?_, fun e => absurd rfl e, M8 164, h164 rfl, fun j => ?_⟩
        · rw [Fa, F8 23 (by decide), o7.2 23 (by omega), K23]
        · rw [Fa, F8 25 (by decide), o7.2 25 (by omega), K25]
        · rw [p2 x (by simpa using x2), f8 x (by simpa using x1), O7 x x1 (by omega)]
        · rw [Fa, g8, if_pos rfl]
        · rw [Fa, F8 5 (by decide), o7.2 5 (by omega), K6 5 (by omega)]
        · rw [Fa, F8 4 (by decide), o7.2 4 (by omega), K6 4 (by omega)]
        · rw [p3, f8 158 (by simp), O7 158 (by decide) (by decide), if_neg (show ¬ (3 = 2 ∧ j = 9) by omega)]
          rfl
