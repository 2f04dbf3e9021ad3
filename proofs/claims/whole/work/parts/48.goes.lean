/-! image, goes -/
theorem seg2_V2 {V V' : aW} : ∀ (l : List (Int × Int)) (p : Nat), p + l.length ≤ 410 → (∀ k, 884 ≤ k → k < 1768 → V' k = V k) → seg2 V p l → seg2 V' p l
  | [], _, _, _, _ => trivial
  | (s, v) :: l, p, hl, h, hs => by
    simp only [List.length_cons] at hl
    exact ⟨(h _ (by omega) (by omega)).trans hs.1, (h _ (by omega) (by omega)).trans hs.2.1, seg2_V2 l (p + 1) (by omega) h hs.2.2⟩
theorem vLn_V2 {V V' : aW} (h : ∀ k, 884 ≤ k → k < 1768 → V' k = V k) : ∀ (L : aLaw) (i : Nat), i + L.length ≤ 16 → vLn V i L → vLn V' i L
  | [], _, _, _ => trivial
  | (w, E, B) :: L, i, hi, hs => by
    simp only [List.length_cons] at hi
    obtain ⟨⟨p, v1, v2, v3, v4, v5, v6, v7⟩, hv⟩ := hs
    exact ⟨⟨p, (h _ (by omega) (by omega)).trans v1, (h _ (by omega) (by omega)).trans v2, (h _ (by omega) (by omega)).trans v3, (h _ (by omega) (by omega)).trans v4, v5, seg2_V2 E p (by omega) h v6, seg2_V2 B _ (by omega) h v7⟩, vLn_V2 h L (i + 1) (by omega) hv⟩
theorem vLaw_V2 {V V' : aW} {L : aLaw} (hL : vLaw L V) (h16 : L.length ≤ 16) (h : ∀ k, k < 1768 → V' k = V k) : vLaw L V' :=
  ⟨(h 44 (by omega)).trans hL.1, vLn_V2 (fun k _ hk => h k hk) L 0 (by omega) hL.2⟩
theorem rW_V {tr : Bool} {a : Nat} {V V' : aW} {L : aLaw} {M : aM} (h : rW tr a V L M) (hN : okN V) (h8 : V 8 ≤ 150) (hv : ∀ k, k < 1768 → V' k = V k) : rW tr a V' L M :=
  ⟨⟨rWd_V h.1.1 fun k _ _ _ => hv k (by omega), rTl_V h.1.2.1 hN fun k _ _ _ => hv k (by omega), h.1.2.2⟩, fun ht => rRow_V (h.2 ht) (hv 8 (by omega)) fun i j _ _ => hv _ (by omega)⟩
theorem iNow_V {L : aLaw} {a r r' : Nat} {M : aM} (h : iNow L a r M) (hv : ∀ k, k < 1768 → M r' k = M r k) : iNow L a r' M := by
  obtain ⟨h1, h2, h3, h4, h5⟩ := h
  exact ⟨okW_V h1 fun k _ _ => hv k (by omega), okT_V h2 (by rw [hv 41 (by omega)]; exact Int.le_refl _) fun k _ => hv k (by omega), rW_V h3 h2.1 h1.2.1.2 hv, vLaw_V2 h4 h5.1 hv, h5⟩
theorem m_image_lp1 (d : Nat) (A B : Nat → Int) (Q : List aV → aM → Prop) : ∀ (f i : Nat) (M : aM), i + f = 1768 → M 158 = A → M 159 = (fun k => if k < i then A k else B k) → (∀ M', fr [159] M M' → M' 159 = (fun k => if k < 1768 then A k else B k) → wp (w_m_image_15 (d + 1) 1 1768 M') Q) → wp (w_m_image_15 (d + 1) 1 i M) Q
  | 0, i, M, h, hA, hB, hQ => by
    rw [show i = 1768 by omega] at hB ⊢
    exact hQ M (fr_refl _ _) hB
  | f + 1, i, M, h, hA, hB, hQ => by
    rw [l_m_image_15]
    (try simp (disch := omega) only [w32_i, tn_l, tn_n, tn_r, tn_s, tn_1, Nat.add_sub_cancel, Int.reduceToNat, Int.toNat_zero, Int.toNat_one, al3, al4, al5, al6, al8, al9, al11, al13, al15, al17, al19, al21, al23, al25, al27, al29, al30, al31, al95, al96, al128, al129, al130, al131, al134, al135, al137, al139, al140, al142, al143, al144, al145, al147, al148, al149, al151, al152, al153, al154, al155, al156, al158, al159, al160, al161, al162, al163, al164, al165, al166, al167, al168, al169, al170, al171, al172, al173, al174, al175, al176])
    refine wp_pos (by omega) ?_
    refine wp_neg (by decide) ?_
    refine wp_inb ⟨by omega, by omega⟩ ?_
    refine wp_inb ⟨by omega, by omega⟩ ?_
    rw [hA]
    refine wp_up fun M1 f1 g1 => ?_
    refine wp_I ?_
    refine m_image_lp1 d A B Q f (i + 1) M1 (by omega) (by rw [f1 _ (by simp), hA]) ?_ (fun M' f' w' => hQ M' (fr_tt f1 f') w')
    funext k
    rw [g1, hB]
    by_cases e : k = i
    · subst e; rw [if_pos rfl, if_pos (by omega)]
    · rw [if_neg e]
      by_cases e2 : k < i
      · simp only; rw [if_pos e2, if_pos (by omega)]
      · simp only; rw [if_neg e2, if_neg (by omega)]
theorem m_image_lp0 (d : Nat) (A B : Nat → Int) (Q : List aV → aM → Prop) : ∀ (f i : Nat) (M : aM), i + f = 1768 → M 159 = A → M 158 = (fun k => if k < i then A k else B k) → (∀ M', fr [158] M M' → M' 158 = (fun k => if k < 1768 then A k else B k) → wp (w_m_image_15 (d + 1) 0 1768 M') Q) → wp (w_m_image_15 (d + 1) 0 i M) Q
  | 0, i, M, h, hA, hB, hQ => by
    rw [show i = 1768 by omega] at hB ⊢
    exact hQ M (fr_refl _ _) hB
  | f + 1, i, M, h, hA, hB, hQ => by
    rw [l_m_image_15]
    (try simp (disch := omega) only [w32_i, tn_l, tn_n, tn_r, tn_s, tn_1, Nat.add_sub_cancel, Int.reduceToNat, Int.toNat_zero, Int.toNat_one, al3, al4, al5, al6, al8, al9, al11, al13, al15, al17, al19, al21, al23, al25, al27, al29, al30, al31, al95, al96, al128, al129, al130, al131, al134, al135, al137, al139, al140, al142, al143, al144, al145, al147, al148, al149, al151, al152, al153, al154, al155, al156, al158, al159, al160, al161, al162, al163, al164, al165, al166, al167, al168, al169, al170, al171, al172, al173, al174, al175, al176])
    refine wp_pos (by omega) ?_
    refine wp_pos (by decide) ?_
    refine wp_inb ⟨by omega, by omega⟩ ?_
    refine wp_inb ⟨by omega, by omega⟩ ?_
    rw [hA]
    refine wp_up fun M1 f1 g1 => ?_
    refine wp_I ?_
    refine m_image_lp0 d A B Q f (i + 1) M1 (by omega) (by rw [f1 _ (by simp), hA]) ?_ (fun M' f' w' => hQ M' (fr_tt f1 f') w')
    funext k
    rw [g1, hB]
    by_cases e : k = i
    · subst e; rw [if_pos rfl, if_pos (by omega)]
    · rw [if_neg e]
      by_cases e2 : k < i
      · simp only; rw [if_pos e2, if_pos (by omega)]
      · simp only; rw [if_neg e2, if_neg (by omega)]
theorem statW_rW {tr : Bool} {a : Nat} {V : aW} {L : aLaw} {M : aM} (h : rW tr a V L M) : statW a M := by
  obtain ⟨⟨w1, ⟨t1, t2, t3, t4, t5, t6, t7, t8⟩, ⟨n, -, -, -, -, w3⟩, w4⟩, -⟩ := h
  exact ⟨w3, t1.1, t2.1, t3.1, w4.1, t4.1, t5.1, t6.1, t7.1, t8.1⟩
theorem pr_image (d : Nat) (tk : Bool) : pr (w_x_image (d + 40) (bI tk)) (w_m_image (d + 40) (bI tk)) := by
  intro L Lk M hI
  have hI' := hI
  obtain ⟨hN, hK, hS, hR, hT, hF⟩ := hI
  obtain ⟨k1, k2, hw, k4, k5⟩ := hN
  cases tk with
  | true =>
    have hx : wp (w_x_image (d + 40) 1 M) fun r M1 => r = [aI 1] ∧ rW true 32 (M 158) L M1 ∧ M1 0 9 = 1 ∧ (∀ k, k < 32 ∨ 61 ≤ k → k ≠ 0 → M1 k = M k) := by
      rw [l_x_image]
      refine wp_neg (by decide) ?_
      refine wp_bV (world_copy_eq _ 32 1 (M 158) L M (Or.inr (Or.inl rfl)) isWo1 (by omega) hw k2.1 k5.1 k1.2.1 hS.1) ?_
      rintro M1 ⟨w1, f1⟩
      refine wp_up fun M2 f2 g2 => ?_
      exact wp_ret ⟨rfl, rW_fr w1 fun k _ _ _ => f2 k (by simp; omega), by rw [g2, if_pos rfl], fun k hk h0 => by rw [f2 k (by simp [h0]), f1 k (by omega)]⟩
    obtain ⟨r, M1, e1, er, w1, g1, f1⟩ := hx
    have h158 : M1 158 = M 158 := f1 158 (by omega) (by omega)
    have hm : wp (w_m_image (d + 40) 1 M1) fun r M2 => r = [aI 1] ∧ M2 159 = (fun k => if k < 1768 then M 158 k else M 159 k) ∧ M2 157 5 = 1 ∧ (∀ j, j ≠ 5 → M2 157 j = M1 157 j) ∧ fr [157, 159] M1 M2 := by
      rw [l_m_image]
      refine wp_neg (by decide) ?_
      refine m_image_lp1 _ (M 158) (M 159) _ 1768 0 M1 (by omega) h158 (by rw [f1 159 (by omega) (by omega)]; funext k; rw [if_neg (by omega)]) ?_
      intro M2 f2 w2
      rw [l_m_image_15]
      refine wp_neg (by decide) ?_
      refine wp_neg (by decide) ?_
      refine wp_up fun M3 f3 g3 => ?_
      exact wp_ret ⟨rfl, by rw [f3 _ (by simp), w2], by rw [g3, if_pos rfl], fun j hj => by rw [g3, if_neg hj, f2 _ (by simp)], fr_tr f2 f3 (by simp) (by simp)⟩
    obtain ⟨r', M2, e2, er2, v2, g2, g2', f2⟩ := hm
    subst er er2
    have F : ∀ k, k < 32 ∨ 61 ≤ k → k ≠ 0 → k ≠ 157 → k ≠ 159 → M2 k = M k := fun k a b c e => by rw [f2 k (by simp; omega), f1 k a b]
    have G : ∀ j, j ≠ 5 → M2 157 j = M 157 j := fun j hj => by rw [g2' j hj, f1 157 (by omega) (by omega)]
    have w2 : rW true 32 (M 158) L M2 := rW_fr w1 fun k _ _ _ => f2 k (by simp; omega)
    refine ⟨1, M1, M2, e1, e2, ⟨L, L, ?_, ⟨?_, Or.inr g2, fun _ => ?_⟩, ?_, ?_, ?_, ?_⟩, ⟨f1 _ (by omega) (by omega), f1 _ (by omega) (by omega)⟩, F _ (by omega) (by omega) (by omega) (by omega), F _ (by omega) (by omega) (by omega) (by omega)⟩
    · exact iNow_ag ⟨k1, k2, hw, k4, k5⟩ (F 158 (by omega) (by omega) (by omega) (by omega)) fun k _ _ _ => F k (by omega) (by omega) (by omega) (by omega)
    · rw [f2 0 (by simp), g1, g2]
    · have : iNow L 32 158 M2 := by
        unfold iNow
        rw [F 158 (by omega) (by omega) (by omega) (by omega)]
        exact ⟨k1, k2, w2, k4, k5⟩
      refine iNow_V this fun k hk => ?_
      rw [v2, F 158 (by omega) (by omega) (by omega) (by omega)]
      simp only
      rw [if_pos hk]
    · exact ⟨statW_rW w2, statW_ag hS.2.1 fun k _ _ => by rw [F k (by omega) (by omega) (by omega) (by omega)], by rw [F 136 (by omega) (by omega) (by omega) (by omega)]; exact hS.2.2.1, by rw [F 138 (by omega) (by omega) (by omega) (by omega)]; exact hS.2.2.2⟩
    · exact iRing_ag hR (F 94 (by omega) (by omega) (by omega) (by omega)) (G 4 (by omega)) (F 96 (by omega) (by omega) (by omega) (by omega)) (F 160 (by omega) (by omega) (by omega) (by omega)) (F 158 (by omega) (by omega) (by omega) (by omega)) fun k _ _ => F k (by omega) (by omega) (by omega) (by omega)
    · exact iTape_ag hT (F 127 (by omega) (by omega) (by omega) (by omega)) (G 16 (by omega)) (F 128 (by omega) (by omega) (by omega) (by omega)) (F 165 (by omega) (by omega) (by omega) (by omega))
    · exact iFault_ag hF (F 132 (by omega) (by omega) (by omega) (by omega)) (G 23 (by omega)) (G 25 (by omega))
  | false =>
    by_cases h0 : M 157 5 = 0
    · refine ⟨0, M, M, ?_, ?_, ⟨L, Lk, hI'⟩, ⟨rfl, rfl⟩, rfl, rfl⟩
      · rw [u_x_image, if_pos (by decide), if_pos (by rw [hK.1, h0])]
      · rw [u_m_image, if_pos (by decide), if_pos h0]
    · have h1 : M 157 5 = 1 := by rcases hK.2.1 with h | h; exact absurd h h0; exact h
      obtain ⟨q1, q2, qw, q4, q5⟩ := hK.2.2 h1
      have hx : wp (w_x_image (d + 40) 0 M) fun r M1 => r = [aI 1] ∧ rW true 1 (M 159) Lk M1 ∧ M1 94 3 = 0 ∧ M1 94 2 = M 94 2 ∧ (∀ k, k < 1 ∨ 30 ≤ k → k ≠ 94 → M1 k = M k) := by
        rw [l_x_image]
        refine wp_pos (by decide) ?_
        refine wp_neg (by rw [hK.1]; exact h0) ?_
        refine wp_bV (world_copy_eq _ 1 32 (M 159) Lk M isWo1 (Or.inr (Or.inl rfl)) (by omega) qw q2.1 q5.1 q1.2.1 (statW_rW hw)) ?_
        rintro M1 ⟨w1, f1⟩
        refine wp_eV (acts_forget_eq _ _) ?_
        exact wp_ret ⟨rfl, rW_fr w1 fun k _ _ _ => aUp_N (by omega), by simp [aUp_E], by simp [aUp_E]; rw [f1 94 (by omega)], fun k hk h94 => by rw [aUp_N h94, f1 k (by omega)]⟩
      obtain ⟨r, M1, e1, er, w1, g1, g1', f1⟩ := hx
      have hm : wp (w_m_image (d + 40) 0 M1) fun r M2 => r = [aI 1] ∧ M2 158 = (fun k => if k < 1768 then M 159 k else M 158 k) ∧ M2 157 5 = 1 ∧ M2 157 4 = 0 ∧ (∀ j, j ≠ 5 → j ≠ 4 → M2 157 j = M1 157 j) ∧ fr [157, 158] M1 M2 := by
        rw [l_m_image]
        refine wp_pos (by decide) ?_
        refine wp_neg (by rw [f1 157 (by omega) (by omega)]; exact h0) ?_
        refine m_image_lp0 _ (M 159) (M 158) _ 1768 0 M1 (by omega) (f1 159 (by omega) (by omega)) (by rw [f1 158 (by omega) (by omega)]; funext k; rw [if_neg (by omega)]) ?_
        intro M2 f2 w2
        rw [l_m_image_15]
        refine wp_neg (by decide) ?_
        refine wp_pos (by decide) ?_
        refine wp_eV (m_forgets_eq _ _) ?_
        refine wp_M fun M3 e3 => ?_
        refine wp_ret ⟨rfl, by rw [e3, aUp_N (by decide), aUp_N (by decide), w2], by rw [e3]; simp [aUp_E], by rw [e3]; simp [aUp_E], fun j a b => by rw [e3]; simp [aUp_E, a, b]; rw [f2 157 (by simp)], fun k hk => ?_⟩
        simp at hk
        rw [e3, aUp_N hk.1, aUp_N hk.1, f2 k (by simp [hk.2])]
      obtain ⟨r', M2, e2, er2, v2, g2, g2', g2'', f2⟩ := hm
      subst er er2
      have F : ∀ k, k < 1 ∨ 30 ≤ k → k ≠ 94 → k ≠ 157 → k ≠ 158 → M2 k = M k := fun k a b c e => by rw [f2 k (by simp; omega), f1 k a b]
      have G : ∀ j, j ≠ 5 → j ≠ 4 → M2 157 j = M 157 j := fun j a b => by rw [g2'' j a b, f1 157 (by omega) (by omega)]
      have w2 : rW true 1 (M 159) Lk M2 := rW_fr w1 fun k _ _ _ => f2 k (by simp; omega)
      obtain ⟨rn, rf, -, -, -, ra4, ra5, -⟩ := hR
      refine ⟨1, M1, M2, e1, e2, ⟨Lk, Lk, ?_, ⟨?_, Or.inr g2, fun _ => ?_⟩, ?_, ?_, ?_, ?_⟩, ⟨f1 _ (by omega) (by omega), f1 _ (by omega) (by omega)⟩, F _ (by omega) (by omega) (by omega) (by omega), F _ (by omega) (by omega) (by omega) (by omega)⟩
      · have : iNow Lk 1 159 M2 := by
          unfold iNow
          rw [F 159 (by omega) (by omega) (by omega) (by omega)]
          exact ⟨q1, q2, w2, q4, q5⟩
        refine iNow_V this fun k hk => ?_
        rw [v2, F 159 (by omega) (by omega) (by omega) (by omega)]
        simp only
        rw [if_pos hk]
      · rw [F 0 (by omega) (by omega) (by omega) (by omega), hK.1, h1, g2]
      · exact iNow_ag (hK.2.2 h1) (F 159 (by omega) (by omega) (by omega) (by omega)) fun k _ _ _ => F k (by omega) (by omega) (by omega) (by omega)
      · exact iStat_ag hS fun k _ => by rw [F k (by omega) (by omega) (by omega) (by omega)]
      · exact iRing_0 (f := rf) (by rw [f2 94 (by simp)]; exact g1) g2' (by rw [f2 94 (by simp), g1']; exact ra4) ra5
      · exact iTape_ag hT (F 127 (by omega) (by omega) (by omega) (by omega)) (G 16 (by omega) (by omega)) (F 128 (by omega) (by omega) (by omega) (by omega)) (F 165 (by omega) (by omega) (by omega) (by omega))
      · exact iFault_ag hF (F 132 (by omega) (by omega) (by omega) (by omega)) (G 23 (by omega) (by omega)) (G 25 (by omega) (by omega))
/-! how many bits -/
theorem iushr_nat {x k : Nat} (hx : x < 2147483648) (hk : ((Int32.ofInt (k : Int)).toUInt32 &&& Int32.toUInt32 31).toNat % 32 = k) : iushr x k = ((x >>> k : Nat) : Int) := by
  have e : ((Int32.ofInt (x : Int)).toUInt32 >>> ((Int32.ofInt (k : Int)).toUInt32 &&& Int32.toUInt32 31)).toInt32.toBitVec.toNat = x >>> k := by
    show ((Int32.ofInt (x : Int)).toUInt32 >>> ((Int32.ofInt (k : Int)).toUInt32 &&& Int32.toUInt32 31)).toNat = _
    rw [UInt32.toNat_shiftRight, hk]
    have : (Int32.ofInt (x : Int)).toUInt32.toNat = x := by
      show (Int32.ofInt (x : Int)).toBitVec.toNat = x
      rw [i32_bv, BitVec.toNat_ofNat, Nat.mod_eq_of_lt (by omega)]
    rw [this]
  have l : x >>> k ≤ x := by rw [Nat.shiftRight_eq_div_pow]; exact Nat.div_le_self _ _
  rw [iushr_def, i32_tn _ (by omega), e]
def pc (x : Nat) : Nat → Nat
  | 0 => 0
  | k + 1 => pc x k + (if x.testBit k then 1 else 0)
theorem pc_le (x : Nat) : ∀ k, pc x k ≤ k
  | 0 => Nat.le_refl _
  | k + 1 => by have := pc_le x k; simp only [pc]; split <;> omega
def bc1 (x : Nat) : Nat := x - (x >>> 1 &&& 1431655765)
def bc2 (x : Nat) : Nat := (bc1 x &&& 858993459) + (bc1 x >>> 2 &&& 858993459)
def bc3 (x : Nat) : Nat := (bc2 x + bc2 x >>> 4) &&& 252645135
def bc4 (x : Nat) : Nat := bc3 x + bc3 x >>> 8
def bc5 (x : Nat) : Nat := bc4 x + bc4 x >>> 16
theorem and_split {h l m k : Nat} (hl : l < 256) (hk : k < 256) : (256 * h + l) &&& (256 * m + k) = 256 * (h &&& m) + (l &&& k) := by
  apply Nat.eq_of_testBit_eq
  intro j
  have hlk : l &&& k < 2 ^ 8 := Nat.lt_of_le_of_lt Nat.and_le_left hl
  rw [Nat.testBit_and, show (256 : Nat) = 2 ^ 8 from rfl, Nat.testBit_two_pow_mul_add _ (i := 8) (show l < 2 ^ 8 from hl), Nat.testBit_two_pow_mul_add _ (i := 8) (show k < 2 ^ 8 from hk), Nat.testBit_two_pow_mul_add _ (i := 8) hlk]
  split
  · rw [Nat.testBit_and]
  · rw [Nat.testBit_and]
def bu (b : Nat) : Nat := b - (b / 2 &&& 85)
def bv (b : Nat) : Nat := (bu b &&& 51) + (bu b / 4 &&& 51)
def bt (b : Nat) : Nat := (bv b + bv b / 16) &&& 15
theorem bby1 : ∀ b, b < 256 → (b / 2 &&& 85 ≤ b ∧ b / 2 &&& 5592405 = b / 2 &&& 85) ∧ (bu b < 256 ∧ bu b &&& 3355443 = bu b &&& 51 ∧ bu b / 4 &&& 3355443 = bu b / 4 &&& 51) ∧ (bv b ≤ 68 ∧ bv b % 16 ≤ 4 ∧ (bv b + bv b / 16) &&& 986895 = bt b ∧ bt b ≤ 8) := by decide +kernel
theorem bby2 : ∀ p, p < 2 → ∀ q, q < 128 → (128 * p + q) &&& 85 = q &&& 85 := by decide +kernel
theorem bby3 : ∀ p, p < 4 → ∀ q, q < 64 → (64 * p + q) &&& 51 = q &&& 51 := by decide +kernel
theorem bby4 : ∀ b, b < 256 → bt b = pc b 8 := by decide +kernel
theorem bby5 : ∀ s, s < 17 → s &&& 63 = s := by decide +kernel
theorem bc1_s {h l : Nat} (hh : h < 256) (hl : l < 256) : bc1 (256 * h + l) = 256 * bu h + bu l := by
  obtain ⟨⟨a1, a2⟩, -⟩ := bby1 h hh
  obtain ⟨⟨b1, b2⟩, -⟩ := bby1 l hl
  have e : (256 * h + l) >>> 1 = 256 * (h / 2) + (128 * (h % 2) + l / 2) := by rw [Nat.shiftRight_eq_div_pow]; omega
  have m := bby2 (h % 2) (Nat.mod_lt _ (by omega)) (l / 2) (by omega)
  unfold bc1
  rw [e, show (1431655765 : Nat) = 256 * 5592405 + 85 from rfl, and_split (by omega) (by omega), m, a2]
  unfold bu
  omega
theorem bc2_s {h l : Nat} (hh : h < 256) (hl : l < 256) : bc2 (256 * h + l) = 256 * bv h + bv l := by
  obtain ⟨-, ⟨a1, a2, a3⟩, -⟩ := bby1 h hh
  obtain ⟨-, ⟨b1, b2, b3⟩, -⟩ := bby1 l hl
  have e : (256 * bu h + bu l) >>> 2 = 256 * (bu h / 4) + (64 * (bu h % 4) + bu l / 4) := by rw [Nat.shiftRight_eq_div_pow]; omega
  have m := bby3 (bu h % 4) (Nat.mod_lt _ (by omega)) (bu l / 4) (by omega)
  unfold bc2
  rw [bc1_s hh hl, e, show (858993459 : Nat) = 256 * 3355443 + 51 from rfl, and_split b1 (by omega), and_split (by omega) (by omega), m, a2, a3]
  unfold bv
  omega
theorem and15 (x : Nat) : x &&& 15 = x % 16 := Nat.and_two_pow_sub_one_eq_mod x 4
theorem bc3_s {h l : Nat} (hh : h < 256) (hl : l < 256) : bc3 (256 * h + l) = 256 * bt h + bt l := by
  obtain ⟨-, -, a1, a0, a2, a3⟩ := bby1 h hh
  obtain ⟨-, -, b1, b0, b2, b3⟩ := bby1 l hl
  have e : (256 * bv h + bv l) + (256 * bv h + bv l) >>> 4 = 256 * (bv h + bv h / 16) + (16 * (bv h % 16) + (bv l + bv l / 16)) := by rw [Nat.shiftRight_eq_div_pow]; omega
  unfold bc3
  rw [bc2_s hh hl, e, show (252645135 : Nat) = 256 * 986895 + 15 from rfl, and_split (by omega) (by omega), a2]
  unfold bt
  simp only [and15]
  omega
theorem bc5_s {h l : Nat} (hh : h < 256) (hl : l < 256) : bc5 (256 * h + l) &&& 63 = bt h + bt l := by
  obtain ⟨-, -, a1, a0, a2, a3⟩ := bby1 h hh
  obtain ⟨-, -, b1, b0, b2, b3⟩ := bby1 l hl
  have e4 : bc4 (256 * h + l) = 256 * bt h + (bt h + bt l) := by
    unfold bc4; rw [bc3_s hh hl, Nat.shiftRight_eq_div_pow]; omega
  have e5 : bc5 (256 * h + l) = 256 * bt h + (bt h + bt l) := by
    unfold bc5; rw [e4, Nat.shiftRight_eq_div_pow]; omega
  rw [e5, show (63 : Nat) = 256 * 0 + 63 from rfl, and_split (by omega) (by omega), Nat.and_zero, bby5 _ (by omega)]
  omega
theorem pc_lo (h l : Nat) (hl : l < 256) : ∀ k, k ≤ 8 → pc (256 * h + l) k = pc l k
  | 0, _ => rfl
  | k + 1, hk => by
    simp only [pc]
    rw [pc_lo h l hl k (by omega), show (256 : Nat) = 2 ^ 8 from rfl, Nat.testBit_two_pow_mul_add _ (i := 8) (show l < 2 ^ 8 from hl), if_pos (show k < 8 by omega)]
theorem pc_hi (h l : Nat) (hl : l < 256) : ∀ k, pc (256 * h + l) (8 + k) = pc l 8 + pc h k
  | 0 => by rw [Nat.add_zero, pc_lo h l hl 8 (by omega)]; rfl
  | k + 1 => by
    show pc (256 * h + l) (8 + k) + (if (256 * h + l).testBit (8 + k) = true then 1 else 0) = pc l 8 + (pc h k + (if h.testBit k = true then 1 else 0))
    rw [pc_hi h l hl k, show (256 : Nat) = 2 ^ 8 from rfl, Nat.testBit_two_pow_mul_add _ (i := 8) (show l < 2 ^ 8 from hl), if_neg (show ¬ 8 + k < 8 by omega), show 8 + k - 8 = k by omega]
    omega
theorem bc_all (x : Nat) (hx : x < 65536) : bc5 x &&& 63 = pc x 16 := by
  have h1 : x / 256 < 256 := by omega
  have h2 : x % 256 < 256 := Nat.mod_lt _ (by omega)
  have e := bc5_s h1 h2
  have p := pc_hi (x / 256) (x % 256) h2 8
  rw [show 256 * (x / 256) + x % 256 = x by omega] at e p
  rw [e, bby4 _ h1, bby4 _ h2, show (16 : Nat) = 8 + 8 from rfl, p]
  omega
theorem ji_bitCount_eq (d x : Nat) (M : aM) (hx : x < 65536) : w_ji_bitCount (d + 1) x M = some ([aI ((pc x 16 : Nat) : Int)], M) := by
  have h1 : x >>> 1 &&& 1431655765 ≤ x := Nat.le_trans Nat.and_le_left (by rw [Nat.shiftRight_eq_div_pow]; exact Nat.div_le_self _ _)
  have s1 : iushr (x : Int) 1 = ((x >>> 1 : Nat) : Int) := iushr_nat (k := 1) (by omega) (by decide)
  have l1 : x >>> 1 ≤ x := by rw [Nat.shiftRight_eq_div_pow]; exact Nat.div_le_self _ _
  have a1 : iand ((x >>> 1 : Nat) : Int) 1431655765 = ((x >>> 1 &&& 1431655765 : Nat) : Int) := iand_nat (y := 1431655765) (by omega) (by decide)
  have e1 : w32 ((x : Int) - ((x >>> 1 &&& 1431655765 : Nat) : Int)) = ((bc1 x : Nat) : Int) := by rw [w32_i (by omega) (by omega)]; unfold bc1; omega
  have b1 : bc1 x < 65536 := by unfold bc1; omega
  have s2 : iushr ((bc1 x : Nat) : Int) 2 = ((bc1 x >>> 2 : Nat) : Int) := iushr_nat (k := 2) (by omega) (by decide)
  have l2 : bc1 x >>> 2 ≤ bc1 x := by rw [Nat.shiftRight_eq_div_pow]; exact Nat.div_le_self _ _
  have a2 : iand ((bc1 x : Nat) : Int) 858993459 = ((bc1 x &&& 858993459 : Nat) : Int) := iand_nat (y := 858993459) (by omega) (by decide)
  have a3 : iand ((bc1 x >>> 2 : Nat) : Int) 858993459 = ((bc1 x >>> 2 &&& 858993459 : Nat) : Int) := iand_nat (y := 858993459) (by omega) (by decide)
  have m2 : bc1 x &&& 858993459 ≤ bc1 x := Nat.and_le_left
  have m3 : bc1 x >>> 2 &&& 858993459 ≤ bc1 x >>> 2 := Nat.and_le_left
  have e2 : w32 (((bc1 x &&& 858993459 : Nat) : Int) + ((bc1 x >>> 2 &&& 858993459 : Nat) : Int)) = ((bc2 x : Nat) : Int) := by rw [w32_i (by omega) (by omega)]; unfold bc2; omega
  have b2 : bc2 x < 131072 := by unfold bc2; omega
  have s3 : iushr ((bc2 x : Nat) : Int) 4 = ((bc2 x >>> 4 : Nat) : Int) := iushr_nat (k := 4) (by omega) (by decide)
  have l3 : bc2 x >>> 4 ≤ bc2 x := by rw [Nat.shiftRight_eq_div_pow]; exact Nat.div_le_self _ _
  have e3 : w32 (((bc2 x : Nat) : Int) + ((bc2 x >>> 4 : Nat) : Int)) = ((bc2 x + bc2 x >>> 4 : Nat) : Int) := by rw [w32_i (by omega) (by omega)]; omega
  have a4 : iand ((bc2 x + bc2 x >>> 4 : Nat) : Int) 252645135 = ((bc3 x : Nat) : Int) := iand_nat (y := 252645135) (by omega) (by decide)
  have b3 : bc3 x ≤ bc2 x + bc2 x >>> 4 := Nat.and_le_left
  have s4 : iushr ((bc3 x : Nat) : Int) 8 = ((bc3 x >>> 8 : Nat) : Int) := iushr_nat (k := 8) (by omega) (by decide)
  have l4 : bc3 x >>> 8 ≤ bc3 x := by rw [Nat.shiftRight_eq_div_pow]; exact Nat.div_le_self _ _
  have e4 : w32 (((bc3 x : Nat) : Int) + ((bc3 x >>> 8 : Nat) : Int)) = ((bc4 x : Nat) : Int) := by rw [w32_i (by omega) (by omega)]; unfold bc4; omega
  have b4 : bc4 x ≤ 2 * bc3 x := by unfold bc4; omega
  have s5 : iushr ((bc4 x : Nat) : Int) 16 = ((bc4 x >>> 16 : Nat) : Int) := iushr_nat (k := 16) (by omega) (by decide)
  have l5 : bc4 x >>> 16 ≤ bc4 x := by rw [Nat.shiftRight_eq_div_pow]; exact Nat.div_le_self _ _
  have e5 : w32 (((bc4 x : Nat) : Int) + ((bc4 x >>> 16 : Nat) : Int)) = ((bc5 x : Nat) : Int) := by rw [w32_i (by omega) (by omega)]; unfold bc5; omega
  have b5 : bc5 x ≤ 2 * bc4 x := by unfold bc5; omega
  have a6 : iand ((bc5 x : Nat) : Int) 63 = ((bc5 x &&& 63 : Nat) : Int) := iand_nat (y := 63) (by omega) (by decide)
  have fin := bc_all x hx
  rw [u_ji_bitCount]
  simp only [s1, a1, e1, s2, a2, a3, e2, s3, e3, a4, s4, e4, s5, e5, a6, fin]
theorem m_count_eq (d x : Nat) (M : aM) (hx : x < 65536) : w_m_count (d + 1) x M = some ([aI ((pc x 16 : Nat) : Int)], M) := by
  have lp : ∀ (f i : Nat), i + f = 16 → w_m_count_4 d x ((pc x i : Nat) : Int) i M = some ([aI ((pc x 16 : Nat) : Int)], M) := by
    intro f
    induction f with
    | zero => intro i hi; rw [u_m_count_4, if_neg (by omega), show i = 16 by omega]
    | succ f ih =>
      intro i hi
      have hp := pc_le x i
      have e := bit01_nat (x := x) (i := i) (by omega) (by omega)
      rw [u_m_count_4, if_pos (by omega), e]
      have ih := ih (i + 1) (by omega)
      cases hb : x.testBit i with
      | true =>
        have e : pc x (i + 1) = pc x i + 1 := by simp only [pc]; rw [hb]; rfl
        rw [e] at ih
        simp (disch := omega) only [w32_i, if_true]
        exact ih
      | false =>
        have e : pc x (i + 1) = pc x i := by simp only [pc]; rw [hb]; rfl
        rw [e] at ih
        simp (disch := omega) only [w32_i, Bool.false_eq_true, if_false]
        rw [Int.add_zero]
        exact ih
  rw [u_m_count]
  exact lp 16 0 (by omega)
