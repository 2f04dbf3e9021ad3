/-! ways: the call -/
def mk (V : aW) : Nat → Nat → Nat
  | 0, _ => 0
  | k + 1, p => if V (235 + 2 * k) = p then mk V k p ||| 2 ^ (V (236 + 2 * k)).toNat else mk V k p
theorem mk_lt (V : aW) (c m : Nat) (hc : c ≤ 10) (h : ∀ i, i < m → 0 ≤ V (236 + 2 * i) ∧ V (236 + 2 * i) < c) : ∀ k, k ≤ m → ∀ p, mk V k p < 2 ^ c
  | 0, _, p => by simp only [mk]; exact Nat.two_pow_pos c
  | k + 1, hk, p => by
    have ih := mk_lt V c m hc h k (by omega) p
    have hv := h k (by omega)
    simp only [mk]
    split
    · exact Nat.or_lt_two_pow ih (Nat.pow_lt_pow_right (by omega) (by omega))
    · exact ih
theorem th_ways_18_lp (d : Nat) (V : aW) (n c : Nat) (hn : n ≤ 20) (hc : c ≤ 10) (hv : ∀ i, i < n → (0 ≤ V (235 + 2 * i) ∧ V (235 + 2 * i) ≤ 6) ∧ (0 ≤ V (236 + 2 * i) ∧ V (236 + 2 * i) < c)) (Q : List aV → aM → Prop) : ∀ (f i : Nat) (M : aM), i + f = n → M 26 2 = n → (∀ i, i < n → M 27 (4 * i) = V (235 + 2 * i) ∧ M 27 (4 * i + 1) = V (236 + 2 * i)) → (∀ a, a < 7 → M 153 a = ((mk V i a : Nat) : Int)) →
    (∀ M', fr [153] M M' → (∀ a, a < 7 → M' 153 a = ((mk V n a : Nat) : Int)) → wp (w_th_waysToHaveEaten_18 (d + 2) 26 n M') Q) → wp (w_th_waysToHaveEaten_18 (d + 2) 26 i M) Q
  | 0, i, M, h, r2, rc, hm, hQ => by
    rw [show i = n by omega] at hm ⊢
    exact hQ M (fr_refl _ _) hm
  | f + 1, i, M, h, r2, rc, hm, hQ => by
    obtain ⟨c0, c1⟩ := rc i (by omega)
    obtain ⟨v0, v1⟩ := hv i (by omega)
    have q0 : w_rows_cell (d + 2) 26 (i : Int) 0 M = some ([aI (V (235 + 2 * i))], M) := (rows_cell_eq d 26 i 0 M (by omega) (by decide) (by rw [al27]; omega) (by omega)).trans (by rw [← c0]; rfl)
    have q1 : w_rows_cell (d + 2) 26 (i : Int) 1 M = some ([aI (V (236 + 2 * i))], M) := (rows_cell_eq d 26 i 1 M (by omega) (by decide) (by rw [al27]; omega) (by omega)).trans (by rw [← c1])
    have hlt := mk_lt V c n hc (fun i hi => (hv i hi).2) i (by omega)
    have hp : 2 ^ c ≤ 2 ^ 10 := Nat.pow_le_pow_right (by omega) hc
    rw [l_th_waysToHaveEaten_18, r2]
    refine wp_pos (by omega) ?_
    refine wp_eI q0 ?_
    rw [al153]
    refine wp_neg (by omega) ?_
    refine wp_pos (by omega) ?_
    refine wp_inb ⟨by omega, by omega⟩ ?_
    refine wp_eI q1 ?_
    refine wp_inb ⟨by omega, by omega⟩ ?_
    obtain ⟨a, ha⟩ : ∃ a : Nat, V (235 + 2 * i) = a := ⟨(V (235 + 2 * i)).toNat, by omega⟩
    obtain ⟨e, he⟩ : ∃ e : Nat, V (236 + 2 * i) = e := ⟨(V (236 + 2 * i)).toNat, by omega⟩
    have hla := hlt a
    rw [ha, he, tn_n, hm a (by omega), ior_bit (by omega) (by omega)]
    refine wp_up fun M1 f1 g1 => ?_
    refine wp_I ?_
    (try simp (disch := omega) only [w32_i, tn_l, tn_n, tn_r, tn_s, tn_1, Nat.add_sub_cancel, Int.reduceToNat, Int.toNat_zero, Int.toNat_one, al3, al4, al5, al6, al8, al9, al11, al13, al15, al17, al19, al21, al23, al25, al27, al29, al30, al31, al95, al96, al128, al129, al130, al131, al134, al135, al137, al139, al140, al142, al143, al144, al145, al147, al148, al149, al151, al152, al153, al154, al155, al156, al158, al159, al160, al161, al162, al163, al164, al165, al166, al167, al168, al169, al170, al171, al172, al173, al174, al175, al176])
    refine th_ways_18_lp d V n c hn hc hv Q f (i + 1) M1 (by omega) (by rw [f1 26 (by simp), r2]) (fun j hj => by rw [f1 27 (by simp)]; exact rc j hj) (fun b hb => ?_) (fun M' f' => hQ M' (fr_tt f1 f'))
    rw [g1]
    simp only [mk]
    rw [he, tn_n]
    by_cases hba : b = a
    · subst hba; rw [if_pos rfl, if_pos ha]
    · rw [if_neg hba, if_neg (by omega), hm b hb]
/-- how many of the first k are all of it -/
def cq (T : Nat → Nat) (all : Nat) : Nat → Nat
  | 0 => 0
  | k + 1 => cq T all k + (if T k = all then 1 else 0)
theorem cq_le (T : Nat → Nat) (all : Nat) : ∀ k, cq T all k ≤ k
  | 0 => Nat.le_refl _
  | k + 1 => by have := cq_le T all k; simp only [cq]; split <;> omega
theorem th_sure_lp (d : Nat) (T : Nat → Nat) (all : Nat) (M : aM) (h0 : 0 < all) (hT : ∀ q, q < 70 → M 154 q = ((T q : Nat) : Int)) : ∀ (f i : Nat), i + f = 70 → w_th_sureCouples_4 d all ((cq T all i : Nat) : Int) i M = some ([aI ((cq T all 70 : Nat) : Int)], M)
  | 0, i, hi => by rw [u_th_sureCouples_4, al154, if_neg (by omega), show i = 70 by omega]
  | f + 1, i, hi => by
    have ih := th_sure_lp d T all M h0 hT f (i + 1) (by omega)
    have hc := cq_le T all i
    have e5 : w32 ((i : Int) + 1) = ((i + 1 : Nat) : Int) := by rw [w32_i (by omega) (by omega)]; rfl
    rw [u_th_sureCouples_4, al154, if_pos (by omega), if_pos (by omega), inb_s (by omega) (by omega), tn_n, hT i (by omega)]
    have e6 : w32 (((cq T all i : Nat) : Int) + 1) = ((cq T all i + 1 : Nat) : Int) := by rw [w32_i (by omega) (by omega)]; rfl
    dsimp only
    rw [e5, e6]
    have es : cq T all (i + 1) = cq T all i + (if T i = all then 1 else 0) := rfl
    rw [es] at ih
    by_cases h : T i = all
    · rw [if_pos h] at ih
      rw [if_pos (by omega)]; exact ih
    · rw [if_neg h, Nat.add_zero] at ih
      rw [if_neg (by omega)]; exact ih
/-! in the reference -/
theorem sumI_ext {T : Nat → Nat} {n : Nat} (h : ∀ j, n ≤ j → T j = 0) : ∀ g i r, i + g = n → sumI T (g + r) i = sumI T g i
  | 0, i, r, hi => by
    rw [Nat.zero_add]
    have : ∀ r i, n ≤ i → sumI T r i = 0 := by
      intro r
      induction r with
      | zero => intro i _; rfl
      | succ r ih => intro i hi; simp only [sumI]; rw [h i hi, ih (i + 1) (by omega)]
    exact this r i (by omega)
  | g + 1, i, r, hi => by
    rw [show g + 1 + r = (g + r) + 1 by omega]
    simp only [sumI]
    rw [sumI_ext h g (i + 1) r (by omega)]
theorem m_waysFrom_lp (C : Nat → Nat) (n : Nat) (hC : ∀ a, C a < 2 ^ n) (h10 : n ≤ 10) (M : aM) (hc : ∀ a, a < 7 → M 174 a = ((C a : Nat) : Int)) (hn : M 158 41 = n) : ∀ (f d p h : Nat), p + f = 7 → h < 1024 → w_m_waysFrom (d + f + 1) p h M = some ([aI ((wF C f p h : Nat) : Int)], M) := by
  have hp10 : 2 ^ n ≤ 2 ^ 10 := Nat.pow_le_pow_right (by omega) h10
  have hC' : ∀ a, C a < 1024 := fun a => Nat.lt_of_lt_of_le (hC a) hp10
  intro f
  induction f with
  | zero => intro d p h hp hh; rw [show d + 0 + 1 = d + 1 from rfl, u_m_waysFrom, if_pos (by omega)]; rfl
  | succ f ih =>
    intro d p h hp hh
    have ew : w32 ((p : Int) + 1) = ((p + 1 : Nat) : Int) := by rw [w32_i (by omega) (by omega)]; rfl
    rw [show d + (f + 1) + 1 = (d + f + 1) + 1 from rfl, u_m_waysFrom, if_neg (by omega), al174, inb_s (by omega) (by omega), tn_n, hc p (by omega), ew]
    by_cases h0 : C p = 0
    · rw [if_pos (by omega), ih d (p + 1) h (by omega) hh, bndI_s]
      simp only [wF]; rw [if_pos h0]
    · rw [if_neg (by omega)]
      have eq1 : wF C (f + 1) p h = sumI (fun i => if av C p h i = true then wF C f (p + 1) (h ||| 2 ^ i) else 0) 10 0 := by simp only [wF]; rw [if_neg h0]
      have hw := wF_le C (f + 1) p h
      have hpow : 10 ^ (f + 1) ≤ 10 ^ 7 := Nat.pow_le_pow_right (by omega) (by omega)
      have hz : ∀ j, n ≤ j → (fun i => if av C p h i = true then wF C f (p + 1) (h ||| 2 ^ i) else 0) j = 0 := by
        intro j hj
        have : av C p h j = false := by unfold av; rw [tb_lt (hC p) hj]; rfl
        show (if av C p h j = true then _ else 0) = 0
        rw [this, if_neg (by decide)]
      have ext := sumI_ext hz n 0 (10 - n) (by omega)
      rw [show n + (10 - n) = 10 by omega] at ext
      rw [eq1, ext] at hw ⊢
      have loop : ∀ (g i acc : Nat), i + g = n → acc + sumI (fun i => if av C p h i = true then wF C f (p + 1) (h ||| 2 ^ i) else 0) g i ≤ 2000000000 → w_m_waysFrom_31 (d + f + 1) p h acc i M = some ([aI ((acc + sumI (fun i => if av C p h i = true then wF C f (p + 1) (h ||| 2 ^ i) else 0) g i : Nat) : Int)], M) := by
        intro g
        induction g with
        | zero => intro i acc hi ha; rw [u_m_waysFrom_31, al158, inb_s (by omega) (by omega), hn, if_neg (by omega)]; rfl
        | succ g ihg =>
          intro i acc hi ha
          simp only [sumI] at ha ⊢
          have ei : w32 ((i : Int) + 1) = ((i + 1 : Nat) : Int) := by rw [w32_i (by omega) (by omega)]; rfl
          have hbit := av_bit (C := C) (p := p) (h := h) (i := i) (hC' p) hh (by omega)
          have hCp := hC' p
          rw [u_m_waysFrom_31, al158, inb_s (by omega) (by omega), hn, if_pos (by omega), al174, inb_s (by omega) (by omega), tn_n, hc p (by omega)]
          by_cases hav : av C p h i = true
          · rw [if_pos (by rw [hbit]; exact hav)]
            simp only [if_pos hav] at ha ⊢
            have hh2 : h ||| 2 ^ i < 1024 := Nat.or_lt_two_pow (n := 10) hh (Nat.pow_lt_pow_right (a := 2) (by omega) (by omega))
            rw [ior_bit (by omega) (by omega), ew, ih d (p + 1) _ (by omega) hh2, bndI_s]
            have ea : w32 ((acc : Int) + ((wF C f (p + 1) (h ||| 2 ^ i) : Nat) : Int)) = ((acc + wF C f (p + 1) (h ||| 2 ^ i) : Nat) : Int) := by rw [w32_i (by omega) (by omega)]; omega
            rw [ei, ea, ihg (i + 1) _ (by omega) (by omega), Nat.add_assoc]
          · rw [if_neg (by rw [hbit]; exact hav)]
            simp only [if_neg hav] at ha ⊢
            rw [ei, ihg (i + 1) acc (by omega) (by omega), Nat.zero_add]
      have := loop n 0 0 (by omega) (by omega)
      rw [Nat.zero_add] at this
      exact this
theorem m_laysAte_23_lp (d : Nat) (V : aW) (n c : Nat) (hn : n ≤ 20) (hc : c ≤ 10) (h51 : V 51 = n) (hv : ∀ i, i < n → (0 ≤ V (235 + 2 * i) ∧ V (235 + 2 * i) ≤ 6) ∧ (0 ≤ V (236 + 2 * i) ∧ V (236 + 2 * i) < c)) : ∀ (f i : Nat) (M : aM), i + f = n → M 158 = V → (∀ a, a < 7 → M 174 a = ((mk V i a : Nat) : Int)) →
    wp (w_m_laysAte_23 d i M) fun r M' => r = [] ∧ fr [174] M M' ∧ ∀ a, a < 7 → M' 174 a = ((mk V n a : Nat) : Int)
  | 0, i, M, h, hV, hm => by
    rw [l_m_laysAte_23]
    (try simp (disch := omega) only [w32_i, tn_l, tn_n, tn_r, tn_s, tn_1, Nat.add_sub_cancel, Int.reduceToNat, Int.toNat_zero, Int.toNat_one, al3, al4, al5, al6, al8, al9, al11, al13, al15, al17, al19, al21, al23, al25, al27, al29, al30, al31, al95, al96, al128, al129, al130, al131, al134, al135, al137, al139, al140, al142, al143, al144, al145, al147, al148, al149, al151, al152, al153, al154, al155, al156, al158, al159, al160, al161, al162, al163, al164, al165, al166, al167, al168, al169, al170, al171, al172, al173, al174, al175, al176])
    refine wp_inb ⟨by omega, by omega⟩ ?_
    refine wp_neg (by rw [hV]; omega) ?_
    exact wp_ret ⟨rfl, fr_refl _ _, by rw [show n = i by omega]; exact hm⟩
  | f + 1, i, M, h, hV, hm => by
    obtain ⟨v0, v1⟩ := hv i (by omega)
    have hlt := mk_lt V c n hc (fun i hi => (hv i hi).2) i (by omega)
    have hp : 2 ^ c ≤ 2 ^ 10 := Nat.pow_le_pow_right (by omega) hc
    have e1 : w32 (235 + w32 (2 * (i : Int))) = ((235 + 2 * i : Nat) : Int) := by simp (disch := omega) only [w32_i]; omega
    have e2 : w32 (((235 + 2 * i : Nat) : Int) + 1) = ((236 + 2 * i : Nat) : Int) := by rw [w32_i (by omega) (by omega)]; omega
    rw [l_m_laysAte_23, e1, e2, al158, al174, hV, tn_n, tn_n]
    refine wp_inb ⟨by omega, by omega⟩ ?_
    refine wp_pos (by omega) ?_
    refine wp_inb ⟨by omega, by omega⟩ ?_
    refine wp_inb ⟨by omega, by omega⟩ ?_
    refine wp_inb ⟨by omega, by omega⟩ ?_
    refine wp_inb ⟨by omega, by omega⟩ ?_
    obtain ⟨a, ha⟩ : ∃ a : Nat, V (235 + 2 * i) = a := ⟨(V (235 + 2 * i)).toNat, by omega⟩
    obtain ⟨e, he⟩ : ∃ e : Nat, V (236 + 2 * i) = e := ⟨(V (236 + 2 * i)).toNat, by omega⟩
    have hla := hlt a
    rw [ha, he, tn_n, hm a (by omega), ior_bit (by omega) (by omega)]
    refine wp_up fun M1 f1 g1 => ?_
    refine wp_I ?_
    (try simp (disch := omega) only [w32_i, tn_l, tn_n, tn_r, tn_s, tn_1, Nat.add_sub_cancel, Int.reduceToNat, Int.toNat_zero, Int.toNat_one, al3, al4, al5, al6, al8, al9, al11, al13, al15, al17, al19, al21, al23, al25, al27, al29, al30, al31, al95, al96, al128, al129, al130, al131, al134, al135, al137, al139, al140, al142, al143, al144, al145, al147, al148, al149, al151, al152, al153, al154, al155, al156, al158, al159, al160, al161, al162, al163, al164, al165, al166, al167, al168, al169, al170, al171, al172, al173, al174, al175, al176])
    refine wp_mono (m_laysAte_23_lp d V n c hn hc h51 hv f (i + 1) M1 (by omega) (by rw [f1 158 (by simp), hV]) (fun b hb => ?_)) (fun r M' q => ⟨q.1, fr_tt f1 q.2.1, q.2.2⟩)
    rw [g1]
    simp only [mk]
    rw [he, tn_n]
    by_cases hba : b = a
    · subst hba; rw [if_pos rfl, if_pos ha]
    · rw [if_neg hba, if_neg (by omega), hm b hb]
theorem m_laysAte_2_lp (d : Nat) (Q : List aV → aM → Prop) : ∀ (f i : Nat) (M : aM), i + f = 7 → (∀ a, a < i → M 174 a = 0) → (∀ M', fr [174] M M' → (∀ a, a < 7 → M' 174 a = 0) → wp (w_m_laysAte_23 d 0 M') Q) → wp (w_m_laysAte_2 d i M) Q
  | 0, i, M, h, hm, hQ => by
    rw [l_m_laysAte_2]
    refine wp_neg (by omega) ?_
    exact hQ M (fr_refl _ _) (by rw [show 7 = i by omega]; exact hm)
  | f + 1, i, M, h, hm, hQ => by
    rw [l_m_laysAte_2]
    (try simp (disch := omega) only [w32_i, tn_l, tn_n, tn_r, tn_s, tn_1, Nat.add_sub_cancel, Int.reduceToNat, Int.toNat_zero, Int.toNat_one, al3, al4, al5, al6, al8, al9, al11, al13, al15, al17, al19, al21, al23, al25, al27, al29, al30, al31, al95, al96, al128, al129, al130, al131, al134, al135, al137, al139, al140, al142, al143, al144, al145, al147, al148, al149, al151, al152, al153, al154, al155, al156, al158, al159, al160, al161, al162, al163, al164, al165, al166, al167, al168, al169, al170, al171, al172, al173, al174, al175, al176])
    refine wp_pos (by omega) ?_
    refine wp_inb ⟨by omega, by omega⟩ ?_
    refine wp_up fun M1 f1 g1 => ?_
    refine wp_I ?_
    refine m_laysAte_2_lp d Q f (i + 1) M1 (by omega) (fun a ha => ?_) (fun M' f' => hQ M' (fr_tt f1 f'))
    rw [g1]
    split
    · rfl
    · exact hm a (by omega)
