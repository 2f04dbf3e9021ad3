/-! ways: the counting -/
def sumI (T : Nat → Nat) : Nat → Nat → Nat
  | 0, _ => 0
  | g + 1, i => T i + sumI T g (i + 1)
def av (C : Nat → Nat) (p h i : Nat) : Bool := (C p).testBit i && !h.testBit i
def wF (C : Nat → Nat) : Nat → Nat → Nat → Nat
  | 0, _, _ => 1
  | f + 1, p, h => if C p = 0 then wF C f (p + 1) h else sumI (fun i => if av C p h i = true then wF C f (p + 1) (h ||| 2 ^ i) else 0) 10 0
def tF (C : Nat → Nat) : Nat → Nat → Nat → Nat → Nat
  | 0, _, _, _ => 0
  | f + 1, p, h, q => if C p = 0 then tF C f (p + 1) h q else sumI (fun i => if av C p h i = true then tF C f (p + 1) (h ||| 2 ^ i) q + (if q = 10 * p + i then wF C f (p + 1) (h ||| 2 ^ i) else 0) else 0) 10 0
theorem sumI_le {T : Nat → Nat} {b : Nat} (h : ∀ i, T i ≤ b) : ∀ g i, sumI T g i ≤ g * b
  | 0, _ => by simp [sumI]
  | g + 1, i => by
    have := sumI_le h g (i + 1)
    have := h i
    simp only [sumI]
    rw [Nat.succ_mul]; omega
theorem sumI_mono {T U : Nat → Nat} (h : ∀ i, T i ≤ U i) : ∀ g i, sumI T g i ≤ sumI U g i
  | 0, _ => Nat.le_refl _
  | g + 1, i => by
    have := sumI_mono h g (i + 1)
    have := h i
    simp only [sumI]; omega
theorem sumI_congr {T U : Nat → Nat} : ∀ g i, (∀ j, i ≤ j → j < i + g → T j = U j) → sumI T g i = sumI U g i
  | 0, _, _ => rfl
  | g + 1, i, h => by
    simp only [sumI]
    rw [h i (by omega) (by omega), sumI_congr g (i + 1) fun j a b => h j (by omega) (by omega)]
theorem sumI_one {T : Nat → Nat} {d : Nat} : ∀ g i, (∀ j, j ≠ d → T j = 0) → sumI T g i = if i ≤ d ∧ d < i + g then T d else 0
  | 0, i, _ => by simp only [sumI]; rw [if_neg (by omega)]
  | g + 1, i, h => by
    simp only [sumI]
    rw [sumI_one g (i + 1) h]
    by_cases e : i = d
    · subst e; rw [if_neg (by omega), if_pos (by omega)]; omega
    · rw [h i e]
      by_cases e2 : i + 1 ≤ d ∧ d < i + 1 + g
      · rw [if_pos e2, if_pos (by omega)]; omega
      · rw [if_neg e2, if_neg (by omega)]
theorem wF_le (C : Nat → Nat) : ∀ f p h, wF C f p h ≤ 10 ^ f
  | 0, _, _ => Nat.le_refl _
  | f + 1, p, h => by
    have ih := wF_le C f
    simp only [wF]
    rw [Nat.pow_succ]
    split
    · have := ih (p + 1) h; omega
    · have := sumI_le (T := fun i => if av C p h i = true then wF C f (p + 1) (h ||| 2 ^ i) else 0) (b := 10 ^ f) (fun i => by
        split
        · exact ih _ _
        · exact Nat.zero_le _) 10 0
      omega
theorem wF_C {C C' : Nat → Nat} : ∀ f p h, (∀ a, p ≤ a → C' a = C a) → wF C' f p h = wF C f p h
  | 0, _, _, _ => rfl
  | f + 1, p, h, hc => by
    have ih := fun h => wF_C f (p + 1) h fun a ha => hc a (by omega)
    have e : ∀ i, av C' p h i = av C p h i := fun i => by unfold av; rw [hc p (Nat.le_refl _)]
    simp only [wF, ih, e]
    rw [hc p (Nat.le_refl _)]
theorem tF_lo (C : Nat → Nat) (a d : Nat) (hd : d < 10) : ∀ f p h, a < p → tF C f p h (10 * a + d) = 0
  | 0, _, _, _ => rfl
  | f + 1, p, h, hp => by
    have ih := fun h => tF_lo C a d hd f (p + 1) h (by omega)
    simp only [tF, ih]
    split
    · rfl
    · rw [sumI_congr (U := fun _ => 0) 10 0 fun j _ hj => by
        split
        · rw [if_neg (by omega)]
        · rfl]
      rfl
/-- who eats which, counted through one couple -/
theorem tF_eq {C C' : Nat → Nat} {a d : Nat} (hd : d < 10) (hb : (C a).testBit d = true) (ha : C' a = 2 ^ d) (ho : ∀ b, b ≠ a → C' b = C b) : ∀ f p h, p ≤ a → a < p + f → tF C f p h (10 * a + d) = wF C' f p h
  | 0, p, h, h1, h2 => by omega
  | f + 1, p, h, h1, h2 => by
    simp only [tF, wF]
    by_cases hpa : p = a
    · subst hpa
      have hC : C p ≠ 0 := by intro e; rw [e] at hb; simp at hb
      have hC' : C' p ≠ 0 := by rw [ha]; exact Nat.ne_of_gt (Nat.two_pow_pos d)
      rw [if_neg hC, if_neg hC']
      refine sumI_congr 10 0 fun i _ hi => ?_
      rw [tF_lo C p d hd f (p + 1) _ (by omega)]
      unfold av
      rw [ha, Nat.testBit_two_pow]
      by_cases e : d = i
      · subst e
        rw [hb, if_pos rfl, wF_C f (p + 1) _ fun b hb' => ho b (by omega)]
        simp
      · rw [if_neg (show ¬ 10 * p + d = 10 * p + i by omega)]
        simp [e]
    · have ih := fun h => tF_eq hd hb ha ho f (p + 1) h (by omega) (by omega)
      have hav : ∀ i, av C' p h i = av C p h i := fun i => by unfold av; rw [ho p hpa]
      rw [ho p hpa]
      split
      · exact ih h
      · refine sumI_congr 10 0 fun i _ hi => ?_
        simp only [hav, ih]
        rw [if_neg (show ¬ 10 * a + d = 10 * p + i by omega)]
        rfl
theorem tF_no (C : Nat → Nat) (a d : Nat) (hd : d < 10) (hb : (C a).testBit d = false) : ∀ f p h, tF C f p h (10 * a + d) = 0
  | 0, _, _ => rfl
  | f + 1, p, h => by
    have ih := fun h => tF_no C a d hd hb f (p + 1) h
    simp only [tF, ih]
    split
    · rfl
    · rw [sumI_congr (U := fun _ => 0) 10 0 fun j _ hj => by
        split
        · next hav =>
          rw [if_neg]
          intro e
          have h1 : a = p := by omega
          have h2 : d = j := by omega
          subst h1 h2
          unfold av at hav
          rw [hb] at hav
          simp at hav
        · rfl]
      rfl
theorem tF_le (C : Nat → Nat) (q : Nat) : ∀ f p h, tF C f p h q ≤ 11 ^ f
  | 0, _, _ => by simp [tF]
  | f + 1, p, h => by
    have ih := tF_le C q f
    simp only [tF]
    rw [Nat.pow_succ]
    have h10 : 10 ^ f ≤ 11 ^ f := Nat.pow_le_pow_left (by omega) f
    split
    · have := ih (p + 1) h; omega
    · have hq : ∀ i, i ≠ q - 10 * p → (if av C p h i = true then tF C f (p + 1) (h ||| 2 ^ i) q + (if q = 10 * p + i then wF C f (p + 1) (h ||| 2 ^ i) else 0) else 0) ≤ 11 ^ f := by
        intro i hi
        split
        · rw [if_neg (by omega)]; have := ih (p + 1) (h ||| 2 ^ i); omega
        · exact Nat.zero_le _
      have key : ∀ g i, sumI (fun i => if av C p h i = true then tF C f (p + 1) (h ||| 2 ^ i) q + (if q = 10 * p + i then wF C f (p + 1) (h ||| 2 ^ i) else 0) else 0) g i ≤ g * 11 ^ f + (if i ≤ q - 10 * p ∧ q - 10 * p < i + g then 11 ^ f else 0) := by
        intro g
        induction g with
        | zero => intro i; simp [sumI]
        | succ g ihg =>
          intro i
          have h1 := ihg (i + 1)
          simp only [sumI]
          rw [show (g + 1) * 11 ^ f = g * 11 ^ f + 11 ^ f from Nat.succ_mul _ _]
          by_cases e : i = q - 10 * p
          · have h2 : (if av C p h i = true then tF C f (p + 1) (h ||| 2 ^ i) q + (if q = 10 * p + i then wF C f (p + 1) (h ||| 2 ^ i) else 0) else 0) ≤ 11 ^ f + 11 ^ f := by
              have a1 := ih (p + 1) (h ||| 2 ^ i)
              have a2 := wF_le C f (p + 1) (h ||| 2 ^ i)
              split
              · split <;> omega
              · exact Nat.zero_le _
            rw [if_neg (by omega)] at h1
            rw [if_pos (show i ≤ q - 10 * p ∧ q - 10 * p < i + (g + 1) by omega)]
            omega
          · have h2 := hq i e
            by_cases e2 : i + 1 ≤ q - 10 * p ∧ q - 10 * p < i + 1 + g
            · rw [if_pos e2] at h1
              rw [if_pos (show i ≤ q - 10 * p ∧ q - 10 * p < i + (g + 1) by omega)]
              omega
            · rw [if_neg e2] at h1
              rw [if_neg (show ¬ (i ≤ q - 10 * p ∧ q - 10 * p < i + (g + 1)) by omega)]
              omega
      have := key 10 0
      split at this <;> omega
/-- the bit that both programs look at -/
theorem av_bit {C : Nat → Nat} {p h i : Nat} (hC : C p < 1024) (hh : h < 1024) (hi : i < 10) : (iand (ishr (iand ((C p : Nat) : Int) (ixor ((h : Nat) : Int) (-1))) i) 1 = 1) = (av C p h i = true) := by
  have e : iand ((C p : Nat) : Int) (ixor ((h : Nat) : Int) (-1)) = ((C p &&& (h ^^^ 2147483647) : Nat) : Int) := iand_not_def _ _ (by omega) (by omega)
  have l : C p &&& (h ^^^ 2147483647) ≤ C p := Nat.and_le_left
  rw [e, bit01_nat (by omega) (by omega)]
  have t : (C p &&& (h ^^^ 2147483647)).testBit i = av C p h i := by
    unfold av
    rw [Nat.testBit_and, Nat.testBit_xor, show (2147483647 : Nat) = 2 ^ 31 - 1 from rfl, Nat.testBit_two_pow_sub_one]
    have : i < 31 := by omega
    simp [this]
  rw [t]
  cases av C p h i <;> simp
theorem th_waysFrom_lp (C : Nat → Nat) (hC : ∀ a, C a < 1024) : ∀ (f d p h : Nat) (M : aM), p + f = 7 → h < 1024 → (∀ a, a < 7 → M 153 a = ((C a : Nat) : Int)) → (∀ q, q < 70 → 0 ≤ M 154 q ∧ M 154 q + (tF C f p h q : Nat) ≤ 2000000000) →
    wp (w_th_waysFrom (d + f + 1) 153 154 p h M) fun r M' => r = [aI ((wF C f p h : Nat) : Int)] ∧ fr [154] M M' ∧ ∀ q, q < 70 → M' 154 q = M 154 q + (tF C f p h q : Nat) := by
  intro f
  induction f with
  | zero =>
    intro d p h M hp hh hc hb
    rw [show d + 0 + 1 = d + 1 from rfl, l_th_waysFrom]
    refine wp_neg (by omega) ?_
    refine wp_neg (by omega) ?_
    exact wp_ret ⟨rfl, fr_refl _ _, fun q hq => by simp [tF]⟩
  | succ f ih =>
    intro d p h M hp hh hc hb
    rw [show d + (f + 1) + 1 = (d + f + 1) + 1 from rfl, l_th_waysFrom, al153]
    refine wp_neg (by omega) ?_
    refine wp_pos (by omega) ?_
    refine wp_pos (by omega) ?_
    refine wp_inb ⟨by omega, by omega⟩ ?_
    rw [tn_n, hc p (by omega)]
    have ew : w32 ((p : Int) + 1) = ((p + 1 : Nat) : Int) := by rw [w32_i (by omega) (by omega)]; rfl
    rw [ew]
    by_cases h0 : C p = 0
    · refine wp_pos (by omega) ?_
      have eq1 : wF C (f + 1) p h = wF C f (p + 1) h := by simp only [wF]; rw [if_pos h0]
      have eq2 : ∀ q, tF C (f + 1) p h q = tF C f (p + 1) h q := fun q => by simp only [tF]; rw [if_pos h0]
      rw [eq1]
      simp only [eq2] at hb ⊢
      refine wp_idI (wp_mono (ih d (p + 1) h M (by omega) hh hc hb) ?_)
      rintro r M' ⟨e, g⟩
      exact ⟨⟨_, e⟩, e, g⟩
    · refine wp_neg (by omega) ?_
      have eq1 : wF C (f + 1) p h = sumI (fun i => if av C p h i = true then wF C f (p + 1) (h ||| 2 ^ i) else 0) 10 0 := by simp only [wF]; rw [if_neg h0]
      have eq2 : ∀ q, tF C (f + 1) p h q = sumI (fun i => if av C p h i = true then tF C f (p + 1) (h ||| 2 ^ i) q + (if q = 10 * p + i then wF C f (p + 1) (h ||| 2 ^ i) else 0) else 0) 10 0 := fun q => by simp only [tF]; rw [if_neg h0]
      have hw := wF_le C (f + 1) p h
      have hpow : 10 ^ (f + 1) ≤ 10 ^ 7 := Nat.pow_le_pow_right (by omega) (by omega)
      rw [eq1] at hw ⊢
      simp only [eq2] at hb ⊢
      have loop : ∀ (g i acc : Nat) (M : aM), i + g = 10 → (∀ a, a < 7 → M 153 a = ((C a : Nat) : Int)) → acc + sumI (fun i => if av C p h i = true then wF C f (p + 1) (h ||| 2 ^ i) else 0) g i ≤ 2000000000 → (∀ q, q < 70 → 0 ≤ M 154 q ∧ M 154 q + (sumI (fun i => if av C p h i = true then tF C f (p + 1) (h ||| 2 ^ i) q + (if q = 10 * p + i then wF C f (p + 1) (h ||| 2 ^ i) else 0) else 0) g i : Nat) ≤ 2000000000) →
          wp (w_th_waysFrom_40 (d + f + 1) 153 154 p h acc i M) fun r M' => r = [aI ((acc + sumI (fun i => if av C p h i = true then wF C f (p + 1) (h ||| 2 ^ i) else 0) g i : Nat) : Int)] ∧ fr [154] M M' ∧ ∀ q, q < 70 → M' 154 q = M 154 q + (sumI (fun i => if av C p h i = true then tF C f (p + 1) (h ||| 2 ^ i) q + (if q = 10 * p + i then wF C f (p + 1) (h ||| 2 ^ i) else 0) else 0) g i : Nat) := by
        intro g
        induction g with
        | zero =>
          intro i acc M hi hc ha hb
          rw [l_th_waysFrom_40]
          refine wp_neg (by omega) ?_
          exact wp_ret ⟨by simp [sumI], fr_refl _ _, fun q _ => by simp [sumI]⟩
        | succ g ihg =>
          intro i acc M hi hc ha hb
          simp only [sumI] at ha hb ⊢
          have e10 : w32 (w32 ((p : Int) * 10) + i) = ((10 * p + i : Nat) : Int) := by simp (disch := omega) only [w32_i]; omega
          rw [l_th_waysFrom_40, al153, al154]
          refine wp_pos (by omega) ?_
          refine wp_I ?_
          refine wp_inb ⟨by omega, by omega⟩ ?_
          rw [tn_n p, hc p (by omega)]
          have ei : w32 ((i : Int) + 1) = ((i + 1 : Nat) : Int) := by rw [w32_i (by omega) (by omega)]; rfl
          have hbit := av_bit (C := C) (p := p) (h := h) (i := i) (hC p) hh (by omega)
          by_cases hav : av C p h i = true
          · refine wp_pos (by rw [hbit]; exact hav) ?_
            rw [e10]
            refine wp_pos (by omega) ?_
            simp only [if_pos hav] at ha hb ⊢
            have hh2 : h ||| 2 ^ i < 1024 := Nat.or_lt_two_pow (n := 10) hh (Nat.pow_lt_pow_right (a := 2) (by omega) (by omega))
            rw [ior_bit (by omega) (by omega), ew]
            refine wp_bI (P := fun v M' => v = ((wF C f (p + 1) (h ||| 2 ^ i) : Nat) : Int) ∧ fr [154] M M' ∧ ∀ q, q < 70 → M' 154 q = M 154 q + (tF C f (p + 1) (h ||| 2 ^ i) q : Nat)) (wp_mono (ih d (p + 1) (h ||| 2 ^ i) M (by omega) hh2 hc (fun q hq => by have := hb q hq; omega)) ?_) ?_
            · rintro r M' ⟨e, g'⟩; exact ⟨_, e, rfl, g'⟩
            rintro v M1 ⟨rfl, f1, g1⟩
            rw [tn_n, g1 (10 * p + i) (by omega)]
            have hbq := hb (10 * p + i) (by omega)
            rw [if_pos rfl] at hbq
            refine wp_inb ⟨by omega, by omega⟩ ?_
            refine wp_inb ⟨by omega, by omega⟩ ?_
            rw [w32_i (x := M 154 (10 * p + i) + _ + _) (by omega) (by omega)]
            refine wp_up fun M2 f2 g2 => ?_
            refine wp_I ?_
            refine wp_I ?_
            rw [ei, w32_i (by omega) (by omega), show ((acc : Int) + ((wF C f (p + 1) (h ||| 2 ^ i) : Nat) : Int)) = ((acc + wF C f (p + 1) (h ||| 2 ^ i) : Nat) : Int) by omega]
            have g12 : ∀ q, q < 70 → M2 154 q = M 154 q + (tF C f (p + 1) (h ||| 2 ^ i) q + (if q = 10 * p + i then wF C f (p + 1) (h ||| 2 ^ i) else 0) : Nat) := by
              intro q hq
              rw [g2, g1 q hq]
              by_cases e : q = 10 * p + i
              · subst e; rw [if_pos rfl, if_pos rfl]; omega
              · rw [if_neg e, if_neg e]; omega
            refine wp_mono (ihg (i + 1) _ M2 (by omega) (fun a ha' => by rw [f2 153 (by simp), f1 153 (by simp)]; exact hc a ha') (by omega) (fun q hq => by have := hb q hq; rw [g12 q hq]; omega)) ?_
            rintro r M' ⟨q1, q2, q3⟩
            refine ⟨by rw [q1]; congr 2; omega, fr_tt (fr_tt f1 f2) q2, fun q hq => ?_⟩
            rw [q3 q hq, g12 q hq]; omega
          · refine wp_neg (by rw [hbit]; exact hav) ?_
            simp only [if_neg hav] at ha hb ⊢
            refine wp_I ?_
            rw [ei]
            refine wp_mono (ihg (i + 1) acc M (by omega) hc (by omega) (fun q hq => by have := hb q hq; omega)) ?_
            rintro r M' ⟨q1, q2, q3⟩
            exact ⟨by rw [q1]; congr 2; omega, q2, fun q hq => by rw [q3 q hq]; omega⟩
      refine wp_mono (loop 10 0 0 M (by omega) hc (by omega) hb) ?_
      rintro r M' ⟨q1, q2, q3⟩
      exact ⟨by rw [q1, Nat.zero_add], q2, q3⟩
