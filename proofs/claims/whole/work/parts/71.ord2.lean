/-! orders: ways through the sets -/
theorem flow {ah ah' : Nat → Nat} {n i : Nat} (hn : n ≤ 30) (hi : i < n) (he : ∀ d, d ≠ i → ah' d = ah d) :
    sN (fun S => if S.testBit i = true then 0 else (if can ah' i S = true then UO ah n S * BO ah n (S ||| 2 ^ i) else 0)) (2 ^ n) = UO ah' n (2 ^ n - 1) := by
  have hp : 2 ^ n ≤ 2 ^ 30 := Nat.pow_le_pow_right (by omega) hn
  have hpos := Nat.two_pow_pos n
  have hc : ∀ d T, d ≠ i → can ah' d T = can ah d T := fun d T h => by unfold can; rw [he d h]
  have a1 : sN (fun T => if T.testBit i = true then UO ah' n T * BO ah n T else 0) (2 ^ n) = sN (fun T => if T.testBit i = true then (if can ah' i (rm T i) = true then UO ah n (rm T i) * BO ah n T else 0) else 0) (2 ^ n) + sN (fun T => sN (fun d => if T.testBit d = true then (if T.testBit i = true ∧ d ≠ i ∧ can ah d (rm T d) = true then UO ah' n (rm T d) * BO ah n T else 0) else 0) n) (2 ^ n) := by
    rw [← sN_add]
    refine sN_c _ fun T hT => ?_
    (try dsimp only)
    by_cases hb : T.testBit i = true
    · rw [if_pos hb, if_pos hb]
      have h0 : T ≠ 0 := by intro e; subst e; rw [Nat.zero_testBit] at hb; cases hb
      have key : UO ah' n T = sN (fun d => if T.testBit d = true then (if T.testBit i = true ∧ d ≠ i ∧ can ah d (rm T d) = true then UO ah' n (rm T d) else 0) else 0) n + (if can ah' i (rm T i) = true then UO ah n (rm T i) else 0) := by
        rw [UO_eq h0 (by omega)]
        refine sN_1 (i := i) ?_ n hi fun d hd hn' => ?_
        · (try dsimp only)
          have := rm_lt (show T < 2147483648 by omega) hb
          rw [UO_same he (rm T i) (by omega) (by rw [rm_tb (by omega)]; simp)]
          simp only [hb, true_and]
          simp
        · (try dsimp only)
          rw [hc d _ hn']
          by_cases h1 : T.testBit d = true <;> by_cases h2 : can ah d (rm T d) = true <;> simp [h1, h2, hb, hn']
      rw [key, Nat.add_mul, Nat.add_comm, ← sN_mul]
      congr 1
      · by_cases h : can ah' i (rm T i) = true <;> simp [h]
      · refine sN_c _ fun d hd => ?_
        (try dsimp only)
        by_cases h1 : T.testBit d = true
        · rw [if_pos h1, if_pos h1]
          by_cases h2 : (T.testBit i = true ∧ d ≠ i ∧ can ah d (rm T d) = true)
          · rw [if_pos h2, if_pos h2]
          · rw [if_neg h2, if_neg h2, Nat.zero_mul]
        · rw [if_neg h1, if_neg h1, Nat.zero_mul]
    · rw [if_neg hb, if_neg hb, sN_z]
      intro d hd
      (try dsimp only)
      simp [hb]
  have a2 : sN (fun T => if T.testBit i = true then UO ah' n T * BO ah n T else 0) (2 ^ n) = UO ah' n (2 ^ n - 1) + sN (fun T => sN (fun d => if T.testBit d = true then 0 else (if T.testBit i = true ∧ d ≠ i ∧ can ah d T = true then UO ah' n T * BO ah n (T ||| 2 ^ d) else 0)) n) (2 ^ n) := by
    rw [Nat.add_comm]
    have hfl : ∀ d, d < n → (2 ^ n - 1).testBit d = true := fun d hd => full_tb hd
    have key : ∀ T, T < 2 ^ n → T ≠ 2 ^ n - 1 → (if T.testBit i = true then UO ah' n T * BO ah n T else 0) = sN (fun d => if T.testBit d = true then 0 else (if T.testBit i = true ∧ d ≠ i ∧ can ah d T = true then UO ah' n T * BO ah n (T ||| 2 ^ d) else 0)) n := by
      intro T hT hne
      by_cases hb : T.testBit i = true
      · rw [if_pos hb, BO_eq hT hne, Nat.mul_comm, ← sN_mul]
        refine sN_c _ fun d hd => ?_
        (try dsimp only)
        by_cases e : d = i
        · subst e; simp [hb]
        · cases h1 : T.testBit d
          · by_cases h2 : can ah d T = true
            · simp [h2, hb, e, Nat.mul_comm]
            · simp [h2]
          · simp
      · rw [if_neg hb, sN_z]
        intro d hd
        (try dsimp only)
        simp [hb]
    refine sN_1 (i := 2 ^ n - 1) ?_ _ (by omega) fun T hT hne => key T hT hne
    (try dsimp only)
    rw [if_pos (hfl i hi), BO_full, Nat.mul_one, sN_z, Nat.zero_add]
    intro d hd
    (try dsimp only)
    rw [if_pos (hfl d hd)]
  have a3 : sN (fun T => sN (fun d => if T.testBit d = true then (if T.testBit i = true ∧ d ≠ i ∧ can ah d (rm T d) = true then UO ah' n (rm T d) * BO ah n T else 0) else 0) n) (2 ^ n) = sN (fun T => sN (fun d => if T.testBit d = true then 0 else (if T.testBit i = true ∧ d ≠ i ∧ can ah d T = true then UO ah' n T * BO ah n (T ||| 2 ^ d) else 0)) n) (2 ^ n) := by
    refine (sN_sw _ n (2 ^ n)).trans (Eq.trans ?_ (sN_sw _ n (2 ^ n)).symm)
    refine sN_c n fun d hd => ?_
    (try dsimp only)
    rw [sN_bit d n hd fun T => if T.testBit i = true ∧ d ≠ i ∧ can ah d (rm T d) = true then UO ah' n (rm T d) * BO ah n T else 0]
    refine sN_c _ fun R hR => ?_
    (try dsimp only)
    by_cases h1 : R.testBit d = true
    · rw [if_pos h1, if_pos h1]
    · have h1 : R.testBit d = false := by simpa using h1
      rw [rm_or (by omega) (by omega) h1, tb_or]
      by_cases e : d = i
      · simp [e]
      · simp [e]
  have a4 : sN (fun T => if T.testBit i = true then (if can ah' i (rm T i) = true then UO ah n (rm T i) * BO ah n T else 0) else 0) (2 ^ n) = sN (fun S => if S.testBit i = true then 0 else (if can ah' i S = true then UO ah n S * BO ah n (S ||| 2 ^ i) else 0)) (2 ^ n) := by
    rw [sN_bit i n hi fun T => if can ah' i (rm T i) = true then UO ah n (rm T i) * BO ah n T else 0]
    refine sN_c _ fun R hR => ?_
    (try dsimp only)
    by_cases h1 : R.testBit i = true
    · rw [if_pos h1, if_pos h1]
    · have h1 : R.testBit i = false := by simpa using h1
      rw [rm_or (by omega) (by omega) h1]
  rw [← a4]
  omega
/-- a is told to come ahead of b, too -/
def updA (ah : Nat → Nat) (a b : Nat) : Nat → Nat := fun d => if d = b then ah b ||| 2 ^ a else ah d
theorem upd_ne {ah : Nat → Nat} {a b d : Nat} (h : d ≠ b) : updA ah a b d = ah d := if_neg h
theorem upd_lt {ah : Nat → Nat} {a b n : Nat} (ha : a < n) (h : ∀ d, ah d < 2 ^ n) (d : Nat) : updA ah a b d < 2 ^ n := by
  unfold updA
  split
  · exact Nat.or_lt_two_pow (h b) (Nat.pow_lt_pow_right (by omega) ha)
  · exact h d
theorem can_upd {ah : Nat → Nat} {a b T : Nat} (ha : a < 31) (h : ∀ d, ah d < 2147483648) : can (updA ah a b) b T = (can ah b T && T.testBit a) := by
  have h1 := can_iff (T := T) (upd_lt (n := 31) (b := b) ha h b)
  have h2 := can_iff (T := T) (h b)
  have e : updA ah a b b = ah b ||| 2 ^ a := if_pos rfl
  rw [e] at h1
  rw [Bool.eq_iff_iff, h1, Bool.and_eq_true, h2]
  constructor
  · intro g
    exact ⟨fun j hj => g j (by rw [tb_or, hj]; rfl), g a (by rw [tb_or]; simp)⟩
  · rintro ⟨g1, g2⟩ j hj
    rw [tb_or] at hj
    by_cases e : a = j
    · subst e; exact g2
    · exact g1 j (by simpa [e] using hj)
theorem UO_two {ah : Nat → Nat} {n a b : Nat} (hab : a ≠ b) (ha : a < 31) (hb : b < 31) (h : ∀ d, ah d < 2147483648) : ∀ S, S < 2147483648 → (S.testBit a = true ∨ S.testBit b = true) → UO (updA ah a b) n S + UO (updA ah b a) n S = UO ah n S := by
  intro S
  induction S using Nat.strongRecOn with
  | ind S ih =>
    intro hS hor
    have h0 : S ≠ 0 := by
      intro e; subst e; rw [Nat.zero_testBit, Nat.zero_testBit] at hor
      rcases hor with h | h <;> cases h
    rw [UO_eq h0 hS, UO_eq h0 hS, UO_eq h0 hS, ← sN_add]
    refine sN_c n fun d hd => ?_
    (try dsimp only)
    by_cases hd2 : S.testBit d = true
    rotate_left
    · simp [hd2]
    have hlt := rm_lt hS hd2
    have tR : ∀ j, (rm S d).testBit j = (S.testBit j && !decide (d = j)) := fun j => rm_tb hS
    by_cases e1 : d = b
    · subst e1
      have c2 : can (updA ah d a) d (rm S d) = can ah d (rm S d) := by unfold can; rw [upd_ne (fun e => hab e.symm)]
      rw [can_upd ha h, c2]
      cases h3 : (rm S d).testBit a with
      | true =>
        have := ih _ hlt (by omega) (Or.inl h3)
        by_cases h4 : can ah d (rm S d) = true
        · simp [h4, hd2]; exact this
        · simp [h4]
      | false =>
        rw [UO_same (ah' := updA ah d a) (i := a) (fun d' h' => upd_ne h') _ (by omega) h3]
        simp
    · by_cases e2 : d = a
      · subst e2
        have c2 : can (updA ah d b) d (rm S d) = can ah d (rm S d) := by unfold can; rw [upd_ne hab]
        rw [can_upd hb h, c2]
        cases h3 : (rm S d).testBit b with
        | true =>
          have := ih _ hlt (by omega) (Or.inr h3)
          by_cases h4 : can ah d (rm S d) = true
          · simp [h4, hd2]; exact this
          · simp [h4]
        | false =>
          rw [UO_same (ah' := updA ah d b) (i := b) (fun d' h' => upd_ne h') _ (by omega) h3]
          simp
      · have c1 : can (updA ah a b) d (rm S d) = can ah d (rm S d) := by unfold can; rw [upd_ne e1]
        have c2 : can (updA ah b a) d (rm S d) = can ah d (rm S d) := by unfold can; rw [upd_ne e2]
        rw [c1, c2]
        have := ih _ hlt (by omega) (by rw [tR, tR]; simpa [e1, e2] using hor)
        by_cases h4 : can ah d (rm S d) = true
        · simp [h4, hd2]; exact this
        · simp [h4]
def pn (n S : Nat) : Nat := sN (fun d => if S.testBit d = true then 1 else 0) n
def fa : Nat → Nat
  | 0 => 1
  | n + 1 => (n + 1) * fa n
theorem sN_one : ∀ n, sN (fun _ => 1) n = n
  | 0 => rfl
  | n + 1 => by rw [sN_s, sN_one n]
theorem pn_le (n S : Nat) : pn n S ≤ n := by
  have := sN_le (f := fun d => if S.testBit d = true then 1 else 0) (g := fun _ => 1) n fun i _ => by (try dsimp only); split <;> omega
  rw [sN_one] at this
  exact this
theorem pn_rm {n S d : Nat} (hS : S < 2147483648) (hd : d < n) (h : S.testBit d = true) : pn n S = pn n (rm S d) + 1 := by
  refine sN_1 (i := d) ?_ n hd fun j hj hne => ?_
  · (try dsimp only); rw [h, rm_tb hS]; simp
  · (try dsimp only); rw [rm_tb hS]; simp [Ne.symm hne]
theorem UO_fa (ah : Nat → Nat) (n : Nat) : ∀ S, S < 2147483648 → UO ah n S ≤ fa (pn n S) := by
  intro S
  induction S using Nat.strongRecOn with
  | ind S ih =>
    intro hS
    by_cases h0 : S = 0
    · subst h0
      rw [UO_0]
      have : pn n 0 = 0 := sN_z n fun i _ => by (try dsimp only); rw [Nat.zero_testBit]; rfl
      rw [this]
      exact Nat.le_refl _
    · rw [UO_eq h0 hS]
      cases hc : pn n S with
      | zero =>
        rw [sN_z]
        · exact Nat.zero_le _
        · intro d hd
          (try dsimp only)
          by_cases hb : S.testBit d = true
          · have := pn_rm hS hd hb; omega
          · simp [hb]
      | succ c =>
        have : sN (fun d => if S.testBit d = true ∧ can ah d (rm S d) = true then UO ah n (rm S d) else 0) n ≤ sN (fun d => (if S.testBit d = true then 1 else 0) * fa c) n := by
          refine sN_le n fun d hd => ?_
          (try dsimp only)
          by_cases hb : S.testBit d = true
          · have h1 := pn_rm hS hd hb
            have h2 := rm_lt hS hb
            have h3 := ih _ h2 (by omega)
            rw [show pn n (rm S d) = c by omega] at h3
            rw [if_pos hb, Nat.one_mul]
            split
            · exact h3
            · exact Nat.zero_le _
          · simp [hb]
        rw [sN_mul] at this
        exact Nat.le_trans this (by rw [show sN (fun d => if S.testBit d = true then 1 else 0) n = c + 1 from hc]; exact Nat.le_refl _)
theorem fa_10 : ∀ n, n ≤ 10 → fa n ≤ 3628800 := by decide
theorem UO_lt (ah : Nat → Nat) {n S : Nat} (hn : n ≤ 10) (hS : S < 2147483648) : UO ah n S ≤ 3628800 := Nat.le_trans (UO_fa ah n S hS) (fa_10 _ (Nat.le_trans (pn_le n S) hn))
/-- the first one that can come next -/
def lfo (ah : Nat → Nat) (S : Nat) : Nat → Nat → Option Nat
  | 0, _ => none
  | k + 1, i => if S.testBit i = false ∧ can ah i S = true then some i else lfo ah S k (i + 1)
theorem lfo_n {ah : Nat → Nat} {S : Nat} : ∀ k i, lfo ah S k i = none → ∀ j, i ≤ j → j < i + k → ¬ (S.testBit j = false ∧ can ah j S = true)
  | 0, i, _, j, h1, h2 => by omega
  | k + 1, i, h, j, h1, h2 => by
    unfold lfo at h
    by_cases hc : S.testBit i = false ∧ can ah i S = true
    · rw [if_pos hc] at h; cases h
    · rw [if_neg hc] at h
      by_cases e : i = j
      · subst e; exact hc
      · exact lfo_n k (i + 1) h j (by omega) (by omega)
theorem lfo_s {ah : Nat → Nat} {S j : Nat} : ∀ k i, lfo ah S k i = some j → i ≤ j ∧ j < i + k ∧ S.testBit j = false ∧ can ah j S = true
  | 0, i, h => by cases h
  | k + 1, i, h => by
    unfold lfo at h
    by_cases hc : S.testBit i = false ∧ can ah i S = true
    · rw [if_pos hc] at h; cases h; exact ⟨by omega, by omega, hc⟩
    · rw [if_neg hc] at h
      have := lfo_s k (i + 1) h
      exact ⟨by omega, by omega, this.2.2⟩
/-- who came first after k turns -/
def gS (ah : Nat → Nat) (n : Nat) : Nat → Option Nat
  | 0 => some 0
  | k + 1 => match gS ah n k with
    | none => none
    | some S => match lfo ah S n 0 with
      | none => none
      | some i => some (S ||| 2 ^ i)
theorem gS_spec {ah : Nat → Nat} {n : Nat} (hn : n ≤ 30) : ∀ k S, gS ah n k = some S → S < 2 ^ n ∧ pn n S = k ∧ UO ah n S ≠ 0
  | 0, S, h => by
    cases h
    exact ⟨Nat.two_pow_pos n, sN_z n fun i _ => by (try dsimp only); rw [Nat.zero_testBit]; rfl, by rw [UO_0]; decide⟩
  | k + 1, S, h => by
    have hp : 2 ^ n ≤ 2 ^ 30 := Nat.pow_le_pow_right (by omega) hn
    unfold gS at h
    split at h
    · cases h
    · next S0 h0 =>
      split at h
      · cases h
      · next i hi =>
        obtain ⟨a, b, c⟩ := gS_spec hn k S0 h0
        obtain ⟨-, i2, i3, i4⟩ := lfo_s n 0 hi
        cases h
        have hg := or_gt a (show i < n by omega) i3
        have hb : (S0 ||| 2 ^ i).testBit i = true := by rw [tb_or]; simp
        have hr := rm_or (show S0 < 2147483648 by omega) (show i < 31 by omega) i3
        refine ⟨hg.2, ?_, ?_⟩
        · rw [pn_rm (show S0 ||| 2 ^ i < 2147483648 by omega) (show i < n by omega) hb, hr, b]
        · rw [UO_eq (by omega) (by omega)]
          have := sN_ge (f := fun d => if (S0 ||| 2 ^ i).testBit d = true ∧ can ah d (rm (S0 ||| 2 ^ i) d) = true then UO ah n (rm (S0 ||| 2 ^ i) d) else 0) n (show i < n by omega)
          (try dsimp only at this)
          rw [hr, if_pos ⟨hb, i4⟩] at this
          omega
theorem pn_full {n S : Nat} (hS : S < 2 ^ n) (h : pn n S = n) : S = 2 ^ n - 1 := by
  have key : ∀ m, (∀ i, i < m → i < n) → sN (fun d => if S.testBit d = true then 1 else 0) m = m → ∀ i, i < m → S.testBit i = true := by
    intro m
    induction m with
    | zero => intro _ _ i hi; omega
    | succ m ih =>
      intro h1 h2 i hi
      rw [sN_s] at h2
      have := sN_le (f := fun d => if S.testBit d = true then 1 else 0) (g := fun _ => 1) m fun i _ => by (try dsimp only); split <;> omega
      rw [sN_one] at this
      by_cases hb : S.testBit m = true
      · rw [if_pos hb] at h2
        by_cases e : i = m
        · subst e; exact hb
        · exact ih (fun i hi => h1 i (by omega)) (by omega) i (by omega)
      · rw [if_neg hb] at h2; omega
  apply Nat.eq_of_testBit_eq
  intro j
  rw [Nat.testBit_two_pow_sub_one]
  by_cases hj : j < n
  · rw [decide_eq_true hj]; exact key n (fun i hi => hi) h j hj
  · rw [decide_eq_false hj, tb_lt hS (by omega)]
/-- whoever can follow at all can follow -/
theorem UO_next {ah : Nat → Nat} {n : Nat} (ha : ∀ d, ah d < 2147483648) (S : Nat) : ∀ T, T < 2147483648 → UO ah n T ≠ 0 → (∃ j, T.testBit j = true ∧ S.testBit j = false) → ∃ d, d < n ∧ S.testBit d = false ∧ can ah d S = true := by
  intro T
  induction T using Nat.strongRecOn with
  | ind T ih =>
    intro hT hU ⟨j, j1, j2⟩
    have h0 : T ≠ 0 := by intro e; subst e; rw [Nat.zero_testBit] at j1; cases j1
    rw [UO_eq h0 hT] at hU
    obtain ⟨d, hd, hne⟩ := sN_pos n hU
    (try dsimp only at hne)
    split at hne
    · next hc =>
      have hlt := rm_lt hT hc.1
      by_cases hex : ∃ j, (rm T d).testBit j = true ∧ S.testBit j = false
      · exact ih _ hlt (by omega) hne hex
      · have hsub : ∀ j, (rm T d).testBit j = true → S.testBit j = true := by
          intro k hk
          cases hs : S.testBit k with
          | true => rfl
          | false => exact absurd ⟨k, hk, hs⟩ hex
        have hdj : d = j := by
          apply Decidable.byContradiction
          intro e
          have := hsub j (by rw [rm_tb hT, j1]; simp [e])
          rw [j2] at this
          cases this
        subst hdj
        refine ⟨d, hd, j2, ?_⟩
        rw [can_iff (ha d)]
        exact fun k hk => hsub k ((can_iff (ha d)).1 hc.2 k hk)
    · exact absurd rfl hne
theorem gS_all {ah : Nat → Nat} {n : Nat} (hn : n ≤ 30) (ha : ∀ d, ah d < 2147483648) (hU : UO ah n (2 ^ n - 1) ≠ 0) : ∀ k, k ≤ n → ∃ S, gS ah n k = some S ∧ (k < n → ∃ i, lfo ah S n 0 = some i)
  | k, hk => by
    have hp : 2 ^ n ≤ 2 ^ 30 := Nat.pow_le_pow_right (by omega) hn
    have hpos := Nat.two_pow_pos n
    have step : ∀ S, gS ah n k = some S → k < n → ∃ i, lfo ah S n 0 = some i := by
      intro S h hkn
      obtain ⟨a, b, c⟩ := gS_spec hn k S h
      cases hl : lfo ah S n 0 with
      | some i => exact ⟨i, rfl⟩
      | none =>
        have hex : ∃ j, (2 ^ n - 1).testBit j = true ∧ S.testBit j = false := by
          refine Classical.byContradiction fun hno => ?_
          have : S = 2 ^ n - 1 := by
            apply Nat.eq_of_testBit_eq
            intro j
            rw [Nat.testBit_two_pow_sub_one]
            by_cases hj : j < n
            · rw [decide_eq_true hj]
              cases hs : S.testBit j with
              | true => rfl
              | false => exact absurd ⟨j, full_tb hj, hs⟩ hno
            · rw [decide_eq_false hj, tb_lt a (by omega)]
          subst this
          have : pn n (2 ^ n - 1) = n := by
            unfold pn
            rw [sN_c (g := fun _ => 1) n fun i hi => by (try dsimp only); rw [full_tb hi]; rfl, sN_one]
          omega
        obtain ⟨d, hd, h1, h2⟩ := UO_next ha S (2 ^ n - 1) (by omega) hU hex
        exact absurd ⟨h1, h2⟩ (lfo_n n 0 hl d (by omega) (by omega))
    cases k with
    | zero => exact ⟨0, rfl, step 0 rfl⟩
    | succ k =>
      obtain ⟨S, h1, h2⟩ := gS_all hn ha hU k (by omega)
      obtain ⟨i, hi⟩ := h2 (by omega)
      have : gS ah n (k + 1) = some (S ||| 2 ^ i) := by unfold gS; rw [h1]; simp only; rw [hi]
      exact ⟨_, this, step _ this⟩
theorem gS_no {ah : Nat → Nat} {n : Nat} (hn : n ≤ 30) (hU : UO ah n (2 ^ n - 1) = 0) : gS ah n n = none := by
  cases h : gS ah n n with
  | none => rfl
  | some S =>
    obtain ⟨a, b, c⟩ := gS_spec hn n S h
    rw [pn_full a b] at c
    exact absurd hU c
