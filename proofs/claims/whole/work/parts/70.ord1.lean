/-! orders: how many, purely -/
def sN (f : Nat → Nat) : Nat → Nat
  | 0 => 0
  | n + 1 => sN f n + f n
theorem sN_s (f : Nat → Nat) (n : Nat) : sN f (n + 1) = sN f n + f n := rfl
theorem sN_c {f g : Nat → Nat} : ∀ n, (∀ i, i < n → f i = g i) → sN f n = sN g n
  | 0, _ => rfl
  | n + 1, h => by rw [sN_s, sN_s, sN_c n fun i hi => h i (by omega), h n (by omega)]
theorem sN_add (f g : Nat → Nat) : ∀ n, sN (fun i => f i + g i) n = sN f n + sN g n
  | 0 => rfl
  | n + 1 => by rw [sN_s, sN_s, sN_s, sN_add f g n]; omega
theorem sN_mul (f : Nat → Nat) (c : Nat) : ∀ n, sN (fun i => f i * c) n = sN f n * c
  | 0 => by simp [sN]
  | n + 1 => by rw [sN_s, sN_s, sN_mul f c n, Nat.add_mul]
theorem sN_z {f : Nat → Nat} : ∀ n, (∀ i, i < n → f i = 0) → sN f n = 0
  | 0, _ => rfl
  | n + 1, h => by rw [sN_s, sN_z n fun i hi => h i (by omega), h n (by omega)]
theorem sN_le {f g : Nat → Nat} : ∀ n, (∀ i, i < n → f i ≤ g i) → sN f n ≤ sN g n
  | 0, _ => Nat.le_refl _
  | n + 1, h => by rw [sN_s, sN_s]; exact Nat.add_le_add (sN_le n fun i hi => h i (by omega)) (h n (by omega))
theorem sN_ge {f : Nat → Nat} {i : Nat} : ∀ n, i < n → f i ≤ sN f n
  | n + 1, h => by
    rw [sN_s]
    by_cases e : i = n
    · subst e; omega
    · have := sN_ge (f := f) n (show i < n by omega); omega
theorem sN_pos {f : Nat → Nat} : ∀ n, sN f n ≠ 0 → ∃ i, i < n ∧ f i ≠ 0
  | 0, h => absurd rfl h
  | n + 1, h => by
    rw [sN_s] at h
    by_cases e : f n = 0
    · obtain ⟨i, a, b⟩ := sN_pos n (by omega : sN f n ≠ 0)
      exact ⟨i, by omega, b⟩
    · exact ⟨n, by omega, e⟩
theorem sN_1 {f g : Nat → Nat} {i x : Nat} (hg : f i = g i + x) : ∀ n, i < n → (∀ j, j < n → j ≠ i → f j = g j) → sN f n = sN g n + x
  | n + 1, h, ho => by
    rw [sN_s, sN_s]
    by_cases e : i = n
    · subst e
      rw [hg, sN_c i fun j hj => ho j (by omega) (by omega)]
      omega
    · rw [sN_1 hg n (by omega) fun j hj hn => ho j (by omega) hn, ho n (by omega) (by omega)]
      omega
theorem sN_sw (f : Nat → Nat → Nat) (m : Nat) : ∀ n, sN (fun i => sN (f i) m) n = sN (fun j => sN (fun i => f i j) n) m
  | 0 => (sN_z m fun _ _ => rfl).symm
  | n + 1 => by
    rw [sN_s, sN_sw f m n, ← sN_add]
    rfl
theorem sN_spl (f : Nat → Nat) (m : Nat) : ∀ n, sN f (m + n) = sN f m + sN (fun i => f (m + i)) n
  | 0 => rfl
  | n + 1 => by
    rw [← Nat.add_assoc, sN_s, sN_s, sN_spl f m n]
    omega
theorem tb_hi {n T : Nat} (h : T < 2 ^ n) : (2 ^ n + T).testBit n = true := by
  rw [Nat.testBit_two_pow_add_eq, Nat.testBit_lt_two_pow h]; rfl
theorem tb_lo {n T d : Nat} (hd : d < n) : (2 ^ n + T).testBit d = T.testBit d := Nat.testBit_two_pow_add_gt hd T
theorem or_hi {n R : Nat} (h : R < 2 ^ n) : R ||| 2 ^ n = 2 ^ n + R := by
  have := Nat.two_pow_add_eq_or_of_lt h 1
  rw [Nat.mul_one] at this
  rw [this, Nat.or_comm]
theorem or_lo {n R d : Nat} (h : R < 2 ^ n) (hd : d < n) : (2 ^ n + R) ||| 2 ^ d = 2 ^ n + (R ||| 2 ^ d) := by
  have h2 : R ||| 2 ^ d < 2 ^ n := Nat.or_lt_two_pow h (Nat.pow_lt_pow_right (by omega) hd)
  rw [← or_hi h, ← or_hi h2, Nat.or_assoc, Nat.or_comm (2 ^ n), ← Nat.or_assoc]
theorem sN_bit (d : Nat) : ∀ n, d < n → ∀ h : Nat → Nat, sN (fun T => if T.testBit d = true then h T else 0) (2 ^ n) = sN (fun R => if R.testBit d = true then 0 else h (R ||| 2 ^ d)) (2 ^ n)
  | n + 1, hd, h => by
    rw [Nat.pow_succ, Nat.mul_two, sN_spl, sN_spl]
    by_cases e : d = n
    · subst e
      rw [sN_z (f := fun T => if T.testBit d = true then h T else 0) _ fun i hi => by (try dsimp only); rw [Nat.testBit_lt_two_pow hi]; rfl,
        sN_z (f := fun i => if (2 ^ d + i).testBit d = true then 0 else h ((2 ^ d + i) ||| 2 ^ d)) _ fun i hi => by (try dsimp only); rw [tb_hi hi]; rfl, Nat.zero_add, Nat.add_zero]
      refine sN_c _ fun i hi => ?_
      (try dsimp only)
      rw [tb_hi hi, Nat.testBit_lt_two_pow hi, or_hi hi]
      rfl
    · have hd : d < n := by omega
      rw [sN_bit d n hd h, sN_c (f := fun i => if (2 ^ n + i).testBit d = true then h (2 ^ n + i) else 0) _ fun i hi => by rw [tb_lo hd], sN_bit d n hd fun T => h (2 ^ n + T)]
      congr 1
      refine sN_c _ fun i hi => ?_
      (try dsimp only)
      rw [tb_lo hd, or_lo hi hd]
/-- may d come behind those of T -/
def can (ah : Nat → Nat) (d T : Nat) : Bool := decide (ah d &&& (T ^^^ 2147483647) = 0)
theorem can_iff {ah : Nat → Nat} {d T : Nat} (ha : ah d < 2147483648) : can ah d T = true ↔ ∀ j, (ah d).testBit j = true → T.testBit j = true := by
  have t31 : ∀ j, Nat.testBit 2147483647 j = decide (j < 31) := fun j => Nat.testBit_two_pow_sub_one 31 j
  unfold can
  rw [decide_eq_true_iff]
  constructor
  · intro h j hj
    have h2 : (ah d &&& (T ^^^ 2147483647)).testBit j = false := by rw [h]; exact Nat.zero_testBit j
    have hl : j < 31 := by
      apply Decidable.byContradiction
      intro e
      rw [tb_lt (n := 31) ha (by omega)] at hj
      cases hj
    rw [Nat.testBit_and, Nat.testBit_xor, hj, t31, decide_eq_true hl] at h2
    cases h3 : T.testBit j with
    | true => rfl
    | false => rw [h3] at h2; cases h2
  · intro h
    apply Nat.eq_of_testBit_eq
    intro j
    rw [Nat.testBit_and, Nat.testBit_xor, Nat.zero_testBit, t31]
    cases h2 : (ah d).testBit j with
    | false => rfl
    | true =>
      have hl : j < 31 := by
        apply Decidable.byContradiction
        intro e
        rw [tb_lt (n := 31) ha (by omega)] at h2
        cases h2
      rw [h j h2, decide_eq_true hl]
      rfl
/-- in how many orders those of S come first -/
def uO (ah : Nat → Nat) (n : Nat) : Nat → Nat → Nat
  | 0, _ => 1
  | k + 1, S => if S = 0 then 1 else sN (fun d => if S.testBit d = true ∧ can ah d (rm S d) = true then uO ah n k (rm S d) else 0) n
def UO (ah : Nat → Nat) (n S : Nat) : Nat := uO ah n S S
theorem uO_f (ah : Nat → Nat) (n : Nat) : ∀ S k k', S ≤ k → S ≤ k' → S < 2147483648 → uO ah n k S = uO ah n k' S := by
  intro S
  induction S using Nat.strongRecOn with
  | ind S ih =>
    intro k k' h h' hS
    by_cases h0 : S = 0
    · subst h0
      cases k <;> cases k' <;> simp [uO]
    · obtain ⟨k, rfl⟩ : ∃ j, k = j + 1 := ⟨k - 1, by omega⟩
      obtain ⟨k', rfl⟩ : ∃ j, k' = j + 1 := ⟨k' - 1, by omega⟩
      simp only [uO, h0, if_false]
      refine sN_c n fun d hd => ?_
      by_cases hc : S.testBit d = true ∧ can ah d (rm S d) = true
      · rw [if_pos hc, if_pos hc]
        have := rm_lt hS hc.1
        exact ih (rm S d) this k k' (by omega) (by omega) (by omega)
      · rw [if_neg hc, if_neg hc]
theorem UO_0 (ah : Nat → Nat) (n : Nat) : UO ah n 0 = 1 := rfl
theorem UO_eq {ah : Nat → Nat} {n S : Nat} (h0 : S ≠ 0) (hS : S < 2147483648) : UO ah n S = sN (fun d => if S.testBit d = true ∧ can ah d (rm S d) = true then UO ah n (rm S d) else 0) n := by
  obtain ⟨k, rfl⟩ : ∃ j, S = j + 1 := ⟨S - 1, by omega⟩
  show uO ah n (k + 1) (k + 1) = _
  simp only [uO, h0, if_false]
  refine sN_c n fun d hd => ?_
  by_cases hc : (k + 1).testBit d = true ∧ can ah d (rm (k + 1) d) = true
  · rw [if_pos hc, if_pos hc]
    have := rm_lt hS hc.1
    exact uO_f ah n _ _ _ (by omega) (Nat.le_refl _) (by omega)
  · rw [if_neg hc, if_neg hc]
/-- in how many orders all others come behind those of S -/
def bO (ah : Nat → Nat) (n : Nat) : Nat → Nat → Nat
  | 0, _ => 1
  | k + 1, S => if S = 2 ^ n - 1 then 1 else sN (fun d => if S.testBit d = false ∧ can ah d S = true then bO ah n k (S ||| 2 ^ d) else 0) n
def BO (ah : Nat → Nat) (n S : Nat) : Nat := bO ah n (2 ^ n - 1 - S) S
theorem or_gt {S d n : Nat} (hS : S < 2 ^ n) (hd : d < n) (h : S.testBit d = false) : S < S ||| 2 ^ d ∧ S ||| 2 ^ d < 2 ^ n := by
  refine ⟨?_, Nat.or_lt_two_pow hS (Nat.pow_lt_pow_right (by omega) hd)⟩
  have hle : S ≤ S ||| 2 ^ d := Nat.left_le_or
  refine Nat.lt_of_le_of_ne hle fun e => ?_
  have : (S ||| 2 ^ d).testBit d = true := by rw [tb_or]; simp
  rw [← e, h] at this
  cases this
theorem bO_f (ah : Nat → Nat) (n : Nat) : ∀ m S k k', 2 ^ n - 1 - S = m → m ≤ k → m ≤ k' → S < 2 ^ n → bO ah n k S = bO ah n k' S := by
  intro m
  induction m using Nat.strongRecOn with
  | ind m ih =>
    intro S k k' hm h h' hS
    by_cases h0 : S = 2 ^ n - 1
    · subst h0
      cases k <;> cases k' <;> simp [bO]
    · obtain ⟨k, rfl⟩ : ∃ j, k = j + 1 := ⟨k - 1, by omega⟩
      obtain ⟨k', rfl⟩ : ∃ j, k' = j + 1 := ⟨k' - 1, by omega⟩
      simp only [bO, h0, if_false]
      refine sN_c n fun d hd => ?_
      by_cases hc : S.testBit d = false ∧ can ah d S = true
      · rw [if_pos hc, if_pos hc]
        have := or_gt hS hd hc.1
        exact ih (2 ^ n - 1 - (S ||| 2 ^ d)) (by omega) _ k k' rfl (by omega) (by omega) this.2
      · rw [if_neg hc, if_neg hc]
theorem BO_full (ah : Nat → Nat) (n : Nat) : BO ah n (2 ^ n - 1) = 1 := by
  unfold BO
  rw [Nat.sub_self]
  rfl
theorem BO_eq {ah : Nat → Nat} {n S : Nat} (hS : S < 2 ^ n) (h0 : S ≠ 2 ^ n - 1) : BO ah n S = sN (fun d => if S.testBit d = false ∧ can ah d S = true then BO ah n (S ||| 2 ^ d) else 0) n := by
  obtain ⟨k, hk⟩ : ∃ j, 2 ^ n - 1 - S = j + 1 := ⟨2 ^ n - 1 - S - 1, by omega⟩
  unfold BO
  rw [hk]
  simp only [bO, h0, if_false]
  refine sN_c n fun d hd => ?_
  by_cases hc : S.testBit d = false ∧ can ah d S = true
  · rw [if_pos hc, if_pos hc]
    have := or_gt hS hd hc.1
    exact bO_f ah n _ _ _ _ rfl (by omega) (Nat.le_refl _) this.2
  · rw [if_neg hc, if_neg hc]
theorem rm_or {S d : Nat} (hS : S < 2147483648) (hd : d < 31) (h : S.testBit d = false) : rm (S ||| 2 ^ d) d = S := by
  have h2 : S ||| 2 ^ d < 2147483648 := Nat.or_lt_two_pow (n := 31) hS (Nat.pow_lt_pow_right (by omega) hd)
  apply Nat.eq_of_testBit_eq
  intro j
  rw [rm_tb h2, tb_or]
  by_cases e : d = j
  · subst e; simp [h]
  · simp [e]
theorem or_rm {S d : Nat} (hS : S < 2147483648) (h : S.testBit d = true) : rm S d ||| 2 ^ d = S := by
  apply Nat.eq_of_testBit_eq
  intro j
  rw [tb_or, rm_tb hS]
  by_cases e : d = j
  · subst e; simp [h]
  · simp [e]
/-- where only i's condition is changed: the sets without i stay -/
theorem UO_same {ah ah' : Nat → Nat} {n i : Nat} (he : ∀ d, d ≠ i → ah' d = ah d) : ∀ S, S < 2147483648 → S.testBit i = false → UO ah' n S = UO ah n S := by
  intro S
  induction S using Nat.strongRecOn with
  | ind S ih =>
    intro hS hi
    by_cases h0 : S = 0
    · subst h0; rfl
    · rw [UO_eq h0 hS, UO_eq h0 hS]
      refine sN_c n fun d hd => ?_
      by_cases e : d = i
      · subst e; rw [hi]; rfl
      · have hc : can ah' d (rm S d) = can ah d (rm S d) := by unfold can; rw [he d e]
        rw [hc]
        by_cases hc : S.testBit d = true ∧ can ah d (rm S d) = true
        · rw [if_pos hc, if_pos hc]
          have := rm_lt hS hc.1
          exact ih _ this (by omega) (by rw [rm_tb hS, hi]; rfl)
        · rw [if_neg hc, if_neg hc]
