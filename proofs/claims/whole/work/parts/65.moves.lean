/-! moves: the fewest days moved, of sets one behind another -/
def rm (S i : Nat) : Nat := S &&& (2 ^ i ^^^ 2147483647)
theorem rm_tb {S i j : Nat} (hS : S < 2147483648) : (rm S i).testBit j = (S.testBit j && !decide (i = j)) := tb_nbit hS
theorem rm_le {S i : Nat} : rm S i ≤ S := Nat.and_le_left
theorem rm_lt {S i : Nat} (hS : S < 2147483648) (h : S.testBit i = true) : rm S i < S := by
  refine Nat.lt_of_le_of_ne rm_le fun e => ?_
  have := rm_tb (S := S) (i := i) (j := i) hS
  rw [e, h] at this
  simp at this
theorem rm_xor {S i : Nat} (hS : S < 2147483648) (h : S.testBit i = true) : S ^^^ 2 ^ i = rm S i := by
  apply Nat.eq_of_testBit_eq
  intro j
  rw [rm_tb hS, Nat.testBit_xor, Nat.testBit_two_pow]
  by_cases e : i = j
  · subst e; simp [h]
  · simp [e]
/-- feasts laid one at a step: the fold over the feasts, and step behind step -/
def dF (can : Nat → Nat → Bool) (g : Nat → Nat → Int) (t : Nat) (X : Nat → Int) (S : Nat) : Nat → Int
  | 0 => X S
  | j + 1 => if S.testBit j = true ∧ can j t = true then imin (dF can g t X S j) (X (rm S j) + g j t) else dF can g t X S j
def dX (can : Nat → Nat → Bool) (g : Nat → Nat → Int) (NO : Int) (n : Nat) : Nat → Nat → Int
  | 0 => fun S => if S = 0 then 0 else NO
  | t + 1 => fun S => dF can g t (dX can g NO n t) S n
def wy (can : Nat → Nat → Bool) (n S k : Nat) (f : Nat → Nat) : Prop :=
  (∀ i, i < n → S.testBit i = true → f i < k ∧ can i (f i) = true) ∧ ∀ i j, i < n → j < n → S.testBit i = true → S.testBit j = true → f i = f j → i = j
def sm (g : Nat → Nat → Int) (S : Nat) (f : Nat → Nat) : Nat → Int
  | 0 => 0
  | i + 1 => sm g S f i + (if S.testBit i = true then g i (f i) else 0)
theorem imin_le1 (x y : Int) : imin x y ≤ x ∧ imin x y ≤ y ∧ (imin x y = x ∨ imin x y = y) := by unfold imin; split <;> omega
theorem dF_0 (can : Nat → Nat → Bool) (g : Nat → Nat → Int) (t : Nat) (X : Nat → Int) (S : Nat) : dF can g t X S 0 = X S := rfl
theorem dF_s (can : Nat → Nat → Bool) (g : Nat → Nat → Int) (t : Nat) (X : Nat → Int) (S j : Nat) : dF can g t X S (j + 1) = if S.testBit j = true ∧ can j t = true then imin (dF can g t X S j) (X (rm S j) + g j t) else dF can g t X S j := rfl
theorem dF_le0 {can : Nat → Nat → Bool} {g : Nat → Nat → Int} {t : Nat} {X : Nat → Int} {S : Nat} : ∀ j, dF can g t X S j ≤ X S
  | 0 => Int.le_refl _
  | j + 1 => by
    have := dF_le0 (can := can) (g := g) (t := t) (X := X) (S := S) j
    rw [dF_s]; split
    · have := imin_le1 (dF can g t X S j) (X (rm S j) + g j t); omega
    · exact this
theorem dF_le {can : Nat → Nat → Bool} {g : Nat → Nat → Int} {t : Nat} {X : Nat → Int} {S i : Nat} (h1 : S.testBit i = true) (h2 : can i t = true) : ∀ j, i < j → dF can g t X S j ≤ X (rm S i) + g i t
  | 0, h => by omega
  | j + 1, h => by
    rw [dF_s]
    by_cases e : i = j
    · subst e; rw [if_pos ⟨h1, h2⟩]; exact (imin_le1 _ _).2.1
    · have := dF_le (can := can) (g := g) (t := t) (X := X) (S := S) (i := i) h1 h2 j (by omega)
      split
      · have := imin_le1 (dF can g t X S j) (X (rm S j) + g j t); omega
      · exact this
theorem dF_cs {can : Nat → Nat → Bool} {g : Nat → Nat → Int} {t : Nat} {X : Nat → Int} {S : Nat} : ∀ j, dF can g t X S j = X S ∨ ∃ i, i < j ∧ S.testBit i = true ∧ can i t = true ∧ dF can g t X S j = X (rm S i) + g i t
  | 0 => Or.inl rfl
  | j + 1 => by
    have ih : dF can g t X S j = X S ∨ ∃ i, i < j + 1 ∧ S.testBit i = true ∧ can i t = true ∧ dF can g t X S j = X (rm S i) + g i t := by
      rcases dF_cs (can := can) (g := g) (t := t) (X := X) (S := S) j with h | ⟨i, a, b⟩
      · exact Or.inl h
      · exact Or.inr ⟨i, by omega, b⟩
    rw [dF_s]; split
    next h =>
      rcases (imin_le1 (dF can g t X S j) (X (rm S j) + g j t)).2.2 with e | e <;> rw [e]
      · exact ih
      · exact Or.inr ⟨j, by omega, h.1, h.2, rfl⟩
    next h => exact ih
theorem sm_eq {g : Nat → Nat → Int} {S S' : Nat} {f f' : Nat → Nat} : ∀ n, (∀ i, i < n → S.testBit i = S'.testBit i ∧ (S.testBit i = true → f i = f' i)) → sm g S f n = sm g S' f' n
  | 0, _ => rfl
  | n + 1, h => by
    show sm g S f n + _ = sm g S' f' n + _
    rw [sm_eq n fun i hi => h i (by omega)]
    obtain ⟨a, b⟩ := h n (by omega)
    rw [← a]
    by_cases e : S.testBit n = true
    · rw [if_pos e, if_pos e, b e]
    · rw [if_neg e, if_neg e]
theorem sm_rm {g : Nat → Nat → Int} {S i : Nat} {f : Nat → Nat} (hS : S < 2147483648) (hi : S.testBit i = true) : ∀ n, i < n → sm g S f n = sm g (rm S i) f n + g i (f i)
  | 0, h => by omega
  | n + 1, h => by
    show sm g S f n + _ = sm g (rm S i) f n + _ + _
    rw [rm_tb hS]
    by_cases e : i = n
    · subst e
      rw [sm_eq (S' := rm S i) (f' := f) i fun j hj => ⟨by rw [rm_tb hS]; simp [show i ≠ j by omega], fun _ => rfl⟩, if_pos hi, if_neg (by simp)]; omega
    · rw [sm_rm hS hi n (by omega)]
      simp only [e, decide_false, Bool.not_false, Bool.and_true]
      omega
theorem sm_z {g : Nat → Nat → Int} {f : Nat → Nat} : ∀ n, sm g 0 f n = 0
  | 0 => rfl
  | n + 1 => by show sm g 0 f n + _ = _; rw [sm_z n]; simp
theorem sm_bd {g : Nat → Nat → Int} {S : Nat} {f : Nat → Nat} {G : Int} (hG : 0 ≤ G) : ∀ n : Nat, (∀ i, i < n → S.testBit i = true → 0 ≤ g i (f i) ∧ g i (f i) ≤ G) → 0 ≤ sm g S f n ∧ sm g S f n ≤ n * G
  | 0, _ => by simp [sm]
  | n + 1, h => by
    have a := sm_bd hG n fun i hi => h i (by omega)
    have b := h n (by omega)
    have e : ((n + 1 : Nat) : Int) * G = n * G + G := by rw [Int.natCast_add, Int.add_mul]; simp
    show 0 ≤ sm g S f n + _ ∧ sm g S f n + _ ≤ _
    rw [e]
    split
    next h' => have := b h'; omega
    next => omega
theorem dX_le {can : Nat → Nat → Bool} {g : Nat → Nat → Int} {NO : Int} {n : Nat} (hn : n ≤ 30) : ∀ k S f, S < 2 ^ n → wy can n S k f → dX can g NO n k S ≤ sm g S f n
  | 0, S, f, hS, w => by
    have : S = 0 := by
      apply Nat.eq_of_testBit_eq
      intro i
      rw [Nat.zero_testBit]
      by_cases hi : i < n
      · cases hb : S.testBit i with
        | false => rfl
        | true => have := (w.1 i hi hb).1; omega
      · exact tb_lt hS (by omega)
    subst this
    rw [sm_z]
    exact Int.le_refl _
  | k + 1, S, f, hS, w => by
    have hp : 2 ^ n ≤ 2 ^ 30 := Nat.pow_le_pow_right (by omega) hn
    show dF can g k (dX can g NO n k) S n ≤ _
    by_cases h : ∃ i, i < n ∧ S.testBit i = true ∧ f i = k
    · obtain ⟨i, hi, hb, he⟩ := h
      have a := dF_le (X := dX can g NO n k) (g := g) hb (he ▸ (w.1 i hi hb).2) n hi
      have b := dX_le (can := can) (g := g) (NO := NO) hn k (rm S i) f (Nat.lt_of_le_of_lt rm_le hS) ⟨fun j hj hbj => ?_, fun j l hj hl hbj hbl => ?_⟩
      · rw [sm_rm (by omega) hb n hi, he]; omega
      · rw [rm_tb (by omega)] at hbj
        simp at hbj
        have := w.1 j hj hbj.1
        have := w.2 i j hi hj hb hbj.1
        exact ⟨by omega, (w.1 j hj hbj.1).2⟩
      · rw [rm_tb (by omega)] at hbj hbl
        simp at hbj hbl
        exact w.2 j l hj hl hbj.1 hbl.1
    · have a := dF_le0 (can := can) (g := g) (t := k) (X := dX can g NO n k) (S := S) n
      have b := dX_le (can := can) (g := g) (NO := NO) hn k S f hS ⟨fun j hj hbj => ⟨by
        have := (w.1 j hj hbj).1
        have : f j ≠ k := fun e => h ⟨j, hj, hbj, e⟩
        omega, (w.1 j hj hbj).2⟩, w.2⟩
      omega
theorem dX_ex {can : Nat → Nat → Bool} {g : Nat → Nat → Int} {NO : Int} {n : Nat} (hn : n ≤ 30) (hg : ∀ i t, 0 ≤ g i t) : ∀ k S, S < 2 ^ n → dX can g NO n k S < NO → ∃ f, wy can n S k f ∧ sm g S f n = dX can g NO n k S
  | 0, S, hS, h => by
    have hd : dX can g NO n 0 S = if S = 0 then 0 else NO := rfl
    rw [hd] at h ⊢
    by_cases e : S = 0
    · subst e
      exact ⟨fun _ => 0, ⟨fun i _ hb => by simp at hb, fun i j _ _ hb => by simp at hb⟩, by rw [sm_z]; rfl⟩
    · rw [if_neg e] at h; omega
  | k + 1, S, hS, h => by
    have hp : 2 ^ n ≤ 2 ^ 30 := Nat.pow_le_pow_right (by omega) hn
    have hd : dX can g NO n (k + 1) S = dF can g k (dX can g NO n k) S n := rfl
    rw [hd] at h ⊢
    rcases dF_cs (can := can) (g := g) (t := k) (X := dX can g NO n k) (S := S) n with e | ⟨i, hi, hb, hc, e⟩ <;> rw [e] at h ⊢
    · obtain ⟨f, w, s⟩ := dX_ex hn hg k S hS h
      exact ⟨f, ⟨fun i hi hb => ⟨by have := (w.1 i hi hb).1; omega, (w.1 i hi hb).2⟩, w.2⟩, s⟩
    · have := hg i k
      obtain ⟨f, w, s⟩ := dX_ex (can := can) (NO := NO) hn hg k (rm S i) (Nat.lt_of_le_of_lt rm_le hS) (by omega)
      have hw : ∀ j, j < n → S.testBit j = true → j ≠ i → f j < k ∧ can j (f j) = true := fun j hj hbj ne => w.1 j hj (by rw [rm_tb (by omega), hbj]; simp [Ne.symm ne])
      refine ⟨fun j => if j = i then k else f j, ⟨fun j hj hbj => ?_, fun j l hj hl hbj hbl he => ?_⟩, ?_⟩
      · dsimp only
        by_cases e : j = i
        · rw [if_pos e, e]; exact ⟨by omega, hc⟩
        · rw [if_neg e]; have := hw j hj hbj e; exact ⟨by omega, this.2⟩
      · dsimp only at he
        by_cases e1 : j = i <;> by_cases e2 : l = i
        · omega
        · rw [if_pos e1, if_neg e2] at he; have := hw l hl hbl e2; omega
        · rw [if_neg e1, if_pos e2] at he; have := hw j hj hbj e1; omega
        · rw [if_neg e1, if_neg e2] at he
          exact w.2 j l hj hl (by rw [rm_tb (by omega), hbj]; simp [Ne.symm e1]) (by rw [rm_tb (by omega), hbl]; simp [Ne.symm e2]) he
      · rw [sm_rm (by omega) hb n hi, sm_eq (S' := rm S i) (f' := f) n fun j hj => ⟨rfl, fun hbj => ?_⟩, s, if_pos rfl]
        rw [rm_tb (by omega)] at hbj
        simp at hbj
        rw [if_neg (Ne.symm hbj.2)]
theorem dX_up {can : Nat → Nat → Bool} {g : Nat → Nat → Int} {NO : Int} {n : Nat} (hg : ∀ i t, 0 ≤ g i t) (h0 : 0 ≤ NO) : ∀ k S, 0 ≤ dX can g NO n k S ∧ dX can g NO n k S ≤ NO
  | 0, S => by
    show 0 ≤ (if S = 0 then (0 : Int) else NO) ∧ (if S = 0 then (0 : Int) else NO) ≤ NO
    split <;> omega
  | k + 1, S => by
    show 0 ≤ dF can g k (dX can g NO n k) S n ∧ dF can g k (dX can g NO n k) S n ≤ NO
    have a := dF_le0 (can := can) (g := g) (t := k) (X := dX can g NO n k) (S := S) n
    have b := dX_up (can := can) (n := n) hg h0 k S
    rcases dF_cs (can := can) (g := g) (t := k) (X := dX can g NO n k) (S := S) n with e | ⟨i, hi, hb, hc, e⟩
    · rw [e]; exact b
    · have c := dX_up (can := can) (n := n) hg h0 k (rm S i)
      have := hg i k
      omega
theorem dF_ns {can : Nat → Nat → Bool} {g : Nat → Nat → Int} {t : Nat} {X : Nat → Int} : ∀ j, dF can g t X 0 j = X 0
  | 0 => rfl
  | j + 1 => by rw [dF_s, if_neg (by simp), dF_ns j]
