/-! text: the tokens, purely -/
abbrev aTk : Type := Int × Int × Int
def rE (P : Int → Bool) (b : Nat → Int) (n : Nat) : Nat → Nat → Nat
  | 0, p => p
  | f + 1, p => if p < n ∧ P (b p) = true then rE P b n f (p + 1) else p
/-- where a run ends -/
def re (P : Int → Bool) (b : Nat → Int) (n p : Nat) : Nat := rE P b n (n - p) p
theorem re_eq (P : Int → Bool) (b : Nat → Int) (n p : Nat) : re P b n p = if p < n ∧ P (b p) = true then re P b n (p + 1) else p := by
  unfold re
  by_cases h : p < n
  · rw [show n - p = (n - (p + 1)) + 1 by omega]; rfl
  · rw [show n - p = 0 by omega, if_neg fun e => h e.1]; rfl
theorem re_in (P : Int → Bool) (b : Nat → Int) (n : Nat) : ∀ f p, n - p = f → p ≤ re P b n p ∧ (p ≤ n → re P b n p ≤ n) ∧ (∀ i, p ≤ i → i < re P b n p → P (b i) = true) ∧ (re P b n p < n → P (b (re P b n p)) = false)
  | 0, p, h => by
    rw [re_eq, if_neg (by omega)]
    exact ⟨Nat.le_refl _, fun h => h, fun i _ _ => by omega, fun _ => by omega⟩
  | f + 1, p, h => by
    rw [re_eq]
    by_cases hc : p < n ∧ P (b p) = true
    · rw [if_pos hc]
      obtain ⟨a1, a2, a3, a4⟩ := re_in P b n f (p + 1) (by omega)
      refine ⟨by omega, fun _ => a2 (by omega), fun i h1 h2 => ?_, a4⟩
      by_cases e : i = p
      · rw [e]; exact hc.2
      · exact a3 i (by omega) h2
    · rw [if_neg hc]
      refine ⟨Nat.le_refl _, fun h => h, fun i _ _ => by omega, fun h => ?_⟩
      cases hp : P (b p) with
      | false => rfl
      | true => exact absurd ⟨h, hp⟩ hc
theorem re_ge (P : Int → Bool) (b : Nat → Int) (n p : Nat) : p ≤ re P b n p := (re_in P b n _ p rfl).1
theorem re_le {P : Int → Bool} {b : Nat → Int} {n p : Nat} (h : p ≤ n) : re P b n p ≤ n := (re_in P b n _ p rfl).2.1 h
def isL (c : Int) : Bool := decide ((97 ≤ c ∧ c ≤ 122) ∨ (65 ≤ c ∧ c ≤ 90))
def isD (c : Int) : Bool := decide (48 ≤ c ∧ c ≤ 57)
def isB (c : Int) : Bool := decide (c = 32 ∨ c = 10)
def isS (c : Int) : Bool := decide (c = 59 ∨ c = 43 ∨ c = 45 ∨ c = 42 ∨ c = 47 ∨ c = 40 ∨ c = 41 ∨ c = 60 ∨ c = 61 ∨ c = 62)
def weq (b : Nat → Int) : Nat → List Nat → Bool
  | _, [] => true
  | s, x :: w => decide (b s = (x : Int)) && weq b (s + 1) w
def wix (b : Nat → Int) (s e : Nat) : List (List Nat) → Nat → Int
  | [], _ => 2
  | w :: l, k => if e - s = w.length ∧ weq b s w = true then ((256 + k : Nat) : Int) else wix b s e l (k + 1)
def nV (b : Nat → Int) : Nat → Nat → Int → Int
  | 0, _, v => v
  | c + 1, p, v => nV b c (p + 1) (v * 10 + b p - 48)
/-- the words of a text -/
def wl : List Nat → List Nat → List (List Nat)
  | [], cur => [cur]
  | x :: r, cur => if x = 32 then cur :: wl r [] else wl r (cur ++ [x])
def tkAt (ws : List (List Nat)) (b : Nat → Int) (n s : Nat) : aTk × Nat :=
  if isL (b s) = true then ((wix b s (re isL b n s) ws 0, 0, (s : Int)), re isL b n s)
  else if isD (b s) = true then ((if re isD b n s - s ≤ 4 then 1 else 2, nV b (min (re isD b n s - s) 4) s 0, (s : Int)), re isD b n s)
  else ((if isS (b s) = true then b s else 2, 0, (s : Int)), s + 1)
theorem tkAt_in (ws : List (List Nat)) (b : Nat → Int) {n s : Nat} (h : s < n) : s < (tkAt ws b n s).2 ∧ (tkAt ws b n s).2 ≤ n ∧ (tkAt ws b n s).1.2.2 = (s : Int) := by
  unfold tkAt
  by_cases h1 : isL (b s) = true
  · rw [if_pos h1]
    have e : re isL b n s = re isL b n (s + 1) := by rw [re_eq, if_pos ⟨h, h1⟩]
    have := re_ge isL b n (s + 1)
    have := re_le (P := isL) (b := b) (n := n) (p := s) (by omega)
    exact ⟨by dsimp only; omega, this, rfl⟩
  · rw [if_neg h1]
    by_cases h2 : isD (b s) = true
    · rw [if_pos h2]
      have e : re isD b n s = re isD b n (s + 1) := by rw [re_eq, if_pos ⟨h, h2⟩]
      have := re_ge isD b n (s + 1)
      have := re_le (P := isD) (b := b) (n := n) (p := s) (by omega)
      exact ⟨by dsimp only; omega, this, rfl⟩
    · rw [if_neg h2]
      exact ⟨by dsimp only; omega, by dsimp only; omega, rfl⟩
def tks (ws : List (List Nat)) (b : Nat → Int) (n : Nat) : Nat → Nat → List aTk
  | 0, _ => []
  | f + 1, p => if re isB b n p < n then (tkAt ws b n (re isB b n p)).1 :: tks ws b n f (tkAt ws b n (re isB b n p)).2 else []
/-- the tokens from a place on -/
def toks (ws : List (List Nat)) (b : Nat → Int) (n p : Nat) : List aTk := tks ws b n (n - p) p
theorem tks_f (ws : List (List Nat)) (b : Nat → Int) (n : Nat) : ∀ f f' p, n - p ≤ f → n - p ≤ f' → tks ws b n f p = tks ws b n f' p
  | 0, f', p, h, h' => by
    cases f' with
    | zero => rfl
    | succ f' =>
      have := re_ge isB b n p
      unfold tks
      rw [if_neg (by omega)]
  | f + 1, 0, p, h, h' => by
    have := re_ge isB b n p
    unfold tks
    rw [if_neg (by omega)]
  | f + 1, f' + 1, p, h, h' => by
    unfold tks
    by_cases hc : re isB b n p < n
    · have h1 := re_ge isB b n p
      have h2 := tkAt_in ws b hc
      rw [if_pos hc, if_pos hc, tks_f ws b n f f' _ (by omega) (by omega)]
    · rw [if_neg hc, if_neg hc]
theorem toks_eq (ws : List (List Nat)) (b : Nat → Int) (n p : Nat) : toks ws b n p = if re isB b n p < n then (tkAt ws b n (re isB b n p)).1 :: toks ws b n (tkAt ws b n (re isB b n p)).2 else [] := by
  unfold toks
  have h1 := re_ge isB b n p
  by_cases hc : re isB b n p < n
  · have h2 := tkAt_in ws b hc
    rw [show n - p = (n - p - 1) + 1 by omega]
    show (if re isB b n p < n then _ else _) = _
    rw [if_pos hc, if_pos hc, tks_f ws b n _ (n - (tkAt ws b n (re isB b n p)).2) _ (by omega) (Nat.le_refl _)]
  · rw [if_neg hc]
    cases h : n - p with
    | zero => rfl
    | succ k =>
      show (if re isB b n p < n then _ else _) = _
      rw [if_neg hc]
theorem toks_len (ws : List (List Nat)) (b : Nat → Int) (n : Nat) : ∀ f p, n - p = f → (toks ws b n p).length ≤ n - p := by
  intro f
  induction f using Nat.strongRecOn with
  | ind f ih =>
    intro p h
    rw [toks_eq]
    have h1 := re_ge isB b n p
    by_cases hc : re isB b n p < n
    · have h2 := tkAt_in ws b hc
      have := ih (n - (tkAt ws b n (re isB b n p)).2) (by omega) _ rfl
      rw [if_pos hc, List.length_cons]
      omega
    · rw [if_neg hc]; exact Nat.zero_le _
/-- what a token can be -/
def tOK (m : Nat) (t : aTk) : Prop := (t.1 = 1 ∨ t.1 = 2 ∨ (256 ≤ t.1 ∧ t.1 < 256 + m) ∨ isS t.1 = true) ∧ (t.1 = 1 → 0 ≤ t.2.1 ∧ t.2.1 ≤ 9999)
theorem wix_in (b : Nat → Int) (s e : Nat) : ∀ (l : List (List Nat)) (k : Nat), wix b s e l k = 2 ∨ (256 + (k : Int) ≤ wix b s e l k ∧ wix b s e l k < 256 + (k : Int) + l.length)
  | [], k => Or.inl rfl
  | w :: l, k => by
    unfold wix
    rw [List.length_cons]
    split
    · right; omega
    · have := wix_in b s e l (k + 1)
      omega
theorem nV_in (b : Nat → Int) : ∀ c p v, (∀ i, p ≤ i → i < p + c → 48 ≤ b i ∧ b i ≤ 57) → 0 ≤ v → 0 ≤ nV b c p v ∧ nV b c p v ≤ v * 10 ^ c + (10 ^ c - 1)
  | 0, p, v, h, h0 => by simp [nV, h0]
  | c + 1, p, v, h, h0 => by
    have hb := h p (Nat.le_refl _) (by omega)
    have ih := nV_in b c (p + 1) (v * 10 + b p - 48) (fun i h1 h2 => h i (by omega) (by omega)) (by omega)
    unfold nV
    refine ⟨ih.1, Int.le_trans ih.2 ?_⟩
    have h2 : ((10 ^ c : Nat) : Int) = (10 : Int) ^ c := by simp
    have h3 : (0 : Int) ≤ 10 ^ c := by rw [← h2]; exact Int.natCast_nonneg _
    have e : (v * 10 + b p - 48) * 10 ^ c ≤ (v * 10 + 9) * (10 : Int) ^ c := Int.mul_le_mul_of_nonneg_right (by omega) h3
    have e2 : (v * 10 + 9) * (10 : Int) ^ c = v * 10 ^ (c + 1) + 9 * 10 ^ c := by rw [Int.add_mul, Int.pow_succ, Int.mul_assoc, Int.mul_comm 10]
    rw [e2] at e
    have e3 : (10 : Int) ^ (c + 1) = 10 * 10 ^ c := by rw [Int.pow_succ, Int.mul_comm]
    omega
theorem nV_4 {b : Nat → Int} {c p : Nat} (hc : c ≤ 4) (h : ∀ i, p ≤ i → i < p + c → 48 ≤ b i ∧ b i ≤ 57) : 0 ≤ nV b c p 0 ∧ nV b c p 0 ≤ 9999 := by
  have := nV_in b c p 0 h (by omega)
  refine ⟨this.1, Int.le_trans this.2 ?_⟩
  have h4 : c = 0 ∨ c = 1 ∨ c = 2 ∨ c = 3 ∨ c = 4 := by omega
  rcases h4 with e | e | e | e | e <;> subst e <;> decide
theorem re_D {b : Nat → Int} {n s i : Nat} (h1 : s ≤ i) (h2 : i < re isD b n s) : 48 ≤ b i ∧ b i ≤ 57 := of_decide_eq_true ((re_in isD b n _ s rfl).2.2.1 i h1 h2)
theorem tkAt_ok (ws : List (List Nat)) (b : Nat → Int) (n s : Nat) : tOK ws.length (tkAt ws b n s).1 := by
  unfold tkAt
  split
  · have := wix_in b s (re isL b n s) ws 0
    refine ⟨?_, fun e => ?_⟩
    · dsimp only
      rcases this with h | h
      · exact Or.inr (Or.inl h)
      · exact Or.inr (Or.inr (Or.inl (by omega)))
    · dsimp only at e; omega
  · split
    · refine ⟨?_, fun e => ?_⟩
      · dsimp only; split
        · exact Or.inl rfl
        · exact Or.inr (Or.inl rfl)
      · dsimp only
        have := re_ge isD b n s
        exact nV_4 (by omega) fun i h1 h2 => re_D (n := n) h1 (by omega)
    · refine ⟨?_, fun e => ?_⟩
      · dsimp only
        split
        · next h => exact Or.inr (Or.inr (Or.inr h))
        · exact Or.inr (Or.inl rfl)
      · dsimp only at e
        split at e
        · next h => rw [e] at h; cases h
        · cases e
theorem toks_ok (ws : List (List Nat)) (b : Nat → Int) (n : Nat) : ∀ f p, n - p = f → ∀ t, t ∈ toks ws b n p → tOK ws.length t := by
  intro f
  induction f using Nat.strongRecOn with
  | ind f ih =>
    intro p h t ht
    rw [toks_eq] at ht
    have h1 := re_ge isB b n p
    by_cases hc : re isB b n p < n
    · have h2 := tkAt_in ws b hc
      rw [if_pos hc] at ht
      rcases List.mem_cons.1 ht with e | e
      · rw [e]; exact tkAt_ok ws b n _
      · exact ih (n - (tkAt ws b n (re isB b n p)).2) (by omega) _ rfl t e
    · rw [if_neg hc] at ht; cases ht
def hdK : List aTk → Int
  | [] => 0
  | t :: _ => t.1
def hdV : List aTk → Int
  | [] => 0
  | t :: _ => t.2.1
def hdP (n : Nat) : List aTk → Int
  | [] => (n : Int)
  | t :: _ => t.2.2
theorem hdK_ok {m : Nat} {ts : List aTk} (h : ∀ t, t ∈ ts → tOK m t) : hdK ts = 0 ∨ hdK ts = 1 ∨ hdK ts = 2 ∨ (256 ≤ hdK ts ∧ hdK ts < 256 + m) ∨ (40 ≤ hdK ts ∧ hdK ts ≤ 62) := by
  cases ts with
  | nil => exact Or.inl rfl
  | cons t ts =>
    rcases (h t (by simp)).1 with h | h | h | h
    · exact Or.inr (Or.inl h)
    · exact Or.inr (Or.inr (Or.inl h))
    · exact Or.inr (Or.inr (Or.inr (Or.inl h)))
    · have := of_decide_eq_true h
      exact Or.inr (Or.inr (Or.inr (Or.inr (by show 40 ≤ t.1 ∧ t.1 ≤ 62; omega))))
theorem hdV_ok {m : Nat} {ts : List aTk} (h : ∀ t, t ∈ ts → tOK m t) (h1 : hdK ts = 1) : 0 ≤ hdV ts ∧ hdV ts ≤ 9999 := by
  cases ts with
  | nil => exact absurd h1 (by decide)
  | cons t ts => exact (h t (by simp)).2 h1
