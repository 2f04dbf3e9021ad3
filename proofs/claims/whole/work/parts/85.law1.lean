/-! text: the law, purely -/
abbrev aCd : Type := List (Int × Int)
def pUn (n : Nat) (ts : List aTk) : aRes ((Int × Int) × List aTk) :=
  if hdK ts = 1 then .inr ((0, hdV ts), ts.tail) else if 263 ≤ hdK ts ∧ hdK ts ≤ 272 then .inr ((hdK ts - 262, 0), ts.tail) else .inl (1, hdP n ts)
def pnd (s : Int) : aCd := if s = 0 then [] else [(s, 0)]
/-- behind the first value of a product: how waits a sum -/
def pX (n : Nat) : Nat → Int → aCd → List aTk → aRes (aCd × List aTk)
  | 0, _, _, _ => .inl (0, 0)
  | f + 1, s, c, ts =>
    if hdK ts = 42 then (match pUn n ts.tail with
      | .inl e => .inl e
      | .inr q => pX n f s (c ++ [q.1, (25, 0)]) q.2)
    else if hdK ts = 47 then (match pNum n 1 9999 ts.tail with
      | .inl e => .inl e
      | .inr q => pX n f s (c ++ [(26, q.1)]) q.2)
    else if hdK ts = 43 ∨ hdK ts = 45 then (match pUn n ts.tail with
      | .inl e => .inl e
      | .inr q => pX n f (if hdK ts = 43 then 23 else 24) (c ++ pnd s ++ [q.1]) q.2)
    else .inr (c ++ pnd s, ts)
def pEx (n : Nat) (ts : List aTk) : aRes (aCd × List aTk) :=
  match pUn n ts with
  | .inl e => .inl e
  | .inr q => pX n (q.2.length + 1) 0 [q.1] q.2
def pCm (n : Nat) (ts : List aTk) : aRes (aCd × List aTk) :=
  match pEx n ts with
  | .inl e => .inl e
  | .inr q => if hdK q.2 = 60 ∨ hdK q.2 = 61 ∨ hdK q.2 = 62 then
      (match pEx n q.2.tail with
      | .inl e => .inl e
      | .inr q' => .inr (q.1 ++ q'.1 ++ [(hdK q.2 - 33, 0)], q'.2))
    else .inl (1, hdP n q.2)
def opn : List Int → Nat
  | [] => 0
  | x :: l => (if x = 40 ∨ x = 262 then 1 else 0) + opn l
def brk : List Int → Nat
  | [] => 0
  | x :: l => (if x = 40 then 1 else 0) + brk l
def lkn : List Int → Nat
  | [] => 0
  | x :: l => (if x = 40 ∨ x = 262 then 0 else 1) + lkn l
def hd0 : List Int → Int
  | [] => 0
  | x :: _ => x
/-- what can wait -/
def vStk : List Int → Prop
  | [] => True
  | x :: l => vStk l ∧ (x = 40 ∨ x = 262 ∨ (x = 261 ∧ (hd0 l = 0 ∨ hd0 l = 260 ∨ hd0 l = 40)) ∨ (x = 260 ∧ (hd0 l = 0 ∨ hd0 l = 40)))
theorem hd0_0 {l : List Int} (h : vStk l) (h0 : hd0 l = 0) : l = [] := by
  cases l with
  | nil => rfl
  | cons x l =>
    obtain ⟨-, h⟩ := h
    have : x = 0 := h0
    omega
theorem vS_len : ∀ (l : List Int), vStk l → l.length = opn l + lkn l ∧ lkn l ≤ 2 * opn l + (if hd0 l = 261 then 2 else if hd0 l = 260 then 1 else 0)
  | [], _ => ⟨rfl, by decide⟩
  | x :: l, h => by
    obtain ⟨h1, h2⟩ := h
    have ih := vS_len l h1
    have he : l = [] → opn l = 0 ∧ lkn l = 0 := by intro e; subst e; exact ⟨rfl, rfl⟩
    simp only [List.length_cons, opn, lkn]
    show _ ∧ _ ≤ _ + (if x = 261 then 2 else if x = 260 then 1 else 0)
    rcases h2 with e | e | ⟨e, e2⟩ | ⟨e, e2⟩
    · subst e
      rw [if_pos (Or.inl rfl), if_pos (Or.inl rfl), if_neg (by decide), if_neg (by decide)]
      have : (if hd0 l = 261 then 2 else if hd0 l = 260 then 1 else 0) ≤ 2 := by split <;> (try split) <;> omega
      omega
    · subst e
      rw [if_pos (Or.inr rfl), if_pos (Or.inr rfl), if_neg (by decide), if_neg (by decide)]
      have : (if hd0 l = 261 then 2 else if hd0 l = 260 then 1 else 0) ≤ 2 := by split <;> (try split) <;> omega
      omega
    · subst e
      rw [if_neg (by decide), if_neg (by decide), if_pos rfl]
      have : (if hd0 l = 261 then 2 else if hd0 l = 260 then 1 else 0) ≤ 1 := by split <;> (try split) <;> omega
      omega
    · subst e
      rw [if_neg (by decide), if_neg (by decide), if_neg (by decide), if_pos rfl]
      have : (if hd0 l = 261 then 2 else if hd0 l = 260 then 1 else 0) = 0 := by rw [if_neg (by omega), if_neg (by omega)]
      omega
theorem vS_32 {l : List Int} (h : vStk l) (h8 : opn l ≤ 8) : l.length ≤ 26 ∧ lkn l ≤ 18 := by
  have := vS_len l h
  have h2 : (if hd0 l = 261 then 2 else if hd0 l = 260 then 1 else 0) ≤ 2 := by split <;> (try split) <;> omega
  omega
abbrev aAct : Type := (Int × Int) ⊕ ((aCd × List aTk) ⊕ (List Int × List aTk × aCd))
/-- behind a whole test, with what waits -/
def finB (n : Nat) : List Int → List aTk → aCd → aAct
  | [], ts, c => if hdK ts = 261 then .inr (.inr ([261], ts.tail, c)) else if hdK ts = 260 then .inr (.inr ([260], ts.tail, c)) else .inr (.inl (c, ts))
  | x :: l, ts, c =>
    if x = 262 then finB n l ts (c ++ [(30, 0)])
    else if x = 261 then finB n l ts (c ++ [(31, 0)])
    else if x = 260 then (if hdK ts = 261 then .inr (.inr (261 :: 260 :: l, ts.tail, c)) else finB n l ts (c ++ [(32, 0)]))
    else if hdK ts = 261 then .inr (.inr (261 :: 40 :: l, ts.tail, c))
    else if hdK ts = 260 then .inr (.inr (260 :: 40 :: l, ts.tail, c))
    else if hdK ts = 41 then finB n l ts.tail c
    else .inl (1, hdP n ts)
/-- a condition, with what waits -/
def kA (n : Nat) : Nat → List Int → List aTk → aCd → Option (aRes (aCd × List aTk))
  | 0, _, _, _ => none
  | f + 1, l, ts, c =>
    if hdK ts = 40 ∨ hdK ts = 262 then (if opn l = 8 then some (.inl (3, hdP n ts)) else kA n f (hdK ts :: l) ts.tail c)
    else match pCm n ts with
      | .inl e => some (.inl e)
      | .inr q => match finB n l q.2 (c ++ q.1) with
        | .inl e => some (.inl e)
        | .inr (.inl r) => some (.inr r)
        | .inr (.inr r) => kA n f r.1 r.2.1 r.2.2
/-- what comes of an act -/
def kB (n : Nat) (f : Nat) : aAct → Option (aRes (aCd × List aTk))
  | .inl e => some (.inl e)
  | .inr (.inl r) => some (.inr r)
  | .inr (.inr r) => kA n f r.1 r.2.1 r.2.2
theorem kA_s (n f : Nat) (l : List Int) (ts : List aTk) (c : aCd) : kA n (f + 1) l ts c = if hdK ts = 40 ∨ hdK ts = 262 then (if opn l = 8 then some (.inl (3, hdP n ts)) else kA n f (hdK ts :: l) ts.tail c)
    else match pCm n ts with
      | .inl e => some (.inl e)
      | .inr q => kB n f (finB n l q.2 (c ++ q.1)) := by
  show (if hdK ts = 40 ∨ hdK ts = 262 then _ else _) = _
  by_cases h : hdK ts = 40 ∨ hdK ts = 262
  · rw [if_pos h, if_pos h]
  · rw [if_neg h, if_neg h]
    cases pCm n ts with
    | inl e => rfl
    | inr q =>
      dsimp only
      unfold kB
      rcases finB n l q.2 (c ++ q.1) with e | r | r <;> rfl
/-! lengths and types -/
theorem cEnc_app (a b : aCd) : cEnc (a ++ b) = cEnc a ++ cEnc b := by
  induction a with
  | nil => rfl
  | cons x a ih =>
    obtain ⟨s, v⟩ := x
    show _ ++ cEnc (a ++ b) = (_ ++ cEnc a) ++ cEnc b
    rw [ih, List.append_assoc]
theorem cEnc_1 (s v : Int) (h : s ≠ 26) : (cEnc [(s, v)]).length = 1 := by
  simp only [cEnc, List.append_nil]
  repeat' split
  all_goals first | rfl | (exfalso; omega)
theorem cEnc_len (a : aCd) : a.length ≤ (cEnc a).length := by
  induction a with
  | nil => exact Nat.le_refl _
  | cons x a ih =>
    obtain ⟨s, v⟩ := x
    rw [show (s, v) :: a = [(s, v)] ++ a from rfl, cEnc_app, List.length_append, List.length_append]
    have : 1 ≤ (cEnc [(s, v)]).length := by
      simp only [cEnc, List.append_nil]
      split
      · exact Nat.le_refl _
      · split
        · exact Nat.le_refl _
        · split
          · simp
          · exact Nat.le_refl _
    simp only [List.length_cons, List.length_nil]
    omega
theorem iTy_app (a b : aCd) (t : List Bool) : iTy (a ++ b) t = match iTy a t with
    | none => none
    | some t' => iTy b t' := by
  induction a generalizing t with
  | nil => rfl
  | cons x a ih =>
    obtain ⟨s, v⟩ := x
    rw [List.cons_append]
    simp only [iTy]
    repeat' split
    all_goals first | rfl | (rw [ih]; done) | (simp_all; done) | (rw [ih]; simp_all)
theorem iTy_f {s v : Int} {t : List Bool} (h : 0 ≤ s ∧ s < 11 ∧ t.length < 31 ∧ (s = 0 → 0 ≤ v ∧ v ≤ 9999)) : iTy [(s, v)] t = some (false :: t) := by
  simp only [iTy]
  rw [if_pos (by omega), if_pos ⟨h.1, h.2.2.1, h.2.2.2⟩]
theorem iTy_ar {s : Int} {t : List Bool} {x y : Bool} (h : s = 23 ∨ s = 24 ∨ s = 25) : iTy [(s, 0)] (x :: y :: t) = some (false :: t) := by
  rcases h with h | h | h <;> subst h <;> rfl
theorem iTy_cm {s : Int} {t : List Bool} {x y : Bool} (h : s = 27 ∨ s = 28 ∨ s = 29) : iTy [(s, 0)] (x :: y :: t) = some (true :: t) := by
  rcases h with h | h | h <;> subst h <;> rfl
theorem iTy_by {v : Int} {t : List Bool} {x : Bool} (h : 1 ≤ v ∧ v ≤ 9999) : iTy [(26, v)] (x :: t) = some (false :: t) := by
  simp only [iTy]
  rw [if_neg (by decide), if_pos trivial, if_pos h]
theorem iTy_not {t : List Bool} : iTy [(30, 0)] (true :: t) = some (true :: t) := rfl
theorem iTy_lk {s : Int} {t : List Bool} (h : s = 31 ∨ s = 32) : iTy [(s, 0)] (true :: true :: t) = some (true :: t) := by
  rcases h with h | h <;> subst h <;> rfl
/-- good tokens: numbers in bounds -/
def tsV (ts : List aTk) : Prop := ∀ t, t ∈ ts → t.1 = 1 → 0 ≤ t.2.1 ∧ t.2.1 ≤ 9999
theorem tsV_t {ts : List aTk} (h : tsV ts) : tsV ts.tail := fun t ht => h t (List.mem_of_mem_tail ht)
theorem tsV_h {ts : List aTk} (h : tsV ts) (h1 : hdK ts = 1) : 0 ≤ hdV ts ∧ hdV ts ≤ 9999 := by
  cases ts with
  | nil => exact absurd h1 (by decide)
  | cons t ts => exact h t (by simp) h1
theorem tail_len {ts : List aTk} (h : hdK ts ≠ 0) : ts.tail.length + 1 = ts.length := by
  cases ts with
  | nil => exact absurd rfl h
  | cons t ts => rfl
/-- tokens that stand behind others -/
def sfx (a b : List aTk) : Prop := ∃ j, b = a.drop j
theorem sfx_refl (a : List aTk) : sfx a a := ⟨0, rfl⟩
theorem sfx_t (a : List aTk) : sfx a a.tail := ⟨1, by cases a <;> rfl⟩
theorem sfx_tr {a b c : List aTk} (h1 : sfx a b) (h2 : sfx b c) : sfx a c := by
  obtain ⟨i, rfl⟩ := h1
  obtain ⟨j, rfl⟩ := h2
  exact ⟨i + j, by rw [List.drop_drop]⟩
theorem sfx_mem {a b : List aTk} (h : sfx a b) {t : aTk} (ht : t ∈ b) : t ∈ a := by
  obtain ⟨j, rfl⟩ := h
  exact List.mem_of_mem_drop ht
theorem tsV_s {a b : List aTk} (h : tsV a) (s : sfx a b) : tsV b := fun t ht => h t (sfx_mem s ht)
theorem pUn_in {n : Nat} {ts : List aTk} {q : (Int × Int) × List aTk} (hv : tsV ts) (h : pUn n ts = .inr q) : q.2 = ts.tail ∧ hdK ts ≠ 0 ∧ (0 ≤ q.1.1 ∧ q.1.1 < 11 ∧ (q.1.1 = 0 → 0 ≤ q.1.2 ∧ q.1.2 ≤ 9999)) := by
  unfold pUn at h
  split at h
  · next h1 => cases h; exact ⟨rfl, by omega, by dsimp only; omega, by dsimp only; omega, fun _ => tsV_h hv h1⟩
  · split at h
    · next h1 => cases h; exact ⟨rfl, by omega, by dsimp only; omega, by dsimp only; omega, fun e => by dsimp only at e; omega⟩
    · cases h
theorem pNum_in {n : Nat} {lo hi : Int} {ts : List aTk} {q : Int × List aTk} (h : pNum n lo hi ts = .inr q) : q.2 = ts.tail ∧ hdK ts ≠ 0 ∧ lo ≤ q.1 ∧ q.1 ≤ hi := by
  unfold pNum at h
  split at h
  · split at h
    · next h1 h2 => cases h; exact ⟨rfl, by omega, h2.1, h2.2⟩
    · cases h
  · cases h
theorem pX_in {n : Nat} : ∀ (f : Nat) (s : Int) (c : aCd) (ts : List aTk) (q : aCd × List aTk), tsV ts → (s = 0 ∨ s = 23 ∨ s = 24) → pX n f s c ts = .inr q →
    sfx ts q.2 ∧ (cEnc q.1).length + q.2.length ≤ (cEnc c).length + (pnd s).length + ts.length ∧ ∀ T t : List Bool, t.length ≤ 25 → iTy c T = some (false :: (if s = 0 then t else false :: t)) → iTy q.1 T = some (false :: t)
  | 0, s, c, ts, q, _, _, h => by cases h
  | f + 1, s, c, ts, q, hv, hs, h => by
    have hp : (pnd s).length ≤ 1 ∧ (cEnc (pnd s)).length = (pnd s).length := by
      unfold pnd
      split
      · exact ⟨by decide, rfl⟩
      · exact ⟨by simp, by rw [cEnc_1 _ _ (by omega)]; rfl⟩
    unfold pX at h
    split at h
    · next h42 =>
      split at h
      · cases h
      · next u hu =>
        obtain ⟨u1, u2, u3, u4, u5⟩ := pUn_in (tsV_t hv) hu
        have hu2 : sfx ts u.2 := by rw [u1]; exact sfx_tr (sfx_t _) (sfx_t _)
        obtain ⟨a, b, e⟩ := pX_in f s _ u.2 q (tsV_s hv hu2) hs h
        have l1 := tail_len (ts := ts) (by omega)
        have l2 := tail_len u2
        refine ⟨sfx_tr hu2 a, ?_, fun T t ht hc => e T t ht ?_⟩
        · rw [cEnc_app, List.length_append, show [u.1, ((25 : Int), (0 : Int))] = [(u.1.1, u.1.2)] ++ [(25, 0)] from rfl, cEnc_app, List.length_append, cEnc_1 _ _ (by omega), cEnc_1 _ _ (by decide), u1] at b
          omega
        · rw [iTy_app, hc, show [u.1, ((25 : Int), (0 : Int))] = [(u.1.1, u.1.2)] ++ [(25, 0)] from rfl]
          dsimp only
          rw [iTy_app, iTy_f ⟨u3, u4, by split <;> simp <;> omega, u5⟩]
          dsimp only
          rw [iTy_ar (by decide)]
    · split at h
      · next h42 h47 =>
        split at h
        · cases h
        · next u hu =>
          obtain ⟨u1, u2, u3, u4⟩ := pNum_in hu
          have hu2 : sfx ts u.2 := by rw [u1]; exact sfx_tr (sfx_t _) (sfx_t _)
          obtain ⟨a, b, e⟩ := pX_in f s _ u.2 q (tsV_s hv hu2) hs h
          have l1 := tail_len (ts := ts) (by omega)
          have l2 := tail_len u2
          refine ⟨sfx_tr hu2 a, ?_, fun T t ht hc => e T t ht ?_⟩
          · rw [cEnc_app, List.length_append, show (cEnc [((26 : Int), u.1)]).length = 2 from rfl, u1] at b
            omega
          · rw [iTy_app, hc]
            dsimp only
            rw [iTy_by ⟨u3, u4⟩]
      · split at h
        · next h42 h47 h43 =>
          split at h
          · cases h
          · next u hu =>
            obtain ⟨u1, u2, u3, u4, u5⟩ := pUn_in (tsV_t hv) hu
            have hu2 : sfx ts u.2 := by rw [u1]; exact sfx_tr (sfx_t _) (sfx_t _)
            have hs' : (if hdK ts = 43 then (23 : Int) else 24) = 23 ∨ (if hdK ts = 43 then (23 : Int) else 24) = 24 := by split <;> omega
            obtain ⟨a, b, e⟩ := pX_in f _ _ u.2 q (tsV_s hv hu2) (Or.inr hs') h
            have l1 := tail_len (ts := ts) (by omega)
            have l2 := tail_len u2
            have lp : (pnd (if hdK ts = 43 then 23 else 24)).length = 1 := by unfold pnd; rw [if_neg (by omega)]; rfl
            refine ⟨sfx_tr hu2 a, ?_, fun T t ht hc => e T t ht ?_⟩
            · rw [cEnc_app, cEnc_app, List.length_append, List.length_append, show [u.1] = [(u.1.1, u.1.2)] from rfl, cEnc_1 _ _ (by omega), u1, lp, hp.2] at b
              omega
            · rw [if_neg (show ¬ (if hdK ts = 43 then (23 : Int) else 24) = 0 by omega), iTy_app, iTy_app, hc]
              have hpn : iTy (pnd s) (false :: (if s = 0 then t else false :: t)) = some (false :: t) := by
                unfold pnd
                by_cases h0 : s = 0
                · rw [if_pos h0, if_pos h0]; rfl
                · rw [if_neg h0, if_neg h0, iTy_ar (by omega)]
              dsimp only
              rw [hpn]
              dsimp only
              rw [show [u.1] = [(u.1.1, u.1.2)] from rfl, iTy_f ⟨u3, u4, by simp; omega, u5⟩]
        · cases h
          refine ⟨sfx_refl _, by dsimp only; rw [cEnc_app, List.length_append, hp.2]; omega, fun T t ht hc => ?_⟩
          rw [iTy_app, hc]
          dsimp only
          unfold pnd
          by_cases h0 : s = 0
          · rw [if_pos h0, if_pos h0]; rfl
          · rw [if_neg h0, if_neg h0, iTy_ar (by omega)]
