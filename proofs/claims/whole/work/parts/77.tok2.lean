/-! text: strings, and the tape split by the class -/
theorem aS_all : ∀ k, k < 29 → (aStrL k).all (fun x => decide (x < 128)) = true ∧ (aStrL k).length ≤ 100 := by decide +kernel
theorem i2c_s : ∀ c : Nat, c < 256 → i2c (c : Int) = c := by
  intro c hc
  have key : ∀ c : Nat, c < 256 → ((Int32.ofInt (c : Int)).toUInt32 % 65536).toInt32.toInt = c := by decide +kernel
  rw [i2c_def, key c hc]
theorem i2b_s : ∀ c : Nat, c < 256 → i2b (c : Int) = if c < 128 then (c : Int) else (c : Int) - 256 := by
  intro c hc
  have key : ∀ c : Nat, c < 256 → (Int32.ofInt (c : Int)).toInt8.toInt32.toInt = if c < 128 then (c : Int) else (c : Int) - 256 := by decide +kernel
  rw [i2b_def, key c hc]
theorem iand_255 : ∀ c : Nat, c < 256 → iand (c : Int) 255 = c := by
  intro c hc
  have key : ∀ c : Nat, c < 256 → (Int32.ofInt (c : Int) &&& Int32.ofInt 255).toInt = c := by decide +kernel
  rw [iand_def, key c hc]
theorem aRng_s {lo hi x : Int} {k : aR} (h : lo ≤ x ∧ x ≤ hi) : aRng lo hi x k = k := if_pos h
theorem js_length_eq (d a : Nat) (M : aM) (ha : a < 29) : w_js_length (d + 2) a M = some ([aI (((aStrL a).length : Nat) : Int)], M) := by
  have h := (aS_all a ha).2
  rw [u_js_length, u_js_coder, if_neg (by decide), aRng_s (by decide), bndI_s, show (0 : Int) = ((0 : Nat) : Int) from rfl, ishr_nat (by omega) (by decide)]
  rfl
theorem js_latin_eq (d a : Nat) (M : aM) : w_js_isLatin1 (d + 1) a M = some ([aI 1], M) := by
  rw [u_js_isLatin1, if_neg (by decide), if_pos rfl]
theorem js_charAt_eq (d a i : Nat) (M : aM) (ha : a < 29) (hi : i < (aStrL a).length) : w_js_charAt (d + 4) a i M = some ([aI (((aStrL a).getD i 0 : Nat) : Int)], M) := by
  have hx : (aStrL a).getD i 0 < 128 := by
    have h1 := (aS_all a ha).1
    rw [List.all_eq_true] at h1
    rw [List.getD_eq_getElem?_getD, List.getElem?_eq_getElem hi]
    exact of_decide_eq_true (h1 _ (List.getElem_mem hi))
  have e : aChr a (i : Int) = (((aStrL a).getD i 0 : Nat) : Int) := rfl
  rw [u_js_charAt, js_latin_eq, bndI_s, if_neg (by decide), u_jl_charAt, u_js_checkIndex, u_jp_checkIndex, if_neg (by omega), if_pos (by omega), bndI_s, bndV_s, inb_s (by omega) (by omega), e, iand_255 _ (by omega), i2c_s _ (by omega), aRng_s (by omega), bndI_s, aRng_s (by omega)]
theorem jl_ixc_lp (d : Nat) (v : Int) (M : aM) : ∀ (f i : Nat), i + f = 10 → ∃ y, w_jl_indexOfChar_7 d 4 10 v i M = some ([aI y], M) ∧ (y < 0 ↔ ∀ j : Nat, i ≤ j → j < 10 → aChr 4 j ≠ v)
  | 0, i, h => ⟨-1, by rw [u_jl_indexOfChar_7, if_neg (by omega)], ⟨fun _ j h1 h2 => by omega, fun _ => by decide⟩⟩
  | f + 1, i, h => by
    have hl : (aStrL 4).length = 10 := by decide +kernel
    rw [u_jl_indexOfChar_7, if_pos (by omega), inb_s (by omega) (by rw [hl]; omega)]
    by_cases hc : aChr 4 i = v
    · rw [if_pos hc]
      exact ⟨i, rfl, ⟨fun h => by omega, fun h => absurd hc (h i (Nat.le_refl _) (by omega))⟩⟩
    · rw [if_neg hc]
      dsimp only
      rw [show w32 ((i : Int) + 1) = ((i + 1 : Nat) : Int) by rw [w32_i (by omega) (by omega)]; rfl]
      obtain ⟨y, e, g⟩ := jl_ixc_lp d v M f (i + 1) (by omega)
      refine ⟨y, e, g.trans ⟨fun h j h1 h2 => ?_, fun h j h1 h2 => h j (by omega) h2⟩⟩
      by_cases ej : j = i
      · rw [ej]; exact hc
      · exact h j (by omega) h2
theorem js_ix_eq (d c : Nat) (M : aM) (hc : c < 256) : ∃ y, w_js_indexOf4 (d + 5) 4 c M = some ([aI y], M) ∧ (y < 0 ↔ isS c = false) := by
  have hl : (aStrL 4).length = 10 := by decide +kernel
  obtain ⟨y, e, g⟩ := jl_ixc_lp (d + 1) (i2b c) M 10 0 (by omega)
  refine ⟨y, ?_, ?_⟩
  · rw [u_js_indexOf4, u_js_indexOf5, js_latin_eq, bndI_s, if_neg (by decide), js_length_eq _ 4 M (by decide), bndI_s, u_jl_indexOf, u_jl_canEncode, if_neg (by omega), if_neg (by omega), bndI_s, if_neg (by decide), hl]
    dsimp only
    rw [show imax 0 0 = 0 by decide, show imin ((10 : Nat) : Int) ((10 : Nat) : Int) = 10 by decide, if_pos (by decide), u_jl_indexOfChar]
    dsimp only
    rw [show w_jl_indexOfChar_7 (d + 1) 4 10 (i2b c) 0 M = _ from e, bndI_s, bndI_s, bndI_s]
  · rw [g, i2b_s c hc]
    have a0 : aChr 4 ((0 : Nat) : Int) = 59 := by decide +kernel
    have a1 : aChr 4 ((1 : Nat) : Int) = 43 := by decide +kernel
    have a2 : aChr 4 ((2 : Nat) : Int) = 45 := by decide +kernel
    have a3 : aChr 4 ((3 : Nat) : Int) = 42 := by decide +kernel
    have a4 : aChr 4 ((4 : Nat) : Int) = 47 := by decide +kernel
    have a5 : aChr 4 ((5 : Nat) : Int) = 40 := by decide +kernel
    have a6 : aChr 4 ((6 : Nat) : Int) = 41 := by decide +kernel
    have a7 : aChr 4 ((7 : Nat) : Int) = 60 := by decide +kernel
    have a8 : aChr 4 ((8 : Nat) : Int) = 61 := by decide +kernel
    have a9 : aChr 4 ((9 : Nat) : Int) = 62 := by decide +kernel
    unfold isS
    rw [decide_eq_false_iff_not]
    constructor
    · intro h
      have h0 := h 0 (by omega) (by omega)
      have h1 := h 1 (by omega) (by omega)
      have h2 := h 2 (by omega) (by omega)
      have h3 := h 3 (by omega) (by omega)
      have h4 := h 4 (by omega) (by omega)
      have h5 := h 5 (by omega) (by omega)
      have h6 := h 6 (by omega) (by omega)
      have h7 := h 7 (by omega) (by omega)
      have h8 := h 8 (by omega) (by omega)
      have h9 := h 9 (by omega) (by omega)
      rw [a0] at h0; rw [a1] at h1; rw [a2] at h2; rw [a3] at h3; rw [a4] at h4
      rw [a5] at h5; rw [a6] at h6; rw [a7] at h7; rw [a8] at h8; rw [a9] at h9
      split at h0
      · omega
      · omega
    · intro h j _ hj
      have hj2 : j = 0 ∨ j = 1 ∨ j = 2 ∨ j = 3 ∨ j = 4 ∨ j = 5 ∨ j = 6 ∨ j = 7 ∨ j = 8 ∨ j = 9 := by omega
      rcases hj2 with e | e | e | e | e | e | e | e | e | e <;> subst e
      · rw [a0]; split <;> omega
      · rw [a1]; split <;> omega
      · rw [a2]; split <;> omega
      · rw [a3]; split <;> omega
      · rw [a4]; split <;> omega
      · rw [a5]; split <;> omega
      · rw [a6]; split <;> omega
      · rw [a7]; split <;> omega
      · rw [a8]; split <;> omega
      · rw [a9]; split <;> omega
theorem tape_isL_eq (d : Nat) (c : Int) (M : aM) : w_tape_isLetter (d + 1) c M = some ([aI (bI (isL c))], M) := by
  rw [u_tape_isLetter]
  unfold isL
  by_cases h1 : c < 97
  · rw [if_pos h1]
    by_cases h2 : c < 65
    · rw [if_pos h2, decide_eq_false (by omega)]; rfl
    · rw [if_neg h2]
      by_cases h3 : 90 < c
      · rw [if_pos h3, decide_eq_false (by omega)]; rfl
      · rw [if_neg h3, decide_eq_true (by omega)]; rfl
  · rw [if_neg h1]
    by_cases h2 : 122 < c
    · rw [if_pos h2, if_neg (by omega), if_pos (by omega), decide_eq_false (by omega)]; rfl
    · rw [if_neg h2, decide_eq_true (by omega)]; rfl
theorem tape_isD_eq (d : Nat) (c : Int) (M : aM) : w_tape_isDigit (d + 1) c M = some ([aI (bI (isD c))], M) := by
  rw [u_tape_isDigit]
  unfold isD
  by_cases h1 : c < 48
  · rw [if_pos h1, decide_eq_false (by omega)]; rfl
  · rw [if_neg h1]
    by_cases h2 : 57 < c
    · rw [if_pos h2, decide_eq_false (by omega)]; rfl
    · rw [if_neg h2, decide_eq_true (by omega)]; rfl
theorem tape_byte_eq (d p n : Nat) (M : aM) (hn : M 127 5 = n) (h4 : n ≤ 400) (hp : p < n) : w_tape_byteAt (d + 1) p M = some ([aI (M 128 p)], M) := by
  rw [u_tape_byteAt, hn, if_neg (by omega), if_pos (by omega), if_pos (by omega), al128, inb_s (by omega) (by omega), tn_n]
theorem tape_run_lp (d n : Nat) (M : aM) (hn : M 127 5 = n) (h4 : n ≤ 400) (l : Bool) : ∀ (f p : Nat), n - p = f → w_tape_behindRun_2 (d + 1) (bI l) p M = some ([aI ((re (if l = true then isL else isD) (M 128) n p : Nat) : Int)], M)
  | 0, p, h => by
    rw [u_tape_behindRun_2, hn, if_neg (by omega), re_eq, if_neg (by omega)]
  | f + 1, p, h => by
    have e5 : w32 ((p : Int) + 1) = ((p + 1 : Nat) : Int) := by rw [w32_i (by omega) (by omega)]; rfl
    have ih := tape_run_lp d n M hn h4 l f (p + 1) (by omega)
    rw [u_tape_behindRun_2, hn, if_pos (by omega), re_eq]
    cases l with
    | false =>
      rw [bI_f, if_pos rfl, tape_byte_eq d p n M hn h4 (by omega), bndI_s, tape_isD_eq, bndI_s]
      rw [if_neg (show ¬ false = true by decide)] at ih ⊢
      cases hc : isD (M 128 p) with
      | false => rw [bI_f, if_pos rfl, if_neg (by simp)]
      | true =>
        rw [bI_t, if_neg (by decide), if_pos ⟨by omega, rfl⟩]
        dsimp only
        rw [e5]
        exact ih
    | true =>
      rw [bI_t, if_neg (by decide), tape_byte_eq d p n M hn h4 (by omega), bndI_s, tape_isL_eq, bndI_s]
      rw [if_pos rfl] at ih ⊢
      cases hc : isL (M 128 p) with
      | false => rw [bI_f, if_pos rfl, if_neg (by simp)]
      | true =>
        rw [bI_t, if_neg (by decide), if_pos ⟨by omega, rfl⟩]
        dsimp only
        rw [e5]
        exact ih
theorem tape_num_lp (d n s e : Nat) (M : aM) (hn : M 127 5 = n) (h4 : n ≤ 400) (he : e ≤ n) (hD : ∀ i, s ≤ i → i < e → 48 ≤ M 128 i ∧ M 128 i ≤ 57) : ∀ (c i : Nat) (v : Int), i + c = min e (s + 4) → s ≤ i → 0 ≤ v → v < 10 ^ (i - s) → w_tape_numberOf_5 (d + 1) s e v i M = some ([aI (nV (M 128) c i v)], M)
  | 0, i, v, h, h1, h2, h3 => by
    rw [u_tape_numberOf_5]
    by_cases hc : (i : Int) < e
    · rw [if_pos hc, if_neg (by rw [w32_i (by omega) (by omega)]; omega)]; rfl
    · rw [if_neg hc]; rfl
  | c + 1, i, v, h, h1, h2, h3 => by
    have e5 : w32 ((i : Int) + 1) = ((i + 1 : Nat) : Int) := by rw [w32_i (by omega) (by omega)]; rfl
    have hb := hD i h1 (by omega)
    have hp : (10 : Int) ^ (i + 1 - s) = 10 * 10 ^ (i - s) := by rw [show i + 1 - s = (i - s) + 1 by omega, Int.pow_succ, Int.mul_comm]
    have h3' : v < 1000 := by
      have hk : i - s = 0 ∨ i - s = 1 ∨ i - s = 2 ∨ i - s = 3 := by omega
      rcases hk with e | e | e | e <;> rw [e] at h3 <;> omega
    rw [u_tape_numberOf_5, if_pos (by omega), if_pos (by rw [w32_i (by omega) (by omega)]; omega), tape_byte_eq d i n M hn h4 (by omega), bndI_s]
    dsimp only
    rw [e5, w32_i (x := v * 10) (by omega) (by omega), w32_i (x := v * 10 + M 128 i) (by omega) (by omega), w32_i (by omega) (by omega)]
    exact tape_num_lp d n s e M hn h4 he hD c (i + 1) _ (by omega) (by omega) (by omega) (by omega)
theorem tape_sa_lp (d a n s e : Nat) (pre c1 : List Nat) (M : aM) (ha : a < 29) (hn : M 127 5 = n) (h4 : n ≤ 400) (he : e ≤ n) : ∀ (c2 rest : List Nat) (c1 : List Nat), aStrL a = pre ++ (c1 ++ (c2 ++ rest)) → e = s + (c1.length + c2.length) → w_tape_startsAt_3 (d + 4) a pre.length s e ((s + c1.length : Nat) : Int) M = some ([aI (bI (weq (M 128) (s + c1.length) c2))], M)
  | [], rest, c1, hs, hl => by
    rw [u_tape_startsAt_3, if_neg (by simp at hl; omega)]; rfl
  | x :: c2, rest, c1, hs, hl => by
    simp only [List.length_cons] at hl
    have hlen : (aStrL a).length = pre.length + (c1.length + (c2.length + 1 + rest.length)) := by rw [hs]; simp; omega
    have h100 := (aS_all a ha).2
    have hget : (aStrL a).getD (pre.length + c1.length) 0 = x := by
      rw [hs, List.getD_eq_getElem?_getD, List.getElem?_append_right (by omega), List.getElem?_append_right (by omega), show pre.length + c1.length - pre.length - c1.length = 0 by omega]
      rfl
    have e5 : w32 (((s + c1.length : Nat) : Int) + 1) = ((s + c1.length + 1 : Nat) : Int) := by rw [w32_i (by omega) (by omega)]; rfl
    have e6 : w32 (w32 ((pre.length : Int) + ((s + c1.length : Nat) : Int)) - s) = ((pre.length + c1.length : Nat) : Int) := by simp (disch := omega) only [w32_i]; omega
    rw [u_tape_startsAt_3, if_pos (by omega)]
    dsimp only
    rw [e5, e6, if_neg (by omega), js_length_eq _ a M ha, bndI_s, if_pos (by omega), js_charAt_eq _ a _ M ha (by omega), bndI_s, hget, tape_byte_eq _ (s + c1.length) n M hn h4 (by omega), bndI_s]
    unfold weq
    by_cases hc : (x : Int) = M 128 (s + c1.length)
    · rw [if_pos hc, decide_eq_true hc.symm, Bool.true_and]
      have ih := tape_sa_lp d a n s e pre c1 M ha hn h4 he c2 rest (c1 ++ [x]) (by rw [hs]; simp) (by simp; omega)
      rw [show (c1 ++ [x]).length = c1.length + 1 by simp] at ih
      exact ih
    · rw [if_neg hc, decide_eq_false fun h => hc h.symm, Bool.false_and]; rfl
theorem tape_wt_lp (d a n s e : Nat) (M : aM) (ha : a < 29) (hn : M 127 5 = n) (h4 : n ≤ 400) (hse : s ≤ e) (he : e ≤ n) : ∀ (rest cur pre : List Nat) (k : Nat), aStrL a = pre ++ (cur ++ rest) → k ≤ pre.length → w_tape_wordToken_9 (d + 5) a s e k pre.length ((pre.length + cur.length : Nat) : Int) M = some ([aI (wix (M 128) s e (wl rest cur) k)], M) := by
  have h100 := (aS_all a ha).2
  have key : ∀ (cur pre rest : List Nat) (k : Nat) (w : Int), aStrL a = pre ++ (cur ++ rest) → k ≤ 200 → w_tape_wordToken_9 (d + 5) a s e ((k + 1 : Nat) : Int) ((pre.length + cur.length + 1 : Nat) : Int) ((pre.length + cur.length + 1 : Nat) : Int) M = some ([aI w], M) →
      w_tape_wordToken_38 (d + 5) a s e k pre.length ((pre.length + cur.length : Nat) : Int) M = some ([aI (if e - s = cur.length ∧ weq (M 128) s cur = true then ((256 + k : Nat) : Int) else w)], M) := by
    intro cur pre rest k w hs hk hnext
    have hlen : (aStrL a).length = pre.length + (cur.length + rest.length) := by rw [hs]; simp
    have e1 : w32 (((pre.length + cur.length : Nat) : Int) - pre.length) = cur.length := by rw [w32_i (by omega) (by omega)]; omega
    have e2 : w32 ((e : Int) - s) = ((e - s : Nat) : Int) := by rw [w32_i (by omega) (by omega)]; omega
    have e3 : w32 ((k : Int) + 1) = ((k + 1 : Nat) : Int) := by rw [w32_i (by omega) (by omega)]; rfl
    have e4 : w32 (((pre.length + cur.length : Nat) : Int) + 1) = ((pre.length + cur.length + 1 : Nat) : Int) := by rw [w32_i (by omega) (by omega)]; rfl
    have e5 : w32 (256 + (k : Int)) = ((256 + k : Nat) : Int) := by rw [w32_i (by omega) (by omega)]; omega
    rw [u_tape_wordToken_38, e1, e2]
    dsimp only
    rw [e3, e4, e5]
    by_cases hc : (cur.length : Int) = ((e - s : Nat) : Int)
    · have sa := tape_sa_lp d a n s e pre [] M ha hn h4 he cur rest [] (by rw [hs]; simp) (by simp; omega)
      simp only [List.length_nil, Nat.add_zero] at sa
      rw [if_pos hc, u_tape_startsAt, sa, bndI_s]
      cases hw : weq (M 128) s cur with
      | false => rw [bI_f, if_pos rfl, if_neg (by simp)]; exact hnext
      | true => rw [bI_t, if_neg (by decide), if_pos ⟨by omega, rfl⟩]
    · rw [if_neg hc, if_neg fun h => hc (by omega)]; exact hnext
  intro rest
  induction rest with
  | nil =>
    intro cur pre k hs hk
    have hlen : (aStrL a).length = pre.length + cur.length := by rw [hs]; simp
    rw [u_tape_wordToken_9, js_length_eq _ a M ha, bndI_s, if_neg (by omega), js_length_eq _ a M ha, bndI_s, if_pos (by omega)]
    have := key cur pre [] k 2 hs (by omega) (by rw [u_tape_wordToken_9, js_length_eq _ a M ha, bndI_s, if_pos (by omega)])
    rw [this]
    rfl
  | cons x rest ih =>
    intro cur pre k hs hk
    have hlen : (aStrL a).length = pre.length + (cur.length + (rest.length + 1)) := by rw [hs]; simp
    have hget : (aStrL a).getD (pre.length + cur.length) 0 = x := by
      rw [hs, List.getD_eq_getElem?_getD, List.getElem?_append_right (by omega), List.getElem?_append_right (by omega), show pre.length + cur.length - pre.length - cur.length = 0 by omega]
      rfl
    have e4 : w32 (((pre.length + cur.length : Nat) : Int) + 1) = ((pre.length + cur.length + 1 : Nat) : Int) := by rw [w32_i (by omega) (by omega)]; rfl
    rw [u_tape_wordToken_9, js_length_eq _ a M ha, bndI_s, if_neg (by omega), js_length_eq _ a M ha, bndI_s, if_neg (by omega), js_charAt_eq _ a _ M ha (by omega), bndI_s, hget]
    unfold wl
    by_cases hx : x = 32
    · rw [if_pos (by omega), if_pos hx]
      have ih2 := ih [] (pre ++ (cur ++ [x])) (k + 1) (by rw [hs]; simp) (by simp; omega)
      simp only [List.length_nil, Nat.add_zero, List.length_append, List.length_cons, Nat.zero_add] at ih2
      rw [← Nat.add_assoc] at ih2
      rw [key cur pre (x :: rest) k _ hs (by omega) ih2]
      rfl
    · rw [if_neg (by omega), if_neg hx]
      dsimp only
      rw [e4]
      have ih2 := ih (cur ++ [x]) pre k (by rw [hs]; simp) hk
      rw [show (cur ++ [x]).length = cur.length + 1 by simp, ← Nat.add_assoc] at ih2
      exact ih2
