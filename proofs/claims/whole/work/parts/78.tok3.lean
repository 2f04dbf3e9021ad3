/-! text: the tape split by the class -/
/-- the rows of tokens hold the first ones -/
def hT (M : aM) (L : List aTk) : Prop := ∀ j t, L[j]? = some t → M 129 j = t.1 ∧ M 130 j = t.2.1 ∧ M 131 j = t.2.2
theorem tape_add_eq (d tc : Nat) (t : aTk) (L : List aTk) (M : aM) (hc : M 127 4 = tc) (h4 : tc < 400) (hl : L.length = tc) (hh : hT M L) :
    wp (w_tape_addToken (d + 1) t.1 t.2.1 t.2.2 M) fun r M' => r = [] ∧ fr [127, 129, 130, 131] M M' ∧ (∀ j, j ≠ 4 → M' 127 j = M 127 j) ∧ M' 127 4 = ((tc + 1 : Nat) : Int) ∧ hT M' (L ++ [t]) := by
  rw [l_tape_addToken, hc, al129, al130, al131]
  refine wp_neg (by omega) ?_
  refine wp_pos (by omega) ?_
  refine wp_inb ⟨by omega, by omega⟩ ?_
  refine wp_up fun M1 f1 g1 => ?_
  rw [f1 127 (by simp), hc]
  refine wp_inb ⟨by omega, by omega⟩ ?_
  refine wp_up fun M2 f2 g2 => ?_
  rw [f2 127 (by simp), f1 127 (by simp), hc]
  refine wp_inb ⟨by omega, by omega⟩ ?_
  refine wp_up fun M3 f3 g3 => ?_
  rw [f3 127 (by simp), f2 127 (by simp), f1 127 (by simp), hc, w32_i (by omega) (by omega)]
  refine wp_up fun M4 f4 g4 => ?_
  refine wp_ret ⟨rfl, ?_, fun j hj => ?_, by rw [g4, if_pos rfl]; rfl, fun j u hu => ?_⟩
  · intro k hk
    simp at hk
    rw [f4 k (by simp; omega), f3 k (by simp; omega), f2 k (by simp; omega), f1 k (by simp; omega)]
  · rw [g4, if_neg hj, f3 127 (by simp), f2 127 (by simp), f1 127 (by simp)]
  · rw [f4 129 (by simp), f3 129 (by simp), f2 129 (by simp), g1, f4 130 (by simp), f3 130 (by simp), g2, f1 130 (by simp), f4 131 (by simp), g3, f2 131 (by simp), f1 131 (by simp), tn_n]
    by_cases e : j < L.length
    · rw [List.getElem?_append_left e] at hu
      rw [if_neg (by omega), if_neg (by omega), if_neg (by omega)]
      exact hh j u hu
    · rw [List.getElem?_append_right (by omega)] at hu
      have : j - L.length = 0 := by
        apply Decidable.byContradiction
        intro h
        rw [List.getElem?_eq_none (by simp; omega)] at hu
        cases hu
      rw [this] at hu
      cases hu
      rw [if_pos (by omega), if_pos (by omega), if_pos (by omega)]
      exact ⟨rfl, rfl, rfl⟩
theorem tape_split_lp (d a n : Nat) (ha : a < 29) (h4 : n ≤ 400) (b : Nat → Int) (hb : ∀ i, i < n → 0 ≤ b i ∧ b i ≤ 255) (TL : List aTk) (hTL : TL.length ≤ 400) : ∀ (f p g : Nat) (L : List aTk) (M : aM), n - p = f → p ≤ n → g ≤ p → M 127 5 = n → M 127 4 = ((L.length : Nat) : Int) → M 128 = b → hT M L → L ++ toks (wl (aStrL a) []) b n p = TL →
    wp (w_tape_split_9 (d + 6) a p g M) fun r M' => r = [] ∧ fr [127, 129, 130, 131] M M' ∧ (∀ j, j ≠ 4 → M' 127 j = M 127 j) ∧ M' 127 4 = ((TL.length : Nat) : Int) ∧ hT M' TL := by
  intro f
  induction f using Nat.strongRecOn with
  | ind f ih =>
    intro p g L M h hp hg hn hc hM hh hL
    rw [l_tape_split_9, hn]
    by_cases hlt : p < n
    rotate_left
    · have e0 : toks (wl (aStrL a) []) b n p = [] := by
        rw [toks_eq, if_neg]
        have := re_ge isB b n p
        omega
      rw [e0, List.append_nil] at hL
      subst hL
      have fin : wp (some ([], M)) fun r M' => r = [] ∧ fr [127, 129, 130, 131] M M' ∧ (∀ j, j ≠ 4 → M' 127 j = M 127 j) ∧ M' 127 4 = ((L.length : Nat) : Int) ∧ hT M' L := wp_ret ⟨rfl, fr_refl _ _, fun _ _ => rfl, hc, hh⟩
      refine wp_if (fun _ => ?_) (fun _ => fin)
      refine wp_neg (by omega) fin
    have e5 : w32 ((p : Int) + 1) = ((p + 1 : Nat) : Int) := by rw [w32_i (by omega) (by omega)]; rfl
    have e6 : w32 ((g : Int) + 1) = ((g + 1 : Nat) : Int) := by rw [w32_i (by omega) (by omega)]; rfl
    have hbp := hb p hlt
    refine wp_pos (by omega) ?_
    refine wp_pos (by omega) ?_
    refine wp_eI (tape_byte_eq _ p n M hn h4 hlt) ?_
    rw [hM, e5]
    refine wp_I ?_
    have next : ∀ (p' : Nat) (L' : List aTk) (M' : aM), p < p' → p' ≤ n → fr [127, 129, 130, 131] M M' → (∀ j, j ≠ 4 → M' 127 j = M 127 j) → M' 127 4 = ((L'.length : Nat) : Int) → hT M' L' → L' ++ toks (wl (aStrL a) []) b n p' = TL → wp (w_tape_split_150 (d + 6) a g p' M') fun r M' => r = [] ∧ fr [127, 129, 130, 131] M M' ∧ (∀ j, j ≠ 4 → M' 127 j = M 127 j) ∧ M' 127 4 = ((TL.length : Nat) : Int) ∧ hT M' TL := by
      intro p' L' M' h1 h2 f1 k1 k2 k3 k4
      rw [l_tape_split_150, e6]
      refine wp_I ?_
      refine wp_mono (ih (n - p') (by omega) p' (g + 1) L' M' rfl h2 (by omega) (by rw [k1 5 (by decide), hn]) k2 (by rw [f1 128 (by simp), hM]) k3 k4) ?_
      rintro r M'' ⟨q1, q2, q3, q4⟩
      exact ⟨q1, fr_tt f1 q2, fun j hj => (q3 j hj).trans (k1 j hj), q4⟩
    refine wp_eI (tape_isL_eq _ _ M) ?_
    by_cases hB : isB (b p) = true
    · have hB2 : b p = 32 ∨ b p = 10 := of_decide_eq_true hB
      have e1 : isL (b p) = false := decide_eq_false (by omega)
      have e2 : isD (b p) = false := decide_eq_false (by omega)
      rw [e1, bI_f]
      refine wp_pos rfl ?_
      refine wp_eI (tape_isD_eq _ _ M) ?_
      rw [e2, bI_f]
      refine wp_pos rfl ?_
      have hL' : L ++ toks (wl (aStrL a) []) b n (p + 1) = TL := by
        rw [← hL, toks_eq, toks_eq _ b n p, show re isB b n p = re isB b n (p + 1) by rw [re_eq, if_pos ⟨hlt, hB⟩]]
      refine wp_if (fun _ => next (p + 1) L M (by omega) (by omega) (fr_refl _ _) (fun _ _ => rfl) hc hh hL') (fun h32 => ?_)
      exact wp_pos (by omega) (next (p + 1) L M (by omega) (by omega) (fr_refl _ _) (fun _ _ => rfl) hc hh hL')
    have er : re isB b n p = p := by rw [re_eq, if_neg fun e => hB e.2]
    have hL2 : (L ++ [(tkAt (wl (aStrL a) []) b n p).1]) ++ toks (wl (aStrL a) []) b n (tkAt (wl (aStrL a) []) b n p).2 = TL := by
      rw [← hL, toks_eq _ b n p, er, if_pos hlt]; simp
    have hLl : L.length < 400 := by
      have := congrArg List.length hL2
      simp only [List.length_append, List.length_cons, List.length_nil] at this
      omega
    have add : ∀ (t : aTk) (p' : Nat), tkAt (wl (aStrL a) []) b n p = (t, p') → ∀ v : Int, v = p' → wp (bndV (w_tape_addToken (d + 6) t.1 t.2.1 t.2.2 M) fun M40 => w_tape_split_150 (d + 6) a g v M40) fun r M' => r = [] ∧ fr [127, 129, 130, 131] M M' ∧ (∀ j, j ≠ 4 → M' 127 j = M 127 j) ∧ M' 127 4 = ((TL.length : Nat) : Int) ∧ hT M' TL := by
      intro t p' ht v hv
      subst hv
      have hin := tkAt_in (wl (aStrL a) []) b hlt
      rw [ht] at hin hL2
      refine wp_bV (tape_add_eq _ L.length t L M hc hLl rfl hh) ?_
      rintro M1 ⟨f1, k1, k2, k3⟩
      exact next p' (L ++ [t]) M1 (by exact hin.1) (by exact hin.2.1) f1 k1 (by rw [k2]; simp) k3 hL2
    have hM5 : M 128 = b := hM
    cases hLt : isL (b p) with
    | true =>
      rw [bI_t]
      refine wp_neg (by decide) ?_
      have run := tape_run_lp (d + 4) n M hn h4 true _ p rfl
      rw [if_pos rfl, hM, bI_t] at run
      rw [l_tape_behindRun, run]
      refine wp_eI rfl ?_
      have hre := re_le (P := isL) (b := b) (show p ≤ n by omega)
      have hge := re_ge isL b n p
      have wt := tape_wt_lp d a n p (re isL b n p) M ha hn h4 hge hre (aStrL a) [] [] 0 rfl (Nat.le_refl _)
      rw [hM] at wt
      rw [l_tape_wordToken, show w_tape_wordToken_9 (d + 5) a p ((re isL b n p : Nat) : Int) 0 0 0 M = _ from wt]
      refine wp_eI rfl ?_
      refine add (wix b p (re isL b n p) (wl (aStrL a) []) 0, 0, (p : Int)) (re isL b n p) ?_ _ rfl
      unfold tkAt
      rw [if_pos hLt]
    | false =>
      rw [bI_f]
      refine wp_pos rfl ?_
      refine wp_eI (tape_isD_eq _ _ M) ?_
      cases hDt : isD (b p) with
      | true =>
        rw [bI_t]
        refine wp_neg (by decide) ?_
        have run := tape_run_lp (d + 4) n M hn h4 false _ p rfl
        rw [if_neg (by decide), hM, bI_f] at run
        rw [l_tape_behindRun, run]
        refine wp_eI rfl ?_
        have hre := re_le (P := isD) (b := b) (show p ≤ n by omega)
        have hge := re_ge isD b n p
        have num := tape_num_lp (d + 4) n p (re isD b n p) M hn h4 hre (fun i h1 h2 => by rw [hM]; exact re_D h1 h2) (min (re isD b n p - p) 4) p 0 (by omega) (Nat.le_refl _) (Int.le_refl _) (by rw [Nat.sub_self]; decide)
        rw [hM] at num
        rw [w32_i (by omega) (by omega)]
        refine wp_if (fun h9 => ?_) (fun h9 => ?_)
        · rw [l_tape_numberOf, num]
          refine wp_eI rfl ?_
          refine add (2, nV b (min (re isD b n p - p) 4) p 0, (p : Int)) (re isD b n p) ?_ _ rfl
          unfold tkAt
          rw [if_neg (by rw [hLt]; decide), if_pos hDt, if_neg (by omega)]
        · rw [l_tape_numberOf, num]
          refine wp_eI rfl ?_
          refine add (1, nV b (min (re isD b n p - p) 4) p 0, (p : Int)) (re isD b n p) ?_ _ rfl
          unfold tkAt
          rw [if_neg (by rw [hLt]; decide), if_pos hDt, if_pos (by omega)]
      | false =>
        rw [bI_f]
        refine wp_pos rfl ?_
        have hB2 : ¬ (b p = 32 ∨ b p = 10) := fun e => hB (decide_eq_true e)
        refine wp_neg (by omega) ?_
        refine wp_neg (by omega) ?_
        obtain ⟨c, hcc⟩ : ∃ c : Nat, b p = c := ⟨(b p).toNat, by omega⟩
        obtain ⟨y, hy, hiff⟩ := js_ix_eq (d + 1) c M (by omega)
        rw [hcc, i2c_s c (by omega)]
        refine wp_eI hy ?_
        refine wp_if (fun h9 => ?_) (fun h9 => ?_)
        · refine add (2, 0, (p : Int)) (p + 1) ?_ _ rfl
          unfold tkAt
          rw [if_neg (by rw [hLt]; decide), if_neg (by rw [hDt]; decide), hcc, if_neg (by rw [hiff.1 h9]; decide)]
        · have hs : isS (c : Int) = true := by
            cases h : isS (c : Int) with
            | true => rfl
            | false => exact absurd (hiff.2 h) h9
          refine add ((c : Int), 0, (p : Int)) (p + 1) ?_ _ rfl
          unfold tkAt
          rw [if_neg (by rw [hLt]; decide), if_neg (by rw [hDt]; decide), hcc, if_pos hs]
