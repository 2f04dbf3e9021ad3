/-! text: the reference's next token, whole -/
/-- the reference stands at the first of ts -/
def rS (k : Nat) (b : Nat → Int) (n : Nat) (ts : List aTk) (M : aM) : Prop := ∃ p : Nat, M 157 17 = p ∧ p ≤ n ∧ toks (wsk k) b n p = ts.tail ∧ M 157 18 = cr k (hdK ts) ∧ M 157 19 = hdP n ts ∧ (hdK ts = 1 → M 157 20 = hdV ts)
theorem m_next76_lp (d : Nat) {k : Nat} (hk : k < 4) {b : Nat → Int} {n s : Nat} (Q : List aV → aM → Prop) : ∀ (f p : Nat) (M : aM), n - p = f → p ≤ n → s ≤ p → rB k b n M → M 157 17 = p → M 157 19 = s →
    (∀ M', fq M M' → M' 157 17 = ((re isL b n p : Nat) : Int) → M' 157 18 = cr k (wix b s (re isL b n p) (wsk k) 0) → M' 157 19 = s → Q [] M') → wp (w_m_next0_76 (d + 9) M) Q := by
  intro f
  induction f with
  | zero =>
    intro p M h hp hsp hB hat hs hQ
    have er : re isL b n p = p := by rw [re_eq, if_neg (by omega)]
    rw [er] at hQ
    rw [l_m_next0_76, hat]
    refine wp_eI (m_see_eq _ hB p) ?_
    refine wp_eI (m_isL_eq _ _ M) ?_
    rw [if_neg (show ¬ p < n by omega)]
    refine wp_pos (by decide) ?_
    refine wp_eI (m_word_eq d s p n hB hs hat hsp hp hk) ?_
    refine wp_up fun M1 f1 g1 => ?_
    exact wp_ret (hQ M1 (fq_up (by decide) f1 g1) (by rw [g1, if_neg (by decide), hat]) (by rw [g1, if_pos rfl]) (by rw [g1, if_neg (by decide), hs]))
  | succ f ih =>
    intro p M h hp hsp hB hat hs hQ
    have h400 := hB.2.2.1
    rw [l_m_next0_76, hat]
    refine wp_eI (m_see_eq _ hB p) ?_
    refine wp_eI (m_isL_eq _ _ M) ?_
    rw [if_pos (show p < n by omega)]
    cases hc : isL (b p) with
    | false =>
      have er : re isL b n p = p := by rw [re_eq, if_neg (by rw [hc]; simp)]
      rw [er] at hQ
      rw [bI_f]
      refine wp_pos rfl ?_
      refine wp_eI (m_word_eq d s p n hB hs hat hsp hp hk) ?_
      refine wp_up fun M1 f1 g1 => ?_
      exact wp_ret (hQ M1 (fq_up (by decide) f1 g1) (by rw [g1, if_neg (by decide), hat]) (by rw [g1, if_pos rfl]) (by rw [g1, if_neg (by decide), hs]))
    | true =>
      have er : re isL b n p = re isL b n (p + 1) := by rw [re_eq, if_pos ⟨by omega, hc⟩]
      rw [er] at hQ
      rw [bI_t]
      refine wp_neg (by decide) ?_
      rw [hat, w32_i (by omega) (by omega)]
      refine wp_up fun M1 f1 g1 => ?_
      have q1 := fq_up (by decide) f1 g1
      exact ih (p + 1) M1 (by omega) (by omega) (by omega) (rB_fq hB q1) (by rw [g1, if_pos rfl]; rfl) (by rw [g1, if_neg (by decide), hs]) fun M' a => hQ M' (fq_tt q1 a)
theorem m_next126_lp (d : Nat) {k : Nat} {b : Nat → Int} {n s : Nat} (Q : List aV → aM → Prop) : ∀ (f p : Nat) (v : Int) (M : aM), n - p = f → p ≤ n → s ≤ p → rB k b n M → M 157 17 = p → M 157 19 = s → M 157 20 = v → 0 ≤ v → (p - s ≤ 4 → v < 10 ^ (p - s)) →
    (∀ M', fq M M' → M' 157 17 = ((re isD b n p : Nat) : Int) → M' 157 18 = (if re isD b n p - s < 5 then 2 else 1) → M' 157 19 = s → M' 157 20 = nV b (min (re isD b n p - s) 4 - (p - s)) p v → Q [] M') → wp (w_m_next0_126 (d + 2) M) Q := by
  intro f
  have fin : ∀ (p : Nat) (v : Int) (M : aM), p ≤ n → s ≤ p → rB k b n M → M 157 17 = p → M 157 19 = s → M 157 20 = v → (p < n → isD (b p) = false) →
    (∀ M', fq M M' → M' 157 17 = ((re isD b n p : Nat) : Int) → M' 157 18 = (if re isD b n p - s < 5 then 2 else 1) → M' 157 19 = s → M' 157 20 = nV b (min (re isD b n p - s) 4 - (p - s)) p v → Q [] M') → wp (w_m_next0_126 (d + 2) M) Q := by
    intro p v M hp hsp hB hat hs hv hnd hQ
    have h400 := hB.2.2.1
    have er : re isD b n p = p := by
      rw [re_eq, if_neg]
      rintro ⟨h1, h2⟩
      rw [hnd h1] at h2; cases h2
    rw [er, show min (p - s) 4 - (p - s) = 0 by omega] at hQ
    rw [l_m_next0_126, hat]
    refine wp_eI (m_see_eq _ hB p) ?_
    refine wp_eI (m_isD_eq _ _ M) ?_
    have e0 : isD (if p < n then b p else -1) = false := by
      by_cases h : p < n
      · rw [if_pos h]; exact hnd h
      · rw [if_neg h]; rfl
    rw [e0, bI_f]
    refine wp_pos rfl ?_
    rw [hat, hs, w32_i (by omega) (by omega)]
    refine wp_if (fun h5 => ?_) (fun h5 => ?_)
    · refine wp_up fun M1 f1 g1 => ?_
      exact wp_ret (hQ M1 (fq_up (by decide) f1 g1) (by rw [g1, if_neg (by decide), hat]) (by rw [g1, if_pos rfl, if_pos (by omega)]) (by rw [g1, if_neg (by decide), hs]) (by rw [g1, if_neg (by decide), hv]; rfl))
    · refine wp_up fun M1 f1 g1 => ?_
      exact wp_ret (hQ M1 (fq_up (by decide) f1 g1) (by rw [g1, if_neg (by decide), hat]) (by rw [g1, if_pos rfl, if_neg (by omega)]) (by rw [g1, if_neg (by decide), hs]) (by rw [g1, if_neg (by decide), hv]; rfl))
  induction f with
  | zero =>
    intro p v M h hp hsp hB hat hs hv h0 hlt hQ
    exact fin p v M hp hsp hB hat hs hv (fun h => by omega) hQ
  | succ f ih =>
    intro p v M h hp hsp hB hat hs hv h0 hlt hQ
    have h400 := hB.2.2.1
    cases hc : isD (b p) with
    | false => exact fin p v M hp hsp hB hat hs hv (fun _ => hc) hQ
    | true =>
      have hb := hc
      unfold isD at hb
      have hb := of_decide_eq_true hb
      have er : re isD b n p = re isD b n (p + 1) := by rw [re_eq, if_pos ⟨by omega, hc⟩]
      have hge := re_ge isD b n (p + 1)
      rw [er] at hQ
      rw [l_m_next0_126, hat]
      refine wp_eI (m_see_eq _ hB p) ?_
      refine wp_eI (m_isD_eq _ _ M) ?_
      rw [if_pos (show p < n by omega), hc, bI_t]
      refine wp_neg (by decide) ?_
      rw [hat, hs, w32_i (x := (s : Int) + 4) (by omega) (by omega)]
      refine wp_if (fun h4 => ?_) (fun h4 => ?_)
      · have hlt := hlt (by omega)
        have hp10 : (10 : Int) ^ (p + 1 - s) = 10 * 10 ^ (p - s) := by rw [show p + 1 - s = (p - s) + 1 by omega, Int.pow_succ, Int.mul_comm]
        have h3' : v < 1000 := by
          have hk : p - s = 0 ∨ p - s = 1 ∨ p - s = 2 ∨ p - s = 3 := by omega
          rcases hk with e | e | e | e <;> rw [e] at hlt <;> omega
        refine wp_eI (m_see_eq _ hB p) ?_
        rw [if_pos (show p < n by omega), hv, w32_i (x := 10 * v) (by omega) (by omega), w32_i (x := 10 * v + b p) (by omega) (by omega), w32_i (by omega) (by omega)]
        refine wp_up fun M1 f1 g1 => ?_
        have q1 := fq_up (by decide) f1 g1
        rw [g1 17, if_neg (by decide), hat, w32_i (by omega) (by omega)]
        refine wp_up fun M2 f2 g2 => ?_
        have q2 := fq_tt q1 (fq_up (by decide) f2 g2)
        refine ih (p + 1) (v * 10 + b p - 48) M2 (by omega) (by omega) (by omega) (rB_fq hB q2) (by rw [g2, if_pos rfl]; rfl) (by rw [g2, if_neg (by decide), g1, if_neg (by decide), hs]) (by rw [g2, if_neg (by decide), g1, if_pos rfl]; omega) (by omega) (fun _ => by omega) fun M' a a1 a2 a3 a4 => hQ M' (fq_tt q2 a) a1 a2 a3 ?_
        rw [a4]
        obtain ⟨x, hx⟩ : ∃ x, min (re isD b n (p + 1) - s) 4 - (p - s) = x + 1 := ⟨min (re isD b n (p + 1) - s) 4 - (p - s) - 1, by omega⟩
        rw [hx, show min (re isD b n (p + 1) - s) 4 - (p + 1 - s) = x by omega]
        rfl
      · rw [w32_i (by omega) (by omega)]
        refine wp_up fun M1 f1 g1 => ?_
        have q1 := fq_up (by decide) f1 g1
        refine ih (p + 1) v M1 (by omega) (by omega) (by omega) (rB_fq hB q1) (by rw [g1, if_pos rfl]; rfl) (by rw [g1, if_neg (by decide), hs]) (by rw [g1, if_neg (by decide), hv]) h0 (fun h => by omega) fun M' a a1 a2 a3 a4 => hQ M' (fq_tt q1 a) a1 a2 a3 ?_
        rw [a4, show min (re isD b n (p + 1) - s) 4 - (p + 1 - s) = 0 by omega, show min (re isD b n (p + 1) - s) 4 - (p - s) = 0 by omega]
        rfl
theorem m_next284_eq (d : Nat) (c : Int) (M : aM) (h : 0 ≤ c ∧ c < 256) (Q : List aV → aM → Prop) (hQ : ∀ M', fr [157] M M' → (∀ i, M' 157 i = if i = 18 then 100 + c else M 157 i) → Q [] M') : wp (w_m_next0_284 d c M) Q := by
  rw [l_m_next0_284]
  refine wp_neg (by decide) ?_
  rw [w32_i (by omega) (by omega)]
  refine wp_up fun M1 f1 g1 => ?_
  exact wp_ret (hQ M1 f1 g1)
theorem cr_S {k : Nat} {c : Int} (h : isS c = true) : cr k c = 100 + c := by
  have := of_decide_eq_true h
  unfold cr
  rw [if_neg (by omega), if_neg (by omega), if_neg (by omega), if_pos (by omega)]
theorem m_next00_lp (d : Nat) {k : Nat} (hk : k < 4) {b : Nat → Int} {n : Nat} : ∀ (f p : Nat) (M : aM), n - p = f → p ≤ n → rB k b n M → M 157 17 = p →
    wp (w_m_next0_0 (d + 9) M) fun r M' => r = [] ∧ fq M M' ∧ rS k b n (toks (wsk k) b n p) M' := by
  intro f
  induction f with
  | zero =>
    intro p M h hp hB hat
    have e0 : toks (wsk k) b n p = [] := by
      rw [toks_eq, if_neg]
      have := re_ge isB b n p
      omega
    rw [l_m_next0_0, hat]
    refine wp_eI (m_see_eq _ hB p) ?_
    rw [if_neg (show ¬ p < n by omega)]
    refine wp_neg (by decide) ?_
    rw [hat]
    refine wp_eI (m_see_eq _ hB p) ?_
    rw [if_neg (show ¬ p < n by omega)]
    refine wp_neg (by decide) ?_
    rw [hat]
    refine wp_up fun M1 f1 g1 => ?_
    have q1 := fq_up (by decide) f1 g1
    rw [g1 17, if_neg (by decide), hat]
    refine wp_eI (m_see_eq _ (rB_fq hB q1) p) ?_
    rw [if_neg (show ¬ p < n by omega)]
    refine wp_pos rfl ?_
    refine wp_up fun M2 f2 g2 => ?_
    refine wp_ret ⟨rfl, fq_tt q1 (fq_up (by decide) f2 g2), p, ?_, hp, ?_, ?_, ?_, ?_⟩
    · rw [g2, if_neg (by decide), g1, if_neg (by decide), hat]
    · rw [e0]; rfl
    · rw [g2, if_pos rfl, e0]; rfl
    · rw [g2, if_neg (by decide), g1, if_pos rfl, e0]
      show (p : Int) = (n : Int)
      omega
    · rw [e0]; intro e; exact absurd e (by decide)
  | succ f ih =>
    intro p M h hp hB hat
    have h400 := hB.2.2.1
    have hbp := (hB.2.2.2 p (by omega)).2
    have e5 : w32 ((p : Int) + 1) = ((p + 1 : Nat) : Int) := by rw [w32_i (by omega) (by omega)]; rfl
    have blank : isB (b p) = true → ∀ M1, fr [157] M M1 → (∀ i, M1 157 i = if i = 17 then ((p + 1 : Nat) : Int) else M 157 i) → wp (w_m_next0_0 (d + 9) M1) fun r M' => r = [] ∧ fq M M' ∧ rS k b n (toks (wsk k) b n p) M' := by
      intro hb M1 f1 g1
      have q1 := fq_up (by decide) f1 g1
      refine wp_mono (ih (p + 1) M1 (by omega) (by omega) (rB_fq hB q1) (by rw [g1, if_pos rfl])) ?_
      rintro r M' ⟨a1, a2, a3⟩
      refine ⟨a1, fq_tt q1 a2, ?_⟩
      rw [toks_eq, show re isB b n p = re isB b n (p + 1) by rw [re_eq, if_pos ⟨by omega, hb⟩], ← toks_eq]
      exact a3
    rw [l_m_next0_0, hat]
    refine wp_eI (m_see_eq _ hB p) ?_
    rw [if_pos (show p < n by omega), hat, e5]
    refine wp_if (fun hb => wp_up fun M1 f1 g1 => blank (decide_eq_true (Or.inl hb)) M1 f1 g1) (fun hb1 => ?_)
    refine wp_eI (m_see_eq _ hB p) ?_
    rw [if_pos (show p < n by omega), hat, e5]
    refine wp_if (fun hb => wp_up fun M1 f1 g1 => blank (decide_eq_true (Or.inr hb)) M1 f1 g1) (fun hb2 => ?_)
    have er : re isB b n p = p := by
      rw [re_eq, if_neg]
      rintro ⟨-, h2⟩
      have := of_decide_eq_true h2
      omega
    have et : toks (wsk k) b n p = (tkAt (wsk k) b n p).1 :: toks (wsk k) b n (tkAt (wsk k) b n p).2 := by rw [toks_eq, er, if_pos (by omega)]
    have hin := tkAt_in (wsk k) b (show p < n by omega)
    have fin : ∀ (t : aTk) (p' : Nat) (M' : aM), tkAt (wsk k) b n p = (t, p') → fq M M' → M' 157 17 = (p' : Int) → M' 157 18 = cr k t.1 → M' 157 19 = (p : Int) → (t.1 = 1 → M' 157 20 = t.2.1) → rS k b n (toks (wsk k) b n p) M' := by
      intro t p' M' ht q1 a1 a2 a3 a4
      rw [ht] at hin et
      refine ⟨p', a1, hin.2.1, by rw [et]; rfl, by rw [et]; exact a2, by rw [et, a3]; exact hin.2.2.symm, by rw [et]; exact a4⟩
    refine wp_up fun M1 f1 g1 => ?_
    have q1 := fq_up (by decide) f1 g1
    have hB1 := rB_fq hB q1
    have at1 : M1 157 17 = p := by rw [g1, if_neg (by decide), hat]
    have s1 : M1 157 19 = p := by rw [g1, if_pos rfl]
    rw [at1]
    refine wp_eI (m_see_eq _ hB1 p) ?_
    rw [if_pos (show p < n by omega)]
    refine wp_neg (by omega) ?_
    refine wp_eI (m_isL_eq _ _ M1) ?_
    cases hL : isL (b p) with
    | true =>
      rw [bI_t]
      refine wp_neg (by decide) ?_
      refine m_next76_lp d hk _ _ p M1 rfl (by omega) (Nat.le_refl _) hB1 at1 s1 fun M' a a1 a2 a3 => ⟨rfl, fq_tt q1 a, fin (wix b p (re isL b n p) (wsk k) 0, 0, (p : Int)) (re isL b n p) M' ?_ (fq_tt q1 a) a1 a2 a3 ?_⟩
      · unfold tkAt; rw [if_pos hL]
      · intro e
        have := wix_in b p (re isL b n p) (wsk k) 0
        dsimp only at e
        omega
    | false =>
      rw [bI_f]
      refine wp_pos rfl ?_
      refine wp_eI (m_isD_eq _ _ M1) ?_
      cases hD : isD (b p) with
      | true =>
        rw [bI_t]
        refine wp_neg (by decide) ?_
        refine wp_up fun M2 f2 g2 => ?_
        have q2 := fq_tt q1 (fq_up (by decide) f2 g2)
        have hge := re_ge isD b n p
        refine m_next126_lp (d + 7) _ _ p 0 M2 rfl (by omega) (Nat.le_refl _) (rB_fq hB q2) (by rw [g2, if_neg (by decide), at1]) (by rw [g2, if_neg (by decide), s1]) (by rw [g2, if_pos rfl]) (Int.le_refl _) (fun _ => by rw [Nat.sub_self]; decide) fun M' a a1 a2 a3 a4 => ⟨rfl, fq_tt q2 a, fin (if re isD b n p - p ≤ 4 then 1 else 2, nV b (min (re isD b n p - p) 4) p 0, (p : Int)) (re isD b n p) M' ?_ (fq_tt q2 a) a1 ?_ a3 ?_⟩
        · unfold tkAt; rw [if_neg (by rw [hL]; decide), if_pos hD]
        · rw [a2]
          by_cases h5 : re isD b n p - p ≤ 4
          · rw [if_pos h5, if_pos (by omega)]; rfl
          · rw [if_neg h5, if_neg (by omega)]; rfl
        · intro _
          rw [a4, Nat.sub_self, Nat.sub_zero]
      | false =>
        rw [bI_f]
        refine wp_pos rfl ?_
        rw [at1, e5]
        refine wp_up fun M2 f2 g2 => ?_
        have q2 := fq_tt q1 (fq_up (by decide) f2 g2)
        have at2 : M2 157 17 = ((p + 1 : Nat) : Int) := by rw [g2, if_pos rfl]
        have s2 : M2 157 19 = p := by rw [g2, if_neg (by decide), s1]
        have sgn : isS (b p) = true → wp (w_m_next0_284 (d + 9) (b p) M2) fun r M' => r = [] ∧ fq M M' ∧ rS k b n (toks (wsk k) b n p) M' := by
          intro hS
          refine m_next284_eq _ _ M2 (by omega) _ fun M3 f3 g3 => ?_
          have q3 := fq_tt q2 (fq_up (by decide) f3 g3)
          refine ⟨rfl, q3, fin (b p, 0, (p : Int)) (p + 1) M3 ?_ q3 (by rw [g3, if_neg (by decide), at2]) (by rw [g3, if_pos rfl, cr_S hS]) (by rw [g3, if_neg (by decide), s2]) ?_⟩
          · unfold tkAt; rw [if_neg (by rw [hL]; decide), if_neg (by rw [hD]; decide), if_pos hS]
          · intro e
            have := of_decide_eq_true hS
            dsimp only at e
            omega
        refine wp_if (fun h => sgn (by rw [h]; rfl)) (fun h1 => ?_)
        refine wp_if (fun h => sgn (by rw [h]; rfl)) (fun h2 => ?_)
        refine wp_if (fun h => sgn (by rw [h]; rfl)) (fun h3 => ?_)
        refine wp_if (fun h => sgn (by rw [h]; rfl)) (fun h4 => ?_)
        refine wp_if (fun h => sgn (by rw [h]; rfl)) (fun h5 => ?_)
        refine wp_if (fun h => sgn (by rw [h]; rfl)) (fun h6 => ?_)
        refine wp_if (fun h => sgn (by rw [h]; rfl)) (fun h7 => ?_)
        refine wp_if (fun h => sgn (by rw [h]; rfl)) (fun h8 => ?_)
        refine wp_if (fun h => sgn (by rw [h]; rfl)) (fun h9 => ?_)
        refine wp_if (fun h => sgn (by rw [h]; rfl)) (fun h10 => ?_)
        have hS : isS (b p) = false := decide_eq_false (by omega)
        refine wp_pos rfl ?_
        refine wp_up fun M3 f3 g3 => ?_
        have q3 := fq_tt q2 (fq_up (by decide) f3 g3)
        refine wp_ret ⟨rfl, q3, fin (2, 0, (p : Int)) (p + 1) M3 ?_ q3 (by rw [g3, if_neg (by decide), at2]) (by rw [g3, if_pos rfl]; rfl) (by rw [g3, if_neg (by decide), s2]) ?_⟩
        · unfold tkAt; rw [if_neg (by rw [hL]; decide), if_neg (by rw [hD]; decide), hS]; rfl
        · intro e; exact absurd e (show ¬ (2 : Int) = 1 by decide)
theorem m_next_eq (d : Nat) {k : Nat} (hk : k < 4) {b : Nat → Int} {n p : Nat} {M : aM} (hp : p ≤ n) (hB : rB k b n M) (hat : M 157 17 = p) : wp (w_m_next0 (d + 10) M) fun r M' => r = [] ∧ fq M M' ∧ rS k b n (toks (wsk k) b n p) M' := by
  rw [show w_m_next0 (d + 10) M = w_m_next0_0 (d + 9) M from (u_m_next0 _ M).trans (u_m_next0_0 _ M).symm]
  exact m_next00_lp d hk _ p M rfl hp hB hat
/-- the next token -/
theorem m_next_S (d : Nat) {k : Nat} (hk : k < 4) {b : Nat → Int} {n : Nat} {ts : List aTk} {M : aM} (hB : rB k b n M) (hS : rS k b n ts M) : wp (w_m_next0 (d + 10) M) fun r M' => r = [] ∧ fq M M' ∧ rS k b n ts.tail M' := by
  obtain ⟨p, h1, h2, h3, -⟩ := hS
  rw [← h3]
  exact m_next_eq d hk h2 hB h1
