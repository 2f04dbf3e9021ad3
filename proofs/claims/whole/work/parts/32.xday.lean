/-! A day in the class: the book, the plan, who comes. -/
def rW (tr : Bool) (a : Nat) (V : aW) (L : aLaw) (M : aM) : Prop := rWo a V L M ∧ (tr = true → rBk a V M)
def fW (a : Nat) (M M' : aM) : Prop := ∀ k, (k < a ∨ a + 31 ≤ k) → M' k = M k
theorem fW_refl (a : Nat) (M : aM) : fW a M M := fun _ _ => rfl
theorem fW_tr {a : Nat} {M M1 M2 : aM} (h1 : fW a M M1) (h2 : fW a M1 M2) : fW a M M2 := fun k h => (h2 k h).trans (h1 k h)
theorem fW_fr {a : Nat} {l : List Nat} {M M' : aM} (h : fr l M M') (hl : ∀ k, k ∈ l → a ≤ k ∧ k < a + 31) : fW a M M' := fun k hk => h k fun e => by have := hl k e; omega
theorem rWd_V {b : Nat} {V V' : aW} {M : aM} (h : rWd b V M) (hv : ∀ k, k < 63 → k ≠ 8 → k < 44 ∨ 53 ≤ k → V' k = V k) : rWd b V' M := by
  unfold rWd at h ⊢
  obtain ⟨h1, h2, h3, h4, h5, h6, h7, h8, h9, h10, h11, h12, h13, h14, h15, h16, h17⟩ := h
  refine ⟨?_, ?_, ?_, ?_, ?_, ?_, ?_, ?_, ?_, ?_, ?_, ?_, ?_, fun i hi => ?_, fun i hi => ?_, fun i hi => ?_, fun i hi => ?_⟩
  all_goals rw [hv _ (by omega) (by omega) (by omega)]
  all_goals first | assumption | exact h14 i hi | exact h15 i hi | exact h16 i hi | exact h17 i hi
theorem rRow_V {c most w : Nat} {N N' : Int} {f f' : Nat → Nat → Int} {M : aM} (h : rRow c most N f w M) (hN : N' = N) (hf : ∀ i j : Nat, (i : Int) < N → j < w → f' i j = f i j) : rRow c most N' f' w M := by
  subst hN
  exact ⟨h.1, h.2.1, fun i j hi hj => (h.2.2 i j hi hj).trans (hf i j hi hj).symm⟩
/-- the bounds of the told lists -/
def okN (V : aW) : Prop := (0 ≤ V 45 ∧ V 45 ≤ 16) ∧ (0 ≤ V 46 ∧ V 46 ≤ 16) ∧ (0 ≤ V 47 ∧ V 47 ≤ 8) ∧ (0 ≤ V 48 ∧ V 48 ≤ 12) ∧ (0 ≤ V 49 ∧ V 49 ≤ 8) ∧ (0 ≤ V 50 ∧ V 50 ≤ 14) ∧ (0 ≤ V 51 ∧ V 51 ≤ 20) ∧ (0 ≤ V 52 ∧ V 52 ≤ 9)
theorem okN_V {V V' : aW} (h : okN V) (hv : ∀ k, 45 ≤ k → k < 53 → V' k = V k) : okN V' := by
  unfold okN at h ⊢
  rw [hv 45 (by omega) (by omega), hv 46 (by omega) (by omega), hv 47 (by omega) (by omega), hv 48 (by omega) (by omega), hv 49 (by omega) (by omega), hv 50 (by omega) (by omega), hv 51 (by omega) (by omega), hv 52 (by omega) (by omega)]
  exact h
theorem rTl_V {a : Nat} {V V' : aW} {M : aM} (h : rTl a V M) (hn : okN V) (hv : ∀ k, 45 ≤ k → k < 284 → k < 53 ∨ 63 ≤ k → V' k = V k) : rTl a V' M := by
  obtain ⟨h1, h2, h3, h4, h5, h6, h7, h8⟩ := h
  obtain ⟨n1, n2, n3, n4, n5, n6, n7, n8⟩ := hn
  exact ⟨rRow_V h1 (hv 45 (by omega) (by omega) (by omega)) fun i j _ _ => congrArg (· - (if j = 1 then (7 : Int) else 0)) (hv (63 + 3 * i + j) (by omega) (by omega) (by omega)),
    rRow_V h2 (hv 46 (by omega) (by omega) (by omega)) fun i j _ _ => hv _ (by omega) (by omega) (by omega),
    rRow_V h3 (hv 47 (by omega) (by omega) (by omega)) fun i j _ _ => hv _ (by omega) (by omega) (by omega),
    rRow_V h4 (hv 48 (by omega) (by omega) (by omega)) fun i j _ _ => hv _ (by omega) (by omega) (by omega),
    rRow_V h5 (hv 49 (by omega) (by omega) (by omega)) fun i j _ _ => hv _ (by omega) (by omega) (by omega),
    rRow_V h6 (hv 50 (by omega) (by omega) (by omega)) fun i j _ _ => hv _ (by omega) (by omega) (by omega),
    rRow_V h7 (hv 51 (by omega) (by omega) (by omega)) fun i j _ _ => hv _ (by omega) (by omega) (by omega),
    rRow_V h8 (hv 52 (by omega) (by omega) (by omega)) fun i j _ _ => hv _ (by omega) (by omega) (by omega)⟩
theorem rows_put_lt (d c n most : Nat) (x y z u : Int) (M : aM) (h0 : M c 0 = most) (h2 : M c 2 = n) (hn : n < most) (hm : most ≤ 1000) (hl : aLen (c + 1) = 4 * most) :
    wp (w_rows_put (d + 1) c x y z u M) fun r M' => r = [aI 1] ∧ fr [c, c + 1] M M' ∧ M' c 0 = most ∧ M' c 2 = (n + 1 : Nat) ∧ ∀ j, M' (c + 1) j = if j = 4 * n then x else if j = 4 * n + 1 then y else if j = 4 * n + 2 then z else if j = 4 * n + 3 then u else M (c + 1) j := by
  rw [l_rows_put, h0, h2, hl]
  have e0 : w32 ((n : Int) * 4) = ((4 * n : Nat) : Int) := by rw [w32_i (by omega) (by omega)]; omega
  rw [e0]
  refine wp_I ?_
  have e1 : w32 (((4 * n : Nat) : Int) + 1) = ((4 * n + 1 : Nat) : Int) := by rw [w32_i (by omega) (by omega)]; omega
  have e2 : w32 (((4 * n : Nat) : Int) + 2) = ((4 * n + 2 : Nat) : Int) := by rw [w32_i (by omega) (by omega)]; omega
  have e3 : w32 (((4 * n : Nat) : Int) + 3) = ((4 * n + 3 : Nat) : Int) := by rw [w32_i (by omega) (by omega)]; omega
  rw [e1, e2, e3]
  simp only [tn_n]
  refine wp_pos (by omega) ?_
  refine wp_neg (by omega) ?_
  refine wp_pos (by omega) ?_
  refine wp_inb ⟨by omega, by omega⟩ ?_
  refine wp_up fun M1 f1 g1 => ?_
  refine wp_inb ⟨by omega, by omega⟩ ?_
  refine wp_up fun M2 f2 g2 => ?_
  refine wp_inb ⟨by omega, by omega⟩ ?_
  refine wp_up fun M3 f3 g3 => ?_
  refine wp_inb ⟨by omega, by omega⟩ ?_
  refine wp_up fun M4 f4 g4 => ?_
  have f14 : fr [c + 1] M M4 := fr_tt f1 (fr_tt f2 (fr_tt f3 f4))
  rw [f14 c (by simp), h2, w32_i (by omega) (by omega)]
  refine wp_up fun M5 f5 g5 => ?_
  refine wp_ret ⟨rfl, fr_tr f14 f5 (by simp) (by simp), ?_, ?_, fun j => ?_⟩
  · rw [g5, if_neg (by omega), f14 c (by simp), h0]
  · rw [g5, if_pos rfl]; omega
  · rw [f5 _ (by simp), g4, g3, g2, g1]
    repeat' split
    all_goals first | rfl | (exfalso; omega)
theorem rows_put_ge (d c n most : Nat) (x y z u : Int) (M : aM) (h0 : M c 0 = most) (h2 : M c 2 = n) (hn : most ≤ n) : w_rows_put (d + 1) c x y z u M = some ([aI 0], M) := by
  rw [u_rows_put, h0, h2]
  simp only
  rw [if_neg (by omega)]
theorem book_put (d a : Nat) (tr : Bool) (V : aW) (L : aLaw) (x y z : Int) (M : aM) (ha : isWo a) (h : rW tr a V L M) (hN : okN V) :
    wp (w_rows_put (d + 1) (a + 17) (V 0) x y z M) fun r M' => ∃ b, r = [aI b] ∧ rW tr a (pNote tr V x y z) L M' ∧ fr [a + 17, a + 18] M M' := by
  obtain ⟨⟨w1, w2, w3, w4, w5, w6⟩, hb⟩ := h
  obtain ⟨n, hn⟩ : ∃ n : Nat, M (a + 17) 2 = n := ⟨(M (a + 17) 2).toNat, by omega⟩
  by_cases hlt : n < 150
  · refine wp_mono (rows_put_lt d (a + 17) n 150 (V 0) x y z M w4 hn hlt (by omega) (wl18 ha)) ?_
    rintro r M' ⟨e, f, g0, g2, g⟩
    have hv : ∀ k, k < 284 → k ≠ 8 → pNote tr V x y z k = V k := by
      intro k hk h8
      unfold pNote
      split
      · rw [vS_ne h8, vS_ne (by omega), vS_ne (by omega), vS_ne (by omega), vS_ne (by omega)]
      · rfl
    refine ⟨1, e, ⟨⟨rWd_V (rWd_fr w1 fun k _ _ => f k (by simp; omega)) fun k hk h8 _ => hv k (by omega) h8, rTl_V ?_ hN fun k hk _ _ => hv k (by omega) (by omega), rLaw_fr w3 fun k _ _ _ => f k (by simp; omega), g0, by omega, by omega⟩, ?_⟩, f⟩
    · obtain ⟨t1, t2, t3, t4, t5, t6, t7, t8⟩ := w2
      exact ⟨rRow_fr t1 fun k _ _ => f k (by simp; omega), rRow_fr t2 fun k _ _ => f k (by simp; omega), rRow_fr t3 fun k _ _ => f k (by simp; omega), rRow_fr t4 fun k _ _ => f k (by simp; omega), rRow_fr t5 fun k _ _ => f k (by simp; omega), rRow_fr t6 fun k _ _ => f k (by simp; omega), rRow_fr t7 fun k _ _ => f k (by simp; omega), rRow_fr t8 fun k _ _ => f k (by simp; omega)⟩
    · intro ht
      subst ht
      obtain ⟨b0, b2, bc⟩ := hb rfl
      have e8 : V 8 = n := by omega
      have ep : pNote true V x y z = vS (vS (vS (vS (vS V (284 + 4 * n) (V 0)) (285 + 4 * n) x) (286 + 4 * n) y) (287 + 4 * n) z) 8 (w32 ((n : Int) + 1)) := by
        unfold pNote
        rw [if_pos ⟨rfl, by omega⟩, e8, tn_n]
      refine ⟨g0, ?_, ?_⟩
      · rw [g2, ep, vS_at, w32_i (by omega) (by omega)]; omega
      · intro i j hi hj
        rw [ep, vS_at, w32_i (by omega) (by omega)] at hi
        rw [g, ep]
        show _ = vS _ 8 _ (284 + 4 * i + j)
        rw [vS_ne (show 284 + 4 * i + j ≠ 8 by omega)]
        by_cases hin : i = n
        · subst hin
          have : j = 0 ∨ j = 1 ∨ j = 2 ∨ j = 3 := by omega
          rcases this with rfl | rfl | rfl | rfl
          · rw [if_pos (by omega), vS_ne (by omega), vS_ne (by omega), vS_ne (by omega), Nat.add_zero, vS_at]
          · rw [if_neg (by omega), if_pos (by omega), vS_ne (by omega), vS_ne (by omega), show 284 + 4 * i + 1 = 285 + 4 * i by omega, vS_at]
          · rw [if_neg (by omega), if_neg (by omega), if_pos (by omega), vS_ne (by omega), show 284 + 4 * i + 2 = 286 + 4 * i by omega, vS_at]
          · rw [if_neg (by omega), if_neg (by omega), if_neg (by omega), if_pos (by omega), show 284 + 4 * i + 3 = 287 + 4 * i by omega, vS_at]
        · rw [if_neg (by omega), if_neg (by omega), if_neg (by omega), if_neg (by omega), show M (a + 17 + 1) (4 * i + j) = V (284 + 4 * i + j) from bc i j (by omega) hj, vS_ne (by omega), vS_ne (by omega), vS_ne (by omega), vS_ne (by omega)]
  · refine ⟨_, _, rows_put_ge d (a + 17) n 150 (V 0) x y z M w4 hn (by omega), 0, rfl, ?_, fr_refl _ _⟩
    have ep : tr = true → pNote tr V x y z = V := by
      intro ht
      obtain ⟨b0, b2, bc⟩ := hb ht
      unfold pNote
      rw [if_neg (by omega)]
    cases tr with
    | false => exact ⟨⟨w1, w2, w3, w4, w5, w6⟩, hb⟩
    | true => rw [ep rfl]; exact ⟨⟨w1, w2, w3, w4, w5, w6⟩, hb⟩
/-- one number of the wood -/
theorem rWd_s {b k j : Nat} {x : Int} {V : aW} {M M' : aM} (h : rWd b V M) (f : fr [b] M M') (g : ∀ i, M' b i = if i = j then x else M b i)
    (hkj : (k = 41 ∧ j = 4) ∨ (k = 10 ∧ j = 5) ∨ (k = 4 ∧ j = 6) ∨ (k = 5 ∧ j = 7) ∨ (k = 6 ∧ j = 8) ∨ (k = 42 ∧ j = 9) ∨ (k = 43 ∧ j = 10) ∨ (k = 1 ∧ j = 11) ∨ (k = 2 ∧ j = 12) ∨ (k = 3 ∧ j = 13) ∨ (k = 0 ∧ j = 14) ∨ (k = 7 ∧ j = 15) ∨ (k = 9 ∧ j = 16)) : rWd b (vS V k x) M' := by
  unfold rWd at h ⊢
  obtain ⟨h1, h2, h3, h4, h5, h6, h7, h8, h9, h10, h11, h12, h13, h14, h15, h16, h17⟩ := h
  simp only [f (b + 1) (by simp), f (b + 2) (by simp), f (b + 3) (by simp), f (b + 4) (by simp), g]
  rcases hkj with ⟨rfl, rfl⟩ | ⟨rfl, rfl⟩ | ⟨rfl, rfl⟩ | ⟨rfl, rfl⟩ | ⟨rfl, rfl⟩ | ⟨rfl, rfl⟩ | ⟨rfl, rfl⟩ | ⟨rfl, rfl⟩ | ⟨rfl, rfl⟩ | ⟨rfl, rfl⟩ | ⟨rfl, rfl⟩ | ⟨rfl, rfl⟩ | ⟨rfl, rfl⟩
  all_goals
    refine ⟨?_, ?_, ?_, ?_, ?_, ?_, ?_, ?_, ?_, ?_, ?_, ?_, ?_, fun i hi => ?_, fun i hi => ?_, fun i hi => ?_, fun i hi => ?_⟩
    all_goals first
      | (rw [if_pos rfl, vS_at]; done)
      | (rw [if_neg (by omega), vS_ne (by omega)]; assumption)
      | (rw [vS_ne (by omega)]; first | exact h14 i hi | exact h15 i hi | exact h16 i hi | exact h17 i hi)
theorem rW_s {tr : Bool} {a k j : Nat} {x : Int} {V : aW} {L : aLaw} {M M' : aM} (h : rW tr a V L M) (hN : okN V) (f : fr [a + 1] M M') (g : ∀ i, M' (a + 1) i = if i = j then x else M (a + 1) i)
    (hkj : (k = 41 ∧ j = 4) ∨ (k = 10 ∧ j = 5) ∨ (k = 4 ∧ j = 6) ∨ (k = 5 ∧ j = 7) ∨ (k = 6 ∧ j = 8) ∨ (k = 42 ∧ j = 9) ∨ (k = 43 ∧ j = 10) ∨ (k = 1 ∧ j = 11) ∨ (k = 2 ∧ j = 12) ∨ (k = 3 ∧ j = 13) ∨ (k = 0 ∧ j = 14) ∨ (k = 7 ∧ j = 15) ∨ (k = 9 ∧ j = 16)) : rW tr a (vS V k x) L M' := by
  obtain ⟨⟨w1, w2, w3, w4⟩, hb⟩ := h
  have hk : k < 44 ∧ k ≠ 8 := by omega
  refine ⟨⟨rWd_s w1 f g hkj, rTl_V (rTl_fr w2 fun i _ _ => f i (by simp; omega)) hN fun i _ _ _ => vS_ne (by omega), rLaw_fr w3 fun i _ _ _ => f i (by simp; omega), ?_⟩, fun ht => ?_⟩
  · rw [f (a + 17) (by simp)]; exact w4
  · have := hb ht
    refine rRow_V (rRow_fr this fun i _ _ => f i (by simp; omega)) (vS_ne (by omega)) fun i j _ _ => vS_ne (by omega)
theorem rW_wd {tr : Bool} {a : Nat} {V : aW} {L : aLaw} {M : aM} (h : rW tr a V L M) : rWd (a + 1) V M := h.1.1
theorem rW_fr {tr : Bool} {a : Nat} {V : aW} {L : aLaw} {M M' : aM} (h : rW tr a V L M) (f : ∀ k, a < k → k < a + 29 → k ≠ a + 8 → M' k = M k) : rW tr a V L M' :=
  ⟨rWo_fr h.1 f, fun ht => rRow_fr (h.2 ht) fun k _ _ => f k (by omega) (by omega) (by omega)⟩
theorem world_eat_eq (d a : Nat) (tr : Bool) (V : aW) (L : aLaw) (x : Int) (is : Bool) (M : aM) (ha : isWo a) (h : rW tr a V L M) (hN : okN V) :
    wp (w_world_eatOrFree (d + 2) a x (bI is) M) fun r M' => r = [] ∧ rW tr a (pEats tr V x is) L M' ∧ fW a M M' := by
  rw [l_world_eatOrFree]
  have e5 := (rW_wd h).2.1
  cases is with
  | false =>
    refine wp_pos rfl ?_
    refine wp_up fun M1 f1 g1 => ?_
    rw [e5] at g1
    have h1 := rW_s (k := 10) h hN f1 g1 (by omega)
    refine wp_pos rfl ?_
    rw [(rW_wd h1).2.2.2.2.2.2.2.2.2.2.1]
    refine wp_bI (P := fun _ M' => rW tr a (pEats tr V x false) L M' ∧ fr [a + 17, a + 18] M1 M') (wp_mono (book_put _ a tr _ L 5 x 0 M1 ha h1 (okN_V hN fun k _ _ => vS_ne (by omega))) ?_) ?_
    · rintro r M' ⟨b, e, w, f⟩; exact ⟨b, e, w, f⟩
    · rintro v M2 ⟨w2, f2⟩
      exact wp_ret ⟨rfl, w2, fW_tr (fW_fr f1 (by simp)) (fW_fr f2 (by simp))⟩
  | true =>
    refine wp_neg (by decide) ?_
    refine wp_up fun M1 f1 g1 => ?_
    rw [e5] at g1
    have h1 := rW_s (k := 10) h hN f1 g1 (by omega)
    refine wp_neg (by decide) ?_
    rw [(rW_wd h1).2.2.2.2.2.2.2.2.2.2.1]
    refine wp_bI (P := fun _ M' => rW tr a (pEats tr V x true) L M' ∧ fr [a + 17, a + 18] M1 M') (wp_mono (book_put _ a tr _ L 3 x 0 M1 ha h1 (okN_V hN fun k _ _ => vS_ne (by omega))) ?_) ?_
    · rintro r M' ⟨b, e, w, f⟩; exact ⟨b, e, w, f⟩
    · rintro v M2 ⟨w2, f2⟩
      exact wp_ret ⟨rfl, w2, fW_tr (fW_fr f1 (by simp)) (fW_fr f2 (by simp))⟩
