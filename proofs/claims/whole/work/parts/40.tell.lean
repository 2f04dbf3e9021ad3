/-! What is told one by one. -/
theorem okW_V {V V' : aW} (h : okW V) (hv : ∀ k, k < 44 ∨ 53 ≤ k ∧ k < 63 → k ≠ 2 ∧ k ≠ 3 ∧ k ≠ 7 → V' k = V k) : okW V' := by
  unfold okW at h ⊢
  obtain ⟨h1, h2, h3, h4, h5, h6, h7, h8, h9, h10, h11, h12, h13, h14⟩ := h
  rw [hv 8 (by omega) (by omega), hv 0 (by omega) (by omega), hv 1 (by omega) (by omega), hv 41 (by omega) (by omega), hv 4 (by omega) (by omega), hv 5 (by omega) (by omega), hv 6 (by omega) (by omega), hv 42 (by omega) (by omega), hv 43 (by omega) (by omega), hv 9 (by omega) (by omega)]
  exact ⟨okA_V h1 (hv 10 (by omega) (by omega)) (hv 41 (by omega) (by omega)), h2, h3, h4, h5, h6, h7, h8, h9, h10, fun i hi => by rw [hv (53 + i) (by omega) (by omega)]; exact h11 i hi, fun i hi => by rw [hv (11 + i) (by omega) (by omega)]; exact h12 i hi, fun i hi => by rw [hv (21 + i) (by omega) (by omega)]; exact h13 i hi, fun i hi => by rw [hv (31 + i) (by omega) (by omega)]; exact h14 i hi⟩
theorem iRing_V {M M' : aM} (h : iRing M) (h94 : M' 94 = M 94) (h4 : M' 157 4 = M 157 4) (h96 : M' 96 = M 96) (h160 : M' 160 = M 160) (h158 : ∀ k, k < 44 ∨ 53 ≤ k ∧ k < 63 → M' 158 k = M 158 k) (f : ∀ k, 97 ≤ k → k < 127 → M' k = M k) : iRing M' := by
  obtain ⟨n, g, a1, a2, a3, a4, a5, a6, a7⟩ := h
  have hb : ∀ j k, k < 44 ∨ 53 ≤ k ∧ k < 63 → bk M' j k = bk M j k := fun j k hk => by
    unfold bk; rw [h160, h158 k hk]
  refine ⟨n, g, by rw [h94]; exact a1, by rw [h4]; exact a2, a3, by rw [h94]; exact a4, a5, fun j hj => ?_, fun i j hi hj => by rw [hb i 8 (by omega), hb j 8 (by omega)]; exact a7 i j hi hj⟩
  obtain ⟨b1, b2, b3, b4⟩ := a6 j hj
  unfold iSlot
  rw [hb j 8 (by omega), h96, h158 8 (by omega)]
  have hm : (g + j) % 6 < 6 := Nat.mod_lt _ (by omega)
  exact ⟨rWd_V (rWd_fr b1 fun k _ _ => f k (by omega) (by omega)) fun k _ _ _ => hb j k (by omega), b2, okW_V b3 fun k hk _ => hb j k hk, b4⟩
theorem Inv_T {L Lk : aLaw} {M M' : aM} {c : Nat} (hI : Inv L Lk M) (hc : 20 ≤ c ∧ c ≤ 28) (f : ∀ k, k ≠ c → k ≠ c + 1 → k ≠ 158 → M' k = M k) (hv : ∀ k, k < 48 ∨ (53 ≤ k ∧ k < 175) ∨ 284 ≤ k → M' 158 k = M 158 k) (hT : okT (M' 158)) (ht : rTl 1 (M' 158) M') : Inv L Lk M' := by
  obtain ⟨⟨k1, k2, ⟨⟨w1, w2, w3, w4⟩, wb⟩, k4, k5⟩, h2, h3, h4, h5, h6⟩ := hI
  refine ⟨⟨okW_V k1 fun k hk _ => hv k (by omega), hT, ⟨⟨rWd_V (rWd_fr w1 fun k _ _ => f k (by omega) (by omega) (by omega)) fun k _ _ _ => hv k (by omega), ht, rLaw_fr w3 fun k _ _ _ => f k (by omega) (by omega) (by omega), ?_⟩, fun _ => ?_⟩, vLaw_V k4 fun k hk => hv k (by omega), k5⟩, ?_, ?_, ?_, ?_, ?_⟩
  · rw [f (1 + 17) (by omega) (by omega) (by omega)]; exact w4
  · exact rRow_V (rRow_fr (wb rfl) fun k _ _ => f k (by omega) (by omega) (by omega)) (hv 8 (by omega)) fun i j _ _ => hv _ (by omega)
  · exact iKept_ag h2 (by rw [f 0 (by omega) (by omega) (by omega)]) (by rw [f 157 (by omega) (by omega) (by omega)]) (f 159 (by omega) (by omega) (by omega)) fun k _ _ _ => f k (by omega) (by omega) (by omega)
  · exact iStat_ag h3 fun k _ => by rw [f k (by omega) (by omega) (by omega)]
  · exact iRing_V h4 (f 94 (by omega) (by omega) (by omega)) (by rw [f 157 (by omega) (by omega) (by omega)]) (f 96 (by omega) (by omega) (by omega)) (f 160 (by omega) (by omega) (by omega)) (fun k hk => hv k (by omega)) fun k _ _ => f k (by omega) (by omega) (by omega)
  · exact iTape_ag h5 (f 127 (by omega) (by omega) (by omega)) (by rw [f 157 (by omega) (by omega) (by omega)]) (f 128 (by omega) (by omega) (by omega)) (f 165 (by omega) (by omega) (by omega))
  · exact iFault_ag h6 (f 132 (by omega) (by omega) (by omega)) (by rw [f 157 (by omega) (by omega) (by omega)]) (by rw [f 157 (by omega) (by omega) (by omega)])
theorem wp_idI {x : aR} {Q : List aV → aM → Prop} (h : wp x fun r M => (∃ v, r = [aI v]) ∧ Q r M) : wp (bndI x fun y M => some ([aI y], M)) Q := by
  obtain ⟨r, M, e, ⟨v, e2⟩, q⟩ := h
  subst e2; rw [e]; exact ⟨_, _, rfl, q⟩
/-- what a telling of two numbers comes to -/
def tellOut (c most n : Nat) (a b : Int) (fine : Bool) (M : aM) (r : List aV) (M' : aM) : Prop :=
  (a = -1 ∧ r = [aI 0] ∧ fr [c] M M' ∧ M' c 0 = most ∧ M' c 2 = 0 ∧ M' (c + 1) = M (c + 1)) ∨
  (a ≠ -1 ∧ (fine = false ∨ n = most) ∧ r = [aI (-1)] ∧ M' = M) ∨
  (a ≠ -1 ∧ fine = true ∧ n < most ∧ r = [aI (n + 1 : Nat)] ∧ fr [c, c + 1] M M' ∧ M' c 0 = most ∧ M' c 2 = (n + 1 : Nat) ∧ ∀ j, M' (c + 1) j = if j = 4 * n then a else if j = 4 * n + 1 then b else if j = 4 * n + 2 then 0 else if j = 4 * n + 3 then 0 else M (c + 1) j)
theorem rows_tell_eq (d c n most : Nat) (a b : Int) (fine : Bool) (M : aM) (h0 : M c 0 = most) (h2 : M c 2 = n) (hn : n ≤ most) (hm : most ≤ 1000) (hl : aLen (c + 1) = 4 * most) :
    wp (w_rows_tell (d + 2) c a b (bI fine) M) fun r M' => (∃ v, r = [aI v]) ∧ tellOut c most n a b fine M r M' := by
  rw [l_rows_tell]
  refine wp_if (fun h => ?_) (fun h => ?_)
  · refine wp_up fun M1 f1 g1 => ?_
    exact wp_ret ⟨⟨_, rfl⟩, Or.inl ⟨h, rfl, f1, by rw [g1, if_neg (by omega), h0], by rw [g1, if_pos rfl], f1 _ (by simp)⟩⟩
  refine wp_bif (fun hf => ?_) (fun hf => ?_)
  · exact wp_ret ⟨⟨_, rfl⟩, Or.inr (Or.inl ⟨h, Or.inl hf, rfl, rfl⟩)⟩
  by_cases hlt : n < most
  · refine wp_bI (P := fun v M' => v = 1 ∧ fr [c, c + 1] M M' ∧ M' c 0 = most ∧ M' c 2 = (n + 1 : Nat) ∧ ∀ j, M' (c + 1) j = if j = 4 * n then a else if j = 4 * n + 1 then b else if j = 4 * n + 2 then 0 else if j = 4 * n + 3 then 0 else M (c + 1) j) (wp_mono (rows_put_lt _ c n most a b 0 0 M h0 h2 hlt hm hl) ?_) ?_
    · rintro r M' ⟨e, g⟩; exact ⟨1, e, rfl, g⟩
    rintro v M1 ⟨rfl, g⟩
    refine wp_neg (by decide) ?_
    refine wp_ret ⟨⟨_, rfl⟩, Or.inr (Or.inr ⟨h, hf, hlt, by rw [g.2.2.1], g⟩)⟩
  · refine wp_eI (rows_put_ge _ c n most a b 0 0 M h0 h2 (by omega)) ?_
    refine wp_pos rfl ?_
    exact wp_ret ⟨⟨_, rfl⟩, Or.inr (Or.inl ⟨h, Or.inr (by omega), rfl, rfl⟩)⟩
/-- the reference's part -/
def tellRef (k B w most n : Nat) (a b : Int) (fine : Bool) (M : aM) (r : List aV) (M' : aM) : Prop :=
  (a = -1 ∧ r = [aI 0] ∧ fr [158] M M' ∧ M' 158 = vS (M 158) k 0) ∨
  (a ≠ -1 ∧ (fine = false ∨ n = most) ∧ r = [aI (-1)] ∧ M' = M) ∨
  (a ≠ -1 ∧ fine = true ∧ n < most ∧ r = [aI (n + 1 : Nat)] ∧ fr [158] M M' ∧ M' 158 = vS (if w = 2 then vS (vS (M 158) (B + w * n) a) (B + w * n + 1) b else vS (M 158) (B + w * n) a) k (n + 1 : Nat))
/-- both together -/
theorem pr_tell {x m : aM → aR} {k c B w most : Nat} {a b : Int} (fine : aM → Bool) (hm : most ≤ 1000)
    (hfine : ∀ M M', (∀ j, j < 48 → M' 158 j = M 158 j) → fine M' = fine M)
    (hx : ∀ L Lk M, Inv L Lk M → ∀ n : Nat, M 158 k = n → n ≤ most → wp (x M) fun r M' => (∃ v, r = [aI v]) ∧ tellOut c most n a b (fine M) M r M')
    (hmm : ∀ (M : aM) (n : Nat), M 158 k = (n : Int) → n ≤ most → 0 ≤ M 158 41 → M 158 41 ≤ 10 → wp (m M) fun r M' => tellRef k B w most n a b (fine M) M r M')
    (hk : ∀ V, okT V → 0 ≤ V k ∧ V k ≤ most) (hc : 20 ≤ c ∧ c ≤ 28)
    (hz : ∀ L Lk M M' M'', Inv L Lk M → fr [c] M M' → fr [158] M' M'' → M'' 158 = vS (M 158) k 0 → M'' c 0 = most → M'' c 2 = 0 → M'' (c + 1) = M (c + 1) → Inv L Lk M'')
    (ha : ∀ L Lk M M' M'' (n : Nat), Inv L Lk M → M 158 k = n → n < most → a ≠ -1 → fine M = true → fr [c, c + 1] M M' → fr [158] M' M'' → M'' 158 = vS (if w = 2 then vS (vS (M 158) (B + w * n) a) (B + w * n + 1) b else vS (M 158) (B + w * n) a) k (n + 1 : Nat) → M'' c 0 = most → M'' c 2 = (n + 1 : Nat) → (∀ j, M'' (c + 1) j = if j = 4 * n then a else if j = 4 * n + 1 then b else if j = 4 * n + 2 then 0 else if j = 4 * n + 3 then 0 else M (c + 1) j) → Inv L Lk M'') : pr x m := by
  intro L Lk M hI
  have hkk := hk _ hI.1.2.1
  obtain ⟨n, hn⟩ : ∃ n : Nat, M 158 k = n := ⟨(M 158 k).toNat, by omega⟩
  obtain ⟨cc, hcc, hcc2⟩ := okW_n hI.1.1
  obtain ⟨r, M1, e1, ⟨v, ev⟩, ho⟩ := hx L Lk M hI n hn (by omega)
  have h158 : M1 158 = M 158 := by
    rcases ho with ⟨-, -, f, -⟩ | ⟨-, -, -, rfl⟩ | ⟨-, -, -, -, f, -⟩
    · exact f _ (by simp; omega)
    · rfl
    · exact f _ (by simp; omega)
  have hf : fine M1 = fine M := hfine M M1 fun j _ => by rw [h158]
  obtain ⟨r2, M2, e2, hr⟩ := hmm M1 n (by rw [h158, hn]) (by omega) (by rw [h158]; omega) (by rw [h158]; omega)
  rw [hf, tellRef, h158] at hr
  subst ev
  rcases ho with ⟨h1, er, f1, g0, g2, g3⟩ | ⟨h1, h2, er, e⟩ | ⟨h1, h2, h3, er, f1, g0, g2, g3⟩
  · rcases hr with ⟨-, er2, f2, w2⟩ | ⟨h, -⟩ | ⟨h, -⟩
    · subst er2
      rw [er] at e1
      refine ⟨0, M1, M2, e1, e2, ⟨L, Lk, hz L Lk M M1 M2 hI f1 f2 w2 (by rw [f2 c (by simp; omega)]; exact g0) (by rw [f2 c (by simp; omega)]; exact g2) (by rw [f2 (c + 1) (by simp; omega)]; exact g3)⟩, ⟨f1 _ (by simp; omega), f1 _ (by simp; omega)⟩, ?_, ?_⟩
      · rw [f2 _ (by simp), f1 _ (by simp; omega)]
      · rw [f2 _ (by simp), f1 _ (by simp; omega)]
    · exact absurd h1 h
    · exact absurd h1 h
  · subst e
    rcases hr with ⟨h, -⟩ | ⟨-, -, er2, e2'⟩ | ⟨-, h4, h5, -⟩
    · exact absurd h h1
    · subst er2 e2'
      rw [er] at e1
      exact ⟨-1, M2, M2, e1, e2, ⟨L, Lk, hI⟩, ⟨rfl, rfl⟩, rfl, rfl⟩
    · rcases h2 with h2 | h2
      · rw [h2] at h4; simp at h4
      · omega
  · rcases hr with ⟨h, -⟩ | ⟨-, h, -⟩ | ⟨-, -, -, er2, f2, w2⟩
    · exact absurd h h1
    · rcases h with h | h
      · rw [h2] at h; simp at h
      · omega
    · subst er2
      rw [er] at e1
      refine ⟨_, M1, M2, e1, e2, ⟨L, Lk, ha L Lk M M1 M2 n hI hn h3 h1 h2 f1 f2 w2 (by rw [f2 c (by simp; omega)]; exact g0) (by rw [f2 c (by simp; omega)]; exact g2) (fun j => by rw [f2 (c + 1) (by simp; omega)]; exact g3 j)⟩, ⟨f1 _ (by simp; omega), f1 _ (by simp; omega)⟩, ?_, ?_⟩
      · rw [f2 _ (by simp), f1 _ (by simp; omega)]
      · rw [f2 _ (by simp), f1 _ (by simp; omega)]
