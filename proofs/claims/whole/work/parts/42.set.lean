/-! state, deer, set, end -/
theorem rWd_a {b j base i : Nat} {x : Int} {V : aW} {M M' : aM} (h : rWd b V M) (f : fr [b + j] M M') (g : ∀ k, M' (b + j) k = if k = i then x else M (b + j) k) (hi : i < 10)
    (hj : (j = 1 ∧ base = 53) ∨ (j = 2 ∧ base = 11) ∨ (j = 3 ∧ base = 21) ∨ (j = 4 ∧ base = 31)) : rWd b (vS V (base + i) x) M' := by
  unfold rWd at h ⊢
  obtain ⟨h1, h2, h3, h4, h5, h6, h7, h8, h9, h10, h11, h12, h13, h14, h15, h16, h17⟩ := h
  rw [f b (by simp; omega)]
  have other : ∀ (o o2 : Nat), (o = 53 ∨ o = 11 ∨ o = 21 ∨ o = 31) → o ≠ base → ∀ k, k < 10 → vS V (base + i) x (o + k) = V (o + k) := fun o o2 _ _ k _ => vS_ne (by omega)
  refine ⟨?_, ?_, ?_, ?_, ?_, ?_, ?_, ?_, ?_, ?_, ?_, ?_, ?_, ?_⟩
  iterate 13 (first | (rw [vS_ne (by omega)]; assumption) | skip)
  have own : ∀ (A : Nat → Int), (∀ k, k < 10 → A k = V (base + k)) → (∀ k, M' (b + j) k = if k = i then x else A k) → ∀ k, k < 10 → M' (b + j) k = vS V (base + i) x (base + k) := by
    intro A hA hg k hk
    rw [hg k]
    by_cases e : k = i
    · rw [if_pos e, e, vS_at]
    · rw [if_neg e, vS_ne (by omega), hA k hk]
  rcases hj with ⟨rfl, rfl⟩ | ⟨rfl, rfl⟩ | ⟨rfl, rfl⟩ | ⟨rfl, rfl⟩
  · exact ⟨own _ h14 g, fun k hk => by rw [f _ (by simp), vS_ne (by omega)]; exact h15 k hk, fun k hk => by rw [f _ (by simp), vS_ne (by omega)]; exact h16 k hk, fun k hk => by rw [f _ (by simp), vS_ne (by omega)]; exact h17 k hk⟩
  · exact ⟨fun k hk => by rw [f _ (by simp), vS_ne (by omega)]; exact h14 k hk, own _ h15 g, fun k hk => by rw [f _ (by simp), vS_ne (by omega)]; exact h16 k hk, fun k hk => by rw [f _ (by simp), vS_ne (by omega)]; exact h17 k hk⟩
  · exact ⟨fun k hk => by rw [f _ (by simp), vS_ne (by omega)]; exact h14 k hk, fun k hk => by rw [f _ (by simp), vS_ne (by omega)]; exact h15 k hk, own _ h16 g, fun k hk => by rw [f _ (by simp), vS_ne (by omega)]; exact h17 k hk⟩
  · exact ⟨fun k hk => by rw [f _ (by simp), vS_ne (by omega)]; exact h14 k hk, fun k hk => by rw [f _ (by simp), vS_ne (by omega)]; exact h15 k hk, fun k hk => by rw [f _ (by simp), vS_ne (by omega)]; exact h16 k hk, own _ h17 g⟩
theorem okT_V {V V' : aW} (h : okT V) (h41 : V 41 ≤ V' 41) (hv : ∀ k, (45 ≤ k ∧ k < 53) ∨ (63 ≤ k ∧ k < 284) → V' k = V k) : okT V' := by
  obtain ⟨hN, hP, hD, hF, hS, hK, hG, hA, hVo⟩ := h
  have hN' := hN
  obtain ⟨n1, n2, n3, n4, n5, n6, n7, n8⟩ := hN'
  refine ⟨okN_V hN fun k a b => hv k (by omega), ?_, ?_, ?_, ?_, ?_, ?_, ?_, ?_⟩
  · intro i hi
    rw [hv 45 (by omega)] at hi
    rw [hv (64 + 3 * i) (by omega), hv (65 + 3 * i) (by omega)]
    obtain ⟨p1, p2, p3⟩ := hP i hi
    exact ⟨p1, fun h => by have := p2 h; omega, p3⟩
  · intro i hi
    rw [hv 46 (by omega)] at hi
    rw [hv (111 + 3 * i) (by omega), hv (112 + 3 * i) (by omega), hv (113 + 3 * i) (by omega)]
    have := hD i hi
    omega
  · intro i hi
    rw [hv 47 (by omega)] at hi
    rw [hv (159 + 2 * i) (by omega), hv (160 + 2 * i) (by omega)]
    exact hF i hi
  · intro i hi
    rw [hv 48 (by omega)] at hi
    rw [hv (175 + 2 * i) (by omega), hv (176 + 2 * i) (by omega)]
    have := hS i hi
    omega
  · intro i hi
    rw [hv 49 (by omega)] at hi
    rw [hv (199 + i) (by omega)]
    exact hK i hi
  · intro i hi
    rw [hv 50 (by omega)] at hi
    rw [hv (207 + 2 * i) (by omega), hv (208 + 2 * i) (by omega)]
    exact hG i hi
  · intro i hi
    rw [hv 51 (by omega)] at hi
    rw [hv (235 + 2 * i) (by omega), hv (236 + 2 * i) (by omega)]
    have := hA i hi
    omega
  · intro i hi
    rw [hv 52 (by omega)] at hi
    rw [hv (275 + i) (by omega)]
    exact hVo i hi
/-- what has been done can't be undone any more -/
theorem iRing_0 {M : aM} {f : Nat} (h1 : M 94 3 = 0) (h2 : M 157 4 = 0) (h3 : M 94 2 = f) (hf : f < 6) : iRing M :=
  ⟨0, f, h1, h2, by omega, h3, hf, fun j hj => by omega, fun i j _ hj => by omega⟩
theorem Inv_W {L Lk : aLaw} {M M' : aM} (hI : Inv L Lk M) (f : ∀ k, ¬ (2 ≤ k ∧ k < 7) → k ≠ 94 → k ≠ 157 → k ≠ 158 → M' k = M k) (hv : ∀ k, k = 8 ∨ (44 ≤ k ∧ k < 53) ∨ 63 ≤ k → M' 158 k = M 158 k) (h41 : M 158 41 ≤ M' 158 41) (hW : okW (M' 158)) (hw : rWd 2 (M' 158) M') (r1 : M' 94 3 = 0) (r2 : M' 94 2 = M 94 2) (r3 : M' 157 4 = 0) (r4 : ∀ j, j ≠ 4 → M' 157 j = M 157 j) : Inv L Lk M' := by
  obtain ⟨⟨k1, k2, ⟨⟨w1, w2, w3, w4⟩, wb⟩, k4, k5⟩, h2, h3, h4, h5, h6⟩ := hI
  obtain ⟨n, g, -, -, -, a4, a5, -⟩ := h4
  refine ⟨⟨hW, okT_V k2 h41 fun k hk => hv k (by omega), ⟨⟨hw, rTl_V (rTl_fr w2 fun k _ _ => f k (by omega) (by omega) (by omega) (by omega)) k2.1 fun k _ _ _ => hv k (by omega), rLaw_fr w3 fun k _ _ _ => f k (by omega) (by omega) (by omega) (by omega), ?_⟩, fun _ => ?_⟩, vLaw_V k4 fun k hk => hv k (by omega), k5⟩, ?_, ?_, ?_, ?_, ?_⟩
  · rw [f (1 + 17) (by omega) (by omega) (by omega) (by omega)]; exact w4
  · exact rRow_V (rRow_fr (wb rfl) fun k _ _ => f k (by omega) (by omega) (by omega) (by omega)) (hv 8 (by omega)) fun i j _ _ => hv _ (by omega)
  · exact iKept_ag h2 (by rw [f 0 (by omega) (by omega) (by omega) (by omega)]) (r4 5 (by omega)) (f 159 (by omega) (by omega) (by omega) (by omega)) fun k _ _ _ => f k (by omega) (by omega) (by omega) (by omega)
  · exact iStat_ag h3 fun k _ => by rw [f k (by omega) (by omega) (by omega) (by omega)]
  · exact iRing_0 r1 r3 (r2.trans a4) a5
  · exact iTape_ag h5 (f 127 (by omega) (by omega) (by omega) (by omega)) (r4 16 (by omega)) (f 128 (by omega) (by omega) (by omega) (by omega)) (f 165 (by omega) (by omega) (by omega) (by omega))
  · exact iFault_ag h6 (f 132 (by omega) (by omega) (by omega) (by omega)) (r4 23 (by omega)) (r4 25 (by omega))
theorem acts_forget_eq (d : Nat) (M : aM) : w_acts_forget (d + 1) M = some ([], aUp M 94 3 0) := u_acts_forget d M
theorem m_forgets_eq (d : Nat) (M : aM) : w_m_forgets (d + 1) M = some ([], aUp M 157 4 0) := u_m_forgets d M
theorem pr_state (d : Nat) (v : Int) : pr (w_x_state (d + 40) v) (w_m_state (d + 40) v) := by
  intro L Lk M hI
  have hI' := hI
  obtain ⟨⟨k1, k2, hw, k4, k5⟩, -⟩ := hI
  have hd := rW_wd hw
  have e15 : M 2 15 = M 158 7 := hd.2.2.2.2.2.2.2.2.2.2.2.1
  refine ⟨M 158 7, aUp (aUp M 2 15 v) 94 3 0, aUp (aUp (aUp (aUp M 2 15 v) 94 3 0) 158 7 v) 157 4 0, ?_, ?_, ?_, ⟨rfl, rfl⟩, rfl, rfl⟩
  · rw [u_x_state]; simp only [acts_forget_eq, bndV_s, e15]
  · rw [u_m_state]
    simp only [al158]
    rw [inb_s (by decide) (by decide), inb_s (by decide) (by decide), m_forgets_eq, bndV_s, aUp_N (by decide), aUp_N (by decide)]
  · have hv : aUp (aUp (aUp (aUp M 2 15 v) 94 3 0) 158 7 v) 157 4 0 158 = vS (M 158) 7 v := by
      rw [aUp_N (by decide), vS_up, aUp_N (by decide), aUp_N (by decide)]
    refine ⟨L, Lk, Inv_W hI' ?_ ?_ ?_ ?_ ?_ ?_ ?_ ?_ ?_⟩
    · intro k a b c e; rw [aUp_N c, aUp_N e, aUp_N b, aUp_N (by omega)]
    · intro k hk; rw [hv, vS_ne (by omega)]
    · rw [hv, vS_ne (by omega)]; exact Int.le_refl _
    · rw [hv]; exact okW_V k1 fun k _ hk => vS_ne (by omega)
    · rw [hv]
      exact rWd_fr (rWd_s (k := 7) hd (fr_up M 2 15 v) (fun i => aUp_same M 2 15 v i) (by omega)) fun k _ _ => by rw [aUp_N (by omega), aUp_N (by omega), aUp_N (by omega)]
    · simp [aUp_E]
    · simp [aUp_E]
    · simp [aUp_E]
    · intro j hj; simp [aUp_E, hj]

def setOk (V : aW) (w who v : Int) : Prop :=
  ((w = 0 ∨ w = 1) ∧ 0 ≤ v ∧ v ≤ 99) ∨ (w = 2 ∧ 0 ≤ v ∧ v ≤ 1) ∨ ((w = 3 ∨ w = 4) ∧ 0 ≤ v ∧ v ≤ 1000) ∨ ((0 ≤ who ∧ who < V 41) ∧ ((w = 5 ∧ 0 ≤ v ∧ v ≤ 5) ∨ (w = 6 ∧ 0 ≤ v ∧ v ≤ 9) ∨ ((w = 7 ∨ w = 8) ∧ 0 ≤ v ∧ v ≤ 999)))
def setPl (w who : Int) : Nat := if w = 0 then 4 else if w = 1 then 5 else if w = 2 then 6 else if w = 3 then 42 else if w = 4 then 43 else if w = 5 then 53 + who.toNat else if w = 6 then 11 + who.toNat else if w = 7 then 21 + who.toNat else 31 + who.toNat
theorem set_okW {V : aW} {w who v : Int} (h : okW V) (ho : setOk V w who v) : okW (vS V (setPl w who) v) := by
  obtain ⟨n, hn, h10⟩ := okW_n h
  unfold okW at h ⊢
  obtain ⟨h1, h2, h3, h4, h5, h6, h7, h8, h9, h10', h11, h12, h13, h14⟩ := h
  have hpl : setPl w who = 4 ∧ w = 0 ∨ setPl w who = 5 ∧ w = 1 ∨ setPl w who = 6 ∧ w = 2 ∨ setPl w who = 42 ∧ w = 3 ∨ setPl w who = 43 ∧ w = 4 ∨ (w = 5 ∧ setPl w who = 53 + who.toNat) ∨ (w = 6 ∧ setPl w who = 11 + who.toNat) ∨ (w = 7 ∧ setPl w who = 21 + who.toNat) ∨ (w = 8 ∧ setPl w who = 31 + who.toNat) := by
    unfold setOk at ho
    have hw : w = 0 ∨ w = 1 ∨ w = 2 ∨ w = 3 ∨ w = 4 ∨ w = 5 ∨ w = 6 ∨ w = 7 ∨ w = 8 := by omega
    rcases hw with rfl | rfl | rfl | rfl | rfl | rfl | rfl | rfl | rfl <;> simp [setPl]
  generalize setPl w who = p at *
  unfold setOk at ho
  have q : ∀ k, k ≠ p → vS V p v k = V k := fun k hk => vS_ne hk
  have g : ∀ (k : Nat) (lo hi : Int), (lo ≤ V k ∧ V k ≤ hi) → (k = p → lo ≤ v ∧ v ≤ hi) → lo ≤ vS V p v k ∧ vS V p v k ≤ hi := by
    intro k lo hi ha hb
    by_cases e : k = p
    · subst e; rw [vS_at]; exact hb rfl
    · rw [vS_ne e]; exact ha
  rw [q 8 (by omega), q 0 (by omega), q 1 (by omega), q 41 (by omega), q 9 (by omega)]
  exact ⟨okA_V h1 (q 10 (by omega)) (q 41 (by omega)), h2, h3, h4, g 4 0 99 h5 (by omega), g 5 0 99 h6 (by omega), g 6 0 1 h7 (by omega), g 42 0 1000 h8 (by omega), g 43 0 1000 h9 (by omega), h10',
    fun i hi => g (53 + i) 0 5 (h11 i hi) (by omega), fun i hi => g (11 + i) 0 9 (h12 i hi) (by omega), fun i hi => g (21 + i) 0 999 (h13 i hi) (by omega), fun i hi => g (31 + i) 0 (999 + V 0) (h14 i hi) (by omega)⟩
def setX (V : aW) (w who v : Int) (M : aM) (r : List aV) (M1 : aM) : Prop :=
  (setOk V w who v ∧ r = [aI 1] ∧ rWd 2 (vS V (setPl w who) v) M1 ∧ (∀ k, ¬ (2 ≤ k ∧ k < 7) → M1 k = M k)) ∨ (¬ setOk V w who v ∧ r = [aI 0] ∧ M1 = M)
theorem x_setWood_eq (d : Nat) (V : aW) (w who v : Int) (M : aM) (hd : rWd 2 V M) (hw : w < 5) : wp (w_x_setWood (d + 2) w v M) fun r M1 => setX V w who v M r M1 := by
  rw [l_x_setWood]
  have go : ∀ (c lo : Int) (k j : Nat), lo = 0 → w = c → (c = 0 ∧ k = 4 ∧ j = 6 ∨ c = 1 ∧ k = 5 ∧ j = 7 ∨ c = 2 ∧ k = 6 ∧ j = 8 ∨ c = 3 ∧ k = 42 ∧ j = 9 ∨ c = 4 ∧ k = 43 ∧ j = 10) → ∀ hi : Int, (hi = if c ≤ 1 then 99 else if c = 2 then 1 else 1000) → wp (bndI (w_x_within (d + 1) v hi M) fun y15 M14 => if y15 = 0 then some ([aI 0], M14) else aLet (aUp M14 2 j v) fun M16 => some ([aI 1], M16)) fun r M1 => setX V w who v M r M1 := by
    intro c lo k j _ hc hkj hi hhi
    refine wp_eI (x_within_eq _ _ _ _) ?_
    have hpl : setPl w who = k := by
      rcases hkj with ⟨h, h', -⟩ | ⟨h, h', -⟩ | ⟨h, h', -⟩ | ⟨h, h', -⟩ | ⟨h, h', -⟩ <;> subst h h' hc <;> rfl
    refine wp_bif (fun h => ?_) (fun h => ?_)
    · have h := of_decide_eq_false h
      refine wp_ret (Or.inr ⟨?_, rfl, rfl⟩)
      unfold setOk
      omega
    · have h := of_decide_eq_true h
      refine wp_up fun M1 f1 g1 => ?_
      refine wp_ret (Or.inl ⟨?_, rfl, ?_, fun k hk => f1 k (by simp; omega)⟩)
      · unfold setOk; omega
      · rw [hpl]
        refine rWd_s hd f1 g1 ?_
        rcases hkj with ⟨-, h, h'⟩ | ⟨-, h, h'⟩ | ⟨-, h, h'⟩ | ⟨-, h, h'⟩ | ⟨-, h, h'⟩ <;> subst h h' <;> simp
  refine wp_if (fun h => go 0 0 4 6 rfl h (by omega) 99 rfl) (fun h0 => ?_)
  refine wp_if (fun h => go 1 0 5 7 rfl h (by omega) 99 rfl) (fun h1 => ?_)
  refine wp_if (fun h => go 2 0 6 8 rfl h (by omega) 1 rfl) (fun h2 => ?_)
  refine wp_if (fun h => go 3 0 42 9 rfl h (by omega) 1000 rfl) (fun h3 => ?_)
  refine wp_if (fun h => go 4 0 43 10 rfl h (by omega) 1000 rfl) (fun h4 => ?_)
  refine wp_ret (Or.inr ⟨?_, rfl, rfl⟩)
  unfold setOk
  omega
theorem x_setDeer_eq (d : Nat) (V : aW) (w who v : Int) (M : aM) (hd : rWd 2 V M) (h10 : V 41 ≤ 10) (hw : ¬ w < 5) : wp (w_x_setDeer (d + 2) w who v M) fun r M1 => setX V w who v M r M1 := by
  rw [l_x_setDeer]
  refine wp_eI (wood_has_eq _ 2 who V M hd.1 h10) ?_
  refine wp_bif (fun h => ?_) (fun h => ?_)
  · have h := of_decide_eq_false h
    refine wp_ret (Or.inr ⟨?_, rfl, rfl⟩)
    unfold setOk
    omega
  have hwho := of_decide_eq_true h
  obtain ⟨i, rfl⟩ : ∃ i : Nat, who = i := ⟨who.toNat, by omega⟩
  rw [tn_n]
  have go : ∀ (c : Int) (j base : Nat), w = c → (c = 5 ∧ j = 1 ∧ base = 53 ∨ c = 6 ∧ j = 2 ∧ base = 11 ∨ c = 7 ∧ j = 3 ∧ base = 21 ∨ c = 8 ∧ j = 4 ∧ base = 31) → aLen (2 + j) = 10 → ∀ hi : Int, (hi = if c = 5 then 5 else if c = 6 then 9 else 999) → wp (bndI (w_x_within (d + 1) v hi M) fun y15 M14 => if y15 = 0 then some ([aI 0], M14) else inb (i : Int) (aLen (2 + j)) (aLet (aUp M14 (2 + j) i v) fun M16 => some ([aI 1], M16))) fun r M1 => setX V w i v M r M1 := by
    intro c j base hc hkj hl hi hhi
    refine wp_eI (x_within_eq _ _ _ _) ?_
    have hpl : setPl w i = base + i := by
      rcases hkj with ⟨h, -, h'⟩ | ⟨h, -, h'⟩ | ⟨h, -, h'⟩ | ⟨h, -, h'⟩ <;> subst h h' hc <;> rfl
    refine wp_bif (fun h => ?_) (fun h => ?_)
    · have h := of_decide_eq_false h
      refine wp_ret (Or.inr ⟨?_, rfl, rfl⟩)
      unfold setOk
      omega
    · have h := of_decide_eq_true h
      rw [hl]
      refine wp_inb ⟨by omega, by omega⟩ ?_
      refine wp_up fun M1 f1 g1 => ?_
      refine wp_ret (Or.inl ⟨?_, rfl, ?_, fun k hk => f1 k (by simp; omega)⟩)
      · unfold setOk; omega
      · rw [hpl]
        refine rWd_a hd f1 g1 (by omega) ?_
        rcases hkj with ⟨-, h, h'⟩ | ⟨-, h, h'⟩ | ⟨-, h, h'⟩ | ⟨-, h, h'⟩ <;> subst h h' <;> simp
  refine wp_if (fun h => go 5 1 53 h (by omega) rfl 5 rfl) (fun h0 => ?_)
  refine wp_if (fun h => go 6 2 11 h (by omega) rfl 9 rfl) (fun h1 => ?_)
  refine wp_if (fun h => go 7 3 21 h (by omega) rfl 999 rfl) (fun h2 => ?_)
  refine wp_if (fun h => go 8 4 31 h (by omega) rfl 999 rfl) (fun h3 => ?_)
  refine wp_ret (Or.inr ⟨?_, rfl, rfl⟩)
  unfold setOk
  omega
theorem m_canSet_eq (d : Nat) (w who v : Int) (M : aM) (h0 : 0 ≤ M 158 41) (h10 : M 158 41 ≤ 10) : wp (w_m_canSet (d + 3) w who v M) fun r M' => (r = [aI 1] ∧ setOk (M 158) w who v ∨ r = [aI 0] ∧ ¬ setOk (M 158) w who v) ∧ M' = M := by
  rw [l_m_canSet]
  have go : ∀ (c hi : Int), w = c → (0 ≤ c ∧ c ≤ 4) → (hi = if c ≤ 1 then 99 else if c = 2 then 1 else 1000) → wp (bndI (w_m_isIn (d + 2) v 0 hi M) fun y M1 => aBool y (some ([aI y], M1))) fun r M' => (r = [aI 1] ∧ setOk (M 158) w who v ∨ r = [aI 0] ∧ ¬ setOk (M 158) w who v) ∧ M' = M := by
    intro c hi hc hc2 hhi
    refine wp_eI (m_isIn_eq _ _ _ _ _) ?_
    rw [aBool_bI]
    by_cases h : 0 ≤ v ∧ v ≤ hi
    · rw [decide_eq_true h]
      refine wp_ret ⟨Or.inl ⟨rfl, ?_⟩, rfl⟩
      unfold setOk; omega
    · rw [decide_eq_false h]
      refine wp_ret ⟨Or.inr ⟨rfl, ?_⟩, rfl⟩
      unfold setOk; omega
  have go2 : ∀ (c hi : Int), w = c → (5 ≤ c ∧ c ≤ 8) → (hi = if c = 5 then 5 else if c = 6 then 9 else 999) → wp (bndI (w_m_isDeer (d + 2) who M) fun y M1 => if y = 0 then some ([aI 0], M1) else bndI (w_m_isIn (d + 2) v 0 hi M1) fun y M1 => if y = 0 then some ([aI 0], M1) else some ([aI 1], M1)) fun r M' => (r = [aI 1] ∧ setOk (M 158) w who v ∨ r = [aI 0] ∧ ¬ setOk (M 158) w who v) ∧ M' = M := by
    intro c hi hc hc2 hhi
    refine wp_eI (m_isDeer_eq _ _ _ h0 h10) ?_
    refine wp_bif (fun h => ?_) (fun h => ?_)
    · have h := of_decide_eq_false h
      refine wp_ret ⟨Or.inr ⟨rfl, ?_⟩, rfl⟩
      unfold setOk; omega
    have h := of_decide_eq_true h
    refine wp_eI (m_isIn_eq _ _ _ _ _) ?_
    refine wp_bif (fun h1 => ?_) (fun h1 => ?_)
    · have h1 := of_decide_eq_false h1
      refine wp_ret ⟨Or.inr ⟨rfl, ?_⟩, rfl⟩
      unfold setOk; omega
    have h1 := of_decide_eq_true h1
    refine wp_ret ⟨Or.inl ⟨rfl, ?_⟩, rfl⟩
    unfold setOk; omega
  refine wp_if (fun h => go 0 99 h (by omega) rfl) (fun h0 => ?_)
  refine wp_if (fun h => go 1 99 h (by omega) rfl) (fun h1 => ?_)
  refine wp_if (fun h => go 2 1 h (by omega) rfl) (fun h2 => ?_)
  refine wp_if (fun h => go 3 1000 h (by omega) rfl) (fun h3 => ?_)
  refine wp_if (fun h => go 4 1000 h (by omega) rfl) (fun h4 => ?_)
  refine wp_if (fun h => go2 5 5 h (by omega) rfl) (fun h5 => ?_)
  refine wp_if (fun h => go2 6 9 h (by omega) rfl) (fun h6 => ?_)
  refine wp_if (fun h => go2 7 999 h (by omega) rfl) (fun h7 => ?_)
  refine wp_if (fun h => go2 8 999 h (by omega) rfl) (fun h8 => ?_)
  refine wp_ret ⟨Or.inr ⟨rfl, ?_⟩, rfl⟩
  unfold setOk; omega
theorem m_placeOf_eq (d : Nat) (V : aW) (w who v : Int) (M : aM) (h : setOk V w who v) (h10 : V 41 ≤ 10) : w_m_placeOf (d + 1) w who M = some ([aI (setPl w who)], M) := by
  rw [u_m_placeOf]
  unfold setOk at h
  have hw : w = 0 ∨ w = 1 ∨ w = 2 ∨ w = 3 ∨ w = 4 ∨ w = 5 ∨ w = 6 ∨ w = 7 ∨ w = 8 := by omega
  have e : ∀ (k : Int), 0 ≤ k → k < 100 → w ≥ 5 → w32 (k + who) = ((k.toNat + who.toNat : Nat) : Int) := by
    intro k h1 h2 h3
    rw [w32_i (by omega) (by omega)]; omega
  rcases hw with rfl | rfl | rfl | rfl | rfl | rfl | rfl | rfl | rfl
  · simp [setPl]
  · simp [setPl]
  · simp [setPl]
  · simp [setPl]
  · simp [setPl]
  · simp only [e 53 (by decide) (by decide) (by decide)]; simp [setPl]
  · simp only [e 11 (by decide) (by decide) (by decide)]; simp [setPl]
  · simp only [e 21 (by decide) (by decide) (by decide)]; simp [setPl]
  · simp only [e 31 (by decide) (by decide) (by decide)]; simp [setPl]
theorem setPl_lt (V : aW) (w who v : Int) (h : setOk V w who v) (h10 : V 41 ≤ 10) : setPl w who < 63 ∧ (setPl w who < 44 ∨ 53 ≤ setPl w who) ∧ setPl w who ≠ 8 ∧ setPl w who ≠ 41 := by
  unfold setOk at h
  have hw : w = 0 ∨ w = 1 ∨ w = 2 ∨ w = 3 ∨ w = 4 ∨ w = 5 ∨ w = 6 ∨ w = 7 ∨ w = 8 := by omega
  rcases hw with rfl | rfl | rfl | rfl | rfl | rfl | rfl | rfl | rfl <;> simp [setPl] <;> omega
theorem pr_set (d : Nat) (w who v : Int) : pr (w_x_set (d + 40) w who v) (w_m_set (d + 40) w who v) := by
  intro L Lk M hI
  have hI' := hI
  obtain ⟨⟨k1, k2, hw, k4, k5⟩, -⟩ := hI
  obtain ⟨n, hn, h10⟩ := okW_n k1
  have hd := rW_wd hw
  have hx : wp (w_x_set (d + 40) w who v M) fun r M1 => (setOk (M 158) w who v ∧ r = [aI 1] ∧ rWd 2 (vS (M 158) (setPl w who) v) M1 ∧ (∀ k, ¬ (2 ≤ k ∧ k < 7) → k ≠ 94 → M1 k = M k) ∧ M1 94 3 = 0 ∧ M1 94 2 = M 94 2) ∨ (¬ setOk (M 158) w who v ∧ r = [aI 0] ∧ M1 = M) := by
    rw [l_x_set]
    have tail : ∀ (x : aR), (wp x fun r M1 => setX (M 158) w who v M r M1) → wp (bndI x fun y16 M15 => if y16 = 0 then aBool y16 (some ([aI y16], M15)) else bndV (w_acts_forget (d + 39) M15) fun M17 => aBool y16 (some ([aI y16], M17))) fun r M1 => (setOk (M 158) w who v ∧ r = [aI 1] ∧ rWd 2 (vS (M 158) (setPl w who) v) M1 ∧ (∀ k, ¬ (2 ≤ k ∧ k < 7) → k ≠ 94 → M1 k = M k) ∧ M1 94 3 = 0 ∧ M1 94 2 = M 94 2) ∨ (¬ setOk (M 158) w who v ∧ r = [aI 0] ∧ M1 = M) := by
      intro x hx
      obtain ⟨r, M1, e, ⟨h1, h2, h3, h4⟩ | ⟨h1, h2, h3⟩⟩ := hx
      · subst h2
        refine wp_eI e ?_
        refine wp_neg (by decide) ?_
        refine wp_eV (acts_forget_eq _ _) ?_
        rw [aBool_1]
        refine wp_ret (Or.inl ⟨h1, rfl, rWd_fr h3 fun k _ _ => aUp_N (by omega), fun k a b => by rw [aUp_N b, h4 k a], by simp [aUp_E], by simp [aUp_E, h4 94 (by omega)]⟩)
      · subst h2 h3
        refine wp_eI e ?_
        refine wp_pos rfl ?_
        rw [aBool_0]
        exact wp_ret (Or.inr ⟨h1, rfl, rfl⟩)
    refine wp_if (fun h => ?_) (fun h => ?_)
    · exact tail _ (x_setWood_eq _ (M 158) w who v M hd h)
    · exact tail _ (x_setDeer_eq _ (M 158) w who v M hd (by omega) h)
  obtain ⟨r, M1, e1, ⟨h1, h2, h3, h4, h5, h6⟩ | ⟨h1, h2, h3⟩⟩ := hx
  · subst h2
    have w1 : M1 158 = M 158 := h4 158 (by omega) (by omega)
    have hp := setPl_lt _ w who v h1 (by omega)
    have hm : wp (w_m_set (d + 40) w who v M1) fun r M2 => r = [aI 1] ∧ M2 = aUp (aUp M1 158 (setPl w who) v) 157 4 0 := by
      rw [l_m_set]
      refine wp_bI (P := fun v' M' => v' = 1 ∧ M' = M1) (wp_mono (m_canSet_eq _ w who v M1 (by rw [w1]; omega) (by rw [w1]; omega)) ?_) ?_
      · rintro r M' ⟨⟨e, -⟩ | ⟨-, h⟩, e2⟩
        · exact ⟨1, e, rfl, e2⟩
        · rw [w1] at h; exact absurd h1 h
      rintro v' M' ⟨rfl, rfl⟩
      refine wp_neg (by decide) ?_
      refine wp_eI (m_placeOf_eq _ (M 158) w who v M' h1 (by omega)) ?_
      rw [al158]
      refine wp_inb ⟨by omega, by omega⟩ ?_
      refine wp_M fun M2 e2 => ?_
      refine wp_eV (m_forgets_eq _ _) ?_
      subst e2
      exact wp_ret ⟨rfl, by rw [tn_n]⟩
    obtain ⟨r2, M2, e2, hr2, hM2⟩ := hm
    subst hr2
    refine ⟨1, M1, M2, e1, e2, ?_, ⟨h4 _ (by omega) (by omega), h4 _ (by omega) (by omega)⟩, ?_, ?_⟩
    · have hv : M2 158 = vS (M 158) (setPl w who) v := by rw [hM2, aUp_N (by decide), vS_up, w1]
      have fr2 : ∀ k, k ≠ 157 → k ≠ 158 → M2 k = M1 k := fun k a b => by rw [hM2, aUp_N a, aUp_N b]
      refine ⟨L, Lk, Inv_W hI' (fun k a b c e => (fr2 k c e).trans (h4 k a b)) (fun k hk => by rw [hv, vS_ne (by omega)]) (by rw [hv, vS_ne (by omega)]; exact Int.le_refl _) (by rw [hv]; exact set_okW k1 h1) (by rw [hv]; exact rWd_fr h3 fun k _ _ => fr2 k (by omega) (by omega)) (by rw [fr2 94 (by omega) (by omega)]; exact h5) (by rw [fr2 94 (by omega) (by omega)]; exact h6) (by rw [hM2]; simp [aUp_E]) (fun j hj => by rw [hM2]; simp [aUp_E, hj]; rw [h4 157 (by omega) (by omega)])⟩
    · rw [hM2, aUp_N (by decide), aUp_N (by decide)]; exact h4 _ (by omega) (by omega)
    · rw [hM2, aUp_N (by decide), aUp_N (by decide)]; exact h4 _ (by omega) (by omega)
  · subst h2 h3
    have hm : wp (w_m_set (d + 40) w who v M1) fun r M2 => r = [aI 0] ∧ M2 = M1 := by
      rw [l_m_set]
      refine wp_bI (P := fun v' M' => v' = 0 ∧ M' = M1) (wp_mono (m_canSet_eq _ w who v M1 (by omega) (by omega)) ?_) ?_
      · rintro r M' ⟨⟨e, h⟩ | ⟨e, -⟩, e2⟩
        · exact absurd h h1
        · exact ⟨0, e, rfl, e2⟩
      rintro v' M' ⟨rfl, rfl⟩
      refine wp_pos rfl ?_
      exact wp_ret ⟨rfl, rfl⟩
    obtain ⟨r2, M2, e2, hr2, hM2⟩ := hm
    subst hr2 hM2
    exact ⟨0, M2, M2, e1, e2, ⟨L, Lk, hI'⟩, ⟨rfl, rfl⟩, rfl, rfl⟩
