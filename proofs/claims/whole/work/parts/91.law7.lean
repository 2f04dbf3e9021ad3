/-! text: the law in the reference, conditions -/
/-- the reference within a condition -/
def mS (b : Nat → Int) (n : Nat) (C0 : aCd) (l : List Int) (ts : List aTk) (c : aCd) (M : aM) : Prop := rB 0 b n M ∧ rS 0 b n ts M ∧ tsOK 0 ts ∧ mDe (C0 ++ c) M ∧ M 157 24 = ((opn l : Nat) : Int) ∧ vStk l ∧ opn l ≤ 8 ∧ C0.length + c.length + ts.length ≤ 408
/-- what a part of a condition comes to: ex tells of the token behind -/
def mP (b : Nat → Int) (n : Nat) (C0 : aCd) (l : List Int) (ts : List aTk) (c : aCd) (ex : Int → Prop) (M : aM) (r : List aV) (M' : aM) : Prop :=
  (r = [aI 0] ∧ ∃ e, nB e M M' ∧ ∃ f, kA n f l ts c = some (.inl e)) ∨
  (r = [aI 1] ∧ nF M M' ∧ ∃ ts' c', mS b n C0 l ts' c' M' ∧ ts'.length < ts.length ∧ c'.length + ts'.length ≤ c.length + ts.length ∧ sfx ts ts' ∧ ex (hdK ts') ∧ ∀ res f, kB n f (finB n l ts' c') = some res → ∃ f', kA n f' l ts c = some res)
def mOT (b : Nat → Int) (n : Nat) (C0 : aCd) (N : Nat) : Prop := ∀ (ts : List aTk) (l : List Int) (c : aCd) (M : aM) (D : Nat), ts.length ≤ N → 14 + 3 * (8 - opn l) ≤ D → mS b n C0 l ts c M → wp (w_m_oneTest D M) (mP b n C0 l ts c (fun _ => True) M)
theorem mS_nx {b : Nat → Int} {n : Nat} {C0 : aCd} {l : List Int} {ts : List aTk} {c : aCd} {M M' : aM} (h : mS b n C0 l ts c M) (q : fq M M') (s : rS 0 b n ts.tail M') (x : Int) (hv : vStk (x :: l)) (hx : ¬ (x = 40 ∨ x = 262)) : mS b n C0 (x :: l) ts.tail c M' := by
  obtain ⟨h1, h2, h3, h4, h5, h6, h7, h8⟩ := h
  have o : opn (x :: l) = opn l := by simp only [opn]; rw [if_neg hx, Nat.zero_add]
  have hl : ts.tail.length ≤ ts.length := by simp
  exact ⟨rB_fq h1 q, s, tsOK_t h3, mDe_fq h4 q, by rw [q.2 24 (by decide) (by decide) (by decide) (by decide), o]; exact h5, hv, by rw [o]; exact h7, by omega⟩
/-- a link's code is laid -/
theorem mS_lay {b : Nat → Int} {n : Nat} {C0 : aCd} {l : List Int} {ts : List aTk} {c : aCd} {s x : Int} {M M' : aM} (h : mS b n C0 (x :: l) ts c M) (hx : ¬ (x = 40 ∨ x = 262)) (f : nF M M') (m : mDe (C0 ++ c ++ [(s, 0)]) M') (g : ∀ j, j ≠ 14 → M' 157 j = M 157 j) (hl : C0.length + c.length + 1 + ts.length ≤ 408) : mS b n C0 l ts (c ++ [(s, 0)]) M' := by
  obtain ⟨h1, h2, h3, h4, h5, h6, h7, h8⟩ := h
  have o : opn (x :: l) = opn l := by simp only [opn]; rw [if_neg hx, Nat.zero_add]
  exact ⟨rB_nF h1 f, rS_lay h2 g, h3, by rw [← List.append_assoc]; exact m, by rw [g 24 (by decide), ← o]; exact h5, h6.1, by omega, by simp only [List.length_append, List.length_cons, List.length_nil]; omega⟩
theorem m_ev9_lp {b : Nat → Int} {n : Nat} {C0 : aCd} {N : Nat} (hOT : mOT b n C0 N) (D : Nat) (hD : 14 ≤ D) : ∀ (K : Nat) (ts : List aTk) (l : List Int) (c : aCd) (M : aM), ts.length ≤ K → K ≤ N → 14 + 3 * (8 - opn l) ≤ D → mS b n C0 l ts c M → hd0 l ≠ 261 → hd0 l ≠ 262 →
    wp (w_m_every_9 D M) fun r M' => (r = [aI 0] ∧ ∃ e, nB e M M' ∧ ∃ f, kB n f (finB n l ts c) = some (.inl e)) ∨
      (r = [aI 1] ∧ nF M M' ∧ ∃ ts' c', mS b n C0 l ts' c' M' ∧ ts'.length ≤ ts.length ∧ c'.length + ts'.length ≤ c.length + ts.length ∧ sfx ts ts' ∧ hdK ts' ≠ 261 ∧ ∀ res f, kB n f (finB n l ts' c') = some res → ∃ f', kB n f' (finB n l ts c) = some res) := by
  intro K
  induction K with
  | zero =>
    intro ts l c M hK hN hDd hS h1 h2
    have hz : ts = [] := List.eq_nil_of_length_eq_zero (by omega)
    obtain ⟨p, r1, r2, r3, r4, r5, r6⟩ := id hS.2.1
    have e4 : M 157 18 = 0 := by rw [r4, hz]; rfl
    rw [l_m_every_9, e4]
    refine wp_neg (by decide) ?_
    exact wp_ret (Or.inr ⟨rfl, nF_refl M, ts, c, hS, Nat.le_refl _, Nat.le_refl _, sfx_refl _, by rw [hz]; decide, fun res f h => ⟨f, h⟩⟩)
  | succ K ih =>
    intro ts l c M hK hN hDd hS h1 h2
    obtain ⟨a1, a2, a3, a4, a5, a6, a7, a8⟩ := id hS
    obtain ⟨p, r1, r2, r3, r4, r5, r6⟩ := id a2
    have hc := cr_0 (tsOK_K a3)
    rw [l_m_every_9, r4]
    refine wp_if (fun h => ?_) (fun h => ?_)
    · have h261 : hdK ts = 261 := by omega
      have l1 := tail_len (ts := ts) (by omega)
      have hvl : vStk (261 :: l) := by
        refine ⟨a6, Or.inr (Or.inr (Or.inl ⟨rfl, ?_⟩))⟩
        cases l with
        | nil => exact Or.inl rfl
        | cons x l =>
          have h1 : ¬ x = 261 := h1
          have h2 : ¬ x = 262 := h2
          have := a6.2
          show x = 0 ∨ x = 260 ∨ x = 40
          omega
      have o : opn (261 :: l) = opn l := by simp [opn]
      have eF : finB n l ts c = .inr (.inr (261 :: l, ts.tail, c)) := finB_and a6 h1 h2 h261
      obtain ⟨D', rfl⟩ : ∃ D', D = D' + 10 := ⟨D - 10, by omega⟩
      refine wp_bV (m_next_S D' (by decide) a1 a2) ?_
      rintro M1 ⟨q1, s1⟩
      have n1 := fq_nF q1
      have hS1 := mS_nx hS q1 s1 261 hvl (by decide)
      obtain ⟨r, M2, e2, hp⟩ := hOT ts.tail (261 :: l) c M1 (D' + 10) (by omega) (by rw [o]; exact hDd) hS1
      rcases hp with ⟨rfl, er, g1, f, g2⟩ | ⟨rfl, n2, ts2, c2, g1, g2, g3, g4, -, g5⟩
      · refine wp_eI e2 ?_
        refine wp_pos rfl ?_
        exact wp_ret (Or.inl ⟨rfl, er, nB_tr n1 g1, f, by rw [eF]; exact g2⟩)
      · refine wp_eI e2 ?_
        refine wp_neg (by decide) ?_
        refine wp_bV (m_lay_eq (D' + 9) 31 0 0 g1.2.2.2.1 (by rw [List.length_append]; omega) fun _ => rfl) ?_
        rintro M3 ⟨n3, m3, k3⟩
        have hS3 : mS b n C0 l ts2 (c2 ++ [(31, 0)]) M3 := mS_lay g1 (by decide) n3 m3 k3 (by omega)
        have eF2 : finB n (261 :: l) ts2 c2 = finB n l ts2 (c2 ++ [(31, 0)]) := by
          show (if (261 : Int) = 262 then _ else if (261 : Int) = 261 then _ else _) = _
          rw [if_neg (by decide), if_pos rfl]
        have x2 : sfx ts ts2 := sfx_tr (sfx_t _) g4
        refine wp_mono (ih ts2 l (c2 ++ [(31, 0)]) M3 (by omega) (by omega) hDd hS3 h1 h2) ?_
        have n23 := nF_tt n1 (nF_tt n2 n3)
        have cont : ∀ res f, kB n f (finB n l ts2 (c2 ++ [(31, 0)])) = some res → ∃ f', kB n f' (finB n l ts c) = some res := by
          intro res f hk
          rw [← eF2] at hk
          obtain ⟨f', hk'⟩ := g5 res f hk
          exact ⟨f', by rw [eF]; exact hk'⟩
        rintro r M' (⟨p1, er, p2, f, p3⟩ | ⟨p1, p2, ts3, c3, p3, p4, p5, p6, p7, p8⟩)
        · exact Or.inl ⟨p1, er, nB_tr n23 p2, cont _ f p3⟩
        · refine Or.inr ⟨p1, nF_tt n23 p2, ts3, c3, p3, by omega, ?_, sfx_tr x2 p6, p7, fun res f hk => ?_⟩
          · simp only [List.length_append, List.length_cons, List.length_nil] at p5
            omega
          · obtain ⟨f', hk'⟩ := p8 res f hk
            exact cont res f' hk'
    · exact wp_ret (Or.inr ⟨rfl, nF_refl M, ts, c, hS, Nat.le_refl _, Nat.le_refl _, sfx_refl _, by omega, fun res f h => ⟨f, h⟩⟩)
theorem m_every_eq {b : Nat → Int} {n : Nat} {C0 : aCd} {N : Nat} (hOT : mOT b n C0 N) (ts : List aTk) (l : List Int) (c : aCd) (M : aM) (D : Nat) (hN : ts.length ≤ N) (hD : 15 + 3 * (8 - opn l) ≤ D) (hS : mS b n C0 l ts c M) (h1 : hd0 l ≠ 261) (h2 : hd0 l ≠ 262) : wp (w_m_every D M) (mP b n C0 l ts c (fun t => t ≠ 261) M) := by
  obtain ⟨D, rfl⟩ : ∃ E, D = E + 1 := ⟨D - 1, by omega⟩
  rw [l_m_every]
  obtain ⟨r, M1, e1, hp⟩ := hOT ts l c M D hN (by omega) hS
  rcases hp with ⟨rfl, er, g1, f, g2⟩ | ⟨rfl, n1, ts1, c1, g1, g2, g3, g4, -, g5⟩
  · refine wp_eI e1 ?_
    refine wp_pos rfl ?_
    exact wp_ret (Or.inl ⟨rfl, er, g1, f, g2⟩)
  · refine wp_eI e1 ?_
    refine wp_neg (by decide) ?_
    refine wp_mono (m_ev9_lp hOT D (by omega) ts1.length ts1 l c1 M1 (Nat.le_refl _) (by omega) (by omega) g1 h1 h2) ?_
    rintro r M' (⟨p1, er, p2, f, p3⟩ | ⟨p1, p2, ts3, c3, p3, p4, p5, p6, p7, p8⟩)
    · exact Or.inl ⟨p1, er, nB_tr n1 p2, g5 _ f p3⟩
    · refine Or.inr ⟨p1, nF_tt n1 p2, ts3, c3, p3, by omega, by omega, sfx_tr g4 p6, p7, fun res f hk => ?_⟩
      obtain ⟨f', hk'⟩ := p8 res f hk
      exact g5 res f' hk'
theorem m_an9_lp {b : Nat → Int} {n : Nat} {C0 : aCd} {N : Nat} (hOT : mOT b n C0 N) (D : Nat) (hD : 15 ≤ D) : ∀ (K : Nat) (ts : List aTk) (l : List Int) (c : aCd) (M : aM), ts.length ≤ K → K ≤ N → 15 + 3 * (8 - opn l) ≤ D → mS b n C0 l ts c M → hd0 l ≠ 261 → hd0 l ≠ 262 → hd0 l ≠ 260 → hdK ts ≠ 261 →
    wp (w_m_any_9 D M) fun r M' => (r = [aI 0] ∧ ∃ e, nB e M M' ∧ ∃ f, kB n f (finB n l ts c) = some (.inl e)) ∨
      (r = [aI 1] ∧ nF M M' ∧ ∃ ts' c', mS b n C0 l ts' c' M' ∧ ts'.length ≤ ts.length ∧ c'.length + ts'.length ≤ c.length + ts.length ∧ sfx ts ts' ∧ (hdK ts' ≠ 261 ∧ hdK ts' ≠ 260) ∧ ∀ res f, kB n f (finB n l ts' c') = some res → ∃ f', kB n f' (finB n l ts c) = some res) := by
  intro K
  induction K with
  | zero =>
    intro ts l c M hK hN hDd hS h1 h2 h3 h4
    have hz : ts = [] := List.eq_nil_of_length_eq_zero (by omega)
    obtain ⟨p, r1, r2, r3, r4, r5, r6⟩ := id hS.2.1
    have e4 : M 157 18 = 0 := by rw [r4, hz]; rfl
    rw [l_m_any_9, e4]
    refine wp_neg (by decide) ?_
    exact wp_ret (Or.inr ⟨rfl, nF_refl M, ts, c, hS, Nat.le_refl _, Nat.le_refl _, sfx_refl _, ⟨h4, by rw [hz]; decide⟩, fun res f h => ⟨f, h⟩⟩)
  | succ K ih =>
    intro ts l c M hK hN hDd hS h1 h2 h3 h4
    obtain ⟨a1, a2, a3, a4, a5, a6, a7, a8⟩ := id hS
    obtain ⟨p, r1, r2, r3, r4, r5, r6⟩ := id a2
    have hc := cr_0 (tsOK_K a3)
    rw [l_m_any_9, r4]
    refine wp_if (fun h => ?_) (fun h => ?_)
    · have h260 : hdK ts = 260 := by omega
      have l1 := tail_len (ts := ts) (by omega)
      have hvl : vStk (260 :: l) := by
        refine ⟨a6, Or.inr (Or.inr (Or.inr ⟨rfl, ?_⟩))⟩
        cases l with
        | nil => exact Or.inl rfl
        | cons x l =>
          have h1 : ¬ x = 261 := h1
          have h2 : ¬ x = 262 := h2
          have h3 : ¬ x = 260 := h3
          have := a6.2
          show x = 0 ∨ x = 40
          omega
      have o : opn (260 :: l) = opn l := by simp [opn]
      have eF : finB n l ts c = .inr (.inr (260 :: l, ts.tail, c)) := finB_or a6 h1 h2 h3 h260
      obtain ⟨D', rfl⟩ : ∃ D', D = D' + 10 := ⟨D - 10, by omega⟩
      refine wp_bV (m_next_S D' (by decide) a1 a2) ?_
      rintro M1 ⟨q1, s1⟩
      have n1 := fq_nF q1
      have hS1 := mS_nx hS q1 s1 260 hvl (by decide)
      obtain ⟨r, M2, e2, hp⟩ := m_every_eq hOT ts.tail (260 :: l) c M1 (D' + 10) (by omega) (by rw [o]; exact hDd) hS1 (show (260 : Int) ≠ 261 by decide) (show (260 : Int) ≠ 262 by decide)
      rcases hp with ⟨rfl, er, g1, f, g2⟩ | ⟨rfl, n2, ts2, c2, g1, g2, g3, g4, g6, g5⟩
      · refine wp_eI e2 ?_
        refine wp_pos rfl ?_
        exact wp_ret (Or.inl ⟨rfl, er, nB_tr n1 g1, f, by rw [eF]; exact g2⟩)
      · refine wp_eI e2 ?_
        refine wp_neg (by decide) ?_
        refine wp_bV (m_lay_eq (D' + 9) 32 0 0 g1.2.2.2.1 (by rw [List.length_append]; omega) fun _ => rfl) ?_
        rintro M3 ⟨n3, m3, k3⟩
        have hS3 : mS b n C0 l ts2 (c2 ++ [(32, 0)]) M3 := mS_lay g1 (by decide) n3 m3 k3 (by omega)
        have eF2 : finB n (260 :: l) ts2 c2 = finB n l ts2 (c2 ++ [(32, 0)]) := by
          show (if (260 : Int) = 262 then _ else if (260 : Int) = 261 then _ else if (260 : Int) = 260 then (if hdK ts2 = 261 then _ else _) else _) = _
          rw [if_neg (by decide), if_neg (by decide), if_pos rfl, if_neg g6]
        have x2 : sfx ts ts2 := sfx_tr (sfx_t _) g4
        refine wp_mono (ih ts2 l (c2 ++ [(32, 0)]) M3 (by omega) (by omega) hDd hS3 h1 h2 h3 g6) ?_
        have n23 := nF_tt n1 (nF_tt n2 n3)
        have cont : ∀ res f, kB n f (finB n l ts2 (c2 ++ [(32, 0)])) = some res → ∃ f', kB n f' (finB n l ts c) = some res := by
          intro res f hk
          rw [← eF2] at hk
          obtain ⟨f', hk'⟩ := g5 res f hk
          exact ⟨f', by rw [eF]; exact hk'⟩
        rintro r M' (⟨p1, er, p2, f, p3⟩ | ⟨p1, p2, ts3, c3, p3, p4, p5, p6, p7, p8⟩)
        · exact Or.inl ⟨p1, er, nB_tr n23 p2, cont _ f p3⟩
        · refine Or.inr ⟨p1, nF_tt n23 p2, ts3, c3, p3, by omega, ?_, sfx_tr x2 p6, p7, fun res f hk => ?_⟩
          · simp only [List.length_append, List.length_cons, List.length_nil] at p5
            omega
          · obtain ⟨f', hk'⟩ := p8 res f hk
            exact cont res f' hk'
    · exact wp_ret (Or.inr ⟨rfl, nF_refl M, ts, c, hS, Nat.le_refl _, Nat.le_refl _, sfx_refl _, ⟨h4, by omega⟩, fun res f h => ⟨f, h⟩⟩)
theorem m_any_eq {b : Nat → Int} {n : Nat} {C0 : aCd} {N : Nat} (hOT : mOT b n C0 N) (ts : List aTk) (l : List Int) (c : aCd) (M : aM) (D : Nat) (hN : ts.length ≤ N) (hD : 16 + 3 * (8 - opn l) ≤ D) (hS : mS b n C0 l ts c M) (h1 : hd0 l ≠ 261) (h2 : hd0 l ≠ 262) (h3 : hd0 l ≠ 260) : wp (w_m_any D M) (mP b n C0 l ts c (fun t => t ≠ 261 ∧ t ≠ 260) M) := by
  obtain ⟨D, rfl⟩ : ∃ E, D = E + 1 := ⟨D - 1, by omega⟩
  rw [l_m_any]
  obtain ⟨r, M1, e1, hp⟩ := m_every_eq hOT ts l c M D hN (by omega) hS h1 h2
  rcases hp with ⟨rfl, er, g1, f, g2⟩ | ⟨rfl, n1, ts1, c1, g1, g2, g3, g4, g6, g5⟩
  · refine wp_eI e1 ?_
    refine wp_pos rfl ?_
    exact wp_ret (Or.inl ⟨rfl, er, g1, f, g2⟩)
  · refine wp_eI e1 ?_
    refine wp_neg (by decide) ?_
    refine wp_mono (m_an9_lp hOT D (by omega) ts1.length ts1 l c1 M1 (Nat.le_refl _) (by omega) (by omega) g1 h1 h2 h3 g6) ?_
    rintro r M' (⟨p1, er, p2, f, p3⟩ | ⟨p1, p2, ts3, c3, p3, p4, p5, p6, p7, p8⟩)
    · exact Or.inl ⟨p1, er, nB_tr n1 p2, g5 _ f p3⟩
    · refine Or.inr ⟨p1, nF_tt n1 p2, ts3, c3, p3, by omega, by omega, sfx_tr g4 p6, p7, fun res f hk => ?_⟩
      obtain ⟨f', hk'⟩ := p8 res f hk
      exact g5 res f' hk'
/-- a bracket or a not is opened -/
theorem m_opens_eq (D : Nat) {b : Nat → Int} {n : Nat} {C0 : aCd} {l : List Int} {ts : List aTk} {c : aCd} {M : aM} (hS : mS b n C0 l ts c M) (hx : hdK ts = 40 ∨ hdK ts = 262) : wp (w_m_opens (D + 11) M) fun r M' => if opn l = 8 then (r = [aI 0] ∧ nB (3, hdP n ts) M M') else (r = [aI 1] ∧ nF M M' ∧ mS b n C0 (hdK ts :: l) ts.tail c M') := by
  obtain ⟨a1, a2, a3, a4, a5, a6, a7, a8⟩ := id hS
  obtain ⟨p, r1, r2, r3, r4, r5, r6⟩ := id a2
  have l1 := tail_len (ts := ts) (by omega)
  rw [l_m_opens, a5]
  by_cases h8 : opn l = 8
  · simp only [if_pos h8]
    refine wp_pos (by omega) ?_
    refine wp_bad _ 3 M _ fun M' g => ⟨rfl, ?_⟩
    rw [r5] at g
    exact mB_n g
  · simp only [if_neg h8]
    refine wp_neg (by omega) ?_
    rw [w32_i (by omega) (by omega)]
    refine wp_up fun M1 f1 g1 => ?_
    have F : ∀ j, j ≠ 24 → M1 157 j = M 157 j := fun j hj => by rw [g1, if_neg hj]
    have n1 : nF M M1 := ⟨fun k a _ => f1 k (by simpa using a), fun j a => F j (by omega)⟩
    have s1 : rS 0 b n ts M1 := ⟨p, (F 17 (by decide)).trans r1, r2, r3, (F 18 (by decide)).trans r4, (F 19 (by decide)).trans r5, fun h => (F 20 (by decide)).trans (r6 h)⟩
    have m1 : mDe (C0 ++ c) M1 := by
      unfold mDe at a4 ⊢
      rw [F 14 (by decide), f1 163 (by simp)]
      exact a4
    refine wp_bV (m_next_S D (by decide) (rB_nF a1 n1) s1) ?_
    rintro M2 ⟨q2, s2⟩
    have o : opn (hdK ts :: l) = 1 + opn l := by simp only [opn]; rw [if_pos hx]
    exact wp_ret ⟨rfl, nF_tt n1 (fq_nF q2), rB_fq (rB_nF a1 n1) q2, s2, tsOK_t a3, mDe_fq m1 q2, by rw [q2.2 24 (by decide) (by decide) (by decide) (by decide), g1, if_pos rfl, o]; omega, ⟨a6, by omega⟩, by omega, by omega⟩
theorem m_test_cm (D : Nat) {b : Nat → Int} {n : Nat} {C0 : aCd} {l : List Int} {ts : List aTk} {c : aCd} {M : aM} (hS : mS b n C0 l ts c M) (hx : ¬ (hdK ts = 40 ∨ hdK ts = 262)) (K : aM → aR) (hK : ∀ M25, K M25 = if (M25 157 18) = 160 then (bndV (w_m_next0 (D + 13) M25) fun M29 => bndI (w_m_sumUp (D + 13) M29) fun y31 M30 => if y31 = 0 then some ([aI 0], M30) else bndV (w_m_lay (D + 13) 27 0 M30) fun M32 => some ([aI 1], M32))
      else if (M25 157 18) = 161 then (bndV (w_m_next0 (D + 13) M25) fun M29 => bndI (w_m_sumUp (D + 13) M29) fun y31 M30 => if y31 = 0 then some ([aI 0], M30) else bndV (w_m_lay (D + 13) 28 0 M30) fun M32 => some ([aI 1], M32))
      else if (M25 157 18) = 162 then (bndV (w_m_next0 (D + 13) M25) fun M29 => bndI (w_m_sumUp (D + 13) M29) fun y31 M30 => if y31 = 0 then some ([aI 0], M30) else bndV (w_m_lay (D + 13) 29 0 M30) fun M32 => some ([aI 1], M32))
      else bndI (w_m_bad (D + 13) 1 M25) fun y46 M45 => aBool y46 <| some ([aI y46], M45)) :
    wp (bndI (w_m_sumUp (D + 13) M) fun y26 M25 => if y26 = 0 then some ([aI 0], M25) else K M25) (mP b n C0 l ts c (fun _ => True) M) := by
  obtain ⟨a1, a2, a3, a4, a5, a6, a7, a8⟩ := id hS
  have kAe : ∀ f, kA n (f + 1) l ts c = match pCm n ts with
      | .inl e => some (.inl e)
      | .inr q => kB n f (finB n l q.2 (c ++ q.1)) := fun f => by rw [kA_s, if_neg hx]; rfl
  have su := m_sum_eq D a1 a2 a3 a4 (by rw [List.length_append]; omega)
  unfold mSu at su
  cases hp : pEx n ts with
  | inl e =>
    rw [hp] at su
    obtain ⟨r, M1, e1, rfl, g1⟩ := su
    refine wp_eI e1 ?_
    refine wp_pos rfl ?_
    refine wp_ret (Or.inl ⟨rfl, e, g1, 1, ?_⟩)
    rw [kAe 0]
    unfold pCm
    rw [hp]
  | inr q =>
    rw [hp] at su
    obtain ⟨r, M1, e1, rfl, g1⟩ := su
    obtain ⟨i1, i2, i3⟩ := pEx_in (tsOK_V a3) hp
    have hql := cEnc_len q.1
    have tq := tsOK_s a3 i1
    obtain ⟨p, r1, r2, r3, r4, r5, r6⟩ := id g1.2.1
    have hc := cr_0 (tsOK_K tq)
    have hB1 := rB_nF a1 g1.1
    refine wp_eI e1 ?_
    refine wp_neg (by decide) ?_
    rw [hK, r4]
    have good : ∀ s : Int, s = hdK q.2 - 33 → (hdK q.2 = 60 ∨ hdK q.2 = 61 ∨ hdK q.2 = 62) → wp (bndV (w_m_next0 (D + 13) M1) fun M29 => bndI (w_m_sumUp (D + 13) M29) fun y31 M30 => if y31 = 0 then some ([aI 0], M30) else bndV (w_m_lay (D + 13) s 0 M30) fun M32 => some ([aI 1], M32)) (mP b n C0 l ts c (fun _ => True) M) := by
      intro s hs hop
      have l1 := tail_len (ts := q.2) (by omega)
      have x1 : sfx ts q.2.tail := sfx_tr i1 (sfx_t _)
      refine wp_bV (m_next_S (D + 3) (by decide) hB1 g1.2.1) ?_
      rintro M2 ⟨q2, s2⟩
      have n2 := nF_tt g1.1 (fq_nF q2)
      have D2 : M2 157 24 = M 157 24 := by rw [q2.2 24 (by decide) (by decide) (by decide) (by decide), g1.2.2.2]
      have su2 := m_sum_eq D (rB_fq hB1 q2) s2 (tsOK_t tq) (mDe_fq g1.2.2.1 q2) (by rw [List.length_append, List.length_append]; omega)
      unfold mSu at su2
      cases hp2 : pEx n q.2.tail with
      | inl e =>
        rw [hp2] at su2
        obtain ⟨r, M3, e3, rfl, g3⟩ := su2
        refine wp_eI e3 ?_
        refine wp_pos rfl ?_
        refine wp_ret (Or.inl ⟨rfl, e, nB_tr n2 g3, 1, ?_⟩)
        rw [kAe 0]
        unfold pCm
        rw [hp]
        dsimp only
        rw [if_pos hop, hp2]
      | inr q' =>
        rw [hp2] at su2
        obtain ⟨r, M3, e3, rfl, g3⟩ := su2
        obtain ⟨j1, j2, j3⟩ := pEx_in (tsOK_V (tsOK_t tq)) hp2
        have hql2 := cEnc_len q'.1
        have g3 := nG_tr n2 D2 g3
        refine wp_eI e3 ?_
        refine wp_neg (by decide) ?_
        refine wp_bV (m_lay_eq (D + 12) s 0 0 g3.2.2.1 (by rw [List.length_append, List.length_append, List.length_append]; omega) fun _ => rfl) ?_
        rintro M4 ⟨n4, m4, k4⟩
        have n14 := nF_tt g3.1 n4
        refine wp_ret (Or.inr ⟨rfl, n14, q'.2, c ++ (q.1 ++ q'.1 ++ [(s, 0)]), ⟨rB_nF a1 n14, rS_lay g3.2.1 k4, tsOK_s a3 (sfx_tr x1 j1), ?_, ?_, a6, a7, ?_⟩, ?_, ?_, sfx_tr x1 j1, trivial, fun res f hk => ⟨f + 1, ?_⟩⟩)
        · rw [show C0 ++ (c ++ (q.1 ++ q'.1 ++ [(s, 0)])) = C0 ++ c ++ q.1 ++ q'.1 ++ [(s, 0)] by simp only [List.append_assoc]]
          exact m4
        · rw [k4 24 (by decide), g3.2.2.2]; exact a5
        · simp only [List.length_append, List.length_cons, List.length_nil]; omega
        · omega
        · simp only [List.length_append, List.length_cons, List.length_nil]; omega
        · rw [kAe f]
          unfold pCm
          rw [hp]
          dsimp only
          rw [if_pos hop, hp2, ← hs]
          exact hk
    refine wp_if (fun h => good 27 (by omega) (by omega)) (fun h1 => ?_)
    refine wp_if (fun h => good 28 (by omega) (by omega)) (fun h2 => ?_)
    refine wp_if (fun h => good 29 (by omega) (by omega)) (fun h3 => ?_)
    refine wp_bad _ 1 M1 _ fun M' g => Or.inl ⟨rfl, (1, hdP n q.2), ?_, 1, ?_⟩
    · rw [r5] at g; exact nB_tr g1.1 (mB_n g)
    · rw [kAe 0]
      unfold pCm
      rw [hp]
      dsimp only
      rw [if_neg (by omega)]
theorem m_OT {b : Nat → Int} {n : Nat} {C0 : aCd} : ∀ N, mOT b n C0 N := by
  intro N
  induction N with
  | zero =>
    intro ts l c M D hN hD hS
    obtain ⟨a1, a2, a3, a4, a5, a6, a7, a8⟩ := id hS
    obtain ⟨p, r1, r2, r3, r4, r5, r6⟩ := id a2
    have hz : hdK ts = 0 := by rw [List.eq_nil_of_length_eq_zero (show ts.length = 0 by omega)]; rfl
    have hc := cr_0 (tsOK_K a3)
    obtain ⟨D, rfl⟩ : ∃ E, D = E + 14 := ⟨D - 14, by omega⟩
    rw [l_m_oneTest, r4]
    refine wp_neg (by omega) ?_
    refine wp_neg (by omega) ?_
    exact m_test_cm D hS (by omega) _ fun _ => rfl
  | succ N ih =>
    intro ts l c M D hN hD hS
    obtain ⟨a1, a2, a3, a4, a5, a6, a7, a8⟩ := id hS
    obtain ⟨p, r1, r2, r3, r4, r5, r6⟩ := id a2
    have hc := cr_0 (tsOK_K a3)
    obtain ⟨D, rfl⟩ : ∃ E, D = E + 14 := ⟨D - 14, by omega⟩
    rw [l_m_oneTest, r4]
    refine wp_if (fun h6 => ?_) (fun h6 => ?_)
    · have h62 : hdK ts = 262 := by omega
      have l1 := tail_len (ts := ts) (by omega)
      obtain ⟨r, M1, e1, ho⟩ := m_opens_eq (D + 2) hS (Or.inr h62)
      have kAe : ∀ f, kA n (f + 1) l ts c = if opn l = 8 then some (.inl (3, hdP n ts)) else kA n f (262 :: l) ts.tail c := fun f => by rw [kA_s, if_pos (Or.inr h62), h62]
      by_cases h8 : opn l = 8
      · rw [if_pos h8] at ho
        obtain ⟨rfl, g1⟩ := ho
        refine wp_eI e1 ?_
        refine wp_pos rfl ?_
        exact wp_ret (Or.inl ⟨rfl, _, g1, 1, by rw [kAe 0, if_pos h8]⟩)
      · rw [if_neg h8] at ho
        obtain ⟨rfl, n1, hS1⟩ := ho
        rw [h62] at hS1
        refine wp_eI e1 ?_
        refine wp_neg (by decide) ?_
        have o : opn (262 :: l) = 1 + opn l := by simp [opn]
        obtain ⟨r, M2, e2, hp⟩ := ih ts.tail (262 :: l) c M1 (D + 13) (by omega) (by rw [o]; omega) hS1
        rcases hp with ⟨rfl, er, g1, f, g2⟩ | ⟨rfl, n2, ts2, c2, g1, g2, g3, g4, -, g5⟩
        · refine wp_eI e2 ?_
          refine wp_pos rfl ?_
          exact wp_ret (Or.inl ⟨rfl, er, nB_tr n1 g1, f + 1, by rw [kAe f, if_neg h8]; exact g2⟩)
        · obtain ⟨b1, b2, b3, b4, b5, b6, b7, b8⟩ := g1
          refine wp_eI e2 ?_
          refine wp_neg (by decide) ?_
          rw [b5, o, w32_i (by omega) (by omega)]
          refine wp_up fun M3 f3 k3 => ?_
          have F : ∀ j, j ≠ 24 → M3 157 j = M2 157 j := fun j hj => by rw [k3, if_neg hj]
          have n3 : nF M2 M3 := ⟨fun k a _ => f3 k (by simpa using a), fun j a => F j (by omega)⟩
          obtain ⟨p', t1, t2, t3, t4, t5, t6⟩ := b2
          have s3 : rS 0 b n ts2 M3 := ⟨p', (F 17 (by decide)).trans t1, t2, t3, (F 18 (by decide)).trans t4, (F 19 (by decide)).trans t5, fun h => (F 20 (by decide)).trans (t6 h)⟩
          have m3 : mDe (C0 ++ c2) M3 := by
            unfold mDe at b4 ⊢
            rw [F 14 (by decide), f3 163 (by simp)]
            exact b4
          refine wp_bV (m_lay_eq (D + 12) 30 0 0 m3 (by rw [List.length_append]; omega) fun _ => rfl) ?_
          rintro M4 ⟨n4, m4, k4⟩
          have n14 := nF_tt n1 (nF_tt n2 (nF_tt n3 n4))
          refine wp_ret (Or.inr ⟨rfl, n14, ts2, c2 ++ [(30, 0)], ⟨rB_nF a1 n14, rS_lay s3 k4, b3, by rw [← List.append_assoc]; exact m4, ?_, a6, a7, ?_⟩, ?_, ?_, sfx_tr (sfx_t _) g4, trivial, fun res f hk => ?_⟩)
          · rw [k4 24 (by decide), k3, if_pos rfl]; omega
          · simp only [List.length_append, List.length_cons, List.length_nil]; omega
          · omega
          · simp only [List.length_append, List.length_cons, List.length_nil]; omega
          · have eF2 : finB n (262 :: l) ts2 c2 = finB n l ts2 (c2 ++ [(30, 0)]) := by
              show (if (262 : Int) = 262 then _ else _) = _
              rw [if_pos rfl]
            rw [← eF2] at hk
            obtain ⟨f', hk'⟩ := g5 res f hk
            exact ⟨f' + 1, by rw [kAe f', if_neg h8]; exact hk'⟩
    refine wp_if (fun h40 => ?_) (fun h40 => ?_)
    · have h40' : hdK ts = 40 := by omega
      have l1 := tail_len (ts := ts) (by omega)
      obtain ⟨r, M1, e1, ho⟩ := m_opens_eq (D + 2) hS (Or.inl h40')
      have kAe : ∀ f, kA n (f + 1) l ts c = if opn l = 8 then some (.inl (3, hdP n ts)) else kA n f (40 :: l) ts.tail c := fun f => by rw [kA_s, if_pos (Or.inl h40'), h40']
      by_cases h8 : opn l = 8
      · rw [if_pos h8] at ho
        obtain ⟨rfl, g1⟩ := ho
        refine wp_eI e1 ?_
        refine wp_pos rfl ?_
        exact wp_ret (Or.inl ⟨rfl, _, g1, 1, by rw [kAe 0, if_pos h8]⟩)
      · rw [if_neg h8] at ho
        obtain ⟨rfl, n1, hS1⟩ := ho
        rw [h40'] at hS1
        refine wp_eI e1 ?_
        refine wp_neg (by decide) ?_
        have o : opn (40 :: l) = 1 + opn l := by simp [opn]
        obtain ⟨r, M2, e2, hp⟩ := m_any_eq ih ts.tail (40 :: l) c M1 (D + 13) (by omega) (by rw [o]; omega) hS1 (show (40 : Int) ≠ 261 by decide) (show (40 : Int) ≠ 262 by decide) (show (40 : Int) ≠ 260 by decide)
        rcases hp with ⟨rfl, er, g1, f, g2⟩ | ⟨rfl, n2, ts2, c2, g1, g2, g3, g4, ⟨g6, g7⟩, g5⟩
        · refine wp_eI e2 ?_
          refine wp_pos rfl ?_
          exact wp_ret (Or.inl ⟨rfl, er, nB_tr n1 g1, f + 1, by rw [kAe f, if_neg h8]; exact g2⟩)
        · obtain ⟨b1, b2, b3, b4, b5, b6, b7, b8⟩ := g1
          have hc2 := cr_0 (tsOK_K b3)
          refine wp_eI e2 ?_
          refine wp_neg (by decide) ?_
          have n12 := nF_tt n1 n2
          have nd := m_need_S (D + 2) (by decide) b1 b2 41 141 (by omega)
          cases hp : pTk n 41 ts2 with
          | inl er =>
            rw [hp] at nd
            obtain ⟨r, M3, e3, rfl, q3⟩ := nd
            refine wp_eI e3 ?_
            refine wp_pos rfl ?_
            have hne : hdK ts2 ≠ 41 ∧ er = (1, hdP n ts2) := by
              unfold pTk at hp
              split at hp
              · cases hp
              · next h => cases hp; exact ⟨h, rfl⟩
            have eF2 : finB n (40 :: l) ts2 c2 = .inl er := by
              show (if (40 : Int) = 262 then _ else if (40 : Int) = 261 then _ else if (40 : Int) = 260 then _ else if hdK ts2 = 261 then _ else if hdK ts2 = 260 then _ else if hdK ts2 = 41 then _ else _) = _
              rw [if_neg (by decide), if_neg (by decide), if_neg (by decide), if_neg g6, if_neg g7, if_neg hne.1, hne.2]
            obtain ⟨f', hk'⟩ := g5 (.inl er) 0 (by rw [eF2]; rfl)
            exact wp_ret (Or.inl ⟨rfl, er, nB_tr n12 (mB_n q3), f' + 1, by rw [kAe f', if_neg h8]; exact hk'⟩)
          | inr ts3 =>
            rw [hp] at nd
            obtain ⟨r, M3, e3, rfl, q3, s3⟩ := nd
            have ht3 := pTk_t hp
            have h41 : hdK ts2 = 41 := by
              unfold pTk at hp
              split at hp
              · next h => exact h
              · cases hp
            have l3 := tail_len (ts := ts2) (by omega)
            refine wp_eI e3 ?_
            refine wp_neg (by decide) ?_
            rw [q3.2 24 (by decide) (by decide) (by decide) (by decide), b5, o, w32_i (by omega) (by omega)]
            refine wp_up fun M4 f4 k4 => ?_
            have F : ∀ j, j ≠ 24 → M4 157 j = M3 157 j := fun j hj => by rw [k4, if_neg hj]
            have n4 : nF M3 M4 := ⟨fun k a _ => f4 k (by simpa using a), fun j a => F j (by omega)⟩
            have n14 := nF_tt n12 (nF_tt (fq_nF q3) n4)
            obtain ⟨p', t1, t2, t3, t4, t5, t6⟩ := s3
            have s4 : rS 0 b n ts3 M4 := ⟨p', (F 17 (by decide)).trans t1, t2, t3, (F 18 (by decide)).trans t4, (F 19 (by decide)).trans t5, fun h => (F 20 (by decide)).trans (t6 h)⟩
            have m4 : mDe (C0 ++ c2) M4 := by
              have := mDe_fq b4 q3
              unfold mDe at this ⊢
              rw [F 14 (by decide), f4 163 (by simp)]
              exact this
            refine wp_ret (Or.inr ⟨rfl, n14, ts3, c2, ⟨rB_nF a1 n14, s4, by rw [ht3]; exact tsOK_t b3, m4, ?_, a6, a7, ?_⟩, ?_, ?_, ?_, trivial, fun res f hk => ?_⟩)
            · rw [k4, if_pos rfl]; omega
            · rw [ht3]; omega
            · rw [ht3]; omega
            · rw [ht3]; omega
            · rw [ht3]; exact sfx_tr (sfx_t _) (sfx_tr g4 (sfx_t _))
            · have eF2 : finB n (40 :: l) ts2 c2 = finB n l ts3 c2 := by
                show (if (40 : Int) = 262 then _ else if (40 : Int) = 261 then _ else if (40 : Int) = 260 then _ else if hdK ts2 = 261 then _ else if hdK ts2 = 260 then _ else if hdK ts2 = 41 then _ else _) = _
                rw [if_neg (by decide), if_neg (by decide), if_neg (by decide), if_neg g6, if_neg g7, if_pos h41, ht3]
              rw [← eF2] at hk
              obtain ⟨f', hk'⟩ := g5 res f hk
              exact ⟨f' + 1, by rw [kAe f', if_neg h8]; exact hk'⟩
    · exact m_test_cm D hS (by omega) _ fun _ => rfl
/-- a whole condition -/
theorem m_cond_eq {b : Nat → Int} {n : Nat} {C : aCd} {ts : List aTk} {M : aM} (D : Nat) (hD : 40 ≤ D) (hB : rB 0 b n M) (hS : rS 0 b n ts M) (hts : tsOK 0 ts) (hC : mDe C M) (hd : M 157 24 = 0) (hl : C.length + ts.length ≤ 408) : wp (w_m_any D M) fun r M' => nF M M' ∧ match pCo n ts with
    | .inl e => r = [aI 0] ∧ M' 157 21 = e.1 ∧ M' 157 22 = e.2
    | .inr q => r = [aI 1] ∧ rS 0 b n q.2 M' ∧ mDe (C ++ q.1) M' ∧ sfx ts q.2 ∧ q.1.length + q.2.length ≤ ts.length := by
  have h0 : mS b n C [] ts [] M := ⟨hB, hS, hts, by rw [List.append_nil]; exact hC, hd, trivial, by decide, by simp only [List.length_nil]; omega⟩
  refine wp_mono (m_any_eq (m_OT ts.length) ts [] [] M D (Nat.le_refl _) (by show 16 + 3 * (8 - 0) ≤ D; omega) h0 (by decide) (by decide) (by decide)) ?_
  rintro r M' (⟨p1, e, p2, f, p3⟩ | ⟨p1, p2, ts', c', p3, p4, p5, p6, p7, p8⟩)
  · rw [pCo_uni (tsOK_V hts) p3]
    exact ⟨p2.1, p1, p2.2⟩
  · have eF : finB n [] ts' c' = .inr (.inl (c', ts')) := by
      unfold finB
      rw [if_neg p7.1, if_neg p7.2]
    obtain ⟨f', hk⟩ := p8 (.inr (c', ts')) 0 (by rw [eF]; rfl)
    rw [pCo_uni (tsOK_V hts) hk]
    refine ⟨p2, p1, p3.2.1, p3.2.2.2.1, p6, ?_⟩
    simp only [List.length_nil] at p5
    dsimp only
    omega
