/-! text: the law, purely; expressions in the class -/
theorem pEx_in {n : Nat} {ts : List aTk} {q : aCd × List aTk} (hv : tsV ts) (h : pEx n ts = .inr q) : sfx ts q.2 ∧ (cEnc q.1).length + q.2.length ≤ ts.length ∧ ∀ t : List Bool, t.length ≤ 25 → iTy q.1 t = some (false :: t) := by
  unfold pEx at h
  split at h
  · cases h
  · next u hu =>
    obtain ⟨u1, u2, u3, u4, u5⟩ := pUn_in hv hu
    have hs : sfx ts u.2 := by rw [u1]; exact sfx_t _
    obtain ⟨a, b, e⟩ := pX_in _ 0 _ u.2 q (tsV_s hv hs) (Or.inl rfl) h
    have l1 := tail_len u2
    refine ⟨sfx_tr hs a, ?_, fun t ht => e t t ht ?_⟩
    · rw [show [u.1] = [(u.1.1, u.1.2)] from rfl, cEnc_1 _ _ (by omega), u1, show (pnd 0).length = 0 from rfl] at b
      omega
    · rw [if_pos rfl, show [u.1] = [(u.1.1, u.1.2)] from rfl, iTy_f ⟨u3, u4, by omega, u5⟩]
theorem pCm_in {n : Nat} {ts : List aTk} {q : aCd × List aTk} (hv : tsV ts) (h : pCm n ts = .inr q) : sfx ts q.2 ∧ (cEnc q.1).length + q.2.length ≤ ts.length ∧ ∀ t : List Bool, t.length ≤ 24 → iTy q.1 t = some (true :: t) := by
  unfold pCm at h
  split at h
  · cases h
  · next u hu =>
    obtain ⟨a, b, e⟩ := pEx_in hv hu
    split at h
    · next hop =>
      split at h
      · cases h
      · next u' hu' =>
        have hs2 : sfx ts u.2.tail := sfx_tr a (sfx_t _)
        obtain ⟨a', b', e'⟩ := pEx_in (tsV_s hv hs2) hu'
        have l1 := tail_len (ts := u.2) (by omega)
        cases h
        refine ⟨sfx_tr hs2 a', ?_, fun t ht => ?_⟩
        · dsimp only
          rw [cEnc_app, cEnc_app, List.length_append, List.length_append, cEnc_1 _ _ (by omega)]
          omega
        · dsimp only
          rw [iTy_app, iTy_app, e t (by omega)]
          (try dsimp only)
          rw [e' (false :: t) (by simp; omega)]
          (try dsimp only)
          rw [iTy_cm (by omega)]
    · cases h
theorem finB_in {n : Nat} : ∀ (l : List Int) (ts : List aTk) (c : aCd), vStk l → iTy c [] = some (List.replicate (lkn l + 1) true) → match finB n l ts c with
    | .inl _ => True
    | .inr (.inl r) => iTy r.1 [] = some [true] ∧ sfx ts r.2
    | .inr (.inr r) => iTy r.2.2 [] = some (List.replicate (lkn r.1) true) ∧ vStk r.1 ∧ opn r.1 ≤ opn l ∧ sfx ts r.2.1
  | [], ts, c, hv, hc => by
    unfold finB
    by_cases h1 : hdK ts = 261
    · rw [if_pos h1]; exact ⟨hc, ⟨trivial, Or.inr (Or.inr (Or.inl ⟨rfl, Or.inl rfl⟩))⟩, Nat.le_refl _, sfx_t _⟩
    · rw [if_neg h1]
      by_cases h2 : hdK ts = 260
      · rw [if_pos h2]; exact ⟨hc, ⟨trivial, Or.inr (Or.inr (Or.inr ⟨rfl, Or.inl rfl⟩))⟩, Nat.le_refl _, sfx_t _⟩
      · rw [if_neg h2]; exact ⟨hc, sfx_refl _⟩
  | x :: l, ts, c, hv, hc => by
    unfold finB
    by_cases e1 : x = 262
    · subst e1
      have ih := finB_in (n := n) l ts (c ++ [(30, 0)]) hv.1 (by
        rw [iTy_app, hc]
        simp only [lkn, List.replicate_succ]
        rw [if_pos (by simp), Nat.zero_add]
        rfl)
      rw [if_pos rfl]
      revert ih
      rcases finB n l ts (c ++ [(30, 0)]) with r | r | r
      · exact id
      · exact id
      · exact fun ih => ⟨ih.1, ih.2.1, by simp only [opn]; omega, ih.2.2.2⟩
    rw [if_neg e1]
    by_cases e2 : x = 261
    · subst e2
      have ih := finB_in (n := n) l ts (c ++ [(31, 0)]) hv.1 (by
        rw [iTy_app, hc]
        simp only [lkn]
        rw [if_neg (by decide), show 1 + lkn l + 1 = lkn l + 1 + 1 by omega, List.replicate_succ, List.replicate_succ]
        (try dsimp only)
        rw [iTy_lk (by decide)])
      rw [if_pos rfl]
      revert ih
      rcases finB n l ts (c ++ [(31, 0)]) with r | r | r
      · exact id
      · exact id
      · exact fun ih => ⟨ih.1, ih.2.1, by simp only [opn]; omega, ih.2.2.2⟩
    rw [if_neg e2]
    by_cases e3 : x = 260
    · subst e3
      rw [if_pos rfl]
      by_cases h1 : hdK ts = 261
      · rw [if_pos h1]
        refine ⟨?_, ⟨hv, Or.inr (Or.inr (Or.inl ⟨rfl, Or.inr (Or.inl rfl)⟩))⟩, by simp [opn], sfx_t _⟩
        (try dsimp only)
        rw [hc]
        simp only [lkn]
        rw [if_neg (by decide), if_neg (by decide), show 1 + lkn l + 1 = 1 + (1 + lkn l) by omega]
      · rw [if_neg h1]
        have ih := finB_in (n := n) l ts (c ++ [(32, 0)]) hv.1 (by
          rw [iTy_app, hc]
          simp only [lkn]
          rw [if_neg (by decide), show 1 + lkn l + 1 = lkn l + 1 + 1 by omega, List.replicate_succ, List.replicate_succ]
          (try dsimp only)
          rw [iTy_lk (by decide)])
        revert ih
        rcases finB n l ts (c ++ [(32, 0)]) with r | r | r
        · exact id
        · exact id
        · exact fun ih => ⟨ih.1, ih.2.1, by simp only [opn]; omega, ih.2.2.2⟩
    rw [if_neg e3]
    have e4 : x = 40 := by have := hv.2; omega
    subst e4
    have hc' : iTy c [] = some (List.replicate (lkn l + 1) true) := by rw [hc]; simp [lkn]
    by_cases h1 : hdK ts = 261
    · rw [if_pos h1]
      refine ⟨?_, ⟨hv, Or.inr (Or.inr (Or.inl ⟨rfl, Or.inr (Or.inr rfl)⟩))⟩, by simp [opn], sfx_t _⟩
      (try dsimp only)
      rw [hc']
      simp only [lkn]
      rw [if_neg (by decide), if_pos (by simp), show lkn l + 1 = 1 + (0 + lkn l) by omega]
    rw [if_neg h1]
    by_cases h2 : hdK ts = 260
    · rw [if_pos h2]
      refine ⟨?_, ⟨hv, Or.inr (Or.inr (Or.inr ⟨rfl, Or.inr rfl⟩))⟩, by simp [opn], sfx_t _⟩
      (try dsimp only)
      rw [hc']
      simp only [lkn]
      rw [if_neg (by decide), if_pos (by simp), show lkn l + 1 = 1 + (0 + lkn l) by omega]
    rw [if_neg h2]
    by_cases h3 : hdK ts = 41
    · rw [if_pos h3]
      have ih := finB_in (n := n) l ts.tail c hv.1 hc'
      revert ih
      rcases finB n l ts.tail c with r | r | r
      · exact id
      · exact fun ih => ⟨ih.1, sfx_tr (sfx_t _) ih.2⟩
      · exact fun ih => ⟨ih.1, ih.2.1, by simp only [opn]; omega, sfx_tr (sfx_t _) ih.2.2.2⟩
    · rw [if_neg h3]; trivial
theorem kA_in {n : Nat} : ∀ (f : Nat) (l : List Int) (ts : List aTk) (c : aCd) (q : aCd × List aTk), tsV ts → vStk l → opn l ≤ 8 → iTy c [] = some (List.replicate (lkn l) true) → kA n f l ts c = some (.inr q) → iTy q.1 [] = some [true] ∧ sfx ts q.2
  | 0, l, ts, c, q, _, _, _, _, h => by cases h
  | f + 1, l, ts, c, q, hts, hv, ho, hc, h => by
    rw [kA_s] at h
    by_cases h1 : hdK ts = 40 ∨ hdK ts = 262
    · rw [if_pos h1] at h
      split at h
      · cases h
      · have := kA_in f (hdK ts :: l) ts.tail c q (tsV_t hts) ⟨hv, by omega⟩ (by simp only [opn]; rw [if_pos h1]; omega) (by simp only [lkn]; rw [if_pos h1, Nat.zero_add]; exact hc) h
        exact ⟨this.1, sfx_tr (sfx_t _) this.2⟩
    · rw [if_neg h1] at h
      split at h
      · cases h
      · next u hu =>
        obtain ⟨a, b, e⟩ := pCm_in hts hu
        have hl := (vS_32 hv ho).2
        have fi := finB_in (n := n) l u.2 (c ++ u.1) hv (by rw [iTy_app, hc]; dsimp only; rw [e _ (by simp; omega)]; rfl)
        revert fi h
        rcases finB n l u.2 (c ++ u.1) with r | r | r
        · intro h; cases h
        · intro h fi
          cases h
          exact ⟨fi.1, sfx_tr a fi.2⟩
        · intro h fi
          obtain ⟨f1, f2, f3, f4⟩ := fi
          have := kA_in f r.1 r.2.1 r.2.2 q (tsV_s hts (sfx_tr a f4)) f2 (by omega) f1 h
          exact ⟨this.1, sfx_tr (sfx_tr a f4) this.2⟩
/-! in the class -/
theorem seg1_app {A : Nat → Int} : ∀ (a b : List Int) (p : Nat), seg1 A p (a ++ b) ↔ seg1 A p a ∧ seg1 A (p + a.length) b
  | [], b, p => by simp [seg1]
  | x :: a, b, p => by
    have ih := seg1_app (A := A) a b (p + 1)
    simp only [List.cons_append, seg1, List.length_cons]
    rw [ih, show p + (a.length + 1) = p + 1 + a.length by omega]
    exact and_assoc.symm
theorem seg1_fr {A B : Nat → Int} : ∀ (a : List Int) (p : Nat), (∀ i, p ≤ i → i < p + a.length → B i = A i) → seg1 A p a → seg1 B p a
  | [], _, _, _ => trivial
  | x :: a, p, h, hs => ⟨(h p (Nat.le_refl _) (by simp)).trans hs.1, seg1_fr a (p + 1) (fun i h1 h2 => h i (by omega) (by simp; omega)) hs.2⟩
/-- the code that has been laid in the draft -/
def cDe (C : List Int) (M : aM) : Prop := M 133 3 = ((C.length : Nat) : Int) ∧ C.length ≤ 400 ∧ seg1 (M 134) 0 C
/-- but for what reading an expression sets, the class stays -/
def xF (M M' : aM) : Prop := fr [132, 133, 134] M M' ∧ (∀ j, j ≠ 2 → j ≠ 3 → j ≠ 9 → j ≠ 10 → j ≠ 11 → j ≠ 12 → M' 132 j = M 132 j) ∧ ∀ j, j ≠ 3 → M' 133 j = M 133 j
theorem xF_refl (M : aM) : xF M M := ⟨fr_refl _ _, fun _ _ _ _ _ _ _ => rfl, fun _ _ => rfl⟩
theorem xF_tt {M M1 M2 : aM} (h1 : xF M M1) (h2 : xF M1 M2) : xF M M2 := ⟨fr_tt h1.1 h2.1, fun j a b c d e f => (h2.2.1 j a b c d e f).trans (h1.2.1 j a b c d e f), fun j a => (h2.2.2 j a).trans (h1.2.2 j a)⟩
theorem rd_xF {M M' : aM} (h : rdF M M') : xF M M' := ⟨fr_w h.1 (by simp), h.2, fun j _ => by rw [h.1 133 (by simp)]⟩
theorem xF_k {M M' : aM} (h : xF M M') {k : Nat} (hk : k ≠ 132 ∧ k ≠ 133 ∧ k ≠ 134) : M' k = M k := h.1 k (by simp; omega)
theorem cT_x {TL : List aTk} {n : Nat} {M M' : aM} (h : cT TL n M) (f : xF M M') : cT TL n M' := cT_fr h fun k hk => xF_k f (by omega)
theorem cDe_rd {C : List Int} {M M' : aM} (h : cDe C M) (f : rdF M M') : cDe C M' := by
  unfold cDe at h ⊢
  rw [rdF_k f (by decide), rdF_k f (by decide)]
  exact h
theorem law_emit_S (d : Nat) (x : Int) {C : List Int} {M : aM} (h : cDe C M) (hl : C.length < 400) : wp (w_law_emit (d + 1) 133 x M) fun r M' => r = [] ∧ (fr [133, 134] M M' ∧ ∀ j, j ≠ 3 → M' 133 j = M 133 j) ∧ cDe (C ++ [x]) M' := by
  obtain ⟨h1, h2, h3⟩ := h
  rw [l_law_emit, h1, show (133 + 1 : Nat) = 134 from rfl, al134]
  refine wp_neg (by omega) ?_
  refine wp_pos (by omega) ?_
  refine wp_inb ⟨by omega, by omega⟩ ?_
  rw [tn_n]
  refine wp_up fun M1 f1 g1 => ?_
  rw [f1 133 (by simp), h1, w32_i (by omega) (by omega)]
  refine wp_up fun M2 f2 g2 => ?_
  refine wp_ret ⟨rfl, ⟨fr_tr f1 f2 (by simp) (by simp), fun j hj => by rw [g2, if_neg hj, f1 133 (by simp)]⟩, by rw [g2, if_pos rfl]; simp, by simp; omega, ?_⟩
  rw [seg1_app]
  refine ⟨seg1_fr C 0 (fun i _ hi => by rw [f2 134 (by simp), g1, if_neg (by omega)]) h3, ?_, trivial⟩
  rw [f2 134 (by simp), g1, if_pos (by omega)]
theorem law_emit_F (d : Nat) (x : Int) (M : aM) : wp (w_law_emit (d + 1) 133 x M) fun r M' => r = [] ∧ fr [133, 134] M M' ∧ ∀ j, j ≠ 3 → M' 133 j = M 133 j := by
  rw [l_law_emit, show (133 + 1 : Nat) = 134 from rfl, al134]
  refine wp_if (fun _ => wp_ret ⟨rfl, fr_refl _ _, fun _ _ => rfl⟩) (fun h1 => ?_)
  refine wp_if (fun h2 => ?_) (fun _ => wp_ret ⟨rfl, fr_refl _ _, fun _ _ => rfl⟩)
  refine wp_inb ⟨by omega, by omega⟩ ?_
  refine wp_up fun M1 f1 g1 => ?_
  refine wp_up fun M2 f2 g2 => ?_
  exact wp_ret ⟨rfl, fr_tr f1 f2 (by simp) (by simp), fun j hj => by rw [g2, if_neg hj, f1 133 (by simp)]⟩
theorem em_xF {M M' : aM} (h : fr [133, 134] M M' ∧ ∀ j, j ≠ 3 → M' 133 j = M 133 j) : xF M M' := ⟨fr_w h.1 (by simp), fun j _ _ _ _ _ _ => by rw [h.1 132 (by simp)], h.2⟩
theorem cS_fr {TL : List aTk} {n : Nat} {ts : List aTk} {M M' : aM} (h : cS TL n ts M) (f : M' 132 = M 132) : cS TL n ts M' := by
  unfold cS at h ⊢
  rw [f]
  exact h
/-- reading goes on at ts', with code C' -/
def xG (TL : List aTk) (n : Nat) (ts' : List aTk) (C' : List Int) (M M' : aM) : Prop := xF M M' ∧ M' 132 2 = 0 ∧ M' 132 3 = M 132 3 ∧ cS TL n ts' M' ∧ cDe C' M'
def xB (e : Int × Int) (M M' : aM) : Prop := xF M M' ∧ M' 132 2 = e.1 ∧ M' 132 3 = e.2 ∧ e.1 ≠ 0
theorem xB_n {e : Int × Int} {M M' : aM} (h : xB e M M') : M' 132 2 ≠ 0 := by rw [h.2.1]; exact h.2.2.2
theorem xB_tr {e : Int × Int} {M M1 M' : aM} (f : xF M M1) (h : xB e M1 M') : xB e M M' := ⟨xF_tt f h.1, h.2⟩
theorem xB_em {e : Int × Int} {M M1 M' : aM} (h : xB e M M1) (f : fr [133, 134] M1 M' ∧ ∀ j, j ≠ 3 → M' 133 j = M1 133 j) : xB e M M' := ⟨xF_tt h.1 (em_xF f), by rw [f.1 132 (by simp)]; exact h.2.1, by rw [f.1 132 (by simp)]; exact h.2.2.1, h.2.2.2⟩
theorem xG_tr {TL : List aTk} {n : Nat} {ts' : List aTk} {C' : List Int} {M M1 M' : aM} (f : xF M M1) (h3 : M1 132 3 = M 132 3) (h : xG TL n ts' C' M1 M') : xG TL n ts' C' M M' := ⟨xF_tt f h.1, h.2.1, h.2.2.1.trans h3, h.2.2.2⟩
theorem rd_op_S (d : Nat) {TL : List aTk} {n : Nat} {ts : List aTk} {C : List Int} {M : aM} (hT : cT TL n M) (hS : cS TL n ts M) (h0 : M 132 2 = 0) (hC : cDe C M) (hl : C.length < 400) (hK : 0 ≤ hdK ts ∧ hdK ts < 10000) : wp (w_rd_operand (d + 2) M) fun r M' => r = [] ∧ match pUn n ts with
    | .inl e => xB e M M'
    | .inr q => xG TL n q.2 (C ++ cEnc [q.1]) M M' := by
  obtain ⟨j, e1, e2, e3, e4, e5, e6⟩ := id hS
  unfold pUn
  rw [l_rd_operand, e4, e5, w32_i (by omega) (by omega)]
  refine wp_I ?_
  have go : ∀ x : Int, hdK ts ≠ 0 → wp (bndV (w_law_emit (d + 1) 133 x M) fun M13 => bndV (w_rd_step (d + 1) M13) fun M14 => some ([], M14)) fun r M' => r = [] ∧ xG TL n ts.tail (C ++ [x]) M M' := by
    intro x hne
    refine wp_bV (law_emit_S d x hC hl) ?_
    rintro M1 ⟨f1, c1⟩
    have F : M1 132 = M 132 := f1.1 132 (by simp)
    refine wp_bV (rd_step_S d (cT_x hT (em_xF f1)) (cS_fr hS F) (by rw [F]; exact h0) hne) ?_
    rintro M2 g2
    exact wp_ret ⟨rfl, xF_tt (em_xF f1) (rd_xF g2.1), g2.2.1, by rw [g2.2.2.1, F], g2.2.2.2, cDe_rd c1 g2.1⟩
  have bad : wp (bndV (w_rd_fail (d + 1) 1 M) fun M15 => some ([], M15)) fun r M' => r = [] ∧ xB (1, hdP n ts) M M' := by
    refine wp_bV (rd_fail_eq _ 1 (by decide) h0) ?_
    intro M1 g
    rw [e6] at g
    exact wp_ret ⟨rfl, rd_xF g.1, g.2.1, g.2.2.1, show (1 : Int) ≠ 0 by decide⟩
  refine wp_if (fun h1 => ?_) (fun h1 => ?_)
  · rw [if_pos h1]
    have : cEnc [((0 : Int), hdV ts)] = [hdV ts] := by simp [cEnc]
    (try dsimp only)
    rw [this]
    exact go _ (by omega)
  rw [if_neg h1]
  refine wp_if (fun h2 => ?_) (fun h2 => ?_)
  · rw [if_neg (by omega)]; exact bad
  refine wp_if (fun h3 => ?_) (fun h3 => ?_)
  · rw [if_pos (by omega), w32_i (by omega) (by omega), show (-1 : Int) - (hdK ts - 263) = -(hdK ts - 262) by omega]
    have : cEnc [(hdK ts - 262, (0 : Int))] = [-(hdK ts - 262)] := by
      simp only [cEnc, List.append_nil]
      rw [if_neg (by omega), if_pos (by omega)]
    (try dsimp only)
    rw [this]
    exact go _ (by omega)
  · rw [if_neg (by omega)]; exact bad
/-- what waits of a sum, as the class tells it -/
def cSm (s : Int) : Int := if s = 0 then 0 else 12 - s
theorem rd_x8_lp (d : Nat) {TL : List aTk} {n : Nat} (hKK : ∀ ts, sfx TL ts → 0 ≤ hdK ts ∧ hdK ts < 10000) : ∀ (f : Nat) (s : Int) (c : aCd) (ts : List aTk) (C0 : List Int) (M : aM) (g : Nat), ts.length < f → 2 * g + ts.length ≤ 399 → (s = 0 ∨ s = 23 ∨ s = 24) → sfx TL ts → cT TL n M → cS TL n ts M → M 132 2 = 0 → cDe (C0 ++ cEnc c) M → C0.length + (cEnc c).length + (pnd s).length + ts.length ≤ 400 →
    wp (w_rd_expression_8 (d + 3) (cSm s) g M) fun r M' => r = [] ∧ match pX n f s c ts with
      | .inl e => xB e M M'
      | .inr q => xG TL n q.2 (C0 ++ cEnc q.1) M M'
  | 0, s, c, ts, C0, M, g, hf, _, _, _, _, _, _, _, _ => by omega
  | f + 1, s, c, ts, C0, M, g, hf, hg, hs, hx, hT, hS, h0, hC, hl => by
    obtain ⟨j, e1, e2, e3, e4, e5, e6⟩ := id hS
    have e5' : w32 ((g : Int) + 1) = ((g + 1 : Nat) : Int) := by rw [w32_i (by omega) (by omega)]; rfl
    have flt : ∀ {e : Int × Int} {M1 : aM} (v w : Int), xB e M M1 → wp (w_rd_expression_8 (d + 3) v w M1) fun r M' => r = [] ∧ xB e M M' := by
      intro e M1 v w hb
      rw [l_rd_expression_8]
      have fin : wp (some ([], M1)) fun r M' => r = [] ∧ xB e M M' := wp_ret ⟨rfl, hb⟩
      exact wp_if (fun _ => wp_neg (xB_n hb) fin) (fun _ => fin)
    rw [l_rd_expression_8, e4, e5']
    unfold pX
    refine wp_pos (by omega) ?_
    refine wp_pos h0 ?_
    refine wp_I ?_
    refine wp_if (fun h42 => ?_) (fun h42 => ?_)
    · rw [if_pos h42]
      have l1 := tail_len (ts := ts) (by omega)
      refine wp_bV (rd_step_S (d + 2) hT hS h0 (by omega)) ?_
      intro M1 g1
      have hx1 : sfx TL ts.tail := sfx_tr hx (sfx_t _)
      have op := rd_op_S (d + 1) (cT_rd hT g1.1) g1.2.2.2 g1.2.1 (cDe_rd hC g1.1) (by simp; omega) (hKK _ hx1)
      cases hu : pUn n ts.tail with
      | inl e =>
        rw [hu] at op
        refine wp_bV op ?_
        intro M2 b2
        have b2 := xB_tr (rd_xF g1.1) b2
        refine wp_bV (law_emit_F (d + 2) _ M2) ?_
        intro M3 f3
        refine wp_I ?_
        exact flt _ _ (xB_em b2 f3)
      | inr q =>
        rw [hu] at op
        have u1 : q.2 = ts.tail.tail ∧ hdK ts.tail ≠ 0 := by
          unfold pUn at hu
          split at hu
          · cases hu; exact ⟨rfl, by omega⟩
          · split at hu
            · cases hu; exact ⟨rfl, by omega⟩
            · cases hu
        have l2 := tail_len u1.2
        have lq : (cEnc [q.1]).length = 1 := by
          unfold pUn at hu
          split at hu
          · cases hu; exact cEnc_1 _ _ (by decide)
          · split at hu
            · cases hu; exact cEnc_1 _ _ (by omega)
            · cases hu
        refine wp_bV op ?_
        intro M2 b2
        have b2 := xG_tr (rd_xF g1.1) g1.2.2.1 b2
        refine wp_bV (law_emit_S (d + 2) (-13) b2.2.2.2.2 (by simp [lq]; omega)) ?_
        rintro M3 ⟨f3, c3⟩
        have F : M3 132 = M2 132 := f3.1 132 (by simp)
        refine wp_I ?_
        have e25 : cEnc [((25 : Int), (0 : Int))] = [-13] := by decide
        have hx2 : sfx TL q.2 := by rw [u1.1]; exact sfx_tr hx1 (sfx_t _)
        refine wp_mono (rd_x8_lp d hKK f s (c ++ [q.1, (25, 0)]) q.2 C0 M3 (g + 1) (by rw [u1.1]; omega) (by rw [u1.1]; omega) hs hx2 (cT_x (cT_x hT b2.1) (em_xF f3)) (cS_fr b2.2.2.2.1 F) (by rw [F]; exact b2.2.1) ?_ ?_) ?_
        · rw [show [q.1, ((25 : Int), (0 : Int))] = [q.1] ++ [(25, 0)] from rfl, cEnc_app, cEnc_app, e25, ← List.append_assoc, ← List.append_assoc]
          exact c3
        · rw [show [q.1, ((25 : Int), (0 : Int))] = [q.1] ++ [(25, 0)] from rfl, cEnc_app, cEnc_app, e25, List.length_append, List.length_append, lq, u1.1]
          simp only [List.length_cons, List.length_nil]
          omega
        · rintro r M' ⟨q1, q2⟩
          refine ⟨q1, ?_⟩
          have fx := xF_tt b2.1 (em_xF f3)
          (try dsimp only)
          cases hp : pX n f s (c ++ [q.1, (25, 0)]) q.2 with
          | inl e => rw [hp] at q2; exact xB_tr fx q2
          | inr q' => rw [hp] at q2; exact xG_tr fx (by rw [F]; exact b2.2.2.1) q2
    rw [if_neg h42]
    refine wp_if (fun h47 => ?_) (fun h47 => ?_)
    · rw [if_pos h47]
      have l1 := tail_len (ts := ts) (by omega)
      refine wp_bV (rd_step_S (d + 2) hT hS h0 (by omega)) ?_
      intro M1 g1
      have hx1 : sfx TL ts.tail := sfx_tr hx (sfx_t _)
      have nm := rd_num_S (d + 1) 1 9999 (cT_rd hT g1.1) g1.2.2.2 g1.2.1
      cases hu : pNum n 1 9999 ts.tail with
      | inl e =>
        rw [hu] at nm
        obtain ⟨r, M2, en, ⟨v, rfl⟩, g2⟩ := nm
        refine wp_eI en ?_
        have b2 : xB e M M2 := xB_tr (rd_xF g1.1) ⟨rd_xF g2.1, g2.2.1, g2.2.2.1, g2.2.2.2⟩
        refine wp_bV (law_emit_F (d + 2) _ M2) ?_
        intro M3 f3
        have b3 := xB_em b2 f3
        refine wp_bV (law_emit_F (d + 2) _ M3) ?_
        intro M4 f4
        refine wp_I ?_
        exact flt _ _ (xB_em b3 f4)
      | inr q =>
        rw [hu] at nm
        obtain ⟨u1, u2, u3, u4⟩ := pNum_in hu
        have l2 := tail_len u2
        obtain ⟨r, M2, en, rfl, g2⟩ := nm
        refine wp_eI en ?_
        refine wp_bV (law_emit_S (d + 2) q.1 (cDe_rd (cDe_rd hC g1.1) g2.1) (by simp; omega)) ?_
        rintro M3 ⟨f3, c3⟩
        refine wp_bV (law_emit_S (d + 2) (-14) c3 (by simp; omega)) ?_
        rintro M4 ⟨f4, c4⟩
        refine wp_I ?_
        have F : M4 132 = M2 132 := (f4.1 132 (by simp)).trans (f3.1 132 (by simp))
        have fx : xF M M4 := xF_tt (xF_tt (rd_xF g1.1) (rd_xF g2.1)) (xF_tt (em_xF f3) (em_xF f4))
        have hx2 : sfx TL q.2 := by rw [u1]; exact sfx_tr hx1 (sfx_t _)
        have e26 : cEnc [((26 : Int), q.1)] = [q.1, -14] := rfl
        refine wp_mono (rd_x8_lp d hKK f s (c ++ [(26, q.1)]) q.2 C0 M4 (g + 1) (by rw [u1]; omega) (by rw [u1]; omega) hs hx2 (cT_x hT fx) (cS_fr g2.2.2.2 F) (by rw [F]; exact g2.2.1) ?_ ?_) ?_
        · rw [cEnc_app, e26, show [q.1, (-14 : Int)] = [q.1] ++ [-14] from rfl, ← List.append_assoc, ← List.append_assoc]
          exact c4
        · rw [cEnc_app, e26, List.length_append, u1]
          simp only [List.length_cons, List.length_nil]
          omega
        · rintro r M' ⟨q1, q2⟩
          refine ⟨q1, ?_⟩
          (try dsimp only)
          cases hp : pX n f s (c ++ [(26, q.1)]) q.2 with
          | inl e => rw [hp] at q2; exact xB_tr fx q2
          | inr q' => rw [hp] at q2; exact xG_tr fx (by rw [F, g2.2.2.1, g1.2.2.1]) q2
    rw [if_neg h47]
    /- a sum goes on, or the end -/
    have more : ∀ (M1 : aM), xF M M1 → M1 132 = M 132 → cDe (C0 ++ cEnc (c ++ pnd s)) M1 → wp (if hdK ts = 43 then w_rd_expression_115 (d + 3) g (hdK ts) M1 else if hdK ts = 45 then w_rd_expression_115 (d + 3) g (hdK ts) M1 else some ([], M1)) fun r M' => r = [] ∧ match (if hdK ts = 43 ∨ hdK ts = 45 then (match pUn n ts.tail with
      | .inl e => .inl e
      | .inr q => pX n f (if hdK ts = 43 then 23 else 24) (c ++ pnd s ++ [q.1]) q.2)
    else .inr (c ++ pnd s, ts) : aRes (aCd × List aTk)) with
      | .inl e => xB e M M'
      | .inr q => xG TL n q.2 (C0 ++ cEnc q.1) M M' := by
      intro M1 f1 F1 c1
      have lpn : (cEnc (pnd s)).length = (pnd s).length := by
        unfold pnd
        split
        · rfl
        · exact cEnc_1 _ _ (by omega)
      have lpn1 : (pnd s).length ≤ 1 := by unfold pnd; split <;> simp
      have lc : (C0 ++ cEnc (c ++ pnd s)).length = C0.length + (cEnc c).length + (pnd s).length := by rw [List.length_append, cEnc_app, List.length_append, lpn]; omega
      have two : ∀ s', (s' = 23 ∨ s' = 24) → (if hdK ts = 43 then (23 : Int) else 24) = s' → (hdK ts = 43 ∨ hdK ts = 45) → wp (bndV (w_rd_step (d + 3) M1) fun M15 => bndV (w_rd_operand (d + 3) M15) fun M16 => iLet (w32 ((g : Int) + 1)) fun v17 => w_rd_expression_8 (d + 3) (12 - s') v17 M16) fun r M' => r = [] ∧ match (if hdK ts = 43 ∨ hdK ts = 45 then (match pUn n ts.tail with
      | .inl e => .inl e
      | .inr q => pX n f (if hdK ts = 43 then 23 else 24) (c ++ pnd s ++ [q.1]) q.2)
    else .inr (c ++ pnd s, ts) : aRes (aCd × List aTk)) with
      | .inl e => xB e M M'
      | .inr q => xG TL n q.2 (C0 ++ cEnc q.1) M M' := by
        intro s' hs' he hor
        rw [if_pos hor, he, e5']
        have l1 := tail_len (ts := ts) (by omega)
        refine wp_bV (rd_step_S (d + 2) (cT_x hT f1) (cS_fr hS F1) (by rw [F1]; exact h0) (by omega)) ?_
        intro M2 g2
        have hx1 : sfx TL ts.tail := sfx_tr hx (sfx_t _)
        have T2 := cT_rd (cT_x hT f1) g2.1
        have op := rd_op_S (d + 1) T2 g2.2.2.2 g2.2.1 (cDe_rd c1 g2.1) (by rw [lc]; omega) (hKK _ hx1)
        have fx2 := xF_tt f1 (rd_xF g2.1)
        have h32 : M2 132 3 = M 132 3 := by rw [g2.2.2.1, F1]
        cases hu : pUn n ts.tail with
        | inl e =>
          rw [hu] at op
          refine wp_bV op ?_
          intro M3 b3
          refine wp_I ?_
          exact flt _ _ (xB_tr fx2 b3)
        | inr q =>
          rw [hu] at op
          have u1 : q.2 = ts.tail.tail ∧ hdK ts.tail ≠ 0 := by
            unfold pUn at hu
            split at hu
            · cases hu; exact ⟨rfl, by omega⟩
            · split at hu
              · cases hu; exact ⟨rfl, by omega⟩
              · cases hu
          have l2 := tail_len u1.2
          have lq : (cEnc [q.1]).length = 1 := by
            unfold pUn at hu
            split at hu
            · cases hu; exact cEnc_1 _ _ (by decide)
            · split at hu
              · cases hu; exact cEnc_1 _ _ (by omega)
              · cases hu
          refine wp_bV op ?_
          intro M3 b3
          have b3 := xG_tr fx2 h32 b3
          refine wp_I ?_
          have hx2 : sfx TL q.2 := by rw [u1.1]; exact sfx_tr hx1 (sfx_t _)
          have cs : cSm s' = 12 - s' := by unfold cSm; rw [if_neg (by omega)]
          have ps : (pnd s').length = 1 := by unfold pnd; rw [if_neg (by omega)]; rfl
          rw [← cs]
          refine wp_mono (rd_x8_lp d hKK f s' (c ++ pnd s ++ [q.1]) q.2 C0 M3 (g + 1) (by rw [u1.1]; omega) (by rw [u1.1]; omega) (Or.inr hs') hx2 (cT_x hT b3.1) b3.2.2.2.1 b3.2.1 ?_ ?_) ?_
          · rw [cEnc_app, ← List.append_assoc]
            exact b3.2.2.2.2
          · rw [cEnc_app, cEnc_app, List.length_append, List.length_append, lq, lpn, u1.1, ps]
            omega
          · rintro r M' ⟨q1, q2⟩
            refine ⟨q1, ?_⟩
            (try dsimp only)
            cases hp : pX n f s' (c ++ pnd s ++ [q.1]) q.2 with
            | inl e => rw [hp] at q2; exact xB_tr b3.1 q2
            | inr q' => rw [hp] at q2; exact xG_tr b3.1 b3.2.2.1 q2
      refine wp_if (fun h43 => ?_) (fun h43 => ?_)
      · rw [l_rd_expression_115]
        refine wp_pos h43 ?_
        exact two 23 (Or.inl rfl) (if_pos h43) (Or.inl h43)
      refine wp_if (fun h45 => ?_) (fun h45 => ?_)
      · rw [l_rd_expression_115]
        refine wp_neg h43 ?_
        exact two 24 (Or.inr rfl) (if_neg h43) (Or.inr h45)
      · rw [if_neg (by omega)]
        exact wp_ret ⟨rfl, f1, by rw [F1]; exact h0, by rw [F1], cS_fr hS F1, c1⟩
    unfold cSm
    rcases hs with rfl | hs
    · rw [if_pos rfl]
      refine wp_pos rfl ?_
      exact more M (xF_refl M) rfl (by rw [show c ++ pnd 0 = c from List.append_nil c]; exact hC)
    · rw [if_neg (show ¬ s = 0 by omega)]
      refine wp_neg (by omega) ?_
      have ps : pnd s = [(s, 0)] := by unfold pnd; rw [if_neg (by omega)]
      rw [ps] at hl
      simp only [List.length_cons, List.length_nil] at hl
      refine wp_bV (law_emit_S (d + 2) (12 - s) hC (by simp; omega)) ?_
      rintro M1 ⟨f1, c1⟩
      refine more M1 (em_xF f1) (f1.1 132 (by simp)) ?_
      rw [ps, cEnc_app, ← List.append_assoc]
      have : cEnc [(s, (0 : Int))] = [12 - s] := by
        simp only [cEnc, List.append_nil]
        rw [if_neg (by omega), if_neg (by omega), if_neg (by omega)]
      rw [this]
      exact c1
theorem rd_ex_eq (d : Nat) {TL : List aTk} {n : Nat} (hKK : ∀ ts, sfx TL ts → 0 ≤ hdK ts ∧ hdK ts < 10000) {ts : List aTk} {C : List Int} {M : aM} (h4 : ts.length ≤ 400) (hx : sfx TL ts) (hT : cT TL n M) (hS : cS TL n ts M) (h0 : M 132 2 = 0) (hC : cDe C M) (hl : C.length + ts.length ≤ 400) (hCl : C.length < 400) : wp (w_rd_expression (d + 4) M) fun r M' => r = [] ∧ match pEx n ts with
    | .inl e => xB e M M'
    | .inr q => xG TL n q.2 (C ++ cEnc q.1) M M' := by
  rw [l_rd_expression]
  have op := rd_op_S (d + 1) hT hS h0 hC hCl (hKK _ hx)
  unfold pEx
  cases hu : pUn n ts with
  | inl e =>
    rw [hu] at op
    refine wp_bV op ?_
    intro M1 b1
    rw [l_rd_expression_8]
    have fin : wp (some ([], M1)) fun r M' => r = [] ∧ xB e M M' := wp_ret ⟨rfl, b1⟩
    exact wp_if (fun _ => wp_neg (xB_n b1) fin) (fun _ => fin)
  | inr q =>
    rw [hu] at op
    have u1 : q.2 = ts.tail ∧ hdK ts ≠ 0 := by
      unfold pUn at hu
      split at hu
      · cases hu; exact ⟨rfl, by omega⟩
      · split at hu
        · cases hu; exact ⟨rfl, by omega⟩
        · cases hu
    have l2 := tail_len u1.2
    have lq : (cEnc [q.1]).length = 1 := by
      unfold pUn at hu
      split at hu
      · cases hu; exact cEnc_1 _ _ (by decide)
      · split at hu
        · cases hu; exact cEnc_1 _ _ (by omega)
        · cases hu
    refine wp_bV op ?_
    intro M1 b1
    refine wp_mono (rd_x8_lp d hKK (q.2.length + 1) 0 [q.1] q.2 C M1 0 (by omega) (by rw [u1.1]; omega) (Or.inl rfl) (by rw [u1.1]; exact sfx_tr hx (sfx_t _)) (cT_x hT b1.1) b1.2.2.2.1 b1.2.1 b1.2.2.2.2 (by rw [lq, u1.1, show (pnd 0).length = 0 from rfl]; omega)) ?_
    rintro r M' ⟨q1, q2⟩
    refine ⟨q1, ?_⟩
    (try dsimp only)
    cases hp : pX n (q.2.length + 1) 0 [q.1] q.2 with
    | inl e => rw [hp] at q2; exact xB_tr b1.1 q2
    | inr q' => rw [hp] at q2; exact xG_tr b1.1 b1.2.2.1 q2
