/-! text: the law in the reference -/
def segZ (A : Nat → Int) : Nat → aCd → Prop
  | _, [] => True
  | p, (s, v) :: l => A (2 * p) = s ∧ (s = 0 ∨ s = 26 → A (2 * p + 1) = v) ∧ segZ A (p + 1) l
theorem segZ_app {A : Nat → Int} : ∀ (a b : aCd) (p : Nat), segZ A p (a ++ b) ↔ segZ A p a ∧ segZ A (p + a.length) b
  | [], b, p => by simp [segZ]
  | (s, v) :: a, b, p => by
    have ih := segZ_app (A := A) a b (p + 1)
    simp only [List.cons_append, segZ, List.length_cons]
    rw [ih, show p + (a.length + 1) = p + 1 + a.length by omega, and_assoc, and_assoc]
theorem segZ_fr {A B : Nat → Int} : ∀ (a : aCd) (p : Nat), (∀ i, 2 * p ≤ i → i < 2 * (p + a.length) → B i = A i) → segZ A p a → segZ B p a
  | [], _, _, _ => trivial
  | (s, v) :: a, p, h, hs => by
    simp only [List.length_cons] at h
    exact ⟨(h _ (by omega) (by omega)).trans hs.1, fun e => (h _ (by omega) (by omega)).trans (hs.2.1 e), segZ_fr a (p + 1) (fun i h1 h2 => h i (by omega) (by omega)) hs.2.2⟩
/-- the steps that have been laid -/
def mDe (C : aCd) (M : aM) : Prop := M 157 14 = ((C.length : Nat) : Int) ∧ C.length ≤ 409 ∧ segZ (M 163) 0 C
/-- but for what reading the law sets, the reference stays -/
def nF (M M' : aM) : Prop := (∀ k, k ≠ 157 → k ≠ 163 → M' k = M k) ∧ ∀ j, (j < 14 ∨ j = 15 ∨ j = 16 ∨ j = 23 ∨ 24 < j) → M' 157 j = M 157 j
theorem nF_refl (M : aM) : nF M M := ⟨fun _ _ _ => rfl, fun _ _ => rfl⟩
theorem nF_tt {M M1 M2 : aM} (h1 : nF M M1) (h2 : nF M1 M2) : nF M M2 := ⟨fun k a b => (h2.1 k a b).trans (h1.1 k a b), fun j a => (h2.2 j a).trans (h1.2 j a)⟩
theorem fq_nF {M M' : aM} (h : fq M M') : nF M M' := ⟨fun k a _ => h.1 k a, fun j a => h.2 j (by omega) (by omega) (by omega) (by omega)⟩
theorem rB_nF {k : Nat} {b : Nat → Int} {n : Nat} {M M' : aM} (h : rB k b n M) (f : nF M M') : rB k b n M' := by
  obtain ⟨h1, h2, h3, h4⟩ := h
  exact ⟨(f.2 12 (by omega)).trans h1, (f.2 16 (by omega)).trans h2, h3, fun i hi => by rw [f.1 165 (by decide) (by decide)]; exact h4 i hi⟩
theorem mDe_fq {C : aCd} {M M' : aM} (h : mDe C M) (f : fq M M') : mDe C M' := by
  unfold mDe at h ⊢
  rw [f.2 14 (by decide) (by decide) (by decide) (by decide), f.1 163 (by decide)]
  exact h
/-- reading goes on at ts', with steps C', the depth as it was -/
def nG (b : Nat → Int) (n : Nat) (ts' : List aTk) (C' : aCd) (M M' : aM) : Prop := nF M M' ∧ rS 0 b n ts' M' ∧ mDe C' M' ∧ M' 157 24 = M 157 24
def nB (e : Int × Int) (M M' : aM) : Prop := nF M M' ∧ M' 157 21 = e.1 ∧ M' 157 22 = e.2
theorem nG_tr {b : Nat → Int} {n : Nat} {ts' : List aTk} {C' : aCd} {M M1 M' : aM} (f : nF M M1) (h4 : M1 157 24 = M 157 24) (g : nG b n ts' C' M1 M') : nG b n ts' C' M M' := ⟨nF_tt f g.1, g.2.1, g.2.2.1, g.2.2.2.trans h4⟩
theorem nB_tr {e : Int × Int} {M M1 M' : aM} (f : nF M M1) (g : nB e M1 M') : nB e M M' := ⟨nF_tt f g.1, g.2⟩
theorem mB_n {e : Int × Int} {M M' : aM} (g : mB e M M') : nB e M M' := ⟨⟨fun k a b => by
  by_cases h : k = 164
  · subst h; exact g.2.1
  · exact g.1.1 k a h, fun j a => g.1.2 j (by omega)⟩, g.2.2⟩
theorem m_lay_eq (d : Nat) (s v v' : Int) {C : aCd} {M : aM} (h : mDe C M) (hl : C.length ≤ 408) (hv : s = 0 ∨ s = 26 → v' = v) : wp (w_m_lay (d + 1) s v M) fun r M' => r = [] ∧ nF M M' ∧ mDe (C ++ [(s, v')]) M' ∧ ∀ j, j ≠ 14 → M' 157 j = M 157 j := by
  obtain ⟨h1, h2, h3⟩ := h
  have e1 : w32 (2 * ((C.length : Nat) : Int)) = ((2 * C.length : Nat) : Int) := by rw [w32_i (by omega) (by omega)]; omega
  have e2 : w32 (((2 * C.length : Nat) : Int) + 1) = ((2 * C.length + 1 : Nat) : Int) := by rw [w32_i (by omega) (by omega)]; omega
  rw [l_m_lay, h1, e1, al163, tn_n]
  refine wp_inb ⟨by omega, by omega⟩ ?_
  refine wp_up fun M1 f1 g1 => ?_
  rw [f1 157 (by simp), h1, e1, e2, tn_n]
  refine wp_inb ⟨by omega, by omega⟩ ?_
  refine wp_up fun M2 f2 g2 => ?_
  rw [f2 157 (by simp), f1 157 (by simp), h1, w32_i (by omega) (by omega)]
  refine wp_up fun M3 f3 g3 => ?_
  have F : fr [157, 163] M M3 := fr_tr (fr_tr f1 f2 (l := [157, 163]) (by simp) (by simp)) f3 (by simp) (by simp)
  have G : ∀ j, j ≠ 14 → M3 157 j = M 157 j := fun j hj => by rw [g3, if_neg hj, f2 157 (by simp), f1 157 (by simp)]
  refine wp_ret ⟨rfl, ⟨fun k a b => F k (by simp; omega), fun j a => G j (by omega)⟩, ⟨by rw [g3, if_pos rfl]; simp, by simp; omega, ?_⟩, G⟩
  rw [f3 163 (by simp), segZ_app]
  refine ⟨segZ_fr C 0 (fun i _ hi => by rw [g2, if_neg (by omega), g1, if_neg (by omega)]) h3, ?_, fun e => ?_, trivial⟩
  · rw [g2, if_neg (by omega), g1, if_pos (by omega)]
  · rw [g2, if_pos (by omega), hv e]
theorem rS_lay {k : Nat} {b : Nat → Int} {n : Nat} {ts : List aTk} {M M' : aM} (h : rS k b n ts M) (f : ∀ j, j ≠ 14 → M' 157 j = M 157 j) : rS k b n ts M' := by
  obtain ⟨p, a, b, c, d, e, g⟩ := h
  exact ⟨p, (f 17 (by decide)).trans a, b, c, (f 18 (by decide)).trans d, (f 19 (by decide)).trans e, fun h => (f 20 (by decide)).trans (g h)⟩
theorem m_unit_S (d : Nat) {b : Nat → Int} {n : Nat} {ts : List aTk} {C : aCd} {M : aM} (hB : rB 0 b n M) (hS : rS 0 b n ts M) (hts : tsOK 0 ts) (hC : mDe C M) (hl : C.length ≤ 408) : wp (w_m_unit (d + 11) M) fun r M' => match pUn n ts with
    | .inl e => r = [aI 0] ∧ nB e M M'
    | .inr q => r = [aI 1] ∧ nG b n q.2 (C ++ [q.1]) M M' := by
  obtain ⟨p, h1, h2, h3, h4, h5, h6⟩ := id hS
  have hc := cr_0 (tsOK_K hts)
  have go : ∀ s v v' : Int, (s = 0 ∨ s = 26 → v' = v) → wp (bndV (w_m_lay (d + 10) s v M) fun M14 => bndV (w_m_next0 (d + 10) M14) fun M15 => some ([aI 1], M15)) fun r M' => r = [aI 1] ∧ nG b n ts.tail (C ++ [(s, v')]) M M' := by
    intro s v v' hv
    refine wp_bV (m_lay_eq (d + 9) s v v' hC hl hv) ?_
    rintro M1 ⟨f1, c1, g1⟩
    refine wp_bV (m_next_S d (by decide) (rB_nF hB f1) (rS_lay hS g1)) ?_
    rintro M2 ⟨q2, s2⟩
    exact wp_ret ⟨rfl, nF_tt f1 (fq_nF q2), s2, mDe_fq c1 q2, by rw [q2.2 24 (by decide) (by decide) (by decide) (by decide), g1 24 (by decide)]⟩
  have bad : wp (bndI (w_m_bad (d + 10) 1 M) fun y19 M18 => aBool y19 <| some ([aI y19], M18)) fun r M' => r = [aI 0] ∧ nB (1, hdP n ts) M M' := by
    refine wp_bad _ 1 M _ fun M' g => ⟨rfl, ?_⟩
    rw [h5] at g
    exact mB_n g
  rw [l_m_unit]
  refine wp_eI (m_isIn_eq _ _ _ _ _) ?_
  rw [h4]
  unfold pUn
  refine wp_if (fun h => ?_) (fun h => ?_)
  · have hK : hdK ts = 1 := by omega
    rw [if_pos hK, decide_eq_false (by omega), h6 hK]
    refine wp_pos rfl ?_
    exact go 0 (hdV ts) (hdV ts) fun _ => rfl
  · rw [if_neg (show ¬ hdK ts = 1 by omega)]
    refine wp_bif (fun hb => ?_) (fun hb => ?_)
    · have hb' := of_decide_eq_false hb
      rw [if_neg (show ¬ (263 ≤ hdK ts ∧ hdK ts ≤ 272) by omega)]
      exact bad
    · have hb' := of_decide_eq_true hb
      rw [if_pos (show 263 ≤ hdK ts ∧ hdK ts ≤ 272 by omega), hb]
      refine wp_neg (by decide) ?_
      rw [w32_i (by omega) (by omega), show cr ((0 : Nat) : Int) (hdK ts) - 40 = hdK ts - 262 by omega]
      exact go (hdK ts - 262) _ 0 (by omega)
theorem tsOK_s {k : Nat} {a b : List aTk} (h : tsOK k a) (s : sfx a b) : tsOK k b := fun t ht => h t (sfx_mem s ht)
theorem tsOK_V {k : Nat} {ts : List aTk} (h : tsOK k ts) : tsV ts := fun t ht => (h t ht).2
theorem pX_pnd {n f : Nat} {s : Int} {c : aCd} {ts : List aTk} (h1 : hdK ts ≠ 42) (h2 : hdK ts ≠ 47) (hf : 0 < f) : pX n f s c ts = pX n f 0 (c ++ pnd s) ts := by
  obtain ⟨f, rfl⟩ : ∃ g, f = g + 1 := ⟨f - 1, by omega⟩
  unfold pX
  rw [if_neg h1, if_neg h1, if_neg h2, if_neg h2, show pnd 0 = [] from rfl, List.append_nil]
/-- a product goes on -/
def mPr (b : Nat → Int) (n f : Nat) (C0 c : aCd) (ts : List aTk) (M : aM) (r : List aV) (M' : aM) : Prop :=
  (r = [aI 0] ∧ ∃ e, nB e M M' ∧ ∀ s, pX n f s c ts = .inl e) ∨
  (r = [aI 1] ∧ ∃ c' ts' f', nG b n ts' (C0 ++ c') M M' ∧ ts'.length < f' ∧ (∀ s, pX n f s c ts = pX n f' s c' ts') ∧ hdK ts' ≠ 42 ∧ hdK ts' ≠ 47 ∧ c'.length + ts'.length ≤ c.length + ts.length ∧ sfx ts ts')
theorem m_pr9_lp (d : Nat) {b : Nat → Int} {n : Nat} {C0 : aCd} : ∀ (f : Nat) (c : aCd) (ts : List aTk) (M : aM), ts.length < f → rB 0 b n M → rS 0 b n ts M → tsOK 0 ts → mDe (C0 ++ c) M → C0.length + c.length + ts.length ≤ 409 → wp (w_m_product_9 (d + 11) M) (mPr b n f C0 c ts M) := by
  intro f
  induction f with
  | zero => intro c ts M h; omega
  | succ f ih =>
    intro c ts M hf hB hS hts hC hl
    obtain ⟨p, h1, h2, h3, h4, h5, h6⟩ := id hS
    have hc := cr_0 (tsOK_K hts)
    rw [l_m_product_9, h4]
    have pass : ∀ {c' : aCd} {ts' : List aTk} {M1 : aM}, nF M M1 → M1 157 24 = M 157 24 → rS 0 b n ts' M1 → mDe (C0 ++ c') M1 → sfx ts ts' → ts'.length + 1 < ts.length + 1 → c'.length + ts'.length ≤ c.length + ts.length → (∀ s, pX n (f + 1) s c ts = pX n f s c' ts') → wp (w_m_product_9 (d + 11) M1) (mPr b n (f + 1) C0 c ts M) := by
      intro c' ts' M1 n1 d1 s1 m1 x1 l1 l2 e
      refine wp_mono (ih c' ts' M1 (by omega) (rB_nF hB n1) s1 (tsOK_s hts x1) m1 (by omega)) ?_
      rintro r M' (⟨q1, er, q2, q3⟩ | ⟨q1, c2, ts2, f2, q2, q3, q4, q5, q6, q7, q8⟩)
      · exact Or.inl ⟨q1, er, nB_tr n1 q2, fun s => (e s).trans (q3 s)⟩
      · exact Or.inr ⟨q1, c2, ts2, f2, nG_tr n1 d1 q2, q3, fun s => (e s).trans (q4 s), q5, q6, by omega, sfx_tr x1 q8⟩
    have both : (hdK ts = 42 ∨ hdK ts = 47) → wp (w_m_product_29 (d + 11) M) (mPr b n (f + 1) C0 c ts M) := by
      intro hop
      have l1 := tail_len (ts := ts) (by omega)
      have ht1 : tsOK 0 ts.tail := tsOK_t hts
      have hc1 := cr_0 (tsOK_K ht1)
      rw [l_m_product_29, h4]
      refine wp_if (fun h47 => ?_) (fun h47 => ?_)
      · have h47' : hdK ts = 47 := by omega
        have eX : ∀ s, pX n (f + 1) s c ts = match pNum n 1 9999 ts.tail with
            | .inl e => .inl e
            | .inr q => pX n f s (c ++ [(26, q.1)]) q.2 := fun s => by
          show (if hdK ts = 42 then _ else if hdK ts = 47 then _ else _) = _
          rw [if_neg (by omega), if_pos h47']
          rfl
        refine wp_bV (m_next_S (d + 1) (by decide) hB hS) ?_
        rintro M1 ⟨q1, s1⟩
        have n1 := fq_nF q1
        obtain ⟨p', k1, k2, k3, k4, k5, k6⟩ := id s1
        have D1 : M1 157 24 = M 157 24 := q1.2 24 (by decide) (by decide) (by decide) (by decide)
        refine wp_neg (by decide) ?_
        refine wp_I ?_
        rw [k4]
        refine wp_if (fun hn => ?_) (fun hn => ?_)
        · have hK1 : hdK ts.tail = 1 := by omega
          have hv := tsV_h (tsOK_V ht1) hK1
          rw [k6 hK1]
          refine wp_if (fun hz => ?_) (fun hz => ?_)
          · refine wp_bad _ 2 M1 _ fun M' g => Or.inl ⟨rfl, (2, hdP n ts.tail), ?_, fun s => ?_⟩
            · rw [k5] at g; exact nB_tr n1 (mB_n g)
            · rw [eX]; unfold pNum; rw [if_pos hK1, if_neg (by omega)]
          · refine wp_bV (m_next_S (d + 1) (by decide) (rB_nF hB n1) s1) ?_
            rintro M2 ⟨q2, s2⟩
            refine wp_bV (m_lay_eq (d + 10) 26 (hdV ts.tail) (hdV ts.tail) (mDe_fq (mDe_fq hC q1) q2) (by rw [List.length_append]; omega) fun _ => rfl) ?_
            rintro M3 ⟨n3, m3, g3⟩
            have l2 := tail_len (ts := ts.tail) (by omega)
            refine pass (c' := c ++ [(26, hdV ts.tail)]) (ts' := ts.tail.tail) (nF_tt n1 (nF_tt (fq_nF q2) n3)) ?_ (rS_lay s2 g3) (by rw [← List.append_assoc]; exact m3) (sfx_tr (sfx_t _) (sfx_t _)) (by omega) (by simp only [List.length_append, List.length_cons, List.length_nil]; omega) fun s => ?_
            · rw [g3 24 (by decide), q2.2 24 (by decide) (by decide) (by decide) (by decide), D1]
            · rw [eX]; unfold pNum; rw [if_pos hK1, if_pos (by omega)]
        · refine wp_bad _ 1 M1 _ fun M' g => Or.inl ⟨rfl, (1, hdP n ts.tail), ?_, fun s => ?_⟩
          · rw [k5] at g; exact nB_tr n1 (mB_n g)
          · rw [eX]; unfold pNum; rw [if_neg (by omega)]
      · have h42' : hdK ts = 42 := by omega
        have eX : ∀ s, pX n (f + 1) s c ts = match pUn n ts.tail with
            | .inl e => .inl e
            | .inr q => pX n f s (c ++ [q.1, (25, 0)]) q.2 := fun s => by
          show (if hdK ts = 42 then _ else _) = _
          rw [if_pos h42']
          rfl
        refine wp_bV (m_next_S (d + 1) (by decide) hB hS) ?_
        rintro M1 ⟨q1, s1⟩
        have n1 := fq_nF q1
        have D1 : M1 157 24 = M 157 24 := q1.2 24 (by decide) (by decide) (by decide) (by decide)
        refine wp_pos rfl ?_
        have un := m_unit_S d (rB_nF hB n1) s1 ht1 (mDe_fq hC q1) (by rw [List.length_append]; omega)
        cases hu : pUn n ts.tail with
        | inl e =>
          rw [hu] at un
          obtain ⟨r, M2, e2, rfl, g2⟩ := un
          refine wp_eI e2 ?_
          refine wp_pos rfl ?_
          refine wp_ret (Or.inl ⟨rfl, e, nB_tr n1 g2, fun s => ?_⟩)
          rw [eX, hu]
        | inr q =>
          rw [hu] at un
          obtain ⟨r, M2, e2, rfl, g2⟩ := un
          obtain ⟨u1, u2, -⟩ := pUn_in (tsOK_V ht1) hu
          have l2 := tail_len u2
          refine wp_eI e2 ?_
          refine wp_neg (by decide) ?_
          refine wp_bV (m_lay_eq (d + 10) 25 0 0 g2.2.2.1 (by simp only [List.length_append, List.length_cons, List.length_nil]; omega) fun _ => rfl) ?_
          rintro M3 ⟨n3, m3, g3⟩
          refine pass (c' := c ++ [q.1, (25, 0)]) (ts' := q.2) (nF_tt n1 (nF_tt g2.1 n3)) ?_ (rS_lay g2.2.1 g3) ?_ (by rw [u1]; exact sfx_tr (sfx_t _) (sfx_t _)) (by rw [u1]; omega) (by rw [u1]; simp only [List.length_append, List.length_cons, List.length_nil]; omega) fun s => ?_
          · rw [g3 24 (by decide), g2.2.2.2, D1]
          · rw [show [q.1, ((25 : Int), (0 : Int))] = [q.1] ++ [(25, 0)] from rfl, ← List.append_assoc, ← List.append_assoc]
            exact m3
          · rw [eX, hu]
    refine wp_if (fun h => both (by omega)) (fun h => ?_)
    refine wp_if (fun h' => both (by omega)) (fun h' => ?_)
    exact wp_ret (Or.inr ⟨rfl, c, ts, f + 1, ⟨nF_refl M, hS, hC, rfl⟩, hf, fun _ => rfl, by omega, by omega, Nat.le_refl _, sfx_refl _⟩)
/-- a product: from its first value -/
theorem m_prod_eq (d : Nat) {b : Nat → Int} {n : Nat} {C0 c : aCd} {ts : List aTk} {M : aM} (hB : rB 0 b n M) (hS : rS 0 b n ts M) (hts : tsOK 0 ts) (hC : mDe (C0 ++ c) M) (hl : C0.length + c.length + ts.length ≤ 408) : wp (w_m_product (d + 12) M) fun r M' => match pUn n ts with
    | .inl e => r = [aI 0] ∧ nB e M M'
    | .inr q => mPr b n (q.2.length + 1) C0 (c ++ [q.1]) q.2 M r M' := by
  rw [l_m_product]
  have un := m_unit_S d hB hS hts hC (by rw [List.length_append]; omega)
  cases hu : pUn n ts with
  | inl e =>
    rw [hu] at un
    obtain ⟨r, M2, e2, rfl, g2⟩ := un
    refine wp_eI e2 ?_
    refine wp_pos rfl ?_
    exact wp_ret ⟨rfl, g2⟩
  | inr q =>
    rw [hu] at un
    obtain ⟨r, M2, e2, rfl, g2⟩ := un
    obtain ⟨u1, u2, -⟩ := pUn_in (tsOK_V hts) hu
    have l2 := tail_len u2
    refine wp_eI e2 ?_
    refine wp_neg (by decide) ?_
    refine wp_mono (m_pr9_lp d (q.2.length + 1) (c ++ [q.1]) q.2 M2 (by omega) (rB_nF hB g2.1) g2.2.1 (by rw [u1]; exact tsOK_t hts) (by rw [← List.append_assoc]; exact g2.2.2.1) (by rw [u1]; simp only [List.length_append, List.length_cons, List.length_nil]; omega)) ?_
    rintro r M' (⟨q1, er, q2, q3⟩ | ⟨q1, c2, ts2, f2, q2, q3⟩)
    · exact Or.inl ⟨q1, er, nB_tr g2.1 q2, q3⟩
    · exact Or.inr ⟨q1, c2, ts2, f2, nG_tr g2.1 g2.2.2.2 q2, q3⟩
def mSu (b : Nat → Int) (n : Nat) (C0 : aCd) (p : aRes (aCd × List aTk)) (M : aM) (r : List aV) (M' : aM) : Prop := match p with
  | .inl e => r = [aI 0] ∧ nB e M M'
  | .inr q => r = [aI 1] ∧ nG b n q.2 (C0 ++ q.1) M M'
theorem pX_f {n : Nat} : ∀ (f f' : Nat) (s : Int) (c : aCd) (ts : List aTk), tsV ts → ts.length < f → ts.length < f' → pX n f s c ts = pX n f' s c ts
  | 0, _, _, _, _, _, h, _ => by omega
  | _, 0, _, _, _, _, _, h => by omega
  | f + 1, f' + 1, s, c, ts, hv, h, h' => by
    unfold pX
    split
    · next h42 =>
      have l1 := tail_len (ts := ts) (by omega)
      split
      · rfl
      · next q hu =>
        obtain ⟨u1, u2, -⟩ := pUn_in (tsV_t hv) hu
        have l2 := tail_len u2
        exact pX_f f f' _ _ _ (by rw [u1]; exact tsV_t (tsV_t hv)) (by rw [u1]; omega) (by rw [u1]; omega)
    · split
      · next h42 h47 =>
        have l1 := tail_len (ts := ts) (by omega)
        split
        · rfl
        · next q hu =>
          obtain ⟨u1, u2, -⟩ := pNum_in hu
          have l2 := tail_len u2
          exact pX_f f f' _ _ _ (by rw [u1]; exact tsV_t (tsV_t hv)) (by rw [u1]; omega) (by rw [u1]; omega)
      · split
        · next h42 h47 h43 =>
          have l1 := tail_len (ts := ts) (by omega)
          split
          · rfl
          · next q hu =>
            obtain ⟨u1, u2, -⟩ := pUn_in (tsV_t hv) hu
            have l2 := tail_len u2
            exact pX_f f f' _ _ _ (by rw [u1]; exact tsV_t (tsV_t hv)) (by rw [u1]; omega) (by rw [u1]; omega)
        · rfl
theorem m_su9_lp (d : Nat) {b : Nat → Int} {n : Nat} {C0 : aCd} : ∀ (N : Nat) (f : Nat) (c : aCd) (ts : List aTk) (M : aM), ts.length ≤ N → ts.length < f → hdK ts ≠ 42 → hdK ts ≠ 47 → rB 0 b n M → rS 0 b n ts M → tsOK 0 ts → mDe (C0 ++ c) M → C0.length + c.length + ts.length ≤ 408 → wp (w_m_sumUp_9 (d + 12) M) (mSu b n C0 (pX n f 0 c ts) M) := by
  intro N
  induction N with
  | zero =>
    intro f c ts M hN hf h42 h47 hB hS hts hC hl
    obtain ⟨p, h1, h2, h3, h4, h5, h6⟩ := id hS
    have hz : ts = [] := List.eq_nil_of_length_eq_zero (by omega)
    obtain ⟨f, rfl⟩ : ∃ g, f = g + 1 := ⟨f - 1, by omega⟩
    have e4 : M 157 18 = 0 := by rw [h4, hz]; rfl
    have eX : pX n (f + 1) 0 c ts = .inr (c ++ pnd 0, ts) := by
      subst hz
      rfl
    rw [l_m_sumUp_9, e4, eX]
    refine wp_neg (by decide) ?_
    refine wp_neg (by decide) ?_
    exact wp_ret ⟨rfl, nF_refl M, hS, by rw [show pnd 0 = [] from rfl, List.append_nil]; exact hC, rfl⟩
  | succ N ih =>
    intro f c ts M hN hf h42 h47 hB hS hts hC hl
    obtain ⟨p, h1, h2, h3, h4, h5, h6⟩ := id hS
    have hc := cr_0 (tsOK_K hts)
    obtain ⟨f, rfl⟩ : ∃ g, f = g + 1 := ⟨f - 1, by omega⟩
    have eX : pX n (f + 1) 0 c ts = if hdK ts = 43 ∨ hdK ts = 45 then (match pUn n ts.tail with
      | .inl e => .inl e
      | .inr q => pX n f (if hdK ts = 43 then 23 else 24) (c ++ [q.1]) q.2)
    else .inr (c, ts) := by
      show (if hdK ts = 42 then _ else if hdK ts = 47 then _ else _) = _
      rw [if_neg h42, if_neg h47, show pnd 0 = [] from rfl, List.append_nil]
      rfl
    rw [l_m_sumUp_9, h4, eX]
    have go : ∀ s' : Int, (s' = 23 ∨ s' = 24) → (if hdK ts = 43 then (23 : Int) else 24) = s' → (hdK ts = 43 ∨ hdK ts = 45) → wp (bndV (w_m_next0 (d + 12) M) fun M13 => bndI (w_m_product (d + 12) M13) fun y15 M14 => if y15 = 0 then some ([aI 0], M14) else bndV (w_m_lay (d + 12) s' 0 M14) fun M16 => w_m_sumUp_9 (d + 12) M16) (mSu b n C0 (if hdK ts = 43 ∨ hdK ts = 45 then (match pUn n ts.tail with
      | .inl e => .inl e
      | .inr q => pX n f (if hdK ts = 43 then 23 else 24) (c ++ [q.1]) q.2)
    else .inr (c, ts)) M) := by
      intro s' hs' he hor
      rw [if_pos hor, he]
      have l1 := tail_len (ts := ts) (by omega)
      have ht1 : tsOK 0 ts.tail := tsOK_t hts
      refine wp_bV (m_next_S (d + 2) (by decide) hB hS) ?_
      rintro M1 ⟨q1, s1⟩
      have n1 := fq_nF q1
      have D1 : M1 157 24 = M 157 24 := q1.2 24 (by decide) (by decide) (by decide) (by decide)
      have pr := m_prod_eq d (C0 := C0) (c := c) (rB_nF hB n1) s1 ht1 (mDe_fq hC q1) (by omega)
      cases hu : pUn n ts.tail with
      | inl e =>
        rw [hu] at pr
        obtain ⟨r, M2, e2, rfl, g2⟩ := pr
        refine wp_eI e2 ?_
        refine wp_pos rfl ?_
        exact wp_ret ⟨rfl, nB_tr n1 g2⟩
      | inr q =>
        rw [hu] at pr
        obtain ⟨u1, u2, -⟩ := pUn_in (tsOK_V ht1) hu
        have l2 := tail_len u2
        have vq : tsV q.2 := by rw [u1]; exact tsV_t (tsOK_V ht1)
        obtain ⟨r, M2, e2, hpr⟩ := pr
        dsimp only
        have eF := pX_f f (q.2.length + 1) s' (c ++ [q.1]) q.2 (n := n) vq (by rw [u1]; omega) (by omega)
        rw [eF]
        rcases hpr with ⟨rfl, er, g2, g3⟩ | ⟨rfl, c2, ts2, f2, g2, g3, g4, g5, g6, g7, g8⟩
        · refine wp_eI e2 ?_
          refine wp_pos rfl ?_
          rw [g3]
          exact wp_ret ⟨rfl, nB_tr n1 g2⟩
        · refine wp_eI e2 ?_
          refine wp_neg (by decide) ?_
          simp only [List.length_append, List.length_cons, List.length_nil] at g7
          rw [u1] at g7
          refine wp_bV (m_lay_eq (d + 11) s' 0 0 g2.2.2.1 (by simp only [List.length_append]; omega) fun _ => rfl) ?_
          rintro M3 ⟨n3, m3, k3⟩
          have x2 : sfx ts.tail ts2 := by
            have : sfx ts.tail q.2 := by rw [u1]; exact sfx_t _
            exact sfx_tr this g8
          have ps : pnd s' = [(s', 0)] := by unfold pnd; rw [if_neg (by omega)]
          rw [g4, pX_pnd g5 g6 (by omega), ps]
          have n3' := nF_tt n1 (nF_tt g2.1 n3)
          refine wp_mono (ih f2 (c2 ++ [(s', 0)]) ts2 M3 ?_ g3 g5 g6 (rB_nF hB n3') (rS_lay g2.2.1 k3) (tsOK_s ht1 x2) (by rw [← List.append_assoc]; exact m3) (by simp only [List.length_append, List.length_cons, List.length_nil]; omega)) ?_
          · have := sfx_len x2
            omega
          · intro r M' q'
            revert q'
            unfold mSu
            rcases pX n f2 0 (c2 ++ [(s', 0)]) ts2 with e | r'
            · exact fun q' => ⟨q'.1, nB_tr n3' q'.2⟩
            · exact fun q' => ⟨q'.1, nG_tr n3' (by rw [k3 24 (by decide), g2.2.2.2, D1]) q'.2⟩
    have both : (hdK ts = 43 ∨ hdK ts = 45) → wp (w_m_sumUp_29 (d + 12) M) (mSu b n C0 (if hdK ts = 43 ∨ hdK ts = 45 then (match pUn n ts.tail with
      | .inl e => .inl e
      | .inr q => pX n f (if hdK ts = 43 then 23 else 24) (c ++ [q.1]) q.2)
    else .inr (c, ts)) M) := by
      intro hor
      rw [l_m_sumUp_29, h4]
      refine wp_if (fun h => ?_) (fun h => ?_)
      · exact go 23 (Or.inl rfl) (if_pos (by omega)) hor
      · exact go 24 (Or.inr rfl) (if_neg (by omega)) hor
    refine wp_if (fun h => both (by omega)) (fun h => ?_)
    refine wp_if (fun h' => both (by omega)) (fun h' => ?_)
    rw [if_neg (by omega)]
    exact wp_ret ⟨rfl, nF_refl M, hS, hC, rfl⟩
theorem m_sum_eq (d : Nat) {b : Nat → Int} {n : Nat} {C : aCd} {ts : List aTk} {M : aM} (hB : rB 0 b n M) (hS : rS 0 b n ts M) (hts : tsOK 0 ts) (hC : mDe C M) (hl : C.length + ts.length ≤ 408) : wp (w_m_sumUp (d + 13) M) (mSu b n C (pEx n ts) M) := by
  rw [l_m_sumUp]
  have pr := m_prod_eq d (C0 := C) (c := []) hB hS hts (by rw [List.append_nil]; exact hC) (by simp only [List.length_nil]; omega)
  unfold pEx
  cases hu : pUn n ts with
  | inl e =>
    rw [hu] at pr
    obtain ⟨r, M2, e2, rfl, g2⟩ := pr
    refine wp_eI e2 ?_
    refine wp_pos rfl ?_
    exact wp_ret ⟨rfl, g2⟩
  | inr q =>
    rw [hu] at pr
    obtain ⟨u1, u2, -⟩ := pUn_in (tsOK_V hts) hu
    have l2 := tail_len u2
    obtain ⟨r, M2, e2, hpr⟩ := pr
    dsimp only at hpr ⊢
    rw [show ([] : aCd) ++ [q.1] = [q.1] from rfl] at hpr
    rcases hpr with ⟨rfl, er, g2, g3⟩ | ⟨rfl, c2, ts2, f2, g2, g3, g4, g5, g6, g7, g8⟩
    · refine wp_eI e2 ?_
      refine wp_pos rfl ?_
      rw [g3]
      exact wp_ret ⟨rfl, g2⟩
    · refine wp_eI e2 ?_
      refine wp_neg (by decide) ?_
      simp only [List.length_cons, List.length_nil] at g7
      rw [u1] at g7
      rw [g4]
      have x2 : sfx ts ts2 := by
        have : sfx ts q.2 := by rw [u1]; exact sfx_t _
        exact sfx_tr this g8
      refine wp_mono (m_su9_lp d ts2.length f2 c2 ts2 M2 (Nat.le_refl _) g3 g5 g6 (rB_nF hB g2.1) g2.2.1 (tsOK_s hts x2) g2.2.2.1 (by omega)) ?_
      intro r M' q'
      revert q'
      unfold mSu
      rcases pX n f2 0 c2 ts2 with e | r'
      · exact fun q' => ⟨q'.1, nB_tr g2.1 q'.2⟩
      · exact fun q' => ⟨q'.1, nG_tr g2.1 g2.2.2.2 q'.2⟩
