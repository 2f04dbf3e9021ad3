/-! text: the law in the reference, lines -/
def mLd (F A : Nat → Int) (S : Nat) : Nat → aLaw → Prop
  | _, [] => True
  | i, (w, E, B) :: L => (∃ p : Nat, F (4 * i) = p ∧ F (4 * i + 1) = (p + E.length : Nat) ∧ F (4 * i + 2) = (p + E.length + B.length : Nat) ∧ F (4 * i + 3) = 20 + w ∧ p + E.length + B.length ≤ S ∧ segZ A p E ∧ segZ A (p + E.length) B) ∧ mLd F A S (i + 1) L
theorem mLd_app {F A : Nat → Int} {S : Nat} : ∀ (L : aLaw) (i : Nat) (x : aLine), mLd F A S i L → mLd F A S (i + L.length) [x] → mLd F A S i (L ++ [x])
  | [], i, x, _, h => h
  | (w, E, B) :: L, i, x, h, h2 => ⟨h.1, mLd_app L (i + 1) x h.2 (by rw [show i + 1 + L.length = i + ((w, E, B) :: L).length by simp; omega]; exact h2)⟩
theorem mLd_fr {F A F' A' : Nat → Int} {S S' N : Nat} (hS : S ≤ S') (hA : ∀ k, k < 2 * S → A' k = A k) (hF : ∀ k, k < 4 * N → F' k = F k) : ∀ (L : aLaw) (i : Nat), i + L.length ≤ N → mLd F A S i L → mLd F' A' S' i L
  | [], _, _, _ => trivial
  | (w, E, B) :: L, i, hi, h => by
    simp only [List.length_cons] at hi
    obtain ⟨⟨p, a, b, c, e, f, g, k⟩, h2⟩ := h
    exact ⟨⟨p, (hF _ (by omega)).trans a, (hF _ (by omega)).trans b, (hF _ (by omega)).trans c, (hF _ (by omega)).trans e, by omega, segZ_fr E p (fun i _ h2 => hA i (by omega)) g, segZ_fr B _ (fun i _ h2 => hA i (by omega)) k⟩, mLd_fr hS hA hF L (i + 1) (by omega) h2⟩
/-- the draft of the law in the reference -/
def mLw (L : aLaw) (C : aCd) (M : aM) : Prop := mDe C M ∧ M 157 13 = ((L.length : Nat) : Int) ∧ L.length ≤ 16 ∧ mLd (M 162) (M 163) C.length 0 L
def oF (M M' : aM) : Prop := (∀ k, k ≠ 157 → k ≠ 162 → k ≠ 163 → M' k = M k) ∧ ∀ j, (j < 13 ∨ j = 15 ∨ j = 16 ∨ j = 23 ∨ 24 < j) → M' 157 j = M 157 j
theorem oF_refl (M : aM) : oF M M := ⟨fun _ _ _ _ => rfl, fun _ _ => rfl⟩
theorem oF_tt {M M1 M2 : aM} (h1 : oF M M1) (h2 : oF M1 M2) : oF M M2 := ⟨fun k a b c => (h2.1 k a b c).trans (h1.1 k a b c), fun j a => (h2.2 j a).trans (h1.2 j a)⟩
theorem nF_o {M M' : aM} (h : nF M M') : oF M M' := ⟨fun k a _ c => h.1 k a c, fun j a => h.2 j (by omega)⟩
theorem rB_oF {k : Nat} {b : Nat → Int} {n : Nat} {M M' : aM} (h : rB k b n M) (f : oF M M') : rB k b n M' := by
  obtain ⟨h1, h2, h3, h4⟩ := h
  exact ⟨(f.2 12 (by omega)).trans h1, (f.2 16 (by omega)).trans h2, h3, fun i hi => by rw [f.1 165 (by decide) (by decide) (by decide)]; exact h4 i hi⟩
/-- what a line of the law comes to in the reference -/
def lNw (b : Nat → Int) (n : Nat) (L : aLaw) (C : aCd) (ts : List aTk) (p : aRes (aLine × List aTk)) (M : aM) (r : List aV) (M' : aM) : Prop := oF M M' ∧ match p with
  | .inl e => r = [aI 0] ∧ M' 157 21 = e.1 ∧ M' 157 22 = e.2
  | .inr q => r = [aI 1] ∧ rS 0 b n q.2 M' ∧ sfx ts q.2 ∧ M' 157 13 = M 157 13 ∧ ∃ C', mDe C' M' ∧ mLd (M' 162) (M' 163) C'.length 0 (L ++ [q.1]) ∧ C'.length + q.2.length ≤ 408
theorem segZ_get {A : Nat → Int} : ∀ (a : aCd) (p : Nat), segZ A p a → ∀ k, (h : k < a.length) → A (2 * (p + k)) = a[k].1 ∧ (a[k].1 = 0 ∨ a[k].1 = 26 → A (2 * (p + k) + 1) = a[k].2)
  | [], p, _, k, h => by simp at h
  | (s, v) :: a, p, hs, 0, h => ⟨hs.1, hs.2.1⟩
  | (s, v) :: a, p, hs, k + 1, h => by
    have := segZ_get a (p + 1) hs.2.2 k (by simpa using h)
    rw [show p + (k + 1) = p + 1 + k by omega]
    exact this
theorem segZ_x {A B : Nat → Int} {N : Nat} (h : ∀ k, k < N → B (2 * k) = A (2 * k) ∧ (A (2 * k) = 0 ∨ A (2 * k) = 26 → B (2 * k + 1) = A (2 * k + 1))) : ∀ (a : aCd) (p : Nat), p + a.length ≤ N → segZ A p a → segZ B p a
  | [], _, _, _ => trivial
  | (s, v) :: a, p, hp, hs => by
    simp only [List.length_cons] at hp
    obtain ⟨h1, h2⟩ := h p (by omega)
    obtain ⟨s1, s2, s3⟩ := hs
    exact ⟨h1.trans s1, fun e => (h2 (by rw [s1]; exact e)).trans (s2 e), segZ_x h a (p + 1) (by omega) s3⟩
theorem m_law_end (d : Nat) {b : Nat → Int} {n : Nat} {ts ts0 : List aTk} {L : aLaw} {C E B : aCd} {w : Int} {M0 M : aM} (hB : rB 0 b n M) (hS : rS 0 b n ts M) (hts : tsOK 0 ts) (hx : sfx ts0 ts) (hf : oF M0 M) (h13 : M 157 13 = M0 157 13) (hC : mDe (C ++ E ++ B) M) (hL0 : mLd (M0 162) (M0 163) C.length 0 L) (hC0 : mDe C M0)
    (h162 : ∀ i, M 162 i = if i = 4 * L.length + 2 then (((C ++ E ++ B).length : Nat) : Int) else if i = 4 * L.length + 1 then (((C ++ E).length : Nat) : Int) else if i = 4 * L.length then ((C.length : Nat) : Int) else if i = 4 * L.length + 3 then 20 + w else M0 162 i) (hb : (C ++ E ++ B).length + ts.length ≤ 408) :
    wp (bndI (w_m_need (d + 11) 159 M) fun y30 M29 => aBool y30 <| some ([aI y30], M29)) (lNw b n L C ts0 (pLe n (w, E, B) ts) M0) := by
  have nd := m_need_S d (by decide) hB hS 59 159 (cr_k (k := 0) (by decide) (tsOK_K hts)).2.2
  unfold pLe
  cases hp : pTk n 59 ts with
  | inl e =>
    rw [hp] at nd
    obtain ⟨r, M1, e1, rfl, g1⟩ := nd
    refine wp_eI e1 ?_
    have := mB_n g1
    exact wp_ret ⟨oF_tt hf (nF_o this.1), rfl, this.2⟩
  | inr t =>
    rw [hp] at nd
    have ht := pTk_t hp
    obtain ⟨r, M1, e1, rfl, q1, s1⟩ := nd
    refine wp_eI e1 ?_
    have m1 := mDe_fq hC q1
    have ltail : t.length ≤ ts.length := by rw [ht]; simp
    refine wp_ret ⟨oF_tt hf (nF_o (fq_nF q1)), rfl, s1, by rw [ht]; exact sfx_tr hx (sfx_t _), by rw [q1.2 13 (by decide) (by decide) (by decide) (by decide), h13], C ++ E ++ B, m1, ?_, by dsimp only; omega⟩
    have z1 := m1.2.2
    have z0 := hC0.2.2
    rw [q1.1 162 (by decide)]
    have G := h162
    have hlen : (C ++ E ++ B).length = C.length + E.length + B.length := by rw [List.length_append, List.length_append]
    have zz := z1
    rw [List.append_assoc, segZ_app, segZ_app, Nat.zero_add] at zz
    /- the older lines -/
    have hx0 : ∀ k, k < C.length → M1 163 (2 * k) = M0 163 (2 * k) ∧ (M0 163 (2 * k) = 0 ∨ M0 163 (2 * k) = 26 → M1 163 (2 * k + 1) = M0 163 (2 * k + 1)) := by
      intro k hk
      have x1 := segZ_get C 0 zz.1 k hk
      have x0 := segZ_get C 0 z0 k hk
      rw [Nat.zero_add] at x1 x0
      refine ⟨x1.1.trans x0.1.symm, fun e => ?_⟩
      rw [x0.1] at e
      exact (x1.2 e).trans (x0.2 e).symm
    have old : mLd (M 162) (M1 163) (C ++ E ++ B).length 0 L := by
      have key : ∀ (K : aLaw) (i : Nat), i + K.length ≤ L.length → mLd (M0 162) (M0 163) C.length i K → mLd (M 162) (M1 163) (C ++ E ++ B).length i K := by
        intro K
        induction K with
        | nil => intro i _ _; trivial
        | cons x K ih =>
          obtain ⟨w', E', B'⟩ := x
          intro i hi h
          simp only [List.length_cons] at hi
          obtain ⟨⟨p, a, b', c, e, f, g, k⟩, h2⟩ := h
          refine ⟨⟨p, ?_, ?_, ?_, ?_, by omega, ?_, ?_⟩, ih (i + 1) (by omega) h2⟩
          · rw [G, if_neg (by omega), if_neg (by omega), if_neg (by omega), if_neg (by omega)]; exact a
          · rw [G, if_neg (by omega), if_neg (by omega), if_neg (by omega), if_neg (by omega)]; exact b'
          · rw [G, if_neg (by omega), if_neg (by omega), if_neg (by omega), if_neg (by omega)]; exact c
          · rw [G, if_neg (by omega), if_neg (by omega), if_neg (by omega), if_neg (by omega)]; exact e
          · exact segZ_x hx0 E' p (by omega) g
          · exact segZ_x hx0 B' _ (by omega) k
      exact key L 0 (by omega) hL0
    refine mLd_app L 0 _ old ?_
    rw [Nat.zero_add]
    refine ⟨⟨C.length, ?_, ?_, ?_, ?_, by omega, zz.2.1, zz.2.2⟩, trivial⟩
    · rw [G, if_neg (by omega), if_neg (by omega), if_pos rfl]
    · rw [G, if_neg (by omega), if_pos rfl, List.length_append]
    · rw [G, if_pos rfl, hlen]
    · rw [G, if_neg (by omega), if_neg (by omega), if_neg (by omega), if_pos rfl]
theorem m_aLine_eq (d : Nat) {b : Nat → Int} {n : Nat} {ts : List aTk} {L : aLaw} {C : aCd} {M : aM} (hB : rB 0 b n M) (hS : rS 0 b n ts M) (hts : tsOK 0 ts) (hk : 256 ≤ hdK ts ∧ hdK ts ≤ 258) (hL : mLw L C M) (hl : L.length < 16) (hb : C.length + ts.length ≤ 408) : wp (w_m_aLine (d + 41) M) (lNw b n L C ts (pLw n ts) M) := by
  obtain ⟨p, r1, r2, r3, r4, r5, r6⟩ := id hS
  obtain ⟨c1, c2, c3, c4⟩ := id hL
  have hc := cr_0 (tsOK_K hts)
  have l1 := tail_len (ts := ts) (by omega)
  have ht1 := tsOK_t hts
  have e40 : w32 (4 * ((L.length : Nat) : Int)) = ((4 * L.length : Nat) : Int) := by rw [w32_i (by omega) (by omega)]; omega
  have e41 : w32 (((4 * L.length : Nat) : Int) + 1) = ((4 * L.length + 1 : Nat) : Int) := by rw [w32_i (by omega) (by omega)]; omega
  have e42 : w32 (((4 * L.length : Nat) : Int) + 2) = ((4 * L.length + 2 : Nat) : Int) := by rw [w32_i (by omega) (by omega)]; omega
  have e43 : w32 (((4 * L.length : Nat) : Int) + 3) = ((4 * L.length + 3 : Nat) : Int) := by rw [w32_i (by omega) (by omega)]; omega
  rw [l_m_aLine, r4]
  refine wp_eI (m_isIn_eq _ _ _ _ _) ?_
  rw [decide_eq_true (by omega)]
  refine wp_neg (by decide) ?_
  rw [c2]
  refine wp_neg (by omega) ?_
  refine wp_up fun M1 f1 g1 => ?_
  rw [g1 13, if_neg (by decide), c2, e40, e43, al162, tn_n, g1 18, if_neg (by decide), r4]
  refine wp_inb ⟨by omega, by omega⟩ ?_
  refine wp_up fun M2 f2 g2 => ?_
  have F12 : ∀ j, j ≠ 24 → M2 157 j = M 157 j := fun j hj => by rw [f2 157 (by simp), g1, if_neg hj]
  have D2 : M2 157 24 = 0 := by rw [f2 157 (by simp), g1, if_pos rfl]
  have o2 : oF M M2 := ⟨fun k a b c => by rw [f2 k (by simpa using b), f1 k (by simpa using a)], fun j a => F12 j (by omega)⟩
  have s2 : rS 0 b n ts M2 := ⟨p, (F12 17 (by decide)).trans r1, r2, r3, (F12 18 (by decide)).trans r4, (F12 19 (by decide)).trans r5, fun h => (F12 20 (by decide)).trans (r6 h)⟩
  have m2 : mDe C M2 := by
    unfold mDe at c1 ⊢
    rw [F12 14 (by decide), f2 163 (by simp), f1 163 (by simp)]
    exact c1
  refine wp_bV (m_next_S (d + 30) (by decide) (rB_oF hB o2) s2) ?_
  rintro M3 ⟨q3, s3⟩
  have o3 := oF_tt o2 (nF_o (fq_nF q3))
  have m3 := mDe_fq m2 q3
  have l3 : M3 157 13 = ((L.length : Nat) : Int) := by rw [q3.2 13 (by decide) (by decide) (by decide) (by decide), F12 13 (by decide), c2]
  have D3 : M3 157 24 = 0 := by rw [q3.2 24 (by decide) (by decide) (by decide) (by decide), D2]
  have g23 : ∀ i, M3 162 i = if i = 4 * L.length + 3 then 20 + (hdK ts - 256) else M 162 i := fun i => by
    rw [q3.1 162 (by decide), g2, f1 162 (by simp)]
    by_cases e : i = 4 * L.length + 3
    · rw [if_pos e, if_pos e]; omega
    · rw [if_neg e, if_neg e]
  rw [l3, e40, tn_n, m3.1]
  refine wp_inb ⟨by omega, by omega⟩ ?_
  refine wp_up fun M4 f4 g4 => ?_
  have F4 : M4 157 = M3 157 := f4 157 (by simp)
  have o4 : oF M M4 := oF_tt o3 ⟨fun k a b c => f4 k (by simpa using b), fun j a => by rw [F4]⟩
  have s4 : rS 0 b n ts.tail M4 := by
    obtain ⟨p', t1, t2, t3, t4, t5, t6⟩ := s3
    exact ⟨p', by rw [F4]; exact t1, t2, t3, by rw [F4]; exact t4, by rw [F4]; exact t5, by rw [F4]; exact t6⟩
  have m4 : mDe C M4 := by
    unfold mDe at m3 ⊢
    rw [F4, f4 163 (by simp)]
    exact m3
  have su := m_sum_eq (d + 27) (rB_oF hB o4) s4 ht1 m4 (by omega)
  unfold mSu at su
  unfold pLw
  cases hp : pEx n ts.tail with
  | inl e =>
    rw [hp] at su
    obtain ⟨r, M5, e5, rfl, g5⟩ := su
    refine wp_eI e5 ?_
    refine wp_pos rfl ?_
    exact wp_ret ⟨oF_tt o4 (nF_o g5.1), rfl, g5.2⟩
  | inr q =>
    rw [hp] at su
    obtain ⟨r, M5, e5, rfl, n5, s5, m5, d5⟩ := su
    obtain ⟨i1, i2, i3⟩ := pEx_in (tsOK_V ht1) hp
    have hql := cEnc_len q.1
    have tq := tsOK_s ht1 i1
    have o5 := oF_tt o4 (nF_o n5)
    have l5 : M5 157 13 = ((L.length : Nat) : Int) := by rw [n5.2 13 (by omega), F4, l3]
    have D5 : M5 157 24 = 0 := by rw [d5, F4, D3]
    refine wp_eI e5 ?_
    refine wp_neg (by decide) ?_
    rw [l5, e40, e41, tn_n, m5.1]
    refine wp_inb ⟨by omega, by omega⟩ ?_
    refine wp_up fun M6 f6 g6 => ?_
    have F6 : M6 157 = M5 157 := f6 157 (by simp)
    have o6 : oF M M6 := oF_tt o5 ⟨fun k a b c => f6 k (by simpa using b), fun j a => by rw [F6]⟩
    have s6 : rS 0 b n q.2 M6 := by
      obtain ⟨p', t1, t2, t3, t4, t5, t6⟩ := s5
      exact ⟨p', by rw [F6]; exact t1, t2, t3, by rw [F6]; exact t4, by rw [F6]; exact t5, by rw [F6]; exact t6⟩
    have m6 : mDe (C ++ q.1) M6 := by
      unfold mDe at m5 ⊢
      rw [F6, f6 163 (by simp)]
      exact m5
    have g46 : ∀ i, M6 162 i = if i = 4 * L.length + 1 then (((C ++ q.1).length : Nat) : Int) else if i = 4 * L.length then ((C.length : Nat) : Int) else if i = 4 * L.length + 3 then 20 + (hdK ts - 256) else M 162 i := fun i => by
      rw [g6, n5.1 162 (by decide) (by decide), g4, g23]
    obtain ⟨p', t1, t2, t3, t4, t5, t6⟩ := id s6
    have hc6 := cr_0 (tsOK_K tq)
    have xq : sfx ts q.2 := sfx_tr (sfx_t _) i1
    rw [t4]
    (try dsimp only)
    refine wp_if (fun h9 => ?_) (fun h9 => ?_)
    · have h259 : hdK q.2 = 259 := by omega
      rw [if_pos h259]
      have l6 := tail_len (ts := q.2) (by omega)
      refine wp_bV (m_next_S (d + 30) (by decide) (rB_oF hB o6) s6) ?_
      rintro M7 ⟨q7, s7⟩
      have o7 := oF_tt o6 (nF_o (fq_nF q7))
      have co := m_cond_eq (d + 40) (by omega) (rB_oF hB o7) s7 (tsOK_t tq) (mDe_fq m6 q7) (by rw [q7.2 24 (by decide) (by decide) (by decide) (by decide), F6, D5]) (by rw [List.length_append]; omega)
      obtain ⟨r, M8, e8, n8, hr⟩ := co
      have o8 := oF_tt o7 (nF_o n8)
      revert hr
      rcases pCo n q.2.tail with e | r'
      · rintro ⟨rfl, a1, a2⟩
        refine wp_eI e8 ?_
        refine wp_pos rfl ?_
        exact wp_ret ⟨o8, rfl, a1, a2⟩
      · rintro ⟨rfl, s8, m8, x8, b8⟩
        have l8 : M8 157 13 = ((L.length : Nat) : Int) := by rw [n8.2 13 (by omega), q7.2 13 (by decide) (by decide) (by decide) (by decide), F6, l5]
        refine wp_eI e8 ?_
        refine wp_neg (by decide) ?_
        rw [l8, e40, e42, tn_n, m8.1]
        refine wp_inb ⟨by omega, by omega⟩ ?_
        refine wp_up fun M9 f9 g9 => ?_
        have F9 : M9 157 = M8 157 := f9 157 (by simp)
        have o9 : oF M M9 := oF_tt o8 ⟨fun k a b c => f9 k (by simpa using b), fun j a => by rw [F9]⟩
        have s9 : rS 0 b n r'.2 M9 := by
          obtain ⟨p', t1, t2, t3, t4, t5, t6⟩ := s8
          exact ⟨p', by rw [F9]; exact t1, t2, t3, by rw [F9]; exact t4, by rw [F9]; exact t5, by rw [F9]; exact t6⟩
        have m9 : mDe (C ++ q.1 ++ r'.1) M9 := by
          unfold mDe at m8 ⊢
          rw [F9, f9 163 (by simp)]
          exact m8
        refine m_law_end (d + 29) (rB_oF hB o9) s9 (tsOK_s (tsOK_t tq) x8) (sfx_tr (sfx_tr xq (sfx_t _)) x8) o9 (by rw [F9, l8, c2]) m9 c4 c1 (fun i => ?_) (by simp only [List.length_append]; omega)
        rw [g9, n8.1 162 (by decide) (by decide), q7.1 162 (by decide), g46]
    · rw [if_neg (by omega)]
      have l6 : M6 157 13 = ((L.length : Nat) : Int) := by rw [F6, l5]
      rw [l6, e40, e42, tn_n, m6.1]
      refine wp_inb ⟨by omega, by omega⟩ ?_
      refine wp_up fun M9 f9 g9 => ?_
      have F9 : M9 157 = M6 157 := f9 157 (by simp)
      have o9 : oF M M9 := oF_tt o6 ⟨fun k a b c => f9 k (by simpa using b), fun j a => by rw [F9]⟩
      have s9 : rS 0 b n q.2 M9 := ⟨p', by rw [F9]; exact t1, t2, t3, by rw [F9]; exact t4, by rw [F9]; exact t5, by rw [F9]; exact t6⟩
      have m9 : mDe (C ++ q.1 ++ []) M9 := by
        rw [List.append_nil]
        unfold mDe at m6 ⊢
        rw [F9, f9 163 (by simp)]
        exact m6
      refine m_law_end (d + 29) (rB_oF hB o9) s9 tq xq o9 (by rw [F9, l6, c2]) m9 c4 c1 (fun i => ?_) (by simp only [List.length_append, List.length_nil]; omega)
      rw [g9, g46, List.append_nil]
theorem m_law12_lp (d : Nat) {b : Nat → Int} {n : Nat} : ∀ (f : Nat) (L : aLaw) (C : aCd) (ts : List aTk) (M : aM), L.length + f = 17 → L.length ≤ 16 → rB 0 b n M → rS 0 b n ts M → tsOK 0 ts → mLw L C M → C.length + ts.length ≤ 408 →
    wp (w_m_readsLaw_12 (d + 41) 1 M) fun r M' => oF M M' ∧ match pLs n f L ts with
      | .inl e => r = [aI 0] ∧ M' 157 21 = e.1 ∧ M' 157 22 = e.2
      | .inr L' => r = [aI 1] ∧ ∃ C', mLw L' C' M' := by
  intro f
  induction f with
  | zero => intro L C ts M h hl; omega
  | succ f ih =>
    intro L C ts M h hl hB hS hts hL hb
    obtain ⟨p, r1, r2, r3, r4, r5, r6⟩ := id hS
    have hc := cr_0 (tsOK_K hts)
    rw [l_m_readsLaw_12]
    refine wp_neg (by decide) ?_
    rw [r4]
    unfold pLs
    refine wp_if (fun h0 => ?_) (fun h0 => ?_)
    · rw [if_pos (by omega)]
      exact wp_ret ⟨oF_refl M, rfl, C, hL⟩
    rw [if_neg (show ¬ hdK ts = 0 by omega)]
    have flt : ∀ (M1 : aM) (e : Int × Int), oF M M1 → M1 157 21 = e.1 → M1 157 22 = e.2 → wp (aLet (aUp M1 157 13 (w32 ((M1 157 13) + 0))) fun M15 => w_m_readsLaw_12 (d + 41) 0 M15) fun r M' => oF M M' ∧ (r = [aI 0] ∧ M' 157 21 = e.1 ∧ M' 157 22 = e.2) := by
      intro M1 e o1 a1 a2
      refine wp_up fun M2 f2 g2 => ?_
      rw [l_m_readsLaw_12]
      refine wp_pos rfl ?_
      exact wp_ret ⟨oF_tt o1 ⟨fun k a _ _ => f2 k (by simpa using a), fun j a => by rw [g2, if_neg (by omega)]⟩, rfl, by rw [g2, if_neg (by decide), a1], by rw [g2, if_neg (by decide), a2]⟩
    have misfit : ∀ x : Int, (w_m_aLine (d + 41) M = bndI (w_m_bad (d + 40) x M) fun y M' => aBool y <| some ([aI y], M')) → wp (bndI (w_m_aLine (d + 41) M) fun y14 M13 =>
        if y14 = 0 then
          aLet (aUp M13 157 13 (w32 ((M13 157 13) + 0))) fun M15 =>
          w_m_readsLaw_12 (d + 41) y14 M15
        else
          aLet (aUp M13 157 13 (w32 ((M13 157 13) + 1))) fun M16 =>
          w_m_readsLaw_12 (d + 41) y14 M16) fun r M' => oF M M' ∧ (r = [aI 0] ∧ M' 157 21 = x ∧ M' 157 22 = hdP n ts) := by
      intro x hx
      obtain ⟨r, M1, e1, rfl, g1⟩ := m_bad_eq (d + 39) x M
      rw [r5] at g1
      have g1 := mB_n g1
      refine wp_eI (v := 0) (M := M1) (by rw [hx, show w_m_bad (d + 40) x M = _ from e1]; rfl) ?_
      refine wp_pos rfl ?_
      exact flt M1 (x, hdP n ts) (nF_o g1.1) g1.2.1 g1.2.2
    by_cases hk : 256 ≤ hdK ts ∧ hdK ts ≤ 258
    rotate_left
    · rw [if_pos hk]
      refine misfit 1 ?_
      rw [u_m_aLine, r4, m_isIn_eq, bndI_s, decide_eq_false (by omega), bI_f, if_pos rfl]
    rw [if_neg (show ¬ ¬ (256 ≤ hdK ts ∧ hdK ts ≤ 258) from fun e => e hk)]
    by_cases h16 : L.length = 16
    · rw [if_pos h16]
      refine misfit 3 ?_
      rw [u_m_aLine, r4, m_isIn_eq, bndI_s, decide_eq_true (by omega), bI_t, if_neg (by decide), hL.2.1, if_pos (by omega)]
    rw [if_neg h16]
    obtain ⟨r, M1, e1, o1, hr⟩ := m_aLine_eq d hB hS hts hk hL (by omega) hb
    revert hr
    rcases pLw n ts with e | q
    · rintro ⟨rfl, a1, a2⟩
      refine wp_eI e1 ?_
      refine wp_pos rfl ?_
      exact flt M1 e o1 a1 a2
    · rintro ⟨rfl, s1, x1, l1, C', m1, k1, b1⟩
      refine wp_eI e1 ?_
      refine wp_neg (by decide) ?_
      rw [l1, hL.2.1, w32_i (by omega) (by omega)]
      refine wp_up fun M2 f2 g2 => ?_
      have F : ∀ j, j ≠ 13 → M2 157 j = M1 157 j := fun j hj => by rw [g2, if_neg hj]
      have o2 : oF M M2 := oF_tt o1 ⟨fun k a _ _ => f2 k (by simpa using a), fun j a => F j (by omega)⟩
      have s2 : rS 0 b n q.2 M2 := by
        obtain ⟨p', t1, t2, t3, t4, t5, t6⟩ := s1
        exact ⟨p', (F 17 (by decide)).trans t1, t2, t3, (F 18 (by decide)).trans t4, (F 19 (by decide)).trans t5, fun h => (F 20 (by decide)).trans (t6 h)⟩
      have L2 : mLw (L ++ [q.1]) C' M2 := by
        refine ⟨?_, by rw [g2, if_pos rfl]; simp, by simp; omega, ?_⟩
        · unfold mDe at m1 ⊢
          rw [F 14 (by decide), f2 163 (by simp)]
          exact m1
        · rw [f2 162 (by simp), f2 163 (by simp)]
          exact k1
      refine wp_mono (ih (L ++ [q.1]) C' q.2 M2 (by simp; omega) (by simp; omega) (rB_oF hB o2) s2 (tsOK_s hts x1) L2 b1) ?_
      rintro r M' ⟨q1, q2⟩
      exact ⟨oF_tt o2 q1, q2⟩
theorem m_readsLaw_eq (d : Nat) {b : Nat → Int} {n : Nat} {ts : List aTk} {M : aM} (hB : rB 0 b n M) (hS : rS 0 b n ts M) (hts : tsOK 0 ts) (hb : ts.length ≤ 408) :
    wp (w_m_readsLaw (d + 42) M) fun r M' => oF M M' ∧ match pLs n 17 [] ts with
      | .inl e => r = [aI 0] ∧ M' 157 21 = e.1 ∧ M' 157 22 = e.2
      | .inr L' => r = [aI 1] ∧ ∃ C', mLw L' C' M' := by
  rw [l_m_readsLaw]
  refine wp_up fun M1 f1 g1 => ?_
  refine wp_up fun M2 f2 g2 => ?_
  have F : ∀ j, j ≠ 13 → j ≠ 14 → M2 157 j = M 157 j := fun j h1 h2 => by rw [g2, if_neg h2, g1, if_neg h1]
  have o2 : oF M M2 := ⟨fun k a _ _ => by rw [f2 k (by simpa using a), f1 k (by simpa using a)], fun j a => F j (by omega) (by omega)⟩
  have s2 : rS 0 b n ts M2 := by
    obtain ⟨p', t1, t2, t3, t4, t5, t6⟩ := hS
    exact ⟨p', (F 17 (by decide) (by decide)).trans t1, t2, t3, (F 18 (by decide) (by decide)).trans t4, (F 19 (by decide) (by decide)).trans t5, fun h => (F 20 (by decide) (by decide)).trans (t6 h)⟩
  refine wp_mono (m_law12_lp d 17 [] [] ts M2 rfl (by decide) (rB_oF hB o2) s2 hts ⟨⟨by rw [g2, if_pos rfl]; rfl, by decide, trivial⟩, by rw [g2, if_neg (by decide), g1, if_pos rfl]; rfl, by decide, trivial⟩ (by simp only [List.length_nil]; omega)) ?_
  rintro r M' ⟨q1, q2⟩
  exact ⟨oF_tt o2 q1, q2⟩
