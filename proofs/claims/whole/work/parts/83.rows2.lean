/-! text: plans, dues, feasts in the reference -/
def vK (k : Nat) (t : Int) : Prop := t = 0 ∨ t = 1 ∨ t = 2 ∨ (256 ≤ t ∧ t < 256 + ((wsk k).length : Nat)) ∨ (40 ≤ t ∧ t ≤ 62)
theorem ws_len : (wsk 0).length = 17 ∧ (wsk 1).length = 6 ∧ (wsk 2).length = 3 ∧ (wsk 3).length = 2 := by decide +kernel
theorem cr_at {k : Nat} {t : Int} (h : vK k t) : (t = 0 ∧ cr k t = 0) ∨ (t = 1 ∧ cr k t = 2) ∨ (t = 2 ∧ cr k t = 1) ∨ (40 ≤ t ∧ t ≤ 62 ∧ cr k t = 100 + t) ∨ (256 ≤ t ∧ t < 256 + ((wsk k).length : Nat) ∧ cr k t = kw k (t - 256)) := by
  rcases h with h | h | h | h | h
  · subst h; exact Or.inl ⟨rfl, rfl⟩
  · subst h; exact Or.inr (Or.inl ⟨rfl, rfl⟩)
  · subst h; exact Or.inr (Or.inr (Or.inl ⟨rfl, rfl⟩))
  · refine Or.inr (Or.inr (Or.inr (Or.inr ⟨h.1, h.2, ?_⟩)))
    unfold cr
    rw [if_neg (by omega), if_neg (by omega), if_neg (by omega), if_neg (by omega)]
  · refine Or.inr (Or.inr (Or.inr (Or.inl ⟨h.1, h.2, ?_⟩)))
    unfold cr
    rw [if_neg (by omega), if_neg (by omega), if_neg (by omega), if_pos (by omega)]
theorem cr_0 {t : Int} (h : vK 0 t) : (t = 0 ∧ cr (0 : Nat) t = 0) ∨ (t = 1 ∧ cr (0 : Nat) t = 2) ∨ (t = 2 ∧ cr (0 : Nat) t = 1) ∨ (40 ≤ t ∧ t ≤ 62 ∧ cr (0 : Nat) t = 100 + t) ∨ (256 ≤ t ∧ t < 259 ∧ cr (0 : Nat) t = t - 236) ∨ (259 ≤ t ∧ t < 263 ∧ cr (0 : Nat) t = t - 256) ∨ (263 ≤ t ∧ t < 273 ∧ cr (0 : Nat) t = t - 222) := by
  rcases cr_at h with h | h | h | h | ⟨h1, h2, h3⟩
  · exact Or.inl h
  · exact Or.inr (Or.inl h)
  · exact Or.inr (Or.inr (Or.inl h))
  · exact Or.inr (Or.inr (Or.inr (Or.inl h)))
  · rw [ws_len.1] at h2
    rw [h3]
    unfold kw
    rw [if_pos (by decide)]
    by_cases c1 : t - 256 < 3
    · rw [if_pos c1]; omega
    · rw [if_neg c1]
      by_cases c2 : t - 256 < 7
      · rw [if_pos c2]; omega
      · rw [if_neg c2]; omega
theorem cr_1 {t : Int} (h : vK 1 t) : (t = 0 ∧ cr (1 : Nat) t = 0) ∨ (t = 1 ∧ cr (1 : Nat) t = 2) ∨ (t = 2 ∧ cr (1 : Nat) t = 1) ∨ (40 ≤ t ∧ t ≤ 62 ∧ cr (1 : Nat) t = 100 + t) ∨ (256 ≤ t ∧ t < 262 ∧ cr (1 : Nat) t = t - 249) := by
  rcases cr_at h with h | h | h | h | ⟨h1, h2, h3⟩
  · exact Or.inl h
  · exact Or.inr (Or.inl h)
  · exact Or.inr (Or.inr (Or.inl h))
  · exact Or.inr (Or.inr (Or.inr (Or.inl h)))
  · rw [ws_len.2.1] at h2
    rw [h3]
    unfold kw
    rw [if_neg (by decide), if_pos (by decide)]
    omega
theorem cr_2 {t : Int} (h : vK 2 t) : (t = 0 ∧ cr (2 : Nat) t = 0) ∨ (t = 1 ∧ cr (2 : Nat) t = 2) ∨ (t = 2 ∧ cr (2 : Nat) t = 1) ∨ (40 ≤ t ∧ t ≤ 62 ∧ cr (2 : Nat) t = 100 + t) ∨ (t = 256 ∧ cr (2 : Nat) t = 13) ∨ (t = 257 ∧ cr (2 : Nat) t = 7) ∨ (t = 258 ∧ cr (2 : Nat) t = 14) := by
  rcases cr_at h with h | h | h | h | ⟨h1, h2, h3⟩
  · exact Or.inl h
  · exact Or.inr (Or.inl h)
  · exact Or.inr (Or.inr (Or.inl h))
  · exact Or.inr (Or.inr (Or.inr (Or.inl h)))
  · rw [ws_len.2.2.1] at h2
    rw [h3]
    unfold kw
    rw [if_neg (by decide), if_neg (by decide), if_pos (by decide)]
    by_cases c1 : t - 256 = 0
    · rw [if_pos c1]; omega
    · rw [if_neg c1]
      by_cases c2 : t - 256 = 1
      · rw [if_pos c2]; omega
      · rw [if_neg c2]; omega
theorem cr_3 {t : Int} (h : vK 3 t) : (t = 0 ∧ cr (3 : Nat) t = 0) ∨ (t = 1 ∧ cr (3 : Nat) t = 2) ∨ (t = 2 ∧ cr (3 : Nat) t = 1) ∨ (40 ≤ t ∧ t ≤ 62 ∧ cr (3 : Nat) t = 100 + t) ∨ (t = 256 ∧ cr (3 : Nat) t = 15) ∨ (t = 257 ∧ cr (3 : Nat) t = 16) := by
  rcases cr_at h with h | h | h | h | ⟨h1, h2, h3⟩
  · exact Or.inl h
  · exact Or.inr (Or.inl h)
  · exact Or.inr (Or.inr (Or.inl h))
  · exact Or.inr (Or.inr (Or.inr (Or.inl h)))
  · rw [ws_len.2.2.2] at h2
    rw [h3]
    unfold kw
    rw [if_neg (by decide), if_neg (by decide), if_neg (by decide)]
    omega
/-- what holds of the tokens of a text, whichever: a number, the end, a sign -/
theorem cr_k {k : Nat} (hk : k < 4) {t : Int} (h : vK k t) : (cr k t = 2 ↔ t = 1) ∧ (cr k t = 0 ↔ t = 0) ∧ (cr k t = 159 ↔ t = 59) := by
  have hk4 : k = 0 ∨ k = 1 ∨ k = 2 ∨ k = 3 := by omega
  rcases hk4 with rfl | rfl | rfl | rfl
  · have := cr_0 h; omega
  · have := cr_1 h; omega
  · have := cr_2 h; omega
  · have := cr_3 h; omega
def tsOK (k : Nat) (ts : List aTk) : Prop := ∀ t, t ∈ ts → tOK (wsk k).length t
theorem tsOK_K {k : Nat} {ts : List aTk} (h : tsOK k ts) : vK k (hdK ts) := hdK_ok h
theorem tsOK_t {k : Nat} {ts : List aTk} (h : tsOK k ts) : tsOK k ts.tail := fun t ht => h t (List.mem_of_mem_tail ht)
/-- but for what reading sets, the reference stays -/
def mf (M M' : aM) : Prop := (∀ k, k ≠ 157 → k ≠ 164 → M' k = M k) ∧ ∀ j, (j < 17 ∨ 22 < j) → M' 157 j = M 157 j
theorem mf_refl (M : aM) : mf M M := ⟨fun _ _ _ => rfl, fun _ _ => rfl⟩
theorem mf_tt {M M1 M2 : aM} (h1 : mf M M1) (h2 : mf M1 M2) : mf M M2 := ⟨fun k a b => (h2.1 k a b).trans (h1.1 k a b), fun j a => (h2.2 j a).trans (h1.2 j a)⟩
theorem fq_mf {M M' : aM} (h : fq M M') : mf M M' := ⟨fun k a _ => h.1 k a, fun j a => h.2 j (by omega) (by omega) (by omega) (by omega)⟩
theorem rB_mf {k : Nat} {b : Nat → Int} {n : Nat} {M M' : aM} (h : rB k b n M) (f : mf M M') : rB k b n M' := by
  obtain ⟨h1, h2, h3, h4⟩ := h
  exact ⟨(f.2 12 (by omega)).trans h1, (f.2 16 (by omega)).trans h2, h3, fun i hi => by rw [f.1 165 (by decide) (by decide)]; exact h4 i hi⟩
/-- a fault has been found by the reference -/
def mB (e : Int × Int) (M M' : aM) : Prop := mf M M' ∧ M' 164 = M 164 ∧ M' 157 21 = e.1 ∧ M' 157 22 = e.2
theorem m_bad_eq (d : Nat) (f : Int) (M : aM) : wp (w_m_bad (d + 1) f M) fun r M' => r = [aI 0] ∧ mB (f, M 157 19) M M' := by
  rw [l_m_bad]
  refine wp_up fun M1 f1 g1 => ?_
  rw [g1 19, if_neg (by decide)]
  refine wp_up fun M2 f2 g2 => ?_
  refine wp_ret ⟨rfl, ⟨fun k a _ => by rw [f2 k (by simpa using a), f1 k (by simpa using a)], fun j a => by rw [g2, if_neg (by omega), g1, if_neg (by omega)]⟩, by rw [f2 164 (by simp), f1 164 (by simp)], ?_, ?_⟩
  · rw [g2, if_neg (by decide), g1, if_pos rfl]
  · rw [g2, if_pos rfl]
theorem wp_bad (d : Nat) (f : Int) (M : aM) (Q : List aV → aM → Prop) (hQ : ∀ M', mB (f, M 157 19) M M' → Q [aI 0] M') : wp (bndI (w_m_bad (d + 1) f M) fun y M' => aBool y <| some ([aI y], M')) Q := by
  obtain ⟨r, M1, e, rfl, h⟩ := m_bad_eq d f M
  refine wp_eI e ?_
  exact wp_ret (hQ M1 h)
theorem m_need_S (d : Nat) {k : Nat} (hk : k < 4) {b : Nat → Int} {n : Nat} {ts : List aTk} {M : aM} (hB : rB k b n M) (hS : rS k b n ts M) (t t' : Int) (hiff : cr k (hdK ts) = t' ↔ hdK ts = t) : wp (w_m_need (d + 11) t' M) fun r M' => match pTk n t ts with
    | .inl e => r = [aI 0] ∧ mB e M M'
    | .inr ts' => r = [aI 1] ∧ fq M M' ∧ rS k b n ts' M' := by
  obtain ⟨p, h1, h2, h3, h4, h5, h6⟩ := id hS
  unfold pTk
  rw [l_m_need, h4]
  refine wp_if (fun h => ?_) (fun h => ?_)
  · rw [if_pos (hiff.1 h)]
    refine wp_bV (m_next_S d hk hB hS) ?_
    rintro M1 ⟨q1, q2⟩
    exact wp_ret ⟨rfl, q1, q2⟩
  · rw [if_neg fun e => h (hiff.2 e)]
    refine wp_bad _ 1 M _ fun M' g => ⟨rfl, ?_⟩
    rw [h5] at g
    exact g
theorem m_num_S (d : Nat) {k : Nat} (hk : k < 4) {b : Nat → Int} {n : Nat} {ts : List aTk} {M : aM} (hB : rB k b n M) (hS : rS k b n ts M) (hts : tsOK k ts) (pl : Nat) (hpl : pl < 48) (lo hi : Int) : wp (w_m_number (d + 11) pl lo hi M) fun r M' => match pNum n lo hi ts with
    | .inl e => r = [aI 0] ∧ mB e M M'
    | .inr q => r = [aI 1] ∧ mf M M' ∧ rS k b n q.2 M' ∧ ∀ i, M' 164 i = if i = pl then q.1 else M 164 i := by
  obtain ⟨p, h1, h2, h3, h4, h5, h6⟩ := id hS
  have hc := (cr_k hk (tsOK_K hts)).1
  unfold pNum
  rw [l_m_number, h4]
  refine wp_if (fun h => ?_) (fun h => ?_)
  · have hK := hc.1 h
    rw [if_pos hK, h6 hK]
    refine wp_eI (m_isIn_eq _ _ _ _ _) ?_
    refine wp_bif (fun hb => ?_) (fun hb => ?_)
    · rw [if_neg (of_decide_eq_false hb)]
      refine wp_bad _ 2 M _ fun M' g => ⟨rfl, ?_⟩
      rw [h5] at g
      exact g
    · rw [if_pos (of_decide_eq_true hb), al164]
      refine wp_inb ⟨by omega, by omega⟩ ?_
      rw [tn_n]
      refine wp_up fun M1 f1 g1 => ?_
      have F : ∀ j, M1 157 j = M 157 j := fun j => by rw [f1 157 (by simp)]
      have hB1 : rB k b n M1 := ⟨(F 12).trans hB.1, (F 16).trans hB.2.1, hB.2.2.1, fun i hi => by rw [f1 165 (by simp)]; exact hB.2.2.2 i hi⟩
      have hS1 : rS k b n ts M1 := ⟨p, by rw [F, h1], h2, h3, by rw [F, h4], by rw [F, h5], by rw [F]; exact h6⟩
      refine wp_bV (m_next_S d hk hB1 hS1) ?_
      rintro M2 ⟨q1, q2⟩
      refine wp_ret ⟨rfl, ⟨fun x a c => by rw [q1.1 x a, f1 x (by simpa using c)], fun j a => by rw [q1.2 j (by omega) (by omega) (by omega) (by omega), F]⟩, q2, fun i => ?_⟩
      rw [q1.1 164 (by decide), g1, h6 hK]
  · rw [if_neg fun e => h (hc.2 e)]
    refine wp_bad _ 1 M _ fun M' g => ⟨rfl, ?_⟩
    rw [h5] at g
    exact g
theorem mB_tr {e : Int × Int} {M M1 M' : aM} (h : mf M M1) (g : mB e M1 M') : mf M M' ∧ M' 157 21 = e.1 ∧ M' 157 22 = e.2 := ⟨mf_tt h g.1, g.2.2⟩
/-- what a line comes to in the reference: its row of cells from x on -/
def lM (k : Nat) (b : Nat → Int) (n x : Nat) (p : aRes (aRow3 × List aTk)) (M : aM) (r : List aV) (M' : aM) : Prop := mf M M' ∧ match p with
  | .inl e => r = [aI 0] ∧ M' 157 21 = e.1 ∧ M' 157 22 = e.2
  | .inr q => r = [aI 1] ∧ rS k b n q.2 M' ∧ M' 164 x = q.1.1 ∧ M' 164 (x + 1) = (if k = 1 then q.1.2.1 + 7 else q.1.2.1) ∧ (k ≠ 3 → M' 164 (x + 2) = q.1.2.2) ∧ ∀ i, i < x → M' 164 i = M 164 i
theorem m_told_S (d : Nat) {k : Nat} (hk : k < 4) {b : Nat → Int} {n : Nat} {ts : List aTk} {M : aM} (hB : rB k b n M) (hS : rS k b n ts M) (hts : tsOK k ts) (t t' : Int) (hiff : cr k (hdK ts) = t' ↔ hdK ts = t) (pl : Nat) (hpl : pl < 48) (lo hi : Int) : wp (w_m_told (d + 12) pl t' lo hi M) fun r M' => match pTk n t ts with
    | .inl e => r = [aI 0] ∧ mf M M' ∧ M' 157 21 = e.1 ∧ M' 157 22 = e.2
    | .inr ts' => match pNum n lo hi ts' with
      | .inl e => r = [aI 0] ∧ mf M M' ∧ M' 157 21 = e.1 ∧ M' 157 22 = e.2
      | .inr q => r = [aI 1] ∧ mf M M' ∧ rS k b n q.2 M' ∧ ∀ i, M' 164 i = if i = pl then q.1 else M 164 i := by
  have nd := m_need_S d hk hB hS t t' hiff
  rw [l_m_told]
  cases hp : pTk n t ts with
  | inl e =>
    rw [hp] at nd
    obtain ⟨r, M1, e1, rfl, g1⟩ := nd
    refine wp_eI e1 ?_
    refine wp_pos rfl ?_
    exact wp_ret ⟨rfl, g1.1, g1.2.2⟩
  | inr ts' =>
    rw [hp] at nd
    obtain ⟨r, M1, e1, rfl, g1, s1⟩ := nd
    have ht : ts' = ts.tail := by
      unfold pTk at hp
      split at hp
      · cases hp; rfl
      · cases hp
    refine wp_eI e1 ?_
    refine wp_neg (by decide) ?_
    have nm := m_num_S d hk (rB_fq hB g1) s1 (by rw [ht]; exact tsOK_t hts) pl hpl lo hi
    dsimp only
    cases hp2 : pNum n lo hi ts' with
    | inl e =>
      rw [hp2] at nm
      obtain ⟨r, M2, e2, rfl, g2⟩ := nm
      refine wp_eI e2 ?_
      refine wp_pos rfl ?_
      exact wp_ret ⟨rfl, mB_tr (fq_mf g1) g2⟩
    | inr q =>
      rw [hp2] at nm
      obtain ⟨r, M2, e2, rfl, g2, s2, u2⟩ := nm
      refine wp_eI e2 ?_
      refine wp_neg (by decide) ?_
      exact wp_ret ⟨rfl, mf_tt (fq_mf g1) g2, s2, fun i => by rw [u2, g1.1 164 (by decide)]⟩
theorem pNum_t {n : Nat} {lo hi : Int} {ts : List aTk} {q : Int × List aTk} (h : pNum n lo hi ts = .inr q) : q.2 = ts.tail := by
  unfold pNum at h
  split at h
  · split at h
    · cases h; rfl
    · cases h
  · cases h
theorem pTk_t {n : Nat} {t : Int} {ts ts' : List aTk} (h : pTk n t ts = .inr ts') : ts' = ts.tail := by
  unfold pTk at h
  split at h
  · cases h; rfl
  · cases h
/-- the end of a line -/
theorem m_lineEnd (d : Nat) {k : Nat} (hk : k < 4) {b : Nat → Int} {n x : Nat} {ts : List aTk} {M M1 : aM} (a c e : Int) (hB : rB k b n M1) (hS : rS k b n ts M1) (hts : tsOK k ts) (hf : mf M M1) (h0 : M1 164 x = a) (h1 : M1 164 (x + 1) = (if k = 1 then c + 7 else c)) (h2 : k ≠ 3 → M1 164 (x + 2) = e) (h3 : ∀ i, i < x → M1 164 i = M 164 i) (K : aM → aR) (hK : K M1 = bndI (w_m_need (d + 11) 159 M1) fun y M' => if y = 0 then some ([aI 0], M') else some ([aI 1], M')) : wp (K M1) (lM k b n x (tEnd n (a, c, e) ts) M) := by
  rw [hK]
  have nd := m_need_S d hk hB hS 59 159 (cr_k hk (tsOK_K hts)).2.2
  unfold tEnd
  cases hp : pTk n 59 ts with
  | inl er =>
    rw [hp] at nd
    obtain ⟨r, M2, e1, rfl, g1⟩ := nd
    refine wp_eI e1 ?_
    refine wp_pos rfl ?_
    have := mB_tr hf g1
    exact wp_ret ⟨this.1, rfl, this.2⟩
  | inr ts' =>
    rw [hp] at nd
    obtain ⟨r, M2, e1, rfl, g1, s1⟩ := nd
    refine wp_eI e1 ?_
    refine wp_neg (by decide) ?_
    have G : M2 164 = M1 164 := g1.1 164 (by decide)
    exact wp_ret ⟨mf_tt hf (fq_mf g1), rfl, s1, by rw [G]; exact h0, by rw [G]; exact h1, fun h => by rw [G]; exact h2 h, fun i hi => by rw [G]; exact h3 i hi⟩
theorem m_feast_eq (d : Nat) {b : Nat → Int} {n l : Nat} {ts : List aTk} {M : aM} (hB : rB 3 b n M) (hS : rS 3 b n ts M) (hts : tsOK 3 ts) (hk : hdK ts = 256) (hl : M 157 15 = l) (hl8 : l < 8) : wp (bndI (w_m_aFeast (d + 13) M) fun y20 M20 => if y20 = 0 then some ([aI 0], M20) else bndI (w_m_need (d + 13) 159 M20) fun y M' => if y = 0 then some ([aI 0], M') else some ([aI 1], M')) (lM 3 b n (2 * l) (tFeast n ts) M) := by
  have v0 := cr_3 (tsOK_K hts)
  have t0 := m_told_S d (by decide) hB hS hts 256 15 (by omega) (2 * l) (by omega) 0 30
  rw [show pTk n 256 ts = .inr ts.tail from if_pos hk] at t0
  unfold tFeast
  rw [l_m_aFeast, hl, show w32 (2 * (l : Int)) = ((2 * l : Nat) : Int) by rw [w32_i (by omega) (by omega)]; omega]
  dsimp only at t0
  cases hp : pNum n 0 30 ts.tail with
  | inl e =>
    rw [hp] at t0
    obtain ⟨r, M1, e1, rfl, g1, g2⟩ := t0
    rw [e1, bndI_s, if_pos rfl, bndI_s]
    exact wp_pos rfl (wp_ret ⟨g1, rfl, g2⟩)
  | inr q =>
    rw [hp] at t0
    obtain ⟨r, M1, e1, rfl, g1, s1, u1⟩ := t0
    have hq := tsOK_t hts
    have hq2 : tsOK 3 q.2 := by rw [pNum_t hp]; exact tsOK_t hq
    have v1 := cr_3 (tsOK_K hq2)
    have t1 := m_told_S d (by decide) (rB_mf hB g1) s1 hq2 257 16 (by omega) (2 * l + 1) (by omega) 0 9
    rw [e1, bndI_s, if_neg (by decide), g1.2 15 (by omega), hl, show w32 (2 * (l : Int)) = ((2 * l : Nat) : Int) by rw [w32_i (by omega) (by omega)]; omega, show w32 (((2 * l : Nat) : Int) + 1) = ((2 * l + 1 : Nat) : Int) by rw [w32_i (by omega) (by omega)]; omega]
    dsimp only
    cases hp1 : pTk n 257 q.2 with
    | inl e =>
      rw [hp1] at t1
      obtain ⟨r, M2, e2, rfl, g2, g3⟩ := t1
      rw [e2, bndI_s, if_pos rfl, bndI_s]
      exact wp_pos rfl (wp_ret ⟨mf_tt g1 g2, rfl, g3⟩)
    | inr t =>
      rw [hp1] at t1
      dsimp only at t1 ⊢
      cases hp2 : pNum n 0 9 t with
      | inl e =>
        rw [hp2] at t1
        obtain ⟨r, M2, e2, rfl, g2, g3⟩ := t1
        rw [e2, bndI_s, if_pos rfl, bndI_s]
        exact wp_pos rfl (wp_ret ⟨mf_tt g1 g2, rfl, g3⟩)
      | inr v =>
        rw [hp2] at t1
        obtain ⟨r, M2, e2, rfl, g2, s2, u2⟩ := t1
        rw [e2, bndI_s, if_neg (by decide), bndI_s]
        refine wp_neg (by decide) ?_
        have gg := mf_tt g1 g2
        refine m_lineEnd (d + 2) (by decide) q.1 v.1 0 (rB_mf hB gg) s2 (by rw [pNum_t hp2, pTk_t hp1]; exact tsOK_t (tsOK_t hq2)) gg ?_ ?_ (fun h => absurd rfl h) (fun i hi => ?_) (fun M20 => bndI (w_m_need (d + 13) 159 M20) fun y M' => if y = 0 then some ([aI 0], M') else some ([aI 1], M')) rfl
        · rw [u2, if_neg (by omega), u1, if_pos rfl]
        · rw [u2, if_pos rfl, if_neg (by decide)]
        · rw [u2, if_neg (by omega), u1, if_neg (by omega)]
theorem m_due_eq (d : Nat) (dn : Int) (hdn : 0 ≤ dn ∧ dn ≤ 10) {b : Nat → Int} {n l : Nat} {ts : List aTk} {M : aM} (hB : rB 2 b n M) (hS : rS 2 b n ts M) (hts : tsOK 2 ts) (hk : hdK ts = 256) (hd : M 158 41 = dn) (hl : M 157 15 = l) (hl8 : l < 16) : wp (bndI (w_m_aDue (d + 13) M) fun y20 M20 => if y20 = 0 then some ([aI 0], M20) else bndI (w_m_need (d + 13) 159 M20) fun y M' => if y = 0 then some ([aI 0], M') else some ([aI 1], M')) (lM 2 b n (3 * l) (tDue n dn ts) M) := by
  have v0 := cr_2 (tsOK_K hts)
  have t0 := m_told_S d (by decide) hB hS hts 256 13 (by omega) (3 * l) (by omega) 1 999
  rw [show pTk n 256 ts = .inr ts.tail from if_pos hk] at t0
  unfold tDue
  have e31 : w32 (((3 * l : Nat) : Int) + 1) = ((3 * l + 1 : Nat) : Int) := by rw [w32_i (by omega) (by omega)]; omega
  have e32 : w32 (((3 * l : Nat) : Int) + 2) = ((3 * l + 2 : Nat) : Int) := by rw [w32_i (by omega) (by omega)]; omega
  rw [l_m_aDue, hl, show w32 (3 * (l : Int)) = ((3 * l : Nat) : Int) by rw [w32_i (by omega) (by omega)]; omega, show ∀ f : Int → aR, iLet ((3 * l : Nat) : Int) f = f ((3 * l : Nat) : Int) from fun _ => rfl, e31, e32]
  dsimp only at t0
  cases hp : pNum n 1 999 ts.tail with
  | inl e =>
    rw [hp] at t0
    obtain ⟨r, M1, e1, rfl, g1, g2⟩ := t0
    rw [e1, bndI_s, if_pos rfl, bndI_s]
    exact wp_pos rfl (wp_ret ⟨g1, rfl, g2⟩)
  | inr q =>
    rw [hp] at t0
    obtain ⟨r, M1, e1, rfl, g1, s1, u1⟩ := t0
    have hq := tsOK_t hts
    have hq2 : tsOK 2 q.2 := by rw [pNum_t hp]; exact tsOK_t hq
    have v1 := cr_2 (tsOK_K hq2)
    have t1 := m_told_S d (by decide) (rB_mf hB g1) s1 hq2 257 7 (by omega) (3 * l + 1) (by omega) 0 (dn - 1)
    rw [e1, bndI_s, if_neg (by decide), g1.1 158 (by decide) (by decide), hd, al158, inb_s (by omega) (by omega), w32_i (x := dn - 1) (by omega) (by omega)]
    dsimp only
    cases hp1 : pTk n 257 q.2 with
    | inl e =>
      rw [hp1] at t1
      obtain ⟨r, M2, e2, rfl, g2, g3⟩ := t1
      rw [e2, bndI_s, if_pos rfl, bndI_s]
      exact wp_pos rfl (wp_ret ⟨mf_tt g1 g2, rfl, g3⟩)
    | inr t =>
      rw [hp1] at t1
      dsimp only at t1 ⊢
      cases hp2 : pNum n 0 (dn - 1) t with
      | inl e =>
        rw [hp2] at t1
        obtain ⟨r, M2, e2, rfl, g2, g3⟩ := t1
        rw [e2, bndI_s, if_pos rfl, bndI_s]
        exact wp_pos rfl (wp_ret ⟨mf_tt g1 g2, rfl, g3⟩)
      | inr v =>
        rw [hp2] at t1
        obtain ⟨r, M2, e2, rfl, g2, s2, u2⟩ := t1
        rw [e2, bndI_s, if_neg (by decide), al164, inb_s (by omega) (by omega), tn_n]
        have gg := mf_tt g1 g2
        have hq4 : tsOK 2 v.2 := by rw [pNum_t hp2, pTk_t hp1]; exact tsOK_t (tsOK_t hq2)
        obtain ⟨p, r1, r2, r3, r4, r5, r6⟩ := id s2
        show wp (bndI (if (aUp M2 164 (3 * l + 2) (-1)) 157 18 = 14 then _ else _) _) _
        generalize hM3 : aUp M2 164 (3 * l + 2) (-1) = M3
        have f3 : fr [164] M2 M3 := by rw [← hM3]; exact fr_up _ _ _ _
        have u3 : ∀ i, M3 164 i = if i = 3 * l + 2 then -1 else M2 164 i := fun i => by rw [← hM3]; exact aUp_same _ _ _ _ _
        have F : ∀ j, M3 157 j = M2 157 j := fun j => by rw [f3 157 (by simp)]
        have g3 : mf M M3 := mf_tt gg ⟨fun x _ a => f3 x (by simpa using a), fun j _ => F j⟩
        have s3 : rS 2 b n v.2 M3 := ⟨p, by rw [F, r1], r2, r3, by rw [F, r4], by rw [F, r5], by rw [F]; exact r6⟩
        have v4 := cr_2 (tsOK_K hq4)
        rw [F, r4]
        dsimp only
        by_cases h14 : hdK v.2 = 258
        · rw [if_pos (show cr (2 : Nat) (hdK v.2) = 14 by omega), if_pos h14]
          have t3 := m_told_S d (by decide) (rB_mf hB g3) s3 hq4 258 14 (by omega) (3 * l + 2) (by omega) 0 999
          rw [show pTk n 258 v.2 = .inr v.2.tail from if_pos h14] at t3
          dsimp only at t3
          cases hp5 : pNum n 0 999 v.2.tail with
          | inl e =>
            rw [hp5] at t3
            obtain ⟨r, M4, e4, rfl, g4, g5⟩ := t3
            rw [e4, bndI_s, if_pos rfl, bndI_s]
            exact wp_pos rfl (wp_ret ⟨mf_tt g3 g4, rfl, g5⟩)
          | inr y =>
            rw [hp5] at t3
            obtain ⟨r, M4, e4, rfl, g4, s4, u4⟩ := t3
            rw [e4, bndI_s, if_neg (by decide), bndI_s]
            refine wp_neg (by decide) ?_
            have g44 := mf_tt g3 g4
            refine m_lineEnd (d + 2) (by decide) q.1 v.1 y.1 (rB_mf hB g44) s4 (by rw [pNum_t hp5]; exact tsOK_t (tsOK_t hq4)) g44 ?_ ?_ (fun _ => ?_) (fun i hi => ?_) (fun M20 => bndI (w_m_need (d + 13) 159 M20) fun y M' => if y = 0 then some ([aI 0], M') else some ([aI 1], M')) rfl
            · rw [u4, if_neg (by omega), u3, if_neg (by omega), u2, if_neg (by omega), u1, if_pos rfl]
            · rw [u4, if_neg (by omega), u3, if_neg (by omega), u2, if_pos rfl, if_neg (by decide)]
            · rw [u4, if_pos rfl]
            · rw [u4, if_neg (by omega), u3, if_neg (by omega), u2, if_neg (by omega), u1, if_neg (by omega)]
        · rw [if_neg (show ¬ cr (2 : Nat) (hdK v.2) = 14 by omega), if_neg h14, bndI_s]
          refine wp_neg (by decide) ?_
          refine m_lineEnd (d + 2) (by decide) q.1 v.1 (-1) (rB_mf hB g3) s3 hq4 g3 ?_ ?_ (fun _ => ?_) (fun i hi => ?_) (fun M20 => bndI (w_m_need (d + 13) 159 M20) fun y M' => if y = 0 then some ([aI 0], M') else some ([aI 1], M')) rfl
          · rw [u3, if_neg (by omega), u2, if_neg (by omega), u1, if_pos rfl]
          · rw [u3, if_neg (by omega), u2, if_pos rfl, if_neg (by decide)]
          · rw [u3, if_pos rfl]
          · rw [u3, if_neg (by omega), u2, if_neg (by omega), u1, if_neg (by omega)]
theorem m_plan_eq (d : Nat) (dn : Int) (hdn : 0 ≤ dn ∧ dn ≤ 10) {b : Nat → Int} {n l : Nat} {ts : List aTk} {M : aM} (hB : rB 1 b n M) (hS : rS 1 b n ts M) (hts : tsOK 1 ts) (hk : hdK ts = 256) (hd : M 158 41 = dn) (hl : M 157 15 = l) (hl8 : l < 16) : wp (bndI (w_m_aPlan (d + 13) M) fun y20 M20 => if y20 = 0 then some ([aI 0], M20) else bndI (w_m_need (d + 13) 159 M20) fun y M' => if y = 0 then some ([aI 0], M') else some ([aI 1], M')) (lM 1 b n (3 * l) (tPlan n dn ts) M) := by
  have v0 := cr_1 (tsOK_K hts)
  have t0 := m_told_S d (by decide) hB hS hts 256 7 (by omega) (3 * l) (by omega) 0 999
  rw [show pTk n 256 ts = .inr ts.tail from if_pos hk] at t0
  unfold tPlan
  have e31 : w32 (((3 * l : Nat) : Int) + 1) = ((3 * l + 1 : Nat) : Int) := by rw [w32_i (by omega) (by omega)]; omega
  have e32 : w32 (((3 * l : Nat) : Int) + 2) = ((3 * l + 2 : Nat) : Int) := by rw [w32_i (by omega) (by omega)]; omega
  rw [l_m_aPlan, hl, show w32 (3 * (l : Int)) = ((3 * l : Nat) : Int) by rw [w32_i (by omega) (by omega)]; omega, show ∀ f : Int → aR, iLet ((3 * l : Nat) : Int) f = f ((3 * l : Nat) : Int) from fun _ => rfl, e31, e32, al158, al164]
  dsimp only at t0
  cases hp : pNum n 0 999 ts.tail with
  | inl e =>
    rw [hp] at t0
    obtain ⟨r, M1, e1, rfl, g1, g2⟩ := t0
    rw [e1, bndI_s, if_pos rfl, bndI_s]
    exact wp_pos rfl (wp_ret ⟨g1, rfl, g2⟩)
  | inr q =>
    rw [hp] at t0
    obtain ⟨r, M1, e1, rfl, g1, s1, u1⟩ := t0
    have hq := tsOK_t hts
    have hq2 : tsOK 1 q.2 := by rw [pNum_t hp]; exact tsOK_t hq
    have v1 := cr_1 (tsOK_K hq2)
    obtain ⟨p, r1, r2, r3, r4, r5, r6⟩ := id s1
    rw [e1, bndI_s, if_neg (by decide), r4, m_isIn_eq, bndI_s]
    dsimp only
    by_cases hin : 257 ≤ hdK q.2 ∧ hdK q.2 ≤ 261
    rotate_left
    · rw [if_neg hin, decide_eq_false (by omega), bI_f, if_pos rfl]
      obtain ⟨r, M2, e2, rfl, g2⟩ := m_bad_eq (d + 11) 1 M1
      rw [e2, bndI_s]
      show wp (bndI (some ([aI 0], M2)) _) _
      rw [bndI_s]
      have := mB_tr g1 g2
      rw [r5] at this
      exact wp_pos rfl (wp_ret ⟨this.1, rfl, this.2⟩)
    have hc : cr (1 : Nat) (hdK q.2) = hdK q.2 - 249 := by omega
    rw [if_pos hin, decide_eq_true (by omega), bI_t, if_neg (by decide), show ∀ (x : Int) (f : Int → aR), iLet x f = f x from fun _ _ => rfl, r4, hc, inb_s (by omega) (by omega), tn_n]
    show wp (bndI (inb ((3 * l + 2 : Nat) : Int) 48 (aLet (aUp (aUp M1 164 (3 * l + 1) (hdK q.2 - 249)) 164 (((3 * l + 2 : Nat) : Int)).toNat 0) _)) _) _
    rw [inb_s (by omega) (by omega), tn_n]
    show wp (bndI (bndV (w_m_next0 (d + 12) (aUp (aUp M1 164 (3 * l + 1) (hdK q.2 - 249)) 164 (3 * l + 2) 0)) _) _) _
    generalize hM3 : aUp (aUp M1 164 (3 * l + 1) (hdK q.2 - 249)) 164 (3 * l + 2) 0 = M3
    have f3 : fr [164] M1 M3 := by rw [← hM3]; exact fr_tt (fr_up _ _ _ _) (fr_up _ _ _ _)
    have u3 : ∀ i, M3 164 i = if i = 3 * l + 2 then 0 else if i = 3 * l + 1 then hdK q.2 - 249 else M1 164 i := fun i => by rw [← hM3, aUp_same, aUp_same]
    have F : ∀ j, M3 157 j = M1 157 j := fun j => by rw [f3 157 (by simp)]
    have g3 : mf M M3 := mf_tt g1 ⟨fun x _ a => f3 x (by simpa using a), fun j _ => F j⟩
    have s3 : rS 1 b n q.2 M3 := ⟨p, by rw [F, r1], r2, r3, by rw [F, r4], by rw [F, r5], by rw [F]; exact r6⟩
    obtain ⟨r, M4, e4, rfl, q4, s4⟩ := m_next_S (d + 2) (by decide) (rB_mf hB g3) s3
    rw [show w_m_next0 (d + 12) M3 = _ from e4, bndV_s]
    have g4 := mf_tt g3 (fq_mf q4)
    have u4 : ∀ i, M4 164 i = if i = 3 * l + 2 then 0 else if i = 3 * l + 1 then hdK q.2 - 249 else M1 164 i := fun i => by rw [q4.1 164 (by decide), u3]
    have hq4 : tsOK 1 q.2.tail := tsOK_t hq2
    by_cases h10 : hdK q.2 = 259
    · rw [if_pos (show hdK q.2 - 249 = 10 by omega), if_pos h10, bndI_s]
      refine wp_neg (by decide) ?_
      refine m_lineEnd (d + 2) (by decide) q.1 (hdK q.2 - 256) 0 (rB_mf hB g4) s4 hq4 g4 ?_ ?_ (fun _ => ?_) (fun i hi => ?_) (fun M20 => bndI (w_m_need (d + 13) 159 M20) fun y M' => if y = 0 then some ([aI 0], M') else some ([aI 1], M')) rfl
      · rw [u4, if_neg (by omega), if_neg (by omega), u1, if_pos rfl]
      · rw [u4, if_neg (by omega), if_pos rfl, if_pos rfl]; omega
      · rw [u4, if_pos rfl]
      · rw [u4, if_neg (by omega), if_neg (by omega), u1, if_neg (by omega)]
    rw [if_neg (show ¬ hdK q.2 - 249 = 10 by omega), if_neg h10]
    have num : ∀ hi : Int, wp (bndI (bndI (w_m_number (d + 12) ((3 * l + 2 : Nat) : Int) 0 hi M4) fun y24 M23 => if y24 = 0 then some ([aI 0], M23) else some ([aI 1], M23)) fun y20 M20 => if y20 = 0 then some ([aI 0], M20) else bndI (w_m_need (d + 13) 159 M20) fun y M' => if y = 0 then some ([aI 0], M') else some ([aI 1], M')) (lM 1 b n (3 * l) (match pNum n 0 hi q.2.tail with
        | .inl e => .inl e
        | .inr v => tEnd n (q.1, hdK q.2 - 256, v.1) v.2) M) := by
      intro hi
      have nm := m_num_S (d + 1) (by decide) (rB_mf hB g4) s4 hq4 (3 * l + 2) (by omega) 0 hi
      cases hp3 : pNum n 0 hi q.2.tail with
      | inl e =>
        rw [hp3] at nm
        obtain ⟨r, M5, e5, rfl, g5⟩ := nm
        rw [show w_m_number (d + 12) ((3 * l + 2 : Nat) : Int) 0 hi M4 = _ from e5, bndI_s, if_pos rfl, bndI_s]
        have := mB_tr g4 g5
        exact wp_pos rfl (wp_ret ⟨this.1, rfl, this.2⟩)
      | inr v =>
        rw [hp3] at nm
        obtain ⟨r, M5, e5, rfl, g5, s5, u5⟩ := nm
        rw [show w_m_number (d + 12) ((3 * l + 2 : Nat) : Int) 0 hi M4 = _ from e5, bndI_s, if_neg (by decide), bndI_s]
        refine wp_neg (by decide) ?_
        have g55 := mf_tt g4 g5
        refine m_lineEnd (d + 2) (by decide) q.1 (hdK q.2 - 256) v.1 (rB_mf hB g55) s5 (by rw [pNum_t hp3]; exact tsOK_t hq4) g55 ?_ ?_ (fun _ => ?_) (fun i hi => ?_) (fun M20 => bndI (w_m_need (d + 13) 159 M20) fun y M' => if y = 0 then some ([aI 0], M') else some ([aI 1], M')) rfl
        · rw [u5, if_neg (by omega), u4, if_neg (by omega), if_neg (by omega), u1, if_pos rfl]
        · rw [u5, if_neg (by omega), u4, if_neg (by omega), if_pos rfl, if_pos rfl]; omega
        · rw [u5, if_pos rfl]
        · rw [u5, if_neg (by omega), u4, if_neg (by omega), if_neg (by omega), u1, if_neg (by omega)]
    by_cases h8 : hdK q.2 = 257
    · rw [if_pos (show hdK q.2 - 249 = 8 by omega), if_pos (show hdK q.2 = 257 ∨ hdK q.2 = 258 by omega)]
      exact num 99
    rw [if_neg (show ¬ hdK q.2 - 249 = 8 by omega)]
    by_cases h9 : hdK q.2 = 258
    · rw [if_pos (show hdK q.2 - 249 = 9 by omega), if_pos (show hdK q.2 = 257 ∨ hdK q.2 = 258 by omega)]
      exact num 99
    rw [if_neg (show ¬ hdK q.2 - 249 = 9 by omega), if_neg (show ¬ (hdK q.2 = 257 ∨ hdK q.2 = 258) by omega), inb_s (by omega) (by omega), g4.1 158 (by decide) (by decide), hd, w32_i (x := dn - 1) (by omega) (by omega)]
    exact num (dn - 1)
