/-! text: plans, dues, feasts in the reference, all lines -/
def mf2 (M M' : aM) : Prop := (∀ k, k ≠ 157 → k ≠ 164 → M' k = M k) ∧ ∀ j, (j < 15 ∨ j = 16 ∨ 22 < j) → M' 157 j = M 157 j
theorem mf2_tt {M M1 M2 : aM} (h1 : mf2 M M1) (h2 : mf2 M1 M2) : mf2 M M2 := ⟨fun k a b => (h2.1 k a b).trans (h1.1 k a b), fun j a => (h2.2 j a).trans (h1.2 j a)⟩
theorem mf_2 {M M' : aM} (h : mf M M') : mf2 M M' := ⟨h.1, fun j a => h.2 j (by omega)⟩
theorem mf2_refl (M : aM) : mf2 M M := mf_2 (mf_refl M)
def mW (k : Nat) : Nat := if k = 3 then 2 else 3
/-- the cells of the rows that have been read -/
def mRw (k : Nat) (L : List aRow3) (M : aM) : Prop := ∀ i t, L[i]? = some t → M 164 (mW k * i) = t.1 ∧ M 164 (mW k * i + 1) = (if k = 1 then t.2.1 + 7 else t.2.1) ∧ (k ≠ 3 → M 164 (mW k * i + 2) = t.2.2)
def mBeg (k : Nat) : Int := if k = 1 then 7 else if k = 2 then 13 else 15
theorem mBeg_iff {k : Nat} (hk : k = 1 ∨ k = 2 ∨ k = 3) {ts : List aTk} (h : tsOK k ts) : cr k (hdK ts) = mBeg k ↔ hdK ts = 256 := by
  rcases hk with rfl | rfl | rfl
  · have := cr_1 (tsOK_K h); unfold mBeg; rw [if_pos rfl]; omega
  · have := cr_2 (tsOK_K h); unfold mBeg; rw [if_neg (by decide), if_pos rfl]; omega
  · have := cr_3 (tsOK_K h); unfold mBeg; rw [if_neg (by decide), if_neg (by decide)]; omega
def mMost (k : Nat) : Nat := if k = 3 then 8 else 16
theorem m_row_eq (d k : Nat) (hk : k = 1 ∨ k = 2 ∨ k = 3) (dn : Int) (hdn : 0 ≤ dn ∧ dn ≤ 10) {b : Nat → Int} {n l : Nat} {ts : List aTk} {M : aM} (hB : rB k b n M) (hS : rS k b n ts M) (hts : tsOK k ts) (h256 : hdK ts = 256) (hd : M 158 41 = dn) (hl : M 157 15 = l) (hlm : l < mMost k) : wp (w_m_aRow (d + 14) M) (lM k b n (mW k * l) (tLn k n dn ts) M) := by
  rw [l_m_aRow, hB.1]
  rcases hk with rfl | rfl | rfl
  · refine wp_pos rfl ?_
    exact m_plan_eq d dn hdn hB hS hts h256 hd hl hlm
  · refine wp_neg (by decide) ?_
    refine wp_pos rfl ?_
    exact m_due_eq d dn hdn hB hS hts h256 hd hl hlm
  · refine wp_neg (by decide) ?_
    refine wp_neg (by decide) ?_
    exact m_feast_eq d hB hS hts h256 hl hlm
theorem tLn_t {k n : Nat} {dn : Int} {ts : List aTk} {q : aRow3 × List aTk} (h : tLn k n dn ts = .inr q) : ∀ t, t ∈ q.2 → t ∈ ts := by
  have hE : ∀ {r : aRow3} {ts : List aTk} {q : aRow3 × List aTk}, tEnd n r ts = .inr q → ∀ t, t ∈ q.2 → t ∈ ts := by
    intro r ts q h t ht
    unfold tEnd at h
    split at h
    · cases h
    · next t0 h0 => cases h; rw [pTk_t h0] at ht; exact List.mem_of_mem_tail ht
  unfold tLn at h
  split at h
  · unfold tPlan at h
    split at h
    · cases h
    · next q0 h0 =>
      split at h
      · split at h
        · intro t ht
          have := List.mem_of_mem_tail (hE h t ht)
          rw [pNum_t h0] at this
          exact List.mem_of_mem_tail (List.mem_of_mem_tail this)
        · split at h
          · cases h
          · next v hv =>
            intro t ht
            have := hE h t ht
            rw [pNum_t hv, pNum_t h0] at this
            exact List.mem_of_mem_tail (List.mem_of_mem_tail (List.mem_of_mem_tail (List.mem_of_mem_tail this)))
      · cases h
  · split at h
    · unfold tDue at h
      split at h
      · cases h
      · next q0 h0 =>
        split at h
        · cases h
        · next t1 h1 =>
          split at h
          · cases h
          · next v hv =>
            have base : ∀ t, t ∈ v.2 → t ∈ ts := by
              intro t ht
              rw [pNum_t hv, pTk_t h1, pNum_t h0] at ht
              exact List.mem_of_mem_tail (List.mem_of_mem_tail (List.mem_of_mem_tail (List.mem_of_mem_tail ht)))
            split at h
            · split at h
              · cases h
              · next y hy =>
                intro t ht
                have := hE h t ht
                rw [pNum_t hy] at this
                exact base t (List.mem_of_mem_tail (List.mem_of_mem_tail this))
            · intro t ht; exact base t (hE h t ht)
    · unfold tFeast at h
      split at h
      · cases h
      · next q0 h0 =>
        split at h
        · cases h
        · next t1 h1 =>
          split at h
          · cases h
          · next v hv =>
            intro t ht
            have := hE h t ht
            rw [pNum_t hv, pTk_t h1, pNum_t h0] at this
            exact List.mem_of_mem_tail (List.mem_of_mem_tail (List.mem_of_mem_tail (List.mem_of_mem_tail this)))
theorem m_rows36_lp (d k : Nat) (hk : k = 1 ∨ k = 2 ∨ k = 3) (dn : Int) (hdn : 0 ≤ dn ∧ dn ≤ 10) {b : Nat → Int} {n : Nat} : ∀ (f : Nat) (L : List aRow3) (ts : List aTk) (M : aM), L.length + f = mMost k + 1 → L.length ≤ mMost k → rB k b n M → rS k b n ts M → tsOK k ts → M 158 41 = dn → M 157 15 = ((L.length : Nat) : Int) → mRw k L M →
    wp (w_m_readsRows_36 (d + 14) (mBeg k) 1 M) fun r M' => mf2 M M' ∧ match tRows k n dn (mMost k) f L ts with
      | .inl e => r = [aI 0] ∧ M' 157 21 = e.1 ∧ M' 157 22 = e.2
      | .inr L' => r = [aI 1] ∧ M' 157 15 = ((L'.length : Nat) : Int) ∧ L'.length ≤ mMost k ∧ mRw k L' M' := by
  have hk4 : k < 4 := by omega
  have hm16 : mMost k ≤ 16 := by unfold mMost; split <;> omega
  intro f
  induction f with
  | zero => intro L ts M h hl; omega
  | succ f ih =>
    intro L ts M h hl hB hS hts hd hc hR
    obtain ⟨p, h1, h2, h3, h4, h5, h6⟩ := id hS
    have hz := (cr_k hk4 (tsOK_K hts)).2.1
    have hb := mBeg_iff hk hts
    rw [l_m_readsRows_36]
    refine wp_neg (by decide) ?_
    rw [h4]
    unfold tRows
    refine wp_if (fun h0 => ?_) (fun h0 => ?_)
    · rw [if_pos (hz.1 h0)]
      exact wp_ret ⟨mf2_refl M, rfl, hc, hl, hR⟩
    rw [if_neg fun e => h0 (hz.2 e)]
    have bad : ∀ x : Int, wp (bndI (w_m_bad (d + 14) x M) fun y M' => aBool y <| some ([aI y], M')) fun r M' => mf2 M M' ∧ (r = [aI 0] ∧ M' 157 21 = x ∧ M' 157 22 = hdP n ts) := by
      intro x
      refine wp_bad _ x M _ fun M' g => ?_
      rw [h5] at g
      exact ⟨mf_2 g.1, rfl, g.2.2⟩
    refine wp_if (fun hg => ?_) (fun hg => ?_)
    rotate_left
    · rw [if_pos fun e => hg (hb.2 e)]
      exact bad 1
    have h256 := hb.1 hg
    rw [if_neg (show ¬ hdK ts ≠ 256 from fun e => e h256), hB.1, hc]
    have row : L.length < mMost k → wp (bndI (w_m_aRow (d + 14) M) fun y17 M16 =>
              if y17 = 0 then
                aLet (aUp M16 157 15 (w32 ((M16 157 15) + 0))) fun M18 =>
                w_m_readsRows_36 (d + 14) (mBeg k) y17 M18
              else
                aLet (aUp M16 157 15 (w32 ((M16 157 15) + 1))) fun M19 =>
                w_m_readsRows_36 (d + 14) (mBeg k) y17 M19) fun r M' => mf2 M M' ∧ match (match tLn k n dn ts with
      | .inl e => .inl e
      | .inr q => tRows k n dn (mMost k) f (L ++ [q.1]) q.2 : aRes (List aRow3)) with
      | .inl e => r = [aI 0] ∧ M' 157 21 = e.1 ∧ M' 157 22 = e.2
      | .inr L' => r = [aI 1] ∧ M' 157 15 = ((L'.length : Nat) : Int) ∧ L'.length ≤ mMost k ∧ mRw k L' M' := by
      intro hlt
      obtain ⟨r, M1, e1, g1, g2⟩ := m_row_eq d k hk dn hdn hB hS hts h256 hd hc hlt
      cases hp : tLn k n dn ts with
      | inl e =>
        rw [hp] at g2
        obtain ⟨rfl, a1, a2⟩ := g2
        refine wp_eI e1 ?_
        refine wp_pos rfl ?_
        refine wp_up fun M2 f2 g2 => ?_
        rw [l_m_readsRows_36]
        refine wp_pos rfl ?_
        refine wp_ret ⟨mf2_tt (mf_2 g1) ⟨fun x a _ => f2 x (by simpa using a), fun j a => by rw [g2, if_neg (by omega)]⟩, rfl, ?_, ?_⟩
        · rw [g2, if_neg (by decide), a1]
        · rw [g2, if_neg (by decide), a2]
      | inr q =>
        rw [hp] at g2
        obtain ⟨rfl, s1, c1, c2, c3, c4⟩ := g2
        refine wp_eI e1 ?_
        refine wp_neg (by decide) ?_
        rw [g1.2 15 (by omega), hc, w32_i (by omega) (by omega)]
        refine wp_up fun M2 f2 g2 => ?_
        have F : ∀ j, j ≠ 15 → M2 157 j = M1 157 j := fun j hj => by rw [g2, if_neg hj]
        have m2 : mf2 M M2 := mf2_tt (mf_2 g1) ⟨fun x a _ => f2 x (by simpa using a), fun j a => F j (by omega)⟩
        have hB1 := rB_mf hB g1
        have hB2 : rB k b n M2 := ⟨(F 12 (by decide)).trans hB1.1, (F 16 (by decide)).trans hB1.2.1, hB1.2.2.1, fun i hi => by rw [f2 165 (by simp)]; exact hB1.2.2.2 i hi⟩
        obtain ⟨p', k1, k2, k3, k4, k5, k6⟩ := s1
        have s2 : rS k b n q.2 M2 := ⟨p', by rw [F 17 (by decide), k1], k2, k3, by rw [F 18 (by decide), k4], by rw [F 19 (by decide), k5], by rw [F 20 (by decide)]; exact k6⟩
        have ih2 := ih (L ++ [q.1]) q.2 M2 (by simp; omega) (by simp; omega) hB2 s2 (fun t ht => hts t (tLn_t hp t ht)) (by rw [m2.1 158 (by decide) (by decide), hd]) (by rw [g2, if_pos rfl]; simp) ?_
        · refine wp_mono ih2 ?_
          rintro r M' ⟨q1, q2⟩
          refine ⟨mf2_tt m2 q1, ?_⟩
          dsimp only
          cases hp2 : tRows k n dn (mMost k) f (L ++ [q.1]) q.2 with
          | inl e => rw [hp2] at q2; exact q2
          | inr L' => rw [hp2] at q2; exact q2
        · intro i t hit
          rw [f2 164 (by simp)]
          by_cases hi : i < L.length
          · rw [List.getElem?_append_left hi] at hit
            have hr := hR i t hit
            have hmul : mW k * (i + 1) ≤ mW k * L.length := Nat.mul_le_mul_left _ (by omega)
            rw [Nat.mul_add, Nat.mul_one] at hmul
            have hw : 2 ≤ mW k := by unfold mW; split <;> omega
            rw [c4 _ (by omega), c4 _ (by omega)]
            refine ⟨hr.1, hr.2.1, fun h3 => ?_⟩
            have hw3 : mW k = 3 := by unfold mW; rw [if_neg h3]
            rw [c4 _ (by omega)]
            exact hr.2.2 h3
          · rw [List.getElem?_append_right (by omega)] at hit
            have hz : i - L.length = 0 := by
              apply Decidable.byContradiction
              intro h
              rw [List.getElem?_eq_none (by simp; omega)] at hit
              cases hit
            rw [hz] at hit
            cases hit
            rw [show i = L.length by omega]
            exact ⟨c1, c2, c3⟩
    have m3 : (k : Int) = 3 → mMost k = 8 := fun h => by unfold mMost; rw [if_pos (by omega)]
    have m16 : ¬ (k : Int) = 3 → mMost k = 16 := fun h => by unfold mMost; rw [if_neg (by omega)]
    refine wp_if (fun hk3 => ?_) (fun hk3 => ?_)
    · have := m3 hk3
      refine wp_if (fun h8 => ?_) (fun h8 => ?_)
      · rw [if_pos (show L.length = mMost k by omega)]; exact bad 3
      · rw [if_neg (show ¬ L.length = mMost k by omega)]; exact row (by omega)
    · have := m16 hk3
      refine wp_if (fun h8 => ?_) (fun h8 => ?_)
      · rw [if_pos (show L.length = mMost k by omega)]; exact bad 3
      · rw [if_neg (show ¬ L.length = mMost k by omega)]; exact row (by omega)
theorem m_readsRows_eq (d k : Nat) (hk : k = 1 ∨ k = 2 ∨ k = 3) (dn : Int) (hdn : 0 ≤ dn ∧ dn ≤ 10) {b : Nat → Int} {n : Nat} (ts : List aTk) (M : aM) (hB : rB k b n M) (hS : rS k b n ts M) (hts : tsOK k ts) (hd : M 158 41 = dn) :
    wp (w_m_readsRows (d + 15) M) fun r M' => mf2 M M' ∧ match tRows k n dn (mMost k) (mMost k + 1) [] ts with
      | .inl e => r = [aI 0] ∧ M' 157 21 = e.1 ∧ M' 157 22 = e.2
      | .inr L' => r = [aI 1] ∧ M' 157 15 = ((L'.length : Nat) : Int) ∧ L'.length ≤ mMost k ∧ mRw k L' M' := by
  rw [l_m_readsRows]
  refine wp_up fun M1 f1 g1 => ?_
  have F : ∀ j, j ≠ 15 → M1 157 j = M 157 j := fun j hj => by rw [g1, if_neg hj]
  have m1 : mf2 M M1 := ⟨fun x a _ => f1 x (by simpa using a), fun j a => F j (by omega)⟩
  have hB1 : rB k b n M1 := ⟨(F 12 (by decide)).trans hB.1, (F 16 (by decide)).trans hB.2.1, hB.2.2.1, fun i hi => by rw [f1 165 (by simp)]; exact hB.2.2.2 i hi⟩
  obtain ⟨p', k1, k2, k3, k4, k5, k6⟩ := hS
  have s1 : rS k b n ts M1 := ⟨p', by rw [F 17 (by decide), k1], k2, k3, by rw [F 18 (by decide), k4], by rw [F 19 (by decide), k5], by rw [F 20 (by decide)]; exact k6⟩
  have lp := m_rows36_lp d k hk dn hdn (mMost k + 1) [] ts M1 (by simp) (by simp) hB1 s1 hts (by rw [m1.1 158 (by decide) (by decide), hd]) (by rw [g1, if_pos rfl]; rfl) (fun i t h => by simp at h)
  have fin : wp (w_m_readsRows_36 (d + 14) (mBeg k) 1 M1) fun r M' => mf2 M M' ∧ match tRows k n dn (mMost k) (mMost k + 1) [] ts with
      | .inl e => r = [aI 0] ∧ M' 157 21 = e.1 ∧ M' 157 22 = e.2
      | .inr L' => r = [aI 1] ∧ M' 157 15 = ((L'.length : Nat) : Int) ∧ L'.length ≤ mMost k ∧ mRw k L' M' := by
    refine wp_mono lp ?_
    rintro r M' ⟨q1, q2⟩
    exact ⟨mf2_tt m1 q1, q2⟩
  rw [hB1.1]
  rcases hk with rfl | rfl | rfl
  · exact wp_pos rfl fin
  · exact wp_neg (by decide) (wp_pos rfl fin)
  · exact wp_neg (by decide) (wp_neg (by decide) fin)
