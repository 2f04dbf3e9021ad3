/-! text: what has been read is in bounds; the class's call -/
def rGood (k : Nat) (dn : Int) (t : aRow3) : Prop :=
  (k = 1 → (1 ≤ t.2.1 ∧ t.2.1 ≤ 5) ∧ (4 ≤ t.2.1 → 0 ≤ t.2.2 ∧ t.2.2 < dn) ∧ (t.2.1 ≤ 2 → 0 ≤ t.2.2 ∧ t.2.2 ≤ 99)) ∧
  (k = 2 → (1 ≤ t.1 ∧ t.1 ≤ 999) ∧ (0 ≤ t.2.1 ∧ t.2.1 < dn) ∧ (-1 ≤ t.2.2 ∧ t.2.2 ≤ 999)) ∧
  (k = 3 → (0 ≤ t.1 ∧ t.1 ≤ 30) ∧ (0 ≤ t.2.1 ∧ t.2.1 ≤ 9))
theorem tEnd_r {n : Nat} {r : aRow3} {ts : List aTk} {q : aRow3 × List aTk} (h : tEnd n r ts = .inr q) : q.1 = r := by
  unfold tEnd at h
  split at h
  · cases h
  · cases h; rfl
theorem tLn_good {k n : Nat} {dn : Int} {ts : List aTk} {q : aRow3 × List aTk} (hk : k = 1 ∨ k = 2 ∨ k = 3) (h : tLn k n dn ts = .inr q) : rGood k dn q.1 := by
  unfold tLn at h
  rcases hk with rfl | rfl | rfl
  · rw [if_pos rfl] at h
    unfold tPlan at h
    split at h
    · cases h
    · next q0 h0 =>
      split at h
      · next hin =>
        split at h
        · next h9 =>
          rw [tEnd_r h]
          exact ⟨fun _ => ⟨by dsimp only; omega, fun e => by dsimp only at e; omega, fun e => by dsimp only at e; omega⟩, fun e => absurd e (by decide), fun e => absurd e (by decide)⟩
        · next h9 =>
          split at h
          · cases h
          · next v hv =>
            obtain ⟨-, -, v1, v2⟩ := pNum_in hv
            rw [tEnd_r h]
            refine ⟨fun _ => ⟨by dsimp only; omega, fun e => ?_, fun e => ?_⟩, fun e => absurd e (by decide), fun e => absurd e (by decide)⟩
            · dsimp only at e ⊢
              rw [if_neg (by omega)] at v2
              omega
            · dsimp only at e ⊢
              rw [if_pos (by omega)] at v2
              omega
      · cases h
  · rw [if_neg (by decide), if_pos rfl] at h
    unfold tDue at h
    split at h
    · cases h
    · next q0 h0 =>
      obtain ⟨-, -, u1, u2⟩ := pNum_in h0
      split at h
      · cases h
      · next t1 h1 =>
        split at h
        · cases h
        · next v hv =>
          obtain ⟨-, -, v1, v2⟩ := pNum_in hv
          split at h
          · split at h
            · cases h
            · next y hy =>
              obtain ⟨-, -, y1, y2⟩ := pNum_in hy
              rw [tEnd_r h]
              exact ⟨fun e => absurd e (by decide), fun _ => ⟨⟨u1, u2⟩, ⟨v1, by dsimp only; omega⟩, by dsimp only; omega, y2⟩, fun e => absurd e (by decide)⟩
          · rw [tEnd_r h]
            exact ⟨fun e => absurd e (by decide), fun _ => ⟨⟨u1, u2⟩, ⟨v1, by dsimp only; omega⟩, by dsimp only; omega, by dsimp only; omega⟩, fun e => absurd e (by decide)⟩
  · rw [if_neg (by decide), if_neg (by decide)] at h
    unfold tFeast at h
    split at h
    · cases h
    · next q0 h0 =>
      obtain ⟨-, -, u1, u2⟩ := pNum_in h0
      split at h
      · cases h
      · next t1 h1 =>
        split at h
        · cases h
        · next v hv =>
          obtain ⟨-, -, v1, v2⟩ := pNum_in hv
          rw [tEnd_r h]
          exact ⟨fun e => absurd e (by decide), fun e => absurd e (by decide), fun _ => ⟨⟨u1, u2⟩, v1, v2⟩⟩
theorem tRows_good {k n : Nat} {dn : Int} {most : Nat} (hk : k = 1 ∨ k = 2 ∨ k = 3) : ∀ (f : Nat) (L : List aRow3) (ts : List aTk) (L' : List aRow3), (∀ t, t ∈ L → rGood k dn t) → L.length ≤ most → tRows k n dn most f L ts = .inr L' → (∀ t, t ∈ L' → rGood k dn t) ∧ L'.length ≤ most
  | 0, _, _, _, _, _, h => by cases h
  | f + 1, L, ts, L', hL, hl, h => by
    unfold tRows at h
    split at h
    · cases h; exact ⟨hL, hl⟩
    split at h
    · cases h
    split at h
    · cases h
    next hm =>
    split at h
    · cases h
    · next q hq =>
      refine tRows_good hk f (L ++ [q.1]) q.2 L' (fun t ht => ?_) (by simp; omega) h
      rcases List.mem_append.1 ht with h1 | h1
      · exact hL t h1
      · rw [List.mem_singleton.1 h1]; exact tLn_good hk hq
theorem pLw_ok {n : Nat} {ts : List aTk} {q : aLine × List aTk} (hv : tsV ts) (h : pLw n ts = .inr q) : okLine q.1 ∧ sfx ts q.2 := by
  have hE : ∀ {x : aLine} {t : List aTk} {q : aLine × List aTk}, pLe n x t = .inr q → q.1 = x ∧ q.2 = t.tail := by
    intro x t q h
    unfold pLe at h
    split at h
    · cases h
    · next t' ht => cases h; exact ⟨rfl, pTk_t ht⟩
  unfold pLw at h
  split at h
  · cases h
  · next u hu =>
    obtain ⟨i1, -, i3⟩ := pEx_in (tsV_t hv) hu
    have x1 : sfx ts u.2 := sfx_tr (sfx_t _) i1
    split at h
    · split at h
      · cases h
      · next r hr =>
        obtain ⟨e1, e2⟩ := hE h
        have x2 : sfx ts u.2.tail := sfx_tr x1 (sfx_t _)
        have hk := pCo_kA (n := n) (tsV_s hv x2)
        rw [hr] at hk
        obtain ⟨k1, k2⟩ := kA_in _ [] u.2.tail [] r (tsV_s hv x2) trivial (by decide) rfl hk
        rw [e1, e2]
        exact ⟨⟨⟨false, i3 [] (by decide)⟩, Or.inr k1⟩, sfx_tr (sfx_tr x2 k2) (sfx_t _)⟩
    · obtain ⟨e1, e2⟩ := hE h
      rw [e1, e2]
      exact ⟨⟨⟨false, i3 [] (by decide)⟩, Or.inl rfl⟩, sfx_tr x1 (sfx_t _)⟩
theorem pLs_ok {n : Nat} : ∀ (f : Nat) (L : aLaw) (ts : List aTk) (L' : aLaw), tsV ts → okLaw L → pLs n f L ts = .inr L' → okLaw L'
  | 0, _, _, _, _, _, h => by cases h
  | f + 1, L, ts, L', hv, hL, h => by
    unfold pLs at h
    split at h
    · cases h; exact hL
    split at h
    · cases h
    split at h
    · cases h
    next h16 =>
    split at h
    · cases h
    · next q hq =>
      obtain ⟨o1, o2⟩ := pLw_ok hv hq
      have hl := hL.1
      refine pLs_ok f (L ++ [q.1]) q.2 L' (tsV_s hv o2) ⟨by simp; omega, fun x hx => ?_⟩ h
      rcases List.mem_append.1 hx with h1 | h1
      · exact hL.2 x h1
      · rw [List.mem_singleton.1 h1]; exact o1
/-! the steps as they stand -/
def acE (A : Nat → Int) : Nat → aCd → aCd
  | _, [] => []
  | p, (s, _) :: l => (s, A (2 * p + 1)) :: acE A (p + 1) l
theorem acE_len (A : Nat → Int) : ∀ (E : aCd) (p : Nat), (acE A p E).length = E.length
  | [], _ => rfl
  | (s, v) :: E, p => by simp only [acE, List.length_cons]; rw [acE_len A E]
theorem acE_enc {A : Nat → Int} : ∀ (E : aCd) (p : Nat), segZ A p E → cEnc (acE A p E) = cEnc E
  | [], _, _ => rfl
  | (s, v) :: E, p, h => by
    obtain ⟨h1, h2, h3⟩ := h
    simp only [acE, cEnc]
    rw [acE_enc E (p + 1) h3]
    congr 1
    by_cases h0 : s = 0
    · rw [if_pos h0, if_pos h0, h2 (Or.inl h0)]
    · rw [if_neg h0, if_neg h0]
      by_cases h11 : s < 11
      · rw [if_pos h11, if_pos h11]
      · rw [if_neg h11, if_neg h11]
        by_cases h26 : s = 26
        · rw [if_pos h26, if_pos h26, h2 (Or.inr h26)]
        · rw [if_neg h26, if_neg h26]
theorem acE_ty {A : Nat → Int} : ∀ (E : aCd) (p : Nat) (t : List Bool), segZ A p E → iTy (acE A p E) t = iTy E t
  | [], _, _, _ => rfl
  | (s, v) :: E, p, t, h => by
    obtain ⟨h1, h2, h3⟩ := h
    have ih := fun t => acE_ty E (p + 1) t h3
    rw [show acE A p ((s, v) :: E) = [(s, A (2 * p + 1))] ++ acE A (p + 1) E from rfl, show (s, v) :: E = [(s, v)] ++ E from rfl, iTy_app, iTy_app]
    have e : iTy [(s, A (2 * p + 1))] t = iTy [(s, v)] t := by
      by_cases hs : s = 0 ∨ s = 26
      · rw [h2 hs]
      · simp only [iTy]
        have a0 : ¬ s = 0 := fun e => hs (Or.inl e)
        have a26 : ¬ s = 26 := fun e => hs (Or.inr e)
        simp only [a0, a26, false_implies, if_false]
    rw [e]
    cases iTy [(s, v)] t with
    | none => rfl
    | some t' => exact ih t'
theorem acE_seg {A V : Nat → Int} : ∀ (E : aCd) (p : Nat), segZ A p E → (∀ i, 2 * p ≤ i → i < 2 * (p + E.length) → V (948 + i) = A i) → seg2 V p (acE A p E)
  | [], _, _, _ => trivial
  | (s, v) :: E, p, h, hV => by
    obtain ⟨h1, h2, h3⟩ := h
    simp only [List.length_cons] at hV
    refine ⟨(hV (2 * p) (by omega) (by omega)).trans h1, ?_, acE_seg E (p + 1) h3 fun i a b => hV i (by omega) (by omega)⟩
    rw [show 949 + 2 * p = 948 + (2 * p + 1) by omega]
    exact hV (2 * p + 1) (by omega) (by omega)
def acL (F A : Nat → Int) : Nat → aLaw → aLaw
  | _, [] => []
  | i, (w, E, B) :: L => (w, acE A (F (4 * i)).toNat E, acE A ((F (4 * i)).toNat + E.length) B) :: acL F A (i + 1) L
theorem acL_len (F A : Nat → Int) : ∀ (L : aLaw) (i : Nat), (acL F A i L).length = L.length
  | [], _ => rfl
  | (w, E, B) :: L, i => by simp only [acL, List.length_cons]; rw [acL_len F A L]
theorem acL_ok {F A : Nat → Int} {S : Nat} : ∀ (L : aLaw) (i : Nat), mLd F A S i L → (∀ x, x ∈ L → okLine x) → ∀ x, x ∈ acL F A i L → okLine x
  | [], _, _, _, x, hx => by cases hx
  | (w, E, B) :: L, i, h, ho, x, hx => by
    obtain ⟨⟨p, a, b, c, e, f, g, k⟩, h2⟩ := h
    rcases List.mem_cons.1 hx with h1 | h1
    · have o := ho (w, E, B) (by simp)
      rw [h1]
      unfold okLine at o ⊢
      dsimp only at o ⊢
      rw [a, tn_n, acE_ty E p _ g, acE_ty B _ _ k]
      refine ⟨o.1, ?_⟩
      rcases o.2 with h3 | h3
      · left; rw [h3]; rfl
      · right; exact h3
    · exact acL_ok L (i + 1) h2 (fun x hx => ho x (by simp [hx])) x h1
theorem acL_rLn {F A C K : Nat → Int} {S n : Nat} : ∀ (L : aLaw) (i : Nat), mLd F A S i L → rLn C K n i L → rLn C K n i (acL F A i L)
  | [], _, _, _ => trivial
  | (w, E, B) :: L, i, h, hr => by
    obtain ⟨⟨p, a, b, c, e, f, g, k⟩, h2⟩ := h
    obtain ⟨⟨p', r1, r2, r3, r4, r5, r6, r7⟩, hr2⟩ := hr
    refine ⟨⟨p', ?_⟩, acL_rLn L (i + 1) h2 hr2⟩
    rw [a, tn_n, acE_enc E p g, acE_enc B _ k]
    exact ⟨r1, r2, r3, r4, r5, r6, r7⟩
theorem acL_vLn {F A : Nat → Int} {V : aW} {S : Nat} (hS : S ≤ 409) : ∀ (L : aLaw) (i : Nat), mLd F A S i L → (∀ j, i ≤ j → j < i + L.length → V (884 + j) = F (4 * j) ∧ V (900 + j) = F (4 * j + 1) ∧ V (916 + j) = F (4 * j + 2) ∧ V (932 + j) = F (4 * j + 3)) → (∀ j, j < 2 * S → V (948 + j) = A j) → vLn V i (acL F A i L)
  | [], _, _, _, _ => trivial
  | (w, E, B) :: L, i, h, hV, hA => by
    simp only [List.length_cons] at hV
    obtain ⟨⟨p, a, b, c, e, f, g, k⟩, h2⟩ := h
    obtain ⟨v1, v2, v3, v4⟩ := hV i (Nat.le_refl _) (by omega)
    refine ⟨⟨p, ?_⟩, acL_vLn hS L (i + 1) h2 (fun j a b => hV j (by omega) (by omega)) hA⟩
    rw [a, tn_n, acE_len, acE_len]
    exact ⟨v1.trans a, v2.trans b, v3.trans c, v4.trans e, by omega, acE_seg E p g fun i _ h2 => hA i (by omega), acE_seg B _ k fun i _ h2 => hA i (by omega)⟩
/-! the class's call -/
def xC (k : Nat) : Nat := if k = 1 then 12 else if k = 2 then 14 else 16
/-- what no text changes in the class, but for where it goes -/
def xK (c : Nat → Prop) (M M' : aM) : Prop := (∀ k, ¬ c k → k ≠ 127 → ¬ (129 ≤ k ∧ k < 141) → M' k = M k) ∧ M' 127 5 = 0 ∧ M' 136 0 = 16 ∧ M' 138 0 = 16
theorem x_text_eq (d k n : Nat) (hk : k < 4) (dn : Int) (hdn : 0 ≤ dn ∧ dn ≤ 10) (M : aM) (h4 : n ≤ 400) (h5 : M 127 5 = n) (hbb : ∀ i, i < n → 0 ≤ M 128 i ∧ M 128 i ≤ 255) (h136 : M 136 0 = 16) (h138 : M 138 0 = 16) (h2 : M 2 4 = dn) (h10 : M 10 0 = 16) (hc : ∀ c, c = 12 ∨ c = 14 → M c 0 = 16) (h16 : M 16 0 = 8) :
    wp (w_x_text (d + 14) k M) fun r M' => tTx k n dn (toks (wsk k) (M 128) n 0)
      (fun e => r = [aI (-1)] ∧ M' 132 2 = e.1 ∧ M' 132 3 = e.2 ∧ xK (fun _ => False) M M')
      (fun L => r = [aI ((L.length : Nat) : Int)] ∧ M' 132 2 = 0 ∧ M' 132 3 = -1 ∧ xK (fun x => x = xC k ∨ x = xC k + 1 ∨ (k ≠ 3 ∧ x = 94) ∨ (k = 2 ∧ x = 2)) M M' ∧ M' (xC k) 0 = (mMost k : Nat) ∧ M' (xC k) 2 = ((L.length : Nat) : Int) ∧ (∀ i t, L[i]? = some t → M' (xC k + 1) (4 * i) = t.1 ∧ M' (xC k + 1) (4 * i + 1) = t.2.1 ∧ M' (xC k + 1) (4 * i + 2) = t.2.2) ∧ (k ≠ 3 → M' 94 3 = 0 ∧ ∀ j, j ≠ 3 → M' 94 j = M 94 j) ∧ (k = 2 → M' 2 16 = 0 ∧ ∀ j, j ≠ 16 → M' 2 j = M 2 j))
      (fun L => r = [aI ((L.length : Nat) : Int)] ∧ M' 132 2 = 0 ∧ M' 132 3 = -1 ∧ xK (fun x => x = 7 ∨ x = 8 ∨ x = 10 ∨ x = 11) M M' ∧ rLaw 7 L M') := by
  rw [l_x_text, h2]
  have rd := rd_read_eq (d + 3) k n hk dn hdn (M 128) M h4 h5 rfl hbb h136 h138
  obtain ⟨r0, M1, e1, f1, k1, a136, a138, ht⟩ := rd
  unfold tTx at ht ⊢
  by_cases h0 : k = 0
  · rw [if_pos h0] at ht
    simp only [if_pos h0]
    cases hp : pLs n 17 [] (toks (wsk k) (M 128) n 0) with
    | inl e =>
      rw [hp] at ht
      obtain ⟨rfl, b1, b2⟩ := ht
      refine wp_eI e1 ?_
      refine wp_up fun M2 f2 g2 => ?_
      refine wp_pos rfl ?_
      refine wp_ret ⟨rfl, by rw [f2 132 (by simp)]; exact b1, by rw [f2 132 (by simp)]; exact b2, fun x _ x1 x2 => ?_, by rw [g2, if_pos rfl], by rw [f2 136 (by simp)]; exact a136, by rw [f2 138 (by simp)]; exact a138⟩
      rw [f2 x (by simpa using x1), f1 x (by simp; omega)]
    | inr L =>
      rw [hp] at ht
      obtain ⟨rfl, b1, b2, b3, b4⟩ := ht
      refine wp_eI e1 ?_
      refine wp_up fun M2 f2 g2 => ?_
      refine wp_neg (by decide) ?_
      refine wp_idI ?_
      rw [l_x_takeText]
      refine wp_pos (by omega) ?_
      have lc := law_copy_eq (d + 10) 7 133 L M2 (rLaw_fr b3 fun x _ _ _ => f2 x (by simp; omega)) b4 (by rw [f2 _ (by simp), f1 _ (by simp)]; exact h10) ⟨al8, al11⟩ ⟨al134, al137⟩ (by omega)
      refine wp_bV lc ?_
      rintro M3 ⟨c1, c2⟩
      refine wp_ret ⟨⟨_, rfl⟩, ?_, ?_, ?_, ⟨fun x x0 x1 x2 => ?_, ?_, ?_, ?_⟩, c1⟩
      · obtain ⟨nn, -, -, q, -⟩ := c1
        rw [show M3 10 2 = _ from q]
      · rw [c2 132 (by simp), f2 132 (by simp)]; exact b1
      · rw [c2 132 (by simp), f2 132 (by simp)]; exact b2
      · rw [c2 x (by simp; omega), f2 x (by simpa using x1), f1 x (by simp; omega)]
      · rw [c2 127 (by simp), g2, if_pos rfl]
      · rw [c2 136 (by simp), f2 136 (by simp)]; exact a136
      · rw [c2 138 (by simp), f2 138 (by simp)]; exact a138
  · rw [if_neg h0] at ht
    simp only [if_neg h0]
    cases hp : tRows k n dn (mMost k) (mMost k + 1) [] (toks (wsk k) (M 128) n 0) with
    | inl e =>
      rw [hp] at ht
      obtain ⟨rfl, b1, b2⟩ := ht
      refine wp_eI e1 ?_
      refine wp_up fun M2 f2 g2 => ?_
      refine wp_pos rfl ?_
      refine wp_ret ⟨rfl, by rw [f2 132 (by simp)]; exact b1, by rw [f2 132 (by simp)]; exact b2, fun x _ x1 x2 => ?_, by rw [g2, if_pos rfl], by rw [f2 136 (by simp)]; exact a136, by rw [f2 138 (by simp)]; exact a138⟩
      rw [f2 x (by simpa using x1), f1 x (by simp; omega)]
    | inr L =>
      rw [hp] at ht
      obtain ⟨rfl, b1, b2, b3⟩ := ht
      have hk3 : k = 1 ∨ k = 2 ∨ k = 3 := by omega
      have hlm := (tRows_good (k := k) (n := n) (dn := dn) hk3 _ [] _ L (fun t h => by cases h) (Nat.zero_le _) hp).2
      refine wp_eI e1 ?_
      refine wp_up fun M2 f2 g2 => ?_
      refine wp_neg (by decide) ?_
      refine wp_idI ?_
      have R2 : cRw L M2 := cRw_fr b3 fun x hx => f2 x (by simp; omega)
      have F2 : ∀ x, x ≠ 127 → ¬ (129 ≤ x ∧ x < 141) → M2 x = M x := fun x x1 x2 => by rw [f2 x (by simpa using x1), f1 x (by simp; omega)]
      rw [l_x_takeText]
      rcases hk3 with rfl | rfl | rfl
      · refine wp_neg (by decide) ?_
        refine wp_pos (by decide) ?_
        have tk := rows_take_eq (d + 11) 12 16 3 L M2 R2 hlm (by omega) (by rw [F2 12 (by decide) (by decide)]; exact hc 12 (Or.inl rfl)) al13 (by omega) (by omega)
        refine wp_bV tk ?_
        rintro M3 ⟨f3, c0, c2, cc⟩
        refine wp_eV (acts_forget_eq _ M3) ?_
        refine wp_ret ⟨⟨_, rfl⟩, by rw [aUp_N (by decide), c2], ?_, ?_, ⟨fun x x0 x1 x2 => ?_, ?_, ?_, ?_⟩, ?_, ?_, fun i t hit => ?_, fun _ => ⟨by simp [aUp_E], fun j hj => ?_⟩, fun e => absurd e (by decide)⟩
        · rw [aUp_N (by decide), f3 132 (by simp), f2 132 (by simp)]; exact b1
        · rw [aUp_N (by decide), f3 132 (by simp), f2 132 (by simp)]; exact b2
        · have e1 : x ≠ 12 := fun e => x0 (Or.inl e)
          have e2 : x ≠ 13 := fun e => x0 (Or.inr (Or.inl e))
          have e3 : x ≠ 94 := fun e => x0 (Or.inr (Or.inr (Or.inl ⟨by decide, e⟩)))
          rw [aUp_N e3, f3 x (by simp; omega), F2 x x1 x2]
        · rw [aUp_N (by decide), f3 127 (by simp), g2, if_pos rfl]
        · rw [aUp_N (by decide), f3 136 (by simp), f2 136 (by simp)]; exact a136
        · rw [aUp_N (by decide), f3 138 (by simp), f2 138 (by simp)]; exact a138
        · show aUp M3 94 3 0 12 0 = _
          rw [aUp_N (by decide), c0]; rfl
        · show aUp M3 94 3 0 12 2 = _
          rw [aUp_N (by decide), c2]
        · show aUp M3 94 3 0 13 _ = _ ∧ aUp M3 94 3 0 13 _ = _ ∧ aUp M3 94 3 0 13 _ = _
          rw [aUp_N (by decide)]
          exact cc i t hit
        · rw [aUp_same, if_neg hj, f3 94 (by simp), F2 94 (by decide) (by decide)]
      · refine wp_neg (by decide) ?_
        refine wp_neg (by decide) ?_
        refine wp_pos (by decide) ?_
        have tk := rows_take_eq (d + 11) 14 16 3 L M2 R2 hlm (by omega) (by rw [F2 14 (by decide) (by decide)]; exact hc 14 (Or.inr rfl)) al15 (by omega) (by omega)
        refine wp_bV tk ?_
        rintro M3 ⟨f3, c0, c2, cc⟩
        refine wp_up fun M4 f4 g4 => ?_
        refine wp_eV (acts_forget_eq _ M4) ?_
        refine wp_ret ⟨⟨_, rfl⟩, by rw [aUp_N (by decide), f4 14 (by simp), c2], ?_, ?_, ⟨fun x x0 x1 x2 => ?_, ?_, ?_, ?_⟩, ?_, ?_, fun i t hit => ?_, fun _ => ⟨by simp [aUp_E], fun j hj => ?_⟩, fun _ => ⟨?_, fun j hj => ?_⟩⟩
        · rw [aUp_N (by decide), f4 132 (by simp), f3 132 (by simp), f2 132 (by simp)]; exact b1
        · rw [aUp_N (by decide), f4 132 (by simp), f3 132 (by simp), f2 132 (by simp)]; exact b2
        · have e1 : x ≠ 14 := fun e => x0 (Or.inl e)
          have e2 : x ≠ 15 := fun e => x0 (Or.inr (Or.inl e))
          have e3 : x ≠ 94 := fun e => x0 (Or.inr (Or.inr (Or.inl ⟨by decide, e⟩)))
          have e4 : x ≠ 2 := fun e => x0 (Or.inr (Or.inr (Or.inr ⟨rfl, e⟩)))
          rw [aUp_N e3, f4 x (by simpa using e4), f3 x (by simp; omega), F2 x x1 x2]
        · rw [aUp_N (by decide), f4 127 (by simp), f3 127 (by simp), g2, if_pos rfl]
        · rw [aUp_N (by decide), f4 136 (by simp), f3 136 (by simp), f2 136 (by simp)]; exact a136
        · rw [aUp_N (by decide), f4 138 (by simp), f3 138 (by simp), f2 138 (by simp)]; exact a138
        · show aUp M4 94 3 0 14 0 = _
          rw [aUp_N (by decide), f4 14 (by simp), c0]; rfl
        · show aUp M4 94 3 0 14 2 = _
          rw [aUp_N (by decide), f4 14 (by simp), c2]
        · show aUp M4 94 3 0 15 _ = _ ∧ aUp M4 94 3 0 15 _ = _ ∧ aUp M4 94 3 0 15 _ = _
          rw [aUp_N (by decide), f4 15 (by simp)]
          exact cc i t hit
        · rw [aUp_same, if_neg hj, f4 94 (by simp), f3 94 (by simp), F2 94 (by decide) (by decide)]
        · rw [aUp_N (by decide), g4, if_pos rfl]
        · rw [aUp_N (by decide), g4, if_neg hj, f3 2 (by simp), F2 2 (by decide) (by decide)]
      · refine wp_neg (by decide) ?_
        refine wp_neg (by decide) ?_
        refine wp_neg (by decide) ?_
        have tk := rows_take_eq (d + 11) 16 8 2 L M2 R2 hlm (by omega) (by rw [F2 16 (by decide) (by decide)]; exact h16) al17 (by omega) (by omega)
        refine wp_bV tk ?_
        rintro M3 ⟨f3, c0, c2, cc⟩
        refine wp_ret ⟨⟨_, rfl⟩, by rw [c2], ?_, ?_, ⟨fun x x0 x1 x2 => ?_, ?_, ?_, ?_⟩, ?_, ?_, fun i t hit => ?_, fun e => absurd rfl e, fun e => absurd e (by decide)⟩
        · rw [f3 132 (by simp), f2 132 (by simp)]; exact b1
        · rw [f3 132 (by simp), f2 132 (by simp)]; exact b2
        · have e1 : x ≠ 16 := fun e => x0 (Or.inl e)
          have e2 : x ≠ 17 := fun e => x0 (Or.inr (Or.inl e))
          rw [f3 x (by simp; omega), F2 x x1 x2]
        · rw [f3 127 (by simp), g2, if_pos rfl]
        · rw [f3 136 (by simp), f2 136 (by simp)]; exact a136
        · rw [f3 138 (by simp), f2 138 (by simp)]; exact a138
        · exact c0
        · exact c2
        · exact cc i t hit
