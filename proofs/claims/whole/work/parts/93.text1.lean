/-! text: reading a text, the class -/
theorem vK_b {k : Nat} (hk : k < 4) {t : Int} (h : vK k t) : 0 ≤ t ∧ t < 10000 := by
  have hl : (wsk k).length ≤ 17 := by
    have := ws_len
    have hk4 : k = 0 ∨ k = 1 ∨ k = 2 ∨ k = 3 := by omega
    rcases hk4 with rfl | rfl | rfl | rfl <;> omega
  unfold vK at h
  omega
/-- what a text comes to: none, or its rows, or its law -/
def tTx (k n : Nat) (dn : Int) (TL : List aTk) (e : Int × Int → Prop) (g : List aRow3 → Prop) (w : aLaw → Prop) : Prop :=
  if k = 0 then (match pLs n 17 [] TL with
    | .inl x => e x
    | .inr L => w L)
  else match tRows k n dn (mMost k) (mMost k + 1) [] TL with
    | .inl x => e x
    | .inr L => g L
theorem tTx_mono {k n : Nat} {dn : Int} {TL : List aTk} {e e' : Int × Int → Prop} {g g' : List aRow3 → Prop} {w w' : aLaw → Prop} (h : tTx k n dn TL e g w) (he : ∀ x, e x → e' x) (hg : ∀ x, k ≠ 0 → tRows k n dn (mMost k) (mMost k + 1) [] TL = .inr x → g x → g' x) (hw : ∀ x, k = 0 → pLs n 17 [] TL = .inr x → w x → w' x) : tTx k n dn TL e' g' w' := by
  unfold tTx at h ⊢
  by_cases h0 : k = 0
  · rw [if_pos h0] at h ⊢
    cases hp : pLs n 17 [] TL with
    | inl x => rw [hp] at h; exact he x h
    | inr x => rw [hp] at h; exact hw x h0 hp h
  · rw [if_neg h0] at h ⊢
    cases hp : tRows k n dn (mMost k) (mMost k + 1) [] TL with
    | inl x => rw [hp] at h; exact he x h
    | inr x => rw [hp] at h; exact hg x h0 hp h
theorem rd_read_eq (d k n : Nat) (hk : k < 4) (dn : Int) (hdn : 0 ≤ dn ∧ dn ≤ 10) (b : Nat → Int) (M : aM) (h4 : n ≤ 400) (h5 : M 127 5 = n) (hb : M 128 = b) (hbb : ∀ i, i < n → 0 ≤ b i ∧ b i ≤ 255) (h136 : M 136 0 = 16) (h138 : M 138 0 = 16) :
    wp (w_rd_read (d + 10) k dn M) fun r M' => fr [127, 129, 130, 131, 132, 133, 134, 136, 137, 138, 139, 140] M M' ∧ (∀ j, j ≠ 4 → M' 127 j = M 127 j) ∧ M' 136 0 = 16 ∧ M' 138 0 = 16 ∧ tTx k n dn (toks (wsk k) b n 0) (fun e => r = [aI 0] ∧ M' 132 2 = e.1 ∧ M' 132 3 = e.2) (fun L => r = [aI 1] ∧ M' 132 2 = 0 ∧ M' 132 3 = -1 ∧ cRw L M') (fun L => r = [aI 1] ∧ M' 132 2 = 0 ∧ M' 132 3 = -1 ∧ rLaw 133 L M' ∧ L.length ≤ 16) := by
  have hlen : (toks (wsk k) b n 0).length ≤ 400 := by
    have := toks_len (wsk k) b n n 0 (by omega)
    omega
  have hok : tsOK k (toks (wsk k) b n 0) := toks_ok (wsk k) b n n 0 (by omega)
  have hKK : ∀ ts, sfx (toks (wsk k) b n 0) ts → 0 ≤ hdK ts ∧ hdK ts < 10000 := fun ts h => vK_b hk (tsOK_K (tsOK_s hok h))
  have hV := tsOK_V hok
  generalize hTL : toks (wsk k) b n 0 = TL at *
  rw [l_rd_read]
  refine wp_up fun M1 f1 g1 => ?_
  refine wp_up fun M2 f2 g2 => ?_
  refine wp_neg (by omega) ?_
  refine wp_neg (by omega) ?_
  have f12 := fr_tt f1 f2
  have ew : w_rd_wordsOf (d + 9) (k : Int) M2 = some ([aQ 24 k], M2) := by
    rw [u_rd_wordsOf]
    have hk4 : k = 0 ∨ k = 1 ∨ k = 2 ∨ k = 3 := by omega
    rcases hk4 with rfl | rfl | rfl | rfl
    · rw [if_pos (by decide)]
    · rw [if_neg (by decide), if_pos (by decide)]
    · rw [if_neg (by decide), if_neg (by decide), if_pos (by decide)]
    · rw [if_neg (by decide), if_neg (by decide), if_neg (by decide)]
  rw [ew, bndS_s, l_tape_split]
  have sp : wp (aLet (aUp M2 127 4 0) fun M13 => w_tape_split_9 (d + 8) k 0 0 M13) fun r M' => r = [] ∧ fr [127, 129, 130, 131] M2 M' ∧ (∀ j, j ≠ 4 → M' 127 j = M2 127 j) ∧ M' 127 4 = ((TL.length : Nat) : Int) ∧ hT M' TL := by
    refine wp_up fun M3 f3 g3 => ?_
    refine wp_mono (tape_split_lp (d + 2) k n (by omega) h4 b hbb TL hlen n 0 0 [] M3 (by omega) (by omega) (Nat.le_refl _) (by rw [g3, if_neg (by decide), f12 127 (by simp)]; exact h5) (by rw [g3, if_pos rfl]; rfl) (by rw [f3 128 (by simp), f12 128 (by simp)]; exact hb) (fun j t h => by simp at h) hTL) ?_
    rintro r M' ⟨q1, q2, q3, q4⟩
    exact ⟨q1, fr_tr f3 q2 (by simp) (by simp), fun j hj => by rw [q3 j hj, g3, if_neg hj], q4⟩
  refine wp_bV sp ?_
  rintro M3 ⟨f3, k3, t3, h3⟩
  refine wp_up fun M4 f4 g4 => ?_
  have F34 : ∀ x, x ≠ 132 → M4 x = M3 x := fun x hx => f4 x (by simpa using hx)
  have T4 : cT TL n M4 := ⟨by rw [F34 127 (by decide)]; exact t3, by rw [F34 127 (by decide), k3 5 (by decide), f12 127 (by simp)]; exact h5, hlen, fun j t ht => by rw [F34 129 (by decide), F34 130 (by decide), F34 131 (by decide)]; exact h3 j t ht⟩
  refine wp_bV (rd_step_lp (d + 8) (j := 0) T4 (Nat.zero_le _) (by rw [g4, if_pos rfl]; decide)) ?_
  rintro M5 ⟨r5, e5, s5⟩
  rw [List.drop_zero] at s5
  have e52 : M5 132 2 = 0 := by rw [e5.1, g4, if_neg (by decide), f3 132 (by simp), g2, if_neg (by decide), g1, if_pos rfl]
  have e53 : M5 132 3 = -1 := by rw [e5.2, g4, if_neg (by decide), f3 132 (by simp), g2, if_pos rfl]
  rw [l_law_clear]
  have cl : wp (aLet (aUp M5 (133 + 3) 2 0) fun M12 => aLet (aUp M12 133 3 0) fun M13 => some ([], M13)) fun r M' => r = [] ∧ fr [133, 136] M5 M' ∧ M' 133 3 = 0 ∧ M' 136 2 = 0 ∧ M' 136 0 = M5 136 0 := by
    refine wp_up fun Ma fa ga => ?_
    refine wp_up fun Mb fb gb => ?_
    exact wp_ret ⟨rfl, fr_tr fa fb (by simp) (by simp), by rw [gb, if_pos rfl], by rw [fb 136 (by simp), ga, if_pos rfl], by rw [fb 136 (by simp), ga, if_neg (by decide)]⟩
  refine wp_bV cl ?_
  rintro M6 ⟨f6, a6, b6, c6⟩
  refine wp_up fun M7 f7 g7 => ?_
  have F57 : ∀ x, x ≠ 133 → x ≠ 136 → x ≠ 138 → M7 x = M5 x := fun x x1 x2 x3 => by rw [f7 x (by simpa using x3), f6 x (by simp; omega)]
  have T7 : cT TL n M7 := cT_fr (cT_rd T4 r5) fun x hx => F57 x (by omega) (by omega) (by omega)
  have s7 : cS TL n TL M7 := cS_fr s5 (F57 132 (by decide) (by decide) (by decide))
  have F05 : ∀ x, x ≠ 127 → x ≠ 129 → x ≠ 130 → x ≠ 131 → x ≠ 132 → M5 x = M x := fun x x1 x2 x3 x4 x5 => by
    rw [rdF_k r5 x5, F34 x x5, f3 x (by simp; omega), f12 x (by simpa using x5)]
  have e72 : M7 132 2 = 0 := by rw [F57 132 (by decide) (by decide) (by decide), e52]
  have e73 : M7 132 3 = -1 := by rw [F57 132 (by decide) (by decide) (by decide), e53]
  have h7 : M7 138 0 = 16 := by rw [g7, if_neg (by decide), f6 138 (by simp), F05 138 (by decide) (by decide) (by decide) (by decide) (by decide)]; exact h138
  have h72 : M7 138 2 = 0 := by rw [g7, if_pos rfl]
  have h76 : M7 136 0 = 16 := by rw [f7 136 (by simp), c6, F05 136 (by decide) (by decide) (by decide) (by decide) (by decide)]; exact h136
  have k127 : ∀ j, j ≠ 4 → M7 127 j = M 127 j := fun j hj => by rw [F57 127 (by decide) (by decide) (by decide), rdF_k r5 (by decide), F34 127 (by decide), k3 j hj, f12 127 (by simp)]
  have all : fr [127, 129, 130, 131, 132, 133, 134, 136, 137, 138, 139, 140] M M7 := fun x hx => by
    simp at hx
    rw [F57 x (by omega) (by omega) (by omega), F05 x (by omega) (by omega) (by omega) (by omega) (by omega)]
  have LW : k = 0 → wp (w_rd_read_72 (d + 9) k dn 16 0 M7) fun r M' => fr [127, 129, 130, 131, 132, 133, 134, 136, 137, 138, 139, 140] M M' ∧ (∀ j, j ≠ 4 → M' 127 j = M 127 j) ∧ M' 136 0 = 16 ∧ M' 138 0 = 16 ∧ tTx k n dn TL (fun e => r = [aI 0] ∧ M' 132 2 = e.1 ∧ M' 132 3 = e.2) (fun L => r = [aI 1] ∧ M' 132 2 = 0 ∧ M' 132 3 = -1 ∧ cRw L M') (fun L => r = [aI 1] ∧ M' 132 2 = 0 ∧ M' 132 3 = -1 ∧ rLaw 133 L M' ∧ L.length ≤ 16) := by
    intro hk0
    subst hk0
    refine wp_mono (rd_law72_lp d dn hKK hV 17 [] [] TL M7 rfl (by decide) T7 s7 e72 (sfx_refl _) ⟨⟨by rw [f7 133 (by simp), a6]; rfl, by decide, trivial⟩, h76, by rw [f7 136 (by simp), b6]; rfl, by decide, trivial⟩ (by simpa using hlen)) ?_
    rintro r M' ⟨q1, q2⟩
    have h8 : M' 138 0 = 16 := by rw [lF_k q1 (by decide)]; exact h7
    refine ⟨fr_tr all q1.1 (by simp) (by simp), fun j hj => by rw [lF_k q1 (by decide), k127 j hj], q1.2.trans h76, h8, ?_⟩
    unfold tTx
    rw [if_pos rfl]
    cases hp : pLs n 17 [] TL with
    | inl e => rw [hp] at q2; exact q2
    | inr L =>
      rw [hp] at q2
      obtain ⟨z1, z2, z3, C', z4⟩ := q2
      exact ⟨z1, z2, by rw [z3, e73], ⟨C'.length, z4.1.2.1, z4.1.1, z4.2.2.1, z4.2.2.2.2, z4.2.1⟩, z4.2.2.2.1⟩
  have RW : k ≠ 0 → wp (w_rd_read_72 (d + 9) k dn (mMost k) 0 M7) fun r M' => fr [127, 129, 130, 131, 132, 133, 134, 136, 137, 138, 139, 140] M M' ∧ (∀ j, j ≠ 4 → M' 127 j = M 127 j) ∧ M' 136 0 = 16 ∧ M' 138 0 = 16 ∧ tTx k n dn TL (fun e => r = [aI 0] ∧ M' 132 2 = e.1 ∧ M' 132 3 = e.2) (fun L => r = [aI 1] ∧ M' 132 2 = 0 ∧ M' 132 3 = -1 ∧ cRw L M') (fun L => r = [aI 1] ∧ M' 132 2 = 0 ∧ M' 132 3 = -1 ∧ rLaw 133 L M' ∧ L.length ≤ 16) := by
    intro hk0
    have hm : mMost k ≤ 16 := by unfold mMost; split <;> omega
    have hK : ∀ j, -1 ≤ hdK (TL.drop j) ∧ hdK (TL.drop j) < 100000 := fun j => by have := hKK (TL.drop j) ⟨j, rfl⟩; omega
    refine wp_mono (rd_read72_lp (d + 6) k (mMost k) dn hdn hk0 (by omega) hm hK (mMost k + 1) [] TL M7 (by simp) (by simp) T7 s7 e72 ⟨h7, by rw [h72]; rfl, by decide, fun i t h => by simp at h⟩) ?_
    rintro r M' ⟨q1, q2⟩
    refine ⟨fr_tr all q1.1 (by simp) (by simp), fun j hj => by rw [q1.1 127 (by simp), k127 j hj], by rw [q1.1 136 (by simp)]; exact h76, q1.2.trans h7, ?_⟩
    unfold tTx
    rw [if_neg hk0]
    cases hp : tRows k n dn (mMost k) (mMost k + 1) [] TL with
    | inl e => rw [hp] at q2; exact q2
    | inr L =>
      rw [hp] at q2
      exact ⟨q2.1, q2.2.1, by rw [q2.2.2.1, e73], q2.2.2.2⟩
  refine wp_if (fun h3 => ?_) (fun h3 => ?_)
  · have : k = 3 := by omega
    subst this
    exact RW (by decide)
  · by_cases hk0 : k = 0
    · exact LW hk0
    · have hm : mMost k = 16 := by unfold mMost; rw [if_neg (by omega)]
      have := RW hk0
      rw [hm] at this
      exact this
/-- the text is taken: rows -/
theorem rows_take_eq (d c mc w : Nat) (L : List aRow3) (M : aM) (h : cRw L M) (hn : L.length ≤ mc) (hm : mc ≤ 16) (h0 : M c 0 = mc) (hc : aLen (c + 1) = 4 * mc) (hne : c + 2 ≤ 138) (hw : w ≤ 3) :
    wp (w_rows_copyFrom (d + 1) c 138 M) fun r M' => r = [] ∧ fr [c, c + 1] M M' ∧ M' c 0 = mc ∧ M' c 2 = ((L.length : Nat) : Int) ∧ ∀ i t, L[i]? = some t → M' (c + 1) (4 * i) = t.1 ∧ M' (c + 1) (4 * i + 1) = t.2.1 ∧ M' (c + 1) (4 * i + 2) = t.2.2 := by
  obtain ⟨h1, h2, h3, h4⟩ := h
  rw [l_rows_copyFrom, h2, h0, hc, show (138 + 1 : Nat) = 139 from rfl, al139]
  rw [show imin ((L.length : Nat) : Int) (mc : Int) = ((L.length : Nat) : Int) by unfold imin; split <;> omega]
  refine wp_up fun M1 f1 g1 => ?_
  rw [g1 2, if_pos rfl]
  have e1 : imin (w32 (((L.length : Nat) : Int) * 4)) (imin ((4 * mc : Nat) : Int) ((64 : Nat) : Int)) = ((4 * L.length : Nat) : Int) := by
    rw [w32_i (by omega) (by omega)]; unfold imin; split <;> split <;> omega
  rw [e1]
  refine wp_I ?_
  refine wp_som (by omega) ?_
  rw [tn_n]
  refine wp_M fun M2 e2 => ?_
  have f2 : fr [c + 1] M1 M2 := fun k hk => by rw [e2]; exact aCpy_ne (by simpa using hk)
  have g2 : ∀ j, j < 4 * L.length → M2 (c + 1) j = M 139 j := fun j hj => by rw [e2, aCpy_eq, if_pos (by omega), f1 139 (by simp; omega)]; simp
  refine wp_ret ⟨rfl, fr_tr f1 f2 (by simp) (by simp), ?_, ?_, fun i t hit => ?_⟩
  · rw [f2 _ (by simp), g1, if_neg (by omega), h0]
  · rw [f2 _ (by simp), g1, if_pos rfl]
  · have hi : i < L.length := by
      apply Decidable.byContradiction
      intro hx
      rw [List.getElem?_eq_none (by omega)] at hit
      cases hit
    have := h4 i t hit
    rw [g2 _ (by omega), g2 _ (by omega), g2 _ (by omega)]
    exact this
