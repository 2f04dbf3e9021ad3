/-! text: the law, lines, purely and in the class -/
theorem kA_up {n : Nat} : ∀ (f : Nat) (l : List Int) (ts : List aTk) (c : aCd) (r : aRes (aCd × List aTk)), kA n f l ts c = some r → kA n (f + 1) l ts c = some r
  | 0, l, ts, c, r, h => by cases h
  | f + 1, l, ts, c, r, h => by
    rw [kA_s] at h ⊢
    split at h
    · next h1 =>
      rw [if_pos h1]
      split at h
      · next h2 => rw [if_pos h2]; exact h
      · next h2 => rw [if_neg h2]; exact kA_up f _ _ _ r h
    · next h1 =>
      rw [if_neg h1]
      split at h
      · exact h
      · next q hp =>
        (try dsimp only)
        revert h
        rcases finB n l q.2 (c ++ q.1) with e | q' | q'
        · exact id
        · exact id
        · exact fun h => kA_up f _ _ _ r h
theorem kA_uni {n f f' : Nat} {l : List Int} {ts : List aTk} {c : aCd} {r r' : aRes (aCd × List aTk)} (h : kA n f l ts c = some r) (h' : kA n f' l ts c = some r') : r = r' := by
  have up : ∀ j f r, kA n f l ts c = some r → kA n (f + j) l ts c = some r := by
    intro j
    induction j with
    | zero => intro f r h; exact h
    | succ j ih => intro f r h; exact kA_up _ _ _ _ r (ih f r h)
  have a := up f' f r h
  have b := up f f' r' h'
  rw [Nat.add_comm f' f, a] at b
  exact Option.some.inj b
theorem pCm_lt {n : Nat} {ts : List aTk} {q : aCd × List aTk} (hv : tsV ts) (h : pCm n ts = .inr q) : q.2.length + 1 ≤ ts.length := by
  obtain ⟨i1, i2, i3⟩ := pCm_in hv h
  have hne : (cEnc q.1).length ≠ 0 := by
    intro h0
    have h1 := cEnc_len q.1
    have h2 : q.1 = [] := List.eq_nil_of_length_eq_zero (by omega)
    have h3 := i3 [] (by decide)
    rw [h2] at h3
    cases h3
  omega
theorem kA_tot {n : Nat} : ∀ (f : Nat) (l : List Int) (ts : List aTk) (c : aCd), tsV ts → ts.length < f → ∃ r, kA n f l ts c = some r
  | 0, l, ts, c, _, h => by omega
  | f + 1, l, ts, c, hv, h => by
    rw [kA_s]
    by_cases h1 : hdK ts = 40 ∨ hdK ts = 262
    · rw [if_pos h1]
      by_cases h2 : opn l = 8
      · rw [if_pos h2]; exact ⟨_, rfl⟩
      · rw [if_neg h2]
        have := tail_len (ts := ts) (by omega)
        exact kA_tot f _ _ _ (tsV_t hv) (by omega)
    · rw [if_neg h1]
      cases hp : pCm n ts with
      | inl e => exact ⟨_, rfl⟩
      | inr q =>
        have hl := pCm_lt hv hp
        obtain ⟨i1, -, -⟩ := pCm_in hv hp
        dsimp only
        have hsf := finB_sfx l q.2 (c ++ q.1) (n := n)
        revert hsf
        rcases finB n l q.2 (c ++ q.1) with e | q' | q'
        · exact fun _ => ⟨_, rfl⟩
        · exact fun _ => ⟨_, rfl⟩
        · intro hsf
          have h3 := hsf q' rfl
          have := sfx_len h3
          exact kA_tot f _ _ _ (tsV_s hv (sfx_tr i1 h3)) (by omega)
/-- what a condition comes to -/
def pCo (n : Nat) (ts : List aTk) : aRes (aCd × List aTk) := (kA n (ts.length + 1) [] ts []).getD (.inl (0, 0))
theorem pCo_kA {n : Nat} {ts : List aTk} (hv : tsV ts) : kA n (ts.length + 1) [] ts [] = some (pCo n ts) := by
  obtain ⟨r, h⟩ := kA_tot (n := n) (ts.length + 1) [] ts [] hv (by omega)
  unfold pCo
  rw [h]
  rfl
theorem pCo_uni {n f : Nat} {ts : List aTk} (hv : tsV ts) {r : aRes (aCd × List aTk)} (h : kA n f [] ts [] = some r) : pCo n ts = r := kA_uni (pCo_kA hv) h
abbrev aLine : Type := Int × aCd × aCd
def pLe (n : Nat) (x : aLine) (ts : List aTk) : aRes (aLine × List aTk) :=
  match pTk n 59 ts with
  | .inl e => .inl e
  | .inr t => .inr (x, t)
def pLw (n : Nat) (ts : List aTk) : aRes (aLine × List aTk) :=
  match pEx n ts.tail with
  | .inl e => .inl e
  | .inr q => if hdK q.2 = 259 then
      (match pCo n q.2.tail with
      | .inl e => .inl e
      | .inr r => pLe n (hdK ts - 256, q.1, r.1) r.2)
    else pLe n (hdK ts - 256, q.1, []) q.2
def pLs (n : Nat) : Nat → aLaw → List aTk → aRes aLaw
  | 0, _, _ => .inl (0, 0)
  | f + 1, L, ts => if hdK ts = 0 then .inr L else if ¬ (256 ≤ hdK ts ∧ hdK ts ≤ 258) then .inl (1, hdP n ts) else if L.length = 16 then .inl (3, hdP n ts)
    else match pLw n ts with
      | .inl e => .inl e
      | .inr q => pLs n f (L ++ [q.1]) q.2
/-! in the class -/
theorem rLn_app {C A : Nat → Int} {n : Nat} : ∀ (L : aLaw) (i : Nat) (x : aLine), rLn C A n i L → rLn C A n (i + L.length) [x] → rLn C A n i (L ++ [x])
  | [], i, x, _, h => h
  | (w, E, B) :: L, i, x, h, h2 => ⟨h.1, rLn_app L (i + 1) x h.2 (by rw [show i + 1 + L.length = i + ((w, E, B) :: L).length by simp; omega]; exact h2)⟩
theorem rLn_le {C A : Nat → Int} {n n' : Nat} (hn : n ≤ n') : ∀ (L : aLaw) (i : Nat), rLn C A n i L → rLn C A n' i L
  | [], _, _ => trivial
  | (w, E, B) :: L, i, h => by
    obtain ⟨⟨p, a, b, c, e, f, g⟩, h2⟩ := h
    exact ⟨⟨p, a, b, c, e, Nat.le_trans f hn, g⟩, rLn_le hn L (i + 1) h2⟩
theorem seg1_get {A : Nat → Int} : ∀ (a : List Int) (p : Nat), seg1 A p a → ∀ k, (h : k < a.length) → A (p + k) = a[k]
  | [], p, _, k, h => by simp at h
  | x :: a, p, hs, 0, h => hs.1
  | x :: a, p, hs, k + 1, h => by
    have := seg1_get a (p + 1) hs.2 k (by simpa using h)
    rw [show p + (k + 1) = p + 1 + k by omega]
    exact this
/-- the draft of the law in the class -/
def cLw (L : aLaw) (C : List Int) (M : aM) : Prop := cDe C M ∧ M 136 0 = 16 ∧ M 136 2 = ((L.length : Nat) : Int) ∧ L.length ≤ 16 ∧ rLn (M 137) (M 134) C.length 0 L
/-- but for what reading the law sets, the class stays -/
def lF (M M' : aM) : Prop := fr [132, 133, 134, 136, 137, 140] M M' ∧ M' 136 0 = M 136 0
theorem lF_refl (M : aM) : lF M M := ⟨fr_refl _ _, rfl⟩
theorem lF_w {l : List Nat} {M M' : aM} (h : fr l M M') (h1 : ∀ k, k ∈ l → k ∈ [132, 133, 134, 136, 137, 140]) (h2 : 136 ∉ l) : lF M M' := ⟨fr_w h h1, by rw [h 136 h2]⟩
theorem lF_tt {M M1 M2 : aM} (h1 : lF M M1) (h2 : lF M1 M2) : lF M M2 := ⟨fr_tt h1.1 h2.1, h2.2.trans h1.2⟩
theorem dF_l {M M' : aM} (h : dFr M M') : lF M M' := lF_w h.1 (by simp) (by simp)
theorem lF_k {M M' : aM} (h : lF M M') {k : Nat} (hk : k ≠ 132 ∧ k ≠ 133 ∧ k ≠ 134 ∧ k ≠ 136 ∧ k ≠ 137 ∧ k ≠ 140) : M' k = M k := h.1 k (by simp; omega)
theorem cT_l {TL : List aTk} {n : Nat} {M M' : aM} (h : cT TL n M) (f : lF M M') : cT TL n M' := cT_fr h fun k hk => lF_k f (by omega)
/-- what a line of the law comes to in the class -/
def lW (TL : List aTk) (n : Nat) (L : aLaw) (C : List Int) (p : aRes (aLine × List aTk)) (M M' : aM) : Prop := lF M M' ∧ match p with
  | .inl e => M' 132 2 = e.1 ∧ M' 132 3 = e.2 ∧ e.1 ≠ 0
  | .inr q => M' 132 2 = 0 ∧ M' 132 3 = M 132 3 ∧ cS TL n q.2 M' ∧ sfx TL q.2 ∧ ∃ C', cLw (L ++ [q.1]) C' M' ∧ C'.length + q.2.length ≤ 399
theorem rd_l49_F (d : Nat) (w p q : Int) {M : aM} (h0 : M 132 2 ≠ 0) (h6 : M 136 0 = 16) (l : Nat) (h2 : M 136 2 = l) : wp (w_rd_lawLine_49 (d + 3) w p q M) fun r M' => r = [] ∧ lF M M' ∧ M' 132 = M 132 := by
  rw [l_rd_lawLine_49]
  refine wp_neg h0 ?_
  obtain ⟨v, M2, e, ⟨y, rfl⟩, f2, z2⟩ := rows_put_any (d + 2) 136 w p q (M 133 3) M h6 l h2 al137
  refine wp_eI e ?_
  exact wp_ret ⟨rfl, ⟨fr_w f2 (by simp), z2⟩, f2 132 (by simp)⟩
theorem rd_l49_S (d : Nat) (w : Int) {TL : List aTk} {n : Nat} {ts : List aTk} {L : aLaw} {C : List Int} {E B : aCd} {M0 M : aM} (hT : cT TL n M) (hS : cS TL n ts M) (h0 : M 132 2 = 0) (hx : sfx TL ts) (hL : cLw L C M0) (hl : L.length < 16) (hf : lF M0 M) (h3 : M 132 3 = M0 132 3) (hC : cDe (C ++ cEnc E ++ cEnc B) M) (h67 : M 136 = M0 136 ∧ M 137 = M0 137) (hb : (C ++ cEnc E ++ cEnc B).length + ts.length ≤ 399) :
    wp (w_rd_lawLine_49 (d + 3) w ((C.length : Nat) : Int) (((C ++ cEnc E).length : Nat) : Int) M) fun r M' => r = [] ∧ lW TL n L C (pLe n (w, E, B) ts) M0 M' := by
  obtain ⟨c1, c2, c3, c4, c5⟩ := hL
  have tk := rd_take_S (d + 1) 59 (by decide) hT hS h0
  rw [l_rd_lawLine_49]
  refine wp_pos h0 ?_
  unfold pLe
  cases hp : pTk n 59 ts with
  | inl e =>
    rw [hp] at tk
    refine wp_bV tk ?_
    intro M1 g1
    have m6 : M1 136 = M0 136 := (rdF_k g1.1 (by decide)).trans h67.1
    obtain ⟨v, M2, e2, ⟨y, rfl⟩, f2, z2⟩ := rows_put_any (d + 2) 136 w ((C.length : Nat) : Int) (((C ++ cEnc E).length : Nat) : Int) (M1 133 3) M1 (by rw [m6]; exact c2) L.length (by rw [m6]; exact c3) al137
    refine wp_eI e2 ?_
    refine wp_ret ⟨rfl, lF_tt hf (lF_tt (lF_w g1.1.1 (by simp) (by simp)) ⟨fr_w f2 (by simp), z2⟩), ?_, ?_, g1.2.2.2⟩
    · rw [f2 132 (by simp), g1.2.1]
    · rw [f2 132 (by simp), g1.2.2.1]
  | inr t =>
    rw [hp] at tk
    have ht := pTk_t hp
    refine wp_bV tk ?_
    intro M1 g1
    have m6 : M1 136 = M0 136 := (rdF_k g1.1 (by decide)).trans h67.1
    have m7 : M1 137 = M0 137 := (rdF_k g1.1 (by decide)).trans h67.2
    have m3 : M1 133 3 = (((C ++ cEnc E ++ cEnc B).length : Nat) : Int) := by rw [rdF_k g1.1 (by decide)]; exact hC.1
    refine wp_bI (P := fun v M' => v = 1 ∧ fr [136, 137] M1 M' ∧ M' 136 0 = 16 ∧ M' 136 2 = ((L.length + 1 : Nat) : Int) ∧ ∀ j, M' 137 j = if j = 4 * L.length then w else if j = 4 * L.length + 1 then ((C.length : Nat) : Int) else if j = 4 * L.length + 2 then (((C ++ cEnc E).length : Nat) : Int) else if j = 4 * L.length + 3 then M1 133 3 else M1 137 j) (wp_mono (rows_put_lt (d + 2) 136 L.length 16 w _ _ _ M1 (by rw [m6]; exact c2) (by rw [m6]; exact c3) hl (by omega) al137) fun r M' q => ⟨_, q.1, rfl, q.2⟩) ?_
    rintro v M2 ⟨rfl, f2, k0, k2, kc⟩
    have hC2 : cDe (C ++ cEnc E ++ cEnc B) M2 := by
      unfold cDe at hC ⊢
      rw [f2 133 (by simp), f2 134 (by simp), rdF_k g1.1 (by decide), rdF_k g1.1 (by decide)]
      exact hC
    have ltail : t.length ≤ ts.length := by rw [ht]; simp
    refine wp_ret ⟨rfl, lF_tt hf (lF_tt (lF_w g1.1.1 (by simp) (by simp)) ⟨fr_w f2 (by simp), by rw [k0, m6, c2]⟩), by rw [f2 132 (by simp), g1.2.1], by rw [f2 132 (by simp), g1.2.2.1, h3], cS_fr g1.2.2.2 (f2 132 (by simp)), by rw [ht]; exact sfx_tr hx (sfx_t _), C ++ cEnc E ++ cEnc B, ⟨hC2, k0, by rw [k2]; simp, by simp; omega, ?_⟩, by dsimp only; omega⟩
    have s2 := hC2.2.2
    have s0 := c1.2.2
    have a1 : ∀ k, k < C.length → M2 134 k = M0 134 k := by
      intro k hk
      rw [List.append_assoc, seg1_app] at s2
      have x1 := seg1_get C 0 s2.1 k hk
      have x2 := seg1_get C 0 s0 k hk
      rw [Nat.zero_add] at x1 x2
      rw [x1, x2]
    have a2 : ∀ k, k < 4 * L.length → M2 137 k = M0 137 k := by
      intro k hk
      rw [kc, if_neg (by omega), if_neg (by omega), if_neg (by omega), if_neg (by omega), m7]
    refine rLn_app L 0 _ (rLn_le (by rw [List.length_append, List.length_append]; omega) L 0 (rLn_V (N := L.length) a1 a2 L 0 (by omega) c5)) ?_
    rw [Nat.zero_add]
    refine ⟨⟨C.length, ?_, ?_, ?_, ?_, ?_, ?_, ?_⟩, trivial⟩
    · rw [kc, if_pos rfl]
    · rw [kc, if_neg (by omega), if_pos rfl]
    · rw [kc, if_neg (by omega), if_neg (by omega), if_pos rfl, List.length_append]
    · rw [kc, if_neg (by omega), if_neg (by omega), if_neg (by omega), if_pos rfl, m3, List.length_append, List.length_append]
    · rw [List.length_append, List.length_append]; exact Nat.le_refl _
    · rw [List.append_assoc, seg1_app, seg1_app, Nat.zero_add] at s2
      exact s2.2.1
    · rw [List.append_assoc, seg1_app, seg1_app, Nat.zero_add] at s2
      exact s2.2.2
theorem rd_lawLine_eq (d : Nat) (w : Int) {TL : List aTk} {n : Nat} (hKK : ∀ ts, sfx TL ts → 0 ≤ hdK ts ∧ hdK ts < 10000) (hV : tsV TL) {ts : List aTk} {L : aLaw} {C : List Int} {M : aM} (hT : cT TL n M) (hS : cS TL n ts M) (h0 : M 132 2 = 0) (hx : sfx TL ts) (hw : w = hdK ts - 256) (hk : 256 ≤ hdK ts) (hL : cLw L C M) (hl : L.length < 16) (hb : C.length + ts.length ≤ 400) : wp (w_rd_lawLine (d + 9) w M) fun r M' => r = [] ∧ lW TL n L C (pLw n ts) M M' := by
  have l1 := tail_len (ts := ts) (by omega)
  have hx1 : sfx TL ts.tail := sfx_tr hx (sfx_t _)
  rw [l_rd_lawLine]
  refine wp_bV (rd_step_S (d + 7) hT hS h0 (by omega)) ?_
  intro M1 g1
  have T1 := cT_rd hT g1.1
  have C1 := cDe_rd hL.1 g1.1
  rw [C1.1]
  refine wp_I ?_
  have ex := rd_ex_eq (d + 4) hKK (by omega) hx1 T1 g1.2.2.2 g1.2.1 C1 (by omega) (by omega)
  unfold pLw
  rw [← hw]
  have keep : ∀ {M2 : aM}, xF M1 M2 → M2 136 = M 136 ∧ M2 137 = M 137 := fun f => ⟨(xF_k f (by decide)).trans (rdF_k g1.1 (by decide)), (xF_k f (by decide)).trans (rdF_k g1.1 (by decide))⟩
  cases hp : pEx n ts.tail with
  | inl e =>
    rw [hp] at ex
    refine wp_bV ex ?_
    intro M2 b2
    refine wp_I ?_
    refine wp_neg (xB_n b2) ?_
    have k2 := keep b2.1
    refine wp_mono (rd_l49_F (d + 5) w _ _ (xB_n b2) (by rw [k2.1]; exact hL.2.1) L.length (by rw [k2.1]; exact hL.2.2.1)) ?_
    rintro r M' ⟨q1, q2, q3⟩
    exact ⟨q1, lF_tt (lF_tt (lF_w g1.1.1 (by simp) (by simp)) (dF_l (xF_d b2.1))) q2, by rw [q3]; exact b2.2.1, by rw [q3]; exact b2.2.2.1, b2.2.2.2⟩
  | inr q =>
    rw [hp] at ex
    obtain ⟨i1, i2, i3⟩ := pEx_in (tsV_s hV hx1) hp
    refine wp_bV ex ?_
    intro M2 b2
    have k2 := keep b2.1
    have T2 := cT_x T1 b2.1
    obtain ⟨j, e1, e2, e3, e4, e5, e6⟩ := id b2.2.2.2.1
    have hxq : sfx TL q.2 := sfx_tr hx1 i1
    have f12 : lF M M2 := lF_tt (lF_w g1.1.1 (by simp) (by simp)) (dF_l (xF_d b2.1))
    have h3 : M2 132 3 = M 132 3 := by rw [b2.2.2.1, g1.2.2.1]
    have lC : (C ++ cEnc q.1).length = C.length + (cEnc q.1).length := List.length_append
    rw [b2.2.2.2.2.1]
    refine wp_I ?_
    refine wp_pos b2.2.1 ?_
    rw [e4]
    dsimp only
    refine wp_if (fun h9 => ?_) (fun h9 => ?_)
    · rw [if_pos h9]
      have l2 := tail_len (ts := q.2) (by omega)
      have hx2 : sfx TL q.2.tail := sfx_tr hxq (sfx_t _)
      refine wp_bV (rd_step_S (d + 7) T2 b2.2.2.2.1 b2.2.1 (by omega)) ?_
      intro M3 g3
      have T3 := cT_rd T2 g3.1
      rw [l_rd_condition]
      have hkA := pCo_kA (n := n) (tsV_s hV hx2)
      have go : wp (aLet (aUp M3 132 6 0) fun M12 => aLet (aUp M12 132 7 0) fun M13 => aLet (aUp M13 132 8 0) fun M14 => w_rd_condition_19 (d + 7) 1 0 M14) fun r M' => r = [] ∧ dFr M3 M' ∧ cRs TL n (C ++ cEnc q.1) (pCo n q.2.tail) M3 M' := by
        refine wp_up fun Ma fa ga => ?_
        refine wp_up fun Mb fb gb => ?_
        refine wp_up fun Mc fc gc => ?_
        have F : fr [132] M3 Mc := fr_tt fa (fr_tt fb fc)
        have G : ∀ j, j ≠ 6 → j ≠ 7 → j ≠ 8 → Mc 132 j = M3 132 j := fun j x1 x2 x3 => by rw [gc, if_neg x3, gb, if_neg x2, ga, if_neg x1]
        have dd : dFr M3 Mc := ⟨fr_w F (by simp), fun j a => G j (by omega) (by omega) (by omega), fun j _ => by rw [F 133 (by simp)]⟩
        have C3 := cDe_rd b2.2.2.2.2 g3.1
        have s0 : dS TL n (C ++ cEnc q.1) [] q.2.tail [] Mc := by
          refine ⟨cT_d T3 dd, cS_up g3.2.2.2 fun j hj => G j (by omega) (by omega) (by omega), by rw [G 2 (by decide) (by decide) (by decide)]; exact g3.2.1, ?_, ⟨?_, ?_, ?_, trivial⟩, trivial, by decide, hx2, by rw [lC]; show _ + 0 + 0 + _ ≤ 399; omega⟩
          · rw [show C ++ cEnc q.1 ++ cEnc [] = C ++ cEnc q.1 from List.append_nil _]
            unfold cDe at C3 ⊢
            rw [F 133 (by simp), F 134 (by simp)]
            exact C3
          · rw [gc, if_neg (by decide), gb, if_neg (by decide), ga, if_pos rfl]; rfl
          · rw [gc, if_neg (by decide), gb, if_pos rfl]; rfl
          · rw [gc, if_pos rfl]; rfl
        refine wp_mono (rd_cond_lp d hKK hV _ [] q.2.tail [] Mc 0 _ s0 (by omega) hkA) ?_
        rintro r M' ⟨q1, q2, q3⟩
        refine ⟨q1, dFr_tt dd q2, ?_⟩
        revert q3
        unfold cRs
        rcases pCo n q.2.tail with e | r'
        · exact id
        · exact fun q3 => ⟨q3.1.trans (G 3 (by decide) (by decide) (by decide)), q3.2⟩
      refine wp_bV go ?_
      rintro M4 ⟨d4, r4⟩
      have f14 : lF M M4 := lF_tt f12 (lF_tt (lF_w g3.1.1 (by simp) (by simp)) (dF_l d4))
      have k4 : M4 136 = M 136 ∧ M4 137 = M 137 := ⟨((dFr_k d4 (by decide)).trans (rdF_k g3.1 (by decide))).trans k2.1, ((dFr_k d4 (by decide)).trans (rdF_k g3.1 (by decide))).trans k2.2⟩
      revert r4
      unfold cRs
      rcases pCo n q.2.tail with e | r'
      · intro r4
        refine wp_mono (rd_l49_F (d + 5) w _ _ (by rw [r4.1]; exact r4.2.2) (by rw [k4.1]; exact hL.2.1) L.length (by rw [k4.1]; exact hL.2.2.1)) ?_
        rintro r M' ⟨q1, q2, q3⟩
        exact ⟨q1, lF_tt f14 q2, by rw [q3]; exact r4.1, by rw [q3]; exact r4.2.1, r4.2.2⟩
      · intro r4
        obtain ⟨y1, y2, y3, y4, y5, y6⟩ := r4
        exact rd_l49_S (d + 5) w (cT_d T3 d4) y3 y2 y6 hL hl f14 (by rw [y1, g3.2.2.1, h3]) y4 k4 (by rw [List.length_append]; omega)
    · rw [if_neg h9]
      have := rd_l49_S (d + 5) w (B := []) T2 b2.2.2.2.1 b2.2.1 hxq hL hl f12 h3 (by rw [show C ++ cEnc q.1 ++ cEnc [] = C ++ cEnc q.1 from List.append_nil _]; exact b2.2.2.2.2) k2 (by rw [show C ++ cEnc q.1 ++ cEnc [] = C ++ cEnc q.1 from List.append_nil _, lC]; omega)
      exact this
theorem rd_law72_lp (d : Nat) (dn : Int) {TL : List aTk} {n : Nat} (hKK : ∀ ts, sfx TL ts → 0 ≤ hdK ts ∧ hdK ts < 10000) (hV : tsV TL) : ∀ (f : Nat) (L : aLaw) (C : List Int) (ts : List aTk) (M : aM), L.length + f = 17 → L.length ≤ 16 → cT TL n M → cS TL n ts M → M 132 2 = 0 → sfx TL ts → cLw L C M → C.length + ts.length ≤ 400 →
    wp (w_rd_read_72 (d + 9) 0 dn 16 ((L.length : Nat) : Int) M) fun r M' => lF M M' ∧ match pLs n f L ts with
      | .inl e => r = [aI 0] ∧ M' 132 2 = e.1 ∧ M' 132 3 = e.2
      | .inr L' => r = [aI 1] ∧ M' 132 2 = 0 ∧ M' 132 3 = M 132 3 ∧ ∃ C', cLw L' C' M' := by
  intro f
  induction f with
  | zero => intro L C ts M h hl; omega
  | succ f ih =>
    intro L C ts M h hl hT hS h0 hx hL hb
    obtain ⟨j, k1, k2, k3, k4, k5, k6⟩ := id hS
    have hKq := hKK ts hx
    have e5 : w32 (((L.length : Nat) : Int) + 1) = ((L.length + 1 : Nat) : Int) := by rw [w32_i (by omega) (by omega)]; rfl
    rw [l_rd_read_72, k4]
    unfold pLs
    refine wp_neg (by omega) ?_
    refine wp_pos h0 ?_
    refine wp_if (fun hz => ?_) (fun hz => ?_)
    · rw [if_pos hz]
      refine wp_pos h0 ?_
      exact wp_ret ⟨lF_refl _, rfl, h0, rfl, C, hL⟩
    rw [if_neg hz, w32_i (by omega) (by omega)]
    refine wp_I ?_
    have bad : ∀ (x : Int), x ≠ 0 → wp (bndV (w_rd_fail (d + 9) x M) fun M18 => w_rd_read_186 (d + 9) 0 dn 16 ((L.length : Nat) : Int) M18) fun r M' => lF M M' ∧ (r = [aI 0] ∧ M' 132 2 = x ∧ M' 132 3 = hdP n ts) := by
      intro x hx
      refine wp_bV (rd_fail_eq _ x hx h0) ?_
      intro M1 g1
      rw [l_rd_read_186, e5]
      refine wp_I ?_
      rw [l_rd_read_72]
      have fin : wp (some ([aI 0], M1)) fun r M' => lF M M' ∧ (r = [aI 0] ∧ M' 132 2 = x ∧ M' 132 3 = hdP n ts) := wp_ret ⟨lF_w g1.1.1 (by simp) (by simp), rfl, g1.2.1, by rw [g1.2.2.1, k6]⟩
      refine wp_if (fun _ => wp_neg (gF_n g1) fin) (fun _ => wp_neg (gF_n g1) (wp_neg (gF_n g1) fin))
    refine wp_if (fun h1 => ?_) (fun h1 => ?_)
    · rw [if_pos (show ¬ (256 ≤ hdK ts ∧ hdK ts ≤ 258) by omega)]
      exact bad 1 (by decide)
    refine wp_pos rfl ?_
    refine wp_if (fun h2 => ?_) (fun h2 => ?_)
    · rw [if_pos (show ¬ (256 ≤ hdK ts ∧ hdK ts ≤ 258) by omega)]
      exact bad 1 (by decide)
    rw [if_neg (show ¬ ¬ (256 ≤ hdK ts ∧ hdK ts ≤ 258) by omega)]
    refine wp_if (fun h3 => ?_) (fun h3 => ?_)
    · rw [if_neg (show ¬ L.length = 16 by omega)]
      refine wp_pos rfl ?_
      refine wp_bV (rd_lawLine_eq d (hdK ts - 256) hKK hV hT hS h0 hx rfl (by omega) hL (by omega) hb) ?_
      intro M1 g1
      rw [l_rd_read_186, e5]
      refine wp_I ?_
      cases hp : pLw n ts with
      | inl e =>
        rw [hp] at g1
        obtain ⟨f1, a1, a2, a3⟩ := g1
        rw [l_rd_read_72]
        have fin : wp (some ([aI 0], M1)) fun r M' => lF M M' ∧ (r = [aI 0] ∧ M' 132 2 = e.1 ∧ M' 132 3 = e.2) := wp_ret ⟨f1, rfl, a1, a2⟩
        refine wp_if (fun _ => wp_neg (by rw [a1]; exact a3) fin) (fun _ => wp_neg (by rw [a1]; exact a3) (wp_neg (by rw [a1]; exact a3) fin))
      | inr q =>
        rw [hp] at g1
        obtain ⟨f1, a1, a2, a3, a4, C', a5, a6⟩ := g1
        have ih2 := ih (L ++ [q.1]) C' q.2 M1 (by simp; omega) (by simp; omega) (cT_l hT f1) a3 a1 a4 a5 (by omega)
        rw [show (L ++ [q.1]).length = L.length + 1 by simp] at ih2
        refine wp_mono ih2 ?_
        rintro r M' ⟨q1, q2⟩
        refine ⟨lF_tt f1 q1, ?_⟩
        dsimp only
        cases hp2 : pLs n f (L ++ [q.1]) q.2 with
        | inl e => rw [hp2] at q2; exact q2
        | inr L' => rw [hp2] at q2; exact ⟨q2.1, q2.2.1, by rw [q2.2.2.1, a2], q2.2.2.2⟩
    · rw [if_pos (show L.length = 16 by omega)]
      exact bad 3 (by decide)
