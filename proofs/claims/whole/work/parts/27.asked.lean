/-! What the law says in the class's worlds. -/
def isWo (a : Nat) : Prop := a = 1 ∨ a = 32 ∨ a = 63
theorem wl2 {a : Nat} (h : isWo a) : aLen (a + 2) = 10 := by rcases h with h | h | h <;> subst h <;> rfl
theorem wl3 {a : Nat} (h : isWo a) : aLen (a + 3) = 10 := by rcases h with h | h | h <;> subst h <;> rfl
theorem wl4 {a : Nat} (h : isWo a) : aLen (a + 4) = 10 := by rcases h with h | h | h <;> subst h <;> rfl
theorem wl5 {a : Nat} (h : isWo a) : aLen (a + 5) = 10 := by rcases h with h | h | h <;> subst h <;> rfl
theorem wl7 {a : Nat} (h : isWo a) : aLen (a + 7) = 400 := by rcases h with h | h | h <;> subst h <;> rfl
theorem wl8 {a : Nat} (h : isWo a) : aLen (a + 8) = 32 := by rcases h with h | h | h <;> subst h <;> rfl
theorem wl10 {a : Nat} (h : isWo a) : aLen (a + 10) = 64 := by rcases h with h | h | h <;> subst h <;> rfl
theorem wl12 {a : Nat} (h : isWo a) : aLen (a + 12) = 64 := by rcases h with h | h | h <;> subst h <;> rfl
theorem wl14 {a : Nat} (h : isWo a) : aLen (a + 14) = 64 := by rcases h with h | h | h <;> subst h <;> rfl
theorem wl16 {a : Nat} (h : isWo a) : aLen (a + 16) = 32 := by rcases h with h | h | h <;> subst h <;> rfl
theorem wl18 {a : Nat} (h : isWo a) : aLen (a + 18) = 600 := by rcases h with h | h | h <;> subst h <;> rfl
theorem wl20 {a : Nat} (h : isWo a) : aLen (a + 20) = 48 := by rcases h with h | h | h <;> subst h <;> rfl
theorem wl22 {a : Nat} (h : isWo a) : aLen (a + 22) = 32 := by rcases h with h | h | h <;> subst h <;> rfl
theorem wl24 {a : Nat} (h : isWo a) : aLen (a + 24) = 56 := by rcases h with h | h | h <;> subst h <;> rfl
theorem wl26 {a : Nat} (h : isWo a) : aLen (a + 26) = 80 := by rcases h with h | h | h <;> subst h <;> rfl
theorem wl28 {a : Nat} (h : isWo a) : aLen (a + 28) = 36 := by rcases h with h | h | h <;> subst h <;> rfl
theorem wl29 {a : Nat} (h : isWo a) : aLen (a + 29) = 10 := by rcases h with h | h | h <;> subst h <;> rfl
theorem wl30 {a : Nat} (h : isWo a) : aLen (a + 30) = 10 := by rcases h with h | h | h <;> subst h <;> rfl
def mo (w : Int) : Int := if w = 0 then 999 else if w = 1 then 24 else 9
noncomputable def un (F : Nat → Int) (w : Int) : Int := if w = 0 then w32 (F 4 + 1) else if w = 1 then w32 (6 + F 3) else idiv (F 7) 9
theorem law_held_eq (d : Nat) (w v : Int) (M : aM) : w_law_held (d + 1) w v M = some ([aI (cl (mo w) v)], M) := by
  rw [u_law_held]; unfold mo cl
  by_cases h : w = 0
  · rw [if_pos h, if_pos h]
  · rw [if_neg h, if_neg h]
    by_cases h : w = 1
    · rw [if_pos h, if_pos h]
    · rw [if_neg h, if_neg h]
theorem law_unsaid_eq (d f : Nat) (w : Int) (F : Nat → Int) (M : aM) (hf : aLen f = 10) (hF : ∀ k, k < 10 → M f k = F (k + 1)) : w_law_unsaid (d + 1) w f M = some ([aI (un F w)], M) := by
  rw [u_law_unsaid, hf, if_neg (by decide)]; unfold un
  by_cases h : w = 0
  · rw [if_pos h, if_pos h, inb_s (by decide) (by decide), hF 3 (by decide)]
  · rw [if_neg h, if_neg h]
    by_cases h : w = 1
    · rw [if_pos h, if_pos h, inb_s (by decide) (by decide), hF 2 (by decide)]
    · rw [if_neg h, if_neg h, inb_s (by decide) (by decide), hF 6 (by decide)]
theorem law_value_eq (d e f p : Nat) (A F : Nat → Int) (l : List (Int × Int)) (b : Bool) (M : aM) (he1 : aLen (e + 1) = 400) (he2 : aLen (e + 2) = 32) (hf : aLen f = 10) (hne : f ≠ e + 2) (hA : M (e + 1) = A) (hF : ∀ k, k < 10 → M f k = F (k + 1)) (hq : p + (cEnc l).length ≤ 400) (hs : seg1 A p (cEnc l)) (ht : iTy l [] = some [b]) :
    wp (w_law_value (d + 2) e p ((p + (cEnc l).length : Nat) : Int) f M) fun r M' => r = [aI ((iEv F l []).headD 0)] ∧ fr [e + 2] M M' := by
  rw [l_law_value]
  refine wp_I ?_
  rw [show imax 0 (p : Int) = p by unfold imax; split <;> omega]
  refine wp_mono (law_value_lp d e f A F he1 he2 hf hne l p (p + (cEnc l).length) [] [b] [] M hA hF rfl hq hs rfl (by simp) ht trivial) ?_
  rintro r M' ⟨h1, h2, h3⟩
  exact ⟨h1, h3⟩
theorem law_tell_lp (d e f n : Nat) (A F : Nat → Int) (w : Int) (he1 : aLen (e + 1) = 400) (he2 : aLen (e + 2) = 32) (he4 : aLen (e + 4) = 64) (hf : aLen f = 10) (hne : f ≠ e + 2) (hn : n ≤ 400) : ∀ (L : aLaw) (i : Nat) (M : aM), M (e + 1) = A → (∀ k, k < 10 → M f k = F (k + 1)) → ((i + L.length : Nat) : Int) = M (e + 3) 2 → i + L.length ≤ 16 → rLn (M (e + 4)) A n i L → (∀ x, x ∈ L → okLine x) →
    wp (w_law_tell_2 (d + 4) e w f i M) fun r M' => r = [aI (cl (mo w) ((tellL F w L).getD (un F w)))] ∧ fr [e + 2] M M'
  | [], i, M, hA, hF, hl, h16, hv, ho => by
    rw [l_law_tell_2]
    simp only [List.length_nil] at hl
    refine wp_neg (by omega) ?_
    refine wp_eI (law_unsaid_eq _ f w F M hf hF) ?_
    refine wp_eI (law_held_eq _ _ _ _) ?_
    exact wp_ret ⟨rfl, fr_refl _ _⟩
  | (w', E, B) :: L, i, M, hA, hF, hl, h16, hv, ho => by
    rw [l_law_tell_2]
    simp only [List.length_cons] at hl h16
    obtain ⟨⟨p, v1, v2, v3, v4, v5, v6, v7⟩, hv⟩ := hv
    refine wp_pos (by omega) ?_
    have next : ∀ M1 : aM, fr [e + 2] M M1 → ¬ (w' = w ∧ (B = [] ∨ (iEv F B []).headD 0 = 1)) → wp (w_law_tell_2 (d + 4) e w f ((i : Int) + 1) M1) fun r M' => r = [aI (cl (mo w) ((tellL F w ((w', E, B) :: L)).getD (un F w)))] ∧ fr [e + 2] M M' := by
      intro M1 f1 hne'
      have ih := law_tell_lp d e f n A F w he1 he2 he4 hf hne hn L (i + 1) M1 (by rw [f1 _ (by simp), hA]) (by rw [f1 _ (by simp [hne])]; exact hF) (by rw [f1 _ (by simp)]; omega) (by omega) (by rw [f1 _ (by simp)]; exact hv) (fun x hx => ho x (List.mem_cons_of_mem _ hx))
      refine wp_mono ih ?_
      rintro r M' ⟨e, f⟩
      refine ⟨?_, fr_tt f1 f⟩
      simp only [tellL, hne', if_false]
      exact e
    have hol := ho (w', E, B) (by simp)
    refine wp_eI (rows_cell_eq _ (e + 3) i 0 M (by omega) (by decide) (by rw [he4]; omega) (by omega)) ?_
    have v1' : M (e + 4) (4 * i + 0) = w' := v1
    rw [show (e + 3) + 1 = e + 4 from rfl, v1']
    have fin : ∀ M1 : aM, fr [e + 2] M M1 → w' = w → (B = [] ∨ (iEv F B []).headD 0 = 1) → wp (bndI (w_law_value (d + 4) e p ((p + (cEnc E).length : Nat) : Int) f M1) fun y24 M23 => bndI (w_law_held (d + 4) w y24 M23) fun y28 M27 => some ([aI y28], M27)) fun r M' => r = [aI (cl (mo w) ((tellL F w ((w', E, B) :: L)).getD (un F w)))] ∧ fr [e + 2] M M' := by
      intro M1 f1 hw hB
      obtain ⟨b, hb⟩ := hol.1
      refine wp_bI (wp_mono (law_value_eq _ e f p A F E b M1 he1 he2 hf hne (by rw [f1 _ (by simp), hA]) (by rw [f1 _ (by simp [hne])]; exact hF) (by omega) v6 hb) ?_) (P := fun v M' => v = (iEv F E []).headD 0 ∧ fr [e + 2] M1 M') ?_
      · rintro r M' ⟨e, f⟩; exact ⟨_, e, rfl, f⟩
      · rintro v M2 ⟨e, f2⟩
        subst e
        refine wp_eI (law_held_eq _ _ _ _) ?_
        refine wp_ret ⟨?_, fr_tt f1 f2⟩
        simp only [tellL, hw, hB, and_self, if_true, Option.getD_some]
    refine wp_if (fun hw => ?_) (fun hw => ?_)
    · refine wp_eI (rows_cell_eq _ (e + 3) i 2 M (by omega) (by decide) (by rw [he4]; omega) (by omega)) ?_
      refine wp_eI (rows_cell_eq _ (e + 3) i 3 M (by omega) (by decide) (by rw [he4]; omega) (by omega)) ?_
      rw [show (e + 3) + 1 = e + 4 from rfl, v3, v4]
      by_cases hB : B = []
      · subst hB
        refine wp_pos (by simp [cEnc]) ?_
        refine wp_eI (rows_cell_eq _ (e + 3) i 1 M (by omega) (by decide) (by rw [he4]; omega) (by omega)) ?_
        rw [show (e + 3) + 1 = e + 4 from rfl, v2]
        exact fin M (fr_refl _ _) hw (Or.inl rfl)
      · have hB0 : (cEnc B).length ≠ 0 := fun h => hB (cEnc_nil h)
        refine wp_neg (by omega) ?_
        rcases hol.2 with ht | ht
        · exact absurd ht hB
        have ht : iTy B [] = some [true] := ht
        refine wp_bI (wp_mono (law_value_eq _ e f (p + (cEnc E).length) A F B true M he1 he2 hf hne hA hF (by omega) v7 ht) ?_) (P := fun v M' => v = (iEv F B []).headD 0 ∧ fr [e + 2] M M') ?_
        · rintro r M' ⟨e, f⟩; exact ⟨_, e, rfl, f⟩
        · rintro v M1 ⟨ev, f1⟩
          rcases iEv_01 (F := F) ht with h01 | h01
          · refine wp_pos (by rw [ev, h01]) ?_
            refine wp_I ?_
            (try simp (disch := omega) only [w32_i, tn_l, tn_n, tn_r, tn_s, tn_1, Nat.add_sub_cancel, Int.reduceToNat, Int.toNat_zero, Int.toNat_one, al3, al4, al5, al6, al8, al9, al11, al13, al15, al17, al19, al21, al23, al25, al27, al29, al30, al31, al95, al96, al128, al129, al130, al131, al134, al135, al137, al139, al140, al142, al143, al144, al145, al147, al148, al149, al151, al152, al153, al154, al155, al156, al158, al159, al160, al161, al162, al163, al164, al165, al166, al167, al168, al169, al170, al171, al172, al173, al174, al175, al176])
            refine next M1 f1 fun hh => ?_
            rcases hh.2 with h | h
            · exact hB h
            · omega
          · refine wp_neg (by rw [ev, h01]; decide) ?_
            refine wp_eI (rows_cell_eq _ (e + 3) i 1 M1 (by rw [f1 _ (by simp)]; omega) (by decide) (by rw [he4]; omega) (by omega)) ?_
            rw [show (e + 3) + 1 = e + 4 from rfl, f1 (e + 4) (by simp), v2]
            exact fin M1 f1 hw (Or.inr h01)
    · refine wp_I ?_
      (try simp (disch := omega) only [w32_i, tn_l, tn_n, tn_r, tn_s, tn_1, Nat.add_sub_cancel, Int.reduceToNat, Int.toNat_zero, Int.toNat_one, al3, al4, al5, al6, al8, al9, al11, al13, al15, al17, al19, al21, al23, al25, al27, al29, al30, al31, al95, al96, al128, al129, al130, al131, al134, al135, al137, al139, al140, al142, al143, al144, al145, al147, al148, al149, al151, al152, al153, al154, al155, al156, al158, al159, al160, al161, al162, al163, al164, al165, al166, al167, al168, al169, al170, al171, al172, al173, al174, al175, al176])
      exact next M (fr_refl _ _) fun h => hw h.1
theorem law_tell_eq (d e f : Nat) (L : aLaw) (F : Nat → Int) (w : Int) (M : aM) (he1 : aLen (e + 1) = 400) (he2 : aLen (e + 2) = 32) (he4 : aLen (e + 4) = 64) (hf : aLen f = 10) (hne : f ≠ e + 2) (hL : rLaw e L M) (hok : okLaw L) (hF : ∀ k, k < 10 → M f k = F (k + 1)) :
    wp (w_law_tell (d + 5) e w f M) fun r M' => r = [aI (cl (mo w) ((tellL F w L).getD (un F w)))] ∧ fr [e + 2] M M' := by
  obtain ⟨n, h1, h2, h3, h4, -⟩ := hL
  rw [l_law_tell]
  exact law_tell_lp d e f n (M (e + 1)) F w he1 he2 he4 hf hne h1 L 0 M rfl hF (by rw [h3]; omega) (by have := hok.1; omega) h4 hok.2
theorem wood_putFacts_eq (d b f : Nat) (V : aW) (k : Nat) (M : aM) (h : rWd b V M) (h10 : V 41 ≤ 10) (hk : (k : Int) < V 41) (l1 : aLen (b + 1) = 10) (l2 : aLen (b + 2) = 10) (l3 : aLen (b + 3) = 10) (l4 : aLen (b + 4) = 10) (lf : aLen f = 10) (hne : b + 4 < f) :
    wp (w_wood_putFacts (d + 2) b k f M) fun r M' => r = [] ∧ (∀ j, j < 10 → M' f j = pF V k (j + 1)) ∧ fr [f] M M' := by
  rw [l_wood_putFacts]
  refine wp_eI (wood_has_eq _ b k V M h.1 h10) ?_
  rw [decide_eq_true (by omega), bI_t]
  rw [l1, l2, l3, l4, lf]
  refine wp_neg (by omega) ?_
  refine wp_neg (by omega) ?_
  (try simp (disch := omega) only [w32_i, tn_l, tn_n, tn_r, tn_s, tn_1, Nat.add_sub_cancel, Int.reduceToNat, Int.toNat_zero, Int.toNat_one, al3, al4, al5, al6, al8, al9, al11, al13, al15, al17, al19, al21, al23, al25, al27, al29, al30, al31, al95, al96, al128, al129, al130, al131, al134, al135, al137, al139, al140, al142, al143, al144, al145, al147, al148, al149, al151, al152, al153, al154, al155, al156, al158, al159, al160, al161, al162, al163, al164, al165, al166, al167, al168, al169, al170, al171, al172, al173, al174, al175, al176])
  refine wp_inb ⟨by omega, by omega⟩ ?_
  refine wp_up fun M1 f1 g1 => ?_
  refine wp_inb ⟨by omega, by omega⟩ ?_
  refine wp_inb ⟨by omega, by omega⟩ ?_
  refine wp_up fun M2 f2 g2 => ?_
  refine wp_inb ⟨by omega, by omega⟩ ?_
  refine wp_inb ⟨by omega, by omega⟩ ?_
  refine wp_up fun M3 f3 g3 => ?_
  refine wp_inb ⟨by omega, by omega⟩ ?_
  refine wp_inb ⟨by omega, by omega⟩ ?_
  refine wp_up fun M4 f4 g4 => ?_
  refine wp_inb ⟨by omega, by omega⟩ ?_
  refine wp_inb ⟨by omega, by omega⟩ ?_
  refine wp_up fun M5 f5 g5 => ?_
  refine wp_inb ⟨by omega, by omega⟩ ?_
  refine wp_up fun M6 f6 g6 => ?_
  refine wp_inb ⟨by omega, by omega⟩ ?_
  refine wp_up fun M7 f7 g7 => ?_
  refine wp_inb ⟨by omega, by omega⟩ ?_
  refine wp_up fun M8 f8 g8 => ?_
  refine wp_inb ⟨by omega, by omega⟩ ?_
  refine wp_up fun M9 f9 g9 => ?_
  have nf : ∀ j, b ≤ j → j < b + 5 → j ∉ [f] := fun j _ _ => by simp; omega
  have w1 := rWd_fr h fun j x y => f1 j (nf j x y)
  have w2 := rWd_fr w1 fun j x y => f2 j (nf j x y)
  have w3 := rWd_fr w2 fun j x y => f3 j (nf j x y)
  have w4 := rWd_fr w3 fun j x y => f4 j (nf j x y)
  have w5 := rWd_fr w4 fun j x y => f5 j (nf j x y)
  have w6 := rWd_fr w5 fun j x y => f6 j (nf j x y)
  have w7 := rWd_fr w6 fun j x y => f7 j (nf j x y)
  have w8 := rWd_fr w7 fun j x y => f8 j (nf j x y)
  have w9 := rWd_fr w8 fun j x y => f9 j (nf j x y)
  have f19 : fr [f] M M9 := fr_tt f1 (fr_tt f2 (fr_tt f3 (fr_tt f4 (fr_tt f5 (fr_tt f6 (fr_tt f7 (fr_tt f8 f9)))))))
  obtain ⟨-, -, -, -, -, -, -, q11, -⟩ := w9
  have e8 := w8.2.2.2.2.2.2.2.2.2.2.1
  have e5 := w5.2.2.1
  have e6 := w6.2.2.2.1
  have e7 := w7.2.2.2.2.1
  have c1 := w1.2.2.2.2.2.2.2.2.2.2.2.2.2.1 k (by omega)
  have c2 := w2.2.2.2.2.2.2.2.2.2.2.2.2.2.2.1 k (by omega)
  have c3 := w3.2.2.2.2.2.2.2.2.2.2.2.2.2.2.2.1 k (by omega)
  have c4 := w4.2.2.2.2.2.2.2.2.2.2.2.2.2.2.2.2 k (by omega)
  rw [e8] at g9
  rw [e7] at g8
  rw [e6] at g7
  rw [e5] at g6
  rw [c4] at g5
  rw [c3] at g4
  rw [c2] at g3
  rw [c1] at g2
  rw [q11]
  refine wp_if (fun h => ?_) (fun h => ?_)
  · refine wp_inb ⟨by omega, by omega⟩ ?_
    refine wp_up fun M10 f10 g10 => ?_
    refine wp_ret ⟨rfl, fun j hj => ?_, fr_tt f19 f10⟩
    rw [g10, g9, g8, g7, g6, g5, g4, g3, g2, g1]
    have : j = 0 ∨ j = 1 ∨ j = 2 ∨ j = 3 ∨ j = 4 ∨ j = 5 ∨ j = 6 ∨ j = 7 ∨ j = 8 ∨ j = 9 := by omega
    rcases this with e | e | e | e | e | e | e | e | e | e <;> subst e <;> simp [pF, h]
  · refine wp_inb ⟨by omega, by omega⟩ ?_
    refine wp_up fun M10 f10 g10 => ?_
    refine wp_ret ⟨rfl, fun j hj => ?_, fr_tt f19 f10⟩
    rw [g10, g9, g8, g7, g6, g5, g4, g3, g2, g1]
    have : j = 0 ∨ j = 1 ∨ j = 2 ∨ j = 3 ∨ j = 4 ∨ j = 5 ∨ j = 6 ∨ j = 7 ∨ j = 8 ∨ j = 9 := by omega
    rcases this with e | e | e | e | e | e | e | e | e | e <;> subst e <;> simp [pF, h]
theorem world_asked_eq (d a : Nat) (V : aW) (L : aLaw) (w : Int) (k : Nat) (M : aM) (ha : isWo a) (h : rWd (a + 1) V M) (hL : rLaw (a + 6) L M) (hok : okLaw L) (h10 : V 41 ≤ 10) (hk : (k : Int) < V 41) :
    wp (w_world_asked (d + 6) a w k M) fun r M' => r = [aI (cl (mo w) ((tellL (pF V k) w L).getD (un (pF V k) w)))] ∧ fr [a + 8, a + 29] M M' := by
  rw [l_world_asked]
  refine wp_bV (wood_putFacts_eq _ (a + 1) (a + 29) V k M h h10 hk (wl2 ha) (wl3 ha) (wl4 ha) (wl5 ha) (wl29 ha) (by omega)) ?_
  rintro M1 ⟨g1, f1⟩
  refine wp_bI (wp_mono (law_tell_eq _ (a + 6) (a + 29) L (pF V k) w M1 (wl7 ha) (wl8 ha) (wl10 ha) (wl29 ha) (by omega) (rLaw_fr hL fun j _ _ _ => f1 j (by simp; omega)) hok g1) ?_) (P := fun v M' => v = cl (mo w) ((tellL (pF V k) w L).getD (un (pF V k) w)) ∧ fr [a + 8] M1 M') ?_
  · rintro r M' ⟨e, f⟩; exact ⟨_, e, rfl, f⟩
  · rintro v M' ⟨e, f⟩; subst e; exact wp_ret ⟨rfl, fr_tr f1 f (by simp) (by simp)⟩
theorem asked_come (V : aW) (L : aLaw) (k : Nat) : cl (mo 0) ((tellL (pF V k) 0 L).getD (un (pF V k) 0)) = come V L k := rfl
theorem asked_long (V : aW) (L : aLaw) (k : Nat) : cl (mo 1) ((tellL (pF V k) 1 L).getD (un (pF V k) 1)) = long V L k := rfl
theorem asked_shy (V : aW) (L : aLaw) (k : Nat) : cl (mo 2) ((tellL (pF V k) 2 L).getD (un (pF V k) 2)) = shy V L k := rfl
theorem world_comeWithSalt_eq (d a : Nat) (V : aW) (L : aLaw) (s : Int) (k : Nat) (M : aM) (ha : isWo a) (h : rWd (a + 1) V M) (hL : rLaw (a + 6) L M) (hok : okLaw L) (h10 : V 41 ≤ 10) (hk : (k : Int) < V 41) :
    wp (w_world_comeWithSalt (d + 6) a k s M) fun r M' => r = [aI (come (vS V 4 s) L k)] ∧ fr [a + 8, a + 29] M M' := by
  rw [l_world_comeWithSalt]
  refine wp_bV (wood_putFacts_eq _ (a + 1) (a + 29) V k M h h10 hk (wl2 ha) (wl3 ha) (wl4 ha) (wl5 ha) (wl29 ha) (by omega)) ?_
  rintro M1 ⟨g1, f1⟩
  rw [wl29 ha]
  refine wp_inb ⟨by omega, by omega⟩ ?_
  refine wp_up fun M2 f2 g2 => ?_
  have F2 : ∀ j, j < 10 → M2 (a + 29) j = pF (vS V 4 s) k (j + 1) := by
    intro j hj
    rw [g2]
    have : j = 0 ∨ j = 1 ∨ j = 2 ∨ j = 3 ∨ j = 4 ∨ j = 5 ∨ j = 6 ∨ j = 7 ∨ j = 8 ∨ j = 9 := by omega
    have n1 : 53 + k ≠ 4 := by omega
    have n2 : 11 + k ≠ 4 := by omega
    have n3 : 21 + k ≠ 4 := by omega
    have n4 : 31 + k ≠ 4 := by omega
    rcases this with e | e | e | e | e | e | e | e | e | e <;> subst e <;> simp [g1, pF, vS, n1, n2, n3, n4]
  refine wp_bI (wp_mono (law_tell_eq _ (a + 6) (a + 29) L (pF (vS V 4 s) k) 0 M2 (wl7 ha) (wl8 ha) (wl10 ha) (wl29 ha) (by omega) (rLaw_fr hL fun j _ _ _ => (f2 j (by simp; omega)).trans (f1 j (by simp; omega))) hok F2) ?_) (P := fun v M' => v = come (vS V 4 s) L k ∧ fr [a + 8] M2 M') ?_
  · rintro r M' ⟨e, f⟩; exact ⟨_, e, rfl, f⟩
  · rintro v M' ⟨e, f⟩; subst e; exact wp_ret ⟨rfl, fr_tr (fr_tt f1 f2) f (by simp) (by simp)⟩
