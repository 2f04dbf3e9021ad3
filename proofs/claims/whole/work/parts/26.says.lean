/-! What the law says, in the reference and in the class. -/
theorem cEnc_nil {B : List (Int × Int)} (h : (cEnc B).length = 0) : B = [] := by
  rcases B with _ | ⟨⟨s, v⟩, l⟩
  · rfl
  · exfalso
    simp only [cEnc, List.length_append] at h
    split at h
    · simp at h
    · split at h
      · simp at h
      · split at h <;> simp at h
theorem m_comesTo_eq (d : Nat) (V F : Nat → Int) (l : List (Int × Int)) (p : Nat) (b : Bool) (M : aM) (hV : M 158 = V) (hF : ∀ k, k < 10 → M 167 (k + 1) = F (k + 1)) (hq : p + l.length ≤ 410) (hs : seg2 V p l) (ht : iTy l [] = some [b]) :
    wp (w_m_comesTo (d + 2) 0 p ((p + l.length : Nat) : Int) M) fun r M' => r = [aI ((iEv F l []).headD 0)] ∧ fr [166] M M' := by
  rw [l_m_comesTo]
  refine wp_mono (m_comesTo_lp d V F l p (p + l.length) [] [b] [] M hV hF rfl hq hs rfl (by simp) ht trivial) ?_
  rintro r M' ⟨e, h, hl, f⟩
  refine ⟨?_, f⟩
  rcases hx : iEv F l [] with _ | ⟨x, t⟩
  · simp [hx] at hl
  · rw [hx] at hl h
    have : t.length = 0 := by simpa using hl
    rw [e]
    have h1 := h.1
    rw [this] at h1
    rw [h1]; rfl
theorem iEv_01 {F : Nat → Int} {B : List (Int × Int)} (h : iTy B [] = some [true]) : (iEv F B []).headD 0 = 0 ∨ (iEv F B []).headD 0 = 1 := by
  have := iEv_ok F B [] [true] [] h trivial
  rcases hx : iEv F B [] with _ | ⟨x, t⟩
  · left; rfl
  · rw [hx] at this
    exact this.1 rfl
theorem m_isSo_eq (d : Nat) (V F : Nat → Int) (E B : List (Int × Int)) (i p : Nat) (M : aM) (hi : i < 16) (hV : M 158 = V) (hF : ∀ k, k < 10 → M 167 (k + 1) = F (k + 1)) (h1 : V (900 + i) = (p + E.length : Nat)) (h2 : V (916 + i) = (p + E.length + B.length : Nat)) (hq : p + E.length + B.length ≤ 410) (hs : seg2 V (p + E.length) B) (ht : B = [] ∨ iTy B [] = some [true]) :
    wp (w_m_isSo (d + 3) i M) fun r M' => (r = [aI 0] ∧ ¬ (B = [] ∨ (iEv F B []).headD 0 = 1) ∨ r = [aI 1] ∧ (B = [] ∨ (iEv F B []).headD 0 = 1)) ∧ fr [166] M M' := by
  rw [l_m_isSo]
  (try simp (disch := omega) only [w32_i, tn_l, tn_n, tn_r, tn_s, tn_1, Nat.add_sub_cancel, Int.reduceToNat, Int.toNat_zero, Int.toNat_one, al3, al4, al5, al6, al8, al9, al11, al13, al15, al17, al19, al21, al23, al25, al27, al29, al30, al31, al95, al96, al128, al129, al130, al131, al134, al135, al137, al139, al140, al142, al143, al144, al145, al147, al148, al149, al151, al152, al153, al154, al155, al156, al158, al159, al160, al161, al162, al163, al164, al165, al166, al167, al168, al169, al170, al171, al172, al173, al174, al175, al176])
  rw [hV, h1, h2]
  refine wp_inb ⟨by omega, by omega⟩ ?_
  refine wp_inb ⟨by omega, by omega⟩ ?_
  by_cases hB : B = []
  · subst hB
    refine wp_pos (by simp) ?_
    exact wp_ret ⟨Or.inr ⟨rfl, Or.inl rfl⟩, fr_refl _ _⟩
  · have : B.length ≠ 0 := by simpa using hB
    refine wp_neg (by omega) ?_
    refine wp_inb ⟨by omega, by omega⟩ ?_
    refine wp_inb ⟨by omega, by omega⟩ ?_
    rcases ht with ht | ht
    · exact absurd ht hB
    refine wp_bI (wp_mono (m_comesTo_eq _ V F B (p + E.length) true M hV hF hq hs ht) ?_) (P := fun v M' => v = (iEv F B []).headD 0 ∧ fr [166] M M') ?_
    · rintro r M' ⟨e, f⟩
      exact ⟨_, e, rfl, f⟩
    · rintro v M' ⟨e, f⟩
      subst e
      refine wp_if (fun h => ?_) (fun h => ?_)
      · exact wp_ret ⟨Or.inr ⟨rfl, Or.inr h⟩, f⟩
      · exact wp_ret ⟨Or.inl ⟨rfl, fun e => e.elim hB h⟩, f⟩
theorem m_says_lp (d : Nat) (V F : Nat → Int) (w without most : Int) (hn : V 44 ≤ 16) : ∀ (L : aLaw) (i : Nat) (M : aM), M 158 = V → (∀ k, k < 10 → M 167 (k + 1) = F (k + 1)) → ((i + L.length : Nat) : Int) = V 44 → vLn V i L → (∀ x, x ∈ L → okLine x) →
    wp (w_m_says_151 (d + 4) (20 + w) without most i M) fun r M' => r = [aI (cl most ((tellL F w L).getD without))] ∧ fr [166] M M'
  | [], i, M, hV, hF, hl, hv, ho => by
    rw [l_m_says_151]
    (try simp (disch := omega) only [w32_i, tn_l, tn_n, tn_r, tn_s, tn_1, Nat.add_sub_cancel, Int.reduceToNat, Int.toNat_zero, Int.toNat_one, al3, al4, al5, al6, al8, al9, al11, al13, al15, al17, al19, al21, al23, al25, al27, al29, al30, al31, al95, al96, al128, al129, al130, al131, al134, al135, al137, al139, al140, al142, al143, al144, al145, al147, al148, al149, al151, al152, al153, al154, al155, al156, al158, al159, al160, al161, al162, al163, al164, al165, al166, al167, al168, al169, al170, al171, al172, al173, al174, al175, al176])
    simp only [List.length_nil] at hl
    refine wp_inb ⟨by omega, by omega⟩ ?_
    refine wp_neg (by rw [hV]; omega) ?_
    refine wp_eI (m_lesser_eq _ _ _ _) ?_
    refine wp_eI (m_greater_eq _ _ _ _) ?_
    exact wp_ret ⟨rfl, fr_refl _ _⟩
  | (w', E, B) :: L, i, M, hV, hF, hl, hv, ho => by
    rw [l_m_says_151]
    (try simp (disch := omega) only [w32_i, tn_l, tn_n, tn_r, tn_s, tn_1, Nat.add_sub_cancel, Int.reduceToNat, Int.toNat_zero, Int.toNat_one, al3, al4, al5, al6, al8, al9, al11, al13, al15, al17, al19, al21, al23, al25, al27, al29, al30, al31, al95, al96, al128, al129, al130, al131, al134, al135, al137, al139, al140, al142, al143, al144, al145, al147, al148, al149, al151, al152, al153, al154, al155, al156, al158, al159, al160, al161, al162, al163, al164, al165, al166, al167, al168, al169, al170, al171, al172, al173, al174, al175, al176])
    simp only [List.length_cons] at hl
    obtain ⟨⟨p, v1, v2, v3, v4, v5, v6, v7⟩, hv⟩ := hv
    refine wp_inb ⟨by omega, by omega⟩ ?_
    refine wp_pos (by rw [hV]; omega) ?_
    refine wp_inb ⟨by omega, by omega⟩ ?_
    have next : ∀ M1 : aM, fr [166] M M1 → ¬ (w' = w ∧ (B = [] ∨ (iEv F B []).headD 0 = 1)) → wp (w_m_says_151 (d + 4) (20 + w) without most ((i : Int) + 1) M1) fun r M' => r = [aI (cl most ((tellL F w ((w', E, B) :: L)).getD without))] ∧ fr [166] M M' := by
      intro M1 f1 hne
      have ih := m_says_lp d V F w without most hn L (i + 1) M1 (by rw [f1 _ (by simp), hV]) (by rw [f1 _ (by simp)]; exact hF) (by omega) hv (fun x hx => ho x (List.mem_cons_of_mem _ hx))
      refine wp_mono ih ?_
      rintro r M' ⟨e, f⟩
      refine ⟨?_, fr_tr f1 f (by simp) (by simp)⟩
      simp only [tellL, hne, if_false]
      exact e
    have hol := ho (w', E, B) (by simp)
    rw [hV, v4]
    refine wp_if (fun h => ?_) (fun h => ?_)
    · have hw : w' = w := by omega
      refine wp_bI (wp_mono (m_isSo_eq _ V F E B i p M (by omega) hV hF v2 v3 v5 v7 hol.2) ?_) (P := fun v M' => (v = 0 ∧ ¬ (B = [] ∨ (iEv F B []).headD 0 = 1) ∨ v = 1 ∧ (B = [] ∨ (iEv F B []).headD 0 = 1)) ∧ fr [166] M M') ?_
      · rintro r M' ⟨h | h, f⟩
        · exact ⟨0, h.1, Or.inl ⟨rfl, h.2⟩, f⟩
        · exact ⟨1, h.1, Or.inr ⟨rfl, h.2⟩, f⟩
      · rintro v M1 ⟨h | h, f1⟩
        · obtain ⟨rfl, h⟩ := h
          refine wp_pos rfl ?_
          refine wp_I ?_
          exact next M1 f1 fun e => h e.2
        · obtain ⟨rfl, h⟩ := h
          refine wp_neg (by decide) ?_
          refine wp_inb ⟨by omega, by omega⟩ ?_
          refine wp_inb ⟨by omega, by omega⟩ ?_
          rw [f1 158 (by simp), hV, v1, v2]
          obtain ⟨b, hb⟩ := hol.1
          refine wp_bI (wp_mono (m_comesTo_eq _ V F E p b M1 (by rw [f1 _ (by simp), hV]) (by rw [f1 _ (by simp)]; exact hF) (by omega) v6 hb) ?_) (P := fun v M' => v = (iEv F E []).headD 0 ∧ fr [166] M1 M') ?_
          · rintro r M' ⟨e, f⟩
            exact ⟨_, e, rfl, f⟩
          · rintro v M2 ⟨e, f2⟩
            subst e
            refine wp_eI (m_lesser_eq _ _ _ _) ?_
            refine wp_eI (m_greater_eq _ _ _ _) ?_
            refine wp_ret ⟨?_, fr_tr f1 f2 (by simp) (by simp)⟩
            simp only [tellL, hw, h, and_self, if_true, Option.getD_some]
            rfl
    · refine wp_I ?_
      exact next M (fr_refl _ _) fun e => h (by omega)
theorem m_says_eq (d : Nat) (V : aW) (L : aLaw) (w without most : Int) (k : Nat) (M : aM) (hV : M 158 = V) (hk : k < 10) (hL : vLaw L V) (hok : okLaw L) :
    wp (w_m_says (d + 5) (20 + w) k without most M) fun r M' => r = [aI (cl most ((tellL (pF V k) w L).getD without))] ∧ fr [166, 167] M M' := by
  rw [l_m_says]
  (try simp (disch := omega) only [w32_i, tn_l, tn_n, tn_r, tn_s, tn_1, Nat.add_sub_cancel, Int.reduceToNat, Int.toNat_zero, Int.toNat_one, al3, al4, al5, al6, al8, al9, al11, al13, al15, al17, al19, al21, al23, al25, al27, al29, al30, al31, al95, al96, al128, al129, al130, al131, al134, al135, al137, al139, al140, al142, al143, al144, al145, al147, al148, al149, al151, al152, al153, al154, al155, al156, al158, al159, al160, al161, al162, al163, al164, al165, al166, al167, al168, al169, al170, al171, al172, al173, al174, al175, al176])
  have go : ∀ M1 : aM, fr [167] M M1 → (∀ j, j < 10 → M1 167 (j + 1) = pF V k (j + 1)) → wp (w_m_says_151 (d + 4) (20 + w) without most 0 M1) fun r M' => r = [aI (cl most ((tellL (pF V k) w L).getD without))] ∧ fr [166, 167] M M' := by
    intro M1 f1 hF
    have hl := hok.1
    have ih := m_says_lp d V (pF V k) w without most (by rw [hL.1]; omega) L 0 M1 (by rw [f1 _ (by simp), hV]) hF (by rw [hL.1]; omega) hL.2 hok.2
    refine wp_mono ih ?_
    rintro r M' ⟨e, f⟩
    exact ⟨e, fr_tr f1 f (by simp) (by simp)⟩
  refine wp_inb ⟨by omega, by omega⟩ ?_
  refine wp_up fun M1 f1 g1 => ?_
  refine wp_inb ⟨by omega, by omega⟩ ?_
  refine wp_inb ⟨by omega, by omega⟩ ?_
  refine wp_up fun M2 f2 g2 => ?_
  refine wp_inb ⟨by omega, by omega⟩ ?_
  refine wp_inb ⟨by omega, by omega⟩ ?_
  refine wp_up fun M3 f3 g3 => ?_
  refine wp_inb ⟨by omega, by omega⟩ ?_
  refine wp_inb ⟨by omega, by omega⟩ ?_
  refine wp_up fun M4 f4 g4 => ?_
  refine wp_inb ⟨by omega, by omega⟩ ?_
  refine wp_inb ⟨by omega, by omega⟩ ?_
  refine wp_up fun M5 f5 g5 => ?_
  refine wp_inb ⟨by omega, by omega⟩ ?_
  refine wp_inb ⟨by omega, by omega⟩ ?_
  refine wp_up fun M6 f6 g6 => ?_
  refine wp_inb ⟨by omega, by omega⟩ ?_
  refine wp_inb ⟨by omega, by omega⟩ ?_
  refine wp_up fun M7 f7 g7 => ?_
  refine wp_inb ⟨by omega, by omega⟩ ?_
  refine wp_inb ⟨by omega, by omega⟩ ?_
  refine wp_up fun M8 f8 g8 => ?_
  refine wp_inb ⟨by omega, by omega⟩ ?_
  refine wp_inb ⟨by omega, by omega⟩ ?_
  refine wp_up fun M9 f9 g9 => ?_
  refine wp_inb ⟨by omega, by omega⟩ ?_
  have w1 : M1 158 = V := by rw [f1 _ (by simp), hV]
  have w2 : M2 158 = V := by rw [f2 _ (by simp), w1]
  have w3 : M3 158 = V := by rw [f3 _ (by simp), w2]
  have w4 : M4 158 = V := by rw [f4 _ (by simp), w3]
  have w5 : M5 158 = V := by rw [f5 _ (by simp), w4]
  have w6 : M6 158 = V := by rw [f6 _ (by simp), w5]
  have w7 : M7 158 = V := by rw [f7 _ (by simp), w6]
  have w8 : M8 158 = V := by rw [f8 _ (by simp), w7]
  have w9 : M9 158 = V := by rw [f9 _ (by simp), w8]
  have f19 : fr [167] M M9 := fr_tt f1 (fr_tt f2 (fr_tt f3 (fr_tt f4 (fr_tt f5 (fr_tt f6 (fr_tt f7 (fr_tt f8 f9)))))))
  rw [w9]
  refine wp_if (fun h => ?_) (fun h => ?_)
  · refine wp_inb ⟨by omega, by omega⟩ ?_
    refine wp_up fun M10 f10 g10 => ?_
    refine go M10 (fr_tt f19 f10) fun j hj => ?_
    rw [g10, g9, g8, g7, g6, g5, g4, g3, g2, g1, w1, w2, w3, w4, w5, w6, w7, w8]
    have : j = 0 ∨ j = 1 ∨ j = 2 ∨ j = 3 ∨ j = 4 ∨ j = 5 ∨ j = 6 ∨ j = 7 ∨ j = 8 ∨ j = 9 := by omega
    rcases this with e | e | e | e | e | e | e | e | e | e <;> subst e <;> simp [pF, h]
  · refine wp_inb ⟨by omega, by omega⟩ ?_
    refine wp_up fun M10 f10 g10 => ?_
    refine go M10 (fr_tt f19 f10) fun j hj => ?_
    rw [g10, g9, g8, g7, g6, g5, g4, g3, g2, g1, w1, w2, w3, w4, w5, w6, w7, w8]
    have : j = 0 ∨ j = 1 ∨ j = 2 ∨ j = 3 ∨ j = 4 ∨ j = 5 ∨ j = 6 ∨ j = 7 ∨ j = 8 ∨ j = 9 := by omega
    rcases this with e | e | e | e | e | e | e | e | e | e <;> subst e <;> simp [pF, h]
theorem m_comeOf_eq (d : Nat) (V : aW) (L : aLaw) (k : Nat) (M : aM) (hV : M 158 = V) (hk : k < 10) (hL : vLaw L V) (hok : okLaw L) :
    wp (w_m_comeOf (d + 6) k M) fun r M' => r = [aI (come V L k)] ∧ fr [166, 167] M M' := by
  rw [l_m_comeOf]
  (try simp (disch := omega) only [w32_i, tn_l, tn_n, tn_r, tn_s, tn_1, Nat.add_sub_cancel, Int.reduceToNat, Int.toNat_zero, Int.toNat_one, al3, al4, al5, al6, al8, al9, al11, al13, al15, al17, al19, al21, al23, al25, al27, al29, al30, al31, al95, al96, al128, al129, al130, al131, al134, al135, al137, al139, al140, al142, al143, al144, al145, al147, al148, al149, al151, al152, al153, al154, al155, al156, al158, al159, al160, al161, al162, al163, al164, al165, al166, al167, al168, al169, al170, al171, al172, al173, al174, al175, al176])
  refine wp_inb ⟨by omega, by omega⟩ ?_
  rw [hV]
  refine wp_bI (wp_mono (m_says_eq _ V L 0 (w32 (V (21 + k) + 1)) 999 k M hV hk hL hok) ?_) (P := fun v M' => v = come V L k ∧ fr [166, 167] M M') ?_
  · rintro r M' ⟨e, f⟩; exact ⟨_, e, rfl, f⟩
  · rintro v M' ⟨e, f⟩; subst e; exact wp_ret ⟨rfl, f⟩
theorem m_longOf_eq (d : Nat) (V : aW) (L : aLaw) (k : Nat) (M : aM) (hV : M 158 = V) (hk : k < 10) (hL : vLaw L V) (hok : okLaw L) :
    wp (w_m_longOf (d + 6) k M) fun r M' => r = [aI (long V L k)] ∧ fr [166, 167] M M' := by
  rw [l_m_longOf]
  (try simp (disch := omega) only [w32_i, tn_l, tn_n, tn_r, tn_s, tn_1, Nat.add_sub_cancel, Int.reduceToNat, Int.toNat_zero, Int.toNat_one, al3, al4, al5, al6, al8, al9, al11, al13, al15, al17, al19, al21, al23, al25, al27, al29, al30, al31, al95, al96, al128, al129, al130, al131, al134, al135, al137, al139, al140, al142, al143, al144, al145, al147, al148, al149, al151, al152, al153, al154, al155, al156, al158, al159, al160, al161, al162, al163, al164, al165, al166, al167, al168, al169, al170, al171, al172, al173, al174, al175, al176])
  refine wp_inb ⟨by omega, by omega⟩ ?_
  rw [hV]
  refine wp_bI (wp_mono (m_says_eq _ V L 1 (w32 (6 + V (11 + k))) 24 k M hV hk hL hok) ?_) (P := fun v M' => v = long V L k ∧ fr [166, 167] M M') ?_
  · rintro r M' ⟨e, f⟩; exact ⟨_, e, rfl, f⟩
  · rintro v M' ⟨e, f⟩; subst e; exact wp_ret ⟨rfl, f⟩
theorem m_shyOf_eq (d : Nat) (V : aW) (L : aLaw) (k : Nat) (M : aM) (hV : M 158 = V) (hk : k < 10) (hL : vLaw L V) (hok : okLaw L) :
    wp (w_m_shyOf (d + 6) k M) fun r M' => r = [aI (shy V L k)] ∧ fr [166, 167] M M' := by
  rw [l_m_shyOf]
  (try simp (disch := omega) only [w32_i, tn_l, tn_n, tn_r, tn_s, tn_1, Nat.add_sub_cancel, Int.reduceToNat, Int.toNat_zero, Int.toNat_one, al3, al4, al5, al6, al8, al9, al11, al13, al15, al17, al19, al21, al23, al25, al27, al29, al30, al31, al95, al96, al128, al129, al130, al131, al134, al135, al137, al139, al140, al142, al143, al144, al145, al147, al148, al149, al151, al152, al153, al154, al155, al156, al158, al159, al160, al161, al162, al163, al164, al165, al166, al167, al168, al169, al170, al171, al172, al173, al174, al175, al176])
  refine wp_inb ⟨by omega, by omega⟩ ?_
  rw [hV]
  refine wp_bI (wp_mono (m_says_eq _ V L 2 (idiv (V 5) 9) 9 k M hV hk hL hok) ?_) (P := fun v M' => v = shy V L k ∧ fr [166, 167] M M') ?_
  · rintro r M' ⟨e, f⟩; exact ⟨_, e, rfl, f⟩
  · rintro v M' ⟨e, f⟩; subst e; exact wp_ret ⟨rfl, f⟩
