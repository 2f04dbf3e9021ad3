/-! What holds between the calls. -/
/-- the wood's numbers -/
def okW (V : aW) : Prop :=
  okA V ∧ (0 ≤ V 8 ∧ V 8 ≤ 150) ∧ (0 ≤ V 0 ∧ V 0 ≤ 9999) ∧ (-1 ≤ V 1 ∧ V 1 < V 41) ∧ (0 ≤ V 4 ∧ V 4 ≤ 99) ∧ (0 ≤ V 5 ∧ V 5 ≤ 99) ∧ (0 ≤ V 6 ∧ V 6 ≤ 1) ∧ (0 ≤ V 42 ∧ V 42 ≤ 1000) ∧ (0 ≤ V 43 ∧ V 43 ≤ 1000) ∧ (∃ x : Nat, V 9 = x ∧ x < 65536) ∧
  (∀ i, i < 10 → 0 ≤ V (53 + i) ∧ V (53 + i) ≤ 5) ∧ (∀ i, i < 10 → 0 ≤ V (11 + i) ∧ V (11 + i) ≤ 9) ∧ (∀ i, i < 10 → 0 ≤ V (21 + i) ∧ V (21 + i) ≤ 999) ∧ (∀ i, i < 10 → 0 ≤ V (31 + i) ∧ V (31 + i) ≤ 999 + V 0)
/-- the told lists' numbers -/
def okT (V : aW) : Prop :=
  okN V ∧ okP V ∧
  (∀ i : Nat, (i : Int) < V 46 → (1 ≤ V (111 + 3 * i) ∧ V (111 + 3 * i) ≤ 999) ∧ (0 ≤ V (112 + 3 * i) ∧ V (112 + 3 * i) < V 41) ∧ (-1 ≤ V (113 + 3 * i) ∧ V (113 + 3 * i) ≤ 999)) ∧
  (∀ i : Nat, (i : Int) < V 47 → (0 ≤ V (159 + 2 * i) ∧ V (159 + 2 * i) ≤ 30) ∧ (0 ≤ V (160 + 2 * i) ∧ V (160 + 2 * i) ≤ 9)) ∧
  (∀ i : Nat, (i : Int) < V 48 → (0 ≤ V (175 + 2 * i) ∧ V (175 + 2 * i) < V 41) ∧ (0 ≤ V (176 + 2 * i) ∧ V (176 + 2 * i) < V 41) ∧ V (175 + 2 * i) ≠ V (176 + 2 * i)) ∧
  (∀ i : Nat, (i : Int) < V 49 → 1 ≤ V (199 + i) ∧ V (199 + i) ≤ 24) ∧
  (∀ i : Nat, (i : Int) < V 50 → (0 ≤ V (207 + 2 * i) ∧ V (207 + 2 * i) ≤ 9) ∧ (0 ≤ V (208 + 2 * i) ∧ V (208 + 2 * i) ≤ 9)) ∧
  (∀ i : Nat, (i : Int) < V 51 → (0 ≤ V (235 + 2 * i) ∧ V (235 + 2 * i) ≤ 6) ∧ (0 ≤ V (236 + 2 * i) ∧ V (236 + 2 * i) < V 41)) ∧
  (∀ i : Nat, (i : Int) < V 52 → 0 ≤ V (275 + i) ∧ V (275 + i) ≤ 24)
def iNow (L : aLaw) (a r : Nat) (M : aM) : Prop := okW (M r) ∧ okT (M r) ∧ rW true a (M r) L M ∧ vLaw L (M r) ∧ okLaw L
def statW (a : Nat) (M : aM) : Prop := M (a + 9) 0 = 16 ∧ M (a + 11) 0 = 16 ∧ M (a + 13) 0 = 16 ∧ M (a + 15) 0 = 8 ∧ M (a + 17) 0 = 150 ∧ M (a + 19) 0 = 12 ∧ M (a + 21) 0 = 8 ∧ M (a + 23) 0 = 14 ∧ M (a + 25) 0 = 20 ∧ M (a + 27) 0 = 9
def iStat (M : aM) : Prop := statW 32 M ∧ statW 63 M ∧ M 136 0 = 16 ∧ M 138 0 = 16
def iKept (L : aLaw) (M : aM) : Prop := M 0 9 = M 157 5 ∧ (M 157 5 = 0 ∨ M 157 5 = 1) ∧ (M 157 5 = 1 → iNow L 32 159 M)
def bk (M : aM) (j : Nat) : aW := fun k => if k < 41 then M 160 (41 * j + k) else M 158 k
def iSlot (M : aM) (f j : Nat) : Prop := rWd (97 + 5 * ((f + j) % 6)) (bk M j) M ∧ M 96 ((f + j) % 6) = bk M j 8 ∧ okW (bk M j) ∧ bk M j 8 ≤ M 158 8
def iRing (M : aM) : Prop := ∃ n f : Nat, M 94 3 = n ∧ M 157 4 = n ∧ n ≤ 6 ∧ M 94 2 = f ∧ f < 6 ∧ (∀ j, j < n → iSlot M f j) ∧ (∀ i j, i ≤ j → j < n → bk M i 8 ≤ bk M j 8)
def iTape (M : aM) : Prop := ∃ n : Nat, n ≤ 400 ∧ M 127 5 = n ∧ M 157 16 = n ∧ ∀ i, i < n → M 128 i = M 165 i ∧ 0 ≤ M 128 i ∧ M 128 i ≤ 255
def iFault (M : aM) : Prop := M 132 2 = M 157 23 ∧ M 132 3 = M 157 25
def Inv (L Lk : aLaw) (M : aM) : Prop := iNow L 1 158 M ∧ iKept Lk M ∧ iStat M ∧ iRing M ∧ iTape M ∧ iFault M
/-- objects that no call leaves anything in -/
def qs (k : Nat) : Prop := k = 1 ∨ k = 9 ∨ k = 30 ∨ k = 31 ∨ (141 ≤ k ∧ k < 157) ∨ (166 ≤ k ∧ k < 177)
/-- but for them all stays -/
def agQ (M M' : aM) : Prop := (∀ k, ¬ qs k → k ≠ 157 → M' k = M k) ∧ ∀ j, j ≠ 33 → j ≠ 26 → M' 157 j = M 157 j
theorem agQ_refl (M : aM) : agQ M M := ⟨fun _ _ _ => rfl, fun _ _ _ => rfl⟩
theorem agQ_tr {M M1 M2 : aM} (h1 : agQ M M1) (h2 : agQ M1 M2) : agQ M M2 := ⟨fun k a b => (h2.1 k a b).trans (h1.1 k a b), fun j a b => (h2.2 j a b).trans (h1.2 j a b)⟩
theorem agQ_fr {l : List Nat} {M M' : aM} (h : fr l M M') (hl : ∀ k, k ∈ l → qs k) : agQ M M' := ⟨fun k a _ => h k fun e => a (hl k e), fun j _ _ => by
  rw [h 157 fun e => ?_]
  have := hl 157 e
  unfold qs at this
  omega⟩
theorem iNow_ag {L : aLaw} {a r : Nat} {M M' : aM} (h : iNow L a r M) (hr : M' r = M r) (f : ∀ k, a < k → k < a + 29 → k ≠ a + 8 → M' k = M k) : iNow L a r M' := by
  unfold iNow at h ⊢
  rw [hr]
  exact ⟨h.1, h.2.1, rW_fr h.2.2.1 f, h.2.2.2⟩
theorem iKept_ag {L : aLaw} {M M' : aM} (h : iKept L M) (h0 : M' 0 9 = M 0 9) (h1 : M' 157 5 = M 157 5) (hr : M' 159 = M 159) (f : ∀ k, 32 < k → k < 61 → k ≠ 40 → M' k = M k) : iKept L M' := by
  unfold iKept at h ⊢
  rw [h0, h1]
  exact ⟨h.1, h.2.1, fun e => iNow_ag (h.2.2 e) hr f⟩
theorem statW_ag {a : Nat} {M M' : aM} (h : statW a M) (f : ∀ k, a + 9 ≤ k → k < a + 29 → M' k 0 = M k 0) : statW a M' := by
  unfold statW at h ⊢
  rw [f (a + 9) (by omega) (by omega), f (a + 11) (by omega) (by omega), f (a + 13) (by omega) (by omega), f (a + 15) (by omega) (by omega), f (a + 17) (by omega) (by omega), f (a + 19) (by omega) (by omega), f (a + 21) (by omega) (by omega), f (a + 23) (by omega) (by omega), f (a + 25) (by omega) (by omega), f (a + 27) (by omega) (by omega)]
  exact h
theorem iStat_ag {M M' : aM} (h : iStat M) (f : ∀ k, (41 ≤ k ∧ k < 61) ∨ (72 ≤ k ∧ k < 92) ∨ k = 136 ∨ k = 138 → M' k 0 = M k 0) : iStat M' := by
  obtain ⟨h1, h2, h3, h4⟩ := h
  exact ⟨statW_ag h1 fun k _ _ => f k (by omega), statW_ag h2 fun k _ _ => f k (by omega), (f 136 (by omega)).trans h3, (f 138 (by omega)).trans h4⟩
theorem bk_ag {M M' : aM} (h0 : M' 160 = M 160) (h1 : ∀ k, 41 ≤ k → M' 158 k = M 158 k) (j : Nat) : bk M' j = bk M j := by
  funext k; unfold bk; rw [h0]; split
  · rfl
  · exact h1 k (by omega)
theorem iRing_ag {M M' : aM} (h : iRing M) (h94 : M' 94 = M 94) (h4 : M' 157 4 = M 157 4) (h96 : M' 96 = M 96) (h160 : M' 160 = M 160) (h158 : M' 158 = M 158) (f : ∀ k, 97 ≤ k → k < 127 → M' k = M k) : iRing M' := by
  obtain ⟨n, g, a1, a2, a3, a4, a5, a6, a7⟩ := h
  have hb : ∀ j, bk M' j = bk M j := fun j => bk_ag h160 (fun k _ => by rw [h158]) j
  refine ⟨n, g, by rw [h94]; exact a1, by rw [h4]; exact a2, a3, by rw [h94]; exact a4, a5, fun j hj => ?_, fun i j hi hj => by rw [hb, hb]; exact a7 i j hi hj⟩
  obtain ⟨b1, b2, b3, b4⟩ := a6 j hj
  unfold iSlot
  rw [hb, h96, h158]
  have hm : (g + j) % 6 < 6 := Nat.mod_lt _ (by omega)
  exact ⟨rWd_fr b1 fun k _ _ => f k (by omega) (by omega), b2, b3, b4⟩
theorem iTape_ag {M M' : aM} (h : iTape M) (h0 : M' 127 = M 127) (h1 : M' 157 16 = M 157 16) (h2 : M' 128 = M 128) (h3 : M' 165 = M 165) : iTape M' := by
  unfold iTape at h ⊢; rw [h0, h1, h2, h3]; exact h
theorem iFault_ag {M M' : aM} (h : iFault M) (h0 : M' 132 = M 132) (h1 : M' 157 23 = M 157 23) (h2 : M' 157 25 = M 157 25) : iFault M' := by
  unfold iFault at h ⊢; rw [h0, h1, h2]; exact h
theorem nqs {k : Nat} (h : k < 1 ∨ (2 ≤ k ∧ k < 9) ∨ (10 ≤ k ∧ k < 30) ∨ (32 ≤ k ∧ k < 141) ∨ (157 ≤ k ∧ k < 166) ∨ 177 ≤ k) : ¬ qs k := by unfold qs; omega
theorem Inv_ag {L Lk : aLaw} {M M' : aM} (h : Inv L Lk M) (g : agQ M M') : Inv L Lk M' := by
  obtain ⟨h1, h2, h3, h4, h5, h6⟩ := h
  obtain ⟨g1, g2⟩ := g
  exact ⟨iNow_ag h1 (g1 158 (nqs (by omega)) (by omega)) fun k _ _ _ => g1 k (nqs (by omega)) (by omega),
    iKept_ag h2 (by rw [g1 0 (nqs (by omega)) (by omega)]) (g2 5 (by omega) (by omega)) (g1 159 (nqs (by omega)) (by omega)) fun k _ _ _ => g1 k (nqs (by omega)) (by omega),
    iStat_ag h3 fun k _ => by rw [g1 k (nqs (by omega)) (by omega)],
    iRing_ag h4 (g1 94 (nqs (by omega)) (by omega)) (g2 4 (by omega) (by omega)) (g1 96 (nqs (by omega)) (by omega)) (g1 160 (nqs (by omega)) (by omega)) (g1 158 (nqs (by omega)) (by omega)) fun k _ _ => g1 k (nqs (by omega)) (by omega),
    iTape_ag h5 (g1 127 (nqs (by omega)) (by omega)) (g2 16 (by omega) (by omega)) (g1 128 (nqs (by omega)) (by omega)) (g1 165 (nqs (by omega)) (by omega)),
    iFault_ag h6 (g1 132 (nqs (by omega)) (by omega)) (g2 23 (by omega) (by omega)) (g2 25 (by omega) (by omega))⟩
/-- the class's call and the reference's answer alike, and what holds goes on holding -/
def pr (x m : aM → aR) : Prop := ∀ L Lk M, Inv L Lk M → ∃ v M1 M2, x M = some ([aI v], M1) ∧ m M1 = some ([aI v], M2) ∧ (∃ L Lk, Inv L Lk M2) ∧ (M1 998 = M 998 ∧ M1 999 = M 999) ∧ (M2 998 = M 998 ∧ M2 999 = M 999)
theorem pr_q {x m : aM → aR} (val : aM → aLaw → Int) (hv : ∀ M M' L, agQ M M' → val M' L = val M L) (hx : ∀ L Lk M, Inv L Lk M → wp (x M) fun r M' => r = [aI (val M L)] ∧ agQ M M') (hm : ∀ L Lk M, Inv L Lk M → wp (m M) fun r M' => r = [aI (val M L)] ∧ agQ M M') : pr x m := by
  intro L Lk M hI
  obtain ⟨r, M1, e1, h1, a1⟩ := hx L Lk M hI
  have hI1 := Inv_ag hI a1
  obtain ⟨r2, M2, e2, h2, a2⟩ := hm L Lk M1 hI1
  rw [hv M M1 L a1] at h2
  subst h1 h2
  refine ⟨_, M1, M2, e1, e2, ⟨L, Lk, Inv_ag hI1 a2⟩, ⟨a1.1 998 (nqs (by omega)) (by omega), a1.1 999 (nqs (by omega)) (by omega)⟩, ?_, ?_⟩
  · rw [a2.1 998 (nqs (by omega)) (by omega), a1.1 998 (nqs (by omega)) (by omega)]
  · rw [a2.1 999 (nqs (by omega)) (by omega), a1.1 999 (nqs (by omega)) (by omega)]
theorem pr_qV {x m : aM → aR} (val : aW → aLaw → Int) (hx : ∀ L Lk M, Inv L Lk M → wp (x M) fun r M' => r = [aI (val (M 158) L)] ∧ agQ M M') (hm : ∀ L Lk M, Inv L Lk M → wp (m M) fun r M' => r = [aI (val (M 158) L)] ∧ agQ M M') : pr x m :=
  pr_q (fun M L => val (M 158) L) (fun M M' L g => by rw [g.1 158 (nqs (by omega)) (by omega)]) hx hm
theorem okW_n {V : aW} (h : okW V) : ∃ n : Nat, V 41 = n ∧ n ≤ 10 := by
  obtain ⟨⟨x, n, a, b, c, e⟩, -⟩ := h
  exact ⟨n, b, e⟩
theorem x_within_eq (d : Nat) (v m : Int) (M : aM) : w_x_within (d + 1) v m M = some ([aI (bI (decide (0 ≤ v ∧ v ≤ m)))], M) := by
  rw [u_x_within]
  by_cases h1 : v < 0
  · rw [if_pos h1, decide_eq_false (by omega)]; rfl
  · rw [if_neg h1]
    by_cases h2 : m < v
    · rw [if_pos h2, decide_eq_false (by omega)]; rfl
    · rw [if_neg h2, decide_eq_true (by omega)]; rfl
theorem wp_bif {b : Bool} {x y : aR} {Q : List aV → aM → Prop} (h1 : b = false → wp x Q) (h2 : b = true → wp y Q) : wp (if bI b = 0 then x else y) Q := by
  cases b with
  | false => exact wp_pos rfl (h1 rfl)
  | true => exact wp_neg (by decide) (h2 rfl)
