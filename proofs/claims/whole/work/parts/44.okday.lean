/-! A day keeps the numbers in their bounds. -/
def okWs (s : Int) (V : aW) : Prop :=
  okA V ∧ (0 ≤ V 8 ∧ V 8 ≤ 150) ∧ (0 ≤ V 0 ∧ V 0 ≤ 9999) ∧ (-1 ≤ V 1 ∧ V 1 < V 41) ∧ (0 ≤ V 4 ∧ V 4 ≤ 99) ∧ (0 ≤ V 5 ∧ V 5 ≤ 99) ∧ (0 ≤ V 6 ∧ V 6 ≤ 1) ∧ (0 ≤ V 42 ∧ V 42 ≤ 1000) ∧ (0 ≤ V 43 ∧ V 43 ≤ 1000) ∧ (∃ x : Nat, V 9 = x ∧ x < 65536) ∧
  (∀ i, i < 10 → 0 ≤ V (53 + i) ∧ V (53 + i) ≤ 5) ∧ (∀ i, i < 10 → 0 ≤ V (11 + i) ∧ V (11 + i) ≤ 9) ∧ (∀ i, i < 10 → 0 ≤ V (21 + i) ∧ V (21 + i) ≤ 999) ∧ (∀ i, i < 10 → 0 ≤ V (31 + i) ∧ V (31 + i) ≤ 999 + s + V 0)
theorem okWs_0 {V : aW} : okWs 0 V ↔ okW V := by unfold okWs okW; simp
theorem okWs_m {s : Int} {V V' : aW} (h : okWs s V) (hA : okA V') (h8 : 0 ≤ V' 8 ∧ V' 8 ≤ 150) (h4 : 0 ≤ V' 4 ∧ V' 4 ≤ 99) (h5 : 0 ≤ V' 5 ∧ V' 5 ≤ 99) (h6 : 0 ≤ V' 6 ∧ V' 6 ≤ 1) (h9 : ∃ x : Nat, V' 9 = x ∧ x < 65536) (hv : ∀ k, k < 44 ∨ 53 ≤ k ∧ k < 63 → k ≠ 8 → k ≠ 10 → k ≠ 4 ∧ k ≠ 5 ∧ k ≠ 6 → k ≠ 9 → k ≠ 2 ∧ k ≠ 3 ∧ k ≠ 7 → V' k = V k) : okWs s V' := by
  unfold okWs at h ⊢
  obtain ⟨g1, g2, g3, g4, g5, g6, g7, g8, g9, g10, g11, g12, g13, g14⟩ := h
  rw [hv 0 (by omega) (by omega) (by omega) (by omega) (by omega) (by omega), hv 1 (by omega) (by omega) (by omega) (by omega) (by omega) (by omega), hv 41 (by omega) (by omega) (by omega) (by omega) (by omega) (by omega), hv 42 (by omega) (by omega) (by omega) (by omega) (by omega) (by omega), hv 43 (by omega) (by omega) (by omega) (by omega) (by omega) (by omega)]
  exact ⟨hA, h8, g3, g4, h4, h5, h6, g8, g9, h9, fun i hi => by rw [hv (53 + i) (by omega) (by omega) (by omega) (by omega) (by omega) (by omega)]; exact g11 i hi, fun i hi => by rw [hv (11 + i) (by omega) (by omega) (by omega) (by omega) (by omega) (by omega)]; exact g12 i hi, fun i hi => by rw [hv (21 + i) (by omega) (by omega) (by omega) (by omega) (by omega) (by omega)]; exact g13 i hi, fun i hi => by rw [hv (31 + i) (by omega) (by omega) (by omega) (by omega) (by omega) (by omega)]; exact g14 i hi⟩
theorem okWs_pNote {s : Int} {tr : Bool} {V : aW} {x y z : Int} (h : okWs s V) : okWs s (pNote tr V x y z) := by
  have h' := h
  obtain ⟨g1, g2, g3, g4, g5, g6, g7, g8, g9, g10, -⟩ := h'
  have q : ∀ k, k ≠ 8 → k < 284 → pNote tr V x y z k = V k := fun k a b => pNote_ne g2 a (by omega)
  exact okWs_m h (okA_pNote g1 g2) (pNote_8 g2) (by rw [q 4 (by omega) (by omega)]; exact g5) (by rw [q 5 (by omega) (by omega)]; exact g6) (by rw [q 6 (by omega) (by omega)]; exact g7) (by rw [q 9 (by omega) (by omega)]; exact g10) fun k hk a _ _ _ _ => q k a (by omega)
theorem okWs_10 {s : Int} {V : aW} {x : Int} (h : okWs s V) (hA : okA (vS V 10 x)) : okWs s (vS V 10 x) := by
  have h' := h
  obtain ⟨g1, g2, g3, g4, g5, g6, g7, g8, g9, g10, -⟩ := h'
  have q : ∀ k, k ≠ 10 → vS V 10 x k = V k := fun k a => vS_ne a
  exact okWs_m h hA (by rw [q 8 (by omega)]; exact g2) (by rw [q 4 (by omega)]; exact g5) (by rw [q 5 (by omega)]; exact g6) (by rw [q 6 (by omega)]; exact g7) (by rw [q 9 (by omega)]; exact g10) fun k _ _ a _ _ _ => q k a
theorem okWs_pEats {s : Int} {tr : Bool} {V : aW} {j : Int} {is : Bool} (h : okWs s V) (hj0 : 0 ≤ j) (hj : j < V 41) : okWs s (pEats tr V j is) := by
  obtain ⟨k, rfl⟩ : ∃ k : Nat, j = k := ⟨j.toNat, by omega⟩
  unfold pEats
  refine okWs_pNote (okWs_10 h ?_)
  cases is with
  | true => simpa using okA_and h.1 hj
  | false => simpa using okA_or h.1 hj
theorem okWs_456 {s : Int} {V : aW} {k : Nat} {x : Int} (h : okWs s V) (hk : (k = 4 ∧ 0 ≤ x ∧ x ≤ 99) ∨ (k = 5 ∧ 0 ≤ x ∧ x ≤ 99) ∨ (k = 6 ∧ 0 ≤ x ∧ x ≤ 1)) : okWs s (vS V k x) := by
  have h' := h
  obtain ⟨g1, g2, g3, g4, g5, g6, g7, g8, g9, g10, -⟩ := h'
  have q : ∀ j, j ≠ k → vS V k x j = V j := fun j a => vS_ne a
  rcases hk with ⟨rfl, hx⟩ | ⟨rfl, hx⟩ | ⟨rfl, hx⟩
  · exact okWs_m h (okA_V g1 (q 10 (by omega)) (q 41 (by omega))) (by rw [q 8 (by omega)]; exact g2) (by rw [vS_at]; exact hx) (by rw [q 5 (by omega)]; exact g6) (by rw [q 6 (by omega)]; exact g7) (by rw [q 9 (by omega)]; exact g10) fun k _ _ _ a _ _ => q k (by omega)
  · exact okWs_m h (okA_V g1 (q 10 (by omega)) (q 41 (by omega))) (by rw [q 8 (by omega)]; exact g2) (by rw [q 4 (by omega)]; exact g5) (by rw [vS_at]; exact hx) (by rw [q 6 (by omega)]; exact g7) (by rw [q 9 (by omega)]; exact g10) fun k _ _ _ a _ _ => q k (by omega)
  · exact okWs_m h (okA_V g1 (q 10 (by omega)) (q 41 (by omega))) (by rw [q 8 (by omega)]; exact g2) (by rw [q 4 (by omega)]; exact g5) (by rw [q 5 (by omega)]; exact g6) (by rw [vS_at]; exact hx) (by rw [q 9 (by omega)]; exact g10) fun k _ _ _ a _ _ => q k (by omega)
theorem okWs_pDoes {s : Int} {tr : Bool} {V : aW} {i : Nat} (h : okWs s V) (hP : okP V) (hi : (i : Int) < V 45) : okWs s (pDoes tr V i) := by
  obtain ⟨p1, p2, p3⟩ := hP i hi
  unfold pDoes
  split
  · next e => exact okWs_456 h (Or.inl ⟨rfl, p3 (by omega)⟩)
  · split
    · next e => exact okWs_456 h (Or.inr (Or.inl ⟨rfl, p3 (by omega)⟩))
    · split
      · have h6 := h.2.2.2.2.2.2.1
        exact okWs_456 h (Or.inr (Or.inr ⟨rfl, by rw [w32_i (by omega) (by omega)]; omega⟩))
      · have p2 := p2 (by omega)
        split
        · split
          · exact okWs_pEats h p2.1 p2.2
          · exact h
        · split
          · exact h
          · exact okWs_pEats h p2.1 p2.2
theorem okWs_pPlan {s : Int} {tr : Bool} (n45 : Nat) (h16 : n45 ≤ 16) : ∀ (f i : Nat) (V : aW), i + f = n45 → V 45 = n45 → okWs s V → okP V → okWs s (pPlan tr f i V)
  | 0, _, _, _, _, h, _ => h
  | f + 1, i, V, hi, h45, h, hP => by
    simp only [pPlan]
    split
    · have n1 : ∀ k, k ≠ 8 → k ≠ 10 → (k ≠ 4 ∧ k ≠ 5 ∧ k ≠ 6) → (k < 284 ∨ 884 ≤ k) → pDoes tr V i k = V k := fun k b c e g => pDoes_ne h.2.1 b c e g
      exact okWs_pPlan n45 h16 f (i + 1) _ (by omega) (by rw [n1 45 (by omega) (by omega) (by omega) (by omega), h45]) (okWs_pDoes h hP (by omega)) (okP_V hP (fun k _ => n1 k (by omega) (by omega) (by omega) (by omega)) (by omega))
    · exact okWs_pPlan n45 h16 f (i + 1) V (by omega) h45 h hP
theorem imin_in2 {x m : Int} (h0 : 0 ≤ x) (hm : 0 ≤ m) : 0 ≤ imin m x ∧ imin m x ≤ m := by unfold imin; split <;> omega
theorem okWs_pB {V : aW} {who h s : Int} (hw : okWs 0 V) (h1 : -1 ≤ who ∧ who < V 41) (hs : 0 ≤ s ∧ s ≤ 9) : okWs 1 (pB V who h s) := by
  have hw' := hw
  unfold okWs at hw ⊢
  obtain ⟨g1, g2, g3, g4, g5, g6, g7, g8, g9, g10, g11, g12, g13, g14⟩ := hw
  have q : ∀ k, k ≠ 1 ∧ k ≠ 3 → (k < 11 ∨ 41 ≤ k) → pB V who h s k = V k := fun k a b => pB_ne a b
  rw [q 8 (by omega) (by omega), q 0 (by omega) (by omega), q 41 (by omega) (by omega), q 4 (by omega) (by omega), q 5 (by omega) (by omega), q 6 (by omega) (by omega), q 42 (by omega) (by omega), q 43 (by omega) (by omega), q 9 (by omega) (by omega)]
  refine ⟨okA_V g1 (q 10 (by omega) (by omega)) (q 41 (by omega) (by omega)), g2, g3, ?_, g5, g6, g7, g8, g9, g10, fun i hi => by rw [q (53 + i) (by omega) (by omega)]; exact g11 i hi, fun i hi => ?_, fun i hi => ?_, fun i hi => ?_⟩
  · rw [show pB V who h s 1 = who by simp [pB]]; exact h1
  · rw [pB_calm _ _ _ _ _ hi]
    have := g12 i hi
    split
    · rw [w32_i (by omega) (by omega)]; unfold imax; split <;> omega
    · exact this
  · rw [pB_since _ _ _ _ _ hi]
    have := g13 i hi
    split
    · omega
    · split
      · rw [w32_i (by omega) (by omega)]; exact imin_in2 (by omega) (by omega)
      · exact this
  · rw [pB_came _ _ _ _ _ hi]
    have := g14 i hi
    split
    · rw [w32_i (by omega) (by omega)]; omega
    · omega
theorem shy_in (V : aW) (L : aLaw) (k : Nat) : 0 ≤ shy V L k ∧ shy V L k ≤ 9 := cl_in (by decide)
theorem okWs_pComes {tr : Bool} {V : aW} {L : aLaw} {who : Int} (h : okWs 0 V) (hw : who = -1 ∨ 0 ≤ who ∧ who < V 41) : okWs 1 (pComes tr V L who) := by
  unfold pComes
  have e41 : ∀ x y z, pNote tr V x y z 41 = V 41 := fun x y z => pNote_ne h.2.1 (by omega) (by omega)
  obtain ⟨n, hn, -⟩ := okW_n (okWs_0.mp h)
  split
  · exact okWs_pB (okWs_pNote h) (by rw [e41]; omega) (by omega)
  · exact okWs_pB (okWs_pNote h) (by rw [e41]; omega) (shy_in _ _ _)
theorem okWs_pPay {s : Int} {tr : Bool} {V : aW} {i : Nat} (h : okWs s V) (hi : i < 16) : okWs s (pPay tr V i) := by
  unfold pPay
  split
  · exact h
  · refine okWs_pNote ?_
    have h' := h
    obtain ⟨g1, g2, g3, g4, g5, g6, g7, g8, g9, ⟨x, hx, hx2⟩, -⟩ := h'
    have q : ∀ k, k ≠ 9 → k ≠ 2 → vS (vS V 9 (ior (V 9) (ishl 1 i))) 2 (w32 (V 2 - V (111 + 3 * i))) k = V k := fun k a b => by rw [vS_ne b, vS_ne a]
    refine okWs_m h (okA_V g1 (q 10 (by omega) (by omega)) (q 41 (by omega) (by omega))) (by rw [q 8 (by omega) (by omega)]; exact g2) (by rw [q 4 (by omega) (by omega)]; exact g5) (by rw [q 5 (by omega) (by omega)]; exact g6) (by rw [q 6 (by omega) (by omega)]; exact g7) ?_ fun k _ _ _ _ a b => q k a (by omega)
    refine ⟨x ||| 2 ^ i, ?_, ?_⟩
    · rw [vS_ne (by omega), vS_at, hx, ior_bit (by omega) (by omega)]
    · exact Nat.or_lt_two_pow (n := 16) hx2 (Nat.pow_lt_pow_right (a := 2) (by omega) hi)
theorem okWs_pPays {s : Int} {tr : Bool} : ∀ (f i : Nat) (V : aW), i + f ≤ 16 → okWs s V → okWs s (pPays tr f i V)
  | 0, _, _, _, h => h
  | f + 1, i, V, hi, h => by
    simp only [pPays]
    exact okWs_pPays f (i + 1) _ (by omega) (okWs_pPay h (by omega))
theorem okWs_7 {s : Int} {V : aW} {x : Int} (h : okWs s V) : okWs s (vS V 7 x) := by
  have h' := h
  obtain ⟨g1, g2, g3, g4, g5, g6, g7, g8, g9, g10, -⟩ := h'
  have q : ∀ k, k ≠ 7 → vS V 7 x k = V k := fun k a => vS_ne a
  exact okWs_m h (okA_V g1 (q 10 (by omega)) (q 41 (by omega))) (by rw [q 8 (by omega)]; exact g2) (by rw [q 4 (by omega)]; exact g5) (by rw [q 5 (by omega)]; exact g6) (by rw [q 6 (by omega)]; exact g7) (by rw [q 9 (by omega)]; exact g10) fun k _ _ _ _ _ a => q k a.2.2
theorem okWs_dawn {s : Int} {tr : Bool} {V : aW} {L : aLaw} (h : okWs s V) : okWs s (pDawn tr V L).1 := by
  have hd : okWs s (dawn1 V) := by unfold dawn1; split; exact okWs_7 h; exact h
  unfold pDawn
  repeat' split
  all_goals first | exact hd | exact okWs_7 hd | exact h
theorem okWs_pWolves {s : Int} {V : aW} (h : okWs s V) : okWs s (pWolves V) := by
  unfold pWolves
  split
  · exact h
  · next h0 =>
    split
    · refine okWs_pNote ?_
      obtain ⟨j0, hj1, hj2⟩ := okA_al h.1 (by omega)
      obtain ⟨x, n, -, hn, -, h10⟩ := h.1
      rcases lcC_in V 10 with e | ⟨j, hj, e, ha⟩
      · exact absurd e (lcC_al hj2 10 (by omega))
      · rw [e]
        have := okA_and (V := vS V 7 (rnd (V 7))) (j := j) (okA_V h.1 (vS_ne (by omega)) (vS_ne (by omega))) (by rw [vS_ne (by omega)]; exact (al_lt ha).2)
        rw [vS_ne (show 10 ≠ 7 by omega)] at this
        exact okWs_10 (okWs_7 h) this
    · exact okWs_7 h
theorem okWs_pEnd {V : aW} (h : okWs 1 V) (h0 : V 0 < 9999) : okWs 0 (pEnd V) := by
  unfold okWs at h ⊢
  obtain ⟨g1, g2, g3, g4, g5, g6, g7, g8, g9, g10, g11, g12, g13, g14⟩ := h
  have q : ∀ k, k ≠ 0 ∧ k ≠ 4 ∧ k ≠ 5 → pEnd V k = V k := fun k a => pEnd_ne a
  have e0 : pEnd V 0 = V 0 + 1 := by unfold pEnd; rw [vS_at, w32_i (by omega) (by omega)]
  have e4 : pEnd V 4 = imax 0 (w32 (V 4 - 1)) := by unfold pEnd; rw [vS_ne (by omega), vS_ne (by omega), vS_at]
  have e5 : pEnd V 5 = imax 0 (w32 (V 5 - 1)) := by unfold pEnd; rw [vS_ne (by omega), vS_at]
  rw [q 8 (by omega), e0, q 1 (by omega), q 41 (by omega), e4, e5, q 6 (by omega), q 42 (by omega), q 43 (by omega), q 9 (by omega)]
  refine ⟨okA_V g1 (q 10 (by omega)) (q 41 (by omega)), g2, by omega, g4, ?_, ?_, g7, g8, g9, g10, fun i hi => by rw [q (53 + i) (by omega)]; exact g11 i hi, fun i hi => by rw [q (11 + i) (by omega)]; exact g12 i hi, fun i hi => by rw [q (21 + i) (by omega)]; exact g13 i hi, fun i hi => by rw [q (31 + i) (by omega)]; have := g14 i hi; omega⟩
  · rw [w32_i (by omega) (by omega)]; unfold imax; split <;> omega
  · rw [w32_i (by omega) (by omega)]; unfold imax; split <;> omega
/-- the cells that a day leaves alone -/
theorem pDay_ne (tr : Bool) (V : aW) (L : aLaw) (h8 : 0 ≤ V 8 ∧ V 8 ≤ 150) : ∀ k, 41 ≤ k → (k < 284 ∨ 884 ≤ k) → pDay tr V L k = V k := by
  intro k h1 h2
  unfold pDay
  have a1 := pPlan_ne (tr := tr) (k := k) (by omega) (by omega) (by omega) h2 (V 45).toNat 0 V h8
  have a2 := pDawn_1 tr (pPlan tr (V 45).toNat 0 V) L
  have h82 : 0 ≤ (pDawn tr (pPlan tr (V 45).toNat 0 V) L).1 8 ∧ (pDawn tr (pPlan tr (V 45).toNat 0 V) L).1 8 ≤ 150 := by rw [a2 8 (by omega)]; exact a1.2
  have a3 := pComes_ne (tr := tr) (L := L) (who := (pDawn tr (pPlan tr (V 45).toNat 0 V) L).2) (k := k) h82 (by omega) (by omega) h2
  have a4 := pPays_ne (tr := tr) (k := k) (by omega) (by omega) h2 (V 46).toNat 0 _ a3.2
  rw [pEnd_ne (by omega)]
  split
  · rw [(pWolves_ne a4.2 (by omega) h2).1, a4.1, a3.1, a2 k (by omega), a1.1]
  · rw [a4.1, a3.1, a2 k (by omega), a1.1]
theorem okW_day {V : aW} {L : aLaw} (h : okW V) (hT : okT V) (h0 : V 0 < 9999) : okW (pDay true V L) := by
  have n45 := hT.1.1
  have n46 := hT.1.2.1
  have h := okWs_0.mpr h
  have b1 := okWs_pPlan (tr := true) (V 45).toNat (by omega) (V 45).toNat 0 V (by omega) (by omega) h hT.2.1
  have n1 : ∀ k, k ≠ 8 → k ≠ 10 → (k ≠ 4 ∧ k ≠ 5 ∧ k ≠ 6) → (k < 284 ∨ 884 ≤ k) → pPlan true (V 45).toNat 0 V k = V k := fun k a b c e => (pPlan_ne a b c e _ 0 V h.2.1).1
  have b2 := okWs_dawn (tr := true) (L := L) b1
  have a2 := pDawn_1 true (pPlan true (V 45).toNat 0 V) L
  obtain ⟨n, hn, h10⟩ := okW_n (okWs_0.mp b1)
  have hw := pDawn_2 true (pPlan true (V 45).toNat 0 V) L n hn h10
  have b3 := okWs_pComes (tr := true) (L := L) (who := (pDawn true (pPlan true (V 45).toNat 0 V) L).2) b2 (by
    rw [a2 41 (by omega), hn]
    rcases hw with e | ⟨j, hj, e⟩
    · exact Or.inl e
    · rw [e]; exact Or.inr ⟨by omega, by omega⟩)
  have a3 := pComes_ne (tr := true) (L := L) (who := (pDawn true (pPlan true (V 45).toNat 0 V) L).2) (k := 0) b2.2.1 (by omega) (by omega) (by omega)
  have b4 := okWs_pPays (tr := true) (V 46).toNat 0 _ (by omega) b3
  have a4 := pPays_ne (tr := true) (k := 0) (by omega) (by omega) (by omega) (V 46).toNat 0 _ b3.2.1
  have b5 := okWs_pWolves b4
  refine okWs_0.mp ?_
  show okWs 0 (pEnd (pWolves (pPays true (V 46).toNat 0 (pComes true (pDawn true (pPlan true (V 45).toNat 0 V) L).1 L (pDawn true (pPlan true (V 45).toNat 0 V) L).2))))
  refine okWs_pEnd b5 ?_
  rw [(pWolves_ne b4.2.1 (by omega) (by omega)).1, a4.1, a3.1, a2 0 (by omega), n1 0 (by omega) (by omega) (by omega) (by omega)]
  exact h0
/-! the book only grows -/
theorem pNote_up {tr : Bool} {V : aW} {x y z : Int} (h8 : 0 ≤ V 8 ∧ V 8 ≤ 150) : V 8 ≤ pNote tr V x y z 8 := by
  unfold pNote
  split
  · next h => rw [vS_at, w32_i (by omega) (by omega)]; omega
  · exact Int.le_refl _
theorem pEats_up {tr : Bool} {V : aW} {x : Int} {is : Bool} (h8 : 0 ≤ V 8 ∧ V 8 ≤ 150) : V 8 ≤ pEats tr V x is 8 := by
  unfold pEats
  refine Int.le_trans ?_ (pNote_up (by rw [vS_ne (by omega)]; exact h8))
  rw [vS_ne (by omega)]; exact Int.le_refl _
theorem pDoes_up {tr : Bool} {V : aW} {i : Nat} (h8 : 0 ≤ V 8 ∧ V 8 ≤ 150) : V 8 ≤ pDoes tr V i 8 := by
  unfold pDoes
  repeat' split
  all_goals first | exact pEats_up h8 | (rw [vS_ne (by omega)]; exact Int.le_refl _) | exact Int.le_refl _
theorem pPlan_up {tr : Bool} : ∀ (f i : Nat) (V : aW), 0 ≤ V 8 ∧ V 8 ≤ 150 → V 8 ≤ pPlan tr f i V 8
  | 0, _, _, _ => Int.le_refl _
  | f + 1, i, V, h8 => by
    simp only [pPlan]
    split
    · exact Int.le_trans (pDoes_up h8) (pPlan_up f (i + 1) _ (pDoes_8 h8))
    · exact pPlan_up f (i + 1) V h8
theorem pPay_up {tr : Bool} {V : aW} {i : Nat} (h8 : 0 ≤ V 8 ∧ V 8 ≤ 150) : V 8 ≤ pPay tr V i 8 := by
  unfold pPay
  split
  · exact Int.le_refl _
  · refine Int.le_trans ?_ (pNote_up (by rw [vS_ne (by omega), vS_ne (by omega)]; exact h8))
    rw [vS_ne (by omega), vS_ne (by omega)]; exact Int.le_refl _
theorem pPays_up {tr : Bool} : ∀ (f i : Nat) (V : aW), 0 ≤ V 8 ∧ V 8 ≤ 150 → V 8 ≤ pPays tr f i V 8
  | 0, _, _, _ => Int.le_refl _
  | f + 1, i, V, h8 => by
    simp only [pPays]
    exact Int.le_trans (pPay_up h8) (pPays_up f (i + 1) _ (pPay_8 h8))
theorem pComes_up {tr : Bool} {V : aW} {L : aLaw} {who : Int} (h8 : 0 ≤ V 8 ∧ V 8 ≤ 150) : V 8 ≤ pComes tr V L who 8 := by
  unfold pComes
  split
  · rw [pB_ne (by omega) (by omega)]; exact pNote_up h8
  · rw [pB_ne (by omega) (by omega)]; exact pNote_up h8
theorem pWolves_up {V : aW} (h8 : 0 ≤ V 8 ∧ V 8 ≤ 150) : V 8 ≤ pWolves V 8 := by
  unfold pWolves
  split
  · exact Int.le_refl _
  · split
    · refine Int.le_trans ?_ (pNote_up (by rw [vS_ne (by omega), vS_ne (by omega)]; exact h8))
      rw [vS_ne (by omega), vS_ne (by omega)]; exact Int.le_refl _
    · rw [vS_ne (by omega)]; exact Int.le_refl _
theorem pDay_up (tr : Bool) (V : aW) (L : aLaw) (h8 : 0 ≤ V 8 ∧ V 8 ≤ 150) : V 8 ≤ pDay tr V L 8 ∧ pDay tr V L 8 ≤ 150 := by
  unfold pDay
  have a1 := pPlan_ne (tr := tr) (k := 0) (by omega) (by omega) (by omega) (by omega) (V 45).toNat 0 V h8
  have a2 := pDawn_1 tr (pPlan tr (V 45).toNat 0 V) L
  have h82 : 0 ≤ (pDawn tr (pPlan tr (V 45).toNat 0 V) L).1 8 ∧ (pDawn tr (pPlan tr (V 45).toNat 0 V) L).1 8 ≤ 150 := by rw [a2 8 (by omega)]; exact a1.2
  have a3 := pComes_ne (tr := tr) (L := L) (who := (pDawn tr (pPlan tr (V 45).toNat 0 V) L).2) (k := 0) h82 (by omega) (by omega) (by omega)
  have a4 := pPays_ne (tr := tr) (k := 0) (by omega) (by omega) (by omega) (V 46).toNat 0 _ a3.2
  have u1 := pPlan_up (tr := tr) (V 45).toNat 0 V h8
  have u3 := pComes_up (tr := tr) (L := L) (who := (pDawn tr (pPlan tr (V 45).toNat 0 V) L).2) h82
  have u4 := pPays_up (tr := tr) (V 46).toNat 0 _ a3.2
  rw [pEnd_ne (by omega)]
  rw [a2 8 (by omega)] at u3
  split
  · have u5 := pWolves_up a4.2
    exact ⟨Int.le_trans u1 (Int.le_trans u3 (Int.le_trans u4 u5)), (pWolves_ne (k := 0) a4.2 (by omega) (by omega)).2.2⟩
  · exact ⟨Int.le_trans u1 (Int.le_trans u3 u4), a4.2.2⟩
