/-! seen, work, gate, ate, vote -/
theorem seen_ag (V : aW) (n : Nat) (a b : Int) (hn : n < 12) : ∀ j, j ≠ 48 → (j < 175 ∨ 199 ≤ j) → (vS (vS (vS V (175 + 2 * n) a) (175 + 2 * n + 1) b) 48 ((n + 1 : Nat) : Int)) j = V j := by
  intro j h1 h2
  rw [vS_ne h1, vS_ne (by omega), vS_ne (by omega)]
theorem seen_okT0 {V : aW} (h : okT V) : okT (vS V 48 0) := by
  obtain ⟨⟨n1, n2, n3, n4, n5, n6, n7, n8⟩, hP, hD, hF, hS, hK, hG, hA, hV⟩ := h
  have ag : ∀ j, j ≠ 48 → vS V 48 0 j = V j := fun j hj => vS_ne hj
  have e : vS V 48 0 48 = 0 := vS_at
  refine ⟨?_, okP_V hP (fun j hj => ag j (by omega)) (by omega), ?_, ?_, ?_, ?_, ?_, ?_, ?_⟩
  · unfold okN
    rw [ag 45 (by omega), ag 46 (by omega), ag 47 (by omega), e, ag 49 (by omega), ag 50 (by omega), ag 51 (by omega), ag 52 (by omega)]
    exact ⟨n1, n2, n3, ⟨by omega, by omega⟩, n5, n6, n7, n8⟩
  · intro i hi; rw [ag 46 (by omega)] at hi; rw [ag (111 + 3 * i) (by omega), ag (112 + 3 * i) (by omega), ag (113 + 3 * i) (by omega), ag 41 (by omega)]; exact hD i hi
  · intro i hi; rw [ag 47 (by omega)] at hi; rw [ag (159 + 2 * i) (by omega), ag (160 + 2 * i) (by omega)]; exact hF i hi
  · intro i hi; rw [e] at hi; omega
  · intro i hi; rw [ag 49 (by omega)] at hi; rw [ag (199 + i) (by omega)]; exact hK i hi
  · intro i hi; rw [ag 50 (by omega)] at hi; rw [ag (207 + 2 * i) (by omega), ag (208 + 2 * i) (by omega)]; exact hG i hi
  · intro i hi; rw [ag 51 (by omega)] at hi; rw [ag (235 + 2 * i) (by omega), ag (236 + 2 * i) (by omega), ag 41 (by omega)]; exact hA i hi
  · intro i hi; rw [ag 52 (by omega)] at hi; rw [ag (275 + i) (by omega)]; exact hV i hi
theorem seen_okT {V : aW} {n : Nat} {a b : Int} (h : okT V) (hn : V 48 = n) (hlt : n < 12) (hp : (0 ≤ a ∧ a < V 41) ∧ (0 ≤ b ∧ b < V 41) ∧ a ≠ b) : okT (vS (vS (vS V (175 + 2 * n) a) (175 + 2 * n + 1) b) 48 ((n + 1 : Nat) : Int)) := by
  obtain ⟨⟨n1, n2, n3, n4, n5, n6, n7, n8⟩, hP, hD, hF, hS, hK, hG, hA, hV⟩ := h
  have ag := seen_ag V n a b hlt
  have e : (vS (vS (vS V (175 + 2 * n) a) (175 + 2 * n + 1) b) 48 ((n + 1 : Nat) : Int)) 48 = ((n + 1 : Nat) : Int) := vS_at
  have ag1 : ∀ j, j ≠ 48 → j ≠ 175 + 2 * n → j ≠ 175 + 2 * n + 1 → (vS (vS (vS V (175 + 2 * n) a) (175 + 2 * n + 1) b) 48 ((n + 1 : Nat) : Int)) j = V j := fun j h1 h2 h3 => by rw [vS_ne h1, vS_ne h3, vS_ne h2]
  have ea : (vS (vS (vS V (175 + 2 * n) a) (175 + 2 * n + 1) b) 48 ((n + 1 : Nat) : Int)) (175 + 2 * n) = a := by rw [vS_ne (by omega), vS_ne (by omega), vS_at]
  have eb : (vS (vS (vS V (175 + 2 * n) a) (175 + 2 * n + 1) b) 48 ((n + 1 : Nat) : Int)) (175 + 2 * n + 1) = b := by rw [vS_ne (by omega), vS_at]
  refine ⟨?_, okP_V hP (fun j hj => ag j (by omega) (by omega)) (by omega), ?_, ?_, ?_, ?_, ?_, ?_, ?_⟩
  · unfold okN
    rw [ag 45 (by omega) (by omega), ag 46 (by omega) (by omega), ag 47 (by omega) (by omega), e, ag 49 (by omega) (by omega), ag 50 (by omega) (by omega), ag 51 (by omega) (by omega), ag 52 (by omega) (by omega)]
    exact ⟨n1, n2, n3, ⟨by omega, by omega⟩, n5, n6, n7, n8⟩
  · intro i hi; rw [ag 46 (by omega) (by omega)] at hi; rw [ag (111 + 3 * i) (by omega) (by omega), ag (112 + 3 * i) (by omega) (by omega), ag (113 + 3 * i) (by omega) (by omega), ag 41 (by omega) (by omega)]; exact hD i hi
  · intro i hi; rw [ag 47 (by omega) (by omega)] at hi; rw [ag (159 + 2 * i) (by omega) (by omega), ag (160 + 2 * i) (by omega) (by omega)]; exact hF i hi
  · intro i hi
    rw [e] at hi
    by_cases hin : i = n
    · subst hin
      rw [show 176 + 2 * i = 175 + 2 * i + 1 by omega, ea, eb, ag 41 (by omega) (by omega)]
      exact hp
    · rw [ag1 (175 + 2 * i) (by omega) (by omega) (by omega), ag1 (176 + 2 * i) (by omega) (by omega) (by omega), ag 41 (by omega) (by omega)]
      exact hS i (by omega)
  · intro i hi; rw [ag 49 (by omega) (by omega)] at hi; rw [ag (199 + i) (by omega) (by omega)]; exact hK i hi
  · intro i hi; rw [ag 50 (by omega) (by omega)] at hi; rw [ag (207 + 2 * i) (by omega) (by omega), ag (208 + 2 * i) (by omega) (by omega)]; exact hG i hi
  · intro i hi; rw [ag 51 (by omega) (by omega)] at hi; rw [ag (235 + 2 * i) (by omega) (by omega), ag (236 + 2 * i) (by omega) (by omega), ag 41 (by omega) (by omega)]; exact hA i hi
  · intro i hi; rw [ag 52 (by omega) (by omega)] at hi; rw [ag (275 + i) (by omega) (by omega)]; exact hV i hi
theorem seen_rTl0 {V : aW} {M M' : aM} (h : rTl 1 V M) (hN : okN V) (f : ∀ k, k ≠ 20 → k ≠ 21 → k ≠ 158 → M' k = M k) (g0 : M' 20 0 = 12) (g2 : M' 20 2 = 0) : rTl 1 (vS V 48 0) M' := by
  obtain ⟨h1, h2, h3, h4, h5, h6, h7, h8⟩ := h
  obtain ⟨n1, n2, n3, n4, n5, n6, n7, n8⟩ := hN
  have ag : ∀ j, j ≠ 48 → vS V 48 0 j = V j := fun j hj => vS_ne hj
  exact ⟨rRow_V (rRow_fr h1 fun k _ _ => f k (by omega) (by omega) (by omega)) (ag 45 (by omega)) fun i j _ _ => congrArg (· - (if j = 1 then (7 : Int) else 0)) (ag (63 + 3 * i + j) (by omega)),
    rRow_V (rRow_fr h2 fun k _ _ => f k (by omega) (by omega) (by omega)) (ag 46 (by omega)) fun i j _ _ => ag _ (by omega),
    rRow_V (rRow_fr h3 fun k _ _ => f k (by omega) (by omega) (by omega)) (ag 47 (by omega)) fun i j _ _ => ag _ (by omega),
    ⟨g0, by rw [vS_at]; exact g2, fun i j hi _ => by rw [vS_at] at hi; omega⟩,
    rRow_V (rRow_fr h5 fun k _ _ => f k (by omega) (by omega) (by omega)) (ag 49 (by omega)) fun i j _ _ => ag _ (by omega),
    rRow_V (rRow_fr h6 fun k _ _ => f k (by omega) (by omega) (by omega)) (ag 50 (by omega)) fun i j _ _ => ag _ (by omega),
    rRow_V (rRow_fr h7 fun k _ _ => f k (by omega) (by omega) (by omega)) (ag 51 (by omega)) fun i j _ _ => ag _ (by omega),
    rRow_V (rRow_fr h8 fun k _ _ => f k (by omega) (by omega) (by omega)) (ag 52 (by omega)) fun i j _ _ => ag _ (by omega)⟩
theorem seen_rTl {V : aW} {M M' : aM} {n : Nat} {a b : Int} (h : rTl 1 V M) (hN : okN V) (hn : V 48 = n) (hlt : n < 12) (f : ∀ k, k ≠ 20 → k ≠ 21 → k ≠ 158 → M' k = M k) (g0 : M' 20 0 = 12) (g2 : M' 20 2 = (n + 1 : Nat)) (g : ∀ j, M' 21 j = if j = 4 * n then a else if j = 4 * n + 1 then b else if j = 4 * n + 2 then 0 else if j = 4 * n + 3 then 0 else M 21 j) : rTl 1 (vS (vS (vS V (175 + 2 * n) a) (175 + 2 * n + 1) b) 48 ((n + 1 : Nat) : Int)) M' := by
  obtain ⟨h1, h2, h3, h4, h5, h6, h7, h8⟩ := h
  obtain ⟨n1, n2, n3, n4, n5, n6, n7, n8⟩ := hN
  have ag := seen_ag V n a b hlt
  have e : (vS (vS (vS V (175 + 2 * n) a) (175 + 2 * n + 1) b) 48 ((n + 1 : Nat) : Int)) 48 = ((n + 1 : Nat) : Int) := vS_at
  have row : rRow (1 + 19) 12 ((vS (vS (vS V (175 + 2 * n) a) (175 + 2 * n + 1) b) 48 ((n + 1 : Nat) : Int)) 48) (fun i j => (vS (vS (vS V (175 + 2 * n) a) (175 + 2 * n + 1) b) 48 ((n + 1 : Nat) : Int)) (175 + 2 * i + j)) 2 M' := by
    refine ⟨g0, by rw [e]; exact g2, fun i j hi hj => ?_⟩
    rw [e] at hi
    rw [show 1 + 19 + 1 = 21 from rfl, g]
    show _ = (vS (vS (vS V (175 + 2 * n) a) (175 + 2 * n + 1) b) 48 ((n + 1 : Nat) : Int)) (175 + 2 * i + j)
    by_cases hin : i = n
    · subst hin
      have : j = 0 ∨ j = 1 := by omega
      rcases this with rfl | rfl
      · rw [if_pos (by omega), vS_ne (by omega), vS_ne (by omega), Nat.add_zero, vS_at]
      · rw [if_neg (by omega), if_pos (by omega), vS_ne (by omega), vS_at]
    · rw [if_neg (by omega), if_neg (by omega), if_neg (by omega), if_neg (by omega), vS_ne (by omega), vS_ne (by omega), vS_ne (by omega)]
      exact h4.2.2 i j (by omega) hj
  exact ⟨rRow_V (rRow_fr h1 fun k _ _ => f k (by omega) (by omega) (by omega)) (ag 45 (by omega) (by omega)) fun i j _ _ => congrArg (· - (if j = 1 then (7 : Int) else 0)) (ag (63 + 3 * i + j) (by omega) (by omega)),
    rRow_V (rRow_fr h2 fun k _ _ => f k (by omega) (by omega) (by omega)) (ag 46 (by omega) (by omega)) fun i j _ _ => ag _ (by omega) (by omega),
    rRow_V (rRow_fr h3 fun k _ _ => f k (by omega) (by omega) (by omega)) (ag 47 (by omega) (by omega)) fun i j _ _ => ag _ (by omega) (by omega),
    row,
    rRow_V (rRow_fr h5 fun k _ _ => f k (by omega) (by omega) (by omega)) (ag 49 (by omega) (by omega)) fun i j _ _ => ag _ (by omega) (by omega),
    rRow_V (rRow_fr h6 fun k _ _ => f k (by omega) (by omega) (by omega)) (ag 50 (by omega) (by omega)) fun i j _ _ => ag _ (by omega) (by omega),
    rRow_V (rRow_fr h7 fun k _ _ => f k (by omega) (by omega) (by omega)) (ag 51 (by omega) (by omega)) fun i j _ _ => ag _ (by omega) (by omega),
    rRow_V (rRow_fr h8 fun k _ _ => f k (by omega) (by omega) (by omega)) (ag 52 (by omega) (by omega)) fun i j _ _ => ag _ (by omega) (by omega)⟩
theorem pr_seen (d : Nat) (a b : Int) : pr (w_x_seen (d + 40) a b) (w_m_seen (d + 40) a b) := by
  refine pr_tell (k := 48) (c := 20) (B := 175) (w := 2) (most := 12) (a := a) (b := b) (fun M => decide (0 ≤ a ∧ a < M 158 41 ∧ 0 ≤ b ∧ b < M 158 41 ∧ a ≠ b)) (by omega) (fun M M' h => by simp only [h 41 (by omega)]) ?_ ?_ ?_ (by omega) ?_ ?_
  · intro L Lk M hI n hn hle
    obtain ⟨⟨hW, hT, hw, hv, hok⟩, -⟩ := hI
    obtain ⟨cc, hcc, h10⟩ := okW_n hW
    obtain ⟨t1, t2, t3, t4, t5, t6, t7, t8⟩ := hw.1.2.1
    obtain ⟨r0, r2, rc⟩ := t4
    rw [l_x_seen]
    have key : ∀ (fi : Bool), decide (0 ≤ a ∧ a < M 158 41 ∧ 0 ≤ b ∧ b < M 158 41 ∧ a ≠ b) = fi → wp (bndI (w_rows_tell (d + 39) 20 a b (bI fi) M) fun y M => some ([aI y], M)) fun r M' => (∃ v, r = [aI v]) ∧ tellOut 20 12 n a b (decide (0 ≤ a ∧ a < M 158 41 ∧ 0 ≤ b ∧ b < M 158 41 ∧ a ≠ b)) M r M' := by
      intro fi hfi
      rw [hfi]
      refine wp_idI ?_
      refine wp_mono (rows_tell_eq _ 20 n 12 a b fi M r0 (by rw [show M 20 2 = M 158 48 from r2, hn]) hle (by omega) al21) ?_
      rintro r M' ⟨⟨v, e⟩, h⟩
      exact ⟨⟨v, e⟩, ⟨v, e⟩, h⟩
    refine wp_eI (wood_has_eq _ 2 a (M 158) M (rW_wd hw).1 (by omega)) ?_
    refine wp_bif (fun h => ?_) (fun h => ?_)
    · have h := of_decide_eq_false h
      exact key false (decide_eq_false (by omega))
    have h := of_decide_eq_true h
    refine wp_eI (wood_has_eq _ 2 b (M 158) M (rW_wd hw).1 (by omega)) ?_
    refine wp_bif (fun h1 => ?_) (fun h1 => ?_)
    · have h1 := of_decide_eq_false h1
      exact key false (decide_eq_false (by omega))
    have h1 := of_decide_eq_true h1
    refine wp_if (fun h2 => ?_) (fun h2 => ?_)
    · exact key false (decide_eq_false (by omega))
    · exact key true (decide_eq_true (by omega))
  · intro M n hn hle h0 h10
    rw [l_m_seen]
    simp only [al158]
    refine wp_if (fun h1 => ?_) (fun h1 => ?_)
    · refine wp_inb ⟨by omega, by omega⟩ ?_
      refine wp_w fun M1 w1 f1 => ?_
      exact wp_ret (Or.inl ⟨h1, rfl, f1, w1⟩)
    refine wp_eI (m_isDeer_eq _ _ M h0 h10) ?_
    refine wp_bif (fun h => ?_) (fun h => ?_)
    · have h := of_decide_eq_false h
      exact wp_ret (Or.inr (Or.inl ⟨h1, Or.inl (decide_eq_false (by omega)), rfl, rfl⟩))
    have h := of_decide_eq_true h
    refine wp_eI (m_isDeer_eq _ _ M h0 h10) ?_
    refine wp_bif (fun h2 => ?_) (fun h2 => ?_)
    · have h2 := of_decide_eq_false h2
      exact wp_ret (Or.inr (Or.inl ⟨h1, Or.inl (decide_eq_false (by omega)), rfl, rfl⟩))
    have h2 := of_decide_eq_true h2
    refine wp_if (fun h3 => ?_) (fun h3 => ?_)
    · exact wp_ret (Or.inr (Or.inl ⟨h1, Or.inl (decide_eq_false (by omega)), rfl, rfl⟩))
    refine wp_inb ⟨by omega, by omega⟩ ?_
    refine wp_if (fun hm => ?_) (fun hm => ?_)
    · exact wp_ret (Or.inr (Or.inl ⟨h1, Or.inr (by omega), rfl, rfl⟩))
    refine wp_inb ⟨by omega, by omega⟩ ?_
    rw [hn]
    have e1 : w32 (175 + w32 (2 * (n : Int))) = ((175 + 2 * n : Nat) : Int) := by simp (disch := omega) only [w32_i]; omega
    have e2 : w32 (((175 + 2 * n : Nat) : Int) + 1) = ((175 + 2 * n + 1 : Nat) : Int) := by rw [w32_i (by omega) (by omega)]; omega
    rw [e1]
    refine wp_inb ⟨by omega, by omega⟩ ?_
    refine wp_w fun M1 w1 f1 => ?_
    refine wp_inb ⟨by omega, by omega⟩ ?_
    rw [w1, vS_ne (show 48 ≠ ((175 + 2 * n : Nat) : Int).toNat by rw [tn_n]; omega), hn, e1, e2]
    refine wp_inb ⟨by omega, by omega⟩ ?_
    refine wp_w fun M2 w2 f2 => ?_
    refine wp_inb ⟨by omega, by omega⟩ ?_
    refine wp_inb ⟨by omega, by omega⟩ ?_
    rw [w2, w1, tn_n, tn_n, vS_ne (show 48 ≠ 175 + 2 * n + 1 by omega), vS_ne (show 48 ≠ 175 + 2 * n by omega), hn, w32_i (by omega) (by omega)]
    refine wp_w fun M3 w3 f3 => ?_
    refine wp_inb ⟨by omega, by omega⟩ ?_
    refine wp_ret (Or.inr (Or.inr ⟨h1, decide_eq_true (by omega), by omega, ?_, fr_tt f1 (fr_tt f2 f3), ?_⟩))
    · rw [w3, vS_at]; rfl
    · rw [w3, w2, w1, tn_n, tn_n]; rfl
  · intro V hT
    obtain ⟨⟨n1, n2, n3, n4, n5, n6, n7, n8⟩, -⟩ := hT
    exact n4
  · intro L Lk M M' M'' hI f1 f2 hv g0 g2 g3
    have f : ∀ k, k ≠ 20 → k ≠ 21 → k ≠ 158 → M'' k = M k := fun k a _ b => (f2 k (by simp [b])).trans (f1 k (by simp [a]))
    have hT := hI.1.2.1
    refine Inv_T (c := 20) hI (by omega) f (fun k hk => by rw [hv, vS_ne (by omega)]) (by rw [hv]; exact seen_okT0 hT) (by rw [hv]; exact seen_rTl0 hI.1.2.2.1.1.2.1 hT.1 f g0 g2)
  · intro L Lk M M' M'' n hI hn hlt hne hf f1 f2 hv g0 g2 g
    have h := of_decide_eq_true hf
    have f : ∀ k, k ≠ 20 → k ≠ 21 → k ≠ 158 → M'' k = M k := fun k a b' b => (f2 k (by simp [b])).trans (f1 k (by simp [a, b']))
    have hT := hI.1.2.1
    rw [if_pos (show (2 : Nat) = 2 from rfl)] at hv
    refine Inv_T (c := 20) hI (by omega) f (fun k hk => by rw [hv, seen_ag _ n a b hlt k (by omega) (by omega)]) (by rw [hv]; exact seen_okT hT hn hlt ⟨⟨h.1, h.2.1⟩, ⟨h.2.2.1, h.2.2.2.1⟩, h.2.2.2.2⟩) (by rw [hv]; exact seen_rTl hI.1.2.2.1.1.2.1 hT.1 hn hlt f g0 g2 g)
theorem work_ag (V : aW) (n : Nat) (a b : Int) (hn : n < 8) : ∀ j, j ≠ 49 → (j < 199 ∨ 207 ≤ j) → (vS (vS V (199 + n) a) 49 ((n + 1 : Nat) : Int)) j = V j := by
  intro j h1 h2
  rw [vS_ne h1, vS_ne (by omega)]
theorem work_okT0 {V : aW} (h : okT V) : okT (vS V 49 0) := by
  obtain ⟨⟨n1, n2, n3, n4, n5, n6, n7, n8⟩, hP, hD, hF, hS, hK, hG, hA, hV⟩ := h
  have ag : ∀ j, j ≠ 49 → vS V 49 0 j = V j := fun j hj => vS_ne hj
  have e : vS V 49 0 49 = 0 := vS_at
  refine ⟨?_, okP_V hP (fun j hj => ag j (by omega)) (by omega), ?_, ?_, ?_, ?_, ?_, ?_, ?_⟩
  · unfold okN
    rw [ag 45 (by omega), ag 46 (by omega), ag 47 (by omega), ag 48 (by omega), e, ag 50 (by omega), ag 51 (by omega), ag 52 (by omega)]
    exact ⟨n1, n2, n3, n4, ⟨by omega, by omega⟩, n6, n7, n8⟩
  · intro i hi; rw [ag 46 (by omega)] at hi; rw [ag (111 + 3 * i) (by omega), ag (112 + 3 * i) (by omega), ag (113 + 3 * i) (by omega), ag 41 (by omega)]; exact hD i hi
  · intro i hi; rw [ag 47 (by omega)] at hi; rw [ag (159 + 2 * i) (by omega), ag (160 + 2 * i) (by omega)]; exact hF i hi
  · intro i hi; rw [ag 48 (by omega)] at hi; rw [ag (175 + 2 * i) (by omega), ag (176 + 2 * i) (by omega), ag 41 (by omega)]; exact hS i hi
  · intro i hi; rw [e] at hi; omega
  · intro i hi; rw [ag 50 (by omega)] at hi; rw [ag (207 + 2 * i) (by omega), ag (208 + 2 * i) (by omega)]; exact hG i hi
  · intro i hi; rw [ag 51 (by omega)] at hi; rw [ag (235 + 2 * i) (by omega), ag (236 + 2 * i) (by omega), ag 41 (by omega)]; exact hA i hi
  · intro i hi; rw [ag 52 (by omega)] at hi; rw [ag (275 + i) (by omega)]; exact hV i hi
theorem work_okT {V : aW} {n : Nat} {a : Int} (h : okT V) (hn : V 49 = n) (hlt : n < 8) (hp : 1 ≤ a ∧ a ≤ 24) : okT (vS (vS V (199 + n) a) 49 ((n + 1 : Nat) : Int)) := by
  obtain ⟨⟨n1, n2, n3, n4, n5, n6, n7, n8⟩, hP, hD, hF, hS, hK, hG, hA, hV⟩ := h
  have ag := work_ag V n a 0 hlt
  have e : (vS (vS V (199 + n) a) 49 ((n + 1 : Nat) : Int)) 49 = ((n + 1 : Nat) : Int) := vS_at
  have ag1 : ∀ j, j ≠ 49 → j ≠ 199 + 1 * n →  (vS (vS V (199 + n) a) 49 ((n + 1 : Nat) : Int)) j = V j := fun j h1 h2 => by rw [vS_ne h1, vS_ne (by omega)]
  have ea : (vS (vS V (199 + n) a) 49 ((n + 1 : Nat) : Int)) (199 + n) = a := by rw [vS_ne (by omega), vS_at]
  refine ⟨?_, okP_V hP (fun j hj => ag j (by omega) (by omega)) (by omega), ?_, ?_, ?_, ?_, ?_, ?_, ?_⟩
  · unfold okN
    rw [ag 45 (by omega) (by omega), ag 46 (by omega) (by omega), ag 47 (by omega) (by omega), ag 48 (by omega) (by omega), e, ag 50 (by omega) (by omega), ag 51 (by omega) (by omega), ag 52 (by omega) (by omega)]
    exact ⟨n1, n2, n3, n4, ⟨by omega, by omega⟩, n6, n7, n8⟩
  · intro i hi; rw [ag 46 (by omega) (by omega)] at hi; rw [ag (111 + 3 * i) (by omega) (by omega), ag (112 + 3 * i) (by omega) (by omega), ag (113 + 3 * i) (by omega) (by omega), ag 41 (by omega) (by omega)]; exact hD i hi
  · intro i hi; rw [ag 47 (by omega) (by omega)] at hi; rw [ag (159 + 2 * i) (by omega) (by omega), ag (160 + 2 * i) (by omega) (by omega)]; exact hF i hi
  · intro i hi; rw [ag 48 (by omega) (by omega)] at hi; rw [ag (175 + 2 * i) (by omega) (by omega), ag (176 + 2 * i) (by omega) (by omega), ag 41 (by omega) (by omega)]; exact hS i hi
  · intro i hi
    rw [e] at hi
    by_cases hin : i = n
    · subst hin
      rw [ea]
      exact hp
    · rw [ag1 (199 + i) (by omega) (by omega)]
      exact hK i (by omega)
  · intro i hi; rw [ag 50 (by omega) (by omega)] at hi; rw [ag (207 + 2 * i) (by omega) (by omega), ag (208 + 2 * i) (by omega) (by omega)]; exact hG i hi
  · intro i hi; rw [ag 51 (by omega) (by omega)] at hi; rw [ag (235 + 2 * i) (by omega) (by omega), ag (236 + 2 * i) (by omega) (by omega), ag 41 (by omega) (by omega)]; exact hA i hi
  · intro i hi; rw [ag 52 (by omega) (by omega)] at hi; rw [ag (275 + i) (by omega) (by omega)]; exact hV i hi
theorem work_rTl0 {V : aW} {M M' : aM} (h : rTl 1 V M) (hN : okN V) (f : ∀ k, k ≠ 22 → k ≠ 23 → k ≠ 158 → M' k = M k) (g0 : M' 22 0 = 8) (g2 : M' 22 2 = 0) : rTl 1 (vS V 49 0) M' := by
  obtain ⟨h1, h2, h3, h4, h5, h6, h7, h8⟩ := h
  obtain ⟨n1, n2, n3, n4, n5, n6, n7, n8⟩ := hN
  have ag : ∀ j, j ≠ 49 → vS V 49 0 j = V j := fun j hj => vS_ne hj
  exact ⟨rRow_V (rRow_fr h1 fun k _ _ => f k (by omega) (by omega) (by omega)) (ag 45 (by omega)) fun i j _ _ => congrArg (· - (if j = 1 then (7 : Int) else 0)) (ag (63 + 3 * i + j) (by omega)),
    rRow_V (rRow_fr h2 fun k _ _ => f k (by omega) (by omega) (by omega)) (ag 46 (by omega)) fun i j _ _ => ag _ (by omega),
    rRow_V (rRow_fr h3 fun k _ _ => f k (by omega) (by omega) (by omega)) (ag 47 (by omega)) fun i j _ _ => ag _ (by omega),
    rRow_V (rRow_fr h4 fun k _ _ => f k (by omega) (by omega) (by omega)) (ag 48 (by omega)) fun i j _ _ => ag _ (by omega),
    ⟨g0, by rw [vS_at]; exact g2, fun i j hi _ => by rw [vS_at] at hi; omega⟩,
    rRow_V (rRow_fr h6 fun k _ _ => f k (by omega) (by omega) (by omega)) (ag 50 (by omega)) fun i j _ _ => ag _ (by omega),
    rRow_V (rRow_fr h7 fun k _ _ => f k (by omega) (by omega) (by omega)) (ag 51 (by omega)) fun i j _ _ => ag _ (by omega),
    rRow_V (rRow_fr h8 fun k _ _ => f k (by omega) (by omega) (by omega)) (ag 52 (by omega)) fun i j _ _ => ag _ (by omega)⟩
theorem work_rTl {V : aW} {M M' : aM} {n : Nat} {a b : Int} (h : rTl 1 V M) (hN : okN V) (hn : V 49 = n) (hlt : n < 8) (f : ∀ k, k ≠ 22 → k ≠ 23 → k ≠ 158 → M' k = M k) (g0 : M' 22 0 = 8) (g2 : M' 22 2 = (n + 1 : Nat)) (g : ∀ j, M' 23 j = if j = 4 * n then a else if j = 4 * n + 1 then b else if j = 4 * n + 2 then 0 else if j = 4 * n + 3 then 0 else M 23 j) : rTl 1 (vS (vS V (199 + n) a) 49 ((n + 1 : Nat) : Int)) M' := by
  obtain ⟨h1, h2, h3, h4, h5, h6, h7, h8⟩ := h
  obtain ⟨n1, n2, n3, n4, n5, n6, n7, n8⟩ := hN
  have ag := work_ag V n a b hlt
  have e : (vS (vS V (199 + n) a) 49 ((n + 1 : Nat) : Int)) 49 = ((n + 1 : Nat) : Int) := vS_at
  have row : rRow (1 + 21) 8 ((vS (vS V (199 + n) a) 49 ((n + 1 : Nat) : Int)) 49) (fun i j => (vS (vS V (199 + n) a) 49 ((n + 1 : Nat) : Int)) (199 + i + j)) 1 M' := by
    refine ⟨g0, by rw [e]; exact g2, fun i j hi hj => ?_⟩
    rw [e] at hi
    rw [show 1 + 21 + 1 = 23 from rfl, g]
    show _ = (vS (vS V (199 + n) a) 49 ((n + 1 : Nat) : Int)) (199 + i + j)
    by_cases hin : i = n
    · subst hin
      have : j = 0 := by omega
      subst this
      rw [if_pos (by omega), vS_ne (by omega), Nat.add_zero, vS_at]
    · rw [if_neg (by omega), if_neg (by omega), if_neg (by omega), if_neg (by omega), vS_ne (by omega), vS_ne (by omega)]
      exact h5.2.2 i j (by omega) hj
  exact ⟨rRow_V (rRow_fr h1 fun k _ _ => f k (by omega) (by omega) (by omega)) (ag 45 (by omega) (by omega)) fun i j _ _ => congrArg (· - (if j = 1 then (7 : Int) else 0)) (ag (63 + 3 * i + j) (by omega) (by omega)),
    rRow_V (rRow_fr h2 fun k _ _ => f k (by omega) (by omega) (by omega)) (ag 46 (by omega) (by omega)) fun i j _ _ => ag _ (by omega) (by omega),
    rRow_V (rRow_fr h3 fun k _ _ => f k (by omega) (by omega) (by omega)) (ag 47 (by omega) (by omega)) fun i j _ _ => ag _ (by omega) (by omega),
    rRow_V (rRow_fr h4 fun k _ _ => f k (by omega) (by omega) (by omega)) (ag 48 (by omega) (by omega)) fun i j _ _ => ag _ (by omega) (by omega),
    row,
    rRow_V (rRow_fr h6 fun k _ _ => f k (by omega) (by omega) (by omega)) (ag 50 (by omega) (by omega)) fun i j _ _ => ag _ (by omega) (by omega),
    rRow_V (rRow_fr h7 fun k _ _ => f k (by omega) (by omega) (by omega)) (ag 51 (by omega) (by omega)) fun i j _ _ => ag _ (by omega) (by omega),
    rRow_V (rRow_fr h8 fun k _ _ => f k (by omega) (by omega) (by omega)) (ag 52 (by omega) (by omega)) fun i j _ _ => ag _ (by omega) (by omega)⟩
theorem pr_work (d : Nat) (a : Int) : pr (w_x_work (d + 40) a) (w_m_work (d + 40) a) := by
  refine pr_tell (k := 49) (c := 22) (B := 199) (w := 1) (most := 8) (a := a) (b := 0) (fun _ => decide (1 ≤ a ∧ a ≤ 24)) (by omega) (fun _ _ _ => rfl) ?_ ?_ ?_ (by omega) ?_ ?_
  · intro L Lk M hI n hn hle
    obtain ⟨⟨hW, hT, hw, hv, hok⟩, -⟩ := hI
    obtain ⟨cc, hcc, h10⟩ := okW_n hW
    obtain ⟨t1, t2, t3, t4, t5, t6, t7, t8⟩ := hw.1.2.1
    obtain ⟨r0, r2, rc⟩ := t5
    rw [l_x_work]
    have key : ∀ (fi : Bool), decide (1 ≤ a ∧ a ≤ 24) = fi → wp (bndI (w_rows_tell (d + 39) 22 a 0 (bI fi) M) fun y M => some ([aI y], M)) fun r M' => (∃ v, r = [aI v]) ∧ tellOut 22 8 n a 0 (decide (1 ≤ a ∧ a ≤ 24)) M r M' := by
      intro fi hfi
      rw [hfi]
      refine wp_idI ?_
      refine wp_mono (rows_tell_eq _ 22 n 8 a 0 fi M r0 (by rw [show M 22 2 = M 158 49 from r2, hn]) hle (by omega) al23) ?_
      rintro r M' ⟨⟨v, e⟩, h⟩
      exact ⟨⟨v, e⟩, ⟨v, e⟩, h⟩
    refine wp_if (fun h => ?_) (fun h => ?_)
    · exact key false (decide_eq_false (by omega))
    refine wp_if (fun h1 => ?_) (fun h1 => ?_)
    · exact key false (decide_eq_false (by omega))
    · exact key true (decide_eq_true (by omega))
  · intro M n hn hle h0 h10
    rw [l_m_work]
    simp only [al158]
    refine wp_if (fun h1 => ?_) (fun h1 => ?_)
    · refine wp_inb ⟨by omega, by omega⟩ ?_
      refine wp_w fun M1 w1 f1 => ?_
      exact wp_ret (Or.inl ⟨h1, rfl, f1, w1⟩)
    refine wp_eI (m_isIn_eq _ _ _ _ M) ?_
    refine wp_bif (fun h => ?_) (fun h => ?_)
    · have h := of_decide_eq_false h
      exact wp_ret (Or.inr (Or.inl ⟨h1, Or.inl (decide_eq_false (by omega)), rfl, rfl⟩))
    have h := of_decide_eq_true h
    refine wp_inb ⟨by omega, by omega⟩ ?_
    refine wp_if (fun hm => ?_) (fun hm => ?_)
    · exact wp_ret (Or.inr (Or.inl ⟨h1, Or.inr (by omega), rfl, rfl⟩))
    refine wp_inb ⟨by omega, by omega⟩ ?_
    rw [hn]
    have e1 : w32 (199 + (n : Int)) = ((199 + n : Nat) : Int) := by rw [w32_i (by omega) (by omega)]; omega
    rw [e1]
    refine wp_inb ⟨by omega, by omega⟩ ?_
    refine wp_w fun M1 w1 f1 => ?_
    refine wp_inb ⟨by omega, by omega⟩ ?_
    refine wp_inb ⟨by omega, by omega⟩ ?_
    rw [w1, tn_n, vS_ne (show 49 ≠ 199 + n by omega), hn, w32_i (by omega) (by omega)]
    refine wp_w fun M3 w3 f3 => ?_
    refine wp_inb ⟨by omega, by omega⟩ ?_
    refine wp_ret (Or.inr (Or.inr ⟨h1, decide_eq_true (by omega), by omega, ?_, fr_tt f1 f3, ?_⟩))
    · rw [w3, vS_at]; rfl
    · rw [w3, w1, tn_n, if_neg (by decide), show 199 + 1 * n = 199 + n by omega]; rfl
  · intro V hT
    obtain ⟨⟨n1, n2, n3, n4, n5, n6, n7, n8⟩, -⟩ := hT
    exact n5
  · intro L Lk M M' M'' hI f1 f2 hv g0 g2 g3
    have f : ∀ k, k ≠ 22 → k ≠ 23 → k ≠ 158 → M'' k = M k := fun k a _ b => (f2 k (by simp [b])).trans (f1 k (by simp [a]))
    have hT := hI.1.2.1
    refine Inv_T (c := 22) hI (by omega) f (fun k hk => by rw [hv, vS_ne (by omega)]) (by rw [hv]; exact work_okT0 hT) (by rw [hv]; exact work_rTl0 hI.1.2.2.1.1.2.1 hT.1 f g0 g2)
  · intro L Lk M M' M'' n hI hn hlt hne hf f1 f2 hv g0 g2 g
    have h := of_decide_eq_true hf
    have f : ∀ k, k ≠ 22 → k ≠ 23 → k ≠ 158 → M'' k = M k := fun k a b' b => (f2 k (by simp [b])).trans (f1 k (by simp [a, b']))
    have hT := hI.1.2.1
    rw [if_neg (show ¬ (1 : Nat) = 2 by decide), show 199 + 1 * n = 199 + n by omega] at hv
    refine Inv_T (c := 22) hI (by omega) f (fun k hk => by rw [hv, work_ag _ n a 0 hlt k (by omega) (by omega)]) (by rw [hv]; exact work_okT hT hn hlt h) (by rw [hv]; exact work_rTl hI.1.2.2.1.1.2.1 hT.1 hn hlt f g0 g2 g)
theorem gate_ag (V : aW) (n : Nat) (a b : Int) (hn : n < 14) : ∀ j, j ≠ 50 → (j < 207 ∨ 235 ≤ j) → (vS (vS (vS V (207 + 2 * n) a) (207 + 2 * n + 1) b) 50 ((n + 1 : Nat) : Int)) j = V j := by
  intro j h1 h2
  rw [vS_ne h1, vS_ne (by omega), vS_ne (by omega)]
theorem gate_okT0 {V : aW} (h : okT V) : okT (vS V 50 0) := by
  obtain ⟨⟨n1, n2, n3, n4, n5, n6, n7, n8⟩, hP, hD, hF, hS, hK, hG, hA, hV⟩ := h
  have ag : ∀ j, j ≠ 50 → vS V 50 0 j = V j := fun j hj => vS_ne hj
  have e : vS V 50 0 50 = 0 := vS_at
  refine ⟨?_, okP_V hP (fun j hj => ag j (by omega)) (by omega), ?_, ?_, ?_, ?_, ?_, ?_, ?_⟩
  · unfold okN
    rw [ag 45 (by omega), ag 46 (by omega), ag 47 (by omega), ag 48 (by omega), ag 49 (by omega), e, ag 51 (by omega), ag 52 (by omega)]
    exact ⟨n1, n2, n3, n4, n5, ⟨by omega, by omega⟩, n7, n8⟩
  · intro i hi; rw [ag 46 (by omega)] at hi; rw [ag (111 + 3 * i) (by omega), ag (112 + 3 * i) (by omega), ag (113 + 3 * i) (by omega), ag 41 (by omega)]; exact hD i hi
  · intro i hi; rw [ag 47 (by omega)] at hi; rw [ag (159 + 2 * i) (by omega), ag (160 + 2 * i) (by omega)]; exact hF i hi
  · intro i hi; rw [ag 48 (by omega)] at hi; rw [ag (175 + 2 * i) (by omega), ag (176 + 2 * i) (by omega), ag 41 (by omega)]; exact hS i hi
  · intro i hi; rw [ag 49 (by omega)] at hi; rw [ag (199 + i) (by omega)]; exact hK i hi
  · intro i hi; rw [e] at hi; omega
  · intro i hi; rw [ag 51 (by omega)] at hi; rw [ag (235 + 2 * i) (by omega), ag (236 + 2 * i) (by omega), ag 41 (by omega)]; exact hA i hi
  · intro i hi; rw [ag 52 (by omega)] at hi; rw [ag (275 + i) (by omega)]; exact hV i hi
theorem gate_okT {V : aW} {n : Nat} {a b : Int} (h : okT V) (hn : V 50 = n) (hlt : n < 14) (hp : (0 ≤ a ∧ a ≤ 9) ∧ (0 ≤ b ∧ b ≤ 9)) : okT (vS (vS (vS V (207 + 2 * n) a) (207 + 2 * n + 1) b) 50 ((n + 1 : Nat) : Int)) := by
  obtain ⟨⟨n1, n2, n3, n4, n5, n6, n7, n8⟩, hP, hD, hF, hS, hK, hG, hA, hV⟩ := h
  have ag := gate_ag V n a b hlt
  have e : (vS (vS (vS V (207 + 2 * n) a) (207 + 2 * n + 1) b) 50 ((n + 1 : Nat) : Int)) 50 = ((n + 1 : Nat) : Int) := vS_at
  have ag1 : ∀ j, j ≠ 50 → j ≠ 207 + 2 * n → j ≠ 207 + 2 * n + 1 → (vS (vS (vS V (207 + 2 * n) a) (207 + 2 * n + 1) b) 50 ((n + 1 : Nat) : Int)) j = V j := fun j h1 h2 h3 => by rw [vS_ne h1, vS_ne h3, vS_ne h2]
  have ea : (vS (vS (vS V (207 + 2 * n) a) (207 + 2 * n + 1) b) 50 ((n + 1 : Nat) : Int)) (207 + 2 * n) = a := by rw [vS_ne (by omega), vS_ne (by omega), vS_at]
  have eb : (vS (vS (vS V (207 + 2 * n) a) (207 + 2 * n + 1) b) 50 ((n + 1 : Nat) : Int)) (207 + 2 * n + 1) = b := by rw [vS_ne (by omega), vS_at]
  refine ⟨?_, okP_V hP (fun j hj => ag j (by omega) (by omega)) (by omega), ?_, ?_, ?_, ?_, ?_, ?_, ?_⟩
  · unfold okN
    rw [ag 45 (by omega) (by omega), ag 46 (by omega) (by omega), ag 47 (by omega) (by omega), ag 48 (by omega) (by omega), ag 49 (by omega) (by omega), e, ag 51 (by omega) (by omega), ag 52 (by omega) (by omega)]
    exact ⟨n1, n2, n3, n4, n5, ⟨by omega, by omega⟩, n7, n8⟩
  · intro i hi; rw [ag 46 (by omega) (by omega)] at hi; rw [ag (111 + 3 * i) (by omega) (by omega), ag (112 + 3 * i) (by omega) (by omega), ag (113 + 3 * i) (by omega) (by omega), ag 41 (by omega) (by omega)]; exact hD i hi
  · intro i hi; rw [ag 47 (by omega) (by omega)] at hi; rw [ag (159 + 2 * i) (by omega) (by omega), ag (160 + 2 * i) (by omega) (by omega)]; exact hF i hi
  · intro i hi; rw [ag 48 (by omega) (by omega)] at hi; rw [ag (175 + 2 * i) (by omega) (by omega), ag (176 + 2 * i) (by omega) (by omega), ag 41 (by omega) (by omega)]; exact hS i hi
  · intro i hi; rw [ag 49 (by omega) (by omega)] at hi; rw [ag (199 + i) (by omega) (by omega)]; exact hK i hi
  · intro i hi
    rw [e] at hi
    by_cases hin : i = n
    · subst hin
      rw [show 208 + 2 * i = 207 + 2 * i + 1 by omega, ea, eb]
      exact hp
    · rw [ag1 (207 + 2 * i) (by omega) (by omega) (by omega), ag1 (208 + 2 * i) (by omega) (by omega) (by omega)]
      exact hG i (by omega)
  · intro i hi; rw [ag 51 (by omega) (by omega)] at hi; rw [ag (235 + 2 * i) (by omega) (by omega), ag (236 + 2 * i) (by omega) (by omega), ag 41 (by omega) (by omega)]; exact hA i hi
  · intro i hi; rw [ag 52 (by omega) (by omega)] at hi; rw [ag (275 + i) (by omega) (by omega)]; exact hV i hi
theorem gate_rTl0 {V : aW} {M M' : aM} (h : rTl 1 V M) (hN : okN V) (f : ∀ k, k ≠ 24 → k ≠ 25 → k ≠ 158 → M' k = M k) (g0 : M' 24 0 = 14) (g2 : M' 24 2 = 0) : rTl 1 (vS V 50 0) M' := by
  obtain ⟨h1, h2, h3, h4, h5, h6, h7, h8⟩ := h
  obtain ⟨n1, n2, n3, n4, n5, n6, n7, n8⟩ := hN
  have ag : ∀ j, j ≠ 50 → vS V 50 0 j = V j := fun j hj => vS_ne hj
  exact ⟨rRow_V (rRow_fr h1 fun k _ _ => f k (by omega) (by omega) (by omega)) (ag 45 (by omega)) fun i j _ _ => congrArg (· - (if j = 1 then (7 : Int) else 0)) (ag (63 + 3 * i + j) (by omega)),
    rRow_V (rRow_fr h2 fun k _ _ => f k (by omega) (by omega) (by omega)) (ag 46 (by omega)) fun i j _ _ => ag _ (by omega),
    rRow_V (rRow_fr h3 fun k _ _ => f k (by omega) (by omega) (by omega)) (ag 47 (by omega)) fun i j _ _ => ag _ (by omega),
    rRow_V (rRow_fr h4 fun k _ _ => f k (by omega) (by omega) (by omega)) (ag 48 (by omega)) fun i j _ _ => ag _ (by omega),
    rRow_V (rRow_fr h5 fun k _ _ => f k (by omega) (by omega) (by omega)) (ag 49 (by omega)) fun i j _ _ => ag _ (by omega),
    ⟨g0, by rw [vS_at]; exact g2, fun i j hi _ => by rw [vS_at] at hi; omega⟩,
    rRow_V (rRow_fr h7 fun k _ _ => f k (by omega) (by omega) (by omega)) (ag 51 (by omega)) fun i j _ _ => ag _ (by omega),
    rRow_V (rRow_fr h8 fun k _ _ => f k (by omega) (by omega) (by omega)) (ag 52 (by omega)) fun i j _ _ => ag _ (by omega)⟩
theorem gate_rTl {V : aW} {M M' : aM} {n : Nat} {a b : Int} (h : rTl 1 V M) (hN : okN V) (hn : V 50 = n) (hlt : n < 14) (f : ∀ k, k ≠ 24 → k ≠ 25 → k ≠ 158 → M' k = M k) (g0 : M' 24 0 = 14) (g2 : M' 24 2 = (n + 1 : Nat)) (g : ∀ j, M' 25 j = if j = 4 * n then a else if j = 4 * n + 1 then b else if j = 4 * n + 2 then 0 else if j = 4 * n + 3 then 0 else M 25 j) : rTl 1 (vS (vS (vS V (207 + 2 * n) a) (207 + 2 * n + 1) b) 50 ((n + 1 : Nat) : Int)) M' := by
  obtain ⟨h1, h2, h3, h4, h5, h6, h7, h8⟩ := h
  obtain ⟨n1, n2, n3, n4, n5, n6, n7, n8⟩ := hN
  have ag := gate_ag V n a b hlt
  have e : (vS (vS (vS V (207 + 2 * n) a) (207 + 2 * n + 1) b) 50 ((n + 1 : Nat) : Int)) 50 = ((n + 1 : Nat) : Int) := vS_at
  have row : rRow (1 + 23) 14 ((vS (vS (vS V (207 + 2 * n) a) (207 + 2 * n + 1) b) 50 ((n + 1 : Nat) : Int)) 50) (fun i j => (vS (vS (vS V (207 + 2 * n) a) (207 + 2 * n + 1) b) 50 ((n + 1 : Nat) : Int)) (207 + 2 * i + j)) 2 M' := by
    refine ⟨g0, by rw [e]; exact g2, fun i j hi hj => ?_⟩
    rw [e] at hi
    rw [show 1 + 23 + 1 = 25 from rfl, g]
    show _ = (vS (vS (vS V (207 + 2 * n) a) (207 + 2 * n + 1) b) 50 ((n + 1 : Nat) : Int)) (207 + 2 * i + j)
    by_cases hin : i = n
    · subst hin
      have : j = 0 ∨ j = 1 := by omega
      rcases this with rfl | rfl
      · rw [if_pos (by omega), vS_ne (by omega), vS_ne (by omega), Nat.add_zero, vS_at]
      · rw [if_neg (by omega), if_pos (by omega), vS_ne (by omega), vS_at]
    · rw [if_neg (by omega), if_neg (by omega), if_neg (by omega), if_neg (by omega), vS_ne (by omega), vS_ne (by omega), vS_ne (by omega)]
      exact h6.2.2 i j (by omega) hj
  exact ⟨rRow_V (rRow_fr h1 fun k _ _ => f k (by omega) (by omega) (by omega)) (ag 45 (by omega) (by omega)) fun i j _ _ => congrArg (· - (if j = 1 then (7 : Int) else 0)) (ag (63 + 3 * i + j) (by omega) (by omega)),
    rRow_V (rRow_fr h2 fun k _ _ => f k (by omega) (by omega) (by omega)) (ag 46 (by omega) (by omega)) fun i j _ _ => ag _ (by omega) (by omega),
    rRow_V (rRow_fr h3 fun k _ _ => f k (by omega) (by omega) (by omega)) (ag 47 (by omega) (by omega)) fun i j _ _ => ag _ (by omega) (by omega),
    rRow_V (rRow_fr h4 fun k _ _ => f k (by omega) (by omega) (by omega)) (ag 48 (by omega) (by omega)) fun i j _ _ => ag _ (by omega) (by omega),
    rRow_V (rRow_fr h5 fun k _ _ => f k (by omega) (by omega) (by omega)) (ag 49 (by omega) (by omega)) fun i j _ _ => ag _ (by omega) (by omega),
    row,
    rRow_V (rRow_fr h7 fun k _ _ => f k (by omega) (by omega) (by omega)) (ag 51 (by omega) (by omega)) fun i j _ _ => ag _ (by omega) (by omega),
    rRow_V (rRow_fr h8 fun k _ _ => f k (by omega) (by omega) (by omega)) (ag 52 (by omega) (by omega)) fun i j _ _ => ag _ (by omega) (by omega)⟩
theorem pr_gate (d : Nat) (a b : Int) : pr (w_x_gate (d + 40) a b) (w_m_gate (d + 40) a b) := by
  refine pr_tell (k := 50) (c := 24) (B := 207) (w := 2) (most := 14) (a := a) (b := b) (fun _ => decide (0 ≤ a ∧ a ≤ 9 ∧ 0 ≤ b ∧ b ≤ 9 ∧ a ≠ b)) (by omega) (fun _ _ _ => rfl) ?_ ?_ ?_ (by omega) ?_ ?_
  · intro L Lk M hI n hn hle
    obtain ⟨⟨hW, hT, hw, hv, hok⟩, -⟩ := hI
    obtain ⟨cc, hcc, h10⟩ := okW_n hW
    obtain ⟨t1, t2, t3, t4, t5, t6, t7, t8⟩ := hw.1.2.1
    obtain ⟨r0, r2, rc⟩ := t6
    rw [l_x_gate]
    have key : ∀ (fi : Bool), decide (0 ≤ a ∧ a ≤ 9 ∧ 0 ≤ b ∧ b ≤ 9 ∧ a ≠ b) = fi → wp (bndI (w_rows_tell (d + 39) 24 a b (bI fi) M) fun y M => some ([aI y], M)) fun r M' => (∃ v, r = [aI v]) ∧ tellOut 24 14 n a b (decide (0 ≤ a ∧ a ≤ 9 ∧ 0 ≤ b ∧ b ≤ 9 ∧ a ≠ b)) M r M' := by
      intro fi hfi
      rw [hfi]
      refine wp_idI ?_
      refine wp_mono (rows_tell_eq _ 24 n 14 a b fi M r0 (by rw [show M 24 2 = M 158 50 from r2, hn]) hle (by omega) al25) ?_
      rintro r M' ⟨⟨v, e⟩, h⟩
      exact ⟨⟨v, e⟩, ⟨v, e⟩, h⟩
    refine wp_eI (x_within_eq _ _ _ _) ?_
    refine wp_bif (fun h => ?_) (fun h => ?_)
    · have h := of_decide_eq_false h
      exact key false (decide_eq_false (by omega))
    have h := of_decide_eq_true h
    refine wp_eI (x_within_eq _ _ _ _) ?_
    refine wp_bif (fun h1 => ?_) (fun h1 => ?_)
    · have h1 := of_decide_eq_false h1
      exact key false (decide_eq_false (by omega))
    have h1 := of_decide_eq_true h1
    refine wp_if (fun h2 => ?_) (fun h2 => ?_)
    · exact key false (decide_eq_false (by omega))
    · exact key true (decide_eq_true (by omega))
  · intro M n hn hle h0 h10
    rw [l_m_gate]
    simp only [al158]
    refine wp_if (fun h1 => ?_) (fun h1 => ?_)
    · refine wp_inb ⟨by omega, by omega⟩ ?_
      refine wp_w fun M1 w1 f1 => ?_
      exact wp_ret (Or.inl ⟨h1, rfl, f1, w1⟩)
    have gq : ∀ (d' : Nat) (x : Int), w_m_isGate (d' + 2) x M = some ([aI (bI (decide (0 ≤ x ∧ x ≤ 9)))], M) := fun d' x => by rw [u_m_isGate, m_isIn_eq, bndI_s, aBool_bI]
    refine wp_eI (gq _ _) ?_
    refine wp_bif (fun h => ?_) (fun h => ?_)
    · have h := of_decide_eq_false h
      exact wp_ret (Or.inr (Or.inl ⟨h1, Or.inl (decide_eq_false (by omega)), rfl, rfl⟩))
    have h := of_decide_eq_true h
    refine wp_eI (gq _ _) ?_
    refine wp_bif (fun h2 => ?_) (fun h2 => ?_)
    · have h2 := of_decide_eq_false h2
      exact wp_ret (Or.inr (Or.inl ⟨h1, Or.inl (decide_eq_false (by omega)), rfl, rfl⟩))
    have h2 := of_decide_eq_true h2
    refine wp_if (fun h3 => ?_) (fun h3 => ?_)
    · exact wp_ret (Or.inr (Or.inl ⟨h1, Or.inl (decide_eq_false (by omega)), rfl, rfl⟩))
    refine wp_inb ⟨by omega, by omega⟩ ?_
    refine wp_if (fun hm => ?_) (fun hm => ?_)
    · exact wp_ret (Or.inr (Or.inl ⟨h1, Or.inr (by omega), rfl, rfl⟩))
    refine wp_inb ⟨by omega, by omega⟩ ?_
    rw [hn]
    have e1 : w32 (207 + w32 (2 * (n : Int))) = ((207 + 2 * n : Nat) : Int) := by simp (disch := omega) only [w32_i]; omega
    have e2 : w32 (((207 + 2 * n : Nat) : Int) + 1) = ((207 + 2 * n + 1 : Nat) : Int) := by rw [w32_i (by omega) (by omega)]; omega
    rw [e1]
    refine wp_inb ⟨by omega, by omega⟩ ?_
    refine wp_w fun M1 w1 f1 => ?_
    refine wp_inb ⟨by omega, by omega⟩ ?_
    rw [w1, vS_ne (show 50 ≠ ((207 + 2 * n : Nat) : Int).toNat by rw [tn_n]; omega), hn, e1, e2]
    refine wp_inb ⟨by omega, by omega⟩ ?_
    refine wp_w fun M2 w2 f2 => ?_
    refine wp_inb ⟨by omega, by omega⟩ ?_
    refine wp_inb ⟨by omega, by omega⟩ ?_
    rw [w2, w1, tn_n, tn_n, vS_ne (show 50 ≠ 207 + 2 * n + 1 by omega), vS_ne (show 50 ≠ 207 + 2 * n by omega), hn, w32_i (by omega) (by omega)]
    refine wp_w fun M3 w3 f3 => ?_
    refine wp_inb ⟨by omega, by omega⟩ ?_
    refine wp_ret (Or.inr (Or.inr ⟨h1, decide_eq_true (by omega), by omega, ?_, fr_tt f1 (fr_tt f2 f3), ?_⟩))
    · rw [w3, vS_at]; rfl
    · rw [w3, w2, w1, tn_n, tn_n]; rfl
  · intro V hT
    obtain ⟨⟨n1, n2, n3, n4, n5, n6, n7, n8⟩, -⟩ := hT
    exact n6
  · intro L Lk M M' M'' hI f1 f2 hv g0 g2 g3
    have f : ∀ k, k ≠ 24 → k ≠ 25 → k ≠ 158 → M'' k = M k := fun k a _ b => (f2 k (by simp [b])).trans (f1 k (by simp [a]))
    have hT := hI.1.2.1
    refine Inv_T (c := 24) hI (by omega) f (fun k hk => by rw [hv, vS_ne (by omega)]) (by rw [hv]; exact gate_okT0 hT) (by rw [hv]; exact gate_rTl0 hI.1.2.2.1.1.2.1 hT.1 f g0 g2)
  · intro L Lk M M' M'' n hI hn hlt hne hf f1 f2 hv g0 g2 g
    have h := of_decide_eq_true hf
    have f : ∀ k, k ≠ 24 → k ≠ 25 → k ≠ 158 → M'' k = M k := fun k a b' b => (f2 k (by simp [b])).trans (f1 k (by simp [a, b']))
    have hT := hI.1.2.1
    rw [if_pos (show (2 : Nat) = 2 from rfl)] at hv
    refine Inv_T (c := 24) hI (by omega) f (fun k hk => by rw [hv, gate_ag _ n a b hlt k (by omega) (by omega)]) (by rw [hv]; exact gate_okT hT hn hlt ⟨⟨h.1, h.2.1⟩, ⟨h.2.2.1, h.2.2.2.1⟩⟩) (by rw [hv]; exact gate_rTl hI.1.2.2.1.1.2.1 hT.1 hn hlt f g0 g2 g)
theorem ate_ag (V : aW) (n : Nat) (a b : Int) (hn : n < 20) : ∀ j, j ≠ 51 → (j < 235 ∨ 275 ≤ j) → (vS (vS (vS V (235 + 2 * n) a) (235 + 2 * n + 1) b) 51 ((n + 1 : Nat) : Int)) j = V j := by
  intro j h1 h2
  rw [vS_ne h1, vS_ne (by omega), vS_ne (by omega)]
theorem ate_okT0 {V : aW} (h : okT V) : okT (vS V 51 0) := by
  obtain ⟨⟨n1, n2, n3, n4, n5, n6, n7, n8⟩, hP, hD, hF, hS, hK, hG, hA, hV⟩ := h
  have ag : ∀ j, j ≠ 51 → vS V 51 0 j = V j := fun j hj => vS_ne hj
  have e : vS V 51 0 51 = 0 := vS_at
  refine ⟨?_, okP_V hP (fun j hj => ag j (by omega)) (by omega), ?_, ?_, ?_, ?_, ?_, ?_, ?_⟩
  · unfold okN
    rw [ag 45 (by omega), ag 46 (by omega), ag 47 (by omega), ag 48 (by omega), ag 49 (by omega), ag 50 (by omega), e, ag 52 (by omega)]
    exact ⟨n1, n2, n3, n4, n5, n6, ⟨by omega, by omega⟩, n8⟩
  · intro i hi; rw [ag 46 (by omega)] at hi; rw [ag (111 + 3 * i) (by omega), ag (112 + 3 * i) (by omega), ag (113 + 3 * i) (by omega), ag 41 (by omega)]; exact hD i hi
  · intro i hi; rw [ag 47 (by omega)] at hi; rw [ag (159 + 2 * i) (by omega), ag (160 + 2 * i) (by omega)]; exact hF i hi
  · intro i hi; rw [ag 48 (by omega)] at hi; rw [ag (175 + 2 * i) (by omega), ag (176 + 2 * i) (by omega), ag 41 (by omega)]; exact hS i hi
  · intro i hi; rw [ag 49 (by omega)] at hi; rw [ag (199 + i) (by omega)]; exact hK i hi
  · intro i hi; rw [ag 50 (by omega)] at hi; rw [ag (207 + 2 * i) (by omega), ag (208 + 2 * i) (by omega)]; exact hG i hi
  · intro i hi; rw [e] at hi; omega
  · intro i hi; rw [ag 52 (by omega)] at hi; rw [ag (275 + i) (by omega)]; exact hV i hi
theorem ate_okT {V : aW} {n : Nat} {a b : Int} (h : okT V) (hn : V 51 = n) (hlt : n < 20) (hp : (0 ≤ a ∧ a ≤ 6) ∧ (0 ≤ b ∧ b < V 41)) : okT (vS (vS (vS V (235 + 2 * n) a) (235 + 2 * n + 1) b) 51 ((n + 1 : Nat) : Int)) := by
  obtain ⟨⟨n1, n2, n3, n4, n5, n6, n7, n8⟩, hP, hD, hF, hS, hK, hG, hA, hV⟩ := h
  have ag := ate_ag V n a b hlt
  have e : (vS (vS (vS V (235 + 2 * n) a) (235 + 2 * n + 1) b) 51 ((n + 1 : Nat) : Int)) 51 = ((n + 1 : Nat) : Int) := vS_at
  have ag1 : ∀ j, j ≠ 51 → j ≠ 235 + 2 * n → j ≠ 235 + 2 * n + 1 → (vS (vS (vS V (235 + 2 * n) a) (235 + 2 * n + 1) b) 51 ((n + 1 : Nat) : Int)) j = V j := fun j h1 h2 h3 => by rw [vS_ne h1, vS_ne h3, vS_ne h2]
  have ea : (vS (vS (vS V (235 + 2 * n) a) (235 + 2 * n + 1) b) 51 ((n + 1 : Nat) : Int)) (235 + 2 * n) = a := by rw [vS_ne (by omega), vS_ne (by omega), vS_at]
  have eb : (vS (vS (vS V (235 + 2 * n) a) (235 + 2 * n + 1) b) 51 ((n + 1 : Nat) : Int)) (235 + 2 * n + 1) = b := by rw [vS_ne (by omega), vS_at]
  refine ⟨?_, okP_V hP (fun j hj => ag j (by omega) (by omega)) (by omega), ?_, ?_, ?_, ?_, ?_, ?_, ?_⟩
  · unfold okN
    rw [ag 45 (by omega) (by omega), ag 46 (by omega) (by omega), ag 47 (by omega) (by omega), ag 48 (by omega) (by omega), ag 49 (by omega) (by omega), ag 50 (by omega) (by omega), e, ag 52 (by omega) (by omega)]
    exact ⟨n1, n2, n3, n4, n5, n6, ⟨by omega, by omega⟩, n8⟩
  · intro i hi; rw [ag 46 (by omega) (by omega)] at hi; rw [ag (111 + 3 * i) (by omega) (by omega), ag (112 + 3 * i) (by omega) (by omega), ag (113 + 3 * i) (by omega) (by omega), ag 41 (by omega) (by omega)]; exact hD i hi
  · intro i hi; rw [ag 47 (by omega) (by omega)] at hi; rw [ag (159 + 2 * i) (by omega) (by omega), ag (160 + 2 * i) (by omega) (by omega)]; exact hF i hi
  · intro i hi; rw [ag 48 (by omega) (by omega)] at hi; rw [ag (175 + 2 * i) (by omega) (by omega), ag (176 + 2 * i) (by omega) (by omega), ag 41 (by omega) (by omega)]; exact hS i hi
  · intro i hi; rw [ag 49 (by omega) (by omega)] at hi; rw [ag (199 + i) (by omega) (by omega)]; exact hK i hi
  · intro i hi; rw [ag 50 (by omega) (by omega)] at hi; rw [ag (207 + 2 * i) (by omega) (by omega), ag (208 + 2 * i) (by omega) (by omega)]; exact hG i hi
  · intro i hi
    rw [e] at hi
    by_cases hin : i = n
    · subst hin
      rw [show 236 + 2 * i = 235 + 2 * i + 1 by omega, ea, eb, ag 41 (by omega) (by omega)]
      exact hp
    · rw [ag1 (235 + 2 * i) (by omega) (by omega) (by omega), ag1 (236 + 2 * i) (by omega) (by omega) (by omega), ag 41 (by omega) (by omega)]
      exact hA i (by omega)
  · intro i hi; rw [ag 52 (by omega) (by omega)] at hi; rw [ag (275 + i) (by omega) (by omega)]; exact hV i hi
theorem ate_rTl0 {V : aW} {M M' : aM} (h : rTl 1 V M) (hN : okN V) (f : ∀ k, k ≠ 26 → k ≠ 27 → k ≠ 158 → M' k = M k) (g0 : M' 26 0 = 20) (g2 : M' 26 2 = 0) : rTl 1 (vS V 51 0) M' := by
  obtain ⟨h1, h2, h3, h4, h5, h6, h7, h8⟩ := h
  obtain ⟨n1, n2, n3, n4, n5, n6, n7, n8⟩ := hN
  have ag : ∀ j, j ≠ 51 → vS V 51 0 j = V j := fun j hj => vS_ne hj
  exact ⟨rRow_V (rRow_fr h1 fun k _ _ => f k (by omega) (by omega) (by omega)) (ag 45 (by omega)) fun i j _ _ => congrArg (· - (if j = 1 then (7 : Int) else 0)) (ag (63 + 3 * i + j) (by omega)),
    rRow_V (rRow_fr h2 fun k _ _ => f k (by omega) (by omega) (by omega)) (ag 46 (by omega)) fun i j _ _ => ag _ (by omega),
    rRow_V (rRow_fr h3 fun k _ _ => f k (by omega) (by omega) (by omega)) (ag 47 (by omega)) fun i j _ _ => ag _ (by omega),
    rRow_V (rRow_fr h4 fun k _ _ => f k (by omega) (by omega) (by omega)) (ag 48 (by omega)) fun i j _ _ => ag _ (by omega),
    rRow_V (rRow_fr h5 fun k _ _ => f k (by omega) (by omega) (by omega)) (ag 49 (by omega)) fun i j _ _ => ag _ (by omega),
    rRow_V (rRow_fr h6 fun k _ _ => f k (by omega) (by omega) (by omega)) (ag 50 (by omega)) fun i j _ _ => ag _ (by omega),
    ⟨g0, by rw [vS_at]; exact g2, fun i j hi _ => by rw [vS_at] at hi; omega⟩,
    rRow_V (rRow_fr h8 fun k _ _ => f k (by omega) (by omega) (by omega)) (ag 52 (by omega)) fun i j _ _ => ag _ (by omega)⟩
theorem ate_rTl {V : aW} {M M' : aM} {n : Nat} {a b : Int} (h : rTl 1 V M) (hN : okN V) (hn : V 51 = n) (hlt : n < 20) (f : ∀ k, k ≠ 26 → k ≠ 27 → k ≠ 158 → M' k = M k) (g0 : M' 26 0 = 20) (g2 : M' 26 2 = (n + 1 : Nat)) (g : ∀ j, M' 27 j = if j = 4 * n then a else if j = 4 * n + 1 then b else if j = 4 * n + 2 then 0 else if j = 4 * n + 3 then 0 else M 27 j) : rTl 1 (vS (vS (vS V (235 + 2 * n) a) (235 + 2 * n + 1) b) 51 ((n + 1 : Nat) : Int)) M' := by
  obtain ⟨h1, h2, h3, h4, h5, h6, h7, h8⟩ := h
  obtain ⟨n1, n2, n3, n4, n5, n6, n7, n8⟩ := hN
  have ag := ate_ag V n a b hlt
  have e : (vS (vS (vS V (235 + 2 * n) a) (235 + 2 * n + 1) b) 51 ((n + 1 : Nat) : Int)) 51 = ((n + 1 : Nat) : Int) := vS_at
  have row : rRow (1 + 25) 20 ((vS (vS (vS V (235 + 2 * n) a) (235 + 2 * n + 1) b) 51 ((n + 1 : Nat) : Int)) 51) (fun i j => (vS (vS (vS V (235 + 2 * n) a) (235 + 2 * n + 1) b) 51 ((n + 1 : Nat) : Int)) (235 + 2 * i + j)) 2 M' := by
    refine ⟨g0, by rw [e]; exact g2, fun i j hi hj => ?_⟩
    rw [e] at hi
    rw [show 1 + 25 + 1 = 27 from rfl, g]
    show _ = (vS (vS (vS V (235 + 2 * n) a) (235 + 2 * n + 1) b) 51 ((n + 1 : Nat) : Int)) (235 + 2 * i + j)
    by_cases hin : i = n
    · subst hin
      have : j = 0 ∨ j = 1 := by omega
      rcases this with rfl | rfl
      · rw [if_pos (by omega), vS_ne (by omega), vS_ne (by omega), Nat.add_zero, vS_at]
      · rw [if_neg (by omega), if_pos (by omega), vS_ne (by omega), vS_at]
    · rw [if_neg (by omega), if_neg (by omega), if_neg (by omega), if_neg (by omega), vS_ne (by omega), vS_ne (by omega), vS_ne (by omega)]
      exact h7.2.2 i j (by omega) hj
  exact ⟨rRow_V (rRow_fr h1 fun k _ _ => f k (by omega) (by omega) (by omega)) (ag 45 (by omega) (by omega)) fun i j _ _ => congrArg (· - (if j = 1 then (7 : Int) else 0)) (ag (63 + 3 * i + j) (by omega) (by omega)),
    rRow_V (rRow_fr h2 fun k _ _ => f k (by omega) (by omega) (by omega)) (ag 46 (by omega) (by omega)) fun i j _ _ => ag _ (by omega) (by omega),
    rRow_V (rRow_fr h3 fun k _ _ => f k (by omega) (by omega) (by omega)) (ag 47 (by omega) (by omega)) fun i j _ _ => ag _ (by omega) (by omega),
    rRow_V (rRow_fr h4 fun k _ _ => f k (by omega) (by omega) (by omega)) (ag 48 (by omega) (by omega)) fun i j _ _ => ag _ (by omega) (by omega),
    rRow_V (rRow_fr h5 fun k _ _ => f k (by omega) (by omega) (by omega)) (ag 49 (by omega) (by omega)) fun i j _ _ => ag _ (by omega) (by omega),
    rRow_V (rRow_fr h6 fun k _ _ => f k (by omega) (by omega) (by omega)) (ag 50 (by omega) (by omega)) fun i j _ _ => ag _ (by omega) (by omega),
    row,
    rRow_V (rRow_fr h8 fun k _ _ => f k (by omega) (by omega) (by omega)) (ag 52 (by omega) (by omega)) fun i j _ _ => ag _ (by omega) (by omega)⟩
theorem pr_ate (d : Nat) (a b : Int) : pr (w_x_ate (d + 40) a b) (w_m_ate (d + 40) a b) := by
  refine pr_tell (k := 51) (c := 26) (B := 235) (w := 2) (most := 20) (a := a) (b := b) (fun M => decide (0 ≤ a ∧ a ≤ 6 ∧ 0 ≤ b ∧ b < M 158 41)) (by omega) (fun M M' h => by simp only [h 41 (by omega)]) ?_ ?_ ?_ (by omega) ?_ ?_
  · intro L Lk M hI n hn hle
    obtain ⟨⟨hW, hT, hw, hv, hok⟩, -⟩ := hI
    obtain ⟨cc, hcc, h10⟩ := okW_n hW
    obtain ⟨t1, t2, t3, t4, t5, t6, t7, t8⟩ := hw.1.2.1
    obtain ⟨r0, r2, rc⟩ := t7
    rw [l_x_ate]
    have key : ∀ (fi : Bool), decide (0 ≤ a ∧ a ≤ 6 ∧ 0 ≤ b ∧ b < M 158 41) = fi → wp (bndI (w_rows_tell (d + 39) 26 a b (bI fi) M) fun y M => some ([aI y], M)) fun r M' => (∃ v, r = [aI v]) ∧ tellOut 26 20 n a b (decide (0 ≤ a ∧ a ≤ 6 ∧ 0 ≤ b ∧ b < M 158 41)) M r M' := by
      intro fi hfi
      rw [hfi]
      refine wp_idI ?_
      refine wp_mono (rows_tell_eq _ 26 n 20 a b fi M r0 (by rw [show M 26 2 = M 158 51 from r2, hn]) hle (by omega) al27) ?_
      rintro r M' ⟨⟨v, e⟩, h⟩
      exact ⟨⟨v, e⟩, ⟨v, e⟩, h⟩
    refine wp_eI (x_within_eq _ _ _ _) ?_
    refine wp_bif (fun h => ?_) (fun h => ?_)
    · have h := of_decide_eq_false h
      exact key false (decide_eq_false (by omega))
    have h := of_decide_eq_true h
    refine wp_eI (wood_has_eq _ 2 b (M 158) M (rW_wd hw).1 (by omega)) ?_
    refine wp_bif (fun h1 => ?_) (fun h1 => ?_)
    · have h1 := of_decide_eq_false h1
      exact key false (decide_eq_false (by omega))
    have h1 := of_decide_eq_true h1
    exact key true (decide_eq_true (by omega))
  · intro M n hn hle h0 h10
    rw [l_m_ate]
    simp only [al158]
    refine wp_if (fun h1 => ?_) (fun h1 => ?_)
    · refine wp_inb ⟨by omega, by omega⟩ ?_
      refine wp_w fun M1 w1 f1 => ?_
      exact wp_ret (Or.inl ⟨h1, rfl, f1, w1⟩)
    refine wp_eI (m_isIn_eq _ _ _ _ M) ?_
    refine wp_bif (fun h => ?_) (fun h => ?_)
    · have h := of_decide_eq_false h
      exact wp_ret (Or.inr (Or.inl ⟨h1, Or.inl (decide_eq_false (by omega)), rfl, rfl⟩))
    have h := of_decide_eq_true h
    refine wp_eI (m_isDeer_eq _ _ M h0 h10) ?_
    refine wp_bif (fun h2 => ?_) (fun h2 => ?_)
    · have h2 := of_decide_eq_false h2
      exact wp_ret (Or.inr (Or.inl ⟨h1, Or.inl (decide_eq_false (by omega)), rfl, rfl⟩))
    have h2 := of_decide_eq_true h2
    refine wp_inb ⟨by omega, by omega⟩ ?_
    refine wp_if (fun hm => ?_) (fun hm => ?_)
    · exact wp_ret (Or.inr (Or.inl ⟨h1, Or.inr (by omega), rfl, rfl⟩))
    refine wp_inb ⟨by omega, by omega⟩ ?_
    rw [hn]
    have e1 : w32 (235 + w32 (2 * (n : Int))) = ((235 + 2 * n : Nat) : Int) := by simp (disch := omega) only [w32_i]; omega
    have e2 : w32 (((235 + 2 * n : Nat) : Int) + 1) = ((235 + 2 * n + 1 : Nat) : Int) := by rw [w32_i (by omega) (by omega)]; omega
    rw [e1]
    refine wp_inb ⟨by omega, by omega⟩ ?_
    refine wp_w fun M1 w1 f1 => ?_
    refine wp_inb ⟨by omega, by omega⟩ ?_
    rw [w1, vS_ne (show 51 ≠ ((235 + 2 * n : Nat) : Int).toNat by rw [tn_n]; omega), hn, e1, e2]
    refine wp_inb ⟨by omega, by omega⟩ ?_
    refine wp_w fun M2 w2 f2 => ?_
    refine wp_inb ⟨by omega, by omega⟩ ?_
    refine wp_inb ⟨by omega, by omega⟩ ?_
    rw [w2, w1, tn_n, tn_n, vS_ne (show 51 ≠ 235 + 2 * n + 1 by omega), vS_ne (show 51 ≠ 235 + 2 * n by omega), hn, w32_i (by omega) (by omega)]
    refine wp_w fun M3 w3 f3 => ?_
    refine wp_inb ⟨by omega, by omega⟩ ?_
    refine wp_ret (Or.inr (Or.inr ⟨h1, decide_eq_true (by omega), by omega, ?_, fr_tt f1 (fr_tt f2 f3), ?_⟩))
    · rw [w3, vS_at]; rfl
    · rw [w3, w2, w1, tn_n, tn_n]; rfl
  · intro V hT
    obtain ⟨⟨n1, n2, n3, n4, n5, n6, n7, n8⟩, -⟩ := hT
    exact n7
  · intro L Lk M M' M'' hI f1 f2 hv g0 g2 g3
    have f : ∀ k, k ≠ 26 → k ≠ 27 → k ≠ 158 → M'' k = M k := fun k a _ b => (f2 k (by simp [b])).trans (f1 k (by simp [a]))
    have hT := hI.1.2.1
    refine Inv_T (c := 26) hI (by omega) f (fun k hk => by rw [hv, vS_ne (by omega)]) (by rw [hv]; exact ate_okT0 hT) (by rw [hv]; exact ate_rTl0 hI.1.2.2.1.1.2.1 hT.1 f g0 g2)
  · intro L Lk M M' M'' n hI hn hlt hne hf f1 f2 hv g0 g2 g
    have h := of_decide_eq_true hf
    have f : ∀ k, k ≠ 26 → k ≠ 27 → k ≠ 158 → M'' k = M k := fun k a b' b => (f2 k (by simp [b])).trans (f1 k (by simp [a, b']))
    have hT := hI.1.2.1
    rw [if_pos (show (2 : Nat) = 2 from rfl)] at hv
    refine Inv_T (c := 26) hI (by omega) f (fun k hk => by rw [hv, ate_ag _ n a b hlt k (by omega) (by omega)]) (by rw [hv]; exact ate_okT hT hn hlt ⟨⟨h.1, h.2.1⟩, ⟨h.2.2.1, h.2.2.2⟩⟩) (by rw [hv]; exact ate_rTl hI.1.2.2.1.1.2.1 hT.1 hn hlt f g0 g2 g)
theorem vote_ag (V : aW) (n : Nat) (a b : Int) (hn : n < 9) : ∀ j, j ≠ 52 → (j < 275 ∨ 284 ≤ j) → (vS (vS V (275 + n) a) 52 ((n + 1 : Nat) : Int)) j = V j := by
  intro j h1 h2
  rw [vS_ne h1, vS_ne (by omega)]
theorem vote_okT0 {V : aW} (h : okT V) : okT (vS V 52 0) := by
  obtain ⟨⟨n1, n2, n3, n4, n5, n6, n7, n8⟩, hP, hD, hF, hS, hK, hG, hA, hV⟩ := h
  have ag : ∀ j, j ≠ 52 → vS V 52 0 j = V j := fun j hj => vS_ne hj
  have e : vS V 52 0 52 = 0 := vS_at
  refine ⟨?_, okP_V hP (fun j hj => ag j (by omega)) (by omega), ?_, ?_, ?_, ?_, ?_, ?_, ?_⟩
  · unfold okN
    rw [ag 45 (by omega), ag 46 (by omega), ag 47 (by omega), ag 48 (by omega), ag 49 (by omega), ag 50 (by omega), ag 51 (by omega), e]
    exact ⟨n1, n2, n3, n4, n5, n6, n7, ⟨by omega, by omega⟩⟩
  · intro i hi; rw [ag 46 (by omega)] at hi; rw [ag (111 + 3 * i) (by omega), ag (112 + 3 * i) (by omega), ag (113 + 3 * i) (by omega), ag 41 (by omega)]; exact hD i hi
  · intro i hi; rw [ag 47 (by omega)] at hi; rw [ag (159 + 2 * i) (by omega), ag (160 + 2 * i) (by omega)]; exact hF i hi
  · intro i hi; rw [ag 48 (by omega)] at hi; rw [ag (175 + 2 * i) (by omega), ag (176 + 2 * i) (by omega), ag 41 (by omega)]; exact hS i hi
  · intro i hi; rw [ag 49 (by omega)] at hi; rw [ag (199 + i) (by omega)]; exact hK i hi
  · intro i hi; rw [ag 50 (by omega)] at hi; rw [ag (207 + 2 * i) (by omega), ag (208 + 2 * i) (by omega)]; exact hG i hi
  · intro i hi; rw [ag 51 (by omega)] at hi; rw [ag (235 + 2 * i) (by omega), ag (236 + 2 * i) (by omega), ag 41 (by omega)]; exact hA i hi
  · intro i hi; rw [e] at hi; omega
theorem vote_okT {V : aW} {n : Nat} {a : Int} (h : okT V) (hn : V 52 = n) (hlt : n < 9) (hp : 0 ≤ a ∧ a ≤ 24) : okT (vS (vS V (275 + n) a) 52 ((n + 1 : Nat) : Int)) := by
  obtain ⟨⟨n1, n2, n3, n4, n5, n6, n7, n8⟩, hP, hD, hF, hS, hK, hG, hA, hV⟩ := h
  have ag := vote_ag V n a 0 hlt
  have e : (vS (vS V (275 + n) a) 52 ((n + 1 : Nat) : Int)) 52 = ((n + 1 : Nat) : Int) := vS_at
  have ag1 : ∀ j, j ≠ 52 → j ≠ 275 + 1 * n →  (vS (vS V (275 + n) a) 52 ((n + 1 : Nat) : Int)) j = V j := fun j h1 h2 => by rw [vS_ne h1, vS_ne (by omega)]
  have ea : (vS (vS V (275 + n) a) 52 ((n + 1 : Nat) : Int)) (275 + n) = a := by rw [vS_ne (by omega), vS_at]
  refine ⟨?_, okP_V hP (fun j hj => ag j (by omega) (by omega)) (by omega), ?_, ?_, ?_, ?_, ?_, ?_, ?_⟩
  · unfold okN
    rw [ag 45 (by omega) (by omega), ag 46 (by omega) (by omega), ag 47 (by omega) (by omega), ag 48 (by omega) (by omega), ag 49 (by omega) (by omega), ag 50 (by omega) (by omega), ag 51 (by omega) (by omega), e]
    exact ⟨n1, n2, n3, n4, n5, n6, n7, ⟨by omega, by omega⟩⟩
  · intro i hi; rw [ag 46 (by omega) (by omega)] at hi; rw [ag (111 + 3 * i) (by omega) (by omega), ag (112 + 3 * i) (by omega) (by omega), ag (113 + 3 * i) (by omega) (by omega), ag 41 (by omega) (by omega)]; exact hD i hi
  · intro i hi; rw [ag 47 (by omega) (by omega)] at hi; rw [ag (159 + 2 * i) (by omega) (by omega), ag (160 + 2 * i) (by omega) (by omega)]; exact hF i hi
  · intro i hi; rw [ag 48 (by omega) (by omega)] at hi; rw [ag (175 + 2 * i) (by omega) (by omega), ag (176 + 2 * i) (by omega) (by omega), ag 41 (by omega) (by omega)]; exact hS i hi
  · intro i hi; rw [ag 49 (by omega) (by omega)] at hi; rw [ag (199 + i) (by omega) (by omega)]; exact hK i hi
  · intro i hi; rw [ag 50 (by omega) (by omega)] at hi; rw [ag (207 + 2 * i) (by omega) (by omega), ag (208 + 2 * i) (by omega) (by omega)]; exact hG i hi
  · intro i hi; rw [ag 51 (by omega) (by omega)] at hi; rw [ag (235 + 2 * i) (by omega) (by omega), ag (236 + 2 * i) (by omega) (by omega), ag 41 (by omega) (by omega)]; exact hA i hi
  · intro i hi
    rw [e] at hi
    by_cases hin : i = n
    · subst hin
      rw [ea]
      exact hp
    · rw [ag1 (275 + i) (by omega) (by omega)]
      exact hV i (by omega)
theorem vote_rTl0 {V : aW} {M M' : aM} (h : rTl 1 V M) (hN : okN V) (f : ∀ k, k ≠ 28 → k ≠ 29 → k ≠ 158 → M' k = M k) (g0 : M' 28 0 = 9) (g2 : M' 28 2 = 0) : rTl 1 (vS V 52 0) M' := by
  obtain ⟨h1, h2, h3, h4, h5, h6, h7, h8⟩ := h
  obtain ⟨n1, n2, n3, n4, n5, n6, n7, n8⟩ := hN
  have ag : ∀ j, j ≠ 52 → vS V 52 0 j = V j := fun j hj => vS_ne hj
  exact ⟨rRow_V (rRow_fr h1 fun k _ _ => f k (by omega) (by omega) (by omega)) (ag 45 (by omega)) fun i j _ _ => congrArg (· - (if j = 1 then (7 : Int) else 0)) (ag (63 + 3 * i + j) (by omega)),
    rRow_V (rRow_fr h2 fun k _ _ => f k (by omega) (by omega) (by omega)) (ag 46 (by omega)) fun i j _ _ => ag _ (by omega),
    rRow_V (rRow_fr h3 fun k _ _ => f k (by omega) (by omega) (by omega)) (ag 47 (by omega)) fun i j _ _ => ag _ (by omega),
    rRow_V (rRow_fr h4 fun k _ _ => f k (by omega) (by omega) (by omega)) (ag 48 (by omega)) fun i j _ _ => ag _ (by omega),
    rRow_V (rRow_fr h5 fun k _ _ => f k (by omega) (by omega) (by omega)) (ag 49 (by omega)) fun i j _ _ => ag _ (by omega),
    rRow_V (rRow_fr h6 fun k _ _ => f k (by omega) (by omega) (by omega)) (ag 50 (by omega)) fun i j _ _ => ag _ (by omega),
    rRow_V (rRow_fr h7 fun k _ _ => f k (by omega) (by omega) (by omega)) (ag 51 (by omega)) fun i j _ _ => ag _ (by omega),
    ⟨g0, by rw [vS_at]; exact g2, fun i j hi _ => by rw [vS_at] at hi; omega⟩⟩
theorem vote_rTl {V : aW} {M M' : aM} {n : Nat} {a b : Int} (h : rTl 1 V M) (hN : okN V) (hn : V 52 = n) (hlt : n < 9) (f : ∀ k, k ≠ 28 → k ≠ 29 → k ≠ 158 → M' k = M k) (g0 : M' 28 0 = 9) (g2 : M' 28 2 = (n + 1 : Nat)) (g : ∀ j, M' 29 j = if j = 4 * n then a else if j = 4 * n + 1 then b else if j = 4 * n + 2 then 0 else if j = 4 * n + 3 then 0 else M 29 j) : rTl 1 (vS (vS V (275 + n) a) 52 ((n + 1 : Nat) : Int)) M' := by
  obtain ⟨h1, h2, h3, h4, h5, h6, h7, h8⟩ := h
  obtain ⟨n1, n2, n3, n4, n5, n6, n7, n8⟩ := hN
  have ag := vote_ag V n a b hlt
  have e : (vS (vS V (275 + n) a) 52 ((n + 1 : Nat) : Int)) 52 = ((n + 1 : Nat) : Int) := vS_at
  have row : rRow (1 + 27) 9 ((vS (vS V (275 + n) a) 52 ((n + 1 : Nat) : Int)) 52) (fun i j => (vS (vS V (275 + n) a) 52 ((n + 1 : Nat) : Int)) (275 + i + j)) 1 M' := by
    refine ⟨g0, by rw [e]; exact g2, fun i j hi hj => ?_⟩
    rw [e] at hi
    rw [show 1 + 27 + 1 = 29 from rfl, g]
    show _ = (vS (vS V (275 + n) a) 52 ((n + 1 : Nat) : Int)) (275 + i + j)
    by_cases hin : i = n
    · subst hin
      have : j = 0 := by omega
      subst this
      rw [if_pos (by omega), vS_ne (by omega), Nat.add_zero, vS_at]
    · rw [if_neg (by omega), if_neg (by omega), if_neg (by omega), if_neg (by omega), vS_ne (by omega), vS_ne (by omega)]
      exact h8.2.2 i j (by omega) hj
  exact ⟨rRow_V (rRow_fr h1 fun k _ _ => f k (by omega) (by omega) (by omega)) (ag 45 (by omega) (by omega)) fun i j _ _ => congrArg (· - (if j = 1 then (7 : Int) else 0)) (ag (63 + 3 * i + j) (by omega) (by omega)),
    rRow_V (rRow_fr h2 fun k _ _ => f k (by omega) (by omega) (by omega)) (ag 46 (by omega) (by omega)) fun i j _ _ => ag _ (by omega) (by omega),
    rRow_V (rRow_fr h3 fun k _ _ => f k (by omega) (by omega) (by omega)) (ag 47 (by omega) (by omega)) fun i j _ _ => ag _ (by omega) (by omega),
    rRow_V (rRow_fr h4 fun k _ _ => f k (by omega) (by omega) (by omega)) (ag 48 (by omega) (by omega)) fun i j _ _ => ag _ (by omega) (by omega),
    rRow_V (rRow_fr h5 fun k _ _ => f k (by omega) (by omega) (by omega)) (ag 49 (by omega) (by omega)) fun i j _ _ => ag _ (by omega) (by omega),
    rRow_V (rRow_fr h6 fun k _ _ => f k (by omega) (by omega) (by omega)) (ag 50 (by omega) (by omega)) fun i j _ _ => ag _ (by omega) (by omega),
    rRow_V (rRow_fr h7 fun k _ _ => f k (by omega) (by omega) (by omega)) (ag 51 (by omega) (by omega)) fun i j _ _ => ag _ (by omega) (by omega),
    row⟩
theorem pr_vote (d : Nat) (a : Int) : pr (w_x_vote (d + 40) a) (w_m_vote (d + 40) a) := by
  refine pr_tell (k := 52) (c := 28) (B := 275) (w := 1) (most := 9) (a := a) (b := 0) (fun _ => decide (0 ≤ a ∧ a ≤ 24)) (by omega) (fun _ _ _ => rfl) ?_ ?_ ?_ (by omega) ?_ ?_
  · intro L Lk M hI n hn hle
    obtain ⟨⟨hW, hT, hw, hv, hok⟩, -⟩ := hI
    obtain ⟨cc, hcc, h10⟩ := okW_n hW
    obtain ⟨t1, t2, t3, t4, t5, t6, t7, t8⟩ := hw.1.2.1
    obtain ⟨r0, r2, rc⟩ := t8
    rw [l_x_vote]
    refine wp_eI (x_within_eq _ _ _ _) ?_
    refine wp_idI ?_
    refine wp_mono (rows_tell_eq _ 28 n 9 a 0 _ M r0 (by rw [show M 28 2 = M 158 52 from r2, hn]) hle (by omega) al29) ?_
    rintro r M' ⟨⟨v, e⟩, h⟩
    exact ⟨⟨v, e⟩, ⟨v, e⟩, h⟩
  · intro M n hn hle h0 h10
    rw [l_m_vote]
    simp only [al158]
    refine wp_if (fun h1 => ?_) (fun h1 => ?_)
    · refine wp_inb ⟨by omega, by omega⟩ ?_
      refine wp_w fun M1 w1 f1 => ?_
      exact wp_ret (Or.inl ⟨h1, rfl, f1, w1⟩)
    refine wp_eI (m_isIn_eq _ _ _ _ M) ?_
    refine wp_bif (fun h => ?_) (fun h => ?_)
    · have h := of_decide_eq_false h
      exact wp_ret (Or.inr (Or.inl ⟨h1, Or.inl (decide_eq_false (by omega)), rfl, rfl⟩))
    have h := of_decide_eq_true h
    refine wp_inb ⟨by omega, by omega⟩ ?_
    refine wp_if (fun hm => ?_) (fun hm => ?_)
    · exact wp_ret (Or.inr (Or.inl ⟨h1, Or.inr (by omega), rfl, rfl⟩))
    refine wp_inb ⟨by omega, by omega⟩ ?_
    rw [hn]
    have e1 : w32 (275 + (n : Int)) = ((275 + n : Nat) : Int) := by rw [w32_i (by omega) (by omega)]; omega
    rw [e1]
    refine wp_inb ⟨by omega, by omega⟩ ?_
    refine wp_w fun M1 w1 f1 => ?_
    refine wp_inb ⟨by omega, by omega⟩ ?_
    refine wp_inb ⟨by omega, by omega⟩ ?_
    rw [w1, tn_n, vS_ne (show 52 ≠ 275 + n by omega), hn, w32_i (by omega) (by omega)]
    refine wp_w fun M3 w3 f3 => ?_
    refine wp_inb ⟨by omega, by omega⟩ ?_
    refine wp_ret (Or.inr (Or.inr ⟨h1, decide_eq_true (by omega), by omega, ?_, fr_tt f1 f3, ?_⟩))
    · rw [w3, vS_at]; rfl
    · rw [w3, w1, tn_n, if_neg (by decide), show 275 + 1 * n = 275 + n by omega]; rfl
  · intro V hT
    obtain ⟨⟨n1, n2, n3, n4, n5, n6, n7, n8⟩, -⟩ := hT
    exact n8
  · intro L Lk M M' M'' hI f1 f2 hv g0 g2 g3
    have f : ∀ k, k ≠ 28 → k ≠ 29 → k ≠ 158 → M'' k = M k := fun k a _ b => (f2 k (by simp [b])).trans (f1 k (by simp [a]))
    have hT := hI.1.2.1
    refine Inv_T (c := 28) hI (by omega) f (fun k hk => by rw [hv, vS_ne (by omega)]) (by rw [hv]; exact vote_okT0 hT) (by rw [hv]; exact vote_rTl0 hI.1.2.2.1.1.2.1 hT.1 f g0 g2)
  · intro L Lk M M' M'' n hI hn hlt hne hf f1 f2 hv g0 g2 g
    have h := of_decide_eq_true hf
    have f : ∀ k, k ≠ 28 → k ≠ 29 → k ≠ 158 → M'' k = M k := fun k a b' b => (f2 k (by simp [b])).trans (f1 k (by simp [a, b']))
    have hT := hI.1.2.1
    rw [if_neg (show ¬ (1 : Nat) = 2 by decide), show 275 + 1 * n = 275 + n by omega] at hv
    refine Inv_T (c := 28) hI (by omega) f (fun k hk => by rw [hv, vote_ag _ n a 0 hlt k (by omega) (by omega)]) (by rw [hv]; exact vote_okT hT hn hlt h) (by rw [hv]; exact vote_rTl hI.1.2.2.1.1.2.1 hT.1 hn hlt f g0 g2 g)
