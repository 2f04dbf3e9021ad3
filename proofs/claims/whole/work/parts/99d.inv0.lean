/-! The first memory: nothing is told yet, nothing has been done. -/
theorem inv0 (n : Nat) (xs : Nat → Int32) : Inv [] [] (ctM0 n xs) := by
  have hm : ∀ a i, a < 177 → ctM0 n xs a i = ctNum a i := fun a i h => by rw [ctM0_w n xs h]
  have hV : ∀ k, ctM0 n xs 158 k = if k = 1 then -1 else 0 := fun k => by rw [hm 158 k (by omega), ctNum_158]
  have h0 : ∀ k, k ≠ 1 → ctM0 n xs 158 k = 0 := fun k hk => by rw [hV, if_neg hk]
  have hz : ∀ a, a < 177 → (ctNumL.all fun q => !(Nat.beq q.1 a)) = true → ∀ i, ctM0 n xs a i = 0 := fun a h h2 i => by rw [hm a i h, ctNum_0 h2]
  generalize hM : ctM0 n xs = M at hm hV h0 hz ⊢
  have hc : ∀ a i v, a < 177 → ctNum a i = v → M a i = v := fun a i v h e => (hm a i h).trans e
  have row : ∀ (c most : Nat) (N : Int) (f : Nat → Nat → Int) (w : Nat), c < 177 → ctNum c 0 = most → ctNum c 2 = 0 → N = 0 → rRow c most N f w M := fun c most N f w h e1 e2 e3 => ⟨hc c 0 _ h e1, (hc c 2 _ h e2).trans e3.symm, fun i j hi => by omega⟩
  refine ⟨⟨?_, ?_, ⟨⟨?_, ?_, ?_, ?_, ?_, ?_⟩, fun _ => ?_⟩, ⟨h0 44 (by omega), trivial⟩, ⟨Nat.zero_le _, fun x hx => by cases hx⟩⟩, ?_, ?_, ?_, ?_, ?_⟩
  · -- the wood's numbers
    refine ⟨⟨0, 0, h0 10 (by omega), h0 41 (by omega), by decide, by omega⟩, ?_, ?_, ?_, ?_, ?_, ?_, ?_, ?_, ⟨0, h0 9 (by omega), by omega⟩, fun i hi => ?_, fun i hi => ?_, fun i hi => ?_, fun i hi => ?_⟩
    · rw [h0 8 (by omega)]; omega
    · rw [h0 0 (by omega)]; omega
    · rw [hV 1, if_pos rfl, h0 41 (by omega)]; omega
    · rw [h0 4 (by omega)]; omega
    · rw [h0 5 (by omega)]; omega
    · rw [h0 6 (by omega)]; omega
    · rw [h0 42 (by omega)]; omega
    · rw [h0 43 (by omega)]; omega
    · rw [h0 (53 + i) (by omega)]; omega
    · rw [h0 (11 + i) (by omega)]; omega
    · rw [h0 (21 + i) (by omega)]; omega
    · rw [h0 (31 + i) (by omega), h0 0 (by omega)]; omega
  · -- the told lists
    have hN : okN (M 158) := by
      unfold okN
      rw [h0 45 (by omega), h0 46 (by omega), h0 47 (by omega), h0 48 (by omega), h0 49 (by omega), h0 50 (by omega), h0 51 (by omega), h0 52 (by omega)]
      omega
    refine ⟨hN, fun i hi => ?_, fun i hi => ?_, fun i hi => ?_, fun i hi => ?_, fun i hi => ?_, fun i hi => ?_, fun i hi => ?_, fun i hi => ?_⟩
    · rw [h0 45 (by omega)] at hi; omega
    · rw [h0 46 (by omega)] at hi; omega
    · rw [h0 47 (by omega)] at hi; omega
    · rw [h0 48 (by omega)] at hi; omega
    · rw [h0 49 (by omega)] at hi; omega
    · rw [h0 50 (by omega)] at hi; omega
    · rw [h0 51 (by omega)] at hi; omega
    · rw [h0 52 (by omega)] at hi; omega
  · refine ⟨?_, ?_, ?_, ?_, ?_, ?_, ?_, ?_, ?_, ?_, ?_, ?_, ?_, fun i hi => ?_, fun i hi => ?_, fun i hi => ?_, fun i hi => ?_⟩
    · exact (hc 2 4 0 (by omega) (by decide +kernel)).trans (h0 _ (by omega)).symm
    · exact (hc 2 5 0 (by omega) (by decide +kernel)).trans (h0 _ (by omega)).symm
    · exact (hc 2 6 0 (by omega) (by decide +kernel)).trans (h0 _ (by omega)).symm
    · exact (hc 2 7 0 (by omega) (by decide +kernel)).trans (h0 _ (by omega)).symm
    · exact (hc 2 8 0 (by omega) (by decide +kernel)).trans (h0 _ (by omega)).symm
    · exact (hc 2 9 0 (by omega) (by decide +kernel)).trans (h0 _ (by omega)).symm
    · exact (hc 2 10 0 (by omega) (by decide +kernel)).trans (h0 _ (by omega)).symm
    · exact (hc 2 11 (-1) (by omega) (by decide +kernel)).trans ((hV 1).trans (if_pos rfl)).symm
    · exact (hc 2 12 0 (by omega) (by decide +kernel)).trans (h0 _ (by omega)).symm
    · exact (hc 2 13 0 (by omega) (by decide +kernel)).trans (h0 _ (by omega)).symm
    · exact (hc 2 14 0 (by omega) (by decide +kernel)).trans (h0 _ (by omega)).symm
    · exact (hc 2 15 0 (by omega) (by decide +kernel)).trans (h0 _ (by omega)).symm
    · exact (hc 2 16 0 (by omega) (by decide +kernel)).trans (h0 _ (by omega)).symm
    · exact (hz 3 (by omega) (by decide +kernel) i).trans (h0 _ (by omega)).symm
    · exact (hz 4 (by omega) (by decide +kernel) i).trans (h0 _ (by omega)).symm
    · exact (hz 5 (by omega) (by decide +kernel) i).trans (h0 _ (by omega)).symm
    · exact (hz 6 (by omega) (by decide +kernel) i).trans (h0 _ (by omega)).symm
  · exact ⟨row 12 16 _ _ 3 (by omega) (by decide +kernel) (by decide +kernel) (h0 45 (by omega)), row 14 16 _ _ 3 (by omega) (by decide +kernel) (by decide +kernel) (h0 46 (by omega)), row 16 8 _ _ 2 (by omega) (by decide +kernel) (by decide +kernel) (h0 47 (by omega)), row 20 12 _ _ 2 (by omega) (by decide +kernel) (by decide +kernel) (h0 48 (by omega)), row 22 8 _ _ 1 (by omega) (by decide +kernel) (by decide +kernel) (h0 49 (by omega)), row 24 14 _ _ 2 (by omega) (by decide +kernel) (by decide +kernel) (h0 50 (by omega)), row 26 20 _ _ 2 (by omega) (by decide +kernel) (by decide +kernel) (h0 51 (by omega)), row 28 9 _ _ 1 (by omega) (by decide +kernel) (by decide +kernel) (h0 52 (by omega))⟩
  · exact ⟨0, by omega, hc 7 3 0 (by omega) (by decide +kernel), hc 10 2 0 (by omega) (by decide +kernel), trivial, hc 10 0 16 (by omega) (by decide +kernel)⟩
  · exact hc 18 0 150 (by omega) (by decide +kernel)
  · rw [hc 18 2 0 (by omega) (by decide +kernel)]; omega
  · rw [hc 18 2 0 (by omega) (by decide +kernel)]; omega
  · exact row 18 150 _ _ 4 (by omega) (by decide +kernel) (by decide +kernel) (h0 8 (by omega))
  · have e1 : M 0 9 = 0 := hc 0 9 0 (by omega) (by decide +kernel)
    have e2 : M 157 5 = 0 := hc 157 5 0 (by omega) (by decide +kernel)
    exact ⟨e1.trans e2.symm, Or.inl e2, fun e => by rw [e2] at e; omega⟩
  · have st : ∀ c v, c < 177 → ctNum c 0 = v → M c 0 = v := fun c v h e => hc c 0 v h e
    refine ⟨⟨?_, ?_, ?_, ?_, ?_, ?_, ?_, ?_, ?_, ?_⟩, ⟨?_, ?_, ?_, ?_, ?_, ?_, ?_, ?_, ?_, ?_⟩, ?_, ?_⟩ <;> exact st _ _ (by omega) (by decide +kernel)
  · exact iRing_0 (f := 0) (hc 94 3 0 (by omega) (by decide +kernel)) (hc 157 4 0 (by omega) (by decide +kernel)) (hc 94 2 0 (by omega) (by decide +kernel)) (by omega)
  · exact ⟨0, by omega, hc 127 5 0 (by omega) (by decide +kernel), hc 157 16 0 (by omega) (by decide +kernel), fun i hi => by omega⟩
  · exact ⟨(hc 132 2 0 (by omega) (by decide +kernel)).trans (hc 157 23 0 (by omega) (by decide +kernel)).symm, (hc 132 3 (-1) (by omega) (by decide +kernel)).trans (hc 157 25 (-1) (by omega) (by decide +kernel)).symm⟩
theorem scr0 {n : Nat} (xs : Nat → Int32) (hn : n ≤ 3072) : scr n (ctM0 n xs) := by
  refine ⟨?_, hn, fun i hi => ?_⟩
  · show (if 998 = 998 then (if 0 = 0 then (n : Int) else 0) else _) = _
    rw [if_pos rfl, if_pos rfl]
  · show in32 (if 999 = 998 then _ else if 999 = 999 then (if i < n then (xs i).toInt else 0) else _)
    rw [if_neg (by decide), if_pos rfl, if_pos hi]
    exact ⟨(xs i).le_toInt, (xs i).toInt_lt⟩
theorem law_first {n : Nat} (xs : Nat → Int32) (hn : n ≤ 3072) : ∃ M, w_lw_law_18 44 0 (ctM0 n xs) = some ([aI 1], M) := by
  obtain ⟨r, M, e, rfl⟩ := law_alike 0 n (n + 1) 0 [] [] (ctM0 n xs) (by omega) (inv0 n xs) (scr0 xs hn)
  exact ⟨M, e⟩
