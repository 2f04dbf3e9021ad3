/-! text: the call -/
theorem tTx_P {k n : Nat} {dn : Int} {TL : List aTk} {e : Int × Int → Prop} {g : List aRow3 → Prop} {w : aLaw → Prop} {P : Prop} (h : tTx k n dn TL e g w) (h1 : ∀ x, e x → P) (h2 : ∀ x, g x → P) (h3 : ∀ x, w x → P) : P := by
  unfold tTx at h
  split at h
  · split at h
    · exact h1 _ h
    · exact h3 _ h
  · split at h
    · exact h1 _ h
    · exact h2 _ h
theorem rows3 {c most b : Nat} {s : Int} {N : List aRow3} {M : aM} (h0 : M c 0 = most) (h2 : M c 2 = N.length) (hc : ∀ i t, N[i]? = some t → M (c + 1) (4 * i) = t.1 ∧ M (c + 1) (4 * i + 1) = t.2.1 ∧ M (c + 1) (4 * i + 2) = t.2.2) (V : aW) (hv : ∀ i t, N[i]? = some t → V (b + 3 * i) = t.1 ∧ V (b + 3 * i + 1) = t.2.1 + s ∧ V (b + 3 * i + 2) = t.2.2) : rRow c most N.length (fun i j => V (b + 3 * i + j) - (if j = 1 then s else 0)) 3 M := by
  refine ⟨h0, h2, fun i j hi hj => ?_⟩
  obtain ⟨t, ht, -⟩ := row_at (L := N) (i := i) (by omega)
  obtain ⟨a1, a2, a3⟩ := hc i t ht
  obtain ⟨b1, b2, b3⟩ := hv i t ht
  have hj3 : j = 0 ∨ j = 1 ∨ j = 2 := by omega
  rcases hj3 with rfl | rfl | rfl
  · dsimp only
    rw [show 4 * i + 0 = 4 * i from rfl, show b + 3 * i + 0 = b + 3 * i from rfl, a1, b1, if_neg (by decide)]
    omega
  · dsimp only
    rw [a2, b2, if_pos rfl]
    omega
  · dsimp only
    rw [a3, b3, if_neg (by decide)]
    omega
theorem Inv_K1 {L Lk : aLaw} {M M2 : aM} {N : List aRow3} (hI : Inv L Lk M) (hg : ∀ t, t ∈ N → rGood 1 (M 158 41) t) (hl : N.length ≤ 16) (f : tKp M M2) (g : ∀ k, k = 2 ∨ (7 ≤ k ∧ k < 12) ∨ (14 ≤ k ∧ k < 18) → M2 k = M k) (hv : ∀ j, j ≠ 45 → ¬ (63 ≤ j ∧ j < 111) → M2 158 j = M 158 j) (h45 : M2 158 45 = N.length) (hc : ∀ i t, N[i]? = some t → M2 158 (63 + 3 * i) = t.1 ∧ M2 158 (63 + 3 * i + 1) = t.2.1 + 7 ∧ M2 158 (63 + 3 * i + 2) = t.2.2)
    (c0 : M2 12 0 = 16) (c2 : M2 12 2 = N.length) (cc : ∀ i t, N[i]? = some t → M2 13 (4 * i) = t.1 ∧ M2 13 (4 * i + 1) = t.2.1 ∧ M2 13 (4 * i + 2) = t.2.2) (r1 : M2 94 3 = 0) (r2 : M2 94 2 = M 94 2) (r3 : M2 157 4 = 0) : Inv L Lk M2 := by
  obtain ⟨_, fr0, -, -, -, b4, b5, -⟩ := hI.2.2.2.1
  have hT := hI.1.2.1
  obtain ⟨n1, n2, n3, -⟩ := hT.1
  have hw := hI.1.2.2.1.1
  have h9 := hw.1.2.2.2.2.2.2.2.2.2.2.2.2.1
  obtain ⟨-, s2, s3, -⟩ := hw.2.1
  refine Inv_R hI f (fun k _ _ _ => g k (by omega)) (fun j _ => by rw [g 2 (by omega)]) (by rw [g 2 (by omega), hv 9 (by omega) (by omega)]; exact h9) (by rw [hv 9 (by omega) (by omega)]; exact hI.1.1.2.2.2.2.2.2.2.2.2.1) (fun k hk => hv k (by omega) (by omega)) (by omega) (by rw [hv 46 (by omega) (by omega)]; exact n2) (by rw [hv 47 (by omega) (by omega)]; exact n3) ?_ ?_ ?_ ?_ ?_ ?_ (iRing_0 r1 r3 (r2.trans b4) b5)
  · intro i hi
    obtain ⟨t, ht, hm⟩ := row_at (L := N) (i := i) (by omega)
    obtain ⟨a1, a2, a3⟩ := hc i t ht
    obtain ⟨⟨o1, o2⟩, o3, o4⟩ := (hg t hm).1 rfl
    rw [show 64 + 3 * i = 63 + 3 * i + 1 by omega, show 65 + 3 * i = 63 + 3 * i + 2 by omega, a2, a3, hv 41 (by omega) (by omega)]
    exact ⟨by omega, fun e => o3 (by omega), fun e => o4 (by omega)⟩
  · exact okDu_V hT.2.2.1 n2.2 fun k hk => hv k (by omega) (by omega)
  · exact okFe_V hT.2.2.2.1 n3.2 fun k hk => hv k (by omega) (by omega)
  · rw [h45]; exact rows3 c0 c2 cc _ hc
  · exact rRow_V (rRow_fr s2 fun k _ _ => g k (by omega)) (hv 46 (by omega) (by omega)) fun i j hi _ => hv _ (by omega) (by omega)
  · exact rRow_V (rRow_fr s3 fun k _ _ => g k (by omega)) (hv 47 (by omega) (by omega)) fun i j hi _ => hv _ (by omega) (by omega)
theorem Inv_K2 {L Lk : aLaw} {M M2 : aM} {N : List aRow3} (hI : Inv L Lk M) (hg : ∀ t, t ∈ N → rGood 2 (M 158 41) t) (hl : N.length ≤ 16) (f : tKp M M2) (g : ∀ k, (7 ≤ k ∧ k < 14) ∨ (16 ≤ k ∧ k < 18) → M2 k = M k) (gj : ∀ j, j ≠ 16 → M2 2 j = M 2 j) (g16 : M2 2 16 = 0) (hv : ∀ j, j ≠ 46 → j ≠ 9 → ¬ (111 ≤ j ∧ j < 159) → M2 158 j = M 158 j) (h9 : M2 158 9 = 0) (h46 : M2 158 46 = N.length) (hc : ∀ i t, N[i]? = some t → M2 158 (111 + 3 * i) = t.1 ∧ M2 158 (111 + 3 * i + 1) = t.2.1 ∧ M2 158 (111 + 3 * i + 2) = t.2.2)
    (c0 : M2 14 0 = 16) (c2 : M2 14 2 = N.length) (cc : ∀ i t, N[i]? = some t → M2 15 (4 * i) = t.1 ∧ M2 15 (4 * i + 1) = t.2.1 ∧ M2 15 (4 * i + 2) = t.2.2) (r1 : M2 94 3 = 0) (r2 : M2 94 2 = M 94 2) (r3 : M2 157 4 = 0) : Inv L Lk M2 := by
  obtain ⟨_, fr0, -, -, -, b4, b5, -⟩ := hI.2.2.2.1
  have hT := hI.1.2.1
  obtain ⟨n1, n2, n3, -⟩ := hT.1
  have hw := hI.1.2.2.1.1
  obtain ⟨s1, -, s3, -⟩ := hw.2.1
  refine Inv_R hI f (fun k _ _ _ => g k (by omega)) gj (by rw [g16, h9]) (by rw [h9]; exact ⟨0, rfl, by omega⟩) (fun k hk => hv k (by omega) (by omega) (by omega)) (by rw [hv 45 (by omega) (by omega) (by omega)]; exact n1) (by omega) (by rw [hv 47 (by omega) (by omega) (by omega)]; exact n3) ?_ ?_ ?_ ?_ ?_ ?_ (iRing_0 r1 r3 (r2.trans b4) b5)
  · exact okP_V hT.2.1 (fun k hk => hv k (by omega) (by omega) (by omega)) n1.2
  · intro i hi
    obtain ⟨t, ht, hm⟩ := row_at (L := N) (i := i) (by omega)
    obtain ⟨a1, a2, a3⟩ := hc i t ht
    rw [show 112 + 3 * i = 111 + 3 * i + 1 by omega, show 113 + 3 * i = 111 + 3 * i + 2 by omega, a1, a2, a3, hv 41 (by omega) (by omega) (by omega)]
    exact (hg t hm).2.1 rfl
  · exact okFe_V hT.2.2.2.1 n3.2 fun k hk => hv k (by omega) (by omega) (by omega)
  · exact rRow_V (rRow_fr s1 fun k _ _ => g k (by omega)) (hv 45 (by omega) (by omega) (by omega)) fun i j hi _ => by rw [hv _ (by omega) (by omega) (by omega)]
  · rw [h46]
    have q := rows3 (s := 0) c0 c2 cc (M2 158) (b := 111) (fun i t ht => by rw [Int.add_zero]; exact hc i t ht)
    refine rRow_V q rfl fun i j _ _ => ?_
    split <;> omega
  · exact rRow_V (rRow_fr s3 fun k _ _ => g k (by omega)) (hv 47 (by omega) (by omega) (by omega)) fun i j hi _ => hv _ (by omega) (by omega) (by omega)
theorem Inv_K3 {L Lk : aLaw} {M M2 : aM} {N : List aRow3} (hI : Inv L Lk M) (hg : ∀ t, t ∈ N → rGood 3 (M 158 41) t) (hl : N.length ≤ 8) (f : tKp M M2) (g : ∀ k, k = 2 ∨ (7 ≤ k ∧ k < 16) → M2 k = M k) (hv : ∀ j, j ≠ 47 → ¬ (159 ≤ j ∧ j < 175) → M2 158 j = M 158 j) (h47 : M2 158 47 = N.length) (hc : ∀ i t, N[i]? = some t → M2 158 (159 + 2 * i) = t.1 ∧ M2 158 (159 + 2 * i + 1) = t.2.1)
    (c0 : M2 16 0 = 8) (c2 : M2 16 2 = N.length) (cc : ∀ i t, N[i]? = some t → M2 17 (4 * i) = t.1 ∧ M2 17 (4 * i + 1) = t.2.1 ∧ M2 17 (4 * i + 2) = t.2.2) (r1 : M2 94 = M 94) (r3 : M2 157 4 = M 157 4) : Inv L Lk M2 := by
  have hT := hI.1.2.1
  obtain ⟨n1, n2, n3, -⟩ := hT.1
  have hw := hI.1.2.2.1.1
  have h9 := hw.1.2.2.2.2.2.2.2.2.2.2.2.2.1
  obtain ⟨s1, s2, -, -⟩ := hw.2.1
  have g0 := f.1
  unfold tq at g0
  have hR : iRing M2 := iRing_V hI.2.2.2.1 r1 r3 (g0 96 (by omega)) (g0 160 (by omega)) (fun k hk => hv k (by omega) (by omega)) fun k _ _ => g0 k (by omega)
  refine Inv_R hI f (fun k _ _ _ => g k (by omega)) (fun j _ => by rw [g 2 (by omega)]) (by rw [g 2 (by omega), hv 9 (by omega) (by omega)]; exact h9) (by rw [hv 9 (by omega) (by omega)]; exact hI.1.1.2.2.2.2.2.2.2.2.2.1) (fun k hk => hv k (by omega) (by omega)) (by rw [hv 45 (by omega) (by omega)]; exact n1) (by rw [hv 46 (by omega) (by omega)]; exact n2) (by omega) ?_ ?_ ?_ ?_ ?_ ?_ hR
  · exact okP_V hT.2.1 (fun k hk => hv k (by omega) (by omega)) n1.2
  · exact okDu_V hT.2.2.1 n2.2 fun k hk => hv k (by omega) (by omega)
  · intro i hi
    obtain ⟨t, ht, hm⟩ := row_at (L := N) (i := i) (by omega)
    obtain ⟨a1, a2⟩ := hc i t ht
    rw [show 160 + 2 * i = 159 + 2 * i + 1 by omega, a1, a2]
    exact (hg t hm).2.2 rfl
  · exact rRow_V (rRow_fr s1 fun k _ _ => g k (by omega)) (hv 45 (by omega) (by omega)) fun i j hi _ => by rw [hv _ (by omega) (by omega)]
  · exact rRow_V (rRow_fr s2 fun k _ _ => g k (by omega)) (hv 46 (by omega) (by omega)) fun i j hi _ => hv _ (by omega) (by omega)
  · rw [h47]
    refine ⟨c0, c2, fun i j hi hj => ?_⟩
    obtain ⟨t, ht, -⟩ := row_at (L := N) (i := i) (by omega)
    obtain ⟨a1, a2, -⟩ := cc i t ht
    obtain ⟨b1, b2⟩ := hc i t ht
    have hj3 : j = 0 ∨ j = 1 := by omega
    rcases hj3 with rfl | rfl
    · exact a1.trans b1.symm
    · exact a2.trans b2.symm
