/-! text: what holds behind it -/
theorem row_at {L : List aRow3} {i : Nat} (h : i < L.length) : ∃ t, L[i]? = some t ∧ t ∈ L := ⟨L[i], List.getElem?_eq_getElem h, List.getElem_mem h⟩
def okDu (V : aW) : Prop := ∀ i : Nat, (i : Int) < V 46 → (1 ≤ V (111 + 3 * i) ∧ V (111 + 3 * i) ≤ 999) ∧ (0 ≤ V (112 + 3 * i) ∧ V (112 + 3 * i) < V 41) ∧ (-1 ≤ V (113 + 3 * i) ∧ V (113 + 3 * i) ≤ 999)
def okFe (V : aW) : Prop := ∀ i : Nat, (i : Int) < V 47 → (0 ≤ V (159 + 2 * i) ∧ V (159 + 2 * i) ≤ 30) ∧ (0 ≤ V (160 + 2 * i) ∧ V (160 + 2 * i) ≤ 9)
theorem okDu_V {V V' : aW} (h : okDu V) (hn : V 46 ≤ 16) (hv : ∀ k, k = 41 ∨ k = 46 ∨ 111 ≤ k ∧ k < 159 → V' k = V k) : okDu V' := by
  intro i hi
  rw [hv 46 (by omega)] at hi
  rw [hv (111 + 3 * i) (by omega), hv (112 + 3 * i) (by omega), hv (113 + 3 * i) (by omega), hv 41 (by omega)]
  exact h i hi
theorem okFe_V {V V' : aW} (h : okFe V) (hn : V 47 ≤ 8) (hv : ∀ k, k = 47 ∨ 159 ≤ k ∧ k < 175 → V' k = V k) : okFe V' := by
  intro i hi
  rw [hv 47 (by omega)] at hi
  rw [hv (159 + 2 * i) (by omega), hv (160 + 2 * i) (by omega)]
  exact h i hi
theorem okT_R {V V' : aW} (h : okT V) (hv : ∀ k, k = 41 ∨ (48 ≤ k ∧ k < 53) ∨ (175 ≤ k ∧ k < 284) → V' k = V k) (n1 : 0 ≤ V' 45 ∧ V' 45 ≤ 16) (n2 : 0 ≤ V' 46 ∧ V' 46 ≤ 16) (n3 : 0 ≤ V' 47 ∧ V' 47 ≤ 8) (hP : okP V') (hD : okDu V') (hF : okFe V') : okT V' := by
  obtain ⟨⟨-, -, -, m4, m5, m6, m7, m8⟩, -, -, -, hS, hK, hG, hA, hVo⟩ := h
  refine ⟨⟨n1, n2, n3, ?_, ?_, ?_, ?_, ?_⟩, hP, hD, hF, ?_, ?_, ?_, ?_, ?_⟩
  · rw [hv 48 (by omega)]; exact m4
  · rw [hv 49 (by omega)]; exact m5
  · rw [hv 50 (by omega)]; exact m6
  · rw [hv 51 (by omega)]; exact m7
  · rw [hv 52 (by omega)]; exact m8
  · intro i hi
    rw [hv 48 (by omega)] at hi
    rw [hv (175 + 2 * i) (by omega), hv (176 + 2 * i) (by omega), hv 41 (by omega)]
    exact hS i hi
  · intro i hi
    rw [hv 49 (by omega)] at hi
    rw [hv (199 + i) (by omega)]
    exact hK i hi
  · intro i hi
    rw [hv 50 (by omega)] at hi
    rw [hv (207 + 2 * i) (by omega), hv (208 + 2 * i) (by omega)]
    exact hG i hi
  · intro i hi
    rw [hv 51 (by omega)] at hi
    rw [hv (235 + 2 * i) (by omega), hv (236 + 2 * i) (by omega), hv 41 (by omega)]
    exact hA i hi
  · intro i hi
    rw [hv 52 (by omega)] at hi
    rw [hv (275 + i) (by omega)]
    exact hVo i hi
/-- where a text can leave something -/
def tq (k : Nat) : Prop := k = 2 ∨ (7 ≤ k ∧ k < 18) ∨ k = 94 ∨ k = 127 ∨ (129 ≤ k ∧ k < 141) ∨ k = 157 ∨ k = 158 ∨ (162 ≤ k ∧ k < 165)
/-- what each text leaves alike -/
def tKp (M M2 : aM) : Prop := (∀ k, ¬ tq k → M2 k = M k) ∧ M2 157 5 = M 157 5 ∧ M2 136 0 = 16 ∧ M2 138 0 = 16 ∧ M2 127 5 = 0 ∧ M2 157 16 = 0 ∧ iFault M2
theorem Inv_X {L Lk L' : aLaw} {M M2 : aM} (hI : Inv L Lk M) (f : tKp M M2) (hN : iNow L' 1 158 M2) (hR : iRing M2) : Inv L' Lk M2 := by
  obtain ⟨-, h2, h3, -, -, -⟩ := hI
  obtain ⟨f, h5, h136, h138, ht, ht', hf⟩ := f
  unfold tq at f
  refine ⟨hN, iKept_ag h2 (by rw [f 0 (by omega)]) h5 (f 159 (by omega)) fun k _ _ _ => f k (by omega), iStat_ag h3 fun k hk => ?_, hR, ⟨0, by omega, ht, ht', fun i hi => by omega⟩, hf⟩
  rcases hk with hk | hk | rfl | rfl
  · rw [f k (by omega)]
  · rw [f k (by omega)]
  · rw [h136, h3.2.2.1]
  · rw [h138, h3.2.2.2]
theorem Inv_R {L Lk : aLaw} {M M2 : aM} (hI : Inv L Lk M) (f : tKp M M2) (f7 : ∀ k, 7 ≤ k → k < 12 → k ≠ 9 → M2 k = M k) (f2 : ∀ j, j ≠ 16 → M2 2 j = M 2 j) (h9 : M2 2 16 = M2 158 9) (h9' : ∃ x : Nat, M2 158 9 = x ∧ x < 65536) (hv : ∀ k, k < 9 ∨ (10 ≤ k ∧ k < 45) ∨ (48 ≤ k ∧ k < 63) ∨ 175 ≤ k → M2 158 k = M 158 k) (n1 : 0 ≤ M2 158 45 ∧ M2 158 45 ≤ 16) (n2 : 0 ≤ M2 158 46 ∧ M2 158 46 ≤ 16) (n3 : 0 ≤ M2 158 47 ∧ M2 158 47 ≤ 8) (hP : okP (M2 158)) (hD : okDu (M2 158)) (hF : okFe (M2 158))
    (t1 : rRow 12 16 (M2 158 45) (fun i j => M2 158 (63 + 3 * i + j) - (if j = 1 then 7 else 0)) 3 M2) (t2 : rRow 14 16 (M2 158 46) (fun i j => M2 158 (111 + 3 * i + j)) 3 M2) (t3 : rRow 16 8 (M2 158 47) (fun i j => M2 158 (159 + 2 * i + j)) 2 M2) (hR : iRing M2) : Inv L Lk M2 := by
  refine Inv_X hI f ?_ hR
  have g := f.1
  unfold tq at g
  obtain ⟨⟨k1, k2, ⟨⟨w1, w2, w3, w4⟩, wb⟩, k4, k5⟩, -⟩ := hI
  have hW : okW (M2 158) := by
    unfold okW at k1 ⊢
    obtain ⟨h1, h2, h3, h4, h5, h6, h7, h8, h9, h10, h11, h12, h13, h14⟩ := k1
    rw [hv 8 (by omega), hv 0 (by omega), hv 1 (by omega), hv 41 (by omega), hv 4 (by omega), hv 5 (by omega), hv 6 (by omega), hv 42 (by omega), hv 43 (by omega)]
    exact ⟨okA_V h1 (hv 10 (by omega)) (hv 41 (by omega)), h2, h3, h4, h5, h6, h7, h8, h9, h9', fun i hi => by rw [hv (53 + i) (by omega)]; exact h11 i hi, fun i hi => by rw [hv (11 + i) (by omega)]; exact h12 i hi, fun i hi => by rw [hv (21 + i) (by omega)]; exact h13 i hi, fun i hi => by rw [hv (31 + i) (by omega)]; exact h14 i hi⟩
  have hwd : rWd 2 (M2 158) M2 := by
    obtain ⟨h1, h2, h3, h4, h5, h6, h7, h8, h9, h10, h11, h12, h13, h14, h15, h16, h17⟩ := w1
    refine ⟨?_, ?_, ?_, ?_, ?_, ?_, ?_, ?_, ?_, ?_, ?_, ?_, by assumption, fun i hi => ?_, fun i hi => ?_, fun i hi => ?_, fun i hi => ?_⟩
    · rw [f2 _ (by omega), hv _ (by omega)]; exact h1
    · rw [f2 _ (by omega), hv _ (by omega)]; exact h2
    · rw [f2 _ (by omega), hv _ (by omega)]; exact h3
    · rw [f2 _ (by omega), hv _ (by omega)]; exact h4
    · rw [f2 _ (by omega), hv _ (by omega)]; exact h5
    · rw [f2 _ (by omega), hv _ (by omega)]; exact h6
    · rw [f2 _ (by omega), hv _ (by omega)]; exact h7
    · rw [f2 _ (by omega), hv _ (by omega)]; exact h8
    · rw [f2 _ (by omega), hv _ (by omega)]; exact h9
    · rw [f2 _ (by omega), hv _ (by omega)]; exact h10
    · rw [f2 _ (by omega), hv _ (by omega)]; exact h11
    · rw [f2 _ (by omega), hv _ (by omega)]; exact h12
    · rw [g _ (by omega), hv _ (by omega)]; exact h14 i hi
    · rw [g _ (by omega), hv _ (by omega)]; exact h15 i hi
    · rw [g _ (by omega), hv _ (by omega)]; exact h16 i hi
    · rw [g _ (by omega), hv _ (by omega)]; exact h17 i hi
  obtain ⟨-, -, -, q4, q5, q6, q7, q8⟩ := w2
  obtain ⟨-, -, -, m4, m5, m6, m7, m8⟩ := k2.1
  refine ⟨hW, okT_R k2 (fun k hk => hv k (by omega)) n1 n2 n3 hP hD hF, ⟨⟨hwd, ⟨t1, t2, t3, ?_, ?_, ?_, ?_, ?_⟩, rLaw_fr w3 fun k _ _ _ => ?_, ?_⟩, fun _ => ?_⟩, vLaw_V k4 fun k hk => hv k (by omega), k5⟩
  · exact rRow_V (rRow_fr q4 fun k _ _ => g k (by omega)) (hv 48 (by omega)) fun i j _ _ => hv _ (by omega)
  · exact rRow_V (rRow_fr q5 fun k _ _ => g k (by omega)) (hv 49 (by omega)) fun i j _ _ => hv _ (by omega)
  · exact rRow_V (rRow_fr q6 fun k _ _ => g k (by omega)) (hv 50 (by omega)) fun i j _ _ => hv _ (by omega)
  · exact rRow_V (rRow_fr q7 fun k _ _ => g k (by omega)) (hv 51 (by omega)) fun i j _ _ => hv _ (by omega)
  · exact rRow_V (rRow_fr q8 fun k _ _ => g k (by omega)) (hv 52 (by omega)) fun i j _ _ => hv _ (by omega)
  · exact f7 k (by omega) (by omega) (by omega)
  · rw [g (1 + 17) (by omega)]; exact w4
  · exact rRow_V (rRow_fr (wb rfl) fun k _ _ => g k (by omega)) (hv 8 (by omega)) fun i j _ _ => hv _ (by omega)
/-- a law told -/
theorem Inv_Lw {L Lk L' : aLaw} {M M2 : aM} (hI : Inv L Lk M) (f : tKp M M2) (g : ∀ k, k = 2 ∨ (12 ≤ k ∧ k < 18) ∨ k = 94 → M2 k = M k) (h4 : M2 157 4 = M 157 4) (hv : ∀ k, k < 44 ∨ (45 ≤ k ∧ k < 884) → M2 158 k = M 158 k) (hr : rLaw 7 L' M2) (hl : vLaw L' (M2 158)) (hok : okLaw L') : Inv L' Lk M2 := by
  have g0 := f.1
  unfold tq at g0
  have hR : iRing M2 := iRing_V hI.2.2.2.1 (g 94 (by omega)) h4 (g0 96 (by omega)) (g0 160 (by omega)) (fun k hk => hv k (by omega)) fun k _ _ => g0 k (by omega)
  refine Inv_X hI f ?_ hR
  have gg : ∀ k, 1 < k → k < 30 → ¬ (7 ≤ k ∧ k < 12) → M2 k = M k := fun k a b c => by
    by_cases e : k = 2 ∨ (12 ≤ k ∧ k < 18) ∨ k = 94
    · exact g k e
    · exact g0 k (by omega)
  obtain ⟨⟨k1, k2, ⟨⟨w1, w2, w3, w4⟩, wb⟩, k4, k5⟩, -⟩ := hI
  have n8 : M 158 8 ≤ 150 := k1.2.1.2
  refine ⟨okW_V k1 fun k hk _ => hv k (by omega), okT_V k2 (by rw [hv 41 (by omega)]; exact Int.le_refl _) fun k hk => hv k (by omega), ⟨⟨rWd_V (rWd_fr w1 fun k _ _ => gg k (by omega) (by omega) (by omega)) fun k _ _ _ => hv k (by omega), rTl_V (rTl_fr w2 fun k _ _ => gg k (by omega) (by omega) (by omega)) k2.1 fun k _ _ _ => hv k (by omega), hr, ?_⟩, fun _ => ?_⟩, hl, hok⟩
  · rw [gg (1 + 17) (by omega) (by omega) (by omega)]; exact w4
  · exact rRow_V (rRow_fr (wb rfl) fun k _ _ => gg k (by omega) (by omega) (by omega)) (hv 8 (by omega)) fun i j _ _ => hv _ (by omega)
/-- no text -/
theorem Inv_No {L Lk : aLaw} {M M2 : aM} (hI : Inv L Lk M) (f : tKp M M2) (g : ∀ k, k = 2 ∨ (7 ≤ k ∧ k < 18) ∨ k = 94 ∨ k = 158 → M2 k = M k) (h4 : M2 157 4 = M 157 4) : Inv L Lk M2 := by
  have g0 := f.1
  unfold tq at g0
  have hR : iRing M2 := iRing_V hI.2.2.2.1 (g 94 (by omega)) h4 (g0 96 (by omega)) (g0 160 (by omega)) (fun k hk => by rw [g 158 (by omega)]) fun k _ _ => g0 k (by omega)
  refine Inv_X hI f (iNow_ag hI.1 (g 158 (by omega)) fun k a b _ => ?_) hR
  by_cases e : k = 2 ∨ (7 ≤ k ∧ k < 18) ∨ k = 94 ∨ k = 158
  · exact g k e
  · exact g0 k (by omega)
