/-! works: whose turn it is -/
noncomputable def hlA (V : aW) (j : Nat) : Bool := al V j
/-- the herd by turns, from the deer b on -/
noncomputable def hl (V : aW) (n b : Nat) : List Nat := (List.range' b (n - b) ++ List.range' 0 b).filter (hlA V)
theorem rot10 : ∀ b, b < 10 → (List.range' 0 10).map (fun i => (b + i) % 10) = List.range' b (10 - b) ++ List.range' 0 b := by decide
theorem rotn : ∀ n, n ≤ 10 → ∀ b, b < n → (List.range' 0 n).map (fun i => (b + i) % n) = List.range' b (n - b) ++ List.range' 0 b := by decide
theorem hl_10 {V : aW} {n b : Nat} (hn : V 41 = n) (h10 : n ≤ 10) (hb : b < n) : ((List.range' 0 10).map (fun i => (b + i) % 10)).filter (hlA V) = hl V n b := by
  rw [rot10 b (by omega)]
  unfold hl
  have e : List.range' b (10 - b) = List.range' b (n - b) ++ List.range' n (10 - n) := by
    have := List.range'_append_1 (s := b) (m := n - b) (n := 10 - n)
    rw [show b + (n - b) = n by omega, show (n - b) + (10 - n) = 10 - b by omega] at this
    exact this.symm
  have z : (List.range' n (10 - n)).filter (hlA V) = [] := by
    rw [List.filter_eq_nil_iff]
    intro a ha
    rw [List.mem_range'_1] at ha
    unfold hlA
    rw [al_hi hn ha.1]
    decide
  rw [e, List.filter_append, List.filter_append, List.filter_append, z, List.append_nil]
theorem hl_n {V : aW} {n b : Nat} (h10 : n ≤ 10) (hb : b < n) : ((List.range' 0 n).map (fun i => (b + i) % n)).filter (hlA V) = hl V n b := by
  rw [rotn n h10 b hb]; rfl
theorem hl_mem {V : aW} {n b j : Nat} (h : j ∈ hl V n b) : al V j = true := (List.mem_filter.mp h).2
noncomputable def mxL (V : aW) (L : aLaw) : List Nat → Int
  | [] => 0
  | j :: l => imax (long V L j) (mxL V L l)
/-- the row of turns begins with this list -/
def holdL (A : Nat → Int) : Nat → List Nat → Prop
  | _, [] => True
  | k, j :: l => A k = j ∧ holdL A (k + 1) l
theorem holdL_up {A B : Nat → Int} : ∀ (l : List Nat) (k : Nat), holdL A k l → (∀ i, k ≤ i → i < k + l.length → B i = A i) → holdL B k l
  | [], _, _, _ => trivial
  | j :: l, k, h, e => ⟨(e k (by omega) (by simp)).trans h.1, holdL_up l (k + 1) h.2 fun i a b => e i (by omega) (by simp; omega)⟩
theorem holdL_snoc {A B : Nat → Int} {j : Nat} : ∀ (l : List Nat) (k : Nat), holdL A k l → (∀ i, k ≤ i → i < k + l.length → B i = A i) → B (k + l.length) = j → holdL B k (l ++ [j])
  | [], k, _, _, hj => ⟨by simpa using hj, trivial⟩
  | x :: l, k, h, e, hj => ⟨(e k (by omega) (by simp)).trans h.1, holdL_snoc l (k + 1) h.2 (fun i a b => e i (by omega) (by simp; omega)) (by rw [show k + 1 + l.length = k + (x :: l).length by simp; omega]; exact hj)⟩
theorem long_in (V : aW) (L : aLaw) (k : Nat) : 0 ≤ long V L k ∧ long V L k ≤ 24 := cl_in (by decide)
theorem filter_len (V : aW) (f : Nat → Nat) : ∀ g i, (((List.range' i g).map f).filter (hlA V)).length ≤ g := by
  intro g i
  exact Nat.le_trans (List.length_filter_le _ _) (by simp)
/-! in the class -/
theorem lab_turns_lp (d : Nat) (V : aW) (L : aLaw) (n b : Nat) (hok : okLaw L) (hn : V 41 = n) (h10 : n ≤ 10) (hb : b < n) (Q : List aV → aM → Prop) : ∀ (f i : Nat) (P : List Nat) (mx : Int) (M : aM), i + f = 10 → P.length ≤ i → rWd 2 V M → rLaw 7 L M → M 146 3 = P.length → holdL (M 147) 0 P → (∀ k, (h : k < P.length) → M 148 k = long V L (P[k]'h)) → (0 ≤ mx ∧ mx ≤ 24) →
    (∀ M' P' mx', P' = P ++ ((List.range' i f).map (fun i => (b + i) % 10)).filter (hlA V) → fr [9, 30, 146, 147, 148] M M' → M' 146 3 = P'.length → holdL (M' 147) 0 P' → (∀ k, (h : k < P'.length) → M' 148 k = long V L (P'[k]'h)) → mx' = imax mx (mxL V L (((List.range' i f).map (fun i => (b + i) % 10)).filter (hlA V))) → wp (w_labour_takeTurns_110 (d + 6) 1 mx' 0 M') Q) →
    wp (w_labour_takeTurns_15 (d + 6) 1 b mx i M) Q
  | 0, i, P, mx, M, hi, hP, hw, hL, h3, h47, h48, hmx, hQ => by
    rw [l_labour_takeTurns_15]
    refine wp_neg (by omega) ?_
    refine hQ M P mx (by simp) (fr_refl _ _) h3 h47 h48 ?_
    simp only [List.range'_zero, List.map_nil, List.filter_nil, mxL]
    unfold imax; split <;> omega
  | f + 1, i, P, mx, M, hi, hP, hw, hL, h3, h47, h48, hmx, hQ => by
    have e5 : w32 ((i : Int) + 1) = ((i + 1 : Nat) : Int) := by rw [w32_i (by omega) (by omega)]; rfl
    have e6 : w32 ((b : Int) + i) = ((b + i : Nat) : Int) := by rw [w32_i (by omega) (by omega)]; omega
    rw [l_labour_takeTurns_15, e6]
    refine wp_pos (by omega) ?_
    refine wp_neg (by omega) ?_
    refine wp_eI (floorMod_eq _ (b + i) 10 M (by omega) (by omega) (by omega)) ?_
    have hj : (b + i) % 10 < 10 := Nat.mod_lt _ (by omega)
    have er : (List.range' i (f + 1)).map (fun i => (b + i) % 10) = (b + i) % 10 :: (List.range' (i + 1) f).map (fun i => (b + i) % 10) := rfl
    generalize hjj : (b + i) % 10 = j at *
    refine wp_eI (wood_isAlive_eq _ (1 + 1) j V M hw (by omega)) ?_
    refine wp_bif (fun hal => ?_) (fun hal => ?_)
    · refine wp_I ?_
      rw [e5]
      refine lab_turns_lp d V L n b hok hn h10 hb Q f (i + 1) P mx M (by omega) (by omega) hw hL h3 h47 h48 hmx ?_
      have ef : ((List.range' i (f + 1)).map (fun i => (b + i) % 10)).filter (hlA V) = ((List.range' (i + 1) f).map (fun i => (b + i) % 10)).filter (hlA V) := by
        rw [er, List.filter_cons_of_neg (by unfold hlA; rw [hal]; decide)]
      intro M' P' mx' q1
      rw [← ef] at q1
      intro q2 q3 q4 q5 q6
      rw [← ef] at q6
      exact hQ M' P' mx' q1 q2 q3 q4 q5 q6
    · have hlt := al_lt hal
      have hlo := long_in V L j
      rw [h3, al147, al148]
      refine wp_inb ⟨by omega, by omega⟩ ?_
      rw [tn_n]
      refine wp_up fun M1 f1 g1 => ?_
      refine wp_fI (world_asked_eq _ 1 V L 1 j M1 isWo1 (rWd_fr hw fun k _ _ => f1 k (by simp; omega)) (rLaw_fr hL fun k _ _ _ => f1 k (by simp; omega)) hok (by omega) hlt.2) fun M2 f2 => ?_
      rw [asked_long, f1 146 (by simp), h3]
      refine wp_inb ⟨by omega, by omega⟩ ?_
      rw [tn_n]
      refine wp_up fun M3 f3 g3 => ?_
      have e146 : M3 146 3 = P.length := by rw [f3 146 (by simp), f2 146 (by simp), f1 146 (by simp), h3]
      rw [e146]
      refine wp_inb ⟨by omega, by omega⟩ ?_
      refine wp_I ?_
      rw [tn_n, g3, if_pos rfl, w32_i (by omega) (by omega)]
      refine wp_up fun M4 f4 g4 => ?_
      refine wp_I ?_
      rw [e5]
      have fA : fr [9, 30, 146, 147, 148] M M4 := fr_tr (fr_tr f1 f2 (l := [9, 30, 147]) (by simp) (by simp)) (fr_tr f3 f4 (l := [146, 148]) (by simp) (by simp)) (by simp) (by simp)
      have ef : ((List.range' i (f + 1)).map (fun i => (b + i) % 10)).filter (hlA V) = j :: ((List.range' (i + 1) f).map (fun i => (b + i) % 10)).filter (hlA V) := by
        rw [er, List.filter_cons_of_pos (by unfold hlA; exact hal)]
      refine lab_turns_lp d V L n b hok hn h10 hb Q f (i + 1) (P ++ [j]) (imax mx (long V L j)) M4 (by omega) (by simp; omega) (rWd_fr hw fun k _ _ => fA k (by simp; omega)) (rLaw_fr hL fun k _ _ _ => fA k (by simp; omega)) (by rw [g4, if_pos rfl]; simp) ?_ ?_ (by unfold imax; split <;> omega) ?_
      · refine holdL_snoc P 0 h47 (fun k _ hk => ?_) ?_
        · rw [f4 147 (by simp), f3 147 (by simp), f2 147 (by simp), g1, if_neg (by omega)]
        · rw [f4 147 (by simp), f3 147 (by simp), f2 147 (by simp), g1, if_pos (by omega)]
      · intro k hk
        rw [f4 148 (by simp), g3]
        by_cases e : k = P.length
        · subst e; rw [if_pos rfl]; simp
        · have hk2 : k < P.length := by simp at hk; omega
          rw [if_neg e, f2 148 (by simp), f1 148 (by simp), h48 k hk2, List.getElem_append_left hk2]
      · intro M' P' mx' q1 q2 q3 q4 q5 q6
        refine hQ M' P' mx' (by rw [q1, ef]; simp) (fr_tt fA q2) q3 q4 q5 ?_
        rw [q6, ef]
        simp only [mxL]
        have : ∀ x y z : Int, imax (imax x y) z = imax x (imax y z) := by
          intro x y z; unfold imax; repeat' split
          all_goals omega
        rw [this]
