/-! What holds behind a way: the rules, one for each head. -/
def wp (x : aR) (Q : List aV → aM → Prop) : Prop := ∃ r M, x = some (r, M) ∧ Q r M
theorem wp_ret {r : List aV} {M : aM} {Q : List aV → aM → Prop} (h : Q r M) : wp (some (r, M)) Q := ⟨r, M, rfl, h⟩
theorem wp_inb {i : Int} {n : Nat} {k : aR} {Q : List aV → aM → Prop} (h : 0 ≤ i ∧ i < n) (hk : wp k Q) : wp (inb i n k) Q := by rw [inb_s h.1 h.2]; exact hk
theorem wp_if {c : Prop} [hc : Decidable c] {x y : aR} {Q : List aV → aM → Prop} (h1 : c → wp x Q) (h2 : ¬ c → wp y Q) : wp (@ite aR c hc x y) Q := by
  by_cases h : c
  · rw [if_pos h]; exact h1 h
  · rw [if_neg h]; exact h2 h
theorem wp_pos {c : Prop} [hc : Decidable c] {x y : aR} {Q : List aV → aM → Prop} (h : c) (h1 : wp x Q) : wp (@ite aR c hc x y) Q := by rw [if_pos h]; exact h1
theorem wp_neg {c : Prop} [hc : Decidable c] {x y : aR} {Q : List aV → aM → Prop} (h : ¬ c) (h1 : wp y Q) : wp (@ite aR c hc x y) Q := by rw [if_neg h]; exact h1
theorem wp_none {c : Prop} [hc : Decidable c] {x : aR} {Q : List aV → aM → Prop} (h : ¬ c) (h1 : wp x Q) : wp (@ite aR c hc none x) Q := by rw [if_neg h]; exact h1
theorem wp_som {c : Prop} [hc : Decidable c] {x : aR} {Q : List aV → aM → Prop} (h : c) (h1 : wp x Q) : wp (@ite aR c hc x none) Q := by rw [if_pos h]; exact h1
theorem wp_mono {x : aR} {P Q : List aV → aM → Prop} (h : wp x P) (hi : ∀ r M, P r M → Q r M) : wp x Q := by
  obtain ⟨r, M, e, p⟩ := h; exact ⟨r, M, e, hi r M p⟩
theorem wp_bI {x : aR} {k : Int → aM → aR} {Q : List aV → aM → Prop} {P : Int → aM → Prop} (h : wp x fun r M => ∃ v, r = [aI v] ∧ P v M) (hk : ∀ v M, P v M → wp (k v M) Q) : wp (bndI x k) Q := by
  obtain ⟨r, M, e, v, e2, p⟩ := h; subst e2; rw [e]; exact hk v M p
theorem wp_bJ {x : aR} {k : Int → aM → aR} {Q : List aV → aM → Prop} {P : Int → aM → Prop} (h : wp x fun r M => ∃ v, r = [aJ v] ∧ P v M) (hk : ∀ v M, P v M → wp (k v M) Q) : wp (bndJ x k) Q := by
  obtain ⟨r, M, e, v, e2, p⟩ := h; subst e2; rw [e]; exact hk v M p
theorem wp_bV {x : aR} {k : aM → aR} {Q : List aV → aM → Prop} {P : aM → Prop} (h : wp x fun r M => r = [] ∧ P M) (hk : ∀ M, P M → wp (k M) Q) : wp (bndV x k) Q := by
  obtain ⟨r, M, e, e2, p⟩ := h; subst e2; rw [e]; exact hk M p
theorem wp_eI {x : aR} {v : Int} {M : aM} {k : Int → aM → aR} {Q : List aV → aM → Prop} (e : x = some ([aI v], M)) (hk : wp (k v M) Q) : wp (bndI x k) Q := by rw [e]; exact hk
theorem wp_eJ {x : aR} {v : Int} {M : aM} {k : Int → aM → aR} {Q : List aV → aM → Prop} (e : x = some ([aJ v], M)) (hk : wp (k v M) Q) : wp (bndJ x k) Q := by rw [e]; exact hk
theorem wp_eV {x : aR} {M : aM} {k : aM → aR} {Q : List aV → aM → Prop} (e : x = some ([], M)) (hk : wp (k M) Q) : wp (bndV x k) Q := by rw [e]; exact hk
theorem wp_M {x : aM} {k : aM → aR} {Q : List aV → aM → Prop} (hk : ∀ M, M = x → wp (k M) Q) : wp (aLet x k) Q := hk x rfl
theorem wp_I {x : Int} {k : Int → aR} {Q : List aV → aM → Prop} (hk : wp (k x) Q) : wp (iLet x k) Q := hk
theorem wp_up {M : aM} {a j : Nat} {x : Int} {k : aM → aR} {Q : List aV → aM → Prop} (hk : ∀ M', fr [a] M M' → (∀ i, M' a i = if i = j then x else M a i) → wp (k M') Q) : wp (aLet (aUp M a j x) k) Q :=
  hk _ (fr_up M a j x) (fun i => aUp_same M a j x i)
theorem wp_eq {x : aR} {Q : List aV → aM → Prop} {r : List aV} (h : wp x fun r' M => r' = r ∧ Q r' M) : ∃ M, x = some (r, M) ∧ Q r M := by
  obtain ⟨r', M, e, e2, q⟩ := h; subst e2; exact ⟨M, e, q⟩
theorem w32_i {x : Int} (h1 : -2147483648 ≤ x) (h2 : x < 2147483648) : w32 x = x := w32_id ⟨h1, h2⟩
theorem w64_i {x : Int} (h1 : -9223372036854775808 ≤ x) (h2 : x < 9223372036854775808) : w64 x = x := w64_id ⟨h1, h2⟩
theorem tn_l {a : Int} (h : 0 ≤ a) (d : Nat) : (a + (d : Int)).toNat = a.toNat + d := by omega
theorem tn_n (d : Nat) : ((d : Int)).toNat = d := rfl
theorem tn_r {a : Int} (h : 0 ≤ a) (d : Nat) : ((d : Int) + a).toNat = d + a.toNat := by omega
theorem tn_s {a : Int} (h : 0 ≤ a) (d : Nat) : ((d : Int) - a).toNat = d - a.toNat := by omega
theorem tn_1 (d : Nat) : ((d : Int) + 1).toNat = d + 1 := rfl
theorem fr_tt {l : List Nat} {M M1 M2 : aM} (h1 : fr l M M1) (h2 : fr l M1 M2) : fr l M M2 := fun k h => (h2 k h).trans (h1 k h)
