/-! What was done, to be undone. -/
theorem floorMod_eq (d a m : Nat) (M : aM) (ha : a < 2147483648) (hm : 0 < m) (hm2 : m < 2147483648) : w_jm_floorMod (d + 1) a m M = some ([aI ((a % m : Nat) : Int)], M) := by
  have hx : ixor (a : Int) m = ((a ^^^ m : Nat) : Int) := ixor_nat ha hm2
  rw [u_jm_floorMod, if_neg (by omega), irem_nn (by omega) (by omega) (by omega) (by omega), hx]
  simp only
  rw [if_neg (by omega)]
  rfl
theorem wood_copy_eq (d b c : Nat) (V : aW) (M : aM) (h : rWd c V M) (hs : b + 5 ≤ c ∨ c + 5 ≤ b) (l : ∀ k, k = b ∨ k = c → aLen (k + 1) = 10 ∧ aLen (k + 2) = 10 ∧ aLen (k + 3) = 10 ∧ aLen (k + 4) = 10) :
    wp (w_wood_copyFrom (d + 1) b c M) fun r M' => r = [] ∧ rWd b V M' ∧ fr [b, b + 1, b + 2, b + 3, b + 4] M M' := by
  obtain ⟨a1, a2, a3, a4⟩ := l b (Or.inl rfl)
  obtain ⟨c1, c2, c3, c4⟩ := l c (Or.inr rfl)
  obtain ⟨h1, h2, h3, h4, h5, h6, h7, h8, h9, h10, h11, h12, h13, h14, h15, h16, h17⟩ := h
  rw [l_wood_copyFrom, a1, a2, a3, a4, c1, c2, c3, c4]
  have hc : ∀ (M : aM) (s t : Nat), fr [t] M (aCpy M s t 0 0 10) := fun M s t k hk => aCpy_ne (by simpa using hk)
  have hg : ∀ (M : aM) (s t : Nat), ∀ i, i < 10 → aCpy M s t 0 0 10 t i = M s i := fun M s t i hi => by rw [aCpy_eq, if_pos (by omega)]; simp
  refine wp_som (by omega) ?_
  refine wp_M fun M1 e1 => ?_
  refine wp_som (by omega) ?_
  refine wp_M fun M2 e2 => ?_
  refine wp_som (by omega) ?_
  refine wp_M fun M3 e3 => ?_
  refine wp_som (by omega) ?_
  refine wp_M fun M4 e4 => ?_
  have f1 : fr [b + 1] M M1 := e1 ▸ hc M _ _
  have f2 : fr [b + 2] M1 M2 := e2 ▸ hc M1 _ _
  have f3 : fr [b + 3] M2 M3 := e3 ▸ hc M2 _ _
  have f4 : fr [b + 4] M3 M4 := e4 ▸ hc M3 _ _
  have g1 : ∀ i, i < 10 → M1 (b + 1) i = M (c + 1) i := e1 ▸ hg M _ _
  have g2 : ∀ i, i < 10 → M2 (b + 2) i = M1 (c + 2) i := e2 ▸ hg M1 _ _
  have g3 : ∀ i, i < 10 → M3 (b + 3) i = M2 (c + 3) i := e3 ▸ hg M2 _ _
  have g4 : ∀ i, i < 10 → M4 (b + 4) i = M3 (c + 4) i := e4 ▸ hg M3 _ _
  have fc : ∀ k, c ≤ k → k < c + 5 → M1 k = M k ∧ M2 k = M k ∧ M3 k = M k ∧ M4 k = M k := fun k x y => by
    have q1 := f1 k (by simp; omega)
    have q2 := f2 k (by simp; omega)
    have q3 := f3 k (by simp; omega)
    have q4 := f4 k (by simp; omega)
    exact ⟨q1, q2.trans q1, q3.trans (q2.trans q1), q4.trans (q3.trans (q2.trans q1))⟩
  refine wp_up fun N1 n1 m1 => ?_
  refine wp_up fun N2 n2 m2 => ?_
  refine wp_up fun N3 n3 m3 => ?_
  refine wp_up fun N4 n4 m4 => ?_
  refine wp_up fun N5 n5 m5 => ?_
  refine wp_up fun N6 n6 m6 => ?_
  refine wp_up fun N7 n7 m7 => ?_
  refine wp_up fun N8 n8 m8 => ?_
  refine wp_up fun N9 n9 m9 => ?_
  refine wp_up fun N10 n10 m10 => ?_
  refine wp_up fun N11 n11 m11 => ?_
  refine wp_up fun N12 n12 m12 => ?_
  refine wp_up fun N13 n13 m13 => ?_
  have cb : c ∉ [b] := by simp; omega
  have k1 := (n1 c cb).trans (fc c (by omega) (by omega)).2.2.2
  have k2 := (n2 c cb).trans k1
  have k3 := (n3 c cb).trans k2
  have k4 := (n4 c cb).trans k3
  have k5 := (n5 c cb).trans k4
  have k6 := (n6 c cb).trans k5
  have k7 := (n7 c cb).trans k6
  have k8 := (n8 c cb).trans k7
  have k9 := (n9 c cb).trans k8
  have k10 := (n10 c cb).trans k9
  have k11 := (n11 c cb).trans k10
  have k12 := (n12 c cb).trans k11
  rw [(fc c (by omega) (by omega)).2.2.2, h1] at m1
  rw [k1, h2] at m2
  rw [k2, h3] at m3
  rw [k3, h4] at m4
  rw [k4, h5] at m5
  rw [k5, h6] at m6
  rw [k6, h7] at m7
  rw [k7, h8] at m8
  rw [k8, h9] at m9
  rw [k9, h10] at m10
  rw [k10, h11] at m11
  rw [k11, h12] at m12
  rw [k12, h13] at m13
  have nn : fr [b] M4 N13 := fr_tt n1 (fr_tt n2 (fr_tt n3 (fr_tt n4 (fr_tt n5 (fr_tt n6 (fr_tt n7 (fr_tt n8 (fr_tt n9 (fr_tt n10 (fr_tt n11 (fr_tt n12 n13)))))))))))
  refine wp_ret ⟨rfl, ?_, ?_⟩
  · unfold rWd
    refine ⟨?_, ?_, ?_, ?_, ?_, ?_, ?_, ?_, ?_, ?_, ?_, ?_, ?_, fun i hi => ?_, fun i hi => ?_, fun i hi => ?_, fun i hi => ?_⟩
    · rw [m13, if_neg (by decide), m12, if_neg (by decide), m11, if_neg (by decide), m10, if_neg (by decide), m9, if_neg (by decide), m8, if_neg (by decide), m7, if_neg (by decide), m6, if_neg (by decide), m5, if_neg (by decide), m4, if_neg (by decide), m3, if_neg (by decide), m2, if_neg (by decide), m1, if_pos rfl]
    · rw [m13, if_neg (by decide), m12, if_neg (by decide), m11, if_neg (by decide), m10, if_neg (by decide), m9, if_neg (by decide), m8, if_neg (by decide), m7, if_neg (by decide), m6, if_neg (by decide), m5, if_neg (by decide), m4, if_neg (by decide), m3, if_neg (by decide), m2, if_pos rfl]
    · rw [m13, if_neg (by decide), m12, if_neg (by decide), m11, if_neg (by decide), m10, if_neg (by decide), m9, if_neg (by decide), m8, if_neg (by decide), m7, if_neg (by decide), m6, if_neg (by decide), m5, if_neg (by decide), m4, if_neg (by decide), m3, if_pos rfl]
    · rw [m13, if_neg (by decide), m12, if_neg (by decide), m11, if_neg (by decide), m10, if_neg (by decide), m9, if_neg (by decide), m8, if_neg (by decide), m7, if_neg (by decide), m6, if_neg (by decide), m5, if_neg (by decide), m4, if_pos rfl]
    · rw [m13, if_neg (by decide), m12, if_neg (by decide), m11, if_neg (by decide), m10, if_neg (by decide), m9, if_neg (by decide), m8, if_neg (by decide), m7, if_neg (by decide), m6, if_neg (by decide), m5, if_pos rfl]
    · rw [m13, if_neg (by decide), m12, if_neg (by decide), m11, if_neg (by decide), m10, if_neg (by decide), m9, if_neg (by decide), m8, if_neg (by decide), m7, if_neg (by decide), m6, if_pos rfl]
    · rw [m13, if_neg (by decide), m12, if_neg (by decide), m11, if_neg (by decide), m10, if_neg (by decide), m9, if_neg (by decide), m8, if_neg (by decide), m7, if_pos rfl]
    · rw [m13, if_neg (by decide), m12, if_neg (by decide), m11, if_neg (by decide), m10, if_neg (by decide), m9, if_neg (by decide), m8, if_pos rfl]
    · rw [m13, if_neg (by decide), m12, if_neg (by decide), m11, if_neg (by decide), m10, if_neg (by decide), m9, if_pos rfl]
    · rw [m13, if_neg (by decide), m12, if_neg (by decide), m11, if_neg (by decide), m10, if_pos rfl]
    · rw [m13, if_neg (by decide), m12, if_neg (by decide), m11, if_pos rfl]
    · rw [m13, if_neg (by decide), m12, if_pos rfl]
    · rw [m13, if_pos rfl]
    · rw [nn _ (by simp), f4 _ (by simp), f3 _ (by simp), f2 _ (by simp), g1 i hi]; exact h14 i hi
    · rw [nn _ (by simp), f4 _ (by simp), f3 _ (by simp), g2 i hi, (fc (c + 2) (by omega) (by omega)).1]; exact h15 i hi
    · rw [nn _ (by simp), f4 _ (by simp), g3 i hi, (fc (c + 3) (by omega) (by omega)).2.1]; exact h16 i hi
    · rw [nn _ (by simp), g4 i hi, (fc (c + 4) (by omega) (by omega)).2.2.1]; exact h17 i hi
  · intro k hk
    simp at hk
    rw [nn k (by simp; omega), f4 k (by simp; omega), f3 k (by simp; omega), f2 k (by simp; omega), f1 k (by simp; omega)]
/-! snapshots, the oldest first -/
def cRing (n : Nat) (S : Nat → aW) (M : aM) : Prop := ∃ f : Nat, f < 6 ∧ M 94 3 = n ∧ M 94 2 = f ∧ ∀ j, j < n → rWd (97 + 5 * ((f + j) % 6)) (S j) M ∧ M 96 ((f + j) % 6) = S j 8
def mRing (n : Nat) (S : Nat → aW) (M : aM) : Prop := M 157 4 = n ∧ ∀ j, j < n → ∀ k, k < 41 → M 160 (41 * j + k) = S j k
def sOk (n : Nat) (S : Nat → aW) (V : aW) : Prop := n ≤ 6 ∧ (∀ j, j < n → okW (S j) ∧ S j 8 ≤ V 8 ∧ ∀ k, (41 ≤ k ∧ k < 44) ∨ (53 ≤ k ∧ k < 63) → S j k = V k) ∧ ∀ i j, i ≤ j → j < n → S i 8 ≤ S j 8
theorem ring_out {M : aM} (h : iRing M) : ∃ n S, cRing n S M ∧ mRing n S M ∧ sOk n S (M 158) := by
  obtain ⟨n, f, a1, a2, a3, a4, a5, a6, a7⟩ := h
  refine ⟨n, bk M, ⟨f, a5, a1, a4, fun j hj => ⟨(a6 j hj).1, (a6 j hj).2.1⟩⟩, ⟨a2, fun j hj k hk => by unfold bk; rw [if_pos hk]⟩, a3, fun j hj => ⟨(a6 j hj).2.2.1, (a6 j hj).2.2.2, fun k hk => by unfold bk; rw [if_neg (by omega)]⟩, a7⟩
theorem ring_in {M : aM} {n : Nat} {S : Nat → aW} (h1 : cRing n S M) (h2 : mRing n S M) (h3 : sOk n S (M 158)) : iRing M := by
  obtain ⟨f, b1, b2, b3, b4⟩ := h1
  obtain ⟨c1, c2⟩ := h2
  obtain ⟨d1, d2, d3⟩ := h3
  have hb : ∀ j, j < n → ∀ k, k < 44 ∨ 53 ≤ k ∧ k < 63 → bk M j k = S j k := by
    intro j hj k hk
    unfold bk
    split
    · next h => exact c2 j hj k h
    · next h => exact ((d2 j hj).2.2 k (by omega)).symm
  refine ⟨n, f, b2, c1, d1, b3, b1, fun j hj => ⟨rWd_V (b4 j hj).1 fun k _ _ _ => hb j hj k (by omega), by rw [hb j hj 8 (by omega)]; exact (b4 j hj).2, okW_V (d2 j hj).1 fun k hk _ => hb j hj k hk, by rw [hb j hj 8 (by omega)]; exact (d2 j hj).2.1⟩, fun i j hi hj => by rw [hb i (by omega) 8 (by omega), hb j hj 8 (by omega)]; exact d3 i j hi hj⟩
def puN (n : Nat) : Nat := if n = 6 then 6 else n + 1
def puS (n : Nat) (S : Nat → aW) (V : aW) : Nat → aW := fun j => if n = 6 then (if j < 5 then S (j + 1) else V) else (if j < n then S j else V)
theorem puS_6 {n : Nat} {S : Nat → aW} {V : aW} (h : n = 6) (j : Nat) : puS n S V j = if j < 5 then S (j + 1) else V := by unfold puS; rw [if_pos h]
theorem puS_n {n : Nat} {S : Nat → aW} {V : aW} (h : ¬ n = 6) (j : Nat) : puS n S V j = if j < n then S j else V := by unfold puS; rw [if_neg h]
theorem sOk_push {n : Nat} {S : Nat → aW} {V V' : aW} (h : sOk n S V) (hW : okW V) (h8 : V 8 ≤ V' 8) (hv : ∀ k, (41 ≤ k ∧ k < 44) ∨ (53 ≤ k ∧ k < 63) → V' k = V k) : sOk (puN n) (puS n S V) V' := by
  obtain ⟨d1, d2, d3⟩ := h
  unfold puN
  by_cases h6 : n = 6
  · rw [if_pos h6]
    have q := puS_6 (S := S) (V := V) h6
    refine ⟨by omega, fun j hj => ?_, fun i j hi hj => ?_⟩
    · rw [q j]
      by_cases h5 : j < 5
      · rw [if_pos h5]
        obtain ⟨e1, e2, e3⟩ := d2 (j + 1) (by omega)
        exact ⟨e1, by omega, fun k hk => by rw [hv k hk]; exact e3 k hk⟩
      · rw [if_neg h5]
        exact ⟨hW, h8, fun k hk => (hv k hk).symm⟩
    · rw [q i, q j]
      by_cases h5 : j < 5
      · rw [if_pos h5, if_pos (by omega)]
        exact d3 (i + 1) (j + 1) (by omega) (by omega)
      · rw [if_neg h5]
        by_cases h5' : i < 5
        · rw [if_pos h5']; exact (d2 (i + 1) (by omega)).2.1
        · rw [if_neg h5']; exact Int.le_refl _
  · rw [if_neg h6]
    have q := puS_n (S := S) (V := V) h6
    refine ⟨by omega, fun j hj => ?_, fun i j hi hj => ?_⟩
    · rw [q j]
      by_cases h5 : j < n
      · rw [if_pos h5]
        obtain ⟨e1, e2, e3⟩ := d2 j h5
        exact ⟨e1, by omega, fun k hk => by rw [hv k hk]; exact e3 k hk⟩
      · rw [if_neg h5]
        exact ⟨hW, h8, fun k hk => (hv k hk).symm⟩
    · rw [q i, q j]
      by_cases h5 : j < n
      · rw [if_pos h5, if_pos (by omega)]
        exact d3 i j hi h5
      · rw [if_neg h5]
        by_cases h5' : i < n
        · rw [if_pos h5']; exact (d2 i h5').2.1
        · rw [if_neg h5']; exact Int.le_refl _
theorem slot_lens {s : Nat} (h : s < 6) : aLen (97 + 5 * s + 1) = 10 ∧ aLen (97 + 5 * s + 2) = 10 ∧ aLen (97 + 5 * s + 3) = 10 ∧ aLen (97 + 5 * s + 4) = 10 := by
  have : s = 0 ∨ s = 1 ∨ s = 2 ∨ s = 3 ∨ s = 4 ∨ s = 5 := by omega
  rcases this with rfl | rfl | rfl | rfl | rfl | rfl <;> exact ⟨rfl, rfl, rfl, rfl⟩
theorem acts_keep_eq (d n : Nat) (S : Nat → aW) (V : aW) (L : aLaw) (M : aM) (hw : rW true 1 V L M) (hr : cRing n S M) (hn : n ≤ 6) :
    wp (w_acts_keep (d + 2) 1 M) fun r M' => r = [] ∧ cRing (puN n) (puS n S V) M' ∧ (∀ k, k < 94 ∨ 127 ≤ k → M' k = M k) := by
  obtain ⟨f, b1, b2, b3, b4⟩ := hr
  rw [l_acts_keep, b2, b3]
  have e1 : w32 ((f : Int) + n) = ((f + n : Nat) : Int) := by rw [w32_i (by omega) (by omega)]; omega
  rw [e1]
  refine wp_eI (floorMod_eq _ (f + n) 6 M (by omega) (by omega) (by omega)) ?_
  have hs : (f + n) % 6 < 6 := Nat.mod_lt _ (by omega)
  rw [al95, al96]
  refine wp_inb ⟨by omega, by omega⟩ ?_
  rw [tn_n]
  refine wp_bV (wood_copy_eq _ (97 + 5 * ((f + n) % 6)) (1 + 1) V M (rW_wd hw) (by omega) (fun k hk => by
    rcases hk with rfl | rfl
    · exact slot_lens hs
    · exact ⟨rfl, rfl, rfl, rfl⟩)) ?_
  rintro M1 ⟨w1, f1⟩
  refine wp_inb ⟨by omega, by omega⟩ ?_
  have e18 : M1 (1 + 17) 2 = V 8 := by rw [f1 _ (by simp; omega)]; exact (hw.2 rfl).2.1
  rw [e18]
  refine wp_up fun M2 f2 g2 => ?_
  have e943 : M2 94 3 = n := by rw [f2 _ (by simp), f1 _ (by simp; omega), b2]
  have e942 : M2 94 2 = f := by rw [f2 _ (by simp), f1 _ (by simp; omega), b3]
  rw [e943, e942]
  have fr2 : ∀ k, k < 94 ∨ 127 ≤ k → M2 k = M k := fun k hk => by rw [f2 k (by simp; omega), f1 k (by simp; omega)]
  refine wp_if (fun h => ?_) (fun h => ?_)
  · rw [w32_i (by omega) (by omega)]
    refine wp_up fun M3 f3 g3 => ?_
    refine wp_ret ⟨rfl, ⟨f, b1, ?_, ?_, fun j hj => ?_⟩, fun k hk => by rw [f3 k (by simp; omega)]; exact fr2 k hk⟩
    · rw [g3, if_pos rfl]; unfold puN; rw [if_neg (by omega)]; rfl
    · rw [g3, if_neg (by omega), e942]
    · unfold puN at hj
      rw [if_neg (by omega)] at hj
      unfold puS
      rw [if_neg (by omega)]
      have hsj : (f + j) % 6 < 6 := Nat.mod_lt _ (by omega)
      by_cases hjn : j < n
      · rw [if_pos hjn]
        obtain ⟨p1, p2⟩ := b4 j hjn
        have hne : (f + j) % 6 ≠ (f + n) % 6 := by omega
        refine ⟨rWd_fr p1 fun k _ _ => ?_, ?_⟩
        · rw [f3 k (by simp; omega), f2 k (by simp; omega), f1 k (by simp; omega)]
        · rw [f3 _ (by simp), g2, if_neg hne, f1 _ (by simp; omega), p2]
      · rw [if_neg hjn, show j = n by omega]
        refine ⟨rWd_fr w1 fun k _ _ => ?_, ?_⟩
        · rw [f3 k (by simp; omega), f2 k (by simp; omega)]
        · rw [f3 _ (by simp), g2, if_pos rfl]
  · have h6 : n = 6 := by omega
    subst h6
    have e2 : w32 ((f : Int) + 1) = ((f + 1 : Nat) : Int) := by rw [w32_i (by omega) (by omega)]; omega
    rw [e2]
    refine wp_eI (floorMod_eq _ (f + 1) 6 M2 (by omega) (by omega) (by omega)) ?_
    refine wp_up fun M3 f3 g3 => ?_
    refine wp_ret ⟨rfl, ⟨(f + 1) % 6, Nat.mod_lt _ (by omega), ?_, ?_, fun j hj => ?_⟩, fun k hk => by rw [f3 k (by simp; omega)]; exact fr2 k hk⟩
    · rw [g3, if_neg (by omega), e943]; rfl
    · rw [g3, if_pos rfl]
    · have hj : j < 6 := hj
      unfold puS
      rw [if_pos rfl]
      have hsj : ((f + 1) % 6 + j) % 6 < 6 := Nat.mod_lt _ (by omega)
      by_cases hjn : j < 5
      · rw [if_pos hjn]
        obtain ⟨p1, p2⟩ := b4 (j + 1) (by omega)
        have hsame : ((f + 1) % 6 + j) % 6 = (f + (j + 1)) % 6 := by omega
        rw [hsame]
        have hne : (f + (j + 1)) % 6 ≠ (f + 6) % 6 := by omega
        have hs2 : (f + (j + 1)) % 6 < 6 := Nat.mod_lt _ (by omega)
        refine ⟨rWd_fr p1 fun k _ _ => ?_, ?_⟩
        · rw [f3 k (by simp; omega), f2 k (by simp; omega), f1 k (by simp; omega)]
        · rw [f3 _ (by simp), g2, if_neg hne, f1 _ (by simp; omega), p2]
      · have hsame : ((f + 1) % 6 + j) % 6 = (f + 6) % 6 := by omega
        rw [if_neg hjn, hsame]
        refine ⟨rWd_fr w1 fun k _ _ => ?_, ?_⟩
        · rw [f3 k (by simp; omega), f2 k (by simp; omega)]
        · rw [f3 _ (by simp), g2, if_pos rfl]
