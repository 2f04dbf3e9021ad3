/-! feed -/
theorem byte_eq (v : Int) (s : Nat) (hs : s = 24 ∨ s = 16 ∨ s = 8 ∨ s = 0) : iand (iushr v s) 255 = iand (ishr v s) 255 := by
  rw [iand_def, iand_def, ← iushr_i32, ← ishr_i32]
  congr 1
  apply Int32.toBitVec_inj.mp
  rw [Int32.toBitVec_and, Int32.toBitVec_and, Int32.toBitVec_shiftRight]
  have e1 : ((Int32.ofInt v).toUInt32 >>> ((Int32.ofInt (s : Int)).toUInt32 &&& Int32.toUInt32 31)).toInt32.toBitVec = (Int32.ofInt v).toBitVec >>> s := by
    show ((Int32.ofInt v).toUInt32 >>> ((Int32.ofInt (s : Int)).toUInt32 &&& Int32.toUInt32 31)).toBitVec = _
    apply BitVec.eq_of_toNat_eq
    show ((Int32.ofInt v).toUInt32 >>> ((Int32.ofInt (s : Int)).toUInt32 &&& Int32.toUInt32 31)).toNat = _
    rw [UInt32.toNat_shiftRight, BitVec.toNat_ushiftRight]
    have : ((Int32.ofInt (s : Int)).toUInt32 &&& Int32.toUInt32 31).toNat % 32 = s := by
      rcases hs with rfl | rfl | rfl | rfl <;> decide
    rw [this]; rfl
  have e2 : (Int32.ofInt v).toBitVec.sshiftRight' ((Int32.ofInt (s : Int) &&& 31).toBitVec.smod 32#32) = (Int32.ofInt v).toBitVec.sshiftRight s := by
    show (Int32.ofInt v).toBitVec.sshiftRight ((Int32.ofInt (s : Int) &&& 31).toBitVec.smod 32#32).toNat = _
    rw [i32_sh s (by omega)]
  rw [e1]
  show _ = (Int32.ofInt v).toBitVec.sshiftRight' ((Int32.ofInt (s : Int) &&& 31).toBitVec.smod 32#32) &&& _
  rw [e2]
  apply BitVec.eq_of_getLsbD_eq
  intro i hi
  rw [BitVec.getLsbD_and, BitVec.getLsbD_and]
  by_cases h8 : i < 8
  · have : (BitVec.sshiftRight (Int32.ofInt v).toBitVec s).getLsbD i = ((Int32.ofInt v).toBitVec >>> s).getLsbD i := by
      rw [BitVec.getLsbD_sshiftRight, BitVec.getLsbD_ushiftRight]
      have h1 : s + i < 32 := by omega
      have h2 : ¬ 32 ≤ i := by omega
      simp [h1, h2]
    rw [this]
  · have : (Int32.ofInt 255).toBitVec.getLsbD i = false := by
      have e : (Int32.ofInt 255).toBitVec = 255#32 := by decide
      rw [e, BitVec.getLsbD_ofNat]
      have : Nat.testBit 255 i = false := Nat.testBit_lt_two_pow (Nat.lt_of_lt_of_le (show 255 < 2 ^ 8 by decide) (Nat.pow_le_pow_right (by omega) (by omega)))
      simp [this]
    rw [this]; simp
theorem byte_in (x : Int) : 0 ≤ iand x 255 ∧ iand x 255 ≤ 255 := by
  have h : (Int32.ofInt x &&& Int32.ofInt 255).toBitVec.toNat ≤ 255 := by
    rw [Int32.toBitVec_and, BitVec.toNat_and]
    exact Nat.le_trans Nat.and_le_right (by decide)
  rw [iand_def, i32_tn _ (by omega)]
  omega
noncomputable def byt (v : Int) (k : Nat) : Int := iand (iushr v ((24 - 8 * k : Nat) : Int)) 255
theorem tape_append_eq (d n : Nat) (v : Int) (M : aM) (h : M 127 5 = n) (hn : n + 4 ≤ 400) :
    wp (w_tape_append (d + 1) v M) fun r M' => r = [] ∧ M' 127 5 = (n + 4 : Nat) ∧ fr [127, 128] M M' ∧ (∀ j, j ≠ 5 → M' 127 j = M 127 j) ∧ ∀ k, M' 128 k = if n ≤ k ∧ k < n + 4 then byt v (k - n) else M 128 k := by
  have lp : ∀ (f i : Nat) (M1 : aM), i + f = 4 → M1 127 5 = (n + i : Nat) → fr [127, 128] M M1 → (∀ j, j ≠ 5 → M1 127 j = M 127 j) → (∀ k, M1 128 k = if n ≤ k ∧ k < n + i then byt v (k - n) else M 128 k) → wp (w_tape_append_3 d v (24 - 8 * (i : Int)) M1) fun r M' => r = [] ∧ M' 127 5 = (n + 4 : Nat) ∧ fr [127, 128] M M' ∧ (∀ j, j ≠ 5 → M' 127 j = M 127 j) ∧ ∀ k, M' 128 k = if n ≤ k ∧ k < n + 4 then byt v (k - n) else M 128 k := by
    intro f
    induction f with
    | zero =>
      intro i M1 hi h5 hf hj hk
      rw [l_tape_append_3]
      refine wp_pos (by omega) ?_
      have : i = 4 := by omega
      subst this
      exact wp_ret ⟨rfl, h5, hf, hj, hk⟩
    | succ f ih =>
      intro i M1 hi h5 hf hj hk
      rw [l_tape_append_3, h5]
      (try simp (disch := omega) only [w32_i, tn_l, tn_n, tn_r, tn_s, tn_1, Nat.add_sub_cancel, Int.reduceToNat, Int.toNat_zero, Int.toNat_one, al3, al4, al5, al6, al8, al9, al11, al13, al15, al17, al19, al21, al23, al25, al27, al29, al30, al31, al95, al96, al128, al129, al130, al131, al134, al135, al137, al139, al140, al142, al143, al144, al145, al147, al148, al149, al151, al152, al153, al154, al155, al156, al158, al159, al160, al161, al162, al163, al164, al165, al166, al167, al168, al169, al170, al171, al172, al173, al174, al175, al176])
      refine wp_neg (by omega) ?_
      refine wp_neg (by omega) ?_
      refine wp_pos (by omega) ?_
      refine wp_inb ⟨by omega, by omega⟩ ?_
      refine wp_up fun M2 f2 g2 => ?_
      rw [f2 127 (by simp), h5, w32_i (by omega) (by omega)]
      refine wp_up fun M3 f3 g3 => ?_
      refine wp_I ?_
      have e : w32 (24 - 8 * (i : Int) + -8) = 24 - 8 * ((i + 1 : Nat) : Int) := by rw [w32_i (by omega) (by omega)]; omega
      have e' : (24 - 8 * (i : Int) + -8) = 24 - 8 * ((i + 1 : Nat) : Int) := by omega
      first | rw [e] | rw [e']
      refine ih (i + 1) M3 (by omega) (by rw [g3, if_pos rfl]; omega) (fr_tt hf (fr_tr f2 f3 (by simp) (by simp))) (fun j hj' => by rw [g3, if_neg hj', f2 127 (by simp), hj j hj']) (fun k => ?_)
      rw [f3 128 (by simp), g2, hk k]
      by_cases e : k = n + i
      · subst e
        rw [if_pos rfl, if_pos (by omega)]
        unfold byt
        rw [show n + i - n = i by omega, show ((24 - 8 * i : Nat) : Int) = 24 - 8 * (i : Int) by omega]
      · rw [if_neg e]
        by_cases e2 : n ≤ k ∧ k < n + i
        · rw [if_pos e2, if_pos (by omega)]
        · rw [if_neg e2, if_neg (by omega)]
  rw [l_tape_append]
  exact lp 4 0 M (by omega) h (fr_refl _ _) (fun _ _ => rfl) (fun k => by rw [if_neg (by omega)])
noncomputable def arg5 (a b c e g : Int) (k : Nat) : Int := if k < 4 then a else if k < 8 then b else if k < 12 then c else if k < 16 then e else g
theorem m_feed_lp (d n : Nat) (a b c e g : Int) (B : Nat → Int) (hn : n + 20 ≤ 400) : ∀ (f i : Nat) (M : aM), i + f = 20 → M 157 16 = (n + i : Nat) → (∀ k, M 165 k = if n ≤ k ∧ k < n + i then byt (arg5 a b c e g (k - n)) ((k - n) % 4) else B k) →
    wp (w_m_feed_18 d a b c e g i M) fun r M' => r = [aI ((n + 20 : Nat) : Int)] ∧ M' 157 16 = (n + 20 : Nat) ∧ fr [157, 165] M M' ∧ (∀ j, j ≠ 16 → M' 157 j = M 157 j) ∧ ∀ k, M' 165 k = if n ≤ k ∧ k < n + 20 then byt (arg5 a b c e g (k - n)) ((k - n) % 4) else B k
  | 0, i, M, hi, h16, hB => by
    rw [l_m_feed_18]
    have : i = 20 := by omega
    subst this
    refine wp_neg (by omega) ?_
    exact wp_ret ⟨by rw [h16], h16, fr_refl _ _, fun _ _ => rfl, hB⟩
  | f + 1, i, M, hi, h16, hB => by
    have key : ∀ v, v = arg5 a b c e g i → wp (inb (M 157 16) (aLen 165) (aLet (aUp M 165 (M 157 16).toNat (iand (ishr v (w32 (24 - (w32 (8 * (irem (i : Int) 4)))))) 255)) fun M19 => aLet (aUp M19 157 16 (w32 ((M19 157 16) + 1))) fun M20 => iLet (w32 ((i : Int) + 1)) fun v21 => w_m_feed_18 d a b c e g v21 M20)) fun r M' => r = [aI ((n + 20 : Nat) : Int)] ∧ M' 157 16 = (n + 20 : Nat) ∧ fr [157, 165] M M' ∧ (∀ j, j ≠ 16 → M' 157 j = M 157 j) ∧ ∀ k, M' 165 k = if n ≤ k ∧ k < n + 20 then byt (arg5 a b c e g (k - n)) ((k - n) % 4) else B k := by
      intro v hv
      have er : w32 (24 - w32 (8 * irem (i : Int) 4)) = ((24 - 8 * (i % 4) : Nat) : Int) := by
        rw [irem_nn (by omega) (by omega) (by omega) (by omega), w32_i (x := 8 * _) (by omega) (by omega), w32_i (by omega) (by omega)]; omega
      rw [er, h16, al165, ← byte_eq v (24 - 8 * (i % 4)) (by have := Nat.mod_lt i (show 4 > 0 by omega); omega)]
      refine wp_inb ⟨by omega, by omega⟩ ?_
      refine wp_up fun M1 f1 g1 => ?_
      rw [f1 157 (by simp), h16, w32_i (by omega) (by omega)]
      refine wp_up fun M2 f2 g2 => ?_
      refine wp_I ?_
      (try simp (disch := omega) only [w32_i, tn_l, tn_n, tn_r, tn_s, tn_1, Nat.add_sub_cancel, Int.reduceToNat, Int.toNat_zero, Int.toNat_one, al3, al4, al5, al6, al8, al9, al11, al13, al15, al17, al19, al21, al23, al25, al27, al29, al30, al31, al95, al96, al128, al129, al130, al131, al134, al135, al137, al139, al140, al142, al143, al144, al145, al147, al148, al149, al151, al152, al153, al154, al155, al156, al158, al159, al160, al161, al162, al163, al164, al165, al166, al167, al168, al169, al170, al171, al172, al173, al174, al175, al176])
      refine wp_mono (m_feed_lp d n a b c e g B hn f (i + 1) M2 (by omega) (by rw [g2, if_pos rfl]; omega) (fun k => ?_)) ?_
      · rw [f2 165 (by simp), g1, hB k, tn_n]
        by_cases e1 : k = n + i
        · subst e1
          rw [if_pos rfl, if_pos (by omega), show n + i - n = i by omega, ← hv]
          rfl
        · rw [if_neg e1]
          by_cases e2 : n ≤ k ∧ k < n + i
          · rw [if_pos e2, if_pos (by omega)]
          · rw [if_neg e2, if_neg (by omega)]
      · rintro r M' ⟨q1, q2, q3, q4, q5⟩
        exact ⟨q1, q2, fr_tt (fr_tr f1 f2 (by simp) (by simp)) q3, fun j hj => by rw [q4 j hj, g2, if_neg hj, f1 157 (by simp)], q5⟩
    rw [l_m_feed_18]
    refine wp_pos (by omega) ?_
    refine wp_if (fun h => key a (by unfold arg5; rw [if_pos (by omega)])) (fun h => ?_)
    refine wp_if (fun h1 => key b (by unfold arg5; rw [if_neg (by omega), if_pos (by omega)])) (fun h1 => ?_)
    refine wp_if (fun h2 => key c (by unfold arg5; rw [if_neg (by omega), if_neg (by omega), if_pos (by omega)])) (fun h2 => ?_)
    refine wp_if (fun h3 => key e (by unfold arg5; rw [if_neg (by omega), if_neg (by omega), if_neg (by omega), if_pos (by omega)])) (fun h3 => ?_)
    exact key g (by unfold arg5; rw [if_neg (by omega), if_neg (by omega), if_neg (by omega), if_neg (by omega)])
theorem pr_feed (d : Nat) (a b c e g : Int) : pr (w_x_feed (d + 40) a b c e g) (w_m_feed (d + 40) a b c e g) := by
  intro L Lk M hI
  have hI' := hI
  obtain ⟨-, -, -, -, ⟨n, a1, a2, a3, a4⟩, -⟩ := hI
  by_cases hgo : n + 20 ≤ 400
  · have hx : wp (w_x_feed (d + 40) a b c e g M) fun r M' => r = [aI ((n + 20 : Nat) : Int)] ∧ M' 127 5 = (n + 20 : Nat) ∧ fr [127, 128] M M' ∧ ∀ k, M' 128 k = if n ≤ k ∧ k < n + 20 then byt (arg5 a b c e g (k - n)) ((k - n) % 4) else M 128 k := by
      rw [l_x_feed, a2]
      rw [w32_i (by omega) (by omega)]
      refine wp_neg (by omega) ?_
      refine wp_bV (tape_append_eq _ n a M a2 (by omega)) ?_
      rintro M1 ⟨p1, f1, -, q1⟩
      refine wp_bV (tape_append_eq _ (n + 4) b M1 p1 (by omega)) ?_
      rintro M2 ⟨p2, f2, -, q2⟩
      refine wp_bV (tape_append_eq _ (n + 4 + 4) c M2 p2 (by omega)) ?_
      rintro M3 ⟨p3, f3, -, q3⟩
      refine wp_bV (tape_append_eq _ (n + 4 + 4 + 4) e M3 p3 (by omega)) ?_
      rintro M4 ⟨p4, f4, -, q4⟩
      refine wp_bV (tape_append_eq _ (n + 4 + 4 + 4 + 4) g M4 p4 (by omega)) ?_
      rintro M5 ⟨p5, f5, -, q5⟩
      refine wp_ret ⟨by rw [p5], by rw [p5], fr_tt f1 (fr_tt f2 (fr_tt f3 (fr_tt f4 f5))), fun k => ?_⟩
      rw [q5, q4, q3, q2, q1]
      by_cases h0 : k < n
      · rw [if_neg (by omega), if_neg (by omega), if_neg (by omega), if_neg (by omega), if_neg (by omega), if_neg (by omega)]
      obtain ⟨j, rfl⟩ : ∃ j, k = n + j := ⟨k - n, by omega⟩
      rw [show n + j - n = j by omega]
      unfold arg5
      by_cases h1 : j < 4
      · rw [if_neg (by omega), if_neg (by omega), if_neg (by omega), if_neg (by omega), if_pos (by omega), if_pos (by omega), if_pos h1, show j % 4 = j by omega]
      rw [if_neg h1]
      by_cases h2 : j < 8
      · rw [if_neg (by omega), if_neg (by omega), if_neg (by omega), if_pos (by omega), if_pos (by omega), if_pos h2, show j % 4 = n + j - (n + 4) by omega]
      rw [if_neg h2]
      by_cases h3 : j < 12
      · rw [if_neg (by omega), if_neg (by omega), if_pos (by omega), if_pos (by omega), if_pos h3, show j % 4 = n + j - (n + 4 + 4) by omega]
      rw [if_neg h3]
      by_cases h4 : j < 16
      · rw [if_neg (by omega), if_pos (by omega), if_pos (by omega), if_pos h4, show j % 4 = n + j - (n + 4 + 4 + 4) by omega]
      rw [if_neg h4]
      by_cases h5 : j < 20
      · rw [if_pos (by omega), if_pos (by omega), show j % 4 = n + j - (n + 4 + 4 + 4 + 4) by omega]
      · rw [if_neg (by omega), if_neg (by omega), if_neg (by omega), if_neg (by omega), if_neg (by omega), if_neg (by omega)]
    obtain ⟨r, M1, e1, er, p1, f1, q1⟩ := hx
    have hm : wp (w_m_feed (d + 40) a b c e g M1) fun r M' => r = [aI ((n + 20 : Nat) : Int)] ∧ M' 157 16 = (n + 20 : Nat) ∧ fr [157, 165] M1 M' ∧ (∀ j, j ≠ 16 → M' 157 j = M1 157 j) ∧ ∀ k, M' 165 k = if n ≤ k ∧ k < n + 20 then byt (arg5 a b c e g (k - n)) ((k - n) % 4) else M 165 k := by
      rw [l_m_feed, f1 157 (by simp), a3, w32_i (by omega) (by omega)]
      refine wp_neg (by omega) ?_
      refine wp_mono (m_feed_lp _ n a b c e g (M 165) hgo 20 0 M1 (by omega) (by rw [f1 157 (by simp), a3]; omega) (fun k => by rw [if_neg (by omega), f1 165 (by simp)])) ?_
      rintro r M' h
      exact ⟨h.1, h.2.1, h.2.2.1, fun j hj => by rw [h.2.2.2.1 j hj, f1 157 (by simp)], h.2.2.2.2⟩
    obtain ⟨r', M2, e2, er2, p2, f2, g2, q2⟩ := hm
    subst er er2
    refine ⟨_, M1, M2, e1, e2, ⟨L, Lk, Inv_tape hI' (fun k x y z w => by rw [f2 k (by simp; omega), f1 k (by simp; omega)]) ⟨n + 20, hgo, by rw [f2 _ (by simp)]; exact p1, p2, fun i hi => ?_⟩ (fun j hj => by rw [g2 j hj, f1 157 (by simp)])⟩, ⟨f1 _ (by simp), f1 _ (by simp)⟩, ?_, ?_⟩
    · rw [f2 128 (by simp), q1, q2]
      by_cases h : i < n
      · rw [if_neg (by omega), if_neg (by omega)]; exact a4 i h
      · have hc : n ≤ i ∧ i < n + 20 := by omega
        rw [if_pos hc, if_pos hc]
        exact ⟨rfl, byte_in _⟩
    · rw [f2 _ (by simp), f1 _ (by simp)]
    · rw [f2 _ (by simp), f1 _ (by simp)]
  · refine ⟨-1, M, M, ?_, ?_, ⟨L, Lk, hI'⟩, ⟨rfl, rfl⟩, rfl, rfl⟩
    · rw [u_x_feed, a2, w32_i (by omega) (by omega), if_pos (by omega)]
    · rw [u_m_feed, a3, w32_i (by omega) (by omega), if_pos (by omega)]
