/-! watch, game -/
noncomputable def wal (V : aW) (s : Int) : Nat → Nat → Bool
  | 0, _ => true
  | f + 1, i => if iand (ishr s (V (207 + 2 * i))) 1 = 0 ∧ iand (ishr s (V (208 + 2 * i))) 1 = 0 then false else wal V s f (i + 1)
noncomputable def wb (V : aW) (n : Nat) : Nat → Nat
  | 0 => 1023
  | k + 1 => if pc k 16 < pc (wb V n k) 16 ∧ wal V k n 0 = true then k else wb V n k
theorem wb_s (V : aW) (n k : Nat) : wb V n (k + 1) = if pc k 16 < pc (wb V n k) 16 ∧ wal V k n 0 = true then k else wb V n k := rfl
theorem wb_le (V : aW) (n : Nat) : ∀ k, k ≤ 1024 → wb V n k ≤ 1023
  | 0, _ => Nat.le_refl _
  | k + 1, h => by rw [wb_s]; have := wb_le V n k (by omega); split <;> omega
theorem pc_10 {x : Nat} (hx : x < 1024) : ∀ k, pc x (10 + k) = pc x 10
  | 0 => rfl
  | k + 1 => by
    show pc x (10 + k) + (if x.testBit (10 + k) = true then 1 else 0) = pc x 10
    rw [pc_10 hx k, tb_lt (n := 10) hx (by omega)]
    simp
theorem th_watchesAll_lp (d : Nat) (V : aW) (s : Int) (n : Nat) (h14 : n ≤ 14) (M : aM) (r2 : M 24 2 = n) (rc : ∀ i : Nat, i < n → M 25 (4 * i) = V (207 + 2 * i) ∧ M 25 (4 * i + 1) = V (208 + 2 * i)) : ∀ (f i : Nat), i + f = n → w_th_watchesAll_2 (d + 2) 24 s i M = some ([aI (bI (wal V s f i))], M)
  | 0, i, hi => by rw [u_th_watchesAll_2, r2, if_neg (by omega)]; rfl
  | f + 1, i, hi => by
    have ih := th_watchesAll_lp d V s n h14 M r2 rc f (i + 1) (by omega)
    obtain ⟨c0, c1⟩ := rc i (by omega)
    have q0 : w_rows_cell (d + 2) 24 (i : Int) 0 M = some ([aI (V (207 + 2 * i))], M) := (rows_cell_eq d 24 i 0 M (by omega) (by decide) (by rw [al25]; omega) (by omega)).trans (by rw [← c0]; rfl)
    have q1 : w_rows_cell (d + 2) 24 (i : Int) 1 M = some ([aI (V (208 + 2 * i))], M) := (rows_cell_eq d 24 i 1 M (by omega) (by decide) (by rw [al25]; omega) (by omega)).trans (by rw [← c1])
    rw [u_th_watchesAll_2, r2, if_pos (by omega), q0, bndI_s]
    simp (disch := omega) only [w32_i]
    simp only [wal]
    by_cases h0 : iand (ishr s (V (207 + 2 * i))) 1 = 0
    · rw [if_pos h0, q1, bndI_s]
      by_cases h1 : iand (ishr s (V (208 + 2 * i))) 1 = 0
      · rw [if_pos h1, if_pos ⟨h0, h1⟩]; rfl
      · rw [if_neg h1, if_neg fun h => h1 h.2]; exact ih
    · rw [if_neg h0, if_neg fun h => h0 h.1]; exact ih
theorem m_watches_lp (d : Nat) (V : aW) (s : Int) (n : Nat) (h14 : n ≤ 14) (M : aM) (hV : M 158 = V) (r2 : V 50 = n) : ∀ (f i : Nat), i + f = n → w_m_watches_2 d s i M = some ([aI (bI (wal V s f i))], M)
  | 0, i, hi => by rw [u_m_watches_2, al158, inb_s (by omega) (by omega), hV, if_neg (by omega)]; rfl
  | f + 1, i, hi => by
    have ih := m_watches_lp d V s n h14 M hV r2 f (i + 1) (by omega)
    have e1 : w32 (207 + w32 (2 * (i : Int))) = ((207 + 2 * i : Nat) : Int) := by simp (disch := omega) only [w32_i]; omega
    have e2 : w32 (((207 + 2 * i : Nat) : Int) + 1) = ((208 + 2 * i : Nat) : Int) := by rw [w32_i (by omega) (by omega)]; omega
    rw [u_m_watches_2, al158, inb_s (by omega) (by omega), if_pos (by rw [hV]; omega), e1, inb_s (by omega) (by omega), e2, tn_n, tn_n, hV]
    simp (disch := omega) only [w32_i]
    simp only [wal]
    by_cases h0 : iand (ishr s (V (207 + 2 * i))) 1 = 0
    · rw [if_pos h0, inb_s (by omega) (by omega)]
      by_cases h1 : iand (ishr s (V (208 + 2 * i))) 1 = 0
      · rw [if_pos h1, if_pos ⟨h0, h1⟩]; rfl
      · rw [if_neg h1, if_neg fun h => h1 h.2]; exact ih
    · rw [if_neg h0, if_neg fun h => h0 h.1]; exact ih
theorem th_leastWatch_lp (d : Nat) (V : aW) (n : Nat) (h14 : n ≤ 14) (M : aM) (r2 : M 24 2 = n) (rc : ∀ i : Nat, i < n → M 25 (4 * i) = V (207 + 2 * i) ∧ M 25 (4 * i + 1) = V (208 + 2 * i)) : ∀ (f i : Nat), i + f = 1023 → w_th_leastWatch_9 (d + 3) 24 1023 (wb V n i) i M = some ([aI (wb V n (i + f))], M)
  | 0, i, hi => by rw [u_th_leastWatch_9, if_neg (by omega)]; rfl
  | f + 1, i, hi => by
    have ih := th_leastWatch_lp d V n h14 M r2 rc f (i + 1) (by omega)
    have hw := wb_le V n i (by omega)
    rw [show i + 1 + f = i + (f + 1) by omega] at ih
    rw [u_th_leastWatch_9, if_pos (by omega), ji_bitCount_eq _ i M (by omega), bndI_s, ji_bitCount_eq _ _ M (by omega), bndI_s]
    simp (disch := omega) only [w32_i]
    rw [wb_s] at ih
    by_cases h : pc i 16 < pc (wb V n i) 16
    · have q : w_th_watchesAll_2 (d + 2) 24 (i : Int) 0 M = some ([aI (bI (wal V i n 0))], M) := th_watchesAll_lp d V i n h14 M r2 rc n 0 (by omega)
      rw [if_pos (by omega), u_th_watchesAll, q, bndI_s]
      cases hb : wal V i n 0 with
      | true =>
        rw [if_neg (show ¬ bI true = 0 by decide)]
        rw [if_pos ⟨h, hb⟩] at ih
        exact ih
      | false =>
        rw [if_pos (show bI false = 0 from rfl)]
        rw [if_neg fun h => by rw [hb] at h; simp at h] at ih
        exact ih
    · rw [if_neg (by omega)]
      rw [if_neg fun h' => h h'.1] at ih
      exact ih
theorem m_watch_lp (d : Nat) (V : aW) (w : Int) (n : Nat) (h14 : n ≤ 14) (M : aM) (hV : M 158 = V) (r2 : V 50 = n) : ∀ (f i : Nat), i + f = 1024 → w_m_watch_17 (d + 2) w (wb V n i) i M = some ([aI (if w = 0 then ((pc (wb V n (i + f)) 16 : Nat) : Int) else ((wb V n (i + f) : Nat) : Int))], M)
  | 0, i, hi => by
    have hw := wb_le V n i (by omega)
    rw [u_m_watch_17, if_neg (by omega)]
    simp only [Nat.add_zero]
    by_cases h : w = 0
    · rw [if_pos h, if_pos h, m_count_eq _ _ M (by omega), bndI_s]
    · rw [if_neg h, if_neg h]
  | f + 1, i, hi => by
    have ih := m_watch_lp d V w n h14 M hV r2 f (i + 1) (by omega)
    have hw := wb_le V n i (by omega)
    rw [show i + 1 + f = i + (f + 1) by omega] at ih
    rw [u_m_watch_17, if_pos (by omega), m_count_eq _ i M (by omega), bndI_s, m_count_eq _ _ M (by omega), bndI_s]
    simp (disch := omega) only [w32_i]
    rw [wb_s] at ih
    by_cases h : pc i 16 < pc (wb V n i) 16
    · have q : w_m_watches_2 (d + 1) (i : Int) 0 M = some ([aI (bI (wal V i n 0))], M) := m_watches_lp (d + 1) V i n h14 M hV r2 n 0 (by omega)
      rw [if_pos (by omega), u_m_watches, q, bndI_s]
      cases hb : wal V i n 0 with
      | true =>
        rw [if_neg (show ¬ bI true = 0 by decide)]
        rw [if_pos ⟨h, hb⟩] at ih
        exact ih
      | false =>
        rw [if_pos (show bI false = 0 from rfl)]
        rw [if_neg fun h => by rw [hb] at h; simp at h] at ih
        exact ih
    · rw [if_neg (by omega)]
      rw [if_neg fun h' => h h'.1] at ih
      exact ih
theorem wb_end (V : aW) (n : Nat) : wb V n (1023 + 1) = wb V n 1023 := by
  rw [wb_s]
  have h1 := wb_le V n 1023 (by omega)
  have h2 : pc 1023 16 = 10 := by decide
  have h3 := pc_10 (x := wb V n 1023) (by omega) 6
  have h4 := pc_le (wb V n 1023) 10
  rw [if_neg]
  intro h
  have h5 := h.1
  rw [h2, show (16 : Nat) = 10 + 6 from rfl, h3] at h5
  omega
theorem pr_watch (d : Nat) (w : Int) : pr (w_x_watch (d + 40) w) (w_m_watch (d + 40) w) := by
  refine pr_qV (fun V _ => if 0 ≤ w ∧ w ≤ 1 then (if w = 0 then ((pc (wb V (V 50).toNat 1023) 16 : Nat) : Int) else ((wb V (V 50).toNat 1023 : Nat) : Int)) else -1) ?_ ?_
  · intro L Lk M hI
    obtain ⟨⟨hW, hT, hw, hv, hok⟩, -⟩ := hI
    have n50 := hT.1.2.2.2.2.2.1
    obtain ⟨t1, t2, t3, t4, t5, ⟨r0, r2, rc⟩, t7, t8⟩ := hw.1.2.1
    obtain ⟨n, hn⟩ : ∃ n : Nat, M 158 50 = n := ⟨(M 158 50).toNat, by omega⟩
    rw [l_x_watch]
    refine wp_eI (x_within_eq _ _ _ _) ?_
    refine wp_bif (fun h1 => ?_) (fun h1 => ?_)
    · exact wp_ret ⟨by rw [if_neg (of_decide_eq_false h1)], agQ_refl _⟩
    have h1 := of_decide_eq_true h1
    rw [if_pos h1, hn, tn_n]
    have lp := th_leastWatch_lp (d + 35) (M 158) n (by omega) M (by rw [show M 24 2 = M 158 50 from r2, hn]) (fun i hi => ⟨(rc i 0 (by omega) (by decide)).trans rfl, (rc i 1 (by omega) (by decide)).trans (by rw [show 208 + 2 * i = 207 + 2 * i + 1 by omega])⟩) 1023 0 (by omega)
    refine wp_eI ((u_th_leastWatch _ _ _).trans lp) ?_
    rw [Nat.zero_add]
    have hle := wb_le (M 158) n 1023 (by omega)
    refine wp_if (fun h0 => ?_) (fun h0 => ?_)
    · refine wp_eI (ji_bitCount_eq _ _ M (by omega)) ?_
      exact wp_ret ⟨by rw [if_pos h0], agQ_refl _⟩
    · exact wp_ret ⟨by rw [if_neg h0], agQ_refl _⟩
  · intro L Lk M hI
    obtain ⟨⟨hW, hT, hw, hv, hok⟩, -⟩ := hI
    have n50 := hT.1.2.2.2.2.2.1
    obtain ⟨n, hn⟩ : ∃ n : Nat, M 158 50 = n := ⟨(M 158 50).toNat, by omega⟩
    rw [l_m_watch]
    refine wp_eI (m_isIn_eq _ _ _ _ _) ?_
    refine wp_bif (fun h1 => ?_) (fun h1 => ?_)
    · exact wp_ret ⟨by rw [if_neg (of_decide_eq_false h1)], agQ_refl _⟩
    have h1 := of_decide_eq_true h1
    rw [if_pos h1, hn, tn_n]
    have lp := m_watch_lp (d + 37) (M 158) w n (by omega) M rfl hn 1024 0 (by omega)
    rw [show 0 + 1024 = 1023 + 1 from rfl, wb_end] at lp
    exact ⟨_, _, lp, rfl, agQ_refl _⟩
/-! antlers -/
theorem iand3 {z : Int} (h : -2147483648 ≤ z) (h2 : z < 2147483648) : iand z 3 = z % 4 := by
  have e : (Int32.ofInt z &&& Int32.ofInt 3).toBitVec.toNat = (z % 4294967296).toNat % 4 := by
    rw [Int32.toBitVec_and, Int32.toBitVec_ofInt, BitVec.toNat_and, BitVec.toNat_ofInt, show (Int32.ofInt 3).toBitVec.toNat = 2 ^ 2 - 1 from rfl, Nat.and_two_pow_sub_one_eq_mod]
    rfl
  have l : (z % 4294967296).toNat % 4 < 4 := Nat.mod_lt _ (by omega)
  rw [iand_def, i32_tn _ (by omega), e]
  omega
noncomputable def hN (V : aW) (i : Nat) : Nat := if al V i = true then (V (31 + i)).toNat % 4 else 0
noncomputable def xr (V : aW) : Nat → Nat
  | 0 => 0
  | k + 1 => xr V k ^^^ hN V k
noncomputable def xo (V : aW) (e : Nat) : Nat → Nat
  | 0 => 0
  | k + 1 => if k = e then xo V e k else xo V e k ^^^ hN V k
theorem hN_lt (V : aW) (i : Nat) : hN V i < 2 ^ 2 := by unfold hN; split <;> omega
theorem xr_lt (V : aW) : ∀ k, xr V k < 2 ^ 2
  | 0 => by simp [xr]
  | k + 1 => Nat.xor_lt_two_pow (xr_lt V k) (hN_lt V k)
theorem xo_lt (V : aW) (e : Nat) : ∀ k, xo V e k < 2 ^ 2
  | 0 => by simp [xo]
  | k + 1 => by
    simp only [xo]
    split
    · exact xo_lt V e k
    · exact Nat.xor_lt_two_pow (xo_lt V e k) (hN_lt V k)
theorem xr_xo (V : aW) (e : Nat) : ∀ k, xr V k = if e < k then xo V e k ^^^ hN V e else xo V e k
  | 0 => rfl
  | k + 1 => by
    simp only [xr, xo]
    rw [xr_xo V e k]
    by_cases h1 : k = e
    · subst h1
      rw [if_neg (by omega), if_pos rfl, if_pos (by omega)]
    · rw [if_neg h1]
      by_cases h2 : e < k
      · rw [if_pos h2, if_pos (by omega), Nat.xor_assoc, Nat.xor_comm (hN V e), ← Nat.xor_assoc]
      · rw [if_neg h2, if_neg (by omega)]
theorem xo_hi {V : aW} {e n : Nat} (hn : V 41 = n) : ∀ k, n ≤ k → xo V e k = xo V e n
  | 0, h => by rw [show n = 0 by omega]
  | k + 1, h => by
    by_cases h1 : n = k + 1
    · rw [h1]
    · simp only [xo, hN, al_hi hn (show n ≤ k by omega)]
      rw [xo_hi hn k (by omega)]
      simp
/-- how many one takes so as to win, or none -/
noncomputable def tkn (V : aW) (e n : Nat) : Int :=
  if 1 ≤ (V (31 + e) - xo V e n) % 4 ∧ (V (31 + e) - xo V e n) % 4 ≤ V (31 + e) then (V (31 + e) - xo V e n) % 4 else -1
theorem th_taken_lp (d : Nat) (V : aW) (e n : Nat) (hn : V 41 = n) (h10 : n ≤ 10) (he : e < n) (M : aM) (hw : rWd 2 V M) (hc : ∀ i, i < 10 → 0 ≤ V (31 + i) ∧ V (31 + i) ≤ 20000) : ∀ (f i : Nat), i + f = 10 →
    w_th_antlersTaken_5 (d + 2) 2 e ((xo V e i : Nat) : Int) i M = some ([aI (tkn V e n)], M)
  | 0, i, hi => by
    have c4 := hw.2.2.2.2.2.2.2.2.2.2.2.2.2.2.2.2
    have hce := hc e (by omega)
    have hx := xo_lt V e n
    rw [u_th_antlersTaken_5, if_neg (by omega), wood_has_eq _ 2 e V M hw.1 (by omega), bndI_s, decide_eq_true (by omega), if_neg (show ¬ bI true = 0 by decide), show aLen (2 + 4) = 10 from rfl, inb_s (by omega) (by omega)]
    dsimp only
    rw [inb_s (by omega) (by omega), tn_n, c4 e (by omega), show i = 10 by omega, xo_hi hn 10 h10, w32_i (by omega) (by omega), iand3 (by omega) (by omega)]
    unfold tkn
    by_cases h1 : (V (31 + e) - ((xo V e n : Nat) : Int)) % 4 < 1
    · rw [if_pos h1, if_neg (by omega)]
    · rw [if_neg h1]
      by_cases h2 : V (31 + e) < (V (31 + e) - ((xo V e n : Nat) : Int)) % 4
      · rw [if_pos h2, if_neg (by omega)]
      · rw [if_neg h2, if_pos (by omega)]
  | f + 1, i, hi => by
    have c4 := hw.2.2.2.2.2.2.2.2.2.2.2.2.2.2.2.2
    have ih := th_taken_lp d V e n hn h10 he M hw hc f (i + 1) (by omega)
    have hci := hc i (by omega)
    rw [u_th_antlersTaken_5, if_pos (by omega), wood_isAlive_eq _ 2 i V M hw (by omega), bndI_s, show aLen (2 + 4) = 10 from rfl]
    simp (disch := omega) only [w32_i]
    simp only [xo] at ih
    cases hal : al V i with
    | false =>
      rw [if_pos (show bI false = 0 from rfl)]
      have e0 : (if i = e then xo V e i else xo V e i ^^^ hN V i) = xo V e i := by
        split
        · rfl
        · simp [hN, hal]
      rw [e0] at ih
      exact ih
    | true =>
      rw [if_neg (show ¬ bI true = 0 by decide)]
      by_cases hie : i = e
      · rw [if_pos (by omega)]
        rw [if_pos hie] at ih
        exact ih
      · rw [if_neg (by omega), inb_s (by omega) (by omega), tn_n, c4 i (by omega), iand3 (by omega) (by omega)]
        rw [if_neg hie] at ih
        have e1 : V (31 + i) % 4 = ((hN V i : Nat) : Int) := by unfold hN; rw [if_pos hal]; omega
        have h1 := xo_lt V e i
        have h2 := hN_lt V i
        rw [e1, ixor_nat (by omega) (by omega)]
        exact ih
theorem th_taken_eq (d : Nat) (V : aW) (e n : Nat) (hn : V 41 = n) (h10 : n ≤ 10) (he : e < n) (M : aM) (hw : rWd 2 V M) (hc : ∀ i, i < 10 → 0 ≤ V (31 + i) ∧ V (31 + i) ≤ 20000) : w_th_antlersTaken (d + 3) 2 e M = some ([aI (tkn V e n)], M) :=
  (u_th_antlersTaken _ _ _ _).trans (th_taken_lp d V e n hn h10 he M hw hc 10 0 (by omega))
noncomputable def who1 (V : aW) (n : Nat) : Nat → Nat → Int
  | 0, _ => -1
  | f + 1, i => if al V i = true ∧ tkn V i n ≠ -1 then i else who1 V n f (i + 1)
theorem who1_in (V : aW) (n : Nat) : ∀ f i, who1 V n f i = -1 ∨ ∃ j : Nat, who1 V n f i = j ∧ al V j = true
  | 0, _ => Or.inl rfl
  | f + 1, i => by
    simp only [who1]
    split
    · next h => exact Or.inr ⟨i, rfl, h.1⟩
    · exact who1_in V n f (i + 1)
theorem who1_hi {V : aW} {n : Nat} (hn : V 41 = n) : ∀ f i, n ≤ i → who1 V n f i = -1
  | 0, _, _ => rfl
  | f + 1, i, h => by
    simp only [who1]
    rw [if_neg fun hh => by rw [al_hi hn h] at hh; simp at hh]
    exact who1_hi hn f (i + 1) (by omega)
theorem who1_10 {V : aW} {n : Nat} (hn : V 41 = n) : ∀ f i g, i + f = n → who1 V n (f + g) i = who1 V n f i
  | 0, i, g, h => by rw [Nat.zero_add]; exact who1_hi hn g i (by omega)
  | f + 1, i, g, h => by
    rw [show f + 1 + g = (f + g) + 1 by omega]
    simp only [who1]
    rw [who1_10 hn f (i + 1) g (by omega)]
theorem th_antlersOf_lp (d : Nat) (V : aW) (n : Nat) (hn : V 41 = n) (h10 : n ≤ 10) (M : aM) (hw : rWd 2 V M) (hc : ∀ i, i < 10 → 0 ≤ V (31 + i) ∧ V (31 + i) ≤ 20000) : ∀ (f i : Nat), i + f = 10 →
    w_th_antlersOf_2 (d + 3) 2 i M = some ([aI (who1 V n f i)], M)
  | 0, i, hi => by rw [u_th_antlersOf_2, if_neg (by omega)]; rfl
  | f + 1, i, hi => by
    have ih := th_antlersOf_lp d V n hn h10 M hw hc f (i + 1) (by omega)
    rw [u_th_antlersOf_2, if_pos (by omega), wood_isAlive_eq _ 2 i V M hw (by omega), bndI_s]
    simp (disch := omega) only [w32_i]
    simp only [who1]
    cases hal : al V i with
    | false =>
      rw [if_pos (show bI false = 0 from rfl), if_neg (by simp)]
      exact ih
    | true =>
      have := al_lt hal
      rw [if_neg (show ¬ bI true = 0 by decide), th_taken_eq _ V i n hn h10 (by omega) M hw hc, bndI_s]
      by_cases ht : tkn V i n = -1
      · rw [if_pos ht, if_neg fun h => h.2 ht]; exact ih
      · rw [if_neg ht, if_pos ⟨rfl, ht⟩]
theorem m_heapOf_eq (d : Nat) (V : aW) (i n : Nat) (hn : V 41 = n) (h10 : n ≤ 10) (hi : i < 10) (M : aM) (hV : M 158 = V) : w_m_heapOf (d + 4) i M = some ([aI (if al V i = true then V (31 + i) else 0)], M) := by
  rw [u_m_heapOf, m_isAlive_eq _ _ M (by rw [hV]; omega) (by rw [hV]; omega), bndI_s, hV]
  cases hal : al V i with
  | false => rfl
  | true =>
    have e1 : w32 (31 + (i : Int)) = ((31 + i : Nat) : Int) := by rw [w32_i (by omega) (by omega)]; omega
    rw [if_neg (show ¬ bI true = 0 by decide), e1, al158, inb_s (by omega) (by omega), tn_n]
    rfl
/-- the inner search: k from 1 on -/
theorem m_game_58_lp (d : Nat) (V : aW) (w : Int) (e n : Nat) (hn : V 41 = n) (h10 : n ≤ 10) (he : e < n) (M : aM) (hV : M 158 = V) (hc : ∀ i, i < 10 → 0 ≤ V (31 + i) ∧ V (31 + i) ≤ 20000) (R : aR) (hR : w_m_game_44 (d + 4) w (xr V n) ((e + 1 : Nat) : Int) M = R) : ∀ (f k : Nat), k + f = 4 → 1 ≤ k → (∀ j : Nat, 1 ≤ j → j < k → al V e = true → (j : Int) ≤ V (31 + e) → (V (31 + e) - xo V e n) % 4 ≠ j) →
    w_m_game_58 (d + 4) w (xr V n) e k M = if al V e = true ∧ tkn V e n ≠ -1 then some ([aI (if w = 0 then (e : Int) else tkn V e n)], M) else R := by
  intro f
  induction f with
  | zero =>
    intro k hk h1 hno
    have hce := hc e (by omega)
    rw [u_m_game_58, m_heapOf_eq _ V e n hn h10 (by omega) M hV, bndI_s, m_lesser_eq, bndI_s]
    have h3 : imin 3 (if al V e = true then V (31 + e) else 0) < (k : Int) := by unfold imin; split <;> omega
    rw [if_pos h3]
    simp (disch := omega) only [w32_i]
    rw [if_neg]
    · exact hR
    · rintro ⟨ha, ht⟩
      apply ht
      unfold tkn
      rw [if_neg]
      rintro ⟨q1, q2⟩
      have hx := xo_lt V e n
      have := hno ((V (31 + e) - xo V e n) % 4).toNat (by omega) (by omega) ha (by omega)
      omega
  | succ f ih =>
    intro k hk h1 hno
    have hce := hc e (by omega)
    have hxr := xr_lt V n
    have hxo := xo_lt V e n
    have hh := hN_lt V e
    rw [u_m_game_58, m_heapOf_eq _ V e n hn h10 (by omega) M hV, bndI_s, m_lesser_eq, bndI_s, m_heapOf_eq _ V e n hn h10 (by omega) M hV, bndI_s, m_heapOf_eq _ V e n hn h10 (by omega) M hV, bndI_s]
    cases hal : al V e with
    | false =>
      rw [if_neg (show ¬ false = true by decide)]
      have h3 : imin 3 0 < (k : Int) := by unfold imin; split <;> omega
      rw [if_pos h3, if_neg (by simp)]
      simp (disch := omega) only [w32_i]
      exact hR
    | true =>
      rw [if_pos rfl]
      by_cases hkk : (k : Int) ≤ V (31 + e)
      · have h3 : ¬ imin 3 (V (31 + e)) < (k : Int) := by unfold imin; split <;> omega
        rw [if_neg h3, irem_nn (by omega) (by omega) (by omega) (by omega)]
        have e1 : V (31 + e) % 4 = ((hN V e : Nat) : Int) := by unfold hN; rw [if_pos hal]; omega
        have e2 : ixor (xr V n) (V (31 + e) % 4) = ((xo V e n : Nat) : Int) := by
          rw [e1, ixor_nat (by omega) (by omega), xr_xo V e n, if_pos he, Nat.xor_assoc, Nat.xor_self, Nat.xor_zero]
        rw [e2, w32_i (x := V (31 + e) - _) (by omega) (by omega), irem_nn (by omega) (by omega) (by omega) (by omega)]
        by_cases hq : ((xo V e n : Nat) : Int) = (V (31 + e) - k) % 4
        · rw [if_pos hq]
          have ht : tkn V e n = k := by
            unfold tkn
            rw [if_pos (by omega)]; omega
          rw [if_pos (show true = true ∧ tkn V e n ≠ -1 from ⟨rfl, by rw [ht]; omega⟩), ht]
          by_cases hw0 : w = 0
          · rw [if_pos hw0, if_pos hw0]
          · rw [if_neg hw0, if_neg hw0]
        · rw [if_neg hq]
          have e3 : w32 ((k : Int) + 1) = ((k + 1 : Nat) : Int) := by rw [w32_i (by omega) (by omega)]; rfl
          dsimp only
          rw [e3]
          have := ih (k + 1) (by omega) (by omega) (fun j hj1 hj2 ha hj3 => by
            by_cases hjk : j = k
            · subst hjk; omega
            · exact hno j hj1 (by omega) ha hj3)
          rw [hal] at this
          exact this
      · have h3 : imin 3 (V (31 + e)) < (k : Int) := by unfold imin; split <;> omega
        rw [if_pos h3]
        simp (disch := omega) only [w32_i]
        rw [if_neg]
        · exact hR
        · rintro ⟨-, ht⟩
          apply ht
          unfold tkn
          rw [if_neg]
          rintro ⟨q1, q2⟩
          have := hno ((V (31 + e) - xo V e n) % 4).toNat (by omega) (by omega) hal (by omega)
          omega
theorem m_game_44_lp (d : Nat) (V : aW) (w : Int) (n : Nat) (hn : V 41 = n) (h10 : n ≤ 10) (M : aM) (hV : M 158 = V) (hc : ∀ i, i < 10 → 0 ≤ V (31 + i) ∧ V (31 + i) ≤ 20000) : ∀ (f i : Nat), i + f = n →
    w_m_game_44 (d + 4) w (xr V n) i M = some ([aI (if who1 V n f i = -1 then -1 else if w = 0 then who1 V n f i else tkn V (who1 V n f i).toNat n)], M)
  | 0, i, hi => by rw [u_m_game_44, al158, inb_s (by omega) (by omega), hV, if_neg (by omega)]; rfl
  | f + 1, i, hi => by
    have ih := m_game_44_lp d V w n hn h10 M hV hc f (i + 1) (by omega)
    rw [u_m_game_44, al158, inb_s (by omega) (by omega), if_pos (by rw [hV]; omega)]
    have q : w_m_game_58 (d + 4) w (xr V n) i 1 M = if al V i = true ∧ tkn V i n ≠ -1 then some ([aI (if w = 0 then (i : Int) else tkn V i n)], M) else some ([aI (if who1 V n f (i + 1) = -1 then -1 else if w = 0 then who1 V n f (i + 1) else tkn V (who1 V n f (i + 1)).toNat n)], M) := m_game_58_lp d V w i n hn h10 (by omega) M hV hc _ ih 3 1 (by omega) (by omega) (fun j h1 h2 => by omega)
    rw [q]
    by_cases h : al V i = true ∧ tkn V i n ≠ -1
    · have e : who1 V n (f + 1) i = i := by simp only [who1]; rw [if_pos h]
      rw [if_pos h, e, if_neg (show ¬ (i : Int) = -1 by omega), tn_n]
    · have e : who1 V n (f + 1) i = who1 V n f (i + 1) := by simp only [who1]; rw [if_neg h]
      rw [if_neg h, e]
theorem pr_game (d : Nat) (w : Int) : pr (w_x_game (d + 40) w) (w_m_game (d + 40) w) := by
  refine pr_qV (fun V _ => if 0 ≤ w ∧ w ≤ 1 then (if who1 V (V 41).toNat 10 0 = -1 then -1 else if w = 0 then who1 V (V 41).toNat 10 0 else tkn V (who1 V (V 41).toNat 10 0).toNat (V 41).toNat) else -1) ?_ ?_
  · intro L Lk M hI
    obtain ⟨⟨hW, hT, hw, hv, hok⟩, -⟩ := hI
    obtain ⟨n, hn, h10⟩ := okW_n hW
    have h0 := hW.2.2.1
    have hc : ∀ i, i < 10 → 0 ≤ M 158 (31 + i) ∧ M 158 (31 + i) ≤ 20000 := fun i hi => by
      have := hW.2.2.2.2.2.2.2.2.2.2.2.2.2 i hi; omega
    rw [l_x_game]
    refine wp_eI (x_within_eq _ _ _ _) ?_
    refine wp_bif (fun h1 => ?_) (fun h1 => ?_)
    · exact wp_ret ⟨by rw [if_neg (of_decide_eq_false h1)], agQ_refl _⟩
    have h1 := of_decide_eq_true h1
    rw [if_pos h1, hn, tn_n]
    refine wp_eI ((u_th_antlersOf _ _ _).trans (th_antlersOf_lp _ (M 158) n hn h10 M (rW_wd hw) hc 10 0 (by omega))) ?_
    refine wp_if (fun hw0 => ?_) (fun hw0 => ?_)
    · refine wp_ret ⟨?_, agQ_refl _⟩
      by_cases hq : who1 (M 158) n 10 0 = -1
      · rw [if_pos hq, hq]
      · rw [if_neg hq, if_pos hw0]
    · refine wp_if (fun hq => ?_) (fun hq => ?_)
      · exact wp_ret ⟨by rw [if_pos hq, hq], agQ_refl _⟩
      · rcases who1_in (M 158) n 10 0 with h | ⟨j, hj, ha⟩
        · exact absurd h hq
        · have := al_lt ha
          rw [hj]
          refine wp_eI (th_taken_eq _ (M 158) j n hn h10 (by omega) M (rW_wd hw) hc) ?_
          exact wp_ret ⟨by rw [if_neg (by omega), if_neg hw0, tn_n], agQ_refl _⟩
  · intro L Lk M hI
    obtain ⟨⟨hW, hT, hw, hv, hok⟩, -⟩ := hI
    obtain ⟨n, hn, h10⟩ := okW_n hW
    have h0 := hW.2.2.1
    have hc : ∀ i, i < 10 → 0 ≤ M 158 (31 + i) ∧ M 158 (31 + i) ≤ 20000 := fun i hi => by
      have := hW.2.2.2.2.2.2.2.2.2.2.2.2.2 i hi; omega
    rw [l_m_game]
    refine wp_eI (m_isIn_eq _ _ _ _ _) ?_
    refine wp_bif (fun h1 => ?_) (fun h1 => ?_)
    · exact wp_ret ⟨by rw [if_neg (of_decide_eq_false h1)], agQ_refl _⟩
    have h1 := of_decide_eq_true h1
    rw [if_pos h1, hn, tn_n]
    have lp : ∀ (f i : Nat), i + f = n → w_m_game_15 (d + 39) w ((xr (M 158) i : Nat) : Int) i M = w_m_game_44 (d + 39) w ((xr (M 158) n : Nat) : Int) 0 M := by
      intro f
      induction f with
      | zero => intro i hi; rw [u_m_game_15, al158, inb_s (by omega) (by omega), if_neg (by omega), show i = n by omega]
      | succ f ih =>
        intro i hi
        have hci := hc i (by omega)
        have ih := ih (i + 1) (by omega)
        rw [u_m_game_15, al158, inb_s (by omega) (by omega), if_pos (by omega), m_heapOf_eq _ (M 158) i n hn h10 (by omega) M rfl, bndI_s]
        simp (disch := omega) only [w32_i]
        have e1 : irem (if al (M 158) i = true then M 158 (31 + i) else 0) 4 = ((hN (M 158) i : Nat) : Int) := by
          unfold hN
          split
          · rw [irem_nn (by omega) (by omega) (by omega) (by omega)]; omega
          · rw [irem_nn (by omega) (by omega) (by omega) (by omega)]; rfl
        have x1 := xr_lt (M 158) i
        have x2 := hN_lt (M 158) i
        rw [e1, ixor_nat (by omega) (by omega)]
        exact ih
    have e10 := who1_10 hn n 0 (10 - n) (by omega)
    rw [show n + (10 - n) = 10 by omega] at e10
    rw [e10]
    exact ⟨_, _, (lp n 0 (by omega)).trans (m_game_44_lp _ (M 158) w n hn h10 M rfl hc n 0 (by omega)), rfl, agQ_refl _⟩
