/-! moves: days and digits -/
def q8 : Nat → Int
  | 0 => 6553600000000
  | 1 => 163840000000
  | 2 => 4096000000
  | 3 => 102400000
  | 4 => 2560000
  | 5 => 64000
  | 6 => 1600
  | 7 => 40
  | _ => 1
theorem q8_b (i : Nat) : 1 ≤ q8 i ∧ q8 i ≤ 6553600000000 ∧ (1 ≤ i → q8 i ≤ 163840000000) := by
  rcases i with _ | _ | _ | _ | _ | _ | _ | _ | i <;> simp [q8]
def cC (o fe : Nat → Int) (i t : Nat) : Bool := decide (ab ((t : Int) - o i) ≤ fe i)
def gC (o : Nat → Int) (i t : Nat) : Int := ab ((t : Int) - o i) * 6553600000000 + (t : Int) * q8 (i + 1)
def cM (o fe fx : Nat → Int) (i u : Nat) : Bool := if fx i = -1 then decide (ab ((39 : Int) - u - o i) ≤ fe i) else decide (fx i = (39 : Int) - u)
def gM (o : Nat → Int) (i u : Nat) : Int := ab ((39 : Int) - u - o i)
def PP (m : Int) (f : Nat → Int) : Nat → Int
  | 0 => m
  | i + 1 => PP m f i * 40 + f i
def xt (n : Nat) (f : Nat → Nat) (i : Nat) : Int := if i < n then (f i : Int) else 0
theorem ab_nn (x : Int) : 0 ≤ ab x := by unfold ab; split <;> omega
theorem sm_lt {g : Nat → Nat → Int} {S : Nat} {f : Nat → Nat} : ∀ n, (∀ i, i < n → S.testBit i = true) → ∀ h : Nat → Int, (∀ i, i < n → h i = g i (f i)) → sm g S f n = (List.range n).foldl (fun a i => a + h i) 0
  | 0, _, _, _ => rfl
  | n + 1, hb, h, hh => by
    rw [List.range_succ, List.foldl_append, ← sm_lt n (fun i hi => hb i (by omega)) h fun i hi => hh i (by omega)]
    show sm g S f n + _ = sm g S f n + h n
    rw [if_pos (hb n (by omega)), hh n (by omega)]
theorem sm_x {g : Nat → Nat → Int} {S : Nat} {f : Nat → Nat} {n : Nat} (h : Nat → Int) (hb : ∀ i, i < n → S.testBit i = true) (h1 : ∀ i, i < n → h i = g i (f i)) (h2 : ∀ i, n ≤ i → h i = 0) : ∀ k, n ≤ k → sm g S f n = (List.range k).foldl (fun a i => a + h i) 0
  | 0, hk => by rw [show n = 0 by omega]; rfl
  | k + 1, hk => by
    by_cases e : n = k + 1
    · rw [← e]; exact sm_lt n hb h h1
    · rw [List.range_succ, List.foldl_append, ← sm_x h hb h1 h2 k (by omega)]
      show _ = sm g S f n + h k
      rw [h2 k (by omega)]; omega
theorem sm_8 {g : Nat → Nat → Int} {S : Nat} {f : Nat → Nat} {n : Nat} (h : Nat → Int) (hn : n ≤ 8) (hb : ∀ i, i < n → S.testBit i = true) (h1 : ∀ i, i < n → h i = g i (f i)) (h2 : ∀ i, n ≤ i → h i = 0) : sm g S f n = h 0 + h 1 + h 2 + h 3 + h 4 + h 5 + h 6 + h 7 := by
  rw [sm_x h hb h1 h2 8 hn]
  simp only [List.range, List.range.loop, List.foldl_cons, List.foldl_nil]
  omega
/-- the days moved in all -/
def mvs (o : Nat → Int) (n : Nat) (f : Nat → Nat) : Int := sm (fun i t => ab ((t : Int) - o i)) (2 ^ n - 1) f n
theorem full_tb {n i : Nat} (h : i < n) : (2 ^ n - 1).testBit i = true := by rw [Nat.testBit_two_pow_sub_one]; simp [h]
theorem W_PP {o : Nat → Int} {n : Nat} (hn : n ≤ 8) (f : Nat → Nat) : sm (gC o) (2 ^ n - 1) f n = PP (mvs o n f) (xt n f) 8 := by
  have e1 := sm_8 (g := fun i t => ab ((t : Int) - o i)) (S := 2 ^ n - 1) (f := f) (n := n) (fun i => if i < n then ab ((f i : Int) - o i) else 0) hn (fun i hi => full_tb hi) (fun i hi => if_pos hi) (fun i hi => if_neg (by omega))
  have e2 := sm_8 (g := gC o) (S := 2 ^ n - 1) (f := f) (n := n) (fun i => (if i < n then ab ((f i : Int) - o i) else 0) * 6553600000000 + xt n f i * q8 (i + 1)) hn (fun i hi => full_tb hi) (fun i hi => by simp only [xt, if_pos hi]; rfl) (fun i hi => by simp only [xt, if_neg (show ¬ i < n by omega)]; omega)
  unfold mvs
  rw [e1, e2]
  simp only [PP, q8]
  omega
theorem xt_b {n : Nat} {f : Nat → Nat} (h : ∀ i, i < n → f i < 40) (i : Nat) : 0 ≤ xt n f i ∧ xt n f i < 40 := by
  unfold xt; split
  next h' => have := h i h'; omega
  next => omega
theorem PP_le {m m' : Int} {f f' : Nat → Int} (hf : ∀ i, 0 ≤ f i ∧ f i < 40) (hf' : ∀ i, 0 ≤ f' i ∧ f' i < 40) : ∀ k j, PP m f (j + k) ≤ PP m' f' (j + k) → PP m f j ≤ PP m' f' j
  | 0, _, h => h
  | k + 1, j, h => by
    refine PP_le hf hf' k j ?_
    have h' : PP m f (j + k) * 40 + f (j + k) ≤ PP m' f' (j + k) * 40 + f' (j + k) := h
    have := hf (j + k)
    have := hf' (j + k)
    omega
theorem PP_eq {m : Int} {f f' : Nat → Int} : ∀ j, (∀ i, i < j → f i = f' i) → PP m f j = PP m f' j
  | 0, _ => rfl
  | j + 1, h => by
    show PP m f j * 40 + f j = PP m f' j * 40 + f' j
    rw [PP_eq j fun i hi => h i (by omega), h j (by omega)]
theorem PP_nn {m : Int} {f : Nat → Int} (hm : 0 ≤ m) (hf : ∀ i, 0 ≤ f i ∧ f i < 40) : ∀ j, 0 ≤ PP m f j
  | 0 => hm
  | j + 1 => by
    show 0 ≤ PP m f j * 40 + f j
    have := PP_nn hm hf j
    have := hf j
    omega
theorem mvs_nn {o : Nat → Int} {n : Nat} {f : Nat → Nat} : 0 ≤ mvs o n f := by
  have : ∀ k, 0 ≤ sm (fun i t => ab ((t : Int) - o i)) (2 ^ n - 1) f k := by
    intro k
    induction k with
    | zero => exact Int.le_refl _
    | succ k ih =>
      show 0 ≤ _ + _
      have := ab_nn ((f k : Int) - o k)
      dsimp only
      split <;> omega
  exact this n
/-- a way of all feasts, from the last day on, is one from the first day on -/
theorem wy_m {o fe fx : Nat → Int} {n : Nat} {f : Nat → Nat} (h : wy (cC o fe) n (2 ^ n - 1) 40 f) (hx : ∀ i, i < n → fx i = -1 ∨ fx i = f i) : wy (cM o fe fx) n (2 ^ n - 1) 40 fun i => 39 - f i := by
  refine ⟨fun i hi hb => ?_, fun i j hi hj bi bj he => ?_⟩
  · obtain ⟨a, b⟩ := h.1 i hi hb
    refine ⟨by dsimp only; omega, ?_⟩
    have b' := of_decide_eq_true b
    unfold cM
    rw [show (39 : Int) - ((39 - f i : Nat) : Int) = f i by omega]
    split
    · exact decide_eq_true b'
    · rcases hx i hi with e | e
      · contradiction
      · exact decide_eq_true e
  · have a := (h.1 i hi bi).1
    have b := (h.1 j hj bj).1
    dsimp only at he
    exact h.2 i j hi hj bi bj (by omega)
theorem wy_c {o fe fx : Nat → Int} {n : Nat} {f : Nat → Nat} (h : wy (cM o fe fx) n (2 ^ n - 1) 40 f) (hx : ∀ i, i < n → fx i = -1 ∨ ab (fx i - o i) ≤ fe i) : wy (cC o fe) n (2 ^ n - 1) 40 (fun i => 39 - f i) ∧ ∀ i, i < n → fx i = -1 ∨ fx i = ((39 - f i : Nat) : Int) := by
  refine ⟨⟨fun i hi hb => ?_, fun i j hi hj bi bj he => ?_⟩, fun i hi => ?_⟩
  · obtain ⟨a, b⟩ := h.1 i hi hb
    refine ⟨by dsimp only; omega, ?_⟩
    unfold cM at b
    unfold cC
    rw [show ((39 - f i : Nat) : Int) = 39 - f i by omega]
    by_cases e : fx i = -1
    · rw [if_pos e] at b; exact b
    · rw [if_neg e] at b
      have b' := of_decide_eq_true b
      rw [← b']
      exact decide_eq_true ((hx i hi).resolve_left e)
  · have a := (h.1 i hi bi).1
    have b := (h.1 j hj bj).1
    dsimp only at he
    exact h.2 i j hi hj bi bj (by omega)
  · obtain ⟨a, b⟩ := h.1 i hi (full_tb hi)
    unfold cM at b
    by_cases e : fx i = -1
    · exact Or.inl e
    · rw [if_neg e] at b
      have b' := of_decide_eq_true b
      exact Or.inr (by omega)
theorem sm_gM {o : Nat → Int} {n : Nat} {f : Nat → Nat} (h : ∀ i, i < n → f i < 40) : sm (gM o) (2 ^ n - 1) (fun i => 39 - f i) n = mvs o n f := by
  have : ∀ k, k ≤ n → sm (gM o) (2 ^ n - 1) (fun i => 39 - f i) k = sm (fun i t => ab ((t : Int) - o i)) (2 ^ n - 1) f k := by
    intro k hk
    induction k with
    | zero => rfl
    | succ k ih =>
      show _ + _ = _ + _
      rw [ih (by omega)]
      unfold gM
      rw [show (39 : Int) - ((39 - f k : Nat) : Int) = f k by have := h k (by omega); omega]
  exact this n (Nat.le_refl _)
theorem gC_nn (o : Nat → Int) (i t : Nat) : 0 ≤ gC o i t := by
  unfold gC
  have := ab_nn ((t : Int) - o i)
  have : 0 ≤ (t : Int) * q8 (i + 1) := Int.mul_nonneg (by omega) (by have := q8_b (i + 1); omega)
  omega
theorem gM_nn (o : Nat → Int) (i u : Nat) : 0 ≤ gM o i u := ab_nn _
noncomputable def mvB (o fe : Nat → Int) (n : Nat) : Int := dX (cC o fe) (gC o) 4000000000000000000 n 40 (2 ^ n - 1)
noncomputable def mvT (o fe fx : Nat → Int) (n : Nat) : Int := dX (cM o fe fx) (gM o) 1000000 n 40 (2 ^ n - 1)
theorem gC_bd {o fe : Nat → Int} {i t : Nat} (ht : t < 40) (hc : cC o fe i t = true) (hf : fe i ≤ 9) : gC o i t ≤ 65536000000000 := by
  have a := of_decide_eq_true hc
  obtain ⟨b1, b2, b3⟩ := q8_b (i + 1)
  have b4 := b3 (by omega)
  have : (t : Int) * q8 (i + 1) ≤ 39 * 163840000000 := Int.le_trans (Int.mul_le_mul_of_nonneg_right (show (t : Int) ≤ 39 by omega) (by omega)) (Int.mul_le_mul_of_nonneg_left b4 (by omega))
  unfold gC
  omega
theorem two_lt {n : Nat} : 2 ^ n - 1 < 2 ^ n := by have := Nat.two_pow_pos n; omega
/-- some way: then both find one -/
theorem mv_lt {o fe : Nat → Int} {n : Nat} (hn : n ≤ 8) (hf : ∀ i, i < n → fe i ≤ 9) {f : Nat → Nat} (w : wy (cC o fe) n (2 ^ n - 1) 40 f) : mvB o fe n ≤ sm (gC o) (2 ^ n - 1) f n ∧ sm (gC o) (2 ^ n - 1) f n < 4000000000000000000 := by
  refine ⟨dX_le (by omega) 40 _ f two_lt w, ?_⟩
  have := sm_bd (g := gC o) (S := 2 ^ n - 1) (f := f) (G := 65536000000000) (by omega) n fun i hi hb => ⟨gC_nn _ _ _, gC_bd (w.1 i hi hb).1 (w.1 i hi hb).2 (hf i hi)⟩
  omega
theorem mv_lt2 {o fe fx : Nat → Int} {n : Nat} (hn : n ≤ 8) (ho : ∀ i, i < n → 0 ≤ o i ∧ o i ≤ 30) {f : Nat → Nat} (w : wy (cC o fe) n (2 ^ n - 1) 40 f) (hx : ∀ i, i < n → fx i = -1 ∨ fx i = f i) : mvT o fe fx n ≤ mvs o n f ∧ mvs o n f < 1000000 := by
  have a := dX_le (g := gM o) (NO := 1000000) (by omega) 40 _ _ two_lt (wy_m w hx)
  rw [sm_gM fun i hi => (w.1 i hi (full_tb hi)).1] at a
  refine ⟨a, ?_⟩
  have := sm_bd (g := fun i t => ab ((t : Int) - o i)) (S := 2 ^ n - 1) (f := f) (G := 40) (by omega) n fun i hi hb => ⟨ab_nn _, by
    have := ho i hi
    have := (w.1 i hi hb).1
    unfold ab; split <;> omega⟩
  unfold mvs
  omega
/-- the best way -/
def bW (o fe : Nat → Int) (n : Nat) (f : Nat → Nat) : Prop := wy (cC o fe) n (2 ^ n - 1) 40 f ∧ sm (gC o) (2 ^ n - 1) f n = mvB o fe n
theorem bW_ex {o fe : Nat → Int} {n : Nat} (hn : n ≤ 8) (h : mvB o fe n < 4000000000000000000) : ∃ f, bW o fe n f := by
  obtain ⟨f, w, e⟩ := dX_ex (by omega) (gC_nn o) 40 _ two_lt h
  exact ⟨f, w, e⟩
theorem bW_40 {o fe : Nat → Int} {n : Nat} {f : Nat → Nat} (b : bW o fe n f) (i : Nat) (hi : i < n) : f i < 40 := (b.1.1 i hi (full_tb hi)).1
theorem bW_PP {o fe : Nat → Int} {n : Nat} (hn : n ≤ 8) {f : Nat → Nat} (b : bW o fe n f) : mvB o fe n = PP (mvs o n f) (xt n f) 8 := by rw [← b.2, W_PP hn]
theorem bW_le {o fe : Nat → Int} {n : Nat} (hn : n ≤ 8) (hf : ∀ i, i < n → fe i ≤ 9) {f g : Nat → Nat} (b : bW o fe n f) (w : wy (cC o fe) n (2 ^ n - 1) 40 g) (j : Nat) (hj : j ≤ 8) : PP (mvs o n f) (xt n f) j ≤ PP (mvs o n g) (xt n g) j := by
  have a := (mv_lt hn hf w).1
  rw [W_PP hn, bW_PP hn b] at a
  refine PP_le (xt_b (bW_40 b)) (xt_b fun i hi => (w.1 i hi (full_tb hi)).1) (8 - j) j ?_
  rw [show j + (8 - j) = 8 by omega]; exact a
/-- the reference's least sum is that of the best way -/
theorem mvT_eq {o fe fx : Nat → Int} {n : Nat} (hn : n ≤ 8) (ho : ∀ i, i < n → 0 ≤ o i ∧ o i ≤ 30) (hf : ∀ i, i < n → fe i ≤ 9) {f : Nat → Nat} (b : bW o fe n f) (hx : ∀ i, i < n → fx i = -1 ∨ fx i = f i) : mvT o fe fx n = mvs o n f := by
  obtain ⟨a1, a2⟩ := mv_lt2 hn ho b.1 hx
  obtain ⟨g, w, e⟩ := dX_ex (can := cM o fe fx) (g := gM o) (NO := 1000000) (n := n) (by omega) (gM_nn o) 40 _ two_lt (show mvT o fe fx n < 1000000 by omega)
  obtain ⟨w', -⟩ := wy_c w fun i hi => (hx i hi).imp id fun e => by rw [e]; exact of_decide_eq_true (b.1.1 i hi (full_tb hi)).2
  have c := bW_le hn hf b w' 0 (by omega)
  have e3 := sm_gM (o := o) (n := n) (f := fun i => 39 - g i) fun i hi => by omega
  rw [sm_eq (S' := 2 ^ n - 1) (f' := g) n fun i hi => ⟨rfl, fun hb => by have := (w.1 i hi hb).1; omega⟩] at e3
  have e' : sm (gM o) (2 ^ n - 1) g n = mvT o fe fx n := e
  have c' : mvs o n f ≤ mvs o n fun i => 39 - g i := c
  omega
theorem mvT_no {o fe fx : Nat → Int} {n : Nat} (hn : n ≤ 8) (hf : ∀ i, i < n → fe i ≤ 9) (h : ¬ mvB o fe n < 4000000000000000000) (hx : ∀ i, i < n → fx i = -1) : ¬ mvT o fe fx n < 1000000 := by
  intro h2
  obtain ⟨g, w, e⟩ := dX_ex (can := cM o fe fx) (g := gM o) (NO := 1000000) (n := n) (by omega) (gM_nn o) 40 _ two_lt h2
  obtain ⟨w', -⟩ := wy_c w fun i hi => Or.inl (hx i hi)
  have := mv_lt hn hf w'
  omega
/-- no earlier day of the next feast goes with so few days moved -/
theorem mvT_day {o fe fx : Nat → Int} {n : Nat} (hn : n ≤ 8) (ho : ∀ i, i < n → 0 ≤ o i ∧ o i ≤ 30) (hf : ∀ i, i < n → fe i ≤ 9) {f : Nat → Nat} (b : bW o fe n f) {j : Nat} (hj : j < n) (h1 : ∀ i, i < j → fx i = f i) (h2 : imax 0 (o j - fe j) ≤ fx j ∧ fx j < f j) (h3 : ∀ i, j < i → i < n → fx i = -1) : mvT o fe fx n ≠ mvs o n f := by
  intro he
  have a := (mv_lt2 (fx := fun _ => -1) hn ho b.1 fun i _ => Or.inl rfl).2
  have hm : 0 ≤ imax 0 (o j - fe j) ∧ o j - fe j ≤ imax 0 (o j - fe j) := by unfold imax; split <;> omega
  obtain ⟨g, w, e⟩ := dX_ex (can := cM o fe fx) (g := gM o) (NO := 1000000) (n := n) (by omega) (gM_nn o) 40 _ two_lt (show mvT o fe fx n < 1000000 by omega)
  have hcf : ∀ i, i < n → ab ((f i : Int) - o i) ≤ fe i := fun i hi => of_decide_eq_true (b.1.1 i hi (full_tb hi)).2
  obtain ⟨w', hx'⟩ := wy_c w fun i hi => by
    rcases Nat.lt_trichotomy i j with e | e | e
    · exact Or.inr (by rw [h1 i e]; exact hcf i hi)
    · subst e
      refine Or.inr ?_
      have := hcf i hi
      unfold ab at this ⊢
      split at this <;> split <;> omega
    · exact Or.inl (h3 i e hi)
  have e3 := sm_gM (o := o) (n := n) (f := fun i => 39 - g i) fun i hi => by omega
  rw [sm_eq (S' := 2 ^ n - 1) (f' := g) n fun i hi => ⟨rfl, fun hb => by have := (w.1 i hi hb).1; omega⟩] at e3
  have e' : sm (gM o) (2 ^ n - 1) g n = mvT o fe fx n := e
  have c := bW_le hn hf b w' (j + 1) (by omega)
  have hmv : mvs o n (fun i => 39 - g i) = mvs o n f := by omega
  rw [hmv] at c
  have c' : PP (mvs o n f) (xt n f) j * 40 + xt n f j ≤ PP (mvs o n f) (xt n fun i => 39 - g i) j * 40 + xt n (fun i => 39 - g i) j := c
  rw [PP_eq (f := xt n f) (f' := xt n fun i => 39 - g i) j fun i hi => ?_] at c'
  · have := hx' j hj
    unfold xt at c'
    rw [if_pos hj, if_pos hj] at c'
    dsimp only at c' this
    omega
  · unfold xt
    rw [if_pos (by omega), if_pos (by omega)]
    have a1 := hx' i (by omega)
    have a2 := h1 i hi
    dsimp only at a1 ⊢
    omega
