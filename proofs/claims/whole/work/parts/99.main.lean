/-! The law's loop: every script is answered alike. -/
def scr (n : Nat) (M : aM) : Prop := M 998 0 = n ∧ n ≤ 3072 ∧ ∀ i, i < n → in32 (M 999 i)
theorem scr_e {n : Nat} {M M' : aM} (h : scr n M) (h1 : M' 998 = M 998) (h2 : M' 999 = M 999) : scr n M' := by unfold scr at h ⊢; rw [h1, h2]; exact h
def kK (M : aM) (k : aM → aR) (Q : List aV → aM → Prop) : Prop := ∀ M2, (∃ L Lk, Inv L Lk M2) → M2 998 = M 998 → M2 999 = M 999 → wp (k M2) Q
theorem go_r {n p j : Nat} {M : aM} (hs : scr n M) (hp : p + 6 ≤ n) (hj : j < 6) : w32 ((p : Int) + j) = ((p + j : Nat) : Int) := by
  have := hs.2.1
  rw [w32_i (by omega) (by omega)]; omega
theorem go_i {n p j : Nat} {M : aM} {k : aR} {Q : List aV → aM → Prop} (hs : scr n M) (hp : p + 6 ≤ n) (hj : j < 6) (h : wp k Q) : wp (inb (w32 ((p : Int) + j)) (M 998 0).toNat k) Q := by
  rw [go_r hs hp hj, hs.1]
  exact wp_inb (by omega) h
theorem go_a {n p j : Nat} {M : aM} (hs : scr n M) (hp : p + 6 ≤ n) (hj : j < 6) : in32 (M 999 (w32 ((p : Int) + j)).toNat) := by
  rw [go_r hs hp hj, Int.toNat_natCast]
  exact hs.2.2 _ (by omega)
theorem go0 {x m : aM → aR} {L Lk : aLaw} {M : aM} {k : aM → aR} {Q : List aV → aM → Prop} (h : pr x m) (hI : Inv L Lk M) (hk : kK M k Q) : wp (bndI (x M) fun y M1 => bndI (m M1) fun z M2 => if y = z then k M2 else some ([aI 0], M2)) Q := by
  obtain ⟨v, M1, M2, e1, e2, i2, ⟨a1, a2⟩, b1, b2⟩ := h L Lk M hI
  refine wp_eI e1 (wp_eI e2 ?_)
  rw [if_pos rfl]
  exact hk M2 i2 b1 b2
theorem go1 {x m : Int → aM → aR} {n p : Nat} {L Lk : aLaw} {M : aM} {k : aM → aR} {Q : List aV → aM → Prop} (hs : scr n M) (hp : p + 6 ≤ n) (h : ∀ a, in32 a → pr (x a) (m a)) (hI : Inv L Lk M) (hk : kK M k Q) : wp (inb (w32 ((p : Int) + 1)) (M 998 0).toNat <| bndI (x (M 999 (w32 ((p : Int) + 1)).toNat) M) fun y M1 => inb (w32 ((p : Int) + 1)) (M1 998 0).toNat <| bndI (m (M1 999 (w32 ((p : Int) + 1)).toNat) M1) fun z M2 => if y = z then k M2 else some ([aI 0], M2)) Q := by
  obtain ⟨v, M1, M2, e1, e2, i2, ⟨a1, a2⟩, b1, b2⟩ := h (M 999 (w32 ((p : Int) + 1)).toNat) (go_a (j := 1) hs hp (by omega)) L Lk M hI
  have hs1 := scr_e hs a1 a2
  refine go_i (j := 1) hs hp (by omega) ?_
  refine wp_eI e1 ?_
  refine go_i (j := 1) hs1 hp (by omega) ?_
  rw [a2]
  refine wp_eI e2 ?_
  rw [if_pos rfl]
  exact hk M2 i2 b1 b2
theorem go2 {x m : Int → Int → aM → aR} {n p : Nat} {L Lk : aLaw} {M : aM} {k : aM → aR} {Q : List aV → aM → Prop} (hs : scr n M) (hp : p + 6 ≤ n) (h : ∀ a b, in32 b → pr (x a b) (m a b)) (hI : Inv L Lk M) (hk : kK M k Q) : wp (inb (w32 ((p : Int) + 1)) (M 998 0).toNat <| inb (w32 ((p : Int) + 2)) (M 998 0).toNat <| bndI (x (M 999 (w32 ((p : Int) + 1)).toNat) (M 999 (w32 ((p : Int) + 2)).toNat) M) fun y M1 => inb (w32 ((p : Int) + 1)) (M1 998 0).toNat <| inb (w32 ((p : Int) + 2)) (M1 998 0).toNat <| bndI (m (M1 999 (w32 ((p : Int) + 1)).toNat) (M1 999 (w32 ((p : Int) + 2)).toNat) M1) fun z M2 => if y = z then k M2 else some ([aI 0], M2)) Q := by
  obtain ⟨v, M1, M2, e1, e2, i2, ⟨a1, a2⟩, b1, b2⟩ := h (M 999 (w32 ((p : Int) + 1)).toNat) (M 999 (w32 ((p : Int) + 2)).toNat) (go_a (j := 2) hs hp (by omega)) L Lk M hI
  have hs1 := scr_e hs a1 a2
  refine go_i (j := 1) hs hp (by omega) ?_
  refine go_i (j := 2) hs hp (by omega) ?_
  refine wp_eI e1 ?_
  refine go_i (j := 1) hs1 hp (by omega) ?_
  refine go_i (j := 2) hs1 hp (by omega) ?_
  rw [a2]
  refine wp_eI e2 ?_
  rw [if_pos rfl]
  exact hk M2 i2 b1 b2
theorem go3 {x m : Int → Int → Int → aM → aR} {n p : Nat} {L Lk : aLaw} {M : aM} {k : aM → aR} {Q : List aV → aM → Prop} (hs : scr n M) (hp : p + 6 ≤ n) (h : ∀ a b c, pr (x a b c) (m a b c)) (hI : Inv L Lk M) (hk : kK M k Q) : wp (inb (w32 ((p : Int) + 1)) (M 998 0).toNat <| inb (w32 ((p : Int) + 2)) (M 998 0).toNat <| inb (w32 ((p : Int) + 3)) (M 998 0).toNat <| bndI (x (M 999 (w32 ((p : Int) + 1)).toNat) (M 999 (w32 ((p : Int) + 2)).toNat) (M 999 (w32 ((p : Int) + 3)).toNat) M) fun y M1 => inb (w32 ((p : Int) + 1)) (M1 998 0).toNat <| inb (w32 ((p : Int) + 2)) (M1 998 0).toNat <| inb (w32 ((p : Int) + 3)) (M1 998 0).toNat <| bndI (m (M1 999 (w32 ((p : Int) + 1)).toNat) (M1 999 (w32 ((p : Int) + 2)).toNat) (M1 999 (w32 ((p : Int) + 3)).toNat) M1) fun z M2 => if y = z then k M2 else some ([aI 0], M2)) Q := by
  obtain ⟨v, M1, M2, e1, e2, i2, ⟨a1, a2⟩, b1, b2⟩ := h (M 999 (w32 ((p : Int) + 1)).toNat) (M 999 (w32 ((p : Int) + 2)).toNat) (M 999 (w32 ((p : Int) + 3)).toNat) L Lk M hI
  have hs1 := scr_e hs a1 a2
  refine go_i (j := 1) hs hp (by omega) ?_
  refine go_i (j := 2) hs hp (by omega) ?_
  refine go_i (j := 3) hs hp (by omega) ?_
  refine wp_eI e1 ?_
  refine go_i (j := 1) hs1 hp (by omega) ?_
  refine go_i (j := 2) hs1 hp (by omega) ?_
  refine go_i (j := 3) hs1 hp (by omega) ?_
  rw [a2]
  refine wp_eI e2 ?_
  rw [if_pos rfl]
  exact hk M2 i2 b1 b2
theorem go5 {x m : Int → Int → Int → Int → Int → aM → aR} {n p : Nat} {L Lk : aLaw} {M : aM} {k : aM → aR} {Q : List aV → aM → Prop} (hs : scr n M) (hp : p + 6 ≤ n) (h : ∀ a b c e g, pr (x a b c e g) (m a b c e g)) (hI : Inv L Lk M) (hk : kK M k Q) : wp (inb (w32 ((p : Int) + 1)) (M 998 0).toNat <| inb (w32 ((p : Int) + 2)) (M 998 0).toNat <| inb (w32 ((p : Int) + 3)) (M 998 0).toNat <| inb (w32 ((p : Int) + 4)) (M 998 0).toNat <| inb (w32 ((p : Int) + 5)) (M 998 0).toNat <| bndI (x (M 999 (w32 ((p : Int) + 1)).toNat) (M 999 (w32 ((p : Int) + 2)).toNat) (M 999 (w32 ((p : Int) + 3)).toNat) (M 999 (w32 ((p : Int) + 4)).toNat) (M 999 (w32 ((p : Int) + 5)).toNat) M) fun y M1 => inb (w32 ((p : Int) + 1)) (M1 998 0).toNat <| inb (w32 ((p : Int) + 2)) (M1 998 0).toNat <| inb (w32 ((p : Int) + 3)) (M1 998 0).toNat <| inb (w32 ((p : Int) + 4)) (M1 998 0).toNat <| inb (w32 ((p : Int) + 5)) (M1 998 0).toNat <| bndI (m (M1 999 (w32 ((p : Int) + 1)).toNat) (M1 999 (w32 ((p : Int) + 2)).toNat) (M1 999 (w32 ((p : Int) + 3)).toNat) (M1 999 (w32 ((p : Int) + 4)).toNat) (M1 999 (w32 ((p : Int) + 5)).toNat) M1) fun z M2 => if y = z then k M2 else some ([aI 0], M2)) Q := by
  obtain ⟨v, M1, M2, e1, e2, i2, ⟨a1, a2⟩, b1, b2⟩ := h (M 999 (w32 ((p : Int) + 1)).toNat) (M 999 (w32 ((p : Int) + 2)).toNat) (M 999 (w32 ((p : Int) + 3)).toNat) (M 999 (w32 ((p : Int) + 4)).toNat) (M 999 (w32 ((p : Int) + 5)).toNat) L Lk M hI
  have hs1 := scr_e hs a1 a2
  refine go_i (j := 1) hs hp (by omega) ?_
  refine go_i (j := 2) hs hp (by omega) ?_
  refine go_i (j := 3) hs hp (by omega) ?_
  refine go_i (j := 4) hs hp (by omega) ?_
  refine go_i (j := 5) hs hp (by omega) ?_
  refine wp_eI e1 ?_
  refine go_i (j := 1) hs1 hp (by omega) ?_
  refine go_i (j := 2) hs1 hp (by omega) ?_
  refine go_i (j := 3) hs1 hp (by omega) ?_
  refine go_i (j := 4) hs1 hp (by omega) ?_
  refine go_i (j := 5) hs1 hp (by omega) ?_
  rw [a2]
  refine wp_eI e2 ?_
  rw [if_pos rfl]
  exact hk M2 i2 b1 b2
theorem goE {x m : Int → Int → aM → aR} {n p : Nat} {L Lk : aLaw} {M : aM} {k : aM → aR} {Q : List aV → aM → Prop} (hs : scr n M) (hp : p + 6 ≤ n) (h : ∀ (a : Int) (b : Bool), pr (x a (bI b)) (m a (bI b))) (hI : Inv L Lk M) (hk : kK M k Q) : wp (inb (w32 ((p : Int) + 1)) (M 998 0).toNat <| inb (w32 ((p : Int) + 2)) (M 998 0).toNat <| if (M 999 (w32 ((p : Int) + 2)).toNat) = 0 then
      (bndI (x (M 999 (w32 ((p : Int) + 1)).toNat) 0 M) fun y M1 => inb (w32 ((p : Int) + 1)) (M1 998 0).toNat <| inb (w32 ((p : Int) + 2)) (M1 998 0).toNat <| if (M1 999 (w32 ((p : Int) + 2)).toNat) = 0 then
        (bndI (m (M1 999 (w32 ((p : Int) + 1)).toNat) 0 M1) fun z M2 => if y = z then k M2 else some ([aI 0], M2))
      else (bndI (m (M1 999 (w32 ((p : Int) + 1)).toNat) 1 M1) fun z M2 => if y = z then k M2 else some ([aI 0], M2)))
    else
      (bndI (x (M 999 (w32 ((p : Int) + 1)).toNat) 1 M) fun y M1 => inb (w32 ((p : Int) + 1)) (M1 998 0).toNat <| inb (w32 ((p : Int) + 2)) (M1 998 0).toNat <| if (M1 999 (w32 ((p : Int) + 2)).toNat) = 0 then
        (bndI (m (M1 999 (w32 ((p : Int) + 1)).toNat) 0 M1) fun z M2 => if y = z then k M2 else some ([aI 0], M2))
      else (bndI (m (M1 999 (w32 ((p : Int) + 1)).toNat) 1 M1) fun z M2 => if y = z then k M2 else some ([aI 0], M2)))) Q := by
  refine go_i (j := 1) hs hp (by omega) (go_i (j := 2) hs hp (by omega) ?_)
  by_cases h0 : M 999 (w32 ((p : Int) + 2)).toNat = 0
  · obtain ⟨v, M1, M2, e1, e2, i2, ⟨a1, a2⟩, b1, b2⟩ := h (M 999 (w32 ((p : Int) + 1)).toNat) false L Lk M hI
    have hs1 := scr_e hs a1 a2
    refine wp_pos h0 (wp_eI e1 (go_i (j := 1) hs1 hp (by omega) (go_i (j := 2) hs1 hp (by omega) ?_)))
    rw [a2]
    refine wp_pos h0 (wp_eI e2 ?_)
    rw [if_pos rfl]
    exact hk M2 i2 b1 b2
  · obtain ⟨v, M1, M2, e1, e2, i2, ⟨a1, a2⟩, b1, b2⟩ := h (M 999 (w32 ((p : Int) + 1)).toNat) true L Lk M hI
    have hs1 := scr_e hs a1 a2
    refine wp_neg h0 (wp_eI e1 (go_i (j := 1) hs1 hp (by omega) (go_i (j := 2) hs1 hp (by omega) ?_)))
    rw [a2]
    refine wp_neg h0 (wp_eI e2 ?_)
    rw [if_pos rfl]
    exact hk M2 i2 b1 b2
theorem goM {x m : Int → aM → aR} {n p : Nat} {L Lk : aLaw} {M : aM} {k : aM → aR} {Q : List aV → aM → Prop} (hs : scr n M) (hp : p + 6 ≤ n) (h : ∀ (b : Bool), pr (x (bI b)) (m (bI b))) (hI : Inv L Lk M) (hk : kK M k Q) : wp (inb (w32 ((p : Int) + 1)) (M 998 0).toNat <| if (M 999 (w32 ((p : Int) + 1)).toNat) = 0 then
      (bndI (x 0 M) fun y M1 => inb (w32 ((p : Int) + 1)) (M1 998 0).toNat <| if (M1 999 (w32 ((p : Int) + 1)).toNat) = 0 then
        (bndI (m 0 M1) fun z M2 => if y = z then k M2 else some ([aI 0], M2))
      else (bndI (m 1 M1) fun z M2 => if y = z then k M2 else some ([aI 0], M2)))
    else
      (bndI (x 1 M) fun y M1 => inb (w32 ((p : Int) + 1)) (M1 998 0).toNat <| if (M1 999 (w32 ((p : Int) + 1)).toNat) = 0 then
        (bndI (m 0 M1) fun z M2 => if y = z then k M2 else some ([aI 0], M2))
      else (bndI (m 1 M1) fun z M2 => if y = z then k M2 else some ([aI 0], M2)))) Q := by
  refine go_i (j := 1) hs hp (by omega) ?_
  by_cases h0 : M 999 (w32 ((p : Int) + 1)).toNat = 0
  · obtain ⟨v, M1, M2, e1, e2, i2, ⟨a1, a2⟩, b1, b2⟩ := h false L Lk M hI
    have hs1 := scr_e hs a1 a2
    refine wp_pos h0 (wp_eI e1 (go_i (j := 1) hs1 hp (by omega) ?_))
    rw [a2]
    refine wp_pos h0 (wp_eI e2 ?_)
    rw [if_pos rfl]
    exact hk M2 i2 b1 b2
  · obtain ⟨v, M1, M2, e1, e2, i2, ⟨a1, a2⟩, b1, b2⟩ := h true L Lk M hI
    have hs1 := scr_e hs a1 a2
    refine wp_neg h0 (wp_eI e1 (go_i (j := 1) hs1 hp (by omega) ?_))
    rw [a2]
    refine wp_neg h0 (wp_eI e2 ?_)
    rw [if_pos rfl]
    exact hk M2 i2 b1 b2
theorem law_alike (d n : Nat) : ∀ (c p : Nat) (L Lk : aLaw) (M : aM), n < p + 6 * c → Inv L Lk M → scr n M → wp (w_lw_law_18 (d + 44) p M) fun r _ => r = [aI 1] := by
  intro c
  induction c with
  | zero =>
    intro p L Lk M hc hI hs
    have h2 := hs.2.1
    rw [u_lw_law_18, hs.1, w32_i (by omega) (by omega)]
    exact wp_pos (by omega) (wp_ret rfl)
  | succ c ih =>
    intro p L Lk M hc hI hs
    have h2 := hs.2.1
    rw [u_lw_law_18]
    by_cases hn : w32 (M 998 0 - 6) < (p : Int)
    · exact wp_pos hn (wp_ret rfl)
    refine wp_neg hn ?_
    rw [hs.1, w32_i (by omega) (by omega)] at hn
    have hp : p + 6 ≤ n := by omega
    have hK : kK M (fun M2 => w_lw_law_1158 (d + 44) p M2) (fun r _ => r = [aI 1]) := by
      rintro M2 ⟨L2, Lk2, i2⟩ a1 a2
      show wp (w_lw_law_1158 (d + 44) p M2) _
      rw [u_lw_law_1158]
      have e : w32 ((p : Int) + 6) = ((p + 6 : Nat) : Int) := by rw [w32_i (by omega) (by omega)]; omega
      dsimp only
      rw [e]
      exact ih (p + 6) L2 Lk2 M2 (by omega) i2 (scr_e hs a1 a2)
    refine wp_inb (by rw [hs.1]; omega) ?_
    refine wp_if (fun _ => go1 (x := w_x_state (d + 44)) (m := w_m_state (d + 44)) hs hp (fun a _ => pr_state (d + 4) a) hI hK) fun _ => ?_
    refine wp_if (fun _ => go2 (x := w_x_deer (d + 44)) (m := w_m_deer (d + 44)) hs hp (fun a b _ => pr_deer (d + 4) a b) hI hK) fun _ => ?_
    refine wp_if (fun _ => go3 (x := w_x_set (d + 44)) (m := w_m_set (d + 44)) hs hp (fun a b c => pr_set (d + 4) a b c) hI hK) fun _ => ?_
    refine wp_if (fun _ => goE (x := w_x_eat (d + 44)) (m := w_m_eat (d + 44)) hs hp (fun a b => by cases b; exact pr_eat (d + 4) a false; exact pr_eat (d + 4) a true) hI hK) fun _ => ?_
    refine wp_if (fun _ => go1 (x := w_x_days (d + 44)) (m := w_m_days (d + 44)) hs hp (fun a _ => pr_days (d + 4) a) hI hK) fun _ => ?_
    refine wp_if (fun _ => go1 (x := w_x_waitFor (d + 44)) (m := w_m_waitFor (d + 44)) hs hp (fun a _ => pr_waitFor (d + 4) a) hI hK) fun _ => ?_
    refine wp_if (fun _ => go5 (x := w_x_feed (d + 44)) (m := w_m_feed (d + 44)) hs hp (fun a b c e g => pr_feed (d + 4) a b c e g) hI hK) fun _ => ?_
    refine wp_if (fun _ => go1 (x := w_x_end (d + 44)) (m := w_m_end (d + 44)) hs hp (fun a _ => pr_end (d + 4) a) hI hK) fun _ => ?_
    refine wp_if (fun _ => go1 (x := w_x_text (d + 44)) (m := w_m_text (d + 44)) hs hp (fun a _ => pr_text d a) hI hK) fun _ => ?_
    refine wp_if (fun _ => go1 (x := w_x_fault (d + 44)) (m := w_m_fault (d + 44)) hs hp (fun a _ => pr_fault (d + 4) a) hI hK) fun _ => ?_
    refine wp_if (fun _ => go2 (x := w_x_of (d + 44)) (m := w_m_of (d + 44)) hs hp (fun a b _ => pr_of (d + 4) a b) hI hK) fun _ => ?_
    refine wp_if (fun _ => go2 (x := w_x_due (d + 44)) (m := w_m_due (d + 44)) hs hp (fun a b _ => pr_due (d + 4) a b) hI hK) fun _ => ?_
    refine wp_if (fun _ => go2 (x := w_x_book (d + 44)) (m := w_m_book (d + 44)) hs hp (fun a b _ => pr_book (d + 4) a b) hI hK) fun _ => ?_
    refine wp_if (fun _ => go2 (x := w_x_next (d + 44)) (m := w_m_next (d + 44)) hs hp (fun a b _ => pr_next (d + 4) a b) hI hK) fun _ => ?_
    refine wp_if (fun _ => go0 (x := w_x_likeliest (d + 44)) (m := w_m_likeliest (d + 44)) (pr_likeliest (d + 4)) hI hK) fun _ => ?_
    refine wp_if (fun _ => go2 (x := w_x_goes (d + 44)) (m := w_m_goes (d + 44)) hs hp (fun a b _ => pr_goes (d + 4) a b) hI hK) fun _ => ?_
    refine wp_if (fun _ => go1 (x := w_x_reads (d + 44)) (m := w_m_reads (d + 44)) hs hp (fun a _ => pr_reads (d + 4) a) hI hK) fun _ => ?_
    refine wp_if (fun _ => go2 (x := w_x_seen (d + 44)) (m := w_m_seen (d + 44)) hs hp (fun a b _ => pr_seen (d + 4) a b) hI hK) fun _ => ?_
    refine wp_if (fun _ => go1 (x := w_x_orders (d + 44)) (m := w_m_orders (d + 44)) hs hp (fun a ha => pr_orders (d + 4) a ha) hI hK) fun _ => ?_
    refine wp_if (fun _ => go1 (x := w_x_moves (d + 44)) (m := w_m_moves (d + 44)) hs hp (fun a ha => pr_moves (d + 4) a ha) hI hK) fun _ => ?_
    refine wp_if (fun _ => go1 (x := w_x_work (d + 44)) (m := w_m_work (d + 44)) hs hp (fun a _ => pr_work (d + 4) a) hI hK) fun _ => ?_
    refine wp_if (fun _ => go1 (x := w_x_works (d + 44)) (m := w_m_works (d + 44)) hs hp (fun a _ => pr_works (d + 4) a) hI hK) fun _ => ?_
    refine wp_if (fun _ => go2 (x := w_x_gate (d + 44)) (m := w_m_gate (d + 44)) hs hp (fun a b _ => pr_gate (d + 4) a b) hI hK) fun _ => ?_
    refine wp_if (fun _ => go1 (x := w_x_watch (d + 44)) (m := w_m_watch (d + 44)) hs hp (fun a _ => pr_watch (d + 4) a) hI hK) fun _ => ?_
    refine wp_if (fun _ => go2 (x := w_x_ate (d + 44)) (m := w_m_ate (d + 44)) hs hp (fun a b _ => pr_ate (d + 4) a b) hI hK) fun _ => ?_
    refine wp_if (fun _ => go1 (x := w_x_ways (d + 44)) (m := w_m_ways (d + 44)) hs hp (fun a _ => pr_ways (d + 4) a) hI hK) fun _ => ?_
    refine wp_if (fun _ => go1 (x := w_x_vote (d + 44)) (m := w_m_vote (d + 44)) hs hp (fun a _ => pr_vote (d + 4) a) hI hK) fun _ => ?_
    refine wp_if (fun _ => go1 (x := w_x_votes (d + 44)) (m := w_m_votes (d + 44)) hs hp (fun a _ => pr_votes (d + 4) a) hI hK) fun _ => ?_
    refine wp_if (fun _ => go2 (x := w_x_salts (d + 44)) (m := w_m_salts (d + 44)) hs hp (fun a b hb => pr_salts (d + 4) a b hb) hI hK) fun _ => ?_
    refine wp_if (fun _ => go2 (x := w_x_nods (d + 44)) (m := w_m_nods (d + 44)) hs hp (fun a b _ => pr_nods (d + 4) a b) hI hK) fun _ => ?_
    refine wp_if (fun _ => go1 (x := w_x_game (d + 44)) (m := w_m_game (d + 44)) hs hp (fun a _ => pr_game (d + 4) a) hI hK) fun _ => ?_
    refine wp_if (fun _ => go0 (x := w_x_undo (d + 44)) (m := w_m_undo (d + 44)) (pr_undo (d + 4)) hI hK) fun _ => ?_
    refine wp_if (fun _ => goM (x := w_x_image (d + 44)) (m := w_m_image (d + 44)) hs hp (fun b => by cases b; exact pr_image (d + 4) false; exact pr_image (d + 4) true) hI hK) fun _ => ?_
    refine wp_if (fun _ => go1 (x := w_x_look (d + 44)) (m := w_m_look (d + 44)) hs hp (fun a _ => pr_look (d + 4) a) hI hK) fun _ => ?_
    exact hK M ⟨L, Lk, hI⟩ rfl rfl
