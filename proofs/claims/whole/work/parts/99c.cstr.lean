/-! What stands at the law's entry: the classes, the String constants, two statics. -/
def ctStr : List (Nat × Nat) := [(4, 82), (4, 84), (4, 86), (4, 88), (6, 58), (11, 137), (11, 139), (11, 141), (11, 143), (11, 145), (11, 147), (11, 149), (11, 113), (11, 119), (11, 121), (11, 123), (11, 125), (11, 127), (11, 129), (11, 131), (11, 133), (11, 135), (11, 154), (11, 156), (11, 158), (11, 169), (11, 171), (11, 173), (11, 175)]
noncomputable def ctTm (i : Nat) : Term := .string (aCls (ctStr.getD i (0, 0)).1) (ctStr.getD i (0, 0)).2
noncomputable def ctFl (i : Nat) : Term := .field (ctTm i) "java/lang/String" "value" "[B"
noncomputable def ctAtoms (i : Nat) : List Cond := [.exactly (ctTm i) "java/lang/String", .eq (.field (ctTm i) "java/lang/String" "coder" "B") (.int 0), .arrayOf (ctFl i) .byte, .eq (.length (ctFl i)) (.int (Int32.ofNat (aSlen.getD i 0)))] ++ (List.range (aSlen.getD i 0)).map fun j => .eq (.elem (ctFl i) (.int (Int32.ofNat j))) (.int ((aSbyt.getD i []).getD j 0))
def ctSub : List Cond → List Cond → Bool
  | l, [] => l.isEmpty
  | [], _ :: _ => true
  | x :: l, y :: k => bif decide (x = y) then ctSub l k else ctSub (x :: l) k
theorem ctSub_mem : ∀ (k l : List Cond), ctSub l k = true → ∀ w ∈ l, w ∈ k := by
  intro k
  induction k with
  | nil =>
    intro l h w hw
    cases l with
    | nil => cases hw
    | cons x l => cases h
  | cons y k ih =>
    intro l h w hw
    cases l with
    | nil => cases hw
    | cons x l =>
      unfold ctSub at h
      cases hc : decide (x = y) with
      | true =>
        rw [hc] at h
        rcases List.mem_cons.mp hw with rfl | hw
        · rw [of_decide_eq_true hc]; exact List.mem_cons_self
        · exact List.mem_cons_of_mem _ (ih l h w hw)
      | false =>
        rw [hc] at h
        exact List.mem_cons_of_mem _ (ih (x :: l) h w hw)
def ctPerm : List Nat := [0, 1, 2, 3, 4, 5, 6, 7, 8, 9, 10, 11, 12, 13, 14, 15, 16, 17, 18, 19, 20, 21, 22, 23, 24, 25, 26, 27, 28]
theorem ctPerm_all : ((List.range 29).all fun i => ctPerm.contains i) = true := by decide +kernel
theorem ctAtoms_pl : ctSub (ctPerm.flatMap ctAtoms) (flatC (Cond.and given_1 narrow_1)) = true := by decide +kernel
theorem ctAtoms_in {i : Nat} (hi : i < 29) : ∀ w ∈ ctAtoms i, w ∈ flatC (Cond.and given_1 narrow_1) := fun w hw => ctSub_mem _ _ ctAtoms_pl w (List.mem_flatMap.mpr ⟨i, List.contains_iff_mem.mp (List.all_eq_true.mp ctPerm_all i (List.mem_range.mpr hi)), hw⟩)
theorem ctStr_apart : ((List.range 29).all fun i => (List.range 29).all fun j => Nat.beq i j || !(Nat.beq (aSlen.getD i 0) (aSlen.getD j 0)) || (List.range (aSlen.getD i 0)).any fun p => decide ((aSbyt.getD i []).getD p 0 ≠ (aSbyt.getD j []).getD p 0)) = true := by decide +kernel
theorem ctStr_rs : (lw_tbl.all fun w => match w with
    | .stringRef o i t => (List.range 29).all fun k => !(decide (t = aStrT.getD k "")) || (decide (o = aCls (ctStr.getD k (0, 0)).1) && Nat.beq i (ctStr.getD k (0, 0)).2)
    | _ => true) = true := by decide +kernel
theorem ctWords : ([Cond.laysStatic "java/lang/String" "COMPACT_STRINGS" "Z", Cond.initialized "java/lang/String", Cond.laysStatic "jdk/internal/util/Preconditions" "SIOOBE_FORMATTER" "Ljava/util/function/BiFunction;", Cond.initialized "jdk/internal/util/Preconditions", Cond.arrayClass .int, Cond.arrayClass .long, Cond.arrayOver (.object "DeerDays$Wood")].all fun w => lw_tbl.contains w) = true := by decide +kernel
theorem ctWords_in : ∀ w ∈ [Cond.laysStatic "java/lang/String" "COMPACT_STRINGS" "Z", Cond.initialized "java/lang/String", Cond.laysStatic "jdk/internal/util/Preconditions" "SIOOBE_FORMATTER" "Ljava/util/function/BiFunction;", Cond.initialized "jdk/internal/util/Preconditions", Cond.arrayClass .int, Cond.arrayClass .long, Cond.arrayOver (.object "DeerDays$Wood")], w ∈ lw_tbl := fun w hw => List.contains_iff_mem.mp (List.all_eq_true.mp ctWords w hw)
theorem ctFlat : ctSub [Cond.eq (.static "java/lang/String" "COMPACT_STRINGS" "Z") (.int 1), Cond.isRef (.static "jdk/internal/util/Preconditions" "SIOOBE_FORMATTER" "Ljava/util/function/BiFunction;")] (flatC (Cond.and given_1 narrow_1)) = true := by decide +kernel
theorem ctFlat_in : ∀ w ∈ [Cond.eq (.static "java/lang/String" "COMPACT_STRINGS" "Z") (.int 1), Cond.isRef (.static "jdk/internal/util/Preconditions" "SIOOBE_FORMATTER" "Ljava/util/function/BiFunction;")], w ∈ flatC (Cond.and given_1 narrow_1) := ctSub_mem _ _ ctFlat
theorem ctIns_pl : ((List.range 12).all fun ci => lw_tbl.contains (.instantiable (aCls ci) (aNF ci))) = true := by decide +kernel
section CSTR
variable {args : Array Value} {s : State}
theorem ctStart_K (hts : ∀ w ∈ lw_tbl, w.before args s = true) : ∃ (D : va_G) (cI cJ cO : ClassId), ctK D cI cJ cO s := by
  have hts0 : ∀ w ∈ aT0, w.before args s = true := fun w hw => hts w (List.mem_filter.mp hw).1
  have h : ∀ ci : Nat, ∃ q : ClassId × (Nat → Nat), ci < 12 → u_Kn s (aCls ci) (aT ci) (aNF ci) q.1 q.2 := by
    intro ci
    by_cases hci : ci < 12
    · obtain ⟨cC, iS, hk⟩ := u_known (C := aCls ci) (T := aT ci) (N := aNF ci) (n := aNF ci) hts0 (aLay_in ci hci) (hts _ (List.contains_iff_mem.mp (List.all_eq_true.mp ctIns_pl ci (List.mem_range.mpr hci))))
      exact ⟨(cC, iS), fun _ => hk⟩
    · exact ⟨(default, fun _ => 0), fun z => absurd z hci⟩
  obtain ⟨f, hf⟩ := Classical.axiomOfChoice h
  obtain ⟨cI, kI, compI, i1, i2, i3⟩ := Cond.arrayClass_spec (hts _ (ctWords_in (.arrayClass .int) (by simp)))
  obtain ⟨cJ, kJ, compJ, j1, j2, j3⟩ := Cond.arrayClass_spec (hts _ (ctWords_in (.arrayClass .long) (by simp)))
  have hO := hts _ (ctWords_in (.arrayOver (.object "DeerDays$Wood")) (by simp))
  obtain ⟨compO, cO, kO, o1, -, o2, o3, o4⟩ := Cond.arrayOver_spec hO
  refine ⟨(fun c => (f c).1, fun c => (f c).2), cI, cJ, cO, ⟨fun c q hq => ?_, fun k q hk => ?_⟩, va_AO.of hO, fun t ht => va_Nw.of rfl (hts _ (ctNw_in t ht))⟩
  · by_cases hc : c < 12
    · rw [aCl_at hc] at hq
      cases hq
      exact hf c hc
    · unfold aCl at hq
      rw [List.getElem?_eq_none (by rw [List.length_map, List.length_range]; omega)] at hq
      cases hq
  · match k, hk with
    | 0, hk => cases hk; exact ⟨fun n z => ⟨fun k h => (by cases h), kI, i2, compI, i3⟩, i1⟩
    | 1, hk => cases hk; exact ⟨fun n z => ⟨fun k h => (by cases h), kJ, j2, compJ, j3⟩, j1⟩
    | 2, hk => cases hk; exact ⟨fun n z => ⟨fun k h => (by cases h), kO, o2, compO, o3⟩, kO, compO, o2, o3, o1, o4⟩
    | k + 3, hk => simp at hk
theorem ctOF_eq {o n d : String} {v w : Value} {t : Nat} {A : Nat → Prop} {H : Heap} (h1 : va_OF o n d v t A s H) (h2 : va_OF o n d w t A s H) : v = w := by
  obtain ⟨_, _, _, f1, c1, a1, -, a2, -, a3, -⟩ := h1
  obtain ⟨_, _, _, f2, c2, b1, -, b2, -, b3, -⟩ := h2
  have e1 := a1.symm.trans b1
  simp only [Option.some.injEq, Prod.mk.injEq] at e1
  have e2 : c1 = c2 := Option.some.inj (a2.symm.trans b2)
  rw [e2, e1.2.2.2] at a3
  exact Option.some.inj (a3.symm.trans b3)
theorem ctT_eq {ty : FieldType} {t N N' : Nat} {f g : Nat → Value} {A : Nat → Prop} {H : Heap} (hN : N < 2 ^ 31) (hN' : N' < 2 ^ 31) (h1 : va_T ty t N f A s H) (h2 : va_T ty t N' g A s H) : N = N' ∧ ∀ j, j < N → f j = g j := by
  obtain ⟨c1, a1, -, -, -, a2, a3, -⟩ := h1
  obtain ⟨c2, b1, -, -, -, b2, b3, -⟩ := h2
  have e : c1 = c2 := Option.some.inj (a1.symm.trans b1)
  subst e
  have e2 : Int32.ofNat N = Int32.ofNat N' := a2.symm.trans b2
  have e3 : N = N' := (nI_eq hN hN').mp e2
  subst e3
  exact ⟨rfl, fun j hj => Option.some.inj ((a3 j hj).symm.trans (b3 j hj))⟩
theorem ctStart_S (hts : ∀ w ∈ lw_tbl, w.before args s = true) (hgv : (Cond.and given_1 narrow_1).before args s = true) {A : Nat → Prop} (hA : ∀ a : Nat, a < s.heap.size → ¬ A a) : ∃ (kS kV : Nat → Nat) (fv : Value), fv.category = 1 ∧ vk_S 29 aSlen aSbyt kS kV A s s.heap ∧ (∀ own idx k, k < 29 → Cond.stringRef (aCls own) idx (aStrT.getD k "") ∈ lw_tbl → vk_R (aCls own) idx (aStrT.getD k "") (kS k) s) ∧
    va_Z "java/lang/String" "COMPACT_STRINGS" "Z" (.int 1) A s s.heap ∧ va_Z "jdk/internal/util/Preconditions" "SIOOBE_FORMATTER" "Ljava/util/function/BiFunction;" fv A s s.heap := by
  have hs := flat_of_before _ hgv
  have hlen : ∀ i, i < 29 → aSlen.getD i 0 < 2 ^ 31 := fun i hi => by
    rw [aStr_len i hi]
    have := aStr_small i
    omega
  have h : ∀ i : Nat, ∃ q : Nat × Nat, i < 29 → (va_O "java/lang/String" q.1 A s s.heap ∧ va_OF "java/lang/String" "coder" "B" (.int 0) q.1 A s s.heap ∧ va_OF "java/lang/String" "value" "[B" (.ref q.2) q.1 A s s.heap ∧ va_T .byte q.2 (aSlen.getD i 0) (fun j => .int ((aSbyt.getD i []).getD j 0)) A s s.heap) ∧ (ctTm i).eval args s none [] s = some (.ref q.1) := by
    intro i
    by_cases hi : i < 29
    · have at_ := fun w hw => hs w (ctAtoms_in hi w hw)
      obtain ⟨adK, adV, h1, h2⟩ := vk_Sof (args := args) (s := s) (N := 1) (tm := fun _ => ctTm i) (len := [aSlen.getD i 0]) (byt := [aSbyt.getD i []]) (A := A) (fun k hk => by
          obtain rfl : k = 0 := by omega
          exact hlen i hi)
        (fun k hk => at_ _ (List.mem_append_left _ List.mem_cons_self))
        (fun k hk => at_ _ (List.mem_append_left _ (List.mem_cons_of_mem _ List.mem_cons_self)))
        (fun k hk => at_ _ (List.mem_append_left _ (List.mem_cons_of_mem _ (List.mem_cons_of_mem _ List.mem_cons_self))))
        (fun k hk => by
          obtain rfl : k = 0 := by omega
          exact at_ _ (List.mem_append_left _ (List.mem_cons_of_mem _ (List.mem_cons_of_mem _ (List.mem_cons_of_mem _ List.mem_cons_self)))))
        (fun k hk j hj => by
          obtain rfl : k = 0 := by omega
          exact at_ _ (List.mem_append_right _ (List.mem_map.mpr ⟨j, List.mem_range.mpr hj, rfl⟩)))
        (fun a b ha hb hn => absurd (show a = b by omega) hn) hA
      exact ⟨(adK 0, adV 0), fun _ => ⟨h1.1 0 (by omega), h2 0 (by omega)⟩⟩
    · exact ⟨(0, 0), fun z => absurd z hi⟩
  obtain ⟨f, hf⟩ := Classical.axiomOfChoice h
  have hw := fun w hw => hts w (ctWords_in w hw)
  have hfl := fun w hw => hs w (ctFlat_in w hw)
  have hZ1 : va_Z "java/lang/String" "COMPACT_STRINGS" "Z" (.int 1) A s s.heap := va_Zof (hw _ List.mem_cons_self) (hw _ (List.mem_cons_of_mem _ List.mem_cons_self)) (va_eqi (hfl _ List.mem_cons_self)) hA
  have hZ2 := va_Zqof (A := A) (hw (.laysStatic "jdk/internal/util/Preconditions" "SIOOBE_FORMATTER" "Ljava/util/function/BiFunction;") (List.mem_cons_of_mem _ (List.mem_cons_of_mem _ List.mem_cons_self))) (hw _ (List.mem_cons_of_mem _ (List.mem_cons_of_mem _ (List.mem_cons_of_mem _ List.mem_cons_self)))) (hfl _ (List.mem_cons_of_mem _ List.mem_cons_self)) hA
  have hS : vk_S 29 aSlen aSbyt (fun i => (f i).1) (fun i => (f i).2) A s s.heap := by
    refine ⟨fun i hi => (hf i hi).1, fun i j hi hj e => ?_⟩
    obtain ⟨-, -, a1, a2⟩ := (hf i hi).1
    obtain ⟨-, -, b1, b2⟩ := (hf j hj).1
    dsimp only at e
    rw [← e] at b1
    have ev := ctOF_eq a1 b1
    have ev : (f i).2 = (f j).2 := by injection ev
    rw [← ev] at b2
    obtain ⟨n1, n2⟩ := ctT_eq (hlen i hi) (hlen j hj) a2 b2
    have hd := List.all_eq_true.mp (List.all_eq_true.mp ctStr_apart i (List.mem_range.mpr hi)) j (List.mem_range.mpr hj)
    rw [n1, Nat.beq_refl, Bool.not_true, Bool.or_false, Bool.or_eq_true] at hd
    rcases hd with hd | hd
    · exact Nat.eq_of_beq_eq_true hd
    · obtain ⟨p, hp, hd⟩ := List.any_eq_true.mp hd
      have h3 := n2 p (by rw [n1]; exact List.mem_range.mp hp)
      have h4 : (aSbyt.getD i []).getD p 0 = (aSbyt.getD j []).getD p 0 := by injection h3
      exact absurd h4 (of_decide_eq_true hd)
  have hR : ∀ own idx k, k < 29 → Cond.stringRef (aCls own) idx (aStrT.getD k "") ∈ lw_tbl → vk_R (aCls own) idx (aStrT.getD k "") (f k).1 s := by
    intro own idx k hk hm
    have h1 := List.all_eq_true.mp (List.all_eq_true.mp ctStr_rs _ hm) k (List.mem_range.mpr hk)
    rw [decide_eq_true (rfl : aStrT.getD k "" = aStrT.getD k ""), Bool.not_true, Bool.false_or] at h1
    obtain ⟨e1, e2⟩ := and_of h1
    have e1 := of_decide_eq_true e1
    have e2 := Nat.eq_of_beq_eq_true e2
    have h2 := (hf k hk).2
    unfold ctTm at h2
    rw [← e1, ← e2] at h2
    exact vk_R.of (hts _ hm) h2
  rcases hZ2 with h | ⟨t, h⟩
  · exact ⟨_, _, .null, rfl, hS, hR, hZ1, h⟩
  · exact ⟨_, _, .ref t, rfl, hS, hR, hZ1, h⟩
end CSTR
