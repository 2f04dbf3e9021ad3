/-! The constructors' machine is the machine's: an instruction. -/
theorem ctGet_mem {l : ctL} {a : Nat} {v : ctV} (h : ctGet l a = some v) : (a, v) ∈ l := by
  unfold ctGet at h
  cases hf : l.find? fun q => Nat.beq q.1 a with
  | none => rw [hf] at h; cases h
  | some q =>
    rw [hf] at h
    cases h
    have h1 := List.mem_of_find?_eq_some hf
    have h2 := List.find?_some hf
    have h2 := Nat.eq_of_beq_eq_true h2
    rw [← h2]
    exact h1
theorem ctRefN (base n : Nat) : ctVal base (1, (n : Int)) = .ref (base + n) := by
  show Value.ref ((base : Int) + n).toNat = _
  congr 1
theorem ctRefZ (base : Nat) {z : Int} (h : 0 ≤ z) : ctVal base (1, z) = .ref (base + z.toNat) := by
  show Value.ref ((base : Int) + z).toNat = _
  rw [show ((base : Int) + z).toNat = base + z.toNat by omega]
theorem ctSm_i {x : Int} (h : ctSm x = true) : (0 ≤ x ∧ x < 20000) ∧ in32 x := by
  have h : 0 ≤ x ∧ x < 20000 := of_decide_eq_true h
  exact ⟨h, by unfold in32; omega⟩
theorem ctCat (base : Nat) : ∀ (st : List ctV), st.all (fun v => Nat.blt v.1 3) = true → ((st.map (ctVal base)).map fun v => v.category).sum ≤ st.length
  | [], _ => Nat.le_refl _
  | v :: st, h => by
    simp only [List.all_cons, Bool.and_eq_true] at h
    have ih := ctCat base st h.2
    have hv : v.1 < 3 := Nat.le_of_ble_eq_true h.1
    have hc : (ctVal base v).category = 1 := by
      unfold ctVal
      by_cases h0 : v.1 = 0
      · rw [if_pos h0]; rfl
      · rw [if_neg h0]
        by_cases h1 : v.1 = 1
        · rw [if_pos h1]; rfl
        · rw [if_neg h1, if_pos (by omega)]; rfl
    simp only [List.map_cons, List.sum_cons, List.length_cons]
    omega
def ctLv (base : Nat) (ls : ctL) : List (Nat × Value) := ls.map fun q => (q.1, ctVal base q.2)
theorem ctLv_at {base nL a : Nat} {lsA : Array Slot} {ls : ctL} {v : ctV} (h : lv_has lsA nL (ctLv base ls)) (hv : ctGet ls a = some v) : lsA[a]? = some (.val (ctVal base v)) := h.2.2 (a, ctVal base v) (List.mem_map.mpr ⟨(a, v), ctGet_mem hv, rfl⟩)
theorem ctSto_has {base nL a : Nat} {lsA : Array Slot} {ls : ctL} {v : ctV} (h : lv_has lsA nL ((a, ctVal base v) :: (ctLv base ls).filter fun q => !(q.1 == a) && !(q.1 + 1 == a && q.2.category == 2))) : lv_has lsA nL (ctLv base (ctSto ls a v)) := by
  refine ⟨h.1, h.2.1, fun q hq => h.2.2 q ?_⟩
  obtain ⟨r, hr, rfl⟩ := List.mem_map.mp hq
  unfold ctSto at hr
  rcases List.mem_cons.mp hr with rfl | hr
  · exact List.mem_cons_self
  · obtain ⟨h1, h2⟩ := List.mem_filter.mp hr
    refine List.mem_cons_of_mem _ (List.mem_filter.mpr ⟨List.mem_map.mpr ⟨r, h1, rfl⟩, ?_⟩)
    obtain ⟨e1, e2⟩ := and_of h2
    have e1 : Nat.beq r.1 a = false := (Bool.not_eq_true' _).mp e1
    have n1 : r.1 ≠ a := fun e => by rw [e, Nat.beq_refl] at e1; cases e1
    have e2 : (Nat.beq (r.1 + 1) a && Nat.ble 3 r.2.1) = false := (Bool.not_eq_true' _).mp e2
    have n2 : ¬ (r.1 + 1 = a ∧ (ctVal base r.2).category = 2) := by
      rintro ⟨e, hc⟩
      have hb : Nat.beq (r.1 + 1) a = true := by rw [e]; exact Nat.beq_refl a
      rw [hb, Bool.true_and] at e2
      have h3 : r.2.1 < 3 := by
        rcases Nat.lt_or_ge r.2.1 3 with z | z
        · exact z
        · rw [Nat.ble_eq_true_of_le z] at e2; cases e2
      unfold ctVal at hc
      by_cases h0 : r.2.1 = 0
      · rw [if_pos h0] at hc; cases hc
      · rw [if_neg h0] at hc
        by_cases h1 : r.2.1 = 1
        · rw [if_pos h1] at hc; cases hc
        · rw [if_neg h1, if_pos (by omega)] at hc; cases hc
    simp only [Bool.and_eq_true, Bool.not_eq_true', beq_eq_false_iff_ne, Bool.and_eq_false_iff, beq_iff_eq]
    refine ⟨n1, ?_⟩
    by_cases e : r.1 + 1 = a
    · right; exact fun z => n2 ⟨e, z⟩
    · left; exact e
theorem ct_in {i : Int} {n : Nat} (h : ctSm i = true) (hn : Nat.blt i.toNat n = true) : vp_in (Int32.ofInt i) n ∧ (Int32.ofInt i).toNatClampNeg = i.toNat := by
  obtain ⟨h1, h2⟩ := ctSm_i h
  have hn : i.toNat < n := Nat.le_of_ble_eq_true hn
  exact ⟨vp_in_iff.mpr (by rw [i32_toInt h2]; omega), i32_clamp h2⟩
def ctK (D : va_G) (cI cJ cO : ClassId) (U : State) : Prop := va_K D aCl [(cI, .int), (cJ, .long), (cO, .object "DeerDays$Wood")] U ∧ va_AO "DeerDays$Wood" U ∧ ctNs U
noncomputable def ctPc (D : va_G) (cI cJ cO : ClassId) (h0 y : Nat) (vs : List ctV) : Array Value → State → Prop := fun v U => v = (.ref h0 :: vs.map (ctVal h0)).toArray ∧ ctK D cI cJ cO U ∧ cW D h0 [ctEnt cI cJ cO h0 (ctDf y)] U.heap
noncomputable def ctQc (D : va_G) (cI cJ cO : ClassId) (h0 : Nat) (E2 : List ctE) : Array Value → State → Outcome → State → Prop := fun _ st o t => o = .returned none ∧ cW D h0 (E2.map (ctEnt cI cJ cO h0)) t.heap ∧ st.heap.size ≤ t.heap.size ∧ ∀ q, q < h0 → t.heap[q]? = st.heap[q]?
noncomputable def ctWs (y : Nat) : List Cond := .code (ctMe y).1 (ctMe y).2 (ctMx y) none :: aT0
def ctRoom (d y : Nat) : Room := { frames := d + 1, cells := (ctCap y).1, slots := (ctCap y).2, locals := 100 * (d + 1) + 300 }
def ctMetP (l : Launch) (d : Nat) : Prop := ∀ (y : Nat) (vs : List ctV) (E2 : List ctE), y < 12 → ctSem (d + 1) y vs = some E2 → ∀ (D : va_G) (cI cJ cO : ClassId) (h0 : Nat), Met l (ctMe y).1 (ctWs y) (ctRoom d y) (ctPc D cI cJ cO h0 y vs) (ctQc D cI cJ cO h0 E2) (ctCap y).1 (ctCap y).2 (cA h0)
theorem ctNs_warm {s U : State} (hW : s.WarmedH U.vm) (h : ctNs s) : ctNs U := fun t ht => va_Nw.warmM hW (h t ht)
theorem ctK_warm {D : va_G} {cI cJ cO : ClassId} {s U : State} (hW : s.WarmedH U.vm) (h : ctK D cI cJ cO s) : ctK D cI cJ cO U := ⟨va_K.moved hW.alike h.1, va_AO.moved hW.alike h.2.1, ctNs_warm hW h.2.2⟩
theorem ctPc_blind (D : va_G) (cI cJ cO : ClassId) (h0 y : Nat) (vs : List ctV) : FrameBlind (ctPc D cI cJ cO h0 y vs) := by
  intro a U g mk h
  refine ⟨h.1, ⟨va_K.moved (u := U) (U := U.calling g mk a) (Vm.Alike.refl U.vm) h.2.1.1, va_AO.moved (u := U) (U := U.calling g mk a) (Vm.Alike.refl U.vm) h.2.1.2.1, fun t ht => ?_⟩, h.2.2⟩
  exact va_Nw.same rfl (rfl : U.vm = (U.calling g mk a).vm) (h.2.1.2.2 t ht)
theorem ctGoodIn {y : Nat} (hy : y < 12) : GoodIn aT0 (ctWs y) := by
  intro w hw
  have hm : w ∈ aT0 := by
    rcases List.mem_cons.mp hw with rfl | hw
    · exact ctMw_in hy _ List.mem_cons_self
    · exact hw
  exact ⟨hm, good_of_word (List.mem_filter.mp hm).2⟩
theorem cW_call {D : va_G} {base : Nat} {E0 L : List va_E} {x : va_E} {H H1 : Heap} (h : cW D base (E0 ++ [x]) H) (h1 : cW D (base + E0.length) L H1) (o : ∀ q, q < base + E0.length → H1[q]? = H[q]?) : cW D base (E0 ++ L) H1 := by
  refine ⟨by rw [h1.1, List.length_append]; omega, fun k y hy => ?_⟩
  by_cases hk : k < E0.length
  · rw [List.getElem?_append_left hk] at hy
    exact c_kept (h.2 k y (by rw [List.getElem?_append_left hk]; exact hy)) (o _ (by omega))
  · rw [List.getElem?_append_right (by omega)] at hy
    have := h1.2 _ _ hy
    rwa [show base + E0.length + (k - E0.length) = base + k by omega] at this
