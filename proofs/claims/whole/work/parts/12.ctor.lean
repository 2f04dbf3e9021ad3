/-! The constructors: worlds as lists of entries, the i-th at base + i. -/
def cW (D : va_G) (base : Nat) (E : List va_E) (H : Heap) : Prop := H.size = base + E.length ∧ ∀ (k : Nat) (x : va_E), E[k]? = some x → va_at D aCl (base + k, x) H
def cA (base : Nat) : Nat → Prop := fun q => base ≤ q
noncomputable def cWs (base : Nat) (E : List va_E) : va_W := E.mapIdx fun k x => (base + k, x)
theorem cWs_at (base : Nat) (E : List va_E) (k : Nat) : (cWs base E)[k]? = (E[k]?).map fun x => (base + k, x) := by
  unfold cWs
  rw [List.getElem?_mapIdx]
theorem cWs_P {D : va_G} {base : Nat} {E : List va_E} {H : Heap} (h : cW D base E H) : va_P D aCl (cWs base E) H := by
  intro k q hq
  rw [cWs_at] at hq
  cases hx : E[k]? with
  | none => rw [hx] at hq; cases hq
  | some x =>
    rw [hx] at hq
    cases hq
    exact h.2 k x hx
theorem cWs_D (base : Nat) (E : List va_E) : va_D (cA base) (cWs base E) := by
  have key : ∀ (i : Nat) (p : Nat × va_E), (cWs base E)[i]? = some p → p.1 = base + i := by
    intro i p h
    rw [cWs_at] at h
    cases hx : E[i]? with
    | none => rw [hx] at h; cases h
    | some x => rw [hx] at h; cases h; rfl
  refine ⟨fun i j p q hp hq e => ?_, fun k q hq => ?_⟩
  · have h1 := key i p hp
    have h2 := key j q hq
    omega
  · have := key k q hq
    unfold cA
    omega
theorem cWs_set (base : Nat) (E : List va_E) (k : Nat) (x : va_E) : (cWs base E).set k (base + k, x) = cWs base (E.set k x) := by
  apply List.ext_getElem?
  intro i
  rw [cWs_at]
  by_cases e : k = i
  · subst e
    by_cases hk : k < E.length
    · rw [List.getElem?_set_self (by unfold cWs; rw [List.length_mapIdx]; exact hk), List.getElem?_set_self hk]
      rfl
    · rw [List.getElem?_eq_none (by rw [List.length_set]; unfold cWs; rw [List.length_mapIdx]; omega), List.getElem?_eq_none (by rw [List.length_set]; omega)]
      rfl
  · rw [List.getElem?_set_ne e, List.getElem?_set_ne e, cWs_at]
theorem c_kept {D : va_G} {q : Nat} {x : va_E} {H H1 : Heap} (h : va_at D aCl (q, x) H) (h1 : H1[q]? = H[q]?) : va_at D aCl (q, x) H1 := by
  have hP : va_P D aCl [(q, x)] H := by
    intro k r hr
    cases k with
    | zero => cases hr; exact h
    | succ k => cases hr
  have := hP.kept (H1 := H1) (fun k r hr => by
    cases k with
    | zero => cases hr; exact h1
    | succ k => cases hr)
  exact this 0 _ rfl
theorem cW_app {D : va_G} {base : Nat} {E L : List va_E} {H H1 : Heap} (h : cW D base E H) (h1 : cW D (base + E.length) L H1) (o : ∀ q, q < base + E.length → H1[q]? = H[q]?) : cW D base (E ++ L) H1 := by
  refine ⟨by rw [h1.1, List.length_append]; omega, fun k x hx => ?_⟩
  by_cases hk : k < E.length
  · rw [List.getElem?_append_left hk] at hx
    exact c_kept (h.2 k x hx) (o _ (by omega))
  · rw [List.getElem?_append_right (by omega)] at hx
    have := h1.2 _ _ hx
    rwa [show base + E.length + (k - E.length) = base + k by omega] at this
theorem cW_last {D : va_G} {base : Nat} {E : List va_E} {x : va_E} {H : Heap} (h : cW D base (E ++ [x]) H) : cW D (base + E.length) [x] H := by
  refine ⟨by rw [h.1, List.length_append]; simp; omega, fun k y hy => ?_⟩
  cases k with
  | zero =>
    cases hy
    have := h.2 E.length x (by rw [List.getElem?_append_right (Nat.le_refl _), Nat.sub_self]; rfl)
    exact this
  | succ k => cases hy
theorem cW_init {D : va_G} {base : Nat} {E : List va_E} {x : va_E} {H : Heap} (h : cW D base (E ++ [x]) H) : cW D base E H → True := fun _ => trivial
noncomputable def cDf (ci : Nat) : va_E := .inr (ci, (List.range (aNF ci)).map fun j => defaultValue (aTyOf ci j))
section CROWS
variable {p : Program} {l : Launch} {e : Env} {R : Room} {s : State} {m : MethodId} {args : Array Value} {below : List Frame} {meth : Method} {c : Code} {H : Heap} {locs : List Loc} {cells slots : Nat} {Q : State → Prop}
variable {cc : ByteArray} {pc : Nat} {ls : Array Slot} {rest : List Value} {D : va_G} {cI cJ cO : ClassId} {base : Nat} {E : List va_E}
theorem c_newa (hx : p.tables.exec = Jvm.exec) (hb : c.code = cc) (hK : va_K D aCl [(cI, .int), (cJ, .long), (cO, .object "DeerDays$Wood")] s) (hw : cW D base E H) (hS : va_S (cA base) s.heap H locs) (harr : (Cond.arrayClass .int).before args s = true) {n : Nat} (hn : n < 20000) (hbs : s.heap.size ≤ base + E.length)
    (hcells : cells + 1 ≤ R.cells) (hslots : slots + n ≤ R.slots) (hdg : decode cc pc = .ok (.newarray .int, 2))
    (kk : ∀ H1, cW D base (E ++ [.inl (cI, n, .inl fun _ => 0)]) H1 → va_S (cA base) s.heap H1 locs → W p l e R s m args below meth c H1 locs (cells + 1) (slots + n) Q (F0 m (pc + 2) ls (.ref (base + E.length) :: rest))) :
    W p l e R s m args below meth c H locs cells slots Q (F0 m pc ls (.int (Int32.ofInt n) :: rest)) := by
  have hin : in32 (n : Int) := ⟨by omega, by omega⟩
  have hcl : (Int32.ofInt (n : Int)).toNatClampNeg = n := by rw [i32_clamp hin]; exact Int.toNat_natCast n
  refine W.newa (atype := .int) (g := F0 m pc ls (.int (Int32.ofInt n) :: rest)) hx hb harr rfl hdg rfl (fun z => by have := (i32_lt0 hin).mp z; omega) (by rw [hcl]; show n * 4 ≤ 536870912; omega) hcells (by rw [hcl]; exact hslots) fun cA1 kA comp f1 f2 f3 => ?_
  have hcA : cA1 = cI := by
    have h2 : va_RA s cI .int := (hK.2 0 _ rfl).2
    have h3 : s.vm.findClass ("[" ++ FieldType.int.toString) = some cI := h2
    exact Option.some.inj (f1.symm.trans h3)
  subst hcA
  rw [hcl, hw.1]
  refine kk _ ?_ ?_
  · refine cW_app hw ⟨by rw [Array.size_push, hw.1]; rfl, fun k x hx2 => ?_⟩ (fun q hq => by rw [Array.getElem?_push, if_neg (by rw [hw.1]; omega)])
    cases k with
    | zero =>
      cases hx2
      have e0 : (H.push ({ cls := cA1, slots := Array.replicate n (.int 0), vm := .none } : Cell))[base + E.length]? = some (vp_cell cA1 (n, .inl fun _ => 0)) := by
        rw [← hw.1, Array.getElem?_push_size, vp_cell_i, ← arrV_new]
      exact e0
    | succ k => cases hx2
  · exact ⟨Nat.le_trans hS.1 (by rw [Array.size_push]; omega), fun q h1 h2 => by rw [Array.getElem?_push, if_neg (by rw [hw.1]; omega)]; exact hS.2.1 q h1 h2, hS.2.2⟩
theorem c_newl (hx : p.tables.exec = Jvm.exec) (hb : c.code = cc) (hK : va_K D aCl [(cI, .int), (cJ, .long), (cO, .object "DeerDays$Wood")] s) (hw : cW D base E H) (hS : va_S (cA base) s.heap H locs) (harr : (Cond.arrayClass .long).before args s = true) {n : Nat} (hn : n < 20000) (hbs : s.heap.size ≤ base + E.length)
    (hcells : cells + 1 ≤ R.cells) (hslots : slots + n ≤ R.slots) (hdg : decode cc pc = .ok (.newarray .long, 2))
    (kk : ∀ H1, cW D base (E ++ [.inl (cJ, n, .inr (.inl fun _ => 0))]) H1 → va_S (cA base) s.heap H1 locs → W p l e R s m args below meth c H1 locs (cells + 1) (slots + n) Q (F0 m (pc + 2) ls (.ref (base + E.length) :: rest))) :
    W p l e R s m args below meth c H locs cells slots Q (F0 m pc ls (.int (Int32.ofInt n) :: rest)) := by
  have hin : in32 (n : Int) := ⟨by omega, by omega⟩
  have hcl : (Int32.ofInt (n : Int)).toNatClampNeg = n := by rw [i32_clamp hin]; exact Int.toNat_natCast n
  refine W.newa (atype := .long) (g := F0 m pc ls (.int (Int32.ofInt n) :: rest)) hx hb harr rfl hdg rfl (fun z => by have := (i32_lt0 hin).mp z; omega) (by rw [hcl]; show n * 8 ≤ 536870912; omega) hcells (by rw [hcl]; exact hslots) fun cA1 kA comp f1 f2 f3 => ?_
  have hcA : cA1 = cJ := by
    have h2 : va_RA s cJ .long := (hK.2 1 _ rfl).2
    have h3 : s.vm.findClass ("[" ++ FieldType.long.toString) = some cJ := h2
    exact Option.some.inj (f1.symm.trans h3)
  subst hcA
  rw [hcl, hw.1]
  refine kk _ ?_ ?_
  · refine cW_app hw ⟨by rw [Array.size_push, hw.1]; rfl, fun k x hx2 => ?_⟩ (fun q hq => by rw [Array.getElem?_push, if_neg (by rw [hw.1]; omega)])
    cases k with
    | zero =>
      cases hx2
      have e0 : (H.push ({ cls := cA1, slots := Array.replicate n (.long 0), vm := .none } : Cell))[base + E.length]? = some (vp_cell cA1 (n, .inr (.inl fun _ => 0))) := by
        rw [← hw.1, Array.getElem?_push_size, vp_cell_l, ← arrV_new]
      exact e0
    | succ k => cases hx2
  · exact ⟨Nat.le_trans hS.1 (by rw [Array.size_push]; omega), fun q h1 h2 => by rw [Array.getElem?_push, if_neg (by rw [hw.1]; omega)]; exact hS.2.1 q h1 h2, hS.2.2⟩
theorem c_newq (hx : p.tables.exec = Jvm.exec) (hb : c.code = cc) (hK : va_K D aCl [(cI, .int), (cJ, .long), (cO, .object "DeerDays$Wood")] s) (hw : cW D base E H) (hS : va_S (cA base) s.heap H locs) {own : String} {index : Nat} (hown : s.vm.findClass own = some m.cls) (hclink : (Cond.classLink own index "DeerDays$Wood").before args s = true) (hover : va_AO "DeerDays$Wood" s) {n : Nat} (hn : n < 20000) (hbs : s.heap.size ≤ base + E.length)
    (hcells : cells + 1 ≤ R.cells) (hslots : slots + n ≤ R.slots) (hdg : decode cc pc = .ok (.anewarray index, 3))
    (kk : ∀ H1, cW D base (E ++ [.inl (cO, n, .inr (.inr (.inr (.inr fun _ => none))))]) H1 → va_S (cA base) s.heap H1 locs → W p l e R s m args below meth c H1 locs (cells + 1) (slots + n) Q (F0 m (pc + 3) ls (.ref (base + E.length) :: rest))) :
    W p l e R s m args below meth c H locs cells slots Q (F0 m pc ls (.int (Int32.ofInt n) :: rest)) := by
  have hin : in32 (n : Int) := ⟨by omega, by omega⟩
  have hcl : (Int32.ofInt (n : Int)).toNatClampNeg = n := by rw [i32_clamp hin]; exact Int.toNat_natCast n
  refine W.anew (g := F0 m pc ls (.int (Int32.ofInt n) :: rest)) hx hb hown hclink (va_AO.use hover) rfl hdg rfl (fun z => by have := (i32_lt0 hin).mp z; omega) (by rw [hcl]; omega) hcells (by rw [hcl]; exact hslots) fun cA1 kA comp f1 f2 f3 f4 => ?_
  have hcA : cA1 = cO := by
    obtain ⟨_, _, _, _, _, h3⟩ : va_RA s cO (.object "DeerDays$Wood") := (hK.2 2 _ rfl).2
    exact Option.some.inj (f1.symm.trans h3)
  subst hcA
  rw [hcl, hw.1]
  refine kk _ ?_ ?_
  · refine cW_app hw ⟨by rw [Array.size_push, hw.1]; rfl, fun k x hx2 => ?_⟩ (fun q hq => by rw [Array.getElem?_push, if_neg (by rw [hw.1]; omega)])
    cases k with
    | zero =>
      cases hx2
      have e0 : (H.push ({ cls := cA1, slots := Array.replicate n .null, vm := .none } : Cell))[base + E.length]? = some (vp_cell cA1 (n, .inr (.inr (.inr (.inr fun _ => none))))) := by
        rw [← hw.1, Array.getElem?_push_size, vp_cell_q, ← arrV_new]
        rfl
      exact e0
    | succ k => cases hx2
  · exact ⟨Nat.le_trans hS.1 (by rw [Array.size_push]; omega), fun q h1 h2 => by rw [Array.getElem?_push, if_neg (by rw [hw.1]; omega)]; exact hS.2.1 q h1 h2, hS.2.2⟩
theorem c_new (hx : p.tables.exec = Jvm.exec) (hb : c.code = cc) (hts : ∀ w ∈ aT0, w.before args s = true) {own index ci : Nat} (hci : ci < 12) (hown : s.vm.findClass (aCls own) = some m.cls) (hcl : (Cond.classLink (aCls own) index (aCls ci)).before args s = true) (hinst : (Cond.instantiable (aCls ci) (aNF ci)).before args s = true) (hini : (Cond.initialized (aCls ci)).before args s = true)
    (hK : va_K D aCl [(cI, .int), (cJ, .long), (cO, .object "DeerDays$Wood")] s) (hw : cW D base E H) (hS : va_S (cA base) s.heap H locs) (hbs : s.heap.size ≤ base + E.length) (hcells : cells + 1 ≤ R.cells) (hslots : slots + aNF ci ≤ R.slots) (hdg : decode cc pc = .ok (.new index, 3))
    (kk : ∀ H1, cW D base (E ++ [cDf ci]) H1 → va_S (cA base) s.heap H1 locs → W p l e R s m args below meth c H1 locs (cells + 1) (slots + aNF ci) Q (F0 m (pc + 3) ls (.ref (base + E.length) :: rest))) :
    W p l e R s m args below meth c H locs cells slots Q (F0 m pc ls rest) := by
  have hKn := hK.1 ci _ (aCl_at hci)
  refine W.newcK hx hb hown hcl hinst hini rfl hdg hcells hslots hKn.2.1 rfl fun H1 kC hkC e1 z1 o1 => ?_
  rw [hw.1] at z1 e1 o1 ⊢
  refine kk H1 ?_ ?_
  · refine cW_app hw ⟨z1, fun k x hx2 => ?_⟩ o1
    cases k with
    | zero =>
      cases hx2
      refine ⟨_, aCl_at hci, (u_born (aTyOf ci) hts (aLay_in ci hci) hKn hkC e1 (aTy_ok ci hci)).to fun j hj => ?_⟩
      unfold vp_V
      rw [List.getD_eq_getElem?_getD, List.getElem?_map, List.getElem?_range hj]
      rfl
    | succ k => cases hx2
  · exact ⟨Nat.le_trans hS.1 (by rw [z1, hw.1]; omega), fun q h1 h2 => (o1 q (by omega)).trans (hS.2.1 q h1 h2), hS.2.2⟩
end CROWS
