/-! The constructors: a field, a cell of an array set; the heap's size stays. -/
theorem cW_of_P {D : va_G} {base : Nat} {E : List va_E} {H : Heap} (hz : H.size = base + E.length) (h : va_P D aCl (cWs base E) H) : cW D base E H := by
  refine ⟨hz, fun k x hx => ?_⟩
  exact h k (base + k, x) (by rw [cWs_at, hx]; rfl)
theorem cW_set {D : va_G} {base : Nat} {E : List va_E} {H H1 : Heap} {q0 : Nat} {x0 x : va_E} (h : cW D base E H) (he : E[q0]? = some x0) (hx : va_at D aCl (base + q0, x) H1) (oq : ∀ q : Nat, q ≠ base + q0 → H1[q]? = H[q]?) (hz : H1.size = H.size) : cW D base (E.set q0 x) H1 := by
  refine cW_of_P (by rw [hz, h.1, List.length_set]) ?_
  rw [← cWs_set]
  exact (cWs_P h).set (cWs_D base E) (e0 := x0) (by rw [cWs_at, he]; rfl) hx oq
section CROWS2
variable {p : Program} {l : Launch} {e : Env} {R : Room} {s : State} {m : MethodId} {args : Array Value} {below : List Frame} {meth : Method} {c : Code} {H : Heap} {locs : List Loc} {cells slots : Nat} {Q : State → Prop}
variable {cc : ByteArray} {pc : Nat} {ls : Array Slot} {rest : List Value} {D : va_G} {cI cJ cO : ClassId} {base : Nat} {E : List va_E}
theorem c_put (hx : p.tables.exec = Jvm.exec) (hb : c.code = cc) (hts : ∀ w ∈ aT0, w.before args s = true) {ci index : Nat} (hci : ci < 12) (hown : s.vm.findClass (aCls ci) = some m.cls) (hK : va_K D aCl [(cI, .int), (cJ, .long), (cO, .object "DeerDays$Wood")] s) (hw : cW D base E H) (hS : va_S (cA base) s.heap H locs) {q0 : Nat} {fs : List Value} (he : E[q0]? = some (.inr (ci, fs))) {k : Nat} (hk : k < aNF ci) (hlink : (Cond.fieldLink (aCls ci) index (aCls ci) (aT ci k).2.1 (aT ci k).2.2.1).before args s = true) (hin2 : meth.name = "<init>") {v : Value} (hn : narrow (aTyOf ci k) v = v) (hfit : fits (aTyOf ci k) v = true) (hl : k < fs.length) (hdg : decode cc pc = .ok (.putfield index, 3))
    (kk : ∀ (H1 : Heap) (locs1 : List Loc), cW D base (E.set q0 (.inr (ci, fs.set k v))) H1 → va_S (cA base) s.heap H1 locs1 → W p l e R s m args below meth c H1 locs1 cells slots Q (F0 m (pc + 3) ls rest)) : W p l e R s m args below meth c H locs cells slots Q (F0 m pc ls (v :: .ref (base + q0) :: rest)) := by
  have hc := aCl_at hci
  have hcls := aT_cls ci hci k hk
  have hty := aTy_ok ci hci k hk
  have hap := va_apart (own := aCls ci) hts (aLay_in ci hci) (aTyOf ci) (aTy_ok ci hci) (aNm_ok ci hci) hK hc
  obtain ⟨r, h1, cell, q1, q2, q3, q4⟩ := hw.2 q0 _ he
  have hr : r = (aCls ci, aT ci, aNF ci) := Option.some.inj (h1.symm.trans hc)
  subst hr
  obtain ⟨hSl, hfc, kC, hkC, hkind⟩ := hK.1 ci _ hc
  obtain ⟨cf, kf, fi, f, hi, hsl⟩ := hSl k hk
  have hi2 : s.fieldFound? (aCls ci) (aT ci k).2.1 (aT ci k).2.2.1 = some (cf, kf, fi, f) := by rw [← hcls]; exact hi
  have hlays := u_lays hts (aLay_in ci hci) hk
  have hst := (u_facts hfc hkC hlays hi).1
  have hlt : f.slot < cell.slots.size := by rw [hsl]; exact k2_hasslot (q4 k hk)
  have fin : ∀ (H' : Heap), H'[base + q0]? = some (cell.setSlot f.slot v) → H'.size = H.size → (∀ q, q ≠ base + q0 → H'[q]? = H[q]?) → W p l e R s m args below meth c H' (locs ++ [⟨base + q0, f.slot⟩]) cells slots Q (F0 m (pc + 3) ls rest) := fun H' e1 e2 e3 => by
    rw [hsl] at e1 ⊢
    exact kk H' _ (cW_set hw he ⟨_, hc, t_OB.to (V := updV (vp_V fs) k v) ⟨_, e1, q2, q3, t_set q4 hap hk v⟩ (fun j _ => vp_updV_set hl v j)⟩ e3 e2) (hS.put e2 e3 (Nat.le_add_right _ _))
  have hlay := hts _ (aLay_in ci hci _ (u_in_lay hk))
  unfold u_lay at hlay
  by_cases hfin : (aT ci k).2.2.2 = true
  · rw [if_pos hfin] at hlay
    have hcf : m.cls = cf := by
      obtain ⟨_, _, c', _, _, _, -, -, hf', -, -, -, hown2, -⟩ := Cond.laysFinal_spec hlay
      have e1 : c' = cf := by have := hi.symm.trans hf'; simp at this; exact this.1.symm
      rw [hcls] at hown2
      rw [← e1]; exact Option.some.inj (hown.symm.trans hown2)
    have h6 := u_fits hfc hkC hkind (Or.inr hlay) hi hty hn hfit
    exact W.putFinK hx hb hown hlink hi2 hst hcf hin2 (by rw [q2]; exact h6) q1 q3 hlt rfl rfl hdg fin
  · rw [if_neg hfin] at hlay
    have h6 := u_store hfc hkC hkind hlay hi hty hn hfit
    exact W.putK hx hb (f := f) ⟨hown, hlink, ⟨_, _, _, hi2⟩, hst⟩ (by rw [q2]; exact h6) q1 q3 hlt rfl rfl hdg fin
theorem c_get (hx : p.tables.exec = Jvm.exec) (hb : c.code = cc) (hts : ∀ w ∈ aT0, w.before args s = true) {ci index : Nat} (hci : ci < 12) (hown : s.vm.findClass (aCls ci) = some m.cls) (hK : va_K D aCl [(cI, .int), (cJ, .long), (cO, .object "DeerDays$Wood")] s) (hw : cW D base E H) {q0 : Nat} {fs : List Value} (he : E[q0]? = some (.inr (ci, fs))) {k : Nat} (hk : k < aNF ci) (hlink : (Cond.fieldLink (aCls ci) index (aCls ci) (aT ci k).2.1 (aT ci k).2.2.1).before args s = true) {v : Value} (hv : fs[k]? = some v) (hdg : decode cc pc = .ok (.getfield index, 3))
    (kk : W p l e R s m args below meth c H locs cells slots Q (F0 m (pc + 3) ls (v :: rest))) : W p l e R s m args below meth c H locs cells slots Q (F0 m pc ls (.ref (base + q0) :: rest)) :=
  va_get (D := D) (ws := cWs base E) (ci := ci) (C := aCls ci) (T := aT ci) (N := aNF ci) hx hb hts (aLay_in ci hci) hown hK (cWs_P hw) q0 (fs := fs) (by rw [cWs_at, he]; rfl) (aCl_at hci) k hk hlink (by rw [aT_cls ci hci k hk]; exact fun _ z => z) hv hdg kk
theorem c_ias (hx : p.tables.exec = Jvm.exec) (hb : c.code = cc) (hK : va_K D aCl [(cI, .int), (cJ, .long), (cO, .object "DeerDays$Wood")] s) (hw : cW D base E H) (hS : va_S (cA base) s.heap H locs) {q0 n : Nat} {f : Nat → Int32} (he : E[q0]? = some (.inl (cI, n, .inl f))) {i x : Int32} (hin : vp_in i n) (hdg : decode cc pc = .ok (.iastore, 1))
    (kk : ∀ (H1 : Heap) (locs1 : List Loc), cW D base (E.set q0 (.inl (cI, n, .inl (upd f i.toNatClampNeg x)))) H1 → va_S (cA base) s.heap H1 locs1 → W p l e R s m args below meth c H1 locs1 cells slots Q (F0 m (pc + 1) ls rest)) : W p l e R s m args below meth c H locs cells slots Q (F0 m pc ls (.int x :: .int i :: .ref (base + q0) :: rest)) := by
  refine W.iast hx hb (hw.2 q0 _ he) ((hK.2 0 _ rfl).1 n (fun j => .int (f j))) (fun q => by cases q) (by show ¬ (i < 0 ∨ (arrV _ _ _).slots.size ≤ _); rw [arrV_size]; exact hin) rfl rfl hdg fun H1 e z oq => ?_
  refine kk H1 _ (cW_set hw he ?_ oq z) (hS.put z oq (Nat.le_add_right _ _))
  show H1[base + q0]? = some (vp_cell _ _)
  rw [e, vp_cell_i, vp_cell_i, arrV_store]
  congr 2
  funext j
  unfold upd updV
  by_cases h : j = i.toNatClampNeg
  · rw [if_pos h, if_pos h]
  · rw [if_neg h, if_neg h]
theorem c_aas (hx : p.tables.exec = Jvm.exec) (hb : c.code = cc) (hK : va_K D aCl [(cI, .int), (cJ, .long), (cO, .object "DeerDays$Wood")] s) (hw : cW D base E H) (hS : va_S (cA base) s.heap H locs) {q0 n q1 : Nat} {f : Nat → Option Nat} (he : E[q0]? = some (.inl (cO, n, .inr (.inr (.inr (.inr f)))))) {vs : List Value} (hv : E[q1]? = some (.inr (8, vs))) {i : Int32} (hin : vp_in i n) (hdg : decode cc pc = .ok (.aastore, 1))
    (kk : ∀ (H1 : Heap) (locs1 : List Loc), cW D base (E.set q0 (.inl (cO, n, .inr (.inr (.inr (.inr (va_up f i.toNatClampNeg (some (base + q1))))))))) H1 → va_S (cA base) s.heap H1 locs1 → W p l e R s m args below meth c H1 locs1 cells slots Q (F0 m (pc + 1) ls rest)) : W p l e R s m args below meth c H locs cells slots Q (F0 m pc ls (.ref (base + q1) :: .int i :: .ref (base + q0) :: rest)) := by
  have hlt : i.toNatClampNeg < n := Nat.not_le.mp fun q => hin (Or.inr q)
  have h0 : ¬ i < 0 := fun q => hin (Or.inl q)
  obtain ⟨r', hr', cellV, g1, g2, g3, -⟩ := hw.2 q1 _ hv
  have hcls : ClassAt s (aCls 8) (D.1 8) := (hK.1 8 _ (aCl_at (by omega))).2
  obtain ⟨kA, comp, k1, k2, k3, -⟩ : va_RA s cO (.object "DeerDays$Wood") := (hK.2 2 _ rfl).2
  have hcomp : comp = D.1 8 := Option.some.inj (k3.symm.trans hcls.1)
  subst hcomp
  obtain ⟨kC, hkC, -⟩ := hcls.2
  refine W.aast hx hb (hw.2 q0 _ he) (fun q h => by cases h) (fun h => by cases h) k1 k2 rfl hkC ⟨h0, by show _ < (arrV _ _ _).slots.size; rw [arrV_size]; exact hlt⟩ g1 (fun q h => by rw [g3] at h; cases h) (by rw [g2]; exact hkC) (by rw [g2]; exact va_assign hcls) rfl rfl hdg fun H1 e z oq => ?_
  refine kk H1 _ (cW_set hw he ?_ oq z) (hS.put z oq (Nat.le_add_right _ _))
  show H1[base + q0]? = some (vp_cell _ _)
  rw [e, vp_cell_q, vp_cell_q, arrV_store]
  congr 2
  funext j
  unfold va_up updV
  by_cases h : j = i.toNatClampNeg
  · rw [if_pos h, if_pos h]; rfl
  · rw [if_neg h, if_neg h]
end CROWS2
