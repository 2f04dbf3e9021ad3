/-! The constructors' machine: a whole constructor. -/
section CMET
variable {p : Program} {l : Launch} {e : Env} {R : Room} {s : State} {m : MethodId} {args : Array Value} {below : List Frame} {meth : Method} {c : Code} {H : Heap} {locs : List Loc}
variable {D : va_G} {cI cJ cO : ClassId} {base own : Nat}
theorem ctRun_snd (hx : p.tables.exec = Jvm.exec) (hb : c.code = (ctMe own).2) (hml : c.maxLocals = ctMx own) (hts : ∀ w ∈ aT0, w.before args s = true) (ho : own < 12) (hown : s.vm.findClass (aCls own) = some m.cls) (hin2 : meth.name = "<init>") (hr : meth.sig.returnType = none) (hlocks : meth.locks = false) (hK : ctK D cI cJ cO s) (hz : base ≤ s.heap.size) {d : Nat} (hM : ∀ k, d = k + 1 → ctMetP l k ∧ k + 2 ≤ R.frames ∧ 100 * (k + 1) + 360 ≤ R.locals) (hro : 1 ≤ R.frames ∧ 300 ≤ R.locals) (hcp : (ctCap own).1 ≤ R.cells ∧ (ctCap own).2 ≤ R.slots) {E2 : List ctE} :
    ∀ (f : Nat) (z : ctS) (H : Heap) (locs : List Loc) (lsA : Array Slot), ctRun (ctSem d) own (ctMx own) (ctCod own) (ctCap own) f z = some E2 → cW D base (z.2.1.map (ctEnt cI cJ cO base)) H → va_S (cA base) s.heap H locs → lv_has lsA (ctMx own) (ctLv base z.2.2.1) →
      W p l e R s m args below meth c H locs z.2.2.2.2.1 z.2.2.2.2.2 (MQ below (ctQc D cI cJ cO base E2) args s (ctCap own).1 (ctCap own).2 (cA base)) (F0 m z.1 lsA (z.2.2.2.1.map (ctVal base))) := by
  intro f
  induction f with
  | zero => intro z H locs lsA h; cases h
  | succ f ih =>
    intro z H locs lsA h hW hS hL
    obtain ⟨pc, E, ls, st, nc, ns⟩ := z
    unfold ctRun at h
    dsimp only at h hW hL ⊢
    split at h
    · cases h
    · next q hq =>
      have hqm := List.mem_of_find?_eq_some hq
      have hpc := List.find?_some hq
      have hpc := Nat.eq_of_beq_eq_true hpc
      have hd := ctDec_in ho hqm
      subst hpc
      cases h16 : Nat.beq q.2.1 16 with
      | true =>
        rw [h16] at h
        have e16 : q.2.1 = 16 := Nat.eq_of_beq_eq_true h16
        dsimp only [cond] at h
        obtain ⟨hh, hE⟩ := ct_bif h
        obtain ⟨h12, h3⟩ := and_of hh
        obtain ⟨h1, h2⟩ := and_of h12
        have hst : st = [] := List.isEmpty_iff.mp h1
        subst hst
        rw [← hE]
        have hd2 : decode (ctMe own).2 q.1 = .ok (.return_, 1) := by
          have hI : ctIns q = (.return_, 1) := by
            obtain ⟨q1, q2, q3⟩ := q
            dsimp only at e16
            subst e16
            rfl
          rw [hd, hI]
        refine W.widen (Nat.le_of_ble_eq_true h2) (Nat.le_of_ble_eq_true h3) ?_
        exact W.vret hx hb hr (fun t ht _ => ⟨rfl, by rw [ht]; exact hW, by rw [ht]; exact hS.1, fun q hq => by rw [ht]; exact hS.2.1 q (by omega) (fun z => Nat.lt_irrefl _ (Nat.lt_of_lt_of_le hq z))⟩) hS.2.2 hd2 hlocks
      | false =>
        rw [h16] at h
        dsimp only [cond] at h
        split at h
        · cases h
        · next z2 hz2 =>
          cases hc : (Nat.ble z2.2.2.2.2.1 (ctCap own).1 && Nat.ble z2.2.2.2.2.2 (ctCap own).2) with
          | false => rw [hc] at h; cases h
          | true =>
            rw [hc] at h
            obtain ⟨hc1, hc2⟩ := and_of hc
            have hc1 := Nat.le_of_ble_eq_true hc1
            have hc2 := Nat.le_of_ble_eq_true hc2
            exact ctOp_snd hx hb hml hts ho hown hin2 hK hM hro hd (ctWd_in ho hqm) hz2 ⟨Nat.le_trans hc1 hcp.1, Nat.le_trans hc2 hcp.2⟩ hW hS hL fun H1 locs1 lsA1 hW1 hS1 hL1 => ih z2 H1 locs1 lsA1 h hW1 hS1 hL1
end CMET
theorem ctMet_of (l : Launch) (d : Nat) (hd : d = 0 ∨ ∃ k, d = k + 1 ∧ ctMetP l k) : ctMetP l d := by
  intro y vs E2 hy hsem D cI cJ cO h0
  obtain ⟨p1, p2, ⟨p3, p4, p5⟩, p6, p7⟩ := ctMp y hy
  refine Met.ofW (cc := (ctMe y).2) (maxL := ctMx y) (ret := none) p3 rfl ?_
  intro p e s m args below meth c s₁ B hml hv
  obtain ⟨rfl, hK, hW⟩ := hv
  have hx := B.exec
  have hb := B.bytes
  have hr := B.returns
  have hts0 := atoms_spec (ws := ctWs y) B.pre
  have hts : ∀ w ∈ aT0, w.before (Value.ref h0 :: vs.map (ctVal h0)).toArray s = true := fun w hw => hts0 w (List.mem_cons_of_mem _ hw)
  have hown : s.vm.findClass (ctMe y).1.cls = some m.cls := findClass_of_methodNamed B.named
  rw [p6] at hown
  have hlocks := B.notSynchronized
  have hin2 : meth.name = "<init>" := (name_of_methodNamed B.named B.method).1.trans p7
  unfold ctSem at hsem
  cases hc : (Nat.beq vs.length (ctNa y) && vs.all fun v => Nat.blt v.1 2) with
  | false => rw [hc] at hsem; cases hsem
  | true =>
    rw [hc] at hsem
    dsimp only [cond] at hsem
    obtain ⟨c1, c2⟩ := and_of hc
    have c1 : vs.length = ctNa y := Nat.eq_of_beq_eq_true c1
    have hna : ctNa y = 0 ∨ ctNa y = 1 := by
      unfold ctNa
      split
      · exact Or.inr rfl
      · exact Or.inr rfl
      · exact Or.inl rfl
    have hcat : ∀ v, v ∈ vs → (ctVal h0 v).category = 1 := fun v hv => by
      have h2 : v.1 < 2 := Nat.le_of_ble_eq_true (List.all_eq_true.mp c2 v hv)
      unfold ctVal
      by_cases e0 : v.1 = 0
      · rw [if_pos e0]; rfl
      · rw [if_neg e0, if_pos (by omega)]; rfl
    have hslk : (lg_sl (Value.ref h0 :: vs.map (ctVal h0))).length = vs.length + 1 ∧ lv_args 0 (Value.ref h0 :: vs.map (ctVal h0)) = ctLv h0 (ctSt vs) := by
      match vs, c1 with
      | [], _ =>
        refine ⟨rfl, ?_⟩
        show [(0, Value.ref h0)] = [(0, ctVal h0 (1, 0))]
        rw [show ctVal h0 (1, 0) = .ref (h0 + 0) from ctRefN h0 0]
        rfl
      | [v], _ =>
        have hv := hcat v List.mem_cons_self
        have e0 : ctVal h0 (1, 0) = .ref (h0 + 0) := ctRefN h0 0
        constructor
        · show (lg_sl [Value.ref h0, ctVal h0 v]).length = 2
          generalize ctVal h0 v = w at hv
          cases w <;> first | rfl | cases hv
        · show [(0, Value.ref h0), (1, ctVal h0 v)] = [(0, ctVal h0 (1, 0)), (1, ctVal h0 v)]
          rw [e0]
          rfl
      | v :: w :: r, c1 =>
        simp only [List.length_cons] at c1
        omega
    have hsl : (lg_sl (Value.ref h0 :: vs.map (ctVal h0))).length ≤ ctMx y := by rw [hslk.1]; omega
    have hl := lv_entry (Value.ref h0 :: vs.map (ctVal h0)) hsl
    rw [lg_entry_eq]
    generalize (lg_sl (Value.ref h0 :: vs.map (ctVal h0)) ++ List.replicate (ctMx y - (lg_sl (Value.ref h0 :: vs.map (ctVal h0))).length) Slot.unset).toArray = ls at hl ⊢
    rw [hslk.2] at hl
    refine ctRun_snd hx hb hml hts hy hown hin2 hr hlocks hK (by rw [hW.1]; omega) (d := d) (fun k hk => ?_) ⟨?_, ?_⟩ ⟨Nat.le_refl _, Nat.le_refl _⟩ 400 (0, [ctDf y], ctSt vs, [], 0, 0) s.heap [] ls hsem hW va_S.rf hl
    · rcases hd with rfl | ⟨k', rfl, h⟩
      · cases hk
      · obtain rfl : k' = k := by omega
        refine ⟨h, ?_, ?_⟩
        · show k' + 2 ≤ k' + 1 + 1; omega
        · show 100 * (k' + 1) + 360 ≤ 100 * (k' + 1 + 1) + 300; omega
    · show 1 ≤ d + 1; omega
    · show 300 ≤ 100 * (d + 1) + 300; omega
theorem ctMet (l : Launch) : ∀ d, ctMetP l d := by
  intro d
  induction d with
  | zero => exact ctMet_of l 0 (Or.inl rfl)
  | succ d ih => exact ctMet_of l (d + 1) (Or.inr ⟨d, rfl, ih⟩)
