/-! The constructors' machine: one instruction is the machine's, all kinds. -/
theorem ct_bif {α : Type} {c : Bool} {x z : α} (h : (bif c then some x else none) = some z) : c = true ∧ x = z := by
  cases c with
  | false => cases h
  | true => exact ⟨rfl, Option.some.inj h⟩
section COP2
variable {p : Program} {l : Launch} {e : Env} {R : Room} {s : State} {m : MethodId} {args : Array Value} {below : List Frame} {meth : Method} {c : Code} {H : Heap} {locs : List Loc} {Q : State → Prop}
variable {cc : ByteArray} {lsA : Array Slot} {D : va_G} {cI cJ cO : ClassId} {base own nL nc ns : Nat} {E : List ctE} {ls : ctL} {st : List ctV}
def ctGo (p : Program) (l : Launch) (e : Env) (R : Room) (s : State) (m : MethodId) (args : Array Value) (below : List Frame) (meth : Method) (c : Code) (Q : State → Prop) (D : va_G) (cI cJ cO : ClassId) (base nL : Nat) (z : ctS) : Prop :=
  ∀ H1 locs1 lsA1, cW D base (z.2.1.map (ctEnt cI cJ cO base)) H1 → va_S (cA base) s.heap H1 locs1 → lv_has lsA1 nL (ctLv base z.2.2.1) → W p l e R s m args below meth c H1 locs1 z.2.2.2.2.1 z.2.2.2.2.2 Q (F0 m z.1 lsA1 (z.2.2.2.1.map (ctVal base)))
set_option maxHeartbeats 4000000 in
theorem ctOp_snd (hx : p.tables.exec = Jvm.exec) (hb : c.code = cc) (hml : c.maxLocals = nL) (hts : ∀ w ∈ aT0, w.before args s = true) (ho : own < 12) (hown : s.vm.findClass (aCls own) = some m.cls) (hin2 : meth.name = "<init>") (hK : ctK D cI cJ cO s) {d : Nat} (hM : ∀ k, d = k + 1 → ctMetP l k ∧ k + 2 ≤ R.frames ∧ 100 * (k + 1) + 360 ≤ R.locals) (hro : 1 ≤ R.frames ∧ 300 ≤ R.locals)
    {q : ctI} (hd : decode cc q.1 = .ok (ctIns q)) (hwd : ∀ w ∈ ctWd own q, w ∈ aT0) {z : ctS} (h : ctOp (ctSem d) own nL q E ls st nc ns = some z) (hcap : z.2.2.2.2.1 ≤ R.cells ∧ z.2.2.2.2.2 ≤ R.slots)
    (hW : cW D base (E.map (ctEnt cI cJ cO base)) H) (hS : va_S (cA base) s.heap H locs) (hL : lv_has lsA nL (ctLv base ls)) (kk : ctGo p l e R s m args below meth c Q D cI cJ cO base nL z) :
    W p l e R s m args below meth c H locs nc ns Q (F0 m q.1 lsA (st.map (ctVal base))) := by
  have hbs : s.heap.size ≤ base + (E.map (ctEnt cI cJ cO base)).length := by rw [← hW.1]; exact hS.1
  have hml2 : c.maxLocals = lsA.size := hml.trans hL.1.symm
  obtain ⟨pc, k, a, b, x, t⟩ := q
  have hw : ∀ w ∈ ctWd own (pc, k, a, b, x, t), w.before args s = true := fun w hq => hts w (hwd w hq)
  unfold ctOp at h
  dsimp only at h hd ⊢
  split at h
  · -- aload
    split at h
    · next z0 hg =>
      cases hlt : Nat.blt a 4 with
      | false => rw [hlt] at h; cases h
      | true =>
        rw [hlt] at h
        cases h
        exact lv_aload_n (i := a) hx hb hd (Nat.mod_eq_of_lt (Nat.le_of_ble_eq_true hlt)) (ctLv_at hL hg) (kk _ _ _ hW hS hL)
    · cases h
  · -- iload
    split at h
    · next z0 hg =>
      cases hlt : Nat.blt a 4 with
      | false => rw [hlt] at h; cases h
      | true =>
        rw [hlt] at h
        cases h
        exact lv_iload_n (i := a) hx hb hd (Nat.mod_eq_of_lt (Nat.le_of_ble_eq_true hlt)) (ctLv_at hL hg) (kk _ _ _ hW hS hL)
    · cases h
  · -- iconst
    cases h
    exact lv_iconst hx hb hd rfl (kk _ _ _ hW hS hL)
  · -- bipush
    cases hc : decide ((Int8.ofInt x).toInt32 = Int32.ofInt x) with
    | false => rw [hc] at h; cases h
    | true =>
      rw [hc] at h
      cases h
      exact lv_bipush hx hb hd (of_decide_eq_true hc) (kk _ _ _ hW hS hL)
  · -- sipush
    cases hc : decide ((Int16.ofInt x).toInt32 = Int32.ofInt x) with
    | false => rw [hc] at h; cases h
    | true =>
      rw [hc] at h
      cases h
      exact lv_sipush hx hb hd (of_decide_eq_true hc) (kk _ _ _ hW hS hL)
  · -- dup
    split at h
    · cases h
      exact lv_dup hx hb hd rfl (kk _ _ _ hW hS hL)
    · cases h
  · -- new
    cases hlt : Nat.blt b 12 with
    | false => rw [hlt] at h; cases h
    | true =>
      rw [hlt] at h
      cases h
      have hb12 : b < 12 := Nat.le_of_ble_eq_true hlt
      refine c_new (ci := b) (own := own) hx hb hts hb12 hown (hw _ List.mem_cons_self) (hw _ (List.mem_cons_of_mem _ List.mem_cons_self)) (hw _ (List.mem_cons_of_mem _ (List.mem_cons_of_mem _ List.mem_cons_self))) hK.1 hW hS hbs hcap.1 hcap.2 hd fun H1 hW1 hS1 => ?_
      have hk := kk H1 _ lsA (by rw [List.map_append]; show cW D base (_ ++ [ctEnt cI cJ cO base (ctDf b)]) H1; rw [ctDf_e cI cJ cO base hb12]; exact hW1) hS1 hL
      rw [List.length_map]
      have e : ctVal base (1, ((E.length : Nat) : Int)) = .ref (base + E.length) := ctRefN base E.length
      rw [← e]
      exact hk
  · -- newarray int
    split at h
    · next n st' =>
      cases hc : ctSm n with
      | false => rw [hc] at h; cases h
      | true =>
        rw [hc] at h
        cases h
        obtain ⟨hn, -⟩ := ctSm_i hc
        obtain ⟨n, rfl⟩ : ∃ k : Nat, n = k := ⟨n.toNat, by omega⟩
        refine c_newa (n := n) hx hb hK.1 hW hS (hw _ List.mem_cons_self) (by omega) hbs hcap.1 hcap.2 hd fun H1 hW1 hS1 => ?_
        have hk := kk H1 _ lsA (by rw [List.map_append]; exact hW1) hS1 hL
        rw [List.length_map]
        have e : ctVal base (1, ((E.length : Nat) : Int)) = .ref (base + E.length) := ctRefN base E.length
        rw [← e]
        exact hk
    · cases h
  · -- newarray long
    split at h
    · next n st' =>
      cases hc : ctSm n with
      | false => rw [hc] at h; cases h
      | true =>
        rw [hc] at h
        cases h
        obtain ⟨hn, -⟩ := ctSm_i hc
        obtain ⟨n, rfl⟩ : ∃ k : Nat, n = k := ⟨n.toNat, by omega⟩
        refine c_newl (n := n) hx hb hK.1 hW hS (hw _ List.mem_cons_self) (by omega) hbs hcap.1 hcap.2 hd fun H1 hW1 hS1 => ?_
        have hk := kk H1 _ lsA (by rw [List.map_append]; exact hW1) hS1 hL
        rw [List.length_map]
        have e : ctVal base (1, ((E.length : Nat) : Int)) = .ref (base + E.length) := ctRefN base E.length
        rw [← e]
        exact hk
    · cases h
  · -- anewarray
    split at h
    · next n st' =>
      cases hc : ctSm n with
      | false => rw [hc] at h; cases h
      | true =>
        rw [hc] at h
        cases h
        obtain ⟨hn, -⟩ := ctSm_i hc
        obtain ⟨n, rfl⟩ : ∃ k : Nat, n = k := ⟨n.toNat, by omega⟩
        refine c_newq (n := n) hx hb hK.1 hW hS hown (hw _ List.mem_cons_self) hK.2.1 (by omega) hbs hcap.1 hcap.2 hd fun H1 hW1 hS1 => ?_
        have hk := kk H1 _ lsA (by rw [List.map_append]; exact hW1) hS1 hL
        rw [List.length_map]
        have e : ctVal base (1, ((E.length : Nat) : Int)) = .ref (base + E.length) := ctRefN base E.length
        rw [← e]
        exact hk
    · cases h
  · -- putfield
    split at h
    · next v z0 st' =>
      split at h
      · next ci fs he =>
        obtain ⟨hh, rfl⟩ := ct_bif h
        clear h
        have h := hh
        clear hh
        obtain ⟨h1234, h5⟩ := and_of h
        obtain ⟨h123, h4⟩ := and_of h1234
        obtain ⟨h12, h3⟩ := and_of h123
        obtain ⟨h1, h2⟩ := and_of h12
        have h1 : 0 ≤ z0 := of_decide_eq_true h1
        obtain rfl : ci = own := Nat.eq_of_beq_eq_true h2
        have h3 : b < aNF ci := Nat.le_of_ble_eq_true h3
        have h4 : b < fs.length := Nat.le_of_ble_eq_true h4
        obtain ⟨f1, f2⟩ := ctTyOk_f base (ctTy_ok ci ho b h3) h5
        rw [List.map_cons, List.map_cons, ctRefZ base h1]
        refine c_put (fs := fs.map (ctVal base)) hx hb hts ho hown hK.1 hW hS (ctAt he) h3 (hw _ List.mem_cons_self) hin2 f1 f2 (by rw [List.length_map]; exact h4) hd fun H1 locs1 hW1 hS1 => ?_
        refine kk H1 locs1 lsA ?_ hS1 hL
        rw [← List.map_set] at hW1
        rw [← ctSet]
        exact hW1
      · cases h
    · cases h
  · -- getfield
    split at h
    · next z0 st' =>
      split at h
      · next ci fs he =>
        split at h
        · next v hv =>
          obtain ⟨hh, rfl⟩ := ct_bif h
          clear h
          have h := hh
          clear hh
          obtain ⟨h12, h3⟩ := and_of h
          obtain ⟨h1, h2⟩ := and_of h12
          have h1 : 0 ≤ z0 := of_decide_eq_true h1
          obtain rfl : ci = own := Nat.eq_of_beq_eq_true h2
          have h3 : b < aNF ci := Nat.le_of_ble_eq_true h3
          rw [List.map_cons, ctRefZ base h1]
          exact c_get (fs := fs.map (ctVal base)) (v := ctVal base v) hx hb hts ho hown hK.1 hW (ctAt he) h3 (hw _ List.mem_cons_self) (by rw [List.getElem?_map, hv]; rfl) hd (kk _ _ _ hW hS hL)
        · cases h
      · cases h
    · cases h
  · -- Object's constructor
    split at h
    · next z0 st' =>
      obtain ⟨hh, rfl⟩ := ct_bif h
      clear h
      have h := hh
      clear hh
      obtain ⟨h1, h2⟩ := and_of h
      have h1 : st'.length ≤ 3 := Nat.le_of_ble_eq_true h1
      have hcat := ctCat base st' h2
      refine W.objInit (a := ((base : Int) + z0).toNat) (rest := st'.map (ctVal base)) hx hb hown (hw _ List.mem_cons_self) (hts _ (ctMw_in ho (.instanceMethod objectInit) (List.mem_cons_of_mem _ (List.mem_cons_of_mem _ (List.mem_cons_of_mem _ List.mem_cons_self))))) (hts _ (ctMw_in ho (.code objectInit ⟨#[0xb1]⟩ 1 none) (List.mem_cons_of_mem _ (List.mem_cons_of_mem _ (List.mem_cons_of_mem _ (List.mem_cons_of_mem _ List.mem_cons_self)))))) rfl hml2.symm rfl hd hro.1 (by show 2 * 0 + _ + 12 ≤ _; omega) ?_
      exact kk _ _ _ hW hS hL
    · cases h
  · -- a constructor
    split at h
    · next z0 rest hst =>
      split at h
      · next E2 hsem =>
        obtain ⟨hh, rfl⟩ := ct_bif h
        clear h
        have h := hh
        clear hh
        obtain ⟨h123456, h7⟩ := and_of h
        obtain ⟨h12345, h6⟩ := and_of h123456
        obtain ⟨h1234, h5⟩ := and_of h12345
        obtain ⟨h123, h4⟩ := and_of h1234
        obtain ⟨h12, h3⟩ := and_of h123
        obtain ⟨h1, h2⟩ := and_of h12
        have h2 : z0 = (E.length : Int) - 1 ∧ 0 ≤ z0 := of_decide_eq_true h2
        have h4 : b < 12 := Nat.le_of_ble_eq_true h4
        have h5 : x.toNat = ctNa b := of_decide_eq_true h5
        have h6 : rest.length ≤ 3 := Nat.le_of_ble_eq_true h6
        cases d with
        | zero => cases hsem
        | succ d =>
          obtain ⟨m1, m2⟩ := hM d rfl
          split at h3
          · next y he =>
            obtain rfl := ctEqB_eq h3
            obtain ⟨k0, hk0⟩ : ∃ k0 : Nat, z0 = k0 := ⟨z0.toNat, by omega⟩
            subst hk0
            rw [Int.toNat_natCast] at he kk
            have hE : E = E.take k0 ++ [ctDf b] := by
              have hlen : E.length = k0 + 1 := by omega
              apply List.ext_getElem?
              intro i
              by_cases hi : i < k0
              · rw [List.getElem?_append_left (by rw [List.length_take]; omega), List.getElem?_take_of_lt hi]
              · rw [List.getElem?_append_right (by rw [List.length_take]; omega), List.length_take]
                by_cases hi2 : i = k0
                · subst hi2
                  rw [he, show i - min i E.length = 0 by omega]
                  rfl
                · rw [List.getElem?_eq_none (by omega), List.getElem?_eq_none (by simp; omega)]
            have hl0 : (E.take k0).length = k0 := by rw [List.length_take]; omega
            have hstE : st.map (ctVal base) = (((st.take x.toNat).reverse.map (ctVal base)).reverse ++ .ref (base + (E.take k0).length) :: rest.map (ctVal base)) := by
              rw [List.map_reverse, List.reverse_reverse, hl0, ← ctRefN base k0, ← List.map_cons, ← hst, ← List.map_append, List.take_append_drop]
            have hlenst : (st.take x.toNat).length = x.toNat := by
              rw [List.length_take]
              have := congrArg List.length hst
              rw [List.length_drop, List.length_cons] at this
              omega
            rw [hstE]
            refine ctCall (E0 := E.take k0) (y := b) (ne := t) hx hb hml hts hown hK hL.1 m1 m2 h4 ?_ hd (by rw [List.length_reverse, hlenst]; exact h5) (by rw [hl0]; exact hsem) h6 h7 (by rw [← hE]; exact hW) hS hcap.1 hcap.2 fun H1 locs1 hW1 hS1 => ?_
            · rcases Bool.or_eq_true _ _ ▸ h1 with h | h
              · have ht : t = 0 := Nat.eq_of_beq_eq_true h
                subst ht
                exact Or.inl ⟨rfl, hw _ List.mem_cons_self⟩
              · exact Or.inr (of_decide_eq_true h)
            · rw [hl0] at hW1
              exact kk H1 locs1 lsA hW1 hS1 hL
          · cases h3
      · cases h
    · cases h
  · -- aastore
    split at h
    · next v i z0 st' =>
      split at h
      · next t0 n l0 ci vs he hv =>
        obtain ⟨hh, rfl⟩ := ct_bif h
        clear h
        have h := hh
        clear hh
        obtain ⟨h12345, h6⟩ := and_of h
        obtain ⟨h1234, h5⟩ := and_of h12345
        obtain ⟨h123, h4⟩ := and_of h1234
        obtain ⟨h12, h3⟩ := and_of h123
        obtain ⟨h1, h2⟩ := and_of h12
        have h1 : 0 ≤ z0 := of_decide_eq_true h1
        have h2 : 0 ≤ v := of_decide_eq_true h2
        obtain rfl : t0 = 2 := Nat.eq_of_beq_eq_true h3
        obtain rfl : ci = 8 := Nat.eq_of_beq_eq_true h4
        obtain ⟨i1, i2⟩ := ct_in h5 h6
        rw [List.map_cons, List.map_cons, List.map_cons, ctRefZ base h1, ctRefZ base h2]
        refine c_aas (f := ctRef base l0) (vs := vs.map (ctVal base)) hx hb hK.1 hW hS (ctAt he) (ctAt hv) i1 hd fun H1 locs1 hW1 hS1 => ?_
        refine kk H1 locs1 lsA ?_ hS1 hL
        rw [← ctSet]
        have e : va_up (ctRef base l0) (Int32.ofInt i).toNatClampNeg (some (base + v.toNat)) = ctRef base ((i.toNat, ((1, v) : ctV)) :: l0) := by
          rw [i2]
          funext j
          show (if j = i.toNat then some (base + v.toNat) else ctRef base l0 j) = if j = i.toNat then some ((base : Int) + v).toNat else ctRef base l0 j
          rw [show ((base : Int) + v).toNat = base + v.toNat by omega]
        rw [e] at hW1
        exact hW1
      · cases h
    · cases h
  · -- iastore
    split at h
    · next y i z0 st' =>
      split at h
      · next t0 n l0 he =>
        obtain ⟨hh, rfl⟩ := ct_bif h
        clear h
        have h := hh
        clear hh
        obtain ⟨h123, h4⟩ := and_of h
        obtain ⟨h12, h3⟩ := and_of h123
        obtain ⟨h1, h2⟩ := and_of h12
        have h1 : 0 ≤ z0 := of_decide_eq_true h1
        obtain rfl : t0 = 0 := Nat.eq_of_beq_eq_true h2
        obtain ⟨i1, i2⟩ := ct_in h3 h4
        rw [List.map_cons, List.map_cons, List.map_cons, ctRefZ base h1]
        refine c_ias (f := fun j => Int32.ofInt (ctInt l0 j)) hx hb hK.1 hW hS (ctAt he) i1 hd fun H1 locs1 hW1 hS1 => ?_
        refine kk H1 locs1 lsA ?_ hS1 hL
        rw [← ctSet]
        have e : upd (fun j => Int32.ofInt (ctInt l0 j)) (Int32.ofInt i).toNatClampNeg (Int32.ofInt y) = fun j => Int32.ofInt (ctInt ((i.toNat, ((0, y) : ctV)) :: l0) j) := by
          rw [i2]
          funext j
          show (if j = i.toNat then Int32.ofInt y else Int32.ofInt (ctInt l0 j)) = Int32.ofInt (if j = i.toNat then y else ctInt l0 j)
          by_cases hj : j = i.toNat
          · rw [if_pos hj, if_pos hj]
          · rw [if_neg hj, if_neg hj]
        rw [e] at hW1
        exact hW1
      · cases h
    · cases h
  · -- Math.max
    split at h
    · next y x0 st' =>
      obtain ⟨hh, rfl⟩ := ct_bif h
      clear h
      have h := hh
      clear hh
      obtain ⟨h123, h4⟩ := and_of h
      obtain ⟨h12, h3⟩ := and_of h123
      obtain ⟨h1, h2⟩ := and_of h12
      obtain ⟨-, ox⟩ := ctSm_i h1
      obtain ⟨-, oy⟩ := ctSm_i h2
      have h3 : st'.length ≤ 3 := Nat.le_of_ble_eq_true h3
      have hcat := ctCat base st' h4
      refine va_mmax hx hb hml2 hown (hw _ List.mem_cons_self) (hts _ (aT0_mem bw_s4 rfl)) (hts _ (aT0_mem bw_math rfl)) (hts _ (aT0_mem bw_c4 rfl)) hro.1 (by omega) hcap.1 hcap.2 hd ?_
      have e : (if Int32.ofInt x0 < Int32.ofInt y then Int32.ofInt y else Int32.ofInt x0) = Int32.ofInt (if x0 < y then y else x0) := by
        by_cases hlt : x0 < y
        · rw [if_pos ((i32_lt ox oy).mpr hlt), if_pos hlt]
        · rw [if_neg (fun z => hlt ((i32_lt ox oy).mp z)), if_neg hlt]
      rw [e]
      exact kk _ _ _ hW hS hL
    · cases h
  · -- imul
    split at h
    · next y x0 st' =>
      obtain ⟨hh, rfl⟩ := ct_bif h
      clear h
      have h := hh
      clear hh
      obtain ⟨-, oxy⟩ := ctSm_i h
      refine lv_imul hx hb hd ?_
      rw [i32_mul, w32_id oxy]
      exact kk _ _ _ hW hS hL
    · cases h
  · -- istore
    split at h
    · next x0 st' =>
      obtain ⟨hh, rfl⟩ := ct_bif h
      clear h
      have h := hh
      clear hh
      obtain ⟨h1, h2⟩ := and_of h
      exact lv_istore_n (i := a) hx hb hd (Nat.mod_eq_of_lt (Nat.le_of_ble_eq_true h1)) hL (Nat.le_of_ble_eq_true h2) rfl fun ls' hl' => kk _ _ _ hW hS (ctSto_has (v := (0, x0)) hl')
    · cases h
  · -- if_icmpge
    split at h
    · next y x0 st' =>
      obtain ⟨hh, rfl⟩ := ct_bif h
      clear h
      have h := hh
      clear hh
      obtain ⟨h12, h3⟩ := and_of h
      obtain ⟨h1, h2⟩ := and_of h12
      obtain ⟨-, ox⟩ := ctSm_i h1
      obtain ⟨-, oy⟩ := ctSm_i h2
      refine lv_icmp_ge hx hb hd (of_decide_eq_true h3) (fun hq => ?_) (fun hq => ?_)
      · have hk := kk H locs lsA hW hS hL
        dsimp only at hk
        rw [if_pos ((i32_le oy ox).mp hq)] at hk
        exact hk
      · have hk := kk H locs lsA hW hS hL
        dsimp only at hk
        rw [if_neg (fun z => hq ((i32_le oy ox).mpr z))] at hk
        exact hk
    · cases h
  · -- iinc
    split at h
    · next x0 hg =>
      obtain ⟨hh, rfl⟩ := ct_bif h
      clear h
      have h := hh
      clear hh
      obtain ⟨h1, h2⟩ := and_of h
      obtain ⟨-, oxy⟩ := ctSm_i h2
      obtain ⟨k1, hk1⟩ := List.getElem?_of_mem (List.mem_map.mpr ⟨(a, ((0, x0) : ctV)), ctGet_mem hg, rfl⟩ : (a, ctVal base (0, x0)) ∈ ctLv base ls)
      exact lv_iinc (v := Int32.ofInt (x0 + x)) hx hb hd hL hk1 (by rw [i32_add, w32_id oxy]) (Nat.le_of_ble_eq_true h1) rfl fun ls' hl' => kk _ _ _ hW hS (ctSto_has (v := (0, x0 + x)) hl')
    · cases h
  · -- goto
    obtain ⟨hh, rfl⟩ := ct_bif h
    clear h
    have h := hh
    clear hh
    exact lv_goto hx hb hd (of_decide_eq_true h) (kk _ _ _ hW hS hL)
  · cases h
end COP2
