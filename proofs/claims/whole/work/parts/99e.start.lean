/-! THE CLAIM OUT OF ONE WALK OF THE LAW'S BODY. Your part is whole_start (and what it stands on); all else here is the same for every law, but numbers. -/
def R_law : String := "DeerDaysLaw"
def lw_P (b : Addr) (xs : List Int32) (args : Array Value) (s : State) : Prop := args = #[.ref b] ∧ s.IntsAt b xs ∧ xs.length ≤ 3072 ∧ (Jvm.Cond.and given_1 narrow_1).before args s = true
def lw_Q (_ : Array Value) (s : State) (o : Outcome) (t : State) : Prop := o = .returned (some (.int 1)) ∧ Framed s o t [] 600000 7302250
def lw_Z (below : List Frame) (a : Array Value) (s : State) : State → Prop := fun t => ∃ o, t.status = .running ∧ Ended t below o ∧ lw_Q a s o t
/-- the law's own end, with 1 on the stack, nothing written that was there before, its room as the claim has it -/
theorem lw_ret {p : Program} {l : Launch} {e : Env} {s : State} {m : MethodId} {below : List Frame} {meth : Method} {c : Code} {b : Nat} (hx : p.tables.exec = Jvm.exec) (hb : c.code = code) (hr : meth.sig.returnType = ret) (hlocks : meth.locks = false) {pc : Nat} {H : Heap} {ls : Array Slot} (hdg : decode code pc = .ok (.ireturn, 1)) : W p l e room_1 s m #[Value.ref b] below meth c H [] 600000 7302250 (lw_Z below #[Value.ref b] s) (F0 m pc ls [.int 1]) := by
  intro T hT X
  obtain ⟨fs, hret, hrun, hended, hW, hframe⟩ := X.leave (v := some (.int 1)) (hlocks := hlocks) (fun h => by rw [hr] at h; cases h)
  have hmeth' : T.vm.method? m = some meth := X.method'
  refine ⟨T.setFrames fs, ?_, .returned (some (.int 1)), hrun, hended, rfl, ⟨_, rfl⟩, hW, hframe⟩
  jvm_step X.here [X.here.top, hx, hb, hdg, hmeth', hr, ret, narrow_b1]
  (try refine ⟨rfl, ?_⟩); (try refine ⟨rfl, ?_⟩)
  first | (intro acts; rw [hret _ acts rfl rfl rfl]) | rw [hret _ _ rfl rfl rfl]
  exact Steps.refl _
/-- what holds at the law's entry: the machine, the code, the tables' words (any of lw_tbl by 'hts w (by decide +kernel)'), the script of L ints xs at the cell b, what the Statement gives of the start (any of its parts by flat_of_before) -/
def lw_At (p : Program) (s : State) (m : MethodId) (meth : Method) (c : Code) (b L : Nat) (xs : Nat → Int32) : Prop :=
  p.tables.exec = Jvm.exec ∧ c.code = code ∧ meth.sig.returnType = ret ∧ c.maxLocals = 4 ∧ s.vm.findClass R_law = some m.cls ∧ (∀ w ∈ lw_tbl, w.before #[Value.ref b] s = true) ∧ va_X b L xs s s.heap ∧ b < s.heap.size ∧ meth.locks = false ∧ (Jvm.Cond.and given_1 narrow_1).before #[Value.ref b] s = true
/-! The law from its entry: two constructors, then the abstract machine. -/
theorem ctLw_pl : ([Cond.classLink (aCls 18) 7 (aCls 10), Cond.classLink (aCls 18) 10 (aCls 11), Cond.instantiable (aCls 10) (aNF 10), Cond.instantiable (aCls 11) (aNF 11), Cond.initialized (aCls 10), Cond.initialized (aCls 11), Cond.methodLink (aCls 18) 9 (ctMe 10).1, Cond.methodLink (aCls 18) 12 (ctMe 11).1].all fun w => lw_tbl.contains w) = true := by decide +kernel
theorem ctLw_in : ∀ w ∈ [Cond.classLink (aCls 18) 7 (aCls 10), Cond.classLink (aCls 18) 10 (aCls 11), Cond.instantiable (aCls 10) (aNF 10), Cond.instantiable (aCls 11) (aNF 11), Cond.initialized (aCls 10), Cond.initialized (aCls 11), Cond.methodLink (aCls 18) 9 (ctMe 10).1, Cond.methodLink (aCls 18) 12 (ctMe 11).1], w ∈ lw_tbl := fun w hw => List.contains_iff_mem.mp (List.all_eq_true.mp ctLw_pl w hw)
theorem ctRt_11 : ∀ n, aRt (aMe 280).2.2.2.1 ≠ 14 + n := by
  have h : Nat.blt (aRt (aMe 280).2.2.2.1) 14 = true := by decide +kernel
  have h := Nat.le_of_ble_eq_true h
  intro n
  omega
theorem ctCodes : decode code 0 = .ok (.new 7, 3) ∧ decode code 3 = .ok (.dup, 1) ∧ decode code 4 = .ok (.invokespecial 9, 3) ∧ decode code 7 = .ok (.astore_n 1, 1) ∧ decode code 8 = .ok (.new 10, 3) ∧ decode code 11 = .ok (.dup, 1) ∧ decode code 12 = .ok (.invokespecial 12, 3) ∧ decode code 15 = .ok (.astore_n 2, 1) ∧ decode code 16 = .ok (.iconst 0, 1) ∧ decode code 17 = .ok (.istore_n 3, 1) := by decide +kernel
theorem ctCap_10 : (ctCap 10).1 ≤ 1000 ∧ (ctCap 10).2 ≤ 100000 ∧ (ctCap 11).1 ≤ 1000 ∧ (ctCap 11).2 ≤ 100000 ∧ aNF 10 ≤ 100 ∧ aNF 11 ≤ 100 := by decide +kernel
theorem ctMe280 : (aMe 280).2.1 = code ∧ (aMe 280).2.2.1 = 4 ∧ (aMe 280).2.2.2.2.2.2.2 = 18 ∧ aCls 18 = R_law := by
  refine ⟨rfl, rfl, rfl, rfl⟩
theorem ctSh0 (cI cJ cO : ClassId) (b0 : Nat) (E : List ctE) : (([] : List ctE) ++ E.map (ctShE (([] : List ctE).length : Nat))).map (ctEnt cI cJ cO b0) = E.map (ctEnt cI cJ cO b0) := by
  rw [List.nil_append, List.map_map]
  exact List.map_congr_left fun x _ => ctEnt_sh cI cJ cO b0 0 x
set_option maxHeartbeats 4000000 in
theorem whole_of {p : Program} {e : Env} {s : State} {m : MethodId} {below : List Frame} {meth : Method} {c : Code} (l : Launch) {b L : Nat} {xs : Nat → Int32} (hL : L ≤ 3072) (C0 : lw_At p s m meth c b L xs) (hlaw : ∃ M, w_lw_law_18 44 0 (ctM0 L xs) = some ([aI 1], M)) : W p l e room_1 s m #[Value.ref b] below meth c s.heap [] 0 0 (lw_Z below #[Value.ref b] s) (entryFrame m ([Value.ref b] : List Value).toArray 4) := by
  obtain ⟨hx, hb, hr, hml, hown, hts, hX, hbl, hlocks, hgv⟩ := id C0
  obtain ⟨g1, g2, g3, g4⟩ := ctMe280
  obtain ⟨d0, d3, d4, d7, d8, d11, d12, d15, d16, d17⟩ := ctCodes
  obtain ⟨k1, k2, k3, k4, k5, k6⟩ := ctCap_10
  have hts0 : ∀ w ∈ aT0, w.before #[Value.ref b] s = true := fun w hw => hts w (List.mem_filter.mp hw).1
  have hw := fun w hw => hts w (ctLw_in w hw)
  have hown8 : s.vm.findClass (aCls 18) = some m.cls := by rw [g4]; exact hown
  obtain ⟨D, cI, cJ, cO, hK⟩ := ctStart_K hts
  generalize hb0 : s.heap.size = b0
  have hA : ∀ a : Nat, a < s.heap.size → ¬ aA b0 a := fun a ha h => by unfold aA at h; omega
  obtain ⟨kS, kV, fv, hfv, hS, hR, hZ1, hZ2⟩ := ctStart_S hts hgv hA
  have rf : room_1.frames = 2048 ∧ room_1.cells = 600000 ∧ room_1.slots = 7302250 ∧ room_1.locals = 84000 := ⟨rfl, rfl, rfl, rfl⟩
  obtain ⟨rf1, rf2, rf3, rf4⟩ := rf
  have hl := lv_entry ([.ref b]) (n := 4) (Nat.le_of_ble_eq_true rfl)
  rw [lg_entry_eq]
  generalize (lg_sl ([.ref b]) ++ List.replicate (4 - (lg_sl ([.ref b])).length) Slot.unset).toArray = ls at hl ⊢
  have hl : lv_has ls 4 [(0, .ref b)] := hl
  have hW0 : cW D b0 [] s.heap := ⟨by rw [hb0]; rfl, fun k x hx => by simp at hx⟩
  have hS0 : va_S (cA b0) s.heap s.heap [] := va_S.rf
  refine c_new (ci := 10) (own := 18) (base := b0) (E := []) hx hb hts0 (by omega) hown8 (hw _ List.mem_cons_self) (hw (.instantiable (aCls 10) (aNF 10)) (by simp)) (hw (.initialized (aCls 10)) (by simp)) hK.1 hW0 hS0 (by rw [hb0]; exact Nat.le_refl _) (by omega) (by omega) d0 fun H1 hW1 hS1 => ?_
  refine lv_dup hx hb d3 rfl ?_
  refine ctCall (own := 18) (base := b0) (E0 := []) (y := 10) (ne := 0) (vs := []) (rest := [(1, 0)]) (d := 3) hx hb hml hts0 hown8 hK hl.1 (ctMet l 3) ⟨by omega, by omega⟩ (by omega) (Or.inl ⟨rfl, hw (.methodLink (aCls 18) 9 (ctMe 10).1) (by simp)⟩) d4 rfl ctX1_ok (by decide) (by decide) (by
    show cW D b0 ([] ++ [ctEnt cI cJ cO b0 (ctDf 10)]) H1
    rw [ctDf_e cI cJ cO b0 (by omega)]
    exact hW1) hS1 (by omega) (by omega) fun H2 locs2 hW2 hS2 => ?_
  rw [ctSh0] at hW2
  refine lv_astore_n (lv' := [(1, .ref (b0 + 0)), (0, .ref b)]) hx hb d7 rfl hl (by decide) rfl (fun ls hl => ?_)
  have hz2 : s.heap.size ≤ b0 + (ctX1.map (ctEnt cI cJ cO b0)).length := by rw [hb0]; exact Nat.le_add_right _ _
  refine c_new (ci := 11) (own := 18) (base := b0) hx hb hts0 (by omega) hown8 (hw (.classLink (aCls 18) 10 (aCls 11)) (by simp)) (hw (.instantiable (aCls 11) (aNF 11)) (by simp)) (hw (.initialized (aCls 11)) (by simp)) hK.1 hW2 hS2 hz2 (by omega) (by omega) d8 fun H3 hW3 hS3 => ?_
  refine lv_dup hx hb d11 rfl ?_
  rw [List.length_map]
  refine ctCall (own := 18) (base := b0) (E0 := ctX1) (y := 11) (ne := 0) (vs := []) (rest := [(1, (ctX1.length : Int))]) (d := 0) hx hb hml hts0 hown8 hK hl.1 (ctMet l 0) ⟨by omega, by omega⟩ (by omega) (Or.inl ⟨rfl, hw (.methodLink (aCls 18) 12 (ctMe 11).1) (by simp)⟩) d12 rfl ctX2_ok (by decide) (by decide) (by
    rw [List.map_append]
    show cW D b0 (_ ++ [ctEnt cI cJ cO b0 (ctDf 11)]) H3
    rw [ctDf_e cI cJ cO b0 (by omega)]
    exact hW3) hS3 (by omega) (by omega) fun H4 locs4 hW4 hS4 => ?_
  have e157 : ([((1, (ctX1.length : Int)) : ctV)]).map (ctVal b0) = [.ref (b0 + 157)] := by
    rw [List.map_cons, ctRefN, ctX1_len]
    rfl
  rw [e157]
  rw [ctX1_len] at hW4
  have hf4 : ∀ q ∈ locs4, s.heap.size ≤ q.base := fun q hq => by
    have : b0 ≤ q.base := hS4.2.2 q hq
    omega
  refine va_forget hf4 ?_
  have hS5 : va_S (aA b0) s.heap H4 [] := ⟨hS4.1, fun q h1 h2 => hS4.2.1 q h1 (fun z => by have z : b0 ≤ q := z; omega), fun q hq => by cases hq⟩
  refine lv_astore_n (lv' := [(2, .ref (b0 + 157)), (1, .ref (b0 + 0)), (0, .ref b)]) hx hb d15 rfl hl (by decide) rfl (fun ls hl => ?_)
  refine lv_iconst (v := 0) hx hb d16 (by decide) ?_
  refine lv_istore_n (lv' := [(3, .int 0), (2, .ref (b0 + 157)), (1, .ref (b0 + 0)), (0, .ref b)]) hx hb d17 rfl hl (by decide) rfl (fun ls hl => ?_)
  have hWo : aWo D cI cJ cO b0 kS kV fv s s.heap := ⟨hK.1, hS, hR, hZ1, hZ2⟩
  obtain ⟨M, hM⟩ := hlaw
  have hmem := ctM0_mem xs hL
  have hsc : aScr True b0 b (ctM0 L xs) s := fun _ => ⟨L, xs, hX, hbl, hA b hbl, rfl, by omega, fun i hi => by
    show (if (999 : Nat) = 998 then _ else if (999 : Nat) = 999 then (if i < L then (xs i).toInt else 0) else _) = _
    rw [if_neg (by decide), if_pos rfl, if_pos hi]⟩
  have hck := ck_lw_law
  unfold aCkM at hck
  obtain ⟨hc1, hc2⟩ := and_of hck
  have hb' : c.code = (aMe 280).2.1 := hb.trans g1.symm
  have hml' : c.maxLocals = (aMe 280).2.2.1 := hml.trans g2.symm
  have hown' : s.vm.findClass (aCls (aMe 280).2.2.2.2.2.2.2) = some m.cls := by rw [g3]; exact hown8
  have Lo : aLo (aTo b0 kS kV fv b) True (aMe 280).2.2.1 [some (aQ 23 999), some (aQ 10 0), some (aQ 11 157), some (aI 0)] ls := by
    rw [g2]
    refine ⟨rfl, lv_sub hl [3, 2, 1, 0] rfl, fun i v hi => ?_⟩
    match i, hi with
    | 0, hi => cases hi; exact Or.inr (Or.inl ⟨rfl, trivial⟩)
    | 1, hi => cases hi; exact Or.inl ⟨by omega, by omega, by decide +kernel⟩
    | 2, hi => cases hi; exact Or.inl ⟨by omega, by omega, by decide +kernel⟩
    | 3, hi => cases hi; exact ⟨by omega, by omega⟩
    | i + 4, hi => cases hi
  have hG : aGl D cI cJ cO b0 (ctM0 L xs) s.heap (ctM0 L xs) H4 [] := ⟨hmem, ctX_P L xs hW4, hS5⟩
  have hcall := aCall_of (Q := lw_Z below #[Value.ref b] s) (R := room_1) (l0 := l) (e := e) (below := below) (meth := meth) (cells := 0 + 1 + (ctCap 10).1 + 1 + (ctCap 11).1) (slots := 0 + aNF 10 + (ctCap 10).2 + aNF 11 + (ctCap 11).2) (scr := True) (sb := b) (M0 := ctM0 L xs) hx hb' hml' hown' hts0 hWo hfv (d := 44) (Or.inr ⟨43, rfl, aMet l 43, by omega, by omega⟩) ⟨by omega, by omega⟩
  refine aOm_snd (st := []) hx hb' hml' hown' hts0 hWo hfv hsc ⟨by omega, by omega, by omega, by omega⟩ ctRt_11 hcall hc1 hc2 ?_ Lo (fun v hv => by cases hv) hG hM
  intro pc ls1 st M1 H locs S G hrr hret
  have hst : st = [aI 1] := by cases hrr; rfl
  subst hst
  have hd : decode code pc = .ok (.ireturn, 1) := by
    rw [← g1]
    rcases hret with ⟨x, h, hdg, -⟩ | ⟨x, h, -⟩ | ⟨k, h, -⟩ | ⟨h, -⟩
    · exact hdg
    · cases h
    · cases h
    · cases h
  have hf : ∀ q ∈ locs, s.heap.size ≤ q.base := fun q hq => by
    have h : aA b0 q.base := G.2.2.2.2 q hq
    unfold aA at h
    omega
  refine va_forget hf ?_
  refine W.widen (k := 600000) (n := 7302250) (by omega) (by omega) ?_
  exact lw_ret hx hb hr hlocks hd
