theorem aEnt_i {cI cJ cO : ClassId} {b0 : Nat} {M : aM} {a : Nat} (h : aTyp a = 20) : aEnt cI cJ cO b0 M a = .inl (cI, aLen a, .inl fun i => Int32.ofInt (M a i)) := by unfold aEnt; rw [h]; rfl
theorem aEnt_j {cI cJ cO : ClassId} {b0 : Nat} {M : aM} {a : Nat} (h : aTyp a = 21) : aEnt cI cJ cO b0 M a = .inl (cJ, aLen a, .inr (.inl fun i => Int64.ofInt (M a i))) := by unfold aEnt; rw [h]; rfl
theorem aEnt_q {cI cJ cO : ClassId} {b0 : Nat} {M : aM} {a : Nat} (h : aTyp a = 22) : aEnt cI cJ cO b0 M a = .inl (cO, aLen a, .inr (.inr (.inr (.inr fun i => some (b0 + (a + 2 + 5 * i)))))) := by unfold aEnt; rw [h]; rfl
theorem aEnt_ob {cI cJ cO : ClassId} {b0 : Nat} {M : aM} {a : Nat} (_ha : a < 177) (h : aTyp a < 12) : aEnt cI cJ cO b0 M a = .inr (aTyp a, (List.range (aNF (aTyp a))).map (aFV b0 (aTyp a) a M)) := by
  unfold aEnt
  split
  · omega
  · omega
  · omega
  · rfl
theorem aCl_at {ci : Nat} (h : ci < 12) : aCl[ci]? = some (aCls ci, aT ci, aNF ci) := by
  unfold aCl
  rw [List.getElem?_map, List.getElem?_range h]
  rfl
theorem aT_cls : ∀ ci, ci < 12 → ∀ k, k < aNF ci → (aT ci k).1 = aCls ci := by decide +kernel
theorem aLay_pl : ∀ ci, ci < 12 → (u_ws (aCls ci) (aT ci) (aNF ci)).all (fun w => lw_tbl.contains w && goodWord w) = true := by decide +kernel
theorem aLay_in (ci : Nat) (h : ci < 12) : ∀ w ∈ u_ws (aCls ci) (aT ci) (aNF ci), w ∈ aT0 := fun w hw => aT0_mem (List.contains_iff_mem.mp (and_of (List.all_eq_true.mp (aLay_pl ci h) w hw)).1) (and_of (List.all_eq_true.mp (aLay_pl ci h) w hw)).2
noncomputable def aTyOf (ci k : Nat) : FieldType := (parseFieldDescriptor (aT ci k).2.2.1).getD .int
theorem aTy_ok (ci : Nat) (h : ci < 12) : ∀ k, k < aNF ci → parseFieldDescriptor (aT ci k).2.2.1 = some (aTyOf ci k) := by
  have e : ∀ ci, ci < 12 → ∀ k, k < aNF ci → (parseFieldDescriptor (aT ci k).2.2.1).isSome = true := by decide +kernel
  intro k hk
  obtain ⟨t, ht⟩ := Option.isSome_iff_exists.mp (e ci h k hk)
  unfold aTyOf
  rw [ht]
  rfl
theorem aNm_ok (ci : Nat) (h : ci < 12) : ∀ a, a < aNF ci → ∀ b, b < aNF ci → a ≠ b → (aT ci a).2.1 ≠ (aT ci b).2.1 := by
  have e : ∀ ci, ci < 12 → ∀ a, a < aNF ci → ∀ b, b < aNF ci → a ≠ b → (aT ci a).2.1 ≠ (aT ci b).2.1 := by decide +kernel
  exact e ci h
/-- a field of whole numbers is one of kind 0 -/
theorem aFk_int : ∀ ci, ci < 12 → ∀ k, k < aNF ci → ((aT ci k).2.2.1 = "I" ∨ (aT ci k).2.2.1 = "Z") → (aFk ci k).1 = 0 := by decide +kernel
theorem aFs_set {b0 : Nat} {M : aM} {x : Int} (ci a r2 : Nat) {r3 : Nat} (h : ci < 12) (h2 : r2 < aNF ci) (h4 : (aT ci r2).2.2.1 = (if r3 = 0 then "I" else "Z")) :
    (List.range (aNF ci)).map (aFV b0 ci a (aUp M a r2 x)) = ((List.range (aNF ci)).map (aFV b0 ci a M)).set r2 (.int (Int32.ofInt x)) := by
  have hk : (aFk ci r2).1 = 0 := aFk_int ci h r2 h2 (by
    rw [h4]
    by_cases e : r3 = 0
    · rw [if_pos e]; exact Or.inl rfl
    · rw [if_neg e]; exact Or.inr rfl)
  apply List.ext_getElem?
  intro k
  by_cases hk2 : k < aNF ci
  · by_cases e : r2 = k
    · subst e
      rw [List.getElem?_set_self (by rw [List.length_map, List.length_range]; exact hk2), List.getElem?_map, List.getElem?_range hk2]
      show some (aFV b0 ci a (aUp M a r2 x) r2) = _
      have : aFV b0 ci a (aUp M a r2 x) r2 = .int (Int32.ofInt x) := by
        unfold aFV
        generalize hq : aFk ci r2 = q at hk ⊢
        obtain ⟨q1, q2, q3⟩ := q
        dsimp only at hk
        subst hk
        show Value.int (Int32.ofInt (aUp M a r2 x a r2)) = _
        rw [aUp_eq, if_pos rfl]
      rw [this]
    · rw [List.getElem?_set_ne e, List.getElem?_map, List.getElem?_map, List.getElem?_range hk2]
      show some (aFV b0 ci a (aUp M a r2 x) k) = some (aFV b0 ci a M k)
      have : aFV b0 ci a (aUp M a r2 x) k = aFV b0 ci a M k := by
        unfold aFV
        rw [aUp_eq, if_neg (fun z => e z.symm)]
      rw [this]
  · rw [List.getElem?_eq_none (by rw [List.length_map, List.length_range]; omega), List.getElem?_eq_none (by rw [List.length_set, List.length_map, List.length_range]; omega)]
theorem aLkS (pc r1 : Nat) {dflt : Int} (x : Int) {r : List aV × aM} {kj' : Nat → aR} : ∀ (ps : List (Int × Int)) (sw : List (Int × Nat)), sw.length = ps.length → (∀ z ∈ ps.zip sw, z.2.1 = z.1.1 ∧ (pc : Int) + z.1.2 = (z.2.2 : Int)) → (pc : Int) + dflt = (r1 : Int) → aSw x (kj' r1) kj' sw = some r →
    ∃ t : Nat, kj' t = some r ∧ (pc : Int) + lookupswitch.offset ps dflt x = (t : Int) := by
  intro ps
  induction ps with
  | nil =>
    intro sw hl _ hd h
    have : sw = [] := List.length_eq_zero_iff.mp hl
    subst this
    exact ⟨r1, h, hd⟩
  | cons a ps ih =>
    intro sw hl hz hd h
    cases sw with
    | nil => cases hl
    | cons b sw =>
      obtain ⟨h1, h2⟩ := hz (a, b) (by simp)
      obtain ⟨a1, a2⟩ := a
      dsimp only at h1 h2
      unfold aSw at h
      rw [lookupswitch.offset_cons]
      by_cases e : x = b.1
      · rw [if_pos e] at h
        exact ⟨b.2, h, by rw [if_pos (by omega)]; exact h2⟩
      · rw [if_neg e] at h
        obtain ⟨t, g1, g2⟩ := ih sw (by simpa using hl) (fun z hz' => hz z (by simp [hz'])) hd h
        exact ⟨t, g1, by rw [if_neg (by omega)]; exact g2⟩
set_option maxRecDepth 100000 in
theorem bw_nat : Cond.native arraycopyName ∈ lw_tbl := aTbl_at (k := 3) (i := 17) rfl
set_option maxRecDepth 100000 in
theorem bw_sys : Cond.initialized "java/lang/System" ∈ lw_tbl := aTbl_at (k := 1) (i := 14) rfl
set_option maxRecDepth 100000 in
theorem bw_math : Cond.initialized "java/lang/Math" ∈ lw_tbl := aTbl_at (k := 1) (i := 6) rfl
set_option maxRecDepth 100000 in
theorem bw_s0 : Cond.static arraycopyName ∈ lw_tbl := aTbl_at (k := 3) (i := 16) rfl
set_option maxRecDepth 100000 in
theorem bw_s4 : Cond.static Lib.Math.max.name ∈ lw_tbl := aTbl_at (k := 1) (i := 138) rfl
set_option maxRecDepth 100000 in
theorem bw_c4 : Cond.code Lib.Math.max.name Lib.Math.max.code 2 (some .int) ∈ lw_tbl := aTbl_at (k := 1) (i := 139) rfl
set_option maxRecDepth 100000 in
theorem bw_s5 : Cond.static Lib.Math.min.name ∈ lw_tbl := aTbl_at (k := 3) (i := 82) rfl
set_option maxRecDepth 100000 in
theorem bw_c5 : Cond.code Lib.Math.min.name Lib.Math.min.code 2 (some .int) ∈ lw_tbl := aTbl_at (k := 3) (i := 83) rfl
set_option maxRecDepth 100000 in
theorem bw_s6 : Cond.static Lib.Math.abs.name ∈ lw_tbl := aTbl_at (k := 4) (i := 224) rfl
set_option maxRecDepth 100000 in
theorem bw_c6 : Cond.code Lib.Math.abs.name Lib.Math.abs.code 1 (some .int) ∈ lw_tbl := aTbl_at (k := 4) (i := 225) rfl
set_option maxRecDepth 100000 in
theorem bw_s7 : Cond.static Lib.MathLoose.min_long.x ∈ lw_tbl := aTbl_at (k := 5) (i := 76) rfl
set_option maxRecDepth 100000 in
theorem bw_c7 : Cond.code Lib.MathLoose.min_long.x Lib.MathLoose.min_long.code 4 (some .long) ∈ lw_tbl := aTbl_at (k := 5) (i := 77) rfl
theorem aCat_sum {b0 : Nat} {kS kV : Nat → Nat} {fv : Value} {sb : Nat} (hfv : fv.category = 1) : ∀ st : List aV, ((st.map (aTo b0 kS kV fv sb)).map fun v => v.category).sum = aCat st := by
  intro st
  induction st with
  | nil => rfl
  | cons v st ih =>
    rw [List.map_cons, List.map_cons, List.sum_cons, ih]
    rcases v with x | x | q
    · rw [aTo_cat hfv _ (fun x e => by cases e)]; show 1 + aCat st = aCat st + 1; omega
    · show 2 + aCat st = aCat st + 2; omega
    · rw [aTo_cat hfv _ (fun x e => by cases e)]; show 1 + aCat st = aCat st + 1; omega
def aIvk (O : aO) (y r2 r3 : Nat) (st : List aV) (al : aL) (M : aM) (kf : aKF) (X : aR) : aR := match r3 with
  | 0 => X
  | 1 => bndV (O y (st.take r2).reverse M) fun M => kf al (st.drop r2) M
  | 2 => bndI (O y (st.take r2).reverse M) fun v M => kf al (aI v :: st.drop r2) M
  | 3 => bndJ (O y (st.take r2).reverse M) fun v M => kf al (aJ v :: st.drop r2) M
  | 4 => bndS (O y (st.take r2).reverse M) fun k M => kf al (aQ 24 k :: st.drop r2) M
  | _ => none
section INV
variable {p : Program} {l0 : Launch} {e : Env} {R : Room} {s : State} {m : MethodId} {args : Array Value} {below : List Frame} {meth : Method} {c : Code} {cells slots : Nat} {Q : State → Prop}
variable {cc : ByteArray} {nL own : Nat} {D : va_G} {cI cJ cO : ClassId} {b0 : Nat} {kS kV : Nat → Nat} {fv : Value} {sb : Nat} {scr : Prop} {M0 : aM}
theorem aInv {O : aO} (hO : aCallOk p l0 e R s m args below meth c cells slots Q cc nL own D cI cJ cO b0 kS kV fv sb scr M0 O) (hfv : fv.category = 1) {y k r2 r3 n1 n2 pc : Nat} (sf : Bool) (hy : y < 280) (hm : aWord own (k, 1, y, 0, 0, n1, n2) ∈ lw_tbl) (hsf : (aMe y).2.2.2.2.2.2.1 = sf)
    (h4 : r3 ≤ 4) (h1 : 1 ≤ r3) {st : List aV} (hc8 : aCat (st.drop r2) ≤ 8) (hd : decode cc pc = .ok (bif sf then .invokestatic k else .invokevirtual k, 3)) {al : aL} {M : aM} {H : Heap} {locs : List Loc} {ls : Array Slot} (L : aLo (aTo b0 kS kV fv sb) scr nL al ls) (S : ∀ v ∈ st, aOk scr v) (G : aGl D cI cJ cO b0 M0 s.heap M H locs) {kf : aKF} {r : List aV × aM} {X : aR}
    (h : aIvk O y r2 r3 st al M kf X = some r)
    (Kf : ∀ H1 locs1 st' M', (∀ v ∈ st', aOk scr v) → aGl D cI cJ cO b0 M0 s.heap M' H1 locs1 → kf al st' M' = some r → W p l0 e R s m args below meth c H1 locs1 cells slots Q (F0 m (pc + 3) ls (st'.map (aTo b0 kS kV fv sb)))) :
    W p l0 e R s m args below meth c H locs cells slots Q (F0 m pc ls (st.map (aTo b0 kS kV fv sb))) := by
  have hst : st.map (aTo b0 kS kV fv sb) = (((st.take r2).reverse.map (aTo b0 kS kV fv sb)).reverse ++ (st.drop r2).map (aTo b0 kS kV fv sb)) := by
    rw [List.map_reverse, List.reverse_reverse, ← List.map_append, List.take_append_drop]
  have hvs : ∀ v ∈ (st.take r2).reverse, aOk scr v := fun v hv => S v (List.mem_of_mem_take (List.mem_reverse.mp hv))
  have hrs : ∀ v ∈ st.drop r2, aOk scr v := fun v hv => S v (List.mem_of_mem_drop hv)
  have go : ∀ rs M', O y (st.take r2).reverse M = some (rs, M') → (∀ H1 locs1, aGl D cI cJ cO b0 M0 s.heap M' H1 locs1 → (∀ v ∈ rs, aOk scr v) → W p l0 e R s m args below meth c H1 locs1 cells slots Q (F0 m (pc + 3) ls (rs.map (aTo b0 kS kV fv sb) ++ (st.drop r2).map (aTo b0 kS kV fv sb)))) → W p l0 e R s m args below meth c H locs cells slots Q (F0 m pc ls (st.map (aTo b0 kS kV fv sb))) := by
    intro rs M' hOr k2
    rw [hst]
    exact hO y _ rs M M' hy hOr hvs k pc ls _ H locs L.2.1.1 G hm (by rw [aCat_sum hfv]; exact hc8) (by rw [hsf]; exact hd) k2
  rcases r3 with _ | _ | _ | _ | _ | r3
  · omega
  · obtain ⟨M', hOr, h⟩ := bndV_inv h
    exact go _ _ hOr fun H1 locs1 g _ => Kf _ _ (st.drop r2) _ hrs g h
  · obtain ⟨v, M', hOr, h⟩ := bndI_inv h
    exact go _ _ hOr fun H1 locs1 g ho => Kf _ _ (aI v :: st.drop r2) _ (S_cons (ho _ List.mem_cons_self) hrs) g h
  · obtain ⟨v, M', hOr, h⟩ := bndJ_inv h
    exact go _ _ hOr fun H1 locs1 g ho => Kf _ _ (aJ v :: st.drop r2) _ (S_cons (ho _ List.mem_cons_self) hrs) g h
  · obtain ⟨v, M', hOr, h⟩ := bndS_inv h
    exact go _ _ hOr fun H1 locs1 g ho => Kf _ _ (aQ 24 v :: st.drop r2) _ (S_cons (ho _ List.mem_cons_self) hrs) g h
  · omega
theorem aBltS (hx : p.tables.exec = Jvm.exec) (hb : c.code = cc) (hml : c.maxLocals = nL) (hown : s.vm.findClass (aCls own) = some m.cls) (hts : ∀ w ∈ aT0, w.before args s = true) (hW : aWo D cI cJ cO b0 kS kV fv s s.heap) (hfv : fv.category = 1) (hro : 1 ≤ R.frames ∧ 300 ≤ R.locals ∧ cells ≤ R.cells ∧ slots ≤ R.slots)
    {f k n1 n2 pc r2 : Nat} (hm : aWord own (k, 2, f, 0, 0, n1, n2) ∈ lw_tbl) (hd : decode cc pc = .ok (.invokestatic k, 3)) {st : List aV} {al : aL} {M : aM} {H : Heap} {locs : List Loc} {ls : Array Slot} (L : aLo (aTo b0 kS kV fv sb) scr nL al ls) (S : ∀ v ∈ st, aOk scr v) (G : aGl D cI cJ cO b0 M0 s.heap M H locs) (hc8 : aCat (st.drop r2) ≤ 8) (hr2 : r2 = 0) {kf : aKF} {r : List aV × aM}
    (h : aBlt f st al M kf = some r)
    (Kf : ∀ H1 locs1 st' M', (∀ v ∈ st', aOk scr v) → aGl D cI cJ cO b0 M0 s.heap M' H1 locs1 → kf al st' M' = some r → W p l0 e R s m args below meth c H1 locs1 cells slots Q (F0 m (pc + 3) ls (st'.map (aTo b0 kS kV fv sb)))) :
    W p l0 e R s m args below meth c H locs cells slots Q (F0 m pc ls (st.map (aTo b0 kS kV fv sb))) := by
  have hml2 : c.maxLocals = ls.size := hml.trans L.2.1.1.symm
  have hsum : ((st.map (aTo b0 kS kV fv sb)).map fun v => v.category).sum ≤ 8 := by
    rw [aCat_sum hfv]
    subst hr2
    exact hc8
  obtain ⟨hr1, hr3, hr4, hr5⟩ := hro
  unfold aBlt at h
  split at h
  · split at h
    · next n dp t2 b sp t1 a l =>
      by_cases ht : (Nat.beq t1 20 && Nat.beq t2 20) = true
      · rw [ht] at h
        obtain ⟨ht1, ht2⟩ := and_of ht
        obtain rfl := beq_of ht1
        obtain rfl := beq_of ht2
        dsimp only [cond] at h
        split at h
        · next hc =>
          obtain ⟨c1, c2, c3, c4, c5⟩ := hc
          have on : in32 n := S _ List.mem_cons_self
          have S1 := S_tail S
          have odp : in32 dp := S1 _ List.mem_cons_self
          have S2 := S_tail S1
          have ob := S2 _ List.mem_cons_self
          have S3 := S_tail S2
          have osp : in32 sp := S3 _ List.mem_cons_self
          have S4 := S_tail S3
          have oa := S4 _ List.mem_cons_self
          have ha : a < 177 ∧ aTyp a = 20 := by rcases oa with z | z | z | z <;> first | exact ⟨z.2.1, z.2.2⟩ | omega
          have hb2 : b < 177 ∧ aTyp b = 20 := by rcases ob with z | z | z | z <;> first | exact ⟨z.2.1, z.2.2⟩ | omega
          rw [List.map_cons, List.map_cons, List.map_cons, List.map_cons, List.map_cons, aTo_ob (by omega), aTo_ob (by omega)]
          refine va_copyi (ty := .int) (f := fun i => Int32.ofInt (M a i)) (g := fun i => Int32.ofInt (M b i)) hx hb hml2 hown (hts _ (aT0_mem hm rfl)) (hts _ (aT0_mem bw_nat rfl)) (hts _ (aT0_mem bw_s0 rfl)) (hts _ (aT0_mem bw_sys rfl)) hW.1 G.2.1 (aWs_D _ _ _ _ _) G.2.2 a b 0 0 (by rw [aWs_at _ _ _ _ _ ha.1, aEnt_i ha.2]) (by rw [aWs_at _ _ _ _ _ hb2.1, aEnt_i hb2.2]) rfl rfl rfl (fun z => by have := (i32_lt0 osp).mp z; omega) (fun z => by have := (i32_lt0 odp).mp z; omega) (fun z => by have := (i32_lt0 on).mp z; omega) (by rw [i32_clamp osp, i32_clamp on]; omega) (by rw [i32_clamp odp, i32_clamp on]; omega) (fun _ _ => rfl) hr1 ?_ hd (fun H1 locs1 hP1 hD1 hS1 => ?_)
          · have h8 : ((l.map (aTo b0 kS kV fv sb)).map fun v => v.category).sum ≤ 8 := by
              simp only [List.map_cons, List.sum_cons] at hsum
              omega
            have hn : nativeFrameWords "java/lang/System" "arraycopy" 5 ≤ 200 := by decide +kernel
            omega
          · refine Kf _ _ _ _ (S_tail S4) ⟨?_, ?_, hS1⟩ h
            · constructor
              · intro q i
                unfold aCpy
                by_cases hq : q = b ∧ dp.toNat ≤ i ∧ i < dp.toNat + n.toNat
                · rw [if_pos hq, hq.1, if_neg (by omega)]
                  have := G.1.1 a (sp.toNat + (i - dp.toNat))
                  rwa [if_neg (by omega)] at this
                · rw [if_neg hq]; exact G.1.1 q i
              · intro q hq
                funext i
                unfold aCpy
                rw [if_neg (by omega)]
                exact congrFun (G.1.2 q hq) i
            · rw [aWs_set _ _ _ _ M (aCpy M a b sp.toNat dp.toNat n.toNat) hb2.1 ?_ (fun q hq => by funext i; unfold aCpy; rw [if_neg (by omega)])] at hP1
              · exact hP1
              · rw [aEnt_i hb2.2, i32_clamp osp, i32_clamp odp, i32_clamp on]
                refine congrArg (fun z => Sum.inl (cI, aLen b, Sum.inl z)) ?_
                funext i
                unfold aCpy va_cpy
                by_cases hi : dp.toNat ≤ i ∧ i < dp.toNat + n.toNat
                · rw [if_pos ⟨rfl, hi⟩, if_pos hi]
                · rw [if_neg (fun z => hi z.2), if_neg hi]
        · cases h
      · rw [Bool.not_eq_true] at ht
        rw [ht] at h
        cases h
    · cases h
  · obtain ⟨x, y, l, est, h2⟩ := aI2_inv h
    clear h
    subst est
    have h := h2
    have oy : in32 y := S _ List.mem_cons_self
    have ox : in32 x := S _ (List.mem_cons_of_mem _ List.mem_cons_self)
    simp only [List.map_cons, List.sum_cons] at hsum
    refine va_mmax hx hb hml2 hown (hts _ (aT0_mem hm rfl)) (hts _ (aT0_mem bw_s4 rfl)) (hts _ (aT0_mem bw_math rfl)) (hts _ (aT0_mem bw_c4 rfl)) hr1 (by omega) hr4 hr5 hd ?_
    rw [imax_i32 ox oy]
    exact Kf _ _ (aI (imax x y) :: l) _ (S_cons (imax_in ox oy) (S_tail (S_tail S))) G h
  · obtain ⟨x, y, l, est, h2⟩ := aI2_inv h
    clear h
    subst est
    have h := h2
    have oy : in32 y := S _ List.mem_cons_self
    have ox : in32 x := S _ (List.mem_cons_of_mem _ List.mem_cons_self)
    simp only [List.map_cons, List.sum_cons] at hsum
    refine va_mmin hx hb hml2 hown (hts _ (aT0_mem hm rfl)) (hts _ (aT0_mem bw_s5 rfl)) (hts _ (aT0_mem bw_math rfl)) (hts _ (aT0_mem bw_c5 rfl)) hr1 (by omega) hr4 hr5 hd ?_
    rw [imin_i32b ox oy]
    exact Kf _ _ (aI (imin x y) :: l) _ (S_cons (imin_in ox oy) (S_tail (S_tail S))) G h
  · obtain ⟨x, l, est, h2⟩ := aI1_inv h
    clear h
    subst est
    have h := h2
    have ox : in32 x := S _ List.mem_cons_self
    simp only [List.map_cons, List.sum_cons] at hsum
    refine va_mabs hx hb hml2 hown (hts _ (aT0_mem hm rfl)) (hts _ (aT0_mem bw_s6 rfl)) (hts _ (aT0_mem bw_math rfl)) (hts _ (aT0_mem bw_c6 rfl)) hr1 (by omega) hr4 hr5 hd ?_
    rw [iabs_i32 ox]
    exact Kf _ _ (aI (iabs x) :: l) _ (S_cons (iabs_in ox) (S_tail S)) G h
  · obtain ⟨x, y, l, est, h2⟩ := aJ2_inv h
    clear h
    subst est
    have h := h2
    have oy : in64 y := S _ List.mem_cons_self
    have ox : in64 x := S _ (List.mem_cons_of_mem _ List.mem_cons_self)
    simp only [List.map_cons, List.sum_cons] at hsum
    refine va_mmin_long hx hb hml2 hown (hts _ (aT0_mem hm rfl)) (hts _ (aT0_mem bw_s7 rfl)) (hts _ (aT0_mem bw_math rfl)) (hts _ (aT0_mem bw_c7 rfl)) hr1 (by omega) hr4 hr5 hd ?_
    rw [imin_i64 ox oy]
    exact Kf _ _ (aJ (imin x y) :: l) _ (S_cons (imin_in64 ox oy) (S_tail (S_tail S))) G h
  · cases h
end INV
section STEP2
variable {p : Program} {l0 : Launch} {e : Env} {R : Room} {s : State} {m : MethodId} {args : Array Value} {below : List Frame} {meth : Method} {c : Code} {cells slots : Nat} {Q : State → Prop}
variable {cc : ByteArray} {nL own rt : Nat} {D : va_G} {cI cJ cO : ClassId} {b0 : Nat} {kS kV : Nat → Nat} {fv : Value} {sb : Nat} {scr : Prop} {M0 : aM}
set_option maxHeartbeats 4000000 in
theorem aStep (hx : p.tables.exec = Jvm.exec) (hb : c.code = cc) (hml : c.maxLocals = nL) (hown : s.vm.findClass (aCls own) = some m.cls) (hts : ∀ w ∈ aT0, w.before args s = true) (hW : aWo D cI cJ cO b0 kS kV fv s s.heap) (hfv : fv.category = 1) (hsc : aScr scr b0 sb M0 s) (hro : 1 ≤ R.frames ∧ 300 ≤ R.locals ∧ cells ≤ R.cells ∧ slots ≤ R.slots) (hrt : ∀ n, rt ≠ 14 + n) {O : aO} (hO : aCallOk p l0 e R s m args below meth c cells slots Q cc nL own D cI cJ cO b0 kS kV fv sb scr M0 O)
    (E : aE) (hck : aCkE own nL rt cc E = true) {al : aL} {st : List aV} {M : aM} {H : Heap} {locs : List Loc} {ls : Array Slot} (L : aLo (aTo b0 kS kV fv sb) scr nL al ls) (S : ∀ v ∈ st, aOk scr v) (G : aGl D cI cJ cO b0 M0 s.heap M H locs)
    {kf : aKF} {kj : aKJ} {r : List aV × aM} (h : aEx O E al st M kf kj = some r)
    (Kf : ∀ al' ls' st' M' H' locs', aLo (aTo b0 kS kV fv sb) scr nL al' ls' → (∀ v ∈ st', aOk scr v) → aGl D cI cJ cO b0 M0 s.heap M' H' locs' → kf al' st' M' = some r → W p l0 e R s m args below meth c H' locs' cells slots Q (F0 m (E.1 + E.2.2.2.1) ls' (st'.map (aTo b0 kS kV fv sb))))
    (Kj : ∀ t al' ls' st' M' H' locs', aLo (aTo b0 kS kV fv sb) scr nL al' ls' → (∀ v ∈ st', aOk scr v) → aGl D cI cJ cO b0 M0 s.heap M' H' locs' → kj t al' st' M' = some r → W p l0 e R s m args below meth c H' locs' cells slots Q (F0 m t ls' (st'.map (aTo b0 kS kV fv sb))))
    (Kr : r = (st, M) → aRet cc rt E.1 st → W p l0 e R s m args below meth c H locs cells slots Q (F0 m E.1 ls (st.map (aTo b0 kS kV fv sb)))) :
    W p l0 e R s m args below meth c H locs cells slots Q (F0 m E.1 ls (st.map (aTo b0 kS kV fv sb))) := by
  obtain ⟨pc, mk0, i, len, r1, r2, r3, r4, r5, sw⟩ := E
  obtain ⟨hck1, hs⟩ := and_of hck
  obtain ⟨hd0, -⟩ := and_of hck1
  have hd : decode cc pc = .ok (i, len) := of_decide_eq_true hd0
  clear hd0
  dsimp only at Kf Kj Kr ⊢
  cases i
  case iload n =>
    obtain ⟨e1, e2⟩ := and_of hs
    obtain rfl := beq_of e1
    obtain rfl := beq_of e2
    unfold aEx at h
    dsimp only at h
    split at h
    · next x hn =>
      exact lv_iload hx hb hd (L.at hn) (Kf _ _ _ _ _ _ L (S_cons (L.2.2 _ _ hn) S) G h)
    · cases h
  case iload_n n =>
    obtain ⟨e1, e2⟩ := and_of hs
    obtain rfl := beq_of e1
    obtain e2 := beq_of e2
    unfold aEx at h
    dsimp only at h
    split at h
    · next x hn =>
      exact lv_iload_n hx hb hd e2.symm (L.at hn) (Kf _ _ _ _ _ _ L (S_cons (L.2.2 _ _ hn) S) G h)
    · cases h
  case lload n =>
    obtain ⟨e1, e2⟩ := and_of hs
    obtain rfl := beq_of e1
    obtain rfl := beq_of e2
    unfold aEx at h
    dsimp only at h
    split at h
    · next x hn =>
      exact lv_lload hx hb hd (L.at hn) (Kf _ _ _ _ _ _ L (S_cons (L.2.2 _ _ hn) S) G h)
    · cases h
  case lload_n n =>
    obtain ⟨e1, e2⟩ := and_of hs
    obtain rfl := beq_of e1
    obtain e2 := beq_of e2
    unfold aEx at h
    dsimp only at h
    split at h
    · next x hn =>
      exact lv_lload_n hx hb hd e2.symm (L.at hn) (Kf _ _ _ _ _ _ L (S_cons (L.2.2 _ _ hn) S) G h)
    · cases h
  case aload n =>
    obtain ⟨e1, e2⟩ := and_of hs
    obtain rfl := beq_of e1
    obtain rfl := beq_of e2
    unfold aEx at h
    dsimp only at h
    split at h
    · next q hn =>
      obtain ⟨h26, h⟩ := aRf_inv h
      obtain ⟨a, ea⟩ := aTo_ref (b0 := b0) (kS := kS) (kV := kV) (fv := fv) (sb := sb) h26
      have hl := L.at hn
      rw [ea] at hl
      have k := Kf _ _ _ _ _ _ L (S_cons (L.2.2 _ _ hn) S) G h
      rw [List.map_cons, ea] at k
      exact lv_aload hx hb hd hl k
    · cases h
  case aload_n n =>
    obtain ⟨e1, e2⟩ := and_of hs
    obtain rfl := beq_of e1
    obtain e2 := beq_of e2
    unfold aEx at h
    dsimp only at h
    split at h
    · next q hn =>
      obtain ⟨h26, h⟩ := aRf_inv h
      obtain ⟨a, ea⟩ := aTo_ref (b0 := b0) (kS := kS) (kV := kV) (fv := fv) (sb := sb) h26
      have hl := L.at hn
      rw [ea] at hl
      have k := Kf _ _ _ _ _ _ L (S_cons (L.2.2 _ _ hn) S) G h
      rw [List.map_cons, ea] at k
      exact lv_aload_n hx hb hd e2.symm hl k
    · cases h
  case istore n =>
    obtain ⟨e12, e3⟩ := and_of hs
    obtain ⟨e1, e2⟩ := and_of e12
    obtain rfl := beq_of e1
    obtain e2 := beq_of e2
    have e3 := Nat.le_of_ble_eq_true e3
    obtain ⟨x, l, est, h2⟩ := aI1_inv h
    clear h
    subst est
    have h := h2
    clear h2
    obtain ⟨h, hj⟩ := aSt_inv h
    subst e2
    refine lv_istore hx hb hd L.2.1 e3 rfl fun ls' hl' => ?_
    exact Kf _ _ _ _ _ _ (L.set1 (v := aI x) (S _ List.mem_cons_self) (fun j w ej hw q => by rw [aTo_cat hfv w (hj j w ej hw)] at q; cases q) hl') (S_tail S) G h
  case istore_n n =>
    obtain ⟨e12, e3⟩ := and_of hs
    obtain ⟨e1, e2⟩ := and_of e12
    obtain rfl := beq_of e1
    obtain e2 := beq_of e2
    have e3 := Nat.le_of_ble_eq_true e3
    obtain ⟨x, l, est, h2⟩ := aI1_inv h
    clear h
    subst est
    have h := h2
    clear h2
    obtain ⟨h, hj⟩ := aSt_inv h
    subst e2
    refine lv_istore_n hx hb hd rfl L.2.1 e3 rfl fun ls' hl' => ?_
    exact Kf _ _ _ _ _ _ (L.set1 (v := aI x) (S _ List.mem_cons_self) (fun j w ej hw q => by rw [aTo_cat hfv w (hj j w ej hw)] at q; cases q) hl') (S_tail S) G h
  case astore n =>
    obtain ⟨e12, e3⟩ := and_of hs
    obtain ⟨e1, e2⟩ := and_of e12
    obtain rfl := beq_of e1
    obtain e2 := beq_of e2
    have e3 := Nat.le_of_ble_eq_true e3
    unfold aEx at h
    dsimp only at h
    split at h
    · next q l =>
      obtain ⟨h26, h⟩ := aRf_inv h
      obtain ⟨a, ea⟩ := aTo_ref (b0 := b0) (kS := kS) (kV := kV) (fv := fv) (sb := sb) h26
      obtain ⟨h, hj⟩ := aSt_inv h
      subst e2
      rw [List.map_cons, ea]
      refine lv_astore hx hb hd L.2.1 e3 rfl fun ls' hl' => ?_
      rw [← ea] at hl'
      exact Kf _ _ _ _ _ _ (L.set1 (v := .inr (.inr q)) (S _ List.mem_cons_self) (fun j w ej hw q => by rw [aTo_cat hfv w (hj j w ej hw)] at q; cases q) hl') (S_tail S) G h
    · cases h
  case lstore n =>
    obtain ⟨e12, e3⟩ := and_of hs
    obtain ⟨e1, e2⟩ := and_of e12
    obtain rfl := beq_of e1
    obtain e2 := beq_of e2
    have e3 := Nat.le_of_ble_eq_true e3
    obtain ⟨x, l, est, h2⟩ := aJ1_inv h
    clear h
    subst est
    have h := h2
    clear h2
    obtain ⟨h, hj⟩ := aSt_inv h
    subst e2
    refine lv_lstore hx hb hd L.2.1 e3 rfl fun ls' hl' => ?_
    exact Kf _ _ _ _ _ _ (L.set2 (v := aJ x) (S _ List.mem_cons_self) (fun j w ej hw q => by rw [aTo_cat hfv w (hj j w ej hw)] at q; cases q) hl') (S_tail S) G h
  case astore_n n =>
    obtain ⟨e12, e3⟩ := and_of hs
    obtain ⟨e1, e2⟩ := and_of e12
    obtain rfl := beq_of e1
    obtain e2 := beq_of e2
    have e3 := Nat.le_of_ble_eq_true e3
    unfold aEx at h
    dsimp only at h
    split at h
    · next q l =>
      obtain ⟨h26, h⟩ := aRf_inv h
      obtain ⟨a, ea⟩ := aTo_ref (b0 := b0) (kS := kS) (kV := kV) (fv := fv) (sb := sb) h26
      obtain ⟨h, hj⟩ := aSt_inv h
      subst e2
      rw [List.map_cons, ea]
      refine lv_astore_n hx hb hd rfl L.2.1 e3 rfl fun ls' hl' => ?_
      rw [← ea] at hl'
      exact Kf _ _ _ _ _ _ (L.set1 (v := .inr (.inr q)) (S _ List.mem_cons_self) (fun j w ej hw q => by rw [aTo_cat hfv w (hj j w ej hw)] at q; cases q) hl') (S_tail S) G h
    · cases h
  case lstore_n n =>
    obtain ⟨e12, e3⟩ := and_of hs
    obtain ⟨e1, e2⟩ := and_of e12
    obtain rfl := beq_of e1
    obtain e2 := beq_of e2
    have e3 := Nat.le_of_ble_eq_true e3
    obtain ⟨x, l, est, h2⟩ := aJ1_inv h
    clear h
    subst est
    have h := h2
    clear h2
    obtain ⟨h, hj⟩ := aSt_inv h
    subst e2
    refine lv_lstore_n hx hb hd rfl L.2.1 e3 rfl fun ls' hl' => ?_
    exact Kf _ _ _ _ _ _ (L.set2 (v := aJ x) (S _ List.mem_cons_self) (fun j w ej hw q => by rw [aTo_cat hfv w (hj j w ej hw)] at q; cases q) hl') (S_tail S) G h
  case iinc n cst =>
    obtain ⟨e12, e3⟩ := and_of hs
    obtain ⟨e1, e2⟩ := and_of e12
    obtain rfl := beq_of e1
    obtain rfl := beq_of e2
    have e3 := Nat.le_of_ble_eq_true e3
    unfold aEx at h
    dsimp only at h
    split at h
    · next x hn =>
      obtain ⟨k, hk⟩ := List.getElem?_of_mem ((aLv_mem (aTo b0 kS kV fv sb) al 0 (r1, (aTo b0 kS kV fv sb) (.inl x))).mpr ⟨r1, _, hn, by rw [Nat.zero_add]⟩)
      refine lv_iinc (v := Int32.ofInt (w32 (x + cst))) hx hb hd L.2.1 hk (i32_add _ _) e3 rfl fun ls' hl' => ?_
      refine Kf _ _ _ _ _ _ (L.set1 (v := aI (w32 (x + cst))) (w32_in _) (fun j w ej hw q => ?_) hl') S G h
      have := L.2.1.2.1.1 j _ (L.at hw) q
      rw [← ej, L.at hn] at this
      cases this
    · cases h
  case iconst v =>
    obtain ⟨e1, e2⟩ := and_of hs
    obtain rfl := beq_of e1
    have e2 := of_decide_eq_true e2
    exact lv_iconst hx hb hd rfl (Kf _ _ _ _ _ _ L (S_cons (v := aI v) ⟨by omega, by omega⟩ S) G h)
  case bipush v =>
    obtain ⟨e12, e3⟩ := and_of hs
    obtain ⟨e1, e2⟩ := and_of e12
    obtain rfl := beq_of e1
    have e2 := of_decide_eq_true e2
    exact lv_bipush hx hb hd (of_decide_eq_true e3) (Kf _ _ _ _ _ _ L (S_cons (v := aI v) ⟨by omega, by omega⟩ S) G h)
  case sipush v =>
    obtain ⟨e12, e3⟩ := and_of hs
    obtain ⟨e1, e2⟩ := and_of e12
    obtain rfl := beq_of e1
    have e2 := of_decide_eq_true e2
    exact lv_sipush hx hb hd (of_decide_eq_true e3) (Kf _ _ _ _ _ _ L (S_cons (v := aI v) ⟨by omega, by omega⟩ S) G h)
  case lconst n =>
    obtain ⟨e1, e2⟩ := and_of hs
    obtain rfl := beq_of e1
    have e2 := of_decide_eq_true e2
    subst e2
    have hn : n.val < 2 := n.isLt
    refine lv_lconst hx hb hd ?_ (Kf _ _ _ _ _ _ L (S_cons (v := aJ n.val) ⟨by omega, by omega⟩ S) G h)
    exact (Int64.ofInt_eq_ofNat ..).symm
  case ldc k =>
    obtain ⟨e1, e2⟩ := and_of hs
    obtain rfl := beq_of e1
    unfold aEx at h
    dsimp only at h
    cases r1 with
    | zero =>
      obtain ⟨e2, e3⟩ := and_of e2
      have e2x : -2147483648 ≤ r5 ∧ r5 < 2147483648 := of_decide_eq_true e2
      obtain ⟨n, hm⟩ := aHas_mem e3
      exact lv_ldc hx hb hown (hts _ (aT0_mem hm rfl)) hd (Kf _ _ _ _ _ _ L (S_cons (v := aI r5) e2x S) G h)
    | succ r1 =>
      obtain ⟨e2, e3⟩ := and_of e2
      have e2 := Nat.le_of_ble_eq_true e2
      obtain ⟨n, hm⟩ := aHas_mem e3
      exact va_ldcS hx hb hown (hW.2.2.1 own k r2 e2 hm) hd (Kf _ _ _ _ _ _ L (S_cons (v := aQ 24 r2) (Or.inr (Or.inr (Or.inl ⟨Or.inl rfl, e2⟩))) S) G h)
  case ldc_w k =>
    obtain ⟨e1, e2⟩ := and_of hs
    obtain rfl := beq_of e1
    unfold aEx at h
    dsimp only at h
    cases r1 with
    | zero =>
      obtain ⟨e2, e3⟩ := and_of e2
      have e2x : -2147483648 ≤ r5 ∧ r5 < 2147483648 := of_decide_eq_true e2
      obtain ⟨n, hm⟩ := aHas_mem e3
      exact lv_ldcw hx hb hown (hts _ (aT0_mem hm rfl)) hd (Kf _ _ _ _ _ _ L (S_cons (v := aI r5) e2x S) G h)
    | succ r1 => cases e2
  case ldc2_w k =>
    obtain ⟨e12, e3⟩ := and_of hs
    obtain ⟨e1, e2⟩ := and_of e12
    obtain rfl := beq_of e1
    obtain ⟨n, hm⟩ := aHas_mem e3
    have e2x : -9223372036854775808 ≤ r5 ∧ r5 < 9223372036854775808 := of_decide_eq_true e2
    exact lv_ldc2 hx hb hown (hts _ (aT0_mem hm rfl)) hd (Kf _ _ _ _ _ _ L (S_cons (v := aJ r5) e2x S) G h)
  case iadd =>
    obtain rfl := beq_of hs
    obtain ⟨x, y, l, est, h2⟩ := aI2_inv h
    clear h
    subst est
    have h := h2
    clear h2
    refine lv_iadd hx hb hd ?_
    rw [i32_add]
    exact Kf _ _ _ _ _ _ L (S_cons (v := aI _) (w32_in _) (S_tail (S_tail S))) G h
  case isub =>
    obtain rfl := beq_of hs
    obtain ⟨x, y, l, est, h2⟩ := aI2_inv h
    clear h
    subst est
    have h := h2
    clear h2
    refine lv_isub hx hb hd ?_
    rw [i32_sub]
    exact Kf _ _ _ _ _ _ L (S_cons (v := aI _) (w32_in _) (S_tail (S_tail S))) G h
  case imul =>
    obtain rfl := beq_of hs
    obtain ⟨x, y, l, est, h2⟩ := aI2_inv h
    clear h
    subst est
    have h := h2
    clear h2
    refine lv_imul hx hb hd ?_
    rw [i32_mul]
    exact Kf _ _ _ _ _ _ L (S_cons (v := aI _) (w32_in _) (S_tail (S_tail S))) G h
  case iand =>
    obtain rfl := beq_of hs
    obtain ⟨x, y, l, est, h2⟩ := aI2_inv h
    clear h
    subst est
    have h := h2
    clear h2
    refine lv_iand hx hb hd ?_
    rw [iand_i32]
    exact Kf _ _ _ _ _ _ L (S_cons (v := aI _) (iand_in _ _) (S_tail (S_tail S))) G h
  case ior =>
    obtain rfl := beq_of hs
    obtain ⟨x, y, l, est, h2⟩ := aI2_inv h
    clear h
    subst est
    have h := h2
    clear h2
    refine lv_ior hx hb hd ?_
    rw [ior_i32]
    exact Kf _ _ _ _ _ _ L (S_cons (v := aI _) (ior_in _ _) (S_tail (S_tail S))) G h
  case ixor =>
    obtain rfl := beq_of hs
    obtain ⟨x, y, l, est, h2⟩ := aI2_inv h
    clear h
    subst est
    have h := h2
    clear h2
    refine lv_ixor hx hb hd ?_
    rw [ixor_i32]
    exact Kf _ _ _ _ _ _ L (S_cons (v := aI _) (ixor_in _ _) (S_tail (S_tail S))) G h
  case ishl =>
    obtain rfl := beq_of hs
    obtain ⟨x, y, l, est, h2⟩ := aI2_inv h
    clear h
    subst est
    have h := h2
    clear h2
    refine lv_ishl hx hb hd ?_
    rw [ishl_i32]
    exact Kf _ _ _ _ _ _ L (S_cons (v := aI _) (ishl_in _ _) (S_tail (S_tail S))) G h
  case ishr =>
    obtain rfl := beq_of hs
    obtain ⟨x, y, l, est, h2⟩ := aI2_inv h
    clear h
    subst est
    have h := h2
    clear h2
    refine lv_ishr hx hb hd ?_
    rw [ishr_i32]
    exact Kf _ _ _ _ _ _ L (S_cons (v := aI _) (ishr_in _ _) (S_tail (S_tail S))) G h
  case iushr =>
    obtain rfl := beq_of hs
    obtain ⟨x, y, l, est, h2⟩ := aI2_inv h
    clear h
    subst est
    have h := h2
    clear h2
    exact lv_iushr hx hb hd (iushr_i32 x y) (Kf _ _ _ _ _ _ L (S_cons (v := aI _) (iushr_in _ _) (S_tail (S_tail S))) G h)
  case idiv =>
    obtain rfl := beq_of hs
    obtain ⟨x, y, l, est, h2⟩ := aI2_inv h
    clear h
    subst est
    have h := h2
    clear h2
    by_cases hy : y = 0
    · rw [if_pos hy] at h; cases h
    · rw [if_neg hy] at h
      refine lv_idiv hx hb hd (fun q => hy ((i32_eq0 (S _ List.mem_cons_self)).mp q)) ?_
      rw [idiv_i32]
      exact Kf _ _ _ _ _ _ L (S_cons (v := aI _) (idiv_in _ _) (S_tail (S_tail S))) G h
  case ldiv =>
    obtain rfl := beq_of hs
    obtain ⟨x, y, l, est, h2⟩ := aJ2_inv h
    clear h
    subst est
    have h := h2
    clear h2
    by_cases hy : y = 0
    · rw [if_pos hy] at h; cases h
    · rw [if_neg hy] at h
      refine lv_ldiv hx hb hd (fun q => hy ((i64_eq0 (S _ List.mem_cons_self)).mp q)) ?_
      rw [ldiv_i64]
      exact Kf _ _ _ _ _ _ L (S_cons (v := aJ _) (ldiv_in _ _) (S_tail (S_tail S))) G h
  case irem =>
    obtain rfl := beq_of hs
    obtain ⟨x, y, l, est, h2⟩ := aI2_inv h
    clear h
    subst est
    have h := h2
    clear h2
    by_cases hy : y = 0
    · rw [if_pos hy] at h; cases h
    · rw [if_neg hy] at h
      refine lv_irem hx hb hd (fun q => hy ((i32_eq0 (S _ List.mem_cons_self)).mp q)) ?_
      rw [irem_i32]
      exact Kf _ _ _ _ _ _ L (S_cons (v := aI _) (irem_in _ _) (S_tail (S_tail S))) G h
  case lrem =>
    obtain rfl := beq_of hs
    obtain ⟨x, y, l, est, h2⟩ := aJ2_inv h
    clear h
    subst est
    have h := h2
    clear h2
    by_cases hy : y = 0
    · rw [if_pos hy] at h; cases h
    · rw [if_neg hy] at h
      refine lv_lrem hx hb hd (fun q => hy ((i64_eq0 (S _ List.mem_cons_self)).mp q)) ?_
      rw [lrem_i64]
      exact Kf _ _ _ _ _ _ L (S_cons (v := aJ _) (lrem_in _ _) (S_tail (S_tail S))) G h
  case ladd =>
    obtain rfl := beq_of hs
    obtain ⟨x, y, l, est, h2⟩ := aJ2_inv h
    clear h
    subst est
    have h := h2
    clear h2
    refine lv_ladd hx hb hd ?_
    rw [i64_add]
    exact Kf _ _ _ _ _ _ L (S_cons (v := aJ _) (w64_in _) (S_tail (S_tail S))) G h
  case lsub =>
    obtain rfl := beq_of hs
    obtain ⟨x, y, l, est, h2⟩ := aJ2_inv h
    clear h
    subst est
    have h := h2
    clear h2
    refine lv_lsub hx hb hd ?_
    rw [i64_sub]
    exact Kf _ _ _ _ _ _ L (S_cons (v := aJ _) (w64_in _) (S_tail (S_tail S))) G h
  case lmul =>
    obtain rfl := beq_of hs
    obtain ⟨x, y, l, est, h2⟩ := aJ2_inv h
    clear h
    subst est
    have h := h2
    clear h2
    refine lv_lmul hx hb hd ?_
    rw [i64_mul]
    exact Kf _ _ _ _ _ _ L (S_cons (v := aJ _) (w64_in _) (S_tail (S_tail S))) G h
  case ineg =>
    obtain rfl := beq_of hs
    obtain ⟨x, l, est, h2⟩ := aI1_inv h
    clear h
    subst est
    have h := h2
    clear h2
    refine lv_ineg hx hb hd ?_
    rw [i32_neg]
    exact Kf _ _ _ _ _ _ L (S_cons (v := aI _) (w32_in _) (S_tail S)) G h
  case i2c =>
    obtain rfl := beq_of hs
    obtain ⟨x, l, est, h2⟩ := aI1_inv h
    clear h
    subst est
    have h := h2
    clear h2
    exact lv_i2c hx hb hd (i2c_i32 x) (Kf _ _ _ _ _ _ L (S_cons (v := aI _) (i2c_in _) (S_tail S)) G h)
  case i2b =>
    obtain rfl := beq_of hs
    obtain ⟨x, l, est, h2⟩ := aI1_inv h
    clear h
    subst est
    have h := h2
    clear h2
    exact lv_i2b hx hb hd (i2b_i32 x) (Kf _ _ _ _ _ _ L (S_cons (v := aI _) (i2b_in _) (S_tail S)) G h)
  case i2l =>
    obtain rfl := beq_of hs
    obtain ⟨x, l, est, h2⟩ := aI1_inv h
    clear h
    subst est
    have h := h2
    clear h2
    exact lv_i2l hx hb hd (i32_i2l (S _ List.mem_cons_self)) (Kf _ _ _ _ _ _ L (S_cons (v := aJ _) (in32_64 (S _ List.mem_cons_self)) (S_tail S)) G h)
  case l2i =>
    obtain rfl := beq_of hs
    obtain ⟨x, l, est, h2⟩ := aJ1_inv h
    clear h
    subst est
    have h := h2
    clear h2
    exact lv_l2i hx hb hd (l2i_i64 x) (Kf _ _ _ _ _ _ L (S_cons (v := aI _) (l2i_in _) (S_tail S)) G h)
  case lcmp =>
    obtain rfl := beq_of hs
    obtain ⟨x, y, l, est, h2⟩ := aJ2_inv h
    clear h
    subst est
    have h := h2
    clear h2
    refine W.lcmp hx hb hd ?_
    rw [i64_cmp (S _ (List.mem_cons_of_mem _ List.mem_cons_self)) (S _ List.mem_cons_self)]
    exact Kf _ _ _ _ _ _ L (S_cons (v := aI _) (lcmp_in _ _) (S_tail (S_tail S))) G h
  case dup =>
    obtain rfl := beq_of hs
    unfold aEx at h
    dsimp only at h
    split at h
    · next x l => exact lv_dup hx hb hd rfl (Kf _ _ _ _ _ _ L (S_cons (S _ List.mem_cons_self) S) G h)
    · next q l => exact lv_dup hx hb hd (aTo_cat hfv _ (fun x e => by cases e)) (Kf _ _ _ _ _ _ L (S_cons (S _ List.mem_cons_self) S) G h)
    · cases h
  case dup2 =>
    obtain rfl := beq_of hs
    unfold aEx at h
    dsimp only at h
    split at h
    · next y q l => exact lv_dup2_11 hx hb hd rfl (aTo_cat hfv _ (fun x e => by cases e)) (Kf _ _ _ _ _ _ L (S_cons (S _ List.mem_cons_self) (S_cons (S _ (List.mem_cons_of_mem _ List.mem_cons_self)) S)) G h)
    · cases h
  case pop =>
    obtain rfl := beq_of hs
    unfold aEx at h
    dsimp only at h
    split at h
    · next x l => exact lv_pop hx hb hd rfl (Kf _ _ _ _ _ _ L (S_tail S) G h)
    · cases h
  case goto off =>
    obtain ⟨e1, e2⟩ := and_of hs
    obtain rfl := beq_of e1
    exact lv_goto hx hb hd (of_decide_eq_true e2) (Kj _ _ _ _ _ _ _ L S G h)
  case if_icmp cnd off =>
    obtain ⟨e1, e2⟩ := and_of hs
    obtain rfl := beq_of e1
    have e2 := of_decide_eq_true e2
    obtain ⟨x, y, l, est, h2⟩ := aI2_inv h
    clear h
    subst est
    have h := h2
    clear h2
    have oy : in32 y := S _ List.mem_cons_self
    have ox : in32 x := S _ (List.mem_cons_of_mem _ List.mem_cons_self)
    have S2 := S_tail (S_tail S)
    cases cnd
    case eq => exact lv_icmp_eq hx hb hd e2 (fun q => Kj _ _ _ _ _ _ _ L S2 G ((if_pos ((i32_eq ox oy).mp q)).symm.trans h)) (fun q => Kf _ _ _ _ _ _ L S2 G ((if_neg (fun z => q ((i32_eq ox oy).mpr z))).symm.trans h))
    case ne => exact lv_icmp_ne hx hb hd e2 (fun q => Kj _ _ _ _ _ _ _ L S2 G ((if_neg (fun z => q ((i32_eq ox oy).mpr z))).symm.trans h)) (fun q => Kf _ _ _ _ _ _ L S2 G ((if_pos ((i32_eq ox oy).mp q)).symm.trans h))
    case lt => exact lv_icmp_lt hx hb hd e2 (fun q => Kj _ _ _ _ _ _ _ L S2 G ((if_pos ((i32_lt ox oy).mp q)).symm.trans h)) (fun q => Kf _ _ _ _ _ _ L S2 G ((if_neg (fun z => q ((i32_lt ox oy).mpr z))).symm.trans h))
    case ge => exact lv_icmp_ge hx hb hd e2 (fun q => Kj _ _ _ _ _ _ _ L S2 G ((if_neg (fun z => absurd ((i32_le oy ox).mp q) (by omega))).symm.trans h)) (fun q => Kf _ _ _ _ _ _ L S2 G ((if_pos ((by have := mt (i32_le oy ox).mpr q; omega))).symm.trans h))
    case gt => exact lv_icmp_gt hx hb hd e2 (fun q => Kj _ _ _ _ _ _ _ L S2 G ((if_pos ((i32_lt oy ox).mp q)).symm.trans h)) (fun q => Kf _ _ _ _ _ _ L S2 G ((if_neg (fun z => q ((i32_lt oy ox).mpr z))).symm.trans h))
    case le => exact lv_icmp_le hx hb hd e2 (fun q => Kj _ _ _ _ _ _ _ L S2 G ((if_neg (fun z => absurd ((i32_le ox oy).mp q) (by omega))).symm.trans h)) (fun q => Kf _ _ _ _ _ _ L S2 G ((if_pos ((by have := mt (i32_le ox oy).mpr q; omega))).symm.trans h))
  case ifCond cnd off =>
    obtain ⟨e1, e2⟩ := and_of hs
    obtain rfl := beq_of e1
    have e2 := of_decide_eq_true e2
    obtain ⟨x, l, est, h2⟩ := aI1_inv h
    clear h
    subst est
    have h := h2
    clear h2
    have ox : in32 x := S _ List.mem_cons_self
    have S2 := S_tail S
    cases cnd
    case eq => exact lv_if_eq hx hb hd e2 (fun q => Kj _ _ _ _ _ _ _ L S2 G ((if_pos ((i32_eq0 ox).mp q)).symm.trans h)) (fun q => Kf _ _ _ _ _ _ L S2 G ((if_neg (fun z => q ((i32_eq0 ox).mpr z))).symm.trans h))
    case ne => exact lv_if_ne hx hb hd e2 (fun q => Kj _ _ _ _ _ _ _ L S2 G ((if_neg (fun z => q ((i32_eq0 ox).mpr z))).symm.trans h)) (fun q => Kf _ _ _ _ _ _ L S2 G ((if_pos ((i32_eq0 ox).mp q)).symm.trans h))
    case lt => exact lv_if_lt hx hb hd e2 (fun q => Kj _ _ _ _ _ _ _ L S2 G ((if_pos ((i32_lt0 ox).mp q)).symm.trans h)) (fun q => Kf _ _ _ _ _ _ L S2 G ((if_neg (fun z => q ((i32_lt0 ox).mpr z))).symm.trans h))
    case ge => exact lv_if_ge hx hb hd e2 (fun q => Kj _ _ _ _ _ _ _ L S2 G ((if_neg (fun z => absurd ((i32_ge0 ox).mp q) (by omega))).symm.trans h)) (fun q => Kf _ _ _ _ _ _ L S2 G ((if_pos ((by have := mt (i32_ge0 ox).mpr q; omega))).symm.trans h))
    case gt => exact lv_if_gt hx hb hd e2 (fun q => Kj _ _ _ _ _ _ _ L S2 G ((if_pos ((i32_gt0 ox).mp q)).symm.trans h)) (fun q => Kf _ _ _ _ _ _ L S2 G ((if_neg (fun z => q ((i32_gt0 ox).mpr z))).symm.trans h))
    case le => exact lv_if_le hx hb hd e2 (fun q => Kj _ _ _ _ _ _ _ L S2 G ((if_neg (fun z => absurd ((i32_le0 ox).mp q) (by omega))).symm.trans h)) (fun q => Kf _ _ _ _ _ _ L S2 G ((if_pos ((by have := mt (i32_le0 ox).mpr q; omega))).symm.trans h))
  case ifnonnull off =>
    obtain ⟨e1, e2⟩ := and_of hs
    obtain rfl := beq_of e1
    obtain ⟨a, l, est, h2⟩ := aQ1_inv h
    clear h
    subst est
    have h := h2
    clear h2
    exact lv_ifnonnull hx hb hd (of_decide_eq_true e2) (Kj _ _ _ _ _ _ _ L (S_tail S) G h)
  case tableswitch dflt lo hi offs =>
    obtain ⟨e12, e3⟩ := and_of hs
    obtain ⟨e1, e2⟩ := and_of e12
    have e1 := of_decide_eq_true e1
    obtain ⟨e2, e4⟩ := of_decide_eq_true e2
    obtain ⟨x, l, est, h2⟩ := aI1_inv h
    clear h
    subst est
    have h := h2
    clear h2
    have ox : in32 x := S _ List.mem_cons_self
    have hk : ∀ k, k < offs.size → ∃ o q, offs[k]? = some o ∧ sw[k]? = some q ∧ q.1 = lo + k ∧ (pc : Int) + o = (q.2 : Int) := by
      intro k hk
      have := List.all_eq_true.mp e3 k (List.mem_range.mpr hk)
      split at this
      · next o q h1 h2 =>
        obtain ⟨h3, h4⟩ := and_of this
        exact ⟨o, q, h1, h2, of_decide_eq_true h3, of_decide_eq_true h4⟩
      · cases this
    rcases aSw_inv sw h with ⟨k, q, h1, h2, h3, -⟩ | ⟨h1, h2⟩
    · have hlt : k < offs.size := by rw [← e2]; exact (List.getElem?_eq_some_iff.mp h1).1
      obtain ⟨o, q', g1, g2, g3, g4⟩ := hk k hlt
      rw [h1] at g2
      cases g2
      refine lv_tableIn (off := o) hx hb hd ?_ ?_ ?_ g4 (Kj _ _ _ _ _ _ _ L (S_tail S) G h3)
      · rw [i32_toInt ox]; omega
      · rw [i32_toInt ox]; omega
      · rw [i32_toInt ox, show (x - lo).toNat = k by omega]; exact g1
    · refine lv_tableOut hx hb hd ?_ e1 (Kj _ _ _ _ _ _ _ L (S_tail S) G h1)
      rw [i32_toInt ox]
      by_cases hlo : x < lo
      · exact Or.inl hlo
      · by_cases hhi : hi < x
        · exact Or.inr hhi
        · obtain ⟨o, q', g1, g2, g3, g4⟩ := hk (x - lo).toNat (by omega)
          exact absurd (by omega : x = q'.1) (h2 q' (List.mem_of_getElem? g2))
  case lookupswitch dflt ps =>
    obtain ⟨e123, e4⟩ := and_of hs
    obtain ⟨e12, e3⟩ := and_of e123
    obtain ⟨e1, e2⟩ := and_of e12
    have e1 := of_decide_eq_true e1
    have e3 := of_decide_eq_true e3
    obtain ⟨x, l, est, h2⟩ := aI1_inv h
    clear h
    subst est
    have h := h2
    clear h2
    have ox : in32 x := S _ List.mem_cons_self
    have hp : (ps.toList.zip (ps.toList.drop 1)).all (fun (a, next) => a.1 < next.1) = true := e2
    obtain ⟨t, ha, ht⟩ := aLkS pc r1 x ps.toList sw e3 (fun z hz => by
      have := List.all_eq_true.mp e4 z hz
      obtain ⟨h3, h4⟩ := and_of this
      exact ⟨of_decide_eq_true h3, of_decide_eq_true h4⟩) e1 (kj' := fun t => kj t al l M) h
    exact lv_lookup hx hb hd hp (off := lookupswitch.offset ps.toList dflt x) (by rw [i32_toInt ox]) ht (Kj _ _ _ _ _ _ _ L (S_tail S) G ha)
  case getfield k =>
    obtain ⟨e1, e2⟩ := and_of hs
    obtain rfl := beq_of e1
    obtain ⟨a, l, est, h2⟩ := aQ1_inv h
    clear h
    subst est
    have h := h2
    clear h2
    have oa := S _ List.mem_cons_self
    by_cases h24 : Nat.beq r1 24 = true
    · rw [h24] at e2
      have e2r := (Bool.or_eq_true ..).mp e2
      obtain rfl := beq_of h24
      have ha : a < 29 := by rcases oa with z | z | z | z <;> omega
      obtain ⟨o1, o2, o3, o4⟩ := hW.2.1.1 a ha
      clear e2
      rcases e2r with e2 | e2
      · obtain ⟨e234, e5⟩ := and_of e2
        obtain ⟨e23, e4⟩ := and_of e234
        obtain ⟨e2, e3⟩ := and_of e23
        obtain rfl := beq_of e2
        obtain rfl := beq_of e3
        obtain ⟨n, hm⟩ := aHas_mem e5
        have esw : sw = [] := List.isEmpty_iff.mp e4
        subst esw
        refine vk_getf hx hb o3 G.2.2 hown (hts _ (aT0_mem hm rfl)) (fun _ z => z) hd ?_
        exact Kf _ _ _ _ _ _ L (S_cons (v := aQ 25 (a + 0)) (Or.inr (Or.inr (Or.inl ⟨Or.inr rfl, ha⟩))) (S_tail S)) G h
      · obtain ⟨e2, e5⟩ := and_of e2
        obtain rfl := beq_of e2
        obtain ⟨n, hm⟩ := aHas_mem e5
        refine vk_getf hx hb o2 G.2.2 hown (hts _ (aT0_mem hm rfl)) (fun _ z => z) hd ?_
        exact Kf _ _ _ _ _ _ L (S_cons (v := aI 0) in32_0 (S_tail S)) G h
    · rw [Bool.not_eq_true] at h24
      rw [h24] at e2
      obtain ⟨e2345, e6⟩ := and_of e2
      obtain ⟨e234, e5⟩ := and_of e2345
      obtain ⟨e23, e4⟩ := and_of e234
      obtain ⟨e2, e3⟩ := and_of e23
      have e2 : r1 < 12 := Nat.le_of_ble_eq_true e2
      have e3 : r2 < aNF r1 := Nat.le_of_ble_eq_true e3
      have e4 := of_decide_eq_true e4
      obtain ⟨n, hm⟩ := aHas_mem e6
      have ha : a < 177 ∧ aTyp a = r1 := by rcases oa with z | z | z | z <;> first | exact ⟨z.2.1, z.2.2⟩ | omega
      obtain ⟨ha, ht⟩ := ha
      rw [List.map_cons, aTo_ob (by omega)]
      have hget : ∀ v, aFV b0 r1 a M r2 = v → W p l0 e R s m args below meth c H locs cells slots Q (F0 m (pc + 3) ls (v :: l.map (aTo b0 kS kV fv sb))) → W p l0 e R s m args below meth c H locs cells slots Q (F0 m pc ls (.ref (b0 + a) :: l.map (aTo b0 kS kV fv sb))) := by
        intro v hv hk
        refine va_get (D := D) (ci := r1) (v := v) (C := aCls r1) (T := aT r1) (N := aNF r1) hx hb hts (aLay_in r1 e2) hown hW.1 G.2.1 a (fs := (List.range (aNF r1)).map (aFV b0 r1 a M)) ?_ (aCl_at e2) r2 e3 (hts _ (aT0_mem hm rfl)) (by rw [aT_cls r1 e2 r2 e3]; exact fun _ z => z) ?_ hd hk
        · rw [aWs_at _ _ _ _ _ ha, aEnt_ob ha (by rw [ht]; exact e2), ht]
        · rw [List.getElem?_map, List.getElem?_range e3, ← hv]; rfl
      have ho := aTyp_off a ha r2 (by rw [ht]; exact e3) (by rw [ht]; exact e2)
      rw [ht, e4] at ho
      unfold aFV at hget
      rw [e4] at hget
      rcases r3 with _ | _ | t
      · refine hget _ rfl ?_
        have hin := G.1.1 a r2
        rw [if_neg (by omega)] at hin
        exact Kf _ _ _ _ _ _ L (S_cons (v := aI (M a r2)) hin (S_tail S)) G h
      · cases ho
      · cases sw with
        | nil =>
          obtain ⟨g1, g2, g3⟩ := ho
          refine hget (.ref (b0 + (a + r4))) rfl ?_
          have k := Kf _ _ _ _ _ _ L (S_cons (v := aQ t (a + r4)) (Or.inl ⟨g3, g1, g2⟩) (S_tail S)) G h
          rw [List.map_cons, aTo_ob g3] at k
          exact k
        | cons z zs =>
          obtain ⟨g1, g2, g3⟩ := ho
          refine hget (.ref (b0 + r4)) rfl ?_
          have k := Kf _ _ _ _ _ _ L (S_cons (v := aQ t r4) (Or.inl ⟨g3, g1, g2⟩) (S_tail S)) G h
          rw [List.map_cons, aTo_ob g3] at k
          exact k
  case putfield k =>
    obtain ⟨e12345, e6⟩ := and_of hs
    obtain ⟨e1234, e5⟩ := and_of e12345
    obtain ⟨e123, e4⟩ := and_of e1234
    obtain ⟨e12, e3⟩ := and_of e123
    obtain ⟨e1, e2⟩ := and_of e12
    obtain rfl := beq_of e1
    have e2 : r1 < 12 := Nat.le_of_ble_eq_true e2
    have e3 : r2 < aNF r1 := Nat.le_of_ble_eq_true e3
    have e4 := of_decide_eq_true e4
    have e5 : (aT r1 r2).2.2.2 = false := by simpa using e5
    obtain ⟨n, hm⟩ := aHas_mem e6
    obtain ⟨x, l1, est, h2⟩ := aI1_inv h
    clear h
    subst est
    have h := h2
    clear h2
    obtain ⟨a, l, est, h2⟩ := aQ1_inv h
    clear h
    subst est
    have h := h2
    clear h2
    have ox : in32 x := S _ List.mem_cons_self
    have oa := S _ (List.mem_cons_of_mem _ List.mem_cons_self)
    have ha : a < 177 ∧ aTyp a = r1 := by rcases oa with z | z | z | z <;> first | exact ⟨z.2.1, z.2.2⟩ | omega
    obtain ⟨ha, ht⟩ := ha
    have hput : ∀ ty : FieldType, parseFieldDescriptor (aT r1 r2).2.2.1 = some ty → narrow ty (.int (Int32.ofInt x)) = .int (Int32.ofInt x) → fits ty (.int (Int32.ofInt x)) = true → kf al l (aUp M a r2 x) = some r → W p l0 e R s m args below meth c H locs cells slots Q (F0 m pc ls (.int (Int32.ofInt x) :: .ref (b0 + a) :: l.map (aTo b0 kS kV fv sb))) := by
      intro ty h1 h2 h3 hk
      refine va_put (D := D) (ci := r1) (v := .int (Int32.ofInt x)) (ty := ty) (C := aCls r1) (T := aT r1) (N := aNF r1) hx hb hts (aLay_in r1 e2) (aTyOf r1) (aTy_ok r1 e2) (aNm_ok r1 e2) hown hW.1 G.2.1 (aWs_D _ _ _ _ _) G.2.2 a (fs := (List.range (aNF r1)).map (aFV b0 r1 a M)) ?_ (aCl_at e2) r2 e3 (hts _ (aT0_mem hm rfl)) (by rw [aT_cls r1 e2 r2 e3]; exact fun _ z => z) e5 h1 h2 h3 (by rw [List.length_map, List.length_range]; exact e3) hd (fun H1 locs1 hP1 hD1 hS1 => ?_)
      · rw [aWs_at _ _ _ _ _ ha, aEnt_ob ha (by rw [ht]; exact e2), ht]
      · refine Kf _ _ _ _ _ _ L (S_tail (S_tail S)) ⟨G.1.up ha (by rw [if_neg (by omega)]; exact ox), ?_, hS1⟩ hk
        rw [aWs_set _ _ _ _ M (aUp M a r2 x) ha ?_ (fun b hb => aUp_ne M a r2 x b hb)] at hP1
        · exact hP1
        · rw [aEnt_ob ha (by rw [ht]; exact e2), ht]
          refine congrArg (fun z => Sum.inr (r1, z)) ?_
          exact aFs_set r1 a r2 e2 e3 e4
    have hg : W p l0 e R s m args below meth c H locs cells slots Q (F0 m pc ls (.int (Int32.ofInt x) :: .ref (b0 + a) :: l.map (aTo b0 kS kV fv sb))) := by
      cases r3 with
      | zero => exact hput .int (by rw [e4]; decide +kernel) rfl rfl h
      | succ r3 =>
        obtain ⟨hx01, h⟩ := aBool_inv h
        refine hput .boolean (by rw [e4, if_neg (Nat.succ_ne_zero r3)]; decide +kernel) ?_ ?_ h
        · rcases hx01 with rfl | rfl <;> decide +kernel
        · rcases hx01 with rfl | rfl <;> decide +kernel
    rw [List.map_cons, List.map_cons, aTo_ob (by omega)]
    exact hg
  case getstatic k =>
    obtain ⟨e12, e3⟩ := and_of hs
    obtain ⟨e1, e2⟩ := and_of e12
    obtain rfl := beq_of e1
    obtain ⟨n, hm⟩ := aHas_mem e3
    unfold aEx at h
    dsimp only at h
    cases r1 with
    | zero => exact va_gets hx hb hW.2.2.2.1 G.2.2 hown (hts _ (aT0_mem hm rfl)) (fun _ z => z) hd (Kf _ _ _ _ _ _ L (S_cons (v := aI 1) ⟨by decide, by decide⟩ S) G h)
    | succ r1 =>
      exact va_gets hx hb hW.2.2.2.2 G.2.2 hown (hts _ (aT0_mem hm rfl)) (fun _ z => z) hd (Kf _ _ _ _ _ _ L (S_cons (v := aQ 26 0) (Or.inr (Or.inr (Or.inr rfl))) S) G h)
  case iaload =>
    obtain rfl := beq_of hs
    obtain ⟨i, l1, est, h2⟩ := aI1_inv h
    clear h
    subst est
    have h := h2
    clear h2
    have oi : in32 i := S _ List.mem_cons_self
    split at h
    · next a l =>
      obtain ⟨hi, h⟩ := inb_inv h
      have oa := S _ (List.mem_cons_of_mem _ List.mem_cons_self)
      have ha : a < 177 ∧ aTyp a = 20 := by rcases oa with z | z | z | z <;> first | exact ⟨z.2.1, z.2.2⟩ | omega
      obtain ⟨ha, ht⟩ := ha
      rw [List.map_cons, List.map_cons, aTo_ob (by omega)]
      refine va_iald (f := fun i => Int32.ofInt (M a i)) hx hb hW.1 G.2.1 a 0 (by rw [aWs_at _ _ _ _ _ ha, aEnt_i ht]) rfl (i32_vin oi hi) hd ?_
      rw [i32_clamp oi]
      have hin := G.1.1 a i.toNat
      rw [if_neg (by omega)] at hin
      exact Kf _ _ _ _ _ _ L (S_cons (v := aI (M a i.toNat)) hin (S_tail (S_tail S))) G h
    · next a l =>
      obtain ⟨hi, h⟩ := inb_inv h
      have oa := S _ (List.mem_cons_of_mem _ List.mem_cons_self)
      have hsb : scr := by rcases oa with z | z | z | z <;> first | exact z.2 | omega
      obtain ⟨Ls, xs, s1, s2, s3, s4, s5, s6⟩ := hsc hsb
      have m8 : M 998 0 = Ls := by rw [G.1.2 998 (by omega)]; exact s4
      have m9 : M 999 i.toNat = (xs i.toNat).toInt := by rw [G.1.2 999 (by omega)]; exact s6 _ (by rw [m8] at hi; omega)
      refine va_sld hx hb s1 s2 s3 G.2.2 (i32_vin oi (by rw [m8] at hi; omega)) hd ?_
      rw [i32_clamp oi, ← i32_of (xs i.toNat), ← m9]
      exact Kf _ _ _ _ _ _ L (S_cons (v := aI (M 999 i.toNat)) (by rw [m9]; exact i32_in _) (S_tail (S_tail S))) G h
    · cases h
  case iastore =>
    obtain rfl := beq_of hs
    obtain ⟨i, x, l1, est, h2⟩ := aI2_inv h
    clear h
    subst est
    have h := h2
    clear h2
    obtain ⟨a, l, est, h2⟩ := aQ1_inv h
    clear h
    subst est
    have h := h2
    clear h2
    obtain ⟨hi, h⟩ := inb_inv h
    have ox : in32 x := S _ List.mem_cons_self
    have oi : in32 i := S _ (List.mem_cons_of_mem _ List.mem_cons_self)
    have oa := S _ (List.mem_cons_of_mem _ (List.mem_cons_of_mem _ List.mem_cons_self))
    have ha : a < 177 ∧ aTyp a = 20 := by rcases oa with z | z | z | z <;> first | exact ⟨z.2.1, z.2.2⟩ | omega
    obtain ⟨ha, ht⟩ := ha
    rw [List.map_cons, List.map_cons, List.map_cons, aTo_ob (by omega)]
    refine va_iast (f := fun i => Int32.ofInt (M a i)) hx hb hW.1 G.2.1 (aWs_D _ _ _ _ _) G.2.2 a 0 (by rw [aWs_at _ _ _ _ _ ha, aEnt_i ht]) rfl (i32_vin oi hi) hd (fun H1 locs1 hP1 hD1 hS1 => ?_)
    refine Kf _ _ _ _ _ _ L (S_tail (S_tail (S_tail S))) ⟨G.1.up ha (by rw [if_neg (by omega)]; exact ox), ?_, hS1⟩ h
    rw [aWs_set _ _ _ _ M (aUp M a i.toNat x) ha ?_ (fun b hb => aUp_ne M a i.toNat x b hb)] at hP1
    · exact hP1
    · rw [aEnt_i ht, i32_clamp oi]
      refine congrArg (fun z => Sum.inl (cI, aLen a, Sum.inl z)) ?_
      funext k
      unfold upd
      rw [aUp_eq]
      by_cases e : k = i.toNat
      · rw [if_pos e, if_pos e]
      · rw [if_neg e, if_neg e]
  case laload =>
    obtain rfl := beq_of hs
    obtain ⟨i, l1, est, h2⟩ := aI1_inv h
    clear h
    subst est
    have h := h2
    clear h2
    obtain ⟨a, l, est, h2⟩ := aQ1_inv h
    clear h
    subst est
    have h := h2
    clear h2
    obtain ⟨hi, h⟩ := inb_inv h
    have oi : in32 i := S _ List.mem_cons_self
    have oa := S _ (List.mem_cons_of_mem _ List.mem_cons_self)
    have ha : a < 177 ∧ aTyp a = 21 := by rcases oa with z | z | z | z <;> first | exact ⟨z.2.1, z.2.2⟩ | omega
    obtain ⟨ha, ht⟩ := ha
    rw [List.map_cons, List.map_cons, aTo_ob (by omega)]
    refine va_lald (f := fun i => Int64.ofInt (M a i)) hx hb hW.1 G.2.1 a 1 (by rw [aWs_at _ _ _ _ _ ha, aEnt_j ht]) rfl (i32_vin oi hi) hd ?_
    rw [i32_clamp oi]
    have hin := G.1.1 a i.toNat
    rw [if_pos ht] at hin
    exact Kf _ _ _ _ _ _ L (S_cons (v := aJ (M a i.toNat)) hin (S_tail (S_tail S))) G h
  case lastore =>
    obtain rfl := beq_of hs
    obtain ⟨x, l2, est, h2⟩ := aJ1_inv h
    clear h
    subst est
    have h := h2
    clear h2
    obtain ⟨i, l1, est, h2⟩ := aI1_inv h
    clear h
    subst est
    have h := h2
    clear h2
    obtain ⟨a, l, est, h2⟩ := aQ1_inv h
    clear h
    subst est
    have h := h2
    clear h2
    obtain ⟨hi, h⟩ := inb_inv h
    have ox : in64 x := S _ List.mem_cons_self
    have oi : in32 i := S _ (List.mem_cons_of_mem _ List.mem_cons_self)
    have oa := S _ (List.mem_cons_of_mem _ (List.mem_cons_of_mem _ List.mem_cons_self))
    have ha : a < 177 ∧ aTyp a = 21 := by rcases oa with z | z | z | z <;> first | exact ⟨z.2.1, z.2.2⟩ | omega
    obtain ⟨ha, ht⟩ := ha
    rw [List.map_cons, List.map_cons, List.map_cons, aTo_ob (by omega)]
    refine va_last (f := fun i => Int64.ofInt (M a i)) hx hb hW.1 G.2.1 (aWs_D _ _ _ _ _) G.2.2 a 1 (by rw [aWs_at _ _ _ _ _ ha, aEnt_j ht]) rfl (i32_vin oi hi) hd (fun H1 locs1 hP1 hD1 hS1 => ?_)
    refine Kf _ _ _ _ _ _ L (S_tail (S_tail (S_tail S))) ⟨G.1.up ha (by rw [if_pos ht]; exact ox), ?_, hS1⟩ h
    rw [aWs_set _ _ _ _ M (aUp M a i.toNat x) ha ?_ (fun b hb => aUp_ne M a i.toNat x b hb)] at hP1
    · exact hP1
    · rw [aEnt_j ht, i32_clamp oi]
      refine congrArg (fun z => Sum.inl (cJ, aLen a, Sum.inr (Sum.inl z))) ?_
      funext k
      unfold vp_updL
      rw [aUp_eq]
      by_cases e : k = i.toNat
      · rw [if_pos e, if_pos e]
      · rw [if_neg e, if_neg e]
  case aaload =>
    obtain rfl := beq_of hs
    obtain ⟨i, l1, est, h2⟩ := aI1_inv h
    clear h
    subst est
    have h := h2
    clear h2
    obtain ⟨a, l, est, h2⟩ := aQ1_inv h
    clear h
    subst est
    have h := h2
    clear h2
    obtain ⟨hi, h⟩ := inb_inv h
    have oi : in32 i := S _ List.mem_cons_self
    have oa := S _ (List.mem_cons_of_mem _ List.mem_cons_self)
    have ha : a < 177 ∧ aTyp a = 22 := by rcases oa with z | z | z | z <;> first | exact ⟨z.2.1, z.2.2⟩ | omega
    obtain ⟨ha, ht⟩ := ha
    obtain ⟨w1, w2⟩ := aTyp_woods a ha ht i.toNat (by omega)
    rw [List.map_cons, List.map_cons, aTo_ob (by omega)]
    refine va_aldq (f := fun i => some (b0 + (a + 2 + 5 * i))) hx hb hW.1 G.2.1 a 2 (by rw [aWs_at _ _ _ _ _ ha, aEnt_q ht]) rfl (i32_vin oi hi) hd ?_
    rw [i32_clamp oi]
    have k := Kf _ _ _ _ _ _ L (S_cons (v := aQ 8 (a + 2 + 5 * i.toNat)) (Or.inl ⟨by omega, w1, w2⟩) (S_tail (S_tail S))) G h
    rw [List.map_cons, aTo_ob (by omega)] at k
    exact k
  case arraylength =>
    obtain rfl := beq_of hs
    unfold aEx at h
    dsimp only at h
    split at h
    · next a l =>
      have oa := S _ List.mem_cons_self
      have ha : a < 177 ∧ aTyp a = 20 := by rcases oa with z | z | z | z <;> first | exact ⟨z.2.1, z.2.2⟩ | omega
      obtain ⟨ha, ht⟩ := ha
      rw [List.map_cons, aTo_ob (by omega)]
      exact va_alen (x := (aLen a, .inl fun i => Int32.ofInt (M a i))) hx hb hW.1 G.2.1 a 0 (by rw [aWs_at _ _ _ _ _ ha, aEnt_i ht]) rfl (i32_nat _) hd (Kf _ _ _ _ _ _ L (S_cons (v := aI (aLen a)) (by have := aLen_small a; exact ⟨by omega, by omega⟩) (S_tail S)) G h)
    · next a l =>
      have oa := S _ List.mem_cons_self
      have ha : a < 177 ∧ aTyp a = 21 := by rcases oa with z | z | z | z <;> first | exact ⟨z.2.1, z.2.2⟩ | omega
      obtain ⟨ha, ht⟩ := ha
      rw [List.map_cons, aTo_ob (by omega)]
      exact va_alen (x := (aLen a, .inr (.inl fun i => Int64.ofInt (M a i)))) hx hb hW.1 G.2.1 a 1 (by rw [aWs_at _ _ _ _ _ ha, aEnt_j ht]) rfl (i32_nat _) hd (Kf _ _ _ _ _ _ L (S_cons (v := aI (aLen a)) (by have := aLen_small a; exact ⟨by omega, by omega⟩) (S_tail S)) G h)
    · next a l =>
      have oa := S _ List.mem_cons_self
      have hsb : scr := by rcases oa with z | z | z | z <;> first | exact z.2 | omega
      obtain ⟨Ls, xs, s1, s2, s3, s4, s5, s6⟩ := hsc hsb
      have m8 : M 998 0 = Ls := by rw [G.1.2 998 (by omega)]; exact s4
      refine va_slen hx hb s1 s2 s3 G.2.2 hd ?_
      rw [i32_nat, ← m8]
      exact Kf _ _ _ _ _ _ L (S_cons (v := aI (M 998 0)) (by rw [m8]; exact ⟨by omega, by omega⟩) (S_tail S)) G h
    · next k l =>
      have oa := S _ List.mem_cons_self
      have hk : k < 29 := by rcases oa with z | z | z | z <;> omega
      obtain ⟨o1, o2, o3, o4⟩ := hW.2.1.1 k hk
      refine va_tlen hx hb o4 G.2.2 (by rw [aStr_len k hk, i32_nat]) hd ?_
      exact Kf _ _ _ _ _ _ L (S_cons (v := aI ((aStrL k).length : Nat)) (by have := aStr_small k; exact ⟨by omega, by omega⟩) (S_tail S)) G h
    · cases h
  case baload =>
    obtain rfl := beq_of hs
    obtain ⟨i, l1, est, h2⟩ := aI1_inv h
    clear h
    subst est
    have h := h2
    clear h2
    obtain ⟨k, l, est, h2⟩ := aQ1_inv h
    clear h
    subst est
    have h := h2
    clear h2
    obtain ⟨hi, h⟩ := inb_inv h
    have oi : in32 i := S _ List.mem_cons_self
    have oa := S _ (List.mem_cons_of_mem _ List.mem_cons_self)
    have hk : k < 29 := by rcases oa with z | z | z | z <;> omega
    obtain ⟨o1, o2, o3, o4⟩ := hW.2.1.1 k hk
    obtain ⟨c1, c2⟩ := aStr_byt k hk i.toNat (by omega)
    rw [Int.toNat_of_nonneg hi.1] at c1 c2
    refine va_tb hx hb o4 G.2.2 (i32_vin oi (by rw [aStr_len k hk]; exact hi)) (v := .int (Int32.ofInt (aChr k i))) (by rw [i32_clamp oi, c1]) hd ?_
    exact Kf _ _ _ _ _ _ L (S_cons (v := aI (aChr k i)) c2 (S_tail (S_tail S))) G h
  case ireturn =>
    obtain ⟨e1, e2⟩ := and_of hs
    obtain rfl := beq_of e1
    have e2 := beq_of e2
    unfold aEx at h
    dsimp only at h
    split at h
    · next x =>
      rcases r1 with _ | _ | _ | r1
      · exact Kr (Option.some.inj h).symm (Or.inl ⟨x, rfl, hd, Or.inl e2⟩)
      · obtain ⟨h1, h⟩ := aBool_inv h
        exact Kr (Option.some.inj h).symm (Or.inl ⟨x, rfl, hd, Or.inr (Or.inl ⟨e2, h1⟩)⟩)
      · obtain ⟨h1, h⟩ := aRng_inv h
        exact Kr (Option.some.inj h).symm (Or.inl ⟨x, rfl, hd, Or.inr (Or.inr (Or.inl ⟨e2, h1⟩))⟩)
      · obtain ⟨h1, h⟩ := aRng_inv h
        refine Kr (Option.some.inj h).symm (Or.inl ⟨x, rfl, hd, ?_⟩)
        rcases r1 with _ | r1
        · exact Or.inr (Or.inr (Or.inr ⟨e2, h1⟩))
        · exact absurd e2 (by have := hrt r1; omega)
    · cases h
  case lreturn =>
    obtain ⟨e1, e2⟩ := and_of hs
    obtain rfl := beq_of e1
    have e2 := beq_of e2
    unfold aEx at h
    dsimp only at h
    split at h
    · next x => exact Kr (Option.some.inj h).symm (Or.inr (Or.inl ⟨x, rfl, hd, e2⟩))
    · cases h
  case areturn =>
    obtain ⟨e1, e2⟩ := and_of hs
    obtain rfl := beq_of e1
    have e2 := beq_of e2
    unfold aEx at h
    dsimp only at h
    split at h
    · next k => exact Kr (Option.some.inj h).symm (Or.inr (Or.inr (Or.inl ⟨k, rfl, hd, e2⟩)))
    · cases h
  case return_ =>
    obtain ⟨e1, e2⟩ := and_of hs
    obtain rfl := beq_of e1
    have e2 := beq_of e2
    unfold aEx at h
    dsimp only at h
    split at h
    · exact Kr (Option.some.inj h).symm (Or.inr (Or.inr (Or.inr ⟨rfl, hd, e2⟩)))
    · cases h
  case invokevirtual k =>
    obtain ⟨e1, e2⟩ := and_of hs
    obtain rfl := beq_of e1
    unfold aEx at h
    dsimp only at h
    by_cases hc : Nat.ble (aCat (st.drop r2)) 8 = true
    · rw [hc] at h
      have hc8 := Nat.le_of_ble_eq_true hc
      rcases (Bool.or_eq_true ..).mp e2 with e2 | e2
      · obtain rfl := beq_of e2
        cases h
      · obtain ⟨e2', e9⟩ := and_of e2
        obtain ⟨e2', e8⟩ := and_of e2'
        obtain ⟨e2', e7⟩ := and_of e2'
        have e8 : (aMe r1).2.2.2.2.2.2.1 = false := by simpa using e8
        obtain ⟨e2', e6⟩ := and_of e2'
        obtain ⟨e2', e5⟩ := and_of e2'
        obtain ⟨e2', e4⟩ := and_of e2'
        obtain ⟨e2, e3⟩ := and_of e2'
        obtain ⟨n, hm⟩ := aHas_mem e9
        have hy : r1 < 280 := Nat.le_of_ble_eq_true e4
        exact aInv (kf := kf) (X := aBlt r1 st al M kf) hO hfv false hy hm e8 (Nat.le_of_ble_eq_true e3) (Nat.le_of_ble_eq_true e2) hc8 hd L S G h (fun H1 locs1 st' M' a1 a2 a3 => Kf _ _ _ _ _ _ L a1 a2 a3)
    · rw [Bool.not_eq_true] at hc
      rw [hc] at h
      cases h
  case invokestatic k =>
    obtain ⟨e1, e2⟩ := and_of hs
    obtain rfl := beq_of e1
    unfold aEx at h
    dsimp only at h
    by_cases hc : Nat.ble (aCat (st.drop r2)) 8 = true
    · rw [hc] at h
      have hc8 := Nat.le_of_ble_eq_true hc
      rcases (Bool.or_eq_true ..).mp e2 with e2 | e2
      · rcases (Bool.or_eq_true ..).mp e2 with e2 | e2
        · obtain rfl := beq_of e2
          cases h
        · obtain ⟨e23, e4⟩ := and_of e2
          obtain ⟨e2, e3⟩ := and_of e23
          obtain ⟨e2, e3b⟩ := and_of e2
          obtain rfl := beq_of e2
          obtain ⟨n, hm⟩ := aHas_mem e4
          exact aBltS hx hb hml hown hts hW hfv hro hm hd L S G hc8 (beq_of e3b) h (fun H1 locs1 st' M' a1 a2 a3 => Kf _ _ _ _ _ _ L a1 a2 a3)
      · obtain ⟨e2', e9⟩ := and_of e2
        obtain ⟨e2', e8⟩ := and_of e2'
        have e8 := e8
        obtain ⟨e2', e6⟩ := and_of e2'
        obtain ⟨e2', e5⟩ := and_of e2'
        obtain ⟨e2', e4⟩ := and_of e2'
        obtain ⟨e2, e3⟩ := and_of e2'
        obtain ⟨n, hm⟩ := aHas_mem e9
        have hy : r1 < 280 := Nat.le_of_ble_eq_true e4
        exact aInv (kf := kf) (X := aBlt r1 st al M kf) hO hfv true hy hm e8 (Nat.le_of_ble_eq_true e3) (Nat.le_of_ble_eq_true e2) hc8 hd L S G h (fun H1 locs1 st' M' a1 a2 a3 => Kf _ _ _ _ _ _ L a1 a2 a3)
    · rw [Bool.not_eq_true] at hc
      rw [hc] at h
      cases h
  all_goals (cases h)
end STEP2
