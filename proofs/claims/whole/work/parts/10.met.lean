theorem aFind_sub (f : aE → Bool) : ∀ (cod : List aE) (t : Nat) (e2 : aE) (l2 : List aE), aFind cod t = e2 :: l2 → cod.all f = true → aSeq cod = true → e2.1 = t ∧ (e2 :: l2).all f = true ∧ aSeq (e2 :: l2) = true := by
  intro cod
  induction cod with
  | nil => intro t e2 l2 h; cases h
  | cons a cod ih =>
    intro t e2 l2 h h1 h2
    unfold aFind at h
    by_cases e : Nat.beq a.1 t = true
    · rw [e] at h
      cases h
      exact ⟨beq_of e, h1, h2⟩
    · rw [Bool.not_eq_true] at e
      rw [e] at h
      rw [List.all_cons] at h1
      unfold aSeq at h2
      exact ih t e2 l2 h (and_of h1).2 (and_of h2).2
noncomputable def aNx (O : aO) (cod : List aE) (k : aKC) (g : Nat) (l : List aE) (ls : aL) (st : List aV) (M : aM) : aR := match l with
  | [] => none
  | e2 :: l2 => match e2.2.1 with | none => aSeg O cod k g (e2 :: l2) ls st M | some m => k e2.1 (aMsk m ls) st M
section SEG
variable {p : Program} {l0 : Launch} {e : Env} {R : Room} {s : State} {m : MethodId} {args : Array Value} {below : List Frame} {meth : Method} {c : Code} {cells slots : Nat} {Q : State → Prop}
variable {cc : ByteArray} {nL own rt : Nat} {D : va_G} {cI cJ cO : ClassId} {b0 : Nat} {kS kV : Nat → Nat} {fv : Value} {sb : Nat} {scr : Prop} {M0 : aM}
theorem aSeg_snd (hx : p.tables.exec = Jvm.exec) (hb : c.code = cc) (hml : c.maxLocals = nL) (hown : s.vm.findClass (aCls own) = some m.cls) (hts : ∀ w ∈ aT0, w.before args s = true) (hW : aWo D cI cJ cO b0 kS kV fv s s.heap) (hfv : fv.category = 1) (hsc : aScr scr b0 sb M0 s) (hro : 1 ≤ R.frames ∧ 300 ≤ R.locals ∧ cells ≤ R.cells ∧ slots ≤ R.slots) (hrt : ∀ n, rt ≠ 14 + n) {O : aO} (hO : aCallOk p l0 e R s m args below meth c cells slots Q cc nL own D cI cJ cO b0 kS kV fv sb scr M0 O)
    {cod : List aE} (hc1 : cod.all (aCkE own nL rt cc) = true) (hc2 : aSeq cod = true) {k : aKC} {r : List aV × aM}
    (hK : ∀ t al ls st M H locs, aLo (aTo b0 kS kV fv sb) scr nL al ls → (∀ v ∈ st, aOk scr v) → aGl D cI cJ cO b0 M0 s.heap M H locs → k t al st M = some r → W p l0 e R s m args below meth c H locs cells slots Q (F0 m t ls (st.map (aTo b0 kS kV fv sb))))
    (hR : ∀ pc ls st M H locs, (∀ v ∈ st, aOk scr v) → aGl D cI cJ cO b0 M0 s.heap M H locs → r = (st, M) → aRet cc rt pc st → W p l0 e R s m args below meth c H locs cells slots Q (F0 m pc ls (st.map (aTo b0 kS kV fv sb)))) :
    ∀ (g : Nat) (e1 : aE) (l : List aE) al ls st M H locs, (e1 :: l).all (aCkE own nL rt cc) = true → aSeq (e1 :: l) = true → aLo (aTo b0 kS kV fv sb) scr nL al ls → (∀ v ∈ st, aOk scr v) → aGl D cI cJ cO b0 M0 s.heap M H locs → aSeg O cod k g (e1 :: l) al st M = some r → W p l0 e R s m args below meth c H locs cells slots Q (F0 m e1.1 ls (st.map (aTo b0 kS kV fv sb))) := by
  intro g
  induction g with
  | zero => intro e1 l al ls st M H locs h1 h2 L S G h; cases h
  | succ g ih =>
    intro e1 l al ls st M H locs h1 h2 L S G h
    have go : ∀ (e2 : aE) (l2 : List aE) al ls st M H locs, (e2 :: l2).all (aCkE own nL rt cc) = true → aSeq (e2 :: l2) = true → aLo (aTo b0 kS kV fv sb) scr nL al ls → (∀ v ∈ st, aOk scr v) → aGl D cI cJ cO b0 M0 s.heap M H locs → (match e2.2.1 with | none => aSeg O cod k g (e2 :: l2) al st M | some m => k e2.1 (aMsk m al) st M) = some r → W p l0 e R s m args below meth c H locs cells slots Q (F0 m e2.1 ls (st.map (aTo b0 kS kV fv sb))) := by
      intro e2 l2 al ls st M H locs h1 h2 L S G h
      split at h
      · exact ih e2 l2 al ls st M H locs h1 h2 L S G h
      · next mm hm =>
        have hck : aCkE own nL rt cc e2 = true := (and_of (by rw [List.all_cons] at h1; exact h1)).1
        have hlen : mm.length = nL := by
          obtain ⟨pc, mk0, i, len, r1, r2, r3, r4, r5, sw⟩ := e2
          dsimp only at hm
          subst hm
          exact beq_of (and_of (and_of hck).1).2
        exact hK _ _ _ _ _ _ _ (L.sub (aMsk_len mm al (hlen.trans L.1.symm)) (aNth_msk mm al)) S G h
    rw [List.all_cons] at h1
    obtain ⟨hck, h1⟩ := and_of h1
    refine aStep hx hb hml hown hts hW hfv hsc hro hrt hO e1 hck L S G (kf := aNx O cod k g l) (kj := fun t => aNx O cod k g (aFind cod t)) (r := r) h ?_ ?_ ?_
    · intro al' ls' st' M' H' locs' L' S' G' h'
      cases l with
      | nil => cases h'
      | cons e2 l2 =>
        unfold aSeq at h2
        obtain ⟨h3, h4⟩ := and_of h2
        rw [← beq_of h3]
        exact go e2 l2 _ _ _ _ _ _ h1 h4 L' S' G' h'
    · intro t al' ls' st' M' H' locs' L' S' G' h'
      cases hf : aFind cod t with
      | nil => rw [hf] at h'; cases h'
      | cons e2 l2 =>
        rw [hf] at h'
        obtain ⟨f1, f2, f3⟩ := aFind_sub (aCkE own nL rt cc) cod t e2 l2 hf hc1 hc2
        rw [← f1]
        exact go e2 l2 _ _ _ _ _ _ f2 f3 L' S' G' h'
    · intro h3 h4
      exact hR _ _ _ _ _ _ S G h3 h4
theorem aOm_snd (hx : p.tables.exec = Jvm.exec) (hb : c.code = cc) (hml : c.maxLocals = nL) (hown : s.vm.findClass (aCls own) = some m.cls) (hts : ∀ w ∈ aT0, w.before args s = true) (hW : aWo D cI cJ cO b0 kS kV fv s s.heap) (hfv : fv.category = 1) (hsc : aScr scr b0 sb M0 s) (hro : 1 ≤ R.frames ∧ 300 ≤ R.locals ∧ cells ≤ R.cells ∧ slots ≤ R.slots) (hrt : ∀ n, rt ≠ 14 + n) {O : aO} (hO : aCallOk p l0 e R s m args below meth c cells slots Q cc nL own D cI cJ cO b0 kS kV fv sb scr M0 O)
    {cod : List aE} (hc1 : cod.all (aCkE own nL rt cc) = true) (hc2 : aSeq cod = true) {r : List aV × aM}
    (hR : ∀ pc ls st M H locs, (∀ v ∈ st, aOk scr v) → aGl D cI cJ cO b0 M0 s.heap M H locs → r = (st, M) → aRet cc rt pc st → W p l0 e R s m args below meth c H locs cells slots Q (F0 m pc ls (st.map (aTo b0 kS kV fv sb))))
    {pc : Nat} {al : aL} {ls : Array Slot} {st : List aV} {M : aM} {H : Heap} {locs : List Loc} (L : aLo (aTo b0 kS kV fv sb) scr nL al ls) (S : ∀ v ∈ st, aOk scr v) (G : aGl D cI cJ cO b0 M0 s.heap M H locs) (h : aOm O cod pc al st M = some r) :
    W p l0 e R s m args below meth c H locs cells slots Q (F0 m pc ls (st.map (aTo b0 kS kV fv sb))) := by
  obtain ⟨n, h⟩ := (aOm_iff ..).mp h
  have key : ∀ (n : Nat) pc al ls st M H locs, aLo (aTo b0 kS kV fv sb) scr nL al ls → (∀ v ∈ st, aOk scr v) → aGl D cI cJ cO b0 M0 s.heap M H locs → aEv O cod n pc al st M = some r → W p l0 e R s m args below meth c H locs cells slots Q (F0 m pc ls (st.map (aTo b0 kS kV fv sb))) := by
    intro n
    induction n with
    | zero => intro pc al ls st M H locs _ _ _ h; cases h
    | succ n ih =>
      intro pc al ls st M H locs L S G h
      rw [aEv_succ] at h
      cases hf : aFind cod pc with
      | nil => rw [hf] at h; cases h
      | cons e2 l2 =>
        rw [hf] at h
        obtain ⟨f1, f2, f3⟩ := aFind_sub (aCkE own nL rt cc) cod pc e2 l2 hf hc1 hc2
        rw [← f1]
        exact aSeg_snd hx hb hml hown hts hW hfv hsc hro hrt hO hc1 hc2 (k := aEv O cod n) ih hR 3000 e2 l2 _ _ _ _ _ _ f2 f3 L S G h
  exact key n pc al ls st M H locs L S G h
end SEG
/-- the arguments' kinds, of what the tables say of a method -/
def aWd : List Nat → Nat
  | [] => 0
  | 1 :: l => aWd l + 2
  | _ :: l => aWd l + 1
noncomputable def aSgB (y : Nat) : Bool :=
  Nat.beq (aLkC aCodes y).2.1.length (aMe y).2.2.2.2.2.1 && !((aLkC aCodes y).2.1.contains 25) && Nat.ble (aWd (aLkC aCodes y).2.1) (aMe y).2.2.1 && Nat.beq (aLkC aCodes y).1 (aMe y).2.2.1 && ((aMe y).2.2.2.2.2.2.1 || match (aLkC aCodes y).2.1 with
    | 26 :: _ => decide ((aMe y).1.cls = "java/lang/String")
    | (t + 2) :: _ => Nat.blt t 12 && decide ((aMe y).1.cls = aCls t)
    | _ => false) && Nat.blt (aRt (aMe y).2.2.2.1) 14
theorem aSg_ok : (List.range 280).all aSgB = true := by decide +kernel
theorem aSig_nil {sg : List Nat} (h : aSig sg [] = true) : sg = [] := by
  rcases sg with _ | ⟨_ | _ | t, sg⟩
  · rfl
  · cases h
  · cases h
  · cases h
theorem aSig_cons {a : Nat} {sg : List Nat} {v : aV} {vs : List aV} (h : aSig (a :: sg) (v :: vs) = true) : aSig sg vs = true ∧ ((a = 0 ∧ ∃ x, v = .inl x) ∨ (a = 1 ∧ ∃ x, v = .inr (.inl x)) ∨ ∃ t q, a = t + 2 ∧ v = .inr (.inr (t, q))) := by
  rcases v with x | x | ⟨t', q⟩
  · rcases a with _ | _ | t
    · exact ⟨h, Or.inl ⟨rfl, x, rfl⟩⟩
    · cases h
    · cases h
  · rcases a with _ | _ | t
    · cases h
    · exact ⟨h, Or.inr (Or.inl ⟨rfl, x, rfl⟩)⟩
    · cases h
  · rcases a with _ | _ | t
    · cases h
    · cases h
    · have h2 : (bif Nat.beq t t' then aSig sg vs else false) = true := h
      clear h
      by_cases e : Nat.beq t t' = true
      · rw [e] at h2
        have := beq_of e
        subst this
        exact ⟨h2, Or.inr (Or.inr ⟨t, q, rfl, rfl⟩)⟩
      · rw [Bool.not_eq_true] at e
        rw [e] at h2
        cases h2
theorem aSig_len : ∀ (vs : List aV) (sg : List Nat), aSig sg vs = true → vs.length = sg.length := by
  intro vs
  induction vs with
  | nil => intro sg h; rw [aSig_nil h]; rfl
  | cons v vs ih =>
    intro sg h
    cases sg with
    | nil => cases h
    | cons a sg => simp [ih sg (aSig_cons h).1]
theorem aSig_23 : ∀ (vs : List aV) (sg : List Nat), aSig sg vs = true → sg.contains 25 = false → ∀ v ∈ vs, ∀ q, v ≠ .inr (.inr (23, q)) := by
  intro vs
  induction vs with
  | nil => intro sg _ _ v hv; exact absurd hv List.not_mem_nil
  | cons w vs ih =>
    intro sg h h2 v hv q
    cases sg with
    | nil => cases h
    | cons a sg =>
      rw [List.contains_cons, Bool.or_eq_false_iff] at h2
      obtain ⟨h3, h4⟩ := aSig_cons h
      rcases List.mem_cons.mp hv with rfl | hv
      · rcases h4 with ⟨_, x, rfl⟩ | ⟨_, x, rfl⟩ | ⟨t, q', e, rfl⟩
        · intro z; cases z
        · intro z; cases z
        · intro z; cases z; subst e; exact absurd h2.1 (by decide)
      · exact ih sg h3 h2.2 v hv q
theorem aSig_sl {b0 : Nat} {kS kV : Nat → Nat} {fv : Value} {sb : Nat} (hfv : fv.category = 1) : ∀ (vs : List aV) (sg : List Nat), aSig sg vs = true → (lg_sl (vs.map (aTo b0 kS kV fv sb))).length = aWd sg := by
  intro vs
  induction vs with
  | nil => intro sg h; rw [aSig_nil h]; rfl
  | cons w vs ih =>
    intro sg h
    cases sg with
    | nil => cases h
    | cons a sg =>
      obtain ⟨h3, h4⟩ := aSig_cons h
      have e := ih sg h3
      unfold lg_sl at e ⊢
      rw [List.map_cons, List.flatMap_cons, List.length_append, e]
      rcases h4 with ⟨rfl, x, rfl⟩ | ⟨rfl, x, rfl⟩ | ⟨t, q', rfl, rfl⟩
      · show 1 + aWd sg = aWd sg + 1; omega
      · show 2 + aWd sg = aWd sg + 2; omega
      · rw [if_neg (by rw [aTo_cat hfv _ (fun x e => by cases e)]; decide)]
        show 1 + aWd sg = aWd sg + 1; omega
theorem aNth_init {b0 : Nat} {kS kV : Nat → Nat} {fv : Value} {sb : Nat} (hfv : fv.category = 1) : ∀ (n : Nat) (vs : List aV) (k : Nat), ((aInit n vs).length = n ∨ n < (lg_sl (vs.map (aTo b0 kS kV fv sb))).length) ∧ ∀ i v, aNth (aInit n vs) i = some v → (k + i, aTo b0 kS kV fv sb v) ∈ lv_args k (vs.map (aTo b0 kS kV fv sb)) ∧ v ∈ vs := by
  intro n
  induction n using Nat.strongRecOn with
  | _ n ih =>
    intro vs k
    cases n with
    | zero =>
      refine ⟨Or.inl rfl, fun i v h => by unfold aInit at h; cases h⟩
    | succ n =>
      cases vs with
      | nil =>
        obtain ⟨h1, h2⟩ := ih n (Nat.lt_succ_self n) [] k
        refine ⟨?_, ?_⟩
        · rcases h1 with h1 | h1
          · left; show (aInit n []).length + 1 = n + 1; rw [h1]
          · exact absurd h1 (Nat.not_lt_zero _)
        · intro i v h
          cases i with
          | zero => cases h
          | succ i => exact absurd (h2 i v h).2 List.not_mem_nil
      | cons w vs =>
        have c1 : ∀ (hw : ∀ x, w ≠ .inr (.inl x)), aInit (n + 1) (w :: vs) = some w :: aInit n vs := by
          intro hw
          rcases w with x | x | x
          · rfl
          · exact absurd rfl (hw x)
          · rfl
        by_cases hw : ∃ x, w = .inr (.inl x)
        · obtain ⟨x, rfl⟩ := hw
          cases n with
          | zero =>
            refine ⟨Or.inl rfl, ?_⟩
            intro i v h
            cases i with
            | zero => cases h; exact ⟨List.mem_cons_self, List.mem_cons_self⟩
            | succ i => cases h
          | succ n =>
            obtain ⟨h1, h2⟩ := ih n (by omega) vs (k + 2)
            refine ⟨?_, ?_⟩
            · rcases h1 with h1 | h1
              · left; show (aInit n vs).length + 1 + 1 = n + 1 + 1; rw [h1]
              · right
                unfold lg_sl at h1 ⊢
                rw [List.map_cons, List.flatMap_cons, List.length_append]
                show n + 1 + 1 < 2 + _
                omega
            · intro i v h
              rcases i with _ | _ | i
              · cases h; exact ⟨List.mem_cons_self, List.mem_cons_self⟩
              · cases h
              · obtain ⟨h3, h4⟩ := h2 i v h
                refine ⟨?_, List.mem_cons_of_mem _ h4⟩
                rw [List.map_cons]
                unfold lv_args
                refine List.mem_cons_of_mem _ ?_
                show (k + (i + 1 + 1), _) ∈ lv_args (k + 2) _
                rw [show k + (i + 1 + 1) = k + 2 + i by omega]
                exact h3
        · have hw : ∀ x, w ≠ .inr (.inl x) := fun x e => hw ⟨x, e⟩
          have hcat := aTo_cat (b0 := b0) (kS := kS) (kV := kV) (sb := sb) hfv w hw
          rw [c1 hw]
          obtain ⟨h1, h2⟩ := ih n (Nat.lt_succ_self n) vs (k + 1)
          refine ⟨?_, ?_⟩
          · rcases h1 with h1 | h1
            · left; rw [List.length_cons, h1]
            · right
              unfold lg_sl at h1 ⊢
              rw [List.map_cons, List.flatMap_cons, List.length_append, if_neg (by rw [hcat]; decide)]
              show n + 1 < 1 + _
              omega
          · intro i v h
            cases i with
            | zero => cases h; exact ⟨List.mem_cons_self, List.mem_cons_self⟩
            | succ i =>
              obtain ⟨h3, h4⟩ := h2 i v h
              refine ⟨?_, List.mem_cons_of_mem _ h4⟩
              rw [List.map_cons]
              unfold lv_args
              refine List.mem_cons_of_mem _ ?_
              rw [if_neg (by rw [hcat]; decide), show k + (i + 1) = k + 1 + i by omega]
              exact h3
noncomputable def aWsM (y : Nat) : List Cond := .code (aMe y).1 (aMe y).2.1 (aMe y).2.2.1 (aMe y).2.2.2.1 :: aT0
def aRoom (d : Nat) : Room := { frames := d + 1, cells := 0, slots := 0, locals := 100 * (d + 1) + 300 }
theorem aGoodIn {y : Nat} (hy : y < 280) : GoodIn aT0 (aWsM y) := by
  have h0 := aTbl_at (aCw y hy)
  intro w hw
  have hm : w ∈ aT0 := by
    rcases List.mem_cons.mp hw with rfl | hw
    · exact aT0_mem h0 rfl
    · exact hw
  exact ⟨hm, good_of_word (List.mem_filter.mp hm).2⟩
def aPc (D : va_G) (cI cJ cO : ClassId) (b0 : Nat) (kS kV : Nat → Nat) (fv : Value) (vs : List aV) (M : aM) : Array Value → State → Prop := fun v U =>
  v = (vs.map (aTo b0 kS kV fv 0)).toArray ∧ aWo D cI cJ cO b0 kS kV fv U U.heap ∧ va_P D aCl (aWs cI cJ cO b0 M) U.heap
def aQc (D : va_G) (cI cJ cO : ClassId) (b0 : Nat) (kS kV : Nat → Nat) (fv : Value) (M : aM) (rs : List aV) (M' : aM) : Array Value → State → Outcome → State → Prop := fun _ st o t =>
  o = .returned (rs.map (aTo b0 kS kV fv 0)).head? ∧ va_P D aCl (aWs cI cJ cO b0 M') t.heap ∧ st.heap.size ≤ t.heap.size ∧ (∀ q, q < st.heap.size → ¬ aA b0 q → t.heap[q]? = st.heap[q]?) ∧ (∀ v ∈ rs, aOk False v) ∧ aMem M M' ∧ rs.length ≤ 1
theorem aWo.blind {D : va_G} {cI cJ cO : ClassId} {b0 : Nat} {kS kV : Nat → Nat} {fv : Value} {u U : State} {H : Heap} (hvm : U.vm = u.vm) (h : aWo D cI cJ cO b0 kS kV fv u H) : aWo D cI cJ cO b0 kS kV fv U H := by
  have ha : u.vm.Alike U.vm := by rw [hvm]; exact Vm.Alike.refl _
  exact ⟨va_K.moved ha h.1, vk_S.moved ha h.2.1, fun own idx k hk hm => vk_R.same hvm (h.2.2.1 own idx k hk hm), va_Z.moved ha h.2.2.2.1, va_Z.moved ha h.2.2.2.2⟩
theorem aWo.warm {D : va_G} {cI cJ cO : ClassId} {b0 : Nat} {kS kV : Nat → Nat} {fv : Value} {s U : State} {H0 H : Heap} {locs : List Loc} (hW : s.WarmedH U.vm) (hS : va_S (aA b0) H0 H locs) (h : aWo D cI cJ cO b0 kS kV fv s H0) : aWo D cI cJ cO b0 kS kV fv U H := by
  have ha : s.vm.Alike U.vm := hW.alike
  exact ⟨va_K.moved ha h.1, vk_S.moved ha (vk_S.kept h.2.1 hS.2.1), fun own idx k hk hm => vk_R.warm hW (h.2.2.1 own idx k hk hm), va_Z.moved ha (va_Z.kept h.2.2.2.1 hS.2.1), va_Z.moved ha (va_Z.kept h.2.2.2.2 hS.2.1)⟩
theorem aPc_blind (D : va_G) (cI cJ cO : ClassId) (b0 : Nat) (kS kV : Nat → Nat) (fv : Value) (vs : List aV) (M : aM) : FrameBlind (aPc D cI cJ cO b0 kS kV fv vs M) := by
  intro a U g mk h
  exact ⟨h.1, aWo.blind (u := U) (U := U.calling g mk a) rfl h.2.1, h.2.2⟩
theorem aTo_sb {b0 : Nat} {kS kV : Nat → Nat} {fv : Value} {sb sb' : Nat} {v : aV} (h : ∀ q, v ≠ .inr (.inr (23, q))) : aTo b0 kS kV fv sb v = aTo b0 kS kV fv sb' v := by
  rcases v with x | x | ⟨t, q⟩
  · rfl
  · rfl
  · show aToQ b0 kS kV fv sb (t, q) = aToQ b0 kS kV fv sb' (t, q)
    unfold aToQ
    dsimp only
    have : t ≠ 23 := fun e => h q (by rw [e])
    simp only [if_neg this]
theorem aOk_f {scr : Prop} {v : aV} (h : ∀ q, v ≠ .inr (.inr (23, q))) (ho : aOk scr v) : aOk False v := by
  rcases v with x | x | ⟨t, q⟩
  · exact ho
  · exact ho
  · rcases ho with z | z | z | z
    · exact Or.inl z
    · exact absurd (by rw [z.1]) (h q)
    · exact Or.inr (Or.inr (Or.inl z))
    · exact Or.inr (Or.inr (Or.inr z))
theorem aOk_t {scr : Prop} {v : aV} (ho : aOk False v) : aOk scr v := by
  rcases v with x | x | ⟨t, q⟩
  · exact ho
  · exact ho
  · rcases ho with z | z | z | z
    · exact Or.inl z
    · exact z.2.elim
    · exact Or.inr (Or.inr (Or.inl z))
    · exact Or.inr (Or.inr (Or.inr z))
theorem aOk_n {v : aV} (ho : aOk False v) : ∀ q, v ≠ .inr (.inr (23, q)) := by
  intro q e
  subst e
  rcases ho with z | z | z | z
  · omega
  · exact z.2
  · omega
  · omega
theorem aRm (ml d : Nat) (h : ml ≤ 40) : 8 + (ml + 11) + (100 * (d + 1) + 300) ≤ 100 * (d + 1) + 360 := by omega
def aMetP (l : Launch) (d : Nat) : Prop := ∀ (y : Nat) (vs rs : List aV) (M M' : aM), y < 280 → aSem (d + 1) y vs M = some (rs, M') → (∀ v ∈ vs, aOk False v) → aMem M M → ∀ (D : va_G) (cI cJ cO : ClassId) (b0 : Nat) (kS kV : Nat → Nat) (fv : Value), fv.category = 1 →
  Met l (aMe y).1 (aWsM y) (aRoom d) (aPc D cI cJ cO b0 kS kV fv vs M) (aQc D cI cJ cO b0 kS kV fv M rs M') 0 0 (aA b0)
theorem aSem_succ (d y : Nat) (vs : List aV) (M : aM) : aSem (d + 1) y vs M = (bif aSig (aLkC aCodes y).2.1 vs then aOm (aSem d) (aLkC aCodes y).2.2 0 (aInit (aLkC aCodes y).1 vs) [] M else none) := rfl
theorem aSem_sig {d y : Nat} {vs : List aV} {M : aM} {r : List aV × aM} (h : aSem (d + 1) y vs M = some r) : aSig (aLkC aCodes y).2.1 vs = true ∧ aOm (aSem d) (aLkC aCodes y).2.2 0 (aInit (aLkC aCodes y).1 vs) [] M = some r := by
  rw [aSem_succ] at h
  by_cases e : aSig (aLkC aCodes y).2.1 vs = true
  · rw [e] at h; exact ⟨e, h⟩
  · rw [Bool.not_eq_true] at e; rw [e] at h; cases h
/-- what the tables say of a method -/
theorem aSg_of {y : Nat} (hy : y < 280) : (aLkC aCodes y).2.1.length = (aMe y).2.2.2.2.2.1 ∧ (aLkC aCodes y).2.1.contains 25 = false ∧ aWd (aLkC aCodes y).2.1 ≤ (aMe y).2.2.1 ∧ (aLkC aCodes y).1 = (aMe y).2.2.1 ∧ ((aMe y).2.2.2.2.2.2.1 = true ∨ ∃ t sg, (aLkC aCodes y).2.1 = (t + 2) :: sg ∧ ((t = 24 ∧ (aMe y).1.cls = "java/lang/String") ∨ (t < 12 ∧ (aMe y).1.cls = aCls t))) ∧ aRt (aMe y).2.2.2.1 < 14 := by
  have h := List.all_eq_true.mp aSg_ok y (List.mem_range.mpr hy)
  unfold aSgB at h
  obtain ⟨h, h6⟩ := and_of h
  obtain ⟨h, h5⟩ := and_of h
  obtain ⟨h, h4⟩ := and_of h
  obtain ⟨h, h3⟩ := and_of h
  obtain ⟨h1, h2⟩ := and_of h
  refine ⟨beq_of h1, by simpa using h2, Nat.le_of_ble_eq_true h3, beq_of h4, ?_, Nat.le_of_ble_eq_true h6⟩
  rcases (Bool.or_eq_true ..).mp h5 with h5 | h5
  · exact Or.inl h5
  · refine Or.inr ?_
    split at h5
    · next sg e => exact ⟨24, sg, e, Or.inl ⟨rfl, of_decide_eq_true h5⟩⟩
    · next t sg _ e =>
      obtain ⟨h7, h8⟩ := and_of h5
      exact ⟨t, sg, e, Or.inr ⟨Nat.le_of_ble_eq_true h7, of_decide_eq_true h8⟩⟩
    · cases h5
section CALL
variable {p : Program} {l0 : Launch} {e : Env} {R : Room} {s : State} {m : MethodId} {args : Array Value} {below : List Frame} {meth : Method} {c : Code} {cells slots : Nat} {Q : State → Prop}
variable {cc : ByteArray} {nL own : Nat} {D : va_G} {cI cJ cO : ClassId} {b0 : Nat} {kS kV : Nat → Nat} {fv : Value} {sb : Nat} {scr : Prop} {M0 : aM}
theorem aCall_of (hx : p.tables.exec = Jvm.exec) (hb : c.code = cc) (hml : c.maxLocals = nL) (hown : s.vm.findClass (aCls own) = some m.cls) (hts : ∀ w ∈ aT0, w.before args s = true) (hW : aWo D cI cJ cO b0 kS kV fv s s.heap) (hfv : fv.category = 1) {d : Nat} (hd : d = 0 ∨ ∃ k, d = k + 1 ∧ aMetP l0 k ∧ k + 2 ≤ R.frames ∧ 100 * (k + 1) + 360 ≤ R.locals) (hro : cells ≤ R.cells ∧ slots ≤ R.slots) :
    aCallOk p l0 e R s m args below meth c cells slots Q cc nL own D cI cJ cO b0 kS kV fv sb scr M0 (aSem d) := by
  rcases hd with rfl | ⟨d, rfl, ih, hfr, hlo⟩
  · intro y vs rs M M' _ h; cases h
  intro y vs rs M M' hy hO hvs idx pc ls rest H locs hls G hm hcat hdg kk
  obtain ⟨hsig, -⟩ := aSem_sig hO
  obtain ⟨g1, g2, g3, g4, g5, g6⟩ := aSg_of hy
  have h23 := aSig_23 vs _ hsig g2
  have hvsF : ∀ v ∈ vs, aOk False v := fun v hv => aOk_f (h23 v hv) (hvs v hv)
  have hMM : aMem M M := ⟨G.1.1, fun _ _ => rfl⟩
  have hMet := ih y vs rs M M' hy hO hvsF hMM D cI cJ cO b0 kS kV fv hfv
  have hmap : vs.map (aTo b0 kS kV fv sb) = vs.map (aTo b0 kS kV fv 0) := List.map_congr_left fun v hv => aTo_sb (h23 v hv)
  have hPc : ∀ U : State, U.heap = H → s.WarmedH U.vm → aPc D cI cJ cO b0 kS kV fv vs M (vs.map (aTo b0 kS kV fv sb)).toArray U := fun U hU hWU => ⟨by rw [hmap], by rw [hU]; exact aWo.warm hWU G.2.2 hW, by rw [hU]; exact G.2.1⟩
  obtain ⟨w1, w2, w3⟩ := aIw y hy
  have hini : (Cond.initialized (aMe y).1.cls).before args s = true := hts _ (aT0_mem (aTbl_at w1) rfl)
  have hlink : (Cond.methodLink (aCls own) idx (aMe y).1).before args s = true := hts _ (aT0_mem hm rfl)
  obtain ⟨q1, q2, q3, q4⟩ := aPw y hy
  have hnsum : vs.length = (aMe y).2.2.2.2.2.1 := (aSig_len vs _ hsig).trans g1
  have fin : va_Run p l0 e R s m args below meth c H locs cells slots 0 0 (F0 m pc ls ((vs.map (aTo b0 kS kV fv sb)).reverse ++ rest)) rest (aQc D cI cJ cO b0 kS kV fv M rs M' (vs.map (aTo b0 kS kV fv sb)).toArray) (aA b0) → W p l0 e R s m args below meth c H locs cells slots Q (F0 m pc ls ((vs.map (aTo b0 kS kV fv sb)).reverse ++ rest)) := by
    intro hr T hT X
    obtain ⟨v, st₀, t, T', L, h0, X', hL, e1, e2, ⟨hv, k1, k2, k3, k4, k5, k6⟩, st⟩ := hr T hT X
    rw [h0] at k2 k3
    have hG : aGl D cI cJ cO b0 M0 s.heap M' T'.heap (locs ++ L) := by
      refine ⟨⟨k5.1, fun a ha => by rw [k5.2 a ha]; exact G.1.2 a ha⟩, by rw [e1]; exact k1, Nat.le_trans G.2.2.1 (by rw [e1]; exact k2), fun q h1 h2 => by rw [e1, k3 q (Nat.lt_of_lt_of_le h1 G.2.2.1) h2]; exact G.2.2.2.1 q h1 h2, fun q hq => ?_⟩
      rcases List.mem_append.mp hq with h | h
      · exact G.2.2.2.2 q h
      · exact hL _ h
    have hrs : v.toList = rs.map (aTo b0 kS kV fv sb) := by
      have : v = (rs.map (aTo b0 kS kV fv 0)).head? := by cases hv; rfl
      rw [this]
      rcases rs with _ | ⟨r1, _ | ⟨r2, rs⟩⟩
      · rfl
      · show [aTo b0 kS kV fv 0 r1] = [aTo b0 kS kV fv sb r1]
        rw [aTo_sb (aOk_n (k4 r1 List.mem_cons_self))]
      · exact absurd k6 (by simp)
    obtain ⟨t2, a1, b1⟩ := kk T'.heap (locs ++ L) hG (fun v hv => aOk_t (k4 v hv)) T' rfl X'
    refine ⟨t2, st t2 ?_, b1⟩
    rw [hrs]
    exact a1
  have hcb : ∀ n, (parseMethodDescriptor (aMe y).1.desc).map (fun d => d.parameters.length) = some n → CallB R s args (aCls own) idx (aMe y).1 (aMe y).2.1 (aMe y).2.2.1 (aMe y).2.2.2.1 (aWsM y) (aRoom d) 0 0 n := by
    intro n hn
    refine callB_of n hts (aGoodIn hy) rfl rfl rfl hini hlink ⟨q1.1, q1.2, hn⟩ ⟨?_, ?_⟩
    · show d + 1 + 1 ≤ R.frames; omega
    · exact Nat.le_trans (aRm _ d q3.2) hlo
  by_cases hst : (aMe y).2.2.2.2.2.2.1 = true
  · rw [hst] at hdg w2 q2
    rw [if_pos rfl] at q2
    exact fin (va_runS (As := vs.map (aTo b0 kS kV fv sb)) (rest := rest) ⟨hx, hb, hml, hown, hts⟩ hMet ⟨hcb _ q2, hts _ (aT0_mem (aTbl_at w2) rfl)⟩ ⟨aPc_blind D cI cJ cO b0 kS kV fv _ M, hPc⟩ rfl (by rw [List.length_map]; exact hnsum) hls rfl (lv_room hcat) hdg ⟨hro.1, hro.2⟩)
  · have hst : (aMe y).2.2.2.2.2.2.1 = false := by simpa using hst
    rw [hst] at hdg w2 q2 w3 g5
    rw [if_neg (by decide)] at q2
    obtain ⟨t, sg, hsg, ht⟩ : ∃ t sg, (aLkC aCodes y).2.1 = (t + 2) :: sg ∧ ((t = 24 ∧ (aMe y).1.cls = "java/lang/String") ∨ (t < 12 ∧ (aMe y).1.cls = aCls t)) := by
      rcases g5 with z | z
      · cases z
      · exact z
    rw [hsg] at hsig g1
    cases vs with
    | nil => cases hsig
    | cons v0 vs =>
      obtain ⟨hsig2, hv0⟩ := aSig_cons hsig
      obtain ⟨a, rfl⟩ : ∃ a, v0 = .inr (.inr (t, a)) := by
        rcases hv0 with ⟨z, _⟩ | ⟨z, _⟩ | ⟨t', q, z, rfl⟩
        · omega
        · omega
        · exact ⟨q, by rw [show t' = t by omega]⟩
      have o0 := hvsF _ List.mem_cons_self
      have hrec : ∃ b : Nat, aTo b0 kS kV fv sb (.inr (.inr (t, a))) = .ref b ∧ ∃ cellB : Cell, H[b]? = some cellB ∧ cellB.vm.isStatics = false ∧ s.vm.findClass (aMe y).1.cls = some cellB.cls := by
        rcases ht with ⟨rfl, hc⟩ | ⟨ht, hc⟩
        · have ha : a < 29 := by rcases o0 with z | z | z | z <;> omega
          refine ⟨kS a, rfl, ?_⟩
          rw [hc]
          exact vk_recv hW.2.1 ha G.2.2
        · have ha : a < 177 ∧ aTyp a = t := by rcases o0 with z | z | z | z <;> first | exact ⟨z.2.1, z.2.2⟩ | omega
          refine ⟨b0 + a, aTo_ob (by omega), ?_⟩
          rw [hc]
          exact va_recv hW.1 G.2.1 (ci := t) (q0 := a) (q := (aCls t, aT t, aNF t)) (aCl_at ht) (by rw [aWs_at _ _ _ _ _ ha.1, aEnt_ob ha.1 (by rw [ha.2]; exact ht), ha.2])
      obtain ⟨b, hb1, hb2⟩ := hrec
      have w3 : (aTbl (aMp y).2.2.2.2.2.2.1)[(aMp y).2.2.2.2.2.2.2]? = some (.selects (aMe y).1.cls (aMe y).1 (aMe y).1) := by
        rcases w3 with z | z
        · cases z
        · exact z
      rw [List.map_cons, hb1] at fin hPc ⊢
      have hlen : (vs.map (aTo b0 kS kV fv sb)).length + 1 = (aMe y).2.2.2.2.2.1 := by rw [List.length_map]; exact hnsum
      have hn : (parseMethodDescriptor (aMe y).1.desc).map (fun d => d.parameters.length) = some (vs.map (aTo b0 kS kV fv sb)).length := by
        cases hpd : parseMethodDescriptor (aMe y).1.desc with
        | none => rw [hpd] at q2; cases q2
        | some dd =>
          rw [hpd] at q2
          have q2 : dd.parameters.length + 1 = (aMe y).2.2.2.2.2.1 := Option.some.inj q2
          show some dd.parameters.length = _
          congr 1
          omega
      exact fin (va_runV (C := (aMe y).1.cls) (As := vs.map (aTo b0 kS kV fv sb)) (rest := rest) ⟨hx, hb, hml, hown, hts⟩ hMet ⟨hcb _ hn, hts _ (aT0_mem (aTbl_at w2) rfl), hts _ (aT0_mem (aTbl_at w3) rfl)⟩ ⟨aPc_blind D cI cJ cO b0 kS kV fv _ M, hb2, hPc⟩ rfl rfl hls (by simp) (lv_room hcat) hdg ⟨hro.1, hro.2⟩)
end CALL
theorem aMetW {l : Launch} {y : MethodName} {ws ws' : List Cond} {rm : Room} {Pc : Array Value → State → Prop} {Qc : Array Value → State → Outcome → State → Prop} {mc ms : Nat} {free : Addr → Prop} {cc : ByteArray} {maxL : Nat} {ret : Option FieldType}
    (hy : plainFor y = true) (hw : ws = Cond.code y cc maxL ret :: ws')
    (body : ∀ p e s m args below meth c s₁, BodyLoose p l y (headSpec ws rm) cc maxL ret e s m args below meth c s₁ → c.maxLocals = maxL → Pc args s →
      W p l e (headSpec ws rm).room s m args below meth c s.heap [] 0 0 (MQ below Qc args s mc ms free) (entryFrame m args maxL)) : Met l y ws rm Pc Qc mc ms free := by
  refine MetFree.of_bodySF (code := cc) (maxLocals := maxL) (ret := ret) hy ?_ ?_
  · intro args s m h hn
    obtain ⟨meth, c, h1, h2, h3, h4, h5, h6, -, -⟩ := Cond.code_spec hn (atoms_spec (ws := ws) h _ (by rw [hw]; exact List.mem_cons_self))
    exact ⟨meth, c, h1, h2, h3, h4, h5, h6⟩
  · intro p e s m args below meth c s₁ B hml hP _
    have hh0 : s₁.heap = s.heap := by rw [B.state]; rfl
    obtain ⟨t, a1, o, b1, b2, b3⟩ := body p e s m args below meth c s₁ B hml hP s₁ hh0 (Stand.of_body B)
    exact ⟨t, o, a1, b1, b2, ⟨b3.1, b3.2⟩⟩
theorem aRt_int {r : Option FieldType} (h : aRt r = 10) : r = some .int := by
  unfold aRt at h
  split at h
  all_goals first | rfl | omega | skip
  split at h <;> omega
theorem aRt_z {r : Option FieldType} (h : aRt r = 11 ∨ aRt r = 12 ∨ aRt r = 13) : (aRt r = 11 ∧ r = some .boolean) ∨ (aRt r = 12 ∧ r = some .char) ∨ (aRt r = 13 ∧ r = some .byte) := by
  rcases r with _ | r
  · exact absurd h (by show ¬ (1 = 11 ∨ 1 = 12 ∨ 1 = 13); omega)
  · cases r
    case boolean => exact Or.inl ⟨rfl, rfl⟩
    case char => exact Or.inr (Or.inl ⟨rfl, rfl⟩)
    case byte => exact Or.inr (Or.inr ⟨rfl, rfl⟩)
    all_goals (exfalso; unfold aRt at h; simp only at h; first | omega | (split at h <;> omega))
theorem aRt_long {r : Option FieldType} (h : aRt r = 3) : r = some .long := by
  rcases r with _ | r
  · exact absurd h (by show ¬ (1 = 3); omega)
  · cases r
    case long => rfl
    all_goals (exfalso; unfold aRt at h; simp only at h; first | omega | (split at h <;> omega))
theorem aRt_str {r : Option FieldType} (h : aRt r = 4) : ∃ n, r = some (.object n) := by
  rcases r with _ | r
  · exact absurd h (by show ¬ (1 = 4); omega)
  · cases r
    case object n => exact ⟨n, rfl⟩
    all_goals (exfalso; unfold aRt at h; simp only at h; omega)
theorem aRt_void {r : Option FieldType} (h : aRt r = 1) : r = none := by
  rcases r with _ | r
  · rfl
  · cases r
    all_goals (exfalso; unfold aRt at h; simp only at h; first | omega | (split at h <;> omega))
theorem aNarrow_char {x : Int} (h0 : 0 ≤ x) (h1 : x ≤ 127) : narrow .char (.int (Int32.ofInt x)) = .int (Int32.ofInt x) := by
  have h : ∀ n : Nat, n < 128 → narrow .char (.int (Int32.ofInt (n : Int))) = .int (Int32.ofInt (n : Int)) := by decide +kernel
  have := h x.toNat (by omega)
  rwa [Int.toNat_of_nonneg h0] at this
theorem aNarrow_byte {x : Int} (h0 : 0 ≤ x) (h1 : x ≤ 1) : narrow .byte (.int (Int32.ofInt x)) = .int (Int32.ofInt x) := by
  have h : ∀ n : Nat, n < 2 → narrow .byte (.int (Int32.ofInt (n : Int))) = .int (Int32.ofInt (n : Int)) := by decide +kernel
  have := h x.toNat (by omega)
  rwa [Int.toNat_of_nonneg h0] at this
theorem aMet_of (l : Launch) (d : Nat) (hd : d = 0 ∨ ∃ k, d = k + 1 ∧ aMetP l k) : aMetP l d := by
  intro y vs rs M M' hy hO hvs hM D cI cJ cO b0 kS kV fv hfv
  obtain ⟨hsig, hO⟩ := aSem_sig hO
  obtain ⟨g1, g2, g3, g4, g5, g6⟩ := aSg_of hy
  obtain ⟨q1, q2, q3, q4⟩ := aPw y hy
  refine aMetW (cc := (aMe y).2.1) (maxL := (aMe y).2.2.1) (ret := (aMe y).2.2.2.1) q3.1 rfl ?_
  intro p e s m args below meth c s₁ B hml hv
  obtain ⟨rfl, hWo, hP⟩ := hv
  have hx := B.exec
  have hb := B.bytes
  have hr := B.returns
  have hts0 := atoms_spec (ws := aWsM y) B.pre
  have hts : ∀ w ∈ aT0, w.before (vs.map (aTo b0 kS kV fv 0)).toArray s = true := fun w hw => hts0 w (List.mem_cons_of_mem _ hw)
  have hown : s.vm.findClass (aMe y).1.cls = some m.cls := findClass_of_methodNamed B.named
  rw [q4] at hown
  have hlocks := B.notSynchronized
  have hck := aCk_all y (by omega)
  unfold aCkM at hck
  obtain ⟨hc1, hc2⟩ := and_of hck
  have hG : aGl D cI cJ cO b0 M s.heap M s.heap [] := ⟨hM, hP, va_S.rf⟩
  have hcall : aCallOk p l e (aRoom d) s m (vs.map (aTo b0 kS kV fv 0)).toArray below meth c 0 0 (MQ below (aQc D cI cJ cO b0 kS kV fv M rs M') (vs.map (aTo b0 kS kV fv 0)).toArray s 0 0 (aA b0)) (aMe y).2.1 (aMe y).2.2.1 (aMe y).2.2.2.2.2.2.2 D cI cJ cO b0 kS kV fv 0 False M (aSem d) := by
    refine aCall_of hx hb hml hown hts hWo hfv ?_ ⟨Nat.zero_le _, Nat.zero_le _⟩
    rcases hd with h | ⟨k, rfl, h⟩
    · exact Or.inl h
    · refine Or.inr ⟨k, rfl, h, ?_, ?_⟩
      · show k + 2 ≤ k + 1 + 1; omega
      · show 100 * (k + 1) + 360 ≤ 100 * (k + 1 + 1) + 300; omega
  have hsl : (lg_sl (vs.map (aTo b0 kS kV fv 0))).length ≤ (aMe y).2.2.1 := by rw [aSig_sl hfv vs _ hsig]; exact g3
  have hl := lv_entry (vs.map (aTo b0 kS kV fv 0)) hsl
  rw [lg_entry_eq]
  generalize (lg_sl (vs.map (aTo b0 kS kV fv 0)) ++ List.replicate ((aMe y).2.2.1 - (lg_sl (vs.map (aTo b0 kS kV fv 0))).length) Slot.unset).toArray = ls at hl ⊢
  rw [g4] at hO
  obtain ⟨n1, n2⟩ := aNth_init (b0 := b0) (kS := kS) (kV := kV) (sb := 0) hfv (aMe y).2.2.1 vs 0
  have L : aLo (aTo b0 kS kV fv 0) False (aMe y).2.2.1 (aInit (aMe y).2.2.1 vs) ls := by
    refine ⟨?_, ⟨hl.1, hl.2.1, fun q hq => ?_⟩, fun i v hi => hvs v (n2 i v hi).2⟩
    · rcases n1 with h | h
      · exact h
      · omega
    · obtain ⟨i, v, hi, rfl⟩ := (aLv_mem _ _ 0 q).mp hq
      exact hl.2.2 _ (n2 i v hi).1
  refine aOm_snd (st := []) hx hb hml hown hts hWo hfv (fun h => h.elim) ⟨?_, ?_, Nat.zero_le _, Nat.zero_le _⟩ (fun n => by omega) hcall hc1 hc2 ?_ L (fun v hv => absurd hv List.not_mem_nil) hG hO
  · show 1 ≤ d + 1; omega
  · show 300 ≤ 100 * (d + 1) + 300; omega
  · intro pc ls st M1 H locs S G hrr hret
    obtain ⟨rfl, rfl⟩ : rs = st ∧ M' = M1 := by cases hrr; exact ⟨rfl, rfl⟩
    have fr : ∀ t : State, t.heap = H → s.heap.size ≤ t.heap.size ∧ ∀ q, q < s.heap.size → ¬ aA b0 q → t.heap[q]? = s.heap[q]? := fun t ht => by rw [ht]; exact ⟨G.2.2.1, G.2.2.2.1⟩
    rcases hret with ⟨x, rfl, hdg, hrt⟩ | ⟨x, rfl, hdg, hrt⟩ | ⟨k, rfl, hdg, hrt⟩ | ⟨rfl, hdg, hrt⟩
    · have hq : ∀ t : State, t.heap = H → s.WarmedH t.vm → aQc D cI cJ cO b0 kS kV fv M [.inl x] M' (vs.map (aTo b0 kS kV fv 0)).toArray s (.returned (some (.int (Int32.ofInt x)))) t := fun t ht _ => ⟨rfl, by rw [ht]; exact G.2.1, (fr t ht).1, (fr t ht).2, S, G.1, Nat.le_refl 1⟩
      rcases hrt with h | ⟨h, hz⟩ | ⟨h, hz⟩ | ⟨h, hz⟩
      · exact W.iret hx hb (hr.trans (aRt_int h)) hq G.2.2.2.2 hdg hlocks
      · rcases aRt_z (Or.inl h) with ⟨_, e⟩ | ⟨e, _⟩ | ⟨e, _⟩
        · exact W.zret hx hb (hr.trans e) (by rcases hz with rfl | rfl <;> decide +kernel) hq G.2.2.2.2 hdg hlocks
        · omega
        · omega
      · rcases aRt_z (Or.inr (Or.inl h)) with ⟨e, _⟩ | ⟨_, e⟩ | ⟨e, _⟩
        · omega
        · exact W.zret hx hb (hr.trans e) (aNarrow_char hz.1 hz.2) hq G.2.2.2.2 hdg hlocks
        · omega
      · rcases aRt_z (Or.inr (Or.inr h)) with ⟨e, _⟩ | ⟨e, _⟩ | ⟨_, e⟩
        · omega
        · omega
        · exact W.zret hx hb (hr.trans e) (aNarrow_byte hz.1 hz.2) hq G.2.2.2.2 hdg hlocks
    · exact W.lret hx hb (hr.trans (aRt_long hrt)) (fun t ht _ => ⟨rfl, by rw [ht]; exact G.2.1, (fr t ht).1, (fr t ht).2, S, G.1, Nat.le_refl 1⟩) G.2.2.2.2 hdg hlocks
    · obtain ⟨n, hn⟩ := aRt_str hrt
      exact W.aret (v := .ref (kS k)) hx hb (hr.trans hn) (Or.inl ⟨n, rfl⟩) (Or.inr ⟨_, rfl⟩) (fun t ht _ => ⟨rfl, by rw [ht]; exact G.2.1, (fr t ht).1, (fr t ht).2, S, G.1, Nat.le_refl 1⟩) G.2.2.2.2 hdg hlocks
    · exact W.vret hx hb (hr.trans (aRt_void hrt)) (fun t ht _ => ⟨rfl, by rw [ht]; exact G.2.1, (fr t ht).1, (fr t ht).2, S, G.1, Nat.zero_le 1⟩) G.2.2.2.2 hdg hlocks
theorem aMet (l : Launch) : ∀ d, aMetP l d := by
  intro d
  induction d with
  | zero => exact aMet_of l 0 (Or.inl rfl)
  | succ d ih => exact aMet_of l (d + 1) (Or.inr ⟨d, rfl, ih⟩)
