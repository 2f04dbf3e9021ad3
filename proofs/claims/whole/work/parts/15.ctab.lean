/-! The constructors' tables: each instruction as it is written, each word among the tables. -/
theorem ctWd_pl : ∀ y, y < 12 → (ctCod y).all (fun q => (ctWd y q).all fun w => lw_tbl.contains w && goodWord w) = true := by decide +kernel
theorem ctWd_in {y : Nat} (hy : y < 12) {q : ctI} (hq : q ∈ ctCod y) : ∀ w ∈ ctWd y q, w ∈ aT0 := fun w hw => by
  have h := List.all_eq_true.mp (List.all_eq_true.mp (ctWd_pl y hy) q hq) w hw
  exact aT0_mem (List.contains_iff_mem.mp (and_of h).1) (and_of h).2
theorem ctDec : ∀ y, y < 12 → (ctCod y).all (fun q => decide (decode (ctMe y).2 q.1 = .ok (ctIns q))) = true := by decide +kernel
theorem ctDec_in {y : Nat} (hy : y < 12) {q : ctI} (hq : q ∈ ctCod y) : decode (ctMe y).2 q.1 = .ok (ctIns q) := of_decide_eq_true (List.all_eq_true.mp (ctDec y hy) q hq)
theorem ctMw_pl : ∀ y, y < 12 → ([Cond.code (ctMe y).1 (ctMe y).2 (ctMx y) none, Cond.initialized (ctMe y).1.cls, Cond.instanceMethod (ctMe y).1, Cond.instanceMethod objectInit, Cond.code objectInit ⟨#[0xb1]⟩ 1 none].all fun w => lw_tbl.contains w && goodWord w) = true := by decide +kernel
theorem ctMw_in {y : Nat} (hy : y < 12) : ∀ w ∈ [Cond.code (ctMe y).1 (ctMe y).2 (ctMx y) none, Cond.initialized (ctMe y).1.cls, Cond.instanceMethod (ctMe y).1, Cond.instanceMethod objectInit, Cond.code objectInit ⟨#[0xb1]⟩ 1 none], w ∈ aT0 := fun w hw => by
  have h := List.all_eq_true.mp (ctMw_pl y hy) w hw
  exact aT0_mem (List.contains_iff_mem.mp (and_of h).1) (and_of h).2
theorem ctMp : ∀ y, y < 12 → ((ctMe y).1.cls ≠ "java/lang/invoke/MethodHandle" ∧ (ctMe y).1.cls ≠ "java/lang/invoke/VarHandle") ∧ (parseMethodDescriptor (ctMe y).1.desc).map (fun d => d.parameters.length) = some (ctNa y) ∧ (plainName (ctMe y).1.cls = true ∧ ctMx y ≤ 40 ∧ ctNa y + 1 ≤ ctMx y) ∧ (ctMe y).1.cls = aCls y ∧ (ctMe y).1.name = "<init>" := by decide +kernel
def ctTyOk (ty : FieldType) (t : Nat) : Bool := match ty with
  | .int => Nat.beq t 0
  | .boolean => Nat.beq t 1
  | .long => Nat.beq t 3
  | .object _ => Nat.beq t 2
  | .array _ => Nat.beq t 2
  | _ => false
theorem ctTy_ok : ∀ ci, ci < 12 → ∀ k, k < aNF ci → ctTyOk (aTyOf ci k) (ctTy ci k) = true := by decide +kernel
theorem ctTy_len : ∀ ci, ci < 12 → (ctTyL.getD ci []).length = aNF ci := by decide +kernel
theorem ctTyOk_d {ty : FieldType} {t : Nat} (base : Nat) (h : ctTyOk ty t = true) : defaultValue ty = ctVal base (if t = 1 then 0 else t, 0) := by
  unfold ctTyOk at h
  cases ty <;> first | cases h; done | (have h := Nat.eq_of_beq_eq_true h; subst h; rfl)
theorem ctTyOk_f {ty : FieldType} {t : Nat} (base : Nat) (h : ctTyOk ty t = true) {v : ctV} (hf : ctFit t v = true) : narrow ty (ctVal base v) = ctVal base v ∧ fits ty (ctVal base v) = true := by
  obtain ⟨k, x⟩ := v
  unfold ctFit at hf
  unfold ctTyOk at h
  by_cases h0 : t = 0
  · subst h0
    rw [if_pos rfl] at hf
    obtain rfl : k = 0 := Nat.eq_of_beq_eq_true hf
    cases ty <;> first | cases h; done | exact ⟨rfl, rfl⟩
  rw [if_neg h0] at hf
  by_cases h1 : t = 1
  · subst h1
    rw [if_pos rfl] at hf
    obtain ⟨f1, f2⟩ := and_of hf
    obtain rfl : k = 0 := Nat.eq_of_beq_eq_true f1
    have f2 : x = 0 ∨ x = 1 := of_decide_eq_true f2
    cases ty <;> first | cases h; done | (rcases f2 with rfl | rfl <;> exact ⟨rfl, rfl⟩)
  rw [if_neg h1] at hf
  by_cases h2 : t = 2
  · subst h2
    rw [if_pos rfl] at hf
    obtain rfl : k = 1 := Nat.eq_of_beq_eq_true hf
    cases ty <;> first | cases h; done | exact ⟨rfl, rfl⟩
  rw [if_neg h2] at hf
  cases hf
theorem ctDf_e (cI cJ cO : ClassId) (base : Nat) {ci : Nat} (h : ci < 12) : ctEnt cI cJ cO base (ctDf ci) = cDf ci := by
  show Sum.inr (ci, ((ctTyL.getD ci []).map fun t => ((if t = 1 then 0 else t, 0) : ctV)).map (ctVal base)) = _
  unfold cDf
  refine congrArg (fun z => Sum.inr (ci, z)) ?_
  apply List.ext_getElem?
  intro j
  rw [List.getElem?_map, List.getElem?_map, List.getElem?_map]
  have hl := ctTy_len ci h
  by_cases hj : j < aNF ci
  · rw [List.getElem?_range hj]
    have hk := ctTy_ok ci h j hj
    unfold ctTy at hk
    rw [List.getD_eq_getElem?_getD] at hk
    obtain ⟨t, ht⟩ : ∃ t, (ctTyL.getD ci [])[j]? = some t := ⟨_, List.getElem?_eq_getElem (by omega)⟩
    rw [ht] at hk ⊢
    exact congrArg some (ctTyOk_d base hk).symm
  · rw [List.getElem?_eq_none (by omega), List.getElem?_eq_none (by rw [List.length_range]; omega)]
    rfl
theorem ctEqB_eq {x y : ctE} (h : ctEqB x y = true) : x = y := by
  unfold ctEqB at h
  split at h
  · next a l b k =>
    obtain ⟨h1, h2⟩ := and_of h
    rw [Nat.eq_of_beq_eq_true h1, of_decide_eq_true h2]
  · next a n l b m k =>
    obtain ⟨h123, h4⟩ := and_of h
    obtain ⟨h12, h3⟩ := and_of h123
    obtain ⟨h1, h2⟩ := and_of h12
    have h3 := of_decide_eq_true h3
    have h4 := of_decide_eq_true h4
    rw [Nat.eq_of_beq_eq_true h1, Nat.eq_of_beq_eq_true h2]
    have : l = k := by
      apply List.ext_getElem?
      intro i
      have e3 := congrArg (fun z => z[i]?) h3
      have e4 := congrArg (fun z => z[i]?) h4
      simp only [List.getElem?_map] at e3 e4
      cases hl : l[i]? with
      | none =>
        cases hk : k[i]? with
        | none => rfl
        | some w => rw [hl, hk] at e3; cases e3
      | some v =>
        cases hk : k[i]? with
        | none => rw [hl, hk] at e3; cases e3
        | some w =>
          rw [hl, hk] at e3 e4
          simp only [Option.map_some, Option.some.injEq, Prod.mk.injEq] at e3 e4
          obtain ⟨v1, v2, v3⟩ := v
          obtain ⟨w1, w2, w3⟩ := w
          dsimp only at e3 e4
          rw [e3.1, e3.2, e4]
    rw [this]
  · cases h
theorem ctVal_n {b b' : Nat} {v : ctV} (h : v.1 ≠ 1) : ctVal b v = ctVal b' v := by
  unfold ctVal
  rw [if_neg h, if_neg h]
theorem ctVal_sh (base k : Nat) (v : ctV) : ctVal base (ctSh k v) = ctVal (base + k) v := by
  unfold ctSh
  by_cases h : v.1 = 1
  · rw [if_pos h]
    unfold ctVal
    rw [if_neg (show ¬ (1 : Nat) = 0 by decide), if_pos rfl, if_neg (show ¬ v.1 = 0 by omega), if_pos h]
    congr 2
    show (base : Int) + (v.2 + k) = ((base + k : Nat) : Int) + v.2
    omega
  · rw [if_neg h]; exact ctVal_n h
theorem ctVal_un (base k : Nat) (v : ctV) : ctVal (base + k) (ctSh (-(k : Int)) v) = ctVal base v := by
  unfold ctSh
  by_cases h : v.1 = 1
  · rw [if_pos h]
    unfold ctVal
    rw [if_neg (show ¬ (1 : Nat) = 0 by decide), if_pos rfl, if_neg (show ¬ v.1 = 0 by omega), if_pos h]
    congr 2
    show ((base + k : Nat) : Int) + (v.2 + -(k : Int)) = (base : Int) + v.2
    omega
  · rw [if_neg h]; exact ctVal_n h
theorem ctInt_sh (k : Int) (g : ctL → ctL) (hg : g = List.map fun q => (q.1, (q.2.1, q.2.2))) (l : ctL) (j : Nat) : ctInt (g l) j = ctInt l j := by
  subst hg
  induction l with
  | nil => rfl
  | cons q l ih =>
    obtain ⟨i, v⟩ := q
    show (if j = i then v.2 else ctInt (List.map _ l) j) = if j = i then v.2 else ctInt l j
    rw [ih]
theorem ctRef_sh (base k : Nat) (l : ctL) (j : Nat) : ctRef base (l.map fun q => (q.1, (q.2.1, q.2.2 + (k : Int)))) j = ctRef (base + k) l j := by
  induction l with
  | nil => rfl
  | cons q l ih =>
    obtain ⟨i, v⟩ := q
    show (if j = i then some ((base : Int) + (v.2 + k)).toNat else ctRef base (List.map _ l) j) = if j = i then some (((base + k : Nat) : Int) + v.2).toNat else ctRef (base + k) l j
    rw [ih]
    congr 3
    omega
theorem ctEnt_sh (cI cJ cO : ClassId) (base k : Nat) (x : ctE) : ctEnt cI cJ cO base (ctShE k x) = ctEnt cI cJ cO (base + k) x := by
  rcases x with ⟨ci, fs⟩ | ⟨t, n, l⟩
  · show Sum.inr (ci, (fs.map (ctSh k)).map (ctVal base)) = Sum.inr (ci, fs.map (ctVal (base + k)))
    rw [List.map_map]
    refine congrArg (fun z => Sum.inr (ci, z)) (List.map_congr_left fun v _ => ?_)
    exact ctVal_sh base k v
  · have hl : ctShE k (.inr (t, n, l)) = .inr (t, n, l.map fun q => (q.1, (q.2.1, if t = 0 ∨ t = 1 then q.2.2 else q.2.2 + (k : Int)))) := rfl
    rw [hl]
    rcases t with _ | _ | t
    · simp only [true_or, if_true, ctEnt]
      refine congrArg (fun z => Sum.inl (cI, n, Sum.inl z)) ?_
      funext j
      rw [ctInt_sh 0 _ rfl]
    · rfl
    · have e : ¬ (t + 1 + 1 = 0 ∨ t + 1 + 1 = 1) := by omega
      simp only [if_neg e, ctEnt]
      refine congrArg (fun z => Sum.inl (cO, n, Sum.inr (Sum.inr (Sum.inr (Sum.inr z))))) ?_
      funext j
      rw [ctRef_sh]
theorem ctNw_pl : (ctNw.all fun t => lw_tbl.contains (ctNwW t)) = true := by decide +kernel
theorem ctNw_in : ∀ t ∈ ctNw, ctNwW t ∈ lw_tbl := fun t ht => List.contains_iff_mem.mp (List.all_eq_true.mp ctNw_pl t ht)
