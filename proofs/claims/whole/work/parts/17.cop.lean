/-! The constructors' machine: one instruction is the machine's. -/
section COP
variable {p : Program} {l : Launch} {e : Env} {R : Room} {s : State} {m : MethodId} {args : Array Value} {below : List Frame} {meth : Method} {c : Code} {H : Heap} {locs : List Loc} {Q : State → Prop}
variable {cc : ByteArray} {lsA : Array Slot} {D : va_G} {cI cJ cO : ClassId} {base own nL nc ns : Nat} {E : List ctE} {ls : ctL} {st : List ctV}
theorem ctSet (E : List ctE) (k : Nat) (x : ctE) : (E.map (ctEnt cI cJ cO base)).set k (ctEnt cI cJ cO base x) = (E.set k x).map (ctEnt cI cJ cO base) := by rw [List.map_set]
theorem ctAt {E : List ctE} {k : Nat} {x : ctE} (h : E[k]? = some x) : (E.map (ctEnt cI cJ cO base))[k]? = some (ctEnt cI cJ cO base x) := by rw [List.getElem?_map, h]; rfl
set_option maxHeartbeats 2000000 in
theorem ctCall (hx : p.tables.exec = Jvm.exec) (hb : c.code = cc) (hml : c.maxLocals = nL) (hts : ∀ w ∈ aT0, w.before args s = true) (hown : s.vm.findClass (aCls own) = some m.cls) (hK : ctK D cI cJ cO s) (hsz : lsA.size = nL) {d : Nat} (hM : ctMetP l d) (hfr : d + 2 ≤ R.frames ∧ 100 * (d + 1) + 360 ≤ R.locals)
    {pc idx y ne : Nat} (hy : y < 12) (hne : (ne = 0 ∧ (Cond.methodLink (aCls own) idx (ctMe y).1).before args s = true) ∨ (own, idx, y) ∈ ctNw) (hd : decode cc pc = .ok (.invokespecial idx, 3)) {E0 E2 : List ctE} {vs rest : List ctV} (hn : vs.length = ctNa y) (hsem : ctSem (d + 1) y (vs.map (ctSh (-(E0.length : Int)))) = some E2) (hr : rest.length ≤ 3) (hr3 : rest.all (fun v => Nat.blt v.1 3) = true)
    (hW : cW D base ((E0 ++ [ctDf y]).map (ctEnt cI cJ cO base)) H) (hS : va_S (cA base) s.heap H locs) (hc : nc + (ctCap y).1 ≤ R.cells) (hsl : ns + (ctCap y).2 ≤ R.slots)
    (kk : ∀ H1 locs1, cW D base ((E0 ++ E2.map (ctShE E0.length)).map (ctEnt cI cJ cO base)) H1 → va_S (cA base) s.heap H1 locs1 → W p l e R s m args below meth c H1 locs1 (nc + (ctCap y).1) (ns + (ctCap y).2) Q (F0 m (pc + 3) lsA (rest.map (ctVal base)))) :
    W p l e R s m args below meth c H locs nc ns Q (F0 m pc lsA ((vs.map (ctVal base)).reverse ++ .ref (base + E0.length) :: rest.map (ctVal base))) := by
  have hMet := hM y _ _ hy hsem D cI cJ cO (base + E0.length)
  obtain ⟨p1, p2, ⟨p3, p4, p5⟩, p6, p7⟩ := ctMp y hy
  have hAs : (vs.map (ctSh (-(E0.length : Int)))).map (ctVal (base + E0.length)) = vs.map (ctVal base) := by
    rw [List.map_map]
    exact List.map_congr_left fun v _ => ctVal_un base E0.length v
  rw [List.map_append] at hW
  have hlast : cW D (base + E0.length) [ctEnt cI cJ cO (base + E0.length) (ctDf y)] H := by
    have h := cW_last (base := base) (E := E0.map (ctEnt cI cJ cO base)) (x := ctEnt cI cJ cO base (ctDf y)) hW
    rw [List.length_map] at h
    rw [ctDf_e cI cJ cO _ hy] at h ⊢
    exact h
  have hPre : PreS s H (ctPc D cI cJ cO (base + E0.length) y (vs.map (ctSh (-(E0.length : Int))))) (.ref (base + E0.length) :: vs.map (ctVal base)) := by
    refine ⟨ctPc_blind D cI cJ cO _ y _, fun U hU hWU => ⟨?_, ctK_warm hWU hK, by rw [hU]; exact hlast⟩⟩
    rw [hAs]
  have hini := hts _ (ctMw_in hy (.initialized (ctMe y).1.cls) (List.mem_cons_of_mem _ List.mem_cons_self))
  have hins := hts _ (ctMw_in hy (.instanceMethod (ctMe y).1) (List.mem_cons_of_mem _ (List.mem_cons_of_mem _ List.mem_cons_self)))
  have hcod := hts _ (ctMw_in hy (.code (ctMe y).1 (ctMe y).2 (ctMx y) none) List.mem_cons_self)
  have hroom : (ctRoom d y).frames + 1 ≤ R.frames ∧ 8 + (ctMx y + 11) + (ctRoom d y).locals ≤ R.locals := by
    constructor
    · show d + 1 + 1 ≤ R.frames; omega
    · show 8 + (ctMx y + 11) + (100 * (d + 1) + 300) ≤ R.locals; omega
  have hlenA : (vs.map (ctVal base)).length = ctNa y := by rw [List.length_map]; exact hn
  have hcat := ctCat base rest hr3
  have fin : va_Run p l e R s m args below meth c H locs nc ns (ctCap y).1 (ctCap y).2 (F0 m pc lsA ((vs.map (ctVal base)).reverse ++ .ref (base + E0.length) :: rest.map (ctVal base))) (rest.map (ctVal base)) (ctQc D cI cJ cO (base + E0.length) E2 (Value.ref (base + E0.length) :: vs.map (ctVal base)).toArray) (cA (base + E0.length)) → W p l e R s m args below meth c H locs nc ns Q (F0 m pc lsA ((vs.map (ctVal base)).reverse ++ .ref (base + E0.length) :: rest.map (ctVal base))) := by
    intro hr T hT X
    obtain ⟨v, st₀, t, T', L, h0, X', hL, e1, e2, ⟨hv, k1, k2, k3⟩, st⟩ := hr T hT X
    rw [h0] at k2 k3
    have hcw : cW D base ((E0 ++ E2.map (ctShE E0.length)).map (ctEnt cI cJ cO base)) T'.heap := by
      rw [List.map_append, List.map_map, e1]
      have hE : E2.map (ctEnt cI cJ cO base ∘ ctShE E0.length) = E2.map (ctEnt cI cJ cO (base + E0.length)) := List.map_congr_left fun x _ => ctEnt_sh cI cJ cO base E0.length x
      rw [hE]
      exact cW_call (x := ctEnt cI cJ cO base (ctDf y)) hW (by rw [List.length_map]; exact k1) (by rw [List.length_map]; exact k3)
    have hS1 : va_S (cA base) s.heap T'.heap (locs ++ L) := by
      refine ⟨by rw [e1]; exact Nat.le_trans hS.1 k2, fun q h1 h2 => ?_, fun q hq => ?_⟩
      · have hq : q < base := Nat.not_le.mp h2
        rw [e1, k3 q (by omega)]
        exact hS.2.1 q h1 h2
      · rcases List.mem_append.mp hq with h | h
        · exact hS.2.2 q h
        · have : base + E0.length ≤ q.base := hL q h
          show base ≤ q.base
          omega
    obtain ⟨t2, a1, b1⟩ := kk T'.heap (locs ++ L) hcw hS1 T' rfl X'
    refine ⟨t2, st t2 ?_, b1⟩
    have hv' : v.toList = [] := by cases hv; rfl
    rw [hv']
    exact a1
  rcases hne with ⟨-, hlink⟩ | hne
  · exact fin (va_runI (As := vs.map (ctVal base)) (rest := rest.map (ctVal base)) (bytes := (ctMe y).2) (maxL := ctMx y) ⟨hx, hb, hml, hown, hts⟩ hMet (cwI (ctNa y) hts (ctGoodIn hy) rfl rfl rfl hini hlink hins p7 ⟨p1.1, p1.2, p2⟩ hroom) hPre rfl hlenA hsz rfl (lv_room (by omega)) hd ⟨hc, hsl⟩)
  · exact fin (va_runIN (As := vs.map (ctVal base)) (rest := rest.map (ctVal base)) (bytes := (ctMe y).2) (maxL := ctMx y) ⟨hx, hb, hml, hown, hts⟩ hMet ⟨va_cnB (ctNa y) hts (ctGoodIn hy) rfl rfl rfl (hK.2.2 _ hne) hini ⟨p1.1, p1.2, p2⟩ hroom, p7, hins⟩ hPre rfl hlenA hsz rfl (lv_room (by omega)) hd ⟨hc, hsl⟩)
end COP
