set_option maxRecDepth 20000 in
theorem u_acts_forget (d : Nat)  (M : aM) : w_acts_forget (d + 1)  M = (
    let M12 : aM := aUp M 94 3 0
    some ([], M12)) :=
  (aOm_fix (aSem d) K_acts_forget 0 _ [] M).trans rfl
set_option maxRecDepth 20000 in
theorem u_acts_keep (d : Nat) (a1 : Nat) (M : aM) : w_acts_keep (d + 1) a1 M = (
    bndI (w_jm_floorMod d (w32 ((M 94 2) + (M 94 3))) 6 M) fun y14 M13 =>
    inb y14 (aLen 95) <|
    bndV (w_wood_copyFrom d (97 + 5 * y14.toNat) (a1 + 1) M13) fun M15 =>
    inb y14 (aLen 96) <|
    let M16 : aM := aUp M15 96 y14.toNat (M15 (a1 + 17) 2)
    if (M16 94 3) < 6 then
      let M17 : aM := aUp M16 94 3 (w32 ((M16 94 3) + 1))
      some ([], M17)
    else
      bndI (w_jm_floorMod d (w32 ((M16 94 2) + 1)) 6 M16) fun y19 M18 =>
      let M20 : aM := aUp M18 94 2 y19
      some ([], M20)) :=
  (aOm_fix (aSem d) K_acts_keep 0 _ [] M).trans rfl
set_option maxRecDepth 20000 in
theorem u_acts_goBack (d : Nat) (a1 : Nat) (M : aM) : w_acts_goBack (d + 1) a1 M = (
    if 0 < (M 94 3) then
      bndI (w_jm_floorMod d (w32 ((w32 ((M 94 2) + (M 94 3))) - 1)) 6 M) fun y14 M13 =>
      inb y14 (aLen 95) <|
      bndV (w_wood_copyFrom d (a1 + 1) (97 + 5 * y14.toNat) M13) fun M15 =>
      inb y14 (aLen 96) <|
      let M16 : aM := aUp M15 (a1 + 17) 2 (M15 96 y14.toNat)
      let M17 : aM := aUp M16 94 3 (w32 ((M16 94 3) - 1))
      some ([aI 1], M17)
    else
      some ([aI 0], M)) :=
  (aOm_fix (aSem d) K_acts_goBack 0 _ [] M).trans rfl
set_option maxRecDepth 20000 in
theorem u_labour_takeTurns (d : Nat) (a1 : Nat) (M : aM) : w_labour_takeTurns (d + 1) a1 M = (
    bndI (w_world_likeliestDeer d a1 M) fun y14 M13 =>
    let M15 : aM := aUp M13 146 3 0
    w_labour_takeTurns_15 d a1 y14 0 0 M15) :=
  (aOm_fix (aSem d) K_labour_takeTurns 0 _ [] M).trans rfl
set_option maxRecDepth 20000 in
theorem u_labour_takeTurns_15 (d : Nat) (a1 : Nat) (v2 : Int) (v3 : Int) (v4 : Int) (M : aM) : w_labour_takeTurns_15 d a1 v2 v3 v4 M = (
    if v4 < 10 then
      if v2 = (-1) then
        w_labour_takeTurns_110 d a1 v3 0 M
      else
        bndI (w_jm_floorMod d (w32 (v2 + v4)) 10 M) fun y18 M17 =>
        bndI (w_wood_isAlive d (a1 + 1) y18 M17) fun y20 M19 =>
        if y20 = 0 then
          let v21 : Int := w32 (v4 + 1)
          w_labour_takeTurns_15 d a1 v2 v3 v21 M19
        else
          inb (M19 146 3) (aLen 147) <|
          let M22 : aM := aUp M19 147 (M19 146 3).toNat y18
          bndI (w_world_asked d a1 1 y18 M22) fun y24 M23 =>
          inb (M22 146 3) (aLen 148) <|
          let M25 : aM := aUp M23 148 (M22 146 3).toNat y24
          inb (M25 146 3) (aLen 148) <|
          let v26 : Int := (imax v3 (M25 148 (M25 146 3).toNat))
          let M27 : aM := aUp M25 146 3 (w32 ((M25 146 3) + 1))
          let v28 : Int := w32 (v4 + 1)
          w_labour_takeTurns_15 d a1 v2 v26 v28 M27
    else
      w_labour_takeTurns_110 d a1 v3 0 M) :=
  (aOm_fix _ _ _ _ _ _).trans rfl
set_option maxRecDepth 20000 in
theorem u_labour_takeTurns_110 (d : Nat) (a1 : Nat) (v3 : Int) (v4 : Int) (M : aM) : w_labour_takeTurns_110 d a1 v3 v4 M = (
    if v4 < (M (a1 + 21) 2) then
      bndI (w_rows_cell d (a1 + 21) v4 0 M) fun y18 M17 =>
      if v3 < y18 then
        some ([aI 0], M17)
      else
        let v19 : Int := w32 (v4 + 1)
        w_labour_takeTurns_110 d a1 v3 v19 M17
    else
      if 0 < (M 146 3) then
        some ([aI 1], M)
      else
        some ([aI 0], M)) :=
  (aOm_fix _ _ _ _ _ _).trans rfl
set_option maxRecDepth 20000 in
theorem u_labour_lengthOf (d : Nat) (v1 : Int) (M : aM) : w_labour_lengthOf (d + 1) v1 M = (
    if 0 < (M 146 3) then
      bndI (w_jm_floorMod d v1 (M 146 3) M) fun y14 M13 =>
      if y14 < 10 then
        inb y14 (aLen 148) <|
        some ([aI (M13 148 y14.toNat)], M13)
      else
        some ([aI 0], M13)
    else
      if (0 : Int) < 10 then
        inb 0 (aLen 148) <|
        some ([aI (M 148 0)], M)
      else
        some ([aI 0], M)) :=
  (aOm_fix (aSem d) K_labour_lengthOf 0 _ [] M).trans rfl
set_option maxRecDepth 20000 in
theorem u_labour_spotBehind (d : Nat) (v1 : Int) (v2 : Int) (M : aM) : w_labour_spotBehind (d + 1) v1 v2 M = (
    let v14 : Int := (idiv v1 32)
    bndI (w_labour_lengthOf d v14 M) fun y16 M15 =>
    if y16 < (w32 ((irem v1 32) + v2)) then
      w_labour_spotBehind_26 d v1 v2 v14 1 M15
    else
      some ([aI (w32 (v1 + v2))], M15)) :=
  (aOm_fix (aSem d) K_labour_spotBehind 0 _ [] M).trans rfl
set_option maxRecDepth 20000 in
theorem u_labour_spotBehind_26 (d : Nat) (v1 : Int) (v2 : Int) (v3 : Int) (v4 : Int) (M : aM) : w_labour_spotBehind_26 d v1 v2 v3 v4 M = (
    if (M 146 3) < v4 then
      some ([aI v1], M)
    else
      bndI (w_labour_lengthOf d (w32 (v3 + v4)) M) fun y17 M16 =>
      if y17 < v2 then
        let v18 : Int := w32 (v4 + 1)
        w_labour_spotBehind_26 d v1 v2 v3 v18 M16
      else
        some ([aI (w32 ((w32 ((w32 (v3 + v4)) * 32)) + v2))], M16)) :=
  (aOm_fix _ _ _ _ _ _).trans rfl
set_option maxRecDepth 20000 in
theorem u_labour_lastSpot (d : Nat) (a1 : Nat) (M : aM) : w_labour_lastSpot (d + 1) a1 M = (
    w_labour_lastSpot_4 d a1 0 0 M) :=
  (aOm_fix (aSem d) K_labour_lastSpot 0 _ [] M).trans rfl
set_option maxRecDepth 20000 in
theorem u_labour_lastSpot_4 (d : Nat) (a1 : Nat) (v2 : Int) (v3 : Int) (M : aM) : w_labour_lastSpot_4 d a1 v2 v3 M = (
    if v3 < (M a1 2) then
      bndI (w_rows_cell d a1 v3 0 M) fun y16 M15 =>
      bndI (w_labour_spotBehind d v2 y16 M15) fun y18 M17 =>
      let v19 : Int := w32 (v3 + 1)
      w_labour_lastSpot_4 d a1 y18 v19 M17
    else
      some ([aI v2], M)) :=
  (aOm_fix _ _ _ _ _ _).trans rfl
set_option maxRecDepth 20000 in
theorem u_labour_bestSpot (d : Nat) (a1 : Nat) (M : aM) : w_labour_bestSpot (d + 1) a1 M = (
    let v13 : Int := (imax 0 (imin 8 (M a1 2)))
    inb 0 (aLen 149) <|
    let M14 : aM := aUp M 149 0 0
    w_labour_bestSpot_23 d a1 v13 1 M14) :=
  (aOm_fix (aSem d) K_labour_bestSpot 0 _ [] M).trans rfl
set_option maxRecDepth 20000 in
theorem u_labour_bestSpot_23 (d : Nat) (a1 : Nat) (v2 : Int) (v3 : Int) (M : aM) : w_labour_bestSpot_23 d a1 v2 v3 M = (
    if v3 < (ishl 1 v2) then
      w_labour_bestSpot_36 d a1 v2 v3 (-1) 0 M
    else
      inb (w32 ((ishl 1 v2) - 1)) (aLen 149) <|
      some ([aI (M 149 (w32 ((ishl 1 v2) - 1)).toNat)], M)) :=
  (aOm_fix _ _ _ _ _ _).trans rfl
set_option maxRecDepth 20000 in
theorem u_labour_bestSpot_36 (d : Nat) (a1 : Nat) (v2 : Int) (v3 : Int) (v4 : Int) (v5 : Int) (M : aM) : w_labour_bestSpot_36 d a1 v2 v3 v4 v5 M = (
    if v5 < v2 then
      if (iand (ishr v3 v5) 1) = 1 then
        inb (ixor v3 (ishl 1 v5)) (aLen 149) <|
        bndI (w_rows_cell d a1 v5 0 M) fun y19 M18 =>
        bndI (w_labour_spotBehind d (M 149 (ixor v3 (ishl 1 v5)).toNat) y19 M18) fun y21 M20 =>
        if v4 = (-1) then
          let v22 : Int := w32 (v5 + 1)
          w_labour_bestSpot_36 d a1 v2 v3 y21 v22 M20
        else
          let v23 : Int := (imin v4 y21)
          let v24 : Int := w32 (v5 + 1)
          w_labour_bestSpot_36 d a1 v2 v3 v23 v24 M20
      else
        let v25 : Int := w32 (v5 + 1)
        w_labour_bestSpot_36 d a1 v2 v3 v4 v25 M
    else
      inb v3 (aLen 149) <|
      let M26 : aM := aUp M 149 v3.toNat v4
      let v27 : Int := w32 (v3 + 1)
      w_labour_bestSpot_23 d a1 v2 v27 M26) :=
  (aOm_fix _ _ _ _ _ _).trans rfl
set_option maxRecDepth 20000 in
theorem u_labour_daysOf (d : Nat) (v1 : Int) (M : aM) : w_labour_daysOf (d + 1) v1 M = (
    if v1 = 0 then
      some ([aI 0], M)
    else
      some ([aI (w32 ((idiv v1 32) + 1))], M)) :=
  (aOm_fix (aSem d) K_labour_daysOf 0 _ [] M).trans rfl
set_option maxRecDepth 20000 in
theorem u_labour_deerOf (d : Nat) (v1 : Int) (M : aM) : w_labour_deerOf (d + 1) v1 M = (
    if 0 < (M 146 3) then
      bndI (w_jm_floorMod d (idiv v1 32) (M 146 3) M) fun y14 M13 =>
      if v1 = 0 then
        some ([aI (-1)], M13)
      else
        if y14 < 10 then
          inb y14 (aLen 147) <|
          some ([aI (M13 147 y14.toNat)], M13)
        else
          some ([aI (-1)], M13)
    else
      if v1 = 0 then
        some ([aI (-1)], M)
      else
        if (0 : Int) < 10 then
          inb 0 (aLen 147) <|
          some ([aI (M 147 0)], M)
        else
          some ([aI (-1)], M)) :=
  (aOm_fix (aSem d) K_labour_deerOf 0 _ [] M).trans rfl
set_option maxRecDepth 20000 in
theorem u_law_emit (d : Nat) (a0 : Nat) (v1 : Int) (M : aM) : w_law_emit (d + 1) a0 v1 M = (
    if (M a0 3) < 0 then
      some ([], M)
    else
      if (M a0 3) < ((aLen (a0 + 1) : Nat) : Int) then
        inb (M a0 3) (aLen (a0 + 1)) <|
        let M13 : aM := aUp M (a0 + 1) (M a0 3).toNat v1
        let M14 : aM := aUp M13 a0 3 (w32 ((M13 a0 3) + 1))
        some ([], M14)
      else
        some ([], M)) :=
  (aOm_fix (aSem d) K_law_emit 0 _ [] M).trans rfl
set_option maxRecDepth 20000 in
theorem u_law_tell (d : Nat) (a0 : Nat) (v1 : Int) (a2 : Nat) (M : aM) : w_law_tell (d + 1) a0 v1 a2 M = (
    w_law_tell_2 d a0 v1 a2 0 M) :=
  (aOm_fix (aSem d) K_law_tell 0 _ [] M).trans rfl
set_option maxRecDepth 20000 in
theorem u_law_tell_2 (d : Nat) (a0 : Nat) (v1 : Int) (a2 : Nat) (v3 : Int) (M : aM) : w_law_tell_2 d a0 v1 a2 v3 M = (
    if v3 < (M (a0 + 3) 2) then
      bndI (w_rows_cell d (a0 + 3) v3 0 M) fun y18 M17 =>
      if y18 = v1 then
        bndI (w_rows_cell d (a0 + 3) v3 2 M17) fun y20 M19 =>
        bndI (w_rows_cell d (a0 + 3) v3 3 M19) fun y22 M21 =>
        if y20 = y22 then
          bndI (w_rows_cell d (a0 + 3) v3 1 M21) fun y24 M23 =>
          bndI (w_law_value d a0 y24 y20 a2 M23) fun y26 M25 =>
          bndI (w_law_held d v1 y26 M25) fun y28 M27 =>
          some ([aI y28], M27)
        else
          bndI (w_law_value d a0 y20 y22 a2 M21) fun y30 M29 =>
          if y30 = 0 then
            let v31 : Int := w32 (v3 + 1)
            w_law_tell_2 d a0 v1 a2 v31 M29
          else
            bndI (w_rows_cell d (a0 + 3) v3 1 M29) fun y33 M32 =>
            bndI (w_law_value d a0 y33 y20 a2 M32) fun y35 M34 =>
            bndI (w_law_held d v1 y35 M34) fun y37 M36 =>
            some ([aI y37], M36)
      else
        let v38 : Int := w32 (v3 + 1)
        w_law_tell_2 d a0 v1 a2 v38 M17
    else
      bndI (w_law_unsaid d v1 a2 M) fun y40 M39 =>
      bndI (w_law_held d v1 y40 M39) fun y42 M41 =>
      some ([aI y42], M41)) :=
  (aOm_fix _ _ _ _ _ _).trans rfl
set_option maxRecDepth 20000 in
theorem u_law_held (d : Nat) (v0 : Int) (v1 : Int) (M : aM) : w_law_held (d + 1) v0 v1 M = (
    if v0 = 0 then
      some ([aI (imax 0 (imin 999 v1))], M)
    else
      if v0 = 1 then
        some ([aI (imax 0 (imin 24 v1))], M)
      else
        some ([aI (imax 0 (imin 9 v1))], M)) :=
  (aOm_fix (aSem d) K_law_held 0 _ [] M).trans rfl
set_option maxRecDepth 20000 in
theorem u_law_unsaid (d : Nat) (v0 : Int) (a1 : Nat) (M : aM) : w_law_unsaid (d + 1) v0 a1 M = (
    if ((aLen a1 : Nat) : Int) < 10 then
      some ([aI 0], M)
    else
      if v0 = 0 then
        inb 3 (aLen a1) <|
        some ([aI (w32 ((M a1 3) + 1))], M)
      else
        if v0 = 1 then
          inb 2 (aLen a1) <|
          some ([aI (w32 (6 + (M a1 2)))], M)
        else
          inb 6 (aLen a1) <|
          some ([aI (idiv (M a1 6) 9)], M)) :=
  (aOm_fix (aSem d) K_law_unsaid 0 _ [] M).trans rfl
set_option maxRecDepth 20000 in
theorem u_law_value (d : Nat) (a0 : Nat) (v1 : Int) (v2 : Int) (a3 : Nat) (M : aM) : w_law_value (d + 1) a0 v1 v2 a3 M = (
    let v15 : Int := (imax 0 v1)
    w_law_value_10 d a0 v2 a3 0 v15 M) :=
  (aOm_fix (aSem d) K_law_value 0 _ [] M).trans rfl
set_option maxRecDepth 20000 in
theorem u_law_value_10 (d : Nat) (a0 : Nat) (v2 : Int) (a3 : Nat) (v4 : Int) (v5 : Int) (M : aM) : w_law_value_10 d a0 v2 a3 v4 v5 M = (
    if v5 < v2 then
      if v5 < ((aLen (a0 + 1) : Nat) : Int) then
        inb v5 (aLen (a0 + 1)) <|
        let v18 : Int := (M (a0 + 1) v5.toNat)
        if (-11) < v18 then
          if v4 < 32 then
            if v18 < 0 then
              if (w32 ((-1) - v18)) < ((aLen a3 : Nat) : Int) then
                inb (w32 ((-1) - v18)) (aLen a3) <|
                inb v4 (aLen (a0 + 2)) <|
                let M19 : aM := aUp M (a0 + 2) v4.toNat (M a3 (w32 ((-1) - v18)).toNat)
                let v20 : Int := w32 (v4 + 1)
                let v21 : Int := w32 (v5 + 1)
                w_law_value_10 d a0 v2 a3 v20 v21 M19
              else
                inb v4 (aLen (a0 + 2)) <|
                let M22 : aM := aUp M (a0 + 2) v4.toNat 0
                let v23 : Int := w32 (v4 + 1)
                let v24 : Int := w32 (v5 + 1)
                w_law_value_10 d a0 v2 a3 v23 v24 M22
            else
              inb v4 (aLen (a0 + 2)) <|
              let M25 : aM := aUp M (a0 + 2) v4.toNat v18
              let v26 : Int := w32 (v4 + 1)
              let v27 : Int := w32 (v5 + 1)
              w_law_value_10 d a0 v2 a3 v26 v27 M25
          else
            let v28 : Int := w32 (v5 + 1)
            w_law_value_10 d a0 v2 a3 v4 v28 M
        else
          if v18 = (-18) then
            if 0 < v4 then
              inb (w32 (v4 - 1)) (aLen (a0 + 2)) <|
              inb (w32 (v4 - 1)) (aLen (a0 + 2)) <|
              let M29 : aM := aUp M (a0 + 2) (w32 (v4 - 1)).toNat (w32 (1 - (M (a0 + 2) (w32 (v4 - 1)).toNat)))
              let v30 : Int := w32 (v5 + 1)
              w_law_value_10 d a0 v2 a3 v4 v30 M29
            else
              let v31 : Int := w32 (v5 + 1)
              w_law_value_10 d a0 v2 a3 v4 v31 M
          else
            if 1 < v4 then
              let v32 : Int := w32 (v4 + (-1))
              inb (w32 (v32 - 1)) (aLen (a0 + 2)) <|
              inb v32 (aLen (a0 + 2)) <|
              bndI (w_law_joined d v18 (M (a0 + 2) (w32 (v32 - 1)).toNat) (M (a0 + 2) v32.toNat) M) fun y34 M33 =>
              inb (w32 (v32 - 1)) (aLen (a0 + 2)) <|
              let M35 : aM := aUp M33 (a0 + 2) (w32 (v32 - 1)).toNat y34
              let v36 : Int := w32 (v5 + 1)
              w_law_value_10 d a0 v2 a3 v32 v36 M35
            else
              let v37 : Int := w32 (v5 + 1)
              w_law_value_10 d a0 v2 a3 v4 v37 M
      else
        if 0 < v4 then
          inb (w32 (v4 - 1)) (aLen (a0 + 2)) <|
          some ([aI (M (a0 + 2) (w32 (v4 - 1)).toNat)], M)
        else
          some ([aI 0], M)
    else
      if 0 < v4 then
        inb (w32 (v4 - 1)) (aLen (a0 + 2)) <|
        some ([aI (M (a0 + 2) (w32 (v4 - 1)).toNat)], M)
      else
        some ([aI 0], M)) :=
  (aOm_fix _ _ _ _ _ _).trans rfl
set_option maxRecDepth 20000 in
theorem u_law_joined (d : Nat) (v0 : Int) (v1 : Int) (v2 : Int) (M : aM) : w_law_joined (d + 1) v0 v1 v2 M = (
    if v0 = (-19) then
      some ([aI (iand v1 v2)], M)
    else
    if v0 = (-18) then
      some ([aI (ior v1 v2)], M)
    else
    if v0 = (-17) then
      if v2 < v1 then
        some ([aI 1], M)
      else
        some ([aI 0], M)
    else
    if v0 = (-16) then
      if v1 = v2 then
        some ([aI 1], M)
      else
        some ([aI 0], M)
    else
    if v0 = (-15) then
      if v1 < v2 then
        some ([aI 1], M)
      else
        some ([aI 0], M)
    else
    if v0 = (-14) then
      if v2 = 0 then
        some ([aI 0], M)
      else
        if v2 = 0 then none else
        some ([aI (idiv v1 v2)], M)
    else
    if v0 = (-13) then
      some ([aI (w32 (v1 * v2))], M)
    else
    if v0 = (-12) then
      some ([aI (w32 (v1 - v2))], M)
    else
    if v0 = (-11) then
      some ([aI (w32 (v1 + v2))], M)
    else
      some ([aI (ior v1 v2)], M)) :=
  (aOm_fix (aSem d) K_law_joined 0 _ [] M).trans rfl
set_option maxRecDepth 20000 in
theorem u_law_clear (d : Nat) (a0 : Nat) (M : aM) : w_law_clear (d + 1) a0 M = (
    let M12 : aM := aUp M (a0 + 3) 2 0
    let M13 : aM := aUp M12 a0 3 0
    some ([], M13)) :=
  (aOm_fix (aSem d) K_law_clear 0 _ [] M).trans rfl
set_option maxRecDepth 20000 in
theorem u_law_copyFrom (d : Nat) (a0 : Nat) (a1 : Nat) (M : aM) : w_law_copyFrom (d + 1) a0 a1 M = (
    let M13 : aM := aUp M a0 3 (imax 0 (imin 400 (M a1 3)))
    if (0 : Int) ≤ (M13 a0 3) ∧ (0 : Int) ≤ 0 ∧ (0 : Int) ≤ 0 ∧ (0 + (M13 a0 3) : Int) ≤ aLen (a1 + 1) ∧ (0 + (M13 a0 3) : Int) ≤ aLen (a0 + 1) then
      let M14 : aM := aCpy M13 (a1 + 1) (a0 + 1) 0 0 (M13 a0 3).toNat
      bndV (w_rows_copyFrom d (a0 + 3) (a1 + 3) M14) fun M15 =>
      some ([], M15)
    else none) :=
  (aOm_fix (aSem d) K_law_copyFrom 0 _ [] M).trans rfl
set_option maxRecDepth 20000 in
theorem u_ord_howMany (d : Nat) (a1 : Nat) (M : aM) : w_ord_howMany (d + 1) a1 M = (
    bndV (w_ord_learn d a1 M) fun M13 =>
    bndI (w_ord_herdSize d a1 M13) fun y15 M14 =>
    bndI (w_ord_countUpTo d y15 M14) fun y17 M16 =>
    some ([aI y17], M16)) :=
  (aOm_fix (aSem d) K_ord_howMany 0 _ [] M).trans rfl
set_option maxRecDepth 20000 in
theorem u_ord_herdSize (d : Nat) (a0 : Nat) (M : aM) : w_ord_herdSize (d + 1) a0 M = (
    some ([aI (imax 0 (imin 10 (M (a0 + 1) 4)))], M)) :=
  (aOm_fix (aSem d) K_ord_herdSize 0 _ [] M).trans rfl
set_option maxRecDepth 20000 in
theorem u_ord_learn (d : Nat) (a1 : Nat) (M : aM) : w_ord_learn (d + 1) a1 M = (
    bndV (w_ja_fillI d 142 0 M) fun M13 =>
    w_ord_learn_10 d a1 0 M13) :=
  (aOm_fix (aSem d) K_ord_learn 0 _ [] M).trans rfl
set_option maxRecDepth 20000 in
theorem u_ord_learn_10 (d : Nat) (a1 : Nat) (v2 : Int) (M : aM) : w_ord_learn_10 d a1 v2 M = (
    if v2 < (M (a1 + 19) 2) then
      bndI (w_rows_cell d (a1 + 19) v2 0 M) fun y17 M16 =>
      bndI (w_rows_cell d (a1 + 19) v2 1 M16) fun y19 M18 =>
      bndI (w_wood_has d (a1 + 1) y17 M18) fun y21 M20 =>
      if y21 = 0 then
        let v22 : Int := w32 (v2 + 1)
        w_ord_learn_10 d a1 v22 M20
      else
        bndI (w_wood_has d (a1 + 1) y19 M20) fun y24 M23 =>
        if y24 = 0 then
          let v25 : Int := w32 (v2 + 1)
          w_ord_learn_10 d a1 v25 M23
        else
          inb y19 (aLen 142) <|
          inb y19 (aLen 142) <|
          let M26 : aM := aUp M23 142 y19.toNat (ior (M23 142 y19.toNat) (ishl 1 y17))
          let v27 : Int := w32 (v2 + 1)
          w_ord_learn_10 d a1 v27 M26
    else
      some ([], M)) :=
  (aOm_fix _ _ _ _ _ _).trans rfl
set_option maxRecDepth 20000 in
theorem u_ord_canFollow (d : Nat) (v1 : Int) (v2 : Int) (M : aM) : w_ord_canFollow (d + 1) v1 v2 M = (
    if (iand (ishr v1 v2) 1) = 0 then
      inb v2 (aLen 142) <|
      if (iand (M 142 v2.toNat) (ixor v1 (-1))) = 0 then
        some ([aI 1], M)
      else
        some ([aI 0], M)
    else
      some ([aI 0], M)) :=
  (aOm_fix (aSem d) K_ord_canFollow 0 _ [] M).trans rfl
set_option maxRecDepth 20000 in
theorem u_ord_countUpTo (d : Nat) (v1 : Int) (M : aM) : w_ord_countUpTo (d + 1) v1 M = (
    bndV (w_ja_fillI d 143 0 M) fun M13 =>
    let v14 : Int := (w32 ((ishl 1 v1) - 1))
    inb 0 (aLen 143) <|
    let M15 : aM := aUp M13 143 0 1
    w_ord_countUpTo_23 d v1 v14 0 M15) :=
  (aOm_fix (aSem d) K_ord_countUpTo 0 _ [] M).trans rfl
set_option maxRecDepth 20000 in
theorem u_ord_countUpTo_23 (d : Nat) (v1 : Int) (v2 : Int) (v3 : Int) (M : aM) : w_ord_countUpTo_23 d v1 v2 v3 M = (
    if v3 < v2 then
      w_ord_countUpTo_31 d v1 v2 v3 0 M
    else
      inb v2 (aLen 143) <|
      some ([aI (M 143 v2.toNat)], M)) :=
  (aOm_fix _ _ _ _ _ _).trans rfl
set_option maxRecDepth 20000 in
theorem u_ord_countUpTo_31 (d : Nat) (v1 : Int) (v2 : Int) (v3 : Int) (v4 : Int) (M : aM) : w_ord_countUpTo_31 d v1 v2 v3 v4 M = (
    if v4 < v1 then
      inb v3 (aLen 143) <|
      if (M 143 v3.toNat) = 0 then
        let v16 : Int := w32 (v3 + 1)
        w_ord_countUpTo_23 d v1 v2 v16 M
      else
        bndI (w_ord_canFollow d v3 v4 M) fun y18 M17 =>
        if y18 = 0 then
          let v19 : Int := w32 (v4 + 1)
          w_ord_countUpTo_31 d v1 v2 v3 v19 M17
        else
          inb (ior v3 (ishl 1 v4)) (aLen 143) <|
          inb v3 (aLen 143) <|
          inb (ior v3 (ishl 1 v4)) (aLen 143) <|
          let M20 : aM := aUp M17 143 (ior v3 (ishl 1 v4)).toNat (w32 ((M17 143 (ior v3 (ishl 1 v4)).toNat) + (M17 143 v3.toNat)))
          let v21 : Int := w32 (v4 + 1)
          w_ord_countUpTo_31 d v1 v2 v3 v21 M20
    else
      let v22 : Int := w32 (v3 + 1)
      w_ord_countUpTo_23 d v1 v2 v22 M) :=
  (aOm_fix _ _ _ _ _ _).trans rfl
set_option maxRecDepth 20000 in
theorem u_ord_countBehind (d : Nat) (v1 : Int) (M : aM) : w_ord_countBehind (d + 1) v1 M = (
    bndV (w_ja_fillI d 144 0 M) fun M13 =>
    let v14 : Int := (w32 ((ishl 1 v1) - 1))
    inb v14 (aLen 144) <|
    let M15 : aM := aUp M13 144 v14.toNat 1
    let v16 : Int := (w32 (v14 - 1))
    w_ord_countBehind_25 d v1 v16 M15) :=
  (aOm_fix (aSem d) K_ord_countBehind 0 _ [] M).trans rfl
set_option maxRecDepth 20000 in
theorem u_ord_countBehind_25 (d : Nat) (v1 : Int) (v3 : Int) (M : aM) : w_ord_countBehind_25 d v1 v3 M = (
    if v3 < 0 then
      some ([], M)
    else
      w_ord_countBehind_32 d v1 v3 0 M) :=
  (aOm_fix _ _ _ _ _ _).trans rfl
set_option maxRecDepth 20000 in
theorem u_ord_countBehind_32 (d : Nat) (v1 : Int) (v3 : Int) (v4 : Int) (M : aM) : w_ord_countBehind_32 d v1 v3 v4 M = (
    if v4 < v1 then
      inb v3 (aLen 143) <|
      if (M 143 v3.toNat) = 0 then
        let v16 : Int := w32 (v3 + (-1))
        w_ord_countBehind_25 d v1 v16 M
      else
        bndI (w_ord_canFollow d v3 v4 M) fun y18 M17 =>
        if y18 = 0 then
          let v19 : Int := w32 (v4 + 1)
          w_ord_countBehind_32 d v1 v3 v19 M17
        else
          inb v3 (aLen 144) <|
          inb (ior v3 (ishl 1 v4)) (aLen 144) <|
          inb v3 (aLen 144) <|
          let M20 : aM := aUp M17 144 v3.toNat (w32 ((M17 144 v3.toNat) + (M17 144 (ior v3 (ishl 1 v4)).toNat)))
          let v21 : Int := w32 (v4 + 1)
          w_ord_countBehind_32 d v1 v3 v21 M20
    else
      let v22 : Int := w32 (v3 + (-1))
      w_ord_countBehind_25 d v1 v22 M) :=
  (aOm_fix _ _ _ _ _ _).trans rfl
set_option maxRecDepth 20000 in
theorem u_ord_countCouples (d : Nat) (v1 : Int) (M : aM) : w_ord_countCouples (d + 1) v1 M = (
    bndV (w_ja_fillI d 145 0 M) fun M13 =>
    let v14 : Int := (w32 ((ishl 1 v1) - 1))
    w_ord_countCouples_16 d v1 v14 1 M13) :=
  (aOm_fix (aSem d) K_ord_countCouples 0 _ [] M).trans rfl
set_option maxRecDepth 20000 in
theorem u_ord_countCouples_16 (d : Nat) (v1 : Int) (v2 : Int) (v3 : Int) (M : aM) : w_ord_countCouples_16 d v1 v2 v3 M = (
    if v3 < v2 then
      w_ord_countCouples_24 d v1 v2 v3 0 M
    else
      some ([], M)) :=
  (aOm_fix _ _ _ _ _ _).trans rfl
set_option maxRecDepth 20000 in
theorem u_ord_countCouples_24 (d : Nat) (v1 : Int) (v2 : Int) (v3 : Int) (v4 : Int) (M : aM) : w_ord_countCouples_24 d v1 v2 v3 v4 M = (
    if v4 < v1 then
      inb v3 (aLen 143) <|
      if (M 143 v3.toNat) = 0 then
        let v18 : Int := w32 (v3 + 1)
        w_ord_countCouples_16 d v1 v2 v18 M
      else
        bndI (w_ord_canFollow d v3 v4 M) fun y20 M19 =>
        if y20 = 0 then
          w_ord_countCouples_76 d v1 v2 v3 v4 0 0 M19
        else
          inb v3 (aLen 143) <|
          inb (ior v3 (ishl 1 v4)) (aLen 144) <|
          let v21 : Int := (w32 ((M19 143 v3.toNat) * (M19 144 (ior v3 (ishl 1 v4)).toNat)))
          w_ord_countCouples_76 d v1 v2 v3 v4 v21 0 M19
    else
      let v22 : Int := w32 (v3 + 1)
      w_ord_countCouples_16 d v1 v2 v22 M) :=
  (aOm_fix _ _ _ _ _ _).trans rfl
set_option maxRecDepth 20000 in
theorem u_ord_countCouples_76 (d : Nat) (v1 : Int) (v2 : Int) (v3 : Int) (v4 : Int) (v5 : Int) (v6 : Int) (M : aM) : w_ord_countCouples_76 d v1 v2 v3 v4 v5 v6 M = (
    if v6 < v1 then
      if v5 = 0 then
        let v18 : Int := w32 (v4 + 1)
        w_ord_countCouples_24 d v1 v2 v3 v18 M
      else
        inb (w32 ((w32 (v6 * 10)) + v4)) (aLen 145) <|
        inb (w32 ((w32 (v6 * 10)) + v4)) (aLen 145) <|
        let M19 : aM := aUp M 145 (w32 ((w32 (v6 * 10)) + v4)).toNat (w32 ((M 145 (w32 ((w32 (v6 * 10)) + v4)).toNat) + (w32 (v5 * (iand (ishr v3 v6) 1)))))
        let v20 : Int := w32 (v6 + 1)
        w_ord_countCouples_76 d v1 v2 v3 v4 v5 v20 M19
    else
      let v21 : Int := w32 (v4 + 1)
      w_ord_countCouples_24 d v1 v2 v3 v21 M) :=
  (aOm_fix _ _ _ _ _ _).trans rfl
set_option maxRecDepth 20000 in
theorem u_ord_asks (d : Nat) (a1 : Nat) (v2 : Int) (M : aM) : w_ord_asks (d + 1) a1 v2 M = (
    bndI (w_ord_herdSize d a1 M) fun y15 M14 =>
    bndV (w_ord_learn d a1 M14) fun M16 =>
    bndI (w_ord_countUpTo d y15 M16) fun y18 M17 =>
    if y18 < 2 then
      some ([aI (-1)], M17)
    else
      bndV (w_ord_countBehind d y15 M17) fun M19 =>
      bndV (w_ord_countCouples d y15 M19) fun M20 =>
      w_ord_asks_40 d v2 y15 0 (-1) 0 M20) :=
  (aOm_fix (aSem d) K_ord_asks 0 _ [] M).trans rfl
set_option maxRecDepth 20000 in
theorem u_ord_asks_40 (d : Nat) (v2 : Int) (v3 : Int) (v4 : Int) (v5 : Int) (v6 : Int) (M : aM) : w_ord_asks_40 d v2 v3 v4 v5 v6 M = (
    if v6 < v3 then
      let v20 : Int := (w32 (v6 + 1))
      w_ord_asks_52 d v2 v3 v4 v5 v6 v20 M
    else
      if v5 = (-1) then
        some ([aI (-1)], M)
      else
        if v2 = 0 then
          some ([aI (irem v5 10)], M)
        else
          some ([aI (idiv v5 10)], M)) :=
  (aOm_fix _ _ _ _ _ _).trans rfl
set_option maxRecDepth 20000 in
theorem u_ord_asks_52 (d : Nat) (v2 : Int) (v3 : Int) (v4 : Int) (v5 : Int) (v6 : Int) (v7 : Int) (M : aM) : w_ord_asks_52 d v2 v3 v4 v5 v6 v7 M = (
    if v7 < v3 then
      inb (w32 ((w32 (v6 * 10)) + v7)) (aLen 145) <|
      inb (w32 ((w32 (v7 * 10)) + v6)) (aLen 145) <|
      let v20 : Int := (imax (M 145 (w32 ((w32 (v6 * 10)) + v7)).toNat) (M 145 (w32 ((w32 (v7 * 10)) + v6)).toNat))
      if v5 = (-1) then
        let v21 : Int := (w32 ((w32 (v6 * 10)) + v7))
        let v22 : Int := w32 (v7 + 1)
        w_ord_asks_52 d v2 v3 v20 v21 v6 v22 M
      else
        if v20 < v4 then
          let v23 : Int := (w32 ((w32 (v6 * 10)) + v7))
          let v24 : Int := w32 (v7 + 1)
          w_ord_asks_52 d v2 v3 v20 v23 v6 v24 M
        else
          let v25 : Int := w32 (v7 + 1)
          w_ord_asks_52 d v2 v3 v4 v5 v6 v25 M
    else
      let v26 : Int := w32 (v6 + 1)
      w_ord_asks_40 d v2 v3 v4 v5 v26 M) :=
  (aOm_fix _ _ _ _ _ _).trans rfl
set_option maxRecDepth 20000 in
theorem u_ord_placeOfFirst (d : Nat) (a1 : Nat) (v2 : Int) (M : aM) : w_ord_placeOfFirst (d + 1) a1 v2 M = (
    bndI (w_ord_herdSize d a1 M) fun y15 M14 =>
    bndV (w_ord_learn d a1 M14) fun M16 =>
    w_ord_placeOfFirst_19 d v2 y15 0 (-1) 0 M16) :=
  (aOm_fix (aSem d) K_ord_placeOfFirst 0 _ [] M).trans rfl
set_option maxRecDepth 20000 in
theorem u_ord_placeOfFirst_19 (d : Nat) (v2 : Int) (v3 : Int) (v4 : Int) (v5 : Int) (v6 : Int) (M : aM) : w_ord_placeOfFirst_19 d v2 v3 v4 v5 v6 M = (
    if v6 < v3 then
      bndI (w_ord_leastToFollow d v4 v3 M) fun y20 M19 =>
      if y20 = (-1) then
        some ([aI (-1)], M19)
      else
        let v21 : Int := (ior v4 (ishl 1 y20))
        if v6 = v2 then
          let v22 : Int := w32 (v6 + 1)
          w_ord_placeOfFirst_19 d v2 v3 v21 y20 v22 M19
        else
          let v23 : Int := w32 (v6 + 1)
          w_ord_placeOfFirst_19 d v2 v3 v21 v5 v23 M19
    else
      some ([aI v5], M)) :=
  (aOm_fix _ _ _ _ _ _).trans rfl
set_option maxRecDepth 20000 in
theorem u_ord_leastToFollow (d : Nat) (v1 : Int) (v2 : Int) (M : aM) : w_ord_leastToFollow (d + 1) v1 v2 M = (
    w_ord_leastToFollow_2 d v1 v2 0 M) :=
  (aOm_fix (aSem d) K_ord_leastToFollow 0 _ [] M).trans rfl
set_option maxRecDepth 20000 in
theorem u_ord_leastToFollow_2 (d : Nat) (v1 : Int) (v2 : Int) (v3 : Int) (M : aM) : w_ord_leastToFollow_2 d v1 v2 v3 M = (
    if v3 < v2 then
      bndI (w_ord_canFollow d v1 v3 M) fun y16 M15 =>
      if y16 = 0 then
        let v17 : Int := w32 (v3 + 1)
        w_ord_leastToFollow_2 d v1 v2 v17 M15
      else
        some ([aI v3], M15)
    else
      some ([aI (-1)], M)) :=
  (aOm_fix _ _ _ _ _ _).trans rfl
set_option maxRecDepth 20000 in
theorem u_rd_read (d : Nat) (v1 : Int) (v2 : Int) (M : aM) : w_rd_read (d + 1) v1 v2 M = (
    let M14 : aM := aUp M 132 2 0
    let M15 : aM := aUp M14 132 3 (-1)
    if v1 < 0 then
      some ([aI 0], M15)
    else
      if 3 < v1 then
        some ([aI 0], M15)
      else
        bndS (w_rd_wordsOf d v1 M15) fun s17 M16 =>
        bndV (w_tape_split d s17 M16) fun M18 =>
        let M19 : aM := aUp M18 132 9 (-1)
        bndV (w_rd_step d M19) fun M20 =>
        bndV (w_law_clear d 133 M20) fun M21 =>
        let M22 : aM := aUp M21 138 2 0
        if v1 = 3 then
          w_rd_read_72 d v1 v2 8 0 M22
        else
          w_rd_read_72 d v1 v2 16 0 M22) :=
  (aOm_fix (aSem d) K_rd_read 0 _ [] M).trans rfl
set_option maxRecDepth 20000 in
theorem u_rd_read_72 (d : Nat) (v1 : Int) (v2 : Int) (v3 : Int) (v4 : Int) (M : aM) : w_rd_read_72 d v1 v2 v3 v4 M = (
    if v3 < v4 then
      if (M 132 2) = 0 then
        some ([aI 1], M)
      else
        some ([aI 0], M)
    else
      if (M 132 2) = 0 then
        if (M 132 10) = 0 then
          if (M 132 2) = 0 then
            some ([aI 1], M)
          else
            some ([aI 0], M)
        else
          let v17 : Int := (w32 ((M 132 10) - 256))
          if v17 < 0 then
            bndV (w_rd_fail d 1 M) fun M18 =>
            w_rd_read_186 d v1 v2 v3 v4 M18
          else
            if v1 = 0 then
              if 2 < v17 then
                bndV (w_rd_fail d 1 M) fun M19 =>
                w_rd_read_186 d v1 v2 v3 v4 M19
              else
                if v4 < v3 then
                  if v1 = 0 then
                    bndV (w_rd_lawLine d v17 M) fun M20 =>
                    w_rd_read_186 d v1 v2 v3 v4 M20
                  else
                    if v1 = 1 then
                      bndV (w_rd_planLine d v2 M) fun M21 =>
                      w_rd_read_186 d v1 v2 v3 v4 M21
                    else
                      if v1 = 2 then
                        bndV (w_rd_dueLine d v2 M) fun M22 =>
                        w_rd_read_186 d v1 v2 v3 v4 M22
                      else
                        bndV (w_rd_feastLine d M) fun M23 =>
                        w_rd_read_186 d v1 v2 v3 v4 M23
                else
                  bndV (w_rd_fail d 3 M) fun M24 =>
                  w_rd_read_186 d v1 v2 v3 v4 M24
            else
              if 0 < v17 then
                bndV (w_rd_fail d 1 M) fun M25 =>
                w_rd_read_186 d v1 v2 v3 v4 M25
              else
                if v4 < v3 then
                  if v1 = 0 then
                    bndV (w_rd_lawLine d v17 M) fun M26 =>
                    w_rd_read_186 d v1 v2 v3 v4 M26
                  else
                    if v1 = 1 then
                      bndV (w_rd_planLine d v2 M) fun M27 =>
                      w_rd_read_186 d v1 v2 v3 v4 M27
                    else
                      if v1 = 2 then
                        bndV (w_rd_dueLine d v2 M) fun M28 =>
                        w_rd_read_186 d v1 v2 v3 v4 M28
                      else
                        bndV (w_rd_feastLine d M) fun M29 =>
                        w_rd_read_186 d v1 v2 v3 v4 M29
                else
                  bndV (w_rd_fail d 3 M) fun M30 =>
                  w_rd_read_186 d v1 v2 v3 v4 M30
      else
        if (M 132 2) = 0 then
          some ([aI 1], M)
        else
          some ([aI 0], M)) :=
  (aOm_fix _ _ _ _ _ _).trans rfl
set_option maxRecDepth 20000 in
theorem u_rd_read_186 (d : Nat) (v1 : Int) (v2 : Int) (v3 : Int) (v4 : Int) (M : aM) : w_rd_read_186 d v1 v2 v3 v4 M = (
    let v17 : Int := w32 (v4 + 1)
    w_rd_read_72 d v1 v2 v3 v17 M) :=
  (aOm_fix _ _ _ _ _ _).trans rfl
set_option maxRecDepth 20000 in
theorem u_rd_wordsOf (d : Nat) (v0 : Int) (M : aM) : w_rd_wordsOf (d + 1) v0 M = (
    if v0 = 0 then
      some ([aQ 24 0], M)
    else
    if v0 = 1 then
      some ([aQ 24 1], M)
    else
    if v0 = 2 then
      some ([aQ 24 2], M)
    else
      some ([aQ 24 3], M)) :=
  (aOm_fix (aSem d) K_rd_wordsOf 0 _ [] M).trans rfl
set_option maxRecDepth 20000 in
theorem u_rd_step (d : Nat)  (M : aM) : w_rd_step (d + 1)  M = (
    let M12 : aM := aUp M 132 9 (w32 ((M 132 9) + 1))
    if (M12 132 9) < 0 then
      w_rd_step_45 d M12
    else
      if (M12 132 9) < (M12 127 4) then
        if (M12 132 9) < 400 then
          if (1 : Int) = 0 then
            let M13 : aM := aUp M12 132 10 0
            if (1 : Int) = 0 then
              let M14 : aM := aUp M13 132 11 0
              if (1 : Int) = 0 then
                let M15 : aM := aUp M14 132 12 (M14 127 5)
                some ([], M15)
              else
                inb (M14 132 9) (aLen 131) <|
                let M16 : aM := aUp M14 132 12 (M14 131 (M14 132 9).toNat)
                some ([], M16)
            else
              inb (M13 132 9) (aLen 130) <|
              let M17 : aM := aUp M13 132 11 (M13 130 (M13 132 9).toNat)
              if (1 : Int) = 0 then
                let M18 : aM := aUp M17 132 12 (M17 127 5)
                some ([], M18)
              else
                inb (M17 132 9) (aLen 131) <|
                let M19 : aM := aUp M17 132 12 (M17 131 (M17 132 9).toNat)
                some ([], M19)
          else
            inb (M12 132 9) (aLen 129) <|
            let M20 : aM := aUp M12 132 10 (M12 129 (M12 132 9).toNat)
            if (1 : Int) = 0 then
              let M21 : aM := aUp M20 132 11 0
              if (1 : Int) = 0 then
                let M22 : aM := aUp M21 132 12 (M21 127 5)
                some ([], M22)
              else
                inb (M21 132 9) (aLen 131) <|
                let M23 : aM := aUp M21 132 12 (M21 131 (M21 132 9).toNat)
                some ([], M23)
            else
              inb (M20 132 9) (aLen 130) <|
              let M24 : aM := aUp M20 132 11 (M20 130 (M20 132 9).toNat)
              if (1 : Int) = 0 then
                let M25 : aM := aUp M24 132 12 (M24 127 5)
                some ([], M25)
              else
                inb (M24 132 9) (aLen 131) <|
                let M26 : aM := aUp M24 132 12 (M24 131 (M24 132 9).toNat)
                some ([], M26)
        else
          w_rd_step_45 d M12
      else
        w_rd_step_45 d M12) :=
  (aOm_fix (aSem d) K_rd_step 0 _ [] M).trans rfl
set_option maxRecDepth 20000 in
theorem u_rd_step_45 (d : Nat)  (M : aM) : w_rd_step_45 d  M = (
    if (0 : Int) = 0 then
      let M13 : aM := aUp M 132 10 0
      if (0 : Int) = 0 then
        let M14 : aM := aUp M13 132 11 0
        if (0 : Int) = 0 then
          let M15 : aM := aUp M14 132 12 (M14 127 5)
          some ([], M15)
        else
          inb (M14 132 9) (aLen 131) <|
          let M16 : aM := aUp M14 132 12 (M14 131 (M14 132 9).toNat)
          some ([], M16)
      else
        inb (M13 132 9) (aLen 130) <|
        let M17 : aM := aUp M13 132 11 (M13 130 (M13 132 9).toNat)
        if (0 : Int) = 0 then
          let M18 : aM := aUp M17 132 12 (M17 127 5)
          some ([], M18)
        else
          inb (M17 132 9) (aLen 131) <|
          let M19 : aM := aUp M17 132 12 (M17 131 (M17 132 9).toNat)
          some ([], M19)
    else
      inb (M 132 9) (aLen 129) <|
      let M20 : aM := aUp M 132 10 (M 129 (M 132 9).toNat)
      if (0 : Int) = 0 then
        let M21 : aM := aUp M20 132 11 0
        if (0 : Int) = 0 then
          let M22 : aM := aUp M21 132 12 (M21 127 5)
          some ([], M22)
        else
          inb (M21 132 9) (aLen 131) <|
          let M23 : aM := aUp M21 132 12 (M21 131 (M21 132 9).toNat)
          some ([], M23)
      else
        inb (M20 132 9) (aLen 130) <|
        let M24 : aM := aUp M20 132 11 (M20 130 (M20 132 9).toNat)
        if (0 : Int) = 0 then
          let M25 : aM := aUp M24 132 12 (M24 127 5)
          some ([], M25)
        else
          inb (M24 132 9) (aLen 131) <|
          let M26 : aM := aUp M24 132 12 (M24 131 (M24 132 9).toNat)
          some ([], M26)) :=
  (aOm_fix _ _ _ _ _ _).trans rfl
set_option maxRecDepth 20000 in
theorem u_rd_fail (d : Nat) (v1 : Int) (M : aM) : w_rd_fail (d + 1) v1 M = (
    if (M 132 2) = 0 then
      let M13 : aM := aUp M 132 2 v1
      let M14 : aM := aUp M13 132 3 (M13 132 12)
      some ([], M14)
    else
      some ([], M)) :=
  (aOm_fix (aSem d) K_rd_fail 0 _ [] M).trans rfl
set_option maxRecDepth 20000 in
theorem u_rd_take (d : Nat) (v1 : Int) (M : aM) : w_rd_take (d + 1) v1 M = (
    if (M 132 10) = v1 then
      bndV (w_rd_step d M) fun M13 =>
      some ([], M13)
    else
      bndV (w_rd_fail d 1 M) fun M14 =>
      some ([], M14)) :=
  (aOm_fix (aSem d) K_rd_take 0 _ [] M).trans rfl
set_option maxRecDepth 20000 in
theorem u_rd_takeNumber (d : Nat) (v1 : Int) (v2 : Int) (M : aM) : w_rd_takeNumber (d + 1) v1 v2 M = (
    let v14 : Int := (M 132 11)
    if (M 132 10) = 1 then
      if v14 < v1 then
        bndV (w_rd_fail d 2 M) fun M15 =>
        some ([aI v14], M15)
      else
        if v2 < v14 then
          bndV (w_rd_fail d 2 M) fun M16 =>
          some ([aI v14], M16)
        else
          bndV (w_rd_step d M) fun M17 =>
          some ([aI v14], M17)
    else
      bndV (w_rd_fail d 1 M) fun M18 =>
      some ([aI v14], M18)) :=
  (aOm_fix (aSem d) K_rd_takeNumber 0 _ [] M).trans rfl
set_option maxRecDepth 20000 in
theorem u_rd_planLine (d : Nat) (v1 : Int) (M : aM) : w_rd_planLine (d + 1) v1 M = (
    bndV (w_rd_step d M) fun M13 =>
    bndI (w_rd_takeNumber d 0 999 M13) fun y15 M14 =>
    let v16 : Int := (w32 ((M14 132 10) - 256))
    if (M14 132 2) = 0 then
      if v16 < 1 then
        bndV (w_rd_fail d 1 M14) fun M17 =>
        w_rd_planLine_47 d v1 y15 v16 0 M17
      else
        if 5 < v16 then
          bndV (w_rd_fail d 1 M14) fun M18 =>
          w_rd_planLine_47 d v1 y15 v16 0 M18
        else
          w_rd_planLine_47 d v1 y15 v16 0 M14
    else
      w_rd_planLine_47 d v1 y15 v16 0 M14) :=
  (aOm_fix (aSem d) K_rd_planLine 0 _ [] M).trans rfl
set_option maxRecDepth 20000 in
theorem u_rd_planLine_47 (d : Nat) (v1 : Int) (v2 : Int) (v3 : Int) (v4 : Int) (M : aM) : w_rd_planLine_47 d v1 v2 v3 v4 M = (
    if (M 132 2) = 0 then
      bndV (w_rd_step d M) fun M16 =>
      if v3 = 1 then
        bndI (w_rd_takeNumber d 0 99 M16) fun y18 M17 =>
        w_rd_planLine_96 d v2 v3 y18 M17
      else
        if v3 = 2 then
          bndI (w_rd_takeNumber d 0 99 M16) fun y20 M19 =>
          w_rd_planLine_96 d v2 v3 y20 M19
        else
          if v3 = 3 then
            w_rd_planLine_96 d v2 v3 v4 M16
          else
            bndI (w_rd_takeNumber d 0 (w32 (v1 - 1)) M16) fun y22 M21 =>
            w_rd_planLine_96 d v2 v3 y22 M21
    else
      some ([], M)) :=
  (aOm_fix _ _ _ _ _ _).trans rfl
set_option maxRecDepth 20000 in
theorem u_rd_planLine_96 (d : Nat) (v2 : Int) (v3 : Int) (v4 : Int) (M : aM) : w_rd_planLine_96 d v2 v3 v4 M = (
    bndV (w_rd_take d 59 M) fun M16 =>
    bndI (w_rows_put d 138 v2 v3 v4 0 M16) fun y18 M17 =>
    some ([], M17)) :=
  (aOm_fix _ _ _ _ _ _).trans rfl
set_option maxRecDepth 20000 in
theorem u_rd_dueLine (d : Nat) (v1 : Int) (M : aM) : w_rd_dueLine (d + 1) v1 M = (
    bndV (w_rd_step d M) fun M13 =>
    bndI (w_rd_takeNumber d 1 999 M13) fun y15 M14 =>
    bndV (w_rd_take d 257 M14) fun M16 =>
    bndI (w_rd_takeNumber d 0 (w32 (v1 - 1)) M16) fun y18 M17 =>
    if (M17 132 2) = 0 then
      if (M17 132 10) = 258 then
        bndV (w_rd_step d M17) fun M19 =>
        bndI (w_rd_takeNumber d 0 999 M19) fun y21 M20 =>
        bndV (w_rd_take d 59 M20) fun M22 =>
        bndI (w_rows_put d 138 y15 y18 y21 0 M22) fun y24 M23 =>
        some ([], M23)
      else
        bndV (w_rd_take d 59 M17) fun M25 =>
        bndI (w_rows_put d 138 y15 y18 (-1) 0 M25) fun y27 M26 =>
        some ([], M26)
    else
      bndV (w_rd_take d 59 M17) fun M28 =>
      bndI (w_rows_put d 138 y15 y18 (-1) 0 M28) fun y30 M29 =>
      some ([], M29)) :=
  (aOm_fix (aSem d) K_rd_dueLine 0 _ [] M).trans rfl
set_option maxRecDepth 20000 in
theorem u_rd_feastLine (d : Nat)  (M : aM) : w_rd_feastLine (d + 1)  M = (
    bndV (w_rd_step d M) fun M12 =>
    bndI (w_rd_takeNumber d 0 30 M12) fun y14 M13 =>
    bndV (w_rd_take d 257 M13) fun M15 =>
    bndI (w_rd_takeNumber d 0 9 M15) fun y17 M16 =>
    bndV (w_rd_take d 59 M16) fun M18 =>
    bndI (w_rows_put d 138 y14 y17 0 0 M18) fun y20 M19 =>
    some ([], M19)) :=
  (aOm_fix (aSem d) K_rd_feastLine 0 _ [] M).trans rfl
set_option maxRecDepth 20000 in
theorem u_rd_lawLine (d : Nat) (v1 : Int) (M : aM) : w_rd_lawLine (d + 1) v1 M = (
    bndV (w_rd_step d M) fun M13 =>
    let v14 : Int := (M13 133 3)
    bndV (w_rd_expression d M13) fun M15 =>
    let v16 : Int := (M15 133 3)
    if (M15 132 2) = 0 then
      if (M15 132 10) = 259 then
        bndV (w_rd_step d M15) fun M17 =>
        bndV (w_rd_condition d M17) fun M18 =>
        w_rd_lawLine_49 d v1 v14 v16 M18
      else
        w_rd_lawLine_49 d v1 v14 v16 M15
    else
      w_rd_lawLine_49 d v1 v14 v16 M15) :=
  (aOm_fix (aSem d) K_rd_lawLine 0 _ [] M).trans rfl
set_option maxRecDepth 20000 in
theorem u_rd_lawLine_49 (d : Nat) (v1 : Int) (v2 : Int) (v3 : Int) (M : aM) : w_rd_lawLine_49 d v1 v2 v3 M = (
    if (M 132 2) = 0 then
      bndV (w_rd_take d 59 M) fun M15 =>
      bndI (w_rows_put d 136 v1 v2 v3 (M15 133 3) M15) fun y17 M16 =>
      some ([], M16)
    else
      bndI (w_rows_put d 136 v1 v2 v3 (M 133 3) M) fun y19 M18 =>
      some ([], M18)) :=
  (aOm_fix _ _ _ _ _ _).trans rfl
set_option maxRecDepth 20000 in
theorem u_rd_expression (d : Nat)  (M : aM) : w_rd_expression (d + 1)  M = (
    bndV (w_rd_operand d M) fun M12 =>
    w_rd_expression_8 d 0 0 M12) :=
  (aOm_fix (aSem d) K_rd_expression 0 _ [] M).trans rfl
set_option maxRecDepth 20000 in
theorem u_rd_expression_8 (d : Nat) (v1 : Int) (v2 : Int) (M : aM) : w_rd_expression_8 d v1 v2 M = (
    if v2 < 400 then
      if (M 132 2) = 0 then
        let v15 : Int := (M 132 10)
        if v15 = 42 then
          bndV (w_rd_step d M) fun M16 =>
          bndV (w_rd_operand d M16) fun M17 =>
          bndV (w_law_emit d 133 (-13) M17) fun M18 =>
          let v19 : Int := w32 (v2 + 1)
          w_rd_expression_8 d v1 v19 M18
        else
          if v15 = 47 then
            bndV (w_rd_step d M) fun M20 =>
            bndI (w_rd_takeNumber d 1 9999 M20) fun y22 M21 =>
            bndV (w_law_emit d 133 y22 M21) fun M23 =>
            bndV (w_law_emit d 133 (-14) M23) fun M24 =>
            let v25 : Int := w32 (v2 + 1)
            w_rd_expression_8 d v1 v25 M24
          else
            if v1 = 0 then
              if v15 = 43 then
                w_rd_expression_115 d v2 v15 M
              else
                if v15 = 45 then
                  w_rd_expression_115 d v2 v15 M
                else
                  some ([], M)
            else
              bndV (w_law_emit d 133 v1 M) fun M26 =>
              if v15 = 43 then
                w_rd_expression_115 d v2 v15 M26
              else
                if v15 = 45 then
                  w_rd_expression_115 d v2 v15 M26
                else
                  some ([], M26)
      else
        some ([], M)
    else
      some ([], M)) :=
  (aOm_fix _ _ _ _ _ _).trans rfl
set_option maxRecDepth 20000 in
theorem u_rd_expression_115 (d : Nat) (v2 : Int) (v3 : Int) (M : aM) : w_rd_expression_115 d v2 v3 M = (
    if v3 = 43 then
      bndV (w_rd_step d M) fun M15 =>
      bndV (w_rd_operand d M15) fun M16 =>
      let v17 : Int := w32 (v2 + 1)
      w_rd_expression_8 d (-11) v17 M16
    else
      bndV (w_rd_step d M) fun M18 =>
      bndV (w_rd_operand d M18) fun M19 =>
      let v20 : Int := w32 (v2 + 1)
      w_rd_expression_8 d (-12) v20 M19) :=
  (aOm_fix _ _ _ _ _ _).trans rfl
set_option maxRecDepth 20000 in
theorem u_rd_operand (d : Nat)  (M : aM) : w_rd_operand (d + 1)  M = (
    let v12 : Int := (w32 ((M 132 10) - 263))
    if (M 132 10) = 1 then
      bndV (w_law_emit d 133 (M 132 11) M) fun M13 =>
      bndV (w_rd_step d M13) fun M14 =>
      some ([], M14)
    else
      if v12 < 0 then
        bndV (w_rd_fail d 1 M) fun M15 =>
        some ([], M15)
      else
        if v12 < 10 then
          bndV (w_law_emit d 133 (w32 ((-1) - v12)) M) fun M16 =>
          bndV (w_rd_step d M16) fun M17 =>
          some ([], M17)
        else
          bndV (w_rd_fail d 1 M) fun M18 =>
          some ([], M18)) :=
  (aOm_fix (aSem d) K_rd_operand 0 _ [] M).trans rfl
set_option maxRecDepth 20000 in
theorem u_rd_condition (d : Nat)  (M : aM) : w_rd_condition (d + 1)  M = (
    let M12 : aM := aUp M 132 6 0
    let M13 : aM := aUp M12 132 7 0
    let M14 : aM := aUp M13 132 8 0
    w_rd_condition_19 d 1 0 M14) :=
  (aOm_fix (aSem d) K_rd_condition 0 _ [] M).trans rfl
set_option maxRecDepth 20000 in
theorem u_rd_condition_19 (d : Nat) (v1 : Int) (v2 : Int) (M : aM) : w_rd_condition_19 d v1 v2 M = (
    if 400 < v2 then
      some ([], M)
    else
      if v1 = 0 then
        some ([], M)
      else
        if (M 132 2) = 0 then
          let v15 : Int := (M 132 10)
          if v15 = 40 then
            bndV (w_rd_openOne d v15 M) fun M16 =>
            let v17 : Int := w32 (v2 + 1)
            w_rd_condition_19 d v1 v17 M16
          else
            if v15 = 262 then
              bndV (w_rd_openOne d v15 M) fun M18 =>
              let v19 : Int := w32 (v2 + 1)
              w_rd_condition_19 d v1 v19 M18
            else
              bndV (w_rd_comparison d M) fun M20 =>
              if (M20 132 2) = 0 then
                bndI (w_rd_goOnBehind d M20) fun y22 M21 =>
                if y22 = 0 then
                  let v23 : Int := w32 (v2 + 1)
                  w_rd_condition_19 d 0 v23 M21
                else
                  let v24 : Int := w32 (v2 + 1)
                  w_rd_condition_19 d 1 v24 M21
              else
                let v25 : Int := w32 (v2 + 1)
                w_rd_condition_19 d 0 v25 M20
        else
          some ([], M)) :=
  (aOm_fix _ _ _ _ _ _).trans rfl
set_option maxRecDepth 20000 in
theorem u_rd_openOne (d : Nat) (v1 : Int) (M : aM) : w_rd_openOne (d + 1) v1 M = (
    if (M 132 8) < 8 then
      let M13 : aM := aUp M 132 8 (w32 ((M 132 8) + 1))
      if v1 = 40 then
        let M14 : aM := aUp M13 132 7 (w32 ((M13 132 7) + 1))
        bndV (w_rd_hold d v1 M14) fun M15 =>
        bndV (w_rd_step d M15) fun M16 =>
        some ([], M16)
      else
        bndV (w_rd_hold d v1 M13) fun M17 =>
        bndV (w_rd_step d M17) fun M18 =>
        some ([], M18)
    else
      bndV (w_rd_fail d 3 M) fun M19 =>
      some ([], M19)) :=
  (aOm_fix (aSem d) K_rd_openOne 0 _ [] M).trans rfl
set_option maxRecDepth 20000 in
theorem u_rd_comparison (d : Nat)  (M : aM) : w_rd_comparison (d + 1)  M = (
    bndV (w_rd_expression d M) fun M12 =>
    let v13 : Int := (M12 132 10)
    if (M12 132 2) = 0 then
      if v13 = 60 then
        w_rd_comparison_39 d v13 M12
      else
        if v13 = 61 then
          w_rd_comparison_39 d v13 M12
        else
          if v13 = 62 then
            w_rd_comparison_39 d v13 M12
          else
            bndV (w_rd_fail d 1 M12) fun M14 =>
            w_rd_comparison_39 d v13 M14
    else
      w_rd_comparison_39 d v13 M12) :=
  (aOm_fix (aSem d) K_rd_comparison 0 _ [] M).trans rfl
set_option maxRecDepth 20000 in
theorem u_rd_comparison_39 (d : Nat) (v1 : Int) (M : aM) : w_rd_comparison_39 d v1 M = (
    if (M 132 2) = 0 then
      bndV (w_rd_step d M) fun M13 =>
      bndV (w_rd_expression d M13) fun M14 =>
      if v1 = 60 then
        bndV (w_law_emit d 133 (-15) M14) fun M15 =>
        some ([], M15)
      else
        if v1 = 61 then
          bndV (w_law_emit d 133 (-16) M14) fun M16 =>
          some ([], M16)
        else
          bndV (w_law_emit d 133 (-17) M14) fun M17 =>
          some ([], M17)
    else
      some ([], M)) :=
  (aOm_fix _ _ _ _ _ _).trans rfl
set_option maxRecDepth 20000 in
theorem u_rd_goOnBehind (d : Nat)  (M : aM) : w_rd_goOnBehind (d + 1)  M = (
    bndV (w_rd_closeNots d M) fun M12 =>
    w_rd_goOnBehind_6 d 0 M12) :=
  (aOm_fix (aSem d) K_rd_goOnBehind 0 _ [] M).trans rfl
set_option maxRecDepth 20000 in
theorem u_rd_goOnBehind_6 (d : Nat) (v1 : Int) (M : aM) : w_rd_goOnBehind_6 d v1 M = (
    if v1 < 8 then
      if 0 < (M 132 7) then
        if (M 132 10) = 41 then
          bndV (w_rd_joinDownTo d 260 M) fun M13 =>
          let M14 : aM := aUp M13 132 6 (w32 ((M13 132 6) - 1))
          let M15 : aM := aUp M14 132 7 (w32 ((M14 132 7) - 1))
          let M16 : aM := aUp M15 132 8 (w32 ((M15 132 8) - 1))
          bndV (w_rd_step d M16) fun M17 =>
          bndV (w_rd_closeNots d M17) fun M18 =>
          let v19 : Int := w32 (v1 + 1)
          w_rd_goOnBehind_6 d v19 M18
        else
          w_rd_goOnBehind_79 d M
      else
        w_rd_goOnBehind_79 d M
    else
      w_rd_goOnBehind_79 d M) :=
  (aOm_fix _ _ _ _ _ _).trans rfl
set_option maxRecDepth 20000 in
theorem u_rd_goOnBehind_79 (d : Nat)  (M : aM) : w_rd_goOnBehind_79 d  M = (
    let v13 : Int := (M 132 10)
    if v13 = 261 then
      bndV (w_rd_joinDownTo d v13 M) fun M14 =>
      bndV (w_rd_hold d v13 M14) fun M15 =>
      bndV (w_rd_step d M15) fun M16 =>
      some ([aI 1], M16)
    else
      if v13 = 260 then
        bndV (w_rd_joinDownTo d v13 M) fun M17 =>
        bndV (w_rd_hold d v13 M17) fun M18 =>
        bndV (w_rd_step d M18) fun M19 =>
        some ([aI 1], M19)
      else
        if 0 < (M 132 7) then
          bndV (w_rd_fail d 1 M) fun M20 =>
          some ([aI 0], M20)
        else
          bndV (w_rd_joinDownTo d 260 M) fun M21 =>
          some ([aI 0], M21)) :=
  (aOm_fix _ _ _ _ _ _).trans rfl
set_option maxRecDepth 20000 in
theorem u_rd_hold (d : Nat) (v1 : Int) (M : aM) : w_rd_hold (d + 1) v1 M = (
    if (M 132 6) < 0 then
      some ([], M)
    else
      if (M 132 6) < 32 then
        inb (M 132 6) (aLen 140) <|
        let M13 : aM := aUp M 140 (M 132 6).toNat v1
        let M14 : aM := aUp M13 132 6 (w32 ((M13 132 6) + 1))
        some ([], M14)
      else
        some ([], M)) :=
  (aOm_fix (aSem d) K_rd_hold 0 _ [] M).trans rfl
set_option maxRecDepth 20000 in
theorem u_rd_lastWaiting (d : Nat)  (M : aM) : w_rd_lastWaiting (d + 1)  M = (
    if 0 < (M 132 6) then
      if 32 < (M 132 6) then
        some ([aI 0], M)
      else
        inb (w32 ((M 132 6) - 1)) (aLen 140) <|
        some ([aI (M 140 (w32 ((M 132 6) - 1)).toNat)], M)
    else
      some ([aI 0], M)) :=
  (aOm_fix (aSem d) K_rd_lastWaiting 0 _ [] M).trans rfl
set_option maxRecDepth 20000 in
theorem u_rd_closeNots (d : Nat)  (M : aM) : w_rd_closeNots (d + 1)  M = (
    if 0 < (M 132 6) then
      bndI (w_rd_lastWaiting d M) fun y13 M12 =>
      if y13 = 262 then
        bndV (w_law_emit d 133 (-18) M12) fun M14 =>
        let M15 : aM := aUp M14 132 6 (w32 ((M14 132 6) - 1))
        let M16 : aM := aUp M15 132 8 (w32 ((M15 132 8) - 1))
        w_rd_closeNots_0 d M16
      else
        some ([], M12)
    else
      some ([], M)) :=
  (aOm_fix (aSem d) K_rd_closeNots 0 _ [] M).trans rfl
set_option maxRecDepth 20000 in
theorem u_rd_closeNots_0 (d : Nat)  (M : aM) : w_rd_closeNots_0 d  M = (
    if 0 < (M 132 6) then
      bndI (w_rd_lastWaiting d M) fun y13 M12 =>
      if y13 = 262 then
        bndV (w_law_emit d 133 (-18) M12) fun M14 =>
        let M15 : aM := aUp M14 132 6 (w32 ((M14 132 6) - 1))
        let M16 : aM := aUp M15 132 8 (w32 ((M15 132 8) - 1))
        w_rd_closeNots_0 d M16
      else
        some ([], M12)
    else
      some ([], M)) :=
  (aOm_fix _ _ _ _ _ _).trans rfl
set_option maxRecDepth 20000 in
theorem u_rd_joinDownTo (d : Nat) (v1 : Int) (M : aM) : w_rd_joinDownTo (d + 1) v1 M = (
    if 0 < (M 132 6) then
      bndI (w_rd_lastWaiting d M) fun y14 M13 =>
      if y14 = 261 then
        w_rd_joinDownTo_34 d v1 M13
      else
        bndI (w_rd_lastWaiting d M13) fun y16 M15 =>
        if y16 = 260 then
          if v1 = 260 then
            w_rd_joinDownTo_34 d v1 M15
          else
            some ([], M15)
        else
          some ([], M15)
    else
      some ([], M)) :=
  (aOm_fix (aSem d) K_rd_joinDownTo 0 _ [] M).trans rfl
set_option maxRecDepth 20000 in
theorem u_rd_joinDownTo_34 (d : Nat) (v1 : Int) (M : aM) : w_rd_joinDownTo_34 d v1 M = (
    bndI (w_rd_lastWaiting d M) fun y14 M13 =>
    if y14 = 261 then
      bndV (w_law_emit d 133 (-19) M13) fun M15 =>
      let M16 : aM := aUp M15 132 6 (w32 ((M15 132 6) - 1))
      w_rd_joinDownTo_0 d v1 M16
    else
      bndV (w_law_emit d 133 (-20) M13) fun M17 =>
      let M18 : aM := aUp M17 132 6 (w32 ((M17 132 6) - 1))
      w_rd_joinDownTo_0 d v1 M18) :=
  (aOm_fix _ _ _ _ _ _).trans rfl
set_option maxRecDepth 20000 in
theorem u_rd_joinDownTo_0 (d : Nat) (v1 : Int) (M : aM) : w_rd_joinDownTo_0 d v1 M = (
    if 0 < (M 132 6) then
      bndI (w_rd_lastWaiting d M) fun y14 M13 =>
      if y14 = 261 then
        w_rd_joinDownTo_34 d v1 M13
      else
        bndI (w_rd_lastWaiting d M13) fun y16 M15 =>
        if y16 = 260 then
          if v1 = 260 then
            w_rd_joinDownTo_34 d v1 M15
          else
            some ([], M15)
        else
          some ([], M15)
    else
      some ([], M)) :=
  (aOm_fix _ _ _ _ _ _).trans rfl
set_option maxRecDepth 20000 in
theorem u_rows_has (d : Nat) (a0 : Nat) (v1 : Int) (M : aM) : w_rows_has (d + 1) a0 v1 M = (
    if v1 < 0 then
      some ([aI 0], M)
    else
      if v1 < (M a0 2) then
        some ([aI 1], M)
      else
        some ([aI 0], M)) :=
  (aOm_fix (aSem d) K_rows_has 0 _ [] M).trans rfl
set_option maxRecDepth 20000 in
theorem u_rows_cell (d : Nat) (a0 : Nat) (v1 : Int) (v2 : Int) (M : aM) : w_rows_cell (d + 1) a0 v1 v2 M = (
    let v14 : Int := (w32 ((w32 (v1 * 4)) + v2))
    bndI (w_rows_has d a0 v1 M) fun y16 M15 =>
    if y16 = 0 then
      some ([aI 0], M15)
    else
      if v2 < 0 then
        some ([aI 0], M15)
      else
        if v2 < 4 then
          if v14 < ((aLen (a0 + 1) : Nat) : Int) then
            inb v14 (aLen (a0 + 1)) <|
            some ([aI (M15 (a0 + 1) v14.toNat)], M15)
          else
            some ([aI 0], M15)
        else
          some ([aI 0], M15)) :=
  (aOm_fix (aSem d) K_rows_cell 0 _ [] M).trans rfl
set_option maxRecDepth 20000 in
theorem u_rows_put (d : Nat) (a0 : Nat) (v1 : Int) (v2 : Int) (v3 : Int) (v4 : Int) (M : aM) : w_rows_put (d + 1) a0 v1 v2 v3 v4 M = (
    let v16 : Int := (w32 ((M a0 2) * 4))
    if (M a0 2) < (M a0 0) then
      if v16 < 0 then
        some ([aI 0], M)
      else
        if (w32 (v16 + 3)) < ((aLen (a0 + 1) : Nat) : Int) then
          inb v16 (aLen (a0 + 1)) <|
          let M17 : aM := aUp M (a0 + 1) v16.toNat v1
          inb (w32 (v16 + 1)) (aLen (a0 + 1)) <|
          let M18 : aM := aUp M17 (a0 + 1) (w32 (v16 + 1)).toNat v2
          inb (w32 (v16 + 2)) (aLen (a0 + 1)) <|
          let M19 : aM := aUp M18 (a0 + 1) (w32 (v16 + 2)).toNat v3
          inb (w32 (v16 + 3)) (aLen (a0 + 1)) <|
          let M20 : aM := aUp M19 (a0 + 1) (w32 (v16 + 3)).toNat v4
          let M21 : aM := aUp M20 a0 2 (w32 ((M20 a0 2) + 1))
          some ([aI 1], M21)
        else
          some ([aI 0], M)
    else
      some ([aI 0], M)) :=
  (aOm_fix (aSem d) K_rows_put 0 _ [] M).trans rfl
set_option maxRecDepth 20000 in
theorem u_rows_tell (d : Nat) (a0 : Nat) (v1 : Int) (v2 : Int) (v3 : Int) (M : aM) : w_rows_tell (d + 1) a0 v1 v2 v3 M = (
    if v1 = (-1) then
      let M15 : aM := aUp M a0 2 0
      some ([aI 0], M15)
    else
      if v3 = 0 then
        some ([aI (-1)], M)
      else
        bndI (w_rows_put d a0 v1 v2 0 0 M) fun y17 M16 =>
        if y17 = 0 then
          some ([aI (-1)], M16)
        else
          some ([aI (M16 a0 2)], M16)) :=
  (aOm_fix (aSem d) K_rows_tell 0 _ [] M).trans rfl
set_option maxRecDepth 20000 in
theorem u_rows_copyFrom (d : Nat) (a0 : Nat) (a1 : Nat) (M : aM) : w_rows_copyFrom (d + 1) a0 a1 M = (
    let M13 : aM := aUp M a0 2 (imin (M a1 2) (M a0 0))
    let v14 : Int := (imin (w32 ((M13 a0 2) * 4)) (imin ((aLen (a0 + 1) : Nat) : Int) ((aLen (a1 + 1) : Nat) : Int)))
    if (0 : Int) ≤ v14 ∧ (0 : Int) ≤ 0 ∧ (0 : Int) ≤ 0 ∧ (0 + v14 : Int) ≤ aLen (a1 + 1) ∧ (0 + v14 : Int) ≤ aLen (a0 + 1) then
      let M15 : aM := aCpy M13 (a1 + 1) (a0 + 1) 0 0 v14.toNat
      some ([], M15)
    else none) :=
  (aOm_fix (aSem d) K_rows_copyFrom 0 _ [] M).trans rfl
set_option maxRecDepth 20000 in
theorem u_tape_append (d : Nat) (v1 : Int) (M : aM) : w_tape_append (d + 1) v1 M = (
    w_tape_append_3 d v1 24 M) :=
  (aOm_fix (aSem d) K_tape_append 0 _ [] M).trans rfl
set_option maxRecDepth 20000 in
theorem u_tape_append_3 (d : Nat) (v1 : Int) (v2 : Int) (M : aM) : w_tape_append_3 d v1 v2 M = (
    if v2 < 0 then
      some ([], M)
    else
      if (M 127 5) < 0 then
        let v14 : Int := w32 (v2 + (-8))
        w_tape_append_3 d v1 v14 M
      else
        if (M 127 5) < 400 then
          inb (M 127 5) (aLen 128) <|
          let M15 : aM := aUp M 128 (M 127 5).toNat (iand (iushr v1 v2) 255)
          let M16 : aM := aUp M15 127 5 (w32 ((M15 127 5) + 1))
          let v17 : Int := w32 (v2 + (-8))
          w_tape_append_3 d v1 v17 M16
        else
          let v18 : Int := w32 (v2 + (-8))
          w_tape_append_3 d v1 v18 M) :=
  (aOm_fix _ _ _ _ _ _).trans rfl
set_option maxRecDepth 20000 in
theorem u_tape_split (d : Nat) (a1 : Nat) (M : aM) : w_tape_split (d + 1) a1 M = (
    let M13 : aM := aUp M 127 4 0
    w_tape_split_9 d a1 0 0 M13) :=
  (aOm_fix (aSem d) K_tape_split 0 _ [] M).trans rfl
set_option maxRecDepth 20000 in
theorem u_tape_split_9 (d : Nat) (a1 : Nat) (v2 : Int) (v3 : Int) (M : aM) : w_tape_split_9 d a1 v2 v3 M = (
    if v3 < 400 then
      if v2 < (M 127 5) then
        bndI (w_tape_byteAt d v2 M) fun y18 M17 =>
        let v19 : Int := (w32 (v2 + 1))
        bndI (w_tape_isLetter d y18 M17) fun y21 M20 =>
        if y21 = 0 then
          bndI (w_tape_isDigit d y18 M20) fun y23 M22 =>
          if y23 = 0 then
            if y18 = 32 then
              w_tape_split_150 d a1 v3 v19 M22
            else
              if y18 = 10 then
                w_tape_split_150 d a1 v3 v19 M22
              else
                bndI (w_js_indexOf4 d 4 (i2c y18) M22) fun y25 M24 =>
                if y25 < 0 then
                  bndV (w_tape_addToken d 2 0 v2 M24) fun M26 =>
                  w_tape_split_150 d a1 v3 v19 M26
                else
                  bndV (w_tape_addToken d y18 0 v2 M24) fun M27 =>
                  w_tape_split_150 d a1 v3 v19 M27
          else
            bndI (w_tape_behindRun d v2 0 M22) fun y29 M28 =>
            if 4 < (w32 (y29 - v2)) then
              bndI (w_tape_numberOf d v2 y29 M28) fun y31 M30 =>
              bndV (w_tape_addToken d 2 y31 v2 M30) fun M32 =>
              w_tape_split_150 d a1 v3 y29 M32
            else
              bndI (w_tape_numberOf d v2 y29 M28) fun y34 M33 =>
              bndV (w_tape_addToken d 1 y34 v2 M33) fun M35 =>
              w_tape_split_150 d a1 v3 y29 M35
        else
          bndI (w_tape_behindRun d v2 1 M20) fun y37 M36 =>
          bndI (w_tape_wordToken d a1 v2 y37 M36) fun y39 M38 =>
          bndV (w_tape_addToken d y39 0 v2 M38) fun M40 =>
          w_tape_split_150 d a1 v3 y37 M40
      else
        some ([], M)
    else
      some ([], M)) :=
  (aOm_fix _ _ _ _ _ _).trans rfl
set_option maxRecDepth 20000 in
theorem u_tape_split_150 (d : Nat) (a1 : Nat) (v3 : Int) (v5 : Int) (M : aM) : w_tape_split_150 d a1 v3 v5 M = (
    let v17 : Int := w32 (v3 + 1)
    w_tape_split_9 d a1 v5 v17 M) :=
  (aOm_fix _ _ _ _ _ _).trans rfl
set_option maxRecDepth 20000 in
theorem u_tape_byteAt (d : Nat) (v1 : Int) (M : aM) : w_tape_byteAt (d + 1) v1 M = (
    if v1 < 0 then
      some ([aI 0], M)
    else
      if v1 < (M 127 5) then
        if v1 < 400 then
          inb v1 (aLen 128) <|
          some ([aI (M 128 v1.toNat)], M)
        else
          some ([aI 0], M)
      else
        some ([aI 0], M)) :=
  (aOm_fix (aSem d) K_tape_byteAt 0 _ [] M).trans rfl
set_option maxRecDepth 20000 in
theorem u_tape_addToken (d : Nat) (v1 : Int) (v2 : Int) (v3 : Int) (M : aM) : w_tape_addToken (d + 1) v1 v2 v3 M = (
    if (M 127 4) < 0 then
      some ([], M)
    else
      if (M 127 4) < 400 then
        inb (M 127 4) (aLen 129) <|
        let M15 : aM := aUp M 129 (M 127 4).toNat v1
        inb (M15 127 4) (aLen 130) <|
        let M16 : aM := aUp M15 130 (M15 127 4).toNat v2
        inb (M16 127 4) (aLen 131) <|
        let M17 : aM := aUp M16 131 (M16 127 4).toNat v3
        let M18 : aM := aUp M17 127 4 (w32 ((M17 127 4) + 1))
        some ([], M18)
      else
        some ([], M)) :=
  (aOm_fix (aSem d) K_tape_addToken 0 _ [] M).trans rfl
set_option maxRecDepth 20000 in
theorem u_tape_behindRun (d : Nat) (v1 : Int) (v2 : Int) (M : aM) : w_tape_behindRun (d + 1) v1 v2 M = (
    w_tape_behindRun_2 d v2 v1 M) :=
  (aOm_fix (aSem d) K_tape_behindRun 0 _ [] M).trans rfl
set_option maxRecDepth 20000 in
theorem u_tape_behindRun_2 (d : Nat) (v2 : Int) (v3 : Int) (M : aM) : w_tape_behindRun_2 d v2 v3 M = (
    if v3 < (M 127 5) then
      if v2 = 0 then
        bndI (w_tape_byteAt d v3 M) fun y16 M15 =>
        bndI (w_tape_isDigit d y16 M15) fun y18 M17 =>
        if y18 = 0 then
          some ([aI v3], M17)
        else
          let v19 : Int := w32 (v3 + 1)
          w_tape_behindRun_2 d v2 v19 M17
      else
        bndI (w_tape_byteAt d v3 M) fun y21 M20 =>
        bndI (w_tape_isLetter d y21 M20) fun y23 M22 =>
        if y23 = 0 then
          some ([aI v3], M22)
        else
          let v24 : Int := w32 (v3 + 1)
          w_tape_behindRun_2 d v2 v24 M22
    else
      some ([aI v3], M)) :=
  (aOm_fix _ _ _ _ _ _).trans rfl
set_option maxRecDepth 20000 in
theorem u_tape_numberOf (d : Nat) (v1 : Int) (v2 : Int) (M : aM) : w_tape_numberOf (d + 1) v1 v2 M = (
    w_tape_numberOf_5 d v1 v2 0 v1 M) :=
  (aOm_fix (aSem d) K_tape_numberOf 0 _ [] M).trans rfl
set_option maxRecDepth 20000 in
theorem u_tape_numberOf_5 (d : Nat) (v1 : Int) (v2 : Int) (v3 : Int) (v4 : Int) (M : aM) : w_tape_numberOf_5 d v1 v2 v3 v4 M = (
    if v4 < v2 then
      if v4 < (w32 (v1 + 4)) then
        bndI (w_tape_byteAt d v4 M) fun y17 M16 =>
        let v18 : Int := (w32 ((w32 ((w32 (v3 * 10)) + y17)) - 48))
        let v19 : Int := w32 (v4 + 1)
        w_tape_numberOf_5 d v1 v2 v18 v19 M16
      else
        some ([aI v3], M)
    else
      some ([aI v3], M)) :=
  (aOm_fix _ _ _ _ _ _).trans rfl
set_option maxRecDepth 20000 in
theorem u_tape_wordToken (d : Nat) (a1 : Nat) (v2 : Int) (v3 : Int) (M : aM) : w_tape_wordToken (d + 1) a1 v2 v3 M = (
    w_tape_wordToken_9 d a1 v2 v3 0 0 0 M) :=
  (aOm_fix (aSem d) K_tape_wordToken 0 _ [] M).trans rfl
set_option maxRecDepth 20000 in
theorem u_tape_wordToken_9 (d : Nat) (a1 : Nat) (v2 : Int) (v3 : Int) (v4 : Int) (v5 : Int) (v6 : Int) (M : aM) : w_tape_wordToken_9 d a1 v2 v3 v4 v5 v6 M = (
    bndI (w_js_length d a1 M) fun y19 M18 =>
    if y19 < v6 then
      some ([aI 2], M18)
    else
      bndI (w_js_length d a1 M18) fun y21 M20 =>
      if v6 = y21 then
        w_tape_wordToken_38 d a1 v2 v3 v4 v5 v6 M20
      else
        bndI (w_js_charAt d a1 v6 M20) fun y23 M22 =>
        if y23 = 32 then
          w_tape_wordToken_38 d a1 v2 v3 v4 v5 v6 M22
        else
          let v24 : Int := w32 (v6 + 1)
          w_tape_wordToken_9 d a1 v2 v3 v4 v5 v24 M22) :=
  (aOm_fix _ _ _ _ _ _).trans rfl
set_option maxRecDepth 20000 in
theorem u_tape_wordToken_38 (d : Nat) (a1 : Nat) (v2 : Int) (v3 : Int) (v4 : Int) (v5 : Int) (v6 : Int) (M : aM) : w_tape_wordToken_38 d a1 v2 v3 v4 v5 v6 M = (
    if (w32 (v6 - v5)) = (w32 (v3 - v2)) then
      bndI (w_tape_startsAt d a1 v5 v2 v3 M) fun y19 M18 =>
      if y19 = 0 then
        let v20 : Int := w32 (v4 + 1)
        let v21 : Int := (w32 (v6 + 1))
        let v22 : Int := w32 (v6 + 1)
        w_tape_wordToken_9 d a1 v2 v3 v20 v21 v22 M18
      else
        some ([aI (w32 (256 + v4))], M18)
    else
      let v23 : Int := w32 (v4 + 1)
      let v24 : Int := (w32 (v6 + 1))
      let v25 : Int := w32 (v6 + 1)
      w_tape_wordToken_9 d a1 v2 v3 v23 v24 v25 M) :=
  (aOm_fix _ _ _ _ _ _).trans rfl
set_option maxRecDepth 20000 in
theorem u_tape_startsAt (d : Nat) (a1 : Nat) (v2 : Int) (v3 : Int) (v4 : Int) (M : aM) : w_tape_startsAt (d + 1) a1 v2 v3 v4 M = (
    w_tape_startsAt_3 d a1 v2 v3 v4 v3 M) :=
  (aOm_fix (aSem d) K_tape_startsAt 0 _ [] M).trans rfl
set_option maxRecDepth 20000 in
theorem u_tape_startsAt_3 (d : Nat) (a1 : Nat) (v2 : Int) (v3 : Int) (v4 : Int) (v5 : Int) (M : aM) : w_tape_startsAt_3 d a1 v2 v3 v4 v5 M = (
    if v5 < v4 then
      let v18 : Int := (w32 ((w32 (v2 + v5)) - v3))
      if v18 < 0 then
        some ([aI 0], M)
      else
        bndI (w_js_length d a1 M) fun y20 M19 =>
        if v18 < y20 then
          bndI (w_js_charAt d a1 v18 M19) fun y22 M21 =>
          bndI (w_tape_byteAt d v5 M21) fun y24 M23 =>
          if y22 = y24 then
            let v25 : Int := w32 (v5 + 1)
            w_tape_startsAt_3 d a1 v2 v3 v4 v25 M23
          else
            some ([aI 0], M23)
        else
          some ([aI 0], M19)
    else
      some ([aI 1], M)) :=
  (aOm_fix _ _ _ _ _ _).trans rfl
set_option maxRecDepth 20000 in
theorem u_tape_isLetter (d : Nat) (v0 : Int) (M : aM) : w_tape_isLetter (d + 1) v0 M = (
    if v0 < 97 then
      if v0 < 65 then
        some ([aI 0], M)
      else
        if 90 < v0 then
          some ([aI 0], M)
        else
          some ([aI 1], M)
    else
      if 122 < v0 then
        if v0 < 65 then
          some ([aI 0], M)
        else
          if 90 < v0 then
            some ([aI 0], M)
          else
            some ([aI 1], M)
      else
        some ([aI 1], M)) :=
  (aOm_fix (aSem d) K_tape_isLetter 0 _ [] M).trans rfl
set_option maxRecDepth 20000 in
theorem u_tape_isDigit (d : Nat) (v0 : Int) (M : aM) : w_tape_isDigit (d + 1) v0 M = (
    if v0 < 48 then
      some ([aI 0], M)
    else
      if 57 < v0 then
        some ([aI 0], M)
      else
        some ([aI 1], M)) :=
  (aOm_fix (aSem d) K_tape_isDigit 0 _ [] M).trans rfl
set_option maxRecDepth 20000 in
theorem u_th_movedDays (d : Nat) (a1 : Nat) (M : aM) : w_th_movedDays (d + 1) a1 M = (
    bndJ (w_th_firstWay d a1 M) fun y14 M13 =>
    if (lcmp y14 4000000000000000000) < 0 then
      some ([aI (l2i (ldiv y14 6553600000000))], M13)
    else
      some ([aI (-1)], M13)) :=
  (aOm_fix (aSem d) K_th_movedDays 0 _ [] M).trans rfl
set_option maxRecDepth 20000 in
theorem u_th_movedTo (d : Nat) (a1 : Nat) (v2 : Int) (M : aM) : w_th_movedTo (d + 1) a1 v2 M = (
    bndJ (w_th_firstWay d a1 M) fun y15 M14 =>
    if (lcmp y15 4000000000000000000) < 0 then
      w_th_movedTo_20 d v2 y15 7 M14
    else
      some ([aI (-1)], M14)) :=
  (aOm_fix (aSem d) K_th_movedTo 0 _ [] M).trans rfl
set_option maxRecDepth 20000 in
theorem u_th_movedTo_20 (d : Nat) (v2 : Int) (v3 : Int) (v5 : Int) (M : aM) : w_th_movedTo_20 d v2 v3 v5 M = (
    if v2 < v5 then
      let v17 : Int := (ldiv v3 40)
      let v18 : Int := w32 (v5 + (-1))
      w_th_movedTo_20 d v2 v17 v18 M
    else
      some ([aI (l2i (lrem v3 40))], M)) :=
  (aOm_fix _ _ _ _ _ _).trans rfl
set_option maxRecDepth 20000 in
theorem u_th_firstWay (d : Nat) (a1 : Nat) (M : aM) : w_th_firstWay (d + 1) a1 M = (
    let v13 : Int := (imax 0 (imin 8 (M a1 2)))
    bndV (w_ja_fillJ d 151 4000000000000000000 M) fun M14 =>
    inb 0 (aLen 151) <|
    let M15 : aM := aUp M14 151 0 0
    w_th_firstWay_33 d a1 v13 0 M15) :=
  (aOm_fix (aSem d) K_th_firstWay 0 _ [] M).trans rfl
set_option maxRecDepth 20000 in
theorem u_th_firstWay_33 (d : Nat) (a1 : Nat) (v2 : Int) (v3 : Int) (M : aM) : w_th_firstWay_33 d a1 v2 v3 M = (
    if v3 < 40 then
      bndV (w_th_weighDay d a1 v2 v3 M) fun M15 =>
      bndV (w_th_offerDay d v2 M15) fun M16 =>
      let v17 : Int := w32 (v3 + 1)
      w_th_firstWay_33 d a1 v2 v17 M16
    else
      inb (w32 ((ishl 1 v2) - 1)) (aLen 151) <|
      some ([aJ (M 151 (w32 ((ishl 1 v2) - 1)).toNat)], M)) :=
  (aOm_fix _ _ _ _ _ _).trans rfl
set_option maxRecDepth 20000 in
theorem u_th_weighDay (d : Nat) (a1 : Nat) (v2 : Int) (v3 : Int) (M : aM) : w_th_weighDay (d + 1) a1 v2 v3 M = (
    w_th_weighDay_8 d a1 v2 v3 6553600000000 0 M) :=
  (aOm_fix (aSem d) K_th_weighDay 0 _ [] M).trans rfl
set_option maxRecDepth 20000 in
theorem u_th_weighDay_8 (d : Nat) (a1 : Nat) (v2 : Int) (v3 : Int) (v4 : Int) (v6 : Int) (M : aM) : w_th_weighDay_8 d a1 v2 v3 v4 v6 M = (
    if v6 < v2 then
      bndI (w_rows_cell d a1 v6 0 M) fun y20 M19 =>
      let v21 : Int := (iabs (w32 (v3 - y20)))
      let v22 : Int := (ldiv v4 40)
      bndI (w_rows_cell d a1 v6 1 M19) fun y24 M23 =>
      if y24 < v21 then
        inb v6 (aLen 152) <|
        let M25 : aM := aUp M23 152 v6.toNat 4000000000000000000
        let v26 : Int := w32 (v6 + 1)
        w_th_weighDay_8 d a1 v2 v3 v22 v26 M25
      else
        inb v6 (aLen 152) <|
        let M27 : aM := aUp M23 152 v6.toNat (w64 ((w64 (v21 * 6553600000000)) + (w64 (v3 * v22))))
        let v28 : Int := w32 (v6 + 1)
        w_th_weighDay_8 d a1 v2 v3 v22 v28 M27
    else
      some ([], M)) :=
  (aOm_fix _ _ _ _ _ _).trans rfl
set_option maxRecDepth 20000 in
theorem u_th_offerDay (d : Nat) (v1 : Int) (M : aM) : w_th_offerDay (d + 1) v1 M = (
    let v13 : Int := (w32 ((ishl 1 v1) - 1))
    w_th_offerDay_6 d v1 v13 M) :=
  (aOm_fix (aSem d) K_th_offerDay 0 _ [] M).trans rfl
set_option maxRecDepth 20000 in
theorem u_th_offerDay_6 (d : Nat) (v1 : Int) (v2 : Int) (M : aM) : w_th_offerDay_6 d v1 v2 M = (
    if 0 < v2 then
      w_th_offerDay_12 d v1 v2 0 M
    else
      some ([], M)) :=
  (aOm_fix _ _ _ _ _ _).trans rfl
set_option maxRecDepth 20000 in
theorem u_th_offerDay_12 (d : Nat) (v1 : Int) (v2 : Int) (v3 : Int) (M : aM) : w_th_offerDay_12 d v1 v2 v3 M = (
    if v3 < v1 then
      if (iand (ishr v2 v3) 1) = 1 then
        inb (ixor v2 (ishl 1 v3)) (aLen 151) <|
        let v17 : Int := (M 151 (ixor v2 (ishl 1 v3)).toNat)
        if (lcmp v17 4000000000000000000) < 0 then
          inb v3 (aLen 152) <|
          if (lcmp (M 152 v3.toNat) 4000000000000000000) < 0 then
            inb v2 (aLen 151) <|
            inb v3 (aLen 152) <|
            inb v2 (aLen 151) <|
            let M18 : aM := aUp M 151 v2.toNat (imin (M 151 v2.toNat) (w64 (v17 + (M 152 v3.toNat))))
            let v19 : Int := w32 (v3 + 1)
            w_th_offerDay_12 d v1 v2 v19 M18
          else
            let v20 : Int := w32 (v3 + 1)
            w_th_offerDay_12 d v1 v2 v20 M
        else
          let v21 : Int := w32 (v3 + 1)
          w_th_offerDay_12 d v1 v2 v21 M
      else
        if (lcmp 4000000000000000000 4000000000000000000) < 0 then
          inb v3 (aLen 152) <|
          if (lcmp (M 152 v3.toNat) 4000000000000000000) < 0 then
            inb v2 (aLen 151) <|
            inb v3 (aLen 152) <|
            inb v2 (aLen 151) <|
            let M22 : aM := aUp M 151 v2.toNat (imin (M 151 v2.toNat) (w64 (4000000000000000000 + (M 152 v3.toNat))))
            let v23 : Int := w32 (v3 + 1)
            w_th_offerDay_12 d v1 v2 v23 M22
          else
            let v24 : Int := w32 (v3 + 1)
            w_th_offerDay_12 d v1 v2 v24 M
        else
          let v25 : Int := w32 (v3 + 1)
          w_th_offerDay_12 d v1 v2 v25 M
    else
      let v26 : Int := w32 (v2 + (-1))
      w_th_offerDay_6 d v1 v26 M) :=
  (aOm_fix _ _ _ _ _ _).trans rfl
set_option maxRecDepth 20000 in
theorem u_th_leastWatch (d : Nat) (a1 : Nat) (M : aM) : w_th_leastWatch (d + 1) a1 M = (
    w_th_leastWatch_9 d a1 1023 1023 0 M) :=
  (aOm_fix (aSem d) K_th_leastWatch 0 _ [] M).trans rfl
set_option maxRecDepth 20000 in
theorem u_th_leastWatch_9 (d : Nat) (a1 : Nat) (v2 : Int) (v3 : Int) (v4 : Int) (M : aM) : w_th_leastWatch_9 d a1 v2 v3 v4 M = (
    if v4 < v2 then
      bndI (w_ji_bitCount d v4 M) fun y17 M16 =>
      bndI (w_ji_bitCount d v3 M16) fun y19 M18 =>
      if y17 < y19 then
        bndI (w_th_watchesAll d a1 v4 M18) fun y21 M20 =>
        if y21 = 0 then
          let v22 : Int := w32 (v4 + 1)
          w_th_leastWatch_9 d a1 v2 v3 v22 M20
        else
          let v23 : Int := w32 (v4 + 1)
          w_th_leastWatch_9 d a1 v2 v4 v23 M20
      else
        let v24 : Int := w32 (v4 + 1)
        w_th_leastWatch_9 d a1 v2 v3 v24 M18
    else
      some ([aI v3], M)) :=
  (aOm_fix _ _ _ _ _ _).trans rfl
set_option maxRecDepth 20000 in
theorem u_th_watchesAll (d : Nat) (a0 : Nat) (v1 : Int) (M : aM) : w_th_watchesAll (d + 1) a0 v1 M = (
    w_th_watchesAll_2 d a0 v1 0 M) :=
  (aOm_fix (aSem d) K_th_watchesAll 0 _ [] M).trans rfl
set_option maxRecDepth 20000 in
theorem u_th_watchesAll_2 (d : Nat) (a0 : Nat) (v1 : Int) (v2 : Int) (M : aM) : w_th_watchesAll_2 d a0 v1 v2 M = (
    if v2 < (M a0 2) then
      bndI (w_rows_cell d a0 v2 0 M) fun y15 M14 =>
      if (iand (ishr v1 y15) 1) = 0 then
        bndI (w_rows_cell d a0 v2 1 M14) fun y17 M16 =>
        if (iand (ishr v1 y17) 1) = 0 then
          some ([aI 0], M16)
        else
          let v18 : Int := w32 (v2 + 1)
          w_th_watchesAll_2 d a0 v1 v18 M16
      else
        let v19 : Int := w32 (v2 + 1)
        w_th_watchesAll_2 d a0 v1 v19 M14
    else
      some ([aI 1], M)) :=
  (aOm_fix _ _ _ _ _ _).trans rfl
set_option maxRecDepth 20000 in
theorem u_th_waysToHaveEaten (d : Nat) (a1 : Nat) (M : aM) : w_th_waysToHaveEaten (d + 1) a1 M = (
    bndV (w_ja_fillI d 153 0 M) fun M13 =>
    bndV (w_ja_fillI d 154 0 M13) fun M14 =>
    w_th_waysToHaveEaten_18 d a1 0 M14) :=
  (aOm_fix (aSem d) K_th_waysToHaveEaten 0 _ [] M).trans rfl
set_option maxRecDepth 20000 in
theorem u_th_waysToHaveEaten_18 (d : Nat) (a1 : Nat) (v2 : Int) (M : aM) : w_th_waysToHaveEaten_18 d a1 v2 M = (
    if v2 < (M a1 2) then
      bndI (w_rows_cell d a1 v2 0 M) fun y16 M15 =>
      if y16 < 0 then
        let v17 : Int := w32 (v2 + 1)
        w_th_waysToHaveEaten_18 d a1 v17 M15
      else
        if y16 < 7 then
          inb y16 (aLen 153) <|
          bndI (w_rows_cell d a1 v2 1 M15) fun y19 M18 =>
          inb y16 (aLen 153) <|
          let M20 : aM := aUp M18 153 y16.toNat (ior (M15 153 y16.toNat) (ishl 1 y19))
          let v21 : Int := w32 (v2 + 1)
          w_th_waysToHaveEaten_18 d a1 v21 M20
        else
          let v22 : Int := w32 (v2 + 1)
          w_th_waysToHaveEaten_18 d a1 v22 M15
    else
      bndI (w_th_waysFrom d 153 154 0 0 M) fun y24 M23 =>
      some ([aI y24], M23)) :=
  (aOm_fix _ _ _ _ _ _).trans rfl
set_option maxRecDepth 20000 in
theorem u_th_waysFrom (d : Nat) (a0 : Nat) (a1 : Nat) (v2 : Int) (v3 : Int) (M : aM) : w_th_waysFrom (d + 1) a0 a1 v2 v3 M = (
    if v2 < 0 then
      some ([aI 1], M)
    else
      if v2 < 7 then
        if v2 < ((aLen a0 : Nat) : Int) then
          inb v2 (aLen a0) <|
          if (M a0 v2.toNat) = 0 then
            bndI (w_th_waysFrom d a0 a1 (w32 (v2 + 1)) v3 M) fun y16 M15 =>
            some ([aI y16], M15)
          else
            w_th_waysFrom_40 d a0 a1 v2 v3 0 0 M
        else
          some ([aI 1], M)
      else
        some ([aI 1], M)) :=
  (aOm_fix (aSem d) K_th_waysFrom 0 _ [] M).trans rfl
set_option maxRecDepth 20000 in
theorem u_th_waysFrom_40 (d : Nat) (a0 : Nat) (a1 : Nat) (v2 : Int) (v3 : Int) (v4 : Int) (v5 : Int) (M : aM) : w_th_waysFrom_40 d a0 a1 v2 v3 v4 v5 M = (
    if v5 < 10 then
      let v19 : Int := (w32 ((w32 (v2 * 10)) + v5))
      inb v2 (aLen a0) <|
      if (iand (ishr (iand (M a0 v2.toNat) (ixor v3 (-1))) v5) 1) = 1 then
        if v19 < ((aLen a1 : Nat) : Int) then
          bndI (w_th_waysFrom d a0 a1 (w32 (v2 + 1)) (ior v3 (ishl 1 v5)) M) fun y21 M20 =>
          inb v19 (aLen a1) <|
          inb v19 (aLen a1) <|
          let M22 : aM := aUp M20 a1 v19.toNat (w32 ((M20 a1 v19.toNat) + y21))
          let v23 : Int := (w32 (v4 + y21))
          let v24 : Int := w32 (v5 + 1)
          w_th_waysFrom_40 d a0 a1 v2 v3 v23 v24 M22
        else
          let v25 : Int := w32 (v5 + 1)
          w_th_waysFrom_40 d a0 a1 v2 v3 v4 v25 M
      else
        let v26 : Int := w32 (v5 + 1)
        w_th_waysFrom_40 d a0 a1 v2 v3 v4 v26 M
    else
      some ([aI v4], M)) :=
  (aOm_fix _ _ _ _ _ _).trans rfl
set_option maxRecDepth 20000 in
theorem u_th_sureCouples (d : Nat) (v1 : Int) (M : aM) : w_th_sureCouples (d + 1) v1 M = (
    w_th_sureCouples_4 d v1 0 0 M) :=
  (aOm_fix (aSem d) K_th_sureCouples 0 _ [] M).trans rfl
set_option maxRecDepth 20000 in
theorem u_th_sureCouples_4 (d : Nat) (v1 : Int) (v2 : Int) (v3 : Int) (M : aM) : w_th_sureCouples_4 d v1 v2 v3 M = (
    if v3 < ((aLen 154 : Nat) : Int) then
      if 0 < v1 then
        inb v3 (aLen 154) <|
        if (M 154 v3.toNat) = v1 then
          let v15 : Int := w32 (v2 + 1)
          let v16 : Int := w32 (v3 + 1)
          w_th_sureCouples_4 d v1 v15 v16 M
        else
          let v17 : Int := w32 (v3 + 1)
          w_th_sureCouples_4 d v1 v2 v17 M
      else
        some ([aI v2], M)
    else
      some ([aI v2], M)) :=
  (aOm_fix _ _ _ _ _ _).trans rfl
set_option maxRecDepth 20000 in
theorem u_th_nearestHour (d : Nat) (a1 : Nat) (M : aM) : w_th_nearestHour (d + 1) a1 M = (
    w_th_nearestHour_4 d a1 0 1 M) :=
  (aOm_fix (aSem d) K_th_nearestHour 0 _ [] M).trans rfl
set_option maxRecDepth 20000 in
theorem u_th_nearestHour_4 (d : Nat) (a1 : Nat) (v2 : Int) (v3 : Int) (M : aM) : w_th_nearestHour_4 d a1 v2 v3 M = (
    if 24 < v3 then
      some ([aI v2], M)
    else
      bndI (w_th_farness d a1 v3 M) fun y16 M15 =>
      bndI (w_th_farness d a1 v2 M15) fun y18 M17 =>
      if y16 < y18 then
        let v19 : Int := w32 (v3 + 1)
        w_th_nearestHour_4 d a1 v3 v19 M17
      else
        let v20 : Int := w32 (v3 + 1)
        w_th_nearestHour_4 d a1 v2 v20 M17) :=
  (aOm_fix _ _ _ _ _ _).trans rfl
set_option maxRecDepth 20000 in
theorem u_th_farness (d : Nat) (a1 : Nat) (v2 : Int) (M : aM) : w_th_farness (d + 1) a1 v2 M = (
    w_th_farness_5 d a1 v2 0 0 M) :=
  (aOm_fix (aSem d) K_th_farness 0 _ [] M).trans rfl
set_option maxRecDepth 20000 in
theorem u_th_farness_5 (d : Nat) (a1 : Nat) (v2 : Int) (v3 : Int) (v4 : Int) (M : aM) : w_th_farness_5 d a1 v2 v3 v4 M = (
    if v4 < (M a1 2) then
      bndI (w_rows_cell d a1 v4 0 M) fun y17 M16 =>
      let v18 : Int := (w32 (v3 + (iabs (w32 (y17 - v2)))))
      let v19 : Int := w32 (v4 + 1)
      w_th_farness_5 d a1 v2 v18 v19 M16
    else
      some ([aI v3], M)) :=
  (aOm_fix _ _ _ _ _ _).trans rfl
set_option maxRecDepth 20000 in
theorem u_th_saltedSum (d : Nat) (a1 : Nat) (v2 : Int) (M : aM) : w_th_saltedSum (d + 1) a1 v2 M = (
    bndV (w_th_giveSalts d a1 v2 M) fun M14 =>
    if v2 < 0 then
      some ([aI 0], M14)
    else
      if v2 < 21 then
        inb v2 (aLen 155) <|
        some ([aI (M14 155 v2.toNat)], M14)
      else
        some ([aI 0], M14)) :=
  (aOm_fix (aSem d) K_th_saltedSum 0 _ [] M).trans rfl
set_option maxRecDepth 20000 in
theorem u_th_saltGiven (d : Nat) (a1 : Nat) (v2 : Int) (v3 : Int) (M : aM) : w_th_saltGiven (d + 1) a1 v2 v3 M = (
    bndV (w_th_giveSalts d a1 v2 M) fun M15 =>
    w_th_saltGiven_15 d a1 v3 v2 0 0 M15) :=
  (aOm_fix (aSem d) K_th_saltGiven 0 _ [] M).trans rfl
set_option maxRecDepth 20000 in
theorem u_th_saltGiven_15 (d : Nat) (a1 : Nat) (v3 : Int) (v4 : Int) (v5 : Int) (v6 : Int) (M : aM) : w_th_saltGiven_15 d a1 v3 v4 v5 v6 M = (
    if v3 < v6 then
      some ([aI v5], M)
    else
      if v6 < 10 then
        bndI (w_wood_isAlive d (a1 + 1) v6 M) fun y19 M18 =>
        if y19 = 0 then
          let v20 : Int := (w32 (v4 - 0))
          let v21 : Int := w32 (v6 + 1)
          w_th_saltGiven_15 d a1 v3 v20 0 v21 M18
        else
          bndI (w_th_fewest d v6 v4 M18) fun y23 M22 =>
          let v24 : Int := (w32 (v4 - y23))
          let v25 : Int := w32 (v6 + 1)
          w_th_saltGiven_15 d a1 v3 v24 y23 v25 M22
      else
        some ([aI v5], M)) :=
  (aOm_fix _ _ _ _ _ _).trans rfl
set_option maxRecDepth 20000 in
theorem u_th_fewest (d : Nat) (v1 : Int) (v2 : Int) (M : aM) : w_th_fewest (d + 1) v1 v2 M = (
    w_th_fewest_2 d v1 v2 0 M) :=
  (aOm_fix (aSem d) K_th_fewest 0 _ [] M).trans rfl
set_option maxRecDepth 20000 in
theorem u_th_fewest_2 (d : Nat) (v1 : Int) (v2 : Int) (v3 : Int) (M : aM) : w_th_fewest_2 d v1 v2 v3 M = (
    if v2 < v3 then
      some ([aI 0], M)
    else
      if v2 < 21 then
        inb (w32 ((w32 ((w32 ((w32 (v1 + 1)) * 21)) + v2)) - v3)) (aLen 155) <|
        let v16 : Int := (M 155 (w32 ((w32 ((w32 ((w32 (v1 + 1)) * 21)) + v2)) - v3)).toNat)
        inb (w32 ((w32 (v1 * 21)) + v3)) (aLen 156) <|
        inb (w32 ((w32 (v1 * 21)) + v2)) (aLen 155) <|
        if (w32 ((M 156 (w32 ((w32 (v1 * 21)) + v3)).toNat) + v16)) = (M 155 (w32 ((w32 (v1 * 21)) + v2)).toNat) then
          some ([aI v3], M)
        else
          let v17 : Int := w32 (v3 + 1)
          w_th_fewest_2 d v1 v2 v17 M
      else
        some ([aI 0], M)) :=
  (aOm_fix _ _ _ _ _ _).trans rfl
set_option maxRecDepth 20000 in
theorem u_th_giveSalts (d : Nat) (a1 : Nat) (v2 : Int) (M : aM) : w_th_giveSalts (d + 1) a1 v2 M = (
    bndV (w_ja_fillI d 155 (-1000000) M) fun M14 =>
    inb 210 (aLen 155) <|
    let M15 : aM := aUp M14 155 210 0
    w_th_giveSalts_21 d a1 v2 9 M15) :=
  (aOm_fix (aSem d) K_th_giveSalts 0 _ [] M).trans rfl
set_option maxRecDepth 20000 in
theorem u_th_giveSalts_21 (d : Nat) (a1 : Nat) (v2 : Int) (v3 : Int) (M : aM) : w_th_giveSalts_21 d a1 v2 v3 M = (
    if v3 < 0 then
      some ([], M)
    else
      bndI (w_wood_isAlive d (a1 + 1) v3 M) fun y16 M15 =>
      if y16 = 0 then
        if (0 : Int) ≤ 21 ∧ (0 : Int) ≤ (w32 ((w32 (v3 + 1)) * 21)) ∧ (0 : Int) ≤ (w32 (v3 * 21)) ∧ ((w32 ((w32 (v3 + 1)) * 21)) + 21 : Int) ≤ aLen 155 ∧ ((w32 (v3 * 21)) + 21 : Int) ≤ aLen 155 then
          let M17 : aM := aCpy M15 155 155 (w32 ((w32 (v3 + 1)) * 21)).toNat (w32 (v3 * 21)).toNat 21
          let v18 : Int := w32 (v3 + (-1))
          w_th_giveSalts_21 d a1 v2 v18 M17
        else none
      else
        bndV (w_th_askGains d a1 v3 v2 M15) fun M19 =>
        bndV (w_th_addGains d v3 v2 M19) fun M20 =>
        let v21 : Int := w32 (v3 + (-1))
        w_th_giveSalts_21 d a1 v2 v21 M20) :=
  (aOm_fix _ _ _ _ _ _).trans rfl
set_option maxRecDepth 20000 in
theorem u_th_askGains (d : Nat) (a1 : Nat) (v2 : Int) (v3 : Int) (M : aM) : w_th_askGains (d + 1) a1 v2 v3 M = (
    w_th_askGains_3 d a1 v2 v3 0 M) :=
  (aOm_fix (aSem d) K_th_askGains 0 _ [] M).trans rfl
set_option maxRecDepth 20000 in
theorem u_th_askGains_3 (d : Nat) (a1 : Nat) (v2 : Int) (v3 : Int) (v4 : Int) (M : aM) : w_th_askGains_3 d a1 v2 v3 v4 M = (
    if v3 < v4 then
      some ([], M)
    else
      if v4 < 21 then
        let v17 : Int := (imin 99 (w32 ((M (a1 + 1) 6) + v4)))
        bndI (w_world_comeWithSalt d a1 v2 v17 M) fun y19 M18 =>
        inb (w32 ((w32 (v2 * 21)) + v4)) (aLen 156) <|
        let M20 : aM := aUp M18 156 (w32 ((w32 (v2 * 21)) + v4)).toNat y19
        let v21 : Int := w32 (v4 + 1)
        w_th_askGains_3 d a1 v2 v3 v21 M20
      else
        some ([], M)) :=
  (aOm_fix _ _ _ _ _ _).trans rfl
set_option maxRecDepth 20000 in
theorem u_th_addGains (d : Nat) (v1 : Int) (v2 : Int) (M : aM) : w_th_addGains (d + 1) v1 v2 M = (
    w_th_addGains_2 d v1 v2 0 M) :=
  (aOm_fix (aSem d) K_th_addGains 0 _ [] M).trans rfl
set_option maxRecDepth 20000 in
theorem u_th_addGains_2 (d : Nat) (v1 : Int) (v2 : Int) (v3 : Int) (M : aM) : w_th_addGains_2 d v1 v2 v3 M = (
    if v2 < v3 then
      some ([], M)
    else
      if v3 < 21 then
        w_th_addGains_16 d v1 v2 v3 0 M
      else
        some ([], M)) :=
  (aOm_fix _ _ _ _ _ _).trans rfl
set_option maxRecDepth 20000 in
theorem u_th_addGains_16 (d : Nat) (v1 : Int) (v2 : Int) (v3 : Int) (v4 : Int) (M : aM) : w_th_addGains_16 d v1 v2 v3 v4 M = (
    if v3 < v4 then
      let v17 : Int := w32 (v3 + 1)
      w_th_addGains_2 d v1 v2 v17 M
    else
      inb (w32 ((w32 (v1 * 21)) + v4)) (aLen 156) <|
      inb (w32 ((w32 ((w32 ((w32 (v1 + 1)) * 21)) + v3)) - v4)) (aLen 155) <|
      let v18 : Int := (w32 ((M 156 (w32 ((w32 (v1 * 21)) + v4)).toNat) + (M 155 (w32 ((w32 ((w32 ((w32 (v1 + 1)) * 21)) + v3)) - v4)).toNat)))
      inb (w32 ((w32 (v1 * 21)) + v3)) (aLen 155) <|
      inb (w32 ((w32 (v1 * 21)) + v3)) (aLen 155) <|
      let M19 : aM := aUp M 155 (w32 ((w32 (v1 * 21)) + v3)).toNat (imax (M 155 (w32 ((w32 (v1 * 21)) + v3)).toNat) v18)
      let v20 : Int := w32 (v4 + 1)
      w_th_addGains_16 d v1 v2 v3 v20 M19) :=
  (aOm_fix _ _ _ _ _ _).trans rfl
set_option maxRecDepth 20000 in
theorem u_th_antlersOf (d : Nat) (a1 : Nat) (M : aM) : w_th_antlersOf (d + 1) a1 M = (
    w_th_antlersOf_2 d a1 0 M) :=
  (aOm_fix (aSem d) K_th_antlersOf 0 _ [] M).trans rfl
set_option maxRecDepth 20000 in
theorem u_th_antlersOf_2 (d : Nat) (a1 : Nat) (v2 : Int) (M : aM) : w_th_antlersOf_2 d a1 v2 M = (
    if v2 < 10 then
      bndI (w_wood_isAlive d a1 v2 M) fun y15 M14 =>
      if y15 = 0 then
        let v16 : Int := w32 (v2 + 1)
        w_th_antlersOf_2 d a1 v16 M14
      else
        bndI (w_th_antlersTaken d a1 v2 M14) fun y18 M17 =>
        if y18 = (-1) then
          let v19 : Int := w32 (v2 + 1)
          w_th_antlersOf_2 d a1 v19 M17
        else
          some ([aI v2], M17)
    else
      some ([aI (-1)], M)) :=
  (aOm_fix _ _ _ _ _ _).trans rfl
set_option maxRecDepth 20000 in
theorem u_th_antlersTaken (d : Nat) (a1 : Nat) (v2 : Int) (M : aM) : w_th_antlersTaken (d + 1) a1 v2 M = (
    w_th_antlersTaken_5 d a1 v2 0 0 M) :=
  (aOm_fix (aSem d) K_th_antlersTaken 0 _ [] M).trans rfl
set_option maxRecDepth 20000 in
theorem u_th_antlersTaken_5 (d : Nat) (a1 : Nat) (v2 : Int) (v3 : Int) (v4 : Int) (M : aM) : w_th_antlersTaken_5 d a1 v2 v3 v4 M = (
    if v4 < 10 then
      bndI (w_wood_isAlive d a1 v4 M) fun y17 M16 =>
      if y17 = 0 then
        let v18 : Int := w32 (v4 + 1)
        w_th_antlersTaken_5 d a1 v2 v3 v18 M16
      else
        if v4 = v2 then
          let v19 : Int := w32 (v4 + 1)
          w_th_antlersTaken_5 d a1 v2 v3 v19 M16
        else
          inb v4 (aLen (a1 + 4)) <|
          let v20 : Int := (ixor v3 (iand (M16 (a1 + 4) v4.toNat) 3))
          let v21 : Int := w32 (v4 + 1)
          w_th_antlersTaken_5 d a1 v2 v20 v21 M16
    else
      bndI (w_wood_has d a1 v2 M) fun y23 M22 =>
      if y23 = 0 then
        if (0 : Int) < 1 then
          some ([aI (-1)], M22)
        else
          inb v2 (aLen (a1 + 4)) <|
          if (M22 (a1 + 4) v2.toNat) < (0 : Int) then
            some ([aI (-1)], M22)
          else
            some ([aI 0], M22)
      else
        inb v2 (aLen (a1 + 4)) <|
        let v24 : Int := (iand (w32 ((M22 (a1 + 4) v2.toNat) - v3)) 3)
        if v24 < 1 then
          some ([aI (-1)], M22)
        else
          inb v2 (aLen (a1 + 4)) <|
          if (M22 (a1 + 4) v2.toNat) < v24 then
            some ([aI (-1)], M22)
          else
            some ([aI v24], M22)) :=
  (aOm_fix _ _ _ _ _ _).trans rfl
set_option maxRecDepth 20000 in
theorem u_wood_has (d : Nat) (a0 : Nat) (v1 : Int) (M : aM) : w_wood_has (d + 1) a0 v1 M = (
    if v1 < 0 then
      some ([aI 0], M)
    else
      if v1 < (M a0 4) then
        if v1 < 10 then
          some ([aI 1], M)
        else
          some ([aI 0], M)
      else
        some ([aI 0], M)) :=
  (aOm_fix (aSem d) K_wood_has 0 _ [] M).trans rfl
set_option maxRecDepth 20000 in
theorem u_wood_isAlive (d : Nat) (a0 : Nat) (v1 : Int) (M : aM) : w_wood_isAlive (d + 1) a0 v1 M = (
    bndI (w_wood_has d a0 v1 M) fun y14 M13 =>
    if y14 = 0 then
      some ([aI 0], M13)
    else
      if (iand (ishr (M13 a0 5) v1) 1) = 1 then
        some ([aI 1], M13)
      else
        some ([aI 0], M13)) :=
  (aOm_fix (aSem d) K_wood_isAlive 0 _ [] M).trans rfl
set_option maxRecDepth 20000 in
theorem u_wood_isPaid (d : Nat) (a0 : Nat) (v1 : Int) (M : aM) : w_wood_isPaid (d + 1) a0 v1 M = (
    if v1 < 0 then
      some ([aI 0], M)
    else
      if v1 < 16 then
        if (iand (ishr (M a0 16) v1) 1) = 1 then
          some ([aI 1], M)
        else
          some ([aI 0], M)
      else
        some ([aI 0], M)) :=
  (aOm_fix (aSem d) K_wood_isPaid 0 _ [] M).trans rfl
set_option maxRecDepth 20000 in
theorem u_wood_enter (d : Nat) (a0 : Nat) (v1 : Int) (v2 : Int) (M : aM) : w_wood_enter (d + 1) a0 v1 v2 M = (
    let v14 : Int := (M a0 4)
    if v14 < 0 then
      some ([aI (-1)], M)
    else
      if v14 < 10 then
        inb v14 (aLen (a0 + 1)) <|
        let M15 : aM := aUp M (a0 + 1) v14.toNat v1
        inb v14 (aLen (a0 + 2)) <|
        let M16 : aM := aUp M15 (a0 + 2) v14.toNat v2
        inb v14 (aLen (a0 + 3)) <|
        let M17 : aM := aUp M16 (a0 + 3) v14.toNat 0
        inb v14 (aLen (a0 + 4)) <|
        let M18 : aM := aUp M17 (a0 + 4) v14.toNat 0
        let M19 : aM := aUp M18 a0 5 (ior (M18 a0 5) (ishl 1 v14))
        let M20 : aM := aUp M19 a0 4 (w32 (v14 + 1))
        some ([aI v14], M20)
      else
        some ([aI (-1)], M)) :=
  (aOm_fix (aSem d) K_wood_enter 0 _ [] M).trans rfl
set_option maxRecDepth 20000 in
theorem u_wood_draw (d : Nat) (a0 : Nat) (v1 : Int) (M : aM) : w_wood_draw (d + 1) a0 v1 M = (
    let M13 : aM := aUp M a0 15 (w32 ((w32 ((M a0 15) * 1664525)) + 1013904223))
    if 0 < v1 then
      if v1 = 0 then none else
      some ([aI (irem (iushr (M13 a0 15) 8) v1)], M13)
    else
      some ([aI 0], M13)) :=
  (aOm_fix (aSem d) K_wood_draw 0 _ [] M).trans rfl
set_option maxRecDepth 20000 in
theorem u_wood_putFacts (d : Nat) (a0 : Nat) (v1 : Int) (a2 : Nat) (M : aM) : w_wood_putFacts (d + 1) a0 v1 a2 M = (
    bndI (w_wood_has d a0 v1 M) fun y15 M14 =>
    if y15 = 0 then
      some ([], M14)
    else
      if ((aLen a2 : Nat) : Int) < 10 then
        some ([], M14)
      else
        inb 0 (aLen a2) <|
        let M16 : aM := aUp M14 a2 0 v1
        inb v1 (aLen (a0 + 1)) <|
        inb 1 (aLen a2) <|
        let M17 : aM := aUp M16 a2 1 (M16 (a0 + 1) v1.toNat)
        inb v1 (aLen (a0 + 2)) <|
        inb 2 (aLen a2) <|
        let M18 : aM := aUp M17 a2 2 (M17 (a0 + 2) v1.toNat)
        inb v1 (aLen (a0 + 3)) <|
        inb 3 (aLen a2) <|
        let M19 : aM := aUp M18 a2 3 (M18 (a0 + 3) v1.toNat)
        inb v1 (aLen (a0 + 4)) <|
        inb 4 (aLen a2) <|
        let M20 : aM := aUp M19 a2 4 (M19 (a0 + 4) v1.toNat)
        inb 5 (aLen a2) <|
        let M21 : aM := aUp M20 a2 5 (M20 a0 6)
        inb 6 (aLen a2) <|
        let M22 : aM := aUp M21 a2 6 (M21 a0 7)
        inb 7 (aLen a2) <|
        let M23 : aM := aUp M22 a2 7 (M22 a0 8)
        inb 8 (aLen a2) <|
        let M24 : aM := aUp M23 a2 8 (irem (idiv (M23 a0 14) 30) 12)
        if (M24 a0 11) = v1 then
          inb 9 (aLen a2) <|
          let M25 : aM := aUp M24 a2 9 1
          some ([], M25)
        else
          inb 9 (aLen a2) <|
          let M26 : aM := aUp M24 a2 9 0
          some ([], M26)) :=
  (aOm_fix (aSem d) K_wood_putFacts 0 _ [] M).trans rfl
set_option maxRecDepth 20000 in
theorem u_wood_bring (d : Nat) (a0 : Nat) (v1 : Int) (v2 : Int) (v3 : Int) (M : aM) : w_wood_bring (d + 1) a0 v1 v2 v3 M = (
    w_wood_bring_3 d a0 v1 v2 v3 0 M) :=
  (aOm_fix (aSem d) K_wood_bring 0 _ [] M).trans rfl
set_option maxRecDepth 20000 in
theorem u_wood_bring_3 (d : Nat) (a0 : Nat) (v1 : Int) (v2 : Int) (v3 : Int) (v4 : Int) (M : aM) : w_wood_bring_3 d a0 v1 v2 v3 v4 M = (
    if v4 < (M a0 4) then
      if v4 < 10 then
        if v4 = v1 then
          inb v4 (aLen (a0 + 3)) <|
          let M16 : aM := aUp M (a0 + 3) v4.toNat 0
          inb v4 (aLen (a0 + 4)) <|
          inb v4 (aLen (a0 + 4)) <|
          let M17 : aM := aUp M16 (a0 + 4) v4.toNat (w32 ((M16 (a0 + 4) v4.toNat) + 1))
          inb v4 (aLen (a0 + 2)) <|
          inb v4 (aLen (a0 + 2)) <|
          let M18 : aM := aUp M17 (a0 + 2) v4.toNat (imax 0 (w32 ((M17 (a0 + 2) v4.toNat) - v3)))
          let v19 : Int := w32 (v4 + 1)
          w_wood_bring_3 d a0 v1 v2 v3 v19 M18
        else
          bndI (w_wood_isAlive d a0 v4 M) fun y21 M20 =>
          if y21 = 0 then
            let v22 : Int := w32 (v4 + 1)
            w_wood_bring_3 d a0 v1 v2 v3 v22 M20
          else
            inb v4 (aLen (a0 + 3)) <|
            inb v4 (aLen (a0 + 3)) <|
            let M23 : aM := aUp M20 (a0 + 3) v4.toNat (imin 999 (w32 ((M20 (a0 + 3) v4.toNat) + 1)))
            let v24 : Int := w32 (v4 + 1)
            w_wood_bring_3 d a0 v1 v2 v3 v24 M23
      else
        let M25 : aM := aUp M a0 11 v1
        let M26 : aM := aUp M25 a0 13 (w32 ((M25 a0 13) + v2))
        some ([], M26)
    else
      let M27 : aM := aUp M a0 11 v1
      let M28 : aM := aUp M27 a0 13 (w32 ((M27 a0 13) + v2))
      some ([], M28)) :=
  (aOm_fix _ _ _ _ _ _).trans rfl
set_option maxRecDepth 20000 in
theorem u_wood_leastCalm (d : Nat) (a0 : Nat) (M : aM) : w_wood_leastCalm (d + 1) a0 M = (
    w_wood_leastCalm_4 d a0 (-1) 0 M) :=
  (aOm_fix (aSem d) K_wood_leastCalm 0 _ [] M).trans rfl
set_option maxRecDepth 20000 in
theorem u_wood_leastCalm_4 (d : Nat) (a0 : Nat) (v1 : Int) (v2 : Int) (M : aM) : w_wood_leastCalm_4 d a0 v1 v2 M = (
    if v2 < (M a0 4) then
      if v2 < 10 then
        bndI (w_wood_isAlive d a0 v2 M) fun y15 M14 =>
        if y15 = 0 then
          let v16 : Int := w32 (v2 + 1)
          w_wood_leastCalm_4 d a0 v1 v16 M14
        else
          if v1 = (-1) then
            let v17 : Int := w32 (v2 + 1)
            w_wood_leastCalm_4 d a0 v2 v17 M14
          else
            inb v2 (aLen (a0 + 2)) <|
            inb v1 (aLen (a0 + 2)) <|
            if (M14 (a0 + 2) v2.toNat) < (M14 (a0 + 2) v1.toNat) then
              let v18 : Int := w32 (v2 + 1)
              w_wood_leastCalm_4 d a0 v2 v18 M14
            else
              let v19 : Int := w32 (v2 + 1)
              w_wood_leastCalm_4 d a0 v1 v19 M14
      else
        some ([aI v1], M)
    else
      some ([aI v1], M)) :=
  (aOm_fix _ _ _ _ _ _).trans rfl
set_option maxRecDepth 20000 in
theorem u_wood_nearestTo (d : Nat) (a0 : Nat) (v1 : Int) (M : aM) : w_wood_nearestTo (d + 1) a0 v1 M = (
    bndI (w_wood_has d a0 v1 M) fun y14 M13 =>
    if y14 = 0 then
      some ([aI (-1)], M13)
    else
      w_wood_nearestTo_17 d a0 v1 (-1) 0 0 M13) :=
  (aOm_fix (aSem d) K_wood_nearestTo 0 _ [] M).trans rfl
set_option maxRecDepth 20000 in
theorem u_wood_nearestTo_17 (d : Nat) (a0 : Nat) (v1 : Int) (v2 : Int) (v3 : Int) (v4 : Int) (M : aM) : w_wood_nearestTo_17 d a0 v1 v2 v3 v4 M = (
    if v4 < (M a0 4) then
      if v4 < 10 then
        inb v4 (aLen (a0 + 1)) <|
        inb v1 (aLen (a0 + 1)) <|
        inb v4 (aLen (a0 + 2)) <|
        inb v1 (aLen (a0 + 2)) <|
        let v17 : Int := (w32 ((w32 ((iabs (w32 ((M (a0 + 1) v4.toNat) - (M (a0 + 1) v1.toNat)))) * 100)) + (iabs (w32 ((M (a0 + 2) v4.toNat) - (M (a0 + 2) v1.toNat))))))
        bndI (w_wood_isAlive d a0 v4 M) fun y19 M18 =>
        if y19 = 0 then
          let v20 : Int := w32 (v4 + 1)
          w_wood_nearestTo_17 d a0 v1 v2 v3 v20 M18
        else
          if v2 = (-1) then
            let v21 : Int := w32 (v4 + 1)
            w_wood_nearestTo_17 d a0 v1 v4 v17 v21 M18
          else
            if v17 < v3 then
              let v22 : Int := w32 (v4 + 1)
              w_wood_nearestTo_17 d a0 v1 v4 v17 v22 M18
            else
              let v23 : Int := w32 (v4 + 1)
              w_wood_nearestTo_17 d a0 v1 v2 v3 v23 M18
      else
        some ([aI v2], M)
    else
      some ([aI v2], M)) :=
  (aOm_fix _ _ _ _ _ _).trans rfl
set_option maxRecDepth 20000 in
theorem u_wood_aliveWithMark (d : Nat) (a0 : Nat) (v1 : Int) (M : aM) : w_wood_aliveWithMark (d + 1) a0 v1 M = (
    w_wood_aliveWithMark_4 d a0 v1 0 0 M) :=
  (aOm_fix (aSem d) K_wood_aliveWithMark 0 _ [] M).trans rfl
set_option maxRecDepth 20000 in
theorem u_wood_aliveWithMark_4 (d : Nat) (a0 : Nat) (v1 : Int) (v2 : Int) (v3 : Int) (M : aM) : w_wood_aliveWithMark_4 d a0 v1 v2 v3 M = (
    if v3 < (M a0 4) then
      if v3 < 10 then
        bndI (w_wood_isAlive d a0 v3 M) fun y16 M15 =>
        if y16 = 0 then
          let v17 : Int := w32 (v3 + 1)
          w_wood_aliveWithMark_4 d a0 v1 v2 v17 M15
        else
          inb v3 (aLen (a0 + 1)) <|
          if (M15 (a0 + 1) v3.toNat) = v1 then
            let v18 : Int := w32 (v2 + 1)
            let v19 : Int := w32 (v3 + 1)
            w_wood_aliveWithMark_4 d a0 v1 v18 v19 M15
          else
            let v20 : Int := w32 (v3 + 1)
            w_wood_aliveWithMark_4 d a0 v1 v2 v20 M15
      else
        some ([aI v2], M)
    else
      some ([aI v2], M)) :=
  (aOm_fix _ _ _ _ _ _).trans rfl
set_option maxRecDepth 20000 in
theorem u_wood_copyFrom (d : Nat) (a0 : Nat) (a1 : Nat) (M : aM) : w_wood_copyFrom (d + 1) a0 a1 M = (
    if (0 : Int) ≤ 10 ∧ (0 : Int) ≤ 0 ∧ (0 : Int) ≤ 0 ∧ (0 + 10 : Int) ≤ aLen (a1 + 1) ∧ (0 + 10 : Int) ≤ aLen (a0 + 1) then
      let M13 : aM := aCpy M (a1 + 1) (a0 + 1) 0 0 10
      if (0 : Int) ≤ 10 ∧ (0 : Int) ≤ 0 ∧ (0 : Int) ≤ 0 ∧ (0 + 10 : Int) ≤ aLen (a1 + 2) ∧ (0 + 10 : Int) ≤ aLen (a0 + 2) then
        let M14 : aM := aCpy M13 (a1 + 2) (a0 + 2) 0 0 10
        if (0 : Int) ≤ 10 ∧ (0 : Int) ≤ 0 ∧ (0 : Int) ≤ 0 ∧ (0 + 10 : Int) ≤ aLen (a1 + 3) ∧ (0 + 10 : Int) ≤ aLen (a0 + 3) then
          let M15 : aM := aCpy M14 (a1 + 3) (a0 + 3) 0 0 10
          if (0 : Int) ≤ 10 ∧ (0 : Int) ≤ 0 ∧ (0 : Int) ≤ 0 ∧ (0 + 10 : Int) ≤ aLen (a1 + 4) ∧ (0 + 10 : Int) ≤ aLen (a0 + 4) then
            let M16 : aM := aCpy M15 (a1 + 4) (a0 + 4) 0 0 10
            let M17 : aM := aUp M16 a0 4 (M16 a1 4)
            let M18 : aM := aUp M17 a0 5 (M17 a1 5)
            let M19 : aM := aUp M18 a0 6 (M18 a1 6)
            let M20 : aM := aUp M19 a0 7 (M19 a1 7)
            let M21 : aM := aUp M20 a0 8 (M20 a1 8)
            let M22 : aM := aUp M21 a0 9 (M21 a1 9)
            let M23 : aM := aUp M22 a0 10 (M22 a1 10)
            let M24 : aM := aUp M23 a0 11 (M23 a1 11)
            let M25 : aM := aUp M24 a0 12 (M24 a1 12)
            let M26 : aM := aUp M25 a0 13 (M25 a1 13)
            let M27 : aM := aUp M26 a0 14 (M26 a1 14)
            let M28 : aM := aUp M27 a0 15 (M27 a1 15)
            let M29 : aM := aUp M28 a0 16 (M28 a1 16)
            some ([], M29)
          else none
        else none
      else none
    else none) :=
  (aOm_fix (aSem d) K_wood_copyFrom 0 _ [] M).trans rfl
set_option maxRecDepth 20000 in
theorem u_world_asked (d : Nat) (a0 : Nat) (v1 : Int) (v2 : Int) (M : aM) : w_world_asked (d + 1) a0 v1 v2 M = (
    bndV (w_wood_putFacts d (a0 + 1) v2 (a0 + 29) M) fun M14 =>
    bndI (w_law_tell d (a0 + 6) v1 (a0 + 29) M14) fun y16 M15 =>
    some ([aI y16], M15)) :=
  (aOm_fix (aSem d) K_world_asked 0 _ [] M).trans rfl
set_option maxRecDepth 20000 in
theorem u_world_comeWithSalt (d : Nat) (a0 : Nat) (v1 : Int) (v2 : Int) (M : aM) : w_world_comeWithSalt (d + 1) a0 v1 v2 M = (
    bndV (w_wood_putFacts d (a0 + 1) v1 (a0 + 29) M) fun M14 =>
    inb 5 (aLen (a0 + 29)) <|
    let M15 : aM := aUp M14 (a0 + 29) 5 v2
    bndI (w_law_tell d (a0 + 6) 0 (a0 + 29) M15) fun y17 M16 =>
    some ([aI y17], M16)) :=
  (aOm_fix (aSem d) K_world_comeWithSalt 0 _ [] M).trans rfl
set_option maxRecDepth 20000 in
theorem u_world_askComes (d : Nat) (a0 : Nat) (M : aM) : w_world_askComes (d + 1) a0 M = (
    let M12 : aM := aUp M a0 13 0
    w_world_askComes_7 d a0 0 M12) :=
  (aOm_fix (aSem d) K_world_askComes 0 _ [] M).trans rfl
set_option maxRecDepth 20000 in
theorem u_world_askComes_7 (d : Nat) (a0 : Nat) (v1 : Int) (M : aM) : w_world_askComes_7 d a0 v1 M = (
    if v1 < 10 then
      bndI (w_wood_isAlive d (a0 + 1) v1 M) fun y14 M13 =>
      if y14 = 0 then
        inb v1 (aLen (a0 + 30)) <|
        let M15 : aM := aUp M13 (a0 + 30) v1.toNat 0
        inb v1 (aLen (a0 + 30)) <|
        let M16 : aM := aUp M15 a0 13 (w32 ((M15 a0 13) + (M15 (a0 + 30) v1.toNat)))
        let v17 : Int := w32 (v1 + 1)
        w_world_askComes_7 d a0 v17 M16
      else
        bndI (w_world_asked d a0 0 v1 M13) fun y19 M18 =>
        inb v1 (aLen (a0 + 30)) <|
        let M20 : aM := aUp M18 (a0 + 30) v1.toNat y19
        inb v1 (aLen (a0 + 30)) <|
        let M21 : aM := aUp M20 a0 13 (w32 ((M20 a0 13) + (M20 (a0 + 30) v1.toNat)))
        let v22 : Int := w32 (v1 + 1)
        w_world_askComes_7 d a0 v22 M21
    else
      some ([], M)) :=
  (aOm_fix _ _ _ _ _ _).trans rfl
set_option maxRecDepth 20000 in
theorem u_world_likeliestDeer (d : Nat) (a0 : Nat) (M : aM) : w_world_likeliestDeer (d + 1) a0 M = (
    bndV (w_world_askComes d a0 M) fun M12 =>
    bndI (w_world_greatestCome d a0 M12) fun y14 M13 =>
    some ([aI y14], M13)) :=
  (aOm_fix (aSem d) K_world_likeliestDeer 0 _ [] M).trans rfl
set_option maxRecDepth 20000 in
theorem u_world_greatestCome (d : Nat) (a0 : Nat) (M : aM) : w_world_greatestCome (d + 1) a0 M = (
    w_world_greatestCome_4 d a0 (-1) 0 M) :=
  (aOm_fix (aSem d) K_world_greatestCome 0 _ [] M).trans rfl
set_option maxRecDepth 20000 in
theorem u_world_greatestCome_4 (d : Nat) (a0 : Nat) (v1 : Int) (v2 : Int) (M : aM) : w_world_greatestCome_4 d a0 v1 v2 M = (
    if v2 < 10 then
      bndI (w_wood_isAlive d (a0 + 1) v2 M) fun y15 M14 =>
      if y15 = 0 then
        let v16 : Int := w32 (v2 + 1)
        w_world_greatestCome_4 d a0 v1 v16 M14
      else
        if v1 = (-1) then
          let v17 : Int := w32 (v2 + 1)
          w_world_greatestCome_4 d a0 v2 v17 M14
        else
          inb v2 (aLen (a0 + 30)) <|
          inb v1 (aLen (a0 + 30)) <|
          if (M14 (a0 + 30) v1.toNat) < (M14 (a0 + 30) v2.toNat) then
            let v18 : Int := w32 (v2 + 1)
            w_world_greatestCome_4 d a0 v2 v18 M14
          else
            let v19 : Int := w32 (v2 + 1)
            w_world_greatestCome_4 d a0 v1 v19 M14
    else
      some ([aI v1], M)) :=
  (aOm_fix _ _ _ _ _ _).trans rfl
set_option maxRecDepth 20000 in
theorem u_world_likelihood (d : Nat) (a0 : Nat) (v1 : Int) (M : aM) : w_world_likelihood (d + 1) a0 v1 M = (
    bndV (w_world_askComes d a0 M) fun M13 =>
    bndI (w_wood_isAlive d (a0 + 1) v1 M13) fun y15 M14 =>
    if y15 = 0 then
      some ([aI 0], M14)
    else
      if 0 < (M14 a0 13) then
        inb v1 (aLen (a0 + 30)) <|
        if (M14 a0 13) = 0 then none else
        some ([aI (idiv (w32 ((idiv (w32 (1000000 * (M14 (a0 + 30) v1.toNat))) (M14 a0 13)) * (w32 (1000 - (M14 (a0 + 1) 10))))) 1000)], M14)
      else
        some ([aI 0], M14)) :=
  (aOm_fix (aSem d) K_world_likelihood 0 _ [] M).trans rfl
set_option maxRecDepth 20000 in
theorem u_world_eatOrFree (d : Nat) (a0 : Nat) (v1 : Int) (v2 : Int) (M : aM) : w_world_eatOrFree (d + 1) a0 v1 v2 M = (
    if v2 = 0 then
      let M14 : aM := aUp M (a0 + 1) 5 (ior (M (a0 + 1) 5) (ishl 1 v1))
      if v2 = 0 then
        bndI (w_rows_put d (a0 + 17) (M14 (a0 + 1) 14) 5 v1 0 M14) fun y16 M15 =>
        some ([], M15)
      else
        bndI (w_rows_put d (a0 + 17) (M14 (a0 + 1) 14) 3 v1 0 M14) fun y18 M17 =>
        some ([], M17)
    else
      let M19 : aM := aUp M (a0 + 1) 5 (iand (M (a0 + 1) 5) (ixor (ishl 1 v1) (-1)))
      if v2 = 0 then
        bndI (w_rows_put d (a0 + 17) (M19 (a0 + 1) 14) 5 v1 0 M19) fun y21 M20 =>
        some ([], M20)
      else
        bndI (w_rows_put d (a0 + 17) (M19 (a0 + 1) 14) 3 v1 0 M19) fun y23 M22 =>
        some ([], M22)) :=
  (aOm_fix (aSem d) K_world_eatOrFree 0 _ [] M).trans rfl
set_option maxRecDepth 20000 in
theorem u_world_passDay (d : Nat) (a0 : Nat) (v1 : Int) (M : aM) : w_world_passDay (d + 1) a0 v1 M = (
    bndV (w_world_followPlan d a0 M) fun M13 =>
    bndV (w_world_askComes d a0 M13) fun M14 =>
    if v1 = 0 then
      bndI (w_world_drawnDeer d a0 M14) fun y16 M15 =>
      if y16 = (-1) then
        bndI (w_rows_put d (a0 + 17) (M15 (a0 + 1) 14) 1 (-1) 5 M15) fun y18 M17 =>
        bndV (w_wood_bring d (a0 + 1) (-1) 5 0 M17) fun M19 =>
        if v1 = 0 then
          bndV (w_world_sendWolves d a0 M19) fun M20 =>
          w_world_passDay_116 d a0 y16 M20
        else
          w_world_passDay_116 d a0 y16 M19
      else
        bndI (w_world_asked d a0 1 y16 M15) fun y22 M21 =>
        bndI (w_world_asked d a0 2 y16 M21) fun y24 M23 =>
        bndI (w_rows_put d (a0 + 17) (M23 (a0 + 1) 14) 0 y16 y22 M23) fun y26 M25 =>
        bndV (w_wood_bring d (a0 + 1) y16 y22 y24 M25) fun M27 =>
        bndV (w_world_payDues d a0 M27) fun M28 =>
        if v1 = 0 then
          bndV (w_world_sendWolves d a0 M28) fun M29 =>
          w_world_passDay_116 d a0 y16 M29
        else
          w_world_passDay_116 d a0 y16 M28
    else
      bndI (w_world_dreamtDeer d a0 M14) fun y31 M30 =>
      if y31 = (-1) then
        bndI (w_rows_put d (a0 + 17) (M30 (a0 + 1) 14) 1 (-1) 5 M30) fun y33 M32 =>
        bndV (w_wood_bring d (a0 + 1) (-1) 5 0 M32) fun M34 =>
        if v1 = 0 then
          bndV (w_world_sendWolves d a0 M34) fun M35 =>
          w_world_passDay_116 d a0 y31 M35
        else
          w_world_passDay_116 d a0 y31 M34
      else
        bndI (w_world_asked d a0 1 y31 M30) fun y37 M36 =>
        bndI (w_world_asked d a0 2 y31 M36) fun y39 M38 =>
        bndI (w_rows_put d (a0 + 17) (M38 (a0 + 1) 14) 0 y31 y37 M38) fun y41 M40 =>
        bndV (w_wood_bring d (a0 + 1) y31 y37 y39 M40) fun M42 =>
        bndV (w_world_payDues d a0 M42) fun M43 =>
        if v1 = 0 then
          bndV (w_world_sendWolves d a0 M43) fun M44 =>
          w_world_passDay_116 d a0 y31 M44
        else
          w_world_passDay_116 d a0 y31 M43) :=
  (aOm_fix (aSem d) K_world_passDay 0 _ [] M).trans rfl
set_option maxRecDepth 20000 in
theorem u_world_passDay_116 (d : Nat) (a0 : Nat) (v2 : Int) (M : aM) : w_world_passDay_116 d a0 v2 M = (
    let M16 : aM := aUp M (a0 + 1) 6 (imax 0 (w32 ((M (a0 + 1) 6) - 1)))
    let M17 : aM := aUp M16 (a0 + 1) 7 (imax 0 (w32 ((M16 (a0 + 1) 7) - 1)))
    let M18 : aM := aUp M17 (a0 + 1) 14 (w32 ((M17 (a0 + 1) 14) + 1))
    if v2 = (-1) then
      some ([aI 1], M18)
    else
      some ([aI 0], M18)) :=
  (aOm_fix _ _ _ _ _ _).trans rfl
set_option maxRecDepth 20000 in
theorem u_world_followPlan (d : Nat) (a0 : Nat) (M : aM) : w_world_followPlan (d + 1) a0 M = (
    w_world_followPlan_2 d a0 0 M) :=
  (aOm_fix (aSem d) K_world_followPlan 0 _ [] M).trans rfl
set_option maxRecDepth 20000 in
theorem u_world_followPlan_2 (d : Nat) (a0 : Nat) (v1 : Int) (M : aM) : w_world_followPlan_2 d a0 v1 M = (
    if v1 < (M (a0 + 11) 2) then
      bndI (w_rows_cell d (a0 + 11) v1 0 M) fun y14 M13 =>
      if y14 = (M13 (a0 + 1) 14) then
        bndI (w_rows_cell d (a0 + 11) v1 1 M13) fun y16 M15 =>
        bndI (w_rows_cell d (a0 + 11) v1 2 M15) fun y18 M17 =>
        bndV (w_world_followLine d a0 y16 y18 M17) fun M19 =>
        let v20 : Int := w32 (v1 + 1)
        w_world_followPlan_2 d a0 v20 M19
      else
        let v21 : Int := w32 (v1 + 1)
        w_world_followPlan_2 d a0 v21 M13
    else
      some ([], M)) :=
  (aOm_fix _ _ _ _ _ _).trans rfl
set_option maxRecDepth 20000 in
theorem u_world_followLine (d : Nat) (a0 : Nat) (v1 : Int) (v2 : Int) (M : aM) : w_world_followLine (d + 1) a0 v1 v2 M = (
    if v1 = 1 then
      let M14 : aM := aUp M (a0 + 1) 6 v2
      some ([], M14)
    else
    if v1 = 2 then
      let M15 : aM := aUp M (a0 + 1) 7 v2
      some ([], M15)
    else
    if v1 = 3 then
      let M16 : aM := aUp M (a0 + 1) 8 (w32 (1 - (M (a0 + 1) 8)))
      some ([], M16)
    else
      bndI (w_wood_has d (a0 + 1) v2 M) fun y18 M17 =>
      if y18 = 0 then
        some ([], M17)
      else
        bndI (w_wood_isAlive d (a0 + 1) v2 M17) fun y20 M19 =>
        if v1 = 4 then
          if y20 = 1 then
            if v1 = 4 then
              bndV (w_world_eatOrFree d a0 v2 1 M19) fun M21 =>
              some ([], M21)
            else
              bndV (w_world_eatOrFree d a0 v2 0 M19) fun M22 =>
              some ([], M22)
          else
            some ([], M19)
        else
          if y20 = 0 then
            if v1 = 4 then
              bndV (w_world_eatOrFree d a0 v2 1 M19) fun M23 =>
              some ([], M23)
            else
              bndV (w_world_eatOrFree d a0 v2 0 M19) fun M24 =>
              some ([], M24)
          else
            some ([], M19)) :=
  (aOm_fix (aSem d) K_world_followLine 0 _ [] M).trans rfl
set_option maxRecDepth 20000 in
theorem u_world_dreamtDeer (d : Nat) (a0 : Nat) (M : aM) : w_world_dreamtDeer (d + 1) a0 M = (
    if 0 < (M a0 13) then
      bndI (w_world_greatestCome d a0 M) fun y13 M12 =>
      some ([aI y13], M12)
    else
      some ([aI (-1)], M)) :=
  (aOm_fix (aSem d) K_world_dreamtDeer 0 _ [] M).trans rfl
set_option maxRecDepth 20000 in
theorem u_world_drawnDeer (d : Nat) (a0 : Nat) (M : aM) : w_world_drawnDeer (d + 1) a0 M = (
    if 0 < (M (a0 + 1) 10) then
      bndI (w_wood_draw d (a0 + 1) 1000 M) fun y13 M12 =>
      if y13 < (M12 (a0 + 1) 10) then
        some ([aI (-1)], M12)
      else
        if 0 < (M12 a0 13) then
          bndI (w_wood_draw d (a0 + 1) (M12 a0 13) M12) fun y15 M14 =>
          w_world_drawnDeer_53 d a0 y15 0 M14
        else
          some ([aI (-1)], M12)
    else
      if 0 < (M a0 13) then
        bndI (w_wood_draw d (a0 + 1) (M a0 13) M) fun y17 M16 =>
        w_world_drawnDeer_53 d a0 y17 0 M16
      else
        some ([aI (-1)], M)) :=
  (aOm_fix (aSem d) K_world_drawnDeer 0 _ [] M).trans rfl
set_option maxRecDepth 20000 in
theorem u_world_drawnDeer_53 (d : Nat) (a0 : Nat) (v1 : Int) (v2 : Int) (M : aM) : w_world_drawnDeer_53 d a0 v1 v2 M = (
    if v2 < 10 then
      inb v2 (aLen (a0 + 30)) <|
      let v14 : Int := (w32 (v1 - (M (a0 + 30) v2.toNat)))
      if v14 < 0 then
        some ([aI v2], M)
      else
        let v15 : Int := w32 (v2 + 1)
        w_world_drawnDeer_53 d a0 v14 v15 M
    else
      some ([aI (-1)], M)) :=
  (aOm_fix _ _ _ _ _ _).trans rfl
set_option maxRecDepth 20000 in
theorem u_world_payDues (d : Nat) (a0 : Nat) (M : aM) : w_world_payDues (d + 1) a0 M = (
    w_world_payDues_2 d a0 0 M) :=
  (aOm_fix (aSem d) K_world_payDues 0 _ [] M).trans rfl
set_option maxRecDepth 20000 in
theorem u_world_payDues_2 (d : Nat) (a0 : Nat) (v1 : Int) (M : aM) : w_world_payDues_2 d a0 v1 M = (
    if v1 < (M (a0 + 13) 2) then
      bndI (w_wood_isPaid d (a0 + 1) v1 M) fun y15 M14 =>
      if y15 = 0 then
        bndI (w_rows_cell d (a0 + 13) v1 1 M14) fun y17 M16 =>
        if y17 = (M16 (a0 + 1) 11) then
          if (1 : Int) = 0 then
            let v18 : Int := w32 (v1 + 1)
            w_world_payDues_2 d a0 v18 M16
          else
            bndI (w_rows_cell d (a0 + 13) v1 2 M16) fun y20 M19 =>
            if y20 < (M16 (a0 + 1) 14) then
              let M21 : aM := aUp M19 (a0 + 1) 16 (ior (M19 (a0 + 1) 16) (ishl 1 v1))
              bndI (w_rows_cell d (a0 + 13) v1 0 M21) fun y23 M22 =>
              let M24 : aM := aUp M22 (a0 + 1) 12 (w32 ((M21 (a0 + 1) 12) - y23))
              bndI (w_rows_cell d (a0 + 13) v1 0 M24) fun y26 M25 =>
              bndI (w_rows_put d (a0 + 17) (M24 (a0 + 1) 14) 2 v1 y26 M25) fun y28 M27 =>
              let v29 : Int := w32 (v1 + 1)
              w_world_payDues_2 d a0 v29 M27
            else
              let v30 : Int := w32 (v1 + 1)
              w_world_payDues_2 d a0 v30 M19
        else
          w_world_payDues_47 d a0 v1 M16
      else
        w_world_payDues_47 d a0 v1 M14
    else
      some ([], M)) :=
  (aOm_fix _ _ _ _ _ _).trans rfl
set_option maxRecDepth 20000 in
theorem u_world_payDues_47 (d : Nat) (a0 : Nat) (v1 : Int) (M : aM) : w_world_payDues_47 d a0 v1 M = (
    if (0 : Int) = 0 then
      let v14 : Int := w32 (v1 + 1)
      w_world_payDues_2 d a0 v14 M
    else
      bndI (w_rows_cell d (a0 + 13) v1 2 M) fun y16 M15 =>
      if y16 < (M (a0 + 1) 14) then
        let M17 : aM := aUp M15 (a0 + 1) 16 (ior (M15 (a0 + 1) 16) (ishl 1 v1))
        bndI (w_rows_cell d (a0 + 13) v1 0 M17) fun y19 M18 =>
        let M20 : aM := aUp M18 (a0 + 1) 12 (w32 ((M17 (a0 + 1) 12) - y19))
        bndI (w_rows_cell d (a0 + 13) v1 0 M20) fun y22 M21 =>
        bndI (w_rows_put d (a0 + 17) (M20 (a0 + 1) 14) 2 v1 y22 M21) fun y24 M23 =>
        let v25 : Int := w32 (v1 + 1)
        w_world_payDues_2 d a0 v25 M23
      else
        let v26 : Int := w32 (v1 + 1)
        w_world_payDues_2 d a0 v26 M15) :=
  (aOm_fix _ _ _ _ _ _).trans rfl
set_option maxRecDepth 20000 in
theorem u_world_sendWolves (d : Nat) (a0 : Nat) (M : aM) : w_world_sendWolves (d + 1) a0 M = (
    if 0 < (M (a0 + 1) 9) then
      if (M (a0 + 1) 5) = 0 then
        some ([], M)
      else
        bndI (w_wood_draw d (a0 + 1) 1000 M) fun y13 M12 =>
        if y13 < (M12 (a0 + 1) 9) then
          bndI (w_wood_leastCalm d (a0 + 1) M12) fun y15 M14 =>
          if y15 = (-1) then
            some ([], M14)
          else
            let M16 : aM := aUp M14 (a0 + 1) 5 (iand (M14 (a0 + 1) 5) (ixor (ishl 1 y15) (-1)))
            bndI (w_rows_put d (a0 + 17) (M16 (a0 + 1) 14) 4 y15 0 M16) fun y18 M17 =>
            some ([], M17)
        else
          some ([], M12)
    else
      some ([], M)) :=
  (aOm_fix (aSem d) K_world_sendWolves 0 _ [] M).trans rfl
set_option maxRecDepth 20000 in
theorem u_world_copyFrom (d : Nat) (a0 : Nat) (a1 : Nat) (M : aM) : w_world_copyFrom (d + 1) a0 a1 M = (
    bndV (w_wood_copyFrom d (a0 + 1) (a1 + 1) M) fun M13 =>
    bndV (w_law_copyFrom d (a0 + 6) (a1 + 6) M13) fun M14 =>
    bndV (w_rows_copyFrom d (a0 + 11) (a1 + 11) M14) fun M15 =>
    bndV (w_rows_copyFrom d (a0 + 13) (a1 + 13) M15) fun M16 =>
    bndV (w_rows_copyFrom d (a0 + 15) (a1 + 15) M16) fun M17 =>
    bndV (w_rows_copyFrom d (a0 + 17) (a1 + 17) M17) fun M18 =>
    bndV (w_rows_copyFrom d (a0 + 19) (a1 + 19) M18) fun M19 =>
    bndV (w_rows_copyFrom d (a0 + 21) (a1 + 21) M19) fun M20 =>
    bndV (w_rows_copyFrom d (a0 + 23) (a1 + 23) M20) fun M21 =>
    bndV (w_rows_copyFrom d (a0 + 25) (a1 + 25) M21) fun M22 =>
    bndV (w_rows_copyFrom d (a0 + 27) (a1 + 27) M22) fun M23 =>
    some ([], M23)) :=
  (aOm_fix (aSem d) K_world_copyFrom 0 _ [] M).trans rfl
set_option maxRecDepth 20000 in
theorem u_x_state (d : Nat) (v1 : Int) (M : aM) : w_x_state (d + 1) v1 M = (
    let v13 : Int := (M 2 15)
    let M14 : aM := aUp M 2 15 v1
    bndV (w_acts_forget d M14) fun M15 =>
    some ([aI v13], M15)) :=
  (aOm_fix (aSem d) K_x_state 0 _ [] M).trans rfl
set_option maxRecDepth 20000 in
theorem u_x_deer (d : Nat) (v1 : Int) (v2 : Int) (M : aM) : w_x_deer (d + 1) v1 v2 M = (
    bndI (w_x_within d v1 5 M) fun y15 M14 =>
    if y15 = 0 then
      some ([aI (-1)], M14)
    else
      bndI (w_x_within d v2 9 M14) fun y17 M16 =>
      if y17 = 0 then
        some ([aI (-1)], M16)
      else
        if (M16 2 4) < 10 then
          bndV (w_acts_forget d M16) fun M18 =>
          bndI (w_wood_enter d 2 v1 v2 M18) fun y20 M19 =>
          some ([aI y20], M19)
        else
          some ([aI (-1)], M16)) :=
  (aOm_fix (aSem d) K_x_deer 0 _ [] M).trans rfl
set_option maxRecDepth 20000 in
theorem u_x_set (d : Nat) (v1 : Int) (v2 : Int) (v3 : Int) (M : aM) : w_x_set (d + 1) v1 v2 v3 M = (
    if v1 < 5 then
      bndI (w_x_setWood d v1 v3 M) fun y16 M15 =>
      if y16 = 0 then
        aBool y16 <| some ([aI y16], M15)
      else
        bndV (w_acts_forget d M15) fun M17 =>
        aBool y16 <| some ([aI y16], M17)
    else
      bndI (w_x_setDeer d v1 v2 v3 M) fun y19 M18 =>
      if y19 = 0 then
        aBool y19 <| some ([aI y19], M18)
      else
        bndV (w_acts_forget d M18) fun M20 =>
        aBool y19 <| some ([aI y19], M20)) :=
  (aOm_fix (aSem d) K_x_set 0 _ [] M).trans rfl
set_option maxRecDepth 20000 in
theorem u_x_eat (d : Nat) (v1 : Int) (v2 : Int) (M : aM) : w_x_eat (d + 1) v1 v2 M = (
    bndI (w_wood_has d 2 v1 M) fun y15 M14 =>
    if y15 = 0 then
      some ([aI 0], M14)
    else
      bndI (w_wood_isAlive d 2 v1 M14) fun y17 M16 =>
      if y17 = v2 then
        bndV (w_acts_keep d 1 M16) fun M18 =>
        bndV (w_world_eatOrFree d 1 v1 v2 M18) fun M19 =>
        some ([aI 1], M19)
      else
        some ([aI 0], M16)) :=
  (aOm_fix (aSem d) K_x_eat 0 _ [] M).trans rfl
set_option maxRecDepth 20000 in
theorem u_x_days (d : Nat) (v1 : Int) (M : aM) : w_x_days (d + 1) v1 M = (
    if v1 < 1 then
      some ([aI (-1)], M)
    else
      if 60 < v1 then
        some ([aI (-1)], M)
      else
        if 9999 < (w32 ((M 2 14) + v1)) then
          some ([aI (-1)], M)
        else
          w_x_days_35 d v1 0 0 M) :=
  (aOm_fix (aSem d) K_x_days 0 _ [] M).trans rfl
set_option maxRecDepth 20000 in
theorem u_x_days_35 (d : Nat) (v1 : Int) (v2 : Int) (v3 : Int) (M : aM) : w_x_days_35 d v1 v2 v3 M = (
    if v3 < v1 then
      bndV (w_acts_keep d 1 M) fun M15 =>
      bndI (w_world_passDay d 1 0 M15) fun y17 M16 =>
      if y17 = 0 then
        let v18 : Int := w32 (v3 + 1)
        w_x_days_35 d v1 v2 v18 M16
      else
        let v19 : Int := w32 (v2 + 1)
        let v20 : Int := w32 (v3 + 1)
        w_x_days_35 d v1 v19 v20 M16
    else
      some ([aI v2], M)) :=
  (aOm_fix _ _ _ _ _ _).trans rfl
set_option maxRecDepth 20000 in
theorem u_x_waitFor (d : Nat) (v1 : Int) (M : aM) : w_x_waitFor (d + 1) v1 M = (
    bndI (w_wood_has d 2 v1 M) fun y14 M13 =>
    if y14 = 0 then
      some ([aI (-2)], M13)
    else
      if 9999 < (w32 ((M13 2 14) + 30)) then
        some ([aI (-2)], M13)
      else
        w_x_waitFor_38 d v1 1 M13) :=
  (aOm_fix (aSem d) K_x_waitFor 0 _ [] M).trans rfl
set_option maxRecDepth 20000 in
theorem u_x_waitFor_38 (d : Nat) (v1 : Int) (v2 : Int) (M : aM) : w_x_waitFor_38 d v1 v2 M = (
    if 30 < v2 then
      some ([aI (-1)], M)
    else
      bndV (w_acts_keep d 1 M) fun M14 =>
      bndI (w_world_passDay d 1 0 M14) fun y16 M15 =>
      if (M15 2 11) = v1 then
        some ([aI v2], M15)
      else
        let v17 : Int := w32 (v2 + 1)
        w_x_waitFor_38 d v1 v17 M15) :=
  (aOm_fix _ _ _ _ _ _).trans rfl
set_option maxRecDepth 20000 in
theorem u_x_feed (d : Nat) (v1 : Int) (v2 : Int) (v3 : Int) (v4 : Int) (v5 : Int) (M : aM) : w_x_feed (d + 1) v1 v2 v3 v4 v5 M = (
    if 400 < (w32 ((M 127 5) + 20)) then
      some ([aI (-1)], M)
    else
      bndV (w_tape_append d v1 M) fun M17 =>
      bndV (w_tape_append d v2 M17) fun M18 =>
      bndV (w_tape_append d v3 M18) fun M19 =>
      bndV (w_tape_append d v4 M19) fun M20 =>
      bndV (w_tape_append d v5 M20) fun M21 =>
      some ([aI (M21 127 5)], M21)) :=
  (aOm_fix (aSem d) K_x_feed 0 _ [] M).trans rfl
set_option maxRecDepth 20000 in
theorem u_x_end (d : Nat) (v1 : Int) (M : aM) : w_x_end (d + 1) v1 M = (
    if v1 < 0 then
      some ([aI 0], M)
    else
      if (M 127 5) < v1 then
        some ([aI 0], M)
      else
        let M13 : aM := aUp M 127 5 v1
        some ([aI 1], M13)) :=
  (aOm_fix (aSem d) K_x_end 0 _ [] M).trans rfl
set_option maxRecDepth 20000 in
theorem u_x_text (d : Nat) (v1 : Int) (M : aM) : w_x_text (d + 1) v1 M = (
    bndI (w_rd_read d v1 (M 2 4) M) fun y14 M13 =>
    let M15 : aM := aUp M13 127 5 0
    if y14 = 0 then
      some ([aI (-1)], M15)
    else
      bndI (w_x_takeText d v1 M15) fun y17 M16 =>
      some ([aI y17], M16)) :=
  (aOm_fix (aSem d) K_x_text 0 _ [] M).trans rfl
set_option maxRecDepth 20000 in
theorem u_x_fault (d : Nat) (v1 : Int) (M : aM) : w_x_fault (d + 1) v1 M = (
    if v1 = 0 then
      some ([aI (M 132 2)], M)
    else
    if v1 = 1 then
      some ([aI (M 132 3)], M)
    else
      some ([aI (-1)], M)) :=
  (aOm_fix (aSem d) K_x_fault 0 _ [] M).trans rfl
set_option maxRecDepth 20000 in
theorem u_x_of (d : Nat) (v1 : Int) (v2 : Int) (M : aM) : w_x_of (d + 1) v1 v2 M = (
    bndI (w_wood_has d 2 v1 M) fun y15 M14 =>
    if y15 = 0 then
      some ([aI (-1)], M14)
    else
      if v2 = 0 then
        inb v1 (aLen 3) <|
        some ([aI (M14 3 v1.toNat)], M14)
      else
      if v2 = 1 then
        inb v1 (aLen 4) <|
        some ([aI (M14 4 v1.toNat)], M14)
      else
      if v2 = 2 then
        bndI (w_wood_isAlive d 2 v1 M14) fun y17 M16 =>
        if y17 = 0 then
          some ([aI 0], M16)
        else
          some ([aI 1], M16)
      else
      if v2 = 3 then
        inb v1 (aLen 5) <|
        some ([aI (M14 5 v1.toNat)], M14)
      else
      if v2 = 4 then
        inb v1 (aLen 6) <|
        some ([aI (M14 6 v1.toNat)], M14)
      else
      if v2 = 5 then
        bndI (w_world_asked d 1 0 v1 M14) fun y19 M18 =>
        some ([aI y19], M18)
      else
      if v2 = 6 then
        bndI (w_world_asked d 1 1 v1 M14) fun y21 M20 =>
        some ([aI y21], M20)
      else
      if v2 = 7 then
        bndI (w_world_asked d 1 2 v1 M14) fun y23 M22 =>
        some ([aI y23], M22)
      else
        some ([aI (-1)], M14)) :=
  (aOm_fix (aSem d) K_x_of 0 _ [] M).trans rfl
set_option maxRecDepth 20000 in
theorem u_x_due (d : Nat) (v1 : Int) (v2 : Int) (M : aM) : w_x_due (d + 1) v1 v2 M = (
    bndI (w_rows_has d 14 v1 M) fun y15 M14 =>
    if y15 = 0 then
      some ([aI (-2)], M14)
    else
      if v2 < 0 then
        some ([aI (-2)], M14)
      else
        if 3 < v2 then
          some ([aI (-2)], M14)
        else
          if v2 = 3 then
            bndI (w_wood_isPaid d 2 v1 M14) fun y17 M16 =>
            if y17 = 0 then
              some ([aI 0], M16)
            else
              some ([aI 1], M16)
          else
            bndI (w_rows_cell d 14 v1 v2 M14) fun y19 M18 =>
            some ([aI y19], M18)) :=
  (aOm_fix (aSem d) K_x_due 0 _ [] M).trans rfl
set_option maxRecDepth 20000 in
theorem u_x_book (d : Nat) (v1 : Int) (v2 : Int) (M : aM) : w_x_book (d + 1) v1 v2 M = (
    bndI (w_rows_has d 18 v1 M) fun y15 M14 =>
    if y15 = 0 then
      some ([aI (-2)], M14)
    else
      bndI (w_x_within d v2 3 M14) fun y17 M16 =>
      if y17 = 0 then
        some ([aI (-2)], M16)
      else
        bndI (w_rows_cell d 18 v1 v2 M16) fun y19 M18 =>
        some ([aI y19], M18)) :=
  (aOm_fix (aSem d) K_x_book 0 _ [] M).trans rfl
set_option maxRecDepth 20000 in
theorem u_x_next (d : Nat) (v1 : Int) (v2 : Int) (M : aM) : w_x_next (d + 1) v1 v2 M = (
    bndI (w_wood_has d 2 v1 M) fun y15 M14 =>
    if y15 = 0 then
      some ([aI (-1)], M14)
    else
      bndI (w_x_within d v2 60 M14) fun y17 M16 =>
      if y17 = 0 then
        some ([aI (-1)], M16)
      else
        bndI (w_world_likelihood d 1 v1 M16) fun y19 M18 =>
        if v2 = 0 then
          some ([aI y19], M18)
        else
          bndI (w_x_likelyWithin d y19 v2 M18) fun y21 M20 =>
          some ([aI y21], M20)) :=
  (aOm_fix (aSem d) K_x_next 0 _ [] M).trans rfl
set_option maxRecDepth 20000 in
theorem u_x_likeliest (d : Nat)  (M : aM) : w_x_likeliest (d + 1)  M = (
    bndI (w_world_likeliestDeer d 1 M) fun y13 M12 =>
    some ([aI y13], M12)) :=
  (aOm_fix (aSem d) K_x_likeliest 0 _ [] M).trans rfl
set_option maxRecDepth 20000 in
theorem u_x_goes (d : Nat) (v1 : Int) (v2 : Int) (M : aM) : w_x_goes (d + 1) v1 v2 M = (
    if v1 < 1 then
      some ([aI (-100000)], M)
    else
      if 99 < v1 then
        some ([aI (-100000)], M)
      else
        bndI (w_x_within d v2 3 M) fun y15 M14 =>
        if y15 = 0 then
          some ([aI (-100000)], M14)
        else
          bndV (w_world_copyFrom d 63 1 M14) fun M16 =>
          w_x_goes_35 d v1 v2 0 M16) :=
  (aOm_fix (aSem d) K_x_goes 0 _ [] M).trans rfl
set_option maxRecDepth 20000 in
theorem u_x_goes_35 (d : Nat) (v1 : Int) (v2 : Int) (v3 : Int) (M : aM) : w_x_goes_35 d v1 v2 v3 M = (
    if v3 < v1 then
      bndI (w_world_passDay d 63 1 M) fun y16 M15 =>
      let v17 : Int := w32 (v3 + 1)
      w_x_goes_35 d v1 v2 v17 M15
    else
      if v2 = 0 then
        some ([aI (M 64 12)], M)
      else
      if v2 = 1 then
        some ([aI (M 64 13)], M)
      else
      if v2 = 2 then
        bndI (w_ji_bitCount d (M 64 16) M) fun y19 M18 =>
        some ([aI y19], M18)
      else
        some ([aI (M 64 11)], M)) :=
  (aOm_fix _ _ _ _ _ _).trans rfl
set_option maxRecDepth 20000 in
theorem u_x_reads (d : Nat) (v1 : Int) (M : aM) : w_x_reads (d + 1) v1 M = (
    bndI (w_rows_has d 14 v1 M) fun y14 M13 =>
    if y14 = 0 then
      some ([aI (-1)], M13)
    else
      bndI (w_rows_cell d 14 v1 1 M13) fun y16 M15 =>
      bndI (w_wood_isAlive d 2 y16 M15) fun y18 M17 =>
      if y18 = 0 then
        bndI (w_wood_nearestTo d 2 y16 M17) fun y20 M19 =>
        some ([aI y20], M19)
      else
        some ([aI (-1)], M17)) :=
  (aOm_fix (aSem d) K_x_reads 0 _ [] M).trans rfl
set_option maxRecDepth 20000 in
theorem u_x_seen (d : Nat) (v1 : Int) (v2 : Int) (M : aM) : w_x_seen (d + 1) v1 v2 M = (
    bndI (w_wood_has d 2 v1 M) fun y15 M14 =>
    if y15 = 0 then
      bndI (w_rows_tell d 20 v1 v2 0 M14) fun y17 M16 =>
      some ([aI y17], M16)
    else
      bndI (w_wood_has d 2 v2 M14) fun y19 M18 =>
      if y19 = 0 then
        bndI (w_rows_tell d 20 v1 v2 0 M18) fun y21 M20 =>
        some ([aI y21], M20)
      else
        if v1 = v2 then
          bndI (w_rows_tell d 20 v1 v2 0 M18) fun y23 M22 =>
          some ([aI y23], M22)
        else
          bndI (w_rows_tell d 20 v1 v2 1 M18) fun y25 M24 =>
          some ([aI y25], M24)) :=
  (aOm_fix (aSem d) K_x_seen 0 _ [] M).trans rfl
set_option maxRecDepth 20000 in
theorem u_x_orders (d : Nat) (v1 : Int) (M : aM) : w_x_orders (d + 1) v1 M = (
    if v1 = 0 then
      bndI (w_ord_howMany d 1 M) fun y14 M13 =>
      some ([aI y14], M13)
    else
      if v1 = 1 then
        if v1 = 1 then
          bndI (w_ord_asks d 1 1 M) fun y16 M15 =>
          some ([aI y16], M15)
        else
          bndI (w_ord_asks d 1 0 M) fun y18 M17 =>
          some ([aI y18], M17)
      else
        if v1 = 2 then
          if v1 = 1 then
            bndI (w_ord_asks d 1 1 M) fun y20 M19 =>
            some ([aI y20], M19)
          else
            bndI (w_ord_asks d 1 0 M) fun y22 M21 =>
            some ([aI y22], M21)
        else
          if v1 < 10 then
            some ([aI (-1)], M)
          else
            bndI (w_wood_has d 2 (w32 (v1 - 10)) M) fun y24 M23 =>
            if y24 = 0 then
              some ([aI (-1)], M23)
            else
              bndI (w_ord_placeOfFirst d 1 (w32 (v1 - 10)) M23) fun y26 M25 =>
              some ([aI y26], M25)) :=
  (aOm_fix (aSem d) K_x_orders 0 _ [] M).trans rfl
set_option maxRecDepth 20000 in
theorem u_x_moves (d : Nat) (v1 : Int) (M : aM) : w_x_moves (d + 1) v1 M = (
    if v1 = 0 then
      bndI (w_th_movedDays d 16 M) fun y14 M13 =>
      some ([aI y14], M13)
    else
      if v1 < 10 then
        some ([aI (-1)], M)
      else
        bndI (w_rows_has d 16 (w32 (v1 - 10)) M) fun y16 M15 =>
        if y16 = 0 then
          some ([aI (-1)], M15)
        else
          bndI (w_th_movedTo d 16 (w32 (v1 - 10)) M15) fun y18 M17 =>
          some ([aI y18], M17)) :=
  (aOm_fix (aSem d) K_x_moves 0 _ [] M).trans rfl
set_option maxRecDepth 20000 in
theorem u_x_work (d : Nat) (v1 : Int) (M : aM) : w_x_work (d + 1) v1 M = (
    if v1 < 1 then
      bndI (w_rows_tell d 22 v1 0 0 M) fun y14 M13 =>
      some ([aI y14], M13)
    else
      if 24 < v1 then
        bndI (w_rows_tell d 22 v1 0 0 M) fun y16 M15 =>
        some ([aI y16], M15)
      else
        bndI (w_rows_tell d 22 v1 0 1 M) fun y18 M17 =>
        some ([aI y18], M17)) :=
  (aOm_fix (aSem d) K_x_work 0 _ [] M).trans rfl
set_option maxRecDepth 20000 in
theorem u_x_works (d : Nat) (v1 : Int) (M : aM) : w_x_works (d + 1) v1 M = (
    bndI (w_x_within d v1 2 M) fun y14 M13 =>
    if y14 = 0 then
      some ([aI (-1)], M13)
    else
      bndI (w_labour_takeTurns d 1 M13) fun y16 M15 =>
      if y16 = 0 then
        some ([aI (-1)], M15)
      else
        if v1 = 0 then
          bndI (w_labour_lastSpot d 22 M15) fun y18 M17 =>
          bndI (w_labour_daysOf d y18 M17) fun y20 M19 =>
          some ([aI y20], M19)
        else
        if v1 = 1 then
          bndI (w_labour_lastSpot d 22 M15) fun y22 M21 =>
          bndI (w_labour_deerOf d y22 M21) fun y24 M23 =>
          some ([aI y24], M23)
        else
          bndI (w_labour_bestSpot d 22 M15) fun y26 M25 =>
          bndI (w_labour_daysOf d y26 M25) fun y28 M27 =>
          some ([aI y28], M27)) :=
  (aOm_fix (aSem d) K_x_works 0 _ [] M).trans rfl
set_option maxRecDepth 20000 in
theorem u_x_gate (d : Nat) (v1 : Int) (v2 : Int) (M : aM) : w_x_gate (d + 1) v1 v2 M = (
    bndI (w_x_within d v1 9 M) fun y15 M14 =>
    if y15 = 0 then
      bndI (w_rows_tell d 24 v1 v2 0 M14) fun y17 M16 =>
      some ([aI y17], M16)
    else
      bndI (w_x_within d v2 9 M14) fun y19 M18 =>
      if y19 = 0 then
        bndI (w_rows_tell d 24 v1 v2 0 M18) fun y21 M20 =>
        some ([aI y21], M20)
      else
        if v1 = v2 then
          bndI (w_rows_tell d 24 v1 v2 0 M18) fun y23 M22 =>
          some ([aI y23], M22)
        else
          bndI (w_rows_tell d 24 v1 v2 1 M18) fun y25 M24 =>
          some ([aI y25], M24)) :=
  (aOm_fix (aSem d) K_x_gate 0 _ [] M).trans rfl
set_option maxRecDepth 20000 in
theorem u_x_watch (d : Nat) (v1 : Int) (M : aM) : w_x_watch (d + 1) v1 M = (
    bndI (w_x_within d v1 1 M) fun y14 M13 =>
    if y14 = 0 then
      some ([aI (-1)], M13)
    else
      bndI (w_th_leastWatch d 24 M13) fun y16 M15 =>
      if v1 = 0 then
        bndI (w_ji_bitCount d y16 M15) fun y18 M17 =>
        some ([aI y18], M17)
      else
        some ([aI y16], M15)) :=
  (aOm_fix (aSem d) K_x_watch 0 _ [] M).trans rfl
set_option maxRecDepth 20000 in
theorem u_x_ate (d : Nat) (v1 : Int) (v2 : Int) (M : aM) : w_x_ate (d + 1) v1 v2 M = (
    bndI (w_x_within d v1 6 M) fun y15 M14 =>
    if y15 = 0 then
      bndI (w_rows_tell d 26 v1 v2 0 M14) fun y17 M16 =>
      some ([aI y17], M16)
    else
      bndI (w_wood_has d 2 v2 M14) fun y19 M18 =>
      if y19 = 0 then
        bndI (w_rows_tell d 26 v1 v2 0 M18) fun y21 M20 =>
        some ([aI y21], M20)
      else
        bndI (w_rows_tell d 26 v1 v2 1 M18) fun y23 M22 =>
        some ([aI y23], M22)) :=
  (aOm_fix (aSem d) K_x_ate 0 _ [] M).trans rfl
set_option maxRecDepth 20000 in
theorem u_x_ways (d : Nat) (v1 : Int) (M : aM) : w_x_ways (d + 1) v1 M = (
    bndI (w_x_within d v1 1 M) fun y14 M13 =>
    if y14 = 0 then
      some ([aI (-1)], M13)
    else
      bndI (w_th_waysToHaveEaten d 26 M13) fun y16 M15 =>
      if v1 = 0 then
        some ([aI y16], M15)
      else
        bndI (w_th_sureCouples d y16 M15) fun y18 M17 =>
        some ([aI y18], M17)) :=
  (aOm_fix (aSem d) K_x_ways 0 _ [] M).trans rfl
set_option maxRecDepth 20000 in
theorem u_x_vote (d : Nat) (v1 : Int) (M : aM) : w_x_vote (d + 1) v1 M = (
    bndI (w_x_within d v1 24 M) fun y14 M13 =>
    bndI (w_rows_tell d 28 v1 0 y14 M13) fun y16 M15 =>
    some ([aI y16], M15)) :=
  (aOm_fix (aSem d) K_x_vote 0 _ [] M).trans rfl
set_option maxRecDepth 20000 in
theorem u_x_votes (d : Nat) (v1 : Int) (M : aM) : w_x_votes (d + 1) v1 M = (
    if (M 28 2) = 0 then
      some ([aI (-1)], M)
    else
      bndI (w_x_within d v1 1 M) fun y14 M13 =>
      if y14 = 0 then
        some ([aI (-1)], M13)
      else
        bndI (w_th_nearestHour d 28 M13) fun y16 M15 =>
        if v1 = 0 then
          some ([aI y16], M15)
        else
          bndI (w_th_farness d 28 y16 M15) fun y18 M17 =>
          some ([aI y18], M17)) :=
  (aOm_fix (aSem d) K_x_votes 0 _ [] M).trans rfl
set_option maxRecDepth 20000 in
theorem u_x_salts (d : Nat) (v1 : Int) (v2 : Int) (M : aM) : w_x_salts (d + 1) v1 v2 M = (
    if (M 2 5) = 0 then
      some ([aI (-1)], M)
    else
      if v1 < 1 then
        some ([aI (-1)], M)
      else
        if 20 < v1 then
          some ([aI (-1)], M)
        else
          if v2 = 0 then
            bndI (w_th_saltedSum d 1 v1 M) fun y15 M14 =>
            some ([aI y15], M14)
          else
            if v2 < 10 then
              some ([aI (-1)], M)
            else
              bndI (w_wood_has d 2 (w32 (v2 - 10)) M) fun y17 M16 =>
              if y17 = 0 then
                some ([aI (-1)], M16)
              else
                bndI (w_th_saltGiven d 1 v1 (w32 (v2 - 10)) M16) fun y19 M18 =>
                some ([aI y19], M18)) :=
  (aOm_fix (aSem d) K_x_salts 0 _ [] M).trans rfl
set_option maxRecDepth 20000 in
theorem u_x_nods (d : Nat) (v1 : Int) (v2 : Int) (M : aM) : w_x_nods (d + 1) v1 v2 M = (
    bndI (w_x_within d v1 5 M) fun y15 M14 =>
    if y15 = 0 then
      some ([aI (-1)], M14)
    else
      bndI (w_x_within d v2 5 M14) fun y17 M16 =>
      if y17 = 0 then
        some ([aI (-1)], M16)
      else
        bndI (w_wood_aliveWithMark d 2 v1 M16) fun y19 M18 =>
        if v1 = v2 then
          some ([aI (idiv (w32 (y19 * (w32 (y19 - 1)))) 2)], M18)
        else
          bndI (w_wood_aliveWithMark d 2 v2 M18) fun y21 M20 =>
          some ([aI (w32 (y19 * y21))], M20)) :=
  (aOm_fix (aSem d) K_x_nods 0 _ [] M).trans rfl
set_option maxRecDepth 20000 in
theorem u_x_game (d : Nat) (v1 : Int) (M : aM) : w_x_game (d + 1) v1 M = (
    bndI (w_x_within d v1 1 M) fun y14 M13 =>
    if y14 = 0 then
      some ([aI (-1)], M13)
    else
      bndI (w_th_antlersOf d 2 M13) fun y16 M15 =>
      if v1 = 0 then
        some ([aI y16], M15)
      else
        if y16 = (-1) then
          some ([aI y16], M15)
        else
          bndI (w_th_antlersTaken d 2 y16 M15) fun y18 M17 =>
          some ([aI y18], M17)) :=
  (aOm_fix (aSem d) K_x_game 0 _ [] M).trans rfl
set_option maxRecDepth 20000 in
theorem u_x_undo (d : Nat)  (M : aM) : w_x_undo (d + 1)  M = (
    bndI (w_acts_goBack d 1 M) fun y13 M12 =>
    aBool y13 <| some ([aI y13], M12)) :=
  (aOm_fix (aSem d) K_x_undo 0 _ [] M).trans rfl
set_option maxRecDepth 20000 in
theorem u_x_image (d : Nat) (v1 : Int) (M : aM) : w_x_image (d + 1) v1 M = (
    if v1 = 0 then
      if (M 0 9) = 0 then
        some ([aI 0], M)
      else
        bndV (w_world_copyFrom d 1 32 M) fun M13 =>
        bndV (w_acts_forget d M13) fun M14 =>
        some ([aI 1], M14)
    else
      bndV (w_world_copyFrom d 32 1 M) fun M15 =>
      let M16 : aM := aUp M15 0 9 1
      some ([aI 1], M16)) :=
  (aOm_fix (aSem d) K_x_image 0 _ [] M).trans rfl
set_option maxRecDepth 20000 in
theorem u_x_look (d : Nat) (v1 : Int) (M : aM) : w_x_look (d + 1) v1 M = (
    if v1 = 0 then
      some ([aI (M 2 4)], M)
    else
    if v1 = 1 then
      some ([aI (M 2 14)], M)
    else
    if v1 = 2 then
      some ([aI (M 2 11)], M)
    else
    if v1 = 3 then
      some ([aI (M 2 12)], M)
    else
    if v1 = 4 then
      some ([aI (M 2 13)], M)
    else
    if v1 = 5 then
      some ([aI (M 2 6)], M)
    else
    if v1 = 6 then
      some ([aI (M 2 7)], M)
    else
    if v1 = 7 then
      some ([aI (M 2 8)], M)
    else
    if v1 = 8 then
      some ([aI (M 2 5)], M)
    else
    if v1 = 9 then
      some ([aI (M 18 2)], M)
    else
    if v1 = 10 then
      some ([aI (M 2 15)], M)
    else
    if v1 = 11 then
      some ([aI (M 10 2)], M)
    else
    if v1 = 12 then
      some ([aI (M 12 2)], M)
    else
    if v1 = 13 then
      some ([aI (M 14 2)], M)
    else
    if v1 = 14 then
      some ([aI (M 16 2)], M)
    else
    if v1 = 15 then
      some ([aI (M 20 2)], M)
    else
    if v1 = 16 then
      some ([aI (M 22 2)], M)
    else
    if v1 = 17 then
      some ([aI (M 24 2)], M)
    else
    if v1 = 18 then
      some ([aI (M 26 2)], M)
    else
    if v1 = 19 then
      some ([aI (M 28 2)], M)
    else
    if v1 = 20 then
      some ([aI (M 94 3)], M)
    else
      some ([aI (-1000000)], M)) :=
  (aOm_fix (aSem d) K_x_look 0 _ [] M).trans rfl
set_option maxRecDepth 20000 in
theorem u_x_within (d : Nat) (v0 : Int) (v1 : Int) (M : aM) : w_x_within (d + 1) v0 v1 M = (
    if v0 < 0 then
      some ([aI 0], M)
    else
      if v1 < v0 then
        some ([aI 0], M)
      else
        some ([aI 1], M)) :=
  (aOm_fix (aSem d) K_x_within 0 _ [] M).trans rfl
set_option maxRecDepth 20000 in
theorem u_x_setWood (d : Nat) (v1 : Int) (v2 : Int) (M : aM) : w_x_setWood (d + 1) v1 v2 M = (
    if v1 = 0 then
      bndI (w_x_within d v2 99 M) fun y15 M14 =>
      if y15 = 0 then
        some ([aI 0], M14)
      else
        let M16 : aM := aUp M14 2 6 v2
        some ([aI 1], M16)
    else
    if v1 = 1 then
      bndI (w_x_within d v2 99 M) fun y18 M17 =>
      if y18 = 0 then
        some ([aI 0], M17)
      else
        let M19 : aM := aUp M17 2 7 v2
        some ([aI 1], M19)
    else
    if v1 = 2 then
      bndI (w_x_within d v2 1 M) fun y21 M20 =>
      if y21 = 0 then
        some ([aI 0], M20)
      else
        let M22 : aM := aUp M20 2 8 v2
        some ([aI 1], M22)
    else
    if v1 = 3 then
      bndI (w_x_within d v2 1000 M) fun y24 M23 =>
      if y24 = 0 then
        some ([aI 0], M23)
      else
        let M25 : aM := aUp M23 2 9 v2
        some ([aI 1], M25)
    else
    if v1 = 4 then
      bndI (w_x_within d v2 1000 M) fun y27 M26 =>
      if y27 = 0 then
        some ([aI 0], M26)
      else
        let M28 : aM := aUp M26 2 10 v2
        some ([aI 1], M28)
    else
      some ([aI 0], M)) :=
  (aOm_fix (aSem d) K_x_setWood 0 _ [] M).trans rfl
set_option maxRecDepth 20000 in
theorem u_x_setDeer (d : Nat) (v1 : Int) (v2 : Int) (v3 : Int) (M : aM) : w_x_setDeer (d + 1) v1 v2 v3 M = (
    bndI (w_wood_has d 2 v2 M) fun y16 M15 =>
    if y16 = 0 then
      some ([aI 0], M15)
    else
      if v1 = 5 then
        bndI (w_x_within d v3 5 M15) fun y18 M17 =>
        if y18 = 0 then
          some ([aI 0], M17)
        else
          inb v2 (aLen 3) <|
          let M19 : aM := aUp M17 3 v2.toNat v3
          some ([aI 1], M19)
      else
      if v1 = 6 then
        bndI (w_x_within d v3 9 M15) fun y21 M20 =>
        if y21 = 0 then
          some ([aI 0], M20)
        else
          inb v2 (aLen 4) <|
          let M22 : aM := aUp M20 4 v2.toNat v3
          some ([aI 1], M22)
      else
      if v1 = 7 then
        bndI (w_x_within d v3 999 M15) fun y24 M23 =>
        if y24 = 0 then
          some ([aI 0], M23)
        else
          inb v2 (aLen 5) <|
          let M25 : aM := aUp M23 5 v2.toNat v3
          some ([aI 1], M25)
      else
      if v1 = 8 then
        bndI (w_x_within d v3 999 M15) fun y27 M26 =>
        if y27 = 0 then
          some ([aI 0], M26)
        else
          inb v2 (aLen 6) <|
          let M28 : aM := aUp M26 6 v2.toNat v3
          some ([aI 1], M28)
      else
        some ([aI 0], M15)) :=
  (aOm_fix (aSem d) K_x_setDeer 0 _ [] M).trans rfl
set_option maxRecDepth 20000 in
theorem u_x_takeText (d : Nat) (v1 : Int) (M : aM) : w_x_takeText (d + 1) v1 M = (
    if v1 = 0 then
      bndV (w_law_copyFrom d 7 133 M) fun M13 =>
      some ([aI (M13 10 2)], M13)
    else
    if v1 = 1 then
      bndV (w_rows_copyFrom d 12 138 M) fun M14 =>
      bndV (w_acts_forget d M14) fun M15 =>
      some ([aI (M15 12 2)], M15)
    else
    if v1 = 2 then
      bndV (w_rows_copyFrom d 14 138 M) fun M16 =>
      let M17 : aM := aUp M16 2 16 0
      bndV (w_acts_forget d M17) fun M18 =>
      some ([aI (M18 14 2)], M18)
    else
      bndV (w_rows_copyFrom d 16 138 M) fun M19 =>
      some ([aI (M19 16 2)], M19)) :=
  (aOm_fix (aSem d) K_x_takeText 0 _ [] M).trans rfl
set_option maxRecDepth 20000 in
theorem u_x_likelyWithin (d : Nat) (v0 : Int) (v1 : Int) (M : aM) : w_x_likelyWithin (d + 1) v0 v1 M = (
    w_x_likelyWithin_7 d v0 v1 1000000 0 M) :=
  (aOm_fix (aSem d) K_x_likelyWithin 0 _ [] M).trans rfl
set_option maxRecDepth 20000 in
theorem u_x_likelyWithin_7 (d : Nat) (v0 : Int) (v1 : Int) (v2 : Int) (v4 : Int) (M : aM) : w_x_likelyWithin_7 d v0 v1 v2 v4 M = (
    if v4 < v1 then
      let v16 : Int := (w64 (v2 - (ldiv (w64 (v2 * v0)) 1000000)))
      let v17 : Int := w32 (v4 + 1)
      w_x_likelyWithin_7 d v0 v1 v16 v17 M
    else
      some ([aI (l2i (w64 (1000000 - v2)))], M)) :=
  (aOm_fix _ _ _ _ _ _).trans rfl
set_option maxRecDepth 20000 in
theorem u_m_isIn (d : Nat) (v0 : Int) (v1 : Int) (v2 : Int) (M : aM) : w_m_isIn (d + 1) v0 v1 v2 M = (
    if v0 < v1 then
      some ([aI 0], M)
    else
      if v2 < v0 then
        some ([aI 0], M)
      else
        some ([aI 1], M)) :=
  (aOm_fix (aSem d) K_m_isIn 0 _ [] M).trans rfl
set_option maxRecDepth 20000 in
theorem u_m_lesser (d : Nat) (v0 : Int) (v1 : Int) (M : aM) : w_m_lesser (d + 1) v0 v1 M = (
    if v0 < v1 then
      some ([aI v0], M)
    else
      some ([aI v1], M)) :=
  (aOm_fix (aSem d) K_m_lesser 0 _ [] M).trans rfl
set_option maxRecDepth 20000 in
theorem u_m_greater (d : Nat) (v0 : Int) (v1 : Int) (M : aM) : w_m_greater (d + 1) v0 v1 M = (
    if v1 < v0 then
      some ([aI v0], M)
    else
      some ([aI v1], M)) :=
  (aOm_fix (aSem d) K_m_greater 0 _ [] M).trans rfl
set_option maxRecDepth 20000 in
theorem u_m_size (d : Nat) (v0 : Int) (M : aM) : w_m_size (d + 1) v0 M = (
    if v0 < 0 then
      some ([aI (w32 (-v0))], M)
    else
      some ([aI v0], M)) :=
  (aOm_fix (aSem d) K_m_size 0 _ [] M).trans rfl
set_option maxRecDepth 20000 in
theorem u_m_isDeer (d : Nat) (v1 : Int) (M : aM) : w_m_isDeer (d + 1) v1 M = (
    inb 41 (aLen 158) <|
    bndI (w_m_isIn d v1 0 (w32 ((M 158 41) - 1)) M) fun y14 M13 =>
    aBool y14 <| some ([aI y14], M13)) :=
  (aOm_fix (aSem d) K_m_isDeer 0 _ [] M).trans rfl
set_option maxRecDepth 20000 in
theorem u_m_isAlive (d : Nat) (v1 : Int) (M : aM) : w_m_isAlive (d + 1) v1 M = (
    bndI (w_m_isDeer d v1 M) fun y14 M13 =>
    if y14 = 0 then
      some ([aI 0], M13)
    else
      inb 10 (aLen 158) <|
      if (iand (ishr (M13 158 10) v1) 1) = 1 then
        some ([aI 1], M13)
      else
        some ([aI 0], M13)) :=
  (aOm_fix (aSem d) K_m_isAlive 0 _ [] M).trans rfl
set_option maxRecDepth 20000 in
theorem u_m_count (d : Nat) (v0 : Int) (M : aM) : w_m_count (d + 1) v0 M = (
    w_m_count_4 d v0 0 0 M) :=
  (aOm_fix (aSem d) K_m_count 0 _ [] M).trans rfl
set_option maxRecDepth 20000 in
theorem u_m_count_4 (d : Nat) (v0 : Int) (v1 : Int) (v2 : Int) (M : aM) : w_m_count_4 d v0 v1 v2 M = (
    if v2 < 16 then
      let v14 : Int := (w32 (v1 + (iand (ishr v0 v2) 1)))
      let v15 : Int := w32 (v2 + 1)
      w_m_count_4 d v0 v14 v15 M
    else
      some ([aI v1], M)) :=
  (aOm_fix _ _ _ _ _ _).trans rfl
set_option maxRecDepth 20000 in
theorem u_m_forgets (d : Nat)  (M : aM) : w_m_forgets (d + 1)  M = (
    let M12 : aM := aUp M 157 4 0
    some ([], M12)) :=
  (aOm_fix (aSem d) K_m_forgets 0 _ [] M).trans rfl
set_option maxRecDepth 20000 in
theorem u_m_state (d : Nat) (v1 : Int) (M : aM) : w_m_state (d + 1) v1 M = (
    inb 7 (aLen 158) <|
    let v13 : Int := (M 158 7)
    inb 7 (aLen 158) <|
    let M14 : aM := aUp M 158 7 v1
    bndV (w_m_forgets d M14) fun M15 =>
    some ([aI v13], M15)) :=
  (aOm_fix (aSem d) K_m_state 0 _ [] M).trans rfl
set_option maxRecDepth 20000 in
theorem u_m_draw (d : Nat) (v1 : Int) (M : aM) : w_m_draw (d + 1) v1 M = (
    inb 7 (aLen 158) <|
    inb 7 (aLen 158) <|
    let M13 : aM := aUp M 158 7 (w32 ((w32 (1664525 * (M 158 7))) + 1013904223))
    inb 7 (aLen 158) <|
    if v1 = 0 then none else
    some ([aI (irem (iushr (M13 158 7) 8) v1)], M13)) :=
  (aOm_fix (aSem d) K_m_draw 0 _ [] M).trans rfl
set_option maxRecDepth 20000 in
theorem u_m_deer (d : Nat) (v1 : Int) (v2 : Int) (M : aM) : w_m_deer (d + 1) v1 v2 M = (
    bndI (w_m_isIn d v1 0 5 M) fun y15 M14 =>
    if y15 = 0 then
      some ([aI (-1)], M14)
    else
      bndI (w_m_isIn d v2 0 9 M14) fun y17 M16 =>
      if y17 = 0 then
        some ([aI (-1)], M16)
      else
        inb 41 (aLen 158) <|
        if (M16 158 41) = 10 then
          some ([aI (-1)], M16)
        else
          inb 41 (aLen 158) <|
          let v18 : Int := (M16 158 41)
          inb (w32 (53 + v18)) (aLen 158) <|
          let M19 : aM := aUp M16 158 (w32 (53 + v18)).toNat v1
          inb (w32 (11 + v18)) (aLen 158) <|
          let M20 : aM := aUp M19 158 (w32 (11 + v18)).toNat v2
          inb (w32 (21 + v18)) (aLen 158) <|
          let M21 : aM := aUp M20 158 (w32 (21 + v18)).toNat 0
          inb (w32 (31 + v18)) (aLen 158) <|
          let M22 : aM := aUp M21 158 (w32 (31 + v18)).toNat 0
          inb 10 (aLen 158) <|
          inb 10 (aLen 158) <|
          let M23 : aM := aUp M22 158 10 (ior (M22 158 10) (ishl 1 v18))
          inb 41 (aLen 158) <|
          inb 41 (aLen 158) <|
          let M24 : aM := aUp M23 158 41 (w32 ((M23 158 41) + 1))
          bndV (w_m_forgets d M24) fun M25 =>
          some ([aI v18], M25)) :=
  (aOm_fix (aSem d) K_m_deer 0 _ [] M).trans rfl
set_option maxRecDepth 20000 in
theorem u_m_canSet (d : Nat) (v1 : Int) (v2 : Int) (v3 : Int) (M : aM) : w_m_canSet (d + 1) v1 v2 v3 M = (
    if v1 = 0 then
      bndI (w_m_isIn d v3 0 99 M) fun y16 M15 =>
      aBool y16 <| some ([aI y16], M15)
    else
    if v1 = 1 then
      bndI (w_m_isIn d v3 0 99 M) fun y18 M17 =>
      aBool y18 <| some ([aI y18], M17)
    else
    if v1 = 2 then
      bndI (w_m_isIn d v3 0 1 M) fun y20 M19 =>
      aBool y20 <| some ([aI y20], M19)
    else
    if v1 = 3 then
      bndI (w_m_isIn d v3 0 1000 M) fun y22 M21 =>
      aBool y22 <| some ([aI y22], M21)
    else
    if v1 = 4 then
      bndI (w_m_isIn d v3 0 1000 M) fun y24 M23 =>
      aBool y24 <| some ([aI y24], M23)
    else
    if v1 = 5 then
      bndI (w_m_isDeer d v2 M) fun y26 M25 =>
      if y26 = 0 then
        some ([aI 0], M25)
      else
        bndI (w_m_isIn d v3 0 5 M25) fun y28 M27 =>
        if y28 = 0 then
          some ([aI 0], M27)
        else
          some ([aI 1], M27)
    else
    if v1 = 6 then
      bndI (w_m_isDeer d v2 M) fun y30 M29 =>
      if y30 = 0 then
        some ([aI 0], M29)
      else
        bndI (w_m_isIn d v3 0 9 M29) fun y32 M31 =>
        if y32 = 0 then
          some ([aI 0], M31)
        else
          some ([aI 1], M31)
    else
    if v1 = 7 then
      bndI (w_m_isDeer d v2 M) fun y34 M33 =>
      if y34 = 0 then
        some ([aI 0], M33)
      else
        bndI (w_m_isIn d v3 0 999 M33) fun y36 M35 =>
        if y36 = 0 then
          some ([aI 0], M35)
        else
          some ([aI 1], M35)
    else
    if v1 = 8 then
      bndI (w_m_isDeer d v2 M) fun y38 M37 =>
      if y38 = 0 then
        some ([aI 0], M37)
      else
        bndI (w_m_isIn d v3 0 999 M37) fun y40 M39 =>
        if y40 = 0 then
          some ([aI 0], M39)
        else
          some ([aI 1], M39)
    else
      some ([aI 0], M)) :=
  (aOm_fix (aSem d) K_m_canSet 0 _ [] M).trans rfl
set_option maxRecDepth 20000 in
theorem u_m_placeOf (d : Nat) (v0 : Int) (v1 : Int) (M : aM) : w_m_placeOf (d + 1) v0 v1 M = (
    if v0 = 0 then
      some ([aI 4], M)
    else
    if v0 = 1 then
      some ([aI 5], M)
    else
    if v0 = 2 then
      some ([aI 6], M)
    else
    if v0 = 3 then
      some ([aI 42], M)
    else
    if v0 = 4 then
      some ([aI 43], M)
    else
    if v0 = 5 then
      some ([aI (w32 (53 + v1))], M)
    else
    if v0 = 6 then
      some ([aI (w32 (11 + v1))], M)
    else
    if v0 = 7 then
      some ([aI (w32 (21 + v1))], M)
    else
      some ([aI (w32 (31 + v1))], M)) :=
  (aOm_fix (aSem d) K_m_placeOf 0 _ [] M).trans rfl
set_option maxRecDepth 20000 in
theorem u_m_set (d : Nat) (v1 : Int) (v2 : Int) (v3 : Int) (M : aM) : w_m_set (d + 1) v1 v2 v3 M = (
    bndI (w_m_canSet d v1 v2 v3 M) fun y16 M15 =>
    if y16 = 0 then
      some ([aI 0], M15)
    else
      bndI (w_m_placeOf d v1 v2 M15) fun y18 M17 =>
      inb y18 (aLen 158) <|
      let M19 : aM := aUp M17 158 y18.toNat v3
      bndV (w_m_forgets d M19) fun M20 =>
      some ([aI 1], M20)) :=
  (aOm_fix (aSem d) K_m_set 0 _ [] M).trans rfl
set_option maxRecDepth 20000 in
theorem u_m_feed (d : Nat) (v1 : Int) (v2 : Int) (v3 : Int) (v4 : Int) (v5 : Int) (M : aM) : w_m_feed (d + 1) v1 v2 v3 v4 v5 M = (
    if 400 < (w32 ((M 157 16) + 20)) then
      some ([aI (-1)], M)
    else
      w_m_feed_18 d v1 v2 v3 v4 v5 0 M) :=
  (aOm_fix (aSem d) K_m_feed 0 _ [] M).trans rfl
set_option maxRecDepth 20000 in
theorem u_m_feed_18 (d : Nat) (v1 : Int) (v2 : Int) (v3 : Int) (v4 : Int) (v5 : Int) (v6 : Int) (M : aM) : w_m_feed_18 d v1 v2 v3 v4 v5 v6 M = (
    if v6 < 20 then
      if v6 < 4 then
        inb (M 157 16) (aLen 165) <|
        let M19 : aM := aUp M 165 (M 157 16).toNat (iand (ishr v1 (w32 (24 - (w32 (8 * (irem v6 4)))))) 255)
        let M20 : aM := aUp M19 157 16 (w32 ((M19 157 16) + 1))
        let v21 : Int := w32 (v6 + 1)
        w_m_feed_18 d v1 v2 v3 v4 v5 v21 M20
      else
        if v6 < 8 then
          inb (M 157 16) (aLen 165) <|
          let M22 : aM := aUp M 165 (M 157 16).toNat (iand (ishr v2 (w32 (24 - (w32 (8 * (irem v6 4)))))) 255)
          let M23 : aM := aUp M22 157 16 (w32 ((M22 157 16) + 1))
          let v24 : Int := w32 (v6 + 1)
          w_m_feed_18 d v1 v2 v3 v4 v5 v24 M23
        else
          if v6 < 12 then
            inb (M 157 16) (aLen 165) <|
            let M25 : aM := aUp M 165 (M 157 16).toNat (iand (ishr v3 (w32 (24 - (w32 (8 * (irem v6 4)))))) 255)
            let M26 : aM := aUp M25 157 16 (w32 ((M25 157 16) + 1))
            let v27 : Int := w32 (v6 + 1)
            w_m_feed_18 d v1 v2 v3 v4 v5 v27 M26
          else
            if v6 < 16 then
              inb (M 157 16) (aLen 165) <|
              let M28 : aM := aUp M 165 (M 157 16).toNat (iand (ishr v4 (w32 (24 - (w32 (8 * (irem v6 4)))))) 255)
              let M29 : aM := aUp M28 157 16 (w32 ((M28 157 16) + 1))
              let v30 : Int := w32 (v6 + 1)
              w_m_feed_18 d v1 v2 v3 v4 v5 v30 M29
            else
              inb (M 157 16) (aLen 165) <|
              let M31 : aM := aUp M 165 (M 157 16).toNat (iand (ishr v5 (w32 (24 - (w32 (8 * (irem v6 4)))))) 255)
              let M32 : aM := aUp M31 157 16 (w32 ((M31 157 16) + 1))
              let v33 : Int := w32 (v6 + 1)
              w_m_feed_18 d v1 v2 v3 v4 v5 v33 M32
    else
      some ([aI (M 157 16)], M)) :=
  (aOm_fix _ _ _ _ _ _).trans rfl
set_option maxRecDepth 20000 in
theorem u_m_end (d : Nat) (v1 : Int) (M : aM) : w_m_end (d + 1) v1 M = (
    bndI (w_m_isIn d v1 0 (M 157 16) M) fun y14 M13 =>
    if y14 = 0 then
      some ([aI 0], M13)
    else
      let M15 : aM := aUp M13 157 16 v1
      some ([aI 1], M15)) :=
  (aOm_fix (aSem d) K_m_end 0 _ [] M).trans rfl
set_option maxRecDepth 20000 in
theorem u_m_see (d : Nat) (v1 : Int) (M : aM) : w_m_see (d + 1) v1 M = (
    if v1 < (M 157 16) then
      inb v1 (aLen 165) <|
      some ([aI (M 165 v1.toNat)], M)
    else
      some ([aI (-1)], M)) :=
  (aOm_fix (aSem d) K_m_see 0 _ [] M).trans rfl
set_option maxRecDepth 20000 in
theorem u_m_isLetter (d : Nat) (v0 : Int) (M : aM) : w_m_isLetter (d + 1) v0 M = (
    bndI (w_m_isIn d v0 97 122 M) fun y13 M12 =>
    if y13 = 0 then
      bndI (w_m_isIn d v0 65 90 M12) fun y15 M14 =>
      if y15 = 0 then
        some ([aI 0], M14)
      else
        some ([aI 1], M14)
    else
      some ([aI 1], M12)) :=
  (aOm_fix (aSem d) K_m_isLetter 0 _ [] M).trans rfl
set_option maxRecDepth 20000 in
theorem u_m_isDigit (d : Nat) (v0 : Int) (M : aM) : w_m_isDigit (d + 1) v0 M = (
    bndI (w_m_isIn d v0 48 57 M) fun y13 M12 =>
    aBool y13 <| some ([aI y13], M12)) :=
  (aOm_fix (aSem d) K_m_isDigit 0 _ [] M).trans rfl
set_option maxRecDepth 20000 in
theorem u_m_is (d : Nat) (a1 : Nat) (M : aM) : w_m_is (d + 1) a1 M = (
    bndI (w_js_length d a1 M) fun y14 M13 =>
    if (w32 ((M 157 17) - (M 157 19))) = y14 then
      w_m_is_24 d a1 1 0 M13
    else
      w_m_is_24 d a1 0 0 M13) :=
  (aOm_fix (aSem d) K_m_is 0 _ [] M).trans rfl
set_option maxRecDepth 20000 in
theorem u_m_is_24 (d : Nat) (a1 : Nat) (v2 : Int) (v3 : Int) (M : aM) : w_m_is_24 d a1 v2 v3 M = (
    bndI (w_js_length d a1 M) fun y16 M15 =>
    if v3 < y16 then
      if v2 = 0 then
        aBool v2 <| some ([aI v2], M15)
      else
        inb (w32 ((M15 157 19) + v3)) (aLen 165) <|
        bndI (w_js_charAt d a1 v3 M15) fun y18 M17 =>
        if (M15 165 (w32 ((M15 157 19) + v3)).toNat) = y18 then
          let v19 : Int := w32 (v3 + 1)
          w_m_is_24 d a1 1 v19 M17
        else
          let v20 : Int := w32 (v3 + 1)
          w_m_is_24 d a1 0 v20 M17
    else
      aBool v2 <| some ([aI v2], M15)) :=
  (aOm_fix _ _ _ _ _ _).trans rfl
set_option maxRecDepth 20000 in
theorem u_m_asked (d : Nat)  (M : aM) : w_m_asked (d + 1)  M = (
    bndI (w_m_is d 12 M) fun y13 M12 =>
    if y13 = 0 then
      bndI (w_m_is d 13 M12) fun y15 M14 =>
      if y15 = 0 then
        bndI (w_m_is d 14 M14) fun y17 M16 =>
        if y17 = 0 then
          bndI (w_m_is d 15 M16) fun y19 M18 =>
          if y19 = 0 then
            bndI (w_m_is d 16 M18) fun y21 M20 =>
            if y21 = 0 then
              bndI (w_m_is d 17 M20) fun y23 M22 =>
              if y23 = 0 then
                bndI (w_m_is d 18 M22) fun y25 M24 =>
                if y25 = 0 then
                  bndI (w_m_is d 19 M24) fun y27 M26 =>
                  if y27 = 0 then
                    bndI (w_m_is d 20 M26) fun y29 M28 =>
                    if y29 = 0 then
                      bndI (w_m_is d 21 M28) fun y31 M30 =>
                      if y31 = 0 then
                        some ([aI 1], M30)
                      else
                        some ([aI 50], M30)
                    else
                      some ([aI 49], M28)
                  else
                    some ([aI 48], M26)
                else
                  some ([aI 47], M24)
              else
                some ([aI 46], M22)
            else
              some ([aI 45], M20)
          else
            some ([aI 44], M18)
        else
          some ([aI 43], M16)
      else
        some ([aI 42], M14)
    else
      some ([aI 41], M12)) :=
  (aOm_fix (aSem d) K_m_asked 0 _ [] M).trans rfl
set_option maxRecDepth 20000 in
theorem u_m_lawWord (d : Nat)  (M : aM) : w_m_lawWord (d + 1)  M = (
    bndI (w_m_is d 5 M) fun y13 M12 =>
    if y13 = 0 then
      bndI (w_m_is d 6 M12) fun y15 M14 =>
      if y15 = 0 then
        bndI (w_m_is d 7 M14) fun y17 M16 =>
        if y17 = 0 then
          bndI (w_m_is d 8 M16) fun y19 M18 =>
          if y19 = 0 then
            bndI (w_m_is d 9 M18) fun y21 M20 =>
            if y21 = 0 then
              bndI (w_m_is d 10 M20) fun y23 M22 =>
              if y23 = 0 then
                bndI (w_m_is d 11 M22) fun y25 M24 =>
                if y25 = 0 then
                  bndI (w_m_asked d M24) fun y27 M26 =>
                  some ([aI y27], M26)
                else
                  some ([aI 22], M24)
              else
                some ([aI 21], M22)
            else
              some ([aI 20], M20)
          else
            some ([aI 6], M18)
        else
          some ([aI 5], M16)
      else
        some ([aI 4], M14)
    else
      some ([aI 3], M12)) :=
  (aOm_fix (aSem d) K_m_lawWord 0 _ [] M).trans rfl
set_option maxRecDepth 20000 in
theorem u_m_planWord (d : Nat)  (M : aM) : w_m_planWord (d + 1)  M = (
    bndI (w_m_is d 22 M) fun y13 M12 =>
    if y13 = 0 then
      bndI (w_m_is d 17 M12) fun y15 M14 =>
      if y15 = 0 then
        bndI (w_m_is d 18 M14) fun y17 M16 =>
        if y17 = 0 then
          bndI (w_m_is d 19 M16) fun y19 M18 =>
          if y19 = 0 then
            bndI (w_m_is d 23 M18) fun y21 M20 =>
            if y21 = 0 then
              bndI (w_m_is d 24 M20) fun y23 M22 =>
              if y23 = 0 then
                some ([aI 1], M22)
              else
                some ([aI 12], M22)
            else
              some ([aI 11], M20)
          else
            some ([aI 10], M18)
        else
          some ([aI 9], M16)
      else
        some ([aI 8], M14)
    else
      some ([aI 7], M12)) :=
  (aOm_fix (aSem d) K_m_planWord 0 _ [] M).trans rfl
set_option maxRecDepth 20000 in
theorem u_m_word (d : Nat)  (M : aM) : w_m_word (d + 1)  M = (
    if (M 157 12) = 0 then
      bndI (w_m_lawWord d M) fun y13 M12 =>
      some ([aI y13], M12)
    else
    if (M 157 12) = 1 then
      bndI (w_m_planWord d M) fun y15 M14 =>
      some ([aI y15], M14)
    else
    if (M 157 12) = 2 then
      bndI (w_m_is d 25 M) fun y17 M16 =>
      if y17 = 0 then
        bndI (w_m_is d 22 M16) fun y19 M18 =>
        if y19 = 0 then
          bndI (w_m_is d 26 M18) fun y21 M20 =>
          if y21 = 0 then
            some ([aI 1], M20)
          else
            some ([aI 14], M20)
        else
          some ([aI 7], M18)
      else
        some ([aI 13], M16)
    else
      bndI (w_m_is d 27 M) fun y23 M22 =>
      if y23 = 0 then
        bndI (w_m_is d 28 M22) fun y25 M24 =>
        if y25 = 0 then
          some ([aI 1], M24)
        else
          some ([aI 16], M24)
      else
        some ([aI 15], M22)) :=
  (aOm_fix (aSem d) K_m_word 0 _ [] M).trans rfl
set_option maxRecDepth 20000 in
theorem u_m_next0 (d : Nat)  (M : aM) : w_m_next0 (d + 1)  M = (
    bndI (w_m_see d (M 157 17) M) fun y13 M12 =>
    if y13 = 32 then
      let M14 : aM := aUp M12 157 17 (w32 ((M12 157 17) + 1))
      w_m_next0_0 d M14
    else
      bndI (w_m_see d (M12 157 17) M12) fun y16 M15 =>
      if y16 = 10 then
        let M17 : aM := aUp M15 157 17 (w32 ((M15 157 17) + 1))
        w_m_next0_0 d M17
      else
        let M18 : aM := aUp M15 157 19 (M15 157 17)
        bndI (w_m_see d (M18 157 17) M18) fun y20 M19 =>
        if y20 = (-1) then
          let M21 : aM := aUp M19 157 18 0
          some ([], M21)
        else
          bndI (w_m_isLetter d y20 M19) fun y23 M22 =>
          if y23 = 0 then
            bndI (w_m_isDigit d y20 M22) fun y25 M24 =>
            if y25 = 0 then
              let M26 : aM := aUp M24 157 17 (w32 ((M24 157 17) + 1))
              if y20 = 59 then
                w_m_next0_284 d y20 M26
              else
                if y20 = 43 then
                  w_m_next0_284 d y20 M26
                else
                  if y20 = 45 then
                    w_m_next0_284 d y20 M26
                  else
                    if y20 = 42 then
                      w_m_next0_284 d y20 M26
                    else
                      if y20 = 47 then
                        w_m_next0_284 d y20 M26
                      else
                        if y20 = 40 then
                          w_m_next0_284 d y20 M26
                        else
                          if y20 = 41 then
                            w_m_next0_284 d y20 M26
                          else
                            if y20 = 60 then
                              w_m_next0_284 d y20 M26
                            else
                              if y20 = 61 then
                                w_m_next0_284 d y20 M26
                              else
                                if y20 = 62 then
                                  w_m_next0_284 d y20 M26
                                else
                                  if (0 : Int) = 0 then
                                    let M27 : aM := aUp M26 157 18 1
                                    some ([], M27)
                                  else
                                    let M28 : aM := aUp M26 157 18 (w32 (100 + y20))
                                    some ([], M28)
            else
              let M29 : aM := aUp M24 157 20 0
              w_m_next0_126 d M29
          else
            w_m_next0_76 d M22) :=
  (aOm_fix (aSem d) K_m_next0 0 _ [] M).trans rfl
set_option maxRecDepth 20000 in
theorem u_m_next0_0 (d : Nat)  (M : aM) : w_m_next0_0 d  M = (
    bndI (w_m_see d (M 157 17) M) fun y15 M14 =>
    if y15 = 32 then
      let M16 : aM := aUp M14 157 17 (w32 ((M14 157 17) + 1))
      w_m_next0_0 d M16
    else
      bndI (w_m_see d (M14 157 17) M14) fun y18 M17 =>
      if y18 = 10 then
        let M19 : aM := aUp M17 157 17 (w32 ((M17 157 17) + 1))
        w_m_next0_0 d M19
      else
        let M20 : aM := aUp M17 157 19 (M17 157 17)
        bndI (w_m_see d (M20 157 17) M20) fun y22 M21 =>
        if y22 = (-1) then
          let M23 : aM := aUp M21 157 18 0
          some ([], M23)
        else
          bndI (w_m_isLetter d y22 M21) fun y25 M24 =>
          if y25 = 0 then
            bndI (w_m_isDigit d y22 M24) fun y27 M26 =>
            if y27 = 0 then
              let M28 : aM := aUp M26 157 17 (w32 ((M26 157 17) + 1))
              if y22 = 59 then
                w_m_next0_284 d y22 M28
              else
                if y22 = 43 then
                  w_m_next0_284 d y22 M28
                else
                  if y22 = 45 then
                    w_m_next0_284 d y22 M28
                  else
                    if y22 = 42 then
                      w_m_next0_284 d y22 M28
                    else
                      if y22 = 47 then
                        w_m_next0_284 d y22 M28
                      else
                        if y22 = 40 then
                          w_m_next0_284 d y22 M28
                        else
                          if y22 = 41 then
                            w_m_next0_284 d y22 M28
                          else
                            if y22 = 60 then
                              w_m_next0_284 d y22 M28
                            else
                              if y22 = 61 then
                                w_m_next0_284 d y22 M28
                              else
                                if y22 = 62 then
                                  w_m_next0_284 d y22 M28
                                else
                                  if (0 : Int) = 0 then
                                    let M29 : aM := aUp M28 157 18 1
                                    some ([], M29)
                                  else
                                    let M30 : aM := aUp M28 157 18 (w32 (100 + y22))
                                    some ([], M30)
            else
              let M31 : aM := aUp M26 157 20 0
              w_m_next0_126 d M31
          else
            w_m_next0_76 d M24) :=
  (aOm_fix _ _ _ _ _ _).trans rfl
set_option maxRecDepth 20000 in
theorem u_m_next0_76 (d : Nat)  (M : aM) : w_m_next0_76 d  M = (
    bndI (w_m_see d (M 157 17) M) fun y15 M14 =>
    bndI (w_m_isLetter d y15 M14) fun y17 M16 =>
    if y17 = 0 then
      bndI (w_m_word d M16) fun y19 M18 =>
      let M20 : aM := aUp M18 157 18 y19
      some ([], M20)
    else
      let M21 : aM := aUp M16 157 17 (w32 ((M16 157 17) + 1))
      w_m_next0_76 d M21) :=
  (aOm_fix _ _ _ _ _ _).trans rfl
set_option maxRecDepth 20000 in
theorem u_m_next0_126 (d : Nat)  (M : aM) : w_m_next0_126 d  M = (
    bndI (w_m_see d (M 157 17) M) fun y15 M14 =>
    bndI (w_m_isDigit d y15 M14) fun y17 M16 =>
    if y17 = 0 then
      if (w32 ((M16 157 17) - (M16 157 19))) < 5 then
        let M18 : aM := aUp M16 157 18 2
        some ([], M18)
      else
        let M19 : aM := aUp M16 157 18 1
        some ([], M19)
    else
      if (M16 157 17) < (w32 ((M16 157 19) + 4)) then
        bndI (w_m_see d (M16 157 17) M16) fun y21 M20 =>
        let M22 : aM := aUp M20 157 20 (w32 ((w32 ((w32 (10 * (M16 157 20))) + y21)) - 48))
        let M23 : aM := aUp M22 157 17 (w32 ((M22 157 17) + 1))
        w_m_next0_126 d M23
      else
        let M24 : aM := aUp M16 157 17 (w32 ((M16 157 17) + 1))
        w_m_next0_126 d M24) :=
  (aOm_fix _ _ _ _ _ _).trans rfl
set_option maxRecDepth 20000 in
theorem u_m_next0_284 (d : Nat) (v1 : Int) (M : aM) : w_m_next0_284 d v1 M = (
    if (1 : Int) = 0 then
      let M14 : aM := aUp M 157 18 1
      some ([], M14)
    else
      let M15 : aM := aUp M 157 18 (w32 (100 + v1))
      some ([], M15)) :=
  (aOm_fix _ _ _ _ _ _).trans rfl
set_option maxRecDepth 20000 in
theorem u_m_bad (d : Nat) (v1 : Int) (M : aM) : w_m_bad (d + 1) v1 M = (
    let M13 : aM := aUp M 157 21 v1
    let M14 : aM := aUp M13 157 22 (M13 157 19)
    some ([aI 0], M14)) :=
  (aOm_fix (aSem d) K_m_bad 0 _ [] M).trans rfl
set_option maxRecDepth 20000 in
theorem u_m_need (d : Nat) (v1 : Int) (M : aM) : w_m_need (d + 1) v1 M = (
    if (M 157 18) = v1 then
      bndV (w_m_next0 d M) fun M13 =>
      some ([aI 1], M13)
    else
      bndI (w_m_bad d 1 M) fun y15 M14 =>
      aBool y15 <| some ([aI y15], M14)) :=
  (aOm_fix (aSem d) K_m_need 0 _ [] M).trans rfl
set_option maxRecDepth 20000 in
theorem u_m_lay (d : Nat) (v1 : Int) (v2 : Int) (M : aM) : w_m_lay (d + 1) v1 v2 M = (
    inb (w32 (2 * (M 157 14))) (aLen 163) <|
    let M14 : aM := aUp M 163 (w32 (2 * (M 157 14))).toNat v1
    inb (w32 ((w32 (2 * (M14 157 14))) + 1)) (aLen 163) <|
    let M15 : aM := aUp M14 163 (w32 ((w32 (2 * (M14 157 14))) + 1)).toNat v2
    let M16 : aM := aUp M15 157 14 (w32 ((M15 157 14) + 1))
    some ([], M16)) :=
  (aOm_fix (aSem d) K_m_lay 0 _ [] M).trans rfl
set_option maxRecDepth 20000 in
theorem u_m_opens (d : Nat)  (M : aM) : w_m_opens (d + 1)  M = (
    if (M 157 24) = 8 then
      bndI (w_m_bad d 3 M) fun y13 M12 =>
      aBool y13 <| some ([aI y13], M12)
    else
      let M14 : aM := aUp M 157 24 (w32 ((M 157 24) + 1))
      bndV (w_m_next0 d M14) fun M15 =>
      some ([aI 1], M15)) :=
  (aOm_fix (aSem d) K_m_opens 0 _ [] M).trans rfl
set_option maxRecDepth 20000 in
theorem u_m_sumUp (d : Nat)  (M : aM) : w_m_sumUp (d + 1)  M = (
    bndI (w_m_product d M) fun y13 M12 =>
    if y13 = 0 then
      some ([aI 0], M12)
    else
      w_m_sumUp_9 d M12) :=
  (aOm_fix (aSem d) K_m_sumUp 0 _ [] M).trans rfl
set_option maxRecDepth 20000 in
theorem u_m_sumUp_9 (d : Nat)  (M : aM) : w_m_sumUp_9 d  M = (
    if (M 157 18) = 143 then
      w_m_sumUp_29 d M
    else
      if (M 157 18) = 145 then
        w_m_sumUp_29 d M
      else
        some ([aI 1], M)) :=
  (aOm_fix _ _ _ _ _ _).trans rfl
set_option maxRecDepth 20000 in
theorem u_m_sumUp_29 (d : Nat)  (M : aM) : w_m_sumUp_29 d  M = (
    if (M 157 18) = 143 then
      bndV (w_m_next0 d M) fun M13 =>
      bndI (w_m_product d M13) fun y15 M14 =>
      if y15 = 0 then
        some ([aI 0], M14)
      else
        bndV (w_m_lay d 23 0 M14) fun M16 =>
        w_m_sumUp_9 d M16
    else
      bndV (w_m_next0 d M) fun M17 =>
      bndI (w_m_product d M17) fun y19 M18 =>
      if y19 = 0 then
        some ([aI 0], M18)
      else
        bndV (w_m_lay d 24 0 M18) fun M20 =>
        w_m_sumUp_9 d M20) :=
  (aOm_fix _ _ _ _ _ _).trans rfl
set_option maxRecDepth 20000 in
theorem u_m_product (d : Nat)  (M : aM) : w_m_product (d + 1)  M = (
    bndI (w_m_unit d M) fun y13 M12 =>
    if y13 = 0 then
      some ([aI 0], M12)
    else
      w_m_product_9 d M12) :=
  (aOm_fix (aSem d) K_m_product 0 _ [] M).trans rfl
set_option maxRecDepth 20000 in
theorem u_m_product_9 (d : Nat)  (M : aM) : w_m_product_9 d  M = (
    if (M 157 18) = 142 then
      w_m_product_29 d M
    else
      if (M 157 18) = 147 then
        w_m_product_29 d M
      else
        some ([aI 1], M)) :=
  (aOm_fix _ _ _ _ _ _).trans rfl
set_option maxRecDepth 20000 in
theorem u_m_product_29 (d : Nat)  (M : aM) : w_m_product_29 d  M = (
    if (M 157 18) = 147 then
      bndV (w_m_next0 d M) fun M14 =>
      if (1 : Int) = 0 then
        bndI (w_m_unit d M14) fun y16 M15 =>
        if y16 = 0 then
          some ([aI 0], M15)
        else
          bndV (w_m_lay d 25 0 M15) fun M17 =>
          w_m_product_9 d M17
      else
        let v18 : Int := (M14 157 20)
        if (M14 157 18) = 2 then
          if v18 = 0 then
            bndI (w_m_bad d 2 M14) fun y20 M19 =>
            aBool y20 <| some ([aI y20], M19)
          else
            bndV (w_m_next0 d M14) fun M21 =>
            bndV (w_m_lay d 26 v18 M21) fun M22 =>
            w_m_product_9 d M22
        else
          bndI (w_m_bad d 1 M14) fun y24 M23 =>
          aBool y24 <| some ([aI y24], M23)
    else
      bndV (w_m_next0 d M) fun M25 =>
      if (0 : Int) = 0 then
        bndI (w_m_unit d M25) fun y27 M26 =>
        if y27 = 0 then
          some ([aI 0], M26)
        else
          bndV (w_m_lay d 25 0 M26) fun M28 =>
          w_m_product_9 d M28
      else
        let v29 : Int := (M25 157 20)
        if (M25 157 18) = 2 then
          if v29 = 0 then
            bndI (w_m_bad d 2 M25) fun y31 M30 =>
            aBool y31 <| some ([aI y31], M30)
          else
            bndV (w_m_next0 d M25) fun M32 =>
            bndV (w_m_lay d 26 v29 M32) fun M33 =>
            w_m_product_9 d M33
        else
          bndI (w_m_bad d 1 M25) fun y35 M34 =>
          aBool y35 <| some ([aI y35], M34)) :=
  (aOm_fix _ _ _ _ _ _).trans rfl
set_option maxRecDepth 20000 in
theorem u_m_unit (d : Nat)  (M : aM) : w_m_unit (d + 1)  M = (
    bndI (w_m_isIn d (M 157 18) 41 50 M) fun y13 M12 =>
    if (M12 157 18) = 2 then
      if y13 = 0 then
        bndV (w_m_lay d 0 (M12 157 20) M12) fun M14 =>
        bndV (w_m_next0 d M14) fun M15 =>
        some ([aI 1], M15)
      else
        bndV (w_m_lay d (w32 ((M12 157 18) - 40)) (M12 157 20) M12) fun M16 =>
        bndV (w_m_next0 d M16) fun M17 =>
        some ([aI 1], M17)
    else
      if y13 = 0 then
        bndI (w_m_bad d 1 M12) fun y19 M18 =>
        aBool y19 <| some ([aI y19], M18)
      else
        if y13 = 0 then
          bndV (w_m_lay d 0 (M12 157 20) M12) fun M20 =>
          bndV (w_m_next0 d M20) fun M21 =>
          some ([aI 1], M21)
        else
          bndV (w_m_lay d (w32 ((M12 157 18) - 40)) (M12 157 20) M12) fun M22 =>
          bndV (w_m_next0 d M22) fun M23 =>
          some ([aI 1], M23)) :=
  (aOm_fix (aSem d) K_m_unit 0 _ [] M).trans rfl
set_option maxRecDepth 20000 in
theorem u_m_any (d : Nat)  (M : aM) : w_m_any (d + 1)  M = (
    bndI (w_m_every d M) fun y13 M12 =>
    if y13 = 0 then
      some ([aI 0], M12)
    else
      w_m_any_9 d M12) :=
  (aOm_fix (aSem d) K_m_any 0 _ [] M).trans rfl
set_option maxRecDepth 20000 in
theorem u_m_any_9 (d : Nat)  (M : aM) : w_m_any_9 d  M = (
    if (M 157 18) = 4 then
      bndV (w_m_next0 d M) fun M12 =>
      bndI (w_m_every d M12) fun y14 M13 =>
      if y14 = 0 then
        some ([aI 0], M13)
      else
        bndV (w_m_lay d 32 0 M13) fun M15 =>
        w_m_any_9 d M15
    else
      some ([aI 1], M)) :=
  (aOm_fix _ _ _ _ _ _).trans rfl
set_option maxRecDepth 20000 in
theorem u_m_every (d : Nat)  (M : aM) : w_m_every (d + 1)  M = (
    bndI (w_m_oneTest d M) fun y13 M12 =>
    if y13 = 0 then
      some ([aI 0], M12)
    else
      w_m_every_9 d M12) :=
  (aOm_fix (aSem d) K_m_every 0 _ [] M).trans rfl
set_option maxRecDepth 20000 in
theorem u_m_every_9 (d : Nat)  (M : aM) : w_m_every_9 d  M = (
    if (M 157 18) = 5 then
      bndV (w_m_next0 d M) fun M12 =>
      bndI (w_m_oneTest d M12) fun y14 M13 =>
      if y14 = 0 then
        some ([aI 0], M13)
      else
        bndV (w_m_lay d 31 0 M13) fun M15 =>
        w_m_every_9 d M15
    else
      some ([aI 1], M)) :=
  (aOm_fix _ _ _ _ _ _).trans rfl
set_option maxRecDepth 20000 in
theorem u_m_oneTest (d : Nat)  (M : aM) : w_m_oneTest (d + 1)  M = (
    if (M 157 18) = 6 then
      bndI (w_m_opens d M) fun y13 M12 =>
      if y13 = 0 then
        some ([aI 0], M12)
      else
        bndI (w_m_oneTest d M12) fun y15 M14 =>
        if y15 = 0 then
          some ([aI 0], M14)
        else
          let M16 : aM := aUp M14 157 24 (w32 ((M14 157 24) - 1))
          bndV (w_m_lay d 30 0 M16) fun M17 =>
          some ([aI 1], M17)
    else
      if (M 157 18) = 140 then
        bndI (w_m_opens d M) fun y19 M18 =>
        if y19 = 0 then
          some ([aI 0], M18)
        else
          bndI (w_m_any d M18) fun y21 M20 =>
          if y21 = 0 then
            some ([aI 0], M20)
          else
            bndI (w_m_need d 141 M20) fun y23 M22 =>
            if y23 = 0 then
              some ([aI 0], M22)
            else
              let M24 : aM := aUp M22 157 24 (w32 ((M22 157 24) - 1))
              some ([aI 1], M24)
      else
        bndI (w_m_sumUp d M) fun y26 M25 =>
        if y26 = 0 then
          some ([aI 0], M25)
        else
          if (M25 157 18) = 160 then
            if (27 : Int) = (-1) then
              bndI (w_m_bad d 1 M25) fun y28 M27 =>
              aBool y28 <| some ([aI y28], M27)
            else
              bndV (w_m_next0 d M25) fun M29 =>
              bndI (w_m_sumUp d M29) fun y31 M30 =>
              if y31 = 0 then
                some ([aI 0], M30)
              else
                bndV (w_m_lay d 27 0 M30) fun M32 =>
                some ([aI 1], M32)
          else
            if (M25 157 18) = 161 then
              if (28 : Int) = (-1) then
                bndI (w_m_bad d 1 M25) fun y34 M33 =>
                aBool y34 <| some ([aI y34], M33)
              else
                bndV (w_m_next0 d M25) fun M35 =>
                bndI (w_m_sumUp d M35) fun y37 M36 =>
                if y37 = 0 then
                  some ([aI 0], M36)
                else
                  bndV (w_m_lay d 28 0 M36) fun M38 =>
                  some ([aI 1], M38)
            else
              if (M25 157 18) = 162 then
                if (29 : Int) = (-1) then
                  bndI (w_m_bad d 1 M25) fun y40 M39 =>
                  aBool y40 <| some ([aI y40], M39)
                else
                  bndV (w_m_next0 d M25) fun M41 =>
                  bndI (w_m_sumUp d M41) fun y43 M42 =>
                  if y43 = 0 then
                    some ([aI 0], M42)
                  else
                    bndV (w_m_lay d 29 0 M42) fun M44 =>
                    some ([aI 1], M44)
              else
                if ((-1) : Int) = (-1) then
                  bndI (w_m_bad d 1 M25) fun y46 M45 =>
                  aBool y46 <| some ([aI y46], M45)
                else
                  bndV (w_m_next0 d M25) fun M47 =>
                  bndI (w_m_sumUp d M47) fun y49 M48 =>
                  if y49 = 0 then
                    some ([aI 0], M48)
                  else
                    bndV (w_m_lay d (-1) 0 M48) fun M50 =>
                    some ([aI 1], M50)) :=
  (aOm_fix (aSem d) K_m_oneTest 0 _ [] M).trans rfl
set_option maxRecDepth 20000 in
theorem u_m_aLine (d : Nat)  (M : aM) : w_m_aLine (d + 1)  M = (
    bndI (w_m_isIn d (M 157 18) 20 22 M) fun y13 M12 =>
    if y13 = 0 then
      bndI (w_m_bad d 1 M12) fun y15 M14 =>
      aBool y15 <| some ([aI y15], M14)
    else
      if (M12 157 13) = 16 then
        bndI (w_m_bad d 3 M12) fun y17 M16 =>
        aBool y17 <| some ([aI y17], M16)
      else
        let M18 : aM := aUp M12 157 24 0
        inb (w32 ((w32 (4 * (M18 157 13))) + 3)) (aLen 162) <|
        let M19 : aM := aUp M18 162 (w32 ((w32 (4 * (M18 157 13))) + 3)).toNat (M18 157 18)
        bndV (w_m_next0 d M19) fun M20 =>
        inb (w32 (4 * (M20 157 13))) (aLen 162) <|
        let M21 : aM := aUp M20 162 (w32 (4 * (M20 157 13))).toNat (M20 157 14)
        bndI (w_m_sumUp d M21) fun y23 M22 =>
        if y23 = 0 then
          some ([aI 0], M22)
        else
          inb (w32 ((w32 (4 * (M22 157 13))) + 1)) (aLen 162) <|
          let M24 : aM := aUp M22 162 (w32 ((w32 (4 * (M22 157 13))) + 1)).toNat (M22 157 14)
          if (M24 157 18) = 3 then
            bndV (w_m_next0 d M24) fun M25 =>
            bndI (w_m_any d M25) fun y27 M26 =>
            if y27 = 0 then
              some ([aI 0], M26)
            else
              inb (w32 ((w32 (4 * (M26 157 13))) + 2)) (aLen 162) <|
              let M28 : aM := aUp M26 162 (w32 ((w32 (4 * (M26 157 13))) + 2)).toNat (M26 157 14)
              bndI (w_m_need d 159 M28) fun y30 M29 =>
              aBool y30 <| some ([aI y30], M29)
          else
            inb (w32 ((w32 (4 * (M24 157 13))) + 2)) (aLen 162) <|
            let M31 : aM := aUp M24 162 (w32 ((w32 (4 * (M24 157 13))) + 2)).toNat (M24 157 14)
            bndI (w_m_need d 159 M31) fun y33 M32 =>
            aBool y33 <| some ([aI y33], M32)) :=
  (aOm_fix (aSem d) K_m_aLine 0 _ [] M).trans rfl
set_option maxRecDepth 20000 in
theorem u_m_readsLaw (d : Nat)  (M : aM) : w_m_readsLaw (d + 1)  M = (
    let M12 : aM := aUp M 157 13 0
    let M13 : aM := aUp M12 157 14 0
    w_m_readsLaw_12 d 1 M13) :=
  (aOm_fix (aSem d) K_m_readsLaw 0 _ [] M).trans rfl
set_option maxRecDepth 20000 in
theorem u_m_readsLaw_12 (d : Nat) (v1 : Int) (M : aM) : w_m_readsLaw_12 d v1 M = (
    if v1 = 0 then
      aBool v1 <| some ([aI v1], M)
    else
      if (M 157 18) = 0 then
        aBool v1 <| some ([aI v1], M)
      else
        bndI (w_m_aLine d M) fun y14 M13 =>
        if y14 = 0 then
          let M15 : aM := aUp M13 157 13 (w32 ((M13 157 13) + 0))
          w_m_readsLaw_12 d y14 M15
        else
          let M16 : aM := aUp M13 157 13 (w32 ((M13 157 13) + 1))
          w_m_readsLaw_12 d y14 M16) :=
  (aOm_fix _ _ _ _ _ _).trans rfl
set_option maxRecDepth 20000 in
theorem u_m_number (d : Nat) (v1 : Int) (v2 : Int) (v3 : Int) (M : aM) : w_m_number (d + 1) v1 v2 v3 M = (
    if (M 157 18) = 2 then
      bndI (w_m_isIn d (M 157 20) v2 v3 M) fun y16 M15 =>
      if y16 = 0 then
        bndI (w_m_bad d 2 M15) fun y18 M17 =>
        aBool y18 <| some ([aI y18], M17)
      else
        inb v1 (aLen 164) <|
        let M19 : aM := aUp M15 164 v1.toNat (M15 157 20)
        bndV (w_m_next0 d M19) fun M20 =>
        some ([aI 1], M20)
    else
      bndI (w_m_bad d 1 M) fun y22 M21 =>
      aBool y22 <| some ([aI y22], M21)) :=
  (aOm_fix (aSem d) K_m_number 0 _ [] M).trans rfl
set_option maxRecDepth 20000 in
theorem u_m_told (d : Nat) (v1 : Int) (v2 : Int) (v3 : Int) (v4 : Int) (M : aM) : w_m_told (d + 1) v1 v2 v3 v4 M = (
    bndI (w_m_need d v2 M) fun y17 M16 =>
    if y17 = 0 then
      some ([aI 0], M16)
    else
      bndI (w_m_number d v1 v3 v4 M16) fun y19 M18 =>
      if y19 = 0 then
        some ([aI 0], M18)
      else
        some ([aI 1], M18)) :=
  (aOm_fix (aSem d) K_m_told 0 _ [] M).trans rfl
set_option maxRecDepth 20000 in
theorem u_m_aPlan (d : Nat)  (M : aM) : w_m_aPlan (d + 1)  M = (
    let v12 : Int := (w32 (3 * (M 157 15)))
    bndI (w_m_told d v12 7 0 999 M) fun y14 M13 =>
    if y14 = 0 then
      some ([aI 0], M13)
    else
      bndI (w_m_isIn d (M13 157 18) 8 12 M13) fun y16 M15 =>
      if y16 = 0 then
        bndI (w_m_bad d 1 M15) fun y18 M17 =>
        aBool y18 <| some ([aI y18], M17)
      else
        let v19 : Int := (M15 157 18)
        inb (w32 (v12 + 1)) (aLen 164) <|
        let M20 : aM := aUp M15 164 (w32 (v12 + 1)).toNat v19
        inb (w32 (v12 + 2)) (aLen 164) <|
        let M21 : aM := aUp M20 164 (w32 (v12 + 2)).toNat 0
        bndV (w_m_next0 d M21) fun M22 =>
        if v19 = 10 then
          some ([aI 1], M22)
        else
          if v19 = 8 then
            bndI (w_m_number d (w32 (v12 + 2)) 0 99 M22) fun y24 M23 =>
            if y24 = 0 then
              some ([aI 0], M23)
            else
              some ([aI 1], M23)
          else
            if v19 = 9 then
              bndI (w_m_number d (w32 (v12 + 2)) 0 99 M22) fun y26 M25 =>
              if y26 = 0 then
                some ([aI 0], M25)
              else
                some ([aI 1], M25)
            else
              inb 41 (aLen 158) <|
              bndI (w_m_number d (w32 (v12 + 2)) 0 (w32 ((M22 158 41) - 1)) M22) fun y28 M27 =>
              if y28 = 0 then
                some ([aI 0], M27)
              else
                some ([aI 1], M27)) :=
  (aOm_fix (aSem d) K_m_aPlan 0 _ [] M).trans rfl
set_option maxRecDepth 20000 in
theorem u_m_aDue (d : Nat)  (M : aM) : w_m_aDue (d + 1)  M = (
    let v12 : Int := (w32 (3 * (M 157 15)))
    bndI (w_m_told d v12 13 1 999 M) fun y14 M13 =>
    if y14 = 0 then
      some ([aI 0], M13)
    else
      inb 41 (aLen 158) <|
      bndI (w_m_told d (w32 (v12 + 1)) 7 0 (w32 ((M13 158 41) - 1)) M13) fun y16 M15 =>
      if y16 = 0 then
        some ([aI 0], M15)
      else
        inb (w32 (v12 + 2)) (aLen 164) <|
        let M17 : aM := aUp M15 164 (w32 (v12 + 2)).toNat (-1)
        if (M17 157 18) = 14 then
          bndI (w_m_told d (w32 (v12 + 2)) 14 0 999 M17) fun y19 M18 =>
          if y19 = 0 then
            some ([aI 0], M18)
          else
            some ([aI 1], M18)
        else
          some ([aI 1], M17)) :=
  (aOm_fix (aSem d) K_m_aDue 0 _ [] M).trans rfl
set_option maxRecDepth 20000 in
theorem u_m_aFeast (d : Nat)  (M : aM) : w_m_aFeast (d + 1)  M = (
    bndI (w_m_told d (w32 (2 * (M 157 15))) 15 0 30 M) fun y13 M12 =>
    if y13 = 0 then
      some ([aI 0], M12)
    else
      bndI (w_m_told d (w32 ((w32 (2 * (M12 157 15))) + 1)) 16 0 9 M12) fun y15 M14 =>
      if y15 = 0 then
        some ([aI 0], M14)
      else
        some ([aI 1], M14)) :=
  (aOm_fix (aSem d) K_m_aFeast 0 _ [] M).trans rfl
set_option maxRecDepth 20000 in
theorem u_m_aRow (d : Nat)  (M : aM) : w_m_aRow (d + 1)  M = (
    if (M 157 12) = 1 then
      bndI (w_m_aPlan d M) fun y13 M12 =>
      if y13 = 0 then
        some ([aI 0], M12)
      else
        bndI (w_m_need d 159 M12) fun y15 M14 =>
        if y15 = 0 then
          some ([aI 0], M14)
        else
          some ([aI 1], M14)
    else
      if (M 157 12) = 2 then
        bndI (w_m_aDue d M) fun y17 M16 =>
        if y17 = 0 then
          some ([aI 0], M16)
        else
          bndI (w_m_need d 159 M16) fun y19 M18 =>
          if y19 = 0 then
            some ([aI 0], M18)
          else
            some ([aI 1], M18)
      else
        bndI (w_m_aFeast d M) fun y21 M20 =>
        if y21 = 0 then
          some ([aI 0], M20)
        else
          bndI (w_m_need d 159 M20) fun y23 M22 =>
          if y23 = 0 then
            some ([aI 0], M22)
          else
            some ([aI 1], M22)) :=
  (aOm_fix (aSem d) K_m_aRow 0 _ [] M).trans rfl
set_option maxRecDepth 20000 in
theorem u_m_readsRows (d : Nat)  (M : aM) : w_m_readsRows (d + 1)  M = (
    let M12 : aM := aUp M 157 15 0
    if (M12 157 12) = 1 then
      w_m_readsRows_36 d 7 1 M12
    else
      if (M12 157 12) = 2 then
        w_m_readsRows_36 d 13 1 M12
      else
        w_m_readsRows_36 d 15 1 M12) :=
  (aOm_fix (aSem d) K_m_readsRows 0 _ [] M).trans rfl
set_option maxRecDepth 20000 in
theorem u_m_readsRows_36 (d : Nat) (v1 : Int) (v2 : Int) (M : aM) : w_m_readsRows_36 d v1 v2 M = (
    if v2 = 0 then
      aBool v2 <| some ([aI v2], M)
    else
      if (M 157 18) = 0 then
        aBool v2 <| some ([aI v2], M)
      else
        if (M 157 18) = v1 then
          if (M 157 12) = 3 then
            if (M 157 15) = 8 then
              bndI (w_m_bad d 3 M) fun y15 M14 =>
              aBool y15 <| some ([aI y15], M14)
            else
              bndI (w_m_aRow d M) fun y17 M16 =>
              if y17 = 0 then
                let M18 : aM := aUp M16 157 15 (w32 ((M16 157 15) + 0))
                w_m_readsRows_36 d v1 y17 M18
              else
                let M19 : aM := aUp M16 157 15 (w32 ((M16 157 15) + 1))
                w_m_readsRows_36 d v1 y17 M19
          else
            if (M 157 15) = 16 then
              bndI (w_m_bad d 3 M) fun y21 M20 =>
              aBool y21 <| some ([aI y21], M20)
            else
              bndI (w_m_aRow d M) fun y23 M22 =>
              if y23 = 0 then
                let M24 : aM := aUp M22 157 15 (w32 ((M22 157 15) + 0))
                w_m_readsRows_36 d v1 y23 M24
              else
                let M25 : aM := aUp M22 157 15 (w32 ((M22 157 15) + 1))
                w_m_readsRows_36 d v1 y23 M25
        else
          bndI (w_m_bad d 1 M) fun y27 M26 =>
          aBool y27 <| some ([aI y27], M26)) :=
  (aOm_fix _ _ _ _ _ _).trans rfl
set_option maxRecDepth 20000 in
theorem u_m_putsLaw (d : Nat)  (M : aM) : w_m_putsLaw (d + 1)  M = (
    inb 44 (aLen 158) <|
    let M12 : aM := aUp M 158 44 (M 157 13)
    w_m_putsLaw_13 d 0 M12) :=
  (aOm_fix (aSem d) K_m_putsLaw 0 _ [] M).trans rfl
set_option maxRecDepth 20000 in
theorem u_m_putsLaw_13 (d : Nat) (v1 : Int) (M : aM) : w_m_putsLaw_13 d v1 M = (
    if v1 < (M 157 13) then
      inb (w32 (4 * v1)) (aLen 162) <|
      inb (w32 (884 + v1)) (aLen 158) <|
      let M13 : aM := aUp M 158 (w32 (884 + v1)).toNat (M 162 (w32 (4 * v1)).toNat)
      inb (w32 ((w32 (4 * v1)) + 1)) (aLen 162) <|
      inb (w32 (900 + v1)) (aLen 158) <|
      let M14 : aM := aUp M13 158 (w32 (900 + v1)).toNat (M13 162 (w32 ((w32 (4 * v1)) + 1)).toNat)
      inb (w32 ((w32 (4 * v1)) + 2)) (aLen 162) <|
      inb (w32 (916 + v1)) (aLen 158) <|
      let M15 : aM := aUp M14 158 (w32 (916 + v1)).toNat (M14 162 (w32 ((w32 (4 * v1)) + 2)).toNat)
      inb (w32 ((w32 (4 * v1)) + 3)) (aLen 162) <|
      inb (w32 (932 + v1)) (aLen 158) <|
      let M16 : aM := aUp M15 158 (w32 (932 + v1)).toNat (M15 162 (w32 ((w32 (4 * v1)) + 3)).toNat)
      let v17 : Int := w32 (v1 + 1)
      w_m_putsLaw_13 d v17 M16
    else
      w_m_putsLaw_107 d 0 M) :=
  (aOm_fix _ _ _ _ _ _).trans rfl
set_option maxRecDepth 20000 in
theorem u_m_putsLaw_107 (d : Nat) (v1 : Int) (M : aM) : w_m_putsLaw_107 d v1 M = (
    if v1 < (w32 (2 * (M 157 14))) then
      inb v1 (aLen 163) <|
      inb (w32 (948 + v1)) (aLen 158) <|
      let M13 : aM := aUp M 158 (w32 (948 + v1)).toNat (M 163 v1.toNat)
      let v14 : Int := w32 (v1 + 1)
      w_m_putsLaw_107 d v14 M13
    else
      some ([aI (M 157 13)], M)) :=
  (aOm_fix _ _ _ _ _ _).trans rfl
set_option maxRecDepth 20000 in
theorem u_m_puts (d : Nat) (v1 : Int) (v2 : Int) (v3 : Int) (M : aM) : w_m_puts (d + 1) v1 v2 v3 M = (
    inb v1 (aLen 158) <|
    let M15 : aM := aUp M 158 v1.toNat (M 157 15)
    w_m_puts_13 d v2 v3 0 M15) :=
  (aOm_fix (aSem d) K_m_puts 0 _ [] M).trans rfl
set_option maxRecDepth 20000 in
theorem u_m_puts_13 (d : Nat) (v2 : Int) (v3 : Int) (v4 : Int) (M : aM) : w_m_puts_13 d v2 v3 v4 M = (
    if v4 < (w32 (v3 * (M 157 15))) then
      inb v4 (aLen 164) <|
      inb (w32 (v2 + v4)) (aLen 158) <|
      let M16 : aM := aUp M 158 (w32 (v2 + v4)).toNat (M 164 v4.toNat)
      let v17 : Int := w32 (v4 + 1)
      w_m_puts_13 d v2 v3 v17 M16
    else
      some ([aI (M 157 15)], M)) :=
  (aOm_fix _ _ _ _ _ _).trans rfl
set_option maxRecDepth 20000 in
theorem u_m_putsText (d : Nat) (v1 : Int) (M : aM) : w_m_putsText (d + 1) v1 M = (
    if v1 = 0 then
      bndI (w_m_putsLaw d M) fun y14 M13 =>
      some ([aI y14], M13)
    else
      if v1 = 3 then
        bndI (w_m_puts d 47 159 2 M) fun y16 M15 =>
        some ([aI y16], M15)
      else
        bndV (w_m_forgets d M) fun M17 =>
        if v1 = 1 then
          bndI (w_m_puts d 45 63 3 M17) fun y19 M18 =>
          some ([aI y19], M18)
        else
          inb 9 (aLen 158) <|
          let M20 : aM := aUp M17 158 9 0
          bndI (w_m_puts d 46 111 3 M20) fun y22 M21 =>
          some ([aI y22], M21)) :=
  (aOm_fix (aSem d) K_m_putsText 0 _ [] M).trans rfl
set_option maxRecDepth 20000 in
theorem u_m_text (d : Nat) (v1 : Int) (M : aM) : w_m_text (d + 1) v1 M = (
    let M13 : aM := aUp M 157 23 0
    let M14 : aM := aUp M13 157 25 (-1)
    bndI (w_m_isIn d v1 0 3 M14) fun y16 M15 =>
    if y16 = 0 then
      let M17 : aM := aUp M15 157 16 0
      some ([aI (-1)], M17)
    else
      let M18 : aM := aUp M15 157 21 0
      let M19 : aM := aUp M18 157 17 0
      let M20 : aM := aUp M19 157 12 v1
      bndV (w_m_next0 d M20) fun M21 =>
      if v1 = 0 then
        bndI (w_m_readsLaw d M21) fun y23 M22 =>
        let M24 : aM := aUp M22 157 16 0
        if y23 = 0 then
          let M25 : aM := aUp M24 157 23 (M24 157 21)
          let M26 : aM := aUp M25 157 25 (M25 157 22)
          some ([aI (-1)], M26)
        else
          bndI (w_m_putsText d v1 M24) fun y28 M27 =>
          some ([aI y28], M27)
      else
        bndI (w_m_readsRows d M21) fun y30 M29 =>
        let M31 : aM := aUp M29 157 16 0
        if y30 = 0 then
          let M32 : aM := aUp M31 157 23 (M31 157 21)
          let M33 : aM := aUp M32 157 25 (M32 157 22)
          some ([aI (-1)], M33)
        else
          bndI (w_m_putsText d v1 M31) fun y35 M34 =>
          some ([aI y35], M34)) :=
  (aOm_fix (aSem d) K_m_text 0 _ [] M).trans rfl
set_option maxRecDepth 20000 in
theorem u_m_fault (d : Nat) (v1 : Int) (M : aM) : w_m_fault (d + 1) v1 M = (
    if v1 = 0 then
      some ([aI (M 157 23)], M)
    else
      if v1 = 1 then
        some ([aI (M 157 25)], M)
      else
        some ([aI (-1)], M)) :=
  (aOm_fix (aSem d) K_m_fault 0 _ [] M).trans rfl
set_option maxRecDepth 20000 in
theorem u_m_both (d : Nat) (v0 : Int) (v1 : Int) (v2 : Int) (M : aM) : w_m_both (d + 1) v0 v1 v2 M = (
    if v0 = 23 then
      some ([aI (w32 (v1 + v2))], M)
    else
    if v0 = 24 then
      some ([aI (w32 (v1 - v2))], M)
    else
    if v0 = 25 then
      some ([aI (w32 (v1 * v2))], M)
    else
    if v0 = 26 then
      some ([aI (ior v1 v2)], M)
    else
    if v0 = 27 then
      if v1 < v2 then
        some ([aI 1], M)
      else
        some ([aI 0], M)
    else
    if v0 = 28 then
      if v1 = v2 then
        some ([aI 1], M)
      else
        some ([aI 0], M)
    else
    if v0 = 29 then
      if v2 < v1 then
        some ([aI 1], M)
      else
        some ([aI 0], M)
    else
    if v0 = 30 then
      some ([aI (ior v1 v2)], M)
    else
    if v0 = 31 then
      some ([aI (iand v1 v2)], M)
    else
      some ([aI (ior v1 v2)], M)) :=
  (aOm_fix (aSem d) K_m_both 0 _ [] M).trans rfl
set_option maxRecDepth 20000 in
theorem u_m_comesTo (d : Nat) (v1 : Int) (v2 : Int) (v3 : Int) (M : aM) : w_m_comesTo (d + 1) v1 v2 v3 M = (
    w_m_comesTo_6 d v1 v3 0 v2 M) :=
  (aOm_fix (aSem d) K_m_comesTo 0 _ [] M).trans rfl
set_option maxRecDepth 20000 in
theorem u_m_comesTo_6 (d : Nat) (v1 : Int) (v3 : Int) (v4 : Int) (v5 : Int) (M : aM) : w_m_comesTo_6 d v1 v3 v4 v5 M = (
    if v5 < v3 then
      inb (w32 ((w32 (948 + (w32 (820 * v1)))) + (w32 (2 * v5)))) (aLen 158) <|
      let v19 : Int := (M 158 (w32 ((w32 (948 + (w32 (820 * v1)))) + (w32 (2 * v5)))).toNat)
      inb (w32 ((w32 ((w32 (948 + (w32 (820 * v1)))) + (w32 (2 * v5)))) + 1)) (aLen 158) <|
      let v20 : Int := (M 158 (w32 ((w32 ((w32 (948 + (w32 (820 * v1)))) + (w32 (2 * v5)))) + 1)).toNat)
      if v19 < 23 then
        if v19 = 0 then
          inb v4 (aLen 166) <|
          let M21 : aM := aUp M 166 v4.toNat v20
          let v22 : Int := w32 (v4 + 1)
          let v23 : Int := w32 (v5 + 1)
          w_m_comesTo_6 d v1 v3 v22 v23 M21
        else
          inb v19 (aLen 167) <|
          inb v4 (aLen 166) <|
          let M24 : aM := aUp M 166 v4.toNat (M 167 v19.toNat)
          let v25 : Int := w32 (v4 + 1)
          let v26 : Int := w32 (v5 + 1)
          w_m_comesTo_6 d v1 v3 v25 v26 M24
      else
        if v19 = 26 then
          inb (w32 (v4 - 1)) (aLen 166) <|
          if v20 = 0 then none else
          inb (w32 (v4 - 1)) (aLen 166) <|
          let M27 : aM := aUp M 166 (w32 (v4 - 1)).toNat (idiv (M 166 (w32 (v4 - 1)).toNat) v20)
          let v28 : Int := w32 (v5 + 1)
          w_m_comesTo_6 d v1 v3 v4 v28 M27
        else
          if v19 = 30 then
            inb (w32 (v4 - 1)) (aLen 166) <|
            inb (w32 (v4 - 1)) (aLen 166) <|
            let M29 : aM := aUp M 166 (w32 (v4 - 1)).toNat (w32 (1 - (M 166 (w32 (v4 - 1)).toNat)))
            let v30 : Int := w32 (v5 + 1)
            w_m_comesTo_6 d v1 v3 v4 v30 M29
          else
            let v31 : Int := w32 (v4 + (-1))
            inb (w32 (v31 - 1)) (aLen 166) <|
            inb v31 (aLen 166) <|
            bndI (w_m_both d v19 (M 166 (w32 (v31 - 1)).toNat) (M 166 v31.toNat) M) fun y33 M32 =>
            inb (w32 (v31 - 1)) (aLen 166) <|
            let M34 : aM := aUp M32 166 (w32 (v31 - 1)).toNat y33
            let v35 : Int := w32 (v5 + 1)
            w_m_comesTo_6 d v1 v3 v31 v35 M34
    else
      inb 0 (aLen 166) <|
      some ([aI (M 166 0)], M)) :=
  (aOm_fix _ _ _ _ _ _).trans rfl
set_option maxRecDepth 20000 in
theorem u_m_isSo (d : Nat) (v1 : Int) (M : aM) : w_m_isSo (d + 1) v1 M = (
    inb (w32 (916 + v1)) (aLen 158) <|
    inb (w32 (900 + v1)) (aLen 158) <|
    if (M 158 (w32 (916 + v1)).toNat) = (M 158 (w32 (900 + v1)).toNat) then
      some ([aI 1], M)
    else
      inb (w32 (900 + v1)) (aLen 158) <|
      inb (w32 (916 + v1)) (aLen 158) <|
      bndI (w_m_comesTo d 0 (M 158 (w32 (900 + v1)).toNat) (M 158 (w32 (916 + v1)).toNat) M) fun y14 M13 =>
      if y14 = 1 then
        some ([aI 1], M13)
      else
        some ([aI 0], M13)) :=
  (aOm_fix (aSem d) K_m_isSo 0 _ [] M).trans rfl
set_option maxRecDepth 20000 in
theorem u_m_says (d : Nat) (v1 : Int) (v2 : Int) (v3 : Int) (v4 : Int) (M : aM) : w_m_says (d + 1) v1 v2 v3 v4 M = (
    inb 1 (aLen 167) <|
    let M16 : aM := aUp M 167 1 v2
    inb (w32 (53 + v2)) (aLen 158) <|
    inb 2 (aLen 167) <|
    let M17 : aM := aUp M16 167 2 (M16 158 (w32 (53 + v2)).toNat)
    inb (w32 (11 + v2)) (aLen 158) <|
    inb 3 (aLen 167) <|
    let M18 : aM := aUp M17 167 3 (M17 158 (w32 (11 + v2)).toNat)
    inb (w32 (21 + v2)) (aLen 158) <|
    inb 4 (aLen 167) <|
    let M19 : aM := aUp M18 167 4 (M18 158 (w32 (21 + v2)).toNat)
    inb (w32 (31 + v2)) (aLen 158) <|
    inb 5 (aLen 167) <|
    let M20 : aM := aUp M19 167 5 (M19 158 (w32 (31 + v2)).toNat)
    inb 4 (aLen 158) <|
    inb 6 (aLen 167) <|
    let M21 : aM := aUp M20 167 6 (M20 158 4)
    inb 5 (aLen 158) <|
    inb 7 (aLen 167) <|
    let M22 : aM := aUp M21 167 7 (M21 158 5)
    inb 6 (aLen 158) <|
    inb 8 (aLen 167) <|
    let M23 : aM := aUp M22 167 8 (M22 158 6)
    inb 0 (aLen 158) <|
    inb 9 (aLen 167) <|
    let M24 : aM := aUp M23 167 9 (irem (idiv (M23 158 0) 30) 12)
    inb 1 (aLen 158) <|
    if (M24 158 1) = v2 then
      inb 10 (aLen 167) <|
      let M25 : aM := aUp M24 167 10 1
      w_m_says_151 d v1 v3 v4 0 M25
    else
      inb 10 (aLen 167) <|
      let M26 : aM := aUp M24 167 10 0
      w_m_says_151 d v1 v3 v4 0 M26) :=
  (aOm_fix (aSem d) K_m_says 0 _ [] M).trans rfl
set_option maxRecDepth 20000 in
theorem u_m_says_151 (d : Nat) (v1 : Int) (v3 : Int) (v4 : Int) (v5 : Int) (M : aM) : w_m_says_151 d v1 v3 v4 v5 M = (
    inb 44 (aLen 158) <|
    if v5 < (M 158 44) then
      inb (w32 (932 + v5)) (aLen 158) <|
      if (M 158 (w32 (932 + v5)).toNat) = v1 then
        bndI (w_m_isSo d v5 M) fun y18 M17 =>
        if y18 = 0 then
          let v19 : Int := w32 (v5 + 1)
          w_m_says_151 d v1 v3 v4 v19 M17
        else
          inb (w32 (884 + v5)) (aLen 158) <|
          inb (w32 (900 + v5)) (aLen 158) <|
          bndI (w_m_comesTo d 0 (M17 158 (w32 (884 + v5)).toNat) (M17 158 (w32 (900 + v5)).toNat) M17) fun y21 M20 =>
          bndI (w_m_lesser d v4 y21 M20) fun y23 M22 =>
          bndI (w_m_greater d 0 y23 M22) fun y25 M24 =>
          some ([aI y25], M24)
      else
        let v26 : Int := w32 (v5 + 1)
        w_m_says_151 d v1 v3 v4 v26 M
    else
      bndI (w_m_lesser d v4 v3 M) fun y28 M27 =>
      bndI (w_m_greater d 0 y28 M27) fun y30 M29 =>
      some ([aI y30], M29)) :=
  (aOm_fix _ _ _ _ _ _).trans rfl
set_option maxRecDepth 20000 in
theorem u_m_comeOf (d : Nat) (v1 : Int) (M : aM) : w_m_comeOf (d + 1) v1 M = (
    inb (w32 (21 + v1)) (aLen 158) <|
    bndI (w_m_says d 20 v1 (w32 ((M 158 (w32 (21 + v1)).toNat) + 1)) 999 M) fun y14 M13 =>
    some ([aI y14], M13)) :=
  (aOm_fix (aSem d) K_m_comeOf 0 _ [] M).trans rfl
set_option maxRecDepth 20000 in
theorem u_m_longOf (d : Nat) (v1 : Int) (M : aM) : w_m_longOf (d + 1) v1 M = (
    inb (w32 (11 + v1)) (aLen 158) <|
    bndI (w_m_says d 21 v1 (w32 (6 + (M 158 (w32 (11 + v1)).toNat))) 24 M) fun y14 M13 =>
    some ([aI y14], M13)) :=
  (aOm_fix (aSem d) K_m_longOf 0 _ [] M).trans rfl
set_option maxRecDepth 20000 in
theorem u_m_shyOf (d : Nat) (v1 : Int) (M : aM) : w_m_shyOf (d + 1) v1 M = (
    inb 5 (aLen 158) <|
    bndI (w_m_says d 22 v1 (idiv (M 158 5) 9) 9 M) fun y14 M13 =>
    some ([aI y14], M13)) :=
  (aOm_fix (aSem d) K_m_shyOf 0 _ [] M).trans rfl
set_option maxRecDepth 20000 in
theorem u_m_sumOfCome (d : Nat)  (M : aM) : w_m_sumOfCome (d + 1)  M = (
    w_m_sumOfCome_4 d 0 0 M) :=
  (aOm_fix (aSem d) K_m_sumOfCome 0 _ [] M).trans rfl
set_option maxRecDepth 20000 in
theorem u_m_sumOfCome_4 (d : Nat) (v1 : Int) (v2 : Int) (M : aM) : w_m_sumOfCome_4 d v1 v2 M = (
    inb 41 (aLen 158) <|
    if v2 < (M 158 41) then
      bndI (w_m_isAlive d v2 M) fun y15 M14 =>
      if y15 = 0 then
        let v16 : Int := (w32 (v1 + 0))
        let v17 : Int := w32 (v2 + 1)
        w_m_sumOfCome_4 d v16 v17 M14
      else
        bndI (w_m_comeOf d v2 M14) fun y19 M18 =>
        let v20 : Int := (w32 (v1 + y19))
        let v21 : Int := w32 (v2 + 1)
        w_m_sumOfCome_4 d v20 v21 M18
    else
      some ([aI v1], M)) :=
  (aOm_fix _ _ _ _ _ _).trans rfl
set_option maxRecDepth 20000 in
theorem u_m_likeliestOne (d : Nat)  (M : aM) : w_m_likeliestOne (d + 1)  M = (
    w_m_likeliestOne_4 d (-1) 0 M) :=
  (aOm_fix (aSem d) K_m_likeliestOne 0 _ [] M).trans rfl
set_option maxRecDepth 20000 in
theorem u_m_likeliestOne_4 (d : Nat) (v1 : Int) (v2 : Int) (M : aM) : w_m_likeliestOne_4 d v1 v2 M = (
    inb 41 (aLen 158) <|
    if v2 < (M 158 41) then
      bndI (w_m_isAlive d v2 M) fun y15 M14 =>
      if y15 = 0 then
        let v16 : Int := w32 (v2 + 1)
        w_m_likeliestOne_4 d v1 v16 M14
      else
        if v1 = (-1) then
          let v17 : Int := w32 (v2 + 1)
          w_m_likeliestOne_4 d v2 v17 M14
        else
          bndI (w_m_comeOf d v2 M14) fun y19 M18 =>
          bndI (w_m_comeOf d v1 M18) fun y21 M20 =>
          if y21 < y19 then
            let v22 : Int := w32 (v2 + 1)
            w_m_likeliestOne_4 d v2 v22 M20
          else
            let v23 : Int := w32 (v2 + 1)
            w_m_likeliestOne_4 d v1 v23 M20
    else
      some ([aI v1], M)) :=
  (aOm_fix _ _ _ _ _ _).trans rfl
set_option maxRecDepth 20000 in
theorem u_m_keeps (d : Nat)  (M : aM) : w_m_keeps (d + 1)  M = (
    if (M 157 4) = 6 then
      w_m_keeps_11 d 0 M
    else
      w_m_keeps_51 d 0 M) :=
  (aOm_fix (aSem d) K_m_keeps 0 _ [] M).trans rfl
set_option maxRecDepth 20000 in
theorem u_m_keeps_11 (d : Nat) (v1 : Int) (M : aM) : w_m_keeps_11 d v1 M = (
    if v1 < 205 then
      inb (w32 (v1 + 41)) (aLen 160) <|
      inb v1 (aLen 160) <|
      let M13 : aM := aUp M 160 v1.toNat (M 160 (w32 (v1 + 41)).toNat)
      let v14 : Int := w32 (v1 + 1)
      w_m_keeps_11 d v14 M13
    else
      let M15 : aM := aUp M 157 4 (w32 ((M 157 4) - 1))
      w_m_keeps_51 d 0 M15) :=
  (aOm_fix _ _ _ _ _ _).trans rfl
set_option maxRecDepth 20000 in
theorem u_m_keeps_51 (d : Nat) (v1 : Int) (M : aM) : w_m_keeps_51 d v1 M = (
    if v1 < 41 then
      inb v1 (aLen 158) <|
      inb (w32 ((w32 (41 * (M 157 4))) + v1)) (aLen 160) <|
      let M13 : aM := aUp M 160 (w32 ((w32 (41 * (M 157 4))) + v1)).toNat (M 158 v1.toNat)
      let v14 : Int := w32 (v1 + 1)
      w_m_keeps_51 d v14 M13
    else
      let M15 : aM := aUp M 157 4 (w32 ((M 157 4) + 1))
      let M16 : aM := aUp M15 157 26 1
      some ([], M16)) :=
  (aOm_fix _ _ _ _ _ _).trans rfl
set_option maxRecDepth 20000 in
theorem u_m_undo (d : Nat)  (M : aM) : w_m_undo (d + 1)  M = (
    if (M 157 4) = 0 then
      some ([aI 0], M)
    else
      let M12 : aM := aUp M 157 4 (w32 ((M 157 4) - 1))
      w_m_undo_21 d 0 M12) :=
  (aOm_fix (aSem d) K_m_undo 0 _ [] M).trans rfl
set_option maxRecDepth 20000 in
theorem u_m_undo_21 (d : Nat) (v1 : Int) (M : aM) : w_m_undo_21 d v1 M = (
    if v1 < 41 then
      inb (w32 ((w32 (41 * (M 157 4))) + v1)) (aLen 160) <|
      inb v1 (aLen 158) <|
      let M13 : aM := aUp M 158 v1.toNat (M 160 (w32 ((w32 (41 * (M 157 4))) + v1)).toNat)
      let v14 : Int := w32 (v1 + 1)
      w_m_undo_21 d v14 M13
    else
      some ([aI 1], M)) :=
  (aOm_fix _ _ _ _ _ _).trans rfl
set_option maxRecDepth 20000 in
theorem u_m_notes (d : Nat) (v1 : Int) (v2 : Int) (v3 : Int) (M : aM) : w_m_notes (d + 1) v1 v2 v3 M = (
    if (M 157 26) = 0 then
      some ([], M)
    else
      inb 8 (aLen 158) <|
      if (M 158 8) = 150 then
        some ([], M)
      else
        inb 8 (aLen 158) <|
        let v15 : Int := (w32 (284 + (w32 (4 * (M 158 8)))))
        inb 0 (aLen 158) <|
        inb v15 (aLen 158) <|
        let M16 : aM := aUp M 158 v15.toNat (M 158 0)
        inb (w32 (v15 + 1)) (aLen 158) <|
        let M17 : aM := aUp M16 158 (w32 (v15 + 1)).toNat v1
        inb (w32 (v15 + 2)) (aLen 158) <|
        let M18 : aM := aUp M17 158 (w32 (v15 + 2)).toNat v2
        inb (w32 (v15 + 3)) (aLen 158) <|
        let M19 : aM := aUp M18 158 (w32 (v15 + 3)).toNat v3
        inb 8 (aLen 158) <|
        inb 8 (aLen 158) <|
        let M20 : aM := aUp M19 158 8 (w32 ((M19 158 8) + 1))
        some ([], M20)) :=
  (aOm_fix (aSem d) K_m_notes 0 _ [] M).trans rfl
set_option maxRecDepth 20000 in
theorem u_m_eats (d : Nat) (v1 : Int) (v2 : Int) (M : aM) : w_m_eats (d + 1) v1 v2 M = (
    if v2 = 0 then
      inb 10 (aLen 158) <|
      inb 10 (aLen 158) <|
      let M14 : aM := aUp M 158 10 (ior (M 158 10) (ishl 1 v1))
      if v2 = 0 then
        bndV (w_m_notes d 5 v1 0 M14) fun M15 =>
        some ([], M15)
      else
        bndV (w_m_notes d 3 v1 0 M14) fun M16 =>
        some ([], M16)
    else
      inb 10 (aLen 158) <|
      inb 10 (aLen 158) <|
      let M17 : aM := aUp M 158 10 (iand (M 158 10) (ixor (ishl 1 v1) (-1)))
      if v2 = 0 then
        bndV (w_m_notes d 5 v1 0 M17) fun M18 =>
        some ([], M18)
      else
        bndV (w_m_notes d 3 v1 0 M17) fun M19 =>
        some ([], M19)) :=
  (aOm_fix (aSem d) K_m_eats 0 _ [] M).trans rfl
set_option maxRecDepth 20000 in
theorem u_m_eat (d : Nat) (v1 : Int) (v2 : Int) (M : aM) : w_m_eat (d + 1) v1 v2 M = (
    bndI (w_m_isDeer d v1 M) fun y15 M14 =>
    if y15 = 0 then
      some ([aI 0], M14)
    else
      bndI (w_m_isAlive d v1 M14) fun y17 M16 =>
      if y17 = v2 then
        bndV (w_m_keeps d M16) fun M18 =>
        bndV (w_m_eats d v1 v2 M18) fun M19 =>
        some ([aI 1], M19)
      else
        some ([aI 0], M16)) :=
  (aOm_fix (aSem d) K_m_eat 0 _ [] M).trans rfl
set_option maxRecDepth 20000 in
theorem u_m_does (d : Nat) (v1 : Int) (M : aM) : w_m_does (d + 1) v1 M = (
    inb (w32 (v1 + 2)) (aLen 158) <|
    let v13 : Int := (M 158 (w32 (v1 + 2)).toNat)
    inb (w32 (v1 + 1)) (aLen 158) <|
    if (M 158 (w32 (v1 + 1)).toNat) = 8 then
      inb 4 (aLen 158) <|
      let M14 : aM := aUp M 158 4 v13
      some ([], M14)
    else
    if (M 158 (w32 (v1 + 1)).toNat) = 9 then
      inb 5 (aLen 158) <|
      let M15 : aM := aUp M 158 5 v13
      some ([], M15)
    else
    if (M 158 (w32 (v1 + 1)).toNat) = 10 then
      inb 6 (aLen 158) <|
      inb 6 (aLen 158) <|
      let M16 : aM := aUp M 158 6 (w32 (1 - (M 158 6)))
      some ([], M16)
    else
      bndI (w_m_isAlive d v13 M) fun y18 M17 =>
      inb (w32 (v1 + 1)) (aLen 158) <|
      if (M17 158 (w32 (v1 + 1)).toNat) = 11 then
        if y18 = 1 then
          inb (w32 (v1 + 1)) (aLen 158) <|
          if (M17 158 (w32 (v1 + 1)).toNat) = 11 then
            bndV (w_m_eats d v13 1 M17) fun M19 =>
            some ([], M19)
          else
            bndV (w_m_eats d v13 0 M17) fun M20 =>
            some ([], M20)
        else
          some ([], M17)
      else
        if y18 = 0 then
          inb (w32 (v1 + 1)) (aLen 158) <|
          if (M17 158 (w32 (v1 + 1)).toNat) = 11 then
            bndV (w_m_eats d v13 1 M17) fun M21 =>
            some ([], M21)
          else
            bndV (w_m_eats d v13 0 M17) fun M22 =>
            some ([], M22)
        else
          some ([], M17)) :=
  (aOm_fix (aSem d) K_m_does 0 _ [] M).trans rfl
set_option maxRecDepth 20000 in
theorem u_m_byDraw (d : Nat) (v1 : Int) (M : aM) : w_m_byDraw (d + 1) v1 M = (
    w_m_byDraw_4 d v1 0 0 M) :=
  (aOm_fix (aSem d) K_m_byDraw 0 _ [] M).trans rfl
set_option maxRecDepth 20000 in
theorem u_m_byDraw_4 (d : Nat) (v1 : Int) (v2 : Int) (v3 : Int) (M : aM) : w_m_byDraw_4 d v1 v2 v3 M = (
    inb 41 (aLen 158) <|
    if v3 < (M 158 41) then
      bndI (w_m_isAlive d v3 M) fun y16 M15 =>
      if y16 = 0 then
        let v17 : Int := (w32 (v2 + 0))
        if v1 < v17 then
          some ([aI v3], M15)
        else
          let v18 : Int := w32 (v3 + 1)
          w_m_byDraw_4 d v1 v17 v18 M15
      else
        bndI (w_m_comeOf d v3 M15) fun y20 M19 =>
        let v21 : Int := (w32 (v2 + y20))
        if v1 < v21 then
          some ([aI v3], M19)
        else
          let v22 : Int := w32 (v3 + 1)
          w_m_byDraw_4 d v1 v21 v22 M19
    else
      some ([aI (-1)], M)) :=
  (aOm_fix _ _ _ _ _ _).trans rfl
set_option maxRecDepth 20000 in
theorem u_m_dawns (d : Nat)  (M : aM) : w_m_dawns (d + 1)  M = (
    if (M 157 26) = 0 then
      w_m_dawns_36 d M
    else
      inb 43 (aLen 158) <|
      if 0 < (M 158 43) then
        bndI (w_m_draw d 1000 M) fun y13 M12 =>
        inb 43 (aLen 158) <|
        if y13 < (M12 158 43) then
          some ([aI (-1)], M12)
        else
          w_m_dawns_36 d M12
      else
        w_m_dawns_36 d M) :=
  (aOm_fix (aSem d) K_m_dawns 0 _ [] M).trans rfl
set_option maxRecDepth 20000 in
theorem u_m_dawns_36 (d : Nat)  (M : aM) : w_m_dawns_36 d  M = (
    bndI (w_m_sumOfCome d M) fun y14 M13 =>
    if y14 = 0 then
      some ([aI (-1)], M13)
    else
      if (M13 157 26) = 0 then
        bndI (w_m_likeliestOne d M13) fun y16 M15 =>
        some ([aI y16], M15)
      else
        bndI (w_m_draw d y14 M13) fun y18 M17 =>
        bndI (w_m_byDraw d y18 M17) fun y20 M19 =>
        some ([aI y20], M19)) :=
  (aOm_fix _ _ _ _ _ _).trans rfl
set_option maxRecDepth 20000 in
theorem u_m_comes (d : Nat) (v1 : Int) (M : aM) : w_m_comes (d + 1) v1 M = (
    if v1 = (-1) then
      if v1 = (-1) then
        inb 1 (aLen 158) <|
        let M13 : aM := aUp M 158 1 v1
        inb 3 (aLen 158) <|
        inb 3 (aLen 158) <|
        let M14 : aM := aUp M13 158 3 (w32 ((M13 158 3) + 5))
        if v1 = (-1) then
          bndV (w_m_notes d 1 v1 5 M14) fun M15 =>
          w_m_comes_66 d v1 0 0 M15
        else
          bndV (w_m_notes d 0 v1 5 M14) fun M16 =>
          w_m_comes_66 d v1 0 0 M16
      else
        bndI (w_m_shyOf d v1 M) fun y18 M17 =>
        inb 1 (aLen 158) <|
        let M19 : aM := aUp M17 158 1 v1
        inb 3 (aLen 158) <|
        inb 3 (aLen 158) <|
        let M20 : aM := aUp M19 158 3 (w32 ((M19 158 3) + 5))
        if v1 = (-1) then
          bndV (w_m_notes d 1 v1 5 M20) fun M21 =>
          w_m_comes_66 d v1 y18 0 M21
        else
          bndV (w_m_notes d 0 v1 5 M20) fun M22 =>
          w_m_comes_66 d v1 y18 0 M22
    else
      bndI (w_m_longOf d v1 M) fun y24 M23 =>
      if v1 = (-1) then
        inb 1 (aLen 158) <|
        let M25 : aM := aUp M23 158 1 v1
        inb 3 (aLen 158) <|
        inb 3 (aLen 158) <|
        let M26 : aM := aUp M25 158 3 (w32 ((M25 158 3) + y24))
        if v1 = (-1) then
          bndV (w_m_notes d 1 v1 y24 M26) fun M27 =>
          w_m_comes_66 d v1 0 0 M27
        else
          bndV (w_m_notes d 0 v1 y24 M26) fun M28 =>
          w_m_comes_66 d v1 0 0 M28
      else
        bndI (w_m_shyOf d v1 M23) fun y30 M29 =>
        inb 1 (aLen 158) <|
        let M31 : aM := aUp M29 158 1 v1
        inb 3 (aLen 158) <|
        inb 3 (aLen 158) <|
        let M32 : aM := aUp M31 158 3 (w32 ((M31 158 3) + y24))
        if v1 = (-1) then
          bndV (w_m_notes d 1 v1 y24 M32) fun M33 =>
          w_m_comes_66 d v1 y30 0 M33
        else
          bndV (w_m_notes d 0 v1 y24 M32) fun M34 =>
          w_m_comes_66 d v1 y30 0 M34) :=
  (aOm_fix (aSem d) K_m_comes 0 _ [] M).trans rfl
set_option maxRecDepth 20000 in
theorem u_m_comes_66 (d : Nat) (v1 : Int) (v3 : Int) (v4 : Int) (M : aM) : w_m_comes_66 d v1 v3 v4 M = (
    inb 41 (aLen 158) <|
    if v4 < (M 158 41) then
      if v4 = v1 then
        let v16 : Int := w32 (v4 + 1)
        w_m_comes_66 d v1 v3 v16 M
      else
        bndI (w_m_isAlive d v4 M) fun y18 M17 =>
        if y18 = 0 then
          let v19 : Int := w32 (v4 + 1)
          w_m_comes_66 d v1 v3 v19 M17
        else
          inb (w32 (21 + v4)) (aLen 158) <|
          bndI (w_m_lesser d 999 (w32 ((M17 158 (w32 (21 + v4)).toNat) + 1)) M17) fun y21 M20 =>
          inb (w32 (21 + v4)) (aLen 158) <|
          let M22 : aM := aUp M20 158 (w32 (21 + v4)).toNat y21
          let v23 : Int := w32 (v4 + 1)
          w_m_comes_66 d v1 v3 v23 M22
    else
      if v1 = (-1) then
        some ([], M)
      else
        inb (w32 (21 + v1)) (aLen 158) <|
        let M24 : aM := aUp M 158 (w32 (21 + v1)).toNat 0
        inb (w32 (31 + v1)) (aLen 158) <|
        inb (w32 (31 + v1)) (aLen 158) <|
        let M25 : aM := aUp M24 158 (w32 (31 + v1)).toNat (w32 ((M24 158 (w32 (31 + v1)).toNat) + 1))
        inb (w32 (11 + v1)) (aLen 158) <|
        bndI (w_m_greater d 0 (w32 ((M25 158 (w32 (11 + v1)).toNat) - v3)) M25) fun y27 M26 =>
        inb (w32 (11 + v1)) (aLen 158) <|
        let M28 : aM := aUp M26 158 (w32 (11 + v1)).toNat y27
        some ([], M28)) :=
  (aOm_fix _ _ _ _ _ _).trans rfl
set_option maxRecDepth 20000 in
theorem u_m_pays (d : Nat)  (M : aM) : w_m_pays (d + 1)  M = (
    w_m_pays_2 d 0 M) :=
  (aOm_fix (aSem d) K_m_pays 0 _ [] M).trans rfl
set_option maxRecDepth 20000 in
theorem u_m_pays_2 (d : Nat) (v1 : Int) (M : aM) : w_m_pays_2 d v1 M = (
    inb 46 (aLen 158) <|
    if v1 < (M 158 46) then
      let v14 : Int := (w32 (111 + (w32 (3 * v1))))
      inb 9 (aLen 158) <|
      if (iand (ishr (M 158 9) v1) 1) = 1 then
        let v15 : Int := w32 (v1 + 1)
        w_m_pays_2 d v15 M
      else
        inb 1 (aLen 158) <|
        if (M 158 1) = (-1) then
          let v16 : Int := w32 (v1 + 1)
          w_m_pays_2 d v16 M
        else
          inb (w32 (v14 + 1)) (aLen 158) <|
          inb 1 (aLen 158) <|
          if (M 158 (w32 (v14 + 1)).toNat) = (M 158 1) then
            inb 0 (aLen 158) <|
            inb (w32 (v14 + 2)) (aLen 158) <|
            if (M 158 (w32 (v14 + 2)).toNat) < (M 158 0) then
              inb 9 (aLen 158) <|
              inb 9 (aLen 158) <|
              let M17 : aM := aUp M 158 9 (ior (M 158 9) (ishl 1 v1))
              inb 2 (aLen 158) <|
              inb v14 (aLen 158) <|
              inb 2 (aLen 158) <|
              let M18 : aM := aUp M17 158 2 (w32 ((M17 158 2) - (M17 158 v14.toNat)))
              inb v14 (aLen 158) <|
              bndV (w_m_notes d 2 v1 (M18 158 v14.toNat) M18) fun M19 =>
              let v20 : Int := w32 (v1 + 1)
              w_m_pays_2 d v20 M19
            else
              let v21 : Int := w32 (v1 + 1)
              w_m_pays_2 d v21 M
          else
            let v22 : Int := w32 (v1 + 1)
            w_m_pays_2 d v22 M
    else
      some ([], M)) :=
  (aOm_fix _ _ _ _ _ _).trans rfl
set_option maxRecDepth 20000 in
theorem u_m_wolves (d : Nat)  (M : aM) : w_m_wolves (d + 1)  M = (
    inb 42 (aLen 158) <|
    if (M 158 42) = 0 then
      some ([], M)
    else
      inb 10 (aLen 158) <|
      if (M 158 10) = 0 then
        some ([], M)
      else
        bndI (w_m_draw d 1000 M) fun y13 M12 =>
        inb 42 (aLen 158) <|
        if y13 < (M12 158 42) then
          w_m_wolves_42 d (-1) 0 M12
        else
          some ([], M12)) :=
  (aOm_fix (aSem d) K_m_wolves 0 _ [] M).trans rfl
set_option maxRecDepth 20000 in
theorem u_m_wolves_42 (d : Nat) (v1 : Int) (v2 : Int) (M : aM) : w_m_wolves_42 d v1 v2 M = (
    inb 41 (aLen 158) <|
    if v2 < (M 158 41) then
      bndI (w_m_isAlive d v2 M) fun y15 M14 =>
      if y15 = 0 then
        let v16 : Int := w32 (v2 + 1)
        w_m_wolves_42 d v1 v16 M14
      else
        if v1 = (-1) then
          let v17 : Int := w32 (v2 + 1)
          w_m_wolves_42 d v2 v17 M14
        else
          inb (w32 (11 + v2)) (aLen 158) <|
          inb (w32 (11 + v1)) (aLen 158) <|
          if (M14 158 (w32 (11 + v2)).toNat) < (M14 158 (w32 (11 + v1)).toNat) then
            let v18 : Int := w32 (v2 + 1)
            w_m_wolves_42 d v2 v18 M14
          else
            let v19 : Int := w32 (v2 + 1)
            w_m_wolves_42 d v1 v19 M14
    else
      inb 10 (aLen 158) <|
      inb 10 (aLen 158) <|
      let M20 : aM := aUp M 158 10 (iand (M 158 10) (ixor (ishl 1 v1) (-1)))
      bndV (w_m_notes d 4 v1 0 M20) fun M21 =>
      some ([], M21)) :=
  (aOm_fix _ _ _ _ _ _).trans rfl
set_option maxRecDepth 20000 in
theorem u_m_aDay (d : Nat)  (M : aM) : w_m_aDay (d + 1)  M = (
    w_m_aDay_2 d 0 M) :=
  (aOm_fix (aSem d) K_m_aDay 0 _ [] M).trans rfl
set_option maxRecDepth 20000 in
theorem u_m_aDay_2 (d : Nat) (v1 : Int) (M : aM) : w_m_aDay_2 d v1 M = (
    inb 45 (aLen 158) <|
    if v1 < (M 158 45) then
      inb (w32 (63 + (w32 (3 * v1)))) (aLen 158) <|
      inb 0 (aLen 158) <|
      if (M 158 (w32 (63 + (w32 (3 * v1)))).toNat) = (M 158 0) then
        bndV (w_m_does d (w32 (63 + (w32 (3 * v1)))) M) fun M13 =>
        let v14 : Int := w32 (v1 + 1)
        w_m_aDay_2 d v14 M13
      else
        let v15 : Int := w32 (v1 + 1)
        w_m_aDay_2 d v15 M
    else
      bndI (w_m_dawns d M) fun y17 M16 =>
      bndV (w_m_comes d y17 M16) fun M18 =>
      bndV (w_m_pays d M18) fun M19 =>
      if (M19 157 26) = 0 then
        w_m_aDay_72 d M19
      else
        bndV (w_m_wolves d M19) fun M20 =>
        w_m_aDay_72 d M20) :=
  (aOm_fix _ _ _ _ _ _).trans rfl
set_option maxRecDepth 20000 in
theorem u_m_aDay_72 (d : Nat)  (M : aM) : w_m_aDay_72 d  M = (
    inb 4 (aLen 158) <|
    bndI (w_m_greater d 0 (w32 ((M 158 4) - 1)) M) fun y14 M13 =>
    inb 4 (aLen 158) <|
    let M15 : aM := aUp M13 158 4 y14
    inb 5 (aLen 158) <|
    bndI (w_m_greater d 0 (w32 ((M15 158 5) - 1)) M15) fun y17 M16 =>
    inb 5 (aLen 158) <|
    let M18 : aM := aUp M16 158 5 y17
    inb 0 (aLen 158) <|
    inb 0 (aLen 158) <|
    let M19 : aM := aUp M18 158 0 (w32 ((M18 158 0) + 1))
    inb 1 (aLen 158) <|
    if (M19 158 1) = (-1) then
      some ([aI 1], M19)
    else
      some ([aI 0], M19)) :=
  (aOm_fix _ _ _ _ _ _).trans rfl
set_option maxRecDepth 20000 in
theorem u_m_days (d : Nat) (v1 : Int) (M : aM) : w_m_days (d + 1) v1 M = (
    bndI (w_m_isIn d v1 1 60 M) fun y14 M13 =>
    if y14 = 0 then
      some ([aI (-1)], M13)
    else
      inb 0 (aLen 158) <|
      if 9999 < (w32 ((M13 158 0) + v1)) then
        some ([aI (-1)], M13)
      else
        w_m_days_30 d v1 0 0 M13) :=
  (aOm_fix (aSem d) K_m_days 0 _ [] M).trans rfl
set_option maxRecDepth 20000 in
theorem u_m_days_30 (d : Nat) (v1 : Int) (v2 : Int) (v3 : Int) (M : aM) : w_m_days_30 d v1 v2 v3 M = (
    if v3 < v1 then
      bndV (w_m_keeps d M) fun M15 =>
      bndI (w_m_aDay d M15) fun y17 M16 =>
      if y17 = 0 then
        let v18 : Int := (w32 (v2 + 0))
        let v19 : Int := w32 (v3 + 1)
        w_m_days_30 d v1 v18 v19 M16
      else
        let v20 : Int := (w32 (v2 + 1))
        let v21 : Int := w32 (v3 + 1)
        w_m_days_30 d v1 v20 v21 M16
    else
      some ([aI v2], M)) :=
  (aOm_fix _ _ _ _ _ _).trans rfl
set_option maxRecDepth 20000 in
theorem u_m_waitFor (d : Nat) (v1 : Int) (M : aM) : w_m_waitFor (d + 1) v1 M = (
    bndI (w_m_isDeer d v1 M) fun y14 M13 =>
    if y14 = 0 then
      some ([aI (-2)], M13)
    else
      inb 0 (aLen 158) <|
      if 9999 < (w32 ((M13 158 0) + 30)) then
        some ([aI (-2)], M13)
      else
        w_m_waitFor_28 d v1 1 M13) :=
  (aOm_fix (aSem d) K_m_waitFor 0 _ [] M).trans rfl
set_option maxRecDepth 20000 in
theorem u_m_waitFor_28 (d : Nat) (v1 : Int) (v2 : Int) (M : aM) : w_m_waitFor_28 d v1 v2 M = (
    if 30 < v2 then
      some ([aI (-1)], M)
    else
      bndV (w_m_keeps d M) fun M14 =>
      bndI (w_m_aDay d M14) fun y16 M15 =>
      inb 1 (aLen 158) <|
      if (M15 158 1) = v1 then
        some ([aI v2], M15)
      else
        let v17 : Int := w32 (v2 + 1)
        w_m_waitFor_28 d v1 v17 M15) :=
  (aOm_fix _ _ _ _ _ _).trans rfl
set_option maxRecDepth 20000 in
theorem u_m_of (d : Nat) (v1 : Int) (v2 : Int) (M : aM) : w_m_of (d + 1) v1 v2 M = (
    bndI (w_m_isDeer d v1 M) fun y15 M14 =>
    if y15 = 0 then
      some ([aI (-1)], M14)
    else
      if v2 = 0 then
        inb (w32 (53 + v1)) (aLen 158) <|
        some ([aI (M14 158 (w32 (53 + v1)).toNat)], M14)
      else
      if v2 = 1 then
        inb (w32 (11 + v1)) (aLen 158) <|
        some ([aI (M14 158 (w32 (11 + v1)).toNat)], M14)
      else
      if v2 = 2 then
        bndI (w_m_isAlive d v1 M14) fun y17 M16 =>
        if y17 = 0 then
          some ([aI 0], M16)
        else
          some ([aI 1], M16)
      else
      if v2 = 3 then
        inb (w32 (21 + v1)) (aLen 158) <|
        some ([aI (M14 158 (w32 (21 + v1)).toNat)], M14)
      else
      if v2 = 4 then
        inb (w32 (31 + v1)) (aLen 158) <|
        some ([aI (M14 158 (w32 (31 + v1)).toNat)], M14)
      else
      if v2 = 5 then
        bndI (w_m_comeOf d v1 M14) fun y19 M18 =>
        some ([aI y19], M18)
      else
      if v2 = 6 then
        bndI (w_m_longOf d v1 M14) fun y21 M20 =>
        some ([aI y21], M20)
      else
      if v2 = 7 then
        bndI (w_m_shyOf d v1 M14) fun y23 M22 =>
        some ([aI y23], M22)
      else
        some ([aI (-1)], M14)) :=
  (aOm_fix (aSem d) K_m_of 0 _ [] M).trans rfl
set_option maxRecDepth 20000 in
theorem u_m_due (d : Nat) (v1 : Int) (v2 : Int) (M : aM) : w_m_due (d + 1) v1 v2 M = (
    inb 46 (aLen 158) <|
    bndI (w_m_isIn d v1 0 (w32 ((M 158 46) - 1)) M) fun y15 M14 =>
    if y15 = 0 then
      some ([aI (-2)], M14)
    else
      bndI (w_m_isIn d v2 0 3 M14) fun y17 M16 =>
      if y17 = 0 then
        some ([aI (-2)], M16)
      else
        if v2 < 3 then
          inb (w32 ((w32 (111 + (w32 (3 * v1)))) + v2)) (aLen 158) <|
          some ([aI (M16 158 (w32 ((w32 (111 + (w32 (3 * v1)))) + v2)).toNat)], M16)
        else
          inb 9 (aLen 158) <|
          some ([aI (iand (ishr (M16 158 9) v1) 1)], M16)) :=
  (aOm_fix (aSem d) K_m_due 0 _ [] M).trans rfl
set_option maxRecDepth 20000 in
theorem u_m_book (d : Nat) (v1 : Int) (v2 : Int) (M : aM) : w_m_book (d + 1) v1 v2 M = (
    inb 8 (aLen 158) <|
    bndI (w_m_isIn d v1 0 (w32 ((M 158 8) - 1)) M) fun y15 M14 =>
    if y15 = 0 then
      some ([aI (-2)], M14)
    else
      bndI (w_m_isIn d v2 0 3 M14) fun y17 M16 =>
      if y17 = 0 then
        some ([aI (-2)], M16)
      else
        inb (w32 ((w32 (284 + (w32 (4 * v1)))) + v2)) (aLen 158) <|
        some ([aI (M16 158 (w32 ((w32 (284 + (w32 (4 * v1)))) + v2)).toNat)], M16)) :=
  (aOm_fix (aSem d) K_m_book 0 _ [] M).trans rfl
set_option maxRecDepth 20000 in
theorem u_m_nextOf (d : Nat) (v1 : Int) (M : aM) : w_m_nextOf (d + 1) v1 M = (
    bndI (w_m_sumOfCome d M) fun y14 M13 =>
    bndI (w_m_isAlive d v1 M13) fun y16 M15 =>
    if y16 = 0 then
      some ([aJ 0], M15)
    else
      if y14 = 0 then
        some ([aJ 0], M15)
      else
        bndI (w_m_comeOf d v1 M15) fun y18 M17 =>
        if y14 = 0 then none else
        inb 43 (aLen 158) <|
        some ([aJ (ldiv (w64 ((ldiv (w64 (1000000 * y18)) y14) * (w32 (1000 - (M17 158 43))))) 1000)], M17)) :=
  (aOm_fix (aSem d) K_m_nextOf 0 _ [] M).trans rfl
set_option maxRecDepth 20000 in
theorem u_m_next (d : Nat) (v1 : Int) (v2 : Int) (M : aM) : w_m_next (d + 1) v1 v2 M = (
    bndI (w_m_isDeer d v1 M) fun y15 M14 =>
    if y15 = 0 then
      some ([aI (-1)], M14)
    else
      bndI (w_m_isIn d v2 0 60 M14) fun y17 M16 =>
      if y17 = 0 then
        some ([aI (-1)], M16)
      else
        bndJ (w_m_nextOf d v1 M16) fun y19 M18 =>
        if v2 = 0 then
          some ([aI (l2i y19)], M18)
        else
          w_m_next_41 d v2 y19 1000000 0 M18) :=
  (aOm_fix (aSem d) K_m_next 0 _ [] M).trans rfl
set_option maxRecDepth 20000 in
theorem u_m_next_41 (d : Nat) (v2 : Int) (v3 : Int) (v5 : Int) (v7 : Int) (M : aM) : w_m_next_41 d v2 v3 v5 v7 M = (
    if v7 < v2 then
      let v19 : Int := (w64 (v5 - (ldiv (w64 (v5 * v3)) 1000000)))
      let v20 : Int := w32 (v7 + 1)
      w_m_next_41 d v2 v3 v19 v20 M
    else
      some ([aI (l2i (w64 (1000000 - v5)))], M)) :=
  (aOm_fix _ _ _ _ _ _).trans rfl
set_option maxRecDepth 20000 in
theorem u_m_likeliest (d : Nat)  (M : aM) : w_m_likeliest (d + 1)  M = (
    bndI (w_m_likeliestOne d M) fun y13 M12 =>
    some ([aI y13], M12)) :=
  (aOm_fix (aSem d) K_m_likeliest 0 _ [] M).trans rfl
set_option maxRecDepth 20000 in
theorem u_m_goes (d : Nat) (v1 : Int) (v2 : Int) (M : aM) : w_m_goes (d + 1) v1 v2 M = (
    bndI (w_m_isIn d v1 1 99 M) fun y15 M14 =>
    if y15 = 0 then
      some ([aI (-100000)], M14)
    else
      bndI (w_m_isIn d v2 0 3 M14) fun y17 M16 =>
      if y17 = 0 then
        some ([aI (-100000)], M16)
      else
        w_m_goes_25 d v1 v2 0 M16) :=
  (aOm_fix (aSem d) K_m_goes 0 _ [] M).trans rfl
set_option maxRecDepth 20000 in
theorem u_m_goes_25 (d : Nat) (v1 : Int) (v2 : Int) (v3 : Int) (M : aM) : w_m_goes_25 d v1 v2 v3 M = (
    if v3 < 41 then
      inb v3 (aLen 158) <|
      inb v3 (aLen 161) <|
      let M16 : aM := aUp M 161 v3.toNat (M 158 v3.toNat)
      let v17 : Int := w32 (v3 + 1)
      w_m_goes_25 d v1 v2 v17 M16
    else
      let M18 : aM := aUp M 157 26 0
      w_m_goes_56 d v1 v2 0 M18) :=
  (aOm_fix _ _ _ _ _ _).trans rfl
set_option maxRecDepth 20000 in
theorem u_m_goes_56 (d : Nat) (v1 : Int) (v2 : Int) (v3 : Int) (M : aM) : w_m_goes_56 d v1 v2 v3 M = (
    if v3 < v1 then
      bndI (w_m_aDay d M) fun y17 M16 =>
      let v18 : Int := w32 (v3 + 1)
      w_m_goes_56 d v1 v2 v18 M16
    else
      if v2 = 0 then
        inb 2 (aLen 158) <|
        let v19 : Int := (M 158 2)
        w_m_goes_127 d v19 0 M
      else
        if v2 = 1 then
          inb 3 (aLen 158) <|
          let v20 : Int := (M 158 3)
          w_m_goes_127 d v20 0 M
        else
          if v2 = 2 then
            inb 9 (aLen 158) <|
            bndI (w_m_count d (M 158 9) M) fun y22 M21 =>
            w_m_goes_127 d y22 0 M21
          else
            inb 1 (aLen 158) <|
            let v23 : Int := (M 158 1)
            w_m_goes_127 d v23 0 M) :=
  (aOm_fix _ _ _ _ _ _).trans rfl
set_option maxRecDepth 20000 in
theorem u_m_goes_127 (d : Nat) (v3 : Int) (v4 : Int) (M : aM) : w_m_goes_127 d v3 v4 M = (
    if v4 < 41 then
      inb v4 (aLen 161) <|
      inb v4 (aLen 158) <|
      let M16 : aM := aUp M 158 v4.toNat (M 161 v4.toNat)
      let v17 : Int := w32 (v4 + 1)
      w_m_goes_127 d v3 v17 M16
    else
      some ([aI v3], M)) :=
  (aOm_fix _ _ _ _ _ _).trans rfl
set_option maxRecDepth 20000 in
theorem u_m_reads (d : Nat) (v1 : Int) (M : aM) : w_m_reads (d + 1) v1 M = (
    inb 46 (aLen 158) <|
    bndI (w_m_isIn d v1 0 (w32 ((M 158 46) - 1)) M) fun y14 M13 =>
    if y14 = 0 then
      some ([aI (-1)], M13)
    else
      inb (w32 ((w32 (111 + (w32 (3 * v1)))) + 1)) (aLen 158) <|
      let v15 : Int := (M13 158 (w32 ((w32 (111 + (w32 (3 * v1)))) + 1)).toNat)
      bndI (w_m_isAlive d v15 M13) fun y17 M16 =>
      if y17 = 0 then
        w_m_reads_48 d v15 (-1) 0 M16
      else
        some ([aI (-1)], M16)) :=
  (aOm_fix (aSem d) K_m_reads 0 _ [] M).trans rfl
set_option maxRecDepth 20000 in
theorem u_m_reads_48 (d : Nat) (v2 : Int) (v3 : Int) (v4 : Int) (M : aM) : w_m_reads_48 d v2 v3 v4 M = (
    inb 41 (aLen 158) <|
    if v4 < (M 158 41) then
      bndI (w_m_isAlive d v4 M) fun y19 M18 =>
      if y19 = 0 then
        w_m_reads_208 d v2 v3 v4 M18
      else
        if v3 = (-1) then
          if v3 = (-1) then
            if ((-1) : Int) < 0 then
              w_m_reads_201 d v2 v4 M18
            else
              if ((-1) : Int) = 0 then
                if ((-1) : Int) < 0 then
                  w_m_reads_201 d v2 v4 M18
                else
                  w_m_reads_208 d v2 v3 v4 M18
              else
                w_m_reads_208 d v2 v3 v4 M18
          else
            inb (w32 (11 + v4)) (aLen 158) <|
            inb (w32 (11 + v2)) (aLen 158) <|
            bndI (w_m_size d (w32 ((M18 158 (w32 (11 + v4)).toNat) - (M18 158 (w32 (11 + v2)).toNat))) M18) fun y21 M20 =>
            inb (w32 (11 + v3)) (aLen 158) <|
            inb (w32 (11 + v2)) (aLen 158) <|
            bndI (w_m_size d (w32 ((M20 158 (w32 (11 + v3)).toNat) - (M20 158 (w32 (11 + v2)).toNat))) M20) fun y23 M22 =>
            let v24 : Int := (w32 (y21 - y23))
            if ((-1) : Int) < 0 then
              w_m_reads_201 d v2 v4 M22
            else
              if ((-1) : Int) = 0 then
                if v24 < 0 then
                  w_m_reads_201 d v2 v4 M22
                else
                  w_m_reads_208 d v2 v3 v4 M22
              else
                w_m_reads_208 d v2 v3 v4 M22
        else
          inb (w32 (53 + v4)) (aLen 158) <|
          inb (w32 (53 + v2)) (aLen 158) <|
          bndI (w_m_size d (w32 ((M18 158 (w32 (53 + v4)).toNat) - (M18 158 (w32 (53 + v2)).toNat))) M18) fun y26 M25 =>
          inb (w32 (53 + v3)) (aLen 158) <|
          inb (w32 (53 + v2)) (aLen 158) <|
          bndI (w_m_size d (w32 ((M25 158 (w32 (53 + v3)).toNat) - (M25 158 (w32 (53 + v2)).toNat))) M25) fun y28 M27 =>
          let v29 : Int := (w32 (y26 - y28))
          if v3 = (-1) then
            if v29 < 0 then
              w_m_reads_201 d v2 v4 M27
            else
              if v29 = 0 then
                if ((-1) : Int) < 0 then
                  w_m_reads_201 d v2 v4 M27
                else
                  w_m_reads_208 d v2 v3 v4 M27
              else
                w_m_reads_208 d v2 v3 v4 M27
          else
            inb (w32 (11 + v4)) (aLen 158) <|
            inb (w32 (11 + v2)) (aLen 158) <|
            bndI (w_m_size d (w32 ((M27 158 (w32 (11 + v4)).toNat) - (M27 158 (w32 (11 + v2)).toNat))) M27) fun y31 M30 =>
            inb (w32 (11 + v3)) (aLen 158) <|
            inb (w32 (11 + v2)) (aLen 158) <|
            bndI (w_m_size d (w32 ((M30 158 (w32 (11 + v3)).toNat) - (M30 158 (w32 (11 + v2)).toNat))) M30) fun y33 M32 =>
            let v34 : Int := (w32 (y31 - y33))
            if v29 < 0 then
              w_m_reads_201 d v2 v4 M32
            else
              if v29 = 0 then
                if v34 < 0 then
                  w_m_reads_201 d v2 v4 M32
                else
                  w_m_reads_208 d v2 v3 v4 M32
              else
                w_m_reads_208 d v2 v3 v4 M32
    else
      some ([aI v3], M)) :=
  (aOm_fix _ _ _ _ _ _).trans rfl
set_option maxRecDepth 20000 in
theorem u_m_reads_201 (d : Nat) (v2 : Int) (v4 : Int) (M : aM) : w_m_reads_201 d v2 v4 M = (
    w_m_reads_208 d v2 v4 v4 M) :=
  (aOm_fix _ _ _ _ _ _).trans rfl
set_option maxRecDepth 20000 in
theorem u_m_reads_208 (d : Nat) (v2 : Int) (v3 : Int) (v4 : Int) (M : aM) : w_m_reads_208 d v2 v3 v4 M = (
    let v18 : Int := w32 (v4 + 1)
    w_m_reads_48 d v2 v3 v18 M) :=
  (aOm_fix _ _ _ _ _ _).trans rfl
set_option maxRecDepth 20000 in
theorem u_m_seen (d : Nat) (v1 : Int) (v2 : Int) (M : aM) : w_m_seen (d + 1) v1 v2 M = (
    if v1 = (-1) then
      inb 48 (aLen 158) <|
      let M14 : aM := aUp M 158 48 0
      some ([aI 0], M14)
    else
      bndI (w_m_isDeer d v1 M) fun y16 M15 =>
      if y16 = 0 then
        some ([aI (-1)], M15)
      else
        bndI (w_m_isDeer d v2 M15) fun y18 M17 =>
        if y18 = 0 then
          some ([aI (-1)], M17)
        else
          if v1 = v2 then
            some ([aI (-1)], M17)
          else
            inb 48 (aLen 158) <|
            if (M17 158 48) = 12 then
              some ([aI (-1)], M17)
            else
              inb 48 (aLen 158) <|
              inb (w32 (175 + (w32 (2 * (M17 158 48))))) (aLen 158) <|
              let M19 : aM := aUp M17 158 (w32 (175 + (w32 (2 * (M17 158 48))))).toNat v1
              inb 48 (aLen 158) <|
              inb (w32 ((w32 (175 + (w32 (2 * (M19 158 48))))) + 1)) (aLen 158) <|
              let M20 : aM := aUp M19 158 (w32 ((w32 (175 + (w32 (2 * (M19 158 48))))) + 1)).toNat v2
              inb 48 (aLen 158) <|
              inb 48 (aLen 158) <|
              let M21 : aM := aUp M20 158 48 (w32 ((M20 158 48) + 1))
              inb 48 (aLen 158) <|
              some ([aI (M21 158 48)], M21)) :=
  (aOm_fix (aSem d) K_m_seen 0 _ [] M).trans rfl
set_option maxRecDepth 20000 in
theorem u_m_laysAhead (d : Nat)  (M : aM) : w_m_laysAhead (d + 1)  M = (
    w_m_laysAhead_2 d 0 M) :=
  (aOm_fix (aSem d) K_m_laysAhead 0 _ [] M).trans rfl
set_option maxRecDepth 20000 in
theorem u_m_laysAhead_2 (d : Nat) (v1 : Int) (M : aM) : w_m_laysAhead_2 d v1 M = (
    if v1 < 10 then
      inb v1 (aLen 168) <|
      let M13 : aM := aUp M 168 v1.toNat 0
      let v14 : Int := w32 (v1 + 1)
      w_m_laysAhead_2 d v14 M13
    else
      w_m_laysAhead_23 d 0 M) :=
  (aOm_fix _ _ _ _ _ _).trans rfl
set_option maxRecDepth 20000 in
theorem u_m_laysAhead_23 (d : Nat) (v1 : Int) (M : aM) : w_m_laysAhead_23 d v1 M = (
    inb 48 (aLen 158) <|
    if v1 < (M 158 48) then
      inb (w32 ((w32 (175 + (w32 (2 * v1)))) + 1)) (aLen 158) <|
      inb (M 158 (w32 ((w32 (175 + (w32 (2 * v1)))) + 1)).toNat) (aLen 168) <|
      inb (w32 (175 + (w32 (2 * v1)))) (aLen 158) <|
      inb (M 158 (w32 ((w32 (175 + (w32 (2 * v1)))) + 1)).toNat) (aLen 168) <|
      let M13 : aM := aUp M 168 (M 158 (w32 ((w32 (175 + (w32 (2 * v1)))) + 1)).toNat).toNat (ior (M 168 (M 158 (w32 ((w32 (175 + (w32 (2 * v1)))) + 1)).toNat).toNat) (ishl 1 (M 158 (w32 (175 + (w32 (2 * v1)))).toNat)))
      let v14 : Int := w32 (v1 + 1)
      w_m_laysAhead_23 d v14 M13
    else
      some ([], M)) :=
  (aOm_fix _ _ _ _ _ _).trans rfl
set_option maxRecDepth 20000 in
theorem u_m_laysOrders (d : Nat)  (M : aM) : w_m_laysOrders (d + 1)  M = (
    inb 41 (aLen 158) <|
    let v12 : Int := (w32 ((ishl 1 (M 158 41)) - 1))
    inb 0 (aLen 169) <|
    let M13 : aM := aUp M 169 0 1
    w_m_laysOrders_21 d v12 1 M13) :=
  (aOm_fix (aSem d) K_m_laysOrders 0 _ [] M).trans rfl
set_option maxRecDepth 20000 in
theorem u_m_laysOrders_21 (d : Nat) (v1 : Int) (v2 : Int) (M : aM) : w_m_laysOrders_21 d v1 v2 M = (
    if v1 < v2 then
      inb v1 (aLen 169) <|
      some ([aI (M 169 v1.toNat)], M)
    else
      inb v2 (aLen 169) <|
      let M15 : aM := aUp M 169 v2.toNat 0
      w_m_laysOrders_35 d v1 v2 0 M15) :=
  (aOm_fix _ _ _ _ _ _).trans rfl
set_option maxRecDepth 20000 in
theorem u_m_laysOrders_35 (d : Nat) (v1 : Int) (v2 : Int) (v3 : Int) (M : aM) : w_m_laysOrders_35 d v1 v2 v3 M = (
    inb 41 (aLen 158) <|
    if v3 < (M 158 41) then
      if (iand (ishr v2 v3) 1) = 1 then
        inb v3 (aLen 168) <|
        if (iand (M 168 v3.toNat) (ixor (iand v2 (ixor (ishl 1 v3) (-1))) (-1))) = 0 then
          inb v2 (aLen 169) <|
          inb (iand v2 (ixor (ishl 1 v3) (-1))) (aLen 169) <|
          inb v2 (aLen 169) <|
          let M15 : aM := aUp M 169 v2.toNat (w32 ((M 169 v2.toNat) + (M 169 (iand v2 (ixor (ishl 1 v3) (-1))).toNat)))
          let v16 : Int := w32 (v3 + 1)
          w_m_laysOrders_35 d v1 v2 v16 M15
        else
          let v17 : Int := w32 (v3 + 1)
          w_m_laysOrders_35 d v1 v2 v17 M
      else
        let v18 : Int := w32 (v3 + 1)
        w_m_laysOrders_35 d v1 v2 v18 M
    else
      let v19 : Int := w32 (v2 + 1)
      w_m_laysOrders_21 d v1 v19 M) :=
  (aOm_fix _ _ _ _ _ _).trans rfl
set_option maxRecDepth 20000 in
theorem u_m_waysWith (d : Nat) (v1 : Int) (v2 : Int) (M : aM) : w_m_waysWith (d + 1) v1 v2 M = (
    inb v2 (aLen 168) <|
    let v14 : Int := (M 168 v2.toNat)
    inb v2 (aLen 168) <|
    inb v2 (aLen 168) <|
    let M15 : aM := aUp M 168 v2.toNat (ior (M 168 v2.toNat) (ishl 1 v1))
    bndI (w_m_laysOrders d M15) fun y17 M16 =>
    inb v2 (aLen 168) <|
    let M18 : aM := aUp M16 168 v2.toNat v14
    some ([aI y17], M18)) :=
  (aOm_fix (aSem d) K_m_waysWith 0 _ [] M).trans rfl
set_option maxRecDepth 20000 in
theorem u_m_bestCouple (d : Nat) (v1 : Int) (M : aM) : w_m_bestCouple (d + 1) v1 M = (
    w_m_bestCouple_9 d v1 (-1) 10000000 0 M) :=
  (aOm_fix (aSem d) K_m_bestCouple 0 _ [] M).trans rfl
set_option maxRecDepth 20000 in
theorem u_m_bestCouple_9 (d : Nat) (v1 : Int) (v2 : Int) (v3 : Int) (v4 : Int) (M : aM) : w_m_bestCouple_9 d v1 v2 v3 v4 M = (
    inb 41 (aLen 158) <|
    if v4 < (M 158 41) then
      let v18 : Int := (w32 (v4 + 1))
      w_m_bestCouple_27 d v1 v2 v3 v4 v18 M
    else
      some ([aI v2], M)) :=
  (aOm_fix _ _ _ _ _ _).trans rfl
set_option maxRecDepth 20000 in
theorem u_m_bestCouple_27 (d : Nat) (v1 : Int) (v2 : Int) (v3 : Int) (v4 : Int) (v5 : Int) (M : aM) : w_m_bestCouple_27 d v1 v2 v3 v4 v5 M = (
    inb 41 (aLen 158) <|
    if v5 < (M 158 41) then
      bndI (w_m_waysWith d v4 v5 M) fun y19 M18 =>
      bndI (w_m_greater d y19 (w32 (v1 - y19)) M18) fun y21 M20 =>
      if y21 < v3 then
        bndI (w_m_greater d y19 (w32 (v1 - y19)) M20) fun y23 M22 =>
        let v24 : Int := (w32 ((w32 (10 * v4)) + v5))
        let v25 : Int := w32 (v5 + 1)
        w_m_bestCouple_27 d v1 v24 y23 v4 v25 M22
      else
        let v26 : Int := w32 (v5 + 1)
        w_m_bestCouple_27 d v1 v2 v3 v4 v26 M20
    else
      let v27 : Int := w32 (v4 + 1)
      w_m_bestCouple_9 d v1 v2 v3 v27 M) :=
  (aOm_fix _ _ _ _ _ _).trans rfl
set_option maxRecDepth 20000 in
theorem u_m_firstOrder (d : Nat) (v1 : Int) (M : aM) : w_m_firstOrder (d + 1) v1 M = (
    w_m_firstOrder_7 d v1 0 (-1) 0 M) :=
  (aOm_fix (aSem d) K_m_firstOrder 0 _ [] M).trans rfl
set_option maxRecDepth 20000 in
theorem u_m_firstOrder_7 (d : Nat) (v1 : Int) (v2 : Int) (v3 : Int) (v4 : Int) (M : aM) : w_m_firstOrder_7 d v1 v2 v3 v4 M = (
    if v1 < v4 then
      some ([aI v3], M)
    else
      w_m_firstOrder_15 d v1 v2 0 v4 M) :=
  (aOm_fix _ _ _ _ _ _).trans rfl
set_option maxRecDepth 20000 in
theorem u_m_firstOrder_15 (d : Nat) (v1 : Int) (v2 : Int) (v3 : Int) (v4 : Int) (M : aM) : w_m_firstOrder_15 d v1 v2 v3 v4 M = (
    if (iand (ishr v2 v3) 1) = 1 then
      let v16 : Int := w32 (v3 + 1)
      w_m_firstOrder_15 d v1 v2 v16 v4 M
    else
      inb v3 (aLen 168) <|
      if (iand (M 168 v3.toNat) (ixor v2 (-1))) = 0 then
        let v17 : Int := (ior v2 (ishl 1 v3))
        let v18 : Int := w32 (v4 + 1)
        w_m_firstOrder_7 d v1 v17 v3 v18 M
      else
        let v19 : Int := w32 (v3 + 1)
        w_m_firstOrder_15 d v1 v2 v19 v4 M) :=
  (aOm_fix _ _ _ _ _ _).trans rfl
set_option maxRecDepth 20000 in
theorem u_m_orders (d : Nat) (v1 : Int) (M : aM) : w_m_orders (d + 1) v1 M = (
    bndV (w_m_laysAhead d M) fun M13 =>
    bndI (w_m_laysOrders d M13) fun y15 M14 =>
    if v1 = 0 then
      some ([aI y15], M14)
    else
      if y15 = 0 then
        some ([aI (-1)], M14)
      else
        bndI (w_m_isIn d v1 1 2 M14) fun y17 M16 =>
        if y17 = 0 then
          inb 41 (aLen 158) <|
          bndI (w_m_isIn d v1 10 (w32 (9 + (M16 158 41))) M16) fun y19 M18 =>
          if y19 = 0 then
            some ([aI (-1)], M18)
          else
            bndI (w_m_firstOrder d (w32 (v1 - 10)) M18) fun y21 M20 =>
            some ([aI y21], M20)
        else
          if y15 < 2 then
            some ([aI (-1)], M16)
          else
            if v1 = 1 then
              bndI (w_m_bestCouple d y15 M16) fun y23 M22 =>
              some ([aI (idiv y23 10)], M22)
            else
              bndI (w_m_bestCouple d y15 M16) fun y25 M24 =>
              some ([aI (irem y25 10)], M24)) :=
  (aOm_fix (aSem d) K_m_orders 0 _ [] M).trans rfl
set_option maxRecDepth 20000 in
theorem u_m_canLie (d : Nat) (v1 : Int) (v2 : Int) (M : aM) : w_m_canLie (d + 1) v1 v2 M = (
    inb v1 (aLen 171) <|
    if (M 171 v1.toNat) = (-1) then
      inb (w32 (159 + (w32 (2 * v1)))) (aLen 158) <|
      bndI (w_m_size d (w32 (v2 - (M 158 (w32 (159 + (w32 (2 * v1)))).toNat))) M) fun y15 M14 =>
      inb (w32 ((w32 (159 + (w32 (2 * v1)))) + 1)) (aLen 158) <|
      if (M14 158 (w32 ((w32 (159 + (w32 (2 * v1)))) + 1)).toNat) < y15 then
        some ([aI 0], M14)
      else
        some ([aI 1], M14)
    else
      inb v1 (aLen 171) <|
      if (M 171 v1.toNat) = v2 then
        some ([aI 1], M)
      else
        some ([aI 0], M)) :=
  (aOm_fix (aSem d) K_m_canLie 0 _ [] M).trans rfl
set_option maxRecDepth 20000 in
theorem u_m_laysFeasts (d : Nat)  (M : aM) : w_m_laysFeasts (d + 1)  M = (
    inb 47 (aLen 158) <|
    let v12 : Int := (ishl 1 (M 158 47))
    w_m_laysFeasts_13 d v12 40 M) :=
  (aOm_fix (aSem d) K_m_laysFeasts 0 _ [] M).trans rfl
set_option maxRecDepth 20000 in
theorem u_m_laysFeasts_13 (d : Nat) (v1 : Int) (v2 : Int) (M : aM) : w_m_laysFeasts_13 d v1 v2 M = (
    if v2 < 0 then
      inb (w32 (v1 - 1)) (aLen 170) <|
      some ([aI (M 170 (w32 (v1 - 1)).toNat)], M)
    else
      w_m_laysFeasts_19 d v1 v2 0 M) :=
  (aOm_fix _ _ _ _ _ _).trans rfl
set_option maxRecDepth 20000 in
theorem u_m_laysFeasts_19 (d : Nat) (v1 : Int) (v2 : Int) (v3 : Int) (M : aM) : w_m_laysFeasts_19 d v1 v2 v3 M = (
    if v3 < v1 then
      if v2 = 40 then
        if v3 = 0 then
          w_m_laysFeasts_63 d v1 v2 v3 0 0 M
        else
          w_m_laysFeasts_63 d v1 v2 v3 1000000 0 M
      else
        inb (w32 ((w32 (256 * (w32 (v2 + 1)))) + v3)) (aLen 170) <|
        let v17 : Int := (M 170 (w32 ((w32 (256 * (w32 (v2 + 1)))) + v3)).toNat)
        w_m_laysFeasts_63 d v1 v2 v3 v17 0 M
    else
      let v18 : Int := w32 (v2 + (-1))
      w_m_laysFeasts_13 d v1 v18 M) :=
  (aOm_fix _ _ _ _ _ _).trans rfl
set_option maxRecDepth 20000 in
theorem u_m_laysFeasts_63 (d : Nat) (v1 : Int) (v2 : Int) (v3 : Int) (v4 : Int) (v5 : Int) (M : aM) : w_m_laysFeasts_63 d v1 v2 v3 v4 v5 M = (
    inb 47 (aLen 158) <|
    if v5 < (M 158 47) then
      if v2 < 40 then
        if (iand (ishr v3 v5) 1) = 1 then
          bndI (w_m_canLie d v5 v2 M) fun y18 M17 =>
          if y18 = 0 then
            let v19 : Int := w32 (v5 + 1)
            w_m_laysFeasts_63 d v1 v2 v3 v4 v19 M17
          else
            inb (w32 ((w32 (256 * (w32 (v2 + 1)))) + (iand v3 (ixor (ishl 1 v5) (-1))))) (aLen 170) <|
            inb (w32 (159 + (w32 (2 * v5)))) (aLen 158) <|
            bndI (w_m_size d (w32 (v2 - (M17 158 (w32 (159 + (w32 (2 * v5)))).toNat))) M17) fun y21 M20 =>
            bndI (w_m_lesser d v4 (w32 ((M17 170 (w32 ((w32 (256 * (w32 (v2 + 1)))) + (iand v3 (ixor (ishl 1 v5) (-1))))).toNat) + y21)) M20) fun y23 M22 =>
            let v24 : Int := w32 (v5 + 1)
            w_m_laysFeasts_63 d v1 v2 v3 y23 v24 M22
        else
          let v25 : Int := w32 (v5 + 1)
          w_m_laysFeasts_63 d v1 v2 v3 v4 v25 M
      else
        inb (w32 ((w32 (256 * v2)) + v3)) (aLen 170) <|
        let M26 : aM := aUp M 170 (w32 ((w32 (256 * v2)) + v3)).toNat v4
        let v27 : Int := w32 (v3 + 1)
        w_m_laysFeasts_19 d v1 v2 v27 M26
    else
      inb (w32 ((w32 (256 * v2)) + v3)) (aLen 170) <|
      let M28 : aM := aUp M 170 (w32 ((w32 (256 * v2)) + v3)).toNat v4
      let v29 : Int := w32 (v3 + 1)
      w_m_laysFeasts_19 d v1 v2 v29 M28) :=
  (aOm_fix _ _ _ _ _ _).trans rfl
set_option maxRecDepth 20000 in
theorem u_m_moves (d : Nat) (v1 : Int) (M : aM) : w_m_moves (d + 1) v1 M = (
    if v1 = 0 then
      w_m_moves_27 d v1 0 M
    else
      inb 47 (aLen 158) <|
      bndI (w_m_isIn d v1 10 (w32 (9 + (M 158 47))) M) fun y14 M13 =>
      if y14 = 0 then
        some ([aI (-1)], M13)
      else
        w_m_moves_27 d v1 0 M13) :=
  (aOm_fix (aSem d) K_m_moves 0 _ [] M).trans rfl
set_option maxRecDepth 20000 in
theorem u_m_moves_27 (d : Nat) (v1 : Int) (v2 : Int) (M : aM) : w_m_moves_27 d v1 v2 M = (
    if v2 < 8 then
      inb v2 (aLen 171) <|
      let M16 : aM := aUp M 171 v2.toNat (-1)
      let v17 : Int := w32 (v2 + 1)
      w_m_moves_27 d v1 v17 M16
    else
      bndI (w_m_laysFeasts d M) fun y19 M18 =>
      if y19 < 1000000 then
        if v1 = 0 then
          if y19 < 1000000 then
            some ([aI y19], M18)
          else
            some ([aI (-1)], M18)
        else
          w_m_moves_77 d v1 y19 0 M18
      else
        if y19 < 1000000 then
          some ([aI y19], M18)
        else
          some ([aI (-1)], M18)) :=
  (aOm_fix _ _ _ _ _ _).trans rfl
set_option maxRecDepth 20000 in
theorem u_m_moves_77 (d : Nat) (v1 : Int) (v2 : Int) (v3 : Int) (M : aM) : w_m_moves_77 d v1 v2 v3 M = (
    if (w32 (v1 - 10)) < v3 then
      inb (w32 (v1 - 10)) (aLen 171) <|
      some ([aI (M 171 (w32 (v1 - 10)).toNat)], M)
    else
      inb (w32 (159 + (w32 (2 * v3)))) (aLen 158) <|
      inb (w32 ((w32 (159 + (w32 (2 * v3)))) + 1)) (aLen 158) <|
      bndI (w_m_greater d 0 (w32 ((M 158 (w32 (159 + (w32 (2 * v3)))).toNat) - (M 158 (w32 ((w32 (159 + (w32 (2 * v3)))) + 1)).toNat))) M) fun y17 M16 =>
      inb v3 (aLen 171) <|
      let M18 : aM := aUp M16 171 v3.toNat y17
      w_m_moves_126 d v1 v2 v3 y17 M18) :=
  (aOm_fix _ _ _ _ _ _).trans rfl
set_option maxRecDepth 20000 in
theorem u_m_moves_126 (d : Nat) (v1 : Int) (v2 : Int) (v3 : Int) (v4 : Int) (M : aM) : w_m_moves_126 d v1 v2 v3 v4 M = (
    bndI (w_m_laysFeasts d M) fun y17 M16 =>
    if y17 = v2 then
      let v18 : Int := w32 (v3 + 1)
      w_m_moves_77 d v1 v2 v18 M16
    else
      let v19 : Int := w32 (v4 + 1)
      inb v3 (aLen 171) <|
      let M20 : aM := aUp M16 171 v3.toNat v19
      w_m_moves_126 d v1 v2 v3 v19 M20) :=
  (aOm_fix _ _ _ _ _ _).trans rfl
set_option maxRecDepth 20000 in
theorem u_m_work (d : Nat) (v1 : Int) (M : aM) : w_m_work (d + 1) v1 M = (
    if v1 = (-1) then
      inb 49 (aLen 158) <|
      let M13 : aM := aUp M 158 49 0
      some ([aI 0], M13)
    else
      bndI (w_m_isIn d v1 1 24 M) fun y15 M14 =>
      if y15 = 0 then
        some ([aI (-1)], M14)
      else
        inb 49 (aLen 158) <|
        if (M14 158 49) = 8 then
          some ([aI (-1)], M14)
        else
          inb 49 (aLen 158) <|
          inb (w32 (199 + (M14 158 49))) (aLen 158) <|
          let M16 : aM := aUp M14 158 (w32 (199 + (M14 158 49))).toNat v1
          inb 49 (aLen 158) <|
          inb 49 (aLen 158) <|
          let M17 : aM := aUp M16 158 49 (w32 ((M16 158 49) + 1))
          inb 49 (aLen 158) <|
          some ([aI (M17 158 49)], M17)) :=
  (aOm_fix (aSem d) K_m_work 0 _ [] M).trans rfl
set_option maxRecDepth 20000 in
theorem u_m_laysHerd (d : Nat)  (M : aM) : w_m_laysHerd (d + 1)  M = (
    bndI (w_m_likeliestOne d M) fun y13 M12 =>
    let M14 : aM := aUp M12 157 33 0
    w_m_laysHerd_14 d y13 0 0 M14) :=
  (aOm_fix (aSem d) K_m_laysHerd 0 _ [] M).trans rfl
set_option maxRecDepth 20000 in
theorem u_m_laysHerd_14 (d : Nat) (v1 : Int) (v2 : Int) (v3 : Int) (M : aM) : w_m_laysHerd_14 d v1 v2 v3 M = (
    inb 41 (aLen 158) <|
    if v3 < (M 158 41) then
      inb 41 (aLen 158) <|
      if (M 158 41) = 0 then none else
      let v16 : Int := (irem (w32 (v1 + v3)) (M 158 41))
      bndI (w_m_isAlive d v16 M) fun y18 M17 =>
      if y18 = 0 then
        let v19 : Int := w32 (v3 + 1)
        w_m_laysHerd_14 d v1 v2 v19 M17
      else
        inb (M17 157 33) (aLen 172) <|
        let M20 : aM := aUp M17 172 (M17 157 33).toNat v16
        let M21 : aM := aUp M20 157 33 (w32 ((M20 157 33) + 1))
        bndI (w_m_longOf d v16 M21) fun y23 M22 =>
        bndI (w_m_greater d v2 y23 M22) fun y25 M24 =>
        let v26 : Int := w32 (v3 + 1)
        w_m_laysHerd_14 d v1 y25 v26 M24
    else
      some ([aI v2], M)) :=
  (aOm_fix _ _ _ _ _ _).trans rfl
set_option maxRecDepth 20000 in
theorem u_m_behind (d : Nat) (v1 : Int) (v2 : Int) (M : aM) : w_m_behind (d + 1) v1 v2 M = (
    let v14 : Int := (idiv v1 100)
    let v15 : Int := (irem v1 100)
    w_m_behind_11 d v2 v14 v15 M) :=
  (aOm_fix (aSem d) K_m_behind 0 _ [] M).trans rfl
set_option maxRecDepth 20000 in
theorem u_m_behind_11 (d : Nat) (v2 : Int) (v3 : Int) (v4 : Int) (M : aM) : w_m_behind_11 d v2 v3 v4 M = (
    if v3 = 0 then
      let v16 : Int := w32 (v3 + 1)
      w_m_behind_11 d v2 v16 0 M
    else
      if (M 157 33) = 0 then none else
      inb (irem (w32 (v3 - 1)) (M 157 33)) (aLen 172) <|
      bndI (w_m_longOf d (M 172 (irem (w32 (v3 - 1)) (M 157 33)).toNat) M) fun y18 M17 =>
      if y18 < (w32 (v4 + v2)) then
        let v19 : Int := w32 (v3 + 1)
        w_m_behind_11 d v2 v19 0 M17
      else
        some ([aI (w32 ((w32 ((w32 (100 * v3)) + v4)) + v2))], M17)) :=
  (aOm_fix _ _ _ _ _ _).trans rfl
set_option maxRecDepth 20000 in
theorem u_m_inOrder (d : Nat)  (M : aM) : w_m_inOrder (d + 1)  M = (
    w_m_inOrder_4 d 0 0 M) :=
  (aOm_fix (aSem d) K_m_inOrder 0 _ [] M).trans rfl
set_option maxRecDepth 20000 in
theorem u_m_inOrder_4 (d : Nat) (v1 : Int) (v2 : Int) (M : aM) : w_m_inOrder_4 d v1 v2 M = (
    inb 49 (aLen 158) <|
    if v2 < (M 158 49) then
      inb (w32 (199 + v2)) (aLen 158) <|
      bndI (w_m_behind d v1 (M 158 (w32 (199 + v2)).toNat) M) fun y15 M14 =>
      let v16 : Int := w32 (v2 + 1)
      w_m_inOrder_4 d y15 v16 M14
    else
      some ([aI v1], M)) :=
  (aOm_fix _ _ _ _ _ _).trans rfl
set_option maxRecDepth 20000 in
theorem u_m_bestOrder (d : Nat)  (M : aM) : w_m_bestOrder (d + 1)  M = (
    w_m_bestOrder_2 d 0 M) :=
  (aOm_fix (aSem d) K_m_bestOrder 0 _ [] M).trans rfl
set_option maxRecDepth 20000 in
theorem u_m_bestOrder_2 (d : Nat) (v1 : Int) (M : aM) : w_m_bestOrder_2 d v1 M = (
    inb 49 (aLen 158) <|
    if v1 < (ishl 1 (M 158 49)) then
      if v1 = 0 then
        inb v1 (aLen 173) <|
        let M14 : aM := aUp M 173 v1.toNat 0
        w_m_bestOrder_34 d v1 0 M14
      else
        inb v1 (aLen 173) <|
        let M15 : aM := aUp M 173 v1.toNat 1000000
        w_m_bestOrder_34 d v1 0 M15
    else
      inb 49 (aLen 158) <|
      inb (w32 ((ishl 1 (M 158 49)) - 1)) (aLen 173) <|
      some ([aI (M 173 (w32 ((ishl 1 (M 158 49)) - 1)).toNat)], M)) :=
  (aOm_fix _ _ _ _ _ _).trans rfl
set_option maxRecDepth 20000 in
theorem u_m_bestOrder_34 (d : Nat) (v1 : Int) (v2 : Int) (M : aM) : w_m_bestOrder_34 d v1 v2 M = (
    inb 49 (aLen 158) <|
    if v2 < (M 158 49) then
      if (iand (ishr v1 v2) 1) = 1 then
        inb v1 (aLen 173) <|
        inb (iand v1 (ixor (ishl 1 v2) (-1))) (aLen 173) <|
        inb (w32 (199 + v2)) (aLen 158) <|
        bndI (w_m_behind d (M 173 (iand v1 (ixor (ishl 1 v2) (-1))).toNat) (M 158 (w32 (199 + v2)).toNat) M) fun y15 M14 =>
        bndI (w_m_lesser d (M 173 v1.toNat) y15 M14) fun y17 M16 =>
        inb v1 (aLen 173) <|
        let M18 : aM := aUp M16 173 v1.toNat y17
        let v19 : Int := w32 (v2 + 1)
        w_m_bestOrder_34 d v1 v19 M18
      else
        let v20 : Int := w32 (v2 + 1)
        w_m_bestOrder_34 d v1 v20 M
    else
      let v21 : Int := w32 (v1 + 1)
      w_m_bestOrder_2 d v21 M) :=
  (aOm_fix _ _ _ _ _ _).trans rfl
set_option maxRecDepth 20000 in
theorem u_m_works (d : Nat) (v1 : Int) (M : aM) : w_m_works (d + 1) v1 M = (
    bndI (w_m_isIn d v1 0 2 M) fun y14 M13 =>
    if y14 = 0 then
      some ([aI (-1)], M13)
    else
      inb 10 (aLen 158) <|
      if (M13 158 10) = 0 then
        some ([aI (-1)], M13)
      else
        bndI (w_m_laysHerd d M13) fun y16 M15 =>
        w_m_works_28 d v1 y16 0 M15) :=
  (aOm_fix (aSem d) K_m_works 0 _ [] M).trans rfl
set_option maxRecDepth 20000 in
theorem u_m_works_28 (d : Nat) (v1 : Int) (v2 : Int) (v3 : Int) (M : aM) : w_m_works_28 d v1 v2 v3 M = (
    inb 49 (aLen 158) <|
    if v3 < (M 158 49) then
      inb (w32 (199 + v3)) (aLen 158) <|
      if v2 < (M 158 (w32 (199 + v3)).toNat) then
        some ([aI (-1)], M)
      else
        let v15 : Int := w32 (v3 + 1)
        w_m_works_28 d v1 v2 v15 M
    else
      if v1 = 2 then
        bndI (w_m_bestOrder d M) fun y17 M16 =>
        some ([aI (idiv y17 100)], M16)
      else
        bndI (w_m_inOrder d M) fun y19 M18 =>
        let v20 : Int := (idiv y19 100)
        if v1 = 0 then
          some ([aI v20], M18)
        else
          if v20 = 0 then
            some ([aI (-1)], M18)
          else
            if (M18 157 33) = 0 then none else
            inb (irem (w32 (v20 - 1)) (M18 157 33)) (aLen 172) <|
            some ([aI (M18 172 (irem (w32 (v20 - 1)) (M18 157 33)).toNat)], M18)) :=
  (aOm_fix _ _ _ _ _ _).trans rfl
set_option maxRecDepth 20000 in
theorem u_m_isGate (d : Nat) (v0 : Int) (M : aM) : w_m_isGate (d + 1) v0 M = (
    bndI (w_m_isIn d v0 0 9 M) fun y13 M12 =>
    aBool y13 <| some ([aI y13], M12)) :=
  (aOm_fix (aSem d) K_m_isGate 0 _ [] M).trans rfl
set_option maxRecDepth 20000 in
theorem u_m_gate (d : Nat) (v1 : Int) (v2 : Int) (M : aM) : w_m_gate (d + 1) v1 v2 M = (
    if v1 = (-1) then
      inb 50 (aLen 158) <|
      let M14 : aM := aUp M 158 50 0
      some ([aI 0], M14)
    else
      bndI (w_m_isGate d v1 M) fun y16 M15 =>
      if y16 = 0 then
        some ([aI (-1)], M15)
      else
        bndI (w_m_isGate d v2 M15) fun y18 M17 =>
        if y18 = 0 then
          some ([aI (-1)], M17)
        else
          if v1 = v2 then
            some ([aI (-1)], M17)
          else
            inb 50 (aLen 158) <|
            if (M17 158 50) = 14 then
              some ([aI (-1)], M17)
            else
              inb 50 (aLen 158) <|
              inb (w32 (207 + (w32 (2 * (M17 158 50))))) (aLen 158) <|
              let M19 : aM := aUp M17 158 (w32 (207 + (w32 (2 * (M17 158 50))))).toNat v1
              inb 50 (aLen 158) <|
              inb (w32 ((w32 (207 + (w32 (2 * (M19 158 50))))) + 1)) (aLen 158) <|
              let M20 : aM := aUp M19 158 (w32 ((w32 (207 + (w32 (2 * (M19 158 50))))) + 1)).toNat v2
              inb 50 (aLen 158) <|
              inb 50 (aLen 158) <|
              let M21 : aM := aUp M20 158 50 (w32 ((M20 158 50) + 1))
              inb 50 (aLen 158) <|
              some ([aI (M21 158 50)], M21)) :=
  (aOm_fix (aSem d) K_m_gate 0 _ [] M).trans rfl
set_option maxRecDepth 20000 in
theorem u_m_watches (d : Nat) (v1 : Int) (M : aM) : w_m_watches (d + 1) v1 M = (
    w_m_watches_2 d v1 0 M) :=
  (aOm_fix (aSem d) K_m_watches 0 _ [] M).trans rfl
set_option maxRecDepth 20000 in
theorem u_m_watches_2 (d : Nat) (v1 : Int) (v2 : Int) (M : aM) : w_m_watches_2 d v1 v2 M = (
    inb 50 (aLen 158) <|
    if v2 < (M 158 50) then
      inb (w32 (207 + (w32 (2 * v2)))) (aLen 158) <|
      if (iand (ishr v1 (M 158 (w32 (207 + (w32 (2 * v2)))).toNat)) 1) = 0 then
        inb (w32 ((w32 (207 + (w32 (2 * v2)))) + 1)) (aLen 158) <|
        if (iand (ishr v1 (M 158 (w32 ((w32 (207 + (w32 (2 * v2)))) + 1)).toNat)) 1) = 0 then
          some ([aI 0], M)
        else
          let v14 : Int := w32 (v2 + 1)
          w_m_watches_2 d v1 v14 M
      else
        let v15 : Int := w32 (v2 + 1)
        w_m_watches_2 d v1 v15 M
    else
      some ([aI 1], M)) :=
  (aOm_fix _ _ _ _ _ _).trans rfl
set_option maxRecDepth 20000 in
theorem u_m_watch (d : Nat) (v1 : Int) (M : aM) : w_m_watch (d + 1) v1 M = (
    bndI (w_m_isIn d v1 0 1 M) fun y14 M13 =>
    if y14 = 0 then
      some ([aI (-1)], M13)
    else
      w_m_watch_17 d v1 1023 0 M13) :=
  (aOm_fix (aSem d) K_m_watch 0 _ [] M).trans rfl
set_option maxRecDepth 20000 in
theorem u_m_watch_17 (d : Nat) (v1 : Int) (v2 : Int) (v3 : Int) (M : aM) : w_m_watch_17 d v1 v2 v3 M = (
    if v3 < 1024 then
      bndI (w_m_count d v3 M) fun y16 M15 =>
      bndI (w_m_count d v2 M15) fun y18 M17 =>
      if y16 < y18 then
        bndI (w_m_watches d v3 M17) fun y20 M19 =>
        if y20 = 0 then
          let v21 : Int := w32 (v3 + 1)
          w_m_watch_17 d v1 v2 v21 M19
        else
          let v22 : Int := w32 (v3 + 1)
          w_m_watch_17 d v1 v3 v22 M19
      else
        let v23 : Int := w32 (v3 + 1)
        w_m_watch_17 d v1 v2 v23 M17
    else
      if v1 = 0 then
        bndI (w_m_count d v2 M) fun y25 M24 =>
        some ([aI y25], M24)
      else
        some ([aI v2], M)) :=
  (aOm_fix _ _ _ _ _ _).trans rfl
set_option maxRecDepth 20000 in
theorem u_m_ate (d : Nat) (v1 : Int) (v2 : Int) (M : aM) : w_m_ate (d + 1) v1 v2 M = (
    if v1 = (-1) then
      inb 51 (aLen 158) <|
      let M14 : aM := aUp M 158 51 0
      some ([aI 0], M14)
    else
      bndI (w_m_isIn d v1 0 6 M) fun y16 M15 =>
      if y16 = 0 then
        some ([aI (-1)], M15)
      else
        bndI (w_m_isDeer d v2 M15) fun y18 M17 =>
        if y18 = 0 then
          some ([aI (-1)], M17)
        else
          inb 51 (aLen 158) <|
          if (M17 158 51) = 20 then
            some ([aI (-1)], M17)
          else
            inb 51 (aLen 158) <|
            inb (w32 (235 + (w32 (2 * (M17 158 51))))) (aLen 158) <|
            let M19 : aM := aUp M17 158 (w32 (235 + (w32 (2 * (M17 158 51))))).toNat v1
            inb 51 (aLen 158) <|
            inb (w32 ((w32 (235 + (w32 (2 * (M19 158 51))))) + 1)) (aLen 158) <|
            let M20 : aM := aUp M19 158 (w32 ((w32 (235 + (w32 (2 * (M19 158 51))))) + 1)).toNat v2
            inb 51 (aLen 158) <|
            inb 51 (aLen 158) <|
            let M21 : aM := aUp M20 158 51 (w32 ((M20 158 51) + 1))
            inb 51 (aLen 158) <|
            some ([aI (M21 158 51)], M21)) :=
  (aOm_fix (aSem d) K_m_ate 0 _ [] M).trans rfl
set_option maxRecDepth 20000 in
theorem u_m_laysAte (d : Nat)  (M : aM) : w_m_laysAte (d + 1)  M = (
    w_m_laysAte_2 d 0 M) :=
  (aOm_fix (aSem d) K_m_laysAte 0 _ [] M).trans rfl
set_option maxRecDepth 20000 in
theorem u_m_laysAte_2 (d : Nat) (v1 : Int) (M : aM) : w_m_laysAte_2 d v1 M = (
    if v1 < 7 then
      inb v1 (aLen 174) <|
      let M13 : aM := aUp M 174 v1.toNat 0
      let v14 : Int := w32 (v1 + 1)
      w_m_laysAte_2 d v14 M13
    else
      w_m_laysAte_23 d 0 M) :=
  (aOm_fix _ _ _ _ _ _).trans rfl
set_option maxRecDepth 20000 in
theorem u_m_laysAte_23 (d : Nat) (v1 : Int) (M : aM) : w_m_laysAte_23 d v1 M = (
    inb 51 (aLen 158) <|
    if v1 < (M 158 51) then
      inb (w32 (235 + (w32 (2 * v1)))) (aLen 158) <|
      inb (M 158 (w32 (235 + (w32 (2 * v1)))).toNat) (aLen 174) <|
      inb (w32 ((w32 (235 + (w32 (2 * v1)))) + 1)) (aLen 158) <|
      inb (M 158 (w32 (235 + (w32 (2 * v1)))).toNat) (aLen 174) <|
      let M13 : aM := aUp M 174 (M 158 (w32 (235 + (w32 (2 * v1)))).toNat).toNat (ior (M 174 (M 158 (w32 (235 + (w32 (2 * v1)))).toNat).toNat) (ishl 1 (M 158 (w32 ((w32 (235 + (w32 (2 * v1)))) + 1)).toNat)))
      let v14 : Int := w32 (v1 + 1)
      w_m_laysAte_23 d v14 M13
    else
      some ([], M)) :=
  (aOm_fix _ _ _ _ _ _).trans rfl
set_option maxRecDepth 20000 in
theorem u_m_waysFrom (d : Nat) (v1 : Int) (v2 : Int) (M : aM) : w_m_waysFrom (d + 1) v1 v2 M = (
    if v1 = 7 then
      some ([aI 1], M)
    else
      inb v1 (aLen 174) <|
      if (M 174 v1.toNat) = 0 then
        bndI (w_m_waysFrom d (w32 (v1 + 1)) v2 M) fun y15 M14 =>
        some ([aI y15], M14)
      else
        w_m_waysFrom_31 d v1 v2 0 0 M) :=
  (aOm_fix (aSem d) K_m_waysFrom 0 _ [] M).trans rfl
set_option maxRecDepth 20000 in
theorem u_m_waysFrom_31 (d : Nat) (v1 : Int) (v2 : Int) (v3 : Int) (v4 : Int) (M : aM) : w_m_waysFrom_31 d v1 v2 v3 v4 M = (
    inb 41 (aLen 158) <|
    if v4 < (M 158 41) then
      inb v1 (aLen 174) <|
      if (iand (ishr (iand (M 174 v1.toNat) (ixor v2 (-1))) v4) 1) = 1 then
        bndI (w_m_waysFrom d (w32 (v1 + 1)) (ior v2 (ishl 1 v4)) M) fun y17 M16 =>
        let v18 : Int := (w32 (v3 + y17))
        let v19 : Int := w32 (v4 + 1)
        w_m_waysFrom_31 d v1 v2 v18 v19 M16
      else
        let v20 : Int := w32 (v4 + 1)
        w_m_waysFrom_31 d v1 v2 v3 v20 M
    else
      some ([aI v3], M)) :=
  (aOm_fix _ _ _ _ _ _).trans rfl
set_option maxRecDepth 20000 in
theorem u_m_sureOnes (d : Nat) (v1 : Int) (M : aM) : w_m_sureOnes (d + 1) v1 M = (
    w_m_sureOnes_4 d v1 0 0 M) :=
  (aOm_fix (aSem d) K_m_sureOnes 0 _ [] M).trans rfl
set_option maxRecDepth 20000 in
theorem u_m_sureOnes_4 (d : Nat) (v1 : Int) (v2 : Int) (v3 : Int) (M : aM) : w_m_sureOnes_4 d v1 v2 v3 M = (
    if v3 < 7 then
      inb v3 (aLen 174) <|
      let v17 : Int := (M 174 v3.toNat)
      w_m_sureOnes_21 d v1 v2 v3 v17 0 M
    else
      some ([aI v2], M)) :=
  (aOm_fix _ _ _ _ _ _).trans rfl
set_option maxRecDepth 20000 in
theorem u_m_sureOnes_21 (d : Nat) (v1 : Int) (v2 : Int) (v3 : Int) (v4 : Int) (v5 : Int) (M : aM) : w_m_sureOnes_21 d v1 v2 v3 v4 v5 M = (
    inb 41 (aLen 158) <|
    if v5 < (M 158 41) then
      if (iand (ishr v4 v5) 1) = 0 then
        let v17 : Int := w32 (v5 + 1)
        w_m_sureOnes_21 d v1 v2 v3 v4 v17 M
      else
        inb v3 (aLen 174) <|
        let M18 : aM := aUp M 174 v3.toNat (ishl 1 v5)
        bndI (w_m_waysFrom d 0 0 M18) fun y20 M19 =>
        if y20 = v1 then
          let v21 : Int := (w32 (v2 + 1))
          let v22 : Int := w32 (v5 + 1)
          w_m_sureOnes_21 d v1 v21 v3 v4 v22 M19
        else
          let v23 : Int := (w32 (v2 + 0))
          let v24 : Int := w32 (v5 + 1)
          w_m_sureOnes_21 d v1 v23 v3 v4 v24 M19
    else
      inb v3 (aLen 174) <|
      let M25 : aM := aUp M 174 v3.toNat v4
      let v26 : Int := w32 (v3 + 1)
      w_m_sureOnes_4 d v1 v2 v26 M25) :=
  (aOm_fix _ _ _ _ _ _).trans rfl
set_option maxRecDepth 20000 in
theorem u_m_ways (d : Nat) (v1 : Int) (M : aM) : w_m_ways (d + 1) v1 M = (
    bndI (w_m_isIn d v1 0 1 M) fun y14 M13 =>
    if y14 = 0 then
      some ([aI (-1)], M13)
    else
      bndV (w_m_laysAte d M13) fun M15 =>
      bndI (w_m_waysFrom d 0 0 M15) fun y17 M16 =>
      if v1 = 0 then
        some ([aI y17], M16)
      else
        if y17 = 0 then
          some ([aI 0], M16)
        else
          bndI (w_m_sureOnes d y17 M16) fun y19 M18 =>
          some ([aI y19], M18)) :=
  (aOm_fix (aSem d) K_m_ways 0 _ [] M).trans rfl
set_option maxRecDepth 20000 in
theorem u_m_vote (d : Nat) (v1 : Int) (M : aM) : w_m_vote (d + 1) v1 M = (
    if v1 = (-1) then
      inb 52 (aLen 158) <|
      let M13 : aM := aUp M 158 52 0
      some ([aI 0], M13)
    else
      bndI (w_m_isIn d v1 0 24 M) fun y15 M14 =>
      if y15 = 0 then
        some ([aI (-1)], M14)
      else
        inb 52 (aLen 158) <|
        if (M14 158 52) = 9 then
          some ([aI (-1)], M14)
        else
          inb 52 (aLen 158) <|
          inb (w32 (275 + (M14 158 52))) (aLen 158) <|
          let M16 : aM := aUp M14 158 (w32 (275 + (M14 158 52))).toNat v1
          inb 52 (aLen 158) <|
          inb 52 (aLen 158) <|
          let M17 : aM := aUp M16 158 52 (w32 ((M16 158 52) + 1))
          inb 52 (aLen 158) <|
          some ([aI (M17 158 52)], M17)) :=
  (aOm_fix (aSem d) K_m_vote 0 _ [] M).trans rfl
set_option maxRecDepth 20000 in
theorem u_m_farFrom (d : Nat) (v1 : Int) (M : aM) : w_m_farFrom (d + 1) v1 M = (
    w_m_farFrom_4 d v1 0 0 M) :=
  (aOm_fix (aSem d) K_m_farFrom 0 _ [] M).trans rfl
set_option maxRecDepth 20000 in
theorem u_m_farFrom_4 (d : Nat) (v1 : Int) (v2 : Int) (v3 : Int) (M : aM) : w_m_farFrom_4 d v1 v2 v3 M = (
    inb 52 (aLen 158) <|
    if v3 < (M 158 52) then
      inb (w32 (275 + v3)) (aLen 158) <|
      bndI (w_m_size d (w32 ((M 158 (w32 (275 + v3)).toNat) - v1)) M) fun y16 M15 =>
      let v17 : Int := (w32 (v2 + y16))
      let v18 : Int := w32 (v3 + 1)
      w_m_farFrom_4 d v1 v17 v18 M15
    else
      some ([aI v2], M)) :=
  (aOm_fix _ _ _ _ _ _).trans rfl
set_option maxRecDepth 20000 in
theorem u_m_votes (d : Nat) (v1 : Int) (M : aM) : w_m_votes (d + 1) v1 M = (
    bndI (w_m_isIn d v1 0 1 M) fun y14 M13 =>
    if y14 = 0 then
      some ([aI (-1)], M13)
    else
      inb 52 (aLen 158) <|
      if (M13 158 52) = 0 then
        some ([aI (-1)], M13)
      else
        w_m_votes_25 d v1 0 1 M13) :=
  (aOm_fix (aSem d) K_m_votes 0 _ [] M).trans rfl
set_option maxRecDepth 20000 in
theorem u_m_votes_25 (d : Nat) (v1 : Int) (v2 : Int) (v3 : Int) (M : aM) : w_m_votes_25 d v1 v2 v3 M = (
    if 24 < v3 then
      if v1 = 0 then
        some ([aI v2], M)
      else
        bndI (w_m_farFrom d v2 M) fun y16 M15 =>
        some ([aI y16], M15)
    else
      bndI (w_m_farFrom d v3 M) fun y18 M17 =>
      bndI (w_m_farFrom d v2 M17) fun y20 M19 =>
      if y18 < y20 then
        let v21 : Int := w32 (v3 + 1)
        w_m_votes_25 d v1 v3 v21 M19
      else
        let v22 : Int := w32 (v3 + 1)
        w_m_votes_25 d v1 v2 v22 M19) :=
  (aOm_fix _ _ _ _ _ _).trans rfl
set_option maxRecDepth 20000 in
theorem u_m_laysSalt (d : Nat) (v1 : Int) (M : aM) : w_m_laysSalt (d + 1) v1 M = (
    inb 4 (aLen 158) <|
    let v13 : Int := (M 158 4)
    w_m_laysSalt_9 d v1 v13 0 M) :=
  (aOm_fix (aSem d) K_m_laysSalt 0 _ [] M).trans rfl
set_option maxRecDepth 20000 in
theorem u_m_laysSalt_9 (d : Nat) (v1 : Int) (v2 : Int) (v3 : Int) (M : aM) : w_m_laysSalt_9 d v1 v2 v3 M = (
    inb 41 (aLen 158) <|
    if v3 < (M 158 41) then
      w_m_laysSalt_23 d v1 v2 v3 0 M
    else
      inb 4 (aLen 158) <|
      let M18 : aM := aUp M 158 4 v2
      inb 41 (aLen 158) <|
      let v19 : Int := (M18 158 41)
      w_m_laysSalt_88 d v1 v19 M18) :=
  (aOm_fix _ _ _ _ _ _).trans rfl
set_option maxRecDepth 20000 in
theorem u_m_laysSalt_23 (d : Nat) (v1 : Int) (v2 : Int) (v3 : Int) (v4 : Int) (M : aM) : w_m_laysSalt_23 d v1 v2 v3 v4 M = (
    if v1 < v4 then
      let v18 : Int := w32 (v3 + 1)
      w_m_laysSalt_9 d v1 v2 v18 M
    else
      bndI (w_m_lesser d 99 (w32 (v2 + v4)) M) fun y20 M19 =>
      inb 4 (aLen 158) <|
      let M21 : aM := aUp M19 158 4 y20
      bndI (w_m_comeOf d v3 M21) fun y23 M22 =>
      inb (w32 ((w32 (21 * v3)) + v4)) (aLen 175) <|
      let M24 : aM := aUp M22 175 (w32 ((w32 (21 * v3)) + v4)).toNat y23
      let v25 : Int := w32 (v4 + 1)
      w_m_laysSalt_23 d v1 v2 v3 v25 M24) :=
  (aOm_fix _ _ _ _ _ _).trans rfl
set_option maxRecDepth 20000 in
theorem u_m_laysSalt_88 (d : Nat) (v1 : Int) (v3 : Int) (M : aM) : w_m_laysSalt_88 d v1 v3 M = (
    if v3 < 0 then
      some ([], M)
    else
      w_m_laysSalt_95 d v1 v3 0 M) :=
  (aOm_fix _ _ _ _ _ _).trans rfl
set_option maxRecDepth 20000 in
theorem u_m_laysSalt_95 (d : Nat) (v1 : Int) (v3 : Int) (v4 : Int) (M : aM) : w_m_laysSalt_95 d v1 v3 v4 M = (
    if v1 < v4 then
      let v18 : Int := w32 (v3 + (-1))
      w_m_laysSalt_88 d v1 v18 M
    else
      inb 41 (aLen 158) <|
      if v3 = (M 158 41) then
        if v4 = 0 then
          w_m_laysSalt_160 d v1 v3 v4 0 0 M
        else
          w_m_laysSalt_160 d v1 v3 v4 (-1000000) 0 M
      else
        bndI (w_m_isAlive d v3 M) fun y20 M19 =>
        if y20 = 0 then
          inb (w32 ((w32 (21 * (w32 (v3 + 1)))) + v4)) (aLen 176) <|
          let v21 : Int := (M19 176 (w32 ((w32 (21 * (w32 (v3 + 1)))) + v4)).toNat)
          w_m_laysSalt_160 d v1 v3 v4 v21 0 M19
        else
          w_m_laysSalt_160 d v1 v3 v4 (-1000000) 0 M19) :=
  (aOm_fix _ _ _ _ _ _).trans rfl
set_option maxRecDepth 20000 in
theorem u_m_laysSalt_160 (d : Nat) (v1 : Int) (v3 : Int) (v4 : Int) (v5 : Int) (v6 : Int) (M : aM) : w_m_laysSalt_160 d v1 v3 v4 v5 v6 M = (
    if v4 < v6 then
      inb (w32 ((w32 (21 * v3)) + v4)) (aLen 176) <|
      let M18 : aM := aUp M 176 (w32 ((w32 (21 * v3)) + v4)).toNat v5
      let v19 : Int := w32 (v4 + 1)
      w_m_laysSalt_95 d v1 v3 v19 M18
    else
      bndI (w_m_isAlive d v3 M) fun y21 M20 =>
      if y21 = 0 then
        inb (w32 ((w32 (21 * v3)) + v4)) (aLen 176) <|
        let M22 : aM := aUp M20 176 (w32 ((w32 (21 * v3)) + v4)).toNat v5
        let v23 : Int := w32 (v4 + 1)
        w_m_laysSalt_95 d v1 v3 v23 M22
      else
        inb (w32 ((w32 (21 * v3)) + v6)) (aLen 175) <|
        inb (w32 ((w32 ((w32 (21 * (w32 (v3 + 1)))) + v4)) - v6)) (aLen 176) <|
        bndI (w_m_greater d v5 (w32 ((M20 175 (w32 ((w32 (21 * v3)) + v6)).toNat) + (M20 176 (w32 ((w32 ((w32 (21 * (w32 (v3 + 1)))) + v4)) - v6)).toNat))) M20) fun y25 M24 =>
        let v26 : Int := w32 (v6 + 1)
        w_m_laysSalt_160 d v1 v3 v4 y25 v26 M24) :=
  (aOm_fix _ _ _ _ _ _).trans rfl
set_option maxRecDepth 20000 in
theorem u_m_salts (d : Nat) (v1 : Int) (v2 : Int) (M : aM) : w_m_salts (d + 1) v1 v2 M = (
    bndI (w_m_isIn d v1 1 20 M) fun y15 M14 =>
    if y15 = 0 then
      some ([aI (-1)], M14)
    else
      inb 10 (aLen 158) <|
      if (M14 158 10) = 0 then
        some ([aI (-1)], M14)
      else
        if v2 = 0 then
          bndV (w_m_laysSalt d v1 M14) fun M16 =>
          if v2 = 0 then
            inb v1 (aLen 176) <|
            some ([aI (M16 176 v1.toNat)], M16)
          else
            w_m_salts_69 d v2 v1 0 0 M16
        else
          inb 41 (aLen 158) <|
          bndI (w_m_isIn d v2 10 (w32 (9 + (M14 158 41))) M14) fun y18 M17 =>
          if y18 = 0 then
            some ([aI (-1)], M17)
          else
            bndV (w_m_laysSalt d v1 M17) fun M19 =>
            if v2 = 0 then
              inb v1 (aLen 176) <|
              some ([aI (M19 176 v1.toNat)], M19)
            else
              w_m_salts_69 d v2 v1 0 0 M19) :=
  (aOm_fix (aSem d) K_m_salts 0 _ [] M).trans rfl
set_option maxRecDepth 20000 in
theorem u_m_salts_69 (d : Nat) (v2 : Int) (v3 : Int) (v4 : Int) (v5 : Int) (M : aM) : w_m_salts_69 d v2 v3 v4 v5 M = (
    if (w32 (v2 - 10)) < v5 then
      some ([aI v4], M)
    else
      w_m_salts_81 d v2 v3 0 v5 M) :=
  (aOm_fix _ _ _ _ _ _).trans rfl
set_option maxRecDepth 20000 in
theorem u_m_salts_81 (d : Nat) (v2 : Int) (v3 : Int) (v4 : Int) (v5 : Int) (M : aM) : w_m_salts_81 d v2 v3 v4 v5 M = (
    bndI (w_m_isAlive d v5 M) fun y18 M17 =>
    if y18 = 0 then
      let v19 : Int := (w32 (v3 - v4))
      let v20 : Int := w32 (v5 + 1)
      w_m_salts_69 d v2 v19 v4 v20 M17
    else
      inb (w32 ((w32 (21 * v5)) + v4)) (aLen 175) <|
      inb (w32 ((w32 ((w32 (21 * (w32 (v5 + 1)))) + v3)) - v4)) (aLen 176) <|
      inb (w32 ((w32 (21 * v5)) + v3)) (aLen 176) <|
      if (w32 ((M17 175 (w32 ((w32 (21 * v5)) + v4)).toNat) + (M17 176 (w32 ((w32 ((w32 (21 * (w32 (v5 + 1)))) + v3)) - v4)).toNat))) = (M17 176 (w32 ((w32 (21 * v5)) + v3)).toNat) then
        let v21 : Int := (w32 (v3 - v4))
        let v22 : Int := w32 (v5 + 1)
        w_m_salts_69 d v2 v21 v4 v22 M17
      else
        let v23 : Int := w32 (v4 + 1)
        w_m_salts_81 d v2 v3 v23 v5 M17) :=
  (aOm_fix _ _ _ _ _ _).trans rfl
set_option maxRecDepth 20000 in
theorem u_m_marked (d : Nat) (v1 : Int) (M : aM) : w_m_marked (d + 1) v1 M = (
    w_m_marked_4 d v1 0 0 M) :=
  (aOm_fix (aSem d) K_m_marked 0 _ [] M).trans rfl
set_option maxRecDepth 20000 in
theorem u_m_marked_4 (d : Nat) (v1 : Int) (v2 : Int) (v3 : Int) (M : aM) : w_m_marked_4 d v1 v2 v3 M = (
    inb 41 (aLen 158) <|
    if v3 < (M 158 41) then
      bndI (w_m_isAlive d v3 M) fun y16 M15 =>
      if y16 = 0 then
        let v17 : Int := (w32 (v2 + 0))
        let v18 : Int := w32 (v3 + 1)
        w_m_marked_4 d v1 v17 v18 M15
      else
        inb (w32 (53 + v3)) (aLen 158) <|
        if (M15 158 (w32 (53 + v3)).toNat) = v1 then
          let v19 : Int := (w32 (v2 + 1))
          let v20 : Int := w32 (v3 + 1)
          w_m_marked_4 d v1 v19 v20 M15
        else
          let v21 : Int := (w32 (v2 + 0))
          let v22 : Int := w32 (v3 + 1)
          w_m_marked_4 d v1 v21 v22 M15
    else
      some ([aI v2], M)) :=
  (aOm_fix _ _ _ _ _ _).trans rfl
set_option maxRecDepth 20000 in
theorem u_m_nods (d : Nat) (v1 : Int) (v2 : Int) (M : aM) : w_m_nods (d + 1) v1 v2 M = (
    bndI (w_m_isIn d v1 0 5 M) fun y15 M14 =>
    if y15 = 0 then
      some ([aI (-1)], M14)
    else
      bndI (w_m_isIn d v2 0 5 M14) fun y17 M16 =>
      if y17 = 0 then
        some ([aI (-1)], M16)
      else
        if v1 = v2 then
          bndI (w_m_marked d v1 M16) fun y19 M18 =>
          bndI (w_m_marked d v1 M18) fun y21 M20 =>
          some ([aI (idiv (w32 (y19 * (w32 (y21 - 1)))) 2)], M20)
        else
          bndI (w_m_marked d v1 M16) fun y23 M22 =>
          bndI (w_m_marked d v2 M22) fun y25 M24 =>
          some ([aI (w32 (y23 * y25))], M24)) :=
  (aOm_fix (aSem d) K_m_nods 0 _ [] M).trans rfl
set_option maxRecDepth 20000 in
theorem u_m_heapOf (d : Nat) (v1 : Int) (M : aM) : w_m_heapOf (d + 1) v1 M = (
    bndI (w_m_isAlive d v1 M) fun y14 M13 =>
    if y14 = 0 then
      some ([aI 0], M13)
    else
      inb (w32 (31 + v1)) (aLen 158) <|
      some ([aI (M13 158 (w32 (31 + v1)).toNat)], M13)) :=
  (aOm_fix (aSem d) K_m_heapOf 0 _ [] M).trans rfl
set_option maxRecDepth 20000 in
theorem u_m_game (d : Nat) (v1 : Int) (M : aM) : w_m_game (d + 1) v1 M = (
    bndI (w_m_isIn d v1 0 1 M) fun y14 M13 =>
    if y14 = 0 then
      some ([aI (-1)], M13)
    else
      w_m_game_15 d v1 0 0 M13) :=
  (aOm_fix (aSem d) K_m_game 0 _ [] M).trans rfl
set_option maxRecDepth 20000 in
theorem u_m_game_15 (d : Nat) (v1 : Int) (v2 : Int) (v3 : Int) (M : aM) : w_m_game_15 d v1 v2 v3 M = (
    inb 41 (aLen 158) <|
    if v3 < (M 158 41) then
      bndI (w_m_heapOf d v3 M) fun y17 M16 =>
      let v18 : Int := (ixor v2 (irem y17 4))
      let v19 : Int := w32 (v3 + 1)
      w_m_game_15 d v1 v18 v19 M16
    else
      w_m_game_44 d v1 v2 0 M) :=
  (aOm_fix _ _ _ _ _ _).trans rfl
set_option maxRecDepth 20000 in
theorem u_m_game_44 (d : Nat) (v1 : Int) (v2 : Int) (v3 : Int) (M : aM) : w_m_game_44 d v1 v2 v3 M = (
    inb 41 (aLen 158) <|
    if v3 < (M 158 41) then
      w_m_game_58 d v1 v2 v3 1 M
    else
      some ([aI (-1)], M)) :=
  (aOm_fix _ _ _ _ _ _).trans rfl
set_option maxRecDepth 20000 in
theorem u_m_game_58 (d : Nat) (v1 : Int) (v2 : Int) (v3 : Int) (v4 : Int) (M : aM) : w_m_game_58 d v1 v2 v3 v4 M = (
    bndI (w_m_heapOf d v3 M) fun y17 M16 =>
    bndI (w_m_lesser d 3 y17 M16) fun y19 M18 =>
    if y19 < v4 then
      let v20 : Int := w32 (v3 + 1)
      w_m_game_44 d v1 v2 v20 M18
    else
      bndI (w_m_heapOf d v3 M18) fun y22 M21 =>
      bndI (w_m_heapOf d v3 M21) fun y24 M23 =>
      if (ixor v2 (irem y22 4)) = (irem (w32 (y24 - v4)) 4) then
        if v1 = 0 then
          some ([aI v3], M23)
        else
          some ([aI v4], M23)
      else
        let v25 : Int := w32 (v4 + 1)
        w_m_game_58 d v1 v2 v3 v25 M23) :=
  (aOm_fix _ _ _ _ _ _).trans rfl
set_option maxRecDepth 20000 in
theorem u_m_image (d : Nat) (v1 : Int) (M : aM) : w_m_image (d + 1) v1 M = (
    if v1 = 0 then
      if (M 157 5) = 0 then
        some ([aI 0], M)
      else
        w_m_image_15 d v1 0 M
    else
      w_m_image_15 d v1 0 M) :=
  (aOm_fix (aSem d) K_m_image 0 _ [] M).trans rfl
set_option maxRecDepth 20000 in
theorem u_m_image_15 (d : Nat) (v1 : Int) (v2 : Int) (M : aM) : w_m_image_15 d v1 v2 M = (
    if v2 < 1768 then
      if v1 = 0 then
        inb v2 (aLen 159) <|
        inb v2 (aLen 158) <|
        let M14 : aM := aUp M 158 v2.toNat (M 159 v2.toNat)
        let v15 : Int := w32 (v2 + 1)
        w_m_image_15 d v1 v15 M14
      else
        inb v2 (aLen 158) <|
        inb v2 (aLen 159) <|
        let M16 : aM := aUp M 159 v2.toNat (M 158 v2.toNat)
        let v17 : Int := w32 (v2 + 1)
        w_m_image_15 d v1 v17 M16
    else
      if v1 = 0 then
        bndV (w_m_forgets d M) fun M18 =>
        let M19 : aM := aUp M18 157 5 1
        some ([aI 1], M19)
      else
        let M20 : aM := aUp M 157 5 1
        some ([aI 1], M20)) :=
  (aOm_fix _ _ _ _ _ _).trans rfl
set_option maxRecDepth 20000 in
theorem u_m_look (d : Nat) (v1 : Int) (M : aM) : w_m_look (d + 1) v1 M = (
    if v1 = 0 then
      inb 41 (aLen 158) <|
      some ([aI (M 158 41)], M)
    else
    if v1 = 1 then
      inb 0 (aLen 158) <|
      some ([aI (M 158 0)], M)
    else
    if v1 = 2 then
      inb 1 (aLen 158) <|
      some ([aI (M 158 1)], M)
    else
    if v1 = 3 then
      inb 2 (aLen 158) <|
      some ([aI (M 158 2)], M)
    else
    if v1 = 4 then
      inb 3 (aLen 158) <|
      some ([aI (M 158 3)], M)
    else
    if v1 = 5 then
      inb 4 (aLen 158) <|
      some ([aI (M 158 4)], M)
    else
    if v1 = 6 then
      inb 5 (aLen 158) <|
      some ([aI (M 158 5)], M)
    else
    if v1 = 7 then
      inb 6 (aLen 158) <|
      some ([aI (M 158 6)], M)
    else
    if v1 = 8 then
      inb 10 (aLen 158) <|
      some ([aI (M 158 10)], M)
    else
    if v1 = 9 then
      inb 8 (aLen 158) <|
      some ([aI (M 158 8)], M)
    else
    if v1 = 10 then
      inb 7 (aLen 158) <|
      some ([aI (M 158 7)], M)
    else
    if v1 = 11 then
      inb 44 (aLen 158) <|
      some ([aI (M 158 44)], M)
    else
    if v1 = 12 then
      inb 45 (aLen 158) <|
      some ([aI (M 158 45)], M)
    else
    if v1 = 13 then
      inb 46 (aLen 158) <|
      some ([aI (M 158 46)], M)
    else
    if v1 = 14 then
      inb 47 (aLen 158) <|
      some ([aI (M 158 47)], M)
    else
    if v1 = 15 then
      inb 48 (aLen 158) <|
      some ([aI (M 158 48)], M)
    else
    if v1 = 16 then
      inb 49 (aLen 158) <|
      some ([aI (M 158 49)], M)
    else
    if v1 = 17 then
      inb 50 (aLen 158) <|
      some ([aI (M 158 50)], M)
    else
    if v1 = 18 then
      inb 51 (aLen 158) <|
      some ([aI (M 158 51)], M)
    else
    if v1 = 19 then
      inb 52 (aLen 158) <|
      some ([aI (M 158 52)], M)
    else
    if v1 = 20 then
      some ([aI (M 157 4)], M)
    else
      some ([aI (-1000000)], M)) :=
  (aOm_fix (aSem d) K_m_look 0 _ [] M).trans rfl
set_option maxRecDepth 20000 in
theorem u_ji_bitCount (d : Nat) (v0 : Int) (M : aM) : w_ji_bitCount (d + 1) v0 M = (
    let v12 : Int := (w32 (v0 - (iand (iushr v0 1) 1431655765)))
    let v13 : Int := (w32 ((iand v12 858993459) + (iand (iushr v12 2) 858993459)))
    let v14 : Int := (iand (w32 (v13 + (iushr v13 4))) 252645135)
    let v15 : Int := (w32 (v14 + (iushr v14 8)))
    let v16 : Int := (w32 (v15 + (iushr v15 16)))
    some ([aI (iand v16 63)], M)) :=
  (aOm_fix (aSem d) K_ji_bitCount 0 _ [] M).trans rfl
set_option maxRecDepth 20000 in
theorem u_jm_floorMod (d : Nat) (v0 : Int) (v1 : Int) (M : aM) : w_jm_floorMod (d + 1) v0 v1 M = (
    if v1 = 0 then none else
    let v13 : Int := (irem v0 v1)
    if (ixor v0 v1) < 0 then
      if v13 = 0 then
        some ([aI v13], M)
      else
        some ([aI (w32 (v13 + v1))], M)
    else
      some ([aI v13], M)) :=
  (aOm_fix (aSem d) K_jm_floorMod 0 _ [] M).trans rfl
set_option maxRecDepth 20000 in
theorem u_js_length (d : Nat) (a0 : Nat) (M : aM) : w_js_length (d + 1) a0 M = (
    bndI (w_js_coder d a0 M) fun y13 M12 =>
    some ([aI (ishr (((aStrL a0).length : Nat) : Int) y13)], M12)) :=
  (aOm_fix (aSem d) K_js_length 0 _ [] M).trans rfl
set_option maxRecDepth 20000 in
theorem u_js_charAt (d : Nat) (a0 : Nat) (v1 : Int) (M : aM) : w_js_charAt (d + 1) a0 v1 M = (
    bndI (w_js_isLatin1 d a0 M) fun y14 M13 =>
    if y14 = 0 then
      none
    else
      bndI (w_jl_charAt d a0 v1 M13) fun y16 M15 =>
      aRng 0 127 y16 <| some ([aI y16], M15)) :=
  (aOm_fix (aSem d) K_js_charAt 0 _ [] M).trans rfl
set_option maxRecDepth 20000 in
theorem u_js_indexOf4 (d : Nat) (a0 : Nat) (v1 : Int) (M : aM) : w_js_indexOf4 (d + 1) a0 v1 M = (
    bndI (w_js_indexOf5 d a0 v1 0 M) fun y14 M13 =>
    some ([aI y14], M13)) :=
  (aOm_fix (aSem d) K_js_indexOf4 0 _ [] M).trans rfl
set_option maxRecDepth 20000 in
theorem u_js_indexOf5 (d : Nat) (a0 : Nat) (v1 : Int) (v2 : Int) (M : aM) : w_js_indexOf5 (d + 1) a0 v1 v2 M = (
    bndI (w_js_isLatin1 d a0 M) fun y15 M14 =>
    if y15 = 0 then
      bndI (w_js_length d a0 M14) fun y17 M16 =>
      none
    else
      bndI (w_js_length d a0 M14) fun y19 M18 =>
      bndI (w_jl_indexOf d a0 v1 v2 y19 M18) fun y21 M20 =>
      some ([aI y21], M20)) :=
  (aOm_fix (aSem d) K_js_indexOf5 0 _ [] M).trans rfl
set_option maxRecDepth 20000 in
theorem u_js_coder (d : Nat) (a0 : Nat) (M : aM) : w_js_coder (d + 1) a0 M = (
    if (1 : Int) = 0 then
      aRng 0 1 1 <| some ([aI 1], M)
    else
      aRng 0 1 0 <| some ([aI 0], M)) :=
  (aOm_fix (aSem d) K_js_coder 0 _ [] M).trans rfl
set_option maxRecDepth 20000 in
theorem u_js_isLatin1 (d : Nat) (a0 : Nat) (M : aM) : w_js_isLatin1 (d + 1) a0 M = (
    if (1 : Int) = 0 then
      some ([aI 0], M)
    else
      if (0 : Int) = 0 then
        some ([aI 1], M)
      else
        some ([aI 0], M)) :=
  (aOm_fix (aSem d) K_js_isLatin1 0 _ [] M).trans rfl
set_option maxRecDepth 20000 in
theorem u_js_checkIndex (d : Nat) (v0 : Int) (v1 : Int) (M : aM) : w_js_checkIndex (d + 1) v0 v1 M = (
    bndI (w_jp_checkIndex d v0 v1 M) fun y14 M13 =>
    some ([], M13)) :=
  (aOm_fix (aSem d) K_js_checkIndex 0 _ [] M).trans rfl
set_option maxRecDepth 20000 in
theorem u_jl_charAt (d : Nat) (a0 : Nat) (v1 : Int) (M : aM) : w_jl_charAt (d + 1) a0 v1 M = (
    bndV (w_js_checkIndex d v1 (((aStrL a0).length : Nat) : Int) M) fun M13 =>
    inb v1 (aStrL a0).length <|
    aRng 0 127 (i2c (iand (aChr a0 v1) 255)) <| some ([aI (i2c (iand (aChr a0 v1) 255))], M13)) :=
  (aOm_fix (aSem d) K_jl_charAt 0 _ [] M).trans rfl
set_option maxRecDepth 20000 in
theorem u_jl_canEncode (d : Nat) (v0 : Int) (M : aM) : w_jl_canEncode (d + 1) v0 M = (
    if v0 < 0 then
      some ([aI 0], M)
    else
      if 255 < v0 then
        some ([aI 0], M)
      else
        some ([aI 1], M)) :=
  (aOm_fix (aSem d) K_jl_canEncode 0 _ [] M).trans rfl
set_option maxRecDepth 20000 in
theorem u_jl_indexOf (d : Nat) (a0 : Nat) (v1 : Int) (v2 : Int) (v3 : Int) (M : aM) : w_jl_indexOf (d + 1) a0 v1 v2 v3 M = (
    bndI (w_jl_canEncode d v1 M) fun y16 M15 =>
    if y16 = 0 then
      some ([aI (-1)], M15)
    else
      let v17 : Int := (imax v2 0)
      let v18 : Int := (imin v3 (((aStrL a0).length : Nat) : Int))
      if v17 < v18 then
        bndI (w_jl_indexOfChar d a0 v1 v17 v18 M15) fun y20 M19 =>
        some ([aI y20], M19)
      else
        some ([aI (-1)], M15)) :=
  (aOm_fix (aSem d) K_jl_indexOf 0 _ [] M).trans rfl
set_option maxRecDepth 20000 in
theorem u_jl_indexOfChar (d : Nat) (a0 : Nat) (v1 : Int) (v2 : Int) (v3 : Int) (M : aM) : w_jl_indexOfChar (d + 1) a0 v1 v2 v3 M = (
    let v15 : Int := (i2b v1)
    w_jl_indexOfChar_7 d a0 v3 v15 v2 M) :=
  (aOm_fix (aSem d) K_jl_indexOfChar 0 _ [] M).trans rfl
set_option maxRecDepth 20000 in
theorem u_jl_indexOfChar_7 (d : Nat) (a0 : Nat) (v3 : Int) (v4 : Int) (v5 : Int) (M : aM) : w_jl_indexOfChar_7 d a0 v3 v4 v5 M = (
    if v5 < v3 then
      inb v5 (aStrL a0).length <|
      if (aChr a0 v5) = v4 then
        some ([aI v5], M)
      else
        let v17 : Int := w32 (v5 + 1)
        w_jl_indexOfChar_7 d a0 v3 v4 v17 M
    else
      some ([aI (-1)], M)) :=
  (aOm_fix _ _ _ _ _ _).trans rfl
set_option maxRecDepth 20000 in
theorem u_ja_fillJ (d : Nat) (a0 : Nat) (v1 : Int) (M : aM) : w_ja_fillJ (d + 1) a0 v1 M = (
    let v13 : Int := ((aLen a0 : Nat) : Int)
    w_ja_fillJ_6 d a0 v1 0 v13 M) :=
  (aOm_fix (aSem d) K_ja_fillJ 0 _ [] M).trans rfl
set_option maxRecDepth 20000 in
theorem u_ja_fillJ_6 (d : Nat) (a0 : Nat) (v1 : Int) (v3 : Int) (v4 : Int) (M : aM) : w_ja_fillJ_6 d a0 v1 v3 v4 M = (
    if v3 < v4 then
      inb v3 (aLen a0) <|
      let M16 : aM := aUp M a0 v3.toNat v1
      let v17 : Int := w32 (v3 + 1)
      w_ja_fillJ_6 d a0 v1 v17 v4 M16
    else
      some ([], M)) :=
  (aOm_fix _ _ _ _ _ _).trans rfl
set_option maxRecDepth 20000 in
theorem u_ja_fillI (d : Nat) (a0 : Nat) (v1 : Int) (M : aM) : w_ja_fillI (d + 1) a0 v1 M = (
    let v13 : Int := ((aLen a0 : Nat) : Int)
    w_ja_fillI_5 d a0 v1 0 v13 M) :=
  (aOm_fix (aSem d) K_ja_fillI 0 _ [] M).trans rfl
set_option maxRecDepth 20000 in
theorem u_ja_fillI_5 (d : Nat) (a0 : Nat) (v1 : Int) (v2 : Int) (v3 : Int) (M : aM) : w_ja_fillI_5 d a0 v1 v2 v3 M = (
    if v2 < v3 then
      inb v2 (aLen a0) <|
      let M15 : aM := aUp M a0 v2.toNat v1
      let v16 : Int := w32 (v2 + 1)
      w_ja_fillI_5 d a0 v1 v16 v3 M15
    else
      some ([], M)) :=
  (aOm_fix _ _ _ _ _ _).trans rfl
set_option maxRecDepth 20000 in
theorem u_jp_checkIndex (d : Nat) (v0 : Int) (v1 : Int) (M : aM) : w_jp_checkIndex (d + 1) v0 v1 M = (
    if v0 < 0 then
      none
    else
      if v0 < v1 then
        some ([aI v0], M)
      else
        none) :=
  (aOm_fix (aSem d) K_jp_checkIndex 0 _ [] M).trans rfl
