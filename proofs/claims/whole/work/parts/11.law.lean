set_option maxRecDepth 20000 in
theorem u_lw_law_18 (d : Nat) (v3 : Int) (M : aM) : w_lw_law_18 d v3 M = (
    if (w32 ((M 998 0) - 6)) < v3 then
      some ([aI 1], M)
    else
      inb v3 (M 998 0).toNat <|
      if (iand (M 999 v3.toNat) 63) = 0 then
        inb (w32 (v3 + 1)) (M 998 0).toNat <|
        bndI (w_x_state d (M 999 (w32 (v3 + 1)).toNat) M) fun y16 M15 =>
        inb (w32 (v3 + 1)) (M15 998 0).toNat <|
        bndI (w_m_state d (M15 999 (w32 (v3 + 1)).toNat) M15) fun y18 M17 =>
        if y16 = y18 then
          w_lw_law_1158 d v3 M17
        else
          some ([aI 0], M17)
      else
      if (iand (M 999 v3.toNat) 63) = 1 then
        inb (w32 (v3 + 1)) (M 998 0).toNat <|
        inb (w32 (v3 + 2)) (M 998 0).toNat <|
        bndI (w_x_deer d (M 999 (w32 (v3 + 1)).toNat) (M 999 (w32 (v3 + 2)).toNat) M) fun y20 M19 =>
        inb (w32 (v3 + 1)) (M19 998 0).toNat <|
        inb (w32 (v3 + 2)) (M19 998 0).toNat <|
        bndI (w_m_deer d (M19 999 (w32 (v3 + 1)).toNat) (M19 999 (w32 (v3 + 2)).toNat) M19) fun y22 M21 =>
        if y20 = y22 then
          w_lw_law_1158 d v3 M21
        else
          some ([aI 0], M21)
      else
      if (iand (M 999 v3.toNat) 63) = 2 then
        inb (w32 (v3 + 1)) (M 998 0).toNat <|
        inb (w32 (v3 + 2)) (M 998 0).toNat <|
        inb (w32 (v3 + 3)) (M 998 0).toNat <|
        bndI (w_x_set d (M 999 (w32 (v3 + 1)).toNat) (M 999 (w32 (v3 + 2)).toNat) (M 999 (w32 (v3 + 3)).toNat) M) fun y24 M23 =>
        inb (w32 (v3 + 1)) (M23 998 0).toNat <|
        inb (w32 (v3 + 2)) (M23 998 0).toNat <|
        inb (w32 (v3 + 3)) (M23 998 0).toNat <|
        bndI (w_m_set d (M23 999 (w32 (v3 + 1)).toNat) (M23 999 (w32 (v3 + 2)).toNat) (M23 999 (w32 (v3 + 3)).toNat) M23) fun y26 M25 =>
        if y24 = y26 then
          w_lw_law_1158 d v3 M25
        else
          some ([aI 0], M25)
      else
      if (iand (M 999 v3.toNat) 63) = 3 then
        inb (w32 (v3 + 1)) (M 998 0).toNat <|
        inb (w32 (v3 + 2)) (M 998 0).toNat <|
        if (M 999 (w32 (v3 + 2)).toNat) = 0 then
          bndI (w_x_eat d (M 999 (w32 (v3 + 1)).toNat) 0 M) fun y28 M27 =>
          inb (w32 (v3 + 1)) (M27 998 0).toNat <|
          inb (w32 (v3 + 2)) (M27 998 0).toNat <|
          if (M27 999 (w32 (v3 + 2)).toNat) = 0 then
            bndI (w_m_eat d (M27 999 (w32 (v3 + 1)).toNat) 0 M27) fun y30 M29 =>
            if y28 = y30 then
              w_lw_law_1158 d v3 M29
            else
              some ([aI 0], M29)
          else
            bndI (w_m_eat d (M27 999 (w32 (v3 + 1)).toNat) 1 M27) fun y32 M31 =>
            if y28 = y32 then
              w_lw_law_1158 d v3 M31
            else
              some ([aI 0], M31)
        else
          bndI (w_x_eat d (M 999 (w32 (v3 + 1)).toNat) 1 M) fun y34 M33 =>
          inb (w32 (v3 + 1)) (M33 998 0).toNat <|
          inb (w32 (v3 + 2)) (M33 998 0).toNat <|
          if (M33 999 (w32 (v3 + 2)).toNat) = 0 then
            bndI (w_m_eat d (M33 999 (w32 (v3 + 1)).toNat) 0 M33) fun y36 M35 =>
            if y34 = y36 then
              w_lw_law_1158 d v3 M35
            else
              some ([aI 0], M35)
          else
            bndI (w_m_eat d (M33 999 (w32 (v3 + 1)).toNat) 1 M33) fun y38 M37 =>
            if y34 = y38 then
              w_lw_law_1158 d v3 M37
            else
              some ([aI 0], M37)
      else
      if (iand (M 999 v3.toNat) 63) = 4 then
        inb (w32 (v3 + 1)) (M 998 0).toNat <|
        bndI (w_x_days d (M 999 (w32 (v3 + 1)).toNat) M) fun y40 M39 =>
        inb (w32 (v3 + 1)) (M39 998 0).toNat <|
        bndI (w_m_days d (M39 999 (w32 (v3 + 1)).toNat) M39) fun y42 M41 =>
        if y40 = y42 then
          w_lw_law_1158 d v3 M41
        else
          some ([aI 0], M41)
      else
      if (iand (M 999 v3.toNat) 63) = 5 then
        inb (w32 (v3 + 1)) (M 998 0).toNat <|
        bndI (w_x_waitFor d (M 999 (w32 (v3 + 1)).toNat) M) fun y44 M43 =>
        inb (w32 (v3 + 1)) (M43 998 0).toNat <|
        bndI (w_m_waitFor d (M43 999 (w32 (v3 + 1)).toNat) M43) fun y46 M45 =>
        if y44 = y46 then
          w_lw_law_1158 d v3 M45
        else
          some ([aI 0], M45)
      else
      if (iand (M 999 v3.toNat) 63) = 6 then
        inb (w32 (v3 + 1)) (M 998 0).toNat <|
        inb (w32 (v3 + 2)) (M 998 0).toNat <|
        inb (w32 (v3 + 3)) (M 998 0).toNat <|
        inb (w32 (v3 + 4)) (M 998 0).toNat <|
        inb (w32 (v3 + 5)) (M 998 0).toNat <|
        bndI (w_x_feed d (M 999 (w32 (v3 + 1)).toNat) (M 999 (w32 (v3 + 2)).toNat) (M 999 (w32 (v3 + 3)).toNat) (M 999 (w32 (v3 + 4)).toNat) (M 999 (w32 (v3 + 5)).toNat) M) fun y48 M47 =>
        inb (w32 (v3 + 1)) (M47 998 0).toNat <|
        inb (w32 (v3 + 2)) (M47 998 0).toNat <|
        inb (w32 (v3 + 3)) (M47 998 0).toNat <|
        inb (w32 (v3 + 4)) (M47 998 0).toNat <|
        inb (w32 (v3 + 5)) (M47 998 0).toNat <|
        bndI (w_m_feed d (M47 999 (w32 (v3 + 1)).toNat) (M47 999 (w32 (v3 + 2)).toNat) (M47 999 (w32 (v3 + 3)).toNat) (M47 999 (w32 (v3 + 4)).toNat) (M47 999 (w32 (v3 + 5)).toNat) M47) fun y50 M49 =>
        if y48 = y50 then
          w_lw_law_1158 d v3 M49
        else
          some ([aI 0], M49)
      else
      if (iand (M 999 v3.toNat) 63) = 7 then
        inb (w32 (v3 + 1)) (M 998 0).toNat <|
        bndI (w_x_end d (M 999 (w32 (v3 + 1)).toNat) M) fun y52 M51 =>
        inb (w32 (v3 + 1)) (M51 998 0).toNat <|
        bndI (w_m_end d (M51 999 (w32 (v3 + 1)).toNat) M51) fun y54 M53 =>
        if y52 = y54 then
          w_lw_law_1158 d v3 M53
        else
          some ([aI 0], M53)
      else
      if (iand (M 999 v3.toNat) 63) = 8 then
        inb (w32 (v3 + 1)) (M 998 0).toNat <|
        bndI (w_x_text d (M 999 (w32 (v3 + 1)).toNat) M) fun y56 M55 =>
        inb (w32 (v3 + 1)) (M55 998 0).toNat <|
        bndI (w_m_text d (M55 999 (w32 (v3 + 1)).toNat) M55) fun y58 M57 =>
        if y56 = y58 then
          w_lw_law_1158 d v3 M57
        else
          some ([aI 0], M57)
      else
      if (iand (M 999 v3.toNat) 63) = 9 then
        inb (w32 (v3 + 1)) (M 998 0).toNat <|
        bndI (w_x_fault d (M 999 (w32 (v3 + 1)).toNat) M) fun y60 M59 =>
        inb (w32 (v3 + 1)) (M59 998 0).toNat <|
        bndI (w_m_fault d (M59 999 (w32 (v3 + 1)).toNat) M59) fun y62 M61 =>
        if y60 = y62 then
          w_lw_law_1158 d v3 M61
        else
          some ([aI 0], M61)
      else
      if (iand (M 999 v3.toNat) 63) = 10 then
        inb (w32 (v3 + 1)) (M 998 0).toNat <|
        inb (w32 (v3 + 2)) (M 998 0).toNat <|
        bndI (w_x_of d (M 999 (w32 (v3 + 1)).toNat) (M 999 (w32 (v3 + 2)).toNat) M) fun y64 M63 =>
        inb (w32 (v3 + 1)) (M63 998 0).toNat <|
        inb (w32 (v3 + 2)) (M63 998 0).toNat <|
        bndI (w_m_of d (M63 999 (w32 (v3 + 1)).toNat) (M63 999 (w32 (v3 + 2)).toNat) M63) fun y66 M65 =>
        if y64 = y66 then
          w_lw_law_1158 d v3 M65
        else
          some ([aI 0], M65)
      else
      if (iand (M 999 v3.toNat) 63) = 11 then
        inb (w32 (v3 + 1)) (M 998 0).toNat <|
        inb (w32 (v3 + 2)) (M 998 0).toNat <|
        bndI (w_x_due d (M 999 (w32 (v3 + 1)).toNat) (M 999 (w32 (v3 + 2)).toNat) M) fun y68 M67 =>
        inb (w32 (v3 + 1)) (M67 998 0).toNat <|
        inb (w32 (v3 + 2)) (M67 998 0).toNat <|
        bndI (w_m_due d (M67 999 (w32 (v3 + 1)).toNat) (M67 999 (w32 (v3 + 2)).toNat) M67) fun y70 M69 =>
        if y68 = y70 then
          w_lw_law_1158 d v3 M69
        else
          some ([aI 0], M69)
      else
      if (iand (M 999 v3.toNat) 63) = 12 then
        inb (w32 (v3 + 1)) (M 998 0).toNat <|
        inb (w32 (v3 + 2)) (M 998 0).toNat <|
        bndI (w_x_book d (M 999 (w32 (v3 + 1)).toNat) (M 999 (w32 (v3 + 2)).toNat) M) fun y72 M71 =>
        inb (w32 (v3 + 1)) (M71 998 0).toNat <|
        inb (w32 (v3 + 2)) (M71 998 0).toNat <|
        bndI (w_m_book d (M71 999 (w32 (v3 + 1)).toNat) (M71 999 (w32 (v3 + 2)).toNat) M71) fun y74 M73 =>
        if y72 = y74 then
          w_lw_law_1158 d v3 M73
        else
          some ([aI 0], M73)
      else
      if (iand (M 999 v3.toNat) 63) = 13 then
        inb (w32 (v3 + 1)) (M 998 0).toNat <|
        inb (w32 (v3 + 2)) (M 998 0).toNat <|
        bndI (w_x_next d (M 999 (w32 (v3 + 1)).toNat) (M 999 (w32 (v3 + 2)).toNat) M) fun y76 M75 =>
        inb (w32 (v3 + 1)) (M75 998 0).toNat <|
        inb (w32 (v3 + 2)) (M75 998 0).toNat <|
        bndI (w_m_next d (M75 999 (w32 (v3 + 1)).toNat) (M75 999 (w32 (v3 + 2)).toNat) M75) fun y78 M77 =>
        if y76 = y78 then
          w_lw_law_1158 d v3 M77
        else
          some ([aI 0], M77)
      else
      if (iand (M 999 v3.toNat) 63) = 14 then
        bndI (w_x_likeliest d M) fun y80 M79 =>
        bndI (w_m_likeliest d M79) fun y82 M81 =>
        if y80 = y82 then
          w_lw_law_1158 d v3 M81
        else
          some ([aI 0], M81)
      else
      if (iand (M 999 v3.toNat) 63) = 15 then
        inb (w32 (v3 + 1)) (M 998 0).toNat <|
        inb (w32 (v3 + 2)) (M 998 0).toNat <|
        bndI (w_x_goes d (M 999 (w32 (v3 + 1)).toNat) (M 999 (w32 (v3 + 2)).toNat) M) fun y84 M83 =>
        inb (w32 (v3 + 1)) (M83 998 0).toNat <|
        inb (w32 (v3 + 2)) (M83 998 0).toNat <|
        bndI (w_m_goes d (M83 999 (w32 (v3 + 1)).toNat) (M83 999 (w32 (v3 + 2)).toNat) M83) fun y86 M85 =>
        if y84 = y86 then
          w_lw_law_1158 d v3 M85
        else
          some ([aI 0], M85)
      else
      if (iand (M 999 v3.toNat) 63) = 16 then
        inb (w32 (v3 + 1)) (M 998 0).toNat <|
        bndI (w_x_reads d (M 999 (w32 (v3 + 1)).toNat) M) fun y88 M87 =>
        inb (w32 (v3 + 1)) (M87 998 0).toNat <|
        bndI (w_m_reads d (M87 999 (w32 (v3 + 1)).toNat) M87) fun y90 M89 =>
        if y88 = y90 then
          w_lw_law_1158 d v3 M89
        else
          some ([aI 0], M89)
      else
      if (iand (M 999 v3.toNat) 63) = 17 then
        inb (w32 (v3 + 1)) (M 998 0).toNat <|
        inb (w32 (v3 + 2)) (M 998 0).toNat <|
        bndI (w_x_seen d (M 999 (w32 (v3 + 1)).toNat) (M 999 (w32 (v3 + 2)).toNat) M) fun y92 M91 =>
        inb (w32 (v3 + 1)) (M91 998 0).toNat <|
        inb (w32 (v3 + 2)) (M91 998 0).toNat <|
        bndI (w_m_seen d (M91 999 (w32 (v3 + 1)).toNat) (M91 999 (w32 (v3 + 2)).toNat) M91) fun y94 M93 =>
        if y92 = y94 then
          w_lw_law_1158 d v3 M93
        else
          some ([aI 0], M93)
      else
      if (iand (M 999 v3.toNat) 63) = 18 then
        inb (w32 (v3 + 1)) (M 998 0).toNat <|
        bndI (w_x_orders d (M 999 (w32 (v3 + 1)).toNat) M) fun y96 M95 =>
        inb (w32 (v3 + 1)) (M95 998 0).toNat <|
        bndI (w_m_orders d (M95 999 (w32 (v3 + 1)).toNat) M95) fun y98 M97 =>
        if y96 = y98 then
          w_lw_law_1158 d v3 M97
        else
          some ([aI 0], M97)
      else
      if (iand (M 999 v3.toNat) 63) = 19 then
        inb (w32 (v3 + 1)) (M 998 0).toNat <|
        bndI (w_x_moves d (M 999 (w32 (v3 + 1)).toNat) M) fun y100 M99 =>
        inb (w32 (v3 + 1)) (M99 998 0).toNat <|
        bndI (w_m_moves d (M99 999 (w32 (v3 + 1)).toNat) M99) fun y102 M101 =>
        if y100 = y102 then
          w_lw_law_1158 d v3 M101
        else
          some ([aI 0], M101)
      else
      if (iand (M 999 v3.toNat) 63) = 20 then
        inb (w32 (v3 + 1)) (M 998 0).toNat <|
        bndI (w_x_work d (M 999 (w32 (v3 + 1)).toNat) M) fun y104 M103 =>
        inb (w32 (v3 + 1)) (M103 998 0).toNat <|
        bndI (w_m_work d (M103 999 (w32 (v3 + 1)).toNat) M103) fun y106 M105 =>
        if y104 = y106 then
          w_lw_law_1158 d v3 M105
        else
          some ([aI 0], M105)
      else
      if (iand (M 999 v3.toNat) 63) = 21 then
        inb (w32 (v3 + 1)) (M 998 0).toNat <|
        bndI (w_x_works d (M 999 (w32 (v3 + 1)).toNat) M) fun y108 M107 =>
        inb (w32 (v3 + 1)) (M107 998 0).toNat <|
        bndI (w_m_works d (M107 999 (w32 (v3 + 1)).toNat) M107) fun y110 M109 =>
        if y108 = y110 then
          w_lw_law_1158 d v3 M109
        else
          some ([aI 0], M109)
      else
      if (iand (M 999 v3.toNat) 63) = 22 then
        inb (w32 (v3 + 1)) (M 998 0).toNat <|
        inb (w32 (v3 + 2)) (M 998 0).toNat <|
        bndI (w_x_gate d (M 999 (w32 (v3 + 1)).toNat) (M 999 (w32 (v3 + 2)).toNat) M) fun y112 M111 =>
        inb (w32 (v3 + 1)) (M111 998 0).toNat <|
        inb (w32 (v3 + 2)) (M111 998 0).toNat <|
        bndI (w_m_gate d (M111 999 (w32 (v3 + 1)).toNat) (M111 999 (w32 (v3 + 2)).toNat) M111) fun y114 M113 =>
        if y112 = y114 then
          w_lw_law_1158 d v3 M113
        else
          some ([aI 0], M113)
      else
      if (iand (M 999 v3.toNat) 63) = 23 then
        inb (w32 (v3 + 1)) (M 998 0).toNat <|
        bndI (w_x_watch d (M 999 (w32 (v3 + 1)).toNat) M) fun y116 M115 =>
        inb (w32 (v3 + 1)) (M115 998 0).toNat <|
        bndI (w_m_watch d (M115 999 (w32 (v3 + 1)).toNat) M115) fun y118 M117 =>
        if y116 = y118 then
          w_lw_law_1158 d v3 M117
        else
          some ([aI 0], M117)
      else
      if (iand (M 999 v3.toNat) 63) = 24 then
        inb (w32 (v3 + 1)) (M 998 0).toNat <|
        inb (w32 (v3 + 2)) (M 998 0).toNat <|
        bndI (w_x_ate d (M 999 (w32 (v3 + 1)).toNat) (M 999 (w32 (v3 + 2)).toNat) M) fun y120 M119 =>
        inb (w32 (v3 + 1)) (M119 998 0).toNat <|
        inb (w32 (v3 + 2)) (M119 998 0).toNat <|
        bndI (w_m_ate d (M119 999 (w32 (v3 + 1)).toNat) (M119 999 (w32 (v3 + 2)).toNat) M119) fun y122 M121 =>
        if y120 = y122 then
          w_lw_law_1158 d v3 M121
        else
          some ([aI 0], M121)
      else
      if (iand (M 999 v3.toNat) 63) = 25 then
        inb (w32 (v3 + 1)) (M 998 0).toNat <|
        bndI (w_x_ways d (M 999 (w32 (v3 + 1)).toNat) M) fun y124 M123 =>
        inb (w32 (v3 + 1)) (M123 998 0).toNat <|
        bndI (w_m_ways d (M123 999 (w32 (v3 + 1)).toNat) M123) fun y126 M125 =>
        if y124 = y126 then
          w_lw_law_1158 d v3 M125
        else
          some ([aI 0], M125)
      else
      if (iand (M 999 v3.toNat) 63) = 26 then
        inb (w32 (v3 + 1)) (M 998 0).toNat <|
        bndI (w_x_vote d (M 999 (w32 (v3 + 1)).toNat) M) fun y128 M127 =>
        inb (w32 (v3 + 1)) (M127 998 0).toNat <|
        bndI (w_m_vote d (M127 999 (w32 (v3 + 1)).toNat) M127) fun y130 M129 =>
        if y128 = y130 then
          w_lw_law_1158 d v3 M129
        else
          some ([aI 0], M129)
      else
      if (iand (M 999 v3.toNat) 63) = 27 then
        inb (w32 (v3 + 1)) (M 998 0).toNat <|
        bndI (w_x_votes d (M 999 (w32 (v3 + 1)).toNat) M) fun y132 M131 =>
        inb (w32 (v3 + 1)) (M131 998 0).toNat <|
        bndI (w_m_votes d (M131 999 (w32 (v3 + 1)).toNat) M131) fun y134 M133 =>
        if y132 = y134 then
          w_lw_law_1158 d v3 M133
        else
          some ([aI 0], M133)
      else
      if (iand (M 999 v3.toNat) 63) = 28 then
        inb (w32 (v3 + 1)) (M 998 0).toNat <|
        inb (w32 (v3 + 2)) (M 998 0).toNat <|
        bndI (w_x_salts d (M 999 (w32 (v3 + 1)).toNat) (M 999 (w32 (v3 + 2)).toNat) M) fun y136 M135 =>
        inb (w32 (v3 + 1)) (M135 998 0).toNat <|
        inb (w32 (v3 + 2)) (M135 998 0).toNat <|
        bndI (w_m_salts d (M135 999 (w32 (v3 + 1)).toNat) (M135 999 (w32 (v3 + 2)).toNat) M135) fun y138 M137 =>
        if y136 = y138 then
          w_lw_law_1158 d v3 M137
        else
          some ([aI 0], M137)
      else
      if (iand (M 999 v3.toNat) 63) = 29 then
        inb (w32 (v3 + 1)) (M 998 0).toNat <|
        inb (w32 (v3 + 2)) (M 998 0).toNat <|
        bndI (w_x_nods d (M 999 (w32 (v3 + 1)).toNat) (M 999 (w32 (v3 + 2)).toNat) M) fun y140 M139 =>
        inb (w32 (v3 + 1)) (M139 998 0).toNat <|
        inb (w32 (v3 + 2)) (M139 998 0).toNat <|
        bndI (w_m_nods d (M139 999 (w32 (v3 + 1)).toNat) (M139 999 (w32 (v3 + 2)).toNat) M139) fun y142 M141 =>
        if y140 = y142 then
          w_lw_law_1158 d v3 M141
        else
          some ([aI 0], M141)
      else
      if (iand (M 999 v3.toNat) 63) = 30 then
        inb (w32 (v3 + 1)) (M 998 0).toNat <|
        bndI (w_x_game d (M 999 (w32 (v3 + 1)).toNat) M) fun y144 M143 =>
        inb (w32 (v3 + 1)) (M143 998 0).toNat <|
        bndI (w_m_game d (M143 999 (w32 (v3 + 1)).toNat) M143) fun y146 M145 =>
        if y144 = y146 then
          w_lw_law_1158 d v3 M145
        else
          some ([aI 0], M145)
      else
      if (iand (M 999 v3.toNat) 63) = 31 then
        bndI (w_x_undo d M) fun y148 M147 =>
        bndI (w_m_undo d M147) fun y150 M149 =>
        if y148 = y150 then
          w_lw_law_1158 d v3 M149
        else
          some ([aI 0], M149)
      else
      if (iand (M 999 v3.toNat) 63) = 32 then
        inb (w32 (v3 + 1)) (M 998 0).toNat <|
        if (M 999 (w32 (v3 + 1)).toNat) = 0 then
          bndI (w_x_image d 0 M) fun y152 M151 =>
          inb (w32 (v3 + 1)) (M151 998 0).toNat <|
          if (M151 999 (w32 (v3 + 1)).toNat) = 0 then
            bndI (w_m_image d 0 M151) fun y154 M153 =>
            if y152 = y154 then
              w_lw_law_1158 d v3 M153
            else
              some ([aI 0], M153)
          else
            bndI (w_m_image d 1 M151) fun y156 M155 =>
            if y152 = y156 then
              w_lw_law_1158 d v3 M155
            else
              some ([aI 0], M155)
        else
          bndI (w_x_image d 1 M) fun y158 M157 =>
          inb (w32 (v3 + 1)) (M157 998 0).toNat <|
          if (M157 999 (w32 (v3 + 1)).toNat) = 0 then
            bndI (w_m_image d 0 M157) fun y160 M159 =>
            if y158 = y160 then
              w_lw_law_1158 d v3 M159
            else
              some ([aI 0], M159)
          else
            bndI (w_m_image d 1 M157) fun y162 M161 =>
            if y158 = y162 then
              w_lw_law_1158 d v3 M161
            else
              some ([aI 0], M161)
      else
      if (iand (M 999 v3.toNat) 63) = 33 then
        inb (w32 (v3 + 1)) (M 998 0).toNat <|
        bndI (w_x_look d (M 999 (w32 (v3 + 1)).toNat) M) fun y164 M163 =>
        inb (w32 (v3 + 1)) (M163 998 0).toNat <|
        bndI (w_m_look d (M163 999 (w32 (v3 + 1)).toNat) M163) fun y166 M165 =>
        if y164 = y166 then
          w_lw_law_1158 d v3 M165
        else
          some ([aI 0], M165)
      else
        w_lw_law_1158 d v3 M) :=
  (aOm_fix _ _ _ _ _ _).trans rfl
set_option maxRecDepth 20000 in
theorem u_lw_law_1158 (d : Nat) (v3 : Int) (M : aM) : w_lw_law_1158 d v3 M = (
    let v15 : Int := w32 (v3 + 6)
    w_lw_law_18 d v15 M) :=
  (aOm_fix _ _ _ _ _ _).trans rfl
