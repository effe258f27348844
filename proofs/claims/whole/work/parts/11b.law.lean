def f_L_law_L18 (E : EN) (n : Nat) (L : Nat) (xs : Nat → Int32)  : Nat → WS → Nat → Nat → Int32 → Option (Int32 × WS)
  | 0 => fun _ _ _ _ => none
  | m + 1 => fun S h1 h2 x3 =>
    if ((Int32.ofNat L) - (6 : Int32)) < x3 then
      some ((1 : Int32), S)
    else
      if x3 < 0 ∨ L ≤ x3.toNatClampNeg then none else
      if ((xs x3.toNatClampNeg) &&& (63 : Int32)) = (0 : Int32) then
        if (x3 + (1 : Int32)) < 0 ∨ L ≤ (x3 + (1 : Int32)).toNatClampNeg then none else
        if (x3 + (2 : Int32)) < 0 ∨ L ≤ (x3 + (2 : Int32)).toNatClampNeg then none else
        if (x3 + (3 : Int32)) < 0 ∨ L ≤ (x3 + (3 : Int32)).toNatClampNeg then none else
        if (x3 + (4 : Int32)) < 0 ∨ L ≤ (x3 + (4 : Int32)).toNatClampNeg then none else
        if (x3 + (5 : Int32)) < 0 ∨ L ≤ (x3 + (5 : Int32)).toNatClampNeg then none else
        bd (f_X8_feed E n S h1 (xs (x3 + (1 : Int32)).toNatClampNeg) (xs (x3 + (2 : Int32)).toNatClampNeg) (xs (x3 + (3 : Int32)).toNatClampNeg) (xs (x3 + (4 : Int32)).toNatClampNeg) (xs (x3 + (5 : Int32)).toNatClampNeg)) fun v2 S1 =>
        if (x3 + (1 : Int32)) < 0 ∨ L ≤ (x3 + (1 : Int32)).toNatClampNeg then none else
        if (x3 + (2 : Int32)) < 0 ∨ L ≤ (x3 + (2 : Int32)).toNatClampNeg then none else
        if (x3 + (3 : Int32)) < 0 ∨ L ≤ (x3 + (3 : Int32)).toNatClampNeg then none else
        if (x3 + (4 : Int32)) < 0 ∨ L ≤ (x3 + (4 : Int32)).toNatClampNeg then none else
        if (x3 + (5 : Int32)) < 0 ∨ L ≤ (x3 + (5 : Int32)).toNatClampNeg then none else
        bd (f_X9_feed E n S1 h2 (xs (x3 + (1 : Int32)).toNatClampNeg) (xs (x3 + (2 : Int32)).toNatClampNeg) (xs (x3 + (3 : Int32)).toNatClampNeg) (xs (x3 + (4 : Int32)).toNatClampNeg) (xs (x3 + (5 : Int32)).toNatClampNeg)) fun v4 S3 =>
        if v2 = v4 then
          lt (x3 + (6 : Int32)) fun y5 =>
          f_L_law_L18 E n L xs  m S3 h1 h2 y5
        else
          some ((0 : Int32), S3)
      else
      if ((xs x3.toNatClampNeg) &&& (63 : Int32)) = (1 : Int32) then
        if (x3 + (1 : Int32)) < 0 ∨ L ≤ (x3 + (1 : Int32)).toNatClampNeg then none else
        bd (f_X8_end E n S h1 (xs (x3 + (1 : Int32)).toNatClampNeg)) fun v7 S6 =>
        if (x3 + (1 : Int32)) < 0 ∨ L ≤ (x3 + (1 : Int32)).toNatClampNeg then none else
        bd (f_X9_end E n S6 h2 (xs (x3 + (1 : Int32)).toNatClampNeg)) fun v9 S8 =>
        if v7 = v9 then
          lt (x3 + (6 : Int32)) fun y10 =>
          f_L_law_L18 E n L xs  m S8 h1 h2 y10
        else
          some ((0 : Int32), S8)
      else
      if ((xs x3.toNatClampNeg) &&& (63 : Int32)) = (2 : Int32) then
        bd (f_X8_mountain E n S h1) fun v12 S11 =>
        bd (f_X9_mountain E n S11 h2) fun v14 S13 =>
        if v12 = v14 then
          lt (x3 + (6 : Int32)) fun y15 =>
          f_L_law_L18 E n L xs  m S13 h1 h2 y15
        else
          some ((0 : Int32), S13)
      else
      if ((xs x3.toNatClampNeg) &&& (63 : Int32)) = (3 : Int32) then
        if (x3 + (1 : Int32)) < 0 ∨ L ≤ (x3 + (1 : Int32)).toNatClampNeg then none else
        bd (f_X8_fault E n S h1 (xs (x3 + (1 : Int32)).toNatClampNeg)) fun v17 S16 =>
        if (x3 + (1 : Int32)) < 0 ∨ L ≤ (x3 + (1 : Int32)).toNatClampNeg then none else
        bd (f_X9_fault E n S16 h2 (xs (x3 + (1 : Int32)).toNatClampNeg)) fun v19 S18 =>
        if v17 = v19 then
          lt (x3 + (6 : Int32)) fun y20 =>
          f_L_law_L18 E n L xs  m S18 h1 h2 y20
        else
          some ((0 : Int32), S18)
      else
      if ((xs x3.toNatClampNeg) &&& (63 : Int32)) = (4 : Int32) then
        if (x3 + (1 : Int32)) < 0 ∨ L ≤ (x3 + (1 : Int32)).toNatClampNeg then none else
        if (x3 + (2 : Int32)) < 0 ∨ L ≤ (x3 + (2 : Int32)).toNatClampNeg then none else
        bd (f_X8_path E n S h1 (xs (x3 + (1 : Int32)).toNatClampNeg) (xs (x3 + (2 : Int32)).toNatClampNeg)) fun v22 S21 =>
        if (x3 + (1 : Int32)) < 0 ∨ L ≤ (x3 + (1 : Int32)).toNatClampNeg then none else
        if (x3 + (2 : Int32)) < 0 ∨ L ≤ (x3 + (2 : Int32)).toNatClampNeg then none else
        bd (f_X9_path E n S21 h2 (xs (x3 + (1 : Int32)).toNatClampNeg) (xs (x3 + (2 : Int32)).toNatClampNeg)) fun v24 S23 =>
        if v22 = v24 then
          lt (x3 + (6 : Int32)) fun y25 =>
          f_L_law_L18 E n L xs  m S23 h1 h2 y25
        else
          some ((0 : Int32), S23)
      else
      if ((xs x3.toNatClampNeg) &&& (63 : Int32)) = (5 : Int32) then
        if (x3 + (1 : Int32)) < 0 ∨ L ≤ (x3 + (1 : Int32)).toNatClampNeg then none else
        if (x3 + (2 : Int32)) < 0 ∨ L ≤ (x3 + (2 : Int32)).toNatClampNeg then none else
        bd (f_X8_court E n S h1 (xs (x3 + (1 : Int32)).toNatClampNeg) (xs (x3 + (2 : Int32)).toNatClampNeg)) fun v27 S26 =>
        if (x3 + (1 : Int32)) < 0 ∨ L ≤ (x3 + (1 : Int32)).toNatClampNeg then none else
        if (x3 + (2 : Int32)) < 0 ∨ L ≤ (x3 + (2 : Int32)).toNatClampNeg then none else
        bd (f_X9_court E n S26 h2 (xs (x3 + (1 : Int32)).toNatClampNeg) (xs (x3 + (2 : Int32)).toNatClampNeg)) fun v29 S28 =>
        if v27 = v29 then
          lt (x3 + (6 : Int32)) fun y30 =>
          f_L_law_L18 E n L xs  m S28 h1 h2 y30
        else
          some ((0 : Int32), S28)
      else
      if ((xs x3.toNatClampNeg) &&& (63 : Int32)) = (6 : Int32) then
        if (x3 + (1 : Int32)) < 0 ∨ L ≤ (x3 + (1 : Int32)).toNatClampNeg then none else
        if (x3 + (2 : Int32)) < 0 ∨ L ≤ (x3 + (2 : Int32)).toNatClampNeg then none else
        bd (f_X8_bride E n S h1 (xs (x3 + (1 : Int32)).toNatClampNeg) (xs (x3 + (2 : Int32)).toNatClampNeg)) fun v32 S31 =>
        if (x3 + (1 : Int32)) < 0 ∨ L ≤ (x3 + (1 : Int32)).toNatClampNeg then none else
        if (x3 + (2 : Int32)) < 0 ∨ L ≤ (x3 + (2 : Int32)).toNatClampNeg then none else
        bd (f_X9_bride E n S31 h2 (xs (x3 + (1 : Int32)).toNatClampNeg) (xs (x3 + (2 : Int32)).toNatClampNeg)) fun v34 S33 =>
        if v32 = v34 then
          lt (x3 + (6 : Int32)) fun y35 =>
          f_L_law_L18 E n L xs  m S33 h1 h2 y35
        else
          some ((0 : Int32), S33)
      else
      if ((xs x3.toNatClampNeg) &&& (63 : Int32)) = (7 : Int32) then
        if (x3 + (1 : Int32)) < 0 ∨ L ≤ (x3 + (1 : Int32)).toNatClampNeg then none else
        if (x3 + (2 : Int32)) < 0 ∨ L ≤ (x3 + (2 : Int32)).toNatClampNeg then none else
        bd (f_X8_suitor E n S h1 (xs (x3 + (1 : Int32)).toNatClampNeg) (xs (x3 + (2 : Int32)).toNatClampNeg)) fun v37 S36 =>
        if (x3 + (1 : Int32)) < 0 ∨ L ≤ (x3 + (1 : Int32)).toNatClampNeg then none else
        if (x3 + (2 : Int32)) < 0 ∨ L ≤ (x3 + (2 : Int32)).toNatClampNeg then none else
        bd (f_X9_suitor E n S36 h2 (xs (x3 + (1 : Int32)).toNatClampNeg) (xs (x3 + (2 : Int32)).toNatClampNeg)) fun v39 S38 =>
        if v37 = v39 then
          lt (x3 + (6 : Int32)) fun y40 =>
          f_L_law_L18 E n L xs  m S38 h1 h2 y40
        else
          some ((0 : Int32), S38)
      else
      if ((xs x3.toNatClampNeg) &&& (63 : Int32)) = (8 : Int32) then
        bd (f_X8_hearts E n S h1) fun v42 S41 =>
        bd (f_X9_hearts E n S41 h2) fun v44 S43 =>
        if v42 = v44 then
          lt (x3 + (6 : Int32)) fun y45 =>
          f_L_law_L18 E n L xs  m S43 h1 h2 y45
        else
          some ((0 : Int32), S43)
      else
      if ((xs x3.toNatClampNeg) &&& (63 : Int32)) = (9 : Int32) then
        if (x3 + (1 : Int32)) < 0 ∨ L ≤ (x3 + (1 : Int32)).toNatClampNeg then none else
        if (x3 + (2 : Int32)) < 0 ∨ L ≤ (x3 + (2 : Int32)).toNatClampNeg then none else
        bd (f_X8_steps E n S h1 (xs (x3 + (1 : Int32)).toNatClampNeg) (xs (x3 + (2 : Int32)).toNatClampNeg)) fun v47 S46 =>
        if (x3 + (1 : Int32)) < 0 ∨ L ≤ (x3 + (1 : Int32)).toNatClampNeg then none else
        if (x3 + (2 : Int32)) < 0 ∨ L ≤ (x3 + (2 : Int32)).toNatClampNeg then none else
        bd (f_X9_steps E n S46 h2 (xs (x3 + (1 : Int32)).toNatClampNeg) (xs (x3 + (2 : Int32)).toNatClampNeg)) fun v49 S48 =>
        if v47 = v49 then
          lt (x3 + (6 : Int32)) fun y50 =>
          f_L_law_L18 E n L xs  m S48 h1 h2 y50
        else
          some ((0 : Int32), S48)
      else
      if ((xs x3.toNatClampNeg) &&& (63 : Int32)) = (10 : Int32) then
        if (x3 + (1 : Int32)) < 0 ∨ L ≤ (x3 + (1 : Int32)).toNatClampNeg then none else
        if (x3 + (2 : Int32)) < 0 ∨ L ≤ (x3 + (2 : Int32)).toNatClampNeg then none else
        if (x3 + (3 : Int32)) < 0 ∨ L ≤ (x3 + (3 : Int32)).toNatClampNeg then none else
        bd (f_X8_whose E n S h1 (xs (x3 + (1 : Int32)).toNatClampNeg) (xs (x3 + (2 : Int32)).toNatClampNeg) (xs (x3 + (3 : Int32)).toNatClampNeg)) fun v52 S51 =>
        if (x3 + (1 : Int32)) < 0 ∨ L ≤ (x3 + (1 : Int32)).toNatClampNeg then none else
        if (x3 + (2 : Int32)) < 0 ∨ L ≤ (x3 + (2 : Int32)).toNatClampNeg then none else
        if (x3 + (3 : Int32)) < 0 ∨ L ≤ (x3 + (3 : Int32)).toNatClampNeg then none else
        bd (f_X9_whose E n S51 h2 (xs (x3 + (1 : Int32)).toNatClampNeg) (xs (x3 + (2 : Int32)).toNatClampNeg) (xs (x3 + (3 : Int32)).toNatClampNeg)) fun v54 S53 =>
        if v52 = v54 then
          lt (x3 + (6 : Int32)) fun y55 =>
          f_L_law_L18 E n L xs  m S53 h1 h2 y55
        else
          some ((0 : Int32), S53)
      else
      if ((xs x3.toNatClampNeg) &&& (63 : Int32)) = (11 : Int32) then
        if (x3 + (1 : Int32)) < 0 ∨ L ≤ (x3 + (1 : Int32)).toNatClampNeg then none else
        if (x3 + (2 : Int32)) < 0 ∨ L ≤ (x3 + (2 : Int32)).toNatClampNeg then none else
        bd (f_X8_leap E n S h1 (xs (x3 + (1 : Int32)).toNatClampNeg) (xs (x3 + (2 : Int32)).toNatClampNeg)) fun v57 S56 =>
        if (x3 + (1 : Int32)) < 0 ∨ L ≤ (x3 + (1 : Int32)).toNatClampNeg then none else
        if (x3 + (2 : Int32)) < 0 ∨ L ≤ (x3 + (2 : Int32)).toNatClampNeg then none else
        bd (f_X9_leap E n S56 h2 (xs (x3 + (1 : Int32)).toNatClampNeg) (xs (x3 + (2 : Int32)).toNatClampNeg)) fun v59 S58 =>
        if v57 = v59 then
          lt (x3 + (6 : Int32)) fun y60 =>
          f_L_law_L18 E n L xs  m S58 h1 h2 y60
        else
          some ((0 : Int32), S58)
      else
      if ((xs x3.toNatClampNeg) &&& (63 : Int32)) = (12 : Int32) then
        if (x3 + (1 : Int32)) < 0 ∨ L ≤ (x3 + (1 : Int32)).toNatClampNeg then none else
        bd (f_X8_rots E n S h1 (xs (x3 + (1 : Int32)).toNatClampNeg)) fun v62 S61 =>
        if (x3 + (1 : Int32)) < 0 ∨ L ≤ (x3 + (1 : Int32)).toNatClampNeg then none else
        bd (f_X9_rots E n S61 h2 (xs (x3 + (1 : Int32)).toNatClampNeg)) fun v64 S63 =>
        if v62 = v64 then
          lt (x3 + (6 : Int32)) fun y65 =>
          f_L_law_L18 E n L xs  m S63 h1 h2 y65
        else
          some ((0 : Int32), S63)
      else
      if ((xs x3.toNatClampNeg) &&& (63 : Int32)) = (13 : Int32) then
        if (x3 + (1 : Int32)) < 0 ∨ L ≤ (x3 + (1 : Int32)).toNatClampNeg then none else
        if (x3 + (2 : Int32)) < 0 ∨ L ≤ (x3 + (2 : Int32)).toNatClampNeg then none else
        if (x3 + (3 : Int32)) < 0 ∨ L ≤ (x3 + (3 : Int32)).toNatClampNeg then none else
        bd (f_X8_lacks E n S h1 (xs (x3 + (1 : Int32)).toNatClampNeg) (xs (x3 + (2 : Int32)).toNatClampNeg) (xs (x3 + (3 : Int32)).toNatClampNeg)) fun v67 S66 =>
        if (x3 + (1 : Int32)) < 0 ∨ L ≤ (x3 + (1 : Int32)).toNatClampNeg then none else
        if (x3 + (2 : Int32)) < 0 ∨ L ≤ (x3 + (2 : Int32)).toNatClampNeg then none else
        if (x3 + (3 : Int32)) < 0 ∨ L ≤ (x3 + (3 : Int32)).toNatClampNeg then none else
        bd (f_X9_lacks E n S66 h2 (xs (x3 + (1 : Int32)).toNatClampNeg) (xs (x3 + (2 : Int32)).toNatClampNeg) (xs (x3 + (3 : Int32)).toNatClampNeg)) fun v69 S68 =>
        if v67 = v69 then
          lt (x3 + (6 : Int32)) fun y70 =>
          f_L_law_L18 E n L xs  m S68 h1 h2 y70
        else
          some ((0 : Int32), S68)
      else
      if ((xs x3.toNatClampNeg) &&& (63 : Int32)) = (14 : Int32) then
        if (x3 + (1 : Int32)) < 0 ∨ L ≤ (x3 + (1 : Int32)).toNatClampNeg then none else
        if (x3 + (2 : Int32)) < 0 ∨ L ≤ (x3 + (2 : Int32)).toNatClampNeg then none else
        if (x3 + (3 : Int32)) < 0 ∨ L ≤ (x3 + (3 : Int32)).toNatClampNeg then none else
        bd (f_X8_safe E n S h1 (xs (x3 + (1 : Int32)).toNatClampNeg) (xs (x3 + (2 : Int32)).toNatClampNeg) (xs (x3 + (3 : Int32)).toNatClampNeg)) fun v72 S71 =>
        if (x3 + (1 : Int32)) < 0 ∨ L ≤ (x3 + (1 : Int32)).toNatClampNeg then none else
        if (x3 + (2 : Int32)) < 0 ∨ L ≤ (x3 + (2 : Int32)).toNatClampNeg then none else
        if (x3 + (3 : Int32)) < 0 ∨ L ≤ (x3 + (3 : Int32)).toNatClampNeg then none else
        bd (f_X9_safe E n S71 h2 (xs (x3 + (1 : Int32)).toNatClampNeg) (xs (x3 + (2 : Int32)).toNatClampNeg) (xs (x3 + (3 : Int32)).toNatClampNeg)) fun v74 S73 =>
        if (lg_cmp v72 v74) = 0 then
          lt (x3 + (6 : Int32)) fun y75 =>
          f_L_law_L18 E n L xs  m S73 h1 h2 y75
        else
          some ((0 : Int32), S73)
      else
      if ((xs x3.toNatClampNeg) &&& (63 : Int32)) = (15 : Int32) then
        if (x3 + (1 : Int32)) < 0 ∨ L ≤ (x3 + (1 : Int32)).toNatClampNeg then none else
        if (x3 + (2 : Int32)) < 0 ∨ L ≤ (x3 + (2 : Int32)).toNatClampNeg then none else
        bd (f_X8_reach E n S h1 (xs (x3 + (1 : Int32)).toNatClampNeg) (xs (x3 + (2 : Int32)).toNatClampNeg)) fun v77 S76 =>
        if (x3 + (1 : Int32)) < 0 ∨ L ≤ (x3 + (1 : Int32)).toNatClampNeg then none else
        if (x3 + (2 : Int32)) < 0 ∨ L ≤ (x3 + (2 : Int32)).toNatClampNeg then none else
        bd (f_X9_reach E n S76 h2 (xs (x3 + (1 : Int32)).toNatClampNeg) (xs (x3 + (2 : Int32)).toNatClampNeg)) fun v79 S78 =>
        if v77 = v79 then
          lt (x3 + (6 : Int32)) fun y80 =>
          f_L_law_L18 E n L xs  m S78 h1 h2 y80
        else
          some ((0 : Int32), S78)
      else
      if ((xs x3.toNatClampNeg) &&& (63 : Int32)) = (16 : Int32) then
        if (x3 + (1 : Int32)) < 0 ∨ L ≤ (x3 + (1 : Int32)).toNatClampNeg then none else
        if (x3 + (2 : Int32)) < 0 ∨ L ≤ (x3 + (2 : Int32)).toNatClampNeg then none else
        if (x3 + (3 : Int32)) < 0 ∨ L ≤ (x3 + (3 : Int32)).toNatClampNeg then none else
        bd (f_X8_shortest E n S h1 (xs (x3 + (1 : Int32)).toNatClampNeg) (xs (x3 + (2 : Int32)).toNatClampNeg) (xs (x3 + (3 : Int32)).toNatClampNeg)) fun v82 S81 =>
        if (x3 + (1 : Int32)) < 0 ∨ L ≤ (x3 + (1 : Int32)).toNatClampNeg then none else
        if (x3 + (2 : Int32)) < 0 ∨ L ≤ (x3 + (2 : Int32)).toNatClampNeg then none else
        if (x3 + (3 : Int32)) < 0 ∨ L ≤ (x3 + (3 : Int32)).toNatClampNeg then none else
        bd (f_X9_shortest E n S81 h2 (xs (x3 + (1 : Int32)).toNatClampNeg) (xs (x3 + (2 : Int32)).toNatClampNeg) (xs (x3 + (3 : Int32)).toNatClampNeg)) fun v84 S83 =>
        if v82 = v84 then
          lt (x3 + (6 : Int32)) fun y85 =>
          f_L_law_L18 E n L xs  m S83 h1 h2 y85
        else
          some ((0 : Int32), S83)
      else
      if ((xs x3.toNatClampNeg) &&& (63 : Int32)) = (17 : Int32) then
        if (x3 + (1 : Int32)) < 0 ∨ L ≤ (x3 + (1 : Int32)).toNatClampNeg then none else
        if (x3 + (2 : Int32)) < 0 ∨ L ≤ (x3 + (2 : Int32)).toNatClampNeg then none else
        if (x3 + (3 : Int32)) < 0 ∨ L ≤ (x3 + (3 : Int32)).toNatClampNeg then none else
        if (x3 + (4 : Int32)) < 0 ∨ L ≤ (x3 + (4 : Int32)).toNatClampNeg then none else
        bd (f_X8_goes E n S h1 (xs (x3 + (1 : Int32)).toNatClampNeg) (xs (x3 + (2 : Int32)).toNatClampNeg) (xs (x3 + (3 : Int32)).toNatClampNeg) (xs (x3 + (4 : Int32)).toNatClampNeg)) fun v87 S86 =>
        if (x3 + (1 : Int32)) < 0 ∨ L ≤ (x3 + (1 : Int32)).toNatClampNeg then none else
        if (x3 + (2 : Int32)) < 0 ∨ L ≤ (x3 + (2 : Int32)).toNatClampNeg then none else
        if (x3 + (3 : Int32)) < 0 ∨ L ≤ (x3 + (3 : Int32)).toNatClampNeg then none else
        if (x3 + (4 : Int32)) < 0 ∨ L ≤ (x3 + (4 : Int32)).toNatClampNeg then none else
        bd (f_X9_goes E n S86 h2 (xs (x3 + (1 : Int32)).toNatClampNeg) (xs (x3 + (2 : Int32)).toNatClampNeg) (xs (x3 + (3 : Int32)).toNatClampNeg) (xs (x3 + (4 : Int32)).toNatClampNeg)) fun v89 S88 =>
        if v87 = v89 then
          lt (x3 + (6 : Int32)) fun y90 =>
          f_L_law_L18 E n L xs  m S88 h1 h2 y90
        else
          some ((0 : Int32), S88)
      else
      if ((xs x3.toNatClampNeg) &&& (63 : Int32)) = (18 : Int32) then
        if (x3 + (1 : Int32)) < 0 ∨ L ≤ (x3 + (1 : Int32)).toNatClampNeg then none else
        if (x3 + (2 : Int32)) < 0 ∨ L ≤ (x3 + (2 : Int32)).toNatClampNeg then none else
        if (x3 + (3 : Int32)) < 0 ∨ L ≤ (x3 + (3 : Int32)).toNatClampNeg then none else
        if (x3 + (4 : Int32)) < 0 ∨ L ≤ (x3 + (4 : Int32)).toNatClampNeg then none else
        bd (f_X8_safest E n S h1 (xs (x3 + (1 : Int32)).toNatClampNeg) (xs (x3 + (2 : Int32)).toNatClampNeg) (xs (x3 + (3 : Int32)).toNatClampNeg) (xs (x3 + (4 : Int32)).toNatClampNeg)) fun v92 S91 =>
        if (x3 + (1 : Int32)) < 0 ∨ L ≤ (x3 + (1 : Int32)).toNatClampNeg then none else
        if (x3 + (2 : Int32)) < 0 ∨ L ≤ (x3 + (2 : Int32)).toNatClampNeg then none else
        if (x3 + (3 : Int32)) < 0 ∨ L ≤ (x3 + (3 : Int32)).toNatClampNeg then none else
        if (x3 + (4 : Int32)) < 0 ∨ L ≤ (x3 + (4 : Int32)).toNatClampNeg then none else
        bd (f_X9_safest E n S91 h2 (xs (x3 + (1 : Int32)).toNatClampNeg) (xs (x3 + (2 : Int32)).toNatClampNeg) (xs (x3 + (3 : Int32)).toNatClampNeg) (xs (x3 + (4 : Int32)).toNatClampNeg)) fun v94 S93 =>
        if (lg_cmp v92 v94) = 0 then
          lt (x3 + (6 : Int32)) fun y95 =>
          f_L_law_L18 E n L xs  m S93 h1 h2 y95
        else
          some ((0 : Int32), S93)
      else
      if ((xs x3.toNatClampNeg) &&& (63 : Int32)) = (19 : Int32) then
        if (x3 + (1 : Int32)) < 0 ∨ L ≤ (x3 + (1 : Int32)).toNatClampNeg then none else
        if (x3 + (2 : Int32)) < 0 ∨ L ≤ (x3 + (2 : Int32)).toNatClampNeg then none else
        if (x3 + (3 : Int32)) < 0 ∨ L ≤ (x3 + (3 : Int32)).toNatClampNeg then none else
        if (x3 + (4 : Int32)) < 0 ∨ L ≤ (x3 + (4 : Int32)).toNatClampNeg then none else
        bd (f_X8_place E n S h1 (xs (x3 + (1 : Int32)).toNatClampNeg) (xs (x3 + (2 : Int32)).toNatClampNeg) (xs (x3 + (3 : Int32)).toNatClampNeg) (xs (x3 + (4 : Int32)).toNatClampNeg)) fun v97 S96 =>
        if (x3 + (1 : Int32)) < 0 ∨ L ≤ (x3 + (1 : Int32)).toNatClampNeg then none else
        if (x3 + (2 : Int32)) < 0 ∨ L ≤ (x3 + (2 : Int32)).toNatClampNeg then none else
        if (x3 + (3 : Int32)) < 0 ∨ L ≤ (x3 + (3 : Int32)).toNatClampNeg then none else
        if (x3 + (4 : Int32)) < 0 ∨ L ≤ (x3 + (4 : Int32)).toNatClampNeg then none else
        bd (f_X9_place E n S96 h2 (xs (x3 + (1 : Int32)).toNatClampNeg) (xs (x3 + (2 : Int32)).toNatClampNeg) (xs (x3 + (3 : Int32)).toNatClampNeg) (xs (x3 + (4 : Int32)).toNatClampNeg)) fun v99 S98 =>
        if v97 = v99 then
          lt (x3 + (6 : Int32)) fun y100 =>
          f_L_law_L18 E n L xs  m S98 h1 h2 y100
        else
          some ((0 : Int32), S98)
      else
      if ((xs x3.toNatClampNeg) &&& (63 : Int32)) = (20 : Int32) then
        if (x3 + (1 : Int32)) < 0 ∨ L ≤ (x3 + (1 : Int32)).toNatClampNeg then none else
        if (x3 + (2 : Int32)) < 0 ∨ L ≤ (x3 + (2 : Int32)).toNatClampNeg then none else
        if (x3 + (3 : Int32)) < 0 ∨ L ≤ (x3 + (3 : Int32)).toNatClampNeg then none else
        bd (f_X8_ways E n S h1 (xs (x3 + (1 : Int32)).toNatClampNeg) (xs (x3 + (2 : Int32)).toNatClampNeg) (xs (x3 + (3 : Int32)).toNatClampNeg)) fun v102 S101 =>
        if (x3 + (1 : Int32)) < 0 ∨ L ≤ (x3 + (1 : Int32)).toNatClampNeg then none else
        if (x3 + (2 : Int32)) < 0 ∨ L ≤ (x3 + (2 : Int32)).toNatClampNeg then none else
        if (x3 + (3 : Int32)) < 0 ∨ L ≤ (x3 + (3 : Int32)).toNatClampNeg then none else
        bd (f_X9_ways E n S101 h2 (xs (x3 + (1 : Int32)).toNatClampNeg) (xs (x3 + (2 : Int32)).toNatClampNeg) (xs (x3 + (3 : Int32)).toNatClampNeg)) fun v104 S103 =>
        if v102 = v104 then
          lt (x3 + (6 : Int32)) fun y105 =>
          f_L_law_L18 E n L xs  m S103 h1 h2 y105
        else
          some ((0 : Int32), S103)
      else
      if ((xs x3.toNatClampNeg) &&& (63 : Int32)) = (21 : Int32) then
        if (x3 + (1 : Int32)) < 0 ∨ L ≤ (x3 + (1 : Int32)).toNatClampNeg then none else
        if (x3 + (2 : Int32)) < 0 ∨ L ≤ (x3 + (2 : Int32)).toNatClampNeg then none else
        if (x3 + (3 : Int32)) < 0 ∨ L ≤ (x3 + (3 : Int32)).toNatClampNeg then none else
        bd (f_X8_when E n S h1 (xs (x3 + (1 : Int32)).toNatClampNeg) (xs (x3 + (2 : Int32)).toNatClampNeg) (xs (x3 + (3 : Int32)).toNatClampNeg)) fun v107 S106 =>
        if (x3 + (1 : Int32)) < 0 ∨ L ≤ (x3 + (1 : Int32)).toNatClampNeg then none else
        if (x3 + (2 : Int32)) < 0 ∨ L ≤ (x3 + (2 : Int32)).toNatClampNeg then none else
        if (x3 + (3 : Int32)) < 0 ∨ L ≤ (x3 + (3 : Int32)).toNatClampNeg then none else
        bd (f_X9_when E n S106 h2 (xs (x3 + (1 : Int32)).toNatClampNeg) (xs (x3 + (2 : Int32)).toNatClampNeg) (xs (x3 + (3 : Int32)).toNatClampNeg)) fun v109 S108 =>
        if v107 = v109 then
          lt (x3 + (6 : Int32)) fun y110 =>
          f_L_law_L18 E n L xs  m S108 h1 h2 y110
        else
          some ((0 : Int32), S108)
      else
      if ((xs x3.toNatClampNeg) &&& (63 : Int32)) = (22 : Int32) then
        if (x3 + (1 : Int32)) < 0 ∨ L ≤ (x3 + (1 : Int32)).toNatClampNeg then none else
        if (x3 + (2 : Int32)) < 0 ∨ L ≤ (x3 + (2 : Int32)).toNatClampNeg then none else
        if (x3 + (3 : Int32)) < 0 ∨ L ≤ (x3 + (3 : Int32)).toNatClampNeg then none else
        bd (f_X8_need E n S h1 (xs (x3 + (1 : Int32)).toNatClampNeg) (xs (x3 + (2 : Int32)).toNatClampNeg) (xs (x3 + (3 : Int32)).toNatClampNeg)) fun v112 S111 =>
        if (x3 + (1 : Int32)) < 0 ∨ L ≤ (x3 + (1 : Int32)).toNatClampNeg then none else
        if (x3 + (2 : Int32)) < 0 ∨ L ≤ (x3 + (2 : Int32)).toNatClampNeg then none else
        if (x3 + (3 : Int32)) < 0 ∨ L ≤ (x3 + (3 : Int32)).toNatClampNeg then none else
        bd (f_X9_need E n S111 h2 (xs (x3 + (1 : Int32)).toNatClampNeg) (xs (x3 + (2 : Int32)).toNatClampNeg) (xs (x3 + (3 : Int32)).toNatClampNeg)) fun v114 S113 =>
        if v112 = v114 then
          lt (x3 + (6 : Int32)) fun y115 =>
          f_L_law_L18 E n L xs  m S113 h1 h2 y115
        else
          some ((0 : Int32), S113)
      else
      if ((xs x3.toNatClampNeg) &&& (63 : Int32)) = (23 : Int32) then
        if (x3 + (1 : Int32)) < 0 ∨ L ≤ (x3 + (1 : Int32)).toNatClampNeg then none else
        if (x3 + (2 : Int32)) < 0 ∨ L ≤ (x3 + (2 : Int32)).toNatClampNeg then none else
        if (x3 + (3 : Int32)) < 0 ∨ L ≤ (x3 + (3 : Int32)).toNatClampNeg then none else
        bd (f_X8_fewest E n S h1 (xs (x3 + (1 : Int32)).toNatClampNeg) (xs (x3 + (2 : Int32)).toNatClampNeg) (xs (x3 + (3 : Int32)).toNatClampNeg)) fun v117 S116 =>
        if (x3 + (1 : Int32)) < 0 ∨ L ≤ (x3 + (1 : Int32)).toNatClampNeg then none else
        if (x3 + (2 : Int32)) < 0 ∨ L ≤ (x3 + (2 : Int32)).toNatClampNeg then none else
        if (x3 + (3 : Int32)) < 0 ∨ L ≤ (x3 + (3 : Int32)).toNatClampNeg then none else
        bd (f_X9_fewest E n S116 h2 (xs (x3 + (1 : Int32)).toNatClampNeg) (xs (x3 + (2 : Int32)).toNatClampNeg) (xs (x3 + (3 : Int32)).toNatClampNeg)) fun v119 S118 =>
        if v117 = v119 then
          lt (x3 + (6 : Int32)) fun y120 =>
          f_L_law_L18 E n L xs  m S118 h1 h2 y120
        else
          some ((0 : Int32), S118)
      else
      if ((xs x3.toNatClampNeg) &&& (63 : Int32)) = (24 : Int32) then
        if (x3 + (1 : Int32)) < 0 ∨ L ≤ (x3 + (1 : Int32)).toNatClampNeg then none else
        if (x3 + (2 : Int32)) < 0 ∨ L ≤ (x3 + (2 : Int32)).toNatClampNeg then none else
        if (x3 + (3 : Int32)) < 0 ∨ L ≤ (x3 + (3 : Int32)).toNatClampNeg then none else
        if (x3 + (4 : Int32)) < 0 ∨ L ≤ (x3 + (4 : Int32)).toNatClampNeg then none else
        bd (f_X8_whom E n S h1 (xs (x3 + (1 : Int32)).toNatClampNeg) (xs (x3 + (2 : Int32)).toNatClampNeg) (xs (x3 + (3 : Int32)).toNatClampNeg) (xs (x3 + (4 : Int32)).toNatClampNeg)) fun v122 S121 =>
        if (x3 + (1 : Int32)) < 0 ∨ L ≤ (x3 + (1 : Int32)).toNatClampNeg then none else
        if (x3 + (2 : Int32)) < 0 ∨ L ≤ (x3 + (2 : Int32)).toNatClampNeg then none else
        if (x3 + (3 : Int32)) < 0 ∨ L ≤ (x3 + (3 : Int32)).toNatClampNeg then none else
        if (x3 + (4 : Int32)) < 0 ∨ L ≤ (x3 + (4 : Int32)).toNatClampNeg then none else
        bd (f_X9_whom E n S121 h2 (xs (x3 + (1 : Int32)).toNatClampNeg) (xs (x3 + (2 : Int32)).toNatClampNeg) (xs (x3 + (3 : Int32)).toNatClampNeg) (xs (x3 + (4 : Int32)).toNatClampNeg)) fun v124 S123 =>
        if v122 = v124 then
          lt (x3 + (6 : Int32)) fun y125 =>
          f_L_law_L18 E n L xs  m S123 h1 h2 y125
        else
          some ((0 : Int32), S123)
      else
      if ((xs x3.toNatClampNeg) &&& (63 : Int32)) = (25 : Int32) then
        if (x3 + (1 : Int32)) < 0 ∨ L ≤ (x3 + (1 : Int32)).toNatClampNeg then none else
        if (x3 + (2 : Int32)) < 0 ∨ L ≤ (x3 + (2 : Int32)).toNatClampNeg then none else
        bd (f_X8_all E n S h1 (xs (x3 + (1 : Int32)).toNatClampNeg) (xs (x3 + (2 : Int32)).toNatClampNeg)) fun v127 S126 =>
        if (x3 + (1 : Int32)) < 0 ∨ L ≤ (x3 + (1 : Int32)).toNatClampNeg then none else
        if (x3 + (2 : Int32)) < 0 ∨ L ≤ (x3 + (2 : Int32)).toNatClampNeg then none else
        bd (f_X9_all E n S126 h2 (xs (x3 + (1 : Int32)).toNatClampNeg) (xs (x3 + (2 : Int32)).toNatClampNeg)) fun v129 S128 =>
        if v127 = v129 then
          lt (x3 + (6 : Int32)) fun y130 =>
          f_L_law_L18 E n L xs  m S128 h1 h2 y130
        else
          some ((0 : Int32), S128)
      else
      if ((xs x3.toNatClampNeg) &&& (63 : Int32)) = (26 : Int32) then
        if (x3 + (1 : Int32)) < 0 ∨ L ≤ (x3 + (1 : Int32)).toNatClampNeg then none else
        if (x3 + (2 : Int32)) < 0 ∨ L ≤ (x3 + (2 : Int32)).toNatClampNeg then none else
        if (x3 + (3 : Int32)) < 0 ∨ L ≤ (x3 + (3 : Int32)).toNatClampNeg then none else
        bd (f_X8_courtings E n S h1 (xs (x3 + (1 : Int32)).toNatClampNeg) (xs (x3 + (2 : Int32)).toNatClampNeg) (xs (x3 + (3 : Int32)).toNatClampNeg)) fun v132 S131 =>
        if (x3 + (1 : Int32)) < 0 ∨ L ≤ (x3 + (1 : Int32)).toNatClampNeg then none else
        if (x3 + (2 : Int32)) < 0 ∨ L ≤ (x3 + (2 : Int32)).toNatClampNeg then none else
        if (x3 + (3 : Int32)) < 0 ∨ L ≤ (x3 + (3 : Int32)).toNatClampNeg then none else
        bd (f_X9_courtings E n S131 h2 (xs (x3 + (1 : Int32)).toNatClampNeg) (xs (x3 + (2 : Int32)).toNatClampNeg) (xs (x3 + (3 : Int32)).toNatClampNeg)) fun v134 S133 =>
        if v132 = v134 then
          lt (x3 + (6 : Int32)) fun y135 =>
          f_L_law_L18 E n L xs  m S133 h1 h2 y135
        else
          some ((0 : Int32), S133)
      else
      if ((xs x3.toNatClampNeg) &&& (63 : Int32)) = (27 : Int32) then
        if (x3 + (1 : Int32)) < 0 ∨ L ≤ (x3 + (1 : Int32)).toNatClampNeg then none else
        if (x3 + (2 : Int32)) < 0 ∨ L ≤ (x3 + (2 : Int32)).toNatClampNeg then none else
        if (x3 + (3 : Int32)) < 0 ∨ L ≤ (x3 + (3 : Int32)).toNatClampNeg then none else
        bd (f_X8_busy E n S h1 (xs (x3 + (1 : Int32)).toNatClampNeg) (xs (x3 + (2 : Int32)).toNatClampNeg) (xs (x3 + (3 : Int32)).toNatClampNeg)) fun v137 S136 =>
        if (x3 + (1 : Int32)) < 0 ∨ L ≤ (x3 + (1 : Int32)).toNatClampNeg then none else
        if (x3 + (2 : Int32)) < 0 ∨ L ≤ (x3 + (2 : Int32)).toNatClampNeg then none else
        if (x3 + (3 : Int32)) < 0 ∨ L ≤ (x3 + (3 : Int32)).toNatClampNeg then none else
        bd (f_X9_busy E n S136 h2 (xs (x3 + (1 : Int32)).toNatClampNeg) (xs (x3 + (2 : Int32)).toNatClampNeg) (xs (x3 + (3 : Int32)).toNatClampNeg)) fun v139 S138 =>
        if v137 = v139 then
          lt (x3 + (6 : Int32)) fun y140 =>
          f_L_law_L18 E n L xs  m S138 h1 h2 y140
        else
          some ((0 : Int32), S138)
      else
      if ((xs x3.toNatClampNeg) &&& (63 : Int32)) = (28 : Int32) then
        if (x3 + (1 : Int32)) < 0 ∨ L ≤ (x3 + (1 : Int32)).toNatClampNeg then none else
        if (x3 + (2 : Int32)) < 0 ∨ L ≤ (x3 + (2 : Int32)).toNatClampNeg then none else
        bd (f_X8_most E n S h1 (xs (x3 + (1 : Int32)).toNatClampNeg) (xs (x3 + (2 : Int32)).toNatClampNeg)) fun v142 S141 =>
        if (x3 + (1 : Int32)) < 0 ∨ L ≤ (x3 + (1 : Int32)).toNatClampNeg then none else
        if (x3 + (2 : Int32)) < 0 ∨ L ≤ (x3 + (2 : Int32)).toNatClampNeg then none else
        bd (f_X9_most E n S141 h2 (xs (x3 + (1 : Int32)).toNatClampNeg) (xs (x3 + (2 : Int32)).toNatClampNeg)) fun v144 S143 =>
        if v142 = v144 then
          lt (x3 + (6 : Int32)) fun y145 =>
          f_L_law_L18 E n L xs  m S143 h1 h2 y145
        else
          some ((0 : Int32), S143)
      else
      if ((xs x3.toNatClampNeg) &&& (63 : Int32)) = (29 : Int32) then
        if (x3 + (1 : Int32)) < 0 ∨ L ≤ (x3 + (1 : Int32)).toNatClampNeg then none else
        if (x3 + (2 : Int32)) < 0 ∨ L ≤ (x3 + (2 : Int32)).toNatClampNeg then none else
        bd (f_X8_worst E n S h1 (xs (x3 + (1 : Int32)).toNatClampNeg) (xs (x3 + (2 : Int32)).toNatClampNeg)) fun v147 S146 =>
        if (x3 + (1 : Int32)) < 0 ∨ L ≤ (x3 + (1 : Int32)).toNatClampNeg then none else
        if (x3 + (2 : Int32)) < 0 ∨ L ≤ (x3 + (2 : Int32)).toNatClampNeg then none else
        bd (f_X9_worst E n S146 h2 (xs (x3 + (1 : Int32)).toNatClampNeg) (xs (x3 + (2 : Int32)).toNatClampNeg)) fun v149 S148 =>
        if v147 = v149 then
          lt (x3 + (6 : Int32)) fun y150 =>
          f_L_law_L18 E n L xs  m S148 h1 h2 y150
        else
          some ((0 : Int32), S148)
      else
      if ((xs x3.toNatClampNeg) &&& (63 : Int32)) = (30 : Int32) then
        if (x3 + (1 : Int32)) < 0 ∨ L ≤ (x3 + (1 : Int32)).toNatClampNeg then none else
        bd (f_X8_dry E n S h1 (xs (x3 + (1 : Int32)).toNatClampNeg)) fun v152 S151 =>
        if (x3 + (1 : Int32)) < 0 ∨ L ≤ (x3 + (1 : Int32)).toNatClampNeg then none else
        bd (f_X9_dry E n S151 h2 (xs (x3 + (1 : Int32)).toNatClampNeg)) fun v154 S153 =>
        if v152 = v154 then
          lt (x3 + (6 : Int32)) fun y155 =>
          f_L_law_L18 E n L xs  m S153 h1 h2 y155
        else
          some ((0 : Int32), S153)
      else
      if ((xs x3.toNatClampNeg) &&& (63 : Int32)) = (31 : Int32) then
        if (x3 + (1 : Int32)) < 0 ∨ L ≤ (x3 + (1 : Int32)).toNatClampNeg then none else
        if (x3 + (2 : Int32)) < 0 ∨ L ≤ (x3 + (2 : Int32)).toNatClampNeg then none else
        if (x3 + (3 : Int32)) < 0 ∨ L ≤ (x3 + (3 : Int32)).toNatClampNeg then none else
        if (x3 + (4 : Int32)) < 0 ∨ L ≤ (x3 + (4 : Int32)).toNatClampNeg then none else
        bd (f_X8_climbs E n S h1 (xs (x3 + (1 : Int32)).toNatClampNeg) (xs (x3 + (2 : Int32)).toNatClampNeg) (xs (x3 + (3 : Int32)).toNatClampNeg) (xs (x3 + (4 : Int32)).toNatClampNeg)) fun v157 S156 =>
        if (x3 + (1 : Int32)) < 0 ∨ L ≤ (x3 + (1 : Int32)).toNatClampNeg then none else
        if (x3 + (2 : Int32)) < 0 ∨ L ≤ (x3 + (2 : Int32)).toNatClampNeg then none else
        if (x3 + (3 : Int32)) < 0 ∨ L ≤ (x3 + (3 : Int32)).toNatClampNeg then none else
        if (x3 + (4 : Int32)) < 0 ∨ L ≤ (x3 + (4 : Int32)).toNatClampNeg then none else
        bd (f_X9_climbs E n S156 h2 (xs (x3 + (1 : Int32)).toNatClampNeg) (xs (x3 + (2 : Int32)).toNatClampNeg) (xs (x3 + (3 : Int32)).toNatClampNeg) (xs (x3 + (4 : Int32)).toNatClampNeg)) fun v159 S158 =>
        if v157 = v159 then
          lt (x3 + (6 : Int32)) fun y160 =>
          f_L_law_L18 E n L xs  m S158 h1 h2 y160
        else
          some ((0 : Int32), S158)
      else
      if ((xs x3.toNatClampNeg) &&& (63 : Int32)) = (32 : Int32) then
        if (x3 + (1 : Int32)) < 0 ∨ L ≤ (x3 + (1 : Int32)).toNatClampNeg then none else
        if (x3 + (2 : Int32)) < 0 ∨ L ≤ (x3 + (2 : Int32)).toNatClampNeg then none else
        bd (f_X8_high E n S h1 (xs (x3 + (1 : Int32)).toNatClampNeg) (xs (x3 + (2 : Int32)).toNatClampNeg)) fun v162 S161 =>
        if (x3 + (1 : Int32)) < 0 ∨ L ≤ (x3 + (1 : Int32)).toNatClampNeg then none else
        if (x3 + (2 : Int32)) < 0 ∨ L ≤ (x3 + (2 : Int32)).toNatClampNeg then none else
        bd (f_X9_high E n S161 h2 (xs (x3 + (1 : Int32)).toNatClampNeg) (xs (x3 + (2 : Int32)).toNatClampNeg)) fun v164 S163 =>
        if v162 = v164 then
          lt (x3 + (6 : Int32)) fun y165 =>
          f_L_law_L18 E n L xs  m S163 h1 h2 y165
        else
          some ((0 : Int32), S163)
      else
      if ((xs x3.toNatClampNeg) &&& (63 : Int32)) = (33 : Int32) then
        if (x3 + (1 : Int32)) < 0 ∨ L ≤ (x3 + (1 : Int32)).toNatClampNeg then none else
        if (x3 + (2 : Int32)) < 0 ∨ L ≤ (x3 + (2 : Int32)).toNatClampNeg then none else
        bd (f_X8_parts E n S h1 (xs (x3 + (1 : Int32)).toNatClampNeg) (xs (x3 + (2 : Int32)).toNatClampNeg)) fun v167 S166 =>
        if (x3 + (1 : Int32)) < 0 ∨ L ≤ (x3 + (1 : Int32)).toNatClampNeg then none else
        if (x3 + (2 : Int32)) < 0 ∨ L ≤ (x3 + (2 : Int32)).toNatClampNeg then none else
        bd (f_X9_parts E n S166 h2 (xs (x3 + (1 : Int32)).toNatClampNeg) (xs (x3 + (2 : Int32)).toNatClampNeg)) fun v169 S168 =>
        if v167 = v169 then
          lt (x3 + (6 : Int32)) fun y170 =>
          f_L_law_L18 E n L xs  m S168 h1 h2 y170
        else
          some ((0 : Int32), S168)
      else
      if ((xs x3.toNatClampNeg) &&& (63 : Int32)) = (34 : Int32) then
        if (x3 + (1 : Int32)) < 0 ∨ L ≤ (x3 + (1 : Int32)).toNatClampNeg then none else
        if (x3 + (2 : Int32)) < 0 ∨ L ≤ (x3 + (2 : Int32)).toNatClampNeg then none else
        if (x3 + (3 : Int32)) < 0 ∨ L ≤ (x3 + (3 : Int32)).toNatClampNeg then none else
        bd (f_X8_cuts E n S h1 (xs (x3 + (1 : Int32)).toNatClampNeg) (xs (x3 + (2 : Int32)).toNatClampNeg) (xs (x3 + (3 : Int32)).toNatClampNeg)) fun v172 S171 =>
        if (x3 + (1 : Int32)) < 0 ∨ L ≤ (x3 + (1 : Int32)).toNatClampNeg then none else
        if (x3 + (2 : Int32)) < 0 ∨ L ≤ (x3 + (2 : Int32)).toNatClampNeg then none else
        if (x3 + (3 : Int32)) < 0 ∨ L ≤ (x3 + (3 : Int32)).toNatClampNeg then none else
        bd (f_X9_cuts E n S171 h2 (xs (x3 + (1 : Int32)).toNatClampNeg) (xs (x3 + (2 : Int32)).toNatClampNeg) (xs (x3 + (3 : Int32)).toNatClampNeg)) fun v174 S173 =>
        if v172 = v174 then
          lt (x3 + (6 : Int32)) fun y175 =>
          f_L_law_L18 E n L xs  m S173 h1 h2 y175
        else
          some ((0 : Int32), S173)
      else
      if ((xs x3.toNatClampNeg) &&& (63 : Int32)) = (35 : Int32) then
        if (x3 + (1 : Int32)) < 0 ∨ L ≤ (x3 + (1 : Int32)).toNatClampNeg then none else
        bd (f_X8_vain E n S h1 (xs (x3 + (1 : Int32)).toNatClampNeg)) fun v177 S176 =>
        if (x3 + (1 : Int32)) < 0 ∨ L ≤ (x3 + (1 : Int32)).toNatClampNeg then none else
        bd (f_X9_vain E n S176 h2 (xs (x3 + (1 : Int32)).toNatClampNeg)) fun v179 S178 =>
        if v177 = v179 then
          lt (x3 + (6 : Int32)) fun y180 =>
          f_L_law_L18 E n L xs  m S178 h1 h2 y180
        else
          some ((0 : Int32), S178)
      else
      if ((xs x3.toNatClampNeg) &&& (63 : Int32)) = (36 : Int32) then
        if (x3 + (1 : Int32)) < 0 ∨ L ≤ (x3 + (1 : Int32)).toNatClampNeg then none else
        if (x3 + (2 : Int32)) < 0 ∨ L ≤ (x3 + (2 : Int32)).toNatClampNeg then none else
        if (x3 + (3 : Int32)) < 0 ∨ L ≤ (x3 + (3 : Int32)).toNatClampNeg then none else
        bd (f_X8_sold E n S h1 (xs (x3 + (1 : Int32)).toNatClampNeg) (xs (x3 + (2 : Int32)).toNatClampNeg) (xs (x3 + (3 : Int32)).toNatClampNeg)) fun v182 S181 =>
        if (x3 + (1 : Int32)) < 0 ∨ L ≤ (x3 + (1 : Int32)).toNatClampNeg then none else
        if (x3 + (2 : Int32)) < 0 ∨ L ≤ (x3 + (2 : Int32)).toNatClampNeg then none else
        if (x3 + (3 : Int32)) < 0 ∨ L ≤ (x3 + (3 : Int32)).toNatClampNeg then none else
        bd (f_X9_sold E n S181 h2 (xs (x3 + (1 : Int32)).toNatClampNeg) (xs (x3 + (2 : Int32)).toNatClampNeg) (xs (x3 + (3 : Int32)).toNatClampNeg)) fun v184 S183 =>
        if v182 = v184 then
          lt (x3 + (6 : Int32)) fun y185 =>
          f_L_law_L18 E n L xs  m S183 h1 h2 y185
        else
          some ((0 : Int32), S183)
      else
      if ((xs x3.toNatClampNeg) &&& (63 : Int32)) = (37 : Int32) then
        if (x3 + (1 : Int32)) < 0 ∨ L ≤ (x3 + (1 : Int32)).toNatClampNeg then none else
        if (x3 + (2 : Int32)) < 0 ∨ L ≤ (x3 + (2 : Int32)).toNatClampNeg then none else
        if (x3 + (3 : Int32)) < 0 ∨ L ≤ (x3 + (3 : Int32)).toNatClampNeg then none else
        if (x3 + (4 : Int32)) < 0 ∨ L ≤ (x3 + (4 : Int32)).toNatClampNeg then none else
        bd (f_X8_more E n S h1 (xs (x3 + (1 : Int32)).toNatClampNeg) (xs (x3 + (2 : Int32)).toNatClampNeg) (xs (x3 + (3 : Int32)).toNatClampNeg) (xs (x3 + (4 : Int32)).toNatClampNeg)) fun v187 S186 =>
        if (x3 + (1 : Int32)) < 0 ∨ L ≤ (x3 + (1 : Int32)).toNatClampNeg then none else
        if (x3 + (2 : Int32)) < 0 ∨ L ≤ (x3 + (2 : Int32)).toNatClampNeg then none else
        if (x3 + (3 : Int32)) < 0 ∨ L ≤ (x3 + (3 : Int32)).toNatClampNeg then none else
        if (x3 + (4 : Int32)) < 0 ∨ L ≤ (x3 + (4 : Int32)).toNatClampNeg then none else
        bd (f_X9_more E n S186 h2 (xs (x3 + (1 : Int32)).toNatClampNeg) (xs (x3 + (2 : Int32)).toNatClampNeg) (xs (x3 + (3 : Int32)).toNatClampNeg) (xs (x3 + (4 : Int32)).toNatClampNeg)) fun v189 S188 =>
        if v187 = v189 then
          lt (x3 + (6 : Int32)) fun y190 =>
          f_L_law_L18 E n L xs  m S188 h1 h2 y190
        else
          some ((0 : Int32), S188)
      else
      if ((xs x3.toNatClampNeg) &&& (63 : Int32)) = (38 : Int32) then
        if (x3 + (1 : Int32)) < 0 ∨ L ≤ (x3 + (1 : Int32)).toNatClampNeg then none else
        bd (f_X8_agree E n S h1 (xs (x3 + (1 : Int32)).toNatClampNeg)) fun v192 S191 =>
        if (x3 + (1 : Int32)) < 0 ∨ L ≤ (x3 + (1 : Int32)).toNatClampNeg then none else
        bd (f_X9_agree E n S191 h2 (xs (x3 + (1 : Int32)).toNatClampNeg)) fun v194 S193 =>
        if v192 = v194 then
          lt (x3 + (6 : Int32)) fun y195 =>
          f_L_law_L18 E n L xs  m S193 h1 h2 y195
        else
          some ((0 : Int32), S193)
      else
      if ((xs x3.toNatClampNeg) &&& (63 : Int32)) = (39 : Int32) then
        if (x3 + (1 : Int32)) < 0 ∨ L ≤ (x3 + (1 : Int32)).toNatClampNeg then none else
        if (x3 + (2 : Int32)) < 0 ∨ L ≤ (x3 + (2 : Int32)).toNatClampNeg then none else
        bd (f_X8_sure E n S h1 (xs (x3 + (1 : Int32)).toNatClampNeg) (xs (x3 + (2 : Int32)).toNatClampNeg)) fun v197 S196 =>
        if (x3 + (1 : Int32)) < 0 ∨ L ≤ (x3 + (1 : Int32)).toNatClampNeg then none else
        if (x3 + (2 : Int32)) < 0 ∨ L ≤ (x3 + (2 : Int32)).toNatClampNeg then none else
        bd (f_X9_sure E n S196 h2 (xs (x3 + (1 : Int32)).toNatClampNeg) (xs (x3 + (2 : Int32)).toNatClampNeg)) fun v199 S198 =>
        if v197 = v199 then
          lt (x3 + (6 : Int32)) fun y200 =>
          f_L_law_L18 E n L xs  m S198 h1 h2 y200
        else
          some ((0 : Int32), S198)
      else
      if ((xs x3.toNatClampNeg) &&& (63 : Int32)) = (40 : Int32) then
        if (x3 + (1 : Int32)) < 0 ∨ L ≤ (x3 + (1 : Int32)).toNatClampNeg then none else
        bd (f_X8_kindly E n S h1 (xs (x3 + (1 : Int32)).toNatClampNeg)) fun v202 S201 =>
        if (x3 + (1 : Int32)) < 0 ∨ L ≤ (x3 + (1 : Int32)).toNatClampNeg then none else
        bd (f_X9_kindly E n S201 h2 (xs (x3 + (1 : Int32)).toNatClampNeg)) fun v204 S203 =>
        if v202 = v204 then
          lt (x3 + (6 : Int32)) fun y205 =>
          f_L_law_L18 E n L xs  m S203 h1 h2 y205
        else
          some ((0 : Int32), S203)
      else
      if ((xs x3.toNatClampNeg) &&& (63 : Int32)) = (41 : Int32) then
        if (x3 + (1 : Int32)) < 0 ∨ L ≤ (x3 + (1 : Int32)).toNatClampNeg then none else
        bd (f_X8_odd0 E n S h1 (xs (x3 + (1 : Int32)).toNatClampNeg)) fun v207 S206 =>
        if (x3 + (1 : Int32)) < 0 ∨ L ≤ (x3 + (1 : Int32)).toNatClampNeg then none else
        bd (f_X9_odd E n S206 h2 (xs (x3 + (1 : Int32)).toNatClampNeg)) fun v209 S208 =>
        if v207 = v209 then
          lt (x3 + (6 : Int32)) fun y210 =>
          f_L_law_L18 E n L xs  m S208 h1 h2 y210
        else
          some ((0 : Int32), S208)
      else
      if ((xs x3.toNatClampNeg) &&& (63 : Int32)) = (42 : Int32) then
        if (x3 + (1 : Int32)) < 0 ∨ L ≤ (x3 + (1 : Int32)).toNatClampNeg then none else
        bd (f_X8_hopes E n S h1 (xs (x3 + (1 : Int32)).toNatClampNeg)) fun v212 S211 =>
        if (x3 + (1 : Int32)) < 0 ∨ L ≤ (x3 + (1 : Int32)).toNatClampNeg then none else
        bd (f_X9_hopes E n S211 h2 (xs (x3 + (1 : Int32)).toNatClampNeg)) fun v214 S213 =>
        if v212 = v214 then
          lt (x3 + (6 : Int32)) fun y215 =>
          f_L_law_L18 E n L xs  m S213 h1 h2 y215
        else
          some ((0 : Int32), S213)
      else
      if ((xs x3.toNatClampNeg) &&& (63 : Int32)) = (43 : Int32) then
        bd (f_X8_peace E n S h1) fun v217 S216 =>
        bd (f_X9_peace E n S216 h2) fun v219 S218 =>
        if v217 = v219 then
          lt (x3 + (6 : Int32)) fun y220 =>
          f_L_law_L18 E n L xs  m S218 h1 h2 y220
        else
          some ((0 : Int32), S218)
      else
      if ((xs x3.toNatClampNeg) &&& (63 : Int32)) = (44 : Int32) then
        if (x3 + (1 : Int32)) < 0 ∨ L ≤ (x3 + (1 : Int32)).toNatClampNeg then none else
        bd (f_X8_peaces E n S h1 (xs (x3 + (1 : Int32)).toNatClampNeg)) fun v222 S221 =>
        if (x3 + (1 : Int32)) < 0 ∨ L ≤ (x3 + (1 : Int32)).toNatClampNeg then none else
        bd (f_X9_peaces E n S221 h2 (xs (x3 + (1 : Int32)).toNatClampNeg)) fun v224 S223 =>
        if v222 = v224 then
          lt (x3 + (6 : Int32)) fun y225 =>
          f_L_law_L18 E n L xs  m S223 h1 h2 y225
        else
          some ((0 : Int32), S223)
      else
      if ((xs x3.toNatClampNeg) &&& (63 : Int32)) = (45 : Int32) then
        if (x3 + (1 : Int32)) < 0 ∨ L ≤ (x3 + (1 : Int32)).toNatClampNeg then none else
        if (x3 + (2 : Int32)) < 0 ∨ L ≤ (x3 + (2 : Int32)).toNatClampNeg then none else
        bd (f_X8_then E n S h1 (xs (x3 + (1 : Int32)).toNatClampNeg) (xs (x3 + (2 : Int32)).toNatClampNeg)) fun v227 S226 =>
        if (x3 + (1 : Int32)) < 0 ∨ L ≤ (x3 + (1 : Int32)).toNatClampNeg then none else
        if (x3 + (2 : Int32)) < 0 ∨ L ≤ (x3 + (2 : Int32)).toNatClampNeg then none else
        bd (f_X9_then E n S226 h2 (xs (x3 + (1 : Int32)).toNatClampNeg) (xs (x3 + (2 : Int32)).toNatClampNeg)) fun v229 S228 =>
        if v227 = v229 then
          lt (x3 + (6 : Int32)) fun y230 =>
          f_L_law_L18 E n L xs  m S228 h1 h2 y230
        else
          some ((0 : Int32), S228)
      else
      if ((xs x3.toNatClampNeg) &&& (63 : Int32)) = (46 : Int32) then
        if (x3 + (1 : Int32)) < 0 ∨ L ≤ (x3 + (1 : Int32)).toNatClampNeg then none else
        if (x3 + (2 : Int32)) < 0 ∨ L ≤ (x3 + (2 : Int32)).toNatClampNeg then none else
        if (x3 + (3 : Int32)) < 0 ∨ L ≤ (x3 + (3 : Int32)).toNatClampNeg then none else
        if (x3 + (4 : Int32)) < 0 ∨ L ≤ (x3 + (4 : Int32)).toNatClampNeg then none else
        bd (f_X8_walk E n S h1 (xs (x3 + (1 : Int32)).toNatClampNeg) (xs (x3 + (2 : Int32)).toNatClampNeg) (xs (x3 + (3 : Int32)).toNatClampNeg) (xs (x3 + (4 : Int32)).toNatClampNeg)) fun v232 S231 =>
        if (x3 + (1 : Int32)) < 0 ∨ L ≤ (x3 + (1 : Int32)).toNatClampNeg then none else
        if (x3 + (2 : Int32)) < 0 ∨ L ≤ (x3 + (2 : Int32)).toNatClampNeg then none else
        if (x3 + (3 : Int32)) < 0 ∨ L ≤ (x3 + (3 : Int32)).toNatClampNeg then none else
        if (x3 + (4 : Int32)) < 0 ∨ L ≤ (x3 + (4 : Int32)).toNatClampNeg then none else
        bd (f_X9_walk E n S231 h2 (xs (x3 + (1 : Int32)).toNatClampNeg) (xs (x3 + (2 : Int32)).toNatClampNeg) (xs (x3 + (3 : Int32)).toNatClampNeg) (xs (x3 + (4 : Int32)).toNatClampNeg)) fun v234 S233 =>
        if v232 = v234 then
          lt (x3 + (6 : Int32)) fun y235 =>
          f_L_law_L18 E n L xs  m S233 h1 h2 y235
        else
          some ((0 : Int32), S233)
      else
      if ((xs x3.toNatClampNeg) &&& (63 : Int32)) = (47 : Int32) then
        if (x3 + (1 : Int32)) < 0 ∨ L ≤ (x3 + (1 : Int32)).toNatClampNeg then none else
        if (x3 + (2 : Int32)) < 0 ∨ L ≤ (x3 + (2 : Int32)).toNatClampNeg then none else
        if (x3 + (3 : Int32)) < 0 ∨ L ≤ (x3 + (3 : Int32)).toNatClampNeg then none else
        if (x3 + (4 : Int32)) < 0 ∨ L ≤ (x3 + (4 : Int32)).toNatClampNeg then none else
        if (x3 + (5 : Int32)) < 0 ∨ L ≤ (x3 + (5 : Int32)).toNatClampNeg then none else
        bd (f_X8_walks E n S h1 (xs (x3 + (1 : Int32)).toNatClampNeg) (xs (x3 + (2 : Int32)).toNatClampNeg) (xs (x3 + (3 : Int32)).toNatClampNeg) (xs (x3 + (4 : Int32)).toNatClampNeg) (xs (x3 + (5 : Int32)).toNatClampNeg)) fun v237 S236 =>
        if (x3 + (1 : Int32)) < 0 ∨ L ≤ (x3 + (1 : Int32)).toNatClampNeg then none else
        if (x3 + (2 : Int32)) < 0 ∨ L ≤ (x3 + (2 : Int32)).toNatClampNeg then none else
        if (x3 + (3 : Int32)) < 0 ∨ L ≤ (x3 + (3 : Int32)).toNatClampNeg then none else
        if (x3 + (4 : Int32)) < 0 ∨ L ≤ (x3 + (4 : Int32)).toNatClampNeg then none else
        if (x3 + (5 : Int32)) < 0 ∨ L ≤ (x3 + (5 : Int32)).toNatClampNeg then none else
        bd (f_X9_walks_ E n S236 h2 (xs (x3 + (1 : Int32)).toNatClampNeg) (xs (x3 + (2 : Int32)).toNatClampNeg) (xs (x3 + (3 : Int32)).toNatClampNeg) (xs (x3 + (4 : Int32)).toNatClampNeg) (xs (x3 + (5 : Int32)).toNatClampNeg)) fun v239 S238 =>
        if v237 = v239 then
          lt (x3 + (6 : Int32)) fun y240 =>
          f_L_law_L18 E n L xs  m S238 h1 h2 y240
        else
          some ((0 : Int32), S238)
      else
      if ((xs x3.toNatClampNeg) &&& (63 : Int32)) = (48 : Int32) then
        if (x3 + (1 : Int32)) < 0 ∨ L ≤ (x3 + (1 : Int32)).toNatClampNeg then none else
        bd (f_X8_count E n S h1 (xs (x3 + (1 : Int32)).toNatClampNeg)) fun v242 S241 =>
        if (x3 + (1 : Int32)) < 0 ∨ L ≤ (x3 + (1 : Int32)).toNatClampNeg then none else
        bd (f_X9_count E n S241 h2 (xs (x3 + (1 : Int32)).toNatClampNeg)) fun v244 S243 =>
        if v242 = v244 then
          lt (x3 + (6 : Int32)) fun y245 =>
          f_L_law_L18 E n L xs  m S243 h1 h2 y245
        else
          some ((0 : Int32), S243)
      else
      if ((xs x3.toNatClampNeg) &&& (63 : Int32)) = (49 : Int32) then
        if (x3 + (1 : Int32)) < 0 ∨ L ≤ (x3 + (1 : Int32)).toNatClampNeg then none else
        bd (f_X8_image E n S h1 (xs (x3 + (1 : Int32)).toNatClampNeg)) fun v247 S246 =>
        if (x3 + (1 : Int32)) < 0 ∨ L ≤ (x3 + (1 : Int32)).toNatClampNeg then none else
        bd (f_X9_image E n S246 h2 (xs (x3 + (1 : Int32)).toNatClampNeg)) fun v249 S248 =>
        if v247 = v249 then
          lt (x3 + (6 : Int32)) fun y250 =>
          f_L_law_L18 E n L xs  m S248 h1 h2 y250
        else
          some ((0 : Int32), S248)
      else
      if ((xs x3.toNatClampNeg) &&& (63 : Int32)) = (50 : Int32) then
        if (x3 + (1 : Int32)) < 0 ∨ L ≤ (x3 + (1 : Int32)).toNatClampNeg then none else
        bd (f_X8_back E n S h1 (xs (x3 + (1 : Int32)).toNatClampNeg)) fun v252 S251 =>
        if (x3 + (1 : Int32)) < 0 ∨ L ≤ (x3 + (1 : Int32)).toNatClampNeg then none else
        bd (f_X9_back E n S251 h2 (xs (x3 + (1 : Int32)).toNatClampNeg)) fun v254 S253 =>
        if v252 = v254 then
          lt (x3 + (6 : Int32)) fun y255 =>
          f_L_law_L18 E n L xs  m S253 h1 h2 y255
        else
          some ((0 : Int32), S253)
      else
      if ((xs x3.toNatClampNeg) &&& (63 : Int32)) = (51 : Int32) then
        if (x3 + (1 : Int32)) < 0 ∨ L ≤ (x3 + (1 : Int32)).toNatClampNeg then none else
        if (x3 + (2 : Int32)) < 0 ∨ L ≤ (x3 + (2 : Int32)).toNatClampNeg then none else
        if (x3 + (3 : Int32)) < 0 ∨ L ≤ (x3 + (3 : Int32)).toNatClampNeg then none else
        bd (f_X8_row E n S h1 (xs (x3 + (1 : Int32)).toNatClampNeg) (xs (x3 + (2 : Int32)).toNatClampNeg) (xs (x3 + (3 : Int32)).toNatClampNeg)) fun v257 S256 =>
        if (x3 + (1 : Int32)) < 0 ∨ L ≤ (x3 + (1 : Int32)).toNatClampNeg then none else
        if (x3 + (2 : Int32)) < 0 ∨ L ≤ (x3 + (2 : Int32)).toNatClampNeg then none else
        if (x3 + (3 : Int32)) < 0 ∨ L ≤ (x3 + (3 : Int32)).toNatClampNeg then none else
        bd (f_X9_row E n S256 h2 (xs (x3 + (1 : Int32)).toNatClampNeg) (xs (x3 + (2 : Int32)).toNatClampNeg) (xs (x3 + (3 : Int32)).toNatClampNeg)) fun v259 S258 =>
        if v257 = v259 then
          lt (x3 + (6 : Int32)) fun y260 =>
          f_L_law_L18 E n L xs  m S258 h1 h2 y260
        else
          some ((0 : Int32), S258)
      else
      if ((xs x3.toNatClampNeg) &&& (63 : Int32)) = (52 : Int32) then
        if (x3 + (1 : Int32)) < 0 ∨ L ≤ (x3 + (1 : Int32)).toNatClampNeg then none else
        if (x3 + (2 : Int32)) < 0 ∨ L ≤ (x3 + (2 : Int32)).toNatClampNeg then none else
        if (x3 + (3 : Int32)) < 0 ∨ L ≤ (x3 + (3 : Int32)).toNatClampNeg then none else
        if (x3 + (4 : Int32)) < 0 ∨ L ≤ (x3 + (4 : Int32)).toNatClampNeg then none else
        bd (f_X8_write E n S h1 (xs (x3 + (1 : Int32)).toNatClampNeg) (xs (x3 + (2 : Int32)).toNatClampNeg) ((((xs (x3 + (3 : Int32)).toNatClampNeg).toInt64) <<< ((32 : Int32).toInt64 &&& 63)) ||| (((xs (x3 + (4 : Int32)).toNatClampNeg).toInt64) &&& (4294967295 : Int64)))) fun v262 S261 =>
        if (x3 + (1 : Int32)) < 0 ∨ L ≤ (x3 + (1 : Int32)).toNatClampNeg then none else
        if (x3 + (2 : Int32)) < 0 ∨ L ≤ (x3 + (2 : Int32)).toNatClampNeg then none else
        if (x3 + (3 : Int32)) < 0 ∨ L ≤ (x3 + (3 : Int32)).toNatClampNeg then none else
        if (x3 + (4 : Int32)) < 0 ∨ L ≤ (x3 + (4 : Int32)).toNatClampNeg then none else
        bd (f_X9_write E n S261 h2 (xs (x3 + (1 : Int32)).toNatClampNeg) (xs (x3 + (2 : Int32)).toNatClampNeg) ((((xs (x3 + (3 : Int32)).toNatClampNeg).toInt64) <<< ((32 : Int32).toInt64 &&& 63)) ||| (((xs (x3 + (4 : Int32)).toNatClampNeg).toInt64) &&& (4294967295 : Int64)))) fun v264 S263 =>
        if v262 = v264 then
          lt (x3 + (6 : Int32)) fun y265 =>
          f_L_law_L18 E n L xs  m S263 h1 h2 y265
        else
          some ((0 : Int32), S263)
      else
      if ((xs x3.toNatClampNeg) &&& (63 : Int32)) = (53 : Int32) then
        if (x3 + (1 : Int32)) < 0 ∨ L ≤ (x3 + (1 : Int32)).toNatClampNeg then none else
        if (x3 + (2 : Int32)) < 0 ∨ L ≤ (x3 + (2 : Int32)).toNatClampNeg then none else
        if (x3 + (3 : Int32)) < 0 ∨ L ≤ (x3 + (3 : Int32)).toNatClampNeg then none else
        if (x3 + (4 : Int32)) < 0 ∨ L ≤ (x3 + (4 : Int32)).toNatClampNeg then none else
        if (x3 + (5 : Int32)) < 0 ∨ L ≤ (x3 + (5 : Int32)).toNatClampNeg then none else
        bd (f_X8_paste E n S h1 (xs (x3 + (1 : Int32)).toNatClampNeg) (xs (x3 + (2 : Int32)).toNatClampNeg) (xs (x3 + (3 : Int32)).toNatClampNeg) (xs (x3 + (4 : Int32)).toNatClampNeg) (xs (x3 + (5 : Int32)).toNatClampNeg)) fun v267 S266 =>
        if (x3 + (1 : Int32)) < 0 ∨ L ≤ (x3 + (1 : Int32)).toNatClampNeg then none else
        if (x3 + (2 : Int32)) < 0 ∨ L ≤ (x3 + (2 : Int32)).toNatClampNeg then none else
        if (x3 + (3 : Int32)) < 0 ∨ L ≤ (x3 + (3 : Int32)).toNatClampNeg then none else
        if (x3 + (4 : Int32)) < 0 ∨ L ≤ (x3 + (4 : Int32)).toNatClampNeg then none else
        if (x3 + (5 : Int32)) < 0 ∨ L ≤ (x3 + (5 : Int32)).toNatClampNeg then none else
        bd (f_X9_paste E n S266 h2 (xs (x3 + (1 : Int32)).toNatClampNeg) (xs (x3 + (2 : Int32)).toNatClampNeg) (xs (x3 + (3 : Int32)).toNatClampNeg) (xs (x3 + (4 : Int32)).toNatClampNeg) (xs (x3 + (5 : Int32)).toNatClampNeg)) fun v269 S268 =>
        if v267 = v269 then
          lt (x3 + (6 : Int32)) fun y270 =>
          f_L_law_L18 E n L xs  m S268 h1 h2 y270
        else
          some ((0 : Int32), S268)
      else
        lt (x3 + (6 : Int32)) fun y271 =>
        f_L_law_L18 E n L xs  m S h1 h2 y271
set_option maxRecDepth 1000000 in
set_option maxHeartbeats 40000000 in
theorem p_L_law_L18 {A : AM} {E : EN} {n : Nat} {b L : Nat} {xs : Nat → Int32} (C : Cx A E cL_law 4 RL 20 718) (X : LX A b L xs)  : ∀ (m : Nat) (S : WS) (h1 : Nat) (h2 : Nat) (x3 : Int32) (th1 : Ty E h1 7) (th2 : Ty E h2 8), Gd A E 4 (QL A b) (f_L_law_L18 E n L xs  m S h1 h2 x3) S 18 [(0, .ref b), (1, .ref h1), (2, .ref h2), (3, .int x3)] [] := by
  intro m
  induction m with
  | zero => intros; exact gn
  | succ m ih =>
    intro S h1 h2 x3 th1 th2
    unfold f_L_law_L18
    refine r_iload_n C 3 dL_law_18 rfl ?_
    refine r_aload_n C 0 dL_law_19 rfl ?_
    refine r_slenq C X dL_law_20 ?_
    refine r_bipush C (6 : Int32) dL_law_21 (by decide) ?_
    refine r_isub C dL_law_23 ?_
    refine r_icmp_gt C 2264 dL_law_24 (by decide) ?_ ?_
    · refine r_iconst C (1 : Int32) dL_law_2264 (by decide) ?_
      exact r_lawT C X dL_law_2265
    · refine r_aload_n C 0 dL_law_27 rfl ?_
      refine r_iload_n C 3 dL_law_28 rfl ?_
      refine r_sld C X dL_law_29 ?_
      refine r_bipush C (63 : Int32) dL_law_30 (by decide) ?_
      refine r_iand C dL_law_32 ?_
      refine r_ite (fun hs0 => ?_) (fun hs0 => ?_)
      · refine r_swIn C 0 264 dL_law_33 (by rw [hs0]; rfl) (by decide) (by decide) rfl (by decide) ?_
        refine r_aload_n C 1 dL_law_264 rfl ?_
        refine r_aload_n C 0 dL_law_265 rfl ?_
        refine r_iload_n C 3 dL_law_266 rfl ?_
        refine r_iconst C (1 : Int32) dL_law_267 (by decide) ?_
        refine r_iadd C dL_law_268 ?_
        refine r_sld C X dL_law_269 ?_
        refine r_aload_n C 0 dL_law_270 rfl ?_
        refine r_iload_n C 3 dL_law_271 rfl ?_
        refine r_iconst C (2 : Int32) dL_law_272 (by decide) ?_
        refine r_iadd C dL_law_273 ?_
        refine r_sld C X dL_law_274 ?_
        refine r_aload_n C 0 dL_law_275 rfl ?_
        refine r_iload_n C 3 dL_law_276 rfl ?_
        refine r_iconst C (3 : Int32) dL_law_277 (by decide) ?_
        refine r_iadd C dL_law_278 ?_
        refine r_sld C X dL_law_279 ?_
        refine r_aload_n C 0 dL_law_280 rfl ?_
        refine r_iload_n C 3 dL_law_281 rfl ?_
        refine r_iconst C (4 : Int32) dL_law_282 (by decide) ?_
        refine r_iadd C dL_law_283 ?_
        refine r_sld C X dL_law_284 ?_
        refine r_aload_n C 0 dL_law_285 rfl ?_
        refine r_iload_n C 3 dL_law_286 rfl ?_
        refine r_iconst C (5 : Int32) dL_law_287 (by decide) ?_
        refine r_iadd C dL_law_288 ?_
        refine r_sld C X dL_law_289 ?_
        refine r_callV (As := [.int (xs (x3 + (1 : Int32)).toNatClampNeg), .int (xs (x3 + (2 : Int32)).toNatClampNeg), .int (xs (x3 + (3 : Int32)).toNatClampNeg), .int (xs (x3 + (4 : Int32)).toNatClampNeg), .int (xs (x3 + (5 : Int32)).toNatClampNeg)]) (rest := []) C (c_X8_feed _ E n h1 (xs (x3 + (1 : Int32)).toNatClampNeg) (xs (x3 + (2 : Int32)).toNatClampNeg) (xs (x3 + (3 : Int32)).toNatClampNeg) (xs (x3 + (4 : Int32)).toNatClampNeg) (xs (x3 + (5 : Int32)).toNatClampNeg) th1) dL_law_290 ml_L_13 mv_X8_feed ⟨TX8, _, rfl⟩ (by decide) th1 rfl rfl ⟨by decide, by decide⟩ (Nat.le_of_ble_eq_true rfl) (fun v2 S1 hv2 => ?_)
        refine r_aload_n C 2 dL_law_293 rfl ?_
        refine r_aload_n C 0 dL_law_294 rfl ?_
        refine r_iload_n C 3 dL_law_295 rfl ?_
        refine r_iconst C (1 : Int32) dL_law_296 (by decide) ?_
        refine r_iadd C dL_law_297 ?_
        refine r_sld C X dL_law_298 ?_
        refine r_aload_n C 0 dL_law_299 rfl ?_
        refine r_iload_n C 3 dL_law_300 rfl ?_
        refine r_iconst C (2 : Int32) dL_law_301 (by decide) ?_
        refine r_iadd C dL_law_302 ?_
        refine r_sld C X dL_law_303 ?_
        refine r_aload_n C 0 dL_law_304 rfl ?_
        refine r_iload_n C 3 dL_law_305 rfl ?_
        refine r_iconst C (3 : Int32) dL_law_306 (by decide) ?_
        refine r_iadd C dL_law_307 ?_
        refine r_sld C X dL_law_308 ?_
        refine r_aload_n C 0 dL_law_309 rfl ?_
        refine r_iload_n C 3 dL_law_310 rfl ?_
        refine r_iconst C (4 : Int32) dL_law_311 (by decide) ?_
        refine r_iadd C dL_law_312 ?_
        refine r_sld C X dL_law_313 ?_
        refine r_aload_n C 0 dL_law_314 rfl ?_
        refine r_iload_n C 3 dL_law_315 rfl ?_
        refine r_iconst C (5 : Int32) dL_law_316 (by decide) ?_
        refine r_iadd C dL_law_317 ?_
        refine r_sld C X dL_law_318 ?_
        refine r_callV (As := [.int (xs (x3 + (1 : Int32)).toNatClampNeg), .int (xs (x3 + (2 : Int32)).toNatClampNeg), .int (xs (x3 + (3 : Int32)).toNatClampNeg), .int (xs (x3 + (4 : Int32)).toNatClampNeg), .int (xs (x3 + (5 : Int32)).toNatClampNeg)]) (rest := [.int v2]) C (c_X9_feed _ E n h2 (xs (x3 + (1 : Int32)).toNatClampNeg) (xs (x3 + (2 : Int32)).toNatClampNeg) (xs (x3 + (3 : Int32)).toNatClampNeg) (xs (x3 + (4 : Int32)).toNatClampNeg) (xs (x3 + (5 : Int32)).toNatClampNeg) th2) dL_law_319 ml_L_17 mv_X9_feed ⟨TX9, _, rfl⟩ (by decide) th2 rfl rfl ⟨by decide, by decide⟩ (Nat.le_of_ble_eq_true rfl) (fun v4 S3 hv4 => ?_)
        refine r_icmp_eq C 2258 dL_law_322 (by decide) ?_ ?_
        · refine r_iinc C 3 (fun y5 => [(3, .int y5), (0, .ref b), (1, .ref h1), (2, .ref h2)]) dL_law_2258 rfl (v := (6 : Int32)) (by decide) (by decide) (fun _ => rfl) (fun y5 => ?_)
          refine r_goto C 18 dL_law_2261 (by decide) ?_
          refine r_sub [1, 2, 3, 0] [(0, .ref b), (1, .ref h1), (2, .ref h2), (3, .int y5)] rfl ?_
          exact ih S3 h1 h2 y5 th1 th2
        · refine r_iconst C (0 : Int32) dL_law_325 (by decide) ?_
          exact r_lawF C X dL_law_326
      refine r_ite (fun hs1 => ?_) (fun hs1 => ?_)
      · refine r_swIn C 1 327 dL_law_33 (by rw [hs1]; rfl) (by decide) (by decide) rfl (by decide) ?_
        refine r_aload_n C 1 dL_law_327 rfl ?_
        refine r_aload_n C 0 dL_law_328 rfl ?_
        refine r_iload_n C 3 dL_law_329 rfl ?_
        refine r_iconst C (1 : Int32) dL_law_330 (by decide) ?_
        refine r_iadd C dL_law_331 ?_
        refine r_sld C X dL_law_332 ?_
        refine r_callV (As := [.int (xs (x3 + (1 : Int32)).toNatClampNeg)]) (rest := []) C (c_X8_end _ E n h1 (xs (x3 + (1 : Int32)).toNatClampNeg) th1) dL_law_333 ml_L_18 mv_X8_end ⟨TX8, _, rfl⟩ (by decide) th1 rfl rfl ⟨by decide, by decide⟩ (Nat.le_of_ble_eq_true rfl) (fun v7 S6 hv7 => ?_)
        refine r_aload_n C 2 dL_law_336 rfl ?_
        refine r_aload_n C 0 dL_law_337 rfl ?_
        refine r_iload_n C 3 dL_law_338 rfl ?_
        refine r_iconst C (1 : Int32) dL_law_339 (by decide) ?_
        refine r_iadd C dL_law_340 ?_
        refine r_sld C X dL_law_341 ?_
        refine r_callV (As := [.int (xs (x3 + (1 : Int32)).toNatClampNeg)]) (rest := [.int v7]) C (c_X9_end _ E n h2 (xs (x3 + (1 : Int32)).toNatClampNeg) th2) dL_law_342 ml_L_22 mv_X9_end ⟨TX9, _, rfl⟩ (by decide) th2 rfl rfl ⟨by decide, by decide⟩ (Nat.le_of_ble_eq_true rfl) (fun v9 S8 hv9 => ?_)
        refine r_icmp_eq C 2258 dL_law_345 (by decide) ?_ ?_
        · refine r_iinc C 3 (fun y10 => [(3, .int y10), (0, .ref b), (1, .ref h1), (2, .ref h2)]) dL_law_2258 rfl (v := (6 : Int32)) (by decide) (by decide) (fun _ => rfl) (fun y10 => ?_)
          refine r_goto C 18 dL_law_2261 (by decide) ?_
          refine r_sub [1, 2, 3, 0] [(0, .ref b), (1, .ref h1), (2, .ref h2), (3, .int y10)] rfl ?_
          exact ih S8 h1 h2 y10 th1 th2
        · refine r_iconst C (0 : Int32) dL_law_348 (by decide) ?_
          exact r_lawF C X dL_law_349
      refine r_ite (fun hs2 => ?_) (fun hs2 => ?_)
      · refine r_swIn C 2 350 dL_law_33 (by rw [hs2]; rfl) (by decide) (by decide) rfl (by decide) ?_
        refine r_aload_n C 1 dL_law_350 rfl ?_
        refine r_callV (As := []) (rest := []) C (c_X8_mountain _ E n h1 th1) dL_law_351 ml_L_23 mv_X8_mountain ⟨TX8, _, rfl⟩ (by decide) th1 rfl rfl ⟨by decide, by decide⟩ (Nat.le_of_ble_eq_true rfl) (fun v12 S11 hv12 => ?_)
        refine r_aload_n C 2 dL_law_354 rfl ?_
        refine r_callV (As := []) (rest := [.int v12]) C (c_X9_mountain _ E n h2 th2) dL_law_355 ml_L_27 mv_X9_mountain ⟨TX9, _, rfl⟩ (by decide) th2 rfl rfl ⟨by decide, by decide⟩ (Nat.le_of_ble_eq_true rfl) (fun v14 S13 hv14 => ?_)
        refine r_icmp_eq C 2258 dL_law_358 (by decide) ?_ ?_
        · refine r_iinc C 3 (fun y15 => [(3, .int y15), (0, .ref b), (1, .ref h1), (2, .ref h2)]) dL_law_2258 rfl (v := (6 : Int32)) (by decide) (by decide) (fun _ => rfl) (fun y15 => ?_)
          refine r_goto C 18 dL_law_2261 (by decide) ?_
          refine r_sub [1, 2, 3, 0] [(0, .ref b), (1, .ref h1), (2, .ref h2), (3, .int y15)] rfl ?_
          exact ih S13 h1 h2 y15 th1 th2
        · refine r_iconst C (0 : Int32) dL_law_361 (by decide) ?_
          exact r_lawF C X dL_law_362
      refine r_ite (fun hs3 => ?_) (fun hs3 => ?_)
      · refine r_swIn C 3 363 dL_law_33 (by rw [hs3]; rfl) (by decide) (by decide) rfl (by decide) ?_
        refine r_aload_n C 1 dL_law_363 rfl ?_
        refine r_aload_n C 0 dL_law_364 rfl ?_
        refine r_iload_n C 3 dL_law_365 rfl ?_
        refine r_iconst C (1 : Int32) dL_law_366 (by decide) ?_
        refine r_iadd C dL_law_367 ?_
        refine r_sld C X dL_law_368 ?_
        refine r_callV (As := [.int (xs (x3 + (1 : Int32)).toNatClampNeg)]) (rest := []) C (c_X8_fault _ E n h1 (xs (x3 + (1 : Int32)).toNatClampNeg) th1) dL_law_369 ml_L_28 mv_X8_fault ⟨TX8, _, rfl⟩ (by decide) th1 rfl rfl ⟨by decide, by decide⟩ (Nat.le_of_ble_eq_true rfl) (fun v17 S16 hv17 => ?_)
        refine r_aload_n C 2 dL_law_372 rfl ?_
        refine r_aload_n C 0 dL_law_373 rfl ?_
        refine r_iload_n C 3 dL_law_374 rfl ?_
        refine r_iconst C (1 : Int32) dL_law_375 (by decide) ?_
        refine r_iadd C dL_law_376 ?_
        refine r_sld C X dL_law_377 ?_
        refine r_callV (As := [.int (xs (x3 + (1 : Int32)).toNatClampNeg)]) (rest := [.int v17]) C (c_X9_fault _ E n h2 (xs (x3 + (1 : Int32)).toNatClampNeg) th2) dL_law_378 ml_L_31 mv_X9_fault ⟨TX9, _, rfl⟩ (by decide) th2 rfl rfl ⟨by decide, by decide⟩ (Nat.le_of_ble_eq_true rfl) (fun v19 S18 hv19 => ?_)
        refine r_icmp_eq C 2258 dL_law_381 (by decide) ?_ ?_
        · refine r_iinc C 3 (fun y20 => [(3, .int y20), (0, .ref b), (1, .ref h1), (2, .ref h2)]) dL_law_2258 rfl (v := (6 : Int32)) (by decide) (by decide) (fun _ => rfl) (fun y20 => ?_)
          refine r_goto C 18 dL_law_2261 (by decide) ?_
          refine r_sub [1, 2, 3, 0] [(0, .ref b), (1, .ref h1), (2, .ref h2), (3, .int y20)] rfl ?_
          exact ih S18 h1 h2 y20 th1 th2
        · refine r_iconst C (0 : Int32) dL_law_384 (by decide) ?_
          exact r_lawF C X dL_law_385
      refine r_ite (fun hs4 => ?_) (fun hs4 => ?_)
      · refine r_swIn C 4 386 dL_law_33 (by rw [hs4]; rfl) (by decide) (by decide) rfl (by decide) ?_
        refine r_aload_n C 1 dL_law_386 rfl ?_
        refine r_aload_n C 0 dL_law_387 rfl ?_
        refine r_iload_n C 3 dL_law_388 rfl ?_
        refine r_iconst C (1 : Int32) dL_law_389 (by decide) ?_
        refine r_iadd C dL_law_390 ?_
        refine r_sld C X dL_law_391 ?_
        refine r_aload_n C 0 dL_law_392 rfl ?_
        refine r_iload_n C 3 dL_law_393 rfl ?_
        refine r_iconst C (2 : Int32) dL_law_394 (by decide) ?_
        refine r_iadd C dL_law_395 ?_
        refine r_sld C X dL_law_396 ?_
        refine r_callV (As := [.int (xs (x3 + (1 : Int32)).toNatClampNeg), .int (xs (x3 + (2 : Int32)).toNatClampNeg)]) (rest := []) C (c_X8_path _ E n h1 (xs (x3 + (1 : Int32)).toNatClampNeg) (xs (x3 + (2 : Int32)).toNatClampNeg) th1) dL_law_397 ml_L_32 mv_X8_path ⟨TX8, _, rfl⟩ (by decide) th1 rfl rfl ⟨by decide, by decide⟩ (Nat.le_of_ble_eq_true rfl) (fun v22 S21 hv22 => ?_)
        refine r_aload_n C 2 dL_law_400 rfl ?_
        refine r_aload_n C 0 dL_law_401 rfl ?_
        refine r_iload_n C 3 dL_law_402 rfl ?_
        refine r_iconst C (1 : Int32) dL_law_403 (by decide) ?_
        refine r_iadd C dL_law_404 ?_
        refine r_sld C X dL_law_405 ?_
        refine r_aload_n C 0 dL_law_406 rfl ?_
        refine r_iload_n C 3 dL_law_407 rfl ?_
        refine r_iconst C (2 : Int32) dL_law_408 (by decide) ?_
        refine r_iadd C dL_law_409 ?_
        refine r_sld C X dL_law_410 ?_
        refine r_callV (As := [.int (xs (x3 + (1 : Int32)).toNatClampNeg), .int (xs (x3 + (2 : Int32)).toNatClampNeg)]) (rest := [.int v22]) C (c_X9_path _ E n h2 (xs (x3 + (1 : Int32)).toNatClampNeg) (xs (x3 + (2 : Int32)).toNatClampNeg) th2) dL_law_411 ml_L_36 mv_X9_path ⟨TX9, _, rfl⟩ (by decide) th2 rfl rfl ⟨by decide, by decide⟩ (Nat.le_of_ble_eq_true rfl) (fun v24 S23 hv24 => ?_)
        refine r_icmp_eq C 2258 dL_law_414 (by decide) ?_ ?_
        · refine r_iinc C 3 (fun y25 => [(3, .int y25), (0, .ref b), (1, .ref h1), (2, .ref h2)]) dL_law_2258 rfl (v := (6 : Int32)) (by decide) (by decide) (fun _ => rfl) (fun y25 => ?_)
          refine r_goto C 18 dL_law_2261 (by decide) ?_
          refine r_sub [1, 2, 3, 0] [(0, .ref b), (1, .ref h1), (2, .ref h2), (3, .int y25)] rfl ?_
          exact ih S23 h1 h2 y25 th1 th2
        · refine r_iconst C (0 : Int32) dL_law_417 (by decide) ?_
          exact r_lawF C X dL_law_418
      refine r_ite (fun hs5 => ?_) (fun hs5 => ?_)
      · refine r_swIn C 5 419 dL_law_33 (by rw [hs5]; rfl) (by decide) (by decide) rfl (by decide) ?_
        refine r_aload_n C 1 dL_law_419 rfl ?_
        refine r_aload_n C 0 dL_law_420 rfl ?_
        refine r_iload_n C 3 dL_law_421 rfl ?_
        refine r_iconst C (1 : Int32) dL_law_422 (by decide) ?_
        refine r_iadd C dL_law_423 ?_
        refine r_sld C X dL_law_424 ?_
        refine r_aload_n C 0 dL_law_425 rfl ?_
        refine r_iload_n C 3 dL_law_426 rfl ?_
        refine r_iconst C (2 : Int32) dL_law_427 (by decide) ?_
        refine r_iadd C dL_law_428 ?_
        refine r_sld C X dL_law_429 ?_
        refine r_callV (As := [.int (xs (x3 + (1 : Int32)).toNatClampNeg), .int (xs (x3 + (2 : Int32)).toNatClampNeg)]) (rest := []) C (c_X8_court _ E n h1 (xs (x3 + (1 : Int32)).toNatClampNeg) (xs (x3 + (2 : Int32)).toNatClampNeg) th1) dL_law_430 ml_L_37 mv_X8_court ⟨TX8, _, rfl⟩ (by decide) th1 rfl rfl ⟨by decide, by decide⟩ (Nat.le_of_ble_eq_true rfl) (fun v27 S26 hv27 => ?_)
        refine r_aload_n C 2 dL_law_433 rfl ?_
        refine r_aload_n C 0 dL_law_434 rfl ?_
        refine r_iload_n C 3 dL_law_435 rfl ?_
        refine r_iconst C (1 : Int32) dL_law_436 (by decide) ?_
        refine r_iadd C dL_law_437 ?_
        refine r_sld C X dL_law_438 ?_
        refine r_aload_n C 0 dL_law_439 rfl ?_
        refine r_iload_n C 3 dL_law_440 rfl ?_
        refine r_iconst C (2 : Int32) dL_law_441 (by decide) ?_
        refine r_iadd C dL_law_442 ?_
        refine r_sld C X dL_law_443 ?_
        refine r_callV (As := [.int (xs (x3 + (1 : Int32)).toNatClampNeg), .int (xs (x3 + (2 : Int32)).toNatClampNeg)]) (rest := [.int v27]) C (c_X9_court _ E n h2 (xs (x3 + (1 : Int32)).toNatClampNeg) (xs (x3 + (2 : Int32)).toNatClampNeg) th2) dL_law_444 ml_L_40 mv_X9_court ⟨TX9, _, rfl⟩ (by decide) th2 rfl rfl ⟨by decide, by decide⟩ (Nat.le_of_ble_eq_true rfl) (fun v29 S28 hv29 => ?_)
        refine r_icmp_eq C 2258 dL_law_447 (by decide) ?_ ?_
        · refine r_iinc C 3 (fun y30 => [(3, .int y30), (0, .ref b), (1, .ref h1), (2, .ref h2)]) dL_law_2258 rfl (v := (6 : Int32)) (by decide) (by decide) (fun _ => rfl) (fun y30 => ?_)
          refine r_goto C 18 dL_law_2261 (by decide) ?_
          refine r_sub [1, 2, 3, 0] [(0, .ref b), (1, .ref h1), (2, .ref h2), (3, .int y30)] rfl ?_
          exact ih S28 h1 h2 y30 th1 th2
        · refine r_iconst C (0 : Int32) dL_law_450 (by decide) ?_
          exact r_lawF C X dL_law_451
      refine r_ite (fun hs6 => ?_) (fun hs6 => ?_)
      · refine r_swIn C 6 452 dL_law_33 (by rw [hs6]; rfl) (by decide) (by decide) rfl (by decide) ?_
        refine r_aload_n C 1 dL_law_452 rfl ?_
        refine r_aload_n C 0 dL_law_453 rfl ?_
        refine r_iload_n C 3 dL_law_454 rfl ?_
        refine r_iconst C (1 : Int32) dL_law_455 (by decide) ?_
        refine r_iadd C dL_law_456 ?_
        refine r_sld C X dL_law_457 ?_
        refine r_aload_n C 0 dL_law_458 rfl ?_
        refine r_iload_n C 3 dL_law_459 rfl ?_
        refine r_iconst C (2 : Int32) dL_law_460 (by decide) ?_
        refine r_iadd C dL_law_461 ?_
        refine r_sld C X dL_law_462 ?_
        refine r_callV (As := [.int (xs (x3 + (1 : Int32)).toNatClampNeg), .int (xs (x3 + (2 : Int32)).toNatClampNeg)]) (rest := []) C (c_X8_bride _ E n h1 (xs (x3 + (1 : Int32)).toNatClampNeg) (xs (x3 + (2 : Int32)).toNatClampNeg) th1) dL_law_463 ml_L_41 mv_X8_bride ⟨TX8, _, rfl⟩ (by decide) th1 rfl rfl ⟨by decide, by decide⟩ (Nat.le_of_ble_eq_true rfl) (fun v32 S31 hv32 => ?_)
        refine r_aload_n C 2 dL_law_466 rfl ?_
        refine r_aload_n C 0 dL_law_467 rfl ?_
        refine r_iload_n C 3 dL_law_468 rfl ?_
        refine r_iconst C (1 : Int32) dL_law_469 (by decide) ?_
        refine r_iadd C dL_law_470 ?_
        refine r_sld C X dL_law_471 ?_
        refine r_aload_n C 0 dL_law_472 rfl ?_
        refine r_iload_n C 3 dL_law_473 rfl ?_
        refine r_iconst C (2 : Int32) dL_law_474 (by decide) ?_
        refine r_iadd C dL_law_475 ?_
        refine r_sld C X dL_law_476 ?_
        refine r_callV (As := [.int (xs (x3 + (1 : Int32)).toNatClampNeg), .int (xs (x3 + (2 : Int32)).toNatClampNeg)]) (rest := [.int v32]) C (c_X9_bride _ E n h2 (xs (x3 + (1 : Int32)).toNatClampNeg) (xs (x3 + (2 : Int32)).toNatClampNeg) th2) dL_law_477 ml_L_44 mv_X9_bride ⟨TX9, _, rfl⟩ (by decide) th2 rfl rfl ⟨by decide, by decide⟩ (Nat.le_of_ble_eq_true rfl) (fun v34 S33 hv34 => ?_)
        refine r_icmp_eq C 2258 dL_law_480 (by decide) ?_ ?_
        · refine r_iinc C 3 (fun y35 => [(3, .int y35), (0, .ref b), (1, .ref h1), (2, .ref h2)]) dL_law_2258 rfl (v := (6 : Int32)) (by decide) (by decide) (fun _ => rfl) (fun y35 => ?_)
          refine r_goto C 18 dL_law_2261 (by decide) ?_
          refine r_sub [1, 2, 3, 0] [(0, .ref b), (1, .ref h1), (2, .ref h2), (3, .int y35)] rfl ?_
          exact ih S33 h1 h2 y35 th1 th2
        · refine r_iconst C (0 : Int32) dL_law_483 (by decide) ?_
          exact r_lawF C X dL_law_484
      refine r_ite (fun hs7 => ?_) (fun hs7 => ?_)
      · refine r_swIn C 7 485 dL_law_33 (by rw [hs7]; rfl) (by decide) (by decide) rfl (by decide) ?_
        refine r_aload_n C 1 dL_law_485 rfl ?_
        refine r_aload_n C 0 dL_law_486 rfl ?_
        refine r_iload_n C 3 dL_law_487 rfl ?_
        refine r_iconst C (1 : Int32) dL_law_488 (by decide) ?_
        refine r_iadd C dL_law_489 ?_
        refine r_sld C X dL_law_490 ?_
        refine r_aload_n C 0 dL_law_491 rfl ?_
        refine r_iload_n C 3 dL_law_492 rfl ?_
        refine r_iconst C (2 : Int32) dL_law_493 (by decide) ?_
        refine r_iadd C dL_law_494 ?_
        refine r_sld C X dL_law_495 ?_
        refine r_callV (As := [.int (xs (x3 + (1 : Int32)).toNatClampNeg), .int (xs (x3 + (2 : Int32)).toNatClampNeg)]) (rest := []) C (c_X8_suitor _ E n h1 (xs (x3 + (1 : Int32)).toNatClampNeg) (xs (x3 + (2 : Int32)).toNatClampNeg) th1) dL_law_496 ml_L_45 mv_X8_suitor ⟨TX8, _, rfl⟩ (by decide) th1 rfl rfl ⟨by decide, by decide⟩ (Nat.le_of_ble_eq_true rfl) (fun v37 S36 hv37 => ?_)
        refine r_aload_n C 2 dL_law_499 rfl ?_
        refine r_aload_n C 0 dL_law_500 rfl ?_
        refine r_iload_n C 3 dL_law_501 rfl ?_
        refine r_iconst C (1 : Int32) dL_law_502 (by decide) ?_
        refine r_iadd C dL_law_503 ?_
        refine r_sld C X dL_law_504 ?_
        refine r_aload_n C 0 dL_law_505 rfl ?_
        refine r_iload_n C 3 dL_law_506 rfl ?_
        refine r_iconst C (2 : Int32) dL_law_507 (by decide) ?_
        refine r_iadd C dL_law_508 ?_
        refine r_sld C X dL_law_509 ?_
        refine r_callV (As := [.int (xs (x3 + (1 : Int32)).toNatClampNeg), .int (xs (x3 + (2 : Int32)).toNatClampNeg)]) (rest := [.int v37]) C (c_X9_suitor _ E n h2 (xs (x3 + (1 : Int32)).toNatClampNeg) (xs (x3 + (2 : Int32)).toNatClampNeg) th2) dL_law_510 ml_L_48 mv_X9_suitor ⟨TX9, _, rfl⟩ (by decide) th2 rfl rfl ⟨by decide, by decide⟩ (Nat.le_of_ble_eq_true rfl) (fun v39 S38 hv39 => ?_)
        refine r_icmp_eq C 2258 dL_law_513 (by decide) ?_ ?_
        · refine r_iinc C 3 (fun y40 => [(3, .int y40), (0, .ref b), (1, .ref h1), (2, .ref h2)]) dL_law_2258 rfl (v := (6 : Int32)) (by decide) (by decide) (fun _ => rfl) (fun y40 => ?_)
          refine r_goto C 18 dL_law_2261 (by decide) ?_
          refine r_sub [1, 2, 3, 0] [(0, .ref b), (1, .ref h1), (2, .ref h2), (3, .int y40)] rfl ?_
          exact ih S38 h1 h2 y40 th1 th2
        · refine r_iconst C (0 : Int32) dL_law_516 (by decide) ?_
          exact r_lawF C X dL_law_517
      refine r_ite (fun hs8 => ?_) (fun hs8 => ?_)
      · refine r_swIn C 8 518 dL_law_33 (by rw [hs8]; rfl) (by decide) (by decide) rfl (by decide) ?_
        refine r_aload_n C 1 dL_law_518 rfl ?_
        refine r_callV (As := []) (rest := []) C (c_X8_hearts _ E n h1 th1) dL_law_519 ml_L_49 mv_X8_hearts ⟨TX8, _, rfl⟩ (by decide) th1 rfl rfl ⟨by decide, by decide⟩ (Nat.le_of_ble_eq_true rfl) (fun v42 S41 hv42 => ?_)
        refine r_aload_n C 2 dL_law_522 rfl ?_
        refine r_callV (As := []) (rest := [.int v42]) C (c_X9_hearts _ E n h2 th2) dL_law_523 ml_L_52 mv_X9_hearts ⟨TX9, _, rfl⟩ (by decide) th2 rfl rfl ⟨by decide, by decide⟩ (Nat.le_of_ble_eq_true rfl) (fun v44 S43 hv44 => ?_)
        refine r_icmp_eq C 2258 dL_law_526 (by decide) ?_ ?_
        · refine r_iinc C 3 (fun y45 => [(3, .int y45), (0, .ref b), (1, .ref h1), (2, .ref h2)]) dL_law_2258 rfl (v := (6 : Int32)) (by decide) (by decide) (fun _ => rfl) (fun y45 => ?_)
          refine r_goto C 18 dL_law_2261 (by decide) ?_
          refine r_sub [1, 2, 3, 0] [(0, .ref b), (1, .ref h1), (2, .ref h2), (3, .int y45)] rfl ?_
          exact ih S43 h1 h2 y45 th1 th2
        · refine r_iconst C (0 : Int32) dL_law_529 (by decide) ?_
          exact r_lawF C X dL_law_530
      refine r_ite (fun hs9 => ?_) (fun hs9 => ?_)
      · refine r_swIn C 9 531 dL_law_33 (by rw [hs9]; rfl) (by decide) (by decide) rfl (by decide) ?_
        refine r_aload_n C 1 dL_law_531 rfl ?_
        refine r_aload_n C 0 dL_law_532 rfl ?_
        refine r_iload_n C 3 dL_law_533 rfl ?_
        refine r_iconst C (1 : Int32) dL_law_534 (by decide) ?_
        refine r_iadd C dL_law_535 ?_
        refine r_sld C X dL_law_536 ?_
        refine r_aload_n C 0 dL_law_537 rfl ?_
        refine r_iload_n C 3 dL_law_538 rfl ?_
        refine r_iconst C (2 : Int32) dL_law_539 (by decide) ?_
        refine r_iadd C dL_law_540 ?_
        refine r_sld C X dL_law_541 ?_
        refine r_callV (As := [.int (xs (x3 + (1 : Int32)).toNatClampNeg), .int (xs (x3 + (2 : Int32)).toNatClampNeg)]) (rest := []) C (c_X8_steps _ E n h1 (xs (x3 + (1 : Int32)).toNatClampNeg) (xs (x3 + (2 : Int32)).toNatClampNeg) th1) dL_law_542 ml_L_53 mv_X8_steps ⟨TX8, _, rfl⟩ (by decide) th1 rfl rfl ⟨by decide, by decide⟩ (Nat.le_of_ble_eq_true rfl) (fun v47 S46 hv47 => ?_)
        refine r_aload_n C 2 dL_law_545 rfl ?_
        refine r_aload_n C 0 dL_law_546 rfl ?_
        refine r_iload_n C 3 dL_law_547 rfl ?_
        refine r_iconst C (1 : Int32) dL_law_548 (by decide) ?_
        refine r_iadd C dL_law_549 ?_
        refine r_sld C X dL_law_550 ?_
        refine r_aload_n C 0 dL_law_551 rfl ?_
        refine r_iload_n C 3 dL_law_552 rfl ?_
        refine r_iconst C (2 : Int32) dL_law_553 (by decide) ?_
        refine r_iadd C dL_law_554 ?_
        refine r_sld C X dL_law_555 ?_
        refine r_callV (As := [.int (xs (x3 + (1 : Int32)).toNatClampNeg), .int (xs (x3 + (2 : Int32)).toNatClampNeg)]) (rest := [.int v47]) C (c_X9_steps _ E n h2 (xs (x3 + (1 : Int32)).toNatClampNeg) (xs (x3 + (2 : Int32)).toNatClampNeg) th2) dL_law_556 ml_L_56 mv_X9_steps ⟨TX9, _, rfl⟩ (by decide) th2 rfl rfl ⟨by decide, by decide⟩ (Nat.le_of_ble_eq_true rfl) (fun v49 S48 hv49 => ?_)
        refine r_icmp_eq C 2258 dL_law_559 (by decide) ?_ ?_
        · refine r_iinc C 3 (fun y50 => [(3, .int y50), (0, .ref b), (1, .ref h1), (2, .ref h2)]) dL_law_2258 rfl (v := (6 : Int32)) (by decide) (by decide) (fun _ => rfl) (fun y50 => ?_)
          refine r_goto C 18 dL_law_2261 (by decide) ?_
          refine r_sub [1, 2, 3, 0] [(0, .ref b), (1, .ref h1), (2, .ref h2), (3, .int y50)] rfl ?_
          exact ih S48 h1 h2 y50 th1 th2
        · refine r_iconst C (0 : Int32) dL_law_562 (by decide) ?_
          exact r_lawF C X dL_law_563
      refine r_ite (fun hs10 => ?_) (fun hs10 => ?_)
      · refine r_swIn C 10 564 dL_law_33 (by rw [hs10]; rfl) (by decide) (by decide) rfl (by decide) ?_
        refine r_aload_n C 1 dL_law_564 rfl ?_
        refine r_aload_n C 0 dL_law_565 rfl ?_
        refine r_iload_n C 3 dL_law_566 rfl ?_
        refine r_iconst C (1 : Int32) dL_law_567 (by decide) ?_
        refine r_iadd C dL_law_568 ?_
        refine r_sld C X dL_law_569 ?_
        refine r_aload_n C 0 dL_law_570 rfl ?_
        refine r_iload_n C 3 dL_law_571 rfl ?_
        refine r_iconst C (2 : Int32) dL_law_572 (by decide) ?_
        refine r_iadd C dL_law_573 ?_
        refine r_sld C X dL_law_574 ?_
        refine r_aload_n C 0 dL_law_575 rfl ?_
        refine r_iload_n C 3 dL_law_576 rfl ?_
        refine r_iconst C (3 : Int32) dL_law_577 (by decide) ?_
        refine r_iadd C dL_law_578 ?_
        refine r_sld C X dL_law_579 ?_
        refine r_callV (As := [.int (xs (x3 + (1 : Int32)).toNatClampNeg), .int (xs (x3 + (2 : Int32)).toNatClampNeg), .int (xs (x3 + (3 : Int32)).toNatClampNeg)]) (rest := []) C (c_X8_whose _ E n h1 (xs (x3 + (1 : Int32)).toNatClampNeg) (xs (x3 + (2 : Int32)).toNatClampNeg) (xs (x3 + (3 : Int32)).toNatClampNeg) th1) dL_law_580 ml_L_57 mv_X8_whose ⟨TX8, _, rfl⟩ (by decide) th1 rfl rfl ⟨by decide, by decide⟩ (Nat.le_of_ble_eq_true rfl) (fun v52 S51 hv52 => ?_)
        refine r_aload_n C 2 dL_law_583 rfl ?_
        refine r_aload_n C 0 dL_law_584 rfl ?_
        refine r_iload_n C 3 dL_law_585 rfl ?_
        refine r_iconst C (1 : Int32) dL_law_586 (by decide) ?_
        refine r_iadd C dL_law_587 ?_
        refine r_sld C X dL_law_588 ?_
        refine r_aload_n C 0 dL_law_589 rfl ?_
        refine r_iload_n C 3 dL_law_590 rfl ?_
        refine r_iconst C (2 : Int32) dL_law_591 (by decide) ?_
        refine r_iadd C dL_law_592 ?_
        refine r_sld C X dL_law_593 ?_
        refine r_aload_n C 0 dL_law_594 rfl ?_
        refine r_iload_n C 3 dL_law_595 rfl ?_
        refine r_iconst C (3 : Int32) dL_law_596 (by decide) ?_
        refine r_iadd C dL_law_597 ?_
        refine r_sld C X dL_law_598 ?_
        refine r_callV (As := [.int (xs (x3 + (1 : Int32)).toNatClampNeg), .int (xs (x3 + (2 : Int32)).toNatClampNeg), .int (xs (x3 + (3 : Int32)).toNatClampNeg)]) (rest := [.int v52]) C (c_X9_whose _ E n h2 (xs (x3 + (1 : Int32)).toNatClampNeg) (xs (x3 + (2 : Int32)).toNatClampNeg) (xs (x3 + (3 : Int32)).toNatClampNeg) th2) dL_law_599 ml_L_61 mv_X9_whose ⟨TX9, _, rfl⟩ (by decide) th2 rfl rfl ⟨by decide, by decide⟩ (Nat.le_of_ble_eq_true rfl) (fun v54 S53 hv54 => ?_)
        refine r_icmp_eq C 2258 dL_law_602 (by decide) ?_ ?_
        · refine r_iinc C 3 (fun y55 => [(3, .int y55), (0, .ref b), (1, .ref h1), (2, .ref h2)]) dL_law_2258 rfl (v := (6 : Int32)) (by decide) (by decide) (fun _ => rfl) (fun y55 => ?_)
          refine r_goto C 18 dL_law_2261 (by decide) ?_
          refine r_sub [1, 2, 3, 0] [(0, .ref b), (1, .ref h1), (2, .ref h2), (3, .int y55)] rfl ?_
          exact ih S53 h1 h2 y55 th1 th2
        · refine r_iconst C (0 : Int32) dL_law_605 (by decide) ?_
          exact r_lawF C X dL_law_606
      refine r_ite (fun hs11 => ?_) (fun hs11 => ?_)
      · refine r_swIn C 11 607 dL_law_33 (by rw [hs11]; rfl) (by decide) (by decide) rfl (by decide) ?_
        refine r_aload_n C 1 dL_law_607 rfl ?_
        refine r_aload_n C 0 dL_law_608 rfl ?_
        refine r_iload_n C 3 dL_law_609 rfl ?_
        refine r_iconst C (1 : Int32) dL_law_610 (by decide) ?_
        refine r_iadd C dL_law_611 ?_
        refine r_sld C X dL_law_612 ?_
        refine r_aload_n C 0 dL_law_613 rfl ?_
        refine r_iload_n C 3 dL_law_614 rfl ?_
        refine r_iconst C (2 : Int32) dL_law_615 (by decide) ?_
        refine r_iadd C dL_law_616 ?_
        refine r_sld C X dL_law_617 ?_
        refine r_callV (As := [.int (xs (x3 + (1 : Int32)).toNatClampNeg), .int (xs (x3 + (2 : Int32)).toNatClampNeg)]) (rest := []) C (c_X8_leap _ E n h1 (xs (x3 + (1 : Int32)).toNatClampNeg) (xs (x3 + (2 : Int32)).toNatClampNeg) th1) dL_law_618 ml_L_62 mv_X8_leap ⟨TX8, _, rfl⟩ (by decide) th1 rfl rfl ⟨by decide, by decide⟩ (Nat.le_of_ble_eq_true rfl) (fun v57 S56 hv57 => ?_)
        refine r_aload_n C 2 dL_law_621 rfl ?_
        refine r_aload_n C 0 dL_law_622 rfl ?_
        refine r_iload_n C 3 dL_law_623 rfl ?_
        refine r_iconst C (1 : Int32) dL_law_624 (by decide) ?_
        refine r_iadd C dL_law_625 ?_
        refine r_sld C X dL_law_626 ?_
        refine r_aload_n C 0 dL_law_627 rfl ?_
        refine r_iload_n C 3 dL_law_628 rfl ?_
        refine r_iconst C (2 : Int32) dL_law_629 (by decide) ?_
        refine r_iadd C dL_law_630 ?_
        refine r_sld C X dL_law_631 ?_
        refine r_callV (As := [.int (xs (x3 + (1 : Int32)).toNatClampNeg), .int (xs (x3 + (2 : Int32)).toNatClampNeg)]) (rest := [.int v57]) C (c_X9_leap _ E n h2 (xs (x3 + (1 : Int32)).toNatClampNeg) (xs (x3 + (2 : Int32)).toNatClampNeg) th2) dL_law_632 ml_L_65 mv_X9_leap ⟨TX9, _, rfl⟩ (by decide) th2 rfl rfl ⟨by decide, by decide⟩ (Nat.le_of_ble_eq_true rfl) (fun v59 S58 hv59 => ?_)
        refine r_icmp_eq C 2258 dL_law_635 (by decide) ?_ ?_
        · refine r_iinc C 3 (fun y60 => [(3, .int y60), (0, .ref b), (1, .ref h1), (2, .ref h2)]) dL_law_2258 rfl (v := (6 : Int32)) (by decide) (by decide) (fun _ => rfl) (fun y60 => ?_)
          refine r_goto C 18 dL_law_2261 (by decide) ?_
          refine r_sub [1, 2, 3, 0] [(0, .ref b), (1, .ref h1), (2, .ref h2), (3, .int y60)] rfl ?_
          exact ih S58 h1 h2 y60 th1 th2
        · refine r_iconst C (0 : Int32) dL_law_638 (by decide) ?_
          exact r_lawF C X dL_law_639
      refine r_ite (fun hs12 => ?_) (fun hs12 => ?_)
      · refine r_swIn C 12 640 dL_law_33 (by rw [hs12]; rfl) (by decide) (by decide) rfl (by decide) ?_
        refine r_aload_n C 1 dL_law_640 rfl ?_
        refine r_aload_n C 0 dL_law_641 rfl ?_
        refine r_iload_n C 3 dL_law_642 rfl ?_
        refine r_iconst C (1 : Int32) dL_law_643 (by decide) ?_
        refine r_iadd C dL_law_644 ?_
        refine r_sld C X dL_law_645 ?_
        refine r_callV (As := [.int (xs (x3 + (1 : Int32)).toNatClampNeg)]) (rest := []) C (c_X8_rots _ E n h1 (xs (x3 + (1 : Int32)).toNatClampNeg) th1) dL_law_646 ml_L_66 mv_X8_rots ⟨TX8, _, rfl⟩ (by decide) th1 rfl rfl ⟨by decide, by decide⟩ (Nat.le_of_ble_eq_true rfl) (fun v62 S61 hv62 => ?_)
        refine r_aload_n C 2 dL_law_649 rfl ?_
        refine r_aload_n C 0 dL_law_650 rfl ?_
        refine r_iload_n C 3 dL_law_651 rfl ?_
        refine r_iconst C (1 : Int32) dL_law_652 (by decide) ?_
        refine r_iadd C dL_law_653 ?_
        refine r_sld C X dL_law_654 ?_
        refine r_callV (As := [.int (xs (x3 + (1 : Int32)).toNatClampNeg)]) (rest := [.int v62]) C (c_X9_rots _ E n h2 (xs (x3 + (1 : Int32)).toNatClampNeg) th2) dL_law_655 ml_L_69 mv_X9_rots ⟨TX9, _, rfl⟩ (by decide) th2 rfl rfl ⟨by decide, by decide⟩ (Nat.le_of_ble_eq_true rfl) (fun v64 S63 hv64 => ?_)
        refine r_icmp_eq C 2258 dL_law_658 (by decide) ?_ ?_
        · refine r_iinc C 3 (fun y65 => [(3, .int y65), (0, .ref b), (1, .ref h1), (2, .ref h2)]) dL_law_2258 rfl (v := (6 : Int32)) (by decide) (by decide) (fun _ => rfl) (fun y65 => ?_)
          refine r_goto C 18 dL_law_2261 (by decide) ?_
          refine r_sub [1, 2, 3, 0] [(0, .ref b), (1, .ref h1), (2, .ref h2), (3, .int y65)] rfl ?_
          exact ih S63 h1 h2 y65 th1 th2
        · refine r_iconst C (0 : Int32) dL_law_661 (by decide) ?_
          exact r_lawF C X dL_law_662
      refine r_ite (fun hs13 => ?_) (fun hs13 => ?_)
      · refine r_swIn C 13 663 dL_law_33 (by rw [hs13]; rfl) (by decide) (by decide) rfl (by decide) ?_
        refine r_aload_n C 1 dL_law_663 rfl ?_
        refine r_aload_n C 0 dL_law_664 rfl ?_
        refine r_iload_n C 3 dL_law_665 rfl ?_
        refine r_iconst C (1 : Int32) dL_law_666 (by decide) ?_
        refine r_iadd C dL_law_667 ?_
        refine r_sld C X dL_law_668 ?_
        refine r_aload_n C 0 dL_law_669 rfl ?_
        refine r_iload_n C 3 dL_law_670 rfl ?_
        refine r_iconst C (2 : Int32) dL_law_671 (by decide) ?_
        refine r_iadd C dL_law_672 ?_
        refine r_sld C X dL_law_673 ?_
        refine r_aload_n C 0 dL_law_674 rfl ?_
        refine r_iload_n C 3 dL_law_675 rfl ?_
        refine r_iconst C (3 : Int32) dL_law_676 (by decide) ?_
        refine r_iadd C dL_law_677 ?_
        refine r_sld C X dL_law_678 ?_
        refine r_callV (As := [.int (xs (x3 + (1 : Int32)).toNatClampNeg), .int (xs (x3 + (2 : Int32)).toNatClampNeg), .int (xs (x3 + (3 : Int32)).toNatClampNeg)]) (rest := []) C (c_X8_lacks _ E n h1 (xs (x3 + (1 : Int32)).toNatClampNeg) (xs (x3 + (2 : Int32)).toNatClampNeg) (xs (x3 + (3 : Int32)).toNatClampNeg) th1) dL_law_679 ml_L_70 mv_X8_lacks ⟨TX8, _, rfl⟩ (by decide) th1 rfl rfl ⟨by decide, by decide⟩ (Nat.le_of_ble_eq_true rfl) (fun v67 S66 hv67 => ?_)
        refine r_aload_n C 2 dL_law_682 rfl ?_
        refine r_aload_n C 0 dL_law_683 rfl ?_
        refine r_iload_n C 3 dL_law_684 rfl ?_
        refine r_iconst C (1 : Int32) dL_law_685 (by decide) ?_
        refine r_iadd C dL_law_686 ?_
        refine r_sld C X dL_law_687 ?_
        refine r_aload_n C 0 dL_law_688 rfl ?_
        refine r_iload_n C 3 dL_law_689 rfl ?_
        refine r_iconst C (2 : Int32) dL_law_690 (by decide) ?_
        refine r_iadd C dL_law_691 ?_
        refine r_sld C X dL_law_692 ?_
        refine r_aload_n C 0 dL_law_693 rfl ?_
        refine r_iload_n C 3 dL_law_694 rfl ?_
        refine r_iconst C (3 : Int32) dL_law_695 (by decide) ?_
        refine r_iadd C dL_law_696 ?_
        refine r_sld C X dL_law_697 ?_
        refine r_callV (As := [.int (xs (x3 + (1 : Int32)).toNatClampNeg), .int (xs (x3 + (2 : Int32)).toNatClampNeg), .int (xs (x3 + (3 : Int32)).toNatClampNeg)]) (rest := [.int v67]) C (c_X9_lacks _ E n h2 (xs (x3 + (1 : Int32)).toNatClampNeg) (xs (x3 + (2 : Int32)).toNatClampNeg) (xs (x3 + (3 : Int32)).toNatClampNeg) th2) dL_law_698 ml_L_73 mv_X9_lacks ⟨TX9, _, rfl⟩ (by decide) th2 rfl rfl ⟨by decide, by decide⟩ (Nat.le_of_ble_eq_true rfl) (fun v69 S68 hv69 => ?_)
        refine r_icmp_eq C 2258 dL_law_701 (by decide) ?_ ?_
        · refine r_iinc C 3 (fun y70 => [(3, .int y70), (0, .ref b), (1, .ref h1), (2, .ref h2)]) dL_law_2258 rfl (v := (6 : Int32)) (by decide) (by decide) (fun _ => rfl) (fun y70 => ?_)
          refine r_goto C 18 dL_law_2261 (by decide) ?_
          refine r_sub [1, 2, 3, 0] [(0, .ref b), (1, .ref h1), (2, .ref h2), (3, .int y70)] rfl ?_
          exact ih S68 h1 h2 y70 th1 th2
        · refine r_iconst C (0 : Int32) dL_law_704 (by decide) ?_
          exact r_lawF C X dL_law_705
      refine r_ite (fun hs14 => ?_) (fun hs14 => ?_)
      · refine r_swIn C 14 706 dL_law_33 (by rw [hs14]; rfl) (by decide) (by decide) rfl (by decide) ?_
        refine r_aload_n C 1 dL_law_706 rfl ?_
        refine r_aload_n C 0 dL_law_707 rfl ?_
        refine r_iload_n C 3 dL_law_708 rfl ?_
        refine r_iconst C (1 : Int32) dL_law_709 (by decide) ?_
        refine r_iadd C dL_law_710 ?_
        refine r_sld C X dL_law_711 ?_
        refine r_aload_n C 0 dL_law_712 rfl ?_
        refine r_iload_n C 3 dL_law_713 rfl ?_
        refine r_iconst C (2 : Int32) dL_law_714 (by decide) ?_
        refine r_iadd C dL_law_715 ?_
        refine r_sld C X dL_law_716 ?_
        refine r_aload_n C 0 dL_law_717 rfl ?_
        refine r_iload_n C 3 dL_law_718 rfl ?_
        refine r_iconst C (3 : Int32) dL_law_719 (by decide) ?_
        refine r_iadd C dL_law_720 ?_
        refine r_sld C X dL_law_721 ?_
        refine r_callV (As := [.int (xs (x3 + (1 : Int32)).toNatClampNeg), .int (xs (x3 + (2 : Int32)).toNatClampNeg), .int (xs (x3 + (3 : Int32)).toNatClampNeg)]) (rest := []) C (c_X8_safe _ E n h1 (xs (x3 + (1 : Int32)).toNatClampNeg) (xs (x3 + (2 : Int32)).toNatClampNeg) (xs (x3 + (3 : Int32)).toNatClampNeg) th1) dL_law_722 ml_L_74 mv_X8_safe ⟨TX8, _, rfl⟩ (by decide) th1 rfl rfl ⟨by decide, by decide⟩ (Nat.le_of_ble_eq_true rfl) (fun v72 S71 hv72 => ?_)
        refine r_aload_n C 2 dL_law_725 rfl ?_
        refine r_aload_n C 0 dL_law_726 rfl ?_
        refine r_iload_n C 3 dL_law_727 rfl ?_
        refine r_iconst C (1 : Int32) dL_law_728 (by decide) ?_
        refine r_iadd C dL_law_729 ?_
        refine r_sld C X dL_law_730 ?_
        refine r_aload_n C 0 dL_law_731 rfl ?_
        refine r_iload_n C 3 dL_law_732 rfl ?_
        refine r_iconst C (2 : Int32) dL_law_733 (by decide) ?_
        refine r_iadd C dL_law_734 ?_
        refine r_sld C X dL_law_735 ?_
        refine r_aload_n C 0 dL_law_736 rfl ?_
        refine r_iload_n C 3 dL_law_737 rfl ?_
        refine r_iconst C (3 : Int32) dL_law_738 (by decide) ?_
        refine r_iadd C dL_law_739 ?_
        refine r_sld C X dL_law_740 ?_
        refine r_callV (As := [.int (xs (x3 + (1 : Int32)).toNatClampNeg), .int (xs (x3 + (2 : Int32)).toNatClampNeg), .int (xs (x3 + (3 : Int32)).toNatClampNeg)]) (rest := [.long v72]) C (c_X9_safe _ E n h2 (xs (x3 + (1 : Int32)).toNatClampNeg) (xs (x3 + (2 : Int32)).toNatClampNeg) (xs (x3 + (3 : Int32)).toNatClampNeg) th2) dL_law_741 ml_L_78 mv_X9_safe ⟨TX9, _, rfl⟩ (by decide) th2 rfl rfl ⟨by decide, by decide⟩ (Nat.le_of_ble_eq_true rfl) (fun v74 S73 hv74 => ?_)
        refine r_lcmp C dL_law_744 ?_
        refine r_if_eq C 2258 dL_law_745 (by decide) ?_ ?_
        · refine r_iinc C 3 (fun y75 => [(3, .int y75), (0, .ref b), (1, .ref h1), (2, .ref h2)]) dL_law_2258 rfl (v := (6 : Int32)) (by decide) (by decide) (fun _ => rfl) (fun y75 => ?_)
          refine r_goto C 18 dL_law_2261 (by decide) ?_
          refine r_sub [1, 2, 3, 0] [(0, .ref b), (1, .ref h1), (2, .ref h2), (3, .int y75)] rfl ?_
          exact ih S73 h1 h2 y75 th1 th2
        · refine r_iconst C (0 : Int32) dL_law_748 (by decide) ?_
          exact r_lawF C X dL_law_749
      refine r_ite (fun hs15 => ?_) (fun hs15 => ?_)
      · refine r_swIn C 15 750 dL_law_33 (by rw [hs15]; rfl) (by decide) (by decide) rfl (by decide) ?_
        refine r_aload_n C 1 dL_law_750 rfl ?_
        refine r_aload_n C 0 dL_law_751 rfl ?_
        refine r_iload_n C 3 dL_law_752 rfl ?_
        refine r_iconst C (1 : Int32) dL_law_753 (by decide) ?_
        refine r_iadd C dL_law_754 ?_
        refine r_sld C X dL_law_755 ?_
        refine r_aload_n C 0 dL_law_756 rfl ?_
        refine r_iload_n C 3 dL_law_757 rfl ?_
        refine r_iconst C (2 : Int32) dL_law_758 (by decide) ?_
        refine r_iadd C dL_law_759 ?_
        refine r_sld C X dL_law_760 ?_
        refine r_callV (As := [.int (xs (x3 + (1 : Int32)).toNatClampNeg), .int (xs (x3 + (2 : Int32)).toNatClampNeg)]) (rest := []) C (c_X8_reach _ E n h1 (xs (x3 + (1 : Int32)).toNatClampNeg) (xs (x3 + (2 : Int32)).toNatClampNeg) th1) dL_law_761 ml_L_79 mv_X8_reach ⟨TX8, _, rfl⟩ (by decide) th1 rfl rfl ⟨by decide, by decide⟩ (Nat.le_of_ble_eq_true rfl) (fun v77 S76 hv77 => ?_)
        refine r_aload_n C 2 dL_law_764 rfl ?_
        refine r_aload_n C 0 dL_law_765 rfl ?_
        refine r_iload_n C 3 dL_law_766 rfl ?_
        refine r_iconst C (1 : Int32) dL_law_767 (by decide) ?_
        refine r_iadd C dL_law_768 ?_
        refine r_sld C X dL_law_769 ?_
        refine r_aload_n C 0 dL_law_770 rfl ?_
        refine r_iload_n C 3 dL_law_771 rfl ?_
        refine r_iconst C (2 : Int32) dL_law_772 (by decide) ?_
        refine r_iadd C dL_law_773 ?_
        refine r_sld C X dL_law_774 ?_
        refine r_callV (As := [.int (xs (x3 + (1 : Int32)).toNatClampNeg), .int (xs (x3 + (2 : Int32)).toNatClampNeg)]) (rest := [.int v77]) C (c_X9_reach _ E n h2 (xs (x3 + (1 : Int32)).toNatClampNeg) (xs (x3 + (2 : Int32)).toNatClampNeg) th2) dL_law_775 ml_L_82 mv_X9_reach ⟨TX9, _, rfl⟩ (by decide) th2 rfl rfl ⟨by decide, by decide⟩ (Nat.le_of_ble_eq_true rfl) (fun v79 S78 hv79 => ?_)
        refine r_icmp_eq C 2258 dL_law_778 (by decide) ?_ ?_
        · refine r_iinc C 3 (fun y80 => [(3, .int y80), (0, .ref b), (1, .ref h1), (2, .ref h2)]) dL_law_2258 rfl (v := (6 : Int32)) (by decide) (by decide) (fun _ => rfl) (fun y80 => ?_)
          refine r_goto C 18 dL_law_2261 (by decide) ?_
          refine r_sub [1, 2, 3, 0] [(0, .ref b), (1, .ref h1), (2, .ref h2), (3, .int y80)] rfl ?_
          exact ih S78 h1 h2 y80 th1 th2
        · refine r_iconst C (0 : Int32) dL_law_781 (by decide) ?_
          exact r_lawF C X dL_law_782
      refine r_ite (fun hs16 => ?_) (fun hs16 => ?_)
      · refine r_swIn C 16 783 dL_law_33 (by rw [hs16]; rfl) (by decide) (by decide) rfl (by decide) ?_
        refine r_aload_n C 1 dL_law_783 rfl ?_
        refine r_aload_n C 0 dL_law_784 rfl ?_
        refine r_iload_n C 3 dL_law_785 rfl ?_
        refine r_iconst C (1 : Int32) dL_law_786 (by decide) ?_
        refine r_iadd C dL_law_787 ?_
        refine r_sld C X dL_law_788 ?_
        refine r_aload_n C 0 dL_law_789 rfl ?_
        refine r_iload_n C 3 dL_law_790 rfl ?_
        refine r_iconst C (2 : Int32) dL_law_791 (by decide) ?_
        refine r_iadd C dL_law_792 ?_
        refine r_sld C X dL_law_793 ?_
        refine r_aload_n C 0 dL_law_794 rfl ?_
        refine r_iload_n C 3 dL_law_795 rfl ?_
        refine r_iconst C (3 : Int32) dL_law_796 (by decide) ?_
        refine r_iadd C dL_law_797 ?_
        refine r_sld C X dL_law_798 ?_
        refine r_callV (As := [.int (xs (x3 + (1 : Int32)).toNatClampNeg), .int (xs (x3 + (2 : Int32)).toNatClampNeg), .int (xs (x3 + (3 : Int32)).toNatClampNeg)]) (rest := []) C (c_X8_shortest _ E n h1 (xs (x3 + (1 : Int32)).toNatClampNeg) (xs (x3 + (2 : Int32)).toNatClampNeg) (xs (x3 + (3 : Int32)).toNatClampNeg) th1) dL_law_799 ml_L_83 mv_X8_shortest ⟨TX8, _, rfl⟩ (by decide) th1 rfl rfl ⟨by decide, by decide⟩ (Nat.le_of_ble_eq_true rfl) (fun v82 S81 hv82 => ?_)
        refine r_aload_n C 2 dL_law_802 rfl ?_
        refine r_aload_n C 0 dL_law_803 rfl ?_
        refine r_iload_n C 3 dL_law_804 rfl ?_
        refine r_iconst C (1 : Int32) dL_law_805 (by decide) ?_
        refine r_iadd C dL_law_806 ?_
        refine r_sld C X dL_law_807 ?_
        refine r_aload_n C 0 dL_law_808 rfl ?_
        refine r_iload_n C 3 dL_law_809 rfl ?_
        refine r_iconst C (2 : Int32) dL_law_810 (by decide) ?_
        refine r_iadd C dL_law_811 ?_
        refine r_sld C X dL_law_812 ?_
        refine r_aload_n C 0 dL_law_813 rfl ?_
        refine r_iload_n C 3 dL_law_814 rfl ?_
        refine r_iconst C (3 : Int32) dL_law_815 (by decide) ?_
        refine r_iadd C dL_law_816 ?_
        refine r_sld C X dL_law_817 ?_
        refine r_callV (As := [.int (xs (x3 + (1 : Int32)).toNatClampNeg), .int (xs (x3 + (2 : Int32)).toNatClampNeg), .int (xs (x3 + (3 : Int32)).toNatClampNeg)]) (rest := [.int v82]) C (c_X9_shortest _ E n h2 (xs (x3 + (1 : Int32)).toNatClampNeg) (xs (x3 + (2 : Int32)).toNatClampNeg) (xs (x3 + (3 : Int32)).toNatClampNeg) th2) dL_law_818 ml_L_86 mv_X9_shortest ⟨TX9, _, rfl⟩ (by decide) th2 rfl rfl ⟨by decide, by decide⟩ (Nat.le_of_ble_eq_true rfl) (fun v84 S83 hv84 => ?_)
        refine r_icmp_eq C 2258 dL_law_821 (by decide) ?_ ?_
        · refine r_iinc C 3 (fun y85 => [(3, .int y85), (0, .ref b), (1, .ref h1), (2, .ref h2)]) dL_law_2258 rfl (v := (6 : Int32)) (by decide) (by decide) (fun _ => rfl) (fun y85 => ?_)
          refine r_goto C 18 dL_law_2261 (by decide) ?_
          refine r_sub [1, 2, 3, 0] [(0, .ref b), (1, .ref h1), (2, .ref h2), (3, .int y85)] rfl ?_
          exact ih S83 h1 h2 y85 th1 th2
        · refine r_iconst C (0 : Int32) dL_law_824 (by decide) ?_
          exact r_lawF C X dL_law_825
      refine r_ite (fun hs17 => ?_) (fun hs17 => ?_)
      · refine r_swIn C 17 826 dL_law_33 (by rw [hs17]; rfl) (by decide) (by decide) rfl (by decide) ?_
        refine r_aload_n C 1 dL_law_826 rfl ?_
        refine r_aload_n C 0 dL_law_827 rfl ?_
        refine r_iload_n C 3 dL_law_828 rfl ?_
        refine r_iconst C (1 : Int32) dL_law_829 (by decide) ?_
        refine r_iadd C dL_law_830 ?_
        refine r_sld C X dL_law_831 ?_
        refine r_aload_n C 0 dL_law_832 rfl ?_
        refine r_iload_n C 3 dL_law_833 rfl ?_
        refine r_iconst C (2 : Int32) dL_law_834 (by decide) ?_
        refine r_iadd C dL_law_835 ?_
        refine r_sld C X dL_law_836 ?_
        refine r_aload_n C 0 dL_law_837 rfl ?_
        refine r_iload_n C 3 dL_law_838 rfl ?_
        refine r_iconst C (3 : Int32) dL_law_839 (by decide) ?_
        refine r_iadd C dL_law_840 ?_
        refine r_sld C X dL_law_841 ?_
        refine r_aload_n C 0 dL_law_842 rfl ?_
        refine r_iload_n C 3 dL_law_843 rfl ?_
        refine r_iconst C (4 : Int32) dL_law_844 (by decide) ?_
        refine r_iadd C dL_law_845 ?_
        refine r_sld C X dL_law_846 ?_
        refine r_callV (As := [.int (xs (x3 + (1 : Int32)).toNatClampNeg), .int (xs (x3 + (2 : Int32)).toNatClampNeg), .int (xs (x3 + (3 : Int32)).toNatClampNeg), .int (xs (x3 + (4 : Int32)).toNatClampNeg)]) (rest := []) C (c_X8_goes _ E n h1 (xs (x3 + (1 : Int32)).toNatClampNeg) (xs (x3 + (2 : Int32)).toNatClampNeg) (xs (x3 + (3 : Int32)).toNatClampNeg) (xs (x3 + (4 : Int32)).toNatClampNeg) th1) dL_law_847 ml_L_87 mv_X8_goes ⟨TX8, _, rfl⟩ (by decide) th1 rfl rfl ⟨by decide, by decide⟩ (Nat.le_of_ble_eq_true rfl) (fun v87 S86 hv87 => ?_)
        refine r_aload_n C 2 dL_law_850 rfl ?_
        refine r_aload_n C 0 dL_law_851 rfl ?_
        refine r_iload_n C 3 dL_law_852 rfl ?_
        refine r_iconst C (1 : Int32) dL_law_853 (by decide) ?_
        refine r_iadd C dL_law_854 ?_
        refine r_sld C X dL_law_855 ?_
        refine r_aload_n C 0 dL_law_856 rfl ?_
        refine r_iload_n C 3 dL_law_857 rfl ?_
        refine r_iconst C (2 : Int32) dL_law_858 (by decide) ?_
        refine r_iadd C dL_law_859 ?_
        refine r_sld C X dL_law_860 ?_
        refine r_aload_n C 0 dL_law_861 rfl ?_
        refine r_iload_n C 3 dL_law_862 rfl ?_
        refine r_iconst C (3 : Int32) dL_law_863 (by decide) ?_
        refine r_iadd C dL_law_864 ?_
        refine r_sld C X dL_law_865 ?_
        refine r_aload_n C 0 dL_law_866 rfl ?_
        refine r_iload_n C 3 dL_law_867 rfl ?_
        refine r_iconst C (4 : Int32) dL_law_868 (by decide) ?_
        refine r_iadd C dL_law_869 ?_
        refine r_sld C X dL_law_870 ?_
        refine r_callV (As := [.int (xs (x3 + (1 : Int32)).toNatClampNeg), .int (xs (x3 + (2 : Int32)).toNatClampNeg), .int (xs (x3 + (3 : Int32)).toNatClampNeg), .int (xs (x3 + (4 : Int32)).toNatClampNeg)]) (rest := [.int v87]) C (c_X9_goes _ E n h2 (xs (x3 + (1 : Int32)).toNatClampNeg) (xs (x3 + (2 : Int32)).toNatClampNeg) (xs (x3 + (3 : Int32)).toNatClampNeg) (xs (x3 + (4 : Int32)).toNatClampNeg) th2) dL_law_871 ml_L_91 mv_X9_goes ⟨TX9, _, rfl⟩ (by decide) th2 rfl rfl ⟨by decide, by decide⟩ (Nat.le_of_ble_eq_true rfl) (fun v89 S88 hv89 => ?_)
        refine r_icmp_eq C 2258 dL_law_874 (by decide) ?_ ?_
        · refine r_iinc C 3 (fun y90 => [(3, .int y90), (0, .ref b), (1, .ref h1), (2, .ref h2)]) dL_law_2258 rfl (v := (6 : Int32)) (by decide) (by decide) (fun _ => rfl) (fun y90 => ?_)
          refine r_goto C 18 dL_law_2261 (by decide) ?_
          refine r_sub [1, 2, 3, 0] [(0, .ref b), (1, .ref h1), (2, .ref h2), (3, .int y90)] rfl ?_
          exact ih S88 h1 h2 y90 th1 th2
        · refine r_iconst C (0 : Int32) dL_law_877 (by decide) ?_
          exact r_lawF C X dL_law_878
      refine r_ite (fun hs18 => ?_) (fun hs18 => ?_)
      · refine r_swIn C 18 879 dL_law_33 (by rw [hs18]; rfl) (by decide) (by decide) rfl (by decide) ?_
        refine r_aload_n C 1 dL_law_879 rfl ?_
        refine r_aload_n C 0 dL_law_880 rfl ?_
        refine r_iload_n C 3 dL_law_881 rfl ?_
        refine r_iconst C (1 : Int32) dL_law_882 (by decide) ?_
        refine r_iadd C dL_law_883 ?_
        refine r_sld C X dL_law_884 ?_
        refine r_aload_n C 0 dL_law_885 rfl ?_
        refine r_iload_n C 3 dL_law_886 rfl ?_
        refine r_iconst C (2 : Int32) dL_law_887 (by decide) ?_
        refine r_iadd C dL_law_888 ?_
        refine r_sld C X dL_law_889 ?_
        refine r_aload_n C 0 dL_law_890 rfl ?_
        refine r_iload_n C 3 dL_law_891 rfl ?_
        refine r_iconst C (3 : Int32) dL_law_892 (by decide) ?_
        refine r_iadd C dL_law_893 ?_
        refine r_sld C X dL_law_894 ?_
        refine r_aload_n C 0 dL_law_895 rfl ?_
        refine r_iload_n C 3 dL_law_896 rfl ?_
        refine r_iconst C (4 : Int32) dL_law_897 (by decide) ?_
        refine r_iadd C dL_law_898 ?_
        refine r_sld C X dL_law_899 ?_
        refine r_callV (As := [.int (xs (x3 + (1 : Int32)).toNatClampNeg), .int (xs (x3 + (2 : Int32)).toNatClampNeg), .int (xs (x3 + (3 : Int32)).toNatClampNeg), .int (xs (x3 + (4 : Int32)).toNatClampNeg)]) (rest := []) C (c_X8_safest _ E n h1 (xs (x3 + (1 : Int32)).toNatClampNeg) (xs (x3 + (2 : Int32)).toNatClampNeg) (xs (x3 + (3 : Int32)).toNatClampNeg) (xs (x3 + (4 : Int32)).toNatClampNeg) th1) dL_law_900 ml_L_92 mv_X8_safest ⟨TX8, _, rfl⟩ (by decide) th1 rfl rfl ⟨by decide, by decide⟩ (Nat.le_of_ble_eq_true rfl) (fun v92 S91 hv92 => ?_)
        refine r_aload_n C 2 dL_law_903 rfl ?_
        refine r_aload_n C 0 dL_law_904 rfl ?_
        refine r_iload_n C 3 dL_law_905 rfl ?_
        refine r_iconst C (1 : Int32) dL_law_906 (by decide) ?_
        refine r_iadd C dL_law_907 ?_
        refine r_sld C X dL_law_908 ?_
        refine r_aload_n C 0 dL_law_909 rfl ?_
        refine r_iload_n C 3 dL_law_910 rfl ?_
        refine r_iconst C (2 : Int32) dL_law_911 (by decide) ?_
        refine r_iadd C dL_law_912 ?_
        refine r_sld C X dL_law_913 ?_
        refine r_aload_n C 0 dL_law_914 rfl ?_
        refine r_iload_n C 3 dL_law_915 rfl ?_
        refine r_iconst C (3 : Int32) dL_law_916 (by decide) ?_
        refine r_iadd C dL_law_917 ?_
        refine r_sld C X dL_law_918 ?_
        refine r_aload_n C 0 dL_law_919 rfl ?_
        refine r_iload_n C 3 dL_law_920 rfl ?_
        refine r_iconst C (4 : Int32) dL_law_921 (by decide) ?_
        refine r_iadd C dL_law_922 ?_
        refine r_sld C X dL_law_923 ?_
        refine r_callV (As := [.int (xs (x3 + (1 : Int32)).toNatClampNeg), .int (xs (x3 + (2 : Int32)).toNatClampNeg), .int (xs (x3 + (3 : Int32)).toNatClampNeg), .int (xs (x3 + (4 : Int32)).toNatClampNeg)]) (rest := [.long v92]) C (c_X9_safest _ E n h2 (xs (x3 + (1 : Int32)).toNatClampNeg) (xs (x3 + (2 : Int32)).toNatClampNeg) (xs (x3 + (3 : Int32)).toNatClampNeg) (xs (x3 + (4 : Int32)).toNatClampNeg) th2) dL_law_924 ml_L_96 mv_X9_safest ⟨TX9, _, rfl⟩ (by decide) th2 rfl rfl ⟨by decide, by decide⟩ (Nat.le_of_ble_eq_true rfl) (fun v94 S93 hv94 => ?_)
        refine r_lcmp C dL_law_927 ?_
        refine r_if_eq C 2258 dL_law_928 (by decide) ?_ ?_
        · refine r_iinc C 3 (fun y95 => [(3, .int y95), (0, .ref b), (1, .ref h1), (2, .ref h2)]) dL_law_2258 rfl (v := (6 : Int32)) (by decide) (by decide) (fun _ => rfl) (fun y95 => ?_)
          refine r_goto C 18 dL_law_2261 (by decide) ?_
          refine r_sub [1, 2, 3, 0] [(0, .ref b), (1, .ref h1), (2, .ref h2), (3, .int y95)] rfl ?_
          exact ih S93 h1 h2 y95 th1 th2
        · refine r_iconst C (0 : Int32) dL_law_931 (by decide) ?_
          exact r_lawF C X dL_law_932
      refine r_ite (fun hs19 => ?_) (fun hs19 => ?_)
      · refine r_swIn C 19 933 dL_law_33 (by rw [hs19]; rfl) (by decide) (by decide) rfl (by decide) ?_
        refine r_aload_n C 1 dL_law_933 rfl ?_
        refine r_aload_n C 0 dL_law_934 rfl ?_
        refine r_iload_n C 3 dL_law_935 rfl ?_
        refine r_iconst C (1 : Int32) dL_law_936 (by decide) ?_
        refine r_iadd C dL_law_937 ?_
        refine r_sld C X dL_law_938 ?_
        refine r_aload_n C 0 dL_law_939 rfl ?_
        refine r_iload_n C 3 dL_law_940 rfl ?_
        refine r_iconst C (2 : Int32) dL_law_941 (by decide) ?_
        refine r_iadd C dL_law_942 ?_
        refine r_sld C X dL_law_943 ?_
        refine r_aload_n C 0 dL_law_944 rfl ?_
        refine r_iload_n C 3 dL_law_945 rfl ?_
        refine r_iconst C (3 : Int32) dL_law_946 (by decide) ?_
        refine r_iadd C dL_law_947 ?_
        refine r_sld C X dL_law_948 ?_
        refine r_aload_n C 0 dL_law_949 rfl ?_
        refine r_iload_n C 3 dL_law_950 rfl ?_
        refine r_iconst C (4 : Int32) dL_law_951 (by decide) ?_
        refine r_iadd C dL_law_952 ?_
        refine r_sld C X dL_law_953 ?_
        refine r_callV (As := [.int (xs (x3 + (1 : Int32)).toNatClampNeg), .int (xs (x3 + (2 : Int32)).toNatClampNeg), .int (xs (x3 + (3 : Int32)).toNatClampNeg), .int (xs (x3 + (4 : Int32)).toNatClampNeg)]) (rest := []) C (c_X8_place _ E n h1 (xs (x3 + (1 : Int32)).toNatClampNeg) (xs (x3 + (2 : Int32)).toNatClampNeg) (xs (x3 + (3 : Int32)).toNatClampNeg) (xs (x3 + (4 : Int32)).toNatClampNeg) th1) dL_law_954 ml_L_97 mv_X8_place ⟨TX8, _, rfl⟩ (by decide) th1 rfl rfl ⟨by decide, by decide⟩ (Nat.le_of_ble_eq_true rfl) (fun v97 S96 hv97 => ?_)
        refine r_aload_n C 2 dL_law_957 rfl ?_
        refine r_aload_n C 0 dL_law_958 rfl ?_
        refine r_iload_n C 3 dL_law_959 rfl ?_
        refine r_iconst C (1 : Int32) dL_law_960 (by decide) ?_
        refine r_iadd C dL_law_961 ?_
        refine r_sld C X dL_law_962 ?_
        refine r_aload_n C 0 dL_law_963 rfl ?_
        refine r_iload_n C 3 dL_law_964 rfl ?_
        refine r_iconst C (2 : Int32) dL_law_965 (by decide) ?_
        refine r_iadd C dL_law_966 ?_
        refine r_sld C X dL_law_967 ?_
        refine r_aload_n C 0 dL_law_968 rfl ?_
        refine r_iload_n C 3 dL_law_969 rfl ?_
        refine r_iconst C (3 : Int32) dL_law_970 (by decide) ?_
        refine r_iadd C dL_law_971 ?_
        refine r_sld C X dL_law_972 ?_
        refine r_aload_n C 0 dL_law_973 rfl ?_
        refine r_iload_n C 3 dL_law_974 rfl ?_
        refine r_iconst C (4 : Int32) dL_law_975 (by decide) ?_
        refine r_iadd C dL_law_976 ?_
        refine r_sld C X dL_law_977 ?_
        refine r_callV (As := [.int (xs (x3 + (1 : Int32)).toNatClampNeg), .int (xs (x3 + (2 : Int32)).toNatClampNeg), .int (xs (x3 + (3 : Int32)).toNatClampNeg), .int (xs (x3 + (4 : Int32)).toNatClampNeg)]) (rest := [.int v97]) C (c_X9_place _ E n h2 (xs (x3 + (1 : Int32)).toNatClampNeg) (xs (x3 + (2 : Int32)).toNatClampNeg) (xs (x3 + (3 : Int32)).toNatClampNeg) (xs (x3 + (4 : Int32)).toNatClampNeg) th2) dL_law_978 ml_L_100 mv_X9_place ⟨TX9, _, rfl⟩ (by decide) th2 rfl rfl ⟨by decide, by decide⟩ (Nat.le_of_ble_eq_true rfl) (fun v99 S98 hv99 => ?_)
        refine r_icmp_eq C 2258 dL_law_981 (by decide) ?_ ?_
        · refine r_iinc C 3 (fun y100 => [(3, .int y100), (0, .ref b), (1, .ref h1), (2, .ref h2)]) dL_law_2258 rfl (v := (6 : Int32)) (by decide) (by decide) (fun _ => rfl) (fun y100 => ?_)
          refine r_goto C 18 dL_law_2261 (by decide) ?_
          refine r_sub [1, 2, 3, 0] [(0, .ref b), (1, .ref h1), (2, .ref h2), (3, .int y100)] rfl ?_
          exact ih S98 h1 h2 y100 th1 th2
        · refine r_iconst C (0 : Int32) dL_law_984 (by decide) ?_
          exact r_lawF C X dL_law_985
      refine r_ite (fun hs20 => ?_) (fun hs20 => ?_)
      · refine r_swIn C 20 986 dL_law_33 (by rw [hs20]; rfl) (by decide) (by decide) rfl (by decide) ?_
        refine r_aload_n C 1 dL_law_986 rfl ?_
        refine r_aload_n C 0 dL_law_987 rfl ?_
        refine r_iload_n C 3 dL_law_988 rfl ?_
        refine r_iconst C (1 : Int32) dL_law_989 (by decide) ?_
        refine r_iadd C dL_law_990 ?_
        refine r_sld C X dL_law_991 ?_
        refine r_aload_n C 0 dL_law_992 rfl ?_
        refine r_iload_n C 3 dL_law_993 rfl ?_
        refine r_iconst C (2 : Int32) dL_law_994 (by decide) ?_
        refine r_iadd C dL_law_995 ?_
        refine r_sld C X dL_law_996 ?_
        refine r_aload_n C 0 dL_law_997 rfl ?_
        refine r_iload_n C 3 dL_law_998 rfl ?_
        refine r_iconst C (3 : Int32) dL_law_999 (by decide) ?_
        refine r_iadd C dL_law_1000 ?_
        refine r_sld C X dL_law_1001 ?_
        refine r_callV (As := [.int (xs (x3 + (1 : Int32)).toNatClampNeg), .int (xs (x3 + (2 : Int32)).toNatClampNeg), .int (xs (x3 + (3 : Int32)).toNatClampNeg)]) (rest := []) C (c_X8_ways _ E n h1 (xs (x3 + (1 : Int32)).toNatClampNeg) (xs (x3 + (2 : Int32)).toNatClampNeg) (xs (x3 + (3 : Int32)).toNatClampNeg) th1) dL_law_1002 ml_L_101 mv_X8_ways ⟨TX8, _, rfl⟩ (by decide) th1 rfl rfl ⟨by decide, by decide⟩ (Nat.le_of_ble_eq_true rfl) (fun v102 S101 hv102 => ?_)
        refine r_aload_n C 2 dL_law_1005 rfl ?_
        refine r_aload_n C 0 dL_law_1006 rfl ?_
        refine r_iload_n C 3 dL_law_1007 rfl ?_
        refine r_iconst C (1 : Int32) dL_law_1008 (by decide) ?_
        refine r_iadd C dL_law_1009 ?_
        refine r_sld C X dL_law_1010 ?_
        refine r_aload_n C 0 dL_law_1011 rfl ?_
        refine r_iload_n C 3 dL_law_1012 rfl ?_
        refine r_iconst C (2 : Int32) dL_law_1013 (by decide) ?_
        refine r_iadd C dL_law_1014 ?_
        refine r_sld C X dL_law_1015 ?_
        refine r_aload_n C 0 dL_law_1016 rfl ?_
        refine r_iload_n C 3 dL_law_1017 rfl ?_
        refine r_iconst C (3 : Int32) dL_law_1018 (by decide) ?_
        refine r_iadd C dL_law_1019 ?_
        refine r_sld C X dL_law_1020 ?_
        refine r_callV (As := [.int (xs (x3 + (1 : Int32)).toNatClampNeg), .int (xs (x3 + (2 : Int32)).toNatClampNeg), .int (xs (x3 + (3 : Int32)).toNatClampNeg)]) (rest := [.int v102]) C (c_X9_ways _ E n h2 (xs (x3 + (1 : Int32)).toNatClampNeg) (xs (x3 + (2 : Int32)).toNatClampNeg) (xs (x3 + (3 : Int32)).toNatClampNeg) th2) dL_law_1021 ml_L_104 mv_X9_ways ⟨TX9, _, rfl⟩ (by decide) th2 rfl rfl ⟨by decide, by decide⟩ (Nat.le_of_ble_eq_true rfl) (fun v104 S103 hv104 => ?_)
        refine r_icmp_eq C 2258 dL_law_1024 (by decide) ?_ ?_
        · refine r_iinc C 3 (fun y105 => [(3, .int y105), (0, .ref b), (1, .ref h1), (2, .ref h2)]) dL_law_2258 rfl (v := (6 : Int32)) (by decide) (by decide) (fun _ => rfl) (fun y105 => ?_)
          refine r_goto C 18 dL_law_2261 (by decide) ?_
          refine r_sub [1, 2, 3, 0] [(0, .ref b), (1, .ref h1), (2, .ref h2), (3, .int y105)] rfl ?_
          exact ih S103 h1 h2 y105 th1 th2
        · refine r_iconst C (0 : Int32) dL_law_1027 (by decide) ?_
          exact r_lawF C X dL_law_1028
      refine r_ite (fun hs21 => ?_) (fun hs21 => ?_)
      · refine r_swIn C 21 1029 dL_law_33 (by rw [hs21]; rfl) (by decide) (by decide) rfl (by decide) ?_
        refine r_aload_n C 1 dL_law_1029 rfl ?_
        refine r_aload_n C 0 dL_law_1030 rfl ?_
        refine r_iload_n C 3 dL_law_1031 rfl ?_
        refine r_iconst C (1 : Int32) dL_law_1032 (by decide) ?_
        refine r_iadd C dL_law_1033 ?_
        refine r_sld C X dL_law_1034 ?_
        refine r_aload_n C 0 dL_law_1035 rfl ?_
        refine r_iload_n C 3 dL_law_1036 rfl ?_
        refine r_iconst C (2 : Int32) dL_law_1037 (by decide) ?_
        refine r_iadd C dL_law_1038 ?_
        refine r_sld C X dL_law_1039 ?_
        refine r_aload_n C 0 dL_law_1040 rfl ?_
        refine r_iload_n C 3 dL_law_1041 rfl ?_
        refine r_iconst C (3 : Int32) dL_law_1042 (by decide) ?_
        refine r_iadd C dL_law_1043 ?_
        refine r_sld C X dL_law_1044 ?_
        refine r_callV (As := [.int (xs (x3 + (1 : Int32)).toNatClampNeg), .int (xs (x3 + (2 : Int32)).toNatClampNeg), .int (xs (x3 + (3 : Int32)).toNatClampNeg)]) (rest := []) C (c_X8_when _ E n h1 (xs (x3 + (1 : Int32)).toNatClampNeg) (xs (x3 + (2 : Int32)).toNatClampNeg) (xs (x3 + (3 : Int32)).toNatClampNeg) th1) dL_law_1045 ml_L_105 mv_X8_when ⟨TX8, _, rfl⟩ (by decide) th1 rfl rfl ⟨by decide, by decide⟩ (Nat.le_of_ble_eq_true rfl) (fun v107 S106 hv107 => ?_)
        refine r_aload_n C 2 dL_law_1048 rfl ?_
        refine r_aload_n C 0 dL_law_1049 rfl ?_
        refine r_iload_n C 3 dL_law_1050 rfl ?_
        refine r_iconst C (1 : Int32) dL_law_1051 (by decide) ?_
        refine r_iadd C dL_law_1052 ?_
        refine r_sld C X dL_law_1053 ?_
        refine r_aload_n C 0 dL_law_1054 rfl ?_
        refine r_iload_n C 3 dL_law_1055 rfl ?_
        refine r_iconst C (2 : Int32) dL_law_1056 (by decide) ?_
        refine r_iadd C dL_law_1057 ?_
        refine r_sld C X dL_law_1058 ?_
        refine r_aload_n C 0 dL_law_1059 rfl ?_
        refine r_iload_n C 3 dL_law_1060 rfl ?_
        refine r_iconst C (3 : Int32) dL_law_1061 (by decide) ?_
        refine r_iadd C dL_law_1062 ?_
        refine r_sld C X dL_law_1063 ?_
        refine r_callV (As := [.int (xs (x3 + (1 : Int32)).toNatClampNeg), .int (xs (x3 + (2 : Int32)).toNatClampNeg), .int (xs (x3 + (3 : Int32)).toNatClampNeg)]) (rest := [.int v107]) C (c_X9_when _ E n h2 (xs (x3 + (1 : Int32)).toNatClampNeg) (xs (x3 + (2 : Int32)).toNatClampNeg) (xs (x3 + (3 : Int32)).toNatClampNeg) th2) dL_law_1064 ml_L_108 mv_X9_when ⟨TX9, _, rfl⟩ (by decide) th2 rfl rfl ⟨by decide, by decide⟩ (Nat.le_of_ble_eq_true rfl) (fun v109 S108 hv109 => ?_)
        refine r_icmp_eq C 2258 dL_law_1067 (by decide) ?_ ?_
        · refine r_iinc C 3 (fun y110 => [(3, .int y110), (0, .ref b), (1, .ref h1), (2, .ref h2)]) dL_law_2258 rfl (v := (6 : Int32)) (by decide) (by decide) (fun _ => rfl) (fun y110 => ?_)
          refine r_goto C 18 dL_law_2261 (by decide) ?_
          refine r_sub [1, 2, 3, 0] [(0, .ref b), (1, .ref h1), (2, .ref h2), (3, .int y110)] rfl ?_
          exact ih S108 h1 h2 y110 th1 th2
        · refine r_iconst C (0 : Int32) dL_law_1070 (by decide) ?_
          exact r_lawF C X dL_law_1071
      refine r_ite (fun hs22 => ?_) (fun hs22 => ?_)
      · refine r_swIn C 22 1072 dL_law_33 (by rw [hs22]; rfl) (by decide) (by decide) rfl (by decide) ?_
        refine r_aload_n C 1 dL_law_1072 rfl ?_
        refine r_aload_n C 0 dL_law_1073 rfl ?_
        refine r_iload_n C 3 dL_law_1074 rfl ?_
        refine r_iconst C (1 : Int32) dL_law_1075 (by decide) ?_
        refine r_iadd C dL_law_1076 ?_
        refine r_sld C X dL_law_1077 ?_
        refine r_aload_n C 0 dL_law_1078 rfl ?_
        refine r_iload_n C 3 dL_law_1079 rfl ?_
        refine r_iconst C (2 : Int32) dL_law_1080 (by decide) ?_
        refine r_iadd C dL_law_1081 ?_
        refine r_sld C X dL_law_1082 ?_
        refine r_aload_n C 0 dL_law_1083 rfl ?_
        refine r_iload_n C 3 dL_law_1084 rfl ?_
        refine r_iconst C (3 : Int32) dL_law_1085 (by decide) ?_
        refine r_iadd C dL_law_1086 ?_
        refine r_sld C X dL_law_1087 ?_
        refine r_callV (As := [.int (xs (x3 + (1 : Int32)).toNatClampNeg), .int (xs (x3 + (2 : Int32)).toNatClampNeg), .int (xs (x3 + (3 : Int32)).toNatClampNeg)]) (rest := []) C (c_X8_need _ E n h1 (xs (x3 + (1 : Int32)).toNatClampNeg) (xs (x3 + (2 : Int32)).toNatClampNeg) (xs (x3 + (3 : Int32)).toNatClampNeg) th1) dL_law_1088 ml_L_109 mv_X8_need ⟨TX8, _, rfl⟩ (by decide) th1 rfl rfl ⟨by decide, by decide⟩ (Nat.le_of_ble_eq_true rfl) (fun v112 S111 hv112 => ?_)
        refine r_aload_n C 2 dL_law_1091 rfl ?_
        refine r_aload_n C 0 dL_law_1092 rfl ?_
        refine r_iload_n C 3 dL_law_1093 rfl ?_
        refine r_iconst C (1 : Int32) dL_law_1094 (by decide) ?_
        refine r_iadd C dL_law_1095 ?_
        refine r_sld C X dL_law_1096 ?_
        refine r_aload_n C 0 dL_law_1097 rfl ?_
        refine r_iload_n C 3 dL_law_1098 rfl ?_
        refine r_iconst C (2 : Int32) dL_law_1099 (by decide) ?_
        refine r_iadd C dL_law_1100 ?_
        refine r_sld C X dL_law_1101 ?_
        refine r_aload_n C 0 dL_law_1102 rfl ?_
        refine r_iload_n C 3 dL_law_1103 rfl ?_
        refine r_iconst C (3 : Int32) dL_law_1104 (by decide) ?_
        refine r_iadd C dL_law_1105 ?_
        refine r_sld C X dL_law_1106 ?_
        refine r_callV (As := [.int (xs (x3 + (1 : Int32)).toNatClampNeg), .int (xs (x3 + (2 : Int32)).toNatClampNeg), .int (xs (x3 + (3 : Int32)).toNatClampNeg)]) (rest := [.int v112]) C (c_X9_need _ E n h2 (xs (x3 + (1 : Int32)).toNatClampNeg) (xs (x3 + (2 : Int32)).toNatClampNeg) (xs (x3 + (3 : Int32)).toNatClampNeg) th2) dL_law_1107 ml_L_112 mv_X9_need ⟨TX9, _, rfl⟩ (by decide) th2 rfl rfl ⟨by decide, by decide⟩ (Nat.le_of_ble_eq_true rfl) (fun v114 S113 hv114 => ?_)
        refine r_icmp_eq C 2258 dL_law_1110 (by decide) ?_ ?_
        · refine r_iinc C 3 (fun y115 => [(3, .int y115), (0, .ref b), (1, .ref h1), (2, .ref h2)]) dL_law_2258 rfl (v := (6 : Int32)) (by decide) (by decide) (fun _ => rfl) (fun y115 => ?_)
          refine r_goto C 18 dL_law_2261 (by decide) ?_
          refine r_sub [1, 2, 3, 0] [(0, .ref b), (1, .ref h1), (2, .ref h2), (3, .int y115)] rfl ?_
          exact ih S113 h1 h2 y115 th1 th2
        · refine r_iconst C (0 : Int32) dL_law_1113 (by decide) ?_
          exact r_lawF C X dL_law_1114
      refine r_ite (fun hs23 => ?_) (fun hs23 => ?_)
      · refine r_swIn C 23 1115 dL_law_33 (by rw [hs23]; rfl) (by decide) (by decide) rfl (by decide) ?_
        refine r_aload_n C 1 dL_law_1115 rfl ?_
        refine r_aload_n C 0 dL_law_1116 rfl ?_
        refine r_iload_n C 3 dL_law_1117 rfl ?_
        refine r_iconst C (1 : Int32) dL_law_1118 (by decide) ?_
        refine r_iadd C dL_law_1119 ?_
        refine r_sld C X dL_law_1120 ?_
        refine r_aload_n C 0 dL_law_1121 rfl ?_
        refine r_iload_n C 3 dL_law_1122 rfl ?_
        refine r_iconst C (2 : Int32) dL_law_1123 (by decide) ?_
        refine r_iadd C dL_law_1124 ?_
        refine r_sld C X dL_law_1125 ?_
        refine r_aload_n C 0 dL_law_1126 rfl ?_
        refine r_iload_n C 3 dL_law_1127 rfl ?_
        refine r_iconst C (3 : Int32) dL_law_1128 (by decide) ?_
        refine r_iadd C dL_law_1129 ?_
        refine r_sld C X dL_law_1130 ?_
        refine r_callV (As := [.int (xs (x3 + (1 : Int32)).toNatClampNeg), .int (xs (x3 + (2 : Int32)).toNatClampNeg), .int (xs (x3 + (3 : Int32)).toNatClampNeg)]) (rest := []) C (c_X8_fewest _ E n h1 (xs (x3 + (1 : Int32)).toNatClampNeg) (xs (x3 + (2 : Int32)).toNatClampNeg) (xs (x3 + (3 : Int32)).toNatClampNeg) th1) dL_law_1131 ml_L_113 mv_X8_fewest ⟨TX8, _, rfl⟩ (by decide) th1 rfl rfl ⟨by decide, by decide⟩ (Nat.le_of_ble_eq_true rfl) (fun v117 S116 hv117 => ?_)
        refine r_aload_n C 2 dL_law_1134 rfl ?_
        refine r_aload_n C 0 dL_law_1135 rfl ?_
        refine r_iload_n C 3 dL_law_1136 rfl ?_
        refine r_iconst C (1 : Int32) dL_law_1137 (by decide) ?_
        refine r_iadd C dL_law_1138 ?_
        refine r_sld C X dL_law_1139 ?_
        refine r_aload_n C 0 dL_law_1140 rfl ?_
        refine r_iload_n C 3 dL_law_1141 rfl ?_
        refine r_iconst C (2 : Int32) dL_law_1142 (by decide) ?_
        refine r_iadd C dL_law_1143 ?_
        refine r_sld C X dL_law_1144 ?_
        refine r_aload_n C 0 dL_law_1145 rfl ?_
        refine r_iload_n C 3 dL_law_1146 rfl ?_
        refine r_iconst C (3 : Int32) dL_law_1147 (by decide) ?_
        refine r_iadd C dL_law_1148 ?_
        refine r_sld C X dL_law_1149 ?_
        refine r_callV (As := [.int (xs (x3 + (1 : Int32)).toNatClampNeg), .int (xs (x3 + (2 : Int32)).toNatClampNeg), .int (xs (x3 + (3 : Int32)).toNatClampNeg)]) (rest := [.int v117]) C (c_X9_fewest _ E n h2 (xs (x3 + (1 : Int32)).toNatClampNeg) (xs (x3 + (2 : Int32)).toNatClampNeg) (xs (x3 + (3 : Int32)).toNatClampNeg) th2) dL_law_1150 ml_L_116 mv_X9_fewest ⟨TX9, _, rfl⟩ (by decide) th2 rfl rfl ⟨by decide, by decide⟩ (Nat.le_of_ble_eq_true rfl) (fun v119 S118 hv119 => ?_)
        refine r_icmp_eq C 2258 dL_law_1153 (by decide) ?_ ?_
        · refine r_iinc C 3 (fun y120 => [(3, .int y120), (0, .ref b), (1, .ref h1), (2, .ref h2)]) dL_law_2258 rfl (v := (6 : Int32)) (by decide) (by decide) (fun _ => rfl) (fun y120 => ?_)
          refine r_goto C 18 dL_law_2261 (by decide) ?_
          refine r_sub [1, 2, 3, 0] [(0, .ref b), (1, .ref h1), (2, .ref h2), (3, .int y120)] rfl ?_
          exact ih S118 h1 h2 y120 th1 th2
        · refine r_iconst C (0 : Int32) dL_law_1156 (by decide) ?_
          exact r_lawF C X dL_law_1157
      refine r_ite (fun hs24 => ?_) (fun hs24 => ?_)
      · refine r_swIn C 24 1158 dL_law_33 (by rw [hs24]; rfl) (by decide) (by decide) rfl (by decide) ?_
        refine r_aload_n C 1 dL_law_1158 rfl ?_
        refine r_aload_n C 0 dL_law_1159 rfl ?_
        refine r_iload_n C 3 dL_law_1160 rfl ?_
        refine r_iconst C (1 : Int32) dL_law_1161 (by decide) ?_
        refine r_iadd C dL_law_1162 ?_
        refine r_sld C X dL_law_1163 ?_
        refine r_aload_n C 0 dL_law_1164 rfl ?_
        refine r_iload_n C 3 dL_law_1165 rfl ?_
        refine r_iconst C (2 : Int32) dL_law_1166 (by decide) ?_
        refine r_iadd C dL_law_1167 ?_
        refine r_sld C X dL_law_1168 ?_
        refine r_aload_n C 0 dL_law_1169 rfl ?_
        refine r_iload_n C 3 dL_law_1170 rfl ?_
        refine r_iconst C (3 : Int32) dL_law_1171 (by decide) ?_
        refine r_iadd C dL_law_1172 ?_
        refine r_sld C X dL_law_1173 ?_
        refine r_aload_n C 0 dL_law_1174 rfl ?_
        refine r_iload_n C 3 dL_law_1175 rfl ?_
        refine r_iconst C (4 : Int32) dL_law_1176 (by decide) ?_
        refine r_iadd C dL_law_1177 ?_
        refine r_sld C X dL_law_1178 ?_
        refine r_callV (As := [.int (xs (x3 + (1 : Int32)).toNatClampNeg), .int (xs (x3 + (2 : Int32)).toNatClampNeg), .int (xs (x3 + (3 : Int32)).toNatClampNeg), .int (xs (x3 + (4 : Int32)).toNatClampNeg)]) (rest := []) C (c_X8_whom _ E n h1 (xs (x3 + (1 : Int32)).toNatClampNeg) (xs (x3 + (2 : Int32)).toNatClampNeg) (xs (x3 + (3 : Int32)).toNatClampNeg) (xs (x3 + (4 : Int32)).toNatClampNeg) th1) dL_law_1179 ml_L_117 mv_X8_whom ⟨TX8, _, rfl⟩ (by decide) th1 rfl rfl ⟨by decide, by decide⟩ (Nat.le_of_ble_eq_true rfl) (fun v122 S121 hv122 => ?_)
        refine r_aload_n C 2 dL_law_1182 rfl ?_
        refine r_aload_n C 0 dL_law_1183 rfl ?_
        refine r_iload_n C 3 dL_law_1184 rfl ?_
        refine r_iconst C (1 : Int32) dL_law_1185 (by decide) ?_
        refine r_iadd C dL_law_1186 ?_
        refine r_sld C X dL_law_1187 ?_
        refine r_aload_n C 0 dL_law_1188 rfl ?_
        refine r_iload_n C 3 dL_law_1189 rfl ?_
        refine r_iconst C (2 : Int32) dL_law_1190 (by decide) ?_
        refine r_iadd C dL_law_1191 ?_
        refine r_sld C X dL_law_1192 ?_
        refine r_aload_n C 0 dL_law_1193 rfl ?_
        refine r_iload_n C 3 dL_law_1194 rfl ?_
        refine r_iconst C (3 : Int32) dL_law_1195 (by decide) ?_
        refine r_iadd C dL_law_1196 ?_
        refine r_sld C X dL_law_1197 ?_
        refine r_aload_n C 0 dL_law_1198 rfl ?_
        refine r_iload_n C 3 dL_law_1199 rfl ?_
        refine r_iconst C (4 : Int32) dL_law_1200 (by decide) ?_
        refine r_iadd C dL_law_1201 ?_
        refine r_sld C X dL_law_1202 ?_
        refine r_callV (As := [.int (xs (x3 + (1 : Int32)).toNatClampNeg), .int (xs (x3 + (2 : Int32)).toNatClampNeg), .int (xs (x3 + (3 : Int32)).toNatClampNeg), .int (xs (x3 + (4 : Int32)).toNatClampNeg)]) (rest := [.int v122]) C (c_X9_whom _ E n h2 (xs (x3 + (1 : Int32)).toNatClampNeg) (xs (x3 + (2 : Int32)).toNatClampNeg) (xs (x3 + (3 : Int32)).toNatClampNeg) (xs (x3 + (4 : Int32)).toNatClampNeg) th2) dL_law_1203 ml_L_120 mv_X9_whom ⟨TX9, _, rfl⟩ (by decide) th2 rfl rfl ⟨by decide, by decide⟩ (Nat.le_of_ble_eq_true rfl) (fun v124 S123 hv124 => ?_)
        refine r_icmp_eq C 2258 dL_law_1206 (by decide) ?_ ?_
        · refine r_iinc C 3 (fun y125 => [(3, .int y125), (0, .ref b), (1, .ref h1), (2, .ref h2)]) dL_law_2258 rfl (v := (6 : Int32)) (by decide) (by decide) (fun _ => rfl) (fun y125 => ?_)
          refine r_goto C 18 dL_law_2261 (by decide) ?_
          refine r_sub [1, 2, 3, 0] [(0, .ref b), (1, .ref h1), (2, .ref h2), (3, .int y125)] rfl ?_
          exact ih S123 h1 h2 y125 th1 th2
        · refine r_iconst C (0 : Int32) dL_law_1209 (by decide) ?_
          exact r_lawF C X dL_law_1210
      refine r_ite (fun hs25 => ?_) (fun hs25 => ?_)
      · refine r_swIn C 25 1211 dL_law_33 (by rw [hs25]; rfl) (by decide) (by decide) rfl (by decide) ?_
        refine r_aload_n C 1 dL_law_1211 rfl ?_
        refine r_aload_n C 0 dL_law_1212 rfl ?_
        refine r_iload_n C 3 dL_law_1213 rfl ?_
        refine r_iconst C (1 : Int32) dL_law_1214 (by decide) ?_
        refine r_iadd C dL_law_1215 ?_
        refine r_sld C X dL_law_1216 ?_
        refine r_aload_n C 0 dL_law_1217 rfl ?_
        refine r_iload_n C 3 dL_law_1218 rfl ?_
        refine r_iconst C (2 : Int32) dL_law_1219 (by decide) ?_
        refine r_iadd C dL_law_1220 ?_
        refine r_sld C X dL_law_1221 ?_
        refine r_callV (As := [.int (xs (x3 + (1 : Int32)).toNatClampNeg), .int (xs (x3 + (2 : Int32)).toNatClampNeg)]) (rest := []) C (c_X8_all _ E n h1 (xs (x3 + (1 : Int32)).toNatClampNeg) (xs (x3 + (2 : Int32)).toNatClampNeg) th1) dL_law_1222 ml_L_121 mv_X8_all ⟨TX8, _, rfl⟩ (by decide) th1 rfl rfl ⟨by decide, by decide⟩ (Nat.le_of_ble_eq_true rfl) (fun v127 S126 hv127 => ?_)
        refine r_aload_n C 2 dL_law_1225 rfl ?_
        refine r_aload_n C 0 dL_law_1226 rfl ?_
        refine r_iload_n C 3 dL_law_1227 rfl ?_
        refine r_iconst C (1 : Int32) dL_law_1228 (by decide) ?_
        refine r_iadd C dL_law_1229 ?_
        refine r_sld C X dL_law_1230 ?_
        refine r_aload_n C 0 dL_law_1231 rfl ?_
        refine r_iload_n C 3 dL_law_1232 rfl ?_
        refine r_iconst C (2 : Int32) dL_law_1233 (by decide) ?_
        refine r_iadd C dL_law_1234 ?_
        refine r_sld C X dL_law_1235 ?_
        refine r_callV (As := [.int (xs (x3 + (1 : Int32)).toNatClampNeg), .int (xs (x3 + (2 : Int32)).toNatClampNeg)]) (rest := [.int v127]) C (c_X9_all _ E n h2 (xs (x3 + (1 : Int32)).toNatClampNeg) (xs (x3 + (2 : Int32)).toNatClampNeg) th2) dL_law_1236 ml_L_124 mv_X9_all ⟨TX9, _, rfl⟩ (by decide) th2 rfl rfl ⟨by decide, by decide⟩ (Nat.le_of_ble_eq_true rfl) (fun v129 S128 hv129 => ?_)
        refine r_icmp_eq C 2258 dL_law_1239 (by decide) ?_ ?_
        · refine r_iinc C 3 (fun y130 => [(3, .int y130), (0, .ref b), (1, .ref h1), (2, .ref h2)]) dL_law_2258 rfl (v := (6 : Int32)) (by decide) (by decide) (fun _ => rfl) (fun y130 => ?_)
          refine r_goto C 18 dL_law_2261 (by decide) ?_
          refine r_sub [1, 2, 3, 0] [(0, .ref b), (1, .ref h1), (2, .ref h2), (3, .int y130)] rfl ?_
          exact ih S128 h1 h2 y130 th1 th2
        · refine r_iconst C (0 : Int32) dL_law_1242 (by decide) ?_
          exact r_lawF C X dL_law_1243
      refine r_ite (fun hs26 => ?_) (fun hs26 => ?_)
      · refine r_swIn C 26 1244 dL_law_33 (by rw [hs26]; rfl) (by decide) (by decide) rfl (by decide) ?_
        refine r_aload_n C 1 dL_law_1244 rfl ?_
        refine r_aload_n C 0 dL_law_1245 rfl ?_
        refine r_iload_n C 3 dL_law_1246 rfl ?_
        refine r_iconst C (1 : Int32) dL_law_1247 (by decide) ?_
        refine r_iadd C dL_law_1248 ?_
        refine r_sld C X dL_law_1249 ?_
        refine r_aload_n C 0 dL_law_1250 rfl ?_
        refine r_iload_n C 3 dL_law_1251 rfl ?_
        refine r_iconst C (2 : Int32) dL_law_1252 (by decide) ?_
        refine r_iadd C dL_law_1253 ?_
        refine r_sld C X dL_law_1254 ?_
        refine r_aload_n C 0 dL_law_1255 rfl ?_
        refine r_iload_n C 3 dL_law_1256 rfl ?_
        refine r_iconst C (3 : Int32) dL_law_1257 (by decide) ?_
        refine r_iadd C dL_law_1258 ?_
        refine r_sld C X dL_law_1259 ?_
        refine r_callV (As := [.int (xs (x3 + (1 : Int32)).toNatClampNeg), .int (xs (x3 + (2 : Int32)).toNatClampNeg), .int (xs (x3 + (3 : Int32)).toNatClampNeg)]) (rest := []) C (c_X8_courtings _ E n h1 (xs (x3 + (1 : Int32)).toNatClampNeg) (xs (x3 + (2 : Int32)).toNatClampNeg) (xs (x3 + (3 : Int32)).toNatClampNeg) th1) dL_law_1260 ml_L_125 mv_X8_courtings ⟨TX8, _, rfl⟩ (by decide) th1 rfl rfl ⟨by decide, by decide⟩ (Nat.le_of_ble_eq_true rfl) (fun v132 S131 hv132 => ?_)
        refine r_aload_n C 2 dL_law_1263 rfl ?_
        refine r_aload_n C 0 dL_law_1264 rfl ?_
        refine r_iload_n C 3 dL_law_1265 rfl ?_
        refine r_iconst C (1 : Int32) dL_law_1266 (by decide) ?_
        refine r_iadd C dL_law_1267 ?_
        refine r_sld C X dL_law_1268 ?_
        refine r_aload_n C 0 dL_law_1269 rfl ?_
        refine r_iload_n C 3 dL_law_1270 rfl ?_
        refine r_iconst C (2 : Int32) dL_law_1271 (by decide) ?_
        refine r_iadd C dL_law_1272 ?_
        refine r_sld C X dL_law_1273 ?_
        refine r_aload_n C 0 dL_law_1274 rfl ?_
        refine r_iload_n C 3 dL_law_1275 rfl ?_
        refine r_iconst C (3 : Int32) dL_law_1276 (by decide) ?_
        refine r_iadd C dL_law_1277 ?_
        refine r_sld C X dL_law_1278 ?_
        refine r_callV (As := [.int (xs (x3 + (1 : Int32)).toNatClampNeg), .int (xs (x3 + (2 : Int32)).toNatClampNeg), .int (xs (x3 + (3 : Int32)).toNatClampNeg)]) (rest := [.int v132]) C (c_X9_courtings _ E n h2 (xs (x3 + (1 : Int32)).toNatClampNeg) (xs (x3 + (2 : Int32)).toNatClampNeg) (xs (x3 + (3 : Int32)).toNatClampNeg) th2) dL_law_1279 ml_L_128 mv_X9_courtings ⟨TX9, _, rfl⟩ (by decide) th2 rfl rfl ⟨by decide, by decide⟩ (Nat.le_of_ble_eq_true rfl) (fun v134 S133 hv134 => ?_)
        refine r_icmp_eq C 2258 dL_law_1282 (by decide) ?_ ?_
        · refine r_iinc C 3 (fun y135 => [(3, .int y135), (0, .ref b), (1, .ref h1), (2, .ref h2)]) dL_law_2258 rfl (v := (6 : Int32)) (by decide) (by decide) (fun _ => rfl) (fun y135 => ?_)
          refine r_goto C 18 dL_law_2261 (by decide) ?_
          refine r_sub [1, 2, 3, 0] [(0, .ref b), (1, .ref h1), (2, .ref h2), (3, .int y135)] rfl ?_
          exact ih S133 h1 h2 y135 th1 th2
        · refine r_iconst C (0 : Int32) dL_law_1285 (by decide) ?_
          exact r_lawF C X dL_law_1286
      refine r_ite (fun hs27 => ?_) (fun hs27 => ?_)
      · refine r_swIn C 27 1287 dL_law_33 (by rw [hs27]; rfl) (by decide) (by decide) rfl (by decide) ?_
        refine r_aload_n C 1 dL_law_1287 rfl ?_
        refine r_aload_n C 0 dL_law_1288 rfl ?_
        refine r_iload_n C 3 dL_law_1289 rfl ?_
        refine r_iconst C (1 : Int32) dL_law_1290 (by decide) ?_
        refine r_iadd C dL_law_1291 ?_
        refine r_sld C X dL_law_1292 ?_
        refine r_aload_n C 0 dL_law_1293 rfl ?_
        refine r_iload_n C 3 dL_law_1294 rfl ?_
        refine r_iconst C (2 : Int32) dL_law_1295 (by decide) ?_
        refine r_iadd C dL_law_1296 ?_
        refine r_sld C X dL_law_1297 ?_
        refine r_aload_n C 0 dL_law_1298 rfl ?_
        refine r_iload_n C 3 dL_law_1299 rfl ?_
        refine r_iconst C (3 : Int32) dL_law_1300 (by decide) ?_
        refine r_iadd C dL_law_1301 ?_
        refine r_sld C X dL_law_1302 ?_
        refine r_callV (As := [.int (xs (x3 + (1 : Int32)).toNatClampNeg), .int (xs (x3 + (2 : Int32)).toNatClampNeg), .int (xs (x3 + (3 : Int32)).toNatClampNeg)]) (rest := []) C (c_X8_busy _ E n h1 (xs (x3 + (1 : Int32)).toNatClampNeg) (xs (x3 + (2 : Int32)).toNatClampNeg) (xs (x3 + (3 : Int32)).toNatClampNeg) th1) dL_law_1303 ml_L_129 mv_X8_busy ⟨TX8, _, rfl⟩ (by decide) th1 rfl rfl ⟨by decide, by decide⟩ (Nat.le_of_ble_eq_true rfl) (fun v137 S136 hv137 => ?_)
        refine r_aload_n C 2 dL_law_1306 rfl ?_
        refine r_aload_n C 0 dL_law_1307 rfl ?_
        refine r_iload_n C 3 dL_law_1308 rfl ?_
        refine r_iconst C (1 : Int32) dL_law_1309 (by decide) ?_
        refine r_iadd C dL_law_1310 ?_
        refine r_sld C X dL_law_1311 ?_
        refine r_aload_n C 0 dL_law_1312 rfl ?_
        refine r_iload_n C 3 dL_law_1313 rfl ?_
        refine r_iconst C (2 : Int32) dL_law_1314 (by decide) ?_
        refine r_iadd C dL_law_1315 ?_
        refine r_sld C X dL_law_1316 ?_
        refine r_aload_n C 0 dL_law_1317 rfl ?_
        refine r_iload_n C 3 dL_law_1318 rfl ?_
        refine r_iconst C (3 : Int32) dL_law_1319 (by decide) ?_
        refine r_iadd C dL_law_1320 ?_
        refine r_sld C X dL_law_1321 ?_
        refine r_callV (As := [.int (xs (x3 + (1 : Int32)).toNatClampNeg), .int (xs (x3 + (2 : Int32)).toNatClampNeg), .int (xs (x3 + (3 : Int32)).toNatClampNeg)]) (rest := [.int v137]) C (c_X9_busy _ E n h2 (xs (x3 + (1 : Int32)).toNatClampNeg) (xs (x3 + (2 : Int32)).toNatClampNeg) (xs (x3 + (3 : Int32)).toNatClampNeg) th2) dL_law_1322 ml_L_132 mv_X9_busy ⟨TX9, _, rfl⟩ (by decide) th2 rfl rfl ⟨by decide, by decide⟩ (Nat.le_of_ble_eq_true rfl) (fun v139 S138 hv139 => ?_)
        refine r_icmp_eq C 2258 dL_law_1325 (by decide) ?_ ?_
        · refine r_iinc C 3 (fun y140 => [(3, .int y140), (0, .ref b), (1, .ref h1), (2, .ref h2)]) dL_law_2258 rfl (v := (6 : Int32)) (by decide) (by decide) (fun _ => rfl) (fun y140 => ?_)
          refine r_goto C 18 dL_law_2261 (by decide) ?_
          refine r_sub [1, 2, 3, 0] [(0, .ref b), (1, .ref h1), (2, .ref h2), (3, .int y140)] rfl ?_
          exact ih S138 h1 h2 y140 th1 th2
        · refine r_iconst C (0 : Int32) dL_law_1328 (by decide) ?_
          exact r_lawF C X dL_law_1329
      refine r_ite (fun hs28 => ?_) (fun hs28 => ?_)
      · refine r_swIn C 28 1330 dL_law_33 (by rw [hs28]; rfl) (by decide) (by decide) rfl (by decide) ?_
        refine r_aload_n C 1 dL_law_1330 rfl ?_
        refine r_aload_n C 0 dL_law_1331 rfl ?_
        refine r_iload_n C 3 dL_law_1332 rfl ?_
        refine r_iconst C (1 : Int32) dL_law_1333 (by decide) ?_
        refine r_iadd C dL_law_1334 ?_
        refine r_sld C X dL_law_1335 ?_
        refine r_aload_n C 0 dL_law_1336 rfl ?_
        refine r_iload_n C 3 dL_law_1337 rfl ?_
        refine r_iconst C (2 : Int32) dL_law_1338 (by decide) ?_
        refine r_iadd C dL_law_1339 ?_
        refine r_sld C X dL_law_1340 ?_
        refine r_callV (As := [.int (xs (x3 + (1 : Int32)).toNatClampNeg), .int (xs (x3 + (2 : Int32)).toNatClampNeg)]) (rest := []) C (c_X8_most _ E n h1 (xs (x3 + (1 : Int32)).toNatClampNeg) (xs (x3 + (2 : Int32)).toNatClampNeg) th1) dL_law_1341 ml_L_133 mv_X8_most ⟨TX8, _, rfl⟩ (by decide) th1 rfl rfl ⟨by decide, by decide⟩ (Nat.le_of_ble_eq_true rfl) (fun v142 S141 hv142 => ?_)
        refine r_aload_n C 2 dL_law_1344 rfl ?_
        refine r_aload_n C 0 dL_law_1345 rfl ?_
        refine r_iload_n C 3 dL_law_1346 rfl ?_
        refine r_iconst C (1 : Int32) dL_law_1347 (by decide) ?_
        refine r_iadd C dL_law_1348 ?_
        refine r_sld C X dL_law_1349 ?_
        refine r_aload_n C 0 dL_law_1350 rfl ?_
        refine r_iload_n C 3 dL_law_1351 rfl ?_
        refine r_iconst C (2 : Int32) dL_law_1352 (by decide) ?_
        refine r_iadd C dL_law_1353 ?_
        refine r_sld C X dL_law_1354 ?_
        refine r_callV (As := [.int (xs (x3 + (1 : Int32)).toNatClampNeg), .int (xs (x3 + (2 : Int32)).toNatClampNeg)]) (rest := [.int v142]) C (c_X9_most _ E n h2 (xs (x3 + (1 : Int32)).toNatClampNeg) (xs (x3 + (2 : Int32)).toNatClampNeg) th2) dL_law_1355 ml_L_136 mv_X9_most ⟨TX9, _, rfl⟩ (by decide) th2 rfl rfl ⟨by decide, by decide⟩ (Nat.le_of_ble_eq_true rfl) (fun v144 S143 hv144 => ?_)
        refine r_icmp_eq C 2258 dL_law_1358 (by decide) ?_ ?_
        · refine r_iinc C 3 (fun y145 => [(3, .int y145), (0, .ref b), (1, .ref h1), (2, .ref h2)]) dL_law_2258 rfl (v := (6 : Int32)) (by decide) (by decide) (fun _ => rfl) (fun y145 => ?_)
          refine r_goto C 18 dL_law_2261 (by decide) ?_
          refine r_sub [1, 2, 3, 0] [(0, .ref b), (1, .ref h1), (2, .ref h2), (3, .int y145)] rfl ?_
          exact ih S143 h1 h2 y145 th1 th2
        · refine r_iconst C (0 : Int32) dL_law_1361 (by decide) ?_
          exact r_lawF C X dL_law_1362
      refine r_ite (fun hs29 => ?_) (fun hs29 => ?_)
      · refine r_swIn C 29 1363 dL_law_33 (by rw [hs29]; rfl) (by decide) (by decide) rfl (by decide) ?_
        refine r_aload_n C 1 dL_law_1363 rfl ?_
        refine r_aload_n C 0 dL_law_1364 rfl ?_
        refine r_iload_n C 3 dL_law_1365 rfl ?_
        refine r_iconst C (1 : Int32) dL_law_1366 (by decide) ?_
        refine r_iadd C dL_law_1367 ?_
        refine r_sld C X dL_law_1368 ?_
        refine r_aload_n C 0 dL_law_1369 rfl ?_
        refine r_iload_n C 3 dL_law_1370 rfl ?_
        refine r_iconst C (2 : Int32) dL_law_1371 (by decide) ?_
        refine r_iadd C dL_law_1372 ?_
        refine r_sld C X dL_law_1373 ?_
        refine r_callV (As := [.int (xs (x3 + (1 : Int32)).toNatClampNeg), .int (xs (x3 + (2 : Int32)).toNatClampNeg)]) (rest := []) C (c_X8_worst _ E n h1 (xs (x3 + (1 : Int32)).toNatClampNeg) (xs (x3 + (2 : Int32)).toNatClampNeg) th1) dL_law_1374 ml_L_137 mv_X8_worst ⟨TX8, _, rfl⟩ (by decide) th1 rfl rfl ⟨by decide, by decide⟩ (Nat.le_of_ble_eq_true rfl) (fun v147 S146 hv147 => ?_)
        refine r_aload_n C 2 dL_law_1377 rfl ?_
        refine r_aload_n C 0 dL_law_1378 rfl ?_
        refine r_iload_n C 3 dL_law_1379 rfl ?_
        refine r_iconst C (1 : Int32) dL_law_1380 (by decide) ?_
        refine r_iadd C dL_law_1381 ?_
        refine r_sld C X dL_law_1382 ?_
        refine r_aload_n C 0 dL_law_1383 rfl ?_
        refine r_iload_n C 3 dL_law_1384 rfl ?_
        refine r_iconst C (2 : Int32) dL_law_1385 (by decide) ?_
        refine r_iadd C dL_law_1386 ?_
        refine r_sld C X dL_law_1387 ?_
        refine r_callV (As := [.int (xs (x3 + (1 : Int32)).toNatClampNeg), .int (xs (x3 + (2 : Int32)).toNatClampNeg)]) (rest := [.int v147]) C (c_X9_worst _ E n h2 (xs (x3 + (1 : Int32)).toNatClampNeg) (xs (x3 + (2 : Int32)).toNatClampNeg) th2) dL_law_1388 ml_L_140 mv_X9_worst ⟨TX9, _, rfl⟩ (by decide) th2 rfl rfl ⟨by decide, by decide⟩ (Nat.le_of_ble_eq_true rfl) (fun v149 S148 hv149 => ?_)
        refine r_icmp_eq C 2258 dL_law_1391 (by decide) ?_ ?_
        · refine r_iinc C 3 (fun y150 => [(3, .int y150), (0, .ref b), (1, .ref h1), (2, .ref h2)]) dL_law_2258 rfl (v := (6 : Int32)) (by decide) (by decide) (fun _ => rfl) (fun y150 => ?_)
          refine r_goto C 18 dL_law_2261 (by decide) ?_
          refine r_sub [1, 2, 3, 0] [(0, .ref b), (1, .ref h1), (2, .ref h2), (3, .int y150)] rfl ?_
          exact ih S148 h1 h2 y150 th1 th2
        · refine r_iconst C (0 : Int32) dL_law_1394 (by decide) ?_
          exact r_lawF C X dL_law_1395
      refine r_ite (fun hs30 => ?_) (fun hs30 => ?_)
      · refine r_swIn C 30 1396 dL_law_33 (by rw [hs30]; rfl) (by decide) (by decide) rfl (by decide) ?_
        refine r_aload_n C 1 dL_law_1396 rfl ?_
        refine r_aload_n C 0 dL_law_1397 rfl ?_
        refine r_iload_n C 3 dL_law_1398 rfl ?_
        refine r_iconst C (1 : Int32) dL_law_1399 (by decide) ?_
        refine r_iadd C dL_law_1400 ?_
        refine r_sld C X dL_law_1401 ?_
        refine r_callV (As := [.int (xs (x3 + (1 : Int32)).toNatClampNeg)]) (rest := []) C (c_X8_dry _ E n h1 (xs (x3 + (1 : Int32)).toNatClampNeg) th1) dL_law_1402 ml_L_141 mv_X8_dry ⟨TX8, _, rfl⟩ (by decide) th1 rfl rfl ⟨by decide, by decide⟩ (Nat.le_of_ble_eq_true rfl) (fun v152 S151 hv152 => ?_)
        refine r_aload_n C 2 dL_law_1405 rfl ?_
        refine r_aload_n C 0 dL_law_1406 rfl ?_
        refine r_iload_n C 3 dL_law_1407 rfl ?_
        refine r_iconst C (1 : Int32) dL_law_1408 (by decide) ?_
        refine r_iadd C dL_law_1409 ?_
        refine r_sld C X dL_law_1410 ?_
        refine r_callV (As := [.int (xs (x3 + (1 : Int32)).toNatClampNeg)]) (rest := [.int v152]) C (c_X9_dry _ E n h2 (xs (x3 + (1 : Int32)).toNatClampNeg) th2) dL_law_1411 ml_L_144 mv_X9_dry ⟨TX9, _, rfl⟩ (by decide) th2 rfl rfl ⟨by decide, by decide⟩ (Nat.le_of_ble_eq_true rfl) (fun v154 S153 hv154 => ?_)
        refine r_icmp_eq C 2258 dL_law_1414 (by decide) ?_ ?_
        · refine r_iinc C 3 (fun y155 => [(3, .int y155), (0, .ref b), (1, .ref h1), (2, .ref h2)]) dL_law_2258 rfl (v := (6 : Int32)) (by decide) (by decide) (fun _ => rfl) (fun y155 => ?_)
          refine r_goto C 18 dL_law_2261 (by decide) ?_
          refine r_sub [1, 2, 3, 0] [(0, .ref b), (1, .ref h1), (2, .ref h2), (3, .int y155)] rfl ?_
          exact ih S153 h1 h2 y155 th1 th2
        · refine r_iconst C (0 : Int32) dL_law_1417 (by decide) ?_
          exact r_lawF C X dL_law_1418
      refine r_ite (fun hs31 => ?_) (fun hs31 => ?_)
      · refine r_swIn C 31 1419 dL_law_33 (by rw [hs31]; rfl) (by decide) (by decide) rfl (by decide) ?_
        refine r_aload_n C 1 dL_law_1419 rfl ?_
        refine r_aload_n C 0 dL_law_1420 rfl ?_
        refine r_iload_n C 3 dL_law_1421 rfl ?_
        refine r_iconst C (1 : Int32) dL_law_1422 (by decide) ?_
        refine r_iadd C dL_law_1423 ?_
        refine r_sld C X dL_law_1424 ?_
        refine r_aload_n C 0 dL_law_1425 rfl ?_
        refine r_iload_n C 3 dL_law_1426 rfl ?_
        refine r_iconst C (2 : Int32) dL_law_1427 (by decide) ?_
        refine r_iadd C dL_law_1428 ?_
        refine r_sld C X dL_law_1429 ?_
        refine r_aload_n C 0 dL_law_1430 rfl ?_
        refine r_iload_n C 3 dL_law_1431 rfl ?_
        refine r_iconst C (3 : Int32) dL_law_1432 (by decide) ?_
        refine r_iadd C dL_law_1433 ?_
        refine r_sld C X dL_law_1434 ?_
        refine r_aload_n C 0 dL_law_1435 rfl ?_
        refine r_iload_n C 3 dL_law_1436 rfl ?_
        refine r_iconst C (4 : Int32) dL_law_1437 (by decide) ?_
        refine r_iadd C dL_law_1438 ?_
        refine r_sld C X dL_law_1439 ?_
        refine r_callV (As := [.int (xs (x3 + (1 : Int32)).toNatClampNeg), .int (xs (x3 + (2 : Int32)).toNatClampNeg), .int (xs (x3 + (3 : Int32)).toNatClampNeg), .int (xs (x3 + (4 : Int32)).toNatClampNeg)]) (rest := []) C (c_X8_climbs _ E n h1 (xs (x3 + (1 : Int32)).toNatClampNeg) (xs (x3 + (2 : Int32)).toNatClampNeg) (xs (x3 + (3 : Int32)).toNatClampNeg) (xs (x3 + (4 : Int32)).toNatClampNeg) th1) dL_law_1440 ml_L_145 mv_X8_climbs ⟨TX8, _, rfl⟩ (by decide) th1 rfl rfl ⟨by decide, by decide⟩ (Nat.le_of_ble_eq_true rfl) (fun v157 S156 hv157 => ?_)
        refine r_aload_n C 2 dL_law_1443 rfl ?_
        refine r_aload_n C 0 dL_law_1444 rfl ?_
        refine r_iload_n C 3 dL_law_1445 rfl ?_
        refine r_iconst C (1 : Int32) dL_law_1446 (by decide) ?_
        refine r_iadd C dL_law_1447 ?_
        refine r_sld C X dL_law_1448 ?_
        refine r_aload_n C 0 dL_law_1449 rfl ?_
        refine r_iload_n C 3 dL_law_1450 rfl ?_
        refine r_iconst C (2 : Int32) dL_law_1451 (by decide) ?_
        refine r_iadd C dL_law_1452 ?_
        refine r_sld C X dL_law_1453 ?_
        refine r_aload_n C 0 dL_law_1454 rfl ?_
        refine r_iload_n C 3 dL_law_1455 rfl ?_
        refine r_iconst C (3 : Int32) dL_law_1456 (by decide) ?_
        refine r_iadd C dL_law_1457 ?_
        refine r_sld C X dL_law_1458 ?_
        refine r_aload_n C 0 dL_law_1459 rfl ?_
        refine r_iload_n C 3 dL_law_1460 rfl ?_
        refine r_iconst C (4 : Int32) dL_law_1461 (by decide) ?_
        refine r_iadd C dL_law_1462 ?_
        refine r_sld C X dL_law_1463 ?_
        refine r_callV (As := [.int (xs (x3 + (1 : Int32)).toNatClampNeg), .int (xs (x3 + (2 : Int32)).toNatClampNeg), .int (xs (x3 + (3 : Int32)).toNatClampNeg), .int (xs (x3 + (4 : Int32)).toNatClampNeg)]) (rest := [.int v157]) C (c_X9_climbs _ E n h2 (xs (x3 + (1 : Int32)).toNatClampNeg) (xs (x3 + (2 : Int32)).toNatClampNeg) (xs (x3 + (3 : Int32)).toNatClampNeg) (xs (x3 + (4 : Int32)).toNatClampNeg) th2) dL_law_1464 ml_L_148 mv_X9_climbs ⟨TX9, _, rfl⟩ (by decide) th2 rfl rfl ⟨by decide, by decide⟩ (Nat.le_of_ble_eq_true rfl) (fun v159 S158 hv159 => ?_)
        refine r_icmp_eq C 2258 dL_law_1467 (by decide) ?_ ?_
        · refine r_iinc C 3 (fun y160 => [(3, .int y160), (0, .ref b), (1, .ref h1), (2, .ref h2)]) dL_law_2258 rfl (v := (6 : Int32)) (by decide) (by decide) (fun _ => rfl) (fun y160 => ?_)
          refine r_goto C 18 dL_law_2261 (by decide) ?_
          refine r_sub [1, 2, 3, 0] [(0, .ref b), (1, .ref h1), (2, .ref h2), (3, .int y160)] rfl ?_
          exact ih S158 h1 h2 y160 th1 th2
        · refine r_iconst C (0 : Int32) dL_law_1470 (by decide) ?_
          exact r_lawF C X dL_law_1471
      refine r_ite (fun hs32 => ?_) (fun hs32 => ?_)
      · refine r_swIn C 32 1472 dL_law_33 (by rw [hs32]; rfl) (by decide) (by decide) rfl (by decide) ?_
        refine r_aload_n C 1 dL_law_1472 rfl ?_
        refine r_aload_n C 0 dL_law_1473 rfl ?_
        refine r_iload_n C 3 dL_law_1474 rfl ?_
        refine r_iconst C (1 : Int32) dL_law_1475 (by decide) ?_
        refine r_iadd C dL_law_1476 ?_
        refine r_sld C X dL_law_1477 ?_
        refine r_aload_n C 0 dL_law_1478 rfl ?_
        refine r_iload_n C 3 dL_law_1479 rfl ?_
        refine r_iconst C (2 : Int32) dL_law_1480 (by decide) ?_
        refine r_iadd C dL_law_1481 ?_
        refine r_sld C X dL_law_1482 ?_
        refine r_callV (As := [.int (xs (x3 + (1 : Int32)).toNatClampNeg), .int (xs (x3 + (2 : Int32)).toNatClampNeg)]) (rest := []) C (c_X8_high _ E n h1 (xs (x3 + (1 : Int32)).toNatClampNeg) (xs (x3 + (2 : Int32)).toNatClampNeg) th1) dL_law_1483 ml_L_149 mv_X8_high ⟨TX8, _, rfl⟩ (by decide) th1 rfl rfl ⟨by decide, by decide⟩ (Nat.le_of_ble_eq_true rfl) (fun v162 S161 hv162 => ?_)
        refine r_aload_n C 2 dL_law_1486 rfl ?_
        refine r_aload_n C 0 dL_law_1487 rfl ?_
        refine r_iload_n C 3 dL_law_1488 rfl ?_
        refine r_iconst C (1 : Int32) dL_law_1489 (by decide) ?_
        refine r_iadd C dL_law_1490 ?_
        refine r_sld C X dL_law_1491 ?_
        refine r_aload_n C 0 dL_law_1492 rfl ?_
        refine r_iload_n C 3 dL_law_1493 rfl ?_
        refine r_iconst C (2 : Int32) dL_law_1494 (by decide) ?_
        refine r_iadd C dL_law_1495 ?_
        refine r_sld C X dL_law_1496 ?_
        refine r_callV (As := [.int (xs (x3 + (1 : Int32)).toNatClampNeg), .int (xs (x3 + (2 : Int32)).toNatClampNeg)]) (rest := [.int v162]) C (c_X9_high _ E n h2 (xs (x3 + (1 : Int32)).toNatClampNeg) (xs (x3 + (2 : Int32)).toNatClampNeg) th2) dL_law_1497 ml_L_152 mv_X9_high ⟨TX9, _, rfl⟩ (by decide) th2 rfl rfl ⟨by decide, by decide⟩ (Nat.le_of_ble_eq_true rfl) (fun v164 S163 hv164 => ?_)
        refine r_icmp_eq C 2258 dL_law_1500 (by decide) ?_ ?_
        · refine r_iinc C 3 (fun y165 => [(3, .int y165), (0, .ref b), (1, .ref h1), (2, .ref h2)]) dL_law_2258 rfl (v := (6 : Int32)) (by decide) (by decide) (fun _ => rfl) (fun y165 => ?_)
          refine r_goto C 18 dL_law_2261 (by decide) ?_
          refine r_sub [1, 2, 3, 0] [(0, .ref b), (1, .ref h1), (2, .ref h2), (3, .int y165)] rfl ?_
          exact ih S163 h1 h2 y165 th1 th2
        · refine r_iconst C (0 : Int32) dL_law_1503 (by decide) ?_
          exact r_lawF C X dL_law_1504
      refine r_ite (fun hs33 => ?_) (fun hs33 => ?_)
      · refine r_swIn C 33 1505 dL_law_33 (by rw [hs33]; rfl) (by decide) (by decide) rfl (by decide) ?_
        refine r_aload_n C 1 dL_law_1505 rfl ?_
        refine r_aload_n C 0 dL_law_1506 rfl ?_
        refine r_iload_n C 3 dL_law_1507 rfl ?_
        refine r_iconst C (1 : Int32) dL_law_1508 (by decide) ?_
        refine r_iadd C dL_law_1509 ?_
        refine r_sld C X dL_law_1510 ?_
        refine r_aload_n C 0 dL_law_1511 rfl ?_
        refine r_iload_n C 3 dL_law_1512 rfl ?_
        refine r_iconst C (2 : Int32) dL_law_1513 (by decide) ?_
        refine r_iadd C dL_law_1514 ?_
        refine r_sld C X dL_law_1515 ?_
        refine r_callV (As := [.int (xs (x3 + (1 : Int32)).toNatClampNeg), .int (xs (x3 + (2 : Int32)).toNatClampNeg)]) (rest := []) C (c_X8_parts _ E n h1 (xs (x3 + (1 : Int32)).toNatClampNeg) (xs (x3 + (2 : Int32)).toNatClampNeg) th1) dL_law_1516 ml_L_153 mv_X8_parts ⟨TX8, _, rfl⟩ (by decide) th1 rfl rfl ⟨by decide, by decide⟩ (Nat.le_of_ble_eq_true rfl) (fun v167 S166 hv167 => ?_)
        refine r_aload_n C 2 dL_law_1519 rfl ?_
        refine r_aload_n C 0 dL_law_1520 rfl ?_
        refine r_iload_n C 3 dL_law_1521 rfl ?_
        refine r_iconst C (1 : Int32) dL_law_1522 (by decide) ?_
        refine r_iadd C dL_law_1523 ?_
        refine r_sld C X dL_law_1524 ?_
        refine r_aload_n C 0 dL_law_1525 rfl ?_
        refine r_iload_n C 3 dL_law_1526 rfl ?_
        refine r_iconst C (2 : Int32) dL_law_1527 (by decide) ?_
        refine r_iadd C dL_law_1528 ?_
        refine r_sld C X dL_law_1529 ?_
        refine r_callV (As := [.int (xs (x3 + (1 : Int32)).toNatClampNeg), .int (xs (x3 + (2 : Int32)).toNatClampNeg)]) (rest := [.int v167]) C (c_X9_parts _ E n h2 (xs (x3 + (1 : Int32)).toNatClampNeg) (xs (x3 + (2 : Int32)).toNatClampNeg) th2) dL_law_1530 ml_L_156 mv_X9_parts ⟨TX9, _, rfl⟩ (by decide) th2 rfl rfl ⟨by decide, by decide⟩ (Nat.le_of_ble_eq_true rfl) (fun v169 S168 hv169 => ?_)
        refine r_icmp_eq C 2258 dL_law_1533 (by decide) ?_ ?_
        · refine r_iinc C 3 (fun y170 => [(3, .int y170), (0, .ref b), (1, .ref h1), (2, .ref h2)]) dL_law_2258 rfl (v := (6 : Int32)) (by decide) (by decide) (fun _ => rfl) (fun y170 => ?_)
          refine r_goto C 18 dL_law_2261 (by decide) ?_
          refine r_sub [1, 2, 3, 0] [(0, .ref b), (1, .ref h1), (2, .ref h2), (3, .int y170)] rfl ?_
          exact ih S168 h1 h2 y170 th1 th2
        · refine r_iconst C (0 : Int32) dL_law_1536 (by decide) ?_
          exact r_lawF C X dL_law_1537
      refine r_ite (fun hs34 => ?_) (fun hs34 => ?_)
      · refine r_swIn C 34 1538 dL_law_33 (by rw [hs34]; rfl) (by decide) (by decide) rfl (by decide) ?_
        refine r_aload_n C 1 dL_law_1538 rfl ?_
        refine r_aload_n C 0 dL_law_1539 rfl ?_
        refine r_iload_n C 3 dL_law_1540 rfl ?_
        refine r_iconst C (1 : Int32) dL_law_1541 (by decide) ?_
        refine r_iadd C dL_law_1542 ?_
        refine r_sld C X dL_law_1543 ?_
        refine r_aload_n C 0 dL_law_1544 rfl ?_
        refine r_iload_n C 3 dL_law_1545 rfl ?_
        refine r_iconst C (2 : Int32) dL_law_1546 (by decide) ?_
        refine r_iadd C dL_law_1547 ?_
        refine r_sld C X dL_law_1548 ?_
        refine r_aload_n C 0 dL_law_1549 rfl ?_
        refine r_iload_n C 3 dL_law_1550 rfl ?_
        refine r_iconst C (3 : Int32) dL_law_1551 (by decide) ?_
        refine r_iadd C dL_law_1552 ?_
        refine r_sld C X dL_law_1553 ?_
        refine r_callV (As := [.int (xs (x3 + (1 : Int32)).toNatClampNeg), .int (xs (x3 + (2 : Int32)).toNatClampNeg), .int (xs (x3 + (3 : Int32)).toNatClampNeg)]) (rest := []) C (c_X8_cuts _ E n h1 (xs (x3 + (1 : Int32)).toNatClampNeg) (xs (x3 + (2 : Int32)).toNatClampNeg) (xs (x3 + (3 : Int32)).toNatClampNeg) th1) dL_law_1554 ml_L_157 mv_X8_cuts ⟨TX8, _, rfl⟩ (by decide) th1 rfl rfl ⟨by decide, by decide⟩ (Nat.le_of_ble_eq_true rfl) (fun v172 S171 hv172 => ?_)
        refine r_aload_n C 2 dL_law_1557 rfl ?_
        refine r_aload_n C 0 dL_law_1558 rfl ?_
        refine r_iload_n C 3 dL_law_1559 rfl ?_
        refine r_iconst C (1 : Int32) dL_law_1560 (by decide) ?_
        refine r_iadd C dL_law_1561 ?_
        refine r_sld C X dL_law_1562 ?_
        refine r_aload_n C 0 dL_law_1563 rfl ?_
        refine r_iload_n C 3 dL_law_1564 rfl ?_
        refine r_iconst C (2 : Int32) dL_law_1565 (by decide) ?_
        refine r_iadd C dL_law_1566 ?_
        refine r_sld C X dL_law_1567 ?_
        refine r_aload_n C 0 dL_law_1568 rfl ?_
        refine r_iload_n C 3 dL_law_1569 rfl ?_
        refine r_iconst C (3 : Int32) dL_law_1570 (by decide) ?_
        refine r_iadd C dL_law_1571 ?_
        refine r_sld C X dL_law_1572 ?_
        refine r_callV (As := [.int (xs (x3 + (1 : Int32)).toNatClampNeg), .int (xs (x3 + (2 : Int32)).toNatClampNeg), .int (xs (x3 + (3 : Int32)).toNatClampNeg)]) (rest := [.int v172]) C (c_X9_cuts _ E n h2 (xs (x3 + (1 : Int32)).toNatClampNeg) (xs (x3 + (2 : Int32)).toNatClampNeg) (xs (x3 + (3 : Int32)).toNatClampNeg) th2) dL_law_1573 ml_L_160 mv_X9_cuts ⟨TX9, _, rfl⟩ (by decide) th2 rfl rfl ⟨by decide, by decide⟩ (Nat.le_of_ble_eq_true rfl) (fun v174 S173 hv174 => ?_)
        refine r_icmp_eq C 2258 dL_law_1576 (by decide) ?_ ?_
        · refine r_iinc C 3 (fun y175 => [(3, .int y175), (0, .ref b), (1, .ref h1), (2, .ref h2)]) dL_law_2258 rfl (v := (6 : Int32)) (by decide) (by decide) (fun _ => rfl) (fun y175 => ?_)
          refine r_goto C 18 dL_law_2261 (by decide) ?_
          refine r_sub [1, 2, 3, 0] [(0, .ref b), (1, .ref h1), (2, .ref h2), (3, .int y175)] rfl ?_
          exact ih S173 h1 h2 y175 th1 th2
        · refine r_iconst C (0 : Int32) dL_law_1579 (by decide) ?_
          exact r_lawF C X dL_law_1580
      refine r_ite (fun hs35 => ?_) (fun hs35 => ?_)
      · refine r_swIn C 35 1581 dL_law_33 (by rw [hs35]; rfl) (by decide) (by decide) rfl (by decide) ?_
        refine r_aload_n C 1 dL_law_1581 rfl ?_
        refine r_aload_n C 0 dL_law_1582 rfl ?_
        refine r_iload_n C 3 dL_law_1583 rfl ?_
        refine r_iconst C (1 : Int32) dL_law_1584 (by decide) ?_
        refine r_iadd C dL_law_1585 ?_
        refine r_sld C X dL_law_1586 ?_
        refine r_callV (As := [.int (xs (x3 + (1 : Int32)).toNatClampNeg)]) (rest := []) C (c_X8_vain _ E n h1 (xs (x3 + (1 : Int32)).toNatClampNeg) th1) dL_law_1587 ml_L_161 mv_X8_vain ⟨TX8, _, rfl⟩ (by decide) th1 rfl rfl ⟨by decide, by decide⟩ (Nat.le_of_ble_eq_true rfl) (fun v177 S176 hv177 => ?_)
        refine r_aload_n C 2 dL_law_1590 rfl ?_
        refine r_aload_n C 0 dL_law_1591 rfl ?_
        refine r_iload_n C 3 dL_law_1592 rfl ?_
        refine r_iconst C (1 : Int32) dL_law_1593 (by decide) ?_
        refine r_iadd C dL_law_1594 ?_
        refine r_sld C X dL_law_1595 ?_
        refine r_callV (As := [.int (xs (x3 + (1 : Int32)).toNatClampNeg)]) (rest := [.int v177]) C (c_X9_vain _ E n h2 (xs (x3 + (1 : Int32)).toNatClampNeg) th2) dL_law_1596 ml_L_164 mv_X9_vain ⟨TX9, _, rfl⟩ (by decide) th2 rfl rfl ⟨by decide, by decide⟩ (Nat.le_of_ble_eq_true rfl) (fun v179 S178 hv179 => ?_)
        refine r_icmp_eq C 2258 dL_law_1599 (by decide) ?_ ?_
        · refine r_iinc C 3 (fun y180 => [(3, .int y180), (0, .ref b), (1, .ref h1), (2, .ref h2)]) dL_law_2258 rfl (v := (6 : Int32)) (by decide) (by decide) (fun _ => rfl) (fun y180 => ?_)
          refine r_goto C 18 dL_law_2261 (by decide) ?_
          refine r_sub [1, 2, 3, 0] [(0, .ref b), (1, .ref h1), (2, .ref h2), (3, .int y180)] rfl ?_
          exact ih S178 h1 h2 y180 th1 th2
        · refine r_iconst C (0 : Int32) dL_law_1602 (by decide) ?_
          exact r_lawF C X dL_law_1603
      refine r_ite (fun hs36 => ?_) (fun hs36 => ?_)
      · refine r_swIn C 36 1604 dL_law_33 (by rw [hs36]; rfl) (by decide) (by decide) rfl (by decide) ?_
        refine r_aload_n C 1 dL_law_1604 rfl ?_
        refine r_aload_n C 0 dL_law_1605 rfl ?_
        refine r_iload_n C 3 dL_law_1606 rfl ?_
        refine r_iconst C (1 : Int32) dL_law_1607 (by decide) ?_
        refine r_iadd C dL_law_1608 ?_
        refine r_sld C X dL_law_1609 ?_
        refine r_aload_n C 0 dL_law_1610 rfl ?_
        refine r_iload_n C 3 dL_law_1611 rfl ?_
        refine r_iconst C (2 : Int32) dL_law_1612 (by decide) ?_
        refine r_iadd C dL_law_1613 ?_
        refine r_sld C X dL_law_1614 ?_
        refine r_aload_n C 0 dL_law_1615 rfl ?_
        refine r_iload_n C 3 dL_law_1616 rfl ?_
        refine r_iconst C (3 : Int32) dL_law_1617 (by decide) ?_
        refine r_iadd C dL_law_1618 ?_
        refine r_sld C X dL_law_1619 ?_
        refine r_callV (As := [.int (xs (x3 + (1 : Int32)).toNatClampNeg), .int (xs (x3 + (2 : Int32)).toNatClampNeg), .int (xs (x3 + (3 : Int32)).toNatClampNeg)]) (rest := []) C (c_X8_sold _ E n h1 (xs (x3 + (1 : Int32)).toNatClampNeg) (xs (x3 + (2 : Int32)).toNatClampNeg) (xs (x3 + (3 : Int32)).toNatClampNeg) th1) dL_law_1620 ml_L_165 mv_X8_sold ⟨TX8, _, rfl⟩ (by decide) th1 rfl rfl ⟨by decide, by decide⟩ (Nat.le_of_ble_eq_true rfl) (fun v182 S181 hv182 => ?_)
        refine r_aload_n C 2 dL_law_1623 rfl ?_
        refine r_aload_n C 0 dL_law_1624 rfl ?_
        refine r_iload_n C 3 dL_law_1625 rfl ?_
        refine r_iconst C (1 : Int32) dL_law_1626 (by decide) ?_
        refine r_iadd C dL_law_1627 ?_
        refine r_sld C X dL_law_1628 ?_
        refine r_aload_n C 0 dL_law_1629 rfl ?_
        refine r_iload_n C 3 dL_law_1630 rfl ?_
        refine r_iconst C (2 : Int32) dL_law_1631 (by decide) ?_
        refine r_iadd C dL_law_1632 ?_
        refine r_sld C X dL_law_1633 ?_
        refine r_aload_n C 0 dL_law_1634 rfl ?_
        refine r_iload_n C 3 dL_law_1635 rfl ?_
        refine r_iconst C (3 : Int32) dL_law_1636 (by decide) ?_
        refine r_iadd C dL_law_1637 ?_
        refine r_sld C X dL_law_1638 ?_
        refine r_callV (As := [.int (xs (x3 + (1 : Int32)).toNatClampNeg), .int (xs (x3 + (2 : Int32)).toNatClampNeg), .int (xs (x3 + (3 : Int32)).toNatClampNeg)]) (rest := [.int v182]) C (c_X9_sold _ E n h2 (xs (x3 + (1 : Int32)).toNatClampNeg) (xs (x3 + (2 : Int32)).toNatClampNeg) (xs (x3 + (3 : Int32)).toNatClampNeg) th2) dL_law_1639 ml_L_168 mv_X9_sold ⟨TX9, _, rfl⟩ (by decide) th2 rfl rfl ⟨by decide, by decide⟩ (Nat.le_of_ble_eq_true rfl) (fun v184 S183 hv184 => ?_)
        refine r_icmp_eq C 2258 dL_law_1642 (by decide) ?_ ?_
        · refine r_iinc C 3 (fun y185 => [(3, .int y185), (0, .ref b), (1, .ref h1), (2, .ref h2)]) dL_law_2258 rfl (v := (6 : Int32)) (by decide) (by decide) (fun _ => rfl) (fun y185 => ?_)
          refine r_goto C 18 dL_law_2261 (by decide) ?_
          refine r_sub [1, 2, 3, 0] [(0, .ref b), (1, .ref h1), (2, .ref h2), (3, .int y185)] rfl ?_
          exact ih S183 h1 h2 y185 th1 th2
        · refine r_iconst C (0 : Int32) dL_law_1645 (by decide) ?_
          exact r_lawF C X dL_law_1646
      refine r_ite (fun hs37 => ?_) (fun hs37 => ?_)
      · refine r_swIn C 37 1647 dL_law_33 (by rw [hs37]; rfl) (by decide) (by decide) rfl (by decide) ?_
        refine r_aload_n C 1 dL_law_1647 rfl ?_
        refine r_aload_n C 0 dL_law_1648 rfl ?_
        refine r_iload_n C 3 dL_law_1649 rfl ?_
        refine r_iconst C (1 : Int32) dL_law_1650 (by decide) ?_
        refine r_iadd C dL_law_1651 ?_
        refine r_sld C X dL_law_1652 ?_
        refine r_aload_n C 0 dL_law_1653 rfl ?_
        refine r_iload_n C 3 dL_law_1654 rfl ?_
        refine r_iconst C (2 : Int32) dL_law_1655 (by decide) ?_
        refine r_iadd C dL_law_1656 ?_
        refine r_sld C X dL_law_1657 ?_
        refine r_aload_n C 0 dL_law_1658 rfl ?_
        refine r_iload_n C 3 dL_law_1659 rfl ?_
        refine r_iconst C (3 : Int32) dL_law_1660 (by decide) ?_
        refine r_iadd C dL_law_1661 ?_
        refine r_sld C X dL_law_1662 ?_
        refine r_aload_n C 0 dL_law_1663 rfl ?_
        refine r_iload_n C 3 dL_law_1664 rfl ?_
        refine r_iconst C (4 : Int32) dL_law_1665 (by decide) ?_
        refine r_iadd C dL_law_1666 ?_
        refine r_sld C X dL_law_1667 ?_
        refine r_callV (As := [.int (xs (x3 + (1 : Int32)).toNatClampNeg), .int (xs (x3 + (2 : Int32)).toNatClampNeg), .int (xs (x3 + (3 : Int32)).toNatClampNeg), .int (xs (x3 + (4 : Int32)).toNatClampNeg)]) (rest := []) C (c_X8_more _ E n h1 (xs (x3 + (1 : Int32)).toNatClampNeg) (xs (x3 + (2 : Int32)).toNatClampNeg) (xs (x3 + (3 : Int32)).toNatClampNeg) (xs (x3 + (4 : Int32)).toNatClampNeg) th1) dL_law_1668 ml_L_169 mv_X8_more ⟨TX8, _, rfl⟩ (by decide) th1 rfl rfl ⟨by decide, by decide⟩ (Nat.le_of_ble_eq_true rfl) (fun v187 S186 hv187 => ?_)
        refine r_aload_n C 2 dL_law_1671 rfl ?_
        refine r_aload_n C 0 dL_law_1672 rfl ?_
        refine r_iload_n C 3 dL_law_1673 rfl ?_
        refine r_iconst C (1 : Int32) dL_law_1674 (by decide) ?_
        refine r_iadd C dL_law_1675 ?_
        refine r_sld C X dL_law_1676 ?_
        refine r_aload_n C 0 dL_law_1677 rfl ?_
        refine r_iload_n C 3 dL_law_1678 rfl ?_
        refine r_iconst C (2 : Int32) dL_law_1679 (by decide) ?_
        refine r_iadd C dL_law_1680 ?_
        refine r_sld C X dL_law_1681 ?_
        refine r_aload_n C 0 dL_law_1682 rfl ?_
        refine r_iload_n C 3 dL_law_1683 rfl ?_
        refine r_iconst C (3 : Int32) dL_law_1684 (by decide) ?_
        refine r_iadd C dL_law_1685 ?_
        refine r_sld C X dL_law_1686 ?_
        refine r_aload_n C 0 dL_law_1687 rfl ?_
        refine r_iload_n C 3 dL_law_1688 rfl ?_
        refine r_iconst C (4 : Int32) dL_law_1689 (by decide) ?_
        refine r_iadd C dL_law_1690 ?_
        refine r_sld C X dL_law_1691 ?_
        refine r_callV (As := [.int (xs (x3 + (1 : Int32)).toNatClampNeg), .int (xs (x3 + (2 : Int32)).toNatClampNeg), .int (xs (x3 + (3 : Int32)).toNatClampNeg), .int (xs (x3 + (4 : Int32)).toNatClampNeg)]) (rest := [.int v187]) C (c_X9_more _ E n h2 (xs (x3 + (1 : Int32)).toNatClampNeg) (xs (x3 + (2 : Int32)).toNatClampNeg) (xs (x3 + (3 : Int32)).toNatClampNeg) (xs (x3 + (4 : Int32)).toNatClampNeg) th2) dL_law_1692 ml_L_172 mv_X9_more ⟨TX9, _, rfl⟩ (by decide) th2 rfl rfl ⟨by decide, by decide⟩ (Nat.le_of_ble_eq_true rfl) (fun v189 S188 hv189 => ?_)
        refine r_icmp_eq C 2258 dL_law_1695 (by decide) ?_ ?_
        · refine r_iinc C 3 (fun y190 => [(3, .int y190), (0, .ref b), (1, .ref h1), (2, .ref h2)]) dL_law_2258 rfl (v := (6 : Int32)) (by decide) (by decide) (fun _ => rfl) (fun y190 => ?_)
          refine r_goto C 18 dL_law_2261 (by decide) ?_
          refine r_sub [1, 2, 3, 0] [(0, .ref b), (1, .ref h1), (2, .ref h2), (3, .int y190)] rfl ?_
          exact ih S188 h1 h2 y190 th1 th2
        · refine r_iconst C (0 : Int32) dL_law_1698 (by decide) ?_
          exact r_lawF C X dL_law_1699
      refine r_ite (fun hs38 => ?_) (fun hs38 => ?_)
      · refine r_swIn C 38 1700 dL_law_33 (by rw [hs38]; rfl) (by decide) (by decide) rfl (by decide) ?_
        refine r_aload_n C 1 dL_law_1700 rfl ?_
        refine r_aload_n C 0 dL_law_1701 rfl ?_
        refine r_iload_n C 3 dL_law_1702 rfl ?_
        refine r_iconst C (1 : Int32) dL_law_1703 (by decide) ?_
        refine r_iadd C dL_law_1704 ?_
        refine r_sld C X dL_law_1705 ?_
        refine r_callV (As := [.int (xs (x3 + (1 : Int32)).toNatClampNeg)]) (rest := []) C (c_X8_agree _ E n h1 (xs (x3 + (1 : Int32)).toNatClampNeg) th1) dL_law_1706 ml_L_173 mv_X8_agree ⟨TX8, _, rfl⟩ (by decide) th1 rfl rfl ⟨by decide, by decide⟩ (Nat.le_of_ble_eq_true rfl) (fun v192 S191 hv192 => ?_)
        refine r_aload_n C 2 dL_law_1709 rfl ?_
        refine r_aload_n C 0 dL_law_1710 rfl ?_
        refine r_iload_n C 3 dL_law_1711 rfl ?_
        refine r_iconst C (1 : Int32) dL_law_1712 (by decide) ?_
        refine r_iadd C dL_law_1713 ?_
        refine r_sld C X dL_law_1714 ?_
        refine r_callV (As := [.int (xs (x3 + (1 : Int32)).toNatClampNeg)]) (rest := [.int v192]) C (c_X9_agree _ E n h2 (xs (x3 + (1 : Int32)).toNatClampNeg) th2) dL_law_1715 ml_L_176 mv_X9_agree ⟨TX9, _, rfl⟩ (by decide) th2 rfl rfl ⟨by decide, by decide⟩ (Nat.le_of_ble_eq_true rfl) (fun v194 S193 hv194 => ?_)
        refine r_icmp_eq C 2258 dL_law_1718 (by decide) ?_ ?_
        · refine r_iinc C 3 (fun y195 => [(3, .int y195), (0, .ref b), (1, .ref h1), (2, .ref h2)]) dL_law_2258 rfl (v := (6 : Int32)) (by decide) (by decide) (fun _ => rfl) (fun y195 => ?_)
          refine r_goto C 18 dL_law_2261 (by decide) ?_
          refine r_sub [1, 2, 3, 0] [(0, .ref b), (1, .ref h1), (2, .ref h2), (3, .int y195)] rfl ?_
          exact ih S193 h1 h2 y195 th1 th2
        · refine r_iconst C (0 : Int32) dL_law_1721 (by decide) ?_
          exact r_lawF C X dL_law_1722
      refine r_ite (fun hs39 => ?_) (fun hs39 => ?_)
      · refine r_swIn C 39 1723 dL_law_33 (by rw [hs39]; rfl) (by decide) (by decide) rfl (by decide) ?_
        refine r_aload_n C 1 dL_law_1723 rfl ?_
        refine r_aload_n C 0 dL_law_1724 rfl ?_
        refine r_iload_n C 3 dL_law_1725 rfl ?_
        refine r_iconst C (1 : Int32) dL_law_1726 (by decide) ?_
        refine r_iadd C dL_law_1727 ?_
        refine r_sld C X dL_law_1728 ?_
        refine r_aload_n C 0 dL_law_1729 rfl ?_
        refine r_iload_n C 3 dL_law_1730 rfl ?_
        refine r_iconst C (2 : Int32) dL_law_1731 (by decide) ?_
        refine r_iadd C dL_law_1732 ?_
        refine r_sld C X dL_law_1733 ?_
        refine r_callV (As := [.int (xs (x3 + (1 : Int32)).toNatClampNeg), .int (xs (x3 + (2 : Int32)).toNatClampNeg)]) (rest := []) C (c_X8_sure _ E n h1 (xs (x3 + (1 : Int32)).toNatClampNeg) (xs (x3 + (2 : Int32)).toNatClampNeg) th1) dL_law_1734 ml_L_177 mv_X8_sure ⟨TX8, _, rfl⟩ (by decide) th1 rfl rfl ⟨by decide, by decide⟩ (Nat.le_of_ble_eq_true rfl) (fun v197 S196 hv197 => ?_)
        refine r_aload_n C 2 dL_law_1737 rfl ?_
        refine r_aload_n C 0 dL_law_1738 rfl ?_
        refine r_iload_n C 3 dL_law_1739 rfl ?_
        refine r_iconst C (1 : Int32) dL_law_1740 (by decide) ?_
        refine r_iadd C dL_law_1741 ?_
        refine r_sld C X dL_law_1742 ?_
        refine r_aload_n C 0 dL_law_1743 rfl ?_
        refine r_iload_n C 3 dL_law_1744 rfl ?_
        refine r_iconst C (2 : Int32) dL_law_1745 (by decide) ?_
        refine r_iadd C dL_law_1746 ?_
        refine r_sld C X dL_law_1747 ?_
        refine r_callV (As := [.int (xs (x3 + (1 : Int32)).toNatClampNeg), .int (xs (x3 + (2 : Int32)).toNatClampNeg)]) (rest := [.int v197]) C (c_X9_sure _ E n h2 (xs (x3 + (1 : Int32)).toNatClampNeg) (xs (x3 + (2 : Int32)).toNatClampNeg) th2) dL_law_1748 ml_L_180 mv_X9_sure ⟨TX9, _, rfl⟩ (by decide) th2 rfl rfl ⟨by decide, by decide⟩ (Nat.le_of_ble_eq_true rfl) (fun v199 S198 hv199 => ?_)
        refine r_icmp_eq C 2258 dL_law_1751 (by decide) ?_ ?_
        · refine r_iinc C 3 (fun y200 => [(3, .int y200), (0, .ref b), (1, .ref h1), (2, .ref h2)]) dL_law_2258 rfl (v := (6 : Int32)) (by decide) (by decide) (fun _ => rfl) (fun y200 => ?_)
          refine r_goto C 18 dL_law_2261 (by decide) ?_
          refine r_sub [1, 2, 3, 0] [(0, .ref b), (1, .ref h1), (2, .ref h2), (3, .int y200)] rfl ?_
          exact ih S198 h1 h2 y200 th1 th2
        · refine r_iconst C (0 : Int32) dL_law_1754 (by decide) ?_
          exact r_lawF C X dL_law_1755
      refine r_ite (fun hs40 => ?_) (fun hs40 => ?_)
      · refine r_swIn C 40 1756 dL_law_33 (by rw [hs40]; rfl) (by decide) (by decide) rfl (by decide) ?_
        refine r_aload_n C 1 dL_law_1756 rfl ?_
        refine r_aload_n C 0 dL_law_1757 rfl ?_
        refine r_iload_n C 3 dL_law_1758 rfl ?_
        refine r_iconst C (1 : Int32) dL_law_1759 (by decide) ?_
        refine r_iadd C dL_law_1760 ?_
        refine r_sld C X dL_law_1761 ?_
        refine r_callV (As := [.int (xs (x3 + (1 : Int32)).toNatClampNeg)]) (rest := []) C (c_X8_kindly _ E n h1 (xs (x3 + (1 : Int32)).toNatClampNeg) th1) dL_law_1762 ml_L_181 mv_X8_kindly ⟨TX8, _, rfl⟩ (by decide) th1 rfl rfl ⟨by decide, by decide⟩ (Nat.le_of_ble_eq_true rfl) (fun v202 S201 hv202 => ?_)
        refine r_aload_n C 2 dL_law_1765 rfl ?_
        refine r_aload_n C 0 dL_law_1766 rfl ?_
        refine r_iload_n C 3 dL_law_1767 rfl ?_
        refine r_iconst C (1 : Int32) dL_law_1768 (by decide) ?_
        refine r_iadd C dL_law_1769 ?_
        refine r_sld C X dL_law_1770 ?_
        refine r_callV (As := [.int (xs (x3 + (1 : Int32)).toNatClampNeg)]) (rest := [.int v202]) C (c_X9_kindly _ E n h2 (xs (x3 + (1 : Int32)).toNatClampNeg) th2) dL_law_1771 ml_L_184 mv_X9_kindly ⟨TX9, _, rfl⟩ (by decide) th2 rfl rfl ⟨by decide, by decide⟩ (Nat.le_of_ble_eq_true rfl) (fun v204 S203 hv204 => ?_)
        refine r_icmp_eq C 2258 dL_law_1774 (by decide) ?_ ?_
        · refine r_iinc C 3 (fun y205 => [(3, .int y205), (0, .ref b), (1, .ref h1), (2, .ref h2)]) dL_law_2258 rfl (v := (6 : Int32)) (by decide) (by decide) (fun _ => rfl) (fun y205 => ?_)
          refine r_goto C 18 dL_law_2261 (by decide) ?_
          refine r_sub [1, 2, 3, 0] [(0, .ref b), (1, .ref h1), (2, .ref h2), (3, .int y205)] rfl ?_
          exact ih S203 h1 h2 y205 th1 th2
        · refine r_iconst C (0 : Int32) dL_law_1777 (by decide) ?_
          exact r_lawF C X dL_law_1778
      refine r_ite (fun hs41 => ?_) (fun hs41 => ?_)
      · refine r_swIn C 41 1779 dL_law_33 (by rw [hs41]; rfl) (by decide) (by decide) rfl (by decide) ?_
        refine r_aload_n C 1 dL_law_1779 rfl ?_
        refine r_aload_n C 0 dL_law_1780 rfl ?_
        refine r_iload_n C 3 dL_law_1781 rfl ?_
        refine r_iconst C (1 : Int32) dL_law_1782 (by decide) ?_
        refine r_iadd C dL_law_1783 ?_
        refine r_sld C X dL_law_1784 ?_
        refine r_callV (As := [.int (xs (x3 + (1 : Int32)).toNatClampNeg)]) (rest := []) C (c_X8_odd0 _ E n h1 (xs (x3 + (1 : Int32)).toNatClampNeg) th1) dL_law_1785 ml_L_185 mv_X8_odd ⟨TX8, _, rfl⟩ (by decide) th1 rfl rfl ⟨by decide, by decide⟩ (Nat.le_of_ble_eq_true rfl) (fun v207 S206 hv207 => ?_)
        refine r_aload_n C 2 dL_law_1788 rfl ?_
        refine r_aload_n C 0 dL_law_1789 rfl ?_
        refine r_iload_n C 3 dL_law_1790 rfl ?_
        refine r_iconst C (1 : Int32) dL_law_1791 (by decide) ?_
        refine r_iadd C dL_law_1792 ?_
        refine r_sld C X dL_law_1793 ?_
        refine r_callV (As := [.int (xs (x3 + (1 : Int32)).toNatClampNeg)]) (rest := [.int v207]) C (c_X9_odd _ E n h2 (xs (x3 + (1 : Int32)).toNatClampNeg) th2) dL_law_1794 ml_L_188 mv_X9_odd ⟨TX9, _, rfl⟩ (by decide) th2 rfl rfl ⟨by decide, by decide⟩ (Nat.le_of_ble_eq_true rfl) (fun v209 S208 hv209 => ?_)
        refine r_icmp_eq C 2258 dL_law_1797 (by decide) ?_ ?_
        · refine r_iinc C 3 (fun y210 => [(3, .int y210), (0, .ref b), (1, .ref h1), (2, .ref h2)]) dL_law_2258 rfl (v := (6 : Int32)) (by decide) (by decide) (fun _ => rfl) (fun y210 => ?_)
          refine r_goto C 18 dL_law_2261 (by decide) ?_
          refine r_sub [1, 2, 3, 0] [(0, .ref b), (1, .ref h1), (2, .ref h2), (3, .int y210)] rfl ?_
          exact ih S208 h1 h2 y210 th1 th2
        · refine r_iconst C (0 : Int32) dL_law_1800 (by decide) ?_
          exact r_lawF C X dL_law_1801
      refine r_ite (fun hs42 => ?_) (fun hs42 => ?_)
      · refine r_swIn C 42 1802 dL_law_33 (by rw [hs42]; rfl) (by decide) (by decide) rfl (by decide) ?_
        refine r_aload_n C 1 dL_law_1802 rfl ?_
        refine r_aload_n C 0 dL_law_1803 rfl ?_
        refine r_iload_n C 3 dL_law_1804 rfl ?_
        refine r_iconst C (1 : Int32) dL_law_1805 (by decide) ?_
        refine r_iadd C dL_law_1806 ?_
        refine r_sld C X dL_law_1807 ?_
        refine r_callV (As := [.int (xs (x3 + (1 : Int32)).toNatClampNeg)]) (rest := []) C (c_X8_hopes _ E n h1 (xs (x3 + (1 : Int32)).toNatClampNeg) th1) dL_law_1808 ml_L_189 mv_X8_hopes ⟨TX8, _, rfl⟩ (by decide) th1 rfl rfl ⟨by decide, by decide⟩ (Nat.le_of_ble_eq_true rfl) (fun v212 S211 hv212 => ?_)
        refine r_aload_n C 2 dL_law_1811 rfl ?_
        refine r_aload_n C 0 dL_law_1812 rfl ?_
        refine r_iload_n C 3 dL_law_1813 rfl ?_
        refine r_iconst C (1 : Int32) dL_law_1814 (by decide) ?_
        refine r_iadd C dL_law_1815 ?_
        refine r_sld C X dL_law_1816 ?_
        refine r_callV (As := [.int (xs (x3 + (1 : Int32)).toNatClampNeg)]) (rest := [.int v212]) C (c_X9_hopes _ E n h2 (xs (x3 + (1 : Int32)).toNatClampNeg) th2) dL_law_1817 ml_L_192 mv_X9_hopes ⟨TX9, _, rfl⟩ (by decide) th2 rfl rfl ⟨by decide, by decide⟩ (Nat.le_of_ble_eq_true rfl) (fun v214 S213 hv214 => ?_)
        refine r_icmp_eq C 2258 dL_law_1820 (by decide) ?_ ?_
        · refine r_iinc C 3 (fun y215 => [(3, .int y215), (0, .ref b), (1, .ref h1), (2, .ref h2)]) dL_law_2258 rfl (v := (6 : Int32)) (by decide) (by decide) (fun _ => rfl) (fun y215 => ?_)
          refine r_goto C 18 dL_law_2261 (by decide) ?_
          refine r_sub [1, 2, 3, 0] [(0, .ref b), (1, .ref h1), (2, .ref h2), (3, .int y215)] rfl ?_
          exact ih S213 h1 h2 y215 th1 th2
        · refine r_iconst C (0 : Int32) dL_law_1823 (by decide) ?_
          exact r_lawF C X dL_law_1824
      refine r_ite (fun hs43 => ?_) (fun hs43 => ?_)
      · refine r_swIn C 43 1825 dL_law_33 (by rw [hs43]; rfl) (by decide) (by decide) rfl (by decide) ?_
        refine r_aload_n C 1 dL_law_1825 rfl ?_
        refine r_callV (As := []) (rest := []) C (c_X8_peace _ E n h1 th1) dL_law_1826 ml_L_193 mv_X8_peace ⟨TX8, _, rfl⟩ (by decide) th1 rfl rfl ⟨by decide, by decide⟩ (Nat.le_of_ble_eq_true rfl) (fun v217 S216 hv217 => ?_)
        refine r_aload_n C 2 dL_law_1829 rfl ?_
        refine r_callV (As := []) (rest := [.int v217]) C (c_X9_peace _ E n h2 th2) dL_law_1830 ml_L_196 mv_X9_peace ⟨TX9, _, rfl⟩ (by decide) th2 rfl rfl ⟨by decide, by decide⟩ (Nat.le_of_ble_eq_true rfl) (fun v219 S218 hv219 => ?_)
        refine r_icmp_eq C 2258 dL_law_1833 (by decide) ?_ ?_
        · refine r_iinc C 3 (fun y220 => [(3, .int y220), (0, .ref b), (1, .ref h1), (2, .ref h2)]) dL_law_2258 rfl (v := (6 : Int32)) (by decide) (by decide) (fun _ => rfl) (fun y220 => ?_)
          refine r_goto C 18 dL_law_2261 (by decide) ?_
          refine r_sub [1, 2, 3, 0] [(0, .ref b), (1, .ref h1), (2, .ref h2), (3, .int y220)] rfl ?_
          exact ih S218 h1 h2 y220 th1 th2
        · refine r_iconst C (0 : Int32) dL_law_1836 (by decide) ?_
          exact r_lawF C X dL_law_1837
      refine r_ite (fun hs44 => ?_) (fun hs44 => ?_)
      · refine r_swIn C 44 1838 dL_law_33 (by rw [hs44]; rfl) (by decide) (by decide) rfl (by decide) ?_
        refine r_aload_n C 1 dL_law_1838 rfl ?_
        refine r_aload_n C 0 dL_law_1839 rfl ?_
        refine r_iload_n C 3 dL_law_1840 rfl ?_
        refine r_iconst C (1 : Int32) dL_law_1841 (by decide) ?_
        refine r_iadd C dL_law_1842 ?_
        refine r_sld C X dL_law_1843 ?_
        refine r_callV (As := [.int (xs (x3 + (1 : Int32)).toNatClampNeg)]) (rest := []) C (c_X8_peaces _ E n h1 (xs (x3 + (1 : Int32)).toNatClampNeg) th1) dL_law_1844 ml_L_197 mv_X8_peaces ⟨TX8, _, rfl⟩ (by decide) th1 rfl rfl ⟨by decide, by decide⟩ (Nat.le_of_ble_eq_true rfl) (fun v222 S221 hv222 => ?_)
        refine r_aload_n C 2 dL_law_1847 rfl ?_
        refine r_aload_n C 0 dL_law_1848 rfl ?_
        refine r_iload_n C 3 dL_law_1849 rfl ?_
        refine r_iconst C (1 : Int32) dL_law_1850 (by decide) ?_
        refine r_iadd C dL_law_1851 ?_
        refine r_sld C X dL_law_1852 ?_
        refine r_callV (As := [.int (xs (x3 + (1 : Int32)).toNatClampNeg)]) (rest := [.int v222]) C (c_X9_peaces _ E n h2 (xs (x3 + (1 : Int32)).toNatClampNeg) th2) dL_law_1853 ml_L_200 mv_X9_peaces ⟨TX9, _, rfl⟩ (by decide) th2 rfl rfl ⟨by decide, by decide⟩ (Nat.le_of_ble_eq_true rfl) (fun v224 S223 hv224 => ?_)
        refine r_icmp_eq C 2258 dL_law_1856 (by decide) ?_ ?_
        · refine r_iinc C 3 (fun y225 => [(3, .int y225), (0, .ref b), (1, .ref h1), (2, .ref h2)]) dL_law_2258 rfl (v := (6 : Int32)) (by decide) (by decide) (fun _ => rfl) (fun y225 => ?_)
          refine r_goto C 18 dL_law_2261 (by decide) ?_
          refine r_sub [1, 2, 3, 0] [(0, .ref b), (1, .ref h1), (2, .ref h2), (3, .int y225)] rfl ?_
          exact ih S223 h1 h2 y225 th1 th2
        · refine r_iconst C (0 : Int32) dL_law_1859 (by decide) ?_
          exact r_lawF C X dL_law_1860
      refine r_ite (fun hs45 => ?_) (fun hs45 => ?_)
      · refine r_swIn C 45 1861 dL_law_33 (by rw [hs45]; rfl) (by decide) (by decide) rfl (by decide) ?_
        refine r_aload_n C 1 dL_law_1861 rfl ?_
        refine r_aload_n C 0 dL_law_1862 rfl ?_
        refine r_iload_n C 3 dL_law_1863 rfl ?_
        refine r_iconst C (1 : Int32) dL_law_1864 (by decide) ?_
        refine r_iadd C dL_law_1865 ?_
        refine r_sld C X dL_law_1866 ?_
        refine r_aload_n C 0 dL_law_1867 rfl ?_
        refine r_iload_n C 3 dL_law_1868 rfl ?_
        refine r_iconst C (2 : Int32) dL_law_1869 (by decide) ?_
        refine r_iadd C dL_law_1870 ?_
        refine r_sld C X dL_law_1871 ?_
        refine r_callV (As := [.int (xs (x3 + (1 : Int32)).toNatClampNeg), .int (xs (x3 + (2 : Int32)).toNatClampNeg)]) (rest := []) C (c_X8_then _ E n h1 (xs (x3 + (1 : Int32)).toNatClampNeg) (xs (x3 + (2 : Int32)).toNatClampNeg) th1) dL_law_1872 ml_L_201 mv_X8_then ⟨TX8, _, rfl⟩ (by decide) th1 rfl rfl ⟨by decide, by decide⟩ (Nat.le_of_ble_eq_true rfl) (fun v227 S226 hv227 => ?_)
        refine r_aload_n C 2 dL_law_1875 rfl ?_
        refine r_aload_n C 0 dL_law_1876 rfl ?_
        refine r_iload_n C 3 dL_law_1877 rfl ?_
        refine r_iconst C (1 : Int32) dL_law_1878 (by decide) ?_
        refine r_iadd C dL_law_1879 ?_
        refine r_sld C X dL_law_1880 ?_
        refine r_aload_n C 0 dL_law_1881 rfl ?_
        refine r_iload_n C 3 dL_law_1882 rfl ?_
        refine r_iconst C (2 : Int32) dL_law_1883 (by decide) ?_
        refine r_iadd C dL_law_1884 ?_
        refine r_sld C X dL_law_1885 ?_
        refine r_callV (As := [.int (xs (x3 + (1 : Int32)).toNatClampNeg), .int (xs (x3 + (2 : Int32)).toNatClampNeg)]) (rest := [.int v227]) C (c_X9_then _ E n h2 (xs (x3 + (1 : Int32)).toNatClampNeg) (xs (x3 + (2 : Int32)).toNatClampNeg) th2) dL_law_1886 ml_L_204 mv_X9_then ⟨TX9, _, rfl⟩ (by decide) th2 rfl rfl ⟨by decide, by decide⟩ (Nat.le_of_ble_eq_true rfl) (fun v229 S228 hv229 => ?_)
        refine r_icmp_eq C 2258 dL_law_1889 (by decide) ?_ ?_
        · refine r_iinc C 3 (fun y230 => [(3, .int y230), (0, .ref b), (1, .ref h1), (2, .ref h2)]) dL_law_2258 rfl (v := (6 : Int32)) (by decide) (by decide) (fun _ => rfl) (fun y230 => ?_)
          refine r_goto C 18 dL_law_2261 (by decide) ?_
          refine r_sub [1, 2, 3, 0] [(0, .ref b), (1, .ref h1), (2, .ref h2), (3, .int y230)] rfl ?_
          exact ih S228 h1 h2 y230 th1 th2
        · refine r_iconst C (0 : Int32) dL_law_1892 (by decide) ?_
          exact r_lawF C X dL_law_1893
      refine r_ite (fun hs46 => ?_) (fun hs46 => ?_)
      · refine r_swIn C 46 1894 dL_law_33 (by rw [hs46]; rfl) (by decide) (by decide) rfl (by decide) ?_
        refine r_aload_n C 1 dL_law_1894 rfl ?_
        refine r_aload_n C 0 dL_law_1895 rfl ?_
        refine r_iload_n C 3 dL_law_1896 rfl ?_
        refine r_iconst C (1 : Int32) dL_law_1897 (by decide) ?_
        refine r_iadd C dL_law_1898 ?_
        refine r_sld C X dL_law_1899 ?_
        refine r_aload_n C 0 dL_law_1900 rfl ?_
        refine r_iload_n C 3 dL_law_1901 rfl ?_
        refine r_iconst C (2 : Int32) dL_law_1902 (by decide) ?_
        refine r_iadd C dL_law_1903 ?_
        refine r_sld C X dL_law_1904 ?_
        refine r_aload_n C 0 dL_law_1905 rfl ?_
        refine r_iload_n C 3 dL_law_1906 rfl ?_
        refine r_iconst C (3 : Int32) dL_law_1907 (by decide) ?_
        refine r_iadd C dL_law_1908 ?_
        refine r_sld C X dL_law_1909 ?_
        refine r_aload_n C 0 dL_law_1910 rfl ?_
        refine r_iload_n C 3 dL_law_1911 rfl ?_
        refine r_iconst C (4 : Int32) dL_law_1912 (by decide) ?_
        refine r_iadd C dL_law_1913 ?_
        refine r_sld C X dL_law_1914 ?_
        refine r_callV (As := [.int (xs (x3 + (1 : Int32)).toNatClampNeg), .int (xs (x3 + (2 : Int32)).toNatClampNeg), .int (xs (x3 + (3 : Int32)).toNatClampNeg), .int (xs (x3 + (4 : Int32)).toNatClampNeg)]) (rest := []) C (c_X8_walk _ E n h1 (xs (x3 + (1 : Int32)).toNatClampNeg) (xs (x3 + (2 : Int32)).toNatClampNeg) (xs (x3 + (3 : Int32)).toNatClampNeg) (xs (x3 + (4 : Int32)).toNatClampNeg) th1) dL_law_1915 ml_L_205 mv_X8_walk ⟨TX8, _, rfl⟩ (by decide) th1 rfl rfl ⟨by decide, by decide⟩ (Nat.le_of_ble_eq_true rfl) (fun v232 S231 hv232 => ?_)
        refine r_aload_n C 2 dL_law_1918 rfl ?_
        refine r_aload_n C 0 dL_law_1919 rfl ?_
        refine r_iload_n C 3 dL_law_1920 rfl ?_
        refine r_iconst C (1 : Int32) dL_law_1921 (by decide) ?_
        refine r_iadd C dL_law_1922 ?_
        refine r_sld C X dL_law_1923 ?_
        refine r_aload_n C 0 dL_law_1924 rfl ?_
        refine r_iload_n C 3 dL_law_1925 rfl ?_
        refine r_iconst C (2 : Int32) dL_law_1926 (by decide) ?_
        refine r_iadd C dL_law_1927 ?_
        refine r_sld C X dL_law_1928 ?_
        refine r_aload_n C 0 dL_law_1929 rfl ?_
        refine r_iload_n C 3 dL_law_1930 rfl ?_
        refine r_iconst C (3 : Int32) dL_law_1931 (by decide) ?_
        refine r_iadd C dL_law_1932 ?_
        refine r_sld C X dL_law_1933 ?_
        refine r_aload_n C 0 dL_law_1934 rfl ?_
        refine r_iload_n C 3 dL_law_1935 rfl ?_
        refine r_iconst C (4 : Int32) dL_law_1936 (by decide) ?_
        refine r_iadd C dL_law_1937 ?_
        refine r_sld C X dL_law_1938 ?_
        refine r_callV (As := [.int (xs (x3 + (1 : Int32)).toNatClampNeg), .int (xs (x3 + (2 : Int32)).toNatClampNeg), .int (xs (x3 + (3 : Int32)).toNatClampNeg), .int (xs (x3 + (4 : Int32)).toNatClampNeg)]) (rest := [.int v232]) C (c_X9_walk _ E n h2 (xs (x3 + (1 : Int32)).toNatClampNeg) (xs (x3 + (2 : Int32)).toNatClampNeg) (xs (x3 + (3 : Int32)).toNatClampNeg) (xs (x3 + (4 : Int32)).toNatClampNeg) th2) dL_law_1939 ml_L_208 mv_X9_walk ⟨TX9, _, rfl⟩ (by decide) th2 rfl rfl ⟨by decide, by decide⟩ (Nat.le_of_ble_eq_true rfl) (fun v234 S233 hv234 => ?_)
        refine r_icmp_eq C 2258 dL_law_1942 (by decide) ?_ ?_
        · refine r_iinc C 3 (fun y235 => [(3, .int y235), (0, .ref b), (1, .ref h1), (2, .ref h2)]) dL_law_2258 rfl (v := (6 : Int32)) (by decide) (by decide) (fun _ => rfl) (fun y235 => ?_)
          refine r_goto C 18 dL_law_2261 (by decide) ?_
          refine r_sub [1, 2, 3, 0] [(0, .ref b), (1, .ref h1), (2, .ref h2), (3, .int y235)] rfl ?_
          exact ih S233 h1 h2 y235 th1 th2
        · refine r_iconst C (0 : Int32) dL_law_1945 (by decide) ?_
          exact r_lawF C X dL_law_1946
      refine r_ite (fun hs47 => ?_) (fun hs47 => ?_)
      · refine r_swIn C 47 1947 dL_law_33 (by rw [hs47]; rfl) (by decide) (by decide) rfl (by decide) ?_
        refine r_aload_n C 1 dL_law_1947 rfl ?_
        refine r_aload_n C 0 dL_law_1948 rfl ?_
        refine r_iload_n C 3 dL_law_1949 rfl ?_
        refine r_iconst C (1 : Int32) dL_law_1950 (by decide) ?_
        refine r_iadd C dL_law_1951 ?_
        refine r_sld C X dL_law_1952 ?_
        refine r_aload_n C 0 dL_law_1953 rfl ?_
        refine r_iload_n C 3 dL_law_1954 rfl ?_
        refine r_iconst C (2 : Int32) dL_law_1955 (by decide) ?_
        refine r_iadd C dL_law_1956 ?_
        refine r_sld C X dL_law_1957 ?_
        refine r_aload_n C 0 dL_law_1958 rfl ?_
        refine r_iload_n C 3 dL_law_1959 rfl ?_
        refine r_iconst C (3 : Int32) dL_law_1960 (by decide) ?_
        refine r_iadd C dL_law_1961 ?_
        refine r_sld C X dL_law_1962 ?_
        refine r_aload_n C 0 dL_law_1963 rfl ?_
        refine r_iload_n C 3 dL_law_1964 rfl ?_
        refine r_iconst C (4 : Int32) dL_law_1965 (by decide) ?_
        refine r_iadd C dL_law_1966 ?_
        refine r_sld C X dL_law_1967 ?_
        refine r_aload_n C 0 dL_law_1968 rfl ?_
        refine r_iload_n C 3 dL_law_1969 rfl ?_
        refine r_iconst C (5 : Int32) dL_law_1970 (by decide) ?_
        refine r_iadd C dL_law_1971 ?_
        refine r_sld C X dL_law_1972 ?_
        refine r_callV (As := [.int (xs (x3 + (1 : Int32)).toNatClampNeg), .int (xs (x3 + (2 : Int32)).toNatClampNeg), .int (xs (x3 + (3 : Int32)).toNatClampNeg), .int (xs (x3 + (4 : Int32)).toNatClampNeg), .int (xs (x3 + (5 : Int32)).toNatClampNeg)]) (rest := []) C (c_X8_walks _ E n h1 (xs (x3 + (1 : Int32)).toNatClampNeg) (xs (x3 + (2 : Int32)).toNatClampNeg) (xs (x3 + (3 : Int32)).toNatClampNeg) (xs (x3 + (4 : Int32)).toNatClampNeg) (xs (x3 + (5 : Int32)).toNatClampNeg) th1) dL_law_1973 ml_L_209 mv_X8_walks ⟨TX8, _, rfl⟩ (by decide) th1 rfl rfl ⟨by decide, by decide⟩ (Nat.le_of_ble_eq_true rfl) (fun v237 S236 hv237 => ?_)
        refine r_aload_n C 2 dL_law_1976 rfl ?_
        refine r_aload_n C 0 dL_law_1977 rfl ?_
        refine r_iload_n C 3 dL_law_1978 rfl ?_
        refine r_iconst C (1 : Int32) dL_law_1979 (by decide) ?_
        refine r_iadd C dL_law_1980 ?_
        refine r_sld C X dL_law_1981 ?_
        refine r_aload_n C 0 dL_law_1982 rfl ?_
        refine r_iload_n C 3 dL_law_1983 rfl ?_
        refine r_iconst C (2 : Int32) dL_law_1984 (by decide) ?_
        refine r_iadd C dL_law_1985 ?_
        refine r_sld C X dL_law_1986 ?_
        refine r_aload_n C 0 dL_law_1987 rfl ?_
        refine r_iload_n C 3 dL_law_1988 rfl ?_
        refine r_iconst C (3 : Int32) dL_law_1989 (by decide) ?_
        refine r_iadd C dL_law_1990 ?_
        refine r_sld C X dL_law_1991 ?_
        refine r_aload_n C 0 dL_law_1992 rfl ?_
        refine r_iload_n C 3 dL_law_1993 rfl ?_
        refine r_iconst C (4 : Int32) dL_law_1994 (by decide) ?_
        refine r_iadd C dL_law_1995 ?_
        refine r_sld C X dL_law_1996 ?_
        refine r_aload_n C 0 dL_law_1997 rfl ?_
        refine r_iload_n C 3 dL_law_1998 rfl ?_
        refine r_iconst C (5 : Int32) dL_law_1999 (by decide) ?_
        refine r_iadd C dL_law_2000 ?_
        refine r_sld C X dL_law_2001 ?_
        refine r_callV (As := [.int (xs (x3 + (1 : Int32)).toNatClampNeg), .int (xs (x3 + (2 : Int32)).toNatClampNeg), .int (xs (x3 + (3 : Int32)).toNatClampNeg), .int (xs (x3 + (4 : Int32)).toNatClampNeg), .int (xs (x3 + (5 : Int32)).toNatClampNeg)]) (rest := [.int v237]) C (c_X9_walks_ _ E n h2 (xs (x3 + (1 : Int32)).toNatClampNeg) (xs (x3 + (2 : Int32)).toNatClampNeg) (xs (x3 + (3 : Int32)).toNatClampNeg) (xs (x3 + (4 : Int32)).toNatClampNeg) (xs (x3 + (5 : Int32)).toNatClampNeg) th2) dL_law_2002 ml_L_212 mv_X9_walks_ ⟨TX9, _, rfl⟩ (by decide) th2 rfl rfl ⟨by decide, by decide⟩ (Nat.le_of_ble_eq_true rfl) (fun v239 S238 hv239 => ?_)
        refine r_icmp_eq C 2258 dL_law_2005 (by decide) ?_ ?_
        · refine r_iinc C 3 (fun y240 => [(3, .int y240), (0, .ref b), (1, .ref h1), (2, .ref h2)]) dL_law_2258 rfl (v := (6 : Int32)) (by decide) (by decide) (fun _ => rfl) (fun y240 => ?_)
          refine r_goto C 18 dL_law_2261 (by decide) ?_
          refine r_sub [1, 2, 3, 0] [(0, .ref b), (1, .ref h1), (2, .ref h2), (3, .int y240)] rfl ?_
          exact ih S238 h1 h2 y240 th1 th2
        · refine r_iconst C (0 : Int32) dL_law_2008 (by decide) ?_
          exact r_lawF C X dL_law_2009
      refine r_ite (fun hs48 => ?_) (fun hs48 => ?_)
      · refine r_swIn C 48 2010 dL_law_33 (by rw [hs48]; rfl) (by decide) (by decide) rfl (by decide) ?_
        refine r_aload_n C 1 dL_law_2010 rfl ?_
        refine r_aload_n C 0 dL_law_2011 rfl ?_
        refine r_iload_n C 3 dL_law_2012 rfl ?_
        refine r_iconst C (1 : Int32) dL_law_2013 (by decide) ?_
        refine r_iadd C dL_law_2014 ?_
        refine r_sld C X dL_law_2015 ?_
        refine r_callV (As := [.int (xs (x3 + (1 : Int32)).toNatClampNeg)]) (rest := []) C (c_X8_count _ E n h1 (xs (x3 + (1 : Int32)).toNatClampNeg) th1) dL_law_2016 ml_L_213 mv_X8_count ⟨TX8, _, rfl⟩ (by decide) th1 rfl rfl ⟨by decide, by decide⟩ (Nat.le_of_ble_eq_true rfl) (fun v242 S241 hv242 => ?_)
        refine r_aload_n C 2 dL_law_2019 rfl ?_
        refine r_aload_n C 0 dL_law_2020 rfl ?_
        refine r_iload_n C 3 dL_law_2021 rfl ?_
        refine r_iconst C (1 : Int32) dL_law_2022 (by decide) ?_
        refine r_iadd C dL_law_2023 ?_
        refine r_sld C X dL_law_2024 ?_
        refine r_callV (As := [.int (xs (x3 + (1 : Int32)).toNatClampNeg)]) (rest := [.int v242]) C (c_X9_count _ E n h2 (xs (x3 + (1 : Int32)).toNatClampNeg) th2) dL_law_2025 ml_L_216 mv_X9_count ⟨TX9, _, rfl⟩ (by decide) th2 rfl rfl ⟨by decide, by decide⟩ (Nat.le_of_ble_eq_true rfl) (fun v244 S243 hv244 => ?_)
        refine r_icmp_eq C 2258 dL_law_2028 (by decide) ?_ ?_
        · refine r_iinc C 3 (fun y245 => [(3, .int y245), (0, .ref b), (1, .ref h1), (2, .ref h2)]) dL_law_2258 rfl (v := (6 : Int32)) (by decide) (by decide) (fun _ => rfl) (fun y245 => ?_)
          refine r_goto C 18 dL_law_2261 (by decide) ?_
          refine r_sub [1, 2, 3, 0] [(0, .ref b), (1, .ref h1), (2, .ref h2), (3, .int y245)] rfl ?_
          exact ih S243 h1 h2 y245 th1 th2
        · refine r_iconst C (0 : Int32) dL_law_2031 (by decide) ?_
          exact r_lawF C X dL_law_2032
      refine r_ite (fun hs49 => ?_) (fun hs49 => ?_)
      · refine r_swIn C 49 2033 dL_law_33 (by rw [hs49]; rfl) (by decide) (by decide) rfl (by decide) ?_
        refine r_aload_n C 1 dL_law_2033 rfl ?_
        refine r_aload_n C 0 dL_law_2034 rfl ?_
        refine r_iload_n C 3 dL_law_2035 rfl ?_
        refine r_iconst C (1 : Int32) dL_law_2036 (by decide) ?_
        refine r_iadd C dL_law_2037 ?_
        refine r_sld C X dL_law_2038 ?_
        refine r_callV (As := [.int (xs (x3 + (1 : Int32)).toNatClampNeg)]) (rest := []) C (c_X8_image _ E n h1 (xs (x3 + (1 : Int32)).toNatClampNeg) th1) dL_law_2039 ml_L_217 mv_X8_image ⟨TX8, _, rfl⟩ (by decide) th1 rfl rfl ⟨by decide, by decide⟩ (Nat.le_of_ble_eq_true rfl) (fun v247 S246 hv247 => ?_)
        refine r_aload_n C 2 dL_law_2042 rfl ?_
        refine r_aload_n C 0 dL_law_2043 rfl ?_
        refine r_iload_n C 3 dL_law_2044 rfl ?_
        refine r_iconst C (1 : Int32) dL_law_2045 (by decide) ?_
        refine r_iadd C dL_law_2046 ?_
        refine r_sld C X dL_law_2047 ?_
        refine r_callV (As := [.int (xs (x3 + (1 : Int32)).toNatClampNeg)]) (rest := [.int v247]) C (c_X9_image _ E n h2 (xs (x3 + (1 : Int32)).toNatClampNeg) th2) dL_law_2048 ml_L_220 mv_X9_image ⟨TX9, _, rfl⟩ (by decide) th2 rfl rfl ⟨by decide, by decide⟩ (Nat.le_of_ble_eq_true rfl) (fun v249 S248 hv249 => ?_)
        refine r_icmp_eq C 2258 dL_law_2051 (by decide) ?_ ?_
        · refine r_iinc C 3 (fun y250 => [(3, .int y250), (0, .ref b), (1, .ref h1), (2, .ref h2)]) dL_law_2258 rfl (v := (6 : Int32)) (by decide) (by decide) (fun _ => rfl) (fun y250 => ?_)
          refine r_goto C 18 dL_law_2261 (by decide) ?_
          refine r_sub [1, 2, 3, 0] [(0, .ref b), (1, .ref h1), (2, .ref h2), (3, .int y250)] rfl ?_
          exact ih S248 h1 h2 y250 th1 th2
        · refine r_iconst C (0 : Int32) dL_law_2054 (by decide) ?_
          exact r_lawF C X dL_law_2055
      refine r_ite (fun hs50 => ?_) (fun hs50 => ?_)
      · refine r_swIn C 50 2056 dL_law_33 (by rw [hs50]; rfl) (by decide) (by decide) rfl (by decide) ?_
        refine r_aload_n C 1 dL_law_2056 rfl ?_
        refine r_aload_n C 0 dL_law_2057 rfl ?_
        refine r_iload_n C 3 dL_law_2058 rfl ?_
        refine r_iconst C (1 : Int32) dL_law_2059 (by decide) ?_
        refine r_iadd C dL_law_2060 ?_
        refine r_sld C X dL_law_2061 ?_
        refine r_callV (As := [.int (xs (x3 + (1 : Int32)).toNatClampNeg)]) (rest := []) C (c_X8_back _ E n h1 (xs (x3 + (1 : Int32)).toNatClampNeg) th1) dL_law_2062 ml_L_221 mv_X8_back ⟨TX8, _, rfl⟩ (by decide) th1 rfl rfl ⟨by decide, by decide⟩ (Nat.le_of_ble_eq_true rfl) (fun v252 S251 hv252 => ?_)
        refine r_aload_n C 2 dL_law_2065 rfl ?_
        refine r_aload_n C 0 dL_law_2066 rfl ?_
        refine r_iload_n C 3 dL_law_2067 rfl ?_
        refine r_iconst C (1 : Int32) dL_law_2068 (by decide) ?_
        refine r_iadd C dL_law_2069 ?_
        refine r_sld C X dL_law_2070 ?_
        refine r_callV (As := [.int (xs (x3 + (1 : Int32)).toNatClampNeg)]) (rest := [.int v252]) C (c_X9_back _ E n h2 (xs (x3 + (1 : Int32)).toNatClampNeg) th2) dL_law_2071 ml_L_224 mv_X9_back ⟨TX9, _, rfl⟩ (by decide) th2 rfl rfl ⟨by decide, by decide⟩ (Nat.le_of_ble_eq_true rfl) (fun v254 S253 hv254 => ?_)
        refine r_icmp_eq C 2258 dL_law_2074 (by decide) ?_ ?_
        · refine r_iinc C 3 (fun y255 => [(3, .int y255), (0, .ref b), (1, .ref h1), (2, .ref h2)]) dL_law_2258 rfl (v := (6 : Int32)) (by decide) (by decide) (fun _ => rfl) (fun y255 => ?_)
          refine r_goto C 18 dL_law_2261 (by decide) ?_
          refine r_sub [1, 2, 3, 0] [(0, .ref b), (1, .ref h1), (2, .ref h2), (3, .int y255)] rfl ?_
          exact ih S253 h1 h2 y255 th1 th2
        · refine r_iconst C (0 : Int32) dL_law_2077 (by decide) ?_
          exact r_lawF C X dL_law_2078
      refine r_ite (fun hs51 => ?_) (fun hs51 => ?_)
      · refine r_swIn C 51 2079 dL_law_33 (by rw [hs51]; rfl) (by decide) (by decide) rfl (by decide) ?_
        refine r_aload_n C 1 dL_law_2079 rfl ?_
        refine r_aload_n C 0 dL_law_2080 rfl ?_
        refine r_iload_n C 3 dL_law_2081 rfl ?_
        refine r_iconst C (1 : Int32) dL_law_2082 (by decide) ?_
        refine r_iadd C dL_law_2083 ?_
        refine r_sld C X dL_law_2084 ?_
        refine r_aload_n C 0 dL_law_2085 rfl ?_
        refine r_iload_n C 3 dL_law_2086 rfl ?_
        refine r_iconst C (2 : Int32) dL_law_2087 (by decide) ?_
        refine r_iadd C dL_law_2088 ?_
        refine r_sld C X dL_law_2089 ?_
        refine r_aload_n C 0 dL_law_2090 rfl ?_
        refine r_iload_n C 3 dL_law_2091 rfl ?_
        refine r_iconst C (3 : Int32) dL_law_2092 (by decide) ?_
        refine r_iadd C dL_law_2093 ?_
        refine r_sld C X dL_law_2094 ?_
        refine r_callV (As := [.int (xs (x3 + (1 : Int32)).toNatClampNeg), .int (xs (x3 + (2 : Int32)).toNatClampNeg), .int (xs (x3 + (3 : Int32)).toNatClampNeg)]) (rest := []) C (c_X8_row _ E n h1 (xs (x3 + (1 : Int32)).toNatClampNeg) (xs (x3 + (2 : Int32)).toNatClampNeg) (xs (x3 + (3 : Int32)).toNatClampNeg) th1) dL_law_2095 ml_L_225 mv_X8_row ⟨TX8, _, rfl⟩ (by decide) th1 rfl rfl ⟨by decide, by decide⟩ (Nat.le_of_ble_eq_true rfl) (fun v257 S256 hv257 => ?_)
        refine r_aload_n C 2 dL_law_2098 rfl ?_
        refine r_aload_n C 0 dL_law_2099 rfl ?_
        refine r_iload_n C 3 dL_law_2100 rfl ?_
        refine r_iconst C (1 : Int32) dL_law_2101 (by decide) ?_
        refine r_iadd C dL_law_2102 ?_
        refine r_sld C X dL_law_2103 ?_
        refine r_aload_n C 0 dL_law_2104 rfl ?_
        refine r_iload_n C 3 dL_law_2105 rfl ?_
        refine r_iconst C (2 : Int32) dL_law_2106 (by decide) ?_
        refine r_iadd C dL_law_2107 ?_
        refine r_sld C X dL_law_2108 ?_
        refine r_aload_n C 0 dL_law_2109 rfl ?_
        refine r_iload_n C 3 dL_law_2110 rfl ?_
        refine r_iconst C (3 : Int32) dL_law_2111 (by decide) ?_
        refine r_iadd C dL_law_2112 ?_
        refine r_sld C X dL_law_2113 ?_
        refine r_callV (As := [.int (xs (x3 + (1 : Int32)).toNatClampNeg), .int (xs (x3 + (2 : Int32)).toNatClampNeg), .int (xs (x3 + (3 : Int32)).toNatClampNeg)]) (rest := [.int v257]) C (c_X9_row _ E n h2 (xs (x3 + (1 : Int32)).toNatClampNeg) (xs (x3 + (2 : Int32)).toNatClampNeg) (xs (x3 + (3 : Int32)).toNatClampNeg) th2) dL_law_2114 ml_L_228 mv_X9_row ⟨TX9, _, rfl⟩ (by decide) th2 rfl rfl ⟨by decide, by decide⟩ (Nat.le_of_ble_eq_true rfl) (fun v259 S258 hv259 => ?_)
        refine r_icmp_eq C 2258 dL_law_2117 (by decide) ?_ ?_
        · refine r_iinc C 3 (fun y260 => [(3, .int y260), (0, .ref b), (1, .ref h1), (2, .ref h2)]) dL_law_2258 rfl (v := (6 : Int32)) (by decide) (by decide) (fun _ => rfl) (fun y260 => ?_)
          refine r_goto C 18 dL_law_2261 (by decide) ?_
          refine r_sub [1, 2, 3, 0] [(0, .ref b), (1, .ref h1), (2, .ref h2), (3, .int y260)] rfl ?_
          exact ih S258 h1 h2 y260 th1 th2
        · refine r_iconst C (0 : Int32) dL_law_2120 (by decide) ?_
          exact r_lawF C X dL_law_2121
      refine r_ite (fun hs52 => ?_) (fun hs52 => ?_)
      · refine r_swIn C 52 2122 dL_law_33 (by rw [hs52]; rfl) (by decide) (by decide) rfl (by decide) ?_
        refine r_aload_n C 1 dL_law_2122 rfl ?_
        refine r_aload_n C 0 dL_law_2123 rfl ?_
        refine r_iload_n C 3 dL_law_2124 rfl ?_
        refine r_iconst C (1 : Int32) dL_law_2125 (by decide) ?_
        refine r_iadd C dL_law_2126 ?_
        refine r_sld C X dL_law_2127 ?_
        refine r_aload_n C 0 dL_law_2128 rfl ?_
        refine r_iload_n C 3 dL_law_2129 rfl ?_
        refine r_iconst C (2 : Int32) dL_law_2130 (by decide) ?_
        refine r_iadd C dL_law_2131 ?_
        refine r_sld C X dL_law_2132 ?_
        refine r_aload_n C 0 dL_law_2133 rfl ?_
        refine r_iload_n C 3 dL_law_2134 rfl ?_
        refine r_iconst C (3 : Int32) dL_law_2135 (by decide) ?_
        refine r_iadd C dL_law_2136 ?_
        refine r_sld C X dL_law_2137 ?_
        refine r_i2l C dL_law_2138 ?_
        refine r_bipush C (32 : Int32) dL_law_2139 (by decide) ?_
        refine r_lshl C dL_law_2141 ?_
        refine r_aload_n C 0 dL_law_2142 rfl ?_
        refine r_iload_n C 3 dL_law_2143 rfl ?_
        refine r_iconst C (4 : Int32) dL_law_2144 (by decide) ?_
        refine r_iadd C dL_law_2145 ?_
        refine r_sld C X dL_law_2146 ?_
        refine r_i2l C dL_law_2147 ?_
        refine r_ldc2 C (4294967295 : Int64) (mG 1949 (by decide +kernel) rfl) dL_law_2148 ?_
        refine r_land C dL_law_2151 ?_
        refine r_lor C dL_law_2152 ?_
        refine r_callV (As := [.int (xs (x3 + (1 : Int32)).toNatClampNeg), .int (xs (x3 + (2 : Int32)).toNatClampNeg), .long ((((xs (x3 + (3 : Int32)).toNatClampNeg).toInt64) <<< ((32 : Int32).toInt64 &&& 63)) ||| (((xs (x3 + (4 : Int32)).toNatClampNeg).toInt64) &&& (4294967295 : Int64)))]) (rest := []) C (c_X8_write _ E n h1 (xs (x3 + (1 : Int32)).toNatClampNeg) (xs (x3 + (2 : Int32)).toNatClampNeg) ((((xs (x3 + (3 : Int32)).toNatClampNeg).toInt64) <<< ((32 : Int32).toInt64 &&& 63)) ||| (((xs (x3 + (4 : Int32)).toNatClampNeg).toInt64) &&& (4294967295 : Int64))) th1) dL_law_2153 ml_L_231 mv_X8_write ⟨TX8, _, rfl⟩ (by decide) th1 rfl rfl ⟨by decide, by decide⟩ (Nat.le_of_ble_eq_true rfl) (fun v262 S261 hv262 => ?_)
        refine r_aload_n C 2 dL_law_2156 rfl ?_
        refine r_aload_n C 0 dL_law_2157 rfl ?_
        refine r_iload_n C 3 dL_law_2158 rfl ?_
        refine r_iconst C (1 : Int32) dL_law_2159 (by decide) ?_
        refine r_iadd C dL_law_2160 ?_
        refine r_sld C X dL_law_2161 ?_
        refine r_aload_n C 0 dL_law_2162 rfl ?_
        refine r_iload_n C 3 dL_law_2163 rfl ?_
        refine r_iconst C (2 : Int32) dL_law_2164 (by decide) ?_
        refine r_iadd C dL_law_2165 ?_
        refine r_sld C X dL_law_2166 ?_
        refine r_aload_n C 0 dL_law_2167 rfl ?_
        refine r_iload_n C 3 dL_law_2168 rfl ?_
        refine r_iconst C (3 : Int32) dL_law_2169 (by decide) ?_
        refine r_iadd C dL_law_2170 ?_
        refine r_sld C X dL_law_2171 ?_
        refine r_i2l C dL_law_2172 ?_
        refine r_bipush C (32 : Int32) dL_law_2173 (by decide) ?_
        refine r_lshl C dL_law_2175 ?_
        refine r_aload_n C 0 dL_law_2176 rfl ?_
        refine r_iload_n C 3 dL_law_2177 rfl ?_
        refine r_iconst C (4 : Int32) dL_law_2178 (by decide) ?_
        refine r_iadd C dL_law_2179 ?_
        refine r_sld C X dL_law_2180 ?_
        refine r_i2l C dL_law_2181 ?_
        refine r_ldc2 C (4294967295 : Int64) (mG 1949 (by decide +kernel) rfl) dL_law_2182 ?_
        refine r_land C dL_law_2185 ?_
        refine r_lor C dL_law_2186 ?_
        refine r_callV (As := [.int (xs (x3 + (1 : Int32)).toNatClampNeg), .int (xs (x3 + (2 : Int32)).toNatClampNeg), .long ((((xs (x3 + (3 : Int32)).toNatClampNeg).toInt64) <<< ((32 : Int32).toInt64 &&& 63)) ||| (((xs (x3 + (4 : Int32)).toNatClampNeg).toInt64) &&& (4294967295 : Int64)))]) (rest := [.int v262]) C (c_X9_write _ E n h2 (xs (x3 + (1 : Int32)).toNatClampNeg) (xs (x3 + (2 : Int32)).toNatClampNeg) ((((xs (x3 + (3 : Int32)).toNatClampNeg).toInt64) <<< ((32 : Int32).toInt64 &&& 63)) ||| (((xs (x3 + (4 : Int32)).toNatClampNeg).toInt64) &&& (4294967295 : Int64))) th2) dL_law_2187 ml_L_235 mv_X9_write ⟨TX9, _, rfl⟩ (by decide) th2 rfl rfl ⟨by decide, by decide⟩ (Nat.le_of_ble_eq_true rfl) (fun v264 S263 hv264 => ?_)
        refine r_icmp_eq C 2258 dL_law_2190 (by decide) ?_ ?_
        · refine r_iinc C 3 (fun y265 => [(3, .int y265), (0, .ref b), (1, .ref h1), (2, .ref h2)]) dL_law_2258 rfl (v := (6 : Int32)) (by decide) (by decide) (fun _ => rfl) (fun y265 => ?_)
          refine r_goto C 18 dL_law_2261 (by decide) ?_
          refine r_sub [1, 2, 3, 0] [(0, .ref b), (1, .ref h1), (2, .ref h2), (3, .int y265)] rfl ?_
          exact ih S263 h1 h2 y265 th1 th2
        · refine r_iconst C (0 : Int32) dL_law_2193 (by decide) ?_
          exact r_lawF C X dL_law_2194
      refine r_ite (fun hs53 => ?_) (fun hs53 => ?_)
      · refine r_swIn C 53 2195 dL_law_33 (by rw [hs53]; rfl) (by decide) (by decide) rfl (by decide) ?_
        refine r_aload_n C 1 dL_law_2195 rfl ?_
        refine r_aload_n C 0 dL_law_2196 rfl ?_
        refine r_iload_n C 3 dL_law_2197 rfl ?_
        refine r_iconst C (1 : Int32) dL_law_2198 (by decide) ?_
        refine r_iadd C dL_law_2199 ?_
        refine r_sld C X dL_law_2200 ?_
        refine r_aload_n C 0 dL_law_2201 rfl ?_
        refine r_iload_n C 3 dL_law_2202 rfl ?_
        refine r_iconst C (2 : Int32) dL_law_2203 (by decide) ?_
        refine r_iadd C dL_law_2204 ?_
        refine r_sld C X dL_law_2205 ?_
        refine r_aload_n C 0 dL_law_2206 rfl ?_
        refine r_iload_n C 3 dL_law_2207 rfl ?_
        refine r_iconst C (3 : Int32) dL_law_2208 (by decide) ?_
        refine r_iadd C dL_law_2209 ?_
        refine r_sld C X dL_law_2210 ?_
        refine r_aload_n C 0 dL_law_2211 rfl ?_
        refine r_iload_n C 3 dL_law_2212 rfl ?_
        refine r_iconst C (4 : Int32) dL_law_2213 (by decide) ?_
        refine r_iadd C dL_law_2214 ?_
        refine r_sld C X dL_law_2215 ?_
        refine r_aload_n C 0 dL_law_2216 rfl ?_
        refine r_iload_n C 3 dL_law_2217 rfl ?_
        refine r_iconst C (5 : Int32) dL_law_2218 (by decide) ?_
        refine r_iadd C dL_law_2219 ?_
        refine r_sld C X dL_law_2220 ?_
        refine r_callV (As := [.int (xs (x3 + (1 : Int32)).toNatClampNeg), .int (xs (x3 + (2 : Int32)).toNatClampNeg), .int (xs (x3 + (3 : Int32)).toNatClampNeg), .int (xs (x3 + (4 : Int32)).toNatClampNeg), .int (xs (x3 + (5 : Int32)).toNatClampNeg)]) (rest := []) C (c_X8_paste _ E n h1 (xs (x3 + (1 : Int32)).toNatClampNeg) (xs (x3 + (2 : Int32)).toNatClampNeg) (xs (x3 + (3 : Int32)).toNatClampNeg) (xs (x3 + (4 : Int32)).toNatClampNeg) (xs (x3 + (5 : Int32)).toNatClampNeg) th1) dL_law_2221 ml_L_236 mv_X8_paste ⟨TX8, _, rfl⟩ (by decide) th1 rfl rfl ⟨by decide, by decide⟩ (Nat.le_of_ble_eq_true rfl) (fun v267 S266 hv267 => ?_)
        refine r_aload_n C 2 dL_law_2224 rfl ?_
        refine r_aload_n C 0 dL_law_2225 rfl ?_
        refine r_iload_n C 3 dL_law_2226 rfl ?_
        refine r_iconst C (1 : Int32) dL_law_2227 (by decide) ?_
        refine r_iadd C dL_law_2228 ?_
        refine r_sld C X dL_law_2229 ?_
        refine r_aload_n C 0 dL_law_2230 rfl ?_
        refine r_iload_n C 3 dL_law_2231 rfl ?_
        refine r_iconst C (2 : Int32) dL_law_2232 (by decide) ?_
        refine r_iadd C dL_law_2233 ?_
        refine r_sld C X dL_law_2234 ?_
        refine r_aload_n C 0 dL_law_2235 rfl ?_
        refine r_iload_n C 3 dL_law_2236 rfl ?_
        refine r_iconst C (3 : Int32) dL_law_2237 (by decide) ?_
        refine r_iadd C dL_law_2238 ?_
        refine r_sld C X dL_law_2239 ?_
        refine r_aload_n C 0 dL_law_2240 rfl ?_
        refine r_iload_n C 3 dL_law_2241 rfl ?_
        refine r_iconst C (4 : Int32) dL_law_2242 (by decide) ?_
        refine r_iadd C dL_law_2243 ?_
        refine r_sld C X dL_law_2244 ?_
        refine r_aload_n C 0 dL_law_2245 rfl ?_
        refine r_iload_n C 3 dL_law_2246 rfl ?_
        refine r_iconst C (5 : Int32) dL_law_2247 (by decide) ?_
        refine r_iadd C dL_law_2248 ?_
        refine r_sld C X dL_law_2249 ?_
        refine r_callV (As := [.int (xs (x3 + (1 : Int32)).toNatClampNeg), .int (xs (x3 + (2 : Int32)).toNatClampNeg), .int (xs (x3 + (3 : Int32)).toNatClampNeg), .int (xs (x3 + (4 : Int32)).toNatClampNeg), .int (xs (x3 + (5 : Int32)).toNatClampNeg)]) (rest := [.int v267]) C (c_X9_paste _ E n h2 (xs (x3 + (1 : Int32)).toNatClampNeg) (xs (x3 + (2 : Int32)).toNatClampNeg) (xs (x3 + (3 : Int32)).toNatClampNeg) (xs (x3 + (4 : Int32)).toNatClampNeg) (xs (x3 + (5 : Int32)).toNatClampNeg) th2) dL_law_2250 ml_L_239 mv_X9_paste ⟨TX9, _, rfl⟩ (by decide) th2 rfl rfl ⟨by decide, by decide⟩ (Nat.le_of_ble_eq_true rfl) (fun v269 S268 hv269 => ?_)
        refine r_icmp_eq C 2258 dL_law_2253 (by decide) ?_ ?_
        · refine r_iinc C 3 (fun y270 => [(3, .int y270), (0, .ref b), (1, .ref h1), (2, .ref h2)]) dL_law_2258 rfl (v := (6 : Int32)) (by decide) (by decide) (fun _ => rfl) (fun y270 => ?_)
          refine r_goto C 18 dL_law_2261 (by decide) ?_
          refine r_sub [1, 2, 3, 0] [(0, .ref b), (1, .ref h1), (2, .ref h2), (3, .int y270)] rfl ?_
          exact ih S268 h1 h2 y270 th1 th2
        · refine r_iconst C (0 : Int32) dL_law_2256 (by decide) ?_
          exact r_lawF C X dL_law_2257
      refine r_swOut C 2258 dL_law_33 (by have z0 := lv_neT hs0 (a := 0) rfl; have z1 := lv_neT hs1 (a := 1) rfl; have z2 := lv_neT hs2 (a := 2) rfl; have z3 := lv_neT hs3 (a := 3) rfl; have z4 := lv_neT hs4 (a := 4) rfl; have z5 := lv_neT hs5 (a := 5) rfl; have z6 := lv_neT hs6 (a := 6) rfl; have z7 := lv_neT hs7 (a := 7) rfl; have z8 := lv_neT hs8 (a := 8) rfl; have z9 := lv_neT hs9 (a := 9) rfl; have z10 := lv_neT hs10 (a := 10) rfl; have z11 := lv_neT hs11 (a := 11) rfl; have z12 := lv_neT hs12 (a := 12) rfl; have z13 := lv_neT hs13 (a := 13) rfl; have z14 := lv_neT hs14 (a := 14) rfl; have z15 := lv_neT hs15 (a := 15) rfl; have z16 := lv_neT hs16 (a := 16) rfl; have z17 := lv_neT hs17 (a := 17) rfl; have z18 := lv_neT hs18 (a := 18) rfl; have z19 := lv_neT hs19 (a := 19) rfl; have z20 := lv_neT hs20 (a := 20) rfl; have z21 := lv_neT hs21 (a := 21) rfl; have z22 := lv_neT hs22 (a := 22) rfl; have z23 := lv_neT hs23 (a := 23) rfl; have z24 := lv_neT hs24 (a := 24) rfl; have z25 := lv_neT hs25 (a := 25) rfl; have z26 := lv_neT hs26 (a := 26) rfl; have z27 := lv_neT hs27 (a := 27) rfl; have z28 := lv_neT hs28 (a := 28) rfl; have z29 := lv_neT hs29 (a := 29) rfl; have z30 := lv_neT hs30 (a := 30) rfl; have z31 := lv_neT hs31 (a := 31) rfl; have z32 := lv_neT hs32 (a := 32) rfl; have z33 := lv_neT hs33 (a := 33) rfl; have z34 := lv_neT hs34 (a := 34) rfl; have z35 := lv_neT hs35 (a := 35) rfl; have z36 := lv_neT hs36 (a := 36) rfl; have z37 := lv_neT hs37 (a := 37) rfl; have z38 := lv_neT hs38 (a := 38) rfl; have z39 := lv_neT hs39 (a := 39) rfl; have z40 := lv_neT hs40 (a := 40) rfl; have z41 := lv_neT hs41 (a := 41) rfl; have z42 := lv_neT hs42 (a := 42) rfl; have z43 := lv_neT hs43 (a := 43) rfl; have z44 := lv_neT hs44 (a := 44) rfl; have z45 := lv_neT hs45 (a := 45) rfl; have z46 := lv_neT hs46 (a := 46) rfl; have z47 := lv_neT hs47 (a := 47) rfl; have z48 := lv_neT hs48 (a := 48) rfl; have z49 := lv_neT hs49 (a := 49) rfl; have z50 := lv_neT hs50 (a := 50) rfl; have z51 := lv_neT hs51 (a := 51) rfl; have z52 := lv_neT hs52 (a := 52) rfl; have z53 := lv_neT hs53 (a := 53) rfl;  omega) (by decide) ?_
      refine r_iinc C 3 (fun y271 => [(3, .int y271), (0, .ref b), (1, .ref h1), (2, .ref h2)]) dL_law_2258 rfl (v := (6 : Int32)) (by decide) (by decide) (fun _ => rfl) (fun y271 => ?_)
      refine r_goto C 18 dL_law_2261 (by decide) ?_
      refine r_sub [1, 2, 3, 0] [(0, .ref b), (1, .ref h1), (2, .ref h2), (3, .int y271)] rfl ?_
      exact ih S h1 h2 y271 th1 th2
