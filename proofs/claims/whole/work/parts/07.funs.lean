/-! WHAT EACH METHOD COMPUTES, by program (wip/whole/gen.py) out of the decode rows -/
def f_X2_judge_L6 (E : EN) (n : Nat)  : Nat → WS → Nat → Int64 → Int64 → Int32 → Int32 → Option (Int32 × WS)
  | 0 => fun _ _ _ _ _ _ => none
  | m + 1 => fun S h0 x1 x3 x5 x6 =>
    if (gi S 64 h0) ≤ x6 then
      if x5 = 0 then
        some ((2 : Int32), S)
      else
        some ((1 : Int32), S)
    else
      lt (((x1 >>> ((x6 * (3 : Int32)).toInt64 &&& 63)) &&& (7 : Int64)).toInt32) fun y1 =>
      lt (((x3 >>> ((x6 * (3 : Int32)).toInt64 &&& 63)) &&& (7 : Int64)).toInt32) fun y2 =>
      (gr S 68 h0).bind fun b3 =>
      if x6 < 0 ∨ eN E b3 ≤ x6.toNatClampNeg then none else
      if (ai S b3 x6.toNatClampNeg) < y1 then
        some ((0 : Int32), S)
      else
        (gr S 67 h0).bind fun b4 =>
        if x6 < 0 ∨ eN E b4 ≤ x6.toNatClampNeg then none else
        if (ai S b4 x6.toNatClampNeg) ≤ y2 then
          if x5 = 0 then
            lt (x6 + (1 : Int32)) fun y5 =>
            f_X2_judge_L6 E n  m S h0 x1 x3 (0 : Int32) y5
          else
            (gr S 67 h0).bind fun b6 =>
            if x6 < 0 ∨ eN E b6 ≤ x6.toNatClampNeg then none else
            if y1 < (ai S b6 x6.toNatClampNeg) then
              lt (x6 + (1 : Int32)) fun y7 =>
              f_X2_judge_L6 E n  m S h0 x1 x3 (0 : Int32) y7
            else
              (gr S 68 h0).bind fun b8 =>
              if x6 < 0 ∨ eN E b8 ≤ x6.toNatClampNeg then none else
              if (ai S b8 x6.toNatClampNeg) < y2 then
                lt (x6 + (1 : Int32)) fun y9 =>
                f_X2_judge_L6 E n  m S h0 x1 x3 (0 : Int32) y9
              else
                lt (x6 + (1 : Int32)) fun y10 =>
                f_X2_judge_L6 E n  m S h0 x1 x3 (1 : Int32) y10
        else
          some ((0 : Int32), S)
def f_X2_judge (E : EN) (n : Nat) (S : WS) (h0 : Nat) (x1 : Int64) (x3 : Int64) : Option (Int32 × WS) :=
  f_X2_judge_L6 E n  n S h0 x1 x3 (1 : Int32) (0 : Int32)
def f_X3_isTold (E : EN) (n : Nat) (S : WS) (h0 : Nat) : Option (Int32 × WS) :=
  if (gi S 129 h0) ≤ 0 then
    some ((0 : Int32), S)
  else
    some ((1 : Int32), S)
def f_X3_hasPlace (E : EN) (n : Nat) (S : WS) (h0 : Nat) (x1 : Int32) : Option (Int32 × WS) :=
  if x1 < 0 then
    some ((0 : Int32), S)
  else
    if (gi S 129 h0) ≤ x1 then
      some ((0 : Int32), S)
    else
      some ((1 : Int32), S)
def f_X3_hasYear (E : EN) (n : Nat) (S : WS) (h0 : Nat) (x1 : Int32) : Option (Int32 × WS) :=
  if x1 < 0 then
    some ((0 : Int32), S)
  else
    if (gi S 130 h0) ≤ x1 then
      some ((0 : Int32), S)
    else
      some ((1 : Int32), S)
def f_X3_hasPath (E : EN) (n : Nat) (S : WS) (h0 : Nat) (x1 : Int32) : Option (Int32 × WS) :=
  if x1 < 0 then
    some ((0 : Int32), S)
  else
    if (gi S 131 h0) ≤ x1 then
      some ((0 : Int32), S)
    else
      some ((1 : Int32), S)
def f_X3_hasBride (E : EN) (n : Nat) (S : WS) (h0 : Nat) (x1 : Int32) : Option (Int32 × WS) :=
  if x1 < 0 then
    some ((0 : Int32), S)
  else
    if (gi S 132 h0) ≤ x1 then
      some ((0 : Int32), S)
    else
      some ((1 : Int32), S)
def f_X3_hasSuitor (E : EN) (n : Nat) (S : WS) (h0 : Nat) (x1 : Int32) : Option (Int32 × WS) :=
  if x1 < 0 then
    some ((0 : Int32), S)
  else
    if (gi S 133 h0) ≤ x1 then
      some ((0 : Int32), S)
    else
      some ((1 : Int32), S)
def f_X3_hasWalker (E : EN) (n : Nat) (S : WS) (h0 : Nat) (x1 : Int32) : Option (Int32 × WS) :=
  if x1 < 0 then
    some ((0 : Int32), S)
  else
    if (gi S 134 h0) ≤ x1 then
      some ((0 : Int32), S)
    else
      some ((1 : Int32), S)
def f_X3_isFor (E : EN) (n : Nat) (S : WS) (h0 : Nat) (x1 : Int32) (x2 : Int32) : Option (Int32 × WS) :=
  bd (f_X3_hasSuitor E n S h0 x1) fun v2 S1 =>
  if v2 = 0 then
    some ((0 : Int32), S1)
  else
    bd (f_X3_hasBride E n S1 h0 x2) fun v4 S3 =>
    if v4 = 0 then
      some ((0 : Int32), S3)
    else
      (gr S3 142 h0).bind fun b5 =>
      if x1 < 0 ∨ eN E b5 ≤ x1.toNatClampNeg then none else
      if (((ai S3 b5 x1.toNatClampNeg) >>> (x2 &&& 31)) &&& (1 : Int32)) = (1 : Int32) then
        some ((1 : Int32), S3)
      else
        some ((0 : Int32), S3)
def f_X3_pathBetween_J30 (E : EN) (n : Nat) (k2 : WS → Nat → Int32 → Int32 → Int32 → Option (Int32 × WS)) (S : WS) (h0 : Nat) (x1 : Int32) (x2 : Int32) (x3 : Int32) : Option (Int32 × WS) :=
  (gr S 136 h0).bind fun b1 =>
  if x3 < 0 ∨ eN E b1 ≤ x3.toNatClampNeg then none else
  if (ai S b1 x3.toNatClampNeg) = x2 then
    (gr S 137 h0).bind fun b3 =>
    if x3 < 0 ∨ eN E b3 ≤ x3.toNatClampNeg then none else
    if (ai S b3 x3.toNatClampNeg) = x1 then
      some (x3, S)
    else
      lt (x3 + (1 : Int32)) fun y4 =>
      k2 S h0 x1 x2 y4
  else
    lt (x3 + (1 : Int32)) fun y2 =>
    k2 S h0 x1 x2 y2
def f_X3_pathBetween_L2 (E : EN) (n : Nat)  : Nat → WS → Nat → Int32 → Int32 → Int32 → Option (Int32 × WS)
  | 0 => fun _ _ _ _ _ => none
  | m + 1 => fun S h0 x1 x2 x3 =>
    if (gi S 131 h0) ≤ x3 then
      some ((-1 : Int32), S)
    else
      (gr S 136 h0).bind fun b1 =>
      if x3 < 0 ∨ eN E b1 ≤ x3.toNatClampNeg then none else
      if (ai S b1 x3.toNatClampNeg) = x1 then
        (gr S 137 h0).bind fun b2 =>
        if x3 < 0 ∨ eN E b2 ≤ x3.toNatClampNeg then none else
        if (ai S b2 x3.toNatClampNeg) = x2 then
          some (x3, S)
        else
          f_X3_pathBetween_J30 E n (f_X3_pathBetween_L2 E n  m) S h0 x1 x2 x3
      else
        f_X3_pathBetween_J30 E n (f_X3_pathBetween_L2 E n  m) S h0 x1 x2 x3
def f_X3_pathBetween (E : EN) (n : Nat) (S : WS) (h0 : Nat) (x1 : Int32) (x2 : Int32) : Option (Int32 × WS) :=
  f_X3_pathBetween_L2 E n  n S h0 x1 x2 (0 : Int32)
def f_X3_dropOf (E : EN) (n : Nat) (S : WS) (h0 : Nat) (x1 : Int32) : Option (Int32 × WS) :=
  (gr S 135 h0).bind fun b1 =>
  (gr S 136 h0).bind fun b2 =>
  if x1 < 0 ∨ eN E b2 ≤ x1.toNatClampNeg then none else
  if (ai S b2 x1.toNatClampNeg) < 0 ∨ eN E b1 ≤ (ai S b2 x1.toNatClampNeg).toNatClampNeg then none else
  (gr S 135 h0).bind fun b3 =>
  (gr S 137 h0).bind fun b4 =>
  if x1 < 0 ∨ eN E b4 ≤ x1.toNatClampNeg then none else
  if (ai S b4 x1.toNatClampNeg) < 0 ∨ eN E b3 ≤ (ai S b4 x1.toNatClampNeg).toNatClampNeg then none else
  some ((iabs ((ai S b1 (ai S b2 x1.toNatClampNeg).toNatClampNeg) - (ai S b3 (ai S b4 x1.toNatClampNeg).toNatClampNeg))), S)
def f_X3_courtersOf_L5 (E : EN) (n : Nat)  : Nat → WS → Nat → Nat → Int32 → Int32 → Int32 → Option (Int32 × WS)
  | 0 => fun _ _ _ _ _ _ => none
  | m + 1 => fun S h0 h1 x2 x3 x4 =>
    if (gi S 133 h0) ≤ x4 then
      some (x3, S)
    else
      if x4 < 0 ∨ eN E h1 ≤ x4.toNatClampNeg then none else
      if (ai S h1 x4.toNatClampNeg) = x2 then
        lt (x3 + (1 : Int32)) fun y2 =>
        lt (x4 + (1 : Int32)) fun y3 =>
        f_X3_courtersOf_L5 E n  m S h0 h1 x2 y2 y3
      else
        lt (x4 + (1 : Int32)) fun y1 =>
        f_X3_courtersOf_L5 E n  m S h0 h1 x2 x3 y1
def f_X3_courtersOf (E : EN) (n : Nat) (S : WS) (h0 : Nat) (h1 : Nat) (x2 : Int32) : Option (Int32 × WS) :=
  f_X3_courtersOf_L5 E n  n S h0 h1 x2 (0 : Int32) (0 : Int32)
def f_X3_takenBy_L5 (E : EN) (n : Nat)  : Nat → WS → Nat → Nat → Int32 → Int32 → Int32 → Option (Int32 × WS)
  | 0 => fun _ _ _ _ _ _ => none
  | m + 1 => fun S h0 h1 x2 x3 x4 =>
    if (gi S 133 h0) ≤ x4 then
      some (x3, S)
    else
      if x4 < 0 ∨ eN E h1 ≤ x4.toNatClampNeg then none else
      if (ai S h1 x4.toNatClampNeg) = x2 then
        if x3 = (-1 : Int32) then
          lt (x4 + (1 : Int32)) fun y2 =>
          f_X3_takenBy_L5 E n  m S h0 h1 x2 x4 y2
        else
          (gr S 140 h0).bind fun b3 =>
          if x4 < 0 ∨ eN E b3 ≤ x4.toNatClampNeg then none else
          (gr S 140 h0).bind fun b4 =>
          if x3 < 0 ∨ eN E b4 ≤ x3.toNatClampNeg then none else
          if (ai S b3 x4.toNatClampNeg) ≤ (ai S b4 x3.toNatClampNeg) then
            lt (x4 + (1 : Int32)) fun y5 =>
            f_X3_takenBy_L5 E n  m S h0 h1 x2 x3 y5
          else
            lt (x4 + (1 : Int32)) fun y6 =>
            f_X3_takenBy_L5 E n  m S h0 h1 x2 x4 y6
      else
        lt (x4 + (1 : Int32)) fun y1 =>
        f_X3_takenBy_L5 E n  m S h0 h1 x2 x3 y1
def f_X3_takenBy (E : EN) (n : Nat) (S : WS) (h0 : Nat) (h1 : Nat) (x2 : Int32) : Option (Int32 × WS) :=
  f_X3_takenBy_L5 E n  n S h0 h1 x2 (-1 : Int32) (0 : Int32)
def f_X3_isRefused (E : EN) (n : Nat) (S : WS) (h0 : Nat) (h1 : Nat) (x2 : Int32) : Option (Int32 × WS) :=
  if x2 < 0 ∨ eN E h1 ≤ x2.toNatClampNeg then none else
  if (ai S h1 x2.toNatClampNeg) = (-1 : Int32) then
    some ((0 : Int32), S)
  else
    if x2 < 0 ∨ eN E h1 ≤ x2.toNatClampNeg then none else
    bd (f_X3_takenBy E n S h0 h1 (ai S h1 x2.toNatClampNeg)) fun v2 S1 =>
    if v2 = x2 then
      some ((0 : Int32), S1)
    else
      some ((1 : Int32), S1)
def f_X3_wouldBeTaken (E : EN) (n : Nat) (S : WS) (h0 : Nat) (h1 : Nat) (x2 : Int32) (x3 : Int32) : Option (Int32 × WS) :=
  bd (f_X3_takenBy E n S h0 h1 x3) fun v2 S1 =>
  if v2 = (-1 : Int32) then
    some ((1 : Int32), S1)
  else
    (gr S1 140 h0).bind fun b3 =>
    if x2 < 0 ∨ eN E b3 ≤ x2.toNatClampNeg then none else
    (gr S1 140 h0).bind fun b4 =>
    if v2 < 0 ∨ eN E b4 ≤ v2.toNatClampNeg then none else
    if (ai S1 b4 v2.toNatClampNeg) < (ai S1 b3 x2.toNatClampNeg) then
      some ((1 : Int32), S1)
    else
      (gr S1 140 h0).bind fun b5 =>
      if x2 < 0 ∨ eN E b5 ≤ x2.toNatClampNeg then none else
      (gr S1 140 h0).bind fun b6 =>
      if v2 < 0 ∨ eN E b6 ≤ v2.toNatClampNeg then none else
      if (ai S1 b5 x2.toNatClampNeg) = (ai S1 b6 v2.toNatClampNeg) then
        if v2 ≤ x2 then
          some ((0 : Int32), S1)
        else
          some ((1 : Int32), S1)
      else
        some ((0 : Int32), S1)
def f_X3_wouldStep (E : EN) (n : Nat) (S : WS) (h0 : Nat) (x1 : Int32) (x2 : Int32) (x3 : Int32) (x4 : Int32) : Option (Int32 × WS) :=
  if x2 < 0 then
    some ((0 : Int32), S)
  else
    if (gi S 132 h0) ≤ x2 then
      some ((0 : Int32), S)
    else
      (gr S 138 h0).bind fun b1 =>
      if x2 < 0 ∨ eN E b1 ≤ x2.toNatClampNeg then none else
      if (ai S b1 x2.toNatClampNeg) = x3 then
        (gr S 139 h0).bind fun b2 =>
        if x2 < 0 ∨ eN E b2 ≤ x2.toNatClampNeg then none else
        if x4 < (ai S b2 x2.toNatClampNeg) then
          some ((0 : Int32), S)
        else
          (gr S 139 h0).bind fun b3 =>
          if x2 < 0 ∨ eN E b3 ≤ x2.toNatClampNeg then none else
          (gr S 140 h0).bind fun b4 =>
          if x1 < 0 ∨ eN E b4 ≤ x1.toNatClampNeg then none else
          if ((ai S b3 x2.toNatClampNeg) + (ai S b4 x1.toNatClampNeg)) < x4 then
            some ((0 : Int32), S)
          else
            some ((1 : Int32), S)
      else
        some ((0 : Int32), S)
def f_X3_hasStep (E : EN) (n : Nat) (S : WS) (h0 : Nat) (x1 : Int32) (x2 : Int32) (x3 : Int32) : Option (Int32 × WS) :=
  (gr S 143 h0).bind fun b1 =>
  if x1 < 0 ∨ eN E b1 ≤ x1.toNatClampNeg then none else
  bd (f_X3_wouldStep E n S h0 x1 (ai S b1 x1.toNatClampNeg) x2 x3) fun v3 S2 =>
  zc v3 S2
def f_X3_stepsOn_L6 (E : EN) (n : Nat)  : Nat → WS → Nat → Int32 → Int32 → Int32 → Int32 → Int32 → Option (Int32 × WS)
  | 0 => fun _ _ _ _ _ _ _ => none
  | m + 1 => fun S h0 x1 x2 x3 x4 x5 =>
    if (gi S 133 h0) ≤ x5 then
      some (x4, S)
    else
      if x5 = x3 then
        lt (x5 + (1 : Int32)) fun y1 =>
        f_X3_stepsOn_L6 E n  m S h0 x1 x2 x3 x4 y1
      else
        bd (f_X3_hasStep E n S h0 x5 x1 x2) fun v3 S2 =>
        if v3 = 0 then
          lt (x5 + (1 : Int32)) fun y4 =>
          f_X3_stepsOn_L6 E n  m S2 h0 x1 x2 x3 x4 y4
        else
          lt (x4 + (1 : Int32)) fun y5 =>
          lt (x5 + (1 : Int32)) fun y6 =>
          f_X3_stepsOn_L6 E n  m S2 h0 x1 x2 x3 y5 y6
def f_X3_stepsOn (E : EN) (n : Nat) (S : WS) (h0 : Nat) (x1 : Int32) (x2 : Int32) (x3 : Int32) : Option (Int32 × WS) :=
  f_X3_stepsOn_L6 E n  n S h0 x1 x2 x3 (0 : Int32) (0 : Int32)
def f_X3_fallOf (E : EN) (n : Nat) (S : WS) (h0 : Nat) (x1 : Int32) (x2 : Int32) : Option (Int32 × WS) :=
  (gr S 144 h0).bind fun b1 =>
  if x2 < 0 ∨ eN E b1 ≤ x2.toNatClampNeg then none else
  (gr S 143 h0).bind fun b2 =>
  bd (f_X3_isRefused E n S h0 b2 x1) fun v4 S3 =>
  if v4 = 0 then
    lt ((ai S b1 x2.toNatClampNeg) + (0 : Int32)) fun y5 =>
    some ((imin y5 (100 : Int32)), S3)
  else
    (gr S3 141 h0).bind fun b6 =>
    if x1 < 0 ∨ eN E b6 ≤ x1.toNatClampNeg then none else
    lt ((ai S b1 x2.toNatClampNeg) + (ai S3 b6 x1.toNatClampNeg)) fun y7 =>
    some ((imin y7 (100 : Int32)), S3)
def f_X3_safeAlong_L6 (E : EN) (n : Nat)  : Nat → WS → Nat → Int32 → Int32 → Int64 → Int32 → Option (Int64 × WS)
  | 0 => fun _ _ _ _ _ _ => none
  | m + 1 => fun S h0 x3 x4 x5 x7 =>
    if (gi S 133 h0) ≤ x7 then
      some (x5, S)
    else
      bd (f_X3_hasStep E n S h0 x7 x3 x4) fun v2 S1 =>
      if v2 = 0 then
        lt (x7 + (1 : Int32)) fun y3 =>
        f_X3_safeAlong_L6 E n  m S1 h0 x3 x4 x5 y3
      else
        if (100 : Int64) = 0 then none else
        bd (f_X3_fallOf E n S1 h0 x7 x4) fun v5 S4 =>
        lt ((x5 / (100 : Int64)) * (((100 : Int32) - v5).toInt64)) fun y6 =>
        lt (x7 + (1 : Int32)) fun y7 =>
        f_X3_safeAlong_L6 E n  m S4 h0 x3 x4 y6 y7
def f_X3_safeAlong (E : EN) (n : Nat) (S : WS) (h0 : Nat) (x1 : Int64) (x3 : Int32) (x4 : Int32) : Option (Int64 × WS) :=
  f_X3_safeAlong_L6 E n  n S h0 x3 x4 x1 (0 : Int32)
def f_X3_placesFrom_L22 (E : EN) (n : Nat) (k7 : WS → Nat → Int32 → Int32 → Int32 → Option (Int32 × WS)) : Nat → WS → Nat → Int32 → Int32 → Int32 → Int32 → Int32 → Option (Int32 × WS)
  | 0 => fun _ _ _ _ _ _ _ => none
  | m + 1 => fun S h0 x2 x3 x4 x5 x6 =>
    if (gi S 131 h0) ≤ x6 then
      if x3 = x5 then
        some (x3, S)
      else
        lt (x4 + (1 : Int32)) fun y1 =>
        k7 S h0 x2 x3 y1
    else
      (gr S 136 h0).bind fun b2 =>
      if x6 < 0 ∨ eN E b2 ≤ x6.toNatClampNeg then none else
      (gr S 137 h0).bind fun b3 =>
      if x6 < 0 ∨ eN E b3 ≤ x6.toNatClampNeg then none else
      lt (((1 : Int32) <<< ((ai S b2 x6.toNatClampNeg) &&& 31)) ||| ((1 : Int32) <<< ((ai S b3 x6.toNatClampNeg) &&& 31))) fun y4 =>
      if ((x2 >>> (x6 &&& 31)) &&& (1 : Int32)) = (1 : Int32) then
        if (x3 &&& y4) = 0 then
          lt (x6 + (1 : Int32)) fun y6 =>
          f_X3_placesFrom_L22 E n k7 m S h0 x2 x3 x4 x5 y6
        else
          lt (x3 ||| y4) fun y7 =>
          lt (x6 + (1 : Int32)) fun y8 =>
          f_X3_placesFrom_L22 E n k7 m S h0 x2 y7 x4 x5 y8
      else
        lt (x6 + (1 : Int32)) fun y5 =>
        f_X3_placesFrom_L22 E n k7 m S h0 x2 x3 x4 x5 y5
def f_X3_placesFrom_L7 (E : EN) (n : Nat)  : Nat → WS → Nat → Int32 → Int32 → Int32 → Option (Int32 × WS)
  | 0 => fun _ _ _ _ _ => none
  | m + 1 => fun S h0 x2 x3 x4 =>
    if (gi S 129 h0) ≤ x4 then
      some (x3, S)
    else
      f_X3_placesFrom_L22 E n (f_X3_placesFrom_L7 E n  m) n S h0 x2 x3 x4 x3 (0 : Int32)
def f_X3_placesFrom (E : EN) (n : Nat) (S : WS) (h0 : Nat) (x1 : Int32) (x2 : Int32) : Option (Int32 × WS) :=
  lt ((1 : Int32) <<< (x1 &&& 31)) fun y1 =>
  f_X3_placesFrom_L7 E n  n S h0 x2 y1 (0 : Int32)
def f_X4_nextToken_L170 (E : EN) (n : Nat)  : Nat → WS → Nat → Option (Unit × WS)
  | 0 => fun _ _ => none
  | m + 1 => fun S h0 =>
    if (gi S 195 h0) = (1 : Int32) then
      lt (si S 194 h0 (imax (gi S 194 h0) ((gi S 196 h0) + (1 : Int32)))) fun S1 =>
      some ((), S1)
    else
      if (gi S 193 h0) ≤ (gi S 194 h0) then
        lt (si S 194 h0 (imax (gi S 194 h0) ((gi S 196 h0) + (1 : Int32)))) fun S2 =>
        some ((), S2)
      else
        (gr S 192 h0).bind fun b3 =>
        if (gi S 194 h0) < 0 ∨ eN E b3 ≤ (gi S 194 h0).toNatClampNeg then none else
        if (ai S b3 (gi S 194 h0).toNatClampNeg) < (48 : Int32) then
          lt (si S 194 h0 (imax (gi S 194 h0) ((gi S 196 h0) + (1 : Int32)))) fun S4 =>
          some ((), S4)
        else
          (gr S 192 h0).bind fun b5 =>
          if (gi S 194 h0) < 0 ∨ eN E b5 ≤ (gi S 194 h0).toNatClampNeg then none else
          if (57 : Int32) < (ai S b5 (gi S 194 h0).toNatClampNeg) then
            lt (si S 194 h0 (imax (gi S 194 h0) ((gi S 196 h0) + (1 : Int32)))) fun S6 =>
            some ((), S6)
          else
            lt (si S 195 h0 (2 : Int32)) fun S7 =>
            (gr S7 192 h0).bind fun b8 =>
            if (gi S7 194 h0) < 0 ∨ eN E b8 ≤ (gi S7 194 h0).toNatClampNeg then none else
            lt (si S7 197 h0 (imin ((((gi S7 197 h0) * (10 : Int32)) + (ai S7 b8 (gi S7 194 h0).toNatClampNeg)) - (48 : Int32)) (1000000 : Int32))) fun S9 =>
            lt (si S9 194 h0 ((gi S9 194 h0) + (1 : Int32))) fun S10 =>
            f_X4_nextToken_L170 E n  m S10 h0
def f_X4_nextToken_L113 (E : EN) (n : Nat)  : Nat → WS → Nat → Option (Unit × WS)
  | 0 => fun _ _ => none
  | m + 1 => fun S h0 =>
    if (gi S 193 h0) ≤ (gi S 194 h0) then
      f_X4_nextToken_L170 E n  n S h0
    else
      (gr S 192 h0).bind fun b1 =>
      if (gi S 194 h0) < 0 ∨ eN E b1 ≤ (gi S 194 h0).toNatClampNeg then none else
      if (ai S b1 (gi S 194 h0).toNatClampNeg) < (97 : Int32) then
        f_X4_nextToken_L170 E n  n S h0
      else
        (gr S 192 h0).bind fun b2 =>
        if (gi S 194 h0) < 0 ∨ eN E b2 ≤ (gi S 194 h0).toNatClampNeg then none else
        if (122 : Int32) < (ai S b2 (gi S 194 h0).toNatClampNeg) then
          f_X4_nextToken_L170 E n  n S h0
        else
          lt (si S 195 h0 (1 : Int32)) fun S3 =>
          lt (si S3 194 h0 ((gi S3 194 h0) + (1 : Int32))) fun S4 =>
          f_X4_nextToken_L113 E n  m S4 h0
def f_X4_nextToken_J60 (E : EN) (n : Nat)  (S : WS) (h0 : Nat) : Option (Unit × WS) :=
  lt (si S 194 h0 (gi S 196 h0)) fun S1 =>
  lt (si S1 197 h0 (0 : Int32)) fun S2 =>
  if (gi S2 196 h0) < (gi S2 193 h0) then
    (gr S2 192 h0).bind fun b3 =>
    if (gi S2 196 h0) < 0 ∨ eN E b3 ≤ (gi S2 196 h0).toNatClampNeg then none else
    if (ai S2 b3 (gi S2 196 h0).toNatClampNeg) = (59 : Int32) then
      lt (si S2 195 h0 (3 : Int32)) fun S5 =>
      f_X4_nextToken_L113 E n  n S5 h0
    else
      lt (si S2 195 h0 (4 : Int32)) fun S4 =>
      f_X4_nextToken_L113 E n  n S4 h0
  else
    lt (si S2 195 h0 (0 : Int32)) fun S6 =>
    some ((), S6)
def f_X4_nextToken_L8 (E : EN) (n : Nat)  : Nat → WS → Nat → Option (Unit × WS)
  | 0 => fun _ _ => none
  | m + 1 => fun S h0 =>
    if (gi S 193 h0) ≤ (gi S 196 h0) then
      f_X4_nextToken_J60 E n  S h0
    else
      (gr S 192 h0).bind fun b1 =>
      if (gi S 196 h0) < 0 ∨ eN E b1 ≤ (gi S 196 h0).toNatClampNeg then none else
      if (ai S b1 (gi S 196 h0).toNatClampNeg) = (32 : Int32) then
        lt (si S 196 h0 ((gi S 196 h0) + (1 : Int32))) fun S2 =>
        f_X4_nextToken_L8 E n  m S2 h0
      else
        (gr S 192 h0).bind fun b3 =>
        if (gi S 196 h0) < 0 ∨ eN E b3 ≤ (gi S 196 h0).toNatClampNeg then none else
        if (ai S b3 (gi S 196 h0).toNatClampNeg) = (10 : Int32) then
          lt (si S 196 h0 ((gi S 196 h0) + (1 : Int32))) fun S4 =>
          f_X4_nextToken_L8 E n  m S4 h0
        else
          f_X4_nextToken_J60 E n  S h0
def f_X4_nextToken (E : EN) (n : Nat) (S : WS) (h0 : Nat) : Option (Unit × WS) :=
  lt (si S 196 h0 (gi S 194 h0)) fun S1 =>
  f_X4_nextToken_L8 E n  n S1 h0
def f_X4_isWord_L28 (E : EN) (n : Nat)  : Nat → WS → Nat → Nat → Int32 → Option (Int32 × WS)
  | 0 => fun _ _ _ _ => none
  | m + 1 => fun S h0 w1 x2 =>
    bd (f_length w1 S) fun v2 S1 =>
    if v2 ≤ x2 then
      some ((1 : Int32), S1)
    else
      (gr S1 192 h0).bind fun b3 =>
      if ((gi S1 196 h0) + x2) < 0 ∨ eN E b3 ≤ ((gi S1 196 h0) + x2).toNatClampNeg then none else
      bd (f_charAt w1 S1 x2) fun v5 S4 =>
      if (ai S1 b3 ((gi S1 196 h0) + x2).toNatClampNeg) = v5 then
        lt (x2 + (1 : Int32)) fun y6 =>
        f_X4_isWord_L28 E n  m S4 h0 w1 y6
      else
        some ((0 : Int32), S4)
def f_X4_isWord (E : EN) (n : Nat) (S : WS) (h0 : Nat) (w1 : Nat) : Option (Int32 × WS) :=
  if (gi S 195 h0) = (1 : Int32) then
    bd (f_length w1 S) fun v2 S1 =>
    if ((gi S 194 h0) - (gi S 196 h0)) = v2 then
      f_X4_isWord_L28 E n  n S1 h0 w1 (0 : Int32)
    else
      some ((0 : Int32), S1)
  else
    some ((0 : Int32), S)
def f_X4_failHere (E : EN) (n : Nat) (S : WS) (h0 : Nat) (x1 : Int32) : Option (Int32 × WS) :=
  lt (si S 198 h0 x1) fun S1 =>
  lt (si S1 199 h0 (gi S1 196 h0)) fun S2 =>
  some ((0 : Int32), S2)
def f_X4_takeSemicolon (E : EN) (n : Nat) (S : WS) (h0 : Nat) : Option (Int32 × WS) :=
  if (gi S 195 h0) = (3 : Int32) then
    bd (f_X4_nextToken E n S h0) fun v2 S1 =>
    some ((1 : Int32), S1)
  else
    bd (f_X4_failHere E n S h0 (1 : Int32)) fun v4 S3 =>
    zc v4 S3
def f_X4_takeWord (E : EN) (n : Nat) (S : WS) (h0 : Nat) (w1 : Nat) : Option (Int32 × WS) :=
  bd (f_X4_isWord E n S h0 w1) fun v2 S1 =>
  if v2 = 0 then
    bd (f_X4_failHere E n S1 h0 (1 : Int32)) fun v6 S5 =>
    zc v6 S5
  else
    bd (f_X4_nextToken E n S1 h0) fun v4 S3 =>
    some ((1 : Int32), S3)
def f_X4_takeNumber (E : EN) (n : Nat) (S : WS) (h0 : Nat) (x1 : Int32) (x2 : Int32) : Option (Int32 × WS) :=
  if (gi S 195 h0) = (2 : Int32) then
    if (gi S 197 h0) < x1 then
      bd (f_X4_failHere E n S h0 (2 : Int32)) fun v2 S1 =>
      some ((-1 : Int32), S1)
    else
      if (gi S 197 h0) ≤ x2 then
        lt (gi S 197 h0) fun y3 =>
        bd (f_X4_nextToken E n S h0) fun v5 S4 =>
        some (y3, S4)
      else
        bd (f_X4_failHere E n S h0 (2 : Int32)) fun v7 S6 =>
        some ((-1 : Int32), S6)
  else
    bd (f_X4_failHere E n S h0 (1 : Int32)) fun v9 S8 =>
    some ((-1 : Int32), S8)
def f_X4_readMountain_J24 (E : EN) (n : Nat)  (S : WS) (h0 : Nat) (h1 : Nat) (s0 : Int32) : Option (Int32 × WS) :=
  if s0 = (-1 : Int32) then
    some ((0 : Int32), S)
  else
    bd (f_X4_takeWord E n S h0 2) fun v2 S1 =>
    if v2 = 0 then
      some ((0 : Int32), S1)
    else
      bd (f_X4_takeNumber E n S1 h0 (1 : Int32) (30 : Int32)) fun v4 S3 =>
      if v4 = (-1 : Int32) then
        some ((0 : Int32), S3)
      else
        lt (si S3 129 h1 s0) fun S5 =>
        lt (si S5 130 h1 v4) fun S6 =>
        some ((1 : Int32), S6)
def f_X4_readMountain (E : EN) (n : Nat) (S : WS) (h0 : Nat) (h1 : Nat) : Option (Int32 × WS) :=
  bd (f_X4_nextToken E n S h0) fun v2 S1 =>
  bd (f_X4_takeWord E n S1 h0 1) fun v4 S3 =>
  if v4 = 0 then
    f_X4_readMountain_J24 E n  S3 h0 h1 (-1 : Int32)
  else
    bd (f_X4_takeNumber E n S3 h0 (2 : Int32) (8 : Int32)) fun v6 S5 =>
    f_X4_readMountain_J24 E n  S5 h0 h1 v6
def f_X4_readHeight (E : EN) (n : Nat) (S : WS) (h0 : Nat) (h1 : Nat) : Option (Int32 × WS) :=
  bd (f_X4_nextToken E n S h0) fun v2 S1 =>
  bd (f_X4_takeNumber E n S1 h0 (0 : Int32) ((gi S1 129 h1) - (1 : Int32))) fun v4 S3 =>
  if v4 = (-1 : Int32) then
    some ((0 : Int32), S3)
  else
    bd (f_X4_takeNumber E n S3 h0 (0 : Int32) (99 : Int32)) fun v6 S5 =>
    if v6 = (-1 : Int32) then
      some ((0 : Int32), S5)
    else
      (gr S5 135 h1).bind fun b7 =>
      if v4 < 0 ∨ eN E b7 ≤ v4.toNatClampNeg then none else
      lt (wi S5 b7 (upd (ai S5 b7) v4.toNatClampNeg v6)) fun S8 =>
      some ((1 : Int32), S8)
def f_X4_readPath_J67 (E : EN) (n : Nat)  (S : WS) (h0 : Nat) (h1 : Nat) (x2 : Int32) : Option (Int32 × WS) :=
  bd (f_X4_takeNumber E n S h0 (0 : Int32) ((gi S 129 h1) - (1 : Int32))) fun v2 S1 =>
  if v2 = (-1 : Int32) then
    some ((0 : Int32), S1)
  else
    (gr S1 136 h1).bind fun b3 =>
    if (gi S1 131 h1) < 0 ∨ eN E b3 ≤ (gi S1 131 h1).toNatClampNeg then none else
    lt (wi S1 b3 (upd (ai S1 b3) (gi S1 131 h1).toNatClampNeg x2)) fun S4 =>
    (gr S4 137 h1).bind fun b5 =>
    if (gi S4 131 h1) < 0 ∨ eN E b5 ≤ (gi S4 131 h1).toNatClampNeg then none else
    lt (wi S4 b5 (upd (ai S4 b5) (gi S4 131 h1).toNatClampNeg v2)) fun S6 =>
    lt (si S6 131 h1 ((gi S6 131 h1) + (1 : Int32))) fun S7 =>
    some ((1 : Int32), S7)
def f_X4_readPath (E : EN) (n : Nat) (S : WS) (h0 : Nat) (h1 : Nat) : Option (Int32 × WS) :=
  bd (f_X4_nextToken E n S h0) fun v2 S1 =>
  bd (f_X4_takeNumber E n S1 h0 (0 : Int32) ((gi S1 129 h1) - (1 : Int32))) fun v4 S3 =>
  if v4 = (-1 : Int32) then
    some ((0 : Int32), S3)
  else
    bd (f_X4_takeWord E n S3 h0 5) fun v6 S5 =>
    if v6 = 0 then
      some ((0 : Int32), S5)
    else
      if (gi S5 195 h0) = (2 : Int32) then
        if (gi S5 197 h0) = v4 then
          bd (f_X4_failHere E n S5 h0 (2 : Int32)) fun v8 S7 =>
          zc v8 S7
        else
          bd (f_X3_pathBetween E n S5 h1 v4 (gi S5 197 h0)) fun v10 S9 =>
          if v10 = (-1 : Int32) then
            f_X4_readPath_J67 E n  S9 h0 h1 v4
          else
            bd (f_X4_failHere E n S9 h0 (2 : Int32)) fun v12 S11 =>
            zc v12 S11
      else
        f_X4_readPath_J67 E n  S5 h0 h1 v4
def f_X4_readBride_J60 (E : EN) (n : Nat)  (S : WS) (h1 : Nat) (x2 : Int32) (s0 : Int32) : Option (Int32 × WS) :=
  if s0 = (-1 : Int32) then
    some ((0 : Int32), S)
  else
    (gr S 138 h1).bind fun b1 =>
    if (gi S 132 h1) < 0 ∨ eN E b1 ≤ (gi S 132 h1).toNatClampNeg then none else
    lt (wi S b1 (upd (ai S b1) (gi S 132 h1).toNatClampNeg x2)) fun S2 =>
    (gr S2 139 h1).bind fun b3 =>
    if (gi S2 132 h1) < 0 ∨ eN E b3 ≤ (gi S2 132 h1).toNatClampNeg then none else
    lt (wi S2 b3 (upd (ai S2 b3) (gi S2 132 h1).toNatClampNeg s0)) fun S4 =>
    lt (si S4 132 h1 ((gi S4 132 h1) + (1 : Int32))) fun S5 =>
    some ((1 : Int32), S5)
def f_X4_readBride_J28 (E : EN) (n : Nat)  (S : WS) (h0 : Nat) (h1 : Nat) (s0 : Int32) : Option (Int32 × WS) :=
  if s0 = (-1 : Int32) then
    some ((0 : Int32), S)
  else
    bd (f_X4_takeWord E n S h0 7) fun v2 S1 =>
    if v2 = 0 then
      f_X4_readBride_J60 E n  S1 h1 s0 (-1 : Int32)
    else
      bd (f_X4_takeNumber E n S1 h0 (0 : Int32) ((gi S1 130 h1) - (1 : Int32))) fun v4 S3 =>
      f_X4_readBride_J60 E n  S3 h1 s0 v4
def f_X4_readBride (E : EN) (n : Nat) (S : WS) (h0 : Nat) (h1 : Nat) : Option (Int32 × WS) :=
  bd (f_X4_nextToken E n S h0) fun v2 S1 =>
  bd (f_X4_takeWord E n S1 h0 4) fun v4 S3 =>
  if v4 = 0 then
    f_X4_readBride_J28 E n  S3 h0 h1 (-1 : Int32)
  else
    bd (f_X4_takeNumber E n S3 h0 (0 : Int32) ((gi S3 131 h1) - (1 : Int32))) fun v6 S5 =>
    f_X4_readBride_J28 E n  S5 h0 h1 v6
def f_X4_takeBrides_J59 (E : EN) (n : Nat) (k4 : WS → Nat → Nat → Int32 → Int32 → Option (Int32 × WS)) (S : WS) (h0 : Nat) (h1 : Nat) (x2 : Int32) (x3 : Int32) : Option (Int32 × WS) :=
  bd (f_X4_takeNumber E n S h0 (0 : Int32) ((gi S 132 h1) - (1 : Int32))) fun v2 S1 =>
  if v2 = (-1 : Int32) then
    some ((-1 : Int32), S1)
  else
    lt (x2 ||| ((1 : Int32) <<< (v2 &&& 31))) fun y3 =>
    lt (x3 + (1 : Int32)) fun y4 =>
    k4 S1 h0 h1 y3 y4
def f_X4_takeBrides_J23 (E : EN) (n : Nat) (k4 : WS → Nat → Nat → Int32 → Int32 → Option (Int32 × WS)) (S : WS) (h0 : Nat) (h1 : Nat) (x2 : Int32) (x3 : Int32) : Option (Int32 × WS) :=
  if (gi S 195 h0) = (2 : Int32) then
    if (4 : Int32) ≤ (gi S 197 h0) then
      f_X4_takeBrides_J59 E n k4 S h0 h1 x2 x3
    else
      if ((x2 >>> ((gi S 197 h0) &&& 31)) &&& (1 : Int32)) = (1 : Int32) then
        bd (f_X4_failHere E n S h0 (2 : Int32)) fun v2 S1 =>
        some ((-1 : Int32), S1)
      else
        f_X4_takeBrides_J59 E n k4 S h0 h1 x2 x3
  else
    f_X4_takeBrides_J59 E n k4 S h0 h1 x2 x3
def f_X4_takeBrides_L4 (E : EN) (n : Nat)  : Nat → WS → Nat → Nat → Int32 → Int32 → Option (Int32 × WS)
  | 0 => fun _ _ _ _ _ => none
  | m + 1 => fun S h0 h1 x2 x3 =>
    if (4 : Int32) < x3 then
      some (x2, S)
    else
      if x3 ≤ 0 then
        f_X4_takeBrides_J23 E n (f_X4_takeBrides_L4 E n  m) S h0 h1 x2 x3
      else
        if (gi S 195 h0) = (2 : Int32) then
          f_X4_takeBrides_J23 E n (f_X4_takeBrides_L4 E n  m) S h0 h1 x2 x3
        else
          some (x2, S)
def f_X4_takeBrides (E : EN) (n : Nat) (S : WS) (h0 : Nat) (h1 : Nat) : Option (Int32 × WS) :=
  f_X4_takeBrides_L4 E n  n S h0 h1 (0 : Int32) (0 : Int32)
def f_X4_readRain (E : EN) (n : Nat) (S : WS) (h0 : Nat) (h1 : Nat) : Option (Int32 × WS) :=
  bd (f_X4_nextToken E n S h0) fun v2 S1 =>
  bd (f_X4_takeNumber E n S1 h0 (0 : Int32) ((gi S1 130 h1) - (1 : Int32))) fun v4 S3 =>
  if v4 = (-1 : Int32) then
    some ((0 : Int32), S3)
  else
    bd (f_X4_takeWord E n S3 h0 13) fun v6 S5 =>
    if v6 = 0 then
      some ((0 : Int32), S5)
    else
      bd (f_X4_takeNumber E n S5 h0 (0 : Int32) (100 : Int32)) fun v8 S7 =>
      if v8 = (-1 : Int32) then
        some ((0 : Int32), S7)
      else
        (gr S7 144 h1).bind fun b9 =>
        if v4 < 0 ∨ eN E b9 ≤ v4.toNatClampNeg then none else
        lt (wi S7 b9 (upd (ai S7 b9) v4.toNatClampNeg v8)) fun S10 =>
        some ((1 : Int32), S10)
def f_X4_readWalker_J56 (E : EN) (n : Nat)  (S : WS) (h1 : Nat) (x2 : Int32) (s0 : Int32) : Option (Int32 × WS) :=
  if s0 = (-1 : Int32) then
    some ((0 : Int32), S)
  else
    (gr S 145 h1).bind fun b1 =>
    if (gi S 134 h1) < 0 ∨ eN E b1 ≤ (gi S 134 h1).toNatClampNeg then none else
    lt (wi S b1 (upd (ai S b1) (gi S 134 h1).toNatClampNeg x2)) fun S2 =>
    (gr S2 146 h1).bind fun b3 =>
    if (gi S2 134 h1) < 0 ∨ eN E b3 ≤ (gi S2 134 h1).toNatClampNeg then none else
    lt (wi S2 b3 (upd (ai S2 b3) (gi S2 134 h1).toNatClampNeg s0)) fun S4 =>
    lt (si S4 134 h1 ((gi S4 134 h1) + (1 : Int32))) fun S5 =>
    some ((1 : Int32), S5)
def f_X4_readWalker_J24 (E : EN) (n : Nat)  (S : WS) (h0 : Nat) (h1 : Nat) (s0 : Int32) : Option (Int32 × WS) :=
  if s0 = (-1 : Int32) then
    some ((0 : Int32), S)
  else
    bd (f_X4_takeWord E n S h0 16) fun v2 S1 =>
    if v2 = 0 then
      f_X4_readWalker_J56 E n  S1 h1 s0 (-1 : Int32)
    else
      bd (f_X4_takeNumber E n S1 h0 (0 : Int32) ((gi S1 129 h1) - (1 : Int32))) fun v4 S3 =>
      f_X4_readWalker_J56 E n  S3 h1 s0 v4
def f_X4_readWalker (E : EN) (n : Nat) (S : WS) (h0 : Nat) (h1 : Nat) : Option (Int32 × WS) :=
  bd (f_X4_nextToken E n S h0) fun v2 S1 =>
  bd (f_X4_takeWord E n S1 h0 15) fun v4 S3 =>
  if v4 = 0 then
    f_X4_readWalker_J24 E n  S3 h0 h1 (-1 : Int32)
  else
    bd (f_X4_takeNumber E n S3 h0 (0 : Int32) (99 : Int32)) fun v6 S5 =>
    f_X4_readWalker_J24 E n  S5 h0 h1 v6
def f_X4_readCourt_J49 (E : EN) (n : Nat)  (S : WS) (h0 : Nat) (h1 : Nat) (x2 : Int32) : Option (Int32 × WS) :=
  bd (f_X4_takeNumber E n S h0 (0 : Int32) ((gi S 132 h1) - (1 : Int32))) fun v2 S1 =>
  if v2 = (-1 : Int32) then
    some ((0 : Int32), S1)
  else
    (gr S1 143 h1).bind fun b3 =>
    if x2 < 0 ∨ eN E b3 ≤ x2.toNatClampNeg then none else
    lt (wi S1 b3 (upd (ai S1 b3) x2.toNatClampNeg v2)) fun S4 =>
    some ((1 : Int32), S4)
def f_X4_readCourt (E : EN) (n : Nat) (S : WS) (h0 : Nat) (h1 : Nat) : Option (Int32 × WS) :=
  bd (f_X4_nextToken E n S h0) fun v2 S1 =>
  bd (f_X4_takeNumber E n S1 h0 (0 : Int32) ((gi S1 133 h1) - (1 : Int32))) fun v4 S3 =>
  if v4 = (-1 : Int32) then
    some ((0 : Int32), S3)
  else
    if (gi S3 195 h0) = (2 : Int32) then
      bd (f_X3_isFor E n S3 h1 v4 (gi S3 197 h0)) fun v6 S5 =>
      if v6 = 0 then
        bd (f_X4_failHere E n S5 h0 (2 : Int32)) fun v8 S7 =>
        zc v8 S7
      else
        f_X4_readCourt_J49 E n  S5 h0 h1 v4
    else
      f_X4_readCourt_J49 E n  S3 h0 h1 v4
def f_X5_sameByAll_L2 (E : EN) (n : Nat)  : Nat → WS → Nat → Int32 → Int32 → Option (Int32 × WS)
  | 0 => fun _ _ _ _ => none
  | m + 1 => fun S h0 x1 x2 =>
    if (5 : Int32) ≤ x2 then
      some ((-1 : Int32), S)
    else
      (gr S 266 h0).bind fun b1 =>
      if x1 < 0 ∨ eN E b1 ≤ x1.toNatClampNeg then none else
      if (ai S b1 x1.toNatClampNeg) = ((1 : Int32) <<< (x2 &&& 31)) then
        if x2 = 0 then
          some ((9 : Int32), S)
        else
          some ((x2 - (1 : Int32)), S)
      else
        lt (x2 + (1 : Int32)) fun y2 =>
        f_X5_sameByAll_L2 E n  m S h0 x1 y2
def f_X5_sameByAll (E : EN) (n : Nat) (S : WS) (h0 : Nat) (x1 : Int32) : Option (Int32 × WS) :=
  f_X5_sameByAll_L2 E n  n S h0 x1 (0 : Int32)
def f_X6_holds (E : EN) (n : Nat) (S : WS) (h0 : Nat) (x1 : Int32) (x2 : Int32) : Option (Int32 × WS) :=
  if x1 < 0 then
    some ((0 : Int32), S)
  else
    if x2 < 0 then
      some ((0 : Int32), S)
    else
      if 0 < (lg_cmp ((x1.toInt64) + (x2.toInt64)) ((gi S 321 h0).toInt64)) then
        some ((0 : Int32), S)
      else
        some ((1 : Int32), S)
def f_X6_measures (E : EN) (n : Nat) (S : WS) (h0 : Nat) : Option (Int32 × WS) :=
  if (3 : Int32) = 0 then none else
  some (((gi S 321 h0) / (3 : Int32)), S)
def f_X6_numberAt (E : EN) (n : Nat) (S : WS) (h0 : Nat) (x1 : Int32) : Option (Int64 × WS) :=
  if x1 < 0 then
    some ((-1 : Int64), S)
  else
    (gr S 322 h0).bind fun b1 =>
    if (Int32.ofNat (eN E b1)) ≤ x1 then
      some ((-1 : Int64), S)
    else
      (gr S 322 h0).bind fun b2 =>
      if x1 < 0 ∨ eN E b2 ≤ x1.toNatClampNeg then none else
      some ((aj S b2 x1.toNatClampNeg), S)
def f_X6_pathOf (E : EN) (n : Nat) (S : WS) (h0 : Nat) (x1 : Int32) : Option (Int32 × WS) :=
  bd (f_X6_numberAt E n S h0 (x1 * (3 : Int32))) fun v2 S1 =>
  some ((v2.toInt32), S1)
def f_X6_yearOf (E : EN) (n : Nat) (S : WS) (h0 : Nat) (x1 : Int32) : Option (Int32 × WS) :=
  bd (f_X6_numberAt E n S h0 ((x1 * (3 : Int32)) + (1 : Int32))) fun v2 S1 =>
  some ((v2.toInt32), S1)
def f_X6_leapTold (E : EN) (n : Nat) (S : WS) (h0 : Nat) (x1 : Int32) : Option (Int64 × WS) :=
  bd (f_X6_numberAt E n S h0 ((x1 * (3 : Int32)) + (2 : Int32))) fun v2 S1 =>
  some (v2, S1)
def f_X6_isMeasured_L13 (E : EN) (n : Nat)  : Nat → WS → Nat → Nat → Int32 → Option (Int32 × WS)
  | 0 => fun _ _ _ _ => none
  | m + 1 => fun S h0 h1 x2 =>
    bd (f_X6_measures E n S h0) fun v2 S1 =>
    if v2 ≤ x2 then
      some ((1 : Int32), S1)
    else
      bd (f_X6_numberAt E n S1 h0 (x2 * (3 : Int32))) fun v4 S3 =>
      bd (f_X6_numberAt E n S3 h0 ((x2 * (3 : Int32)) + (1 : Int32))) fun v6 S5 =>
      if (lg_cmp v4 (0 : Int64)) < 0 then
        some ((0 : Int32), S5)
      else
        if 0 ≤ (lg_cmp v4 ((gi S5 131 h1).toInt64)) then
          some ((0 : Int32), S5)
        else
          if (lg_cmp v6 (0 : Int64)) < 0 then
            some ((0 : Int32), S5)
          else
            if (lg_cmp v6 ((gi S5 130 h1).toInt64)) < 0 then
              lt (x2 + (1 : Int32)) fun y7 =>
              f_X6_isMeasured_L13 E n  m S5 h0 h1 y7
            else
              some ((0 : Int32), S5)
def f_X6_isMeasured (E : EN) (n : Nat) (S : WS) (h0 : Nat) (h1 : Nat) : Option (Int32 × WS) :=
  if (3 : Int32) = 0 then none else
  if ((gi S 321 h0) - (gi S 321 h0) / (3 : Int32) * (3 : Int32)) = 0 then
    f_X6_isMeasured_L13 E n  n S h0 h1 (0 : Int32)
  else
    some ((0 : Int32), S)
def f_X8_putNumber_L3 (E : EN) (n : Nat)  : Nat → WS → Nat → Int32 → Int32 → Option (Unit × WS)
  | 0 => fun _ _ _ _ => none
  | m + 1 => fun S h0 x1 x2 =>
    if x2 < 0 then
      some ((), S)
    else
      if (gi S 449 h0) < 0 then
        lt (x2 + (-8 : Int32)) fun y1 =>
        f_X8_putNumber_L3 E n  m S h0 x1 y1
      else
        (gr S 448 h0).bind fun b2 =>
        if (Int32.ofNat (eN E b2)) ≤ (gi S 449 h0) then
          lt (x2 + (-8 : Int32)) fun y3 =>
          f_X8_putNumber_L3 E n  m S h0 x1 y3
        else
          (gr S 448 h0).bind fun b4 =>
          if (gi S 449 h0) < 0 ∨ eN E b4 ≤ (gi S 449 h0).toNatClampNeg then none else
          lt (wi S b4 (upd (ai S b4) (gi S 449 h0).toNatClampNeg (vp_nar .byte (((x1.toUInt32 >>> (x2.toUInt32 &&& Int32.toUInt32 31)).toInt32).toInt8.toInt32)))) fun S5 =>
          lt (si S5 449 h0 ((gi S5 449 h0) + (1 : Int32))) fun S6 =>
          lt (x2 + (-8 : Int32)) fun y7 =>
          f_X8_putNumber_L3 E n  m S6 h0 x1 y7
def f_X8_putNumber (E : EN) (n : Nat) (S : WS) (h0 : Nat) (x1 : Int32) : Option (Unit × WS) :=
  f_X8_putNumber_L3 E n  n S h0 x1 (24 : Int32)
def f_X8_end (E : EN) (n : Nat) (S : WS) (h0 : Nat) (x1 : Int32) : Option (Int32 × WS) :=
  if x1 < 0 then
    some ((-1 : Int32), S)
  else
    if x1 ≤ (gi S 449 h0) then
      lt (si S 449 h0 x1) fun S1 =>
      some (x1, S1)
    else
      some ((-1 : Int32), S)
def f_X8_fault (E : EN) (n : Nat) (S : WS) (h0 : Nat) (x1 : Int32) : Option (Int32 × WS) :=
  if x1 = 0 then
    (gr S 450 h0).bind fun b2 =>
    some ((gi S 198 b2), S)
  else
    if x1 = (1 : Int32) then
      (gr S 450 h0).bind fun b1 =>
      some ((gi S 199 b1), S)
    else
      some ((-1 : Int32), S)
def f_X8_path (E : EN) (n : Nat) (S : WS) (h0 : Nat) (x1 : Int32) (x2 : Int32) : Option (Int32 × WS) :=
  (gr S 451 h0).bind fun b1 =>
  bd (f_X3_hasPath E n S b1 x1) fun v3 S2 =>
  if v3 = 0 then
    some ((-2 : Int32), S2)
  else
    if x2 = (0 : Int32) then
      (gr S2 451 h0).bind fun b4 =>
      (gr S2 136 b4).bind fun b5 =>
      if x1 < 0 ∨ eN E b5 ≤ x1.toNatClampNeg then none else
      some ((ai S2 b5 x1.toNatClampNeg), S2)
    else
    if x2 = (1 : Int32) then
      (gr S2 451 h0).bind fun b6 =>
      (gr S2 137 b6).bind fun b7 =>
      if x1 < 0 ∨ eN E b7 ≤ x1.toNatClampNeg then none else
      some ((ai S2 b7 x1.toNatClampNeg), S2)
    else
    if x2 = (2 : Int32) then
      (gr S2 451 h0).bind fun b8 =>
      bd (f_X3_dropOf E n S2 b8 x1) fun v10 S9 =>
      some (v10, S9)
    else
      some ((-2 : Int32), S2)
def f_X8_court (E : EN) (n : Nat) (S : WS) (h0 : Nat) (x1 : Int32) (x2 : Int32) : Option (Int32 × WS) :=
  (gr S 451 h0).bind fun b1 =>
  bd (f_X3_hasSuitor E n S b1 x1) fun v3 S2 =>
  if v3 = 0 then
    some ((-2 : Int32), S2)
  else
    if x2 = (-1 : Int32) then
      (gr S2 451 h0).bind fun b4 =>
      (gr S2 143 b4).bind fun b5 =>
      if x1 < 0 ∨ eN E b5 ≤ x1.toNatClampNeg then none else
      lt (ai S2 b5 x1.toNatClampNeg) fun y6 =>
      (gr S2 451 h0).bind fun b7 =>
      (gr S2 143 b7).bind fun b8 =>
      if x1 < 0 ∨ eN E b8 ≤ x1.toNatClampNeg then none else
      lt (wi S2 b8 (upd (ai S2 b8) x1.toNatClampNeg x2)) fun S9 =>
      some (y6, S9)
    else
      (gr S2 451 h0).bind fun b10 =>
      bd (f_X3_isFor E n S2 b10 x1 x2) fun v12 S11 =>
      if v12 = 0 then
        some ((-2 : Int32), S11)
      else
        (gr S11 451 h0).bind fun b13 =>
        (gr S11 143 b13).bind fun b14 =>
        if x1 < 0 ∨ eN E b14 ≤ x1.toNatClampNeg then none else
        lt (ai S11 b14 x1.toNatClampNeg) fun y15 =>
        (gr S11 451 h0).bind fun b16 =>
        (gr S11 143 b16).bind fun b17 =>
        if x1 < 0 ∨ eN E b17 ≤ x1.toNatClampNeg then none else
        lt (wi S11 b17 (upd (ai S11 b17) x1.toNatClampNeg x2)) fun S18 =>
        some (y15, S18)
def f_X8_bride (E : EN) (n : Nat) (S : WS) (h0 : Nat) (x1 : Int32) (x2 : Int32) : Option (Int32 × WS) :=
  (gr S 451 h0).bind fun b1 =>
  bd (f_X3_hasBride E n S b1 x1) fun v3 S2 =>
  if v3 = 0 then
    some ((-2 : Int32), S2)
  else
    if x2 = (0 : Int32) then
      (gr S2 451 h0).bind fun b4 =>
      (gr S2 138 b4).bind fun b5 =>
      if x1 < 0 ∨ eN E b5 ≤ x1.toNatClampNeg then none else
      some ((ai S2 b5 x1.toNatClampNeg), S2)
    else
    if x2 = (1 : Int32) then
      (gr S2 451 h0).bind fun b6 =>
      (gr S2 139 b6).bind fun b7 =>
      if x1 < 0 ∨ eN E b7 ≤ x1.toNatClampNeg then none else
      some ((ai S2 b7 x1.toNatClampNeg), S2)
    else
    if x2 = (2 : Int32) then
      (gr S2 451 h0).bind fun b8 =>
      (gr S2 451 h0).bind fun b9 =>
      (gr S2 143 b9).bind fun b10 =>
      bd (f_X3_courtersOf E n S2 b8 b10 x1) fun v12 S11 =>
      some (v12, S11)
    else
    if x2 = (3 : Int32) then
      (gr S2 451 h0).bind fun b13 =>
      (gr S2 451 h0).bind fun b14 =>
      (gr S2 143 b14).bind fun b15 =>
      bd (f_X3_takenBy E n S2 b13 b15 x1) fun v17 S16 =>
      some (v17, S16)
    else
      some ((-2 : Int32), S2)
def f_X8_suitor (E : EN) (n : Nat) (S : WS) (h0 : Nat) (x1 : Int32) (x2 : Int32) : Option (Int32 × WS) :=
  (gr S 451 h0).bind fun b1 =>
  bd (f_X3_hasSuitor E n S b1 x1) fun v3 S2 =>
  if v3 = 0 then
    some ((-2 : Int32), S2)
  else
    if x2 = (0 : Int32) then
      (gr S2 451 h0).bind fun b4 =>
      (gr S2 140 b4).bind fun b5 =>
      if x1 < 0 ∨ eN E b5 ≤ x1.toNatClampNeg then none else
      some ((ai S2 b5 x1.toNatClampNeg), S2)
    else
    if x2 = (1 : Int32) then
      (gr S2 451 h0).bind fun b6 =>
      (gr S2 141 b6).bind fun b7 =>
      if x1 < 0 ∨ eN E b7 ≤ x1.toNatClampNeg then none else
      some ((ai S2 b7 x1.toNatClampNeg), S2)
    else
    if x2 = (2 : Int32) then
      (gr S2 451 h0).bind fun b8 =>
      (gr S2 142 b8).bind fun b9 =>
      if x1 < 0 ∨ eN E b9 ≤ x1.toNatClampNeg then none else
      some ((ai S2 b9 x1.toNatClampNeg), S2)
    else
    if x2 = (3 : Int32) then
      (gr S2 451 h0).bind fun b10 =>
      (gr S2 143 b10).bind fun b11 =>
      if x1 < 0 ∨ eN E b11 ≤ x1.toNatClampNeg then none else
      some ((ai S2 b11 x1.toNatClampNeg), S2)
    else
    if x2 = (4 : Int32) then
      (gr S2 451 h0).bind fun b12 =>
      (gr S2 451 h0).bind fun b13 =>
      (gr S2 143 b13).bind fun b14 =>
      bd (f_X3_isRefused E n S2 b12 b14 x1) fun v16 S15 =>
      if v16 = 0 then
        some ((0 : Int32), S15)
      else
        some ((1 : Int32), S15)
    else
      some ((-2 : Int32), S2)
def f_X8_hearts_L17 (E : EN) (n : Nat)  : Nat → WS → Nat → Int32 → Int32 → Option (Int32 × WS)
  | 0 => fun _ _ _ _ => none
  | m + 1 => fun S h0 x1 x2 =>
    (gr S 451 h0).bind fun b1 =>
    if (gi S 133 b1) ≤ x2 then
      some (x1, S)
    else
      (gr S 451 h0).bind fun b2 =>
      (gr S 451 h0).bind fun b3 =>
      (gr S 143 b3).bind fun b4 =>
      bd (f_X3_isRefused E n S b2 b4 x2) fun v6 S5 =>
      if v6 = 0 then
        lt (x2 + (1 : Int32)) fun y7 =>
        f_X8_hearts_L17 E n  m S5 h0 x1 y7
      else
        lt (x1 + (1 : Int32)) fun y8 =>
        lt (x2 + (1 : Int32)) fun y9 =>
        f_X8_hearts_L17 E n  m S5 h0 y8 y9
def f_X8_hearts (E : EN) (n : Nat) (S : WS) (h0 : Nat) : Option (Int32 × WS) :=
  (gr S 451 h0).bind fun b1 =>
  bd (f_X3_isTold E n S b1) fun v3 S2 =>
  if v3 = 0 then
    some ((-2 : Int32), S2)
  else
    f_X8_hearts_L17 E n  n S2 h0 (0 : Int32) (0 : Int32)
def f_X8_knowsPath (E : EN) (n : Nat) (S : WS) (h0 : Nat) (x1 : Int32) (x2 : Int32) : Option (Int32 × WS) :=
  (gr S 451 h0).bind fun b1 =>
  bd (f_X3_hasPath E n S b1 x1) fun v3 S2 =>
  if v3 = 0 then
    some ((0 : Int32), S2)
  else
    (gr S2 451 h0).bind fun b4 =>
    bd (f_X3_hasYear E n S2 b4 x2) fun v6 S5 =>
    if v6 = 0 then
      some ((0 : Int32), S5)
    else
      some ((1 : Int32), S5)
def f_X8_steps (E : EN) (n : Nat) (S : WS) (h0 : Nat) (x1 : Int32) (x2 : Int32) : Option (Int32 × WS) :=
  bd (f_X8_knowsPath E n S h0 x1 x2) fun v2 S1 =>
  if v2 = 0 then
    some ((-2 : Int32), S1)
  else
    (gr S1 451 h0).bind fun b3 =>
    bd (f_X3_stepsOn E n S1 b3 x1 x2 (-1 : Int32)) fun v5 S4 =>
    some (v5, S4)
def f_X8_whose_L18 (E : EN) (n : Nat)  : Nat → WS → Nat → Int32 → Int32 → Int32 → Int32 → Int32 → Option (Int32 × WS)
  | 0 => fun _ _ _ _ _ _ _ => none
  | m + 1 => fun S h0 x1 x2 x3 x4 x5 =>
    (gr S 451 h0).bind fun b1 =>
    if (gi S 133 b1) ≤ x5 then
      some ((-1 : Int32), S)
    else
      (gr S 451 h0).bind fun b2 =>
      bd (f_X3_hasStep E n S b2 x5 x1 x2) fun v4 S3 =>
      if v4 = 0 then
        lt (x5 + (1 : Int32)) fun y5 =>
        f_X8_whose_L18 E n  m S3 h0 x1 x2 x3 x4 y5
      else
        if x4 = x3 then
          some (x5, S3)
        else
          lt (x4 + (1 : Int32)) fun y6 =>
          lt (x5 + (1 : Int32)) fun y7 =>
          f_X8_whose_L18 E n  m S3 h0 x1 x2 x3 y6 y7
def f_X8_whose (E : EN) (n : Nat) (S : WS) (h0 : Nat) (x1 : Int32) (x2 : Int32) (x3 : Int32) : Option (Int32 × WS) :=
  bd (f_X8_knowsPath E n S h0 x1 x2) fun v2 S1 =>
  if v2 = 0 then
    some ((-2 : Int32), S1)
  else
    f_X8_whose_L18 E n  n S1 h0 x1 x2 x3 (0 : Int32) (0 : Int32)
def f_X8_rots_L24 (E : EN) (n : Nat)  : Nat → WS → Nat → Int32 → Int32 → Option (Int32 × WS)
  | 0 => fun _ _ _ _ => none
  | m + 1 => fun S h0 x1 x2 =>
    if x2 < 0 then
      some ((-1 : Int32), S)
    else
      (gr S 451 h0).bind fun b1 =>
      bd (f_X3_stepsOn E n S b1 x1 x2 (-1 : Int32)) fun v3 S2 =>
      if v3 ≤ 0 then
        lt (x2 + (-1 : Int32)) fun y4 =>
        f_X8_rots_L24 E n  m S2 h0 x1 y4
      else
        (gr S2 451 h0).bind fun b5 =>
        if x2 = ((gi S2 130 b5) - (1 : Int32)) then
          some ((-1 : Int32), S2)
        else
          some ((x2 + (1 : Int32)), S2)
def f_X8_rots (E : EN) (n : Nat) (S : WS) (h0 : Nat) (x1 : Int32) : Option (Int32 × WS) :=
  (gr S 451 h0).bind fun b1 =>
  bd (f_X3_hasPath E n S b1 x1) fun v3 S2 =>
  if v3 = 0 then
    some ((-2 : Int32), S2)
  else
    (gr S2 451 h0).bind fun b4 =>
    lt ((gi S2 130 b4) - (1 : Int32)) fun y5 =>
    f_X8_rots_L24 E n  n S2 h0 x1 y5
def f_X8_couldStep_L3 (E : EN) (n : Nat)  : Nat → WS → Nat → Int32 → Int32 → Int32 → Int32 → Option (Int32 × WS)
  | 0 => fun _ _ _ _ _ _ => none
  | m + 1 => fun S h0 x1 x2 x3 x4 =>
    (gr S 451 h0).bind fun b1 =>
    if (gi S 132 b1) ≤ x4 then
      some ((0 : Int32), S)
    else
      (gr S 451 h0).bind fun b2 =>
      bd (f_X3_isFor E n S b2 x1 x4) fun v4 S3 =>
      if v4 = 0 then
        lt (x4 + (1 : Int32)) fun y5 =>
        f_X8_couldStep_L3 E n  m S3 h0 x1 x2 x3 y5
      else
        (gr S3 451 h0).bind fun b6 =>
        bd (f_X3_wouldStep E n S3 b6 x1 x4 x2 x3) fun v8 S7 =>
        if v8 = 0 then
          lt (x4 + (1 : Int32)) fun y9 =>
          f_X8_couldStep_L3 E n  m S7 h0 x1 x2 x3 y9
        else
          some ((1 : Int32), S7)
def f_X8_couldStep (E : EN) (n : Nat) (S : WS) (h0 : Nat) (x1 : Int32) (x2 : Int32) (x3 : Int32) : Option (Int32 × WS) :=
  f_X8_couldStep_L3 E n  n S h0 x1 x2 x3 (0 : Int32)
def f_X8_worst_L20 (E : EN) (n : Nat)  : Nat → WS → Nat → Int32 → Int32 → Int32 → Int32 → Int32 → Option (Int32 × WS)
  | 0 => fun _ _ _ _ _ _ _ => none
  | m + 1 => fun S h0 x1 x2 x3 x4 x5 =>
    (gr S 451 h0).bind fun b1 =>
    if (gi S 133 b1) ≤ x5 then
      some (x3, S)
    else
      (gr S 451 h0).bind fun b2 =>
      bd (f_X3_hasStep E n S b2 x5 x1 x2) fun v4 S3 =>
      if v4 = 0 then
        lt (x5 + (1 : Int32)) fun y5 =>
        f_X8_worst_L20 E n  m S3 h0 x1 x2 x3 x4 y5
      else
        (gr S3 451 h0).bind fun b6 =>
        bd (f_X3_fallOf E n S3 b6 x5 x2) fun v8 S7 =>
        if v8 ≤ x4 then
          lt (x5 + (1 : Int32)) fun y9 =>
          f_X8_worst_L20 E n  m S7 h0 x1 x2 x3 x4 y9
        else
          (gr S7 451 h0).bind fun b10 =>
          bd (f_X3_fallOf E n S7 b10 x5 x2) fun v12 S11 =>
          lt (x5 + (1 : Int32)) fun y13 =>
          f_X8_worst_L20 E n  m S11 h0 x1 x2 x5 v12 y13
def f_X8_worst (E : EN) (n : Nat) (S : WS) (h0 : Nat) (x1 : Int32) (x2 : Int32) : Option (Int32 × WS) :=
  bd (f_X8_knowsPath E n S h0 x1 x2) fun v2 S1 =>
  if v2 = 0 then
    some ((-2 : Int32), S1)
  else
    f_X8_worst_L20 E n  n S1 h0 x1 x2 (-1 : Int32) (-1 : Int32) (0 : Int32)
def f_X8_dry_L23 (E : EN) (n : Nat)  : Nat → WS → Nat → Int32 → Int32 → Int64 → Int32 → Option (Int32 × WS)
  | 0 => fun _ _ _ _ _ _ => none
  | m + 1 => fun S h0 x1 x2 x3 x5 =>
    (gr S 451 h0).bind fun b1 =>
    if (gi S 130 b1) ≤ x5 then
      some (x2, S)
    else
      (gr S 451 h0).bind fun b2 =>
      bd (f_X3_safeAlong E n S b2 (100000000000000 : Int64) x1 x5) fun v4 S3 =>
      if (lg_cmp v4 x3) ≤ 0 then
        lt (x5 + (1 : Int32)) fun y5 =>
        f_X8_dry_L23 E n  m S3 h0 x1 x2 x3 y5
      else
        lt (x5 + (1 : Int32)) fun y6 =>
        f_X8_dry_L23 E n  m S3 h0 x1 x5 v4 y6
def f_X8_dry (E : EN) (n : Nat) (S : WS) (h0 : Nat) (x1 : Int32) : Option (Int32 × WS) :=
  (gr S 451 h0).bind fun b1 =>
  bd (f_X3_hasPath E n S b1 x1) fun v3 S2 =>
  if v3 = 0 then
    some ((-2 : Int32), S2)
  else
    f_X8_dry_L23 E n  n S2 h0 x1 (0 : Int32) (-1 : Int64) (0 : Int32)
def f_X8_commonDivisor_L9 (E : EN) (n : Nat)  : Nat → WS → Int64 → Int64 → Int32 → Option (Int64 × WS)
  | 0 => fun _ _ _ _ => none
  | m + 1 => fun S x4 x6 x8 =>
    if (200 : Int32) ≤ x8 then
      some (x4, S)
    else
      if (lg_cmp x6 (0 : Int64)) = 0 then
        some (x4, S)
      else
        if x6 = 0 then none else
        lt (x4 - x4 / x6 * x6) fun y1 =>
        lt (x8 + (1 : Int32)) fun y2 =>
        f_X8_commonDivisor_L9 E n  m S x6 y1 y2
def f_X8_commonDivisor (E : EN) (n : Nat) (S : WS) (x0 : Int64) (x2 : Int64) : Option (Int64 × WS) :=
  f_X8_commonDivisor_L9 E n  n S x0 x2 (0 : Int32)
def f_X8_knowsWay (E : EN) (n : Nat) (S : WS) (h0 : Nat) (x1 : Int32) (x2 : Int32) (x3 : Int32) : Option (Int32 × WS) :=
  (gr S 451 h0).bind fun b1 =>
  bd (f_X3_hasWalker E n S b1 x1) fun v3 S2 =>
  if v3 = 0 then
    some ((0 : Int32), S2)
  else
    (gr S2 451 h0).bind fun b4 =>
    bd (f_X3_hasPlace E n S2 b4 x2) fun v6 S5 =>
    if v6 = 0 then
      some ((0 : Int32), S5)
    else
      (gr S5 451 h0).bind fun b7 =>
      bd (f_X3_hasYear E n S5 b7 x3) fun v9 S8 =>
      if v9 = 0 then
        some ((0 : Int32), S8)
      else
        some ((1 : Int32), S8)
def f_X8_passPrice (E : EN) (n : Nat) (S : WS) (h0 : Nat) (x1 : Int32) (x2 : Int32) (x3 : Int32) (x4 : Int32) : Option (Unit × WS) :=
  if x4 = 0 then
    (gr S 461 h0).bind fun b1 =>
    if x1 < 0 ∨ eN E b1 ≤ x1.toNatClampNeg then none else
    lt (imax (ai S b1 x1.toNatClampNeg) x3) fun y2 =>
    (gr S 461 h0).bind fun b3 =>
    (gr S 461 h0).bind fun b4 =>
    if x2 < 0 ∨ eN E b4 ≤ x2.toNatClampNeg then none else
    if x2 < 0 ∨ eN E b3 ≤ x2.toNatClampNeg then none else
    lt (wi S b3 (upd (ai S b3) x2.toNatClampNeg (imin (ai S b4 x2.toNatClampNeg) y2))) fun S5 =>
    some ((), S5)
  else
    (gr S 461 h0).bind fun b6 =>
    if x1 < 0 ∨ eN E b6 ≤ x1.toNatClampNeg then none else
    lt ((ai S b6 x1.toNatClampNeg) + x3) fun y7 =>
    (gr S 461 h0).bind fun b8 =>
    (gr S 461 h0).bind fun b9 =>
    if x2 < 0 ∨ eN E b9 ≤ x2.toNatClampNeg then none else
    if x2 < 0 ∨ eN E b8 ≤ x2.toNatClampNeg then none else
    lt (wi S b8 (upd (ai S b8) x2.toNatClampNeg (imin (ai S b9 x2.toNatClampNeg) y7))) fun S10 =>
    some ((), S10)
def f_X8_slotAt (E : EN) (n : Nat) (S : WS) (h0 : Nat) (x1 : Int32) : Option (Option Nat × WS) :=
  if x1 < 0 then
    some (none, S)
  else
    if (4 : Int32) ≤ x1 then
      some (none, S)
    else
      (gr S 455 h0).bind fun b1 =>
      if x1 < 0 ∨ eN E b1 ≤ x1.toNatClampNeg then none else
      (ar S b1 x1.toNatClampNeg).elim (some (none, S)) (fun b2 => some (some b2, S))
def f_X8_refusalOf (E : EN) (n : Nat) (S : WS) (h0 : Nat) (h1 : Nat) : Option (Int32 × WS) :=
  (gr S 451 h0).bind fun b1 =>
  bd (f_X3_isTold E n S b1) fun v3 S2 =>
  if v3 = 0 then
    some ((-2 : Int32), S2)
  else
    if (gi S2 321 h1) = (-1 : Int32) then
      some ((-6 : Int32), S2)
    else
      (gr S2 451 h0).bind fun b4 =>
      bd (f_X6_isMeasured E n S2 h1 b4) fun v6 S5 =>
      if v6 = 0 then
        some ((-2 : Int32), S5)
      else
        some ((0 : Int32), S5)
def f_X8_endOfWalk_L73 (E : EN) (n : Nat) (k19 : WS → Nat → Int32 → Int64 → Int32 → Option (Int32 × WS)) : Nat → WS → Nat → Int32 → Int64 → Int32 → Int32 → Int32 → Int32 → Int32 → Option (Int32 × WS)
  | 0 => fun _ _ _ _ _ _ _ _ _ => none
  | m + 1 => fun S h0 x3 x4 x6 x7 x8 x9 x10 =>
    (gr S 451 h0).bind fun b1 =>
    if (gi S 133 b1) ≤ x10 then
      lt (x6 + (1 : Int32)) fun y2 =>
      k19 S h0 x3 x4 y2
    else
      (gr S 451 h0).bind fun b3 =>
      bd (f_X3_hasStep E n S b3 x10 x9 x3) fun v5 S4 =>
      if v5 = 0 then
        lt (x10 + (1 : Int32)) fun y6 =>
        f_X8_endOfWalk_L73 E n k19 m S4 h0 x3 x4 x6 x7 x8 x9 y6
      else
        if (2147483648 : Int64) = 0 then none else
        lt ((((1103515245 : Int64) * x4) + (12345 : Int64)) - (((1103515245 : Int64) * x4) + (12345 : Int64)) / (2147483648 : Int64) * (2147483648 : Int64)) fun y7 =>
        if (65536 : Int64) = 0 then none else
        if (100 : Int64) = 0 then none else
        (gr S4 451 h0).bind fun b8 =>
        bd (f_X3_fallOf E n S4 b8 x10 x3) fun v10 S9 =>
        if 0 ≤ (lg_cmp ((y7 / (65536 : Int64)) - (y7 / (65536 : Int64)) / (100 : Int64) * (100 : Int64)) (v10.toInt64)) then
          lt (x10 + (1 : Int32)) fun y11 =>
          f_X8_endOfWalk_L73 E n k19 m S9 h0 x3 y7 x6 x7 x8 x9 y11
        else
          (gr S9 451 h0).bind fun b12 =>
          (gr S9 135 b12).bind fun b13 =>
          if x8 < 0 ∨ eN E b13 ≤ x8.toNatClampNeg then none else
          (gr S9 451 h0).bind fun b14 =>
          (gr S9 135 b14).bind fun b15 =>
          if x7 < 0 ∨ eN E b15 ≤ x7.toNatClampNeg then none else
          if (ai S9 b15 x7.toNatClampNeg) ≤ (ai S9 b13 x8.toNatClampNeg) then
            some (x7, S9)
          else
            some (x8, S9)
def f_X8_endOfWalk_L19 (E : EN) (n : Nat)  : Nat → WS → Nat → Int32 → Int64 → Int32 → Option (Int32 × WS)
  | 0 => fun _ _ _ _ _ => none
  | m + 1 => fun S h0 x3 x4 x6 =>
    (gr S 456 h0).bind fun b1 =>
    if (gi S 392 b1) ≤ x6 then
      (gr S 456 h0).bind fun b2 =>
      (gr S 394 b2).bind fun b3 =>
      (gr S 456 h0).bind fun b4 =>
      if ((gi S 392 b4) - (1 : Int32)) < 0 ∨ eN E b3 ≤ ((gi S 392 b4) - (1 : Int32)).toNatClampNeg then none else
      some ((ai S b3 ((gi S 392 b4) - (1 : Int32)).toNatClampNeg), S)
    else
      (gr S 456 h0).bind fun b5 =>
      (gr S 394 b5).bind fun b6 =>
      if (x6 - (1 : Int32)) < 0 ∨ eN E b6 ≤ (x6 - (1 : Int32)).toNatClampNeg then none else
      lt (ai S b6 (x6 - (1 : Int32)).toNatClampNeg) fun y7 =>
      (gr S 456 h0).bind fun b8 =>
      (gr S 394 b8).bind fun b9 =>
      if x6 < 0 ∨ eN E b9 ≤ x6.toNatClampNeg then none else
      lt (ai S b9 x6.toNatClampNeg) fun y10 =>
      (gr S 451 h0).bind fun b11 =>
      bd (f_X3_pathBetween E n S b11 y7 y10) fun v13 S12 =>
      f_X8_endOfWalk_L73 E n (f_X8_endOfWalk_L19 E n  m) n S12 h0 x3 x4 x6 y7 y10 v13 (0 : Int32)
def f_X8_endOfWalk (E : EN) (n : Nat) (S : WS) (h0 : Nat) (x1 : Int64) (x3 : Int32) : Option (Int32 × WS) :=
  (gr S 456 h0).bind fun b1 =>
  if (gi S 392 b1) = (-1 : Int32) then
    some ((-1 : Int32), S)
  else
    f_X8_endOfWalk_L19 E n  n S h0 x3 x1 (1 : Int32)
def f_X8_courtersAsBits_L4 (E : EN) (n : Nat)  : Nat → WS → Nat → Int32 → Int32 → Option (Int32 × WS)
  | 0 => fun _ _ _ _ => none
  | m + 1 => fun S h0 x1 x2 =>
    (gr S 451 h0).bind fun b1 =>
    if (gi S 133 b1) ≤ x2 then
      some (x1, S)
    else
      (gr S 451 h0).bind fun b2 =>
      (gr S 143 b2).bind fun b3 =>
      if x2 < 0 ∨ eN E b3 ≤ x2.toNatClampNeg then none else
      if (ai S b3 x2.toNatClampNeg) = (-1 : Int32) then
        lt (x2 + (1 : Int32)) fun y4 =>
        f_X8_courtersAsBits_L4 E n  m S h0 x1 y4
      else
        lt (x1 ||| ((1 : Int32) <<< (x2 &&& 31))) fun y5 =>
        lt (x2 + (1 : Int32)) fun y6 =>
        f_X8_courtersAsBits_L4 E n  m S h0 y5 y6
def f_X8_courtersAsBits (E : EN) (n : Nat) (S : WS) (h0 : Nat) : Option (Int32 × WS) :=
  f_X8_courtersAsBits_L4 E n  n S h0 (0 : Int32) (0 : Int32)
def f_X8_slotsWithRows_L4 (E : EN) (n : Nat)  : Nat → WS → Nat → Int32 → Int32 → Option (Int32 × WS)
  | 0 => fun _ _ _ _ => none
  | m + 1 => fun S h0 x1 x2 =>
    if (4 : Int32) ≤ x2 then
      some (x1, S)
    else
      bd (f_X8_slotAt E n S h0 x2) fun v2 S1 =>
      v2.elim (lt (x2 + (1 : Int32)) fun y4 =>
      f_X8_slotsWithRows_L4 E n  m S1 h0 x1 y4) (fun b3 => if (gi S1 321 b3) = (-1 : Int32) then
        lt (x2 + (1 : Int32)) fun y5 =>
        f_X8_slotsWithRows_L4 E n  m S1 h0 x1 y5
      else
        lt (x1 + (1 : Int32)) fun y6 =>
        lt (x2 + (1 : Int32)) fun y7 =>
        f_X8_slotsWithRows_L4 E n  m S1 h0 y6 y7)
def f_X8_slotsWithRows (E : EN) (n : Nat) (S : WS) (h0 : Nat) : Option (Int32 × WS) :=
  f_X8_slotsWithRows_L4 E n  n S h0 (0 : Int32) (0 : Int32)
def f_X8_cutToWidth (E : EN) (n : Nat) (S : WS) (x0 : Int64) (x2 : Int32) : Option (Int64 × WS) :=
  if x2 = (0 : Int32) then
    some ((((x0.toInt32).toInt8.toInt32).toInt64), S)
  else
  if x2 = (1 : Int32) then
    some ((((x0.toInt32).toInt16.toInt32).toInt64), S)
  else
  if x2 = (2 : Int32) then
    some (((x0.toInt32).toInt64), S)
  else
    some (x0, S)
def f_X8_paste (E : EN) (n : Nat) (S : WS) (h0 : Nat) (x1 : Int32) (x2 : Int32) (x3 : Int32) (x4 : Int32) (x5 : Int32) : Option (Int32 × WS) :=
  bd (f_X8_slotAt E n S h0 x1) fun v2 S1 =>
  v2.elim (bd (f_X8_slotAt E n S1 h0 x3) fun v5 S4 =>
  v5.elim (some ((-2 : Int32), S4)) (fun b6 => some ((-2 : Int32), S4))) (fun b3 => bd (f_X8_slotAt E n S1 h0 x3) fun v8 S7 =>
  v8.elim (some ((-2 : Int32), S7)) (fun b9 => if (gi S7 321 b3) = (-1 : Int32) then
    some ((-6 : Int32), S7)
  else
    if (gi S7 321 b9) = (-1 : Int32) then
      some ((-6 : Int32), S7)
    else
      if (gi S7 320 b3) = (gi S7 320 b9) then
        bd (f_X6_holds E n S7 b3 x2 x5) fun v11 S10 =>
        if v11 = 0 then
          some ((-7 : Int32), S10)
        else
          bd (f_X6_holds E n S10 b9 x4 x5) fun v13 S12 =>
          if v13 = 0 then
            some ((-7 : Int32), S12)
          else
            (gr S12 322 b3).bind fun b14 =>
            (gr S12 322 b9).bind fun b15 =>
            if x2 < 0 ∨ x4 < 0 ∨ x5 < 0 ∨ eN E b14 < x2.toNatClampNeg + x5.toNatClampNeg ∨ eN E b15 < x4.toNatClampNeg + x5.toNatClampNeg then none else
            lt (wj S12 b15 (va_cpy (aj S12 b14) (aj S12 b15) x2.toNatClampNeg x4.toNatClampNeg x5.toNatClampNeg)) fun S16 =>
            some ((0 : Int32), S16)
      else
        some ((-8 : Int32), S7)))
def f_X8_copyRow (E : EN) (n : Nat) (S : WS) (h0 : Nat) (h1 : Nat) : Option (Unit × WS) :=
  if (0 : Int32) < 0 ∨ (0 : Int32) < 0 ∨ (imin (Int32.ofNat (eN E h0)) (Int32.ofNat (eN E h1))) < 0 ∨ eN E h0 < (0 : Int32).toNatClampNeg + (imin (Int32.ofNat (eN E h0)) (Int32.ofNat (eN E h1))).toNatClampNeg ∨ eN E h1 < (0 : Int32).toNatClampNeg + (imin (Int32.ofNat (eN E h0)) (Int32.ofNat (eN E h1))).toNatClampNeg then none else
  lt (wi S h1 (va_cpy (ai S h0) (ai S h1) (0 : Int32).toNatClampNeg (0 : Int32).toNatClampNeg (imin (Int32.ofNat (eN E h0)) (Int32.ofNat (eN E h1))).toNatClampNeg)) fun S1 =>
  some ((), S1)
def f_X8_roundedUp (E : EN) (n : Nat) (S : WS) (x0 : Int32) (x1 : Int32) : Option (Int32 × WS) :=
  if x1 ≤ 0 then
    some ((0 : Int32), S)
  else
    if x1 = 0 then none else
    some ((((x0 + x1) - (1 : Int32)) / x1), S)
def f_X8_lacking (E : EN) (n : Nat) (S : WS) (x0 : Int32) (x1 : Int32) (x2 : Int32) : Option (Int32 × WS) :=
  if (x2 * (x1 + (1 : Int32))) < x0 then
    if x2 = 0 then
      some ((-1 : Int32), S)
    else
      bd (f_X8_roundedUp E n S x0 x2) fun v2 S1 =>
      some (((v2 - (1 : Int32)) - x1), S1)
  else
    some ((0 : Int32), S)
def f_X9_in (E : EN) (n : Nat) (S : WS) (x0 : Int64) (x2 : Int64) (x4 : Int64) : Option (Int32 × WS) :=
  if (lg_cmp x0 x2) < 0 then
    some ((0 : Int32), S)
  else
    if 0 < (lg_cmp x0 x4) then
      some ((0 : Int32), S)
    else
      some ((1 : Int32), S)
def f_X9_image_L17 (E : EN) (n : Nat)  : Nat → WS → Nat → Int32 → Int32 → Option (Int32 × WS)
  | 0 => fun _ _ _ _ => none
  | m + 1 => fun S h0 x1 x2 =>
    if (109 : Int32) ≤ x2 then
      (gr S 515 h0).bind fun b1 =>
      if x1 < 0 ∨ eN E b1 ≤ x1.toNatClampNeg then none else
      lt (wi S b1 (upd (ai S b1) x1.toNatClampNeg (vp_nar .boolean (1 : Int32)))) fun S2 =>
      some ((0 : Int32), S2)
    else
      (gr S 514 h0).bind fun b3 =>
      (gr S 513 h0).bind fun b4 =>
      if x2 < 0 ∨ eN E b4 ≤ x2.toNatClampNeg then none else
      if (((109 : Int32) * x1) + x2) < 0 ∨ eN E b3 ≤ (((109 : Int32) * x1) + x2).toNatClampNeg then none else
      lt (wi S b3 (upd (ai S b3) (((109 : Int32) * x1) + x2).toNatClampNeg (ai S b4 x2.toNatClampNeg))) fun S5 =>
      lt (x2 + (1 : Int32)) fun y6 =>
      f_X9_image_L17 E n  m S5 h0 x1 y6
def f_X9_image (E : EN) (n : Nat) (S : WS) (h0 : Nat) (x1 : Int32) : Option (Int32 × WS) :=
  bd (f_X9_in E n S (x1.toInt64) (0 : Int64) (2 : Int64)) fun v2 S1 =>
  if v2 = 0 then
    some ((-2 : Int32), S1)
  else
    f_X9_image_L17 E n  n S1 h0 x1 (0 : Int32)
def f_X9_back_L29 (E : EN) (n : Nat)  : Nat → WS → Nat → Int32 → Int32 → Option (Int32 × WS)
  | 0 => fun _ _ _ _ => none
  | m + 1 => fun S h0 x1 x2 =>
    if (109 : Int32) ≤ x2 then
      some ((0 : Int32), S)
    else
      (gr S 513 h0).bind fun b1 =>
      (gr S 514 h0).bind fun b2 =>
      if (((109 : Int32) * x1) + x2) < 0 ∨ eN E b2 ≤ (((109 : Int32) * x1) + x2).toNatClampNeg then none else
      if x2 < 0 ∨ eN E b1 ≤ x2.toNatClampNeg then none else
      lt (wi S b1 (upd (ai S b1) x2.toNatClampNeg (ai S b2 (((109 : Int32) * x1) + x2).toNatClampNeg))) fun S3 =>
      lt (x2 + (1 : Int32)) fun y4 =>
      f_X9_back_L29 E n  m S3 h0 x1 y4
def f_X9_back (E : EN) (n : Nat) (S : WS) (h0 : Nat) (x1 : Int32) : Option (Int32 × WS) :=
  bd (f_X9_in E n S (x1.toInt64) (0 : Int64) (2 : Int64)) fun v2 S1 =>
  if v2 = 0 then
    some ((-2 : Int32), S1)
  else
    (gr S1 515 h0).bind fun b3 =>
    if x1 < 0 ∨ eN E b3 ≤ x1.toNatClampNeg then none else
    if (ai S1 b3 x1.toNatClampNeg) = 0 then
      some ((-6 : Int32), S1)
    else
      f_X9_back_L29 E n  n S1 h0 x1 (0 : Int32)
def f_X9_isMountain (E : EN) (n : Nat) (S : WS) (h0 : Nat) : Option (Int32 × WS) :=
  (gr S 513 h0).bind fun b1 =>
  if (0 : Int32) < 0 ∨ eN E b1 ≤ (0 : Int32).toNatClampNeg then none else
  if (ai S b1 (0 : Int32).toNatClampNeg) ≤ 0 then
    some ((0 : Int32), S)
  else
    some ((1 : Int32), S)
def f_X9_places (E : EN) (n : Nat) (S : WS) (h0 : Nat) : Option (Int32 × WS) :=
  (gr S 513 h0).bind fun b1 =>
  if (0 : Int32) < 0 ∨ eN E b1 ≤ (0 : Int32).toNatClampNeg then none else
  some ((ai S b1 (0 : Int32).toNatClampNeg), S)
def f_X9_isPlace (E : EN) (n : Nat) (S : WS) (h0 : Nat) (x1 : Int32) : Option (Int32 × WS) :=
  bd (f_X9_places E n S h0) fun v2 S1 =>
  bd (f_X9_in E n S1 (x1.toInt64) (0 : Int64) ((v2 - (1 : Int32)).toInt64)) fun v4 S3 =>
  zc v4 S3
def f_X9_isYear (E : EN) (n : Nat) (S : WS) (h0 : Nat) (x1 : Int64) : Option (Int32 × WS) :=
  (gr S 513 h0).bind fun b1 =>
  if (1 : Int32) < 0 ∨ eN E b1 ≤ (1 : Int32).toNatClampNeg then none else
  bd (f_X9_in E n S x1 (0 : Int64) (((ai S b1 (1 : Int32).toNatClampNeg) - (1 : Int32)).toInt64)) fun v3 S2 =>
  zc v3 S2
def f_X9_isPath (E : EN) (n : Nat) (S : WS) (h0 : Nat) (x1 : Int64) : Option (Int32 × WS) :=
  (gr S 513 h0).bind fun b1 =>
  if (2 : Int32) < 0 ∨ eN E b1 ≤ (2 : Int32).toNatClampNeg then none else
  bd (f_X9_in E n S x1 (0 : Int64) (((ai S b1 (2 : Int32).toNatClampNeg) - (1 : Int32)).toInt64)) fun v3 S2 =>
  zc v3 S2
def f_X9_isBride (E : EN) (n : Nat) (S : WS) (h0 : Nat) (x1 : Int32) : Option (Int32 × WS) :=
  (gr S 513 h0).bind fun b1 =>
  if (3 : Int32) < 0 ∨ eN E b1 ≤ (3 : Int32).toNatClampNeg then none else
  bd (f_X9_in E n S (x1.toInt64) (0 : Int64) (((ai S b1 (3 : Int32).toNatClampNeg) - (1 : Int32)).toInt64)) fun v3 S2 =>
  zc v3 S2
def f_X9_isSuitor (E : EN) (n : Nat) (S : WS) (h0 : Nat) (x1 : Int32) : Option (Int32 × WS) :=
  (gr S 513 h0).bind fun b1 =>
  if (4 : Int32) < 0 ∨ eN E b1 ≤ (4 : Int32).toNatClampNeg then none else
  bd (f_X9_in E n S (x1.toInt64) (0 : Int64) (((ai S b1 (4 : Int32).toNatClampNeg) - (1 : Int32)).toInt64)) fun v3 S2 =>
  zc v3 S2
def f_X9_isWalker (E : EN) (n : Nat) (S : WS) (h0 : Nat) (x1 : Int32) : Option (Int32 × WS) :=
  (gr S 513 h0).bind fun b1 =>
  if (5 : Int32) < 0 ∨ eN E b1 ≤ (5 : Int32).toNatClampNeg then none else
  bd (f_X9_in E n S (x1.toInt64) (0 : Int64) (((ai S b1 (5 : Int32).toNatClampNeg) - (1 : Int32)).toInt64)) fun v3 S2 =>
  zc v3 S2
def f_X9_endOf (E : EN) (n : Nat) (S : WS) (h0 : Nat) (x1 : Int32) (x2 : Int32) : Option (Int32 × WS) :=
  (gr S 513 h0).bind fun b1 =>
  if (((45 : Int32) + ((2 : Int32) * x1)) + x2) < 0 ∨ eN E b1 ≤ (((45 : Int32) + ((2 : Int32) * x1)) + x2).toNatClampNeg then none else
  some ((ai S b1 (((45 : Int32) + ((2 : Int32) * x1)) + x2).toNatClampNeg), S)
def f_X9_dropOf (E : EN) (n : Nat) (S : WS) (h0 : Nat) (x1 : Int32) : Option (Int32 × WS) :=
  (gr S 513 h0).bind fun b1 =>
  bd (f_X9_endOf E n S h0 x1 (0 : Int32)) fun v3 S2 =>
  if ((7 : Int32) + v3) < 0 ∨ eN E b1 ≤ ((7 : Int32) + v3).toNatClampNeg then none else
  (gr S2 513 h0).bind fun b4 =>
  bd (f_X9_endOf E n S2 h0 x1 (1 : Int32)) fun v6 S5 =>
  if ((7 : Int32) + v6) < 0 ∨ eN E b4 ≤ ((7 : Int32) + v6).toNatClampNeg then none else
  some ((iabs ((ai S2 b1 ((7 : Int32) + v3).toNatClampNeg) - (ai S5 b4 ((7 : Int32) + v6).toNatClampNeg))), S5)
def f_X9_pathOf (E : EN) (n : Nat) (S : WS) (h0 : Nat) (x1 : Int32) : Option (Int32 × WS) :=
  (gr S 513 h0).bind fun b1 =>
  if ((65 : Int32) + ((2 : Int32) * x1)) < 0 ∨ eN E b1 ≤ ((65 : Int32) + ((2 : Int32) * x1)).toNatClampNeg then none else
  some ((ai S b1 ((65 : Int32) + ((2 : Int32) * x1)).toNatClampNeg), S)
def f_X9_yearOf (E : EN) (n : Nat) (S : WS) (h0 : Nat) (x1 : Int32) : Option (Int32 × WS) :=
  (gr S 513 h0).bind fun b1 =>
  if (((65 : Int32) + ((2 : Int32) * x1)) + (1 : Int32)) < 0 ∨ eN E b1 ≤ (((65 : Int32) + ((2 : Int32) * x1)) + (1 : Int32)).toNatClampNeg then none else
  some ((ai S b1 (((65 : Int32) + ((2 : Int32) * x1)) + (1 : Int32)).toNatClampNeg), S)
def f_X9_skillOf (E : EN) (n : Nat) (S : WS) (h0 : Nat) (x1 : Int32) : Option (Int32 × WS) :=
  (gr S 513 h0).bind fun b1 =>
  if ((73 : Int32) + ((3 : Int32) * x1)) < 0 ∨ eN E b1 ≤ ((73 : Int32) + ((3 : Int32) * x1)).toNatClampNeg then none else
  some ((ai S b1 ((73 : Int32) + ((3 : Int32) * x1)).toNatClampNeg), S)
def f_X9_spiteOf (E : EN) (n : Nat) (S : WS) (h0 : Nat) (x1 : Int32) : Option (Int32 × WS) :=
  (gr S 513 h0).bind fun b1 =>
  if (((73 : Int32) + ((3 : Int32) * x1)) + (1 : Int32)) < 0 ∨ eN E b1 ≤ (((73 : Int32) + ((3 : Int32) * x1)) + (1 : Int32)).toNatClampNeg then none else
  some ((ai S b1 (((73 : Int32) + ((3 : Int32) * x1)) + (1 : Int32)).toNatClampNeg), S)
def f_X9_isFor (E : EN) (n : Nat) (S : WS) (h0 : Nat) (x1 : Int32) (x2 : Int32) : Option (Int32 × WS) :=
  (gr S 513 h0).bind fun b1 =>
  if (((73 : Int32) + ((3 : Int32) * x1)) + (2 : Int32)) < 0 ∨ eN E b1 ≤ (((73 : Int32) + ((3 : Int32) * x1)) + (2 : Int32)).toNatClampNeg then none else
  if (((ai S b1 (((73 : Int32) + ((3 : Int32) * x1)) + (2 : Int32)).toNatClampNeg) >>> (x2 &&& 31)) &&& (1 : Int32)) = (1 : Int32) then
    some ((1 : Int32), S)
  else
    some ((0 : Int32), S)
def f_X9_leapOf (E : EN) (n : Nat) (S : WS) (h0 : Nat) (x1 : Int32) : Option (Int32 × WS) :=
  (gr S 513 h0).bind fun b1 =>
  if ((94 : Int32) + ((2 : Int32) * x1)) < 0 ∨ eN E b1 ≤ ((94 : Int32) + ((2 : Int32) * x1)).toNatClampNeg then none else
  some ((ai S b1 ((94 : Int32) + ((2 : Int32) * x1)).toNatClampNeg), S)
def f_X9_homeOf (E : EN) (n : Nat) (S : WS) (h0 : Nat) (x1 : Int32) : Option (Int32 × WS) :=
  (gr S 513 h0).bind fun b1 =>
  if (((94 : Int32) + ((2 : Int32) * x1)) + (1 : Int32)) < 0 ∨ eN E b1 ≤ (((94 : Int32) + ((2 : Int32) * x1)) + (1 : Int32)).toNatClampNeg then none else
  some ((ai S b1 (((94 : Int32) + ((2 : Int32) * x1)) + (1 : Int32)).toNatClampNeg), S)
def f_X9_courts (E : EN) (n : Nat) (S : WS) (h0 : Nat) (x1 : Int32) : Option (Int32 × WS) :=
  (gr S 513 h0).bind fun b1 =>
  if ((102 : Int32) + x1) < 0 ∨ eN E b1 ≤ ((102 : Int32) + x1).toNatClampNeg then none else
  some ((ai S b1 ((102 : Int32) + x1).toNatClampNeg), S)
def f_X9_feed_L55 (E : EN) (n : Nat)  : Nat → WS → Nat → Int32 → Option (Int32 × WS)
  | 0 => fun _ _ _ => none
  | m + 1 => fun S h0 x6 =>
    if (20 : Int32) ≤ x6 then
      lt (si S 517 h0 ((gi S 517 h0) + (20 : Int32))) fun S1 =>
      some ((gi S1 517 h0), S1)
    else
      (gr S 516 h0).bind fun b2 =>
      (gr S 518 h0).bind fun b3 =>
      if (4 : Int32) = 0 then none else
      if (x6 / (4 : Int32)) < 0 ∨ eN E b3 ≤ (x6 / (4 : Int32)).toNatClampNeg then none else
      if (4 : Int32) = 0 then none else
      if ((gi S 517 h0) + x6) < 0 ∨ eN E b2 ≤ ((gi S 517 h0) + x6).toNatClampNeg then none else
      lt (wi S b2 (upd (ai S b2) ((gi S 517 h0) + x6).toNatClampNeg (vp_nar .byte (((ai S b3 (x6 / (4 : Int32)).toNatClampNeg) >>> (((24 : Int32) - ((8 : Int32) * (x6 - x6 / (4 : Int32) * (4 : Int32)))) &&& 31)).toInt8.toInt32)))) fun S4 =>
      lt (x6 + (1 : Int32)) fun y5 =>
      f_X9_feed_L55 E n  m S4 h0 y5
def f_X9_feed (E : EN) (n : Nat) (S : WS) (h0 : Nat) (x1 : Int32) (x2 : Int32) (x3 : Int32) (x4 : Int32) (x5 : Int32) : Option (Int32 × WS) :=
  if ((gi S 517 h0) + (20 : Int32)) ≤ (1400 : Int32) then
    (gr S 518 h0).bind fun b1 =>
    if (0 : Int32) < 0 ∨ eN E b1 ≤ (0 : Int32).toNatClampNeg then none else
    lt (wi S b1 (upd (ai S b1) (0 : Int32).toNatClampNeg x1)) fun S2 =>
    (gr S2 518 h0).bind fun b3 =>
    if (1 : Int32) < 0 ∨ eN E b3 ≤ (1 : Int32).toNatClampNeg then none else
    lt (wi S2 b3 (upd (ai S2 b3) (1 : Int32).toNatClampNeg x2)) fun S4 =>
    (gr S4 518 h0).bind fun b5 =>
    if (2 : Int32) < 0 ∨ eN E b5 ≤ (2 : Int32).toNatClampNeg then none else
    lt (wi S4 b5 (upd (ai S4 b5) (2 : Int32).toNatClampNeg x3)) fun S6 =>
    (gr S6 518 h0).bind fun b7 =>
    if (3 : Int32) < 0 ∨ eN E b7 ≤ (3 : Int32).toNatClampNeg then none else
    lt (wi S6 b7 (upd (ai S6 b7) (3 : Int32).toNatClampNeg x4)) fun S8 =>
    (gr S8 518 h0).bind fun b9 =>
    if (4 : Int32) < 0 ∨ eN E b9 ≤ (4 : Int32).toNatClampNeg then none else
    lt (wi S8 b9 (upd (ai S8 b9) (4 : Int32).toNatClampNeg x5)) fun S10 =>
    f_X9_feed_L55 E n  n S10 h0 (0 : Int32)
  else
    some ((-1 : Int32), S)
def f_X9_end (E : EN) (n : Nat) (S : WS) (h0 : Nat) (x1 : Int32) : Option (Int32 × WS) :=
  bd (f_X9_in E n S (x1.toInt64) (0 : Int64) ((gi S 517 h0).toInt64)) fun v2 S1 =>
  if v2 = 0 then
    some ((-1 : Int32), S1)
  else
    lt (si S1 517 h0 x1) fun S3 =>
    some (x1, S3)
def f_X9_see (E : EN) (n : Nat) (S : WS) (h0 : Nat) (x1 : Int32) : Option (Int32 × WS) :=
  if (gi S 519 h0) ≤ x1 then
    some ((-1 : Int32), S)
  else
    (gr S 516 h0).bind fun b1 =>
    if x1 < 0 ∨ eN E b1 ≤ x1.toNatClampNeg then none else
    some (((ai S b1 x1.toNatClampNeg) &&& (255 : Int32)), S)
def f_X9_advance_L144 (E : EN) (n : Nat)  : Nat → WS → Nat → Option (Unit × WS)
  | 0 => fun _ _ => none
  | m + 1 => fun S h0 =>
    bd (f_X9_see E n S h0 (gi S 520 h0)) fun v2 S1 =>
    bd (f_X9_in E n S1 (v2.toInt64) (48 : Int64) (57 : Int64)) fun v4 S3 =>
    if v4 = 0 then
      lt (si S3 522 h0 (2 : Int32)) fun S5 =>
      some ((), S5)
    else
      bd (f_X9_see E n S3 h0 (gi S3 520 h0)) fun v7 S6 =>
      lt (si S6 523 h0 (imin (99999 : Int32) ((((10 : Int32) * (gi S3 523 h0)) + v7) - (48 : Int32)))) fun S8 =>
      lt (si S8 520 h0 ((gi S8 520 h0) + (1 : Int32))) fun S9 =>
      f_X9_advance_L144 E n  m S9 h0
def f_X9_advance_L83 (E : EN) (n : Nat)  : Nat → WS → Nat → Option (Unit × WS)
  | 0 => fun _ _ => none
  | m + 1 => fun S h0 =>
    bd (f_X9_see E n S h0 (gi S 520 h0)) fun v2 S1 =>
    bd (f_X9_in E n S1 (v2.toInt64) (97 : Int64) (122 : Int64)) fun v4 S3 =>
    if v4 = 0 then
      lt (si S3 522 h0 (1 : Int32)) fun S5 =>
      some ((), S5)
    else
      lt (si S3 520 h0 ((gi S3 520 h0) + (1 : Int32))) fun S6 =>
      f_X9_advance_L83 E n  m S6 h0
def f_X9_advance_L0 (E : EN) (n : Nat)  : Nat → WS → Nat → Option (Unit × WS)
  | 0 => fun _ _ => none
  | m + 1 => fun S h0 =>
    bd (f_X9_see E n S h0 (gi S 520 h0)) fun v2 S1 =>
    if v2 = (32 : Int32) then
      lt (si S1 520 h0 ((gi S1 520 h0) + (1 : Int32))) fun S3 =>
      f_X9_advance_L0 E n  m S3 h0
    else
      bd (f_X9_see E n S1 h0 (gi S1 520 h0)) fun v5 S4 =>
      if v5 = (10 : Int32) then
        lt (si S4 520 h0 ((gi S4 520 h0) + (1 : Int32))) fun S19 =>
        f_X9_advance_L0 E n  m S19 h0
      else
        lt (si S4 521 h0 (gi S4 520 h0)) fun S6 =>
        bd (f_X9_see E n S6 h0 (gi S6 520 h0)) fun v8 S7 =>
        if v8 = (-1 : Int32) then
          lt (si S7 522 h0 (0 : Int32)) fun S18 =>
          some ((), S18)
        else
          bd (f_X9_in E n S7 (v8.toInt64) (97 : Int64) (122 : Int64)) fun v10 S9 =>
          if v10 = 0 then
            bd (f_X9_in E n S9 (v8.toInt64) (48 : Int64) (57 : Int64)) fun v12 S11 =>
            if v12 = 0 then
              if v8 = (59 : Int32) then
                lt (si S11 522 h0 (3 : Int32)) fun S15 =>
                lt (si S15 520 h0 ((gi S15 520 h0) + (1 : Int32))) fun S16 =>
                some ((), S16)
              else
                lt (si S11 522 h0 (4 : Int32)) fun S13 =>
                lt (si S13 520 h0 ((gi S13 520 h0) + (1 : Int32))) fun S14 =>
                some ((), S14)
            else
              lt (si S11 523 h0 (0 : Int32)) fun S17 =>
              f_X9_advance_L144 E n  n S17 h0
          else
            f_X9_advance_L83 E n  n S9 h0
def f_X9_advance (E : EN) (n : Nat) (S : WS) (h0 : Nat) : Option (Unit × WS) :=
  f_X9_advance_L0 E n  n S h0
def f_X9_good (E : EN) (n : Nat) (S : WS) (h0 : Nat) : Option (Int32 × WS) :=
  if (gi S 524 h0) = 0 then
    some ((1 : Int32), S)
  else
    some ((0 : Int32), S)
def f_X9_errs (E : EN) (n : Nat) (S : WS) (h0 : Nat) (x1 : Int32) : Option (Unit × WS) :=
  bd (f_X9_good E n S h0) fun v2 S1 =>
  if v2 = 0 then
    some ((), S1)
  else
    lt (si S1 524 h0 x1) fun S3 =>
    lt (si S3 525 h0 (gi S3 521 h0)) fun S4 =>
    some ((), S4)
def f_X9_is_L39 (E : EN) (n : Nat)  : Nat → WS → Nat → Nat → Int32 → Int32 → Option (Int32 × WS)
  | 0 => fun _ _ _ _ _ => none
  | m + 1 => fun S h0 w1 x2 x3 =>
    bd (f_length w1 S) fun v2 S1 =>
    if v2 ≤ x3 then
      zc x2 S1
    else
      if x2 = 0 then
        zc x2 S1
      else
        (gr S1 516 h0).bind fun b3 =>
        if ((gi S1 521 h0) + x3) < 0 ∨ eN E b3 ≤ ((gi S1 521 h0) + x3).toNatClampNeg then none else
        bd (f_charAt w1 S1 x3) fun v5 S4 =>
        if (ai S1 b3 ((gi S1 521 h0) + x3).toNatClampNeg) = v5 then
          lt (x3 + (1 : Int32)) fun y7 =>
          f_X9_is_L39 E n  m S4 h0 w1 (1 : Int32) y7
        else
          lt (x3 + (1 : Int32)) fun y6 =>
          f_X9_is_L39 E n  m S4 h0 w1 (0 : Int32) y6
def f_X9_is (E : EN) (n : Nat) (S : WS) (h0 : Nat) (w1 : Nat) : Option (Int32 × WS) :=
  bd (f_X9_good E n S h0) fun v2 S1 =>
  if v2 = 0 then
    f_X9_is_L39 E n  n S1 h0 w1 (0 : Int32) (0 : Int32)
  else
    if (gi S1 522 h0) = (1 : Int32) then
      bd (f_length w1 S1) fun v4 S3 =>
      if ((gi S1 520 h0) - (gi S1 521 h0)) = v4 then
        f_X9_is_L39 E n  n S3 h0 w1 (1 : Int32) (0 : Int32)
      else
        f_X9_is_L39 E n  n S3 h0 w1 (0 : Int32) (0 : Int32)
    else
      f_X9_is_L39 E n  n S1 h0 w1 (0 : Int32) (0 : Int32)
def f_X9_takes (E : EN) (n : Nat) (S : WS) (h0 : Nat) (w1 : Nat) : Option (Int32 × WS) :=
  bd (f_X9_is E n S h0 w1) fun v2 S1 =>
  if v2 = 0 then
    zc v2 S1
  else
    bd (f_X9_advance E n S1 h0) fun v4 S3 =>
    zc v2 S3
def f_X9_needs (E : EN) (n : Nat) (S : WS) (h0 : Nat) (w1 : Nat) : Option (Unit × WS) :=
  bd (f_X9_takes E n S h0 w1) fun v2 S1 =>
  if v2 = 0 then
    bd (f_X9_errs E n S1 h0 (1 : Int32)) fun v4 S3 =>
    some ((), S3)
  else
    some ((), S1)
def f_X9_number_J20 (E : EN) (n : Nat)  (S : WS) (h0 : Nat) (x1 : Int32) (x2 : Int32) : Option (Int32 × WS) :=
  bd (f_X9_good E n S h0) fun v2 S1 =>
  if v2 = 0 then
    bd (f_X9_good E n S1 h0) fun v4 S3 =>
    if v4 = 0 then
      some ((0 : Int32), S3)
    else
      lt (gi S3 523 h0) fun y5 =>
      bd (f_X9_advance E n S3 h0) fun v7 S6 =>
      some (y5, S6)
  else
    bd (f_X9_in E n S1 ((gi S1 523 h0).toInt64) (x1.toInt64) (x2.toInt64)) fun v9 S8 =>
    if v9 = 0 then
      bd (f_X9_errs E n S8 h0 (2 : Int32)) fun v16 S15 =>
      bd (f_X9_good E n S15 h0) fun v18 S17 =>
      if v18 = 0 then
        some ((0 : Int32), S17)
      else
        lt (gi S17 523 h0) fun y19 =>
        bd (f_X9_advance E n S17 h0) fun v21 S20 =>
        some (y19, S20)
    else
      bd (f_X9_good E n S8 h0) fun v11 S10 =>
      if v11 = 0 then
        some ((0 : Int32), S10)
      else
        lt (gi S10 523 h0) fun y12 =>
        bd (f_X9_advance E n S10 h0) fun v14 S13 =>
        some (y12, S13)
def f_X9_number (E : EN) (n : Nat) (S : WS) (h0 : Nat) (x1 : Int32) (x2 : Int32) : Option (Int32 × WS) :=
  bd (f_X9_good E n S h0) fun v2 S1 =>
  if v2 = 0 then
    f_X9_number_J20 E n  S1 h0 x1 x2
  else
    if (gi S1 522 h0) = (2 : Int32) then
      f_X9_number_J20 E n  S1 h0 x1 x2
    else
      bd (f_X9_errs E n S1 h0 (1 : Int32)) fun v4 S3 =>
      f_X9_number_J20 E n  S3 h0 x1 x2
def f_X9_told (E : EN) (n : Nat) (S : WS) (h0 : Nat) (w1 : Nat) (x2 : Int32) (x3 : Int32) : Option (Int32 × WS) :=
  bd (f_X9_needs E n S h0 w1) fun v2 S1 =>
  bd (f_X9_number E n S1 h0 x2 x3) fun v4 S3 =>
  some (v4, S3)
def f_X9_fault (E : EN) (n : Nat) (S : WS) (h0 : Nat) (x1 : Int32) : Option (Int32 × WS) :=
  if x1 = 0 then
    some ((gi S 524 h0), S)
  else
    if x1 = (1 : Int32) then
      some ((gi S 525 h0), S)
    else
      some ((-1 : Int32), S)
def f_X9_freshPlace (E : EN) (n : Nat) (S : WS) (h0 : Nat) : Option (Int32 × WS) :=
  (gr S 526 h0).bind fun b1 =>
  if (0 : Int32) < 0 ∨ eN E b1 ≤ (0 : Int32).toNatClampNeg then none else
  bd (f_X9_number E n S h0 (0 : Int32) ((ai S b1 (0 : Int32).toNatClampNeg) - (1 : Int32))) fun v3 S2 =>
  some (v3, S2)
def f_X9_freshYear (E : EN) (n : Nat) (S : WS) (h0 : Nat) : Option (Int32 × WS) :=
  (gr S 526 h0).bind fun b1 =>
  if (1 : Int32) < 0 ∨ eN E b1 ≤ (1 : Int32).toNatClampNeg then none else
  bd (f_X9_number E n S h0 (0 : Int32) ((ai S b1 (1 : Int32).toNatClampNeg) - (1 : Int32))) fun v3 S2 =>
  some (v3, S2)
def f_X9_isFreshPath_J44 (E : EN) (n : Nat) (k2 : WS → Nat → Int32 → Int32 → Int32 → Option (Int32 × WS)) (S : WS) (h0 : Nat) (x1 : Int32) (x2 : Int32) (x3 : Int32) (x4 : Int32) : Option (Int32 × WS) :=
  (gr S 526 h0).bind fun b1 =>
  if x4 < 0 ∨ eN E b1 ≤ x4.toNatClampNeg then none else
  if (ai S b1 x4.toNatClampNeg) = x2 then
    (gr S 526 h0).bind fun b3 =>
    if (x4 + (1 : Int32)) < 0 ∨ eN E b3 ≤ (x4 + (1 : Int32)).toNatClampNeg then none else
    if (ai S b3 (x4 + (1 : Int32)).toNatClampNeg) = x1 then
      some ((1 : Int32), S)
    else
      lt (x3 + (1 : Int32)) fun y4 =>
      k2 S h0 x1 x2 y4
  else
    lt (x3 + (1 : Int32)) fun y2 =>
    k2 S h0 x1 x2 y2
def f_X9_isFreshPath_L2 (E : EN) (n : Nat)  : Nat → WS → Nat → Int32 → Int32 → Int32 → Option (Int32 × WS)
  | 0 => fun _ _ _ _ _ => none
  | m + 1 => fun S h0 x1 x2 x3 =>
    (gr S 526 h0).bind fun b1 =>
    if (2 : Int32) < 0 ∨ eN E b1 ≤ (2 : Int32).toNatClampNeg then none else
    if (ai S b1 (2 : Int32).toNatClampNeg) ≤ x3 then
      some ((0 : Int32), S)
    else
      lt ((45 : Int32) + ((2 : Int32) * x3)) fun y2 =>
      (gr S 526 h0).bind fun b3 =>
      if y2 < 0 ∨ eN E b3 ≤ y2.toNatClampNeg then none else
      if (ai S b3 y2.toNatClampNeg) = x1 then
        (gr S 526 h0).bind fun b4 =>
        if (y2 + (1 : Int32)) < 0 ∨ eN E b4 ≤ (y2 + (1 : Int32)).toNatClampNeg then none else
        if (ai S b4 (y2 + (1 : Int32)).toNatClampNeg) = x2 then
          some ((1 : Int32), S)
        else
          f_X9_isFreshPath_J44 E n (f_X9_isFreshPath_L2 E n  m) S h0 x1 x2 x3 y2
      else
        f_X9_isFreshPath_J44 E n (f_X9_isFreshPath_L2 E n  m) S h0 x1 x2 x3 y2
def f_X9_isFreshPath (E : EN) (n : Nat) (S : WS) (h0 : Nat) (x1 : Int32) (x2 : Int32) : Option (Int32 × WS) :=
  f_X9_isFreshPath_L2 E n  n S h0 x1 x2 (0 : Int32)
def f_X9_readPath_J63 (E : EN) (n : Nat)  (S : WS) (h0 : Nat) (x1 : Int32) (x2 : Int32) : Option (Unit × WS) :=
  bd (f_X9_freshPlace E n S h0) fun v2 S1 =>
  bd (f_X9_good E n S1 h0) fun v4 S3 =>
  if v4 = 0 then
    some ((), S3)
  else
    (gr S3 526 h0).bind fun b5 =>
    if x1 < 0 ∨ eN E b5 ≤ x1.toNatClampNeg then none else
    lt (wi S3 b5 (upd (ai S3 b5) x1.toNatClampNeg x2)) fun S6 =>
    (gr S6 526 h0).bind fun b7 =>
    if (x1 + (1 : Int32)) < 0 ∨ eN E b7 ≤ (x1 + (1 : Int32)).toNatClampNeg then none else
    lt (wi S6 b7 (upd (ai S6 b7) (x1 + (1 : Int32)).toNatClampNeg v2)) fun S8 =>
    (gr S8 526 h0).bind fun b9 =>
    if (2 : Int32) < 0 ∨ eN E b9 ≤ (2 : Int32).toNatClampNeg then none else
    if (2 : Int32) < 0 ∨ eN E b9 ≤ (2 : Int32).toNatClampNeg then none else
    lt (wi S8 b9 (upd (ai S8 b9) (2 : Int32).toNatClampNeg ((ai S8 b9 (2 : Int32).toNatClampNeg) + (1 : Int32)))) fun S10 =>
    some ((), S10)
def f_X9_readPath (E : EN) (n : Nat) (S : WS) (h0 : Nat) : Option (Unit × WS) :=
  (gr S 526 h0).bind fun b1 =>
  if (2 : Int32) < 0 ∨ eN E b1 ≤ (2 : Int32).toNatClampNeg then none else
  lt ((45 : Int32) + ((2 : Int32) * (ai S b1 (2 : Int32).toNatClampNeg))) fun y2 =>
  bd (f_X9_freshPlace E n S h0) fun v4 S3 =>
  bd (f_X9_needs E n S3 h0 5) fun v6 S5 =>
  bd (f_X9_good E n S5 h0) fun v8 S7 =>
  if v8 = 0 then
    f_X9_readPath_J63 E n  S7 h0 y2 v4
  else
    if (gi S7 522 h0) = (2 : Int32) then
      if (gi S7 523 h0) = v4 then
        bd (f_X9_errs E n S7 h0 (2 : Int32)) fun v10 S9 =>
        f_X9_readPath_J63 E n  S9 h0 y2 v4
      else
        bd (f_X9_isFreshPath E n S7 h0 v4 (gi S7 523 h0)) fun v12 S11 =>
        if v12 = 0 then
          f_X9_readPath_J63 E n  S11 h0 y2 v4
        else
          bd (f_X9_errs E n S11 h0 (2 : Int32)) fun v14 S13 =>
          f_X9_readPath_J63 E n  S13 h0 y2 v4
    else
      f_X9_readPath_J63 E n  S7 h0 y2 v4
def f_X9_readBride (E : EN) (n : Nat) (S : WS) (h0 : Nat) : Option (Unit × WS) :=
  (gr S 526 h0).bind fun b1 =>
  if (3 : Int32) < 0 ∨ eN E b1 ≤ (3 : Int32).toNatClampNeg then none else
  lt ((65 : Int32) + ((2 : Int32) * (ai S b1 (3 : Int32).toNatClampNeg))) fun y2 =>
  (gr S 526 h0).bind fun b3 =>
  (gr S 526 h0).bind fun b4 =>
  if (2 : Int32) < 0 ∨ eN E b4 ≤ (2 : Int32).toNatClampNeg then none else
  bd (f_X9_told E n S h0 4 (0 : Int32) ((ai S b4 (2 : Int32).toNatClampNeg) - (1 : Int32))) fun v6 S5 =>
  if y2 < 0 ∨ eN E b3 ≤ y2.toNatClampNeg then none else
  lt (wi S5 b3 (upd (ai S5 b3) y2.toNatClampNeg v6)) fun S7 =>
  (gr S7 526 h0).bind fun b8 =>
  (gr S7 526 h0).bind fun b9 =>
  if (1 : Int32) < 0 ∨ eN E b9 ≤ (1 : Int32).toNatClampNeg then none else
  bd (f_X9_told E n S7 h0 7 (0 : Int32) ((ai S7 b9 (1 : Int32).toNatClampNeg) - (1 : Int32))) fun v11 S10 =>
  if (y2 + (1 : Int32)) < 0 ∨ eN E b8 ≤ (y2 + (1 : Int32)).toNatClampNeg then none else
  lt (wi S10 b8 (upd (ai S10 b8) (y2 + (1 : Int32)).toNatClampNeg v11)) fun S12 =>
  (gr S12 526 h0).bind fun b13 =>
  if (3 : Int32) < 0 ∨ eN E b13 ≤ (3 : Int32).toNatClampNeg then none else
  if (3 : Int32) < 0 ∨ eN E b13 ≤ (3 : Int32).toNatClampNeg then none else
  lt (wi S12 b13 (upd (ai S12 b13) (3 : Int32).toNatClampNeg ((ai S12 b13 (3 : Int32).toNatClampNeg) + (1 : Int32)))) fun S14 =>
  some ((), S14)
def f_X9_readSuitor_J138 (E : EN) (n : Nat)  (S : WS) (h0 : Nat) (x1 : Int32) (x2 : Int32) : Option (Unit × WS) :=
  (gr S 526 h0).bind fun b1 =>
  if (x1 + (2 : Int32)) < 0 ∨ eN E b1 ≤ (x1 + (2 : Int32)).toNatClampNeg then none else
  lt (wi S b1 (upd (ai S b1) (x1 + (2 : Int32)).toNatClampNeg x2)) fun S2 =>
  (gr S2 526 h0).bind fun b3 =>
  if (4 : Int32) < 0 ∨ eN E b3 ≤ (4 : Int32).toNatClampNeg then none else
  if (4 : Int32) < 0 ∨ eN E b3 ≤ (4 : Int32).toNatClampNeg then none else
  lt (wi S2 b3 (upd (ai S2 b3) (4 : Int32).toNatClampNeg ((ai S2 b3 (4 : Int32).toNatClampNeg) + (1 : Int32)))) fun S4 =>
  some ((), S4)
def f_X9_readSuitor_J105 (E : EN) (n : Nat) (k52 : WS → Nat → Int32 → Int32 → Option (Unit × WS)) (S : WS) (h0 : Nat) (x1 : Int32) (x2 : Int32) : Option (Unit × WS) :=
  (gr S 526 h0).bind fun b1 =>
  if (3 : Int32) < 0 ∨ eN E b1 ≤ (3 : Int32).toNatClampNeg then none else
  bd (f_X9_number E n S h0 (0 : Int32) ((ai S b1 (3 : Int32).toNatClampNeg) - (1 : Int32))) fun v3 S2 =>
  lt (x2 ||| ((1 : Int32) <<< (v3 &&& 31))) fun y4 =>
  bd (f_X9_good E n S2 h0) fun v6 S5 =>
  if v6 = 0 then
    f_X9_readSuitor_J138 E n  S5 h0 x1 y4
  else
    if (gi S5 522 h0) = (2 : Int32) then
      k52 S5 h0 x1 y4
    else
      f_X9_readSuitor_J138 E n  S5 h0 x1 y4
def f_X9_readSuitor_L52 (E : EN) (n : Nat)  : Nat → WS → Nat → Int32 → Int32 → Option (Unit × WS)
  | 0 => fun _ _ _ _ => none
  | m + 1 => fun S h0 x1 x2 =>
    bd (f_X9_good E n S h0) fun v2 S1 =>
    if v2 = 0 then
      f_X9_readSuitor_J105 E n (f_X9_readSuitor_L52 E n  m) S1 h0 x1 x2
    else
      if (gi S1 522 h0) = (2 : Int32) then
        (gr S1 526 h0).bind fun b3 =>
        if (3 : Int32) < 0 ∨ eN E b3 ≤ (3 : Int32).toNatClampNeg then none else
        bd (f_X9_in E n S1 ((gi S1 523 h0).toInt64) (0 : Int64) (((ai S1 b3 (3 : Int32).toNatClampNeg) - (1 : Int32)).toInt64)) fun v5 S4 =>
        if v5 = 0 then
          f_X9_readSuitor_J105 E n (f_X9_readSuitor_L52 E n  m) S4 h0 x1 x2
        else
          if ((x2 >>> ((gi S4 523 h0) &&& 31)) &&& (1 : Int32)) = (1 : Int32) then
            bd (f_X9_errs E n S4 h0 (2 : Int32)) fun v7 S6 =>
            f_X9_readSuitor_J105 E n (f_X9_readSuitor_L52 E n  m) S6 h0 x1 x2
          else
            f_X9_readSuitor_J105 E n (f_X9_readSuitor_L52 E n  m) S4 h0 x1 x2
      else
        f_X9_readSuitor_J105 E n (f_X9_readSuitor_L52 E n  m) S1 h0 x1 x2
def f_X9_readSuitor (E : EN) (n : Nat) (S : WS) (h0 : Nat) : Option (Unit × WS) :=
  (gr S 526 h0).bind fun b1 =>
  if (4 : Int32) < 0 ∨ eN E b1 ≤ (4 : Int32).toNatClampNeg then none else
  lt ((73 : Int32) + ((3 : Int32) * (ai S b1 (4 : Int32).toNatClampNeg))) fun y2 =>
  (gr S 526 h0).bind fun b3 =>
  bd (f_X9_told E n S h0 9 (0 : Int32) (30 : Int32)) fun v5 S4 =>
  if y2 < 0 ∨ eN E b3 ≤ y2.toNatClampNeg then none else
  lt (wi S4 b3 (upd (ai S4 b3) y2.toNatClampNeg v5)) fun S6 =>
  (gr S6 526 h0).bind fun b7 =>
  bd (f_X9_told E n S6 h0 10 (0 : Int32) (100 : Int32)) fun v9 S8 =>
  if (y2 + (1 : Int32)) < 0 ∨ eN E b7 ≤ (y2 + (1 : Int32)).toNatClampNeg then none else
  lt (wi S8 b7 (upd (ai S8 b7) (y2 + (1 : Int32)).toNatClampNeg v9)) fun S10 =>
  bd (f_X9_needs E n S10 h0 11) fun v12 S11 =>
  f_X9_readSuitor_L52 E n  n S11 h0 y2 (0 : Int32)
def f_X9_readCourt_J78 (E : EN) (n : Nat)  (S : WS) (h0 : Nat) (x1 : Int32) : Option (Unit × WS) :=
  (gr S 526 h0).bind fun b1 =>
  if (3 : Int32) < 0 ∨ eN E b1 ≤ (3 : Int32).toNatClampNeg then none else
  bd (f_X9_number E n S h0 (0 : Int32) ((ai S b1 (3 : Int32).toNatClampNeg) - (1 : Int32))) fun v3 S2 =>
  bd (f_X9_good E n S2 h0) fun v5 S4 =>
  if v5 = 0 then
    some ((), S4)
  else
    (gr S4 526 h0).bind fun b6 =>
    if ((102 : Int32) + x1) < 0 ∨ eN E b6 ≤ ((102 : Int32) + x1).toNatClampNeg then none else
    lt (wi S4 b6 (upd (ai S4 b6) ((102 : Int32) + x1).toNatClampNeg v3)) fun S7 =>
    some ((), S7)
def f_X9_readCourt (E : EN) (n : Nat) (S : WS) (h0 : Nat) : Option (Unit × WS) :=
  (gr S 526 h0).bind fun b1 =>
  if (4 : Int32) < 0 ∨ eN E b1 ≤ (4 : Int32).toNatClampNeg then none else
  bd (f_X9_number E n S h0 (0 : Int32) ((ai S b1 (4 : Int32).toNatClampNeg) - (1 : Int32))) fun v3 S2 =>
  bd (f_X9_good E n S2 h0) fun v5 S4 =>
  if v5 = 0 then
    f_X9_readCourt_J78 E n  S4 h0 v3
  else
    if (gi S4 522 h0) = (2 : Int32) then
      (gr S4 526 h0).bind fun b6 =>
      if (3 : Int32) < 0 ∨ eN E b6 ≤ (3 : Int32).toNatClampNeg then none else
      bd (f_X9_in E n S4 ((gi S4 523 h0).toInt64) (0 : Int64) (((ai S4 b6 (3 : Int32).toNatClampNeg) - (1 : Int32)).toInt64)) fun v8 S7 =>
      if v8 = 0 then
        f_X9_readCourt_J78 E n  S7 h0 v3
      else
        (gr S7 526 h0).bind fun b9 =>
        if (((73 : Int32) + ((3 : Int32) * v3)) + (2 : Int32)) < 0 ∨ eN E b9 ≤ (((73 : Int32) + ((3 : Int32) * v3)) + (2 : Int32)).toNatClampNeg then none else
        if (((ai S7 b9 (((73 : Int32) + ((3 : Int32) * v3)) + (2 : Int32)).toNatClampNeg) >>> ((gi S7 523 h0) &&& 31)) &&& (1 : Int32)) = 0 then
          bd (f_X9_errs E n S7 h0 (2 : Int32)) fun v11 S10 =>
          f_X9_readCourt_J78 E n  S10 h0 v3
        else
          f_X9_readCourt_J78 E n  S7 h0 v3
    else
      f_X9_readCourt_J78 E n  S4 h0 v3
def f_X9_readNext_J161 (E : EN) (n : Nat)  (S : WS) (h0 : Nat) : Option (Unit × WS) :=
  bd (f_X9_good E n S h0) fun v2 S1 =>
  if v2 = 0 then
    some ((), S1)
  else
    bd (f_X9_takes E n S1 h0 3) fun v4 S3 =>
    if v4 = 0 then
      bd (f_X9_takes E n S3 h0 4) fun v6 S5 =>
      if v6 = 0 then
        bd (f_X9_takes E n S5 h0 6) fun v8 S7 =>
        if v8 = 0 then
          bd (f_X9_takes E n S7 h0 8) fun v10 S9 =>
          if v10 = 0 then
            bd (f_X9_takes E n S9 h0 12) fun v12 S11 =>
            if v12 = 0 then
              bd (f_X9_takes E n S11 h0 14) fun v14 S13 =>
              if v14 = 0 then
                bd (f_X9_advance E n S13 h0) fun v16 S15 =>
                bd (f_X9_readCourt E n S15 h0) fun v18 S17 =>
                some ((), S17)
              else
                (gr S13 526 h0).bind fun b19 =>
                if (5 : Int32) < 0 ∨ eN E b19 ≤ (5 : Int32).toNatClampNeg then none else
                lt ((94 : Int32) + ((2 : Int32) * (ai S13 b19 (5 : Int32).toNatClampNeg))) fun y20 =>
                (gr S13 526 h0).bind fun b21 =>
                bd (f_X9_told E n S13 h0 15 (0 : Int32) (99 : Int32)) fun v23 S22 =>
                if y20 < 0 ∨ eN E b21 ≤ y20.toNatClampNeg then none else
                lt (wi S22 b21 (upd (ai S22 b21) y20.toNatClampNeg v23)) fun S24 =>
                (gr S24 526 h0).bind fun b25 =>
                (gr S24 526 h0).bind fun b26 =>
                if (0 : Int32) < 0 ∨ eN E b26 ≤ (0 : Int32).toNatClampNeg then none else
                bd (f_X9_told E n S24 h0 16 (0 : Int32) ((ai S24 b26 (0 : Int32).toNatClampNeg) - (1 : Int32))) fun v28 S27 =>
                if (y20 + (1 : Int32)) < 0 ∨ eN E b25 ≤ (y20 + (1 : Int32)).toNatClampNeg then none else
                lt (wi S27 b25 (upd (ai S27 b25) (y20 + (1 : Int32)).toNatClampNeg v28)) fun S29 =>
                (gr S29 526 h0).bind fun b30 =>
                if (5 : Int32) < 0 ∨ eN E b30 ≤ (5 : Int32).toNatClampNeg then none else
                if (5 : Int32) < 0 ∨ eN E b30 ≤ (5 : Int32).toNatClampNeg then none else
                lt (wi S29 b30 (upd (ai S29 b30) (5 : Int32).toNatClampNeg ((ai S29 b30 (5 : Int32).toNatClampNeg) + (1 : Int32)))) fun S31 =>
                some ((), S31)
            else
              bd (f_X9_freshYear E n S11 h0) fun v33 S32 =>
              bd (f_X9_told E n S32 h0 13 (0 : Int32) (100 : Int32)) fun v35 S34 =>
              bd (f_X9_good E n S34 h0) fun v37 S36 =>
              if v37 = 0 then
                some ((), S36)
              else
                (gr S36 526 h0).bind fun b38 =>
                if ((15 : Int32) + v33) < 0 ∨ eN E b38 ≤ ((15 : Int32) + v33).toNatClampNeg then none else
                lt (wi S36 b38 (upd (ai S36 b38) ((15 : Int32) + v33).toNatClampNeg v35)) fun S39 =>
                some ((), S39)
          else
            bd (f_X9_readSuitor E n S9 h0) fun v41 S40 =>
            some ((), S40)
        else
          bd (f_X9_readBride E n S7 h0) fun v43 S42 =>
          some ((), S42)
      else
        bd (f_X9_readPath E n S5 h0) fun v45 S44 =>
        some ((), S44)
    else
      bd (f_X9_freshPlace E n S3 h0) fun v47 S46 =>
      bd (f_X9_number E n S46 h0 (0 : Int32) (99 : Int32)) fun v49 S48 =>
      bd (f_X9_good E n S48 h0) fun v51 S50 =>
      if v51 = 0 then
        some ((), S50)
      else
        (gr S50 526 h0).bind fun b52 =>
        if ((7 : Int32) + v47) < 0 ∨ eN E b52 ≤ ((7 : Int32) + v47).toNatClampNeg then none else
        lt (wi S50 b52 (upd (ai S50 b52) ((7 : Int32) + v47).toNatClampNeg v49)) fun S53 =>
        some ((), S53)
def f_X9_readNext_J137 (E : EN) (n : Nat)  (S : WS) (h0 : Nat) : Option (Unit × WS) :=
  bd (f_X9_is E n S h0 14) fun v2 S1 =>
  if v2 = 0 then
    f_X9_readNext_J161 E n  S1 h0
  else
    (gr S1 526 h0).bind fun b3 =>
    if (5 : Int32) < 0 ∨ eN E b3 ≤ (5 : Int32).toNatClampNeg then none else
    if (ai S1 b3 (5 : Int32).toNatClampNeg) = (4 : Int32) then
      bd (f_X9_errs E n S1 h0 (3 : Int32)) fun v5 S4 =>
      f_X9_readNext_J161 E n  S4 h0
    else
      f_X9_readNext_J161 E n  S1 h0
def f_X9_readNext_J117 (E : EN) (n : Nat)  (S : WS) (h0 : Nat) : Option (Unit × WS) :=
  bd (f_X9_is E n S h0 8) fun v2 S1 =>
  if v2 = 0 then
    f_X9_readNext_J137 E n  S1 h0
  else
    (gr S1 526 h0).bind fun b3 =>
    if (4 : Int32) < 0 ∨ eN E b3 ≤ (4 : Int32).toNatClampNeg then none else
    if (ai S1 b3 (4 : Int32).toNatClampNeg) = (7 : Int32) then
      bd (f_X9_errs E n S1 h0 (3 : Int32)) fun v5 S4 =>
      f_X9_readNext_J161 E n  S4 h0
    else
      f_X9_readNext_J137 E n  S1 h0
def f_X9_readNext_J98 (E : EN) (n : Nat)  (S : WS) (h0 : Nat) : Option (Unit × WS) :=
  bd (f_X9_is E n S h0 6) fun v2 S1 =>
  if v2 = 0 then
    f_X9_readNext_J117 E n  S1 h0
  else
    (gr S1 526 h0).bind fun b3 =>
    if (3 : Int32) < 0 ∨ eN E b3 ≤ (3 : Int32).toNatClampNeg then none else
    if (ai S1 b3 (3 : Int32).toNatClampNeg) = (4 : Int32) then
      bd (f_X9_errs E n S1 h0 (3 : Int32)) fun v5 S4 =>
      f_X9_readNext_J161 E n  S4 h0
    else
      f_X9_readNext_J117 E n  S1 h0
def f_X9_readNext_J78 (E : EN) (n : Nat)  (S : WS) (h0 : Nat) : Option (Unit × WS) :=
  bd (f_X9_is E n S h0 4) fun v2 S1 =>
  if v2 = 0 then
    f_X9_readNext_J98 E n  S1 h0
  else
    (gr S1 526 h0).bind fun b3 =>
    if (2 : Int32) < 0 ∨ eN E b3 ≤ (2 : Int32).toNatClampNeg then none else
    if (ai S1 b3 (2 : Int32).toNatClampNeg) = (10 : Int32) then
      bd (f_X9_errs E n S1 h0 (3 : Int32)) fun v5 S4 =>
      f_X9_readNext_J161 E n  S4 h0
    else
      f_X9_readNext_J98 E n  S1 h0
def f_X9_readNext (E : EN) (n : Nat) (S : WS) (h0 : Nat) : Option (Unit × WS) :=
  bd (f_X9_is E n S h0 3) fun v2 S1 =>
  if v2 = 0 then
    bd (f_X9_is E n S1 h0 4) fun v4 S3 =>
    if v4 = 0 then
      bd (f_X9_is E n S3 h0 6) fun v6 S5 =>
      if v6 = 0 then
        bd (f_X9_is E n S5 h0 8) fun v8 S7 =>
        if v8 = 0 then
          bd (f_X9_is E n S7 h0 12) fun v10 S9 =>
          if v10 = 0 then
            bd (f_X9_is E n S9 h0 14) fun v12 S11 =>
            if v12 = 0 then
              bd (f_X9_is E n S11 h0 17) fun v14 S13 =>
              if v14 = 0 then
                bd (f_X9_errs E n S13 h0 (1 : Int32)) fun v16 S15 =>
                f_X9_readNext_J78 E n  S15 h0
              else
                f_X9_readNext_J78 E n  S13 h0
            else
              f_X9_readNext_J78 E n  S11 h0
          else
            f_X9_readNext_J78 E n  S9 h0
        else
          f_X9_readNext_J78 E n  S7 h0
      else
        f_X9_readNext_J78 E n  S5 h0
    else
      f_X9_readNext_J78 E n  S3 h0
  else
    f_X9_readNext_J78 E n  S1 h0
def f_X9_readLine_J73 (E : EN) (n : Nat)  (S : WS) (h0 : Nat) : Option (Unit × WS) :=
  bd (f_X9_good E n S h0) fun v2 S1 =>
  if v2 = 0 then
    (gr S1 526 h0).bind fun b3 =>
    if (6 : Int32) < 0 ∨ eN E b3 ≤ (6 : Int32).toNatClampNeg then none else
    if (6 : Int32) < 0 ∨ eN E b3 ≤ (6 : Int32).toNatClampNeg then none else
    lt (wi S1 b3 (upd (ai S1 b3) (6 : Int32).toNatClampNeg ((ai S1 b3 (6 : Int32).toNatClampNeg) + (1 : Int32)))) fun S4 =>
    some ((), S4)
  else
    bd (f_X9_advance E n S1 h0) fun v6 S5 =>
    (gr S5 526 h0).bind fun b7 =>
    if (6 : Int32) < 0 ∨ eN E b7 ≤ (6 : Int32).toNatClampNeg then none else
    if (6 : Int32) < 0 ∨ eN E b7 ≤ (6 : Int32).toNatClampNeg then none else
    lt (wi S5 b7 (upd (ai S5 b7) (6 : Int32).toNatClampNeg ((ai S5 b7 (6 : Int32).toNatClampNeg) + (1 : Int32)))) fun S8 =>
    some ((), S8)
def f_X9_readLine (E : EN) (n : Nat) (S : WS) (h0 : Nat) : Option (Unit × WS) :=
  (gr S 526 h0).bind fun b1 =>
  if (6 : Int32) < 0 ∨ eN E b1 ≤ (6 : Int32).toNatClampNeg then none else
  if (ai S b1 (6 : Int32).toNatClampNeg) = 0 then
    bd (f_X9_needs E n S h0 0) fun v9 S8 =>
    (gr S8 526 h0).bind fun b10 =>
    bd (f_X9_told E n S8 h0 1 (2 : Int32) (8 : Int32)) fun v12 S11 =>
    if (0 : Int32) < 0 ∨ eN E b10 ≤ (0 : Int32).toNatClampNeg then none else
    lt (wi S11 b10 (upd (ai S11 b10) (0 : Int32).toNatClampNeg v12)) fun S13 =>
    (gr S13 526 h0).bind fun b14 =>
    bd (f_X9_told E n S13 h0 2 (1 : Int32) (30 : Int32)) fun v16 S15 =>
    if (1 : Int32) < 0 ∨ eN E b14 ≤ (1 : Int32).toNatClampNeg then none else
    lt (wi S15 b14 (upd (ai S15 b14) (1 : Int32).toNatClampNeg v16)) fun S17 =>
    bd (f_X9_good E n S17 h0) fun v19 S18 =>
    if v19 = 0 then
      f_X9_readLine_J73 E n  S18 h0
    else
      if (gi S18 522 h0) = (3 : Int32) then
        f_X9_readLine_J73 E n  S18 h0
      else
        bd (f_X9_errs E n S18 h0 (1 : Int32)) fun v21 S20 =>
        f_X9_readLine_J73 E n  S20 h0
  else
    bd (f_X9_readNext E n S h0) fun v3 S2 =>
    bd (f_X9_good E n S2 h0) fun v5 S4 =>
    if v5 = 0 then
      f_X9_readLine_J73 E n  S4 h0
    else
      if (gi S4 522 h0) = (3 : Int32) then
        f_X9_readLine_J73 E n  S4 h0
      else
        bd (f_X9_errs E n S4 h0 (1 : Int32)) fun v7 S6 =>
        f_X9_readLine_J73 E n  S6 h0
def f_X9_mountain_L96 (E : EN) (n : Nat)  : Nat → WS → Nat → Int32 → Option (Int32 × WS)
  | 0 => fun _ _ _ => none
  | m + 1 => fun S h0 x1 =>
    if (109 : Int32) ≤ x1 then
      (gr S 513 h0).bind fun b1 =>
      if (6 : Int32) < 0 ∨ eN E b1 ≤ (6 : Int32).toNatClampNeg then none else
      some ((ai S b1 (6 : Int32).toNatClampNeg), S)
    else
      (gr S 513 h0).bind fun b2 =>
      (gr S 526 h0).bind fun b3 =>
      if x1 < 0 ∨ eN E b3 ≤ x1.toNatClampNeg then none else
      if x1 < 0 ∨ eN E b2 ≤ x1.toNatClampNeg then none else
      lt (wi S b2 (upd (ai S b2) x1.toNatClampNeg (ai S b3 x1.toNatClampNeg))) fun S4 =>
      lt (x1 + (1 : Int32)) fun y5 =>
      f_X9_mountain_L96 E n  m S4 h0 y5
def f_X9_mountain_L63 (E : EN) (n : Nat)  : Nat → WS → Nat → Option (Int32 × WS)
  | 0 => fun _ _ => none
  | m + 1 => fun S h0 =>
    bd (f_X9_good E n S h0) fun v2 S1 =>
    if v2 = 0 then
      bd (f_X9_good E n S1 h0) fun v4 S3 =>
      if v4 = 0 then
        some ((-4 : Int32), S3)
      else
        f_X9_mountain_L96 E n  n S3 h0 (0 : Int32)
    else
      if (gi S1 522 h0) = 0 then
        bd (f_X9_good E n S1 h0) fun v6 S5 =>
        if v6 = 0 then
          some ((-4 : Int32), S5)
        else
          f_X9_mountain_L96 E n  n S5 h0 (0 : Int32)
      else
        bd (f_X9_readLine E n S1 h0) fun v8 S7 =>
        f_X9_mountain_L63 E n  m S7 h0
def f_X9_mountain_L30 (E : EN) (n : Nat)  : Nat → WS → Nat → Int32 → Option (Int32 × WS)
  | 0 => fun _ _ _ => none
  | m + 1 => fun S h0 x1 =>
    if (109 : Int32) ≤ x1 then
      bd (f_X9_advance E n S h0) fun v2 S1 =>
      f_X9_mountain_L63 E n  n S1 h0
    else
      (gr S 526 h0).bind fun b3 =>
      if x1 < (102 : Int32) then
        if x1 < 0 ∨ eN E b3 ≤ x1.toNatClampNeg then none else
        lt (wi S b3 (upd (ai S b3) x1.toNatClampNeg (0 : Int32))) fun S4 =>
        lt (x1 + (1 : Int32)) fun y5 =>
        f_X9_mountain_L30 E n  m S4 h0 y5
      else
        if x1 < 0 ∨ eN E b3 ≤ x1.toNatClampNeg then none else
        lt (wi S b3 (upd (ai S b3) x1.toNatClampNeg (-1 : Int32))) fun S6 =>
        lt (x1 + (1 : Int32)) fun y7 =>
        f_X9_mountain_L30 E n  m S6 h0 y7
def f_X9_mountain (E : EN) (n : Nat) (S : WS) (h0 : Nat) : Option (Int32 × WS) :=
  lt (si S 519 h0 (gi S 517 h0)) fun S1 =>
  lt (si S1 517 h0 (0 : Int32)) fun S2 =>
  lt (si S2 520 h0 (0 : Int32)) fun S3 =>
  lt (si S3 524 h0 (0 : Int32)) fun S4 =>
  lt (si S4 525 h0 (-1 : Int32)) fun S5 =>
  f_X9_mountain_L30 E n  n S5 h0 (0 : Int32)
def f_X9_takenBy_L4 (E : EN) (n : Nat)  : Nat → WS → Nat → Int32 → Int32 → Int32 → Option (Int32 × WS)
  | 0 => fun _ _ _ _ _ => none
  | m + 1 => fun S h0 x1 x2 x3 =>
    (gr S 513 h0).bind fun b1 =>
    if (4 : Int32) < 0 ∨ eN E b1 ≤ (4 : Int32).toNatClampNeg then none else
    if (ai S b1 (4 : Int32).toNatClampNeg) ≤ x3 then
      some (x2, S)
    else
      bd (f_X9_courts E n S h0 x3) fun v3 S2 =>
      if v3 = x1 then
        if x2 = (-1 : Int32) then
          lt (x3 + (1 : Int32)) fun y5 =>
          f_X9_takenBy_L4 E n  m S2 h0 x1 x3 y5
        else
          bd (f_X9_skillOf E n S2 h0 x3) fun v7 S6 =>
          bd (f_X9_skillOf E n S6 h0 x2) fun v9 S8 =>
          if v7 ≤ v9 then
            lt (x3 + (1 : Int32)) fun y10 =>
            f_X9_takenBy_L4 E n  m S8 h0 x1 x2 y10
          else
            lt (x3 + (1 : Int32)) fun y11 =>
            f_X9_takenBy_L4 E n  m S8 h0 x1 x3 y11
      else
        lt (x3 + (1 : Int32)) fun y4 =>
        f_X9_takenBy_L4 E n  m S2 h0 x1 x2 y4
def f_X9_takenBy (E : EN) (n : Nat) (S : WS) (h0 : Nat) (x1 : Int32) : Option (Int32 × WS) :=
  f_X9_takenBy_L4 E n  n S h0 x1 (-1 : Int32) (0 : Int32)
def f_X9_isRefused (E : EN) (n : Nat) (S : WS) (h0 : Nat) (x1 : Int32) : Option (Int32 × WS) :=
  bd (f_X9_courts E n S h0 x1) fun v2 S1 =>
  if v2 = (-1 : Int32) then
    some ((0 : Int32), S1)
  else
    bd (f_X9_courts E n S1 h0 x1) fun v4 S3 =>
    bd (f_X9_takenBy E n S3 h0 v4) fun v6 S5 =>
    if v6 = x1 then
      some ((0 : Int32), S5)
    else
      some ((1 : Int32), S5)
def f_X9_heartsNow_L4 (E : EN) (n : Nat)  : Nat → WS → Nat → Int32 → Int32 → Option (Int32 × WS)
  | 0 => fun _ _ _ _ => none
  | m + 1 => fun S h0 x1 x2 =>
    (gr S 513 h0).bind fun b1 =>
    if (4 : Int32) < 0 ∨ eN E b1 ≤ (4 : Int32).toNatClampNeg then none else
    if (ai S b1 (4 : Int32).toNatClampNeg) ≤ x2 then
      some (x1, S)
    else
      bd (f_X9_isRefused E n S h0 x2) fun v3 S2 =>
      if v3 = 0 then
        lt (x1 + (0 : Int32)) fun y4 =>
        lt (x2 + (1 : Int32)) fun y5 =>
        f_X9_heartsNow_L4 E n  m S2 h0 y4 y5
      else
        lt (x1 + (1 : Int32)) fun y6 =>
        lt (x2 + (1 : Int32)) fun y7 =>
        f_X9_heartsNow_L4 E n  m S2 h0 y6 y7
def f_X9_heartsNow (E : EN) (n : Nat) (S : WS) (h0 : Nat) : Option (Int32 × WS) :=
  f_X9_heartsNow_L4 E n  n S h0 (0 : Int32) (0 : Int32)
def f_X9_hasStep (E : EN) (n : Nat) (S : WS) (h0 : Nat) (x1 : Int32) (x2 : Int32) (x3 : Int32) : Option (Int32 × WS) :=
  bd (f_X9_courts E n S h0 x1) fun v2 S1 =>
  if v2 = (-1 : Int32) then
    some ((0 : Int32), S1)
  else
    if x1 = (gi S1 527 h0) then
      some ((0 : Int32), S1)
    else
      bd (f_X9_pathOf E n S1 h0 v2) fun v4 S3 =>
      if v4 = x2 then
        bd (f_X9_yearOf E n S3 h0 v2) fun v6 S5 =>
        bd (f_X9_yearOf E n S5 h0 v2) fun v8 S7 =>
        bd (f_X9_skillOf E n S7 h0 x1) fun v10 S9 =>
        bd (f_X9_in E n S9 (x3.toInt64) (v6.toInt64) ((v8 + v10).toInt64)) fun v12 S11 =>
        if v12 = 0 then
          some ((0 : Int32), S11)
        else
          some ((1 : Int32), S11)
      else
        some ((0 : Int32), S3)
def f_X9_stepsOf_L5 (E : EN) (n : Nat)  : Nat → WS → Nat → Int32 → Int32 → Int32 → Int32 → Option (Int32 × WS)
  | 0 => fun _ _ _ _ _ _ => none
  | m + 1 => fun S h0 x1 x2 x3 x4 =>
    (gr S 513 h0).bind fun b1 =>
    if (4 : Int32) < 0 ∨ eN E b1 ≤ (4 : Int32).toNatClampNeg then none else
    if (ai S b1 (4 : Int32).toNatClampNeg) ≤ x4 then
      some (x3, S)
    else
      bd (f_X9_hasStep E n S h0 x4 x1 x2) fun v3 S2 =>
      if v3 = 0 then
        lt (x3 + (0 : Int32)) fun y4 =>
        lt (x4 + (1 : Int32)) fun y5 =>
        f_X9_stepsOf_L5 E n  m S2 h0 x1 x2 y4 y5
      else
        lt (x3 + (1 : Int32)) fun y6 =>
        lt (x4 + (1 : Int32)) fun y7 =>
        f_X9_stepsOf_L5 E n  m S2 h0 x1 x2 y6 y7
def f_X9_stepsOf (E : EN) (n : Nat) (S : WS) (h0 : Nat) (x1 : Int32) (x2 : Int32) : Option (Int32 × WS) :=
  f_X9_stepsOf_L5 E n  n S h0 x1 x2 (0 : Int32) (0 : Int32)
def f_X9_leapBy (E : EN) (n : Nat) (S : WS) (x0 : Int32) (x1 : Int32) : Option (Int32 × WS) :=
  if (x1 + (1 : Int32)) = 0 then none else
  some (((x0 + x1) / (x1 + (1 : Int32))), S)
def f_X9_leapNow (E : EN) (n : Nat) (S : WS) (h0 : Nat) (x1 : Int32) (x2 : Int32) : Option (Int32 × WS) :=
  bd (f_X9_dropOf E n S h0 x1) fun v2 S1 =>
  bd (f_X9_stepsOf E n S1 h0 x1 x2) fun v4 S3 =>
  bd (f_X9_leapBy E n S3 v2 v4) fun v6 S5 =>
  some (v6, S5)
def f_X9_path (E : EN) (n : Nat) (S : WS) (h0 : Nat) (x1 : Int32) (x2 : Int32) : Option (Int32 × WS) :=
  bd (f_X9_isPath E n S h0 (x1.toInt64)) fun v2 S1 =>
  if v2 = 0 then
    some ((-2 : Int32), S1)
  else
    bd (f_X9_in E n S1 (x2.toInt64) (0 : Int64) (2 : Int64)) fun v4 S3 =>
    if v4 = 0 then
      some ((-2 : Int32), S3)
    else
      if x2 = (2 : Int32) then
        bd (f_X9_dropOf E n S3 h0 x1) fun v8 S7 =>
        some (v8, S7)
      else
        bd (f_X9_endOf E n S3 h0 x1 x2) fun v6 S5 =>
        some (v6, S5)
def f_X9_court (E : EN) (n : Nat) (S : WS) (h0 : Nat) (x1 : Int32) (x2 : Int32) : Option (Int32 × WS) :=
  bd (f_X9_isSuitor E n S h0 x1) fun v2 S1 =>
  if v2 = 0 then
    some ((-2 : Int32), S1)
  else
    if x2 = (-1 : Int32) then
      bd (f_X9_courts E n S1 h0 x1) fun v4 S3 =>
      (gr S3 513 h0).bind fun b5 =>
      if ((102 : Int32) + x1) < 0 ∨ eN E b5 ≤ ((102 : Int32) + x1).toNatClampNeg then none else
      lt (wi S3 b5 (upd (ai S3 b5) ((102 : Int32) + x1).toNatClampNeg x2)) fun S6 =>
      some (v4, S6)
    else
      bd (f_X9_isBride E n S1 h0 x2) fun v8 S7 =>
      if v8 = 0 then
        some ((-2 : Int32), S7)
      else
        bd (f_X9_isFor E n S7 h0 x1 x2) fun v10 S9 =>
        if v10 = 0 then
          some ((-2 : Int32), S9)
        else
          bd (f_X9_courts E n S9 h0 x1) fun v12 S11 =>
          (gr S11 513 h0).bind fun b13 =>
          if ((102 : Int32) + x1) < 0 ∨ eN E b13 ≤ ((102 : Int32) + x1).toNatClampNeg then none else
          lt (wi S11 b13 (upd (ai S11 b13) ((102 : Int32) + x1).toNatClampNeg x2)) fun S14 =>
          some (v12, S14)
def f_X9_bride_L28 (E : EN) (n : Nat)  : Nat → WS → Nat → Int32 → Int32 → Int32 → Int32 → Option (Int32 × WS)
  | 0 => fun _ _ _ _ _ _ => none
  | m + 1 => fun S h0 x1 x2 x3 x4 =>
    (gr S 513 h0).bind fun b1 =>
    if (4 : Int32) < 0 ∨ eN E b1 ≤ (4 : Int32).toNatClampNeg then none else
    if (ai S b1 (4 : Int32).toNatClampNeg) ≤ x4 then
      if x2 = 0 then
        bd (f_X9_pathOf E n S h0 x1) fun v7 S6 =>
        some (v7, S6)
      else
        if x2 = (1 : Int32) then
          bd (f_X9_yearOf E n S h0 x1) fun v5 S4 =>
          some (v5, S4)
        else
          if x2 = (2 : Int32) then
            some (x3, S)
          else
            bd (f_X9_takenBy E n S h0 x1) fun v3 S2 =>
            some (v3, S2)
    else
      bd (f_X9_courts E n S h0 x4) fun v9 S8 =>
      if v9 = x1 then
        lt (x3 + (1 : Int32)) fun y12 =>
        lt (x4 + (1 : Int32)) fun y13 =>
        f_X9_bride_L28 E n  m S8 h0 x1 x2 y12 y13
      else
        lt (x3 + (0 : Int32)) fun y10 =>
        lt (x4 + (1 : Int32)) fun y11 =>
        f_X9_bride_L28 E n  m S8 h0 x1 x2 y10 y11
def f_X9_bride (E : EN) (n : Nat) (S : WS) (h0 : Nat) (x1 : Int32) (x2 : Int32) : Option (Int32 × WS) :=
  bd (f_X9_isBride E n S h0 x1) fun v2 S1 =>
  if v2 = 0 then
    some ((-2 : Int32), S1)
  else
    bd (f_X9_in E n S1 (x2.toInt64) (0 : Int64) (3 : Int64)) fun v4 S3 =>
    if v4 = 0 then
      some ((-2 : Int32), S3)
    else
      f_X9_bride_L28 E n  n S3 h0 x1 x2 (0 : Int32) (0 : Int32)
def f_X9_suitor (E : EN) (n : Nat) (S : WS) (h0 : Nat) (x1 : Int32) (x2 : Int32) : Option (Int32 × WS) :=
  bd (f_X9_isSuitor E n S h0 x1) fun v2 S1 =>
  if v2 = 0 then
    some ((-2 : Int32), S1)
  else
    bd (f_X9_in E n S1 (x2.toInt64) (0 : Int64) (4 : Int64)) fun v4 S3 =>
    if v4 = 0 then
      some ((-2 : Int32), S3)
    else
      if x2 = 0 then
        bd (f_X9_skillOf E n S3 h0 x1) fun v13 S12 =>
        some (v13, S12)
      else
        if x2 = (1 : Int32) then
          bd (f_X9_spiteOf E n S3 h0 x1) fun v11 S10 =>
          some (v11, S10)
        else
          if x2 = (2 : Int32) then
            (gr S3 513 h0).bind fun b9 =>
            if (((73 : Int32) + ((3 : Int32) * x1)) + (2 : Int32)) < 0 ∨ eN E b9 ≤ (((73 : Int32) + ((3 : Int32) * x1)) + (2 : Int32)).toNatClampNeg then none else
            some ((ai S3 b9 (((73 : Int32) + ((3 : Int32) * x1)) + (2 : Int32)).toNatClampNeg), S3)
          else
            if x2 = (3 : Int32) then
              bd (f_X9_courts E n S3 h0 x1) fun v8 S7 =>
              some (v8, S7)
            else
              bd (f_X9_isRefused E n S3 h0 x1) fun v6 S5 =>
              if v6 = 0 then
                some ((0 : Int32), S5)
              else
                some ((1 : Int32), S5)
def f_X9_hearts (E : EN) (n : Nat) (S : WS) (h0 : Nat) : Option (Int32 × WS) :=
  bd (f_X9_isMountain E n S h0) fun v2 S1 =>
  if v2 = 0 then
    some ((-2 : Int32), S1)
  else
    bd (f_X9_heartsNow E n S1 h0) fun v4 S3 =>
    some (v4, S3)
def f_X9_areSo (E : EN) (n : Nat) (S : WS) (h0 : Nat) (x1 : Int32) (x2 : Int32) : Option (Int32 × WS) :=
  bd (f_X9_isPath E n S h0 (x1.toInt64)) fun v2 S1 =>
  if v2 = 0 then
    some ((0 : Int32), S1)
  else
    bd (f_X9_isYear E n S1 h0 (x2.toInt64)) fun v4 S3 =>
    if v4 = 0 then
      some ((0 : Int32), S3)
    else
      some ((1 : Int32), S3)
def f_X9_steps (E : EN) (n : Nat) (S : WS) (h0 : Nat) (x1 : Int32) (x2 : Int32) : Option (Int32 × WS) :=
  bd (f_X9_areSo E n S h0 x1 x2) fun v2 S1 =>
  if v2 = 0 then
    some ((-2 : Int32), S1)
  else
    bd (f_X9_stepsOf E n S1 h0 x1 x2) fun v4 S3 =>
    some (v4, S3)
def f_X9_whose_L18 (E : EN) (n : Nat)  : Nat → WS → Nat → Int32 → Int32 → Int32 → Int32 → Int32 → Option (Int32 × WS)
  | 0 => fun _ _ _ _ _ _ _ => none
  | m + 1 => fun S h0 x1 x2 x3 x4 x5 =>
    (gr S 513 h0).bind fun b1 =>
    if (4 : Int32) < 0 ∨ eN E b1 ≤ (4 : Int32).toNatClampNeg then none else
    if (ai S b1 (4 : Int32).toNatClampNeg) ≤ x5 then
      some ((-1 : Int32), S)
    else
      bd (f_X9_hasStep E n S h0 x5 x1 x2) fun v3 S2 =>
      if v3 = 0 then
        lt (x5 + (1 : Int32)) fun y6 =>
        f_X9_whose_L18 E n  m S2 h0 x1 x2 x3 x4 y6
      else
        if x4 = x3 then
          some (x5, S2)
        else
          lt (x4 + (1 : Int32)) fun y4 =>
          lt (x5 + (1 : Int32)) fun y5 =>
          f_X9_whose_L18 E n  m S2 h0 x1 x2 x3 y4 y5
def f_X9_whose (E : EN) (n : Nat) (S : WS) (h0 : Nat) (x1 : Int32) (x2 : Int32) (x3 : Int32) : Option (Int32 × WS) :=
  bd (f_X9_areSo E n S h0 x1 x2) fun v2 S1 =>
  if v2 = 0 then
    some ((-2 : Int32), S1)
  else
    f_X9_whose_L18 E n  n S1 h0 x1 x2 x3 (0 : Int32) (0 : Int32)
def f_X9_leap (E : EN) (n : Nat) (S : WS) (h0 : Nat) (x1 : Int32) (x2 : Int32) : Option (Int32 × WS) :=
  bd (f_X9_areSo E n S h0 x1 x2) fun v2 S1 =>
  if v2 = 0 then
    some ((-2 : Int32), S1)
  else
    bd (f_X9_leapNow E n S1 h0 x1 x2) fun v4 S3 =>
    some (v4, S3)
def f_X9_rots_L16 (E : EN) (n : Nat)  : Nat → WS → Nat → Int32 → Int32 → Int32 → Option (Int32 × WS)
  | 0 => fun _ _ _ _ _ => none
  | m + 1 => fun S h0 x1 x2 x3 =>
    (gr S 513 h0).bind fun b1 =>
    if (1 : Int32) < 0 ∨ eN E b1 ≤ (1 : Int32).toNatClampNeg then none else
    if (ai S b1 (1 : Int32).toNatClampNeg) ≤ x3 then
      if x2 = (-1 : Int32) then
        some ((-1 : Int32), S)
      else
        (gr S 513 h0).bind fun b2 =>
        if (1 : Int32) < 0 ∨ eN E b2 ≤ (1 : Int32).toNatClampNeg then none else
        if x2 = ((ai S b2 (1 : Int32).toNatClampNeg) - (1 : Int32)) then
          some ((-1 : Int32), S)
        else
          some ((x2 + (1 : Int32)), S)
    else
      bd (f_X9_stepsOf E n S h0 x1 x3) fun v4 S3 =>
      if v4 ≤ 0 then
        lt (x3 + (1 : Int32)) fun y5 =>
        f_X9_rots_L16 E n  m S3 h0 x1 x2 y5
      else
        lt (x3 + (1 : Int32)) fun y6 =>
        f_X9_rots_L16 E n  m S3 h0 x1 x3 y6
def f_X9_rots (E : EN) (n : Nat) (S : WS) (h0 : Nat) (x1 : Int32) : Option (Int32 × WS) :=
  bd (f_X9_isPath E n S h0 (x1.toInt64)) fun v2 S1 =>
  if v2 = 0 then
    some ((-2 : Int32), S1)
  else
    f_X9_rots_L16 E n  n S1 h0 x1 (-1 : Int32) (0 : Int32)
def f_X9_lacksOf_L23 (E : EN) (n : Nat)  : Nat → WS → Nat → Int32 → Int32 → Int32 → Int32 → Int32 → Option (Int32 × WS)
  | 0 => fun _ _ _ _ _ _ _ => none
  | m + 1 => fun S h0 x1 x2 x3 x4 x5 =>
    bd (f_X9_stepsOf E n S h0 x1 x2) fun v2 S1 =>
    bd (f_X9_leapBy E n S1 x4 (v2 + x5)) fun v4 S3 =>
    if v4 ≤ x3 then
      some (x5, S3)
    else
      lt (x5 + (1 : Int32)) fun y5 =>
      f_X9_lacksOf_L23 E n  m S3 h0 x1 x2 x3 x4 y5
def f_X9_lacksOf (E : EN) (n : Nat) (S : WS) (h0 : Nat) (x1 : Int32) (x2 : Int32) (x3 : Int32) : Option (Int32 × WS) :=
  bd (f_X9_dropOf E n S h0 x1) fun v2 S1 =>
  if x3 = 0 then
    if v2 ≤ 0 then
      f_X9_lacksOf_L23 E n  n S1 h0 x1 x2 x3 v2 (0 : Int32)
    else
      some ((1000000 : Int32), S1)
  else
    f_X9_lacksOf_L23 E n  n S1 h0 x1 x2 x3 v2 (0 : Int32)
def f_X9_lacks (E : EN) (n : Nat) (S : WS) (h0 : Nat) (x1 : Int32) (x2 : Int32) (x3 : Int32) : Option (Int32 × WS) :=
  bd (f_X9_areSo E n S h0 x1 x2) fun v2 S1 =>
  if v2 = 0 then
    some ((-2 : Int32), S1)
  else
    bd (f_X9_in E n S1 (x3.toInt64) (0 : Int64) (99 : Int64)) fun v4 S3 =>
    if v4 = 0 then
      some ((-2 : Int32), S3)
    else
      bd (f_X9_lacksOf E n S3 h0 x1 x2 x3) fun v6 S5 =>
      if v6 = (1000000 : Int32) then
        some ((-1 : Int32), S5)
      else
        some (v6, S5)
def f_X9_fallOf (E : EN) (n : Nat) (S : WS) (h0 : Nat) (x1 : Int32) (x2 : Int32) : Option (Int32 × WS) :=
  (gr S 513 h0).bind fun b1 =>
  if ((15 : Int32) + x2) < 0 ∨ eN E b1 ≤ ((15 : Int32) + x2).toNatClampNeg then none else
  bd (f_X9_isRefused E n S h0 x1) fun v3 S2 =>
  if v3 = 0 then
    some ((imin (100 : Int32) ((ai S b1 ((15 : Int32) + x2).toNatClampNeg) + (0 : Int32))), S2)
  else
    bd (f_X9_spiteOf E n S2 h0 x1) fun v5 S4 =>
    some ((imin (100 : Int32) ((ai S b1 ((15 : Int32) + x2).toNatClampNeg) + v5)), S4)
def f_X9_safeBy_L6 (E : EN) (n : Nat)  : Nat → WS → Nat → Int32 → Int32 → Int64 → Int32 → Option (Int64 × WS)
  | 0 => fun _ _ _ _ _ _ => none
  | m + 1 => fun S h0 x3 x4 x5 x7 =>
    (gr S 513 h0).bind fun b1 =>
    if (4 : Int32) < 0 ∨ eN E b1 ≤ (4 : Int32).toNatClampNeg then none else
    if (ai S b1 (4 : Int32).toNatClampNeg) ≤ x7 then
      some (x5, S)
    else
      bd (f_X9_hasStep E n S h0 x7 x3 x4) fun v3 S2 =>
      if v3 = 0 then
        lt (x7 + (1 : Int32)) fun y4 =>
        f_X9_safeBy_L6 E n  m S2 h0 x3 x4 x5 y4
      else
        if (100 : Int64) = 0 then none else
        bd (f_X9_fallOf E n S2 h0 x7 x4) fun v6 S5 =>
        lt ((x5 / (100 : Int64)) * (((100 : Int32) - v6).toInt64)) fun y7 =>
        lt (x7 + (1 : Int32)) fun y8 =>
        f_X9_safeBy_L6 E n  m S5 h0 x3 x4 y7 y8
def f_X9_safeBy (E : EN) (n : Nat) (S : WS) (h0 : Nat) (x1 : Int64) (x3 : Int32) (x4 : Int32) : Option (Int64 × WS) :=
  f_X9_safeBy_L6 E n  n S h0 x3 x4 x1 (0 : Int32)
def f_X9_divisor_L6 (E : EN) (n : Nat)  : Nat → WS → Int64 → Int64 → Option (Int64 × WS)
  | 0 => fun _ _ _ => none
  | m + 1 => fun S x4 x6 =>
    if (lg_cmp x6 (0 : Int64)) = 0 then
      some (x4, S)
    else
      if x6 = 0 then none else
      lt (x4 - x4 / x6 * x6) fun y1 =>
      f_X9_divisor_L6 E n  m S x6 y1
def f_X9_divisor (E : EN) (n : Nat) (S : WS) (x0 : Int64) (x2 : Int64) : Option (Int64 × WS) :=
  f_X9_divisor_L6 E n  n S x0 x2
def f_X9_part (E : EN) (n : Nat) (S : WS) (x0 : Int64) (x2 : Int32) : Option (Int64 × WS) :=
  if x2 = 0 then
    bd (f_X9_divisor E n S x0 (100000000000000 : Int64)) fun v4 S3 =>
    if v4 = 0 then none else
    some ((x0 / v4), S3)
  else
    bd (f_X9_divisor E n S x0 (100000000000000 : Int64)) fun v2 S1 =>
    if v2 = 0 then none else
    some (((100000000000000 : Int64) / v2), S1)
def f_X9_safe (E : EN) (n : Nat) (S : WS) (h0 : Nat) (x1 : Int32) (x2 : Int32) (x3 : Int32) : Option (Int64 × WS) :=
  bd (f_X9_areSo E n S h0 x1 x2) fun v2 S1 =>
  if v2 = 0 then
    some ((-2 : Int64), S1)
  else
    bd (f_X9_in E n S1 (x3.toInt64) (0 : Int64) (1 : Int64)) fun v4 S3 =>
    if v4 = 0 then
      some ((-2 : Int64), S3)
    else
      bd (f_X9_safeBy E n S3 h0 (100000000000000 : Int64) x1 x2) fun v6 S5 =>
      bd (f_X9_part E n S5 v6 x3) fun v8 S7 =>
      some (v8, S7)
def f_X9_pathBetween_J32 (E : EN) (n : Nat) (k2 : WS → Nat → Int32 → Int32 → Int32 → Option (Int32 × WS)) (S : WS) (h0 : Nat) (x1 : Int32) (x2 : Int32) (x3 : Int32) : Option (Int32 × WS) :=
  bd (f_X9_endOf E n S h0 x3 (0 : Int32)) fun v2 S1 =>
  if v2 = x2 then
    bd (f_X9_endOf E n S1 h0 x3 (1 : Int32)) fun v5 S4 =>
    if v5 = x1 then
      some (x3, S4)
    else
      lt (x3 + (1 : Int32)) fun y6 =>
      k2 S4 h0 x1 x2 y6
  else
    lt (x3 + (1 : Int32)) fun y3 =>
    k2 S1 h0 x1 x2 y3
def f_X9_pathBetween_L2 (E : EN) (n : Nat)  : Nat → WS → Nat → Int32 → Int32 → Int32 → Option (Int32 × WS)
  | 0 => fun _ _ _ _ _ => none
  | m + 1 => fun S h0 x1 x2 x3 =>
    (gr S 513 h0).bind fun b1 =>
    if (2 : Int32) < 0 ∨ eN E b1 ≤ (2 : Int32).toNatClampNeg then none else
    if (ai S b1 (2 : Int32).toNatClampNeg) ≤ x3 then
      some ((-1 : Int32), S)
    else
      bd (f_X9_endOf E n S h0 x3 (0 : Int32)) fun v3 S2 =>
      if v3 = x1 then
        bd (f_X9_endOf E n S2 h0 x3 (1 : Int32)) fun v5 S4 =>
        if v5 = x2 then
          some (x3, S4)
        else
          f_X9_pathBetween_J32 E n (f_X9_pathBetween_L2 E n  m) S4 h0 x1 x2 x3
      else
        f_X9_pathBetween_J32 E n (f_X9_pathBetween_L2 E n  m) S2 h0 x1 x2 x3
def f_X9_pathBetween (E : EN) (n : Nat) (S : WS) (h0 : Nat) (x1 : Int32) (x2 : Int32) : Option (Int32 × WS) :=
  f_X9_pathBetween_L2 E n  n S h0 x1 x2 (0 : Int32)
def f_X9_opens_L7 (E : EN) (n : Nat)  : Nat → WS → Nat → Int32 → Int32 → Int32 → Option (Unit × WS)
  | 0 => fun _ _ _ _ _ => none
  | m + 1 => fun S h0 x1 x2 x3 =>
    (gr S 513 h0).bind fun b1 =>
    if (2 : Int32) < 0 ∨ eN E b1 ≤ (2 : Int32).toNatClampNeg then none else
    if (ai S b1 (2 : Int32).toNatClampNeg) ≤ x3 then
      some ((), S)
    else
      bd (f_X9_leapNow E n S h0 x3 x2) fun v3 S2 =>
      if x1 < v3 then
        lt (si S2 528 h0 ((gi S 528 h0) ||| (0 : Int32))) fun S4 =>
        lt (x3 + (1 : Int32)) fun y5 =>
        f_X9_opens_L7 E n  m S4 h0 x1 x2 y5
      else
        lt (si S2 528 h0 ((gi S 528 h0) ||| ((1 : Int32) <<< (x3 &&& 31)))) fun S6 =>
        lt (x3 + (1 : Int32)) fun y7 =>
        f_X9_opens_L7 E n  m S6 h0 x1 x2 y7
def f_X9_opens (E : EN) (n : Nat) (S : WS) (h0 : Nat) (x1 : Int32) (x2 : Int32) : Option (Unit × WS) :=
  lt (si S 528 h0 (0 : Int32)) fun S1 =>
  f_X9_opens_L7 E n  n S1 h0 x1 x2 (0 : Int32)
def f_X9_reachFrom_L16 (E : EN) (n : Nat) (k6 : WS → Nat → Int32 → Int32 → Option (Int32 × WS)) : Nat → WS → Nat → Int32 → Int32 → Int32 → Option (Int32 × WS)
  | 0 => fun _ _ _ _ _ => none
  | m + 1 => fun S h0 x2 x3 x4 =>
    (gr S 513 h0).bind fun b1 =>
    if (2 : Int32) < 0 ∨ eN E b1 ≤ (2 : Int32).toNatClampNeg then none else
    if (ai S b1 (2 : Int32).toNatClampNeg) ≤ x4 then
      k6 S h0 x2 x3
    else
      bd (f_X9_endOf E n S h0 x4 (0 : Int32)) fun v3 S2 =>
      bd (f_X9_endOf E n S2 h0 x4 (1 : Int32)) fun v5 S4 =>
      lt (((1 : Int32) <<< (v3 &&& 31)) ||| ((1 : Int32) <<< (v5 &&& 31))) fun y6 =>
      if (((gi S4 528 h0) >>> (x4 &&& 31)) &&& (1 : Int32)) = (1 : Int32) then
        if (x2 &&& y6) = 0 then
          lt (x4 + (1 : Int32)) fun y8 =>
          f_X9_reachFrom_L16 E n k6 m S4 h0 x2 x3 y8
        else
          lt (x2 ||| y6) fun y9 =>
          lt (x4 + (1 : Int32)) fun y10 =>
          f_X9_reachFrom_L16 E n k6 m S4 h0 y9 x3 y10
      else
        lt (x4 + (1 : Int32)) fun y7 =>
        f_X9_reachFrom_L16 E n k6 m S4 h0 x2 x3 y7
def f_X9_reachFrom_L6 (E : EN) (n : Nat)  : Nat → WS → Nat → Int32 → Int32 → Option (Int32 × WS)
  | 0 => fun _ _ _ _ => none
  | m + 1 => fun S h0 x2 x3 =>
    if x3 = x2 then
      some (x2, S)
    else
      f_X9_reachFrom_L16 E n (f_X9_reachFrom_L6 E n  m) n S h0 x2 x2 (0 : Int32)
def f_X9_reachFrom (E : EN) (n : Nat) (S : WS) (h0 : Nat) (x1 : Int32) : Option (Int32 × WS) :=
  lt ((1 : Int32) <<< (x1 &&& 31)) fun y1 =>
  f_X9_reachFrom_L6 E n  n S h0 y1 (0 : Int32)
def f_X9_canCome (E : EN) (n : Nat) (S : WS) (h0 : Nat) (x1 : Int32) (x2 : Int32) (x3 : Int32) : Option (Int32 × WS) :=
  bd (f_X9_leapOf E n S h0 x1) fun v2 S1 =>
  bd (f_X9_opens E n S1 h0 v2 x3) fun v4 S3 =>
  bd (f_X9_homeOf E n S3 h0 x1) fun v6 S5 =>
  bd (f_X9_reachFrom E n S5 h0 v6) fun v8 S7 =>
  if ((v8 >>> (x2 &&& 31)) &&& (1 : Int32)) = (1 : Int32) then
    some ((1 : Int32), S7)
  else
    some ((0 : Int32), S7)
def f_X9_found_L105 (E : EN) (n : Nat)  : Nat → WS → Nat → Int32 → Int32 → Option (Unit × WS)
  | 0 => fun _ _ _ _ => none
  | m + 1 => fun S h0 x1 x2 =>
    if x1 ≤ x2 then
      lt (si S 536 h0 x1) fun S1 =>
      (gr S1 531 h0).bind fun b2 =>
      if (x1 - (1 : Int32)) < 0 ∨ eN E b2 ≤ (x1 - (1 : Int32)).toNatClampNeg then none else
      lt (sj S1 537 h0 (aj S1 b2 (x1 - (1 : Int32)).toNatClampNeg)) fun S3 =>
      some ((), S3)
    else
      (gr S 535 h0).bind fun b4 =>
      (gr S 529 h0).bind fun b5 =>
      if x2 < 0 ∨ eN E b5 ≤ x2.toNatClampNeg then none else
      if x2 < 0 ∨ eN E b4 ≤ x2.toNatClampNeg then none else
      lt (wi S b4 (upd (ai S b4) x2.toNatClampNeg (ai S b5 x2.toNatClampNeg))) fun S6 =>
      lt (x2 + (1 : Int32)) fun y7 =>
      f_X9_found_L105 E n  m S6 h0 x1 y7
def f_X9_found_J55 (E : EN) (n : Nat)  (S : WS) (h0 : Nat) (x1 : Int32) : Option (Unit × WS) :=
  if (gi S 536 h0) ≤ 0 then
    f_X9_found_L105 E n  n S h0 x1 (0 : Int32)
  else
    (gr S 531 h0).bind fun b1 =>
    if (x1 - (1 : Int32)) < 0 ∨ eN E b1 ≤ (x1 - (1 : Int32)).toNatClampNeg then none else
    if (lg_cmp (aj S b1 (x1 - (1 : Int32)).toNatClampNeg) (gj S 537 h0)) < 0 then
      some ((), S)
    else
      (gr S 531 h0).bind fun b2 =>
      if (x1 - (1 : Int32)) < 0 ∨ eN E b2 ≤ (x1 - (1 : Int32)).toNatClampNeg then none else
      if (lg_cmp (aj S b2 (x1 - (1 : Int32)).toNatClampNeg) (gj S 537 h0)) = 0 then
        if x1 < (gi S 536 h0) then
          f_X9_found_L105 E n  n S h0 x1 (0 : Int32)
        else
          some ((), S)
      else
        f_X9_found_L105 E n  n S h0 x1 (0 : Int32)
def f_X9_found_L27 (E : EN) (n : Nat)  : Nat → WS → Nat → Int32 → Int32 → Option (Unit × WS)
  | 0 => fun _ _ _ _ => none
  | m + 1 => fun S h0 x1 x2 =>
    if x1 ≤ x2 then
      lt (si S 534 h0 x1) fun S1 =>
      f_X9_found_J55 E n  S1 h0 x1
    else
      (gr S 533 h0).bind fun b2 =>
      (gr S 529 h0).bind fun b3 =>
      if x2 < 0 ∨ eN E b3 ≤ x2.toNatClampNeg then none else
      if x2 < 0 ∨ eN E b2 ≤ x2.toNatClampNeg then none else
      lt (wi S b2 (upd (ai S b2) x2.toNatClampNeg (ai S b3 x2.toNatClampNeg))) fun S4 =>
      lt (x2 + (1 : Int32)) fun y5 =>
      f_X9_found_L27 E n  m S4 h0 x1 y5
def f_X9_found (E : EN) (n : Nat) (S : WS) (h0 : Nat) (x1 : Int32) : Option (Unit × WS) :=
  lt (si S 532 h0 ((gi S 532 h0) + (1 : Int32))) fun S1 =>
  if (gi S1 534 h0) = 0 then
    f_X9_found_L27 E n  n S1 h0 x1 (0 : Int32)
  else
    if (gi S1 534 h0) ≤ x1 then
      f_X9_found_J55 E n  S1 h0 x1
    else
      f_X9_found_L27 E n  n S1 h0 x1 (0 : Int32)
def f_X9_isNew_L2 (E : EN) (n : Nat)  : Nat → WS → Nat → Int32 → Int32 → Int32 → Option (Int32 × WS)
  | 0 => fun _ _ _ _ _ => none
  | m + 1 => fun S h0 x1 x2 x3 =>
    if x2 ≤ x3 then
      some ((1 : Int32), S)
    else
      (gr S 529 h0).bind fun b1 =>
      if x3 < 0 ∨ eN E b1 ≤ x3.toNatClampNeg then none else
      if (ai S b1 x3.toNatClampNeg) = x1 then
        some ((0 : Int32), S)
      else
        lt (x3 + (1 : Int32)) fun y2 =>
        f_X9_isNew_L2 E n  m S h0 x1 x2 y2
def f_X9_isNew (E : EN) (n : Nat) (S : WS) (h0 : Nat) (x1 : Int32) (x2 : Int32) : Option (Int32 × WS) :=
  f_X9_isNew_L2 E n  n S h0 x1 x2 (0 : Int32)
def f_X9_allWays_L55 (E : EN) (n : Nat)  : Nat → WS → Nat → Int32 → Int32 → Int32 → Option (Unit × WS)
  | 0 => fun _ _ _ _ _ => none
  | m + 1 => fun S h0 x2 x3 x4 =>
    if x4 ≤ 0 then
      some ((), S)
    else
      (gr S 529 h0).bind fun b1 =>
      if (x4 - (1 : Int32)) < 0 ∨ eN E b1 ≤ (x4 - (1 : Int32)).toNatClampNeg then none else
      lt (ai S b1 (x4 - (1 : Int32)).toNatClampNeg) fun y2 =>
      if y2 = x2 then
        bd (f_X9_found E n S h0 x4) fun v26 S25 =>
        lt (x4 + (-1 : Int32)) fun y27 =>
        f_X9_allWays_L55 E n  m S25 h0 x2 x3 y27
      else
        (gr S 530 h0).bind fun b3 =>
        lt (x4 - (1 : Int32)) fun y4 =>
        if y4 < 0 ∨ eN E b3 ≤ y4.toNatClampNeg then none else
        if y4 < 0 ∨ eN E b3 ≤ y4.toNatClampNeg then none else
        lt (wi S b3 (upd (ai S b3) y4.toNatClampNeg ((ai S b3 y4.toNatClampNeg) + (1 : Int32)))) fun S5 =>
        (gr S5 530 h0).bind fun b6 =>
        if (x4 - (1 : Int32)) < 0 ∨ eN E b6 ≤ (x4 - (1 : Int32)).toNatClampNeg then none else
        lt (ai S5 b6 (x4 - (1 : Int32)).toNatClampNeg) fun y7 =>
        bd (f_X9_places E n S5 h0) fun v9 S8 =>
        if y7 < v9 then
          bd (f_X9_pathBetween E n S8 h0 y2 y7) fun v11 S10 =>
          if v11 = (-1 : Int32) then
            f_X9_allWays_L55 E n  m S10 h0 x2 x3 x4
          else
            if (((gi S10 528 h0) >>> (v11 &&& 31)) &&& (1 : Int32)) = 0 then
              f_X9_allWays_L55 E n  m S10 h0 x2 x3 x4
            else
              bd (f_X9_isNew E n S10 h0 y7 x4) fun v13 S12 =>
              if v13 = 0 then
                f_X9_allWays_L55 E n  m S12 h0 x2 x3 x4
              else
                (gr S12 529 h0).bind fun b14 =>
                if x4 < 0 ∨ eN E b14 ≤ x4.toNatClampNeg then none else
                lt (wi S12 b14 (upd (ai S12 b14) x4.toNatClampNeg y7)) fun S15 =>
                (gr S15 531 h0).bind fun b16 =>
                (gr S15 531 h0).bind fun b17 =>
                if (x4 - (1 : Int32)) < 0 ∨ eN E b17 ≤ (x4 - (1 : Int32)).toNatClampNeg then none else
                bd (f_X9_safeBy E n S15 h0 (aj S15 b17 (x4 - (1 : Int32)).toNatClampNeg) v11 x3) fun v19 S18 =>
                if x4 < 0 ∨ eN E b16 ≤ x4.toNatClampNeg then none else
                lt (wj S18 b16 (vp_updL (aj S18 b16) x4.toNatClampNeg v19)) fun S20 =>
                (gr S20 530 h0).bind fun b21 =>
                if x4 < 0 ∨ eN E b21 ≤ x4.toNatClampNeg then none else
                lt (wi S20 b21 (upd (ai S20 b21) x4.toNatClampNeg (-1 : Int32))) fun S22 =>
                lt (x4 + (1 : Int32)) fun y23 =>
                f_X9_allWays_L55 E n  m S22 h0 x2 x3 y23
        else
          lt (x4 + (-1 : Int32)) fun y24 =>
          f_X9_allWays_L55 E n  m S8 h0 x2 x3 y24
def f_X9_allWays (E : EN) (n : Nat) (S : WS) (h0 : Nat) (x1 : Int32) (x2 : Int32) (x3 : Int32) : Option (Unit × WS) :=
  bd (f_X9_leapOf E n S h0 x1) fun v2 S1 =>
  bd (f_X9_opens E n S1 h0 v2 x3) fun v4 S3 =>
  lt (si S3 532 h0 (0 : Int32)) fun S5 =>
  lt (si S5 534 h0 (0 : Int32)) fun S6 =>
  lt (si S6 536 h0 (0 : Int32)) fun S7 =>
  (gr S7 529 h0).bind fun b8 =>
  bd (f_X9_homeOf E n S7 h0 x1) fun v10 S9 =>
  if (0 : Int32) < 0 ∨ eN E b8 ≤ (0 : Int32).toNatClampNeg then none else
  lt (wi S9 b8 (upd (ai S9 b8) (0 : Int32).toNatClampNeg v10)) fun S11 =>
  (gr S11 531 h0).bind fun b12 =>
  if (0 : Int32) < 0 ∨ eN E b12 ≤ (0 : Int32).toNatClampNeg then none else
  lt (wj S11 b12 (vp_updL (aj S11 b12) (0 : Int32).toNatClampNeg (100000000000000 : Int64))) fun S13 =>
  (gr S13 530 h0).bind fun b14 =>
  if (0 : Int32) < 0 ∨ eN E b14 ≤ (0 : Int32).toNatClampNeg then none else
  lt (wi S13 b14 (upd (ai S13 b14) (0 : Int32).toNatClampNeg (-1 : Int32))) fun S15 =>
  f_X9_allWays_L55 E n  n S15 h0 x2 x3 (1 : Int32)
def f_X9_isAsked (E : EN) (n : Nat) (S : WS) (h0 : Nat) (x1 : Int32) (x2 : Int32) (x3 : Int32) : Option (Int32 × WS) :=
  bd (f_X9_isWalker E n S h0 x1) fun v2 S1 =>
  if v2 = 0 then
    some ((0 : Int32), S1)
  else
    bd (f_X9_isPlace E n S1 h0 x2) fun v4 S3 =>
    if v4 = 0 then
      some ((0 : Int32), S3)
    else
      bd (f_X9_isYear E n S3 h0 (x3.toInt64)) fun v6 S5 =>
      if v6 = 0 then
        some ((0 : Int32), S5)
      else
        some ((1 : Int32), S5)
def f_X9_reach (E : EN) (n : Nat) (S : WS) (h0 : Nat) (x1 : Int32) (x2 : Int32) : Option (Int32 × WS) :=
  bd (f_X9_isWalker E n S h0 x1) fun v2 S1 =>
  if v2 = 0 then
    some ((-2 : Int32), S1)
  else
    bd (f_X9_isYear E n S1 h0 (x2.toInt64)) fun v4 S3 =>
    if v4 = 0 then
      some ((-2 : Int32), S3)
    else
      bd (f_X9_leapOf E n S3 h0 x1) fun v6 S5 =>
      bd (f_X9_opens E n S5 h0 v6 x2) fun v8 S7 =>
      bd (f_X9_homeOf E n S7 h0 x1) fun v10 S9 =>
      bd (f_X9_reachFrom E n S9 h0 v10) fun v12 S11 =>
      some (v12, S11)
def f_X9_shortest (E : EN) (n : Nat) (S : WS) (h0 : Nat) (x1 : Int32) (x2 : Int32) (x3 : Int32) : Option (Int32 × WS) :=
  bd (f_X9_isAsked E n S h0 x1 x2 x3) fun v2 S1 =>
  if v2 = 0 then
    some ((-2 : Int32), S1)
  else
    bd (f_X9_allWays E n S1 h0 x1 x2 x3) fun v4 S3 =>
    if (gi S3 534 h0) = 0 then
      some ((-1 : Int32), S3)
    else
      some ((gi S3 534 h0), S3)
def f_X9_goes (E : EN) (n : Nat) (S : WS) (h0 : Nat) (x1 : Int32) (x2 : Int32) (x3 : Int32) (x4 : Int32) : Option (Int32 × WS) :=
  bd (f_X9_isAsked E n S h0 x1 x2 x3) fun v2 S1 =>
  if v2 = 0 then
    some ((-2 : Int32), S1)
  else
    bd (f_X9_allWays E n S1 h0 x1 x2 x3) fun v4 S3 =>
    bd (f_X9_in E n S3 (x4.toInt64) (0 : Int64) (((gi S3 534 h0) - (1 : Int32)).toInt64)) fun v6 S5 =>
    if v6 = 0 then
      some ((-1 : Int32), S5)
    else
      (gr S5 533 h0).bind fun b7 =>
      if x4 < 0 ∨ eN E b7 ≤ x4.toNatClampNeg then none else
      some ((ai S5 b7 x4.toNatClampNeg), S5)
def f_X9_safest (E : EN) (n : Nat) (S : WS) (h0 : Nat) (x1 : Int32) (x2 : Int32) (x3 : Int32) (x4 : Int32) : Option (Int64 × WS) :=
  bd (f_X9_isAsked E n S h0 x1 x2 x3) fun v2 S1 =>
  if v2 = 0 then
    some ((-2 : Int64), S1)
  else
    bd (f_X9_in E n S1 (x4.toInt64) (0 : Int64) (2 : Int64)) fun v4 S3 =>
    if v4 = 0 then
      some ((-2 : Int64), S3)
    else
      bd (f_X9_allWays E n S3 h0 x1 x2 x3) fun v6 S5 =>
      if (gi S5 536 h0) = 0 then
        some ((-1 : Int64), S5)
      else
        if x4 = (2 : Int32) then
          some (((gi S5 536 h0).toInt64), S5)
        else
          bd (f_X9_part E n S5 (gj S5 537 h0) x4) fun v8 S7 =>
          some (v8, S7)
def f_X9_place (E : EN) (n : Nat) (S : WS) (h0 : Nat) (x1 : Int32) (x2 : Int32) (x3 : Int32) (x4 : Int32) : Option (Int32 × WS) :=
  bd (f_X9_isAsked E n S h0 x1 x2 x3) fun v2 S1 =>
  if v2 = 0 then
    some ((-2 : Int32), S1)
  else
    bd (f_X9_allWays E n S1 h0 x1 x2 x3) fun v4 S3 =>
    bd (f_X9_in E n S3 (x4.toInt64) (0 : Int64) (((gi S3 536 h0) - (1 : Int32)).toInt64)) fun v6 S5 =>
    if v6 = 0 then
      some ((-1 : Int32), S5)
    else
      (gr S5 535 h0).bind fun b7 =>
      if x4 < 0 ∨ eN E b7 ≤ x4.toNatClampNeg then none else
      some ((ai S5 b7 x4.toNatClampNeg), S5)
def f_X9_ways (E : EN) (n : Nat) (S : WS) (h0 : Nat) (x1 : Int32) (x2 : Int32) (x3 : Int32) : Option (Int32 × WS) :=
  bd (f_X9_isAsked E n S h0 x1 x2 x3) fun v2 S1 =>
  if v2 = 0 then
    some ((-2 : Int32), S1)
  else
    bd (f_X9_allWays E n S1 h0 x1 x2 x3) fun v4 S3 =>
    some ((gi S3 532 h0), S3)
def f_X9_when_L43 (E : EN) (n : Nat)  : Nat → WS → Nat → Int32 → Int32 → Int32 → Int32 → Int32 → Int32 → Int32 → Option (Int32 × WS)
  | 0 => fun _ _ _ _ _ _ _ _ _ => none
  | m + 1 => fun S h0 x1 x2 x3 x4 x5 x6 x7 =>
    (gr S 513 h0).bind fun b1 =>
    if (1 : Int32) < 0 ∨ eN E b1 ≤ (1 : Int32).toNatClampNeg then none else
    if (ai S b1 (1 : Int32).toNatClampNeg) ≤ x7 then
      if x3 = 0 then
        some (x4, S)
      else
        if x3 = (1 : Int32) then
          some (x5, S)
        else
          some (x6, S)
    else
      bd (f_X9_canCome E n S h0 x1 x2 x7) fun v3 S2 =>
      if v3 = 0 then
        lt (x7 + (1 : Int32)) fun y8 =>
        f_X9_when_L43 E n  m S2 h0 x1 x2 x3 x4 x5 x6 y8
      else
        if x4 = (-1 : Int32) then
          lt (x6 + (1 : Int32)) fun y6 =>
          lt (x7 + (1 : Int32)) fun y7 =>
          f_X9_when_L43 E n  m S2 h0 x1 x2 x3 x7 x7 y6 y7
        else
          lt (x6 + (1 : Int32)) fun y4 =>
          lt (x7 + (1 : Int32)) fun y5 =>
          f_X9_when_L43 E n  m S2 h0 x1 x2 x3 x4 x7 y4 y5
def f_X9_when (E : EN) (n : Nat) (S : WS) (h0 : Nat) (x1 : Int32) (x2 : Int32) (x3 : Int32) : Option (Int32 × WS) :=
  bd (f_X9_isWalker E n S h0 x1) fun v2 S1 =>
  if v2 = 0 then
    some ((-2 : Int32), S1)
  else
    bd (f_X9_isPlace E n S1 h0 x2) fun v4 S3 =>
    if v4 = 0 then
      some ((-2 : Int32), S3)
    else
      bd (f_X9_in E n S3 (x3.toInt64) (0 : Int64) (2 : Int64)) fun v6 S5 =>
      if v6 = 0 then
        some ((-2 : Int32), S5)
      else
        f_X9_when_L43 E n  n S5 h0 x1 x2 x3 (-1 : Int32) (-1 : Int32) (0 : Int32) (0 : Int32)
def f_X9_need_L31 (E : EN) (n : Nat)  : Nat → WS → Nat → Int32 → Int32 → Int32 → Int32 → Option (Int32 × WS)
  | 0 => fun _ _ _ _ _ _ => none
  | m + 1 => fun S h0 x1 x2 x3 x4 =>
    if (100 : Int32) ≤ x4 then
      some ((-1 : Int32), S)
    else
      bd (f_X9_opens E n S h0 x4 x3) fun v2 S1 =>
      bd (f_X9_reachFrom E n S1 h0 x1) fun v4 S3 =>
      if ((v4 >>> (x2 &&& 31)) &&& (1 : Int32)) = (1 : Int32) then
        some (x4, S3)
      else
        lt (x4 + (1 : Int32)) fun y5 =>
        f_X9_need_L31 E n  m S3 h0 x1 x2 x3 y5
def f_X9_need (E : EN) (n : Nat) (S : WS) (h0 : Nat) (x1 : Int32) (x2 : Int32) (x3 : Int32) : Option (Int32 × WS) :=
  bd (f_X9_isPlace E n S h0 x1) fun v2 S1 =>
  if v2 = 0 then
    some ((-2 : Int32), S1)
  else
    bd (f_X9_isPlace E n S1 h0 x2) fun v4 S3 =>
    if v4 = 0 then
      some ((-2 : Int32), S3)
    else
      bd (f_X9_isYear E n S3 h0 (x3.toInt64)) fun v6 S5 =>
      if v6 = 0 then
        some ((-2 : Int32), S5)
      else
        f_X9_need_L31 E n  n S5 h0 x1 x2 x3 (0 : Int32)
def f_X9_beginsCourtings_L2 (E : EN) (n : Nat)  : Nat → WS → Nat → Int32 → Option (Unit × WS)
  | 0 => fun _ _ _ => none
  | m + 1 => fun S h0 x1 =>
    (gr S 513 h0).bind fun b1 =>
    if (4 : Int32) < 0 ∨ eN E b1 ≤ (4 : Int32).toNatClampNeg then none else
    if (ai S b1 (4 : Int32).toNatClampNeg) ≤ x1 then
      some ((), S)
    else
      (gr S 538 h0).bind fun b2 =>
      bd (f_X9_courts E n S h0 x1) fun v4 S3 =>
      if x1 < 0 ∨ eN E b2 ≤ x1.toNatClampNeg then none else
      lt (wi S3 b2 (upd (ai S3 b2) x1.toNatClampNeg v4)) fun S5 =>
      (gr S5 513 h0).bind fun b6 =>
      if ((102 : Int32) + x1) < 0 ∨ eN E b6 ≤ ((102 : Int32) + x1).toNatClampNeg then none else
      lt (wi S5 b6 (upd (ai S5 b6) ((102 : Int32) + x1).toNatClampNeg (-1 : Int32))) fun S7 =>
      lt (x1 + (1 : Int32)) fun y8 =>
      f_X9_beginsCourtings_L2 E n  m S7 h0 y8
def f_X9_beginsCourtings (E : EN) (n : Nat) (S : WS) (h0 : Nat) : Option (Unit × WS) :=
  f_X9_beginsCourtings_L2 E n  n S h0 (0 : Int32)
def f_X9_endsCourtings_L2 (E : EN) (n : Nat)  : Nat → WS → Nat → Int32 → Option (Unit × WS)
  | 0 => fun _ _ _ => none
  | m + 1 => fun S h0 x1 =>
    (gr S 513 h0).bind fun b1 =>
    if (4 : Int32) < 0 ∨ eN E b1 ≤ (4 : Int32).toNatClampNeg then none else
    if (ai S b1 (4 : Int32).toNatClampNeg) ≤ x1 then
      some ((), S)
    else
      (gr S 513 h0).bind fun b2 =>
      (gr S 538 h0).bind fun b3 =>
      if x1 < 0 ∨ eN E b3 ≤ x1.toNatClampNeg then none else
      if ((102 : Int32) + x1) < 0 ∨ eN E b2 ≤ ((102 : Int32) + x1).toNatClampNeg then none else
      lt (wi S b2 (upd (ai S b2) ((102 : Int32) + x1).toNatClampNeg (ai S b3 x1.toNatClampNeg))) fun S4 =>
      lt (x1 + (1 : Int32)) fun y5 =>
      f_X9_endsCourtings_L2 E n  m S4 h0 y5
def f_X9_endsCourtings (E : EN) (n : Nat) (S : WS) (h0 : Nat) : Option (Unit × WS) :=
  f_X9_endsCourtings_L2 E n  n S h0 (0 : Int32)
def f_X9_nextCourting_J46 (E : EN) (n : Nat) (k9 : WS → Nat → Int32 → Option (Int32 × WS)) (S : WS) (h0 : Nat) (x1 : Int32) (x2 : Int32) : Option (Int32 × WS) :=
  (gr S 513 h0).bind fun b1 =>
  if (3 : Int32) < 0 ∨ eN E b1 ≤ (3 : Int32).toNatClampNeg then none else
  if (ai S b1 (3 : Int32).toNatClampNeg) ≤ x2 then
    (gr S 513 h0).bind fun b2 =>
    if ((102 : Int32) + x1) < 0 ∨ eN E b2 ≤ ((102 : Int32) + x1).toNatClampNeg then none else
    lt (wi S b2 (upd (ai S b2) ((102 : Int32) + x1).toNatClampNeg (-1 : Int32))) fun S3 =>
    lt (x1 + (-1 : Int32)) fun y4 =>
    k9 S3 h0 y4
  else
    (gr S 513 h0).bind fun b5 =>
    if ((102 : Int32) + x1) < 0 ∨ eN E b5 ≤ ((102 : Int32) + x1).toNatClampNeg then none else
    lt (wi S b5 (upd (ai S b5) ((102 : Int32) + x1).toNatClampNeg x2)) fun S6 =>
    some ((1 : Int32), S6)
def f_X9_nextCourting_L21 (E : EN) (n : Nat) (k9 : WS → Nat → Int32 → Option (Int32 × WS)) : Nat → WS → Nat → Int32 → Int32 → Option (Int32 × WS)
  | 0 => fun _ _ _ _ => none
  | m + 1 => fun S h0 x1 x2 =>
    (gr S 513 h0).bind fun b1 =>
    if (3 : Int32) < 0 ∨ eN E b1 ≤ (3 : Int32).toNatClampNeg then none else
    if (ai S b1 (3 : Int32).toNatClampNeg) ≤ x2 then
      f_X9_nextCourting_J46 E n k9 S h0 x1 x2
    else
      bd (f_X9_isFor E n S h0 x1 x2) fun v3 S2 =>
      if v3 = 0 then
        lt (x2 + (1 : Int32)) fun y4 =>
        f_X9_nextCourting_L21 E n k9 m S2 h0 x1 y4
      else
        f_X9_nextCourting_J46 E n k9 S2 h0 x1 x2
def f_X9_nextCourting_L9 (E : EN) (n : Nat)  : Nat → WS → Nat → Int32 → Option (Int32 × WS)
  | 0 => fun _ _ _ => none
  | m + 1 => fun S h0 x1 =>
    if x1 < 0 then
      some ((0 : Int32), S)
    else
      bd (f_X9_courts E n S h0 x1) fun v2 S1 =>
      lt (v2 + (1 : Int32)) fun y3 =>
      f_X9_nextCourting_L21 E n (f_X9_nextCourting_L9 E n  m) n S1 h0 x1 y3
def f_X9_nextCourting (E : EN) (n : Nat) (S : WS) (h0 : Nat) : Option (Int32 × WS) :=
  (gr S 513 h0).bind fun b1 =>
  if (4 : Int32) < 0 ∨ eN E b1 ≤ (4 : Int32).toNatClampNeg then none else
  lt ((ai S b1 (4 : Int32).toNatClampNeg) - (1 : Int32)) fun y2 =>
  f_X9_nextCourting_L9 E n  n S h0 y2
def f_X9_meets_J143 (E : EN) (n : Nat)  (S : WS) (h0 : Nat) (x2 : Int32) (g0 : Nat) (s1 : Int32) : Option (Unit × WS) :=
  lt (si S 540 g0 s1) fun S1 =>
  if (gi S1 539 h0) = 0 then
    lt (si S1 541 h0 x2) fun S4 =>
    lt (si S4 539 h0 ((gi S4 539 h0) + (1 : Int32))) fun S5 =>
    some ((), S5)
  else
    lt (si S1 541 h0 (imin (gi S1 541 h0) x2)) fun S2 =>
    lt (si S2 539 h0 ((gi S2 539 h0) + (1 : Int32))) fun S3 =>
    some ((), S3)
def f_X9_meets_L96 (E : EN) (n : Nat)  : Nat → WS → Nat → Int32 → Int32 → Int32 → Option (Unit × WS)
  | 0 => fun _ _ _ _ _ => none
  | m + 1 => fun S h0 x1 x2 x3 =>
    (gr S 513 h0).bind fun b1 =>
    if (4 : Int32) < 0 ∨ eN E b1 ≤ (4 : Int32).toNatClampNeg then none else
    if (ai S b1 (4 : Int32).toNatClampNeg) ≤ x3 then
      if (gi S 539 h0) = 0 then
        f_X9_meets_J143 E n  S h0 x2 h0 x1
      else
        f_X9_meets_J143 E n  S h0 x2 h0 (imin (gi S 540 h0) x1)
    else
      (gr S 542 h0).bind fun b2 =>
      bd (f_X9_courts E n S h0 x3) fun v4 S3 =>
      if x3 < 0 ∨ eN E b2 ≤ x3.toNatClampNeg then none else
      lt (wi S3 b2 (upd (ai S3 b2) x3.toNatClampNeg v4)) fun S5 =>
      lt (x3 + (1 : Int32)) fun y6 =>
      f_X9_meets_L96 E n  m S5 h0 x1 x2 y6
def f_X9_meets_J34 (E : EN) (n : Nat) (k9 : WS → Nat → Int32 → Int32 → Int32 → Option (Unit × WS)) (S : WS) (h0 : Nat) (x1 : Int32) (x3 : Int32) (s0 : Int32) (s1 : Int32) : Option (Unit × WS) :=
  lt (s0 + s1) fun y1 =>
  (gr S 543 h0).bind fun b2 =>
  if (gi S 539 h0) = 0 then
    bd (f_X9_courts E n S h0 x3) fun v4 S3 =>
    if x3 < 0 ∨ eN E b2 ≤ x3.toNatClampNeg then none else
    lt (wi S3 b2 (upd (ai S3 b2) x3.toNatClampNeg v4)) fun S5 =>
    lt (x3 + (1 : Int32)) fun y6 =>
    k9 S5 h0 x1 y1 y6
  else
    (gr S 543 h0).bind fun b7 =>
    if x3 < 0 ∨ eN E b7 ≤ x3.toNatClampNeg then none else
    bd (f_X9_courts E n S h0 x3) fun v9 S8 =>
    if (ai S b7 x3.toNatClampNeg) = v9 then
      bd (f_X9_courts E n S8 h0 x3) fun v13 S12 =>
      if x3 < 0 ∨ eN E b2 ≤ x3.toNatClampNeg then none else
      lt (wi S12 b2 (upd (ai S12 b2) x3.toNatClampNeg v13)) fun S14 =>
      lt (x3 + (1 : Int32)) fun y15 =>
      k9 S14 h0 x1 y1 y15
    else
      if x3 < 0 ∨ eN E b2 ≤ x3.toNatClampNeg then none else
      lt (wi S8 b2 (upd (ai S8 b2) x3.toNatClampNeg (-2 : Int32))) fun S10 =>
      lt (x3 + (1 : Int32)) fun y11 =>
      k9 S10 h0 x1 y1 y11
def f_X9_meets_L9 (E : EN) (n : Nat)  : Nat → WS → Nat → Int32 → Int32 → Int32 → Option (Unit × WS)
  | 0 => fun _ _ _ _ _ => none
  | m + 1 => fun S h0 x1 x2 x3 =>
    (gr S 513 h0).bind fun b1 =>
    if (4 : Int32) < 0 ∨ eN E b1 ≤ (4 : Int32).toNatClampNeg then none else
    if (ai S b1 (4 : Int32).toNatClampNeg) ≤ x3 then
      if (gi S 539 h0) = 0 then
        f_X9_meets_L96 E n  n S h0 x1 x2 (0 : Int32)
      else
        if (gi S 540 h0) ≤ x1 then
          if (gi S 539 h0) = 0 then
            f_X9_meets_J143 E n  S h0 x2 h0 x1
          else
            f_X9_meets_J143 E n  S h0 x2 h0 (imin (gi S 540 h0) x1)
        else
          f_X9_meets_L96 E n  n S h0 x1 x2 (0 : Int32)
    else
      bd (f_X9_courts E n S h0 x3) fun v3 S2 =>
      if v3 = (-1 : Int32) then
        f_X9_meets_J34 E n (f_X9_meets_L9 E n  m) S2 h0 x1 x3 x2 (0 : Int32)
      else
        f_X9_meets_J34 E n (f_X9_meets_L9 E n  m) S2 h0 x1 x3 x2 (1 : Int32)
def f_X9_meets (E : EN) (n : Nat) (S : WS) (h0 : Nat) : Option (Unit × WS) :=
  bd (f_X9_heartsNow E n S h0) fun v2 S1 =>
  f_X9_meets_L9 E n  n S1 h0 v2 (0 : Int32) (0 : Int32)
def f_X9_allCanCome_L2 (E : EN) (n : Nat)  : Nat → WS → Nat → Int32 → Int32 → Int32 → Option (Int32 × WS)
  | 0 => fun _ _ _ _ _ => none
  | m + 1 => fun S h0 x1 x2 x3 =>
    (gr S 513 h0).bind fun b1 =>
    if (5 : Int32) < 0 ∨ eN E b1 ≤ (5 : Int32).toNatClampNeg then none else
    if (ai S b1 (5 : Int32).toNatClampNeg) ≤ x3 then
      some ((1 : Int32), S)
    else
      bd (f_X9_canCome E n S h0 x3 x1 x2) fun v3 S2 =>
      if v3 = 0 then
        some ((0 : Int32), S2)
      else
        lt (x3 + (1 : Int32)) fun y4 =>
        f_X9_allCanCome_L2 E n  m S2 h0 x1 x2 y4
def f_X9_allCanCome (E : EN) (n : Nat) (S : WS) (h0 : Nat) (x1 : Int32) (x2 : Int32) : Option (Int32 × WS) :=
  f_X9_allCanCome_L2 E n  n S h0 x1 x2 (0 : Int32)
def f_X9_courtingsTo_L9 (E : EN) (n : Nat)  : Nat → WS → Nat → Int32 → Int32 → Int32 → Option (Unit × WS)
  | 0 => fun _ _ _ _ _ => none
  | m + 1 => fun S h0 x1 x2 x3 =>
    if x1 = (-1 : Int32) then
      bd (f_X9_allCanCome E n S h0 x2 x3) fun v14 S13 =>
      if v14 = 0 then
        bd (f_X9_nextCourting E n S13 h0) fun v16 S15 =>
        if v16 = 0 then
          bd (f_X9_endsCourtings E n S15 h0) fun v18 S17 =>
          some ((), S17)
        else
          f_X9_courtingsTo_L9 E n  m S15 h0 x1 x2 x3
      else
        bd (f_X9_meets E n S13 h0) fun v20 S19 =>
        bd (f_X9_nextCourting E n S19 h0) fun v22 S21 =>
        if v22 = 0 then
          bd (f_X9_endsCourtings E n S21 h0) fun v24 S23 =>
          some ((), S23)
        else
          f_X9_courtingsTo_L9 E n  m S21 h0 x1 x2 x3
    else
      bd (f_X9_canCome E n S h0 x1 x2 x3) fun v2 S1 =>
      if v2 = 0 then
        bd (f_X9_nextCourting E n S1 h0) fun v4 S3 =>
        if v4 = 0 then
          bd (f_X9_endsCourtings E n S3 h0) fun v6 S5 =>
          some ((), S5)
        else
          f_X9_courtingsTo_L9 E n  m S3 h0 x1 x2 x3
      else
        bd (f_X9_meets E n S1 h0) fun v8 S7 =>
        bd (f_X9_nextCourting E n S7 h0) fun v10 S9 =>
        if v10 = 0 then
          bd (f_X9_endsCourtings E n S9 h0) fun v12 S11 =>
          some ((), S11)
        else
          f_X9_courtingsTo_L9 E n  m S9 h0 x1 x2 x3
def f_X9_courtingsTo (E : EN) (n : Nat) (S : WS) (h0 : Nat) (x1 : Int32) (x2 : Int32) (x3 : Int32) : Option (Unit × WS) :=
  lt (si S 539 h0 (0 : Int32)) fun S1 =>
  bd (f_X9_beginsCourtings E n S1 h0) fun v3 S2 =>
  f_X9_courtingsTo_L9 E n  n S2 h0 x1 x2 x3
def f_X9_fewest (E : EN) (n : Nat) (S : WS) (h0 : Nat) (x1 : Int32) (x2 : Int32) (x3 : Int32) : Option (Int32 × WS) :=
  bd (f_X9_isAsked E n S h0 x1 x2 x3) fun v2 S1 =>
  if v2 = 0 then
    some ((-2 : Int32), S1)
  else
    bd (f_X9_courtingsTo E n S1 h0 x1 x2 x3) fun v4 S3 =>
    if (gi S3 539 h0) = 0 then
      some ((-1 : Int32), S3)
    else
      some ((gi S3 540 h0), S3)
def f_X9_whom (E : EN) (n : Nat) (S : WS) (h0 : Nat) (x1 : Int32) (x2 : Int32) (x3 : Int32) (x4 : Int32) : Option (Int32 × WS) :=
  bd (f_X9_isAsked E n S h0 x1 x2 x3) fun v2 S1 =>
  if v2 = 0 then
    some ((-2 : Int32), S1)
  else
    bd (f_X9_isSuitor E n S1 h0 x4) fun v4 S3 =>
    if v4 = 0 then
      some ((-2 : Int32), S3)
    else
      bd (f_X9_courtingsTo E n S3 h0 x1 x2 x3) fun v6 S5 =>
      if (gi S5 539 h0) = 0 then
        some ((-1 : Int32), S5)
      else
        (gr S5 542 h0).bind fun b7 =>
        if x4 < 0 ∨ eN E b7 ≤ x4.toNatClampNeg then none else
        some ((ai S5 b7 x4.toNatClampNeg), S5)
def f_X9_all (E : EN) (n : Nat) (S : WS) (h0 : Nat) (x1 : Int32) (x2 : Int32) : Option (Int32 × WS) :=
  bd (f_X9_isPlace E n S h0 x1) fun v2 S1 =>
  if v2 = 0 then
    some ((-2 : Int32), S1)
  else
    bd (f_X9_isYear E n S1 h0 (x2.toInt64)) fun v4 S3 =>
    if v4 = 0 then
      some ((-2 : Int32), S3)
    else
      bd (f_X9_courtingsTo E n S3 h0 (-1 : Int32) x1 x2) fun v6 S5 =>
      if (gi S5 539 h0) = 0 then
        some ((-1 : Int32), S5)
      else
        some ((gi S5 540 h0), S5)
def f_X9_courtings (E : EN) (n : Nat) (S : WS) (h0 : Nat) (x1 : Int32) (x2 : Int32) (x3 : Int32) : Option (Int32 × WS) :=
  bd (f_X9_isAsked E n S h0 x1 x2 x3) fun v2 S1 =>
  if v2 = 0 then
    some ((-2 : Int32), S1)
  else
    bd (f_X9_courtingsTo E n S1 h0 x1 x2 x3) fun v4 S3 =>
    some ((gi S3 539 h0), S3)
def f_X9_busy (E : EN) (n : Nat) (S : WS) (h0 : Nat) (x1 : Int32) (x2 : Int32) (x3 : Int32) : Option (Int32 × WS) :=
  bd (f_X9_isAsked E n S h0 x1 x2 x3) fun v2 S1 =>
  if v2 = 0 then
    some ((-2 : Int32), S1)
  else
    bd (f_X9_courtingsTo E n S1 h0 x1 x2 x3) fun v4 S3 =>
    if (gi S3 539 h0) = 0 then
      some ((-1 : Int32), S3)
    else
      some ((gi S3 541 h0), S3)
def f_X9_most_L34 (E : EN) (n : Nat) (k17 : WS → Nat → Int32 → Int32 → Int32 → Int32 → Option (Int32 × WS)) : Nat → WS → Nat → Int32 → Int32 → Int32 → Int32 → Int32 → Int32 → Option (Int32 × WS)
  | 0 => fun _ _ _ _ _ _ _ _ => none
  | m + 1 => fun S h0 x1 x2 x3 x4 x5 x6 =>
    (gr S 513 h0).bind fun b1 =>
    if (3 : Int32) < 0 ∨ eN E b1 ≤ (3 : Int32).toNatClampNeg then none else
    if (ai S b1 (3 : Int32).toNatClampNeg) ≤ x6 then
      if x5 = 0 then
        lt (x3 + (0 : Int32)) fun y2 =>
        lt (x4 + (1 : Int32)) fun y3 =>
        k17 S h0 x1 x2 y2 y3
      else
        lt (x3 + (1 : Int32)) fun y4 =>
        lt (x4 + (1 : Int32)) fun y5 =>
        k17 S h0 x1 x2 y4 y5
    else
      if x5 = 0 then
        bd (f_X9_isFor E n S h0 x4 x6) fun v8 S7 =>
        if v8 = 0 then
          lt (x6 + (1 : Int32)) fun y9 =>
          f_X9_most_L34 E n k17 m S7 h0 x1 x2 x3 x4 (0 : Int32) y9
        else
          bd (f_X9_pathOf E n S7 h0 x6) fun v11 S10 =>
          if v11 = x1 then
            bd (f_X9_yearOf E n S10 h0 x6) fun v14 S13 =>
            bd (f_X9_yearOf E n S13 h0 x6) fun v16 S15 =>
            bd (f_X9_skillOf E n S15 h0 x4) fun v18 S17 =>
            bd (f_X9_in E n S17 (x2.toInt64) (v14.toInt64) ((v16 + v18).toInt64)) fun v20 S19 =>
            if v20 = 0 then
              lt (x6 + (1 : Int32)) fun y21 =>
              f_X9_most_L34 E n k17 m S19 h0 x1 x2 x3 x4 (0 : Int32) y21
            else
              lt (x6 + (1 : Int32)) fun y22 =>
              f_X9_most_L34 E n k17 m S19 h0 x1 x2 x3 x4 (1 : Int32) y22
          else
            lt (x6 + (1 : Int32)) fun y12 =>
            f_X9_most_L34 E n k17 m S10 h0 x1 x2 x3 x4 (0 : Int32) y12
      else
        lt (x6 + (1 : Int32)) fun y6 =>
        f_X9_most_L34 E n k17 m S h0 x1 x2 x3 x4 (1 : Int32) y6
def f_X9_most_L17 (E : EN) (n : Nat)  : Nat → WS → Nat → Int32 → Int32 → Int32 → Int32 → Option (Int32 × WS)
  | 0 => fun _ _ _ _ _ _ => none
  | m + 1 => fun S h0 x1 x2 x3 x4 =>
    (gr S 513 h0).bind fun b1 =>
    if (4 : Int32) < 0 ∨ eN E b1 ≤ (4 : Int32).toNatClampNeg then none else
    if (ai S b1 (4 : Int32).toNatClampNeg) ≤ x4 then
      some (x3, S)
    else
      f_X9_most_L34 E n (f_X9_most_L17 E n  m) n S h0 x1 x2 x3 x4 (0 : Int32) (0 : Int32)
def f_X9_most (E : EN) (n : Nat) (S : WS) (h0 : Nat) (x1 : Int32) (x2 : Int32) : Option (Int32 × WS) :=
  bd (f_X9_areSo E n S h0 x1 x2) fun v2 S1 =>
  if v2 = 0 then
    some ((-2 : Int32), S1)
  else
    f_X9_most_L17 E n  n S1 h0 x1 x2 (0 : Int32) (0 : Int32)
def f_X9_worst_L17 (E : EN) (n : Nat)  : Nat → WS → Nat → Int32 → Int32 → Int32 → Int32 → Option (Int32 × WS)
  | 0 => fun _ _ _ _ _ _ => none
  | m + 1 => fun S h0 x1 x2 x3 x4 =>
    (gr S 513 h0).bind fun b1 =>
    if (4 : Int32) < 0 ∨ eN E b1 ≤ (4 : Int32).toNatClampNeg then none else
    if (ai S b1 (4 : Int32).toNatClampNeg) ≤ x4 then
      some (x3, S)
    else
      bd (f_X9_hasStep E n S h0 x4 x1 x2) fun v3 S2 =>
      if v3 = 0 then
        lt (x4 + (1 : Int32)) fun y4 =>
        f_X9_worst_L17 E n  m S2 h0 x1 x2 x3 y4
      else
        if x3 = (-1 : Int32) then
          lt (x4 + (1 : Int32)) fun y5 =>
          f_X9_worst_L17 E n  m S2 h0 x1 x2 x4 y5
        else
          bd (f_X9_fallOf E n S2 h0 x4 x2) fun v7 S6 =>
          bd (f_X9_fallOf E n S6 h0 x3 x2) fun v9 S8 =>
          if v7 ≤ v9 then
            lt (x4 + (1 : Int32)) fun y10 =>
            f_X9_worst_L17 E n  m S8 h0 x1 x2 x3 y10
          else
            lt (x4 + (1 : Int32)) fun y11 =>
            f_X9_worst_L17 E n  m S8 h0 x1 x2 x4 y11
def f_X9_worst (E : EN) (n : Nat) (S : WS) (h0 : Nat) (x1 : Int32) (x2 : Int32) : Option (Int32 × WS) :=
  bd (f_X9_areSo E n S h0 x1 x2) fun v2 S1 =>
  if v2 = 0 then
    some ((-2 : Int32), S1)
  else
    f_X9_worst_L17 E n  n S1 h0 x1 x2 (-1 : Int32) (0 : Int32)
def f_X9_dry_L16 (E : EN) (n : Nat)  : Nat → WS → Nat → Int32 → Int32 → Int32 → Option (Int32 × WS)
  | 0 => fun _ _ _ _ _ => none
  | m + 1 => fun S h0 x1 x2 x3 =>
    (gr S 513 h0).bind fun b1 =>
    if (1 : Int32) < 0 ∨ eN E b1 ≤ (1 : Int32).toNatClampNeg then none else
    if (ai S b1 (1 : Int32).toNatClampNeg) ≤ x3 then
      some (x2, S)
    else
      bd (f_X9_safeBy E n S h0 (100000000000000 : Int64) x1 x3) fun v3 S2 =>
      bd (f_X9_safeBy E n S2 h0 (100000000000000 : Int64) x1 x2) fun v5 S4 =>
      if (lg_cmp v3 v5) ≤ 0 then
        lt (x3 + (1 : Int32)) fun y6 =>
        f_X9_dry_L16 E n  m S4 h0 x1 x2 y6
      else
        lt (x3 + (1 : Int32)) fun y7 =>
        f_X9_dry_L16 E n  m S4 h0 x1 x3 y7
def f_X9_dry (E : EN) (n : Nat) (S : WS) (h0 : Nat) (x1 : Int32) : Option (Int32 × WS) :=
  bd (f_X9_isPath E n S h0 (x1.toInt64)) fun v2 S1 =>
  if v2 = 0 then
    some ((-2 : Int32), S1)
  else
    f_X9_dry_L16 E n  n S1 h0 x1 (0 : Int32) (1 : Int32)
def f_X9_climbs_L37 (E : EN) (n : Nat)  : Nat → WS → Nat → Int32 → Int32 → Int32 → Option (Int32 × WS)
  | 0 => fun _ _ _ _ _ => none
  | m + 1 => fun S h0 x4 x5 x6 =>
    if (gi S 534 h0) ≤ x6 then
      if (gi S 534 h0) = 0 then
        some ((-1 : Int32), S)
      else
        some (x5, S)
    else
      (gr S 513 h0).bind fun b1 =>
      (gr S 533 h0).bind fun b2 =>
      if x6 < 0 ∨ eN E b2 ≤ x6.toNatClampNeg then none else
      if ((7 : Int32) + (ai S b2 x6.toNatClampNeg)) < 0 ∨ eN E b1 ≤ ((7 : Int32) + (ai S b2 x6.toNatClampNeg)).toNatClampNeg then none else
      (gr S 513 h0).bind fun b3 =>
      (gr S 533 h0).bind fun b4 =>
      if (x6 - (1 : Int32)) < 0 ∨ eN E b4 ≤ (x6 - (1 : Int32)).toNatClampNeg then none else
      if ((7 : Int32) + (ai S b4 (x6 - (1 : Int32)).toNatClampNeg)) < 0 ∨ eN E b3 ≤ ((7 : Int32) + (ai S b4 (x6 - (1 : Int32)).toNatClampNeg)).toNatClampNeg then none else
      lt ((ai S b1 ((7 : Int32) + (ai S b2 x6.toNatClampNeg)).toNatClampNeg) - (ai S b3 ((7 : Int32) + (ai S b4 (x6 - (1 : Int32)).toNatClampNeg)).toNatClampNeg)) fun y5 =>
      if x4 = 0 then
        lt (x5 + (imax (0 : Int32) y5)) fun y8 =>
        lt (x6 + (1 : Int32)) fun y9 =>
        f_X9_climbs_L37 E n  m S h0 x4 y8 y9
      else
        lt (x5 + (imax (0 : Int32) (-y5))) fun y6 =>
        lt (x6 + (1 : Int32)) fun y7 =>
        f_X9_climbs_L37 E n  m S h0 x4 y6 y7
def f_X9_climbs (E : EN) (n : Nat) (S : WS) (h0 : Nat) (x1 : Int32) (x2 : Int32) (x3 : Int32) (x4 : Int32) : Option (Int32 × WS) :=
  bd (f_X9_isAsked E n S h0 x1 x2 x3) fun v2 S1 =>
  if v2 = 0 then
    some ((-2 : Int32), S1)
  else
    bd (f_X9_in E n S1 (x4.toInt64) (0 : Int64) (1 : Int64)) fun v4 S3 =>
    if v4 = 0 then
      some ((-2 : Int32), S3)
    else
      bd (f_X9_allWays E n S3 h0 x1 x2 x3) fun v6 S5 =>
      f_X9_climbs_L37 E n  n S5 h0 x4 (0 : Int32) (1 : Int32)
def f_X9_high_L55 (E : EN) (n : Nat)  : Nat → WS → Nat → Int32 → Int32 → Int32 → Option (Int32 × WS)
  | 0 => fun _ _ _ _ _ => none
  | m + 1 => fun S h0 x3 x4 x5 =>
    if x5 < 0 then
      some (x4, S)
    else
      if ((x3 >>> (x5 &&& 31)) &&& (1 : Int32)) = (1 : Int32) then
        (gr S 513 h0).bind fun b2 =>
        if ((7 : Int32) + x5) < 0 ∨ eN E b2 ≤ ((7 : Int32) + x5).toNatClampNeg then none else
        (gr S 513 h0).bind fun b3 =>
        if ((7 : Int32) + x4) < 0 ∨ eN E b3 ≤ ((7 : Int32) + x4).toNatClampNeg then none else
        if (ai S b2 ((7 : Int32) + x5).toNatClampNeg) < (ai S b3 ((7 : Int32) + x4).toNatClampNeg) then
          lt (x5 + (-1 : Int32)) fun y4 =>
          f_X9_high_L55 E n  m S h0 x3 x4 y4
        else
          lt (x5 + (-1 : Int32)) fun y5 =>
          f_X9_high_L55 E n  m S h0 x3 x5 y5
      else
        lt (x5 + (-1 : Int32)) fun y1 =>
        f_X9_high_L55 E n  m S h0 x3 x4 y1
def f_X9_high (E : EN) (n : Nat) (S : WS) (h0 : Nat) (x1 : Int32) (x2 : Int32) : Option (Int32 × WS) :=
  bd (f_X9_isWalker E n S h0 x1) fun v2 S1 =>
  if v2 = 0 then
    some ((-2 : Int32), S1)
  else
    bd (f_X9_isYear E n S1 h0 (x2.toInt64)) fun v4 S3 =>
    if v4 = 0 then
      some ((-2 : Int32), S3)
    else
      bd (f_X9_leapOf E n S3 h0 x1) fun v6 S5 =>
      bd (f_X9_opens E n S5 h0 v6 x2) fun v8 S7 =>
      bd (f_X9_homeOf E n S7 h0 x1) fun v10 S9 =>
      bd (f_X9_reachFrom E n S9 h0 v10) fun v12 S11 =>
      bd (f_X9_homeOf E n S11 h0 x1) fun v14 S13 =>
      bd (f_X9_places E n S13 h0) fun v16 S15 =>
      lt (v16 - (1 : Int32)) fun y17 =>
      f_X9_high_L55 E n  n S15 h0 v12 v14 y17
def f_X9_parts_L38 (E : EN) (n : Nat)  : Nat → WS → Nat → Int32 → Int32 → Int32 → Option (Int32 × WS)
  | 0 => fun _ _ _ _ _ => none
  | m + 1 => fun S h0 x3 x4 x5 =>
    bd (f_X9_places E n S h0) fun v2 S1 =>
    if v2 ≤ x5 then
      some (x4, S1)
    else
      if ((x3 >>> (x5 &&& 31)) &&& (1 : Int32)) = (1 : Int32) then
        lt (x5 + (1 : Int32)) fun y8 =>
        f_X9_parts_L38 E n  m S1 h0 x3 x4 y8
      else
        bd (f_X9_reachFrom E n S1 h0 x5) fun v4 S3 =>
        lt (x3 ||| v4) fun y5 =>
        lt (x4 + (1 : Int32)) fun y6 =>
        lt (x5 + (1 : Int32)) fun y7 =>
        f_X9_parts_L38 E n  m S3 h0 y5 y6 y7
def f_X9_parts (E : EN) (n : Nat) (S : WS) (h0 : Nat) (x1 : Int32) (x2 : Int32) : Option (Int32 × WS) :=
  bd (f_X9_isYear E n S h0 (x1.toInt64)) fun v2 S1 =>
  if v2 = 0 then
    some ((-2 : Int32), S1)
  else
    bd (f_X9_in E n S1 (x2.toInt64) (0 : Int64) (99 : Int64)) fun v4 S3 =>
    if v4 = 0 then
      some ((-2 : Int32), S3)
    else
      bd (f_X9_opens E n S3 h0 x2 x1) fun v6 S5 =>
      f_X9_parts_L38 E n  n S5 h0 (0 : Int32) (0 : Int32) (0 : Int32)
def f_X9_cuts_L37 (E : EN) (n : Nat)  : Nat → WS → Nat → Int32 → Int32 → Int32 → Int32 → Int32 → Option (Int32 × WS)
  | 0 => fun _ _ _ _ _ _ _ => none
  | m + 1 => fun S h0 x1 x2 x4 x5 x6 =>
    (gr S 513 h0).bind fun b1 =>
    if (2 : Int32) < 0 ∨ eN E b1 ≤ (2 : Int32).toNatClampNeg then none else
    if (ai S b1 (2 : Int32).toNatClampNeg) ≤ x6 then
      some (x5, S)
    else
      lt (si S 528 h0 (x4 &&& (((1 : Int32) <<< (x6 &&& 31)) ^^^ (-1 : Int32)))) fun S2 =>
      bd (f_X9_homeOf E n S2 h0 x1) fun v4 S3 =>
      bd (f_X9_reachFrom E n S3 h0 v4) fun v6 S5 =>
      if ((v6 >>> (x2 &&& 31)) &&& (1 : Int32)) = 0 then
        lt (x5 ||| ((1 : Int32) <<< (x6 &&& 31))) fun y9 =>
        lt (x6 + (1 : Int32)) fun y10 =>
        f_X9_cuts_L37 E n  m S5 h0 x1 x2 x4 y9 y10
      else
        lt (x5 ||| (0 : Int32)) fun y7 =>
        lt (x6 + (1 : Int32)) fun y8 =>
        f_X9_cuts_L37 E n  m S5 h0 x1 x2 x4 y7 y8
def f_X9_cuts (E : EN) (n : Nat) (S : WS) (h0 : Nat) (x1 : Int32) (x2 : Int32) (x3 : Int32) : Option (Int32 × WS) :=
  bd (f_X9_isAsked E n S h0 x1 x2 x3) fun v2 S1 =>
  if v2 = 0 then
    some ((-2 : Int32), S1)
  else
    bd (f_X9_canCome E n S1 h0 x1 x2 x3) fun v4 S3 =>
    if v4 = 0 then
      some ((-1 : Int32), S3)
    else
      lt (gi S3 528 h0) fun y5 =>
      f_X9_cuts_L37 E n  n S3 h0 x1 x2 y5 (0 : Int32) (0 : Int32)
def f_X9_reachOf (E : EN) (n : Nat) (S : WS) (h0 : Nat) (x1 : Int32) (x2 : Int32) : Option (Int32 × WS) :=
  bd (f_X9_leapOf E n S h0 x1) fun v2 S1 =>
  bd (f_X9_opens E n S1 h0 v2 x2) fun v4 S3 =>
  bd (f_X9_homeOf E n S3 h0 x1) fun v6 S5 =>
  bd (f_X9_reachFrom E n S5 h0 v6) fun v8 S7 =>
  some (v8, S7)
def f_X9_vain_L39 (E : EN) (n : Nat) (k26 : WS → Nat → Int32 → Int32 → Int32 → Option (Int32 × WS)) : Nat → WS → Nat → Int32 → Int32 → Int32 → Int32 → Option (Int32 × WS)
  | 0 => fun _ _ _ _ _ _ => none
  | m + 1 => fun S h0 x1 x2 x3 x4 =>
    (gr S 513 h0).bind fun b1 =>
    if (1 : Int32) < 0 ∨ eN E b1 ≤ (1 : Int32).toNatClampNeg then none else
    if (ai S b1 (1 : Int32).toNatClampNeg) ≤ x4 then
      lt (x3 + (1 : Int32)) fun y2 =>
      k26 S h0 x1 x2 y2
    else
      bd (f_X9_reachOf E n S h0 x3 x4) fun v4 S3 =>
      lt (si S3 527 h0 x1) fun S5 =>
      if x2 = 0 then
        lt (si S5 527 h0 (-1 : Int32)) fun S6 =>
        lt (x4 + (1 : Int32)) fun y7 =>
        f_X9_vain_L39 E n k26 m S6 h0 x1 (0 : Int32) x3 y7
      else
        bd (f_X9_reachOf E n S5 h0 x3 x4) fun v9 S8 =>
        if v9 = v4 then
          lt (si S8 527 h0 (-1 : Int32)) fun S12 =>
          lt (x4 + (1 : Int32)) fun y13 =>
          f_X9_vain_L39 E n k26 m S12 h0 x1 (1 : Int32) x3 y13
        else
          lt (si S8 527 h0 (-1 : Int32)) fun S10 =>
          lt (x4 + (1 : Int32)) fun y11 =>
          f_X9_vain_L39 E n k26 m S10 h0 x1 (0 : Int32) x3 y11
def f_X9_vain_L26 (E : EN) (n : Nat)  : Nat → WS → Nat → Int32 → Int32 → Int32 → Option (Int32 × WS)
  | 0 => fun _ _ _ _ _ => none
  | m + 1 => fun S h0 x1 x2 x3 =>
    (gr S 513 h0).bind fun b1 =>
    if (5 : Int32) < 0 ∨ eN E b1 ≤ (5 : Int32).toNatClampNeg then none else
    if (ai S b1 (5 : Int32).toNatClampNeg) ≤ x3 then
      if x2 = 0 then
        some ((0 : Int32), S)
      else
        some ((1 : Int32), S)
    else
      f_X9_vain_L39 E n (f_X9_vain_L26 E n  m) n S h0 x1 x2 x3 (0 : Int32)
def f_X9_vain (E : EN) (n : Nat) (S : WS) (h0 : Nat) (x1 : Int32) : Option (Int32 × WS) :=
  bd (f_X9_isSuitor E n S h0 x1) fun v2 S1 =>
  if v2 = 0 then
    some ((-2 : Int32), S1)
  else
    bd (f_X9_courts E n S1 h0 x1) fun v4 S3 =>
    if v4 = (-1 : Int32) then
      some ((-1 : Int32), S3)
    else
      f_X9_vain_L26 E n  n S3 h0 x1 (1 : Int32) (0 : Int32)
def f_X9_sold_L70 (E : EN) (n : Nat) (k58 : WS → Nat → Int32 → Int32 → Int32 → Int32 → Option (Int32 × WS)) : Nat → WS → Nat → Int32 → Int32 → Int32 → Int32 → Int32 → Option (Int32 × WS)
  | 0 => fun _ _ _ _ _ _ _ => none
  | m + 1 => fun S h0 x1 x2 x3 x4 x5 =>
    (gr S 513 h0).bind fun b1 =>
    if (2 : Int32) < 0 ∨ eN E b1 ≤ (2 : Int32).toNatClampNeg then none else
    if (ai S b1 (2 : Int32).toNatClampNeg) ≤ x5 then
      lt (x4 + (1 : Int32)) fun y2 =>
      k58 S h0 x1 x2 x3 y2
    else
      bd (f_X9_leapOf E n S h0 x1) fun v4 S3 =>
      bd (f_X9_lacksOf E n S3 h0 x5 x3 v4) fun v6 S5 =>
      bd (f_X9_endOf E n S5 h0 x5 (0 : Int32)) fun v8 S7 =>
      bd (f_X9_endOf E n S7 h0 x5 (1 : Int32)) fun v10 S9 =>
      (gr S9 544 h0).bind fun b11 =>
      (gr S9 544 h0).bind fun b12 =>
      if v8 < 0 ∨ eN E b12 ≤ v8.toNatClampNeg then none else
      (gr S9 544 h0).bind fun b13 =>
      if v10 < 0 ∨ eN E b13 ≤ v10.toNatClampNeg then none else
      if v8 < 0 ∨ eN E b11 ≤ v8.toNatClampNeg then none else
      lt (wi S9 b11 (upd (ai S9 b11) v8.toNatClampNeg (imin (ai S9 b12 v8.toNatClampNeg) ((ai S9 b13 v10.toNatClampNeg) + v6)))) fun S14 =>
      (gr S14 544 h0).bind fun b15 =>
      (gr S14 544 h0).bind fun b16 =>
      if v10 < 0 ∨ eN E b16 ≤ v10.toNatClampNeg then none else
      (gr S14 544 h0).bind fun b17 =>
      if v8 < 0 ∨ eN E b17 ≤ v8.toNatClampNeg then none else
      if v10 < 0 ∨ eN E b15 ≤ v10.toNatClampNeg then none else
      lt (wi S14 b15 (upd (ai S14 b15) v10.toNatClampNeg (imin (ai S14 b16 v10.toNatClampNeg) ((ai S14 b17 v8.toNatClampNeg) + v6)))) fun S18 =>
      lt (x5 + (1 : Int32)) fun y19 =>
      f_X9_sold_L70 E n k58 m S18 h0 x1 x2 x3 x4 y19
def f_X9_sold_L58 (E : EN) (n : Nat)  : Nat → WS → Nat → Int32 → Int32 → Int32 → Int32 → Option (Int32 × WS)
  | 0 => fun _ _ _ _ _ _ => none
  | m + 1 => fun S h0 x1 x2 x3 x4 =>
    bd (f_X9_places E n S h0) fun v2 S1 =>
    if v2 ≤ x4 then
      (gr S1 544 h0).bind fun b3 =>
      if x2 < 0 ∨ eN E b3 ≤ x2.toNatClampNeg then none else
      if (ai S1 b3 x2.toNatClampNeg) < (1000000 : Int32) then
        (gr S1 544 h0).bind fun b4 =>
        if x2 < 0 ∨ eN E b4 ≤ x2.toNatClampNeg then none else
        some ((ai S1 b4 x2.toNatClampNeg), S1)
      else
        some ((-1 : Int32), S1)
    else
      f_X9_sold_L70 E n (f_X9_sold_L58 E n  m) n S1 h0 x1 x2 x3 x4 (0 : Int32)
def f_X9_sold_L16 (E : EN) (n : Nat)  : Nat → WS → Nat → Int32 → Int32 → Int32 → Int32 → Option (Int32 × WS)
  | 0 => fun _ _ _ _ _ _ => none
  | m + 1 => fun S h0 x1 x2 x3 x4 =>
    bd (f_X9_places E n S h0) fun v2 S1 =>
    if v2 ≤ x4 then
      f_X9_sold_L58 E n  n S1 h0 x1 x2 x3 (0 : Int32)
    else
      (gr S1 544 h0).bind fun b3 =>
      bd (f_X9_homeOf E n S1 h0 x1) fun v5 S4 =>
      if x4 = v5 then
        if x4 < 0 ∨ eN E b3 ≤ x4.toNatClampNeg then none else
        lt (wi S4 b3 (upd (ai S4 b3) x4.toNatClampNeg (0 : Int32))) fun S8 =>
        lt (x4 + (1 : Int32)) fun y9 =>
        f_X9_sold_L16 E n  m S8 h0 x1 x2 x3 y9
      else
        if x4 < 0 ∨ eN E b3 ≤ x4.toNatClampNeg then none else
        lt (wi S4 b3 (upd (ai S4 b3) x4.toNatClampNeg (1000000 : Int32))) fun S6 =>
        lt (x4 + (1 : Int32)) fun y7 =>
        f_X9_sold_L16 E n  m S6 h0 x1 x2 x3 y7
def f_X9_sold (E : EN) (n : Nat) (S : WS) (h0 : Nat) (x1 : Int32) (x2 : Int32) (x3 : Int32) : Option (Int32 × WS) :=
  bd (f_X9_isAsked E n S h0 x1 x2 x3) fun v2 S1 =>
  if v2 = 0 then
    some ((-2 : Int32), S1)
  else
    f_X9_sold_L16 E n  n S1 h0 x1 x2 x3 (0 : Int32)
def f_X9_more_J96 (E : EN) (n : Nat) (k47 : WS → Nat → Int32 → Int32 → Int32 → Int32 → Int32 → Int32 → Option (Int32 × WS)) (S : WS) (h0 : Nat) (x1 : Int32) (x2 : Int32) (x3 : Int32) (x4 : Int32) (x5 : Int32) (x6 : Int32) (g0 : Nat) (s1 : Int32) (s2 : Int32) : Option (Int32 × WS) :=
  lt (si S 528 g0 (s1 ||| s2)) fun S1 =>
  bd (f_X9_homeOf E n S1 h0 x1) fun v3 S2 =>
  bd (f_X9_reachFrom E n S2 h0 v3) fun v5 S4 =>
  if ((v5 >>> (x2 &&& 31)) &&& (1 : Int32)) = (1 : Int32) then
    some (x6, S4)
  else
    lt (x6 + (1 : Int32)) fun y6 =>
    k47 S4 h0 x1 x2 x3 x4 x5 y6
def f_X9_more_L47 (E : EN) (n : Nat)  : Nat → WS → Nat → Int32 → Int32 → Int32 → Int32 → Int32 → Int32 → Option (Int32 × WS)
  | 0 => fun _ _ _ _ _ _ _ _ => none
  | m + 1 => fun S h0 x1 x2 x3 x4 x5 x6 =>
    (gr S 513 h0).bind fun b1 =>
    if (2 : Int32) < 0 ∨ eN E b1 ≤ (2 : Int32).toNatClampNeg then none else
    if (ai S b1 (2 : Int32).toNatClampNeg) ≤ x6 then
      some ((-1 : Int32), S)
    else
      bd (f_X9_dropOf E n S h0 x6) fun v3 S2 =>
      bd (f_X9_stepsOf E n S2 h0 x6 x3) fun v5 S4 =>
      bd (f_X9_leapBy E n S4 v3 (v5 + x4)) fun v7 S6 =>
      bd (f_X9_leapOf E n S6 h0 x1) fun v9 S8 =>
      if v9 < v7 then
        f_X9_more_J96 E n (f_X9_more_L47 E n  m) S8 h0 x1 x2 x3 x4 x5 x6 h0 x5 (0 : Int32)
      else
        f_X9_more_J96 E n (f_X9_more_L47 E n  m) S8 h0 x1 x2 x3 x4 x5 x6 h0 x5 ((1 : Int32) <<< (x6 &&& 31))
def f_X9_more (E : EN) (n : Nat) (S : WS) (h0 : Nat) (x1 : Int32) (x2 : Int32) (x3 : Int32) (x4 : Int32) : Option (Int32 × WS) :=
  bd (f_X9_isAsked E n S h0 x1 x2 x3) fun v2 S1 =>
  if v2 = 0 then
    some ((-2 : Int32), S1)
  else
    bd (f_X9_in E n S1 (x4.toInt64) (1 : Int64) (9 : Int64)) fun v4 S3 =>
    if v4 = 0 then
      some ((-2 : Int32), S3)
    else
      bd (f_X9_canCome E n S3 h0 x1 x2 x3) fun v6 S5 =>
      if v6 = 0 then
        lt (gi S5 528 h0) fun y7 =>
        f_X9_more_L47 E n  n S5 h0 x1 x2 x3 x4 y7 (0 : Int32)
      else
        some ((-1 : Int32), S5)
def f_X9_numberAt (E : EN) (n : Nat) (S : WS) (h0 : Nat) (x1 : Int32) (x2 : Int32) : Option (Int64 × WS) :=
  (gr S 548 h0).bind fun b1 =>
  if (((60 : Int32) * x1) + x2) < 0 ∨ eN E b1 ≤ (((60 : Int32) * x1) + x2).toNatClampNeg then none else
  some ((aj S b1 (((60 : Int32) * x1) + x2).toNatClampNeg), S)
def f_X9_isSo (E : EN) (n : Nat) (S : WS) (h0 : Nat) (x1 : Int32) (x2 : Int32) : Option (Int32 × WS) :=
  bd (f_X9_numberAt E n S h0 x1 x2) fun v2 S1 =>
  bd (f_X9_numberAt E n S1 h0 x1 (x2 + (1 : Int32))) fun v4 S3 =>
  bd (f_X9_leapNow E n S3 h0 (v2.toInt32) (v4.toInt32)) fun v6 S5 =>
  bd (f_X9_numberAt E n S5 h0 x1 (x2 + (2 : Int32))) fun v8 S7 =>
  if (lg_cmp (v6.toInt64) v8) = 0 then
    some ((1 : Int32), S7)
  else
    some ((0 : Int32), S7)
def f_X9_agrees_L2 (E : EN) (n : Nat)  : Nat → WS → Nat → Int32 → Int32 → Option (Int32 × WS)
  | 0 => fun _ _ _ _ => none
  | m + 1 => fun S h0 x1 x2 =>
    (gr S 546 h0).bind fun b1 =>
    if x1 < 0 ∨ eN E b1 ≤ x1.toNatClampNeg then none else
    if (ai S b1 x1.toNatClampNeg) ≤ x2 then
      some ((1 : Int32), S)
    else
      bd (f_X9_isSo E n S h0 x1 x2) fun v3 S2 =>
      if v3 = 0 then
        some ((0 : Int32), S2)
      else
        lt (x2 + (3 : Int32)) fun y4 =>
        f_X9_agrees_L2 E n  m S2 h0 x1 y4
def f_X9_agrees (E : EN) (n : Nat) (S : WS) (h0 : Nat) (x1 : Int32) : Option (Int32 × WS) :=
  f_X9_agrees_L2 E n  n S h0 x1 (0 : Int32)
def f_X9_courtingsBy_L9 (E : EN) (n : Nat)  : Nat → WS → Nat → Int32 → Option (Unit × WS)
  | 0 => fun _ _ _ => none
  | m + 1 => fun S h0 x1 =>
    bd (f_X9_agrees E n S h0 x1) fun v2 S1 =>
    if v2 = 0 then
      bd (f_X9_nextCourting E n S1 h0) fun v4 S3 =>
      if v4 = 0 then
        bd (f_X9_endsCourtings E n S3 h0) fun v6 S5 =>
        some ((), S5)
      else
        f_X9_courtingsBy_L9 E n  m S3 h0 x1
    else
      bd (f_X9_meets E n S1 h0) fun v8 S7 =>
      bd (f_X9_nextCourting E n S7 h0) fun v10 S9 =>
      if v10 = 0 then
        bd (f_X9_endsCourtings E n S9 h0) fun v12 S11 =>
        some ((), S11)
      else
        f_X9_courtingsBy_L9 E n  m S9 h0 x1
def f_X9_courtingsBy (E : EN) (n : Nat) (S : WS) (h0 : Nat) (x1 : Int32) : Option (Unit × WS) :=
  lt (si S 539 h0 (0 : Int32)) fun S1 =>
  bd (f_X9_beginsCourtings E n S1 h0) fun v3 S2 =>
  f_X9_courtingsBy_L9 E n  n S2 h0 x1
def f_X9_hopeOf_L21 (E : EN) (n : Nat)  : Nat → WS → Nat → Int32 → Int32 → Int32 → Int32 → Option (Int32 × WS)
  | 0 => fun _ _ _ _ _ _ => none
  | m + 1 => fun S h0 x1 x2 x3 x4 =>
    (gr S 513 h0).bind fun b1 =>
    if (3 : Int32) < 0 ∨ eN E b1 ≤ (3 : Int32).toNatClampNeg then none else
    if (ai S b1 (3 : Int32).toNatClampNeg) ≤ x4 then
      (gr S 513 h0).bind fun b2 =>
      if ((102 : Int32) + x1) < 0 ∨ eN E b2 ≤ ((102 : Int32) + x1).toNatClampNeg then none else
      lt (wi S b2 (upd (ai S b2) ((102 : Int32) + x1).toNatClampNeg x2)) fun S3 =>
      some (x3, S3)
    else
      if x3 = (-1 : Int32) then
        if x4 = x2 then
          lt (x4 + (1 : Int32)) fun y6 =>
          f_X9_hopeOf_L21 E n  m S h0 x1 x2 x3 y6
        else
          bd (f_X9_isFor E n S h0 x1 x4) fun v8 S7 =>
          if v8 = 0 then
            lt (x4 + (1 : Int32)) fun y15 =>
            f_X9_hopeOf_L21 E n  m S7 h0 x1 x2 x3 y15
          else
            (gr S7 513 h0).bind fun b9 =>
            if ((102 : Int32) + x1) < 0 ∨ eN E b9 ≤ ((102 : Int32) + x1).toNatClampNeg then none else
            lt (wi S7 b9 (upd (ai S7 b9) ((102 : Int32) + x1).toNatClampNeg x4)) fun S10 =>
            bd (f_X9_takenBy E n S10 h0 x4) fun v12 S11 =>
            if v12 = x1 then
              lt (x4 + (1 : Int32)) fun y14 =>
              f_X9_hopeOf_L21 E n  m S11 h0 x1 x2 x4 y14
            else
              lt (x4 + (1 : Int32)) fun y13 =>
              f_X9_hopeOf_L21 E n  m S11 h0 x1 x2 (-1 : Int32) y13
      else
        (gr S 513 h0).bind fun b4 =>
        if ((102 : Int32) + x1) < 0 ∨ eN E b4 ≤ ((102 : Int32) + x1).toNatClampNeg then none else
        lt (wi S b4 (upd (ai S b4) ((102 : Int32) + x1).toNatClampNeg x2)) fun S5 =>
        some (x3, S5)
def f_X9_hopeOf (E : EN) (n : Nat) (S : WS) (h0 : Nat) (x1 : Int32) : Option (Int32 × WS) :=
  bd (f_X9_isRefused E n S h0 x1) fun v2 S1 =>
  if v2 = 0 then
    some ((-1 : Int32), S1)
  else
    bd (f_X9_courts E n S1 h0 x1) fun v4 S3 =>
    f_X9_hopeOf_L21 E n  n S3 h0 x1 v4 (-1 : Int32) (0 : Int32)
def f_X9_restless_L2 (E : EN) (n : Nat)  : Nat → WS → Nat → Int32 → Option (Int32 × WS)
  | 0 => fun _ _ _ => none
  | m + 1 => fun S h0 x1 =>
    (gr S 513 h0).bind fun b1 =>
    if (4 : Int32) < 0 ∨ eN E b1 ≤ (4 : Int32).toNatClampNeg then none else
    if (ai S b1 (4 : Int32).toNatClampNeg) ≤ x1 then
      some ((-1 : Int32), S)
    else
      bd (f_X9_hopeOf E n S h0 x1) fun v3 S2 =>
      if v3 = (-1 : Int32) then
        lt (x1 + (1 : Int32)) fun y4 =>
        f_X9_restless_L2 E n  m S2 h0 y4
      else
        some (x1, S2)
def f_X9_restless (E : EN) (n : Nat) (S : WS) (h0 : Nat) : Option (Int32 × WS) :=
  f_X9_restless_L2 E n  n S h0 (0 : Int32)
def f_X9_hopes (E : EN) (n : Nat) (S : WS) (h0 : Nat) (x1 : Int32) : Option (Int32 × WS) :=
  bd (f_X9_isSuitor E n S h0 x1) fun v2 S1 =>
  if v2 = 0 then
    some ((-2 : Int32), S1)
  else
    bd (f_X9_hopeOf E n S1 h0 x1) fun v4 S3 =>
    some (v4, S3)
def f_X9_peace (E : EN) (n : Nat) (S : WS) (h0 : Nat) : Option (Int32 × WS) :=
  bd (f_X9_isMountain E n S h0) fun v2 S1 =>
  if v2 = 0 then
    some ((-2 : Int32), S1)
  else
    bd (f_X9_restless E n S1 h0) fun v4 S3 =>
    if v4 = (-1 : Int32) then
      some ((1 : Int32), S3)
    else
      some ((0 : Int32), S3)
def f_X9_settles_L7 (E : EN) (n : Nat)  : Nat → WS → Nat → Int32 → Int32 → Int32 → Option (Int32 × WS)
  | 0 => fun _ _ _ _ _ => none
  | m + 1 => fun S h0 x1 x2 x3 =>
    if x3 = (-1 : Int32) then
      if x3 = (-1 : Int32) then
        some (x2, S)
      else
        some ((-1 : Int32), S)
    else
      if x1 ≤ x2 then
        if x3 = (-1 : Int32) then
          some (x2, S)
        else
          some ((-1 : Int32), S)
      else
        (gr S 513 h0).bind fun b1 =>
        bd (f_X9_hopeOf E n S h0 x3) fun v3 S2 =>
        if ((102 : Int32) + x3) < 0 ∨ eN E b1 ≤ ((102 : Int32) + x3).toNatClampNeg then none else
        lt (wi S2 b1 (upd (ai S2 b1) ((102 : Int32) + x3).toNatClampNeg v3)) fun S4 =>
        lt (x2 + (1 : Int32)) fun y5 =>
        bd (f_X9_restless E n S4 h0) fun v7 S6 =>
        f_X9_settles_L7 E n  m S6 h0 x1 y5 v7
def f_X9_settles (E : EN) (n : Nat) (S : WS) (h0 : Nat) (x1 : Int32) : Option (Int32 × WS) :=
  bd (f_X9_restless E n S h0) fun v2 S1 =>
  f_X9_settles_L7 E n  n S1 h0 x1 (0 : Int32) v2
def f_X9_keeps_L2 (E : EN) (n : Nat)  : Nat → WS → Nat → Int32 → Option (Unit × WS)
  | 0 => fun _ _ _ => none
  | m + 1 => fun S h0 x1 =>
    (gr S 513 h0).bind fun b1 =>
    if (4 : Int32) < 0 ∨ eN E b1 ≤ (4 : Int32).toNatClampNeg then none else
    if (ai S b1 (4 : Int32).toNatClampNeg) ≤ x1 then
      some ((), S)
    else
      (gr S 538 h0).bind fun b2 =>
      bd (f_X9_courts E n S h0 x1) fun v4 S3 =>
      if x1 < 0 ∨ eN E b2 ≤ x1.toNatClampNeg then none else
      lt (wi S3 b2 (upd (ai S3 b2) x1.toNatClampNeg v4)) fun S5 =>
      lt (x1 + (1 : Int32)) fun y6 =>
      f_X9_keeps_L2 E n  m S5 h0 y6
def f_X9_keeps (E : EN) (n : Nat) (S : WS) (h0 : Nat) : Option (Unit × WS) :=
  f_X9_keeps_L2 E n  n S h0 (0 : Int32)
def f_X9_peaces (E : EN) (n : Nat) (S : WS) (h0 : Nat) (x1 : Int32) : Option (Int32 × WS) :=
  bd (f_X9_isMountain E n S h0) fun v2 S1 =>
  if v2 = 0 then
    some ((-2 : Int32), S1)
  else
    bd (f_X9_in E n S1 (x1.toInt64) (0 : Int64) (40 : Int64)) fun v4 S3 =>
    if v4 = 0 then
      some ((-2 : Int32), S3)
    else
      bd (f_X9_keeps E n S3 h0) fun v6 S5 =>
      bd (f_X9_settles E n S5 h0 x1) fun v8 S7 =>
      bd (f_X9_endsCourtings E n S7 h0) fun v10 S9 =>
      some (v8, S9)
def f_X9_then (E : EN) (n : Nat) (S : WS) (h0 : Nat) (x1 : Int32) (x2 : Int32) : Option (Int32 × WS) :=
  bd (f_X9_isSuitor E n S h0 x1) fun v2 S1 =>
  if v2 = 0 then
    some ((-2 : Int32), S1)
  else
    bd (f_X9_in E n S1 (x2.toInt64) (0 : Int64) (40 : Int64)) fun v4 S3 =>
    if v4 = 0 then
      some ((-2 : Int32), S3)
    else
      bd (f_X9_keeps E n S3 h0) fun v6 S5 =>
      bd (f_X9_settles E n S5 h0 x2) fun v8 S7 =>
      bd (f_X9_courts E n S7 h0 x1) fun v10 S9 =>
      bd (f_X9_endsCourtings E n S9 h0) fun v12 S11 =>
      some (v10, S11)
def f_X9_draw (E : EN) (n : Nat) (S : WS) (h0 : Nat) : Option (Int32 × WS) :=
  if (2147483648 : Int64) = 0 then none else
  lt (sj S 545 h0 ((((1103515245 : Int64) * (gj S 545 h0)) + (12345 : Int64)) - (((1103515245 : Int64) * (gj S 545 h0)) + (12345 : Int64)) / (2147483648 : Int64) * (2147483648 : Int64))) fun S1 =>
  if (65536 : Int64) = 0 then none else
  if (100 : Int64) = 0 then none else
  some (((((gj S1 545 h0) / (65536 : Int64)) - ((gj S1 545 h0) / (65536 : Int64)) / (100 : Int64) * (100 : Int64)).toInt32), S1)
def f_X9_misses_L2 (E : EN) (n : Nat)  : Nat → WS → Nat → Int32 → Int32 → Int32 → Option (Int32 × WS)
  | 0 => fun _ _ _ _ _ => none
  | m + 1 => fun S h0 x1 x2 x3 =>
    (gr S 513 h0).bind fun b1 =>
    if (4 : Int32) < 0 ∨ eN E b1 ≤ (4 : Int32).toNatClampNeg then none else
    if (ai S b1 (4 : Int32).toNatClampNeg) ≤ x3 then
      some ((0 : Int32), S)
    else
      bd (f_X9_hasStep E n S h0 x3 x1 x2) fun v3 S2 =>
      if v3 = 0 then
        lt (x3 + (1 : Int32)) fun y4 =>
        f_X9_misses_L2 E n  m S2 h0 x1 x2 y4
      else
        bd (f_X9_draw E n S2 h0) fun v6 S5 =>
        bd (f_X9_fallOf E n S5 h0 x3 x2) fun v8 S7 =>
        if v8 ≤ v6 then
          lt (x3 + (1 : Int32)) fun y9 =>
          f_X9_misses_L2 E n  m S7 h0 x1 x2 y9
        else
          some ((1 : Int32), S7)
def f_X9_misses (E : EN) (n : Nat) (S : WS) (h0 : Nat) (x1 : Int32) (x2 : Int32) : Option (Int32 × WS) :=
  f_X9_misses_L2 E n  n S h0 x1 x2 (0 : Int32)
def f_X9_walks_L8 (E : EN) (n : Nat)  : Nat → WS → Nat → Int32 → Int32 → Option (Int32 × WS)
  | 0 => fun _ _ _ _ => none
  | m + 1 => fun S h0 x3 x4 =>
    if (gi S 536 h0) ≤ x4 then
      (gr S 535 h0).bind fun b1 =>
      if ((gi S 536 h0) - (1 : Int32)) < 0 ∨ eN E b1 ≤ ((gi S 536 h0) - (1 : Int32)).toNatClampNeg then none else
      some ((ai S b1 ((gi S 536 h0) - (1 : Int32)).toNatClampNeg), S)
    else
      (gr S 535 h0).bind fun b2 =>
      if (x4 - (1 : Int32)) < 0 ∨ eN E b2 ≤ (x4 - (1 : Int32)).toNatClampNeg then none else
      lt (ai S b2 (x4 - (1 : Int32)).toNatClampNeg) fun y3 =>
      (gr S 535 h0).bind fun b4 =>
      if x4 < 0 ∨ eN E b4 ≤ x4.toNatClampNeg then none else
      lt (ai S b4 x4.toNatClampNeg) fun y5 =>
      bd (f_X9_pathBetween E n S h0 y3 y5) fun v7 S6 =>
      bd (f_X9_misses E n S6 h0 v7 x3) fun v9 S8 =>
      if v9 = 0 then
        lt (x4 + (1 : Int32)) fun y10 =>
        f_X9_walks_L8 E n  m S8 h0 x3 y10
      else
        (gr S8 513 h0).bind fun b11 =>
        if ((7 : Int32) + y5) < 0 ∨ eN E b11 ≤ ((7 : Int32) + y5).toNatClampNeg then none else
        (gr S8 513 h0).bind fun b12 =>
        if ((7 : Int32) + y3) < 0 ∨ eN E b12 ≤ ((7 : Int32) + y3).toNatClampNeg then none else
        if (ai S8 b12 ((7 : Int32) + y3).toNatClampNeg) ≤ (ai S8 b11 ((7 : Int32) + y5).toNatClampNeg) then
          some (y3, S8)
        else
          some (y5, S8)
def f_X9_walks (E : EN) (n : Nat) (S : WS) (h0 : Nat) (x1 : Int64) (x3 : Int32) : Option (Int32 × WS) :=
  lt (sj S 545 h0 x1) fun S1 =>
  f_X9_walks_L8 E n  n S1 h0 x3 (1 : Int32)
def f_X9_isSeed (E : EN) (n : Nat) (S : WS) (x0 : Int32) : Option (Int32 × WS) :=
  bd (f_X9_in E n S (x0.toInt64) (0 : Int64) (2000000000 : Int64)) fun v2 S1 =>
  zc v2 S1
def f_X9_walk (E : EN) (n : Nat) (S : WS) (h0 : Nat) (x1 : Int32) (x2 : Int32) (x3 : Int32) (x4 : Int32) : Option (Int32 × WS) :=
  bd (f_X9_isSeed E n S x1) fun v2 S1 =>
  if v2 = 0 then
    some ((-2 : Int32), S1)
  else
    bd (f_X9_isAsked E n S1 h0 x2 x3 x4) fun v4 S3 =>
    if v4 = 0 then
      some ((-2 : Int32), S3)
    else
      bd (f_X9_allWays E n S3 h0 x2 x3 x4) fun v6 S5 =>
      if (gi S5 536 h0) = 0 then
        some ((-1 : Int32), S5)
      else
        bd (f_X9_walks E n S5 h0 (x1.toInt64) x4) fun v8 S7 =>
        some (v8, S7)
def f_X9_walks__L58 (E : EN) (n : Nat)  : Nat → WS → Nat → Int32 → Int32 → Int32 → Int32 → Int32 → Int32 → Option (Int32 × WS)
  | 0 => fun _ _ _ _ _ _ _ _ => none
  | m + 1 => fun S h0 x1 x2 x4 x5 x6 x7 =>
    if x2 ≤ x7 then
      some (x6, S)
    else
      bd (f_X9_walks E n S h0 ((x1.toInt64) + (x7.toInt64)) x5) fun v2 S1 =>
      if v2 = x4 then
        lt (x6 + (1 : Int32)) fun y5 =>
        lt (x7 + (1 : Int32)) fun y6 =>
        f_X9_walks__L58 E n  m S1 h0 x1 x2 x4 x5 y5 y6
      else
        lt (x6 + (0 : Int32)) fun y3 =>
        lt (x7 + (1 : Int32)) fun y4 =>
        f_X9_walks__L58 E n  m S1 h0 x1 x2 x4 x5 y3 y4
def f_X9_walks_ (E : EN) (n : Nat) (S : WS) (h0 : Nat) (x1 : Int32) (x2 : Int32) (x3 : Int32) (x4 : Int32) (x5 : Int32) : Option (Int32 × WS) :=
  bd (f_X9_isSeed E n S x1) fun v2 S1 =>
  if v2 = 0 then
    some ((-2 : Int32), S1)
  else
    bd (f_X9_in E n S1 (x2.toInt64) (1 : Int64) (20 : Int64)) fun v4 S3 =>
    if v4 = 0 then
      some ((-2 : Int32), S3)
    else
      bd (f_X9_isAsked E n S3 h0 x3 x4 x5) fun v6 S5 =>
      if v6 = 0 then
        some ((-2 : Int32), S5)
      else
        bd (f_X9_allWays E n S5 h0 x3 x4 x5) fun v8 S7 =>
        if (gi S7 536 h0) = 0 then
          some ((-1 : Int32), S7)
        else
          f_X9_walks__L58 E n  n S7 h0 x1 x2 x4 x5 (0 : Int32) (0 : Int32)
def f_X9_count_L150 (E : EN) (n : Nat)  : Nat → WS → Nat → Int32 → Int32 → Option (Int32 × WS)
  | 0 => fun _ _ _ _ => none
  | m + 1 => fun S h0 x2 x3 =>
    if (4 : Int32) ≤ x3 then
      some (x2, S)
    else
      (gr S 546 h0).bind fun b1 =>
      if x3 < 0 ∨ eN E b1 ≤ x3.toNatClampNeg then none else
      if (ai S b1 x3.toNatClampNeg) = (-1 : Int32) then
        lt (x2 + (0 : Int32)) fun y4 =>
        lt (x3 + (1 : Int32)) fun y5 =>
        f_X9_count_L150 E n  m S h0 y4 y5
      else
        lt (x2 + (1 : Int32)) fun y2 =>
        lt (x3 + (1 : Int32)) fun y3 =>
        f_X9_count_L150 E n  m S h0 y2 y3
def f_X9_count_L111 (E : EN) (n : Nat)  : Nat → WS → Nat → Int32 → Int32 → Option (Int32 × WS)
  | 0 => fun _ _ _ _ => none
  | m + 1 => fun S h0 x2 x3 =>
    (gr S 513 h0).bind fun b1 =>
    if (4 : Int32) < 0 ∨ eN E b1 ≤ (4 : Int32).toNatClampNeg then none else
    if (ai S b1 (4 : Int32).toNatClampNeg) ≤ x3 then
      some (x2, S)
    else
      bd (f_X9_courts E n S h0 x3) fun v3 S2 =>
      if v3 = (-1 : Int32) then
        lt (x2 ||| (0 : Int32)) fun y6 =>
        lt (x3 + (1 : Int32)) fun y7 =>
        f_X9_count_L111 E n  m S2 h0 y6 y7
      else
        lt (x2 ||| ((1 : Int32) <<< (x3 &&& 31))) fun y4 =>
        lt (x3 + (1 : Int32)) fun y5 =>
        f_X9_count_L111 E n  m S2 h0 y4 y5
def f_X9_count (E : EN) (n : Nat) (S : WS) (h0 : Nat) (x1 : Int32) : Option (Int32 × WS) :=
  if x1 = (0 : Int32) then
    bd (f_X9_places E n S h0) fun v2 S1 =>
    some (v2, S1)
  else
  if x1 = (1 : Int32) then
    (gr S 513 h0).bind fun b3 =>
    if (1 : Int32) < 0 ∨ eN E b3 ≤ (1 : Int32).toNatClampNeg then none else
    some ((ai S b3 (1 : Int32).toNatClampNeg), S)
  else
  if x1 = (2 : Int32) then
    (gr S 513 h0).bind fun b4 =>
    if (2 : Int32) < 0 ∨ eN E b4 ≤ (2 : Int32).toNatClampNeg then none else
    some ((ai S b4 (2 : Int32).toNatClampNeg), S)
  else
  if x1 = (3 : Int32) then
    (gr S 513 h0).bind fun b5 =>
    if (3 : Int32) < 0 ∨ eN E b5 ≤ (3 : Int32).toNatClampNeg then none else
    some ((ai S b5 (3 : Int32).toNatClampNeg), S)
  else
  if x1 = (4 : Int32) then
    (gr S 513 h0).bind fun b6 =>
    if (4 : Int32) < 0 ∨ eN E b6 ≤ (4 : Int32).toNatClampNeg then none else
    some ((ai S b6 (4 : Int32).toNatClampNeg), S)
  else
  if x1 = (5 : Int32) then
    (gr S 513 h0).bind fun b7 =>
    if (5 : Int32) < 0 ∨ eN E b7 ≤ (5 : Int32).toNatClampNeg then none else
    some ((ai S b7 (5 : Int32).toNatClampNeg), S)
  else
  if x1 = (6 : Int32) then
    (gr S 513 h0).bind fun b8 =>
    if (6 : Int32) < 0 ∨ eN E b8 ≤ (6 : Int32).toNatClampNeg then none else
    some ((ai S b8 (6 : Int32).toNatClampNeg), S)
  else
  if x1 = (7 : Int32) then
    some ((gi S 517 h0), S)
  else
  if x1 = (8 : Int32) then
    f_X9_count_L111 E n  n S h0 (0 : Int32) (0 : Int32)
  else
  if x1 = (9 : Int32) then
    f_X9_count_L150 E n  n S h0 (0 : Int32) (0 : Int32)
  else
    some ((-1 : Int32), S)
def f_X9_isSlot (E : EN) (n : Nat) (S : WS) (x0 : Int32) : Option (Int32 × WS) :=
  bd (f_X9_in E n S (x0.toInt64) (0 : Int64) (3 : Int64)) fun v2 S1 =>
  zc v2 S1
def f_X9_cut (E : EN) (n : Nat) (S : WS) (x0 : Int64) (x2 : Int32) : Option (Int64 × WS) :=
  lt ((64 : Int32) - ((8 : Int32) <<< (x2 &&& 31))) fun y1 =>
  some (((x0 <<< (y1.toInt64 &&& 63)) >>> (y1.toInt64 &&& 63)), S)
def f_X9_row_L52 (E : EN) (n : Nat)  : Nat → WS → Nat → Int32 → Int32 → Option (Int32 × WS)
  | 0 => fun _ _ _ _ => none
  | m + 1 => fun S h0 x1 x4 =>
    if (60 : Int32) ≤ x4 then
      some ((0 : Int32), S)
    else
      (gr S 548 h0).bind fun b1 =>
      if (((60 : Int32) * x1) + x4) < 0 ∨ eN E b1 ≤ (((60 : Int32) * x1) + x4).toNatClampNeg then none else
      lt (wj S b1 (vp_updL (aj S b1) (((60 : Int32) * x1) + x4).toNatClampNeg (0 : Int64))) fun S2 =>
      lt (x4 + (1 : Int32)) fun y3 =>
      f_X9_row_L52 E n  m S2 h0 x1 y3
def f_X9_row (E : EN) (n : Nat) (S : WS) (h0 : Nat) (x1 : Int32) (x2 : Int32) (x3 : Int32) : Option (Int32 × WS) :=
  bd (f_X9_isSlot E n S x1) fun v2 S1 =>
  if v2 = 0 then
    some ((-2 : Int32), S1)
  else
    bd (f_X9_in E n S1 (x2.toInt64) (0 : Int64) (3 : Int64)) fun v4 S3 =>
    if v4 = 0 then
      some ((-2 : Int32), S3)
    else
      if x3 ≤ (60 : Int32) then
        if 0 ≤ x3 then
          (gr S3 546 h0).bind fun b5 =>
          if x1 < 0 ∨ eN E b5 ≤ x1.toNatClampNeg then none else
          lt (wi S3 b5 (upd (ai S3 b5) x1.toNatClampNeg x3)) fun S6 =>
          (gr S6 547 h0).bind fun b7 =>
          if x1 < 0 ∨ eN E b7 ≤ x1.toNatClampNeg then none else
          lt (wi S6 b7 (upd (ai S6 b7) x1.toNatClampNeg x2)) fun S8 =>
          f_X9_row_L52 E n  n S8 h0 x1 (0 : Int32)
        else
          some ((-3 : Int32), S3)
      else
        some ((-2 : Int32), S3)
def f_X9_write (E : EN) (n : Nat) (S : WS) (h0 : Nat) (x1 : Int32) (x2 : Int32) (x3 : Int64) : Option (Int32 × WS) :=
  bd (f_X9_isSlot E n S x1) fun v2 S1 =>
  if v2 = 0 then
    some ((-2 : Int32), S1)
  else
    (gr S1 546 h0).bind fun b3 =>
    if x1 < 0 ∨ eN E b3 ≤ x1.toNatClampNeg then none else
    if (ai S1 b3 x1.toNatClampNeg) = (-1 : Int32) then
      some ((-6 : Int32), S1)
    else
      (gr S1 546 h0).bind fun b4 =>
      if x1 < 0 ∨ eN E b4 ≤ x1.toNatClampNeg then none else
      bd (f_X9_in E n S1 (x2.toInt64) (0 : Int64) (((ai S1 b4 x1.toNatClampNeg) - (1 : Int32)).toInt64)) fun v6 S5 =>
      if v6 = 0 then
        some ((-7 : Int32), S5)
      else
        (gr S5 548 h0).bind fun b7 =>
        (gr S5 547 h0).bind fun b8 =>
        if x1 < 0 ∨ eN E b8 ≤ x1.toNatClampNeg then none else
        bd (f_X9_cut E n S5 x3 (ai S5 b8 x1.toNatClampNeg)) fun v10 S9 =>
        if (((60 : Int32) * x1) + x2) < 0 ∨ eN E b7 ≤ (((60 : Int32) * x1) + x2).toNatClampNeg then none else
        lt (wj S9 b7 (vp_updL (aj S9 b7) (((60 : Int32) * x1) + x2).toNatClampNeg v10)) fun S11 =>
        some ((0 : Int32), S11)
def f_X9_paste_L150 (E : EN) (n : Nat)  : Nat → WS → Nat → Int32 → Int32 → Int32 → Int32 → Option (Int32 × WS)
  | 0 => fun _ _ _ _ _ _ => none
  | m + 1 => fun S h0 x3 x4 x5 x6 =>
    if x5 ≤ x6 then
      some ((0 : Int32), S)
    else
      (gr S 548 h0).bind fun b1 =>
      (gr S 549 h0).bind fun b2 =>
      if x6 < 0 ∨ eN E b2 ≤ x6.toNatClampNeg then none else
      if ((((60 : Int32) * x3) + x4) + x6) < 0 ∨ eN E b1 ≤ ((((60 : Int32) * x3) + x4) + x6).toNatClampNeg then none else
      lt (wj S b1 (vp_updL (aj S b1) ((((60 : Int32) * x3) + x4) + x6).toNatClampNeg (aj S b2 x6.toNatClampNeg))) fun S3 =>
      lt (x6 + (1 : Int32)) fun y4 =>
      f_X9_paste_L150 E n  m S3 h0 x3 x4 x5 y4
def f_X9_paste_L113 (E : EN) (n : Nat)  : Nat → WS → Nat → Int32 → Int32 → Int32 → Int32 → Int32 → Int32 → Option (Int32 × WS)
  | 0 => fun _ _ _ _ _ _ _ _ => none
  | m + 1 => fun S h0 x1 x2 x3 x4 x5 x6 =>
    if x5 ≤ x6 then
      f_X9_paste_L150 E n  n S h0 x3 x4 x5 (0 : Int32)
    else
      (gr S 549 h0).bind fun b1 =>
      (gr S 548 h0).bind fun b2 =>
      if ((((60 : Int32) * x1) + x2) + x6) < 0 ∨ eN E b2 ≤ ((((60 : Int32) * x1) + x2) + x6).toNatClampNeg then none else
      if x6 < 0 ∨ eN E b1 ≤ x6.toNatClampNeg then none else
      lt (wj S b1 (vp_updL (aj S b1) x6.toNatClampNeg (aj S b2 ((((60 : Int32) * x1) + x2) + x6).toNatClampNeg))) fun S3 =>
      lt (x6 + (1 : Int32)) fun y4 =>
      f_X9_paste_L113 E n  m S3 h0 x1 x2 x3 x4 x5 y4
def f_X9_paste (E : EN) (n : Nat) (S : WS) (h0 : Nat) (x1 : Int32) (x2 : Int32) (x3 : Int32) (x4 : Int32) (x5 : Int32) : Option (Int32 × WS) :=
  bd (f_X9_isSlot E n S x1) fun v2 S1 =>
  if v2 = 0 then
    some ((-2 : Int32), S1)
  else
    bd (f_X9_isSlot E n S1 x3) fun v4 S3 =>
    if v4 = 0 then
      some ((-2 : Int32), S3)
    else
      (gr S3 546 h0).bind fun b5 =>
      if x1 < 0 ∨ eN E b5 ≤ x1.toNatClampNeg then none else
      if (ai S3 b5 x1.toNatClampNeg) = (-1 : Int32) then
        some ((-6 : Int32), S3)
      else
        (gr S3 546 h0).bind fun b6 =>
        if x3 < 0 ∨ eN E b6 ≤ x3.toNatClampNeg then none else
        if (ai S3 b6 x3.toNatClampNeg) = (-1 : Int32) then
          some ((-6 : Int32), S3)
        else
          (gr S3 547 h0).bind fun b7 =>
          if x1 < 0 ∨ eN E b7 ≤ x1.toNatClampNeg then none else
          (gr S3 547 h0).bind fun b8 =>
          if x3 < 0 ∨ eN E b8 ≤ x3.toNatClampNeg then none else
          if (ai S3 b7 x1.toNatClampNeg) = (ai S3 b8 x3.toNatClampNeg) then
            if x2 < 0 then
              some ((-7 : Int32), S3)
            else
              if x4 < 0 then
                some ((-7 : Int32), S3)
              else
                if x5 < 0 then
                  some ((-7 : Int32), S3)
                else
                  (gr S3 546 h0).bind fun b9 =>
                  if x1 < 0 ∨ eN E b9 ≤ x1.toNatClampNeg then none else
                  if 0 < (lg_cmp ((x2.toInt64) + (x5.toInt64)) ((ai S3 b9 x1.toNatClampNeg).toInt64)) then
                    some ((-7 : Int32), S3)
                  else
                    (gr S3 546 h0).bind fun b10 =>
                    if x3 < 0 ∨ eN E b10 ≤ x3.toNatClampNeg then none else
                    if (lg_cmp ((x4.toInt64) + (x5.toInt64)) ((ai S3 b10 x3.toNatClampNeg).toInt64)) ≤ 0 then
                      f_X9_paste_L113 E n  n S3 h0 x1 x2 x3 x4 x5 (0 : Int32)
                    else
                      some ((-7 : Int32), S3)
          else
            some ((-8 : Int32), S3)
def f_J6_bitCount_0f7a4 (E : EN) (n : Nat) (S : WS) (x0 : Int32) : Option (Int32 × WS) :=
  lt (x0 - (((x0.toUInt32 >>> ((1 : Int32).toUInt32 &&& Int32.toUInt32 31)).toInt32) &&& (1431655765 : Int32))) fun y1 =>
  lt ((y1 &&& (858993459 : Int32)) + (((y1.toUInt32 >>> ((2 : Int32).toUInt32 &&& Int32.toUInt32 31)).toInt32) &&& (858993459 : Int32))) fun y2 =>
  lt ((y2 + ((y2.toUInt32 >>> ((4 : Int32).toUInt32 &&& Int32.toUInt32 31)).toInt32)) &&& (252645135 : Int32)) fun y3 =>
  lt (y3 + ((y3.toUInt32 >>> ((8 : Int32).toUInt32 &&& Int32.toUInt32 31)).toInt32)) fun y4 =>
  lt (y4 + ((y4.toUInt32 >>> ((16 : Int32).toUInt32 &&& Int32.toUInt32 31)).toInt32)) fun y5 =>
  some ((y5 &&& (63 : Int32)), S)
def f_J7_fill_d0a16_L6 (E : EN) (n : Nat)  : Nat → WS → Nat → Int64 → Int32 → Int32 → Option (Unit × WS)
  | 0 => fun _ _ _ _ _ => none
  | m + 1 => fun S h0 x1 x3 x4 =>
    if x4 ≤ x3 then
      some ((), S)
    else
      if x3 < 0 ∨ eN E h0 ≤ x3.toNatClampNeg then none else
      lt (wj S h0 (vp_updL (aj S h0) x3.toNatClampNeg x1)) fun S1 =>
      lt (x3 + (1 : Int32)) fun y2 =>
      f_J7_fill_d0a16_L6 E n  m S1 h0 x1 y2 x4
def f_J7_fill_d0a16 (E : EN) (n : Nat) (S : WS) (h0 : Nat) (x1 : Int64) : Option (Unit × WS) :=
  lt (Int32.ofNat (eN E h0)) fun y1 =>
  f_J7_fill_d0a16_L6 E n  n S h0 x1 (0 : Int32) y1
def f_J7_fill_53178_L5 (E : EN) (n : Nat)  : Nat → WS → Nat → Int32 → Int32 → Int32 → Option (Unit × WS)
  | 0 => fun _ _ _ _ _ => none
  | m + 1 => fun S h0 x1 x2 x3 =>
    if x3 ≤ x2 then
      some ((), S)
    else
      if x2 < 0 ∨ eN E h0 ≤ x2.toNatClampNeg then none else
      lt (wi S h0 (upd (ai S h0) x2.toNatClampNeg x1)) fun S1 =>
      lt (x2 + (1 : Int32)) fun y2 =>
      f_J7_fill_53178_L5 E n  m S1 h0 x1 y2 x3
def f_J7_fill_53178 (E : EN) (n : Nat) (S : WS) (h0 : Nat) (x1 : Int32) : Option (Unit × WS) :=
  lt (Int32.ofNat (eN E h0)) fun y1 =>
  f_J7_fill_53178_L5 E n  n S h0 x1 (0 : Int32) y1
def f_J7_fill_031fb_L5 (E : EN) (n : Nat)  : Nat → WS → Nat → Int32 → Int32 → Int32 → Option (Unit × WS)
  | 0 => fun _ _ _ _ _ => none
  | m + 1 => fun S h0 x1 x2 x3 =>
    if x3 ≤ x2 then
      some ((), S)
    else
      if x2 < 0 ∨ eN E h0 ≤ x2.toNatClampNeg then none else
      lt (wi S h0 (upd (ai S h0) x2.toNatClampNeg (vp_nar .byte x1))) fun S1 =>
      lt (x2 + (1 : Int32)) fun y2 =>
      f_J7_fill_031fb_L5 E n  m S1 h0 x1 y2 x3
def f_J7_fill_031fb (E : EN) (n : Nat) (S : WS) (h0 : Nat) (x1 : Int32) : Option (Unit × WS) :=
  lt (Int32.ofNat (eN E h0)) fun y1 =>
  f_J7_fill_031fb_L5 E n  n S h0 x1 (0 : Int32) y1
def f_X0_aimAt_L47 (E : EN) (n : Nat) (k38 : WS → Nat → Int32 → Int32 → Option (Unit × WS)) : Nat → WS → Nat → Int32 → Int32 → Int32 → Option (Unit × WS)
  | 0 => fun _ _ _ _ _ => none
  | m + 1 => fun S h0 x3 x6 x7 =>
    (gr S 0 h0).bind fun b1 =>
    if (gi S 131 b1) ≤ x7 then
      lt (x6 + (1 : Int32)) fun y2 =>
      k38 S h0 x3 y2
    else
      (gr S 0 h0).bind fun b3 =>
      bd (f_X3_dropOf E n S b3 x7) fun v5 S4 =>
      (gr S4 0 h0).bind fun b6 =>
      (gr S4 145 b6).bind fun b7 =>
      if x6 < 0 ∨ eN E b7 ≤ x6.toNatClampNeg then none else
      bd (f_X8_lacking E n S4 v5 (0 : Int32) (ai S4 b7 x6.toNatClampNeg)) fun v9 S8 =>
      (gr S8 5 h0).bind fun b10 =>
      if v9 = (-1 : Int32) then
        if ((x6 * (10 : Int32)) + x7) < 0 ∨ eN E b10 ≤ ((x6 * (10 : Int32)) + x7).toNatClampNeg then none else
        lt (wi S8 b10 (upd (ai S8 b10) ((x6 * (10 : Int32)) + x7).toNatClampNeg (1000000 : Int32))) fun S13 =>
        lt (x7 + (1 : Int32)) fun y14 =>
        f_X0_aimAt_L47 E n k38 m S13 h0 x3 x6 y14
      else
        if ((x6 * (10 : Int32)) + x7) < 0 ∨ eN E b10 ≤ ((x6 * (10 : Int32)) + x7).toNatClampNeg then none else
        lt (wi S8 b10 (upd (ai S8 b10) ((x6 * (10 : Int32)) + x7).toNatClampNeg v9)) fun S11 =>
        lt (x7 + (1 : Int32)) fun y12 =>
        f_X0_aimAt_L47 E n k38 m S11 h0 x3 x6 y12
def f_X0_aimAt_L38 (E : EN) (n : Nat)  : Nat → WS → Nat → Int32 → Int32 → Option (Unit × WS)
  | 0 => fun _ _ _ _ => none
  | m + 1 => fun S h0 x3 x6 =>
    if x3 ≤ x6 then
      some ((), S)
    else
      f_X0_aimAt_L47 E n (f_X0_aimAt_L38 E n  m) n S h0 x3 x6 (0 : Int32)
def f_X0_aimAt (E : EN) (n : Nat) (S : WS) (h0 : Nat) (h1 : Nat) (x2 : Int32) (x3 : Int32) (x4 : Int32) (x5 : Int32) : Option (Unit × WS) :=
  lt (sr S 0 h0 (some h1)) fun S1 =>
  lt (si S1 1 h0 x2) fun S2 =>
  lt (si S2 2 h0 x3) fun S3 =>
  lt (si S3 3 h0 x4) fun S4 =>
  lt (si S4 4 h0 x5) fun S5 =>
  (gr S5 6 h0).bind fun b6 =>
  bd (f_J7_fill_031fb E n S5 b6 (0 : Int32)) fun v8 S7 =>
  f_X0_aimAt_L38 E n  n S7 h0 x3 x2
def f_X0_addedBy (E : EN) (n : Nat) (S : WS) (h0 : Nat) (h1 : Nat) (x2 : Int32) (x3 : Int32) : Option (Int64 × WS) :=
  (gr S 138 h1).bind fun b1 =>
  if x3 < 0 ∨ eN E b1 ≤ x3.toNatClampNeg then none else
  lt (ai S b1 x3.toNatClampNeg) fun y2 =>
  bd (f_X3_wouldStep E n S h1 x2 x3 y2 (gi S 4 h0)) fun v4 S3 =>
  if v4 = 0 then
    some ((0 : Int64), S3)
  else
    some (((1 : Int64) <<< ((y2 * (3 : Int32)).toInt64 &&& 63)), S3)
def f_X0_allCome_L19 (E : EN) (n : Nat) (k5 : WS → Nat → Int64 → Int32 → Option (Int32 × WS)) : Nat → WS → Nat → Int64 → Int32 → Int32 → Int32 → Option (Int32 × WS)
  | 0 => fun _ _ _ _ _ _ => none
  | m + 1 => fun S h0 x1 x3 x4 x5 =>
    (gr S 0 h0).bind fun b1 =>
    if (gi S 131 b1) ≤ x5 then
      lt ((x3 * (1024 : Int32)) + x4) fun y2 =>
      (gr S 6 h0).bind fun b3 =>
      if y2 < 0 ∨ eN E b3 ≤ y2.toNatClampNeg then none else
      if (ai S b3 y2.toNatClampNeg) = 0 then
        (gr S 0 h0).bind fun b6 =>
        (gr S 0 h0).bind fun b7 =>
        (gr S 146 b7).bind fun b8 =>
        if x3 < 0 ∨ eN E b8 ≤ x3.toNatClampNeg then none else
        bd (f_X3_placesFrom E n S b6 (ai S b8 x3.toNatClampNeg) x4) fun v10 S9 =>
        (gr S9 6 h0).bind fun b11 =>
        if ((v10 >>> ((gi S9 3 h0) &&& 31)) &&& (1 : Int32)) = (1 : Int32) then
          if y2 < 0 ∨ eN E b11 ≤ y2.toNatClampNeg then none else
          lt (wi S9 b11 (upd (ai S9 b11) y2.toNatClampNeg (vp_nar .byte ((1 : Int32).toInt8.toInt32)))) fun S15 =>
          (gr S15 6 h0).bind fun b16 =>
          if y2 < 0 ∨ eN E b16 ≤ y2.toNatClampNeg then none else
          if (ai S15 b16 y2.toNatClampNeg) = (2 : Int32) then
            some ((0 : Int32), S15)
          else
            lt (x3 + (1 : Int32)) fun y17 =>
            k5 S15 h0 x1 y17
        else
          if y2 < 0 ∨ eN E b11 ≤ y2.toNatClampNeg then none else
          lt (wi S9 b11 (upd (ai S9 b11) y2.toNatClampNeg (vp_nar .byte ((2 : Int32).toInt8.toInt32)))) fun S12 =>
          (gr S12 6 h0).bind fun b13 =>
          if y2 < 0 ∨ eN E b13 ≤ y2.toNatClampNeg then none else
          if (ai S12 b13 y2.toNatClampNeg) = (2 : Int32) then
            some ((0 : Int32), S12)
          else
            lt (x3 + (1 : Int32)) fun y14 =>
            k5 S12 h0 x1 y14
      else
        (gr S 6 h0).bind fun b4 =>
        if y2 < 0 ∨ eN E b4 ≤ y2.toNatClampNeg then none else
        if (ai S b4 y2.toNatClampNeg) = (2 : Int32) then
          some ((0 : Int32), S)
        else
          lt (x3 + (1 : Int32)) fun y5 =>
          k5 S h0 x1 y5
    else
      (gr S 5 h0).bind fun b18 =>
      if ((x3 * (10 : Int32)) + x5) < 0 ∨ eN E b18 ≤ ((x3 * (10 : Int32)) + x5).toNatClampNeg then none else
      if (lg_cmp ((x1 >>> ((x5 * (3 : Int32)).toInt64 &&& 63)) &&& (7 : Int64)) ((ai S b18 ((x3 * (10 : Int32)) + x5).toNatClampNeg).toInt64)) < 0 then
        lt (x5 + (1 : Int32)) fun y19 =>
        f_X0_allCome_L19 E n k5 m S h0 x1 x3 x4 y19
      else
        lt (x4 ||| ((1 : Int32) <<< (x5 &&& 31))) fun y20 =>
        lt (x5 + (1 : Int32)) fun y21 =>
        f_X0_allCome_L19 E n k5 m S h0 x1 x3 y20 y21
def f_X0_allCome_L5 (E : EN) (n : Nat)  : Nat → WS → Nat → Int64 → Int32 → Option (Int32 × WS)
  | 0 => fun _ _ _ _ => none
  | m + 1 => fun S h0 x1 x3 =>
    if (gi S 2 h0) ≤ x3 then
      some ((1 : Int32), S)
    else
      f_X0_allCome_L19 E n (f_X0_allCome_L5 E n  m) n S h0 x1 x3 (0 : Int32) (0 : Int32)
def f_X0_allCome (E : EN) (n : Nat) (S : WS) (h0 : Nat) (x1 : Int64) : Option (Int32 × WS) :=
  lt (gi S 1 h0) fun y1 =>
  f_X0_allCome_L5 E n  n S h0 x1 y1
def f_X2_takeOver_L64 (E : EN) (n : Nat) (k15 : WS → Nat → Nat → Nat → Int32 → Option (Unit × WS)) : Nat → WS → Nat → Nat → Nat → Int32 → Int32 → Option (Unit × WS)
  | 0 => fun _ _ _ _ _ _ => none
  | m + 1 => fun S h0 h1 h2 x3 x4 =>
    if x4 < 0 then
      lt (x3 + (1 : Int32)) fun y1 =>
      k15 S h0 h1 h2 y1
    else
      (gr S 65 h0).bind fun b2 =>
      if x3 < 0 ∨ eN E b2 ≤ x3.toNatClampNeg then none else
      bd (f_X3_dropOf E n S h1 (ai S b2 x3.toNatClampNeg)) fun v4 S3 =>
      bd (f_X8_roundedUp E n S3 v4 (x4 + (1 : Int32))) fun v6 S5 =>
      bd (f_X6_leapTold E n S5 h2 x3) fun v8 S7 =>
      if (lg_cmp (v6.toInt64) v8) = 0 then
        (gr S7 67 h0).bind fun b10 =>
        if x3 < 0 ∨ eN E b10 ≤ x3.toNatClampNeg then none else
        lt (wi S7 b10 (upd (ai S7 b10) x3.toNatClampNeg x4)) fun S11 =>
        (gr S11 68 h0).bind fun b12 =>
        (gr S11 68 h0).bind fun b13 =>
        if x3 < 0 ∨ eN E b13 ≤ x3.toNatClampNeg then none else
        if x3 < 0 ∨ eN E b12 ≤ x3.toNatClampNeg then none else
        lt (wi S11 b12 (upd (ai S11 b12) x3.toNatClampNeg (imax (ai S11 b13 x3.toNatClampNeg) x4))) fun S14 =>
        lt (x4 + (-1 : Int32)) fun y15 =>
        f_X2_takeOver_L64 E n k15 m S14 h0 h1 h2 x3 y15
      else
        lt (x4 + (-1 : Int32)) fun y9 =>
        f_X2_takeOver_L64 E n k15 m S7 h0 h1 h2 x3 y9
def f_X2_takeOver_L15 (E : EN) (n : Nat)  : Nat → WS → Nat → Nat → Nat → Int32 → Option (Unit × WS)
  | 0 => fun _ _ _ _ _ => none
  | m + 1 => fun S h0 h1 h2 x3 =>
    if (gi S 64 h0) ≤ x3 then
      some ((), S)
    else
      (gr S 65 h0).bind fun b1 =>
      bd (f_X6_pathOf E n S h2 x3) fun v3 S2 =>
      if x3 < 0 ∨ eN E b1 ≤ x3.toNatClampNeg then none else
      lt (wi S2 b1 (upd (ai S2 b1) x3.toNatClampNeg v3)) fun S4 =>
      (gr S4 66 h0).bind fun b5 =>
      bd (f_X6_yearOf E n S4 h2 x3) fun v7 S6 =>
      if x3 < 0 ∨ eN E b5 ≤ x3.toNatClampNeg then none else
      lt (wi S6 b5 (upd (ai S6 b5) x3.toNatClampNeg v7)) fun S8 =>
      (gr S8 67 h0).bind fun b9 =>
      if x3 < 0 ∨ eN E b9 ≤ x3.toNatClampNeg then none else
      lt (wi S8 b9 (upd (ai S8 b9) x3.toNatClampNeg (8 : Int32))) fun S10 =>
      (gr S10 68 h0).bind fun b11 =>
      if x3 < 0 ∨ eN E b11 ≤ x3.toNatClampNeg then none else
      lt (wi S10 b11 (upd (ai S10 b11) x3.toNatClampNeg (-1 : Int32))) fun S12 =>
      f_X2_takeOver_L64 E n (f_X2_takeOver_L15 E n  m) n S12 h0 h1 h2 x3 (7 : Int32)
def f_X2_takeOver (E : EN) (n : Nat) (S : WS) (h0 : Nat) (h1 : Nat) (h2 : Nat) : Option (Unit × WS) :=
  bd (f_X6_measures E n S h2) fun v2 S1 =>
  lt (si S1 64 h0 (imin v2 (20 : Int32))) fun S3 =>
  f_X2_takeOver_L15 E n  n S3 h0 h1 h2 (0 : Int32)
def f_X2_addedBy_L6 (E : EN) (n : Nat)  : Nat → WS → Nat → Nat → Int32 → Int32 → Int64 → Int32 → Option (Int64 × WS)
  | 0 => fun _ _ _ _ _ _ _ => none
  | m + 1 => fun S h0 h1 x2 x3 x4 x6 =>
    if (gi S 64 h0) ≤ x6 then
      some (x4, S)
    else
      (gr S 65 h0).bind fun b1 =>
      if x6 < 0 ∨ eN E b1 ≤ x6.toNatClampNeg then none else
      (gr S 66 h0).bind fun b2 =>
      if x6 < 0 ∨ eN E b2 ≤ x6.toNatClampNeg then none else
      bd (f_X3_wouldStep E n S h1 x2 x3 (ai S b1 x6.toNatClampNeg) (ai S b2 x6.toNatClampNeg)) fun v4 S3 =>
      if v4 = 0 then
        lt (x6 + (1 : Int32)) fun y5 =>
        f_X2_addedBy_L6 E n  m S3 h0 h1 x2 x3 x4 y5
      else
        lt (x4 ||| ((1 : Int64) <<< ((x6 * (3 : Int32)).toInt64 &&& 63))) fun y6 =>
        lt (x6 + (1 : Int32)) fun y7 =>
        f_X2_addedBy_L6 E n  m S3 h0 h1 x2 x3 y6 y7
def f_X2_addedBy (E : EN) (n : Nat) (S : WS) (h0 : Nat) (h1 : Nat) (x2 : Int32) (x3 : Int32) : Option (Int64 × WS) :=
  f_X2_addedBy_L6 E n  n S h0 h1 x2 x3 (0 : Int64) (0 : Int32)
def f_X3_clearAll (E : EN) (n : Nat) (S : WS) (h0 : Nat) : Option (Unit × WS) :=
  lt (si S 128 h0 (0 : Int32)) fun S1 =>
  lt (si S1 129 h0 (0 : Int32)) fun S2 =>
  lt (si S2 130 h0 (0 : Int32)) fun S3 =>
  lt (si S3 131 h0 (0 : Int32)) fun S4 =>
  lt (si S4 132 h0 (0 : Int32)) fun S5 =>
  lt (si S5 133 h0 (0 : Int32)) fun S6 =>
  lt (si S6 134 h0 (0 : Int32)) fun S7 =>
  (gr S7 135 h0).bind fun b8 =>
  bd (f_J7_fill_53178 E n S7 b8 (0 : Int32)) fun v10 S9 =>
  (gr S9 144 h0).bind fun b11 =>
  bd (f_J7_fill_53178 E n S9 b11 (0 : Int32)) fun v13 S12 =>
  (gr S12 143 h0).bind fun b14 =>
  bd (f_J7_fill_53178 E n S12 b14 (-1 : Int32)) fun v16 S15 =>
  some ((), S15)
def f_X3_takeFrom (E : EN) (n : Nat) (S : WS) (h0 : Nat) (h1 : Nat) : Option (Unit × WS) :=
  lt (si S 128 h0 (gi S 128 h1)) fun S1 =>
  lt (si S1 129 h0 (gi S1 129 h1)) fun S2 =>
  lt (si S2 130 h0 (gi S2 130 h1)) fun S3 =>
  lt (si S3 131 h0 (gi S3 131 h1)) fun S4 =>
  lt (si S4 132 h0 (gi S4 132 h1)) fun S5 =>
  lt (si S5 133 h0 (gi S5 133 h1)) fun S6 =>
  lt (si S6 134 h0 (gi S6 134 h1)) fun S7 =>
  (gr S7 135 h1).bind fun b8 =>
  (gr S7 135 h0).bind fun b9 =>
  bd (f_X8_copyRow E n S7 b8 b9) fun v11 S10 =>
  (gr S10 136 h1).bind fun b12 =>
  (gr S10 136 h0).bind fun b13 =>
  bd (f_X8_copyRow E n S10 b12 b13) fun v15 S14 =>
  (gr S14 137 h1).bind fun b16 =>
  (gr S14 137 h0).bind fun b17 =>
  bd (f_X8_copyRow E n S14 b16 b17) fun v19 S18 =>
  (gr S18 138 h1).bind fun b20 =>
  (gr S18 138 h0).bind fun b21 =>
  bd (f_X8_copyRow E n S18 b20 b21) fun v23 S22 =>
  (gr S22 139 h1).bind fun b24 =>
  (gr S22 139 h0).bind fun b25 =>
  bd (f_X8_copyRow E n S22 b24 b25) fun v27 S26 =>
  (gr S26 140 h1).bind fun b28 =>
  (gr S26 140 h0).bind fun b29 =>
  bd (f_X8_copyRow E n S26 b28 b29) fun v31 S30 =>
  (gr S30 141 h1).bind fun b32 =>
  (gr S30 141 h0).bind fun b33 =>
  bd (f_X8_copyRow E n S30 b32 b33) fun v35 S34 =>
  (gr S34 142 h1).bind fun b36 =>
  (gr S34 142 h0).bind fun b37 =>
  bd (f_X8_copyRow E n S34 b36 b37) fun v39 S38 =>
  (gr S38 143 h1).bind fun b40 =>
  (gr S38 143 h0).bind fun b41 =>
  bd (f_X8_copyRow E n S38 b40 b41) fun v43 S42 =>
  (gr S42 144 h1).bind fun b44 =>
  (gr S42 144 h0).bind fun b45 =>
  bd (f_X8_copyRow E n S42 b44 b45) fun v47 S46 =>
  (gr S46 145 h1).bind fun b48 =>
  (gr S46 145 h0).bind fun b49 =>
  bd (f_X8_copyRow E n S46 b48 b49) fun v51 S50 =>
  (gr S50 146 h1).bind fun b52 =>
  (gr S50 146 h0).bind fun b53 =>
  bd (f_X8_copyRow E n S50 b52 b53) fun v55 S54 =>
  some ((), S54)
def f_X3_hopeOf_L13 (E : EN) (n : Nat)  : Nat → WS → Nat → Nat → Int32 → Int32 → Option (Int32 × WS)
  | 0 => fun _ _ _ _ _ => none
  | m + 1 => fun S h0 h1 x2 x3 =>
    if (gi S 132 h0) ≤ x3 then
      some ((-1 : Int32), S)
    else
      if x2 < 0 ∨ eN E h1 ≤ x2.toNatClampNeg then none else
      if x3 = (ai S h1 x2.toNatClampNeg) then
        lt (x3 + (1 : Int32)) fun y1 =>
        f_X3_hopeOf_L13 E n  m S h0 h1 x2 y1
      else
        bd (f_X3_isFor E n S h0 x2 x3) fun v3 S2 =>
        if v3 = 0 then
          lt (x3 + (1 : Int32)) fun y4 =>
          f_X3_hopeOf_L13 E n  m S2 h0 h1 x2 y4
        else
          bd (f_X3_wouldBeTaken E n S2 h0 h1 x2 x3) fun v6 S5 =>
          if v6 = 0 then
            lt (x3 + (1 : Int32)) fun y7 =>
            f_X3_hopeOf_L13 E n  m S5 h0 h1 x2 y7
          else
            some (x3, S5)
def f_X3_hopeOf (E : EN) (n : Nat) (S : WS) (h0 : Nat) (h1 : Nat) (x2 : Int32) : Option (Int32 × WS) :=
  bd (f_X3_isRefused E n S h0 h1 x2) fun v2 S1 =>
  if v2 = 0 then
    some ((-1 : Int32), S1)
  else
    f_X3_hopeOf_L13 E n  n S1 h0 h1 x2 (0 : Int32)
def f_X3_firstHoping_L2 (E : EN) (n : Nat)  : Nat → WS → Nat → Nat → Int32 → Option (Int32 × WS)
  | 0 => fun _ _ _ _ => none
  | m + 1 => fun S h0 h1 x2 =>
    if (gi S 133 h0) ≤ x2 then
      some ((-1 : Int32), S)
    else
      bd (f_X3_hopeOf E n S h0 h1 x2) fun v2 S1 =>
      if v2 = (-1 : Int32) then
        lt (x2 + (1 : Int32)) fun y3 =>
        f_X3_firstHoping_L2 E n  m S1 h0 h1 y3
      else
        some (x2, S1)
def f_X3_firstHoping (E : EN) (n : Nat) (S : WS) (h0 : Nat) (h1 : Nat) : Option (Int32 × WS) :=
  f_X3_firstHoping_L2 E n  n S h0 h1 (0 : Int32)
def f_X3_leapOf (E : EN) (n : Nat) (S : WS) (h0 : Nat) (x1 : Int32) (x2 : Int32) : Option (Int32 × WS) :=
  bd (f_X3_dropOf E n S h0 x1) fun v2 S1 =>
  bd (f_X3_stepsOn E n S1 h0 x1 x2 (-1 : Int32)) fun v4 S3 =>
  bd (f_X8_roundedUp E n S3 v2 (v4 + (1 : Int32))) fun v6 S5 =>
  some (v6, S5)
def f_X3_lackingOn (E : EN) (n : Nat) (S : WS) (h0 : Nat) (x1 : Int32) (x2 : Int32) (x3 : Int32) : Option (Int32 × WS) :=
  bd (f_X3_dropOf E n S h0 x1) fun v2 S1 =>
  bd (f_X3_stepsOn E n S1 h0 x1 x2 (-1 : Int32)) fun v4 S3 =>
  bd (f_X8_lacking E n S3 v2 v4 x3) fun v6 S5 =>
  some (v6, S5)
def f_X3_openPaths_L6 (E : EN) (n : Nat)  : Nat → WS → Nat → Int32 → Int32 → Int32 → Int32 → Int32 → Option (Int32 × WS)
  | 0 => fun _ _ _ _ _ _ _ => none
  | m + 1 => fun S h0 x1 x2 x3 x4 x5 =>
    if (gi S 131 h0) ≤ x5 then
      some (x4, S)
    else
      bd (f_X3_dropOf E n S h0 x5) fun v2 S1 =>
      bd (f_X3_stepsOn E n S1 h0 x5 x2 x3) fun v4 S3 =>
      bd (f_X8_roundedUp E n S3 v2 (v4 + (1 : Int32))) fun v6 S5 =>
      if x1 < v6 then
        lt (x5 + (1 : Int32)) fun y7 =>
        f_X3_openPaths_L6 E n  m S5 h0 x1 x2 x3 x4 y7
      else
        lt (x4 ||| ((1 : Int32) <<< (x5 &&& 31))) fun y8 =>
        lt (x5 + (1 : Int32)) fun y9 =>
        f_X3_openPaths_L6 E n  m S5 h0 x1 x2 x3 y8 y9
def f_X3_openPaths (E : EN) (n : Nat) (S : WS) (h0 : Nat) (x1 : Int32) (x2 : Int32) (x3 : Int32) : Option (Int32 × WS) :=
  f_X3_openPaths_L6 E n  n S h0 x1 x2 x3 (0 : Int32) (0 : Int32)
def f_X3_reachOf (E : EN) (n : Nat) (S : WS) (h0 : Nat) (x1 : Int32) (x2 : Int32) (x3 : Int32) : Option (Int32 × WS) :=
  (gr S 146 h0).bind fun b1 =>
  if x1 < 0 ∨ eN E b1 ≤ x1.toNatClampNeg then none else
  (gr S 145 h0).bind fun b2 =>
  if x1 < 0 ∨ eN E b2 ≤ x1.toNatClampNeg then none else
  bd (f_X3_openPaths E n S h0 (ai S b2 x1.toNatClampNeg) x2 x3) fun v4 S3 =>
  bd (f_X3_placesFrom E n S3 h0 (ai S b1 x1.toNatClampNeg) v4) fun v6 S5 =>
  some (v6, S5)
def f_X4_readSuitor_J52 (E : EN) (n : Nat)  (S : WS) (h0 : Nat) (h1 : Nat) (x2 : Int32) (s0 : Int32) : Option (Int32 × WS) :=
  if s0 = (-1 : Int32) then
    some ((0 : Int32), S)
  else
    bd (f_X4_takeWord E n S h0 11) fun v2 S1 =>
    if v2 = 0 then
      some ((0 : Int32), S1)
    else
      bd (f_X4_takeBrides E n S1 h0 h1) fun v4 S3 =>
      if v4 = (-1 : Int32) then
        some ((0 : Int32), S3)
      else
        (gr S3 140 h1).bind fun b5 =>
        if (gi S3 133 h1) < 0 ∨ eN E b5 ≤ (gi S3 133 h1).toNatClampNeg then none else
        lt (wi S3 b5 (upd (ai S3 b5) (gi S3 133 h1).toNatClampNeg x2)) fun S6 =>
        (gr S6 141 h1).bind fun b7 =>
        if (gi S6 133 h1) < 0 ∨ eN E b7 ≤ (gi S6 133 h1).toNatClampNeg then none else
        lt (wi S6 b7 (upd (ai S6 b7) (gi S6 133 h1).toNatClampNeg s0)) fun S8 =>
        (gr S8 142 h1).bind fun b9 =>
        if (gi S8 133 h1) < 0 ∨ eN E b9 ≤ (gi S8 133 h1).toNatClampNeg then none else
        lt (wi S8 b9 (upd (ai S8 b9) (gi S8 133 h1).toNatClampNeg v4)) fun S10 =>
        lt (si S10 133 h1 ((gi S10 133 h1) + (1 : Int32))) fun S11 =>
        some ((1 : Int32), S11)
def f_X4_readSuitor_J24 (E : EN) (n : Nat)  (S : WS) (h0 : Nat) (h1 : Nat) (s0 : Int32) : Option (Int32 × WS) :=
  if s0 = (-1 : Int32) then
    some ((0 : Int32), S)
  else
    bd (f_X4_takeWord E n S h0 10) fun v2 S1 =>
    if v2 = 0 then
      f_X4_readSuitor_J52 E n  S1 h0 h1 s0 (-1 : Int32)
    else
      bd (f_X4_takeNumber E n S1 h0 (0 : Int32) (100 : Int32)) fun v4 S3 =>
      f_X4_readSuitor_J52 E n  S3 h0 h1 s0 v4
def f_X4_readSuitor (E : EN) (n : Nat) (S : WS) (h0 : Nat) (h1 : Nat) : Option (Int32 × WS) :=
  bd (f_X4_nextToken E n S h0) fun v2 S1 =>
  bd (f_X4_takeWord E n S1 h0 9) fun v4 S3 =>
  if v4 = 0 then
    f_X4_readSuitor_J24 E n  S3 h0 h1 (-1 : Int32)
  else
    bd (f_X4_takeNumber E n S3 h0 (0 : Int32) (30 : Int32)) fun v6 S5 =>
    f_X4_readSuitor_J24 E n  S5 h0 h1 v6
def f_X5_noteAll_J134 (E : EN) (n : Nat) (k92 : WS → Nat → Int32 → Int32 → Int32 → Option (Unit × WS)) (S : WS) (h0 : Nat) (x1 : Int32) (x5 : Int32) (x6 : Int32) (g0 : Nat) (s1 : Int32) (s2 : Int32) (s3 : Int32) : Option (Unit × WS) :=
  if s1 < 0 ∨ eN E g0 ≤ s1.toNatClampNeg then none else
  lt (wi S g0 (upd (ai S g0) s1.toNatClampNeg (s2 ||| s3))) fun S1 =>
  if x5 = 0 then
    lt (x6 + (1 : Int32)) fun y2 =>
    k92 S1 h0 x1 x5 y2
  else
    (gr S1 265 h0).bind fun b3 =>
    if x1 ≤ x6 then
      if x6 < 0 ∨ eN E b3 ≤ x6.toNatClampNeg then none else
      lt (wi S1 b3 (upd (ai S1 b3) x6.toNatClampNeg (-1 : Int32))) fun S4 =>
      lt (x6 + (1 : Int32)) fun y5 =>
      k92 S4 h0 x1 x5 y5
    else
      (gr S1 261 h0).bind fun b6 =>
      if x6 < 0 ∨ eN E b6 ≤ x6.toNatClampNeg then none else
      if x6 < 0 ∨ eN E b3 ≤ x6.toNatClampNeg then none else
      lt (wi S1 b3 (upd (ai S1 b3) x6.toNatClampNeg ((ai S1 b6 x6.toNatClampNeg) - (1 : Int32)))) fun S7 =>
      lt (x6 + (1 : Int32)) fun y8 =>
      k92 S7 h0 x1 x5 y8
def f_X5_noteAll_L92 (E : EN) (n : Nat)  : Nat → WS → Nat → Int32 → Int32 → Int32 → Option (Unit × WS)
  | 0 => fun _ _ _ _ _ => none
  | m + 1 => fun S h0 x1 x5 x6 =>
    if (gi S 256 h0) ≤ x6 then
      some ((), S)
    else
      (gr S 266 h0).bind fun b1 =>
      if x6 < 0 ∨ eN E b1 ≤ x6.toNatClampNeg then none else
      if x1 ≤ x6 then
        (gr S 257 h0).bind fun b2 =>
        if x6 < 0 ∨ eN E b2 ≤ x6.toNatClampNeg then none else
        f_X5_noteAll_J134 E n (f_X5_noteAll_L92 E n  m) S h0 x1 x5 x6 b1 x6 (ai S b1 x6.toNatClampNeg) (ai S b2 x6.toNatClampNeg)
      else
        (gr S 261 h0).bind fun b3 =>
        if x6 < 0 ∨ eN E b3 ≤ x6.toNatClampNeg then none else
        f_X5_noteAll_J134 E n (f_X5_noteAll_L92 E n  m) S h0 x1 x5 x6 b1 x6 (ai S b1 x6.toNatClampNeg) ((1 : Int32) <<< ((ai S b3 x6.toNatClampNeg) &&& 31))
def f_X5_noteAll_J68 (E : EN) (n : Nat)  (S : WS) (h0 : Nat) (x1 : Int32) (x4 : Int32) (x5 : Int32) (g0 : Nat) (s1 : Int32) : Option (Unit × WS) :=
  lt (si S 264 g0 s1) fun S1 =>
  if x5 = 0 then
    lt (si S1 263 h0 (gi S1 263 h0)) fun S2 =>
    f_X5_noteAll_L92 E n  n S2 h0 x1 x5 (0 : Int32)
  else
    lt (si S1 263 h0 x4) fun S3 =>
    f_X5_noteAll_L92 E n  n S3 h0 x1 x5 (0 : Int32)
def f_X5_noteAll_J30 (E : EN) (n : Nat)  (S : WS) (h0 : Nat) (x1 : Int32) (x3 : Int32) (x4 : Int32) (s0 : Int32) : Option (Unit × WS) :=
  (gr S 260 h0).bind fun b1 =>
  if x1 < 0 ∨ eN E b1 ≤ x1.toNatClampNeg then none else
  lt (si S 262 h0 ((gi S 262 h0) + (ai S b1 x1.toNatClampNeg))) fun S2 =>
  if (gi S2 264 h0) = (-1 : Int32) then
    f_X5_noteAll_J68 E n  S2 h0 x1 x4 s0 h0 x3
  else
    f_X5_noteAll_J68 E n  S2 h0 x1 x4 s0 h0 (imin (gi S2 264 h0) x3)
def f_X5_noteAll (E : EN) (n : Nat) (S : WS) (h0 : Nat) (x1 : Int32) (x2 : Int32) (x3 : Int32) : Option (Unit × WS) :=
  bd (f_J6_bitCount_0f7a4 E n S x2) fun v2 S1 =>
  lt (x3 - v2) fun y3 =>
  if (gi S1 263 h0) = (-1 : Int32) then
    f_X5_noteAll_J30 E n  S1 h0 x1 x3 y3 (1 : Int32)
  else
    if (gi S1 263 h0) ≤ y3 then
      f_X5_noteAll_J30 E n  S1 h0 x1 x3 y3 (0 : Int32)
    else
      f_X5_noteAll_J30 E n  S1 h0 x1 x3 y3 (1 : Int32)
def f_X7_noteWay_J42 (E : EN) (n : Nat)  (S : WS) (h0 : Nat) (x1 : Int32) (x2 : Int64) : Option (Unit × WS) :=
  if 0 < (lg_cmp x2 (gj S 393 h0)) then
    lt (sj S 393 h0 x2) fun S1 =>
    lt (si S1 392 h0 x1) fun S2 =>
    (gr S2 388 h0).bind fun b3 =>
    (gr S2 394 h0).bind fun b4 =>
    bd (f_X8_copyRow E n S2 b3 b4) fun v6 S5 =>
    some ((), S5)
  else
    if (lg_cmp x2 (gj S 393 h0)) = 0 then
      if (gi S 392 h0) ≤ x1 then
        some ((), S)
      else
        lt (sj S 393 h0 x2) fun S7 =>
        lt (si S7 392 h0 x1) fun S8 =>
        (gr S8 388 h0).bind fun b9 =>
        (gr S8 394 h0).bind fun b10 =>
        bd (f_X8_copyRow E n S8 b9 b10) fun v12 S11 =>
        some ((), S11)
    else
      some ((), S)
def f_X7_noteWay (E : EN) (n : Nat) (S : WS) (h0 : Nat) (x1 : Int32) (x2 : Int64) : Option (Unit × WS) :=
  lt (si S 389 h0 ((gi S 389 h0) + (1 : Int32))) fun S1 =>
  if (gi S1 390 h0) = (-1 : Int32) then
    lt (si S1 390 h0 x1) fun S2 =>
    (gr S2 388 h0).bind fun b3 =>
    (gr S2 391 h0).bind fun b4 =>
    bd (f_X8_copyRow E n S2 b3 b4) fun v6 S5 =>
    f_X7_noteWay_J42 E n  S5 h0 x1 x2
  else
    if (gi S1 390 h0) ≤ x1 then
      f_X7_noteWay_J42 E n  S1 h0 x1 x2
    else
      lt (si S1 390 h0 x1) fun S7 =>
      (gr S7 388 h0).bind fun b8 =>
      (gr S7 391 h0).bind fun b9 =>
      bd (f_X8_copyRow E n S7 b8 b9) fun v11 S10 =>
      f_X7_noteWay_J42 E n  S10 h0 x1 x2
def f_X8_feed (E : EN) (n : Nat) (S : WS) (h0 : Nat) (x1 : Int32) (x2 : Int32) (x3 : Int32) (x4 : Int32) (x5 : Int32) : Option (Int32 × WS) :=
  if ((gi S 449 h0) + (20 : Int32)) ≤ (1400 : Int32) then
    bd (f_X8_putNumber E n S h0 x1) fun v2 S1 =>
    bd (f_X8_putNumber E n S1 h0 x2) fun v4 S3 =>
    bd (f_X8_putNumber E n S3 h0 x3) fun v6 S5 =>
    bd (f_X8_putNumber E n S5 h0 x4) fun v8 S7 =>
    bd (f_X8_putNumber E n S7 h0 x5) fun v10 S9 =>
    some ((gi S9 449 h0), S9)
  else
    some ((-1 : Int32), S)
def f_X8_leap (E : EN) (n : Nat) (S : WS) (h0 : Nat) (x1 : Int32) (x2 : Int32) : Option (Int32 × WS) :=
  bd (f_X8_knowsPath E n S h0 x1 x2) fun v2 S1 =>
  if v2 = 0 then
    some ((-2 : Int32), S1)
  else
    (gr S1 451 h0).bind fun b3 =>
    bd (f_X3_leapOf E n S1 b3 x1 x2) fun v5 S4 =>
    some (v5, S4)
def f_X8_lacks (E : EN) (n : Nat) (S : WS) (h0 : Nat) (x1 : Int32) (x2 : Int32) (x3 : Int32) : Option (Int32 × WS) :=
  bd (f_X8_knowsPath E n S h0 x1 x2) fun v2 S1 =>
  if v2 = 0 then
    some ((-2 : Int32), S1)
  else
    if x3 < 0 then
      some ((-2 : Int32), S1)
    else
      if x3 ≤ (99 : Int32) then
        (gr S1 451 h0).bind fun b3 =>
        bd (f_X3_lackingOn E n S1 b3 x1 x2 x3) fun v5 S4 =>
        some (v5, S4)
      else
        some ((-2 : Int32), S1)
def f_X8_most_L17 (E : EN) (n : Nat)  : Nat → WS → Nat → Int32 → Int32 → Int32 → Int32 → Option (Int32 × WS)
  | 0 => fun _ _ _ _ _ _ => none
  | m + 1 => fun S h0 x1 x2 x3 x4 =>
    (gr S 451 h0).bind fun b1 =>
    if (gi S 133 b1) ≤ x4 then
      some (x3, S)
    else
      bd (f_X8_couldStep E n S h0 x4 x1 x2) fun v3 S2 =>
      if v3 = 0 then
        lt (x4 + (1 : Int32)) fun y4 =>
        f_X8_most_L17 E n  m S2 h0 x1 x2 x3 y4
      else
        lt (x3 + (1 : Int32)) fun y5 =>
        lt (x4 + (1 : Int32)) fun y6 =>
        f_X8_most_L17 E n  m S2 h0 x1 x2 y5 y6
def f_X8_most (E : EN) (n : Nat) (S : WS) (h0 : Nat) (x1 : Int32) (x2 : Int32) : Option (Int32 × WS) :=
  bd (f_X8_knowsPath E n S h0 x1 x2) fun v2 S1 =>
  if v2 = 0 then
    some ((-2 : Int32), S1)
  else
    f_X8_most_L17 E n  n S1 h0 x1 x2 (0 : Int32) (0 : Int32)
def f_X8_lowestTerm (E : EN) (n : Nat) (S : WS) (x0 : Int64) (x2 : Int32) : Option (Int64 × WS) :=
  bd (f_X8_commonDivisor E n S (100000000000000 : Int64) x0) fun v2 S1 =>
  if x2 = 0 then
    if (lg_cmp v2 (0 : Int64)) ≤ 0 then
      some (x0, S1)
    else
      if v2 = 0 then none else
      some ((x0 / v2), S1)
  else
    if (lg_cmp v2 (0 : Int64)) ≤ 0 then
      some ((100000000000000 : Int64), S1)
    else
      if v2 = 0 then none else
      some (((100000000000000 : Int64) / v2), S1)
def f_X8_reach (E : EN) (n : Nat) (S : WS) (h0 : Nat) (x1 : Int32) (x2 : Int32) : Option (Int32 × WS) :=
  (gr S 451 h0).bind fun b1 =>
  bd (f_X3_hasWalker E n S b1 x1) fun v3 S2 =>
  if v3 = 0 then
    some ((-2 : Int32), S2)
  else
    (gr S2 451 h0).bind fun b4 =>
    bd (f_X3_hasYear E n S2 b4 x2) fun v6 S5 =>
    if v6 = 0 then
      some ((-2 : Int32), S5)
    else
      (gr S5 451 h0).bind fun b7 =>
      bd (f_X3_reachOf E n S5 b7 x1 x2 (-1 : Int32)) fun v9 S8 =>
      some (v9, S8)
def f_X8_canCome (E : EN) (n : Nat) (S : WS) (h0 : Nat) (x1 : Int32) (x2 : Int32) (x3 : Int32) : Option (Int32 × WS) :=
  (gr S 451 h0).bind fun b1 =>
  bd (f_X3_reachOf E n S b1 x1 x3 (-1 : Int32)) fun v3 S2 =>
  if ((v3 >>> (x2 &&& 31)) &&& (1 : Int32)) = (1 : Int32) then
    some ((1 : Int32), S2)
  else
    some ((0 : Int32), S2)
def f_X8_when_L46 (E : EN) (n : Nat)  : Nat → WS → Nat → Int32 → Int32 → Int32 → Int32 → Int32 → Int32 → Int32 → Option (Int32 × WS)
  | 0 => fun _ _ _ _ _ _ _ _ _ => none
  | m + 1 => fun S h0 x1 x2 x3 x4 x5 x6 x7 =>
    (gr S 451 h0).bind fun b1 =>
    if (gi S 130 b1) ≤ x7 then
      if x3 = (2 : Int32) then
        some (x6, S)
      else
        if x3 = 0 then
          some (x4, S)
        else
          some (x5, S)
    else
      bd (f_X8_canCome E n S h0 x1 x2 x7) fun v3 S2 =>
      if v3 = 0 then
        lt (x7 + (1 : Int32)) fun y4 =>
        f_X8_when_L46 E n  m S2 h0 x1 x2 x3 x4 x5 x6 y4
      else
        if x6 = 0 then
          lt (x6 + (1 : Int32)) fun y7 =>
          lt (x7 + (1 : Int32)) fun y8 =>
          f_X8_when_L46 E n  m S2 h0 x1 x2 x3 x7 x7 y7 y8
        else
          lt (x6 + (1 : Int32)) fun y5 =>
          lt (x7 + (1 : Int32)) fun y6 =>
          f_X8_when_L46 E n  m S2 h0 x1 x2 x3 x4 x7 y5 y6
def f_X8_when (E : EN) (n : Nat) (S : WS) (h0 : Nat) (x1 : Int32) (x2 : Int32) (x3 : Int32) : Option (Int32 × WS) :=
  (gr S 451 h0).bind fun b1 =>
  bd (f_X3_hasWalker E n S b1 x1) fun v3 S2 =>
  if v3 = 0 then
    some ((-2 : Int32), S2)
  else
    (gr S2 451 h0).bind fun b4 =>
    bd (f_X3_hasPlace E n S2 b4 x2) fun v6 S5 =>
    if v6 = 0 then
      some ((-2 : Int32), S5)
    else
      if x3 < 0 then
        some ((-2 : Int32), S5)
      else
        if x3 ≤ (2 : Int32) then
          f_X8_when_L46 E n  n S5 h0 x1 x2 x3 (-1 : Int32) (-1 : Int32) (0 : Int32) (0 : Int32)
        else
          some ((-2 : Int32), S5)
def f_X8_high_L53 (E : EN) (n : Nat)  : Nat → WS → Nat → Int32 → Int32 → Int32 → Int32 → Option (Int32 × WS)
  | 0 => fun _ _ _ _ _ _ => none
  | m + 1 => fun S h0 x3 x4 x5 x6 =>
    (gr S 451 h0).bind fun b1 =>
    if (gi S 129 b1) ≤ x6 then
      some (x4, S)
    else
      if ((x3 >>> (x6 &&& 31)) &&& (1 : Int32)) = (1 : Int32) then
        (gr S 451 h0).bind fun b3 =>
        (gr S 135 b3).bind fun b4 =>
        if x6 < 0 ∨ eN E b4 ≤ x6.toNatClampNeg then none else
        if (ai S b4 x6.toNatClampNeg) ≤ x5 then
          lt (x6 + (1 : Int32)) fun y5 =>
          f_X8_high_L53 E n  m S h0 x3 x4 x5 y5
        else
          (gr S 451 h0).bind fun b6 =>
          (gr S 135 b6).bind fun b7 =>
          if x6 < 0 ∨ eN E b7 ≤ x6.toNatClampNeg then none else
          lt (ai S b7 x6.toNatClampNeg) fun y8 =>
          lt (x6 + (1 : Int32)) fun y9 =>
          f_X8_high_L53 E n  m S h0 x3 x6 y8 y9
      else
        lt (x6 + (1 : Int32)) fun y2 =>
        f_X8_high_L53 E n  m S h0 x3 x4 x5 y2
def f_X8_high (E : EN) (n : Nat) (S : WS) (h0 : Nat) (x1 : Int32) (x2 : Int32) : Option (Int32 × WS) :=
  (gr S 451 h0).bind fun b1 =>
  bd (f_X3_hasWalker E n S b1 x1) fun v3 S2 =>
  if v3 = 0 then
    some ((-2 : Int32), S2)
  else
    (gr S2 451 h0).bind fun b4 =>
    bd (f_X3_hasYear E n S2 b4 x2) fun v6 S5 =>
    if v6 = 0 then
      some ((-2 : Int32), S5)
    else
      (gr S5 451 h0).bind fun b7 =>
      bd (f_X3_reachOf E n S5 b7 x1 x2 (-1 : Int32)) fun v9 S8 =>
      (gr S8 451 h0).bind fun b10 =>
      (gr S8 146 b10).bind fun b11 =>
      if x1 < 0 ∨ eN E b11 ≤ x1.toNatClampNeg then none else
      lt (ai S8 b11 x1.toNatClampNeg) fun y12 =>
      f_X8_high_L53 E n  n S8 h0 v9 y12 (-1 : Int32) (0 : Int32)
def f_X8_parts_L44 (E : EN) (n : Nat)  : Nat → WS → Nat → Int32 → Int32 → Int32 → Int32 → Option (Int32 × WS)
  | 0 => fun _ _ _ _ _ _ => none
  | m + 1 => fun S h0 x3 x4 x5 x6 =>
    (gr S 451 h0).bind fun b1 =>
    if (gi S 129 b1) ≤ x6 then
      some (x5, S)
    else
      if ((x4 >>> (x6 &&& 31)) &&& (1 : Int32)) = 0 then
        (gr S 451 h0).bind fun b3 =>
        bd (f_X3_placesFrom E n S b3 x6 x3) fun v5 S4 =>
        lt (x4 ||| v5) fun y6 =>
        lt (x5 + (1 : Int32)) fun y7 =>
        lt (x6 + (1 : Int32)) fun y8 =>
        f_X8_parts_L44 E n  m S4 h0 x3 y6 y7 y8
      else
        lt (x6 + (1 : Int32)) fun y2 =>
        f_X8_parts_L44 E n  m S h0 x3 x4 x5 y2
def f_X8_parts (E : EN) (n : Nat) (S : WS) (h0 : Nat) (x1 : Int32) (x2 : Int32) : Option (Int32 × WS) :=
  (gr S 451 h0).bind fun b1 =>
  bd (f_X3_hasYear E n S b1 x1) fun v3 S2 =>
  if v3 = 0 then
    some ((-2 : Int32), S2)
  else
    if x2 < 0 then
      some ((-2 : Int32), S2)
    else
      if x2 ≤ (99 : Int32) then
        (gr S2 451 h0).bind fun b4 =>
        bd (f_X3_openPaths E n S2 b4 x2 x1 (-1 : Int32)) fun v6 S5 =>
        f_X8_parts_L44 E n  n S5 h0 v6 (0 : Int32) (0 : Int32) (0 : Int32)
      else
        some ((-2 : Int32), S2)
def f_X8_cuts_L51 (E : EN) (n : Nat)  : Nat → WS → Nat → Int32 → Int32 → Int32 → Int32 → Int32 → Option (Int32 × WS)
  | 0 => fun _ _ _ _ _ _ _ => none
  | m + 1 => fun S h0 x1 x2 x4 x5 x6 =>
    (gr S 451 h0).bind fun b1 =>
    if (gi S 131 b1) ≤ x6 then
      some (x5, S)
    else
      (gr S 451 h0).bind fun b2 =>
      (gr S 451 h0).bind fun b3 =>
      (gr S 146 b3).bind fun b4 =>
      if x1 < 0 ∨ eN E b4 ≤ x1.toNatClampNeg then none else
      bd (f_X3_placesFrom E n S b2 (ai S b4 x1.toNatClampNeg) (x4 &&& (((1 : Int32) <<< (x6 &&& 31)) ^^^ (-1 : Int32)))) fun v6 S5 =>
      if ((v6 >>> (x2 &&& 31)) &&& (1 : Int32)) = 0 then
        lt (x5 ||| ((1 : Int32) <<< (x6 &&& 31))) fun y8 =>
        lt (x6 + (1 : Int32)) fun y9 =>
        f_X8_cuts_L51 E n  m S5 h0 x1 x2 x4 y8 y9
      else
        lt (x6 + (1 : Int32)) fun y7 =>
        f_X8_cuts_L51 E n  m S5 h0 x1 x2 x4 x5 y7
def f_X8_cuts (E : EN) (n : Nat) (S : WS) (h0 : Nat) (x1 : Int32) (x2 : Int32) (x3 : Int32) : Option (Int32 × WS) :=
  bd (f_X8_knowsWay E n S h0 x1 x2 x3) fun v2 S1 =>
  if v2 = 0 then
    some ((-2 : Int32), S1)
  else
    bd (f_X8_canCome E n S1 h0 x1 x2 x3) fun v4 S3 =>
    if v4 = 0 then
      some ((-1 : Int32), S3)
    else
      (gr S3 451 h0).bind fun b5 =>
      (gr S3 451 h0).bind fun b6 =>
      (gr S3 145 b6).bind fun b7 =>
      if x1 < 0 ∨ eN E b7 ≤ x1.toNatClampNeg then none else
      bd (f_X3_openPaths E n S3 b5 (ai S3 b7 x1.toNatClampNeg) x3 (-1 : Int32)) fun v9 S8 =>
      f_X8_cuts_L51 E n  n S8 h0 x1 x2 v9 (0 : Int32) (0 : Int32)
def f_X8_vain_L44 (E : EN) (n : Nat) (k31 : WS → Nat → Int32 → Int32 → Option (Int32 × WS)) : Nat → WS → Nat → Int32 → Int32 → Int32 → Option (Int32 × WS)
  | 0 => fun _ _ _ _ _ => none
  | m + 1 => fun S h0 x1 x2 x3 =>
    (gr S 451 h0).bind fun b1 =>
    if (gi S 130 b1) ≤ x3 then
      lt (x2 + (1 : Int32)) fun y2 =>
      k31 S h0 x1 y2
    else
      (gr S 451 h0).bind fun b3 =>
      bd (f_X3_reachOf E n S b3 x2 x3 (-1 : Int32)) fun v5 S4 =>
      (gr S4 451 h0).bind fun b6 =>
      bd (f_X3_reachOf E n S4 b6 x2 x3 x1) fun v8 S7 =>
      if v5 = v8 then
        lt (x3 + (1 : Int32)) fun y9 =>
        f_X8_vain_L44 E n k31 m S7 h0 x1 x2 y9
      else
        some ((0 : Int32), S7)
def f_X8_vain_L31 (E : EN) (n : Nat)  : Nat → WS → Nat → Int32 → Int32 → Option (Int32 × WS)
  | 0 => fun _ _ _ _ => none
  | m + 1 => fun S h0 x1 x2 =>
    (gr S 451 h0).bind fun b1 =>
    if (gi S 134 b1) ≤ x2 then
      some ((1 : Int32), S)
    else
      f_X8_vain_L44 E n (f_X8_vain_L31 E n  m) n S h0 x1 x2 (0 : Int32)
def f_X8_vain (E : EN) (n : Nat) (S : WS) (h0 : Nat) (x1 : Int32) : Option (Int32 × WS) :=
  (gr S 451 h0).bind fun b1 =>
  bd (f_X3_hasSuitor E n S b1 x1) fun v3 S2 =>
  if v3 = 0 then
    some ((-2 : Int32), S2)
  else
    (gr S2 451 h0).bind fun b4 =>
    (gr S2 143 b4).bind fun b5 =>
    if x1 < 0 ∨ eN E b5 ≤ x1.toNatClampNeg then none else
    if (ai S2 b5 x1.toNatClampNeg) = (-1 : Int32) then
      some ((-1 : Int32), S2)
    else
      f_X8_vain_L31 E n  n S2 h0 x1 (0 : Int32)
def f_X8_cheapest_L35 (E : EN) (n : Nat) (k20 : WS → Nat → Int32 → Int32 → Int32 → Option (Int32 × WS)) : Nat → WS → Nat → Int32 → Int32 → Int32 → Int32 → Option (Int32 × WS)
  | 0 => fun _ _ _ _ _ _ => none
  | m + 1 => fun S h0 x2 x3 x4 x5 =>
    (gr S 451 h0).bind fun b1 =>
    if (gi S 131 b1) ≤ x5 then
      lt (x4 + (1 : Int32)) fun y2 =>
      k20 S h0 x2 x3 y2
    else
      (gr S 462 h0).bind fun b3 =>
      if x5 < 0 ∨ eN E b3 ≤ x5.toNatClampNeg then none else
      if (ai S b3 x5.toNatClampNeg) = (-1 : Int32) then
        lt (x5 + (1 : Int32)) fun y4 =>
        f_X8_cheapest_L35 E n k20 m S h0 x2 x3 x4 y4
      else
        (gr S 451 h0).bind fun b5 =>
        (gr S 136 b5).bind fun b6 =>
        if x5 < 0 ∨ eN E b6 ≤ x5.toNatClampNeg then none else
        (gr S 451 h0).bind fun b7 =>
        (gr S 137 b7).bind fun b8 =>
        if x5 < 0 ∨ eN E b8 ≤ x5.toNatClampNeg then none else
        (gr S 462 h0).bind fun b9 =>
        if x5 < 0 ∨ eN E b9 ≤ x5.toNatClampNeg then none else
        bd (f_X8_passPrice E n S h0 (ai S b6 x5.toNatClampNeg) (ai S b8 x5.toNatClampNeg) (ai S b9 x5.toNatClampNeg) x3) fun v11 S10 =>
        (gr S10 451 h0).bind fun b12 =>
        (gr S10 137 b12).bind fun b13 =>
        if x5 < 0 ∨ eN E b13 ≤ x5.toNatClampNeg then none else
        (gr S10 451 h0).bind fun b14 =>
        (gr S10 136 b14).bind fun b15 =>
        if x5 < 0 ∨ eN E b15 ≤ x5.toNatClampNeg then none else
        (gr S10 462 h0).bind fun b16 =>
        if x5 < 0 ∨ eN E b16 ≤ x5.toNatClampNeg then none else
        bd (f_X8_passPrice E n S10 h0 (ai S10 b13 x5.toNatClampNeg) (ai S10 b15 x5.toNatClampNeg) (ai S10 b16 x5.toNatClampNeg) x3) fun v18 S17 =>
        lt (x5 + (1 : Int32)) fun y19 =>
        f_X8_cheapest_L35 E n k20 m S17 h0 x2 x3 x4 y19
def f_X8_cheapest_L20 (E : EN) (n : Nat)  : Nat → WS → Nat → Int32 → Int32 → Int32 → Option (Int32 × WS)
  | 0 => fun _ _ _ _ _ => none
  | m + 1 => fun S h0 x2 x3 x4 =>
    (gr S 451 h0).bind fun b1 =>
    if (gi S 129 b1) ≤ x4 then
      (gr S 461 h0).bind fun b2 =>
      if x2 < 0 ∨ eN E b2 ≤ x2.toNatClampNeg then none else
      if (1000000 : Int32) ≤ (ai S b2 x2.toNatClampNeg) then
        some ((-1 : Int32), S)
      else
        (gr S 461 h0).bind fun b3 =>
        if x2 < 0 ∨ eN E b3 ≤ x2.toNatClampNeg then none else
        some ((ai S b3 x2.toNatClampNeg), S)
    else
      f_X8_cheapest_L35 E n (f_X8_cheapest_L20 E n  m) n S h0 x2 x3 x4 (0 : Int32)
def f_X8_cheapest (E : EN) (n : Nat) (S : WS) (h0 : Nat) (x1 : Int32) (x2 : Int32) (x3 : Int32) : Option (Int32 × WS) :=
  (gr S 461 h0).bind fun b1 =>
  bd (f_J7_fill_53178 E n S b1 (1000000 : Int32)) fun v3 S2 =>
  (gr S2 461 h0).bind fun b4 =>
  if x1 < 0 ∨ eN E b4 ≤ x1.toNatClampNeg then none else
  lt (wi S2 b4 (upd (ai S2 b4) x1.toNatClampNeg (0 : Int32))) fun S5 =>
  f_X8_cheapest_L20 E n  n S5 h0 x2 x3 (0 : Int32)
def f_X8_more_L61 (E : EN) (n : Nat)  : Nat → WS → Nat → Int32 → Int32 → Int32 → Int32 → Int32 → Int32 → Option (Int32 × WS)
  | 0 => fun _ _ _ _ _ _ _ _ => none
  | m + 1 => fun S h0 x1 x2 x3 x4 x5 x6 =>
    (gr S 451 h0).bind fun b1 =>
    if (gi S 131 b1) ≤ x6 then
      some ((-1 : Int32), S)
    else
      (gr S 451 h0).bind fun b2 =>
      (gr S 451 h0).bind fun b3 =>
      (gr S 145 b3).bind fun b4 =>
      if x1 < 0 ∨ eN E b4 ≤ x1.toNatClampNeg then none else
      bd (f_X3_lackingOn E n S b2 x6 x3 (ai S b4 x1.toNatClampNeg)) fun v6 S5 =>
      if v6 = (-1 : Int32) then
        lt (x6 + (1 : Int32)) fun y7 =>
        f_X8_more_L61 E n  m S5 h0 x1 x2 x3 x4 x5 y7
      else
        if x4 < v6 then
          lt (x6 + (1 : Int32)) fun y8 =>
          f_X8_more_L61 E n  m S5 h0 x1 x2 x3 x4 x5 y8
        else
          (gr S5 451 h0).bind fun b9 =>
          (gr S5 451 h0).bind fun b10 =>
          (gr S5 146 b10).bind fun b11 =>
          if x1 < 0 ∨ eN E b11 ≤ x1.toNatClampNeg then none else
          bd (f_X3_placesFrom E n S5 b9 (ai S5 b11 x1.toNatClampNeg) (x5 ||| ((1 : Int32) <<< (x6 &&& 31)))) fun v13 S12 =>
          if ((v13 >>> (x2 &&& 31)) &&& (1 : Int32)) = (1 : Int32) then
            some (x6, S12)
          else
            lt (x6 + (1 : Int32)) fun y14 =>
            f_X8_more_L61 E n  m S12 h0 x1 x2 x3 x4 x5 y14
def f_X8_more (E : EN) (n : Nat) (S : WS) (h0 : Nat) (x1 : Int32) (x2 : Int32) (x3 : Int32) (x4 : Int32) : Option (Int32 × WS) :=
  bd (f_X8_knowsWay E n S h0 x1 x2 x3) fun v2 S1 =>
  if v2 = 0 then
    some ((-2 : Int32), S1)
  else
    if x4 < (1 : Int32) then
      some ((-2 : Int32), S1)
    else
      if x4 ≤ (9 : Int32) then
        bd (f_X8_canCome E n S1 h0 x1 x2 x3) fun v4 S3 =>
        if v4 = 0 then
          (gr S3 451 h0).bind fun b5 =>
          (gr S3 451 h0).bind fun b6 =>
          (gr S3 145 b6).bind fun b7 =>
          if x1 < 0 ∨ eN E b7 ≤ x1.toNatClampNeg then none else
          bd (f_X3_openPaths E n S3 b5 (ai S3 b7 x1.toNatClampNeg) x3 (-1 : Int32)) fun v9 S8 =>
          f_X8_more_L61 E n  n S8 h0 x1 x2 x3 x4 v9 (0 : Int32)
        else
          some ((-1 : Int32), S3)
      else
        some ((-2 : Int32), S1)
def f_X8_odd_L25 (E : EN) (n : Nat)  : Nat → WS → Nat → Nat → Int32 → Option (Int32 × WS)
  | 0 => fun _ _ _ _ => none
  | m + 1 => fun S h0 h2 x4 =>
    bd (f_X6_measures E n S h2) fun v2 S1 =>
    if v2 ≤ x4 then
      some ((-1 : Int32), S1)
    else
      (gr S1 451 h0).bind fun b3 =>
      bd (f_X6_pathOf E n S1 h2 x4) fun v5 S4 =>
      bd (f_X6_yearOf E n S4 h2 x4) fun v7 S6 =>
      bd (f_X3_leapOf E n S6 b3 v5 v7) fun v9 S8 =>
      bd (f_X6_leapTold E n S8 h2 x4) fun v11 S10 =>
      if (lg_cmp (v9.toInt64) v11) = 0 then
        lt (x4 + (1 : Int32)) fun y12 =>
        f_X8_odd_L25 E n  m S10 h0 h2 y12
      else
        some (x4, S10)
def f_X8_odd (E : EN) (n : Nat) (S : WS) (h0 : Nat) (x1 : Int32) : Option (Int32 × WS) :=
  bd (f_X8_slotAt E n S h0 x1) fun v2 S1 =>
  v2.elim (none) (fun b3 => bd (f_X8_refusalOf E n S1 h0 b3) fun v5 S4 =>
  if v5 = 0 then
    f_X8_odd_L25 E n  n S4 h0 b3 (0 : Int32)
  else
    some (v5, S4))
def f_X8_hopes (E : EN) (n : Nat) (S : WS) (h0 : Nat) (x1 : Int32) : Option (Int32 × WS) :=
  (gr S 451 h0).bind fun b1 =>
  bd (f_X3_hasSuitor E n S b1 x1) fun v3 S2 =>
  if v3 = 0 then
    some ((-2 : Int32), S2)
  else
    (gr S2 451 h0).bind fun b4 =>
    (gr S2 451 h0).bind fun b5 =>
    (gr S2 143 b5).bind fun b6 =>
    bd (f_X3_hopeOf E n S2 b4 b6 x1) fun v8 S7 =>
    some (v8, S7)
def f_X8_peace (E : EN) (n : Nat) (S : WS) (h0 : Nat) : Option (Int32 × WS) :=
  (gr S 451 h0).bind fun b1 =>
  bd (f_X3_isTold E n S b1) fun v3 S2 =>
  if v3 = 0 then
    some ((-2 : Int32), S2)
  else
    (gr S2 451 h0).bind fun b4 =>
    (gr S2 451 h0).bind fun b5 =>
    (gr S2 143 b5).bind fun b6 =>
    bd (f_X3_firstHoping E n S2 b4 b6) fun v8 S7 =>
    if v8 = (-1 : Int32) then
      some ((1 : Int32), S7)
    else
      some ((0 : Int32), S7)
def f_X8_calmInThought_L16 (E : EN) (n : Nat)  : Nat → WS → Nat → Int32 → Int32 → Option (Int32 × WS)
  | 0 => fun _ _ _ _ => none
  | m + 1 => fun S h0 x1 x2 =>
    if x1 < x2 then
      some ((-1 : Int32), S)
    else
      (gr S 451 h0).bind fun b1 =>
      (gr S 460 h0).bind fun b2 =>
      bd (f_X3_firstHoping E n S b1 b2) fun v4 S3 =>
      if v4 = (-1 : Int32) then
        some (x2, S3)
      else
        if x1 ≤ x2 then
          lt (x2 + (1 : Int32)) fun y5 =>
          f_X8_calmInThought_L16 E n  m S3 h0 x1 y5
        else
          (gr S3 460 h0).bind fun b6 =>
          (gr S3 451 h0).bind fun b7 =>
          (gr S3 460 h0).bind fun b8 =>
          bd (f_X3_hopeOf E n S3 b7 b8 v4) fun v10 S9 =>
          if v4 < 0 ∨ eN E b6 ≤ v4.toNatClampNeg then none else
          lt (wi S9 b6 (upd (ai S9 b6) v4.toNatClampNeg v10)) fun S11 =>
          lt (x2 + (1 : Int32)) fun y12 =>
          f_X8_calmInThought_L16 E n  m S11 h0 x1 y12
def f_X8_calmInThought (E : EN) (n : Nat) (S : WS) (h0 : Nat) (x1 : Int32) : Option (Int32 × WS) :=
  (gr S 451 h0).bind fun b1 =>
  (gr S 143 b1).bind fun b2 =>
  (gr S 460 h0).bind fun b3 =>
  bd (f_X8_copyRow E n S b2 b3) fun v5 S4 =>
  f_X8_calmInThought_L16 E n  n S4 h0 x1 (0 : Int32)
def f_X8_count (E : EN) (n : Nat) (S : WS) (h0 : Nat) (x1 : Int32) : Option (Int32 × WS) :=
  if x1 = (0 : Int32) then
    (gr S 451 h0).bind fun b1 =>
    some ((gi S 129 b1), S)
  else
  if x1 = (1 : Int32) then
    (gr S 451 h0).bind fun b2 =>
    some ((gi S 130 b2), S)
  else
  if x1 = (2 : Int32) then
    (gr S 451 h0).bind fun b3 =>
    some ((gi S 131 b3), S)
  else
  if x1 = (3 : Int32) then
    (gr S 451 h0).bind fun b4 =>
    some ((gi S 132 b4), S)
  else
  if x1 = (4 : Int32) then
    (gr S 451 h0).bind fun b5 =>
    some ((gi S 133 b5), S)
  else
  if x1 = (5 : Int32) then
    (gr S 451 h0).bind fun b6 =>
    some ((gi S 134 b6), S)
  else
  if x1 = (6 : Int32) then
    (gr S 451 h0).bind fun b7 =>
    some ((gi S 128 b7), S)
  else
  if x1 = (7 : Int32) then
    some ((gi S 449 h0), S)
  else
  if x1 = (8 : Int32) then
    bd (f_X8_courtersAsBits E n S h0) fun v9 S8 =>
    some (v9, S8)
  else
  if x1 = (9 : Int32) then
    bd (f_X8_slotsWithRows E n S h0) fun v11 S10 =>
    some (v11, S10)
  else
    some ((-1 : Int32), S)
def f_X8_image (E : EN) (n : Nat) (S : WS) (h0 : Nat) (x1 : Int32) : Option (Int32 × WS) :=
  if x1 < 0 then
    some ((-2 : Int32), S)
  else
    if (3 : Int32) ≤ x1 then
      some ((-2 : Int32), S)
    else
      (gr S 453 h0).bind fun b1 =>
      if x1 < 0 ∨ eN E b1 ≤ x1.toNatClampNeg then none else
      (ar S b1 x1.toNatClampNeg).elim (some ((-2 : Int32), S)) (fun b2 => (gr S 453 h0).bind fun b3 =>
      if x1 < 0 ∨ eN E b3 ≤ x1.toNatClampNeg then none else
      (ar S b3 x1.toNatClampNeg).elim ((gr S 451 h0).bind fun b5 =>
      none) (fun b4 => (gr S 451 h0).bind fun b6 =>
      bd (f_X3_takeFrom E n S b4 b6) fun v8 S7 =>
      (gr S7 454 h0).bind fun b9 =>
      if x1 < 0 ∨ eN E b9 ≤ x1.toNatClampNeg then none else
      lt (wi S7 b9 (upd (ai S7 b9) x1.toNatClampNeg (vp_nar .boolean (1 : Int32)))) fun S10 =>
      some ((0 : Int32), S10)))
def f_X8_back (E : EN) (n : Nat) (S : WS) (h0 : Nat) (x1 : Int32) : Option (Int32 × WS) :=
  if x1 < 0 then
    some ((-2 : Int32), S)
  else
    if (3 : Int32) ≤ x1 then
      some ((-2 : Int32), S)
    else
      (gr S 453 h0).bind fun b1 =>
      if x1 < 0 ∨ eN E b1 ≤ x1.toNatClampNeg then none else
      (ar S b1 x1.toNatClampNeg).elim (some ((-2 : Int32), S)) (fun b2 => (gr S 454 h0).bind fun b3 =>
      if x1 < 0 ∨ eN E b3 ≤ x1.toNatClampNeg then none else
      if (ai S b3 x1.toNatClampNeg) = 0 then
        some ((-6 : Int32), S)
      else
        (gr S 451 h0).bind fun b4 =>
        (gr S 453 h0).bind fun b5 =>
        if x1 < 0 ∨ eN E b5 ≤ x1.toNatClampNeg then none else
        (ar S b5 x1.toNatClampNeg).elim (none) (fun b6 => bd (f_X3_takeFrom E n S b4 b6) fun v8 S7 =>
        some ((0 : Int32), S7)))
def f_X8_row (E : EN) (n : Nat) (S : WS) (h0 : Nat) (x1 : Int32) (x2 : Int32) (x3 : Int32) : Option (Int32 × WS) :=
  bd (f_X8_slotAt E n S h0 x1) fun v2 S1 =>
  v2.elim (some ((-2 : Int32), S1)) (fun b3 => if x2 < 0 then
    some ((-2 : Int32), S1)
  else
    if (4 : Int32) ≤ x2 then
      some ((-2 : Int32), S1)
    else
      if x3 ≤ (60 : Int32) then
        if 0 ≤ x3 then
          lt (si S1 320 b3 x2) fun S4 =>
          lt (si S4 321 b3 x3) fun S5 =>
          (gr S5 322 b3).bind fun b6 =>
          bd (f_J7_fill_d0a16 E n S5 b6 (0 : Int64)) fun v8 S7 =>
          some ((0 : Int32), S7)
        else
          some ((-3 : Int32), S1)
      else
        some ((-2 : Int32), S1))
def f_X8_write (E : EN) (n : Nat) (S : WS) (h0 : Nat) (x1 : Int32) (x2 : Int32) (x3 : Int64) : Option (Int32 × WS) :=
  bd (f_X8_slotAt E n S h0 x1) fun v2 S1 =>
  v2.elim (some ((-2 : Int32), S1)) (fun b3 => if (gi S1 321 b3) = (-1 : Int32) then
    some ((-6 : Int32), S1)
  else
    if x2 < 0 then
      some ((-7 : Int32), S1)
    else
      if x2 < (gi S1 321 b3) then
        (gr S1 322 b3).bind fun b4 =>
        bd (f_X8_cutToWidth E n S1 x3 (gi S1 320 b3)) fun v6 S5 =>
        if x2 < 0 ∨ eN E b4 ≤ x2.toNatClampNeg then none else
        lt (wj S5 b4 (vp_updL (aj S5 b4) x2.toNatClampNeg v6)) fun S7 =>
        some ((0 : Int32), S7)
      else
        some ((-7 : Int32), S1))
def f_X9_asksMeasured_L43 (E : EN) (n : Nat)  : Nat → WS → Nat → Int32 → Int32 → Option (Int32 × WS)
  | 0 => fun _ _ _ _ => none
  | m + 1 => fun S h0 x1 x3 =>
    (gr S 546 h0).bind fun b1 =>
    if x1 < 0 ∨ eN E b1 ≤ x1.toNatClampNeg then none else
    if (ai S b1 x1.toNatClampNeg) ≤ x3 then
      some ((0 : Int32), S)
    else
      bd (f_X9_numberAt E n S h0 x1 x3) fun v3 S2 =>
      bd (f_X9_isPath E n S2 h0 v3) fun v5 S4 =>
      if v5 = 0 then
        some ((-2 : Int32), S4)
      else
        bd (f_X9_numberAt E n S4 h0 x1 (x3 + (1 : Int32))) fun v7 S6 =>
        bd (f_X9_isYear E n S6 h0 v7) fun v9 S8 =>
        if v9 = 0 then
          some ((-2 : Int32), S8)
        else
          lt (x3 + (3 : Int32)) fun y10 =>
          f_X9_asksMeasured_L43 E n  m S8 h0 x1 y10
def f_X9_asksMeasured (E : EN) (n : Nat) (S : WS) (h0 : Nat) (x1 : Int32) (x2 : Int32) : Option (Int32 × WS) :=
  bd (f_X9_isSlot E n S x1) fun v2 S1 =>
  if v2 = 0 then
    some ((-2 : Int32), S1)
  else
    if x2 = 0 then
      some ((-2 : Int32), S1)
    else
      (gr S1 546 h0).bind fun b3 =>
      if x1 < 0 ∨ eN E b3 ≤ x1.toNatClampNeg then none else
      if (ai S1 b3 x1.toNatClampNeg) = (-1 : Int32) then
        some ((-6 : Int32), S1)
      else
        (gr S1 546 h0).bind fun b4 =>
        if x1 < 0 ∨ eN E b4 ≤ x1.toNatClampNeg then none else
        if (3 : Int32) = 0 then none else
        if ((ai S1 b4 x1.toNatClampNeg) - (ai S1 b4 x1.toNatClampNeg) / (3 : Int32) * (3 : Int32)) = 0 then
          f_X9_asksMeasured_L43 E n  n S1 h0 x1 (0 : Int32)
        else
          some ((-2 : Int32), S1)
def f_X9_agree (E : EN) (n : Nat) (S : WS) (h0 : Nat) (x1 : Int32) : Option (Int32 × WS) :=
  bd (f_X9_isMountain E n S h0) fun v2 S1 =>
  bd (f_X9_asksMeasured E n S1 h0 x1 v2) fun v4 S3 =>
  if 0 ≤ v4 then
    bd (f_X9_courtingsBy E n S3 h0 x1) fun v6 S5 =>
    some ((gi S5 539 h0), S5)
  else
    some (v4, S3)
def f_X9_sure (E : EN) (n : Nat) (S : WS) (h0 : Nat) (x1 : Int32) (x2 : Int32) : Option (Int32 × WS) :=
  bd (f_X9_isSuitor E n S h0 x2) fun v2 S1 =>
  bd (f_X9_asksMeasured E n S1 h0 x1 v2) fun v4 S3 =>
  if 0 ≤ v4 then
    bd (f_X9_courtingsBy E n S3 h0 x1) fun v6 S5 =>
    if (gi S5 539 h0) = 0 then
      some ((-1 : Int32), S5)
    else
      (gr S5 543 h0).bind fun b7 =>
      if x2 < 0 ∨ eN E b7 ≤ x2.toNatClampNeg then none else
      if (ai S5 b7 x2.toNatClampNeg) = (-2 : Int32) then
        some ((-1 : Int32), S5)
      else
        (gr S5 543 h0).bind fun b8 =>
        if x2 < 0 ∨ eN E b8 ≤ x2.toNatClampNeg then none else
        if (ai S5 b8 x2.toNatClampNeg) = (-1 : Int32) then
          some ((9 : Int32), S5)
        else
          (gr S5 543 h0).bind fun b9 =>
          if x2 < 0 ∨ eN E b9 ≤ x2.toNatClampNeg then none else
          some ((ai S5 b9 x2.toNatClampNeg), S5)
  else
    some (v4, S3)
def f_X9_kindly (E : EN) (n : Nat) (S : WS) (h0 : Nat) (x1 : Int32) : Option (Int32 × WS) :=
  bd (f_X9_isMountain E n S h0) fun v2 S1 =>
  bd (f_X9_asksMeasured E n S1 h0 x1 v2) fun v4 S3 =>
  if 0 ≤ v4 then
    bd (f_X9_courtingsBy E n S3 h0 x1) fun v6 S5 =>
    if (gi S5 539 h0) = 0 then
      some ((-1 : Int32), S5)
    else
      some ((gi S5 540 h0), S5)
  else
    some (v4, S3)
def f_X9_odd_L18 (E : EN) (n : Nat)  : Nat → WS → Nat → Int32 → Int32 → Option (Int32 × WS)
  | 0 => fun _ _ _ _ => none
  | m + 1 => fun S h0 x1 x3 =>
    (gr S 546 h0).bind fun b1 =>
    if x1 < 0 ∨ eN E b1 ≤ x1.toNatClampNeg then none else
    if (ai S b1 x1.toNatClampNeg) ≤ ((3 : Int32) * x3) then
      some ((-1 : Int32), S)
    else
      bd (f_X9_isSo E n S h0 x1 ((3 : Int32) * x3)) fun v3 S2 =>
      if v3 = 0 then
        some (x3, S2)
      else
        lt (x3 + (1 : Int32)) fun y4 =>
        f_X9_odd_L18 E n  m S2 h0 x1 y4
def f_X9_odd (E : EN) (n : Nat) (S : WS) (h0 : Nat) (x1 : Int32) : Option (Int32 × WS) :=
  bd (f_X9_isMountain E n S h0) fun v2 S1 =>
  bd (f_X9_asksMeasured E n S1 h0 x1 v2) fun v4 S3 =>
  if 0 ≤ v4 then
    f_X9_odd_L18 E n  n S3 h0 x1 (0 : Int32)
  else
    some (v4, S3)
def f_X0_judge (E : EN) (n : Nat) (S : WS) (h0 : Nat) (x1 : Int64) (x3 : Int64) : Option (Int32 × WS) :=
  bd (f_X0_allCome E n S h0 x1) fun v2 S1 =>
  if v2 = 0 then
    bd (f_X0_allCome E n S1 h0 x3) fun v4 S3 =>
    if v4 = 0 then
      some ((0 : Int32), S3)
    else
      some ((2 : Int32), S3)
  else
    some ((1 : Int32), S1)
def f_X4_readLine (E : EN) (n : Nat) (S : WS) (h0 : Nat) (h1 : Nat) : Option (Int32 × WS) :=
  bd (f_X4_isWord E n S h0 0) fun v2 S1 =>
  if v2 = 0 then
    if (gi S1 128 h1) = 0 then
      bd (f_X4_failHere E n S1 h0 (1 : Int32)) fun v42 S41 =>
      zc v42 S41
    else
      bd (f_X4_isWord E n S1 h0 3) fun v4 S3 =>
      if v4 = 0 then
        bd (f_X4_isWord E n S3 h0 4) fun v6 S5 =>
        if v6 = 0 then
          bd (f_X4_isWord E n S5 h0 6) fun v8 S7 =>
          if v8 = 0 then
            bd (f_X4_isWord E n S7 h0 8) fun v10 S9 =>
            if v10 = 0 then
              bd (f_X4_isWord E n S9 h0 12) fun v12 S11 =>
              if v12 = 0 then
                bd (f_X4_isWord E n S11 h0 14) fun v14 S13 =>
                if v14 = 0 then
                  bd (f_X4_isWord E n S13 h0 17) fun v16 S15 =>
                  if v16 = 0 then
                    bd (f_X4_failHere E n S15 h0 (1 : Int32)) fun v18 S17 =>
                    zc v18 S17
                  else
                    bd (f_X4_readCourt E n S15 h0 h1) fun v20 S19 =>
                    zc v20 S19
                else
                  if (4 : Int32) ≤ (gi S13 134 h1) then
                    bd (f_X4_failHere E n S13 h0 (3 : Int32)) fun v22 S21 =>
                    zc v22 S21
                  else
                    bd (f_X4_readWalker E n S13 h0 h1) fun v24 S23 =>
                    zc v24 S23
              else
                bd (f_X4_readRain E n S11 h0 h1) fun v26 S25 =>
                zc v26 S25
            else
              if (7 : Int32) ≤ (gi S9 133 h1) then
                bd (f_X4_failHere E n S9 h0 (3 : Int32)) fun v28 S27 =>
                zc v28 S27
              else
                bd (f_X4_readSuitor E n S9 h0 h1) fun v30 S29 =>
                zc v30 S29
          else
            if (4 : Int32) ≤ (gi S7 132 h1) then
              bd (f_X4_failHere E n S7 h0 (3 : Int32)) fun v32 S31 =>
              zc v32 S31
            else
              bd (f_X4_readBride E n S7 h0 h1) fun v34 S33 =>
              zc v34 S33
        else
          if (10 : Int32) ≤ (gi S5 131 h1) then
            bd (f_X4_failHere E n S5 h0 (3 : Int32)) fun v36 S35 =>
            zc v36 S35
          else
            bd (f_X4_readPath E n S5 h0 h1) fun v38 S37 =>
            zc v38 S37
      else
        bd (f_X4_readHeight E n S3 h0 h1) fun v40 S39 =>
        zc v40 S39
  else
    if (gi S1 128 h1) = 0 then
      bd (f_X4_readMountain E n S1 h0 h1) fun v46 S45 =>
      zc v46 S45
    else
      bd (f_X4_failHere E n S1 h0 (1 : Int32)) fun v44 S43 =>
      zc v44 S43
def f_X7_goOn_L42 (E : EN) (n : Nat) (rc : WS → Nat → Int32 → Int32 → Int32 → Int64 → Option (Unit × WS))  : Nat → WS → Nat → Int32 → Int32 → Int64 → Int32 → Int32 → Option (Unit × WS)
  | 0 => fun _ _ _ _ _ _ _ => none
  | m + 1 => fun S h0 x1 x2 x4 x6 x7 =>
    (gr S 384 h0).bind fun b1 =>
    if (gi S 129 b1) ≤ x7 then
      some ((), S)
    else
      if ((x6 >>> (x7 &&& 31)) &&& (1 : Int32)) = 0 then
        (gr S 384 h0).bind fun b3 =>
        bd (f_X3_pathBetween E n S b3 x2 x7) fun v5 S4 =>
        if v5 = (-1 : Int32) then
          lt (x7 + (1 : Int32)) fun y6 =>
          f_X7_goOn_L42 E n rc  m S4 h0 x1 x2 x4 x6 y6
        else
          if (((gi S4 387 h0) >>> (v5 &&& 31)) &&& (1 : Int32)) = (1 : Int32) then
            (gr S4 384 h0).bind fun b8 =>
            bd (f_X3_safeAlong E n S4 b8 x4 v5 (gi S4 386 h0)) fun v10 S9 =>
            bd (rc S9 h0 (x1 + (1 : Int32)) x7 x6 v10) fun v12 S11 =>
            lt (x7 + (1 : Int32)) fun y13 =>
            f_X7_goOn_L42 E n rc  m S11 h0 x1 x2 x4 x6 y13
          else
            lt (x7 + (1 : Int32)) fun y7 =>
            f_X7_goOn_L42 E n rc  m S4 h0 x1 x2 x4 x6 y7
      else
        lt (x7 + (1 : Int32)) fun y2 =>
        f_X7_goOn_L42 E n rc  m S h0 x1 x2 x4 x6 y2
def f_X7_goOn (E : EN) (n : Nat) : Nat → WS → Nat → Int32 → Int32 → Int32 → Int64 → Option (Unit × WS)
  | 0 => fun _ _ _ _ _ _ => none
  | d + 1 => fun S h0 x1 x2 x3 x4 =>
    if x1 < (8 : Int32) then
      (gr S 388 h0).bind fun b1 =>
      if x1 < 0 ∨ eN E b1 ≤ x1.toNatClampNeg then none else
      lt (wi S b1 (upd (ai S b1) x1.toNatClampNeg x2)) fun S2 =>
      if x2 = (gi S2 385 h0) then
        bd (f_X7_noteWay E n S2 h0 (x1 + (1 : Int32)) x4) fun v5 S4 =>
        some ((), S4)
      else
        lt (x3 ||| ((1 : Int32) <<< (x2 &&& 31))) fun y3 =>
        f_X7_goOn_L42 E n (f_X7_goOn E n d)  n S2 h0 x1 x2 x4 y3 (0 : Int32)
    else
      some ((), S)
def f_X8_safe (E : EN) (n : Nat) (S : WS) (h0 : Nat) (x1 : Int32) (x2 : Int32) (x3 : Int32) : Option (Int64 × WS) :=
  bd (f_X8_knowsPath E n S h0 x1 x2) fun v2 S1 =>
  if v2 = 0 then
    some ((-2 : Int64), S1)
  else
    if x3 < 0 then
      some ((-2 : Int64), S1)
    else
      if x3 ≤ (1 : Int32) then
        (gr S1 451 h0).bind fun b3 =>
        bd (f_X3_safeAlong E n S1 b3 (100000000000000 : Int64) x1 x2) fun v5 S4 =>
        bd (f_X8_lowestTerm E n S4 v5 x3) fun v7 S6 =>
        some (v7, S6)
      else
        some ((-2 : Int64), S1)
def f_X8_need_L39 (E : EN) (n : Nat)  : Nat → WS → Nat → Int32 → Int32 → Int32 → Int32 → Option (Int32 × WS)
  | 0 => fun _ _ _ _ _ _ => none
  | m + 1 => fun S h0 x1 x2 x3 x4 =>
    (gr S 451 h0).bind fun b1 =>
    if (gi S 131 b1) ≤ x4 then
      bd (f_X8_cheapest E n S h0 x1 x2 (0 : Int32)) fun v3 S2 =>
      some (v3, S2)
    else
      (gr S 462 h0).bind fun b4 =>
      (gr S 451 h0).bind fun b5 =>
      bd (f_X3_leapOf E n S b5 x4 x3) fun v7 S6 =>
      if x4 < 0 ∨ eN E b4 ≤ x4.toNatClampNeg then none else
      lt (wi S6 b4 (upd (ai S6 b4) x4.toNatClampNeg v7)) fun S8 =>
      lt (x4 + (1 : Int32)) fun y9 =>
      f_X8_need_L39 E n  m S8 h0 x1 x2 x3 y9
def f_X8_need (E : EN) (n : Nat) (S : WS) (h0 : Nat) (x1 : Int32) (x2 : Int32) (x3 : Int32) : Option (Int32 × WS) :=
  (gr S 451 h0).bind fun b1 =>
  bd (f_X3_hasPlace E n S b1 x1) fun v3 S2 =>
  if v3 = 0 then
    some ((-2 : Int32), S2)
  else
    (gr S2 451 h0).bind fun b4 =>
    bd (f_X3_hasPlace E n S2 b4 x2) fun v6 S5 =>
    if v6 = 0 then
      some ((-2 : Int32), S5)
    else
      (gr S5 451 h0).bind fun b7 =>
      bd (f_X3_hasYear E n S5 b7 x3) fun v9 S8 =>
      if v9 = 0 then
        some ((-2 : Int32), S8)
      else
        f_X8_need_L39 E n  n S8 h0 x1 x2 x3 (0 : Int32)
def f_X8_sold_L16 (E : EN) (n : Nat)  : Nat → WS → Nat → Int32 → Int32 → Int32 → Int32 → Option (Int32 × WS)
  | 0 => fun _ _ _ _ _ _ => none
  | m + 1 => fun S h0 x1 x2 x3 x4 =>
    (gr S 451 h0).bind fun b1 =>
    if (gi S 131 b1) ≤ x4 then
      (gr S 451 h0).bind fun b2 =>
      (gr S 146 b2).bind fun b3 =>
      if x1 < 0 ∨ eN E b3 ≤ x1.toNatClampNeg then none else
      bd (f_X8_cheapest E n S h0 (ai S b3 x1.toNatClampNeg) x2 (1 : Int32)) fun v5 S4 =>
      some (v5, S4)
    else
      (gr S 462 h0).bind fun b6 =>
      (gr S 451 h0).bind fun b7 =>
      (gr S 451 h0).bind fun b8 =>
      (gr S 145 b8).bind fun b9 =>
      if x1 < 0 ∨ eN E b9 ≤ x1.toNatClampNeg then none else
      bd (f_X3_lackingOn E n S b7 x4 x3 (ai S b9 x1.toNatClampNeg)) fun v11 S10 =>
      if x4 < 0 ∨ eN E b6 ≤ x4.toNatClampNeg then none else
      lt (wi S10 b6 (upd (ai S10 b6) x4.toNatClampNeg v11)) fun S12 =>
      lt (x4 + (1 : Int32)) fun y13 =>
      f_X8_sold_L16 E n  m S12 h0 x1 x2 x3 y13
def f_X8_sold (E : EN) (n : Nat) (S : WS) (h0 : Nat) (x1 : Int32) (x2 : Int32) (x3 : Int32) : Option (Int32 × WS) :=
  bd (f_X8_knowsWay E n S h0 x1 x2 x3) fun v2 S1 =>
  if v2 = 0 then
    some ((-2 : Int32), S1)
  else
    f_X8_sold_L16 E n  n S1 h0 x1 x2 x3 (0 : Int32)
def f_X8_peaces (E : EN) (n : Nat) (S : WS) (h0 : Nat) (x1 : Int32) : Option (Int32 × WS) :=
  (gr S 451 h0).bind fun b1 =>
  bd (f_X3_isTold E n S b1) fun v3 S2 =>
  if v3 = 0 then
    some ((-2 : Int32), S2)
  else
    if x1 < 0 then
      some ((-2 : Int32), S2)
    else
      if x1 ≤ (40 : Int32) then
        bd (f_X8_calmInThought E n S2 h0 x1) fun v5 S4 =>
        some (v5, S4)
      else
        some ((-2 : Int32), S2)
def f_X8_then (E : EN) (n : Nat) (S : WS) (h0 : Nat) (x1 : Int32) (x2 : Int32) : Option (Int32 × WS) :=
  (gr S 451 h0).bind fun b1 =>
  bd (f_X3_hasSuitor E n S b1 x1) fun v3 S2 =>
  if v3 = 0 then
    some ((-2 : Int32), S2)
  else
    if x2 < 0 then
      some ((-2 : Int32), S2)
    else
      if x2 ≤ (40 : Int32) then
        bd (f_X8_calmInThought E n S2 h0 x2) fun v5 S4 =>
        (gr S4 460 h0).bind fun b6 =>
        if x1 < 0 ∨ eN E b6 ≤ x1.toNatClampNeg then none else
        some ((ai S4 b6 x1.toNatClampNeg), S4)
      else
        some ((-2 : Int32), S2)
def f_X4_readWhole_L41 (E : EN) (n : Nat)  : Nat → WS → Nat → Nat → Int32 → Option (Int32 × WS)
  | 0 => fun _ _ _ _ => none
  | m + 1 => fun S h0 h3 x4 =>
    if (1400 : Int32) ≤ x4 then
      some ((1 : Int32), S)
    else
      if (gi S 195 h0) = 0 then
        some ((1 : Int32), S)
      else
        bd (f_X4_readLine E n S h0 h3) fun v2 S1 =>
        if v2 = 0 then
          some ((0 : Int32), S1)
        else
          bd (f_X4_takeSemicolon E n S1 h0) fun v4 S3 =>
          if v4 = 0 then
            some ((0 : Int32), S3)
          else
            lt (si S3 128 h3 ((gi S3 128 h3) + (1 : Int32))) fun S5 =>
            lt (x4 + (1 : Int32)) fun y6 =>
            f_X4_readWhole_L41 E n  m S5 h0 h3 y6
def f_X4_readWhole (E : EN) (n : Nat) (S : WS) (h0 : Nat) (h1 : Nat) (x2 : Int32) (h3 : Nat) : Option (Int32 × WS) :=
  lt (sr S 192 h0 (some h1)) fun S1 =>
  lt (si S1 193 h0 (imin x2 (Int32.ofNat (eN E h1)))) fun S2 =>
  lt (si S2 194 h0 (0 : Int32)) fun S3 =>
  lt (si S3 198 h0 (0 : Int32)) fun S4 =>
  lt (si S4 199 h0 (-1 : Int32)) fun S5 =>
  bd (f_X3_clearAll E n S5 h3) fun v7 S6 =>
  bd (f_X4_nextToken E n S6 h0) fun v9 S8 =>
  f_X4_readWhole_L41 E n  n S8 h0 h3 (0 : Int32)
def f_X7_findAll (E : EN) (n : Nat) (S : WS) (h0 : Nat) (h1 : Nat) (x2 : Int32) (x3 : Int32) (x4 : Int32) : Option (Unit × WS) :=
  lt (sr S 384 h0 (some h1)) fun S1 =>
  lt (si S1 385 h0 x3) fun S2 =>
  lt (si S2 386 h0 x4) fun S3 =>
  (gr S3 384 h0).bind fun b4 =>
  (gr S3 384 h0).bind fun b5 =>
  (gr S3 145 b5).bind fun b6 =>
  if x2 < 0 ∨ eN E b6 ≤ x2.toNatClampNeg then none else
  bd (f_X3_openPaths E n S3 b4 (ai S3 b6 x2.toNatClampNeg) (gi S3 386 h0) (-1 : Int32)) fun v8 S7 =>
  lt (si S7 387 h0 v8) fun S9 =>
  lt (si S9 389 h0 (0 : Int32)) fun S10 =>
  lt (si S10 390 h0 (-1 : Int32)) fun S11 =>
  lt (si S11 392 h0 (-1 : Int32)) fun S12 =>
  lt (sj S12 393 h0 (-1 : Int64)) fun S13 =>
  (gr S13 384 h0).bind fun b14 =>
  (gr S13 146 b14).bind fun b15 =>
  if x2 < 0 ∨ eN E b15 ≤ x2.toNatClampNeg then none else
  bd (f_X7_goOn E n 12 S13 h0 (0 : Int32) (ai S13 b15 x2.toNatClampNeg) (0 : Int32) (100000000000000 : Int64)) fun v17 S16 =>
  some ((), S16)
def f_X8_mountain (E : EN) (n : Nat) (S : WS) (h0 : Nat) : Option (Int32 × WS) :=
  lt (gi S 449 h0) fun y1 =>
  lt (si S 449 h0 (0 : Int32)) fun S2 =>
  (gr S2 450 h0).bind fun b3 =>
  (gr S2 448 h0).bind fun b4 =>
  (gr S2 452 h0).bind fun b5 =>
  bd (f_X4_readWhole E n S2 b3 b4 y1 b5) fun v7 S6 =>
  if v7 = 0 then
    some ((-4 : Int32), S6)
  else
    (gr S6 451 h0).bind fun b8 =>
    (gr S6 452 h0).bind fun b9 =>
    lt (sr S6 451 h0 (some b9)) fun S10 =>
    lt (sr S10 452 h0 (some b8)) fun S11 =>
    (gr S11 451 h0).bind fun b12 =>
    some ((gi S11 128 b12), S11)
def f_X8_shortest (E : EN) (n : Nat) (S : WS) (h0 : Nat) (x1 : Int32) (x2 : Int32) (x3 : Int32) : Option (Int32 × WS) :=
  bd (f_X8_knowsWay E n S h0 x1 x2 x3) fun v2 S1 =>
  if v2 = 0 then
    some ((-2 : Int32), S1)
  else
    (gr S1 456 h0).bind fun b3 =>
    (gr S1 451 h0).bind fun b4 =>
    bd (f_X7_findAll E n S1 b3 b4 x1 x2 x3) fun v6 S5 =>
    (gr S5 456 h0).bind fun b7 =>
    some ((gi S5 390 b7), S5)
def f_X8_goes (E : EN) (n : Nat) (S : WS) (h0 : Nat) (x1 : Int32) (x2 : Int32) (x3 : Int32) (x4 : Int32) : Option (Int32 × WS) :=
  bd (f_X8_knowsWay E n S h0 x1 x2 x3) fun v2 S1 =>
  if v2 = 0 then
    some ((-2 : Int32), S1)
  else
    (gr S1 456 h0).bind fun b3 =>
    (gr S1 451 h0).bind fun b4 =>
    bd (f_X7_findAll E n S1 b3 b4 x1 x2 x3) fun v6 S5 =>
    if x4 < 0 then
      some ((-1 : Int32), S5)
    else
      (gr S5 456 h0).bind fun b7 =>
      if (gi S5 390 b7) ≤ x4 then
        some ((-1 : Int32), S5)
      else
        (gr S5 456 h0).bind fun b8 =>
        (gr S5 391 b8).bind fun b9 =>
        if x4 < 0 ∨ eN E b9 ≤ x4.toNatClampNeg then none else
        some ((ai S5 b9 x4.toNatClampNeg), S5)
def f_X8_safest (E : EN) (n : Nat) (S : WS) (h0 : Nat) (x1 : Int32) (x2 : Int32) (x3 : Int32) (x4 : Int32) : Option (Int64 × WS) :=
  bd (f_X8_knowsWay E n S h0 x1 x2 x3) fun v2 S1 =>
  if v2 = 0 then
    some ((-2 : Int64), S1)
  else
    if x4 < 0 then
      some ((-2 : Int64), S1)
    else
      if x4 ≤ (2 : Int32) then
        (gr S1 456 h0).bind fun b3 =>
        (gr S1 451 h0).bind fun b4 =>
        bd (f_X7_findAll E n S1 b3 b4 x1 x2 x3) fun v6 S5 =>
        (gr S5 456 h0).bind fun b7 =>
        if (gi S5 392 b7) = (-1 : Int32) then
          some ((-1 : Int64), S5)
        else
          if x4 = (2 : Int32) then
            (gr S5 456 h0).bind fun b11 =>
            some (((gi S5 392 b11).toInt64), S5)
          else
            (gr S5 456 h0).bind fun b8 =>
            bd (f_X8_lowestTerm E n S5 (gj S5 393 b8) x4) fun v10 S9 =>
            some (v10, S9)
      else
        some ((-2 : Int64), S1)
def f_X8_place (E : EN) (n : Nat) (S : WS) (h0 : Nat) (x1 : Int32) (x2 : Int32) (x3 : Int32) (x4 : Int32) : Option (Int32 × WS) :=
  bd (f_X8_knowsWay E n S h0 x1 x2 x3) fun v2 S1 =>
  if v2 = 0 then
    some ((-2 : Int32), S1)
  else
    (gr S1 456 h0).bind fun b3 =>
    (gr S1 451 h0).bind fun b4 =>
    bd (f_X7_findAll E n S1 b3 b4 x1 x2 x3) fun v6 S5 =>
    if x4 < 0 then
      some ((-1 : Int32), S5)
    else
      (gr S5 456 h0).bind fun b7 =>
      if (gi S5 392 b7) ≤ x4 then
        some ((-1 : Int32), S5)
      else
        (gr S5 456 h0).bind fun b8 =>
        (gr S5 394 b8).bind fun b9 =>
        if x4 < 0 ∨ eN E b9 ≤ x4.toNatClampNeg then none else
        some ((ai S5 b9 x4.toNatClampNeg), S5)
def f_X8_ways (E : EN) (n : Nat) (S : WS) (h0 : Nat) (x1 : Int32) (x2 : Int32) (x3 : Int32) : Option (Int32 × WS) :=
  bd (f_X8_knowsWay E n S h0 x1 x2 x3) fun v2 S1 =>
  if v2 = 0 then
    some ((-2 : Int32), S1)
  else
    (gr S1 456 h0).bind fun b3 =>
    (gr S1 451 h0).bind fun b4 =>
    bd (f_X7_findAll E n S1 b3 b4 x1 x2 x3) fun v6 S5 =>
    (gr S5 456 h0).bind fun b7 =>
    some ((gi S5 389 b7), S5)
def f_X8_climbs_L57 (E : EN) (n : Nat)  : Nat → WS → Nat → Int32 → Int32 → Int32 → Option (Int32 × WS)
  | 0 => fun _ _ _ _ _ => none
  | m + 1 => fun S h0 x4 x5 x6 =>
    (gr S 456 h0).bind fun b1 =>
    if (gi S 390 b1) ≤ x6 then
      some (x5, S)
    else
      (gr S 451 h0).bind fun b2 =>
      (gr S 135 b2).bind fun b3 =>
      (gr S 456 h0).bind fun b4 =>
      (gr S 391 b4).bind fun b5 =>
      if x6 < 0 ∨ eN E b5 ≤ x6.toNatClampNeg then none else
      if (ai S b5 x6.toNatClampNeg) < 0 ∨ eN E b3 ≤ (ai S b5 x6.toNatClampNeg).toNatClampNeg then none else
      (gr S 451 h0).bind fun b6 =>
      (gr S 135 b6).bind fun b7 =>
      (gr S 456 h0).bind fun b8 =>
      (gr S 391 b8).bind fun b9 =>
      if (x6 - (1 : Int32)) < 0 ∨ eN E b9 ≤ (x6 - (1 : Int32)).toNatClampNeg then none else
      if (ai S b9 (x6 - (1 : Int32)).toNatClampNeg) < 0 ∨ eN E b7 ≤ (ai S b9 (x6 - (1 : Int32)).toNatClampNeg).toNatClampNeg then none else
      lt ((ai S b3 (ai S b5 x6.toNatClampNeg).toNatClampNeg) - (ai S b7 (ai S b9 (x6 - (1 : Int32)).toNatClampNeg).toNatClampNeg)) fun y10 =>
      if x4 = 0 then
        lt (x5 + (imax y10 (0 : Int32))) fun y13 =>
        lt (x6 + (1 : Int32)) fun y14 =>
        f_X8_climbs_L57 E n  m S h0 x4 y13 y14
      else
        lt (x5 + (imax (-y10) (0 : Int32))) fun y11 =>
        lt (x6 + (1 : Int32)) fun y12 =>
        f_X8_climbs_L57 E n  m S h0 x4 y11 y12
def f_X8_climbs (E : EN) (n : Nat) (S : WS) (h0 : Nat) (x1 : Int32) (x2 : Int32) (x3 : Int32) (x4 : Int32) : Option (Int32 × WS) :=
  bd (f_X8_knowsWay E n S h0 x1 x2 x3) fun v2 S1 =>
  if v2 = 0 then
    some ((-2 : Int32), S1)
  else
    if x4 < 0 then
      some ((-2 : Int32), S1)
    else
      if x4 ≤ (1 : Int32) then
        (gr S1 456 h0).bind fun b3 =>
        (gr S1 451 h0).bind fun b4 =>
        bd (f_X7_findAll E n S1 b3 b4 x1 x2 x3) fun v6 S5 =>
        (gr S5 456 h0).bind fun b7 =>
        if (gi S5 390 b7) = (-1 : Int32) then
          some ((-1 : Int32), S5)
        else
          f_X8_climbs_L57 E n  n S5 h0 x4 (0 : Int32) (1 : Int32)
      else
        some ((-2 : Int32), S1)
def f_X8_walk (E : EN) (n : Nat) (S : WS) (h0 : Nat) (x1 : Int32) (x2 : Int32) (x3 : Int32) (x4 : Int32) : Option (Int32 × WS) :=
  bd (f_X8_knowsWay E n S h0 x2 x3 x4) fun v2 S1 =>
  if v2 = 0 then
    some ((-2 : Int32), S1)
  else
    if x1 < 0 then
      some ((-2 : Int32), S1)
    else
      if x1 ≤ (2000000000 : Int32) then
        (gr S1 456 h0).bind fun b3 =>
        (gr S1 451 h0).bind fun b4 =>
        bd (f_X7_findAll E n S1 b3 b4 x2 x3 x4) fun v6 S5 =>
        bd (f_X8_endOfWalk E n S5 h0 (x1.toInt64) x4) fun v8 S7 =>
        some (v8, S7)
      else
        some ((-2 : Int32), S1)
def f_X8_walks_L72 (E : EN) (n : Nat)  : Nat → WS → Nat → Int32 → Int32 → Int32 → Int32 → Int32 → Int32 → Option (Int32 × WS)
  | 0 => fun _ _ _ _ _ _ _ _ => none
  | m + 1 => fun S h0 x1 x2 x4 x5 x6 x7 =>
    if x2 ≤ x7 then
      some (x6, S)
    else
      bd (f_X8_endOfWalk E n S h0 ((x1.toInt64) + (x7.toInt64)) x5) fun v2 S1 =>
      if v2 = x4 then
        lt (x6 + (1 : Int32)) fun y4 =>
        lt (x7 + (1 : Int32)) fun y5 =>
        f_X8_walks_L72 E n  m S1 h0 x1 x2 x4 x5 y4 y5
      else
        lt (x7 + (1 : Int32)) fun y3 =>
        f_X8_walks_L72 E n  m S1 h0 x1 x2 x4 x5 x6 y3
def f_X8_walks (E : EN) (n : Nat) (S : WS) (h0 : Nat) (x1 : Int32) (x2 : Int32) (x3 : Int32) (x4 : Int32) (x5 : Int32) : Option (Int32 × WS) :=
  bd (f_X8_knowsWay E n S h0 x3 x4 x5) fun v2 S1 =>
  if v2 = 0 then
    some ((-2 : Int32), S1)
  else
    if x1 < 0 then
      some ((-2 : Int32), S1)
    else
      if (2000000000 : Int32) < x1 then
        some ((-2 : Int32), S1)
      else
        if x2 < (1 : Int32) then
          some ((-2 : Int32), S1)
        else
          if x2 ≤ (20 : Int32) then
            (gr S1 456 h0).bind fun b3 =>
            (gr S1 451 h0).bind fun b4 =>
            bd (f_X7_findAll E n S1 b3 b4 x3 x4 x5) fun v6 S5 =>
            (gr S5 456 h0).bind fun b7 =>
            if (gi S5 392 b7) = (-1 : Int32) then
              some ((-1 : Int32), S5)
            else
              f_X8_walks_L72 E n  n S5 h0 x1 x2 x4 x5 (0 : Int32) (0 : Int32)
          else
            some ((-2 : Int32), S1)
