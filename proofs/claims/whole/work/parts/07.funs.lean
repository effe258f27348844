/-! WHAT EACH METHOD COMPUTES, by program (wip/whole/gen.py) out of the decode rows -/
def f_X3_isTold (E : EN) (n : Nat) (S : WS) (h0 : Nat) : Option (Int32 × WS) :=
  if (gi S 129 h0) ≤ 0 then
    some ((0 : Int32), S)
  else
    some ((1 : Int32), S)
def f_X3_hasPlace (E : EN) (n : Nat) (S : WS) (h0 : Nat) (x1 : Int32) : Option (Int32 × WS) :=
  if x1 < 0 then
    some ((0 : Int32), S)
  else
    if (gi S 129 h0) ≤ x1 then
      some ((0 : Int32), S)
    else
      some ((1 : Int32), S)
def f_X3_hasYear (E : EN) (n : Nat) (S : WS) (h0 : Nat) (x1 : Int32) : Option (Int32 × WS) :=
  if x1 < 0 then
    some ((0 : Int32), S)
  else
    if (gi S 130 h0) ≤ x1 then
      some ((0 : Int32), S)
    else
      some ((1 : Int32), S)
def f_X3_hasPath (E : EN) (n : Nat) (S : WS) (h0 : Nat) (x1 : Int32) : Option (Int32 × WS) :=
  if x1 < 0 then
    some ((0 : Int32), S)
  else
    if (gi S 131 h0) ≤ x1 then
      some ((0 : Int32), S)
    else
      some ((1 : Int32), S)
def f_X3_hasBride (E : EN) (n : Nat) (S : WS) (h0 : Nat) (x1 : Int32) : Option (Int32 × WS) :=
  if x1 < 0 then
    some ((0 : Int32), S)
  else
    if (gi S 132 h0) ≤ x1 then
      some ((0 : Int32), S)
    else
      some ((1 : Int32), S)
def f_X3_hasSuitor (E : EN) (n : Nat) (S : WS) (h0 : Nat) (x1 : Int32) : Option (Int32 × WS) :=
  if x1 < 0 then
    some ((0 : Int32), S)
  else
    if (gi S 133 h0) ≤ x1 then
      some ((0 : Int32), S)
    else
      some ((1 : Int32), S)
def f_X3_hasWalker (E : EN) (n : Nat) (S : WS) (h0 : Nat) (x1 : Int32) : Option (Int32 × WS) :=
  if x1 < 0 then
    some ((0 : Int32), S)
  else
    if (gi S 134 h0) ≤ x1 then
      some ((0 : Int32), S)
    else
      some ((1 : Int32), S)
def f_X3_isFor (E : EN) (n : Nat) (S : WS) (h0 : Nat) (x1 : Int32) (x2 : Int32) : Option (Int32 × WS) :=
  bd (f_X3_hasSuitor E n S h0 x1) fun v2 S1 =>
  if v2 = 0 then
    some ((0 : Int32), S1)
  else
    bd (f_X3_hasBride E n S1 h0 x2) fun v4 S3 =>
    if v4 = 0 then
      some ((0 : Int32), S3)
    else
      (gr S3 142 h0).bind fun b5 =>
      if x1 < 0 ∨ eN E b5 ≤ x1.toNatClampNeg then none else
      if (((ai S3 b5 x1.toNatClampNeg) >>> (x2 &&& 31)) &&& (1 : Int32)) = (1 : Int32) then
        some ((1 : Int32), S3)
      else
        some ((0 : Int32), S3)
def f_X3_pathBetween_J30 (E : EN) (n : Nat) (k2 : WS → Nat → Int32 → Int32 → Int32 → Option (Int32 × WS)) (S : WS) (h0 : Nat) (x1 : Int32) (x2 : Int32) (x3 : Int32) : Option (Int32 × WS) :=
  (gr S 136 h0).bind fun b1 =>
  if x3 < 0 ∨ eN E b1 ≤ x3.toNatClampNeg then none else
  if (ai S b1 x3.toNatClampNeg) = x2 then
    (gr S 137 h0).bind fun b3 =>
    if x3 < 0 ∨ eN E b3 ≤ x3.toNatClampNeg then none else
    if (ai S b3 x3.toNatClampNeg) = x1 then
      some (x3, S)
    else
      lt (x3 + (1 : Int32)) fun y4 =>
      k2 S h0 x1 x2 y4
  else
    lt (x3 + (1 : Int32)) fun y2 =>
    k2 S h0 x1 x2 y2
def f_X3_pathBetween_L2 (E : EN) (n : Nat)  : Nat → WS → Nat → Int32 → Int32 → Int32 → Option (Int32 × WS)
  | 0 => fun _ _ _ _ _ => none
  | m + 1 => fun S h0 x1 x2 x3 =>
    if (gi S 131 h0) ≤ x3 then
      some ((-1 : Int32), S)
    else
      (gr S 136 h0).bind fun b1 =>
      if x3 < 0 ∨ eN E b1 ≤ x3.toNatClampNeg then none else
      if (ai S b1 x3.toNatClampNeg) = x1 then
        (gr S 137 h0).bind fun b2 =>
        if x3 < 0 ∨ eN E b2 ≤ x3.toNatClampNeg then none else
        if (ai S b2 x3.toNatClampNeg) = x2 then
          some (x3, S)
        else
          f_X3_pathBetween_J30 E n (f_X3_pathBetween_L2 E n  m) S h0 x1 x2 x3
      else
        f_X3_pathBetween_J30 E n (f_X3_pathBetween_L2 E n  m) S h0 x1 x2 x3
def f_X3_pathBetween (E : EN) (n : Nat) (S : WS) (h0 : Nat) (x1 : Int32) (x2 : Int32) : Option (Int32 × WS) :=
  f_X3_pathBetween_L2 E n  n S h0 x1 x2 (0 : Int32)
def f_X3_dropOf (E : EN) (n : Nat) (S : WS) (h0 : Nat) (x1 : Int32) : Option (Int32 × WS) :=
  (gr S 135 h0).bind fun b1 =>
  (gr S 136 h0).bind fun b2 =>
  if x1 < 0 ∨ eN E b2 ≤ x1.toNatClampNeg then none else
  if (ai S b2 x1.toNatClampNeg) < 0 ∨ eN E b1 ≤ (ai S b2 x1.toNatClampNeg).toNatClampNeg then none else
  (gr S 135 h0).bind fun b3 =>
  (gr S 137 h0).bind fun b4 =>
  if x1 < 0 ∨ eN E b4 ≤ x1.toNatClampNeg then none else
  if (ai S b4 x1.toNatClampNeg) < 0 ∨ eN E b3 ≤ (ai S b4 x1.toNatClampNeg).toNatClampNeg then none else
  some ((iabs ((ai S b1 (ai S b2 x1.toNatClampNeg).toNatClampNeg) - (ai S b3 (ai S b4 x1.toNatClampNeg).toNatClampNeg))), S)
def f_X3_courtersOf_L5 (E : EN) (n : Nat)  : Nat → WS → Nat → Nat → Int32 → Int32 → Int32 → Option (Int32 × WS)
  | 0 => fun _ _ _ _ _ _ => none
  | m + 1 => fun S h0 h1 x2 x3 x4 =>
    if (gi S 133 h0) ≤ x4 then
      some (x3, S)
    else
      if x4 < 0 ∨ eN E h1 ≤ x4.toNatClampNeg then none else
      if (ai S h1 x4.toNatClampNeg) = x2 then
        lt (x3 + (1 : Int32)) fun y2 =>
        lt (x4 + (1 : Int32)) fun y3 =>
        f_X3_courtersOf_L5 E n  m S h0 h1 x2 y2 y3
      else
        lt (x4 + (1 : Int32)) fun y1 =>
        f_X3_courtersOf_L5 E n  m S h0 h1 x2 x3 y1
def f_X3_courtersOf (E : EN) (n : Nat) (S : WS) (h0 : Nat) (h1 : Nat) (x2 : Int32) : Option (Int32 × WS) :=
  f_X3_courtersOf_L5 E n  n S h0 h1 x2 (0 : Int32) (0 : Int32)
def f_X3_takenBy_L5 (E : EN) (n : Nat)  : Nat → WS → Nat → Nat → Int32 → Int32 → Int32 → Option (Int32 × WS)
  | 0 => fun _ _ _ _ _ _ => none
  | m + 1 => fun S h0 h1 x2 x3 x4 =>
    if (gi S 133 h0) ≤ x4 then
      some (x3, S)
    else
      if x4 < 0 ∨ eN E h1 ≤ x4.toNatClampNeg then none else
      if (ai S h1 x4.toNatClampNeg) = x2 then
        if x3 = (-1 : Int32) then
          lt (x4 + (1 : Int32)) fun y2 =>
          f_X3_takenBy_L5 E n  m S h0 h1 x2 x4 y2
        else
          (gr S 140 h0).bind fun b3 =>
          if x4 < 0 ∨ eN E b3 ≤ x4.toNatClampNeg then none else
          (gr S 140 h0).bind fun b4 =>
          if x3 < 0 ∨ eN E b4 ≤ x3.toNatClampNeg then none else
          if (ai S b3 x4.toNatClampNeg) ≤ (ai S b4 x3.toNatClampNeg) then
            lt (x4 + (1 : Int32)) fun y5 =>
            f_X3_takenBy_L5 E n  m S h0 h1 x2 x3 y5
          else
            lt (x4 + (1 : Int32)) fun y6 =>
            f_X3_takenBy_L5 E n  m S h0 h1 x2 x4 y6
      else
        lt (x4 + (1 : Int32)) fun y1 =>
        f_X3_takenBy_L5 E n  m S h0 h1 x2 x3 y1
def f_X3_takenBy (E : EN) (n : Nat) (S : WS) (h0 : Nat) (h1 : Nat) (x2 : Int32) : Option (Int32 × WS) :=
  f_X3_takenBy_L5 E n  n S h0 h1 x2 (-1 : Int32) (0 : Int32)
def f_X3_isRefused (E : EN) (n : Nat) (S : WS) (h0 : Nat) (h1 : Nat) (x2 : Int32) : Option (Int32 × WS) :=
  if x2 < 0 ∨ eN E h1 ≤ x2.toNatClampNeg then none else
  if (ai S h1 x2.toNatClampNeg) = (-1 : Int32) then
    some ((0 : Int32), S)
  else
    if x2 < 0 ∨ eN E h1 ≤ x2.toNatClampNeg then none else
    bd (f_X3_takenBy E n S h0 h1 (ai S h1 x2.toNatClampNeg)) fun v2 S1 =>
    if v2 = x2 then
      some ((0 : Int32), S1)
    else
      some ((1 : Int32), S1)
def f_X3_wouldBeTaken (E : EN) (n : Nat) (S : WS) (h0 : Nat) (h1 : Nat) (x2 : Int32) (x3 : Int32) : Option (Int32 × WS) :=
  bd (f_X3_takenBy E n S h0 h1 x3) fun v2 S1 =>
  if v2 = (-1 : Int32) then
    some ((1 : Int32), S1)
  else
    (gr S1 140 h0).bind fun b3 =>
    if x2 < 0 ∨ eN E b3 ≤ x2.toNatClampNeg then none else
    (gr S1 140 h0).bind fun b4 =>
    if v2 < 0 ∨ eN E b4 ≤ v2.toNatClampNeg then none else
    if (ai S1 b4 v2.toNatClampNeg) < (ai S1 b3 x2.toNatClampNeg) then
      some ((1 : Int32), S1)
    else
      (gr S1 140 h0).bind fun b5 =>
      if x2 < 0 ∨ eN E b5 ≤ x2.toNatClampNeg then none else
      (gr S1 140 h0).bind fun b6 =>
      if v2 < 0 ∨ eN E b6 ≤ v2.toNatClampNeg then none else
      if (ai S1 b5 x2.toNatClampNeg) = (ai S1 b6 v2.toNatClampNeg) then
        if v2 ≤ x2 then
          some ((0 : Int32), S1)
        else
          some ((1 : Int32), S1)
      else
        some ((0 : Int32), S1)
def f_X3_wouldStep (E : EN) (n : Nat) (S : WS) (h0 : Nat) (x1 : Int32) (x2 : Int32) (x3 : Int32) (x4 : Int32) : Option (Int32 × WS) :=
  if x2 < 0 then
    some ((0 : Int32), S)
  else
    if (gi S 132 h0) ≤ x2 then
      some ((0 : Int32), S)
    else
      (gr S 138 h0).bind fun b1 =>
      if x2 < 0 ∨ eN E b1 ≤ x2.toNatClampNeg then none else
      if (ai S b1 x2.toNatClampNeg) = x3 then
        (gr S 139 h0).bind fun b2 =>
        if x2 < 0 ∨ eN E b2 ≤ x2.toNatClampNeg then none else
        if x4 < (ai S b2 x2.toNatClampNeg) then
          some ((0 : Int32), S)
        else
          (gr S 139 h0).bind fun b3 =>
          if x2 < 0 ∨ eN E b3 ≤ x2.toNatClampNeg then none else
          (gr S 140 h0).bind fun b4 =>
          if x1 < 0 ∨ eN E b4 ≤ x1.toNatClampNeg then none else
          if ((ai S b3 x2.toNatClampNeg) + (ai S b4 x1.toNatClampNeg)) < x4 then
            some ((0 : Int32), S)
          else
            some ((1 : Int32), S)
      else
        some ((0 : Int32), S)
def f_X3_hasStep (E : EN) (n : Nat) (S : WS) (h0 : Nat) (x1 : Int32) (x2 : Int32) (x3 : Int32) : Option (Int32 × WS) :=
  (gr S 143 h0).bind fun b1 =>
  if x1 < 0 ∨ eN E b1 ≤ x1.toNatClampNeg then none else
  bd (f_X3_wouldStep E n S h0 x1 (ai S b1 x1.toNatClampNeg) x2 x3) fun v3 S2 =>
  zc v3 S2
def f_X3_stepsOn_L6 (E : EN) (n : Nat)  : Nat → WS → Nat → Int32 → Int32 → Int32 → Int32 → Int32 → Option (Int32 × WS)
  | 0 => fun _ _ _ _ _ _ _ => none
  | m + 1 => fun S h0 x1 x2 x3 x4 x5 =>
    if (gi S 133 h0) ≤ x5 then
      some (x4, S)
    else
      if x5 = x3 then
        lt (x5 + (1 : Int32)) fun y1 =>
        f_X3_stepsOn_L6 E n  m S h0 x1 x2 x3 x4 y1
      else
        bd (f_X3_hasStep E n S h0 x5 x1 x2) fun v3 S2 =>
        if v3 = 0 then
          lt (x5 + (1 : Int32)) fun y4 =>
          f_X3_stepsOn_L6 E n  m S2 h0 x1 x2 x3 x4 y4
        else
          lt (x4 + (1 : Int32)) fun y5 =>
          lt (x5 + (1 : Int32)) fun y6 =>
          f_X3_stepsOn_L6 E n  m S2 h0 x1 x2 x3 y5 y6
def f_X3_stepsOn (E : EN) (n : Nat) (S : WS) (h0 : Nat) (x1 : Int32) (x2 : Int32) (x3 : Int32) : Option (Int32 × WS) :=
  f_X3_stepsOn_L6 E n  n S h0 x1 x2 x3 (0 : Int32) (0 : Int32)
def f_X3_fallOf (E : EN) (n : Nat) (S : WS) (h0 : Nat) (x1 : Int32) (x2 : Int32) : Option (Int32 × WS) :=
  (gr S 144 h0).bind fun b1 =>
  if x2 < 0 ∨ eN E b1 ≤ x2.toNatClampNeg then none else
  (gr S 143 h0).bind fun b2 =>
  bd (f_X3_isRefused E n S h0 b2 x1) fun v4 S3 =>
  if v4 = 0 then
    lt ((ai S b1 x2.toNatClampNeg) + (0 : Int32)) fun y5 =>
    some ((imin y5 (100 : Int32)), S3)
  else
    (gr S3 141 h0).bind fun b6 =>
    if x1 < 0 ∨ eN E b6 ≤ x1.toNatClampNeg then none else
    lt ((ai S b1 x2.toNatClampNeg) + (ai S3 b6 x1.toNatClampNeg)) fun y7 =>
    some ((imin y7 (100 : Int32)), S3)
def f_X3_safeAlong_L6 (E : EN) (n : Nat)  : Nat → WS → Nat → Int32 → Int32 → Int64 → Int32 → Option (Int64 × WS)
  | 0 => fun _ _ _ _ _ _ => none
  | m + 1 => fun S h0 x3 x4 x5 x7 =>
    if (gi S 133 h0) ≤ x7 then
      some (x5, S)
    else
      bd (f_X3_hasStep E n S h0 x7 x3 x4) fun v2 S1 =>
      if v2 = 0 then
        lt (x7 + (1 : Int32)) fun y3 =>
        f_X3_safeAlong_L6 E n  m S1 h0 x3 x4 x5 y3
      else
        if (100 : Int64) = 0 then none else
        bd (f_X3_fallOf E n S1 h0 x7 x4) fun v5 S4 =>
        lt ((x5 / (100 : Int64)) * (((100 : Int32) - v5).toInt64)) fun y6 =>
        lt (x7 + (1 : Int32)) fun y7 =>
        f_X3_safeAlong_L6 E n  m S4 h0 x3 x4 y6 y7
def f_X3_safeAlong (E : EN) (n : Nat) (S : WS) (h0 : Nat) (x1 : Int64) (x3 : Int32) (x4 : Int32) : Option (Int64 × WS) :=
  f_X3_safeAlong_L6 E n  n S h0 x3 x4 x1 (0 : Int32)
def f_X3_placesFrom_L22 (E : EN) (n : Nat) (k7 : WS → Nat → Int32 → Int32 → Int32 → Option (Int32 × WS)) : Nat → WS → Nat → Int32 → Int32 → Int32 → Int32 → Int32 → Option (Int32 × WS)
  | 0 => fun _ _ _ _ _ _ _ => none
  | m + 1 => fun S h0 x2 x3 x4 x5 x6 =>
    if (gi S 131 h0) ≤ x6 then
      if x3 = x5 then
        some (x3, S)
      else
        lt (x4 + (1 : Int32)) fun y1 =>
        k7 S h0 x2 x3 y1
    else
      (gr S 136 h0).bind fun b2 =>
      if x6 < 0 ∨ eN E b2 ≤ x6.toNatClampNeg then none else
      (gr S 137 h0).bind fun b3 =>
      if x6 < 0 ∨ eN E b3 ≤ x6.toNatClampNeg then none else
      lt (((1 : Int32) <<< ((ai S b2 x6.toNatClampNeg) &&& 31)) ||| ((1 : Int32) <<< ((ai S b3 x6.toNatClampNeg) &&& 31))) fun y4 =>
      if ((x2 >>> (x6 &&& 31)) &&& (1 : Int32)) = (1 : Int32) then
        if (x3 &&& y4) = 0 then
          lt (x6 + (1 : Int32)) fun y6 =>
          f_X3_placesFrom_L22 E n k7 m S h0 x2 x3 x4 x5 y6
        else
          lt (x3 ||| y4) fun y7 =>
          lt (x6 + (1 : Int32)) fun y8 =>
          f_X3_placesFrom_L22 E n k7 m S h0 x2 y7 x4 x5 y8
      else
        lt (x6 + (1 : Int32)) fun y5 =>
        f_X3_placesFrom_L22 E n k7 m S h0 x2 x3 x4 x5 y5
def f_X3_placesFrom_L7 (E : EN) (n : Nat)  : Nat → WS → Nat → Int32 → Int32 → Int32 → Option (Int32 × WS)
  | 0 => fun _ _ _ _ _ => none
  | m + 1 => fun S h0 x2 x3 x4 =>
    if (gi S 129 h0) ≤ x4 then
      some (x3, S)
    else
      f_X3_placesFrom_L22 E n (f_X3_placesFrom_L7 E n  m) n S h0 x2 x3 x4 x3 (0 : Int32)
def f_X3_placesFrom (E : EN) (n : Nat) (S : WS) (h0 : Nat) (x1 : Int32) (x2 : Int32) : Option (Int32 × WS) :=
  lt ((1 : Int32) <<< (x1 &&& 31)) fun y1 =>
  f_X3_placesFrom_L7 E n  n S h0 x2 y1 (0 : Int32)
def f_X8_copyRow (E : EN) (n : Nat) (S : WS) (h0 : Nat) (h1 : Nat) : Option (Unit × WS) :=
  if (0 : Int32) < 0 ∨ (0 : Int32) < 0 ∨ (imin (Int32.ofNat (eN E h0)) (Int32.ofNat (eN E h1))) < 0 ∨ eN E h0 < (0 : Int32).toNatClampNeg + (imin (Int32.ofNat (eN E h0)) (Int32.ofNat (eN E h1))).toNatClampNeg ∨ eN E h1 < (0 : Int32).toNatClampNeg + (imin (Int32.ofNat (eN E h0)) (Int32.ofNat (eN E h1))).toNatClampNeg then none else
  lt (wi S h1 (va_cpy (ai S h0) (ai S h1) (0 : Int32).toNatClampNeg (0 : Int32).toNatClampNeg (imin (Int32.ofNat (eN E h0)) (Int32.ofNat (eN E h1))).toNatClampNeg)) fun S1 =>
  some ((), S1)
def f_X8_roundedUp (E : EN) (n : Nat) (S : WS) (x0 : Int32) (x1 : Int32) : Option (Int32 × WS) :=
  if x1 ≤ 0 then
    some ((0 : Int32), S)
  else
    if x1 = 0 then none else
    some ((((x0 + x1) - (1 : Int32)) / x1), S)
def f_X8_lacking (E : EN) (n : Nat) (S : WS) (x0 : Int32) (x1 : Int32) (x2 : Int32) : Option (Int32 × WS) :=
  if (x2 * (x1 + (1 : Int32))) < x0 then
    if x2 = 0 then
      some ((-1 : Int32), S)
    else
      bd (f_X8_roundedUp E n S x0 x2) fun v2 S1 =>
      some (((v2 - (1 : Int32)) - x1), S1)
  else
    some ((0 : Int32), S)
def f_J7_fill_d0a16_L6 (E : EN) (n : Nat)  : Nat → WS → Nat → Int64 → Int32 → Int32 → Option (Unit × WS)
  | 0 => fun _ _ _ _ _ => none
  | m + 1 => fun S h0 x1 x3 x4 =>
    if x4 ≤ x3 then
      some ((), S)
    else
      if x3 < 0 ∨ eN E h0 ≤ x3.toNatClampNeg then none else
      lt (wj S h0 (vp_updL (aj S h0) x3.toNatClampNeg x1)) fun S1 =>
      lt (x3 + (1 : Int32)) fun y2 =>
      f_J7_fill_d0a16_L6 E n  m S1 h0 x1 y2 x4
def f_J7_fill_d0a16 (E : EN) (n : Nat) (S : WS) (h0 : Nat) (x1 : Int64) : Option (Unit × WS) :=
  lt (Int32.ofNat (eN E h0)) fun y1 =>
  f_J7_fill_d0a16_L6 E n  n S h0 x1 (0 : Int32) y1
def f_J7_fill_53178_L5 (E : EN) (n : Nat)  : Nat → WS → Nat → Int32 → Int32 → Int32 → Option (Unit × WS)
  | 0 => fun _ _ _ _ _ => none
  | m + 1 => fun S h0 x1 x2 x3 =>
    if x3 ≤ x2 then
      some ((), S)
    else
      if x2 < 0 ∨ eN E h0 ≤ x2.toNatClampNeg then none else
      lt (wi S h0 (upd (ai S h0) x2.toNatClampNeg x1)) fun S1 =>
      lt (x2 + (1 : Int32)) fun y2 =>
      f_J7_fill_53178_L5 E n  m S1 h0 x1 y2 x3
def f_J7_fill_53178 (E : EN) (n : Nat) (S : WS) (h0 : Nat) (x1 : Int32) : Option (Unit × WS) :=
  lt (Int32.ofNat (eN E h0)) fun y1 =>
  f_J7_fill_53178_L5 E n  n S h0 x1 (0 : Int32) y1
def f_J7_fill_031fb_L5 (E : EN) (n : Nat)  : Nat → WS → Nat → Int32 → Int32 → Int32 → Option (Unit × WS)
  | 0 => fun _ _ _ _ _ => none
  | m + 1 => fun S h0 x1 x2 x3 =>
    if x3 ≤ x2 then
      some ((), S)
    else
      if x2 < 0 ∨ eN E h0 ≤ x2.toNatClampNeg then none else
      lt (wi S h0 (upd (ai S h0) x2.toNatClampNeg (vp_nar .byte x1))) fun S1 =>
      lt (x2 + (1 : Int32)) fun y2 =>
      f_J7_fill_031fb_L5 E n  m S1 h0 x1 y2 x3
def f_J7_fill_031fb (E : EN) (n : Nat) (S : WS) (h0 : Nat) (x1 : Int32) : Option (Unit × WS) :=
  lt (Int32.ofNat (eN E h0)) fun y1 =>
  f_J7_fill_031fb_L5 E n  n S h0 x1 (0 : Int32) y1
def f_X3_clearAll (E : EN) (n : Nat) (S : WS) (h0 : Nat) : Option (Unit × WS) :=
  lt (si S 128 h0 (0 : Int32)) fun S1 =>
  lt (si S1 129 h0 (0 : Int32)) fun S2 =>
  lt (si S2 130 h0 (0 : Int32)) fun S3 =>
  lt (si S3 131 h0 (0 : Int32)) fun S4 =>
  lt (si S4 132 h0 (0 : Int32)) fun S5 =>
  lt (si S5 133 h0 (0 : Int32)) fun S6 =>
  lt (si S6 134 h0 (0 : Int32)) fun S7 =>
  (gr S7 135 h0).bind fun b8 =>
  bd (f_J7_fill_53178 E n S7 b8 (0 : Int32)) fun v10 S9 =>
  (gr S9 144 h0).bind fun b11 =>
  bd (f_J7_fill_53178 E n S9 b11 (0 : Int32)) fun v13 S12 =>
  (gr S12 143 h0).bind fun b14 =>
  bd (f_J7_fill_53178 E n S12 b14 (-1 : Int32)) fun v16 S15 =>
  some ((), S15)
def f_X3_takeFrom (E : EN) (n : Nat) (S : WS) (h0 : Nat) (h1 : Nat) : Option (Unit × WS) :=
  lt (si S 128 h0 (gi S 128 h1)) fun S1 =>
  lt (si S1 129 h0 (gi S1 129 h1)) fun S2 =>
  lt (si S2 130 h0 (gi S2 130 h1)) fun S3 =>
  lt (si S3 131 h0 (gi S3 131 h1)) fun S4 =>
  lt (si S4 132 h0 (gi S4 132 h1)) fun S5 =>
  lt (si S5 133 h0 (gi S5 133 h1)) fun S6 =>
  lt (si S6 134 h0 (gi S6 134 h1)) fun S7 =>
  (gr S7 135 h1).bind fun b8 =>
  (gr S7 135 h0).bind fun b9 =>
  bd (f_X8_copyRow E n S7 b8 b9) fun v11 S10 =>
  (gr S10 136 h1).bind fun b12 =>
  (gr S10 136 h0).bind fun b13 =>
  bd (f_X8_copyRow E n S10 b12 b13) fun v15 S14 =>
  (gr S14 137 h1).bind fun b16 =>
  (gr S14 137 h0).bind fun b17 =>
  bd (f_X8_copyRow E n S14 b16 b17) fun v19 S18 =>
  (gr S18 138 h1).bind fun b20 =>
  (gr S18 138 h0).bind fun b21 =>
  bd (f_X8_copyRow E n S18 b20 b21) fun v23 S22 =>
  (gr S22 139 h1).bind fun b24 =>
  (gr S22 139 h0).bind fun b25 =>
  bd (f_X8_copyRow E n S22 b24 b25) fun v27 S26 =>
  (gr S26 140 h1).bind fun b28 =>
  (gr S26 140 h0).bind fun b29 =>
  bd (f_X8_copyRow E n S26 b28 b29) fun v31 S30 =>
  (gr S30 141 h1).bind fun b32 =>
  (gr S30 141 h0).bind fun b33 =>
  bd (f_X8_copyRow E n S30 b32 b33) fun v35 S34 =>
  (gr S34 142 h1).bind fun b36 =>
  (gr S34 142 h0).bind fun b37 =>
  bd (f_X8_copyRow E n S34 b36 b37) fun v39 S38 =>
  (gr S38 143 h1).bind fun b40 =>
  (gr S38 143 h0).bind fun b41 =>
  bd (f_X8_copyRow E n S38 b40 b41) fun v43 S42 =>
  (gr S42 144 h1).bind fun b44 =>
  (gr S42 144 h0).bind fun b45 =>
  bd (f_X8_copyRow E n S42 b44 b45) fun v47 S46 =>
  (gr S46 145 h1).bind fun b48 =>
  (gr S46 145 h0).bind fun b49 =>
  bd (f_X8_copyRow E n S46 b48 b49) fun v51 S50 =>
  (gr S50 146 h1).bind fun b52 =>
  (gr S50 146 h0).bind fun b53 =>
  bd (f_X8_copyRow E n S50 b52 b53) fun v55 S54 =>
  some ((), S54)
def f_X3_hopeOf_L13 (E : EN) (n : Nat)  : Nat → WS → Nat → Nat → Int32 → Int32 → Option (Int32 × WS)
  | 0 => fun _ _ _ _ _ => none
  | m + 1 => fun S h0 h1 x2 x3 =>
    if (gi S 132 h0) ≤ x3 then
      some ((-1 : Int32), S)
    else
      if x2 < 0 ∨ eN E h1 ≤ x2.toNatClampNeg then none else
      if x3 = (ai S h1 x2.toNatClampNeg) then
        lt (x3 + (1 : Int32)) fun y1 =>
        f_X3_hopeOf_L13 E n  m S h0 h1 x2 y1
      else
        bd (f_X3_isFor E n S h0 x2 x3) fun v3 S2 =>
        if v3 = 0 then
          lt (x3 + (1 : Int32)) fun y4 =>
          f_X3_hopeOf_L13 E n  m S2 h0 h1 x2 y4
        else
          bd (f_X3_wouldBeTaken E n S2 h0 h1 x2 x3) fun v6 S5 =>
          if v6 = 0 then
            lt (x3 + (1 : Int32)) fun y7 =>
            f_X3_hopeOf_L13 E n  m S5 h0 h1 x2 y7
          else
            some (x3, S5)
def f_X3_hopeOf (E : EN) (n : Nat) (S : WS) (h0 : Nat) (h1 : Nat) (x2 : Int32) : Option (Int32 × WS) :=
  bd (f_X3_isRefused E n S h0 h1 x2) fun v2 S1 =>
  if v2 = 0 then
    some ((-1 : Int32), S1)
  else
    f_X3_hopeOf_L13 E n  n S1 h0 h1 x2 (0 : Int32)
def f_X3_firstHoping_L2 (E : EN) (n : Nat)  : Nat → WS → Nat → Nat → Int32 → Option (Int32 × WS)
  | 0 => fun _ _ _ _ => none
  | m + 1 => fun S h0 h1 x2 =>
    if (gi S 133 h0) ≤ x2 then
      some ((-1 : Int32), S)
    else
      bd (f_X3_hopeOf E n S h0 h1 x2) fun v2 S1 =>
      if v2 = (-1 : Int32) then
        lt (x2 + (1 : Int32)) fun y3 =>
        f_X3_firstHoping_L2 E n  m S1 h0 h1 y3
      else
        some (x2, S1)
def f_X3_firstHoping (E : EN) (n : Nat) (S : WS) (h0 : Nat) (h1 : Nat) : Option (Int32 × WS) :=
  f_X3_firstHoping_L2 E n  n S h0 h1 (0 : Int32)
def f_X3_leapOf (E : EN) (n : Nat) (S : WS) (h0 : Nat) (x1 : Int32) (x2 : Int32) : Option (Int32 × WS) :=
  bd (f_X3_dropOf E n S h0 x1) fun v2 S1 =>
  bd (f_X3_stepsOn E n S1 h0 x1 x2 (-1 : Int32)) fun v4 S3 =>
  bd (f_X8_roundedUp E n S3 v2 (v4 + (1 : Int32))) fun v6 S5 =>
  some (v6, S5)
def f_X3_lackingOn (E : EN) (n : Nat) (S : WS) (h0 : Nat) (x1 : Int32) (x2 : Int32) (x3 : Int32) : Option (Int32 × WS) :=
  bd (f_X3_dropOf E n S h0 x1) fun v2 S1 =>
  bd (f_X3_stepsOn E n S1 h0 x1 x2 (-1 : Int32)) fun v4 S3 =>
  bd (f_X8_lacking E n S3 v2 v4 x3) fun v6 S5 =>
  some (v6, S5)
def f_X3_openPaths_L6 (E : EN) (n : Nat)  : Nat → WS → Nat → Int32 → Int32 → Int32 → Int32 → Int32 → Option (Int32 × WS)
  | 0 => fun _ _ _ _ _ _ _ => none
  | m + 1 => fun S h0 x1 x2 x3 x4 x5 =>
    if (gi S 131 h0) ≤ x5 then
      some (x4, S)
    else
      bd (f_X3_dropOf E n S h0 x5) fun v2 S1 =>
      bd (f_X3_stepsOn E n S1 h0 x5 x2 x3) fun v4 S3 =>
      bd (f_X8_roundedUp E n S3 v2 (v4 + (1 : Int32))) fun v6 S5 =>
      if x1 < v6 then
        lt (x5 + (1 : Int32)) fun y7 =>
        f_X3_openPaths_L6 E n  m S5 h0 x1 x2 x3 x4 y7
      else
        lt (x4 ||| ((1 : Int32) <<< (x5 &&& 31))) fun y8 =>
        lt (x5 + (1 : Int32)) fun y9 =>
        f_X3_openPaths_L6 E n  m S5 h0 x1 x2 x3 y8 y9
def f_X3_openPaths (E : EN) (n : Nat) (S : WS) (h0 : Nat) (x1 : Int32) (x2 : Int32) (x3 : Int32) : Option (Int32 × WS) :=
  f_X3_openPaths_L6 E n  n S h0 x1 x2 x3 (0 : Int32) (0 : Int32)
def f_X3_reachOf (E : EN) (n : Nat) (S : WS) (h0 : Nat) (x1 : Int32) (x2 : Int32) (x3 : Int32) : Option (Int32 × WS) :=
  (gr S 146 h0).bind fun b1 =>
  if x1 < 0 ∨ eN E b1 ≤ x1.toNatClampNeg then none else
  (gr S 145 h0).bind fun b2 =>
  if x1 < 0 ∨ eN E b2 ≤ x1.toNatClampNeg then none else
  bd (f_X3_openPaths E n S h0 (ai S b2 x1.toNatClampNeg) x2 x3) fun v4 S3 =>
  bd (f_X3_placesFrom E n S3 h0 (ai S b1 x1.toNatClampNeg) v4) fun v6 S5 =>
  some (v6, S5)
