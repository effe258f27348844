/-! WHAT EACH METHOD COMPUTES, by program (wip/whole/gen.py) out of the decode rows -/
def f_X5_addsOf_L15 (E : EN) (n : Nat)  : Nat → WS → Nat → Nat → Nat → Int32 → Int64 → Int32 → Option (Int64 × WS)
  | 0 => fun _ _ _ _ _ _ _ => none
  | m + 1 => fun S h0 h1 h2 x3 x4 x6 =>
    if (gi S 132 h1) ≤ x6 then
      some (x4, S)
    else
      bd (f_X3_isFor E n S h1 x3 x6) fun v2 S1 =>
      if v2 = 0 then
        lt (x6 + (1 : Int32)) fun y3 =>
        f_X5_addsOf_L15 E n  m S1 h0 h1 h2 x3 x4 y3
      else
        bd (f_A_addedBy E n S1 h2 h1 x3 x6) fun v5 S4 =>
        (gr S4 258 h0).bind fun b6 =>
        if (((x3 * (5 : Int32)) + x6) + (1 : Int32)) < 0 ∨ eN E b6 ≤ (((x3 * (5 : Int32)) + x6) + (1 : Int32)).toNatClampNeg then none else
        lt (wj S4 b6 (vp_updL (aj S4 b6) (((x3 * (5 : Int32)) + x6) + (1 : Int32)).toNatClampNeg v5)) fun S7 =>
        lt (x4 ||| v5) fun y8 =>
        lt (x6 + (1 : Int32)) fun y9 =>
        f_X5_addsOf_L15 E n  m S7 h0 h1 h2 x3 y8 y9
def f_X5_addsOf (E : EN) (n : Nat) (S : WS) (h0 : Nat) (h1 : Nat) (h2 : Nat) (x3 : Int32) : Option (Int64 × WS) :=
  (gr S 258 h0).bind fun b1 =>
  if (x3 * (5 : Int32)) < 0 ∨ eN E b1 ≤ (x3 * (5 : Int32)).toNatClampNeg then none else
  lt (wj S b1 (vp_updL (aj S b1) (x3 * (5 : Int32)).toNatClampNeg (0 : Int64))) fun S2 =>
  f_X5_addsOf_L15 E n  n S2 h0 h1 h2 x3 (0 : Int64) (0 : Int32)
def f_X5_chooseOn_L57 (E : EN) (n : Nat) (rc : WS → Nat → Nat → Int32 → Int64 → Int32 → Int32 → Option (Unit × WS))  : Nat → WS → Nat → Nat → Int32 → Int64 → Int32 → Int32 → Int32 → Option (Unit × WS)
  | 0 => fun _ _ _ _ _ _ _ _ => none
  | m + 1 => fun S h0 h1 x2 x3 x5 x6 x8 =>
    if (5 : Int32) ≤ x8 then
      some ((), S)
    else
      (gr S 257 h0).bind fun b1 =>
      if x2 < 0 ∨ eN E b1 ≤ x2.toNatClampNeg then none else
      if (((ai S b1 x2.toNatClampNeg) >>> (x8 &&& 31)) &&& (1 : Int32)) = (1 : Int32) then
        (gr S 261 h0).bind fun b3 =>
        if x2 < 0 ∨ eN E b3 ≤ x2.toNatClampNeg then none else
        lt (wi S b3 (upd (ai S b3) x2.toNatClampNeg x8)) fun S4 =>
        (gr S4 258 h0).bind fun b5 =>
        if ((x2 * (5 : Int32)) + x8) < 0 ∨ eN E b5 ≤ ((x2 * (5 : Int32)) + x8).toNatClampNeg then none else
        lt (x3 + (aj S4 b5 ((x2 * (5 : Int32)) + x8).toNatClampNeg)) fun y6 =>
        if x8 = 0 then
          bd (rc S4 h0 h1 (x2 + (1 : Int32)) y6 x5 x6) fun v11 S10 =>
          lt (x8 + (1 : Int32)) fun y12 =>
          f_X5_chooseOn_L57 E n rc  m S10 h0 h1 x2 x3 x5 x6 y12
        else
          bd (rc S4 h0 h1 (x2 + (1 : Int32)) y6 (x5 ||| ((1 : Int32) <<< (x8 &&& 31))) (x6 + (1 : Int32))) fun v8 S7 =>
          lt (x8 + (1 : Int32)) fun y9 =>
          f_X5_chooseOn_L57 E n rc  m S7 h0 h1 x2 x3 x5 x6 y9
      else
        lt (x8 + (1 : Int32)) fun y2 =>
        f_X5_chooseOn_L57 E n rc  m S h0 h1 x2 x3 x5 x6 y2
def f_X5_chooseOn (E : EN) (n : Nat) : Nat → WS → Nat → Nat → Int32 → Int64 → Int32 → Int32 → Option (Unit × WS)
  | 0 => fun _ _ _ _ _ _ _ => none
  | d + 1 => fun S h0 h1 x2 x3 x5 x6 =>
    if x2 ≤ (gi S 256 h0) then
      (gr S 259 h0).bind fun b1 =>
      if x2 < 0 ∨ eN E b1 ≤ x2.toNatClampNeg then none else
      bd (f_A_judge E n S h1 x3 (x3 + (aj S b1 x2.toNatClampNeg))) fun v3 S2 =>
      if v3 = (1 : Int32) then
        bd (f_X5_noteAll E n S2 h0 x2 x5 x6) fun v5 S4 =>
        if v3 = (2 : Int32) then
          if x2 = (gi S4 256 h0) then
            some ((), S4)
          else
            f_X5_chooseOn_L57 E n (f_X5_chooseOn E n d)  n S4 h0 h1 x2 x3 x5 x6 (0 : Int32)
        else
          some ((), S4)
      else
        if v3 = (2 : Int32) then
          if x2 = (gi S2 256 h0) then
            some ((), S2)
          else
            f_X5_chooseOn_L57 E n (f_X5_chooseOn E n d)  n S2 h0 h1 x2 x3 x5 x6 (0 : Int32)
        else
          some ((), S2)
    else
      some ((), S)
def f_X5_seek_L66 (E : EN) (n : Nat)  : Nat → WS → Nat → Nat → Nat → Int32 → Option (Unit × WS)
  | 0 => fun _ _ _ _ _ => none
  | m + 1 => fun S h0 h1 h2 x3 =>
    if x3 < 0 then
      bd (f_X5_chooseOn E n 12 S h0 h2 (0 : Int32) (0 : Int64) (0 : Int32) (0 : Int32)) fun v2 S1 =>
      some ((), S1)
    else
      (gr S 257 h0).bind fun b3 =>
      (gr S 142 h1).bind fun b4 =>
      if x3 < 0 ∨ eN E b4 ≤ x3.toNatClampNeg then none else
      if x3 < 0 ∨ eN E b3 ≤ x3.toNatClampNeg then none else
      lt (wi S b3 (upd (ai S b3) x3.toNatClampNeg (((ai S b4 x3.toNatClampNeg) <<< ((1 : Int32) &&& 31)) ||| (1 : Int32)))) fun S5 =>
      (gr S5 259 h0).bind fun b6 =>
      (gr S5 259 h0).bind fun b7 =>
      if (x3 + (1 : Int32)) < 0 ∨ eN E b7 ≤ (x3 + (1 : Int32)).toNatClampNeg then none else
      bd (f_X5_addsOf E n S5 h0 h1 h2 x3) fun v9 S8 =>
      if x3 < 0 ∨ eN E b6 ≤ x3.toNatClampNeg then none else
      lt (wj S8 b6 (vp_updL (aj S8 b6) x3.toNatClampNeg ((aj S5 b7 (x3 + (1 : Int32)).toNatClampNeg) + v9))) fun S10 =>
      (gr S10 260 h0).bind fun b11 =>
      (gr S10 260 h0).bind fun b12 =>
      if (x3 + (1 : Int32)) < 0 ∨ eN E b12 ≤ (x3 + (1 : Int32)).toNatClampNeg then none else
      (gr S10 257 h0).bind fun b13 =>
      if x3 < 0 ∨ eN E b13 ≤ x3.toNatClampNeg then none else
      bd (f_J6_bitCount_0f7a4 E n S10 (ai S10 b13 x3.toNatClampNeg)) fun v15 S14 =>
      if x3 < 0 ∨ eN E b11 ≤ x3.toNatClampNeg then none else
      lt (wi S14 b11 (upd (ai S14 b11) x3.toNatClampNeg ((ai S10 b12 (x3 + (1 : Int32)).toNatClampNeg) * v15))) fun S16 =>
      lt (x3 + (-1 : Int32)) fun y17 =>
      f_X5_seek_L66 E n  m S16 h0 h1 h2 y17
def f_X5_seek (E : EN) (n : Nat) (S : WS) (h0 : Nat) (h1 : Nat) (h2 : Nat) : Option (Unit × WS) :=
  lt (si S 256 h0 (gi S 133 h1)) fun S1 =>
  lt (si S1 262 h0 (0 : Int32)) fun S2 =>
  lt (si S2 263 h0 (-1 : Int32)) fun S3 =>
  lt (si S3 264 h0 (-1 : Int32)) fun S4 =>
  (gr S4 265 h0).bind fun b5 =>
  bd (f_J7_fill_53178 E n S4 b5 (-1 : Int32)) fun v7 S6 =>
  (gr S6 266 h0).bind fun b8 =>
  bd (f_J7_fill_53178 E n S6 b8 (0 : Int32)) fun v10 S9 =>
  (gr S9 259 h0).bind fun b11 =>
  if (gi S9 256 h0) < 0 ∨ eN E b11 ≤ (gi S9 256 h0).toNatClampNeg then none else
  lt (wj S9 b11 (vp_updL (aj S9 b11) (gi S9 256 h0).toNatClampNeg (0 : Int64))) fun S12 =>
  (gr S12 260 h0).bind fun b13 =>
  if (gi S12 256 h0) < 0 ∨ eN E b13 ≤ (gi S12 256 h0).toNatClampNeg then none else
  lt (wi S12 b13 (upd (ai S12 b13) (gi S12 256 h0).toNatClampNeg (1 : Int32))) fun S14 =>
  lt ((gi S14 256 h0) - (1 : Int32)) fun y15 =>
  f_X5_seek_L66 E n  n S14 h0 h1 h2 y15
def f_X8_searchComing (E : EN) (n : Nat) (S : WS) (h0 : Nat) (x1 : Int32) (x2 : Int32) (x3 : Int32) (x4 : Int32) : Option (Unit × WS) :=
  (gr S 458 h0).bind fun b1 =>
  (gr S 451 h0).bind fun b2 =>
  bd (f_X0_aimAt E n S b1 b2 x1 x2 x3 x4) fun v4 S3 =>
  (gr S3 457 h0).bind fun b5 =>
  (gr S3 451 h0).bind fun b6 =>
  (gr S3 458 h0).bind fun b7 =>
  bd (f_X5_seek E n S3 b5 b6 b7) fun v9 S8 =>
  some ((), S8)
def f_X8_fewest (E : EN) (n : Nat) (S : WS) (h0 : Nat) (x1 : Int32) (x2 : Int32) (x3 : Int32) : Option (Int32 × WS) :=
  bd (f_X8_knowsWay E n S h0 x1 x2 x3) fun v2 S1 =>
  if v2 = 0 then
    some ((-2 : Int32), S1)
  else
    bd (f_X8_searchComing E n S1 h0 x1 (x1 + (1 : Int32)) x2 x3) fun v4 S3 =>
    (gr S3 457 h0).bind fun b5 =>
    some ((gi S3 263 b5), S3)
def f_X8_whom (E : EN) (n : Nat) (S : WS) (h0 : Nat) (x1 : Int32) (x2 : Int32) (x3 : Int32) (x4 : Int32) : Option (Int32 × WS) :=
  bd (f_X8_knowsWay E n S h0 x1 x2 x3) fun v2 S1 =>
  if v2 = 0 then
    some ((-2 : Int32), S1)
  else
    (gr S1 451 h0).bind fun b3 =>
    bd (f_X3_hasSuitor E n S1 b3 x4) fun v5 S4 =>
    if v5 = 0 then
      some ((-2 : Int32), S4)
    else
      bd (f_X8_searchComing E n S4 h0 x1 (x1 + (1 : Int32)) x2 x3) fun v7 S6 =>
      (gr S6 457 h0).bind fun b8 =>
      (gr S6 265 b8).bind fun b9 =>
      if x4 < 0 ∨ eN E b9 ≤ x4.toNatClampNeg then none else
      some ((ai S6 b9 x4.toNatClampNeg), S6)
def f_X8_all (E : EN) (n : Nat) (S : WS) (h0 : Nat) (x1 : Int32) (x2 : Int32) : Option (Int32 × WS) :=
  (gr S 451 h0).bind fun b1 =>
  bd (f_X3_hasPlace E n S b1 x1) fun v3 S2 =>
  if v3 = 0 then
    some ((-2 : Int32), S2)
  else
    (gr S2 451 h0).bind fun b4 =>
    bd (f_X3_hasYear E n S2 b4 x2) fun v6 S5 =>
    if v6 = 0 then
      some ((-2 : Int32), S5)
    else
      (gr S5 451 h0).bind fun b7 =>
      bd (f_X8_searchComing E n S5 h0 (0 : Int32) (gi S5 134 b7) x1 x2) fun v9 S8 =>
      (gr S8 457 h0).bind fun b10 =>
      some ((gi S8 263 b10), S8)
def f_X8_courtings (E : EN) (n : Nat) (S : WS) (h0 : Nat) (x1 : Int32) (x2 : Int32) (x3 : Int32) : Option (Int32 × WS) :=
  bd (f_X8_knowsWay E n S h0 x1 x2 x3) fun v2 S1 =>
  if v2 = 0 then
    some ((-2 : Int32), S1)
  else
    bd (f_X8_searchComing E n S1 h0 x1 (x1 + (1 : Int32)) x2 x3) fun v4 S3 =>
    (gr S3 457 h0).bind fun b5 =>
    some ((gi S3 262 b5), S3)
def f_X8_busy (E : EN) (n : Nat) (S : WS) (h0 : Nat) (x1 : Int32) (x2 : Int32) (x3 : Int32) : Option (Int32 × WS) :=
  bd (f_X8_knowsWay E n S h0 x1 x2 x3) fun v2 S1 =>
  if v2 = 0 then
    some ((-2 : Int32), S1)
  else
    bd (f_X8_searchComing E n S1 h0 x1 (x1 + (1 : Int32)) x2 x3) fun v4 S3 =>
    (gr S3 457 h0).bind fun b5 =>
    some ((gi S3 264 b5), S3)
def f_X8_searchAgreeing (E : EN) (n : Nat) (S : WS) (h0 : Nat) (x1 : Int32) : Option (Int32 × WS) :=
  bd (f_X8_slotAt E n S h0 x1) fun v2 S1 =>
  v2.elim (bd (f_X8_refusalOf_0 E n S1 h0) fun v5 S4 =>
  if v5 = 0 then
    some (v5, S4)
  else
    some (v5, S4)) (fun b3 => bd (f_X8_refusalOf E n S1 h0 b3) fun v7 S6 =>
  if v7 = 0 then
    (gr S6 459 h0).bind fun b8 =>
    (gr S6 451 h0).bind fun b9 =>
    bd (f_X2_takeOver E n S6 b8 b9 b3) fun v11 S10 =>
    (gr S10 457 h0).bind fun b12 =>
    (gr S10 451 h0).bind fun b13 =>
    (gr S10 459 h0).bind fun b14 =>
    bd (f_X5_seek E n S10 b12 b13 b14) fun v16 S15 =>
    some (v7, S15)
  else
    some (v7, S6))
def f_X8_agree (E : EN) (n : Nat) (S : WS) (h0 : Nat) (x1 : Int32) : Option (Int32 × WS) :=
  bd (f_X8_searchAgreeing E n S h0 x1) fun v2 S1 =>
  if v2 = 0 then
    (gr S1 457 h0).bind fun b3 =>
    some ((gi S1 262 b3), S1)
  else
    some (v2, S1)
def f_X8_sure (E : EN) (n : Nat) (S : WS) (h0 : Nat) (x1 : Int32) (x2 : Int32) : Option (Int32 × WS) :=
  (gr S 451 h0).bind fun b1 =>
  bd (f_X3_hasSuitor E n S b1 x2) fun v3 S2 =>
  if v3 = 0 then
    some ((-2 : Int32), S2)
  else
    bd (f_X8_searchAgreeing E n S2 h0 x1) fun v5 S4 =>
    if v5 = 0 then
      (gr S4 457 h0).bind fun b6 =>
      bd (f_X5_sameByAll E n S4 b6 x2) fun v8 S7 =>
      some (v8, S7)
    else
      some (v5, S4)
def f_X8_kindly (E : EN) (n : Nat) (S : WS) (h0 : Nat) (x1 : Int32) : Option (Int32 × WS) :=
  bd (f_X8_searchAgreeing E n S h0 x1) fun v2 S1 =>
  if v2 = 0 then
    (gr S1 457 h0).bind fun b3 =>
    some ((gi S1 263 b3), S1)
  else
    some (v2, S1)
