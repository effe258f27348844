def i_X4_init_2 (E : EN) (S : WS) : WS :=
  let S1 := zA S (eW E + 3)
  let S2 := sr S1 192 (eW E + 2) (some (eW E + 3))
  let S3 := si S2 193 (eW E + 2) (0 : Int32)
  let S4 := si S3 194 (eW E + 2) (0 : Int32)
  let S5 := si S4 195 (eW E + 2) (0 : Int32)
  let S6 := si S5 196 (eW E + 2) (0 : Int32)
  let S7 := si S6 197 (eW E + 2) (0 : Int32)
  let S8 := si S7 198 (eW E + 2) (0 : Int32)
  let S9 := si S8 199 (eW E + 2) (-1 : Int32)
  S9
theorem i_X4_init_2_low {E : EN} {S : WS} {f : Nat} {b : Nat} (h : b < eW E + 2) : gr (i_X4_init_2 E S) f b = gr S f b := by
  unfold i_X4_init_2
  dsimp only
  rw [gr_si, gr_si, gr_si, gr_si, gr_si, gr_si, gr_si, gr_sr_a (by omega), gr_zA (by omega)]
theorem i_X4_init_2_low_gi {E : EN} {S : WS} {f : Nat} {b : Nat} (h : b < eW E + 2) : gi (i_X4_init_2 E S) f b = gi S f b := by
  unfold i_X4_init_2
  dsimp only
  rw [gi_si_a (by omega), gi_si_a (by omega), gi_si_a (by omega), gi_si_a (by omega), gi_si_a (by omega), gi_si_a (by omega), gi_si_a (by omega), gi_sr, gi_zA (by omega)]
theorem i_X4_init_2_low_gj {E : EN} {S : WS} {f : Nat} {b : Nat} (h : b < eW E + 2) : gj (i_X4_init_2 E S) f b = gj S f b := by
  unfold i_X4_init_2
  dsimp only
  rw [gj_si, gj_si, gj_si, gj_si, gj_si, gj_si, gj_si, gj_sr, gj_zA (by omega)]
theorem i_X4_init_2_low_ai {E : EN} {S : WS} {b : Nat} (h : b < eW E + 2) : ai (i_X4_init_2 E S) b = ai S b := by
  unfold i_X4_init_2
  dsimp only
  rw [ai_si, ai_si, ai_si, ai_si, ai_si, ai_si, ai_si, ai_sr, ai_zA_a (by omega)]
theorem i_X4_init_2_low_aj {E : EN} {S : WS} {b : Nat} (h : b < eW E + 2) : aj (i_X4_init_2 E S) b = aj S b := by
  unfold i_X4_init_2
  dsimp only
  rw [aj_si, aj_si, aj_si, aj_si, aj_si, aj_si, aj_si, aj_sr, aj_zA_a (by omega)]
theorem i_X4_init_2_low_ar {E : EN} {S : WS} {b : Nat} (h : b < eW E + 2) : ar (i_X4_init_2 E S) b = ar S b := by
  unfold i_X4_init_2
  dsimp only
  rw [ar_si, ar_si, ar_si, ar_si, ar_si, ar_si, ar_si, ar_sr, ar_zA_a (by omega)]
def i_X3_init_4 (E : EN) (S : WS) : WS :=
  let S1 := zA S (eW E + 5)
  let S2 := sr S1 135 (eW E + 4) (some (eW E + 5))
  let S3 := zA S2 (eW E + 6)
  let S4 := sr S3 136 (eW E + 4) (some (eW E + 6))
  let S5 := zA S4 (eW E + 7)
  let S6 := sr S5 137 (eW E + 4) (some (eW E + 7))
  let S7 := zA S6 (eW E + 8)
  let S8 := sr S7 138 (eW E + 4) (some (eW E + 8))
  let S9 := zA S8 (eW E + 9)
  let S10 := sr S9 139 (eW E + 4) (some (eW E + 9))
  let S11 := zA S10 (eW E + 10)
  let S12 := sr S11 140 (eW E + 4) (some (eW E + 10))
  let S13 := zA S12 (eW E + 11)
  let S14 := sr S13 141 (eW E + 4) (some (eW E + 11))
  let S15 := zA S14 (eW E + 12)
  let S16 := sr S15 142 (eW E + 4) (some (eW E + 12))
  let S17 := zA S16 (eW E + 13)
  let S18 := sr S17 143 (eW E + 4) (some (eW E + 13))
  let S19 := zA S18 (eW E + 14)
  let S20 := sr S19 144 (eW E + 4) (some (eW E + 14))
  let S21 := zA S20 (eW E + 15)
  let S22 := sr S21 145 (eW E + 4) (some (eW E + 15))
  let S23 := zA S22 (eW E + 16)
  let S24 := sr S23 146 (eW E + 4) (some (eW E + 16))
  S24
theorem i_X3_init_4_low {E : EN} {S : WS} {f : Nat} {b : Nat} (h : b < eW E + 4) : gr (i_X3_init_4 E S) f b = gr S f b := by
  unfold i_X3_init_4
  dsimp only
  rw [gr_sr_a (by omega), gr_zA (by omega), gr_sr_a (by omega), gr_zA (by omega), gr_sr_a (by omega), gr_zA (by omega), gr_sr_a (by omega), gr_zA (by omega), gr_sr_a (by omega), gr_zA (by omega), gr_sr_a (by omega), gr_zA (by omega), gr_sr_a (by omega), gr_zA (by omega), gr_sr_a (by omega), gr_zA (by omega), gr_sr_a (by omega), gr_zA (by omega), gr_sr_a (by omega), gr_zA (by omega), gr_sr_a (by omega), gr_zA (by omega), gr_sr_a (by omega), gr_zA (by omega)]
theorem i_X3_init_4_low_gi {E : EN} {S : WS} {f : Nat} {b : Nat} (h : b < eW E + 4) : gi (i_X3_init_4 E S) f b = gi S f b := by
  unfold i_X3_init_4
  dsimp only
  rw [gi_sr, gi_zA (by omega), gi_sr, gi_zA (by omega), gi_sr, gi_zA (by omega), gi_sr, gi_zA (by omega), gi_sr, gi_zA (by omega), gi_sr, gi_zA (by omega), gi_sr, gi_zA (by omega), gi_sr, gi_zA (by omega), gi_sr, gi_zA (by omega), gi_sr, gi_zA (by omega), gi_sr, gi_zA (by omega), gi_sr, gi_zA (by omega)]
theorem i_X3_init_4_low_gj {E : EN} {S : WS} {f : Nat} {b : Nat} (h : b < eW E + 4) : gj (i_X3_init_4 E S) f b = gj S f b := by
  unfold i_X3_init_4
  dsimp only
  rw [gj_sr, gj_zA (by omega), gj_sr, gj_zA (by omega), gj_sr, gj_zA (by omega), gj_sr, gj_zA (by omega), gj_sr, gj_zA (by omega), gj_sr, gj_zA (by omega), gj_sr, gj_zA (by omega), gj_sr, gj_zA (by omega), gj_sr, gj_zA (by omega), gj_sr, gj_zA (by omega), gj_sr, gj_zA (by omega), gj_sr, gj_zA (by omega)]
theorem i_X3_init_4_low_ai {E : EN} {S : WS} {b : Nat} (h : b < eW E + 4) : ai (i_X3_init_4 E S) b = ai S b := by
  unfold i_X3_init_4
  dsimp only
  rw [ai_sr, ai_zA_a (by omega), ai_sr, ai_zA_a (by omega), ai_sr, ai_zA_a (by omega), ai_sr, ai_zA_a (by omega), ai_sr, ai_zA_a (by omega), ai_sr, ai_zA_a (by omega), ai_sr, ai_zA_a (by omega), ai_sr, ai_zA_a (by omega), ai_sr, ai_zA_a (by omega), ai_sr, ai_zA_a (by omega), ai_sr, ai_zA_a (by omega), ai_sr, ai_zA_a (by omega)]
theorem i_X3_init_4_low_aj {E : EN} {S : WS} {b : Nat} (h : b < eW E + 4) : aj (i_X3_init_4 E S) b = aj S b := by
  unfold i_X3_init_4
  dsimp only
  rw [aj_sr, aj_zA_a (by omega), aj_sr, aj_zA_a (by omega), aj_sr, aj_zA_a (by omega), aj_sr, aj_zA_a (by omega), aj_sr, aj_zA_a (by omega), aj_sr, aj_zA_a (by omega), aj_sr, aj_zA_a (by omega), aj_sr, aj_zA_a (by omega), aj_sr, aj_zA_a (by omega), aj_sr, aj_zA_a (by omega), aj_sr, aj_zA_a (by omega), aj_sr, aj_zA_a (by omega)]
theorem i_X3_init_4_low_ar {E : EN} {S : WS} {b : Nat} (h : b < eW E + 4) : ar (i_X3_init_4 E S) b = ar S b := by
  unfold i_X3_init_4
  dsimp only
  rw [ar_sr, ar_zA_a (by omega), ar_sr, ar_zA_a (by omega), ar_sr, ar_zA_a (by omega), ar_sr, ar_zA_a (by omega), ar_sr, ar_zA_a (by omega), ar_sr, ar_zA_a (by omega), ar_sr, ar_zA_a (by omega), ar_sr, ar_zA_a (by omega), ar_sr, ar_zA_a (by omega), ar_sr, ar_zA_a (by omega), ar_sr, ar_zA_a (by omega), ar_sr, ar_zA_a (by omega)]
def i_X3_init_17 (E : EN) (S : WS) : WS :=
  let S1 := zA S (eW E + 18)
  let S2 := sr S1 135 (eW E + 17) (some (eW E + 18))
  let S3 := zA S2 (eW E + 19)
  let S4 := sr S3 136 (eW E + 17) (some (eW E + 19))
  let S5 := zA S4 (eW E + 20)
  let S6 := sr S5 137 (eW E + 17) (some (eW E + 20))
  let S7 := zA S6 (eW E + 21)
  let S8 := sr S7 138 (eW E + 17) (some (eW E + 21))
  let S9 := zA S8 (eW E + 22)
  let S10 := sr S9 139 (eW E + 17) (some (eW E + 22))
  let S11 := zA S10 (eW E + 23)
  let S12 := sr S11 140 (eW E + 17) (some (eW E + 23))
  let S13 := zA S12 (eW E + 24)
  let S14 := sr S13 141 (eW E + 17) (some (eW E + 24))
  let S15 := zA S14 (eW E + 25)
  let S16 := sr S15 142 (eW E + 17) (some (eW E + 25))
  let S17 := zA S16 (eW E + 26)
  let S18 := sr S17 143 (eW E + 17) (some (eW E + 26))
  let S19 := zA S18 (eW E + 27)
  let S20 := sr S19 144 (eW E + 17) (some (eW E + 27))
  let S21 := zA S20 (eW E + 28)
  let S22 := sr S21 145 (eW E + 17) (some (eW E + 28))
  let S23 := zA S22 (eW E + 29)
  let S24 := sr S23 146 (eW E + 17) (some (eW E + 29))
  S24
theorem i_X3_init_17_low {E : EN} {S : WS} {f : Nat} {b : Nat} (h : b < eW E + 17) : gr (i_X3_init_17 E S) f b = gr S f b := by
  unfold i_X3_init_17
  dsimp only
  rw [gr_sr_a (by omega), gr_zA (by omega), gr_sr_a (by omega), gr_zA (by omega), gr_sr_a (by omega), gr_zA (by omega), gr_sr_a (by omega), gr_zA (by omega), gr_sr_a (by omega), gr_zA (by omega), gr_sr_a (by omega), gr_zA (by omega), gr_sr_a (by omega), gr_zA (by omega), gr_sr_a (by omega), gr_zA (by omega), gr_sr_a (by omega), gr_zA (by omega), gr_sr_a (by omega), gr_zA (by omega), gr_sr_a (by omega), gr_zA (by omega), gr_sr_a (by omega), gr_zA (by omega)]
theorem i_X3_init_17_low_gi {E : EN} {S : WS} {f : Nat} {b : Nat} (h : b < eW E + 17) : gi (i_X3_init_17 E S) f b = gi S f b := by
  unfold i_X3_init_17
  dsimp only
  rw [gi_sr, gi_zA (by omega), gi_sr, gi_zA (by omega), gi_sr, gi_zA (by omega), gi_sr, gi_zA (by omega), gi_sr, gi_zA (by omega), gi_sr, gi_zA (by omega), gi_sr, gi_zA (by omega), gi_sr, gi_zA (by omega), gi_sr, gi_zA (by omega), gi_sr, gi_zA (by omega), gi_sr, gi_zA (by omega), gi_sr, gi_zA (by omega)]
theorem i_X3_init_17_low_gj {E : EN} {S : WS} {f : Nat} {b : Nat} (h : b < eW E + 17) : gj (i_X3_init_17 E S) f b = gj S f b := by
  unfold i_X3_init_17
  dsimp only
  rw [gj_sr, gj_zA (by omega), gj_sr, gj_zA (by omega), gj_sr, gj_zA (by omega), gj_sr, gj_zA (by omega), gj_sr, gj_zA (by omega), gj_sr, gj_zA (by omega), gj_sr, gj_zA (by omega), gj_sr, gj_zA (by omega), gj_sr, gj_zA (by omega), gj_sr, gj_zA (by omega), gj_sr, gj_zA (by omega), gj_sr, gj_zA (by omega)]
theorem i_X3_init_17_low_ai {E : EN} {S : WS} {b : Nat} (h : b < eW E + 17) : ai (i_X3_init_17 E S) b = ai S b := by
  unfold i_X3_init_17
  dsimp only
  rw [ai_sr, ai_zA_a (by omega), ai_sr, ai_zA_a (by omega), ai_sr, ai_zA_a (by omega), ai_sr, ai_zA_a (by omega), ai_sr, ai_zA_a (by omega), ai_sr, ai_zA_a (by omega), ai_sr, ai_zA_a (by omega), ai_sr, ai_zA_a (by omega), ai_sr, ai_zA_a (by omega), ai_sr, ai_zA_a (by omega), ai_sr, ai_zA_a (by omega), ai_sr, ai_zA_a (by omega)]
theorem i_X3_init_17_low_aj {E : EN} {S : WS} {b : Nat} (h : b < eW E + 17) : aj (i_X3_init_17 E S) b = aj S b := by
  unfold i_X3_init_17
  dsimp only
  rw [aj_sr, aj_zA_a (by omega), aj_sr, aj_zA_a (by omega), aj_sr, aj_zA_a (by omega), aj_sr, aj_zA_a (by omega), aj_sr, aj_zA_a (by omega), aj_sr, aj_zA_a (by omega), aj_sr, aj_zA_a (by omega), aj_sr, aj_zA_a (by omega), aj_sr, aj_zA_a (by omega), aj_sr, aj_zA_a (by omega), aj_sr, aj_zA_a (by omega), aj_sr, aj_zA_a (by omega)]
theorem i_X3_init_17_low_ar {E : EN} {S : WS} {b : Nat} (h : b < eW E + 17) : ar (i_X3_init_17 E S) b = ar S b := by
  unfold i_X3_init_17
  dsimp only
  rw [ar_sr, ar_zA_a (by omega), ar_sr, ar_zA_a (by omega), ar_sr, ar_zA_a (by omega), ar_sr, ar_zA_a (by omega), ar_sr, ar_zA_a (by omega), ar_sr, ar_zA_a (by omega), ar_sr, ar_zA_a (by omega), ar_sr, ar_zA_a (by omega), ar_sr, ar_zA_a (by omega), ar_sr, ar_zA_a (by omega), ar_sr, ar_zA_a (by omega), ar_sr, ar_zA_a (by omega)]
def i_X3_init_34 (E : EN) (S : WS) : WS :=
  let S1 := zA S (eW E + 35)
  let S2 := sr S1 135 (eW E + 34) (some (eW E + 35))
  let S3 := zA S2 (eW E + 36)
  let S4 := sr S3 136 (eW E + 34) (some (eW E + 36))
  let S5 := zA S4 (eW E + 37)
  let S6 := sr S5 137 (eW E + 34) (some (eW E + 37))
  let S7 := zA S6 (eW E + 38)
  let S8 := sr S7 138 (eW E + 34) (some (eW E + 38))
  let S9 := zA S8 (eW E + 39)
  let S10 := sr S9 139 (eW E + 34) (some (eW E + 39))
  let S11 := zA S10 (eW E + 40)
  let S12 := sr S11 140 (eW E + 34) (some (eW E + 40))
  let S13 := zA S12 (eW E + 41)
  let S14 := sr S13 141 (eW E + 34) (some (eW E + 41))
  let S15 := zA S14 (eW E + 42)
  let S16 := sr S15 142 (eW E + 34) (some (eW E + 42))
  let S17 := zA S16 (eW E + 43)
  let S18 := sr S17 143 (eW E + 34) (some (eW E + 43))
  let S19 := zA S18 (eW E + 44)
  let S20 := sr S19 144 (eW E + 34) (some (eW E + 44))
  let S21 := zA S20 (eW E + 45)
  let S22 := sr S21 145 (eW E + 34) (some (eW E + 45))
  let S23 := zA S22 (eW E + 46)
  let S24 := sr S23 146 (eW E + 34) (some (eW E + 46))
  S24
theorem i_X3_init_34_low {E : EN} {S : WS} {f : Nat} {b : Nat} (h : b < eW E + 34) : gr (i_X3_init_34 E S) f b = gr S f b := by
  unfold i_X3_init_34
  dsimp only
  rw [gr_sr_a (by omega), gr_zA (by omega), gr_sr_a (by omega), gr_zA (by omega), gr_sr_a (by omega), gr_zA (by omega), gr_sr_a (by omega), gr_zA (by omega), gr_sr_a (by omega), gr_zA (by omega), gr_sr_a (by omega), gr_zA (by omega), gr_sr_a (by omega), gr_zA (by omega), gr_sr_a (by omega), gr_zA (by omega), gr_sr_a (by omega), gr_zA (by omega), gr_sr_a (by omega), gr_zA (by omega), gr_sr_a (by omega), gr_zA (by omega), gr_sr_a (by omega), gr_zA (by omega)]
theorem i_X3_init_34_low_gi {E : EN} {S : WS} {f : Nat} {b : Nat} (h : b < eW E + 34) : gi (i_X3_init_34 E S) f b = gi S f b := by
  unfold i_X3_init_34
  dsimp only
  rw [gi_sr, gi_zA (by omega), gi_sr, gi_zA (by omega), gi_sr, gi_zA (by omega), gi_sr, gi_zA (by omega), gi_sr, gi_zA (by omega), gi_sr, gi_zA (by omega), gi_sr, gi_zA (by omega), gi_sr, gi_zA (by omega), gi_sr, gi_zA (by omega), gi_sr, gi_zA (by omega), gi_sr, gi_zA (by omega), gi_sr, gi_zA (by omega)]
theorem i_X3_init_34_low_gj {E : EN} {S : WS} {f : Nat} {b : Nat} (h : b < eW E + 34) : gj (i_X3_init_34 E S) f b = gj S f b := by
  unfold i_X3_init_34
  dsimp only
  rw [gj_sr, gj_zA (by omega), gj_sr, gj_zA (by omega), gj_sr, gj_zA (by omega), gj_sr, gj_zA (by omega), gj_sr, gj_zA (by omega), gj_sr, gj_zA (by omega), gj_sr, gj_zA (by omega), gj_sr, gj_zA (by omega), gj_sr, gj_zA (by omega), gj_sr, gj_zA (by omega), gj_sr, gj_zA (by omega), gj_sr, gj_zA (by omega)]
theorem i_X3_init_34_low_ai {E : EN} {S : WS} {b : Nat} (h : b < eW E + 34) : ai (i_X3_init_34 E S) b = ai S b := by
  unfold i_X3_init_34
  dsimp only
  rw [ai_sr, ai_zA_a (by omega), ai_sr, ai_zA_a (by omega), ai_sr, ai_zA_a (by omega), ai_sr, ai_zA_a (by omega), ai_sr, ai_zA_a (by omega), ai_sr, ai_zA_a (by omega), ai_sr, ai_zA_a (by omega), ai_sr, ai_zA_a (by omega), ai_sr, ai_zA_a (by omega), ai_sr, ai_zA_a (by omega), ai_sr, ai_zA_a (by omega), ai_sr, ai_zA_a (by omega)]
theorem i_X3_init_34_low_aj {E : EN} {S : WS} {b : Nat} (h : b < eW E + 34) : aj (i_X3_init_34 E S) b = aj S b := by
  unfold i_X3_init_34
  dsimp only
  rw [aj_sr, aj_zA_a (by omega), aj_sr, aj_zA_a (by omega), aj_sr, aj_zA_a (by omega), aj_sr, aj_zA_a (by omega), aj_sr, aj_zA_a (by omega), aj_sr, aj_zA_a (by omega), aj_sr, aj_zA_a (by omega), aj_sr, aj_zA_a (by omega), aj_sr, aj_zA_a (by omega), aj_sr, aj_zA_a (by omega), aj_sr, aj_zA_a (by omega), aj_sr, aj_zA_a (by omega)]
theorem i_X3_init_34_low_ar {E : EN} {S : WS} {b : Nat} (h : b < eW E + 34) : ar (i_X3_init_34 E S) b = ar S b := by
  unfold i_X3_init_34
  dsimp only
  rw [ar_sr, ar_zA_a (by omega), ar_sr, ar_zA_a (by omega), ar_sr, ar_zA_a (by omega), ar_sr, ar_zA_a (by omega), ar_sr, ar_zA_a (by omega), ar_sr, ar_zA_a (by omega), ar_sr, ar_zA_a (by omega), ar_sr, ar_zA_a (by omega), ar_sr, ar_zA_a (by omega), ar_sr, ar_zA_a (by omega), ar_sr, ar_zA_a (by omega), ar_sr, ar_zA_a (by omega)]
def i_X7_init_33 (E : EN) (S : WS) : WS :=
  let S1 := zA S (eW E + 34)
  let S2 := i_X3_init_34 E S1
  let S3 := sr S2 384 (eW E + 33) (some (eW E + 34))
  let S4 := zA S3 (eW E + 47)
  let S5 := sr S4 388 (eW E + 33) (some (eW E + 47))
  let S6 := zA S5 (eW E + 48)
  let S7 := sr S6 391 (eW E + 33) (some (eW E + 48))
  let S8 := zA S7 (eW E + 49)
  let S9 := sr S8 394 (eW E + 33) (some (eW E + 49))
  S9
theorem i_X7_init_33_low {E : EN} {S : WS} {f : Nat} {b : Nat} (h : b < eW E + 33) : gr (i_X7_init_33 E S) f b = gr S f b := by
  unfold i_X7_init_33
  dsimp only
  rw [gr_sr_a (by omega), gr_zA (by omega), gr_sr_a (by omega), gr_zA (by omega), gr_sr_a (by omega), gr_zA (by omega), gr_sr_a (by omega), i_X3_init_34_low (by omega), gr_zA (by omega)]
theorem i_X7_init_33_low_gi {E : EN} {S : WS} {f : Nat} {b : Nat} (h : b < eW E + 33) : gi (i_X7_init_33 E S) f b = gi S f b := by
  unfold i_X7_init_33
  dsimp only
  rw [gi_sr, gi_zA (by omega), gi_sr, gi_zA (by omega), gi_sr, gi_zA (by omega), gi_sr, i_X3_init_34_low_gi (by omega), gi_zA (by omega)]
theorem i_X7_init_33_low_gj {E : EN} {S : WS} {f : Nat} {b : Nat} (h : b < eW E + 33) : gj (i_X7_init_33 E S) f b = gj S f b := by
  unfold i_X7_init_33
  dsimp only
  rw [gj_sr, gj_zA (by omega), gj_sr, gj_zA (by omega), gj_sr, gj_zA (by omega), gj_sr, i_X3_init_34_low_gj (by omega), gj_zA (by omega)]
theorem i_X7_init_33_low_ai {E : EN} {S : WS} {b : Nat} (h : b < eW E + 33) : ai (i_X7_init_33 E S) b = ai S b := by
  unfold i_X7_init_33
  dsimp only
  rw [ai_sr, ai_zA_a (by omega), ai_sr, ai_zA_a (by omega), ai_sr, ai_zA_a (by omega), ai_sr, i_X3_init_34_low_ai (by omega), ai_zA_a (by omega)]
theorem i_X7_init_33_low_aj {E : EN} {S : WS} {b : Nat} (h : b < eW E + 33) : aj (i_X7_init_33 E S) b = aj S b := by
  unfold i_X7_init_33
  dsimp only
  rw [aj_sr, aj_zA_a (by omega), aj_sr, aj_zA_a (by omega), aj_sr, aj_zA_a (by omega), aj_sr, i_X3_init_34_low_aj (by omega), aj_zA_a (by omega)]
theorem i_X7_init_33_low_ar {E : EN} {S : WS} {b : Nat} (h : b < eW E + 33) : ar (i_X7_init_33 E S) b = ar S b := by
  unfold i_X7_init_33
  dsimp only
  rw [ar_sr, ar_zA_a (by omega), ar_sr, ar_zA_a (by omega), ar_sr, ar_zA_a (by omega), ar_sr, i_X3_init_34_low_ar (by omega), ar_zA_a (by omega)]
def i_X5_init_50 (E : EN) (S : WS) : WS :=
  let S1 := zA S (eW E + 51)
  let S2 := sr S1 257 (eW E + 50) (some (eW E + 51))
  let S3 := zA S2 (eW E + 52)
  let S4 := sr S3 258 (eW E + 50) (some (eW E + 52))
  let S5 := zA S4 (eW E + 53)
  let S6 := sr S5 259 (eW E + 50) (some (eW E + 53))
  let S7 := zA S6 (eW E + 54)
  let S8 := sr S7 260 (eW E + 50) (some (eW E + 54))
  let S9 := zA S8 (eW E + 55)
  let S10 := sr S9 261 (eW E + 50) (some (eW E + 55))
  let S11 := zA S10 (eW E + 56)
  let S12 := sr S11 265 (eW E + 50) (some (eW E + 56))
  let S13 := zA S12 (eW E + 57)
  let S14 := sr S13 266 (eW E + 50) (some (eW E + 57))
  S14
theorem i_X5_init_50_low {E : EN} {S : WS} {f : Nat} {b : Nat} (h : b < eW E + 50) : gr (i_X5_init_50 E S) f b = gr S f b := by
  unfold i_X5_init_50
  dsimp only
  rw [gr_sr_a (by omega), gr_zA (by omega), gr_sr_a (by omega), gr_zA (by omega), gr_sr_a (by omega), gr_zA (by omega), gr_sr_a (by omega), gr_zA (by omega), gr_sr_a (by omega), gr_zA (by omega), gr_sr_a (by omega), gr_zA (by omega), gr_sr_a (by omega), gr_zA (by omega)]
theorem i_X5_init_50_low_gi {E : EN} {S : WS} {f : Nat} {b : Nat} (h : b < eW E + 50) : gi (i_X5_init_50 E S) f b = gi S f b := by
  unfold i_X5_init_50
  dsimp only
  rw [gi_sr, gi_zA (by omega), gi_sr, gi_zA (by omega), gi_sr, gi_zA (by omega), gi_sr, gi_zA (by omega), gi_sr, gi_zA (by omega), gi_sr, gi_zA (by omega), gi_sr, gi_zA (by omega)]
theorem i_X5_init_50_low_gj {E : EN} {S : WS} {f : Nat} {b : Nat} (h : b < eW E + 50) : gj (i_X5_init_50 E S) f b = gj S f b := by
  unfold i_X5_init_50
  dsimp only
  rw [gj_sr, gj_zA (by omega), gj_sr, gj_zA (by omega), gj_sr, gj_zA (by omega), gj_sr, gj_zA (by omega), gj_sr, gj_zA (by omega), gj_sr, gj_zA (by omega), gj_sr, gj_zA (by omega)]
theorem i_X5_init_50_low_ai {E : EN} {S : WS} {b : Nat} (h : b < eW E + 50) : ai (i_X5_init_50 E S) b = ai S b := by
  unfold i_X5_init_50
  dsimp only
  rw [ai_sr, ai_zA_a (by omega), ai_sr, ai_zA_a (by omega), ai_sr, ai_zA_a (by omega), ai_sr, ai_zA_a (by omega), ai_sr, ai_zA_a (by omega), ai_sr, ai_zA_a (by omega), ai_sr, ai_zA_a (by omega)]
theorem i_X5_init_50_low_aj {E : EN} {S : WS} {b : Nat} (h : b < eW E + 50) : aj (i_X5_init_50 E S) b = aj S b := by
  unfold i_X5_init_50
  dsimp only
  rw [aj_sr, aj_zA_a (by omega), aj_sr, aj_zA_a (by omega), aj_sr, aj_zA_a (by omega), aj_sr, aj_zA_a (by omega), aj_sr, aj_zA_a (by omega), aj_sr, aj_zA_a (by omega), aj_sr, aj_zA_a (by omega)]
theorem i_X5_init_50_low_ar {E : EN} {S : WS} {b : Nat} (h : b < eW E + 50) : ar (i_X5_init_50 E S) b = ar S b := by
  unfold i_X5_init_50
  dsimp only
  rw [ar_sr, ar_zA_a (by omega), ar_sr, ar_zA_a (by omega), ar_sr, ar_zA_a (by omega), ar_sr, ar_zA_a (by omega), ar_sr, ar_zA_a (by omega), ar_sr, ar_zA_a (by omega), ar_sr, ar_zA_a (by omega)]
def i_X1_init_58 (E : EN) (S : WS) : WS :=

  S
theorem i_X1_init_58_low {E : EN} {S : WS} {f : Nat} {b : Nat} (h : b < eW E + 58) : gr (i_X1_init_58 E S) f b = gr S f b := by
  unfold i_X1_init_58
  dsimp only
  rw []
theorem i_X1_init_58_low_gi {E : EN} {S : WS} {f : Nat} {b : Nat} (h : b < eW E + 58) : gi (i_X1_init_58 E S) f b = gi S f b := by
  unfold i_X1_init_58
  dsimp only
  rw []
theorem i_X1_init_58_low_gj {E : EN} {S : WS} {f : Nat} {b : Nat} (h : b < eW E + 58) : gj (i_X1_init_58 E S) f b = gj S f b := by
  unfold i_X1_init_58
  dsimp only
  rw []
theorem i_X1_init_58_low_ai {E : EN} {S : WS} {b : Nat} (h : b < eW E + 58) : ai (i_X1_init_58 E S) b = ai S b := by
  unfold i_X1_init_58
  dsimp only
  rw []
theorem i_X1_init_58_low_aj {E : EN} {S : WS} {b : Nat} (h : b < eW E + 58) : aj (i_X1_init_58 E S) b = aj S b := by
  unfold i_X1_init_58
  dsimp only
  rw []
theorem i_X1_init_58_low_ar {E : EN} {S : WS} {b : Nat} (h : b < eW E + 58) : ar (i_X1_init_58 E S) b = ar S b := by
  unfold i_X1_init_58
  dsimp only
  rw []
def i_X3_init_59 (E : EN) (S : WS) : WS :=
  let S1 := zA S (eW E + 60)
  let S2 := sr S1 135 (eW E + 59) (some (eW E + 60))
  let S3 := zA S2 (eW E + 61)
  let S4 := sr S3 136 (eW E + 59) (some (eW E + 61))
  let S5 := zA S4 (eW E + 62)
  let S6 := sr S5 137 (eW E + 59) (some (eW E + 62))
  let S7 := zA S6 (eW E + 63)
  let S8 := sr S7 138 (eW E + 59) (some (eW E + 63))
  let S9 := zA S8 (eW E + 64)
  let S10 := sr S9 139 (eW E + 59) (some (eW E + 64))
  let S11 := zA S10 (eW E + 65)
  let S12 := sr S11 140 (eW E + 59) (some (eW E + 65))
  let S13 := zA S12 (eW E + 66)
  let S14 := sr S13 141 (eW E + 59) (some (eW E + 66))
  let S15 := zA S14 (eW E + 67)
  let S16 := sr S15 142 (eW E + 59) (some (eW E + 67))
  let S17 := zA S16 (eW E + 68)
  let S18 := sr S17 143 (eW E + 59) (some (eW E + 68))
  let S19 := zA S18 (eW E + 69)
  let S20 := sr S19 144 (eW E + 59) (some (eW E + 69))
  let S21 := zA S20 (eW E + 70)
  let S22 := sr S21 145 (eW E + 59) (some (eW E + 70))
  let S23 := zA S22 (eW E + 71)
  let S24 := sr S23 146 (eW E + 59) (some (eW E + 71))
  S24
theorem i_X3_init_59_low {E : EN} {S : WS} {f : Nat} {b : Nat} (h : b < eW E + 59) : gr (i_X3_init_59 E S) f b = gr S f b := by
  unfold i_X3_init_59
  dsimp only
  rw [gr_sr_a (by omega), gr_zA (by omega), gr_sr_a (by omega), gr_zA (by omega), gr_sr_a (by omega), gr_zA (by omega), gr_sr_a (by omega), gr_zA (by omega), gr_sr_a (by omega), gr_zA (by omega), gr_sr_a (by omega), gr_zA (by omega), gr_sr_a (by omega), gr_zA (by omega), gr_sr_a (by omega), gr_zA (by omega), gr_sr_a (by omega), gr_zA (by omega), gr_sr_a (by omega), gr_zA (by omega), gr_sr_a (by omega), gr_zA (by omega), gr_sr_a (by omega), gr_zA (by omega)]
theorem i_X3_init_59_low_gi {E : EN} {S : WS} {f : Nat} {b : Nat} (h : b < eW E + 59) : gi (i_X3_init_59 E S) f b = gi S f b := by
  unfold i_X3_init_59
  dsimp only
  rw [gi_sr, gi_zA (by omega), gi_sr, gi_zA (by omega), gi_sr, gi_zA (by omega), gi_sr, gi_zA (by omega), gi_sr, gi_zA (by omega), gi_sr, gi_zA (by omega), gi_sr, gi_zA (by omega), gi_sr, gi_zA (by omega), gi_sr, gi_zA (by omega), gi_sr, gi_zA (by omega), gi_sr, gi_zA (by omega), gi_sr, gi_zA (by omega)]
theorem i_X3_init_59_low_gj {E : EN} {S : WS} {f : Nat} {b : Nat} (h : b < eW E + 59) : gj (i_X3_init_59 E S) f b = gj S f b := by
  unfold i_X3_init_59
  dsimp only
  rw [gj_sr, gj_zA (by omega), gj_sr, gj_zA (by omega), gj_sr, gj_zA (by omega), gj_sr, gj_zA (by omega), gj_sr, gj_zA (by omega), gj_sr, gj_zA (by omega), gj_sr, gj_zA (by omega), gj_sr, gj_zA (by omega), gj_sr, gj_zA (by omega), gj_sr, gj_zA (by omega), gj_sr, gj_zA (by omega), gj_sr, gj_zA (by omega)]
theorem i_X3_init_59_low_ai {E : EN} {S : WS} {b : Nat} (h : b < eW E + 59) : ai (i_X3_init_59 E S) b = ai S b := by
  unfold i_X3_init_59
  dsimp only
  rw [ai_sr, ai_zA_a (by omega), ai_sr, ai_zA_a (by omega), ai_sr, ai_zA_a (by omega), ai_sr, ai_zA_a (by omega), ai_sr, ai_zA_a (by omega), ai_sr, ai_zA_a (by omega), ai_sr, ai_zA_a (by omega), ai_sr, ai_zA_a (by omega), ai_sr, ai_zA_a (by omega), ai_sr, ai_zA_a (by omega), ai_sr, ai_zA_a (by omega), ai_sr, ai_zA_a (by omega)]
theorem i_X3_init_59_low_aj {E : EN} {S : WS} {b : Nat} (h : b < eW E + 59) : aj (i_X3_init_59 E S) b = aj S b := by
  unfold i_X3_init_59
  dsimp only
  rw [aj_sr, aj_zA_a (by omega), aj_sr, aj_zA_a (by omega), aj_sr, aj_zA_a (by omega), aj_sr, aj_zA_a (by omega), aj_sr, aj_zA_a (by omega), aj_sr, aj_zA_a (by omega), aj_sr, aj_zA_a (by omega), aj_sr, aj_zA_a (by omega), aj_sr, aj_zA_a (by omega), aj_sr, aj_zA_a (by omega), aj_sr, aj_zA_a (by omega), aj_sr, aj_zA_a (by omega)]
theorem i_X3_init_59_low_ar {E : EN} {S : WS} {b : Nat} (h : b < eW E + 59) : ar (i_X3_init_59 E S) b = ar S b := by
  unfold i_X3_init_59
  dsimp only
  rw [ar_sr, ar_zA_a (by omega), ar_sr, ar_zA_a (by omega), ar_sr, ar_zA_a (by omega), ar_sr, ar_zA_a (by omega), ar_sr, ar_zA_a (by omega), ar_sr, ar_zA_a (by omega), ar_sr, ar_zA_a (by omega), ar_sr, ar_zA_a (by omega), ar_sr, ar_zA_a (by omega), ar_sr, ar_zA_a (by omega), ar_sr, ar_zA_a (by omega), ar_sr, ar_zA_a (by omega)]
def i_X0_init_58 (E : EN) (S : WS) : WS :=
  let S1 := i_X1_init_58 E S
  let S2 := zA S1 (eW E + 59)
  let S3 := i_X3_init_59 E S2
  let S4 := sr S3 0 (eW E + 58) (some (eW E + 59))
  let S5 := zA S4 (eW E + 72)
  let S6 := sr S5 5 (eW E + 58) (some (eW E + 72))
  let S7 := zA S6 (eW E + 73)
  let S8 := sr S7 6 (eW E + 58) (some (eW E + 73))
  S8
theorem i_X0_init_58_low {E : EN} {S : WS} {f : Nat} {b : Nat} (h : b < eW E + 58) : gr (i_X0_init_58 E S) f b = gr S f b := by
  unfold i_X0_init_58
  dsimp only
  rw [gr_sr_a (by omega), gr_zA (by omega), gr_sr_a (by omega), gr_zA (by omega), gr_sr_a (by omega), i_X3_init_59_low (by omega), gr_zA (by omega), i_X1_init_58_low (by omega)]
theorem i_X0_init_58_low_gi {E : EN} {S : WS} {f : Nat} {b : Nat} (h : b < eW E + 58) : gi (i_X0_init_58 E S) f b = gi S f b := by
  unfold i_X0_init_58
  dsimp only
  rw [gi_sr, gi_zA (by omega), gi_sr, gi_zA (by omega), gi_sr, i_X3_init_59_low_gi (by omega), gi_zA (by omega), i_X1_init_58_low_gi (by omega)]
theorem i_X0_init_58_low_gj {E : EN} {S : WS} {f : Nat} {b : Nat} (h : b < eW E + 58) : gj (i_X0_init_58 E S) f b = gj S f b := by
  unfold i_X0_init_58
  dsimp only
  rw [gj_sr, gj_zA (by omega), gj_sr, gj_zA (by omega), gj_sr, i_X3_init_59_low_gj (by omega), gj_zA (by omega), i_X1_init_58_low_gj (by omega)]
theorem i_X0_init_58_low_ai {E : EN} {S : WS} {b : Nat} (h : b < eW E + 58) : ai (i_X0_init_58 E S) b = ai S b := by
  unfold i_X0_init_58
  dsimp only
  rw [ai_sr, ai_zA_a (by omega), ai_sr, ai_zA_a (by omega), ai_sr, i_X3_init_59_low_ai (by omega), ai_zA_a (by omega), i_X1_init_58_low_ai (by omega)]
theorem i_X0_init_58_low_aj {E : EN} {S : WS} {b : Nat} (h : b < eW E + 58) : aj (i_X0_init_58 E S) b = aj S b := by
  unfold i_X0_init_58
  dsimp only
  rw [aj_sr, aj_zA_a (by omega), aj_sr, aj_zA_a (by omega), aj_sr, i_X3_init_59_low_aj (by omega), aj_zA_a (by omega), i_X1_init_58_low_aj (by omega)]
theorem i_X0_init_58_low_ar {E : EN} {S : WS} {b : Nat} (h : b < eW E + 58) : ar (i_X0_init_58 E S) b = ar S b := by
  unfold i_X0_init_58
  dsimp only
  rw [ar_sr, ar_zA_a (by omega), ar_sr, ar_zA_a (by omega), ar_sr, i_X3_init_59_low_ar (by omega), ar_zA_a (by omega), i_X1_init_58_low_ar (by omega)]
def i_X1_init_74 (E : EN) (S : WS) : WS :=

  S
theorem i_X1_init_74_low {E : EN} {S : WS} {f : Nat} {b : Nat} (h : b < eW E + 74) : gr (i_X1_init_74 E S) f b = gr S f b := by
  unfold i_X1_init_74
  dsimp only
  rw []
theorem i_X1_init_74_low_gi {E : EN} {S : WS} {f : Nat} {b : Nat} (h : b < eW E + 74) : gi (i_X1_init_74 E S) f b = gi S f b := by
  unfold i_X1_init_74
  dsimp only
  rw []
theorem i_X1_init_74_low_gj {E : EN} {S : WS} {f : Nat} {b : Nat} (h : b < eW E + 74) : gj (i_X1_init_74 E S) f b = gj S f b := by
  unfold i_X1_init_74
  dsimp only
  rw []
theorem i_X1_init_74_low_ai {E : EN} {S : WS} {b : Nat} (h : b < eW E + 74) : ai (i_X1_init_74 E S) b = ai S b := by
  unfold i_X1_init_74
  dsimp only
  rw []
theorem i_X1_init_74_low_aj {E : EN} {S : WS} {b : Nat} (h : b < eW E + 74) : aj (i_X1_init_74 E S) b = aj S b := by
  unfold i_X1_init_74
  dsimp only
  rw []
theorem i_X1_init_74_low_ar {E : EN} {S : WS} {b : Nat} (h : b < eW E + 74) : ar (i_X1_init_74 E S) b = ar S b := by
  unfold i_X1_init_74
  dsimp only
  rw []
def i_X2_init_74 (E : EN) (S : WS) : WS :=
  let S1 := i_X1_init_74 E S
  let S2 := zA S1 (eW E + 75)
  let S3 := sr S2 65 (eW E + 74) (some (eW E + 75))
  let S4 := zA S3 (eW E + 76)
  let S5 := sr S4 66 (eW E + 74) (some (eW E + 76))
  let S6 := zA S5 (eW E + 77)
  let S7 := sr S6 67 (eW E + 74) (some (eW E + 77))
  let S8 := zA S7 (eW E + 78)
  let S9 := sr S8 68 (eW E + 74) (some (eW E + 78))
  S9
theorem i_X2_init_74_low {E : EN} {S : WS} {f : Nat} {b : Nat} (h : b < eW E + 74) : gr (i_X2_init_74 E S) f b = gr S f b := by
  unfold i_X2_init_74
  dsimp only
  rw [gr_sr_a (by omega), gr_zA (by omega), gr_sr_a (by omega), gr_zA (by omega), gr_sr_a (by omega), gr_zA (by omega), gr_sr_a (by omega), gr_zA (by omega), i_X1_init_74_low (by omega)]
theorem i_X2_init_74_low_gi {E : EN} {S : WS} {f : Nat} {b : Nat} (h : b < eW E + 74) : gi (i_X2_init_74 E S) f b = gi S f b := by
  unfold i_X2_init_74
  dsimp only
  rw [gi_sr, gi_zA (by omega), gi_sr, gi_zA (by omega), gi_sr, gi_zA (by omega), gi_sr, gi_zA (by omega), i_X1_init_74_low_gi (by omega)]
theorem i_X2_init_74_low_gj {E : EN} {S : WS} {f : Nat} {b : Nat} (h : b < eW E + 74) : gj (i_X2_init_74 E S) f b = gj S f b := by
  unfold i_X2_init_74
  dsimp only
  rw [gj_sr, gj_zA (by omega), gj_sr, gj_zA (by omega), gj_sr, gj_zA (by omega), gj_sr, gj_zA (by omega), i_X1_init_74_low_gj (by omega)]
theorem i_X2_init_74_low_ai {E : EN} {S : WS} {b : Nat} (h : b < eW E + 74) : ai (i_X2_init_74 E S) b = ai S b := by
  unfold i_X2_init_74
  dsimp only
  rw [ai_sr, ai_zA_a (by omega), ai_sr, ai_zA_a (by omega), ai_sr, ai_zA_a (by omega), ai_sr, ai_zA_a (by omega), i_X1_init_74_low_ai (by omega)]
theorem i_X2_init_74_low_aj {E : EN} {S : WS} {b : Nat} (h : b < eW E + 74) : aj (i_X2_init_74 E S) b = aj S b := by
  unfold i_X2_init_74
  dsimp only
  rw [aj_sr, aj_zA_a (by omega), aj_sr, aj_zA_a (by omega), aj_sr, aj_zA_a (by omega), aj_sr, aj_zA_a (by omega), i_X1_init_74_low_aj (by omega)]
theorem i_X2_init_74_low_ar {E : EN} {S : WS} {b : Nat} (h : b < eW E + 74) : ar (i_X2_init_74 E S) b = ar S b := by
  unfold i_X2_init_74
  dsimp only
  rw [ar_sr, ar_zA_a (by omega), ar_sr, ar_zA_a (by omega), ar_sr, ar_zA_a (by omega), ar_sr, ar_zA_a (by omega), i_X1_init_74_low_ar (by omega)]
def i_X3_init_82 (E : EN) (S : WS) : WS :=
  let S1 := zA S (eW E + 83)
  let S2 := sr S1 135 (eW E + 82) (some (eW E + 83))
  let S3 := zA S2 (eW E + 84)
  let S4 := sr S3 136 (eW E + 82) (some (eW E + 84))
  let S5 := zA S4 (eW E + 85)
  let S6 := sr S5 137 (eW E + 82) (some (eW E + 85))
  let S7 := zA S6 (eW E + 86)
  let S8 := sr S7 138 (eW E + 82) (some (eW E + 86))
  let S9 := zA S8 (eW E + 87)
  let S10 := sr S9 139 (eW E + 82) (some (eW E + 87))
  let S11 := zA S10 (eW E + 88)
  let S12 := sr S11 140 (eW E + 82) (some (eW E + 88))
  let S13 := zA S12 (eW E + 89)
  let S14 := sr S13 141 (eW E + 82) (some (eW E + 89))
  let S15 := zA S14 (eW E + 90)
  let S16 := sr S15 142 (eW E + 82) (some (eW E + 90))
  let S17 := zA S16 (eW E + 91)
  let S18 := sr S17 143 (eW E + 82) (some (eW E + 91))
  let S19 := zA S18 (eW E + 92)
  let S20 := sr S19 144 (eW E + 82) (some (eW E + 92))
  let S21 := zA S20 (eW E + 93)
  let S22 := sr S21 145 (eW E + 82) (some (eW E + 93))
  let S23 := zA S22 (eW E + 94)
  let S24 := sr S23 146 (eW E + 82) (some (eW E + 94))
  S24
theorem i_X3_init_82_low {E : EN} {S : WS} {f : Nat} {b : Nat} (h : b < eW E + 82) : gr (i_X3_init_82 E S) f b = gr S f b := by
  unfold i_X3_init_82
  dsimp only
  rw [gr_sr_a (by omega), gr_zA (by omega), gr_sr_a (by omega), gr_zA (by omega), gr_sr_a (by omega), gr_zA (by omega), gr_sr_a (by omega), gr_zA (by omega), gr_sr_a (by omega), gr_zA (by omega), gr_sr_a (by omega), gr_zA (by omega), gr_sr_a (by omega), gr_zA (by omega), gr_sr_a (by omega), gr_zA (by omega), gr_sr_a (by omega), gr_zA (by omega), gr_sr_a (by omega), gr_zA (by omega), gr_sr_a (by omega), gr_zA (by omega), gr_sr_a (by omega), gr_zA (by omega)]
theorem i_X3_init_82_low_gi {E : EN} {S : WS} {f : Nat} {b : Nat} (h : b < eW E + 82) : gi (i_X3_init_82 E S) f b = gi S f b := by
  unfold i_X3_init_82
  dsimp only
  rw [gi_sr, gi_zA (by omega), gi_sr, gi_zA (by omega), gi_sr, gi_zA (by omega), gi_sr, gi_zA (by omega), gi_sr, gi_zA (by omega), gi_sr, gi_zA (by omega), gi_sr, gi_zA (by omega), gi_sr, gi_zA (by omega), gi_sr, gi_zA (by omega), gi_sr, gi_zA (by omega), gi_sr, gi_zA (by omega), gi_sr, gi_zA (by omega)]
theorem i_X3_init_82_low_gj {E : EN} {S : WS} {f : Nat} {b : Nat} (h : b < eW E + 82) : gj (i_X3_init_82 E S) f b = gj S f b := by
  unfold i_X3_init_82
  dsimp only
  rw [gj_sr, gj_zA (by omega), gj_sr, gj_zA (by omega), gj_sr, gj_zA (by omega), gj_sr, gj_zA (by omega), gj_sr, gj_zA (by omega), gj_sr, gj_zA (by omega), gj_sr, gj_zA (by omega), gj_sr, gj_zA (by omega), gj_sr, gj_zA (by omega), gj_sr, gj_zA (by omega), gj_sr, gj_zA (by omega), gj_sr, gj_zA (by omega)]
theorem i_X3_init_82_low_ai {E : EN} {S : WS} {b : Nat} (h : b < eW E + 82) : ai (i_X3_init_82 E S) b = ai S b := by
  unfold i_X3_init_82
  dsimp only
  rw [ai_sr, ai_zA_a (by omega), ai_sr, ai_zA_a (by omega), ai_sr, ai_zA_a (by omega), ai_sr, ai_zA_a (by omega), ai_sr, ai_zA_a (by omega), ai_sr, ai_zA_a (by omega), ai_sr, ai_zA_a (by omega), ai_sr, ai_zA_a (by omega), ai_sr, ai_zA_a (by omega), ai_sr, ai_zA_a (by omega), ai_sr, ai_zA_a (by omega), ai_sr, ai_zA_a (by omega)]
theorem i_X3_init_82_low_aj {E : EN} {S : WS} {b : Nat} (h : b < eW E + 82) : aj (i_X3_init_82 E S) b = aj S b := by
  unfold i_X3_init_82
  dsimp only
  rw [aj_sr, aj_zA_a (by omega), aj_sr, aj_zA_a (by omega), aj_sr, aj_zA_a (by omega), aj_sr, aj_zA_a (by omega), aj_sr, aj_zA_a (by omega), aj_sr, aj_zA_a (by omega), aj_sr, aj_zA_a (by omega), aj_sr, aj_zA_a (by omega), aj_sr, aj_zA_a (by omega), aj_sr, aj_zA_a (by omega), aj_sr, aj_zA_a (by omega), aj_sr, aj_zA_a (by omega)]
theorem i_X3_init_82_low_ar {E : EN} {S : WS} {b : Nat} (h : b < eW E + 82) : ar (i_X3_init_82 E S) b = ar S b := by
  unfold i_X3_init_82
  dsimp only
  rw [ar_sr, ar_zA_a (by omega), ar_sr, ar_zA_a (by omega), ar_sr, ar_zA_a (by omega), ar_sr, ar_zA_a (by omega), ar_sr, ar_zA_a (by omega), ar_sr, ar_zA_a (by omega), ar_sr, ar_zA_a (by omega), ar_sr, ar_zA_a (by omega), ar_sr, ar_zA_a (by omega), ar_sr, ar_zA_a (by omega), ar_sr, ar_zA_a (by omega), ar_sr, ar_zA_a (by omega)]
def i_X3_init_95 (E : EN) (S : WS) : WS :=
  let S1 := zA S (eW E + 96)
  let S2 := sr S1 135 (eW E + 95) (some (eW E + 96))
  let S3 := zA S2 (eW E + 97)
  let S4 := sr S3 136 (eW E + 95) (some (eW E + 97))
  let S5 := zA S4 (eW E + 98)
  let S6 := sr S5 137 (eW E + 95) (some (eW E + 98))
  let S7 := zA S6 (eW E + 99)
  let S8 := sr S7 138 (eW E + 95) (some (eW E + 99))
  let S9 := zA S8 (eW E + 100)
  let S10 := sr S9 139 (eW E + 95) (some (eW E + 100))
  let S11 := zA S10 (eW E + 101)
  let S12 := sr S11 140 (eW E + 95) (some (eW E + 101))
  let S13 := zA S12 (eW E + 102)
  let S14 := sr S13 141 (eW E + 95) (some (eW E + 102))
  let S15 := zA S14 (eW E + 103)
  let S16 := sr S15 142 (eW E + 95) (some (eW E + 103))
  let S17 := zA S16 (eW E + 104)
  let S18 := sr S17 143 (eW E + 95) (some (eW E + 104))
  let S19 := zA S18 (eW E + 105)
  let S20 := sr S19 144 (eW E + 95) (some (eW E + 105))
  let S21 := zA S20 (eW E + 106)
  let S22 := sr S21 145 (eW E + 95) (some (eW E + 106))
  let S23 := zA S22 (eW E + 107)
  let S24 := sr S23 146 (eW E + 95) (some (eW E + 107))
  S24
theorem i_X3_init_95_low {E : EN} {S : WS} {f : Nat} {b : Nat} (h : b < eW E + 95) : gr (i_X3_init_95 E S) f b = gr S f b := by
  unfold i_X3_init_95
  dsimp only
  rw [gr_sr_a (by omega), gr_zA (by omega), gr_sr_a (by omega), gr_zA (by omega), gr_sr_a (by omega), gr_zA (by omega), gr_sr_a (by omega), gr_zA (by omega), gr_sr_a (by omega), gr_zA (by omega), gr_sr_a (by omega), gr_zA (by omega), gr_sr_a (by omega), gr_zA (by omega), gr_sr_a (by omega), gr_zA (by omega), gr_sr_a (by omega), gr_zA (by omega), gr_sr_a (by omega), gr_zA (by omega), gr_sr_a (by omega), gr_zA (by omega), gr_sr_a (by omega), gr_zA (by omega)]
theorem i_X3_init_95_low_gi {E : EN} {S : WS} {f : Nat} {b : Nat} (h : b < eW E + 95) : gi (i_X3_init_95 E S) f b = gi S f b := by
  unfold i_X3_init_95
  dsimp only
  rw [gi_sr, gi_zA (by omega), gi_sr, gi_zA (by omega), gi_sr, gi_zA (by omega), gi_sr, gi_zA (by omega), gi_sr, gi_zA (by omega), gi_sr, gi_zA (by omega), gi_sr, gi_zA (by omega), gi_sr, gi_zA (by omega), gi_sr, gi_zA (by omega), gi_sr, gi_zA (by omega), gi_sr, gi_zA (by omega), gi_sr, gi_zA (by omega)]
theorem i_X3_init_95_low_gj {E : EN} {S : WS} {f : Nat} {b : Nat} (h : b < eW E + 95) : gj (i_X3_init_95 E S) f b = gj S f b := by
  unfold i_X3_init_95
  dsimp only
  rw [gj_sr, gj_zA (by omega), gj_sr, gj_zA (by omega), gj_sr, gj_zA (by omega), gj_sr, gj_zA (by omega), gj_sr, gj_zA (by omega), gj_sr, gj_zA (by omega), gj_sr, gj_zA (by omega), gj_sr, gj_zA (by omega), gj_sr, gj_zA (by omega), gj_sr, gj_zA (by omega), gj_sr, gj_zA (by omega), gj_sr, gj_zA (by omega)]
theorem i_X3_init_95_low_ai {E : EN} {S : WS} {b : Nat} (h : b < eW E + 95) : ai (i_X3_init_95 E S) b = ai S b := by
  unfold i_X3_init_95
  dsimp only
  rw [ai_sr, ai_zA_a (by omega), ai_sr, ai_zA_a (by omega), ai_sr, ai_zA_a (by omega), ai_sr, ai_zA_a (by omega), ai_sr, ai_zA_a (by omega), ai_sr, ai_zA_a (by omega), ai_sr, ai_zA_a (by omega), ai_sr, ai_zA_a (by omega), ai_sr, ai_zA_a (by omega), ai_sr, ai_zA_a (by omega), ai_sr, ai_zA_a (by omega), ai_sr, ai_zA_a (by omega)]
theorem i_X3_init_95_low_aj {E : EN} {S : WS} {b : Nat} (h : b < eW E + 95) : aj (i_X3_init_95 E S) b = aj S b := by
  unfold i_X3_init_95
  dsimp only
  rw [aj_sr, aj_zA_a (by omega), aj_sr, aj_zA_a (by omega), aj_sr, aj_zA_a (by omega), aj_sr, aj_zA_a (by omega), aj_sr, aj_zA_a (by omega), aj_sr, aj_zA_a (by omega), aj_sr, aj_zA_a (by omega), aj_sr, aj_zA_a (by omega), aj_sr, aj_zA_a (by omega), aj_sr, aj_zA_a (by omega), aj_sr, aj_zA_a (by omega), aj_sr, aj_zA_a (by omega)]
theorem i_X3_init_95_low_ar {E : EN} {S : WS} {b : Nat} (h : b < eW E + 95) : ar (i_X3_init_95 E S) b = ar S b := by
  unfold i_X3_init_95
  dsimp only
  rw [ar_sr, ar_zA_a (by omega), ar_sr, ar_zA_a (by omega), ar_sr, ar_zA_a (by omega), ar_sr, ar_zA_a (by omega), ar_sr, ar_zA_a (by omega), ar_sr, ar_zA_a (by omega), ar_sr, ar_zA_a (by omega), ar_sr, ar_zA_a (by omega), ar_sr, ar_zA_a (by omega), ar_sr, ar_zA_a (by omega), ar_sr, ar_zA_a (by omega), ar_sr, ar_zA_a (by omega)]
def i_X3_init_108 (E : EN) (S : WS) : WS :=
  let S1 := zA S (eW E + 109)
  let S2 := sr S1 135 (eW E + 108) (some (eW E + 109))
  let S3 := zA S2 (eW E + 110)
  let S4 := sr S3 136 (eW E + 108) (some (eW E + 110))
  let S5 := zA S4 (eW E + 111)
  let S6 := sr S5 137 (eW E + 108) (some (eW E + 111))
  let S7 := zA S6 (eW E + 112)
  let S8 := sr S7 138 (eW E + 108) (some (eW E + 112))
  let S9 := zA S8 (eW E + 113)
  let S10 := sr S9 139 (eW E + 108) (some (eW E + 113))
  let S11 := zA S10 (eW E + 114)
  let S12 := sr S11 140 (eW E + 108) (some (eW E + 114))
  let S13 := zA S12 (eW E + 115)
  let S14 := sr S13 141 (eW E + 108) (some (eW E + 115))
  let S15 := zA S14 (eW E + 116)
  let S16 := sr S15 142 (eW E + 108) (some (eW E + 116))
  let S17 := zA S16 (eW E + 117)
  let S18 := sr S17 143 (eW E + 108) (some (eW E + 117))
  let S19 := zA S18 (eW E + 118)
  let S20 := sr S19 144 (eW E + 108) (some (eW E + 118))
  let S21 := zA S20 (eW E + 119)
  let S22 := sr S21 145 (eW E + 108) (some (eW E + 119))
  let S23 := zA S22 (eW E + 120)
  let S24 := sr S23 146 (eW E + 108) (some (eW E + 120))
  S24
theorem i_X3_init_108_low {E : EN} {S : WS} {f : Nat} {b : Nat} (h : b < eW E + 108) : gr (i_X3_init_108 E S) f b = gr S f b := by
  unfold i_X3_init_108
  dsimp only
  rw [gr_sr_a (by omega), gr_zA (by omega), gr_sr_a (by omega), gr_zA (by omega), gr_sr_a (by omega), gr_zA (by omega), gr_sr_a (by omega), gr_zA (by omega), gr_sr_a (by omega), gr_zA (by omega), gr_sr_a (by omega), gr_zA (by omega), gr_sr_a (by omega), gr_zA (by omega), gr_sr_a (by omega), gr_zA (by omega), gr_sr_a (by omega), gr_zA (by omega), gr_sr_a (by omega), gr_zA (by omega), gr_sr_a (by omega), gr_zA (by omega), gr_sr_a (by omega), gr_zA (by omega)]
theorem i_X3_init_108_low_gi {E : EN} {S : WS} {f : Nat} {b : Nat} (h : b < eW E + 108) : gi (i_X3_init_108 E S) f b = gi S f b := by
  unfold i_X3_init_108
  dsimp only
  rw [gi_sr, gi_zA (by omega), gi_sr, gi_zA (by omega), gi_sr, gi_zA (by omega), gi_sr, gi_zA (by omega), gi_sr, gi_zA (by omega), gi_sr, gi_zA (by omega), gi_sr, gi_zA (by omega), gi_sr, gi_zA (by omega), gi_sr, gi_zA (by omega), gi_sr, gi_zA (by omega), gi_sr, gi_zA (by omega), gi_sr, gi_zA (by omega)]
theorem i_X3_init_108_low_gj {E : EN} {S : WS} {f : Nat} {b : Nat} (h : b < eW E + 108) : gj (i_X3_init_108 E S) f b = gj S f b := by
  unfold i_X3_init_108
  dsimp only
  rw [gj_sr, gj_zA (by omega), gj_sr, gj_zA (by omega), gj_sr, gj_zA (by omega), gj_sr, gj_zA (by omega), gj_sr, gj_zA (by omega), gj_sr, gj_zA (by omega), gj_sr, gj_zA (by omega), gj_sr, gj_zA (by omega), gj_sr, gj_zA (by omega), gj_sr, gj_zA (by omega), gj_sr, gj_zA (by omega), gj_sr, gj_zA (by omega)]
theorem i_X3_init_108_low_ai {E : EN} {S : WS} {b : Nat} (h : b < eW E + 108) : ai (i_X3_init_108 E S) b = ai S b := by
  unfold i_X3_init_108
  dsimp only
  rw [ai_sr, ai_zA_a (by omega), ai_sr, ai_zA_a (by omega), ai_sr, ai_zA_a (by omega), ai_sr, ai_zA_a (by omega), ai_sr, ai_zA_a (by omega), ai_sr, ai_zA_a (by omega), ai_sr, ai_zA_a (by omega), ai_sr, ai_zA_a (by omega), ai_sr, ai_zA_a (by omega), ai_sr, ai_zA_a (by omega), ai_sr, ai_zA_a (by omega), ai_sr, ai_zA_a (by omega)]
theorem i_X3_init_108_low_aj {E : EN} {S : WS} {b : Nat} (h : b < eW E + 108) : aj (i_X3_init_108 E S) b = aj S b := by
  unfold i_X3_init_108
  dsimp only
  rw [aj_sr, aj_zA_a (by omega), aj_sr, aj_zA_a (by omega), aj_sr, aj_zA_a (by omega), aj_sr, aj_zA_a (by omega), aj_sr, aj_zA_a (by omega), aj_sr, aj_zA_a (by omega), aj_sr, aj_zA_a (by omega), aj_sr, aj_zA_a (by omega), aj_sr, aj_zA_a (by omega), aj_sr, aj_zA_a (by omega), aj_sr, aj_zA_a (by omega), aj_sr, aj_zA_a (by omega)]
theorem i_X3_init_108_low_ar {E : EN} {S : WS} {b : Nat} (h : b < eW E + 108) : ar (i_X3_init_108 E S) b = ar S b := by
  unfold i_X3_init_108
  dsimp only
  rw [ar_sr, ar_zA_a (by omega), ar_sr, ar_zA_a (by omega), ar_sr, ar_zA_a (by omega), ar_sr, ar_zA_a (by omega), ar_sr, ar_zA_a (by omega), ar_sr, ar_zA_a (by omega), ar_sr, ar_zA_a (by omega), ar_sr, ar_zA_a (by omega), ar_sr, ar_zA_a (by omega), ar_sr, ar_zA_a (by omega), ar_sr, ar_zA_a (by omega), ar_sr, ar_zA_a (by omega)]
def i_X6_init_121 (E : EN) (S : WS) : WS :=
  let S1 := si S 320 (eW E + 121) (0 : Int32)
  let S2 := si S1 321 (eW E + 121) (-1 : Int32)
  let S3 := zA S2 (eW E + 122)
  let S4 := sr S3 322 (eW E + 121) (some (eW E + 122))
  S4
theorem i_X6_init_121_low {E : EN} {S : WS} {f : Nat} {b : Nat} (h : b < eW E + 121) : gr (i_X6_init_121 E S) f b = gr S f b := by
  unfold i_X6_init_121
  dsimp only
  rw [gr_sr_a (by omega), gr_zA (by omega), gr_si, gr_si]
theorem i_X6_init_121_low_gi {E : EN} {S : WS} {f : Nat} {b : Nat} (h : b < eW E + 121) : gi (i_X6_init_121 E S) f b = gi S f b := by
  unfold i_X6_init_121
  dsimp only
  rw [gi_sr, gi_zA (by omega), gi_si_a (by omega), gi_si_a (by omega)]
theorem i_X6_init_121_low_gj {E : EN} {S : WS} {f : Nat} {b : Nat} (h : b < eW E + 121) : gj (i_X6_init_121 E S) f b = gj S f b := by
  unfold i_X6_init_121
  dsimp only
  rw [gj_sr, gj_zA (by omega), gj_si, gj_si]
theorem i_X6_init_121_low_ai {E : EN} {S : WS} {b : Nat} (h : b < eW E + 121) : ai (i_X6_init_121 E S) b = ai S b := by
  unfold i_X6_init_121
  dsimp only
  rw [ai_sr, ai_zA_a (by omega), ai_si, ai_si]
theorem i_X6_init_121_low_aj {E : EN} {S : WS} {b : Nat} (h : b < eW E + 121) : aj (i_X6_init_121 E S) b = aj S b := by
  unfold i_X6_init_121
  dsimp only
  rw [aj_sr, aj_zA_a (by omega), aj_si, aj_si]
theorem i_X6_init_121_low_ar {E : EN} {S : WS} {b : Nat} (h : b < eW E + 121) : ar (i_X6_init_121 E S) b = ar S b := by
  unfold i_X6_init_121
  dsimp only
  rw [ar_sr, ar_zA_a (by omega), ar_si, ar_si]
def i_X6_init_123 (E : EN) (S : WS) : WS :=
  let S1 := si S 320 (eW E + 123) (0 : Int32)
  let S2 := si S1 321 (eW E + 123) (-1 : Int32)
  let S3 := zA S2 (eW E + 124)
  let S4 := sr S3 322 (eW E + 123) (some (eW E + 124))
  S4
theorem i_X6_init_123_low {E : EN} {S : WS} {f : Nat} {b : Nat} (h : b < eW E + 123) : gr (i_X6_init_123 E S) f b = gr S f b := by
  unfold i_X6_init_123
  dsimp only
  rw [gr_sr_a (by omega), gr_zA (by omega), gr_si, gr_si]
theorem i_X6_init_123_low_gi {E : EN} {S : WS} {f : Nat} {b : Nat} (h : b < eW E + 123) : gi (i_X6_init_123 E S) f b = gi S f b := by
  unfold i_X6_init_123
  dsimp only
  rw [gi_sr, gi_zA (by omega), gi_si_a (by omega), gi_si_a (by omega)]
theorem i_X6_init_123_low_gj {E : EN} {S : WS} {f : Nat} {b : Nat} (h : b < eW E + 123) : gj (i_X6_init_123 E S) f b = gj S f b := by
  unfold i_X6_init_123
  dsimp only
  rw [gj_sr, gj_zA (by omega), gj_si, gj_si]
theorem i_X6_init_123_low_ai {E : EN} {S : WS} {b : Nat} (h : b < eW E + 123) : ai (i_X6_init_123 E S) b = ai S b := by
  unfold i_X6_init_123
  dsimp only
  rw [ai_sr, ai_zA_a (by omega), ai_si, ai_si]
theorem i_X6_init_123_low_aj {E : EN} {S : WS} {b : Nat} (h : b < eW E + 123) : aj (i_X6_init_123 E S) b = aj S b := by
  unfold i_X6_init_123
  dsimp only
  rw [aj_sr, aj_zA_a (by omega), aj_si, aj_si]
theorem i_X6_init_123_low_ar {E : EN} {S : WS} {b : Nat} (h : b < eW E + 123) : ar (i_X6_init_123 E S) b = ar S b := by
  unfold i_X6_init_123
  dsimp only
  rw [ar_sr, ar_zA_a (by omega), ar_si, ar_si]
def i_X6_init_125 (E : EN) (S : WS) : WS :=
  let S1 := si S 320 (eW E + 125) (0 : Int32)
  let S2 := si S1 321 (eW E + 125) (-1 : Int32)
  let S3 := zA S2 (eW E + 126)
  let S4 := sr S3 322 (eW E + 125) (some (eW E + 126))
  S4
theorem i_X6_init_125_low {E : EN} {S : WS} {f : Nat} {b : Nat} (h : b < eW E + 125) : gr (i_X6_init_125 E S) f b = gr S f b := by
  unfold i_X6_init_125
  dsimp only
  rw [gr_sr_a (by omega), gr_zA (by omega), gr_si, gr_si]
theorem i_X6_init_125_low_gi {E : EN} {S : WS} {f : Nat} {b : Nat} (h : b < eW E + 125) : gi (i_X6_init_125 E S) f b = gi S f b := by
  unfold i_X6_init_125
  dsimp only
  rw [gi_sr, gi_zA (by omega), gi_si_a (by omega), gi_si_a (by omega)]
theorem i_X6_init_125_low_gj {E : EN} {S : WS} {f : Nat} {b : Nat} (h : b < eW E + 125) : gj (i_X6_init_125 E S) f b = gj S f b := by
  unfold i_X6_init_125
  dsimp only
  rw [gj_sr, gj_zA (by omega), gj_si, gj_si]
theorem i_X6_init_125_low_ai {E : EN} {S : WS} {b : Nat} (h : b < eW E + 125) : ai (i_X6_init_125 E S) b = ai S b := by
  unfold i_X6_init_125
  dsimp only
  rw [ai_sr, ai_zA_a (by omega), ai_si, ai_si]
theorem i_X6_init_125_low_aj {E : EN} {S : WS} {b : Nat} (h : b < eW E + 125) : aj (i_X6_init_125 E S) b = aj S b := by
  unfold i_X6_init_125
  dsimp only
  rw [aj_sr, aj_zA_a (by omega), aj_si, aj_si]
theorem i_X6_init_125_low_ar {E : EN} {S : WS} {b : Nat} (h : b < eW E + 125) : ar (i_X6_init_125 E S) b = ar S b := by
  unfold i_X6_init_125
  dsimp only
  rw [ar_sr, ar_zA_a (by omega), ar_si, ar_si]
def i_X6_init_127 (E : EN) (S : WS) : WS :=
  let S1 := si S 320 (eW E + 127) (0 : Int32)
  let S2 := si S1 321 (eW E + 127) (-1 : Int32)
  let S3 := zA S2 (eW E + 128)
  let S4 := sr S3 322 (eW E + 127) (some (eW E + 128))
  S4
theorem i_X6_init_127_low {E : EN} {S : WS} {f : Nat} {b : Nat} (h : b < eW E + 127) : gr (i_X6_init_127 E S) f b = gr S f b := by
  unfold i_X6_init_127
  dsimp only
  rw [gr_sr_a (by omega), gr_zA (by omega), gr_si, gr_si]
theorem i_X6_init_127_low_gi {E : EN} {S : WS} {f : Nat} {b : Nat} (h : b < eW E + 127) : gi (i_X6_init_127 E S) f b = gi S f b := by
  unfold i_X6_init_127
  dsimp only
  rw [gi_sr, gi_zA (by omega), gi_si_a (by omega), gi_si_a (by omega)]
theorem i_X6_init_127_low_gj {E : EN} {S : WS} {f : Nat} {b : Nat} (h : b < eW E + 127) : gj (i_X6_init_127 E S) f b = gj S f b := by
  unfold i_X6_init_127
  dsimp only
  rw [gj_sr, gj_zA (by omega), gj_si, gj_si]
theorem i_X6_init_127_low_ai {E : EN} {S : WS} {b : Nat} (h : b < eW E + 127) : ai (i_X6_init_127 E S) b = ai S b := by
  unfold i_X6_init_127
  dsimp only
  rw [ai_sr, ai_zA_a (by omega), ai_si, ai_si]
theorem i_X6_init_127_low_aj {E : EN} {S : WS} {b : Nat} (h : b < eW E + 127) : aj (i_X6_init_127 E S) b = aj S b := by
  unfold i_X6_init_127
  dsimp only
  rw [aj_sr, aj_zA_a (by omega), aj_si, aj_si]
theorem i_X6_init_127_low_ar {E : EN} {S : WS} {b : Nat} (h : b < eW E + 127) : ar (i_X6_init_127 E S) b = ar S b := by
  unfold i_X6_init_127
  dsimp only
  rw [ar_sr, ar_zA_a (by omega), ar_si, ar_si]
def i_X8_init_0 (E : EN) (S : WS) : WS :=
  let S1 := zA S (eW E + 1)
  let S2 := sr S1 448 (eW E + 0) (some (eW E + 1))
  let S3 := si S2 449 (eW E + 0) (0 : Int32)
  let S4 := zA S3 (eW E + 2)
  let S5 := i_X4_init_2 E S4
  let S6 := sr S5 450 (eW E + 0) (some (eW E + 2))
  let S7 := zA S6 (eW E + 4)
  let S8 := i_X3_init_4 E S7
  let S9 := sr S8 451 (eW E + 0) (some (eW E + 4))
  let S10 := zA S9 (eW E + 17)
  let S11 := i_X3_init_17 E S10
  let S12 := sr S11 452 (eW E + 0) (some (eW E + 17))
  let S13 := zA S12 (eW E + 30)
  let S14 := sr S13 453 (eW E + 0) (some (eW E + 30))
  let S15 := zA S14 (eW E + 31)
  let S16 := sr S15 454 (eW E + 0) (some (eW E + 31))
  let S17 := zA S16 (eW E + 32)
  let S18 := sr S17 455 (eW E + 0) (some (eW E + 32))
  let S19 := zA S18 (eW E + 33)
  let S20 := i_X7_init_33 E S19
  let S21 := sr S20 456 (eW E + 0) (some (eW E + 33))
  let S22 := zA S21 (eW E + 50)
  let S23 := i_X5_init_50 E S22
  let S24 := sr S23 457 (eW E + 0) (some (eW E + 50))
  let S25 := zA S24 (eW E + 58)
  let S26 := i_X0_init_58 E S25
  let S27 := sr S26 458 (eW E + 0) (some (eW E + 58))
  let S28 := zA S27 (eW E + 74)
  let S29 := i_X2_init_74 E S28
  let S30 := sr S29 459 (eW E + 0) (some (eW E + 74))
  let S31 := zA S30 (eW E + 79)
  let S32 := sr S31 460 (eW E + 0) (some (eW E + 79))
  let S33 := zA S32 (eW E + 80)
  let S34 := sr S33 461 (eW E + 0) (some (eW E + 80))
  let S35 := zA S34 (eW E + 81)
  let S36 := sr S35 462 (eW E + 0) (some (eW E + 81))
  let S37 := zA S36 (eW E + 82)
  let S38 := i_X3_init_82 E S37
  let S39 := wr S38 (eW E + 30) (va_up (ar S38 (eW E + 30)) (0 : Int32).toNatClampNeg (some (eW E + 82)))
  let S40 := zA S39 (eW E + 95)
  let S41 := i_X3_init_95 E S40
  let S42 := wr S41 (eW E + 30) (va_up (ar S41 (eW E + 30)) (1 : Int32).toNatClampNeg (some (eW E + 95)))
  let S43 := zA S42 (eW E + 108)
  let S44 := i_X3_init_108 E S43
  let S45 := wr S44 (eW E + 30) (va_up (ar S44 (eW E + 30)) (2 : Int32).toNatClampNeg (some (eW E + 108)))
  let S46 := zA S45 (eW E + 121)
  let S47 := i_X6_init_121 E S46
  let S48 := wr S47 (eW E + 32) (va_up (ar S47 (eW E + 32)) (0 : Int32).toNatClampNeg (some (eW E + 121)))
  let S49 := zA S48 (eW E + 123)
  let S50 := i_X6_init_123 E S49
  let S51 := wr S50 (eW E + 32) (va_up (ar S50 (eW E + 32)) (1 : Int32).toNatClampNeg (some (eW E + 123)))
  let S52 := zA S51 (eW E + 125)
  let S53 := i_X6_init_125 E S52
  let S54 := wr S53 (eW E + 32) (va_up (ar S53 (eW E + 32)) (2 : Int32).toNatClampNeg (some (eW E + 125)))
  let S55 := zA S54 (eW E + 127)
  let S56 := i_X6_init_127 E S55
  let S57 := wr S56 (eW E + 32) (va_up (ar S56 (eW E + 32)) (3 : Int32).toNatClampNeg (some (eW E + 127)))
  S57
theorem i_X8_init_0_low {E : EN} {S : WS} {f : Nat} {b : Nat} (h : b < eW E + 0) : gr (i_X8_init_0 E S) f b = gr S f b := by
  unfold i_X8_init_0
  dsimp only
  rw [gr_wr, i_X6_init_127_low (by omega), gr_zA (by omega), gr_wr, i_X6_init_125_low (by omega), gr_zA (by omega), gr_wr, i_X6_init_123_low (by omega), gr_zA (by omega), gr_wr, i_X6_init_121_low (by omega), gr_zA (by omega), gr_wr, i_X3_init_108_low (by omega), gr_zA (by omega), gr_wr, i_X3_init_95_low (by omega), gr_zA (by omega), gr_wr, i_X3_init_82_low (by omega), gr_zA (by omega), gr_sr_a (by omega), gr_zA (by omega), gr_sr_a (by omega), gr_zA (by omega), gr_sr_a (by omega), gr_zA (by omega), gr_sr_a (by omega), i_X2_init_74_low (by omega), gr_zA (by omega), gr_sr_a (by omega), i_X0_init_58_low (by omega), gr_zA (by omega), gr_sr_a (by omega), i_X5_init_50_low (by omega), gr_zA (by omega), gr_sr_a (by omega), i_X7_init_33_low (by omega), gr_zA (by omega), gr_sr_a (by omega), gr_zA (by omega), gr_sr_a (by omega), gr_zA (by omega), gr_sr_a (by omega), gr_zA (by omega), gr_sr_a (by omega), i_X3_init_17_low (by omega), gr_zA (by omega), gr_sr_a (by omega), i_X3_init_4_low (by omega), gr_zA (by omega), gr_sr_a (by omega), i_X4_init_2_low (by omega), gr_zA (by omega), gr_si, gr_sr_a (by omega), gr_zA (by omega)]
theorem i_X8_init_0_low_gi {E : EN} {S : WS} {f : Nat} {b : Nat} (h : b < eW E + 0) : gi (i_X8_init_0 E S) f b = gi S f b := by
  unfold i_X8_init_0
  dsimp only
  rw [gi_wr, i_X6_init_127_low_gi (by omega), gi_zA (by omega), gi_wr, i_X6_init_125_low_gi (by omega), gi_zA (by omega), gi_wr, i_X6_init_123_low_gi (by omega), gi_zA (by omega), gi_wr, i_X6_init_121_low_gi (by omega), gi_zA (by omega), gi_wr, i_X3_init_108_low_gi (by omega), gi_zA (by omega), gi_wr, i_X3_init_95_low_gi (by omega), gi_zA (by omega), gi_wr, i_X3_init_82_low_gi (by omega), gi_zA (by omega), gi_sr, gi_zA (by omega), gi_sr, gi_zA (by omega), gi_sr, gi_zA (by omega), gi_sr, i_X2_init_74_low_gi (by omega), gi_zA (by omega), gi_sr, i_X0_init_58_low_gi (by omega), gi_zA (by omega), gi_sr, i_X5_init_50_low_gi (by omega), gi_zA (by omega), gi_sr, i_X7_init_33_low_gi (by omega), gi_zA (by omega), gi_sr, gi_zA (by omega), gi_sr, gi_zA (by omega), gi_sr, gi_zA (by omega), gi_sr, i_X3_init_17_low_gi (by omega), gi_zA (by omega), gi_sr, i_X3_init_4_low_gi (by omega), gi_zA (by omega), gi_sr, i_X4_init_2_low_gi (by omega), gi_zA (by omega), gi_si_a (by omega), gi_sr, gi_zA (by omega)]
theorem i_X8_init_0_low_gj {E : EN} {S : WS} {f : Nat} {b : Nat} (h : b < eW E + 0) : gj (i_X8_init_0 E S) f b = gj S f b := by
  unfold i_X8_init_0
  dsimp only
  rw [gj_wr, i_X6_init_127_low_gj (by omega), gj_zA (by omega), gj_wr, i_X6_init_125_low_gj (by omega), gj_zA (by omega), gj_wr, i_X6_init_123_low_gj (by omega), gj_zA (by omega), gj_wr, i_X6_init_121_low_gj (by omega), gj_zA (by omega), gj_wr, i_X3_init_108_low_gj (by omega), gj_zA (by omega), gj_wr, i_X3_init_95_low_gj (by omega), gj_zA (by omega), gj_wr, i_X3_init_82_low_gj (by omega), gj_zA (by omega), gj_sr, gj_zA (by omega), gj_sr, gj_zA (by omega), gj_sr, gj_zA (by omega), gj_sr, i_X2_init_74_low_gj (by omega), gj_zA (by omega), gj_sr, i_X0_init_58_low_gj (by omega), gj_zA (by omega), gj_sr, i_X5_init_50_low_gj (by omega), gj_zA (by omega), gj_sr, i_X7_init_33_low_gj (by omega), gj_zA (by omega), gj_sr, gj_zA (by omega), gj_sr, gj_zA (by omega), gj_sr, gj_zA (by omega), gj_sr, i_X3_init_17_low_gj (by omega), gj_zA (by omega), gj_sr, i_X3_init_4_low_gj (by omega), gj_zA (by omega), gj_sr, i_X4_init_2_low_gj (by omega), gj_zA (by omega), gj_si, gj_sr, gj_zA (by omega)]
theorem i_X8_init_0_low_ai {E : EN} {S : WS} {b : Nat} (h : b < eW E + 0) : ai (i_X8_init_0 E S) b = ai S b := by
  unfold i_X8_init_0
  dsimp only
  rw [ai_wr, i_X6_init_127_low_ai (by omega), ai_zA_a (by omega), ai_wr, i_X6_init_125_low_ai (by omega), ai_zA_a (by omega), ai_wr, i_X6_init_123_low_ai (by omega), ai_zA_a (by omega), ai_wr, i_X6_init_121_low_ai (by omega), ai_zA_a (by omega), ai_wr, i_X3_init_108_low_ai (by omega), ai_zA_a (by omega), ai_wr, i_X3_init_95_low_ai (by omega), ai_zA_a (by omega), ai_wr, i_X3_init_82_low_ai (by omega), ai_zA_a (by omega), ai_sr, ai_zA_a (by omega), ai_sr, ai_zA_a (by omega), ai_sr, ai_zA_a (by omega), ai_sr, i_X2_init_74_low_ai (by omega), ai_zA_a (by omega), ai_sr, i_X0_init_58_low_ai (by omega), ai_zA_a (by omega), ai_sr, i_X5_init_50_low_ai (by omega), ai_zA_a (by omega), ai_sr, i_X7_init_33_low_ai (by omega), ai_zA_a (by omega), ai_sr, ai_zA_a (by omega), ai_sr, ai_zA_a (by omega), ai_sr, ai_zA_a (by omega), ai_sr, i_X3_init_17_low_ai (by omega), ai_zA_a (by omega), ai_sr, i_X3_init_4_low_ai (by omega), ai_zA_a (by omega), ai_sr, i_X4_init_2_low_ai (by omega), ai_zA_a (by omega), ai_si, ai_sr, ai_zA_a (by omega)]
theorem i_X8_init_0_low_aj {E : EN} {S : WS} {b : Nat} (h : b < eW E + 0) : aj (i_X8_init_0 E S) b = aj S b := by
  unfold i_X8_init_0
  dsimp only
  rw [aj_wr, i_X6_init_127_low_aj (by omega), aj_zA_a (by omega), aj_wr, i_X6_init_125_low_aj (by omega), aj_zA_a (by omega), aj_wr, i_X6_init_123_low_aj (by omega), aj_zA_a (by omega), aj_wr, i_X6_init_121_low_aj (by omega), aj_zA_a (by omega), aj_wr, i_X3_init_108_low_aj (by omega), aj_zA_a (by omega), aj_wr, i_X3_init_95_low_aj (by omega), aj_zA_a (by omega), aj_wr, i_X3_init_82_low_aj (by omega), aj_zA_a (by omega), aj_sr, aj_zA_a (by omega), aj_sr, aj_zA_a (by omega), aj_sr, aj_zA_a (by omega), aj_sr, i_X2_init_74_low_aj (by omega), aj_zA_a (by omega), aj_sr, i_X0_init_58_low_aj (by omega), aj_zA_a (by omega), aj_sr, i_X5_init_50_low_aj (by omega), aj_zA_a (by omega), aj_sr, i_X7_init_33_low_aj (by omega), aj_zA_a (by omega), aj_sr, aj_zA_a (by omega), aj_sr, aj_zA_a (by omega), aj_sr, aj_zA_a (by omega), aj_sr, i_X3_init_17_low_aj (by omega), aj_zA_a (by omega), aj_sr, i_X3_init_4_low_aj (by omega), aj_zA_a (by omega), aj_sr, i_X4_init_2_low_aj (by omega), aj_zA_a (by omega), aj_si, aj_sr, aj_zA_a (by omega)]
theorem i_X8_init_0_low_ar {E : EN} {S : WS} {b : Nat} (h : b < eW E + 0) : ar (i_X8_init_0 E S) b = ar S b := by
  unfold i_X8_init_0
  dsimp only
  rw [ar_wr_a (by omega), i_X6_init_127_low_ar (by omega), ar_zA_a (by omega), ar_wr_a (by omega), i_X6_init_125_low_ar (by omega), ar_zA_a (by omega), ar_wr_a (by omega), i_X6_init_123_low_ar (by omega), ar_zA_a (by omega), ar_wr_a (by omega), i_X6_init_121_low_ar (by omega), ar_zA_a (by omega), ar_wr_a (by omega), i_X3_init_108_low_ar (by omega), ar_zA_a (by omega), ar_wr_a (by omega), i_X3_init_95_low_ar (by omega), ar_zA_a (by omega), ar_wr_a (by omega), i_X3_init_82_low_ar (by omega), ar_zA_a (by omega), ar_sr, ar_zA_a (by omega), ar_sr, ar_zA_a (by omega), ar_sr, ar_zA_a (by omega), ar_sr, i_X2_init_74_low_ar (by omega), ar_zA_a (by omega), ar_sr, i_X0_init_58_low_ar (by omega), ar_zA_a (by omega), ar_sr, i_X5_init_50_low_ar (by omega), ar_zA_a (by omega), ar_sr, i_X7_init_33_low_ar (by omega), ar_zA_a (by omega), ar_sr, ar_zA_a (by omega), ar_sr, ar_zA_a (by omega), ar_sr, ar_zA_a (by omega), ar_sr, i_X3_init_17_low_ar (by omega), ar_zA_a (by omega), ar_sr, i_X3_init_4_low_ar (by omega), ar_zA_a (by omega), ar_sr, i_X4_init_2_low_ar (by omega), ar_zA_a (by omega), ar_si, ar_sr, ar_zA_a (by omega)]
def i_X9_init_129 (E : EN) (S : WS) : WS :=
  let S1 := zA S (eW E + 130)
  let S2 := sr S1 513 (eW E + 129) (some (eW E + 130))
  let S3 := zA S2 (eW E + 131)
  let S4 := sr S3 514 (eW E + 129) (some (eW E + 131))
  let S5 := zA S4 (eW E + 132)
  let S6 := sr S5 515 (eW E + 129) (some (eW E + 132))
  let S7 := zA S6 (eW E + 133)
  let S8 := sr S7 516 (eW E + 129) (some (eW E + 133))
  let S9 := zA S8 (eW E + 134)
  let S10 := sr S9 518 (eW E + 129) (some (eW E + 134))
  let S11 := si S10 525 (eW E + 129) (-1 : Int32)
  let S12 := zA S11 (eW E + 135)
  let S13 := sr S12 526 (eW E + 129) (some (eW E + 135))
  let S14 := si S13 527 (eW E + 129) (-1 : Int32)
  let S15 := zA S14 (eW E + 136)
  let S16 := sr S15 529 (eW E + 129) (some (eW E + 136))
  let S17 := zA S16 (eW E + 137)
  let S18 := sr S17 530 (eW E + 129) (some (eW E + 137))
  let S19 := zA S18 (eW E + 138)
  let S20 := sr S19 531 (eW E + 129) (some (eW E + 138))
  let S21 := zA S20 (eW E + 139)
  let S22 := sr S21 533 (eW E + 129) (some (eW E + 139))
  let S23 := zA S22 (eW E + 140)
  let S24 := sr S23 535 (eW E + 129) (some (eW E + 140))
  let S25 := zA S24 (eW E + 141)
  let S26 := sr S25 538 (eW E + 129) (some (eW E + 141))
  let S27 := zA S26 (eW E + 142)
  let S28 := sr S27 542 (eW E + 129) (some (eW E + 142))
  let S29 := zA S28 (eW E + 143)
  let S30 := sr S29 543 (eW E + 129) (some (eW E + 143))
  let S31 := zA S30 (eW E + 144)
  let S32 := sr S31 544 (eW E + 129) (some (eW E + 144))
  let S33 := zA S32 (eW E + 145)
  let S34 := wi S33 (eW E + 145) (upd (ai S33 (eW E + 145)) (0 : Int32).toNatClampNeg (-1 : Int32))
  let S35 := wi S34 (eW E + 145) (upd (ai S34 (eW E + 145)) (1 : Int32).toNatClampNeg (-1 : Int32))
  let S36 := wi S35 (eW E + 145) (upd (ai S35 (eW E + 145)) (2 : Int32).toNatClampNeg (-1 : Int32))
  let S37 := wi S36 (eW E + 145) (upd (ai S36 (eW E + 145)) (3 : Int32).toNatClampNeg (-1 : Int32))
  let S38 := sr S37 546 (eW E + 129) (some (eW E + 145))
  let S39 := zA S38 (eW E + 146)
  let S40 := sr S39 547 (eW E + 129) (some (eW E + 146))
  let S41 := zA S40 (eW E + 147)
  let S42 := sr S41 548 (eW E + 129) (some (eW E + 147))
  let S43 := zA S42 (eW E + 148)
  let S44 := sr S43 549 (eW E + 129) (some (eW E + 148))
  S44
theorem i_X9_init_129_low {E : EN} {S : WS} {f : Nat} {b : Nat} (h : b < eW E + 129) : gr (i_X9_init_129 E S) f b = gr S f b := by
  unfold i_X9_init_129
  dsimp only
  rw [gr_sr_a (by omega), gr_zA (by omega), gr_sr_a (by omega), gr_zA (by omega), gr_sr_a (by omega), gr_zA (by omega), gr_sr_a (by omega), gr_wi, gr_wi, gr_wi, gr_wi, gr_zA (by omega), gr_sr_a (by omega), gr_zA (by omega), gr_sr_a (by omega), gr_zA (by omega), gr_sr_a (by omega), gr_zA (by omega), gr_sr_a (by omega), gr_zA (by omega), gr_sr_a (by omega), gr_zA (by omega), gr_sr_a (by omega), gr_zA (by omega), gr_sr_a (by omega), gr_zA (by omega), gr_sr_a (by omega), gr_zA (by omega), gr_sr_a (by omega), gr_zA (by omega), gr_si, gr_sr_a (by omega), gr_zA (by omega), gr_si, gr_sr_a (by omega), gr_zA (by omega), gr_sr_a (by omega), gr_zA (by omega), gr_sr_a (by omega), gr_zA (by omega), gr_sr_a (by omega), gr_zA (by omega), gr_sr_a (by omega), gr_zA (by omega)]
theorem i_X9_init_129_low_gi {E : EN} {S : WS} {f : Nat} {b : Nat} (h : b < eW E + 129) : gi (i_X9_init_129 E S) f b = gi S f b := by
  unfold i_X9_init_129
  dsimp only
  rw [gi_sr, gi_zA (by omega), gi_sr, gi_zA (by omega), gi_sr, gi_zA (by omega), gi_sr, gi_wi, gi_wi, gi_wi, gi_wi, gi_zA (by omega), gi_sr, gi_zA (by omega), gi_sr, gi_zA (by omega), gi_sr, gi_zA (by omega), gi_sr, gi_zA (by omega), gi_sr, gi_zA (by omega), gi_sr, gi_zA (by omega), gi_sr, gi_zA (by omega), gi_sr, gi_zA (by omega), gi_sr, gi_zA (by omega), gi_si_a (by omega), gi_sr, gi_zA (by omega), gi_si_a (by omega), gi_sr, gi_zA (by omega), gi_sr, gi_zA (by omega), gi_sr, gi_zA (by omega), gi_sr, gi_zA (by omega), gi_sr, gi_zA (by omega)]
theorem i_X9_init_129_low_gj {E : EN} {S : WS} {f : Nat} {b : Nat} (h : b < eW E + 129) : gj (i_X9_init_129 E S) f b = gj S f b := by
  unfold i_X9_init_129
  dsimp only
  rw [gj_sr, gj_zA (by omega), gj_sr, gj_zA (by omega), gj_sr, gj_zA (by omega), gj_sr, gj_wi, gj_wi, gj_wi, gj_wi, gj_zA (by omega), gj_sr, gj_zA (by omega), gj_sr, gj_zA (by omega), gj_sr, gj_zA (by omega), gj_sr, gj_zA (by omega), gj_sr, gj_zA (by omega), gj_sr, gj_zA (by omega), gj_sr, gj_zA (by omega), gj_sr, gj_zA (by omega), gj_sr, gj_zA (by omega), gj_si, gj_sr, gj_zA (by omega), gj_si, gj_sr, gj_zA (by omega), gj_sr, gj_zA (by omega), gj_sr, gj_zA (by omega), gj_sr, gj_zA (by omega), gj_sr, gj_zA (by omega)]
theorem i_X9_init_129_low_ai {E : EN} {S : WS} {b : Nat} (h : b < eW E + 129) : ai (i_X9_init_129 E S) b = ai S b := by
  unfold i_X9_init_129
  dsimp only
  rw [ai_sr, ai_zA_a (by omega), ai_sr, ai_zA_a (by omega), ai_sr, ai_zA_a (by omega), ai_sr, ai_wi_a (by omega), ai_wi_a (by omega), ai_wi_a (by omega), ai_wi_a (by omega), ai_zA_a (by omega), ai_sr, ai_zA_a (by omega), ai_sr, ai_zA_a (by omega), ai_sr, ai_zA_a (by omega), ai_sr, ai_zA_a (by omega), ai_sr, ai_zA_a (by omega), ai_sr, ai_zA_a (by omega), ai_sr, ai_zA_a (by omega), ai_sr, ai_zA_a (by omega), ai_sr, ai_zA_a (by omega), ai_si, ai_sr, ai_zA_a (by omega), ai_si, ai_sr, ai_zA_a (by omega), ai_sr, ai_zA_a (by omega), ai_sr, ai_zA_a (by omega), ai_sr, ai_zA_a (by omega), ai_sr, ai_zA_a (by omega)]
theorem i_X9_init_129_low_aj {E : EN} {S : WS} {b : Nat} (h : b < eW E + 129) : aj (i_X9_init_129 E S) b = aj S b := by
  unfold i_X9_init_129
  dsimp only
  rw [aj_sr, aj_zA_a (by omega), aj_sr, aj_zA_a (by omega), aj_sr, aj_zA_a (by omega), aj_sr, aj_wi, aj_wi, aj_wi, aj_wi, aj_zA_a (by omega), aj_sr, aj_zA_a (by omega), aj_sr, aj_zA_a (by omega), aj_sr, aj_zA_a (by omega), aj_sr, aj_zA_a (by omega), aj_sr, aj_zA_a (by omega), aj_sr, aj_zA_a (by omega), aj_sr, aj_zA_a (by omega), aj_sr, aj_zA_a (by omega), aj_sr, aj_zA_a (by omega), aj_si, aj_sr, aj_zA_a (by omega), aj_si, aj_sr, aj_zA_a (by omega), aj_sr, aj_zA_a (by omega), aj_sr, aj_zA_a (by omega), aj_sr, aj_zA_a (by omega), aj_sr, aj_zA_a (by omega)]
theorem i_X9_init_129_low_ar {E : EN} {S : WS} {b : Nat} (h : b < eW E + 129) : ar (i_X9_init_129 E S) b = ar S b := by
  unfold i_X9_init_129
  dsimp only
  rw [ar_sr, ar_zA_a (by omega), ar_sr, ar_zA_a (by omega), ar_sr, ar_zA_a (by omega), ar_sr, ar_wi, ar_wi, ar_wi, ar_wi, ar_zA_a (by omega), ar_sr, ar_zA_a (by omega), ar_sr, ar_zA_a (by omega), ar_sr, ar_zA_a (by omega), ar_sr, ar_zA_a (by omega), ar_sr, ar_zA_a (by omega), ar_sr, ar_zA_a (by omega), ar_sr, ar_zA_a (by omega), ar_sr, ar_zA_a (by omega), ar_sr, ar_zA_a (by omega), ar_si, ar_sr, ar_zA_a (by omega), ar_si, ar_sr, ar_zA_a (by omega), ar_sr, ar_zA_a (by omega), ar_sr, ar_zA_a (by omega), ar_sr, ar_zA_a (by omega), ar_sr, ar_zA_a (by omega)]
set_option maxRecDepth 100000 in
set_option maxHeartbeats 4000000 in
theorem c_i_X4_init_2 (l : Launch) (E : EN) (S : WS) : CI l E yX4_init cX4_init 1 1 20 1 0 [.ref (eW E + 2)] 3 4 S (i_X4_init_2 E S) := by
  refine ci_of RX4 (by decide +kernel) rfl rfl [(0, .ref (eW E + 2))] rfl (Nat.le_of_ble_eq_true rfl) (fun A hA C hr hlocks hin => ?_)
  subst hA
  refine z_aload_n C 0 dX4_init_0 rfl ?_
  refine z_objInit C (mG 181 (by decide +kernel) rfl) zobj_w ⟨by decide, by decide⟩ (Nat.le_of_ble_eq_true rfl) dX4_init_1 ?_
  refine z_aload_n C 0 dX4_init_4 rfl ?_
  refine z_iconst C (0 : Int32) dX4_init_5 (by decide) ?_
  refine z_newa C 9 0 (ty := .byte) rfl (mG 209 (by decide +kernel) rfl) rfl (by decide) (fun _ _ h => h) (by decide) (by decide) rfl (by decide) (fun cA => by rw [ct_i (by rw [kEE]; decide) (by rw [kEE]; decide), ai_zA, vp_cell_i]; rfl) (by decide) (by decide) dX4_init_6 ?_
  refine z_putr C flo_X4_9 hin dX4_init_8 (tEE (by decide) rfl) (tEE (by decide) rfl) rfl rfl ?_
  refine z_aload_n C 0 dX4_init_11 rfl ?_
  refine z_iconst C (0 : Int32) dX4_init_12 (by decide) ?_
  refine z_puti C flo_X4_15 hin dX4_init_13 (tEE (by decide) rfl) ?_
  refine z_aload_n C 0 dX4_init_16 rfl ?_
  refine z_iconst C (0 : Int32) dX4_init_17 (by decide) ?_
  refine z_puti C flo_X4_19 hin dX4_init_18 (tEE (by decide) rfl) ?_
  refine z_aload_n C 0 dX4_init_21 rfl ?_
  refine z_iconst C (0 : Int32) dX4_init_22 (by decide) ?_
  refine z_puti C flo_X4_22 hin dX4_init_23 (tEE (by decide) rfl) ?_
  refine z_aload_n C 0 dX4_init_26 rfl ?_
  refine z_iconst C (0 : Int32) dX4_init_27 (by decide) ?_
  refine z_puti C flo_X4_25 hin dX4_init_28 (tEE (by decide) rfl) ?_
  refine z_aload_n C 0 dX4_init_31 rfl ?_
  refine z_iconst C (0 : Int32) dX4_init_32 (by decide) ?_
  refine z_puti C flo_X4_28 hin dX4_init_33 (tEE (by decide) rfl) ?_
  refine z_aload_n C 0 dX4_init_36 rfl ?_
  refine z_iconst C (0 : Int32) dX4_init_37 (by decide) ?_
  refine z_puti C flo_X4_31 hin dX4_init_38 (tEE (by decide) rfl) ?_
  refine z_aload_n C 0 dX4_init_41 rfl ?_
  refine z_iconst C (-1 : Int32) dX4_init_42 (by decide) ?_
  refine z_puti C flo_X4_34 hin dX4_init_43 (tEE (by decide) rfl) ?_
  exact z_return C hr hlocks dX4_init_46 (by decide) (by decide)
set_option maxRecDepth 100000 in
set_option maxHeartbeats 4000000 in
theorem c_i_X3_init_4 (l : Launch) (E : EN) (S : WS) : CI l E yX3_init cX3_init 1 1 20 12 102 [.ref (eW E + 4)] 5 17 S (i_X3_init_4 E S) := by
  refine ci_of RX3 (by decide +kernel) rfl rfl [(0, .ref (eW E + 4))] rfl (Nat.le_of_ble_eq_true rfl) (fun A hA C hr hlocks hin => ?_)
  subst hA
  refine z_aload_n C 0 dX3_init_0 rfl ?_
  refine z_objInit C (mG 215 (by decide +kernel) rfl) zobj_w ⟨by decide, by decide⟩ (Nat.le_of_ble_eq_true rfl) dX3_init_1 ?_
  refine z_aload_n C 0 dX3_init_4 rfl ?_
  refine z_bipush C (8 : Int32) dX3_init_5 (by decide) ?_
  refine z_newa C 10 8 (ty := .int) rfl (mG 323 (by decide +kernel) rfl) rfl (by decide) (fun _ _ h => h) (by decide) (by decide) rfl (by decide) (fun cA => by rw [ct_i (by rw [kEE]; decide) (by rw [kEE]; decide), ai_zA, vp_cell_i]; rfl) (by decide) (by decide) dX3_init_7 ?_
  refine z_putr C flo_X3_9 hin dX3_init_9 (tEE (by decide) rfl) (tEE (by decide) rfl) rfl rfl ?_
  refine z_aload_n C 0 dX3_init_12 rfl ?_
  refine z_bipush C (10 : Int32) dX3_init_13 (by decide) ?_
  refine z_newa C 10 10 (ty := .int) rfl (mG 323 (by decide +kernel) rfl) rfl (by decide) (fun _ _ h => h) (by decide) (by decide) rfl (by decide) (fun cA => by rw [ct_i (by rw [kEE]; decide) (by rw [kEE]; decide), ai_zA, vp_cell_i]; rfl) (by decide) (by decide) dX3_init_15 ?_
  refine z_putr C flo_X3_15 hin dX3_init_17 (tEE (by decide) rfl) (tEE (by decide) rfl) rfl rfl ?_
  refine z_aload_n C 0 dX3_init_20 rfl ?_
  refine z_bipush C (10 : Int32) dX3_init_21 (by decide) ?_
  refine z_newa C 10 10 (ty := .int) rfl (mG 323 (by decide +kernel) rfl) rfl (by decide) (fun _ _ h => h) (by decide) (by decide) rfl (by decide) (fun cA => by rw [ct_i (by rw [kEE]; decide) (by rw [kEE]; decide), ai_zA, vp_cell_i]; rfl) (by decide) (by decide) dX3_init_23 ?_
  refine z_putr C flo_X3_18 hin dX3_init_25 (tEE (by decide) rfl) (tEE (by decide) rfl) rfl rfl ?_
  refine z_aload_n C 0 dX3_init_28 rfl ?_
  refine z_iconst C (4 : Int32) dX3_init_29 (by decide) ?_
  refine z_newa C 10 4 (ty := .int) rfl (mG 323 (by decide +kernel) rfl) rfl (by decide) (fun _ _ h => h) (by decide) (by decide) rfl (by decide) (fun cA => by rw [ct_i (by rw [kEE]; decide) (by rw [kEE]; decide), ai_zA, vp_cell_i]; rfl) (by decide) (by decide) dX3_init_30 ?_
  refine z_putr C flo_X3_21 hin dX3_init_32 (tEE (by decide) rfl) (tEE (by decide) rfl) rfl rfl ?_
  refine z_aload_n C 0 dX3_init_35 rfl ?_
  refine z_iconst C (4 : Int32) dX3_init_36 (by decide) ?_
  refine z_newa C 10 4 (ty := .int) rfl (mG 323 (by decide +kernel) rfl) rfl (by decide) (fun _ _ h => h) (by decide) (by decide) rfl (by decide) (fun cA => by rw [ct_i (by rw [kEE]; decide) (by rw [kEE]; decide), ai_zA, vp_cell_i]; rfl) (by decide) (by decide) dX3_init_37 ?_
  refine z_putr C flo_X3_24 hin dX3_init_39 (tEE (by decide) rfl) (tEE (by decide) rfl) rfl rfl ?_
  refine z_aload_n C 0 dX3_init_42 rfl ?_
  refine z_bipush C (7 : Int32) dX3_init_43 (by decide) ?_
  refine z_newa C 10 7 (ty := .int) rfl (mG 323 (by decide +kernel) rfl) rfl (by decide) (fun _ _ h => h) (by decide) (by decide) rfl (by decide) (fun cA => by rw [ct_i (by rw [kEE]; decide) (by rw [kEE]; decide), ai_zA, vp_cell_i]; rfl) (by decide) (by decide) dX3_init_45 ?_
  refine z_putr C flo_X3_27 hin dX3_init_47 (tEE (by decide) rfl) (tEE (by decide) rfl) rfl rfl ?_
  refine z_aload_n C 0 dX3_init_50 rfl ?_
  refine z_bipush C (7 : Int32) dX3_init_51 (by decide) ?_
  refine z_newa C 10 7 (ty := .int) rfl (mG 323 (by decide +kernel) rfl) rfl (by decide) (fun _ _ h => h) (by decide) (by decide) rfl (by decide) (fun cA => by rw [ct_i (by rw [kEE]; decide) (by rw [kEE]; decide), ai_zA, vp_cell_i]; rfl) (by decide) (by decide) dX3_init_53 ?_
  refine z_putr C flo_X3_30 hin dX3_init_55 (tEE (by decide) rfl) (tEE (by decide) rfl) rfl rfl ?_
  refine z_aload_n C 0 dX3_init_58 rfl ?_
  refine z_bipush C (7 : Int32) dX3_init_59 (by decide) ?_
  refine z_newa C 10 7 (ty := .int) rfl (mG 323 (by decide +kernel) rfl) rfl (by decide) (fun _ _ h => h) (by decide) (by decide) rfl (by decide) (fun cA => by rw [ct_i (by rw [kEE]; decide) (by rw [kEE]; decide), ai_zA, vp_cell_i]; rfl) (by decide) (by decide) dX3_init_61 ?_
  refine z_putr C flo_X3_33 hin dX3_init_63 (tEE (by decide) rfl) (tEE (by decide) rfl) rfl rfl ?_
  refine z_aload_n C 0 dX3_init_66 rfl ?_
  refine z_bipush C (7 : Int32) dX3_init_67 (by decide) ?_
  refine z_newa C 10 7 (ty := .int) rfl (mG 323 (by decide +kernel) rfl) rfl (by decide) (fun _ _ h => h) (by decide) (by decide) rfl (by decide) (fun cA => by rw [ct_i (by rw [kEE]; decide) (by rw [kEE]; decide), ai_zA, vp_cell_i]; rfl) (by decide) (by decide) dX3_init_69 ?_
  refine z_putr C flo_X3_36 hin dX3_init_71 (tEE (by decide) rfl) (tEE (by decide) rfl) rfl rfl ?_
  refine z_aload_n C 0 dX3_init_74 rfl ?_
  refine z_bipush C (30 : Int32) dX3_init_75 (by decide) ?_
  refine z_newa C 10 30 (ty := .int) rfl (mG 323 (by decide +kernel) rfl) rfl (by decide) (fun _ _ h => h) (by decide) (by decide) rfl (by decide) (fun cA => by rw [ct_i (by rw [kEE]; decide) (by rw [kEE]; decide), ai_zA, vp_cell_i]; rfl) (by decide) (by decide) dX3_init_77 ?_
  refine z_putr C flo_X3_39 hin dX3_init_79 (tEE (by decide) rfl) (tEE (by decide) rfl) rfl rfl ?_
  refine z_aload_n C 0 dX3_init_82 rfl ?_
  refine z_iconst C (4 : Int32) dX3_init_83 (by decide) ?_
  refine z_newa C 10 4 (ty := .int) rfl (mG 323 (by decide +kernel) rfl) rfl (by decide) (fun _ _ h => h) (by decide) (by decide) rfl (by decide) (fun cA => by rw [ct_i (by rw [kEE]; decide) (by rw [kEE]; decide), ai_zA, vp_cell_i]; rfl) (by decide) (by decide) dX3_init_84 ?_
  refine z_putr C flo_X3_42 hin dX3_init_86 (tEE (by decide) rfl) (tEE (by decide) rfl) rfl rfl ?_
  refine z_aload_n C 0 dX3_init_89 rfl ?_
  refine z_iconst C (4 : Int32) dX3_init_90 (by decide) ?_
  refine z_newa C 10 4 (ty := .int) rfl (mG 323 (by decide +kernel) rfl) rfl (by decide) (fun _ _ h => h) (by decide) (by decide) rfl (by decide) (fun cA => by rw [ct_i (by rw [kEE]; decide) (by rw [kEE]; decide), ai_zA, vp_cell_i]; rfl) (by decide) (by decide) dX3_init_91 ?_
  refine z_putr C flo_X3_45 hin dX3_init_93 (tEE (by decide) rfl) (tEE (by decide) rfl) rfl rfl ?_
  exact z_return C hr hlocks dX3_init_96 (by decide) (by decide)
set_option maxRecDepth 100000 in
set_option maxHeartbeats 4000000 in
theorem c_i_X3_init_17 (l : Launch) (E : EN) (S : WS) : CI l E yX3_init cX3_init 1 1 20 12 102 [.ref (eW E + 17)] 18 30 S (i_X3_init_17 E S) := by
  refine ci_of RX3 (by decide +kernel) rfl rfl [(0, .ref (eW E + 17))] rfl (Nat.le_of_ble_eq_true rfl) (fun A hA C hr hlocks hin => ?_)
  subst hA
  refine z_aload_n C 0 dX3_init_0 rfl ?_
  refine z_objInit C (mG 215 (by decide +kernel) rfl) zobj_w ⟨by decide, by decide⟩ (Nat.le_of_ble_eq_true rfl) dX3_init_1 ?_
  refine z_aload_n C 0 dX3_init_4 rfl ?_
  refine z_bipush C (8 : Int32) dX3_init_5 (by decide) ?_
  refine z_newa C 10 8 (ty := .int) rfl (mG 323 (by decide +kernel) rfl) rfl (by decide) (fun _ _ h => h) (by decide) (by decide) rfl (by decide) (fun cA => by rw [ct_i (by rw [kEE]; decide) (by rw [kEE]; decide), ai_zA, vp_cell_i]; rfl) (by decide) (by decide) dX3_init_7 ?_
  refine z_putr C flo_X3_9 hin dX3_init_9 (tEE (by decide) rfl) (tEE (by decide) rfl) rfl rfl ?_
  refine z_aload_n C 0 dX3_init_12 rfl ?_
  refine z_bipush C (10 : Int32) dX3_init_13 (by decide) ?_
  refine z_newa C 10 10 (ty := .int) rfl (mG 323 (by decide +kernel) rfl) rfl (by decide) (fun _ _ h => h) (by decide) (by decide) rfl (by decide) (fun cA => by rw [ct_i (by rw [kEE]; decide) (by rw [kEE]; decide), ai_zA, vp_cell_i]; rfl) (by decide) (by decide) dX3_init_15 ?_
  refine z_putr C flo_X3_15 hin dX3_init_17 (tEE (by decide) rfl) (tEE (by decide) rfl) rfl rfl ?_
  refine z_aload_n C 0 dX3_init_20 rfl ?_
  refine z_bipush C (10 : Int32) dX3_init_21 (by decide) ?_
  refine z_newa C 10 10 (ty := .int) rfl (mG 323 (by decide +kernel) rfl) rfl (by decide) (fun _ _ h => h) (by decide) (by decide) rfl (by decide) (fun cA => by rw [ct_i (by rw [kEE]; decide) (by rw [kEE]; decide), ai_zA, vp_cell_i]; rfl) (by decide) (by decide) dX3_init_23 ?_
  refine z_putr C flo_X3_18 hin dX3_init_25 (tEE (by decide) rfl) (tEE (by decide) rfl) rfl rfl ?_
  refine z_aload_n C 0 dX3_init_28 rfl ?_
  refine z_iconst C (4 : Int32) dX3_init_29 (by decide) ?_
  refine z_newa C 10 4 (ty := .int) rfl (mG 323 (by decide +kernel) rfl) rfl (by decide) (fun _ _ h => h) (by decide) (by decide) rfl (by decide) (fun cA => by rw [ct_i (by rw [kEE]; decide) (by rw [kEE]; decide), ai_zA, vp_cell_i]; rfl) (by decide) (by decide) dX3_init_30 ?_
  refine z_putr C flo_X3_21 hin dX3_init_32 (tEE (by decide) rfl) (tEE (by decide) rfl) rfl rfl ?_
  refine z_aload_n C 0 dX3_init_35 rfl ?_
  refine z_iconst C (4 : Int32) dX3_init_36 (by decide) ?_
  refine z_newa C 10 4 (ty := .int) rfl (mG 323 (by decide +kernel) rfl) rfl (by decide) (fun _ _ h => h) (by decide) (by decide) rfl (by decide) (fun cA => by rw [ct_i (by rw [kEE]; decide) (by rw [kEE]; decide), ai_zA, vp_cell_i]; rfl) (by decide) (by decide) dX3_init_37 ?_
  refine z_putr C flo_X3_24 hin dX3_init_39 (tEE (by decide) rfl) (tEE (by decide) rfl) rfl rfl ?_
  refine z_aload_n C 0 dX3_init_42 rfl ?_
  refine z_bipush C (7 : Int32) dX3_init_43 (by decide) ?_
  refine z_newa C 10 7 (ty := .int) rfl (mG 323 (by decide +kernel) rfl) rfl (by decide) (fun _ _ h => h) (by decide) (by decide) rfl (by decide) (fun cA => by rw [ct_i (by rw [kEE]; decide) (by rw [kEE]; decide), ai_zA, vp_cell_i]; rfl) (by decide) (by decide) dX3_init_45 ?_
  refine z_putr C flo_X3_27 hin dX3_init_47 (tEE (by decide) rfl) (tEE (by decide) rfl) rfl rfl ?_
  refine z_aload_n C 0 dX3_init_50 rfl ?_
  refine z_bipush C (7 : Int32) dX3_init_51 (by decide) ?_
  refine z_newa C 10 7 (ty := .int) rfl (mG 323 (by decide +kernel) rfl) rfl (by decide) (fun _ _ h => h) (by decide) (by decide) rfl (by decide) (fun cA => by rw [ct_i (by rw [kEE]; decide) (by rw [kEE]; decide), ai_zA, vp_cell_i]; rfl) (by decide) (by decide) dX3_init_53 ?_
  refine z_putr C flo_X3_30 hin dX3_init_55 (tEE (by decide) rfl) (tEE (by decide) rfl) rfl rfl ?_
  refine z_aload_n C 0 dX3_init_58 rfl ?_
  refine z_bipush C (7 : Int32) dX3_init_59 (by decide) ?_
  refine z_newa C 10 7 (ty := .int) rfl (mG 323 (by decide +kernel) rfl) rfl (by decide) (fun _ _ h => h) (by decide) (by decide) rfl (by decide) (fun cA => by rw [ct_i (by rw [kEE]; decide) (by rw [kEE]; decide), ai_zA, vp_cell_i]; rfl) (by decide) (by decide) dX3_init_61 ?_
  refine z_putr C flo_X3_33 hin dX3_init_63 (tEE (by decide) rfl) (tEE (by decide) rfl) rfl rfl ?_
  refine z_aload_n C 0 dX3_init_66 rfl ?_
  refine z_bipush C (7 : Int32) dX3_init_67 (by decide) ?_
  refine z_newa C 10 7 (ty := .int) rfl (mG 323 (by decide +kernel) rfl) rfl (by decide) (fun _ _ h => h) (by decide) (by decide) rfl (by decide) (fun cA => by rw [ct_i (by rw [kEE]; decide) (by rw [kEE]; decide), ai_zA, vp_cell_i]; rfl) (by decide) (by decide) dX3_init_69 ?_
  refine z_putr C flo_X3_36 hin dX3_init_71 (tEE (by decide) rfl) (tEE (by decide) rfl) rfl rfl ?_
  refine z_aload_n C 0 dX3_init_74 rfl ?_
  refine z_bipush C (30 : Int32) dX3_init_75 (by decide) ?_
  refine z_newa C 10 30 (ty := .int) rfl (mG 323 (by decide +kernel) rfl) rfl (by decide) (fun _ _ h => h) (by decide) (by decide) rfl (by decide) (fun cA => by rw [ct_i (by rw [kEE]; decide) (by rw [kEE]; decide), ai_zA, vp_cell_i]; rfl) (by decide) (by decide) dX3_init_77 ?_
  refine z_putr C flo_X3_39 hin dX3_init_79 (tEE (by decide) rfl) (tEE (by decide) rfl) rfl rfl ?_
  refine z_aload_n C 0 dX3_init_82 rfl ?_
  refine z_iconst C (4 : Int32) dX3_init_83 (by decide) ?_
  refine z_newa C 10 4 (ty := .int) rfl (mG 323 (by decide +kernel) rfl) rfl (by decide) (fun _ _ h => h) (by decide) (by decide) rfl (by decide) (fun cA => by rw [ct_i (by rw [kEE]; decide) (by rw [kEE]; decide), ai_zA, vp_cell_i]; rfl) (by decide) (by decide) dX3_init_84 ?_
  refine z_putr C flo_X3_42 hin dX3_init_86 (tEE (by decide) rfl) (tEE (by decide) rfl) rfl rfl ?_
  refine z_aload_n C 0 dX3_init_89 rfl ?_
  refine z_iconst C (4 : Int32) dX3_init_90 (by decide) ?_
  refine z_newa C 10 4 (ty := .int) rfl (mG 323 (by decide +kernel) rfl) rfl (by decide) (fun _ _ h => h) (by decide) (by decide) rfl (by decide) (fun cA => by rw [ct_i (by rw [kEE]; decide) (by rw [kEE]; decide), ai_zA, vp_cell_i]; rfl) (by decide) (by decide) dX3_init_91 ?_
  refine z_putr C flo_X3_45 hin dX3_init_93 (tEE (by decide) rfl) (tEE (by decide) rfl) rfl rfl ?_
  exact z_return C hr hlocks dX3_init_96 (by decide) (by decide)
set_option maxRecDepth 100000 in
set_option maxHeartbeats 4000000 in
theorem c_i_X3_init_34 (l : Launch) (E : EN) (S : WS) : CI l E yX3_init cX3_init 1 1 20 12 102 [.ref (eW E + 34)] 35 47 S (i_X3_init_34 E S) := by
  refine ci_of RX3 (by decide +kernel) rfl rfl [(0, .ref (eW E + 34))] rfl (Nat.le_of_ble_eq_true rfl) (fun A hA C hr hlocks hin => ?_)
  subst hA
  refine z_aload_n C 0 dX3_init_0 rfl ?_
  refine z_objInit C (mG 215 (by decide +kernel) rfl) zobj_w ⟨by decide, by decide⟩ (Nat.le_of_ble_eq_true rfl) dX3_init_1 ?_
  refine z_aload_n C 0 dX3_init_4 rfl ?_
  refine z_bipush C (8 : Int32) dX3_init_5 (by decide) ?_
  refine z_newa C 10 8 (ty := .int) rfl (mG 323 (by decide +kernel) rfl) rfl (by decide) (fun _ _ h => h) (by decide) (by decide) rfl (by decide) (fun cA => by rw [ct_i (by rw [kEE]; decide) (by rw [kEE]; decide), ai_zA, vp_cell_i]; rfl) (by decide) (by decide) dX3_init_7 ?_
  refine z_putr C flo_X3_9 hin dX3_init_9 (tEE (by decide) rfl) (tEE (by decide) rfl) rfl rfl ?_
  refine z_aload_n C 0 dX3_init_12 rfl ?_
  refine z_bipush C (10 : Int32) dX3_init_13 (by decide) ?_
  refine z_newa C 10 10 (ty := .int) rfl (mG 323 (by decide +kernel) rfl) rfl (by decide) (fun _ _ h => h) (by decide) (by decide) rfl (by decide) (fun cA => by rw [ct_i (by rw [kEE]; decide) (by rw [kEE]; decide), ai_zA, vp_cell_i]; rfl) (by decide) (by decide) dX3_init_15 ?_
  refine z_putr C flo_X3_15 hin dX3_init_17 (tEE (by decide) rfl) (tEE (by decide) rfl) rfl rfl ?_
  refine z_aload_n C 0 dX3_init_20 rfl ?_
  refine z_bipush C (10 : Int32) dX3_init_21 (by decide) ?_
  refine z_newa C 10 10 (ty := .int) rfl (mG 323 (by decide +kernel) rfl) rfl (by decide) (fun _ _ h => h) (by decide) (by decide) rfl (by decide) (fun cA => by rw [ct_i (by rw [kEE]; decide) (by rw [kEE]; decide), ai_zA, vp_cell_i]; rfl) (by decide) (by decide) dX3_init_23 ?_
  refine z_putr C flo_X3_18 hin dX3_init_25 (tEE (by decide) rfl) (tEE (by decide) rfl) rfl rfl ?_
  refine z_aload_n C 0 dX3_init_28 rfl ?_
  refine z_iconst C (4 : Int32) dX3_init_29 (by decide) ?_
  refine z_newa C 10 4 (ty := .int) rfl (mG 323 (by decide +kernel) rfl) rfl (by decide) (fun _ _ h => h) (by decide) (by decide) rfl (by decide) (fun cA => by rw [ct_i (by rw [kEE]; decide) (by rw [kEE]; decide), ai_zA, vp_cell_i]; rfl) (by decide) (by decide) dX3_init_30 ?_
  refine z_putr C flo_X3_21 hin dX3_init_32 (tEE (by decide) rfl) (tEE (by decide) rfl) rfl rfl ?_
  refine z_aload_n C 0 dX3_init_35 rfl ?_
  refine z_iconst C (4 : Int32) dX3_init_36 (by decide) ?_
  refine z_newa C 10 4 (ty := .int) rfl (mG 323 (by decide +kernel) rfl) rfl (by decide) (fun _ _ h => h) (by decide) (by decide) rfl (by decide) (fun cA => by rw [ct_i (by rw [kEE]; decide) (by rw [kEE]; decide), ai_zA, vp_cell_i]; rfl) (by decide) (by decide) dX3_init_37 ?_
  refine z_putr C flo_X3_24 hin dX3_init_39 (tEE (by decide) rfl) (tEE (by decide) rfl) rfl rfl ?_
  refine z_aload_n C 0 dX3_init_42 rfl ?_
  refine z_bipush C (7 : Int32) dX3_init_43 (by decide) ?_
  refine z_newa C 10 7 (ty := .int) rfl (mG 323 (by decide +kernel) rfl) rfl (by decide) (fun _ _ h => h) (by decide) (by decide) rfl (by decide) (fun cA => by rw [ct_i (by rw [kEE]; decide) (by rw [kEE]; decide), ai_zA, vp_cell_i]; rfl) (by decide) (by decide) dX3_init_45 ?_
  refine z_putr C flo_X3_27 hin dX3_init_47 (tEE (by decide) rfl) (tEE (by decide) rfl) rfl rfl ?_
  refine z_aload_n C 0 dX3_init_50 rfl ?_
  refine z_bipush C (7 : Int32) dX3_init_51 (by decide) ?_
  refine z_newa C 10 7 (ty := .int) rfl (mG 323 (by decide +kernel) rfl) rfl (by decide) (fun _ _ h => h) (by decide) (by decide) rfl (by decide) (fun cA => by rw [ct_i (by rw [kEE]; decide) (by rw [kEE]; decide), ai_zA, vp_cell_i]; rfl) (by decide) (by decide) dX3_init_53 ?_
  refine z_putr C flo_X3_30 hin dX3_init_55 (tEE (by decide) rfl) (tEE (by decide) rfl) rfl rfl ?_
  refine z_aload_n C 0 dX3_init_58 rfl ?_
  refine z_bipush C (7 : Int32) dX3_init_59 (by decide) ?_
  refine z_newa C 10 7 (ty := .int) rfl (mG 323 (by decide +kernel) rfl) rfl (by decide) (fun _ _ h => h) (by decide) (by decide) rfl (by decide) (fun cA => by rw [ct_i (by rw [kEE]; decide) (by rw [kEE]; decide), ai_zA, vp_cell_i]; rfl) (by decide) (by decide) dX3_init_61 ?_
  refine z_putr C flo_X3_33 hin dX3_init_63 (tEE (by decide) rfl) (tEE (by decide) rfl) rfl rfl ?_
  refine z_aload_n C 0 dX3_init_66 rfl ?_
  refine z_bipush C (7 : Int32) dX3_init_67 (by decide) ?_
  refine z_newa C 10 7 (ty := .int) rfl (mG 323 (by decide +kernel) rfl) rfl (by decide) (fun _ _ h => h) (by decide) (by decide) rfl (by decide) (fun cA => by rw [ct_i (by rw [kEE]; decide) (by rw [kEE]; decide), ai_zA, vp_cell_i]; rfl) (by decide) (by decide) dX3_init_69 ?_
  refine z_putr C flo_X3_36 hin dX3_init_71 (tEE (by decide) rfl) (tEE (by decide) rfl) rfl rfl ?_
  refine z_aload_n C 0 dX3_init_74 rfl ?_
  refine z_bipush C (30 : Int32) dX3_init_75 (by decide) ?_
  refine z_newa C 10 30 (ty := .int) rfl (mG 323 (by decide +kernel) rfl) rfl (by decide) (fun _ _ h => h) (by decide) (by decide) rfl (by decide) (fun cA => by rw [ct_i (by rw [kEE]; decide) (by rw [kEE]; decide), ai_zA, vp_cell_i]; rfl) (by decide) (by decide) dX3_init_77 ?_
  refine z_putr C flo_X3_39 hin dX3_init_79 (tEE (by decide) rfl) (tEE (by decide) rfl) rfl rfl ?_
  refine z_aload_n C 0 dX3_init_82 rfl ?_
  refine z_iconst C (4 : Int32) dX3_init_83 (by decide) ?_
  refine z_newa C 10 4 (ty := .int) rfl (mG 323 (by decide +kernel) rfl) rfl (by decide) (fun _ _ h => h) (by decide) (by decide) rfl (by decide) (fun cA => by rw [ct_i (by rw [kEE]; decide) (by rw [kEE]; decide), ai_zA, vp_cell_i]; rfl) (by decide) (by decide) dX3_init_84 ?_
  refine z_putr C flo_X3_42 hin dX3_init_86 (tEE (by decide) rfl) (tEE (by decide) rfl) rfl rfl ?_
  refine z_aload_n C 0 dX3_init_89 rfl ?_
  refine z_iconst C (4 : Int32) dX3_init_90 (by decide) ?_
  refine z_newa C 10 4 (ty := .int) rfl (mG 323 (by decide +kernel) rfl) rfl (by decide) (fun _ _ h => h) (by decide) (by decide) rfl (by decide) (fun cA => by rw [ct_i (by rw [kEE]; decide) (by rw [kEE]; decide), ai_zA, vp_cell_i]; rfl) (by decide) (by decide) dX3_init_91 ?_
  refine z_putr C flo_X3_45 hin dX3_init_93 (tEE (by decide) rfl) (tEE (by decide) rfl) rfl rfl ?_
  exact z_return C hr hlocks dX3_init_96 (by decide) (by decide)
set_option maxRecDepth 100000 in
set_option maxHeartbeats 4000000 in
theorem c_i_X7_init_33 (l : Launch) (E : EN) (S : WS) : CI l E yX7_init cX7_init 1 2 40 16 145 [.ref (eW E + 33)] 34 50 S (i_X7_init_33 E S) := by
  refine ci_of RX7 (by decide +kernel) rfl rfl [(0, .ref (eW E + 33))] rfl (Nat.le_of_ble_eq_true rfl) (fun A hA C hr hlocks hin => ?_)
  subst hA
  refine z_aload_n C 0 dX7_init_0 rfl ?_
  refine z_objInit C (mG 332 (by decide +kernel) rfl) zobj_w ⟨by decide, by decide⟩ (Nat.le_of_ble_eq_true rfl) dX7_init_1 ?_
  refine z_aload_n C 0 dX7_init_4 rfl ?_
  refine z_new C (T := TX3) tyX3 rfl inGX3 tyX3_ok (mG 333 (by decide +kernel) rfl) (mG 211 (by decide +kernel) rfl) (mG 152 (by decide +kernel) rfl) rfl (by decide) zdef_X3 (by decide) (by decide) dX7_init_5 ?_
  refine z_dup C dX7_init_8 rfl ?_
  refine z_callI (As := []) (rest := [.ref (eW E + 34), .ref (eW E + 33)]) C (c_i_X3_init_34 _ E _) dX7_init_9 (Or.inr ⟨"DowrySteps", mN 334 (by decide +kernel) rfl⟩) rfl (mG 213 (by decide +kernel) rfl) (mG 152 (by decide +kernel) rfl) (mG 214 (by decide +kernel) rfl) (by decide +kernel) rfl rfl ⟨by decide, by decide⟩ (Nat.le_of_ble_eq_true rfl) (by decide) (by decide) ?_
  refine z_putr C flo_X7_12 hin dX7_init_12 (tEE (by decide) rfl) (tEE (by decide) rfl) rfl rfl ?_
  refine z_aload_n C 0 dX7_init_15 rfl ?_
  refine z_bipush C (8 : Int32) dX7_init_16 (by decide) ?_
  refine z_newa C 10 8 (ty := .int) rfl (mG 323 (by decide +kernel) rfl) rfl (by decide) (fun _ _ h => h) (by decide) (by decide) rfl (by decide) (fun cA => by rw [ct_i (by rw [kEE]; decide) (by rw [kEE]; decide), ai_zA, vp_cell_i]; rfl) (by decide) (by decide) dX7_init_18 ?_
  refine z_putr C flo_X7_18 hin dX7_init_20 (tEE (by decide) rfl) (tEE (by decide) rfl) rfl rfl ?_
  refine z_aload_n C 0 dX7_init_23 rfl ?_
  refine z_bipush C (8 : Int32) dX7_init_24 (by decide) ?_
  refine z_newa C 10 8 (ty := .int) rfl (mG 323 (by decide +kernel) rfl) rfl (by decide) (fun _ _ h => h) (by decide) (by decide) rfl (by decide) (fun cA => by rw [ct_i (by rw [kEE]; decide) (by rw [kEE]; decide), ai_zA, vp_cell_i]; rfl) (by decide) (by decide) dX7_init_26 ?_
  refine z_putr C flo_X7_22 hin dX7_init_28 (tEE (by decide) rfl) (tEE (by decide) rfl) rfl rfl ?_
  refine z_aload_n C 0 dX7_init_31 rfl ?_
  refine z_bipush C (8 : Int32) dX7_init_32 (by decide) ?_
  refine z_newa C 10 8 (ty := .int) rfl (mG 323 (by decide +kernel) rfl) rfl (by decide) (fun _ _ h => h) (by decide) (by decide) rfl (by decide) (fun cA => by rw [ct_i (by rw [kEE]; decide) (by rw [kEE]; decide), ai_zA, vp_cell_i]; rfl) (by decide) (by decide) dX7_init_34 ?_
  refine z_putr C flo_X7_25 hin dX7_init_36 (tEE (by decide) rfl) (tEE (by decide) rfl) rfl rfl ?_
  exact z_return C hr hlocks dX7_init_39 (by decide) (by decide)
set_option maxRecDepth 100000 in
set_option maxHeartbeats 4000000 in
theorem c_i_X5_init_50 (l : Launch) (E : EN) (S : WS) : CI l E yX5_init cX5_init 1 1 20 7 79 [.ref (eW E + 50)] 51 58 S (i_X5_init_50 E S) := by
  refine ci_of RX5 (by decide +kernel) rfl rfl [(0, .ref (eW E + 50))] rfl (Nat.le_of_ble_eq_true rfl) (fun A hA C hr hlocks hin => ?_)
  subst hA
  refine z_aload_n C 0 dX5_init_0 rfl ?_
  refine z_objInit C (mG 381 (by decide +kernel) rfl) zobj_w ⟨by decide, by decide⟩ (Nat.le_of_ble_eq_true rfl) dX5_init_1 ?_
  refine z_aload_n C 0 dX5_init_4 rfl ?_
  refine z_bipush C (7 : Int32) dX5_init_5 (by decide) ?_
  refine z_newa C 10 7 (ty := .int) rfl (mG 323 (by decide +kernel) rfl) rfl (by decide) (fun _ _ h => h) (by decide) (by decide) rfl (by decide) (fun cA => by rw [ct_i (by rw [kEE]; decide) (by rw [kEE]; decide), ai_zA, vp_cell_i]; rfl) (by decide) (by decide) dX5_init_7 ?_
  refine z_putr C flo_X5_9 hin dX5_init_9 (tEE (by decide) rfl) (tEE (by decide) rfl) rfl rfl ?_
  refine z_aload_n C 0 dX5_init_12 rfl ?_
  refine z_bipush C (35 : Int32) dX5_init_13 (by decide) ?_
  refine z_newa C 11 35 (ty := .long) rfl (mG 420 (by decide +kernel) rfl) rfl (by decide) (fun _ _ h => h) (by decide) (by decide) rfl (by decide) (fun cA => by rw [ct_j (by rw [kEE]; rfl), aj_zA, vp_cell_l]; rfl) (by decide) (by decide) dX5_init_15 ?_
  refine z_putr C flo_X5_15 hin dX5_init_17 (tEE (by decide) rfl) (tEE (by decide) rfl) rfl rfl ?_
  refine z_aload_n C 0 dX5_init_20 rfl ?_
  refine z_bipush C (8 : Int32) dX5_init_21 (by decide) ?_
  refine z_newa C 11 8 (ty := .long) rfl (mG 420 (by decide +kernel) rfl) rfl (by decide) (fun _ _ h => h) (by decide) (by decide) rfl (by decide) (fun cA => by rw [ct_j (by rw [kEE]; rfl), aj_zA, vp_cell_l]; rfl) (by decide) (by decide) dX5_init_23 ?_
  refine z_putr C flo_X5_19 hin dX5_init_25 (tEE (by decide) rfl) (tEE (by decide) rfl) rfl rfl ?_
  refine z_aload_n C 0 dX5_init_28 rfl ?_
  refine z_bipush C (8 : Int32) dX5_init_29 (by decide) ?_
  refine z_newa C 10 8 (ty := .int) rfl (mG 323 (by decide +kernel) rfl) rfl (by decide) (fun _ _ h => h) (by decide) (by decide) rfl (by decide) (fun cA => by rw [ct_i (by rw [kEE]; decide) (by rw [kEE]; decide), ai_zA, vp_cell_i]; rfl) (by decide) (by decide) dX5_init_31 ?_
  refine z_putr C flo_X5_22 hin dX5_init_33 (tEE (by decide) rfl) (tEE (by decide) rfl) rfl rfl ?_
  refine z_aload_n C 0 dX5_init_36 rfl ?_
  refine z_bipush C (7 : Int32) dX5_init_37 (by decide) ?_
  refine z_newa C 10 7 (ty := .int) rfl (mG 323 (by decide +kernel) rfl) rfl (by decide) (fun _ _ h => h) (by decide) (by decide) rfl (by decide) (fun cA => by rw [ct_i (by rw [kEE]; decide) (by rw [kEE]; decide), ai_zA, vp_cell_i]; rfl) (by decide) (by decide) dX5_init_39 ?_
  refine z_putr C flo_X5_25 hin dX5_init_41 (tEE (by decide) rfl) (tEE (by decide) rfl) rfl rfl ?_
  refine z_aload_n C 0 dX5_init_44 rfl ?_
  refine z_bipush C (7 : Int32) dX5_init_45 (by decide) ?_
  refine z_newa C 10 7 (ty := .int) rfl (mG 323 (by decide +kernel) rfl) rfl (by decide) (fun _ _ h => h) (by decide) (by decide) rfl (by decide) (fun cA => by rw [ct_i (by rw [kEE]; decide) (by rw [kEE]; decide), ai_zA, vp_cell_i]; rfl) (by decide) (by decide) dX5_init_47 ?_
  refine z_putr C flo_X5_28 hin dX5_init_49 (tEE (by decide) rfl) (tEE (by decide) rfl) rfl rfl ?_
  refine z_aload_n C 0 dX5_init_52 rfl ?_
  refine z_bipush C (7 : Int32) dX5_init_53 (by decide) ?_
  refine z_newa C 10 7 (ty := .int) rfl (mG 323 (by decide +kernel) rfl) rfl (by decide) (fun _ _ h => h) (by decide) (by decide) rfl (by decide) (fun cA => by rw [ct_i (by rw [kEE]; decide) (by rw [kEE]; decide), ai_zA, vp_cell_i]; rfl) (by decide) (by decide) dX5_init_55 ?_
  refine z_putr C flo_X5_31 hin dX5_init_57 (tEE (by decide) rfl) (tEE (by decide) rfl) rfl rfl ?_
  exact z_return C hr hlocks dX5_init_60 (by decide) (by decide)
set_option maxRecDepth 100000 in
set_option maxHeartbeats 4000000 in
theorem c_i_X1_init_58 (l : Launch) (E : EN) (S : WS) : CI l E yX1_init cX1_init 1 1 20 0 0 [.ref (eW E + 58)] 59 59 S (i_X1_init_58 E S) := by
  refine ci_of RX1 (by decide +kernel) rfl rfl [(0, .ref (eW E + 58))] rfl (Nat.le_of_ble_eq_true rfl) (fun A hA C hr hlocks hin => ?_)
  subst hA
  refine z_aload_n C 0 dX1_init_0 rfl ?_
  refine z_objInit C (mG 429 (by decide +kernel) rfl) zobj_w ⟨by decide, by decide⟩ (Nat.le_of_ble_eq_true rfl) dX1_init_1 ?_
  exact z_return C hr hlocks dX1_init_4 (by decide) (by decide)
set_option maxRecDepth 100000 in
set_option maxHeartbeats 4000000 in
theorem c_i_X3_init_59 (l : Launch) (E : EN) (S : WS) : CI l E yX3_init cX3_init 1 1 20 12 102 [.ref (eW E + 59)] 60 72 S (i_X3_init_59 E S) := by
  refine ci_of RX3 (by decide +kernel) rfl rfl [(0, .ref (eW E + 59))] rfl (Nat.le_of_ble_eq_true rfl) (fun A hA C hr hlocks hin => ?_)
  subst hA
  refine z_aload_n C 0 dX3_init_0 rfl ?_
  refine z_objInit C (mG 215 (by decide +kernel) rfl) zobj_w ⟨by decide, by decide⟩ (Nat.le_of_ble_eq_true rfl) dX3_init_1 ?_
  refine z_aload_n C 0 dX3_init_4 rfl ?_
  refine z_bipush C (8 : Int32) dX3_init_5 (by decide) ?_
  refine z_newa C 10 8 (ty := .int) rfl (mG 323 (by decide +kernel) rfl) rfl (by decide) (fun _ _ h => h) (by decide) (by decide) rfl (by decide) (fun cA => by rw [ct_i (by rw [kEE]; decide) (by rw [kEE]; decide), ai_zA, vp_cell_i]; rfl) (by decide) (by decide) dX3_init_7 ?_
  refine z_putr C flo_X3_9 hin dX3_init_9 (tEE (by decide) rfl) (tEE (by decide) rfl) rfl rfl ?_
  refine z_aload_n C 0 dX3_init_12 rfl ?_
  refine z_bipush C (10 : Int32) dX3_init_13 (by decide) ?_
  refine z_newa C 10 10 (ty := .int) rfl (mG 323 (by decide +kernel) rfl) rfl (by decide) (fun _ _ h => h) (by decide) (by decide) rfl (by decide) (fun cA => by rw [ct_i (by rw [kEE]; decide) (by rw [kEE]; decide), ai_zA, vp_cell_i]; rfl) (by decide) (by decide) dX3_init_15 ?_
  refine z_putr C flo_X3_15 hin dX3_init_17 (tEE (by decide) rfl) (tEE (by decide) rfl) rfl rfl ?_
  refine z_aload_n C 0 dX3_init_20 rfl ?_
  refine z_bipush C (10 : Int32) dX3_init_21 (by decide) ?_
  refine z_newa C 10 10 (ty := .int) rfl (mG 323 (by decide +kernel) rfl) rfl (by decide) (fun _ _ h => h) (by decide) (by decide) rfl (by decide) (fun cA => by rw [ct_i (by rw [kEE]; decide) (by rw [kEE]; decide), ai_zA, vp_cell_i]; rfl) (by decide) (by decide) dX3_init_23 ?_
  refine z_putr C flo_X3_18 hin dX3_init_25 (tEE (by decide) rfl) (tEE (by decide) rfl) rfl rfl ?_
  refine z_aload_n C 0 dX3_init_28 rfl ?_
  refine z_iconst C (4 : Int32) dX3_init_29 (by decide) ?_
  refine z_newa C 10 4 (ty := .int) rfl (mG 323 (by decide +kernel) rfl) rfl (by decide) (fun _ _ h => h) (by decide) (by decide) rfl (by decide) (fun cA => by rw [ct_i (by rw [kEE]; decide) (by rw [kEE]; decide), ai_zA, vp_cell_i]; rfl) (by decide) (by decide) dX3_init_30 ?_
  refine z_putr C flo_X3_21 hin dX3_init_32 (tEE (by decide) rfl) (tEE (by decide) rfl) rfl rfl ?_
  refine z_aload_n C 0 dX3_init_35 rfl ?_
  refine z_iconst C (4 : Int32) dX3_init_36 (by decide) ?_
  refine z_newa C 10 4 (ty := .int) rfl (mG 323 (by decide +kernel) rfl) rfl (by decide) (fun _ _ h => h) (by decide) (by decide) rfl (by decide) (fun cA => by rw [ct_i (by rw [kEE]; decide) (by rw [kEE]; decide), ai_zA, vp_cell_i]; rfl) (by decide) (by decide) dX3_init_37 ?_
  refine z_putr C flo_X3_24 hin dX3_init_39 (tEE (by decide) rfl) (tEE (by decide) rfl) rfl rfl ?_
  refine z_aload_n C 0 dX3_init_42 rfl ?_
  refine z_bipush C (7 : Int32) dX3_init_43 (by decide) ?_
  refine z_newa C 10 7 (ty := .int) rfl (mG 323 (by decide +kernel) rfl) rfl (by decide) (fun _ _ h => h) (by decide) (by decide) rfl (by decide) (fun cA => by rw [ct_i (by rw [kEE]; decide) (by rw [kEE]; decide), ai_zA, vp_cell_i]; rfl) (by decide) (by decide) dX3_init_45 ?_
  refine z_putr C flo_X3_27 hin dX3_init_47 (tEE (by decide) rfl) (tEE (by decide) rfl) rfl rfl ?_
  refine z_aload_n C 0 dX3_init_50 rfl ?_
  refine z_bipush C (7 : Int32) dX3_init_51 (by decide) ?_
  refine z_newa C 10 7 (ty := .int) rfl (mG 323 (by decide +kernel) rfl) rfl (by decide) (fun _ _ h => h) (by decide) (by decide) rfl (by decide) (fun cA => by rw [ct_i (by rw [kEE]; decide) (by rw [kEE]; decide), ai_zA, vp_cell_i]; rfl) (by decide) (by decide) dX3_init_53 ?_
  refine z_putr C flo_X3_30 hin dX3_init_55 (tEE (by decide) rfl) (tEE (by decide) rfl) rfl rfl ?_
  refine z_aload_n C 0 dX3_init_58 rfl ?_
  refine z_bipush C (7 : Int32) dX3_init_59 (by decide) ?_
  refine z_newa C 10 7 (ty := .int) rfl (mG 323 (by decide +kernel) rfl) rfl (by decide) (fun _ _ h => h) (by decide) (by decide) rfl (by decide) (fun cA => by rw [ct_i (by rw [kEE]; decide) (by rw [kEE]; decide), ai_zA, vp_cell_i]; rfl) (by decide) (by decide) dX3_init_61 ?_
  refine z_putr C flo_X3_33 hin dX3_init_63 (tEE (by decide) rfl) (tEE (by decide) rfl) rfl rfl ?_
  refine z_aload_n C 0 dX3_init_66 rfl ?_
  refine z_bipush C (7 : Int32) dX3_init_67 (by decide) ?_
  refine z_newa C 10 7 (ty := .int) rfl (mG 323 (by decide +kernel) rfl) rfl (by decide) (fun _ _ h => h) (by decide) (by decide) rfl (by decide) (fun cA => by rw [ct_i (by rw [kEE]; decide) (by rw [kEE]; decide), ai_zA, vp_cell_i]; rfl) (by decide) (by decide) dX3_init_69 ?_
  refine z_putr C flo_X3_36 hin dX3_init_71 (tEE (by decide) rfl) (tEE (by decide) rfl) rfl rfl ?_
  refine z_aload_n C 0 dX3_init_74 rfl ?_
  refine z_bipush C (30 : Int32) dX3_init_75 (by decide) ?_
  refine z_newa C 10 30 (ty := .int) rfl (mG 323 (by decide +kernel) rfl) rfl (by decide) (fun _ _ h => h) (by decide) (by decide) rfl (by decide) (fun cA => by rw [ct_i (by rw [kEE]; decide) (by rw [kEE]; decide), ai_zA, vp_cell_i]; rfl) (by decide) (by decide) dX3_init_77 ?_
  refine z_putr C flo_X3_39 hin dX3_init_79 (tEE (by decide) rfl) (tEE (by decide) rfl) rfl rfl ?_
  refine z_aload_n C 0 dX3_init_82 rfl ?_
  refine z_iconst C (4 : Int32) dX3_init_83 (by decide) ?_
  refine z_newa C 10 4 (ty := .int) rfl (mG 323 (by decide +kernel) rfl) rfl (by decide) (fun _ _ h => h) (by decide) (by decide) rfl (by decide) (fun cA => by rw [ct_i (by rw [kEE]; decide) (by rw [kEE]; decide), ai_zA, vp_cell_i]; rfl) (by decide) (by decide) dX3_init_84 ?_
  refine z_putr C flo_X3_42 hin dX3_init_86 (tEE (by decide) rfl) (tEE (by decide) rfl) rfl rfl ?_
  refine z_aload_n C 0 dX3_init_89 rfl ?_
  refine z_iconst C (4 : Int32) dX3_init_90 (by decide) ?_
  refine z_newa C 10 4 (ty := .int) rfl (mG 323 (by decide +kernel) rfl) rfl (by decide) (fun _ _ h => h) (by decide) (by decide) rfl (by decide) (fun cA => by rw [ct_i (by rw [kEE]; decide) (by rw [kEE]; decide), ai_zA, vp_cell_i]; rfl) (by decide) (by decide) dX3_init_91 ?_
  refine z_putr C flo_X3_45 hin dX3_init_93 (tEE (by decide) rfl) (tEE (by decide) rfl) rfl rfl ?_
  exact z_return C hr hlocks dX3_init_96 (by decide) (by decide)
set_option maxRecDepth 100000 in
set_option maxHeartbeats 4000000 in
theorem c_i_X0_init_58 (l : Launch) (E : EN) (S : WS) : CI l E yX0_init cX0_init 1 2 40 15 4257 [.ref (eW E + 58)] 59 74 S (i_X0_init_58 E S) := by
  refine ci_of RX0 (by decide +kernel) rfl rfl [(0, .ref (eW E + 58))] rfl (Nat.le_of_ble_eq_true rfl) (fun A hA C hr hlocks hin => ?_)
  subst hA
  refine z_aload_n C 0 dX0_init_0 rfl ?_
  refine z_callI (As := []) (rest := []) C (c_i_X1_init_58 _ E _) dX0_init_1 (Or.inr ⟨"DowrySteps", mN 426 (by decide +kernel) rfl⟩) rfl (mG 427 (by decide +kernel) rfl) (mG 155 (by decide +kernel) rfl) (mG 428 (by decide +kernel) rfl) (by decide +kernel) rfl rfl ⟨by decide, by decide⟩ (Nat.le_of_ble_eq_true rfl) (by decide) (by decide) ?_
  refine z_aload_n C 0 dX0_init_4 rfl ?_
  refine z_new C (T := TX3) tyX3 rfl inGX3 tyX3_ok (mG 430 (by decide +kernel) rfl) (mG 211 (by decide +kernel) rfl) (mG 152 (by decide +kernel) rfl) rfl (by decide) zdef_X3 (by decide) (by decide) dX0_init_5 ?_
  refine z_dup C dX0_init_8 rfl ?_
  refine z_callI (As := []) (rest := [.ref (eW E + 59), .ref (eW E + 58)]) C (c_i_X3_init_59 _ E _) dX0_init_9 (Or.inr ⟨"DowrySteps", mN 431 (by decide +kernel) rfl⟩) rfl (mG 213 (by decide +kernel) rfl) (mG 152 (by decide +kernel) rfl) (mG 214 (by decide +kernel) rfl) (by decide +kernel) rfl rfl ⟨by decide, by decide⟩ (Nat.le_of_ble_eq_true rfl) (by decide) (by decide) ?_
  refine z_putr C flo_X0_12 hin dX0_init_12 (tEE (by decide) rfl) (tEE (by decide) rfl) rfl rfl ?_
  refine z_aload_n C 0 dX0_init_15 rfl ?_
  refine z_bipush C (40 : Int32) dX0_init_16 (by decide) ?_
  refine z_newa C 10 40 (ty := .int) rfl (mG 323 (by decide +kernel) rfl) rfl (by decide) (fun _ _ h => h) (by decide) (by decide) rfl (by decide) (fun cA => by rw [ct_i (by rw [kEE]; decide) (by rw [kEE]; decide), ai_zA, vp_cell_i]; rfl) (by decide) (by decide) dX0_init_18 ?_
  refine z_putr C flo_X0_18 hin dX0_init_20 (tEE (by decide) rfl) (tEE (by decide) rfl) rfl rfl ?_
  refine z_aload_n C 0 dX0_init_23 rfl ?_
  refine z_sipush C (4096 : Int32) dX0_init_24 (by decide) ?_
  refine z_newa C 9 4096 (ty := .byte) rfl (mG 209 (by decide +kernel) rfl) rfl (by decide) (fun _ _ h => h) (by decide) (by decide) rfl (by decide) (fun cA => by rw [ct_i (by rw [kEE]; decide) (by rw [kEE]; decide), ai_zA, vp_cell_i]; rfl) (by decide) (by decide) dX0_init_27 ?_
  refine z_putr C flo_X0_22 hin dX0_init_29 (tEE (by decide) rfl) (tEE (by decide) rfl) rfl rfl ?_
  exact z_return C hr hlocks dX0_init_32 (by decide) (by decide)
set_option maxRecDepth 100000 in
set_option maxHeartbeats 4000000 in
theorem c_i_X1_init_74 (l : Launch) (E : EN) (S : WS) : CI l E yX1_init cX1_init 1 1 20 0 0 [.ref (eW E + 74)] 75 75 S (i_X1_init_74 E S) := by
  refine ci_of RX1 (by decide +kernel) rfl rfl [(0, .ref (eW E + 74))] rfl (Nat.le_of_ble_eq_true rfl) (fun A hA C hr hlocks hin => ?_)
  subst hA
  refine z_aload_n C 0 dX1_init_0 rfl ?_
  refine z_objInit C (mG 429 (by decide +kernel) rfl) zobj_w ⟨by decide, by decide⟩ (Nat.le_of_ble_eq_true rfl) dX1_init_1 ?_
  exact z_return C hr hlocks dX1_init_4 (by decide) (by decide)
set_option maxRecDepth 100000 in
set_option maxHeartbeats 4000000 in
theorem c_i_X2_init_74 (l : Launch) (E : EN) (S : WS) : CI l E yX2_init cX2_init 1 2 40 4 80 [.ref (eW E + 74)] 75 79 S (i_X2_init_74 E S) := by
  refine ci_of RX2 (by decide +kernel) rfl rfl [(0, .ref (eW E + 74))] rfl (Nat.le_of_ble_eq_true rfl) (fun A hA C hr hlocks hin => ?_)
  subst hA
  refine z_aload_n C 0 dX2_init_0 rfl ?_
  refine z_callI (As := []) (rest := []) C (c_i_X1_init_74 _ E _) dX2_init_1 (Or.inr ⟨"DowrySteps", mN 459 (by decide +kernel) rfl⟩) rfl (mG 427 (by decide +kernel) rfl) (mG 155 (by decide +kernel) rfl) (mG 428 (by decide +kernel) rfl) (by decide +kernel) rfl rfl ⟨by decide, by decide⟩ (Nat.le_of_ble_eq_true rfl) (by decide) (by decide) ?_
  refine z_aload_n C 0 dX2_init_4 rfl ?_
  refine z_bipush C (20 : Int32) dX2_init_5 (by decide) ?_
  refine z_newa C 10 20 (ty := .int) rfl (mG 323 (by decide +kernel) rfl) rfl (by decide) (fun _ _ h => h) (by decide) (by decide) rfl (by decide) (fun cA => by rw [ct_i (by rw [kEE]; decide) (by rw [kEE]; decide), ai_zA, vp_cell_i]; rfl) (by decide) (by decide) dX2_init_7 ?_
  refine z_putr C flo_X2_11 hin dX2_init_9 (tEE (by decide) rfl) (tEE (by decide) rfl) rfl rfl ?_
  refine z_aload_n C 0 dX2_init_12 rfl ?_
  refine z_bipush C (20 : Int32) dX2_init_13 (by decide) ?_
  refine z_newa C 10 20 (ty := .int) rfl (mG 323 (by decide +kernel) rfl) rfl (by decide) (fun _ _ h => h) (by decide) (by decide) rfl (by decide) (fun cA => by rw [ct_i (by rw [kEE]; decide) (by rw [kEE]; decide), ai_zA, vp_cell_i]; rfl) (by decide) (by decide) dX2_init_15 ?_
  refine z_putr C flo_X2_15 hin dX2_init_17 (tEE (by decide) rfl) (tEE (by decide) rfl) rfl rfl ?_
  refine z_aload_n C 0 dX2_init_20 rfl ?_
  refine z_bipush C (20 : Int32) dX2_init_21 (by decide) ?_
  refine z_newa C 10 20 (ty := .int) rfl (mG 323 (by decide +kernel) rfl) rfl (by decide) (fun _ _ h => h) (by decide) (by decide) rfl (by decide) (fun cA => by rw [ct_i (by rw [kEE]; decide) (by rw [kEE]; decide), ai_zA, vp_cell_i]; rfl) (by decide) (by decide) dX2_init_23 ?_
  refine z_putr C flo_X2_18 hin dX2_init_25 (tEE (by decide) rfl) (tEE (by decide) rfl) rfl rfl ?_
  refine z_aload_n C 0 dX2_init_28 rfl ?_
  refine z_bipush C (20 : Int32) dX2_init_29 (by decide) ?_
  refine z_newa C 10 20 (ty := .int) rfl (mG 323 (by decide +kernel) rfl) rfl (by decide) (fun _ _ h => h) (by decide) (by decide) rfl (by decide) (fun cA => by rw [ct_i (by rw [kEE]; decide) (by rw [kEE]; decide), ai_zA, vp_cell_i]; rfl) (by decide) (by decide) dX2_init_31 ?_
  refine z_putr C flo_X2_21 hin dX2_init_33 (tEE (by decide) rfl) (tEE (by decide) rfl) rfl rfl ?_
  exact z_return C hr hlocks dX2_init_36 (by decide) (by decide)
set_option maxRecDepth 100000 in
set_option maxHeartbeats 4000000 in
theorem c_i_X3_init_82 (l : Launch) (E : EN) (S : WS) : CI l E yX3_init cX3_init 1 1 20 12 102 [.ref (eW E + 82)] 83 95 S (i_X3_init_82 E S) := by
  refine ci_of RX3 (by decide +kernel) rfl rfl [(0, .ref (eW E + 82))] rfl (Nat.le_of_ble_eq_true rfl) (fun A hA C hr hlocks hin => ?_)
  subst hA
  refine z_aload_n C 0 dX3_init_0 rfl ?_
  refine z_objInit C (mG 215 (by decide +kernel) rfl) zobj_w ⟨by decide, by decide⟩ (Nat.le_of_ble_eq_true rfl) dX3_init_1 ?_
  refine z_aload_n C 0 dX3_init_4 rfl ?_
  refine z_bipush C (8 : Int32) dX3_init_5 (by decide) ?_
  refine z_newa C 10 8 (ty := .int) rfl (mG 323 (by decide +kernel) rfl) rfl (by decide) (fun _ _ h => h) (by decide) (by decide) rfl (by decide) (fun cA => by rw [ct_i (by rw [kEE]; decide) (by rw [kEE]; decide), ai_zA, vp_cell_i]; rfl) (by decide) (by decide) dX3_init_7 ?_
  refine z_putr C flo_X3_9 hin dX3_init_9 (tEE (by decide) rfl) (tEE (by decide) rfl) rfl rfl ?_
  refine z_aload_n C 0 dX3_init_12 rfl ?_
  refine z_bipush C (10 : Int32) dX3_init_13 (by decide) ?_
  refine z_newa C 10 10 (ty := .int) rfl (mG 323 (by decide +kernel) rfl) rfl (by decide) (fun _ _ h => h) (by decide) (by decide) rfl (by decide) (fun cA => by rw [ct_i (by rw [kEE]; decide) (by rw [kEE]; decide), ai_zA, vp_cell_i]; rfl) (by decide) (by decide) dX3_init_15 ?_
  refine z_putr C flo_X3_15 hin dX3_init_17 (tEE (by decide) rfl) (tEE (by decide) rfl) rfl rfl ?_
  refine z_aload_n C 0 dX3_init_20 rfl ?_
  refine z_bipush C (10 : Int32) dX3_init_21 (by decide) ?_
  refine z_newa C 10 10 (ty := .int) rfl (mG 323 (by decide +kernel) rfl) rfl (by decide) (fun _ _ h => h) (by decide) (by decide) rfl (by decide) (fun cA => by rw [ct_i (by rw [kEE]; decide) (by rw [kEE]; decide), ai_zA, vp_cell_i]; rfl) (by decide) (by decide) dX3_init_23 ?_
  refine z_putr C flo_X3_18 hin dX3_init_25 (tEE (by decide) rfl) (tEE (by decide) rfl) rfl rfl ?_
  refine z_aload_n C 0 dX3_init_28 rfl ?_
  refine z_iconst C (4 : Int32) dX3_init_29 (by decide) ?_
  refine z_newa C 10 4 (ty := .int) rfl (mG 323 (by decide +kernel) rfl) rfl (by decide) (fun _ _ h => h) (by decide) (by decide) rfl (by decide) (fun cA => by rw [ct_i (by rw [kEE]; decide) (by rw [kEE]; decide), ai_zA, vp_cell_i]; rfl) (by decide) (by decide) dX3_init_30 ?_
  refine z_putr C flo_X3_21 hin dX3_init_32 (tEE (by decide) rfl) (tEE (by decide) rfl) rfl rfl ?_
  refine z_aload_n C 0 dX3_init_35 rfl ?_
  refine z_iconst C (4 : Int32) dX3_init_36 (by decide) ?_
  refine z_newa C 10 4 (ty := .int) rfl (mG 323 (by decide +kernel) rfl) rfl (by decide) (fun _ _ h => h) (by decide) (by decide) rfl (by decide) (fun cA => by rw [ct_i (by rw [kEE]; decide) (by rw [kEE]; decide), ai_zA, vp_cell_i]; rfl) (by decide) (by decide) dX3_init_37 ?_
  refine z_putr C flo_X3_24 hin dX3_init_39 (tEE (by decide) rfl) (tEE (by decide) rfl) rfl rfl ?_
  refine z_aload_n C 0 dX3_init_42 rfl ?_
  refine z_bipush C (7 : Int32) dX3_init_43 (by decide) ?_
  refine z_newa C 10 7 (ty := .int) rfl (mG 323 (by decide +kernel) rfl) rfl (by decide) (fun _ _ h => h) (by decide) (by decide) rfl (by decide) (fun cA => by rw [ct_i (by rw [kEE]; decide) (by rw [kEE]; decide), ai_zA, vp_cell_i]; rfl) (by decide) (by decide) dX3_init_45 ?_
  refine z_putr C flo_X3_27 hin dX3_init_47 (tEE (by decide) rfl) (tEE (by decide) rfl) rfl rfl ?_
  refine z_aload_n C 0 dX3_init_50 rfl ?_
  refine z_bipush C (7 : Int32) dX3_init_51 (by decide) ?_
  refine z_newa C 10 7 (ty := .int) rfl (mG 323 (by decide +kernel) rfl) rfl (by decide) (fun _ _ h => h) (by decide) (by decide) rfl (by decide) (fun cA => by rw [ct_i (by rw [kEE]; decide) (by rw [kEE]; decide), ai_zA, vp_cell_i]; rfl) (by decide) (by decide) dX3_init_53 ?_
  refine z_putr C flo_X3_30 hin dX3_init_55 (tEE (by decide) rfl) (tEE (by decide) rfl) rfl rfl ?_
  refine z_aload_n C 0 dX3_init_58 rfl ?_
  refine z_bipush C (7 : Int32) dX3_init_59 (by decide) ?_
  refine z_newa C 10 7 (ty := .int) rfl (mG 323 (by decide +kernel) rfl) rfl (by decide) (fun _ _ h => h) (by decide) (by decide) rfl (by decide) (fun cA => by rw [ct_i (by rw [kEE]; decide) (by rw [kEE]; decide), ai_zA, vp_cell_i]; rfl) (by decide) (by decide) dX3_init_61 ?_
  refine z_putr C flo_X3_33 hin dX3_init_63 (tEE (by decide) rfl) (tEE (by decide) rfl) rfl rfl ?_
  refine z_aload_n C 0 dX3_init_66 rfl ?_
  refine z_bipush C (7 : Int32) dX3_init_67 (by decide) ?_
  refine z_newa C 10 7 (ty := .int) rfl (mG 323 (by decide +kernel) rfl) rfl (by decide) (fun _ _ h => h) (by decide) (by decide) rfl (by decide) (fun cA => by rw [ct_i (by rw [kEE]; decide) (by rw [kEE]; decide), ai_zA, vp_cell_i]; rfl) (by decide) (by decide) dX3_init_69 ?_
  refine z_putr C flo_X3_36 hin dX3_init_71 (tEE (by decide) rfl) (tEE (by decide) rfl) rfl rfl ?_
  refine z_aload_n C 0 dX3_init_74 rfl ?_
  refine z_bipush C (30 : Int32) dX3_init_75 (by decide) ?_
  refine z_newa C 10 30 (ty := .int) rfl (mG 323 (by decide +kernel) rfl) rfl (by decide) (fun _ _ h => h) (by decide) (by decide) rfl (by decide) (fun cA => by rw [ct_i (by rw [kEE]; decide) (by rw [kEE]; decide), ai_zA, vp_cell_i]; rfl) (by decide) (by decide) dX3_init_77 ?_
  refine z_putr C flo_X3_39 hin dX3_init_79 (tEE (by decide) rfl) (tEE (by decide) rfl) rfl rfl ?_
  refine z_aload_n C 0 dX3_init_82 rfl ?_
  refine z_iconst C (4 : Int32) dX3_init_83 (by decide) ?_
  refine z_newa C 10 4 (ty := .int) rfl (mG 323 (by decide +kernel) rfl) rfl (by decide) (fun _ _ h => h) (by decide) (by decide) rfl (by decide) (fun cA => by rw [ct_i (by rw [kEE]; decide) (by rw [kEE]; decide), ai_zA, vp_cell_i]; rfl) (by decide) (by decide) dX3_init_84 ?_
  refine z_putr C flo_X3_42 hin dX3_init_86 (tEE (by decide) rfl) (tEE (by decide) rfl) rfl rfl ?_
  refine z_aload_n C 0 dX3_init_89 rfl ?_
  refine z_iconst C (4 : Int32) dX3_init_90 (by decide) ?_
  refine z_newa C 10 4 (ty := .int) rfl (mG 323 (by decide +kernel) rfl) rfl (by decide) (fun _ _ h => h) (by decide) (by decide) rfl (by decide) (fun cA => by rw [ct_i (by rw [kEE]; decide) (by rw [kEE]; decide), ai_zA, vp_cell_i]; rfl) (by decide) (by decide) dX3_init_91 ?_
  refine z_putr C flo_X3_45 hin dX3_init_93 (tEE (by decide) rfl) (tEE (by decide) rfl) rfl rfl ?_
  exact z_return C hr hlocks dX3_init_96 (by decide) (by decide)
set_option maxRecDepth 100000 in
set_option maxHeartbeats 4000000 in
theorem c_i_X3_init_95 (l : Launch) (E : EN) (S : WS) : CI l E yX3_init cX3_init 1 1 20 12 102 [.ref (eW E + 95)] 96 108 S (i_X3_init_95 E S) := by
  refine ci_of RX3 (by decide +kernel) rfl rfl [(0, .ref (eW E + 95))] rfl (Nat.le_of_ble_eq_true rfl) (fun A hA C hr hlocks hin => ?_)
  subst hA
  refine z_aload_n C 0 dX3_init_0 rfl ?_
  refine z_objInit C (mG 215 (by decide +kernel) rfl) zobj_w ⟨by decide, by decide⟩ (Nat.le_of_ble_eq_true rfl) dX3_init_1 ?_
  refine z_aload_n C 0 dX3_init_4 rfl ?_
  refine z_bipush C (8 : Int32) dX3_init_5 (by decide) ?_
  refine z_newa C 10 8 (ty := .int) rfl (mG 323 (by decide +kernel) rfl) rfl (by decide) (fun _ _ h => h) (by decide) (by decide) rfl (by decide) (fun cA => by rw [ct_i (by rw [kEE]; decide) (by rw [kEE]; decide), ai_zA, vp_cell_i]; rfl) (by decide) (by decide) dX3_init_7 ?_
  refine z_putr C flo_X3_9 hin dX3_init_9 (tEE (by decide) rfl) (tEE (by decide) rfl) rfl rfl ?_
  refine z_aload_n C 0 dX3_init_12 rfl ?_
  refine z_bipush C (10 : Int32) dX3_init_13 (by decide) ?_
  refine z_newa C 10 10 (ty := .int) rfl (mG 323 (by decide +kernel) rfl) rfl (by decide) (fun _ _ h => h) (by decide) (by decide) rfl (by decide) (fun cA => by rw [ct_i (by rw [kEE]; decide) (by rw [kEE]; decide), ai_zA, vp_cell_i]; rfl) (by decide) (by decide) dX3_init_15 ?_
  refine z_putr C flo_X3_15 hin dX3_init_17 (tEE (by decide) rfl) (tEE (by decide) rfl) rfl rfl ?_
  refine z_aload_n C 0 dX3_init_20 rfl ?_
  refine z_bipush C (10 : Int32) dX3_init_21 (by decide) ?_
  refine z_newa C 10 10 (ty := .int) rfl (mG 323 (by decide +kernel) rfl) rfl (by decide) (fun _ _ h => h) (by decide) (by decide) rfl (by decide) (fun cA => by rw [ct_i (by rw [kEE]; decide) (by rw [kEE]; decide), ai_zA, vp_cell_i]; rfl) (by decide) (by decide) dX3_init_23 ?_
  refine z_putr C flo_X3_18 hin dX3_init_25 (tEE (by decide) rfl) (tEE (by decide) rfl) rfl rfl ?_
  refine z_aload_n C 0 dX3_init_28 rfl ?_
  refine z_iconst C (4 : Int32) dX3_init_29 (by decide) ?_
  refine z_newa C 10 4 (ty := .int) rfl (mG 323 (by decide +kernel) rfl) rfl (by decide) (fun _ _ h => h) (by decide) (by decide) rfl (by decide) (fun cA => by rw [ct_i (by rw [kEE]; decide) (by rw [kEE]; decide), ai_zA, vp_cell_i]; rfl) (by decide) (by decide) dX3_init_30 ?_
  refine z_putr C flo_X3_21 hin dX3_init_32 (tEE (by decide) rfl) (tEE (by decide) rfl) rfl rfl ?_
  refine z_aload_n C 0 dX3_init_35 rfl ?_
  refine z_iconst C (4 : Int32) dX3_init_36 (by decide) ?_
  refine z_newa C 10 4 (ty := .int) rfl (mG 323 (by decide +kernel) rfl) rfl (by decide) (fun _ _ h => h) (by decide) (by decide) rfl (by decide) (fun cA => by rw [ct_i (by rw [kEE]; decide) (by rw [kEE]; decide), ai_zA, vp_cell_i]; rfl) (by decide) (by decide) dX3_init_37 ?_
  refine z_putr C flo_X3_24 hin dX3_init_39 (tEE (by decide) rfl) (tEE (by decide) rfl) rfl rfl ?_
  refine z_aload_n C 0 dX3_init_42 rfl ?_
  refine z_bipush C (7 : Int32) dX3_init_43 (by decide) ?_
  refine z_newa C 10 7 (ty := .int) rfl (mG 323 (by decide +kernel) rfl) rfl (by decide) (fun _ _ h => h) (by decide) (by decide) rfl (by decide) (fun cA => by rw [ct_i (by rw [kEE]; decide) (by rw [kEE]; decide), ai_zA, vp_cell_i]; rfl) (by decide) (by decide) dX3_init_45 ?_
  refine z_putr C flo_X3_27 hin dX3_init_47 (tEE (by decide) rfl) (tEE (by decide) rfl) rfl rfl ?_
  refine z_aload_n C 0 dX3_init_50 rfl ?_
  refine z_bipush C (7 : Int32) dX3_init_51 (by decide) ?_
  refine z_newa C 10 7 (ty := .int) rfl (mG 323 (by decide +kernel) rfl) rfl (by decide) (fun _ _ h => h) (by decide) (by decide) rfl (by decide) (fun cA => by rw [ct_i (by rw [kEE]; decide) (by rw [kEE]; decide), ai_zA, vp_cell_i]; rfl) (by decide) (by decide) dX3_init_53 ?_
  refine z_putr C flo_X3_30 hin dX3_init_55 (tEE (by decide) rfl) (tEE (by decide) rfl) rfl rfl ?_
  refine z_aload_n C 0 dX3_init_58 rfl ?_
  refine z_bipush C (7 : Int32) dX3_init_59 (by decide) ?_
  refine z_newa C 10 7 (ty := .int) rfl (mG 323 (by decide +kernel) rfl) rfl (by decide) (fun _ _ h => h) (by decide) (by decide) rfl (by decide) (fun cA => by rw [ct_i (by rw [kEE]; decide) (by rw [kEE]; decide), ai_zA, vp_cell_i]; rfl) (by decide) (by decide) dX3_init_61 ?_
  refine z_putr C flo_X3_33 hin dX3_init_63 (tEE (by decide) rfl) (tEE (by decide) rfl) rfl rfl ?_
  refine z_aload_n C 0 dX3_init_66 rfl ?_
  refine z_bipush C (7 : Int32) dX3_init_67 (by decide) ?_
  refine z_newa C 10 7 (ty := .int) rfl (mG 323 (by decide +kernel) rfl) rfl (by decide) (fun _ _ h => h) (by decide) (by decide) rfl (by decide) (fun cA => by rw [ct_i (by rw [kEE]; decide) (by rw [kEE]; decide), ai_zA, vp_cell_i]; rfl) (by decide) (by decide) dX3_init_69 ?_
  refine z_putr C flo_X3_36 hin dX3_init_71 (tEE (by decide) rfl) (tEE (by decide) rfl) rfl rfl ?_
  refine z_aload_n C 0 dX3_init_74 rfl ?_
  refine z_bipush C (30 : Int32) dX3_init_75 (by decide) ?_
  refine z_newa C 10 30 (ty := .int) rfl (mG 323 (by decide +kernel) rfl) rfl (by decide) (fun _ _ h => h) (by decide) (by decide) rfl (by decide) (fun cA => by rw [ct_i (by rw [kEE]; decide) (by rw [kEE]; decide), ai_zA, vp_cell_i]; rfl) (by decide) (by decide) dX3_init_77 ?_
  refine z_putr C flo_X3_39 hin dX3_init_79 (tEE (by decide) rfl) (tEE (by decide) rfl) rfl rfl ?_
  refine z_aload_n C 0 dX3_init_82 rfl ?_
  refine z_iconst C (4 : Int32) dX3_init_83 (by decide) ?_
  refine z_newa C 10 4 (ty := .int) rfl (mG 323 (by decide +kernel) rfl) rfl (by decide) (fun _ _ h => h) (by decide) (by decide) rfl (by decide) (fun cA => by rw [ct_i (by rw [kEE]; decide) (by rw [kEE]; decide), ai_zA, vp_cell_i]; rfl) (by decide) (by decide) dX3_init_84 ?_
  refine z_putr C flo_X3_42 hin dX3_init_86 (tEE (by decide) rfl) (tEE (by decide) rfl) rfl rfl ?_
  refine z_aload_n C 0 dX3_init_89 rfl ?_
  refine z_iconst C (4 : Int32) dX3_init_90 (by decide) ?_
  refine z_newa C 10 4 (ty := .int) rfl (mG 323 (by decide +kernel) rfl) rfl (by decide) (fun _ _ h => h) (by decide) (by decide) rfl (by decide) (fun cA => by rw [ct_i (by rw [kEE]; decide) (by rw [kEE]; decide), ai_zA, vp_cell_i]; rfl) (by decide) (by decide) dX3_init_91 ?_
  refine z_putr C flo_X3_45 hin dX3_init_93 (tEE (by decide) rfl) (tEE (by decide) rfl) rfl rfl ?_
  exact z_return C hr hlocks dX3_init_96 (by decide) (by decide)
set_option maxRecDepth 100000 in
set_option maxHeartbeats 4000000 in
theorem c_i_X3_init_108 (l : Launch) (E : EN) (S : WS) : CI l E yX3_init cX3_init 1 1 20 12 102 [.ref (eW E + 108)] 109 121 S (i_X3_init_108 E S) := by
  refine ci_of RX3 (by decide +kernel) rfl rfl [(0, .ref (eW E + 108))] rfl (Nat.le_of_ble_eq_true rfl) (fun A hA C hr hlocks hin => ?_)
  subst hA
  refine z_aload_n C 0 dX3_init_0 rfl ?_
  refine z_objInit C (mG 215 (by decide +kernel) rfl) zobj_w ⟨by decide, by decide⟩ (Nat.le_of_ble_eq_true rfl) dX3_init_1 ?_
  refine z_aload_n C 0 dX3_init_4 rfl ?_
  refine z_bipush C (8 : Int32) dX3_init_5 (by decide) ?_
  refine z_newa C 10 8 (ty := .int) rfl (mG 323 (by decide +kernel) rfl) rfl (by decide) (fun _ _ h => h) (by decide) (by decide) rfl (by decide) (fun cA => by rw [ct_i (by rw [kEE]; decide) (by rw [kEE]; decide), ai_zA, vp_cell_i]; rfl) (by decide) (by decide) dX3_init_7 ?_
  refine z_putr C flo_X3_9 hin dX3_init_9 (tEE (by decide) rfl) (tEE (by decide) rfl) rfl rfl ?_
  refine z_aload_n C 0 dX3_init_12 rfl ?_
  refine z_bipush C (10 : Int32) dX3_init_13 (by decide) ?_
  refine z_newa C 10 10 (ty := .int) rfl (mG 323 (by decide +kernel) rfl) rfl (by decide) (fun _ _ h => h) (by decide) (by decide) rfl (by decide) (fun cA => by rw [ct_i (by rw [kEE]; decide) (by rw [kEE]; decide), ai_zA, vp_cell_i]; rfl) (by decide) (by decide) dX3_init_15 ?_
  refine z_putr C flo_X3_15 hin dX3_init_17 (tEE (by decide) rfl) (tEE (by decide) rfl) rfl rfl ?_
  refine z_aload_n C 0 dX3_init_20 rfl ?_
  refine z_bipush C (10 : Int32) dX3_init_21 (by decide) ?_
  refine z_newa C 10 10 (ty := .int) rfl (mG 323 (by decide +kernel) rfl) rfl (by decide) (fun _ _ h => h) (by decide) (by decide) rfl (by decide) (fun cA => by rw [ct_i (by rw [kEE]; decide) (by rw [kEE]; decide), ai_zA, vp_cell_i]; rfl) (by decide) (by decide) dX3_init_23 ?_
  refine z_putr C flo_X3_18 hin dX3_init_25 (tEE (by decide) rfl) (tEE (by decide) rfl) rfl rfl ?_
  refine z_aload_n C 0 dX3_init_28 rfl ?_
  refine z_iconst C (4 : Int32) dX3_init_29 (by decide) ?_
  refine z_newa C 10 4 (ty := .int) rfl (mG 323 (by decide +kernel) rfl) rfl (by decide) (fun _ _ h => h) (by decide) (by decide) rfl (by decide) (fun cA => by rw [ct_i (by rw [kEE]; decide) (by rw [kEE]; decide), ai_zA, vp_cell_i]; rfl) (by decide) (by decide) dX3_init_30 ?_
  refine z_putr C flo_X3_21 hin dX3_init_32 (tEE (by decide) rfl) (tEE (by decide) rfl) rfl rfl ?_
  refine z_aload_n C 0 dX3_init_35 rfl ?_
  refine z_iconst C (4 : Int32) dX3_init_36 (by decide) ?_
  refine z_newa C 10 4 (ty := .int) rfl (mG 323 (by decide +kernel) rfl) rfl (by decide) (fun _ _ h => h) (by decide) (by decide) rfl (by decide) (fun cA => by rw [ct_i (by rw [kEE]; decide) (by rw [kEE]; decide), ai_zA, vp_cell_i]; rfl) (by decide) (by decide) dX3_init_37 ?_
  refine z_putr C flo_X3_24 hin dX3_init_39 (tEE (by decide) rfl) (tEE (by decide) rfl) rfl rfl ?_
  refine z_aload_n C 0 dX3_init_42 rfl ?_
  refine z_bipush C (7 : Int32) dX3_init_43 (by decide) ?_
  refine z_newa C 10 7 (ty := .int) rfl (mG 323 (by decide +kernel) rfl) rfl (by decide) (fun _ _ h => h) (by decide) (by decide) rfl (by decide) (fun cA => by rw [ct_i (by rw [kEE]; decide) (by rw [kEE]; decide), ai_zA, vp_cell_i]; rfl) (by decide) (by decide) dX3_init_45 ?_
  refine z_putr C flo_X3_27 hin dX3_init_47 (tEE (by decide) rfl) (tEE (by decide) rfl) rfl rfl ?_
  refine z_aload_n C 0 dX3_init_50 rfl ?_
  refine z_bipush C (7 : Int32) dX3_init_51 (by decide) ?_
  refine z_newa C 10 7 (ty := .int) rfl (mG 323 (by decide +kernel) rfl) rfl (by decide) (fun _ _ h => h) (by decide) (by decide) rfl (by decide) (fun cA => by rw [ct_i (by rw [kEE]; decide) (by rw [kEE]; decide), ai_zA, vp_cell_i]; rfl) (by decide) (by decide) dX3_init_53 ?_
  refine z_putr C flo_X3_30 hin dX3_init_55 (tEE (by decide) rfl) (tEE (by decide) rfl) rfl rfl ?_
  refine z_aload_n C 0 dX3_init_58 rfl ?_
  refine z_bipush C (7 : Int32) dX3_init_59 (by decide) ?_
  refine z_newa C 10 7 (ty := .int) rfl (mG 323 (by decide +kernel) rfl) rfl (by decide) (fun _ _ h => h) (by decide) (by decide) rfl (by decide) (fun cA => by rw [ct_i (by rw [kEE]; decide) (by rw [kEE]; decide), ai_zA, vp_cell_i]; rfl) (by decide) (by decide) dX3_init_61 ?_
  refine z_putr C flo_X3_33 hin dX3_init_63 (tEE (by decide) rfl) (tEE (by decide) rfl) rfl rfl ?_
  refine z_aload_n C 0 dX3_init_66 rfl ?_
  refine z_bipush C (7 : Int32) dX3_init_67 (by decide) ?_
  refine z_newa C 10 7 (ty := .int) rfl (mG 323 (by decide +kernel) rfl) rfl (by decide) (fun _ _ h => h) (by decide) (by decide) rfl (by decide) (fun cA => by rw [ct_i (by rw [kEE]; decide) (by rw [kEE]; decide), ai_zA, vp_cell_i]; rfl) (by decide) (by decide) dX3_init_69 ?_
  refine z_putr C flo_X3_36 hin dX3_init_71 (tEE (by decide) rfl) (tEE (by decide) rfl) rfl rfl ?_
  refine z_aload_n C 0 dX3_init_74 rfl ?_
  refine z_bipush C (30 : Int32) dX3_init_75 (by decide) ?_
  refine z_newa C 10 30 (ty := .int) rfl (mG 323 (by decide +kernel) rfl) rfl (by decide) (fun _ _ h => h) (by decide) (by decide) rfl (by decide) (fun cA => by rw [ct_i (by rw [kEE]; decide) (by rw [kEE]; decide), ai_zA, vp_cell_i]; rfl) (by decide) (by decide) dX3_init_77 ?_
  refine z_putr C flo_X3_39 hin dX3_init_79 (tEE (by decide) rfl) (tEE (by decide) rfl) rfl rfl ?_
  refine z_aload_n C 0 dX3_init_82 rfl ?_
  refine z_iconst C (4 : Int32) dX3_init_83 (by decide) ?_
  refine z_newa C 10 4 (ty := .int) rfl (mG 323 (by decide +kernel) rfl) rfl (by decide) (fun _ _ h => h) (by decide) (by decide) rfl (by decide) (fun cA => by rw [ct_i (by rw [kEE]; decide) (by rw [kEE]; decide), ai_zA, vp_cell_i]; rfl) (by decide) (by decide) dX3_init_84 ?_
  refine z_putr C flo_X3_42 hin dX3_init_86 (tEE (by decide) rfl) (tEE (by decide) rfl) rfl rfl ?_
  refine z_aload_n C 0 dX3_init_89 rfl ?_
  refine z_iconst C (4 : Int32) dX3_init_90 (by decide) ?_
  refine z_newa C 10 4 (ty := .int) rfl (mG 323 (by decide +kernel) rfl) rfl (by decide) (fun _ _ h => h) (by decide) (by decide) rfl (by decide) (fun cA => by rw [ct_i (by rw [kEE]; decide) (by rw [kEE]; decide), ai_zA, vp_cell_i]; rfl) (by decide) (by decide) dX3_init_91 ?_
  refine z_putr C flo_X3_45 hin dX3_init_93 (tEE (by decide) rfl) (tEE (by decide) rfl) rfl rfl ?_
  exact z_return C hr hlocks dX3_init_96 (by decide) (by decide)
set_option maxRecDepth 100000 in
set_option maxHeartbeats 4000000 in
theorem c_i_X6_init_121 (l : Launch) (E : EN) (S : WS) : CI l E yX6_init cX6_init 1 1 20 1 60 [.ref (eW E + 121)] 122 123 S (i_X6_init_121 E S) := by
  refine ci_of RX6 (by decide +kernel) rfl rfl [(0, .ref (eW E + 121))] rfl (Nat.le_of_ble_eq_true rfl) (fun A hA C hr hlocks hin => ?_)
  subst hA
  refine z_aload_n C 0 dX6_init_0 rfl ?_
  refine z_objInit C (mG 480 (by decide +kernel) rfl) zobj_w ⟨by decide, by decide⟩ (Nat.le_of_ble_eq_true rfl) dX6_init_1 ?_
  refine z_aload_n C 0 dX6_init_4 rfl ?_
  refine z_iconst C (0 : Int32) dX6_init_5 (by decide) ?_
  refine z_puti C flo_X6_9 hin dX6_init_6 (tEE (by decide) rfl) ?_
  refine z_aload_n C 0 dX6_init_9 rfl ?_
  refine z_iconst C (-1 : Int32) dX6_init_10 (by decide) ?_
  refine z_puti C flo_X6_15 hin dX6_init_11 (tEE (by decide) rfl) ?_
  refine z_aload_n C 0 dX6_init_14 rfl ?_
  refine z_bipush C (60 : Int32) dX6_init_15 (by decide) ?_
  refine z_newa C 11 60 (ty := .long) rfl (mG 420 (by decide +kernel) rfl) rfl (by decide) (fun _ _ h => h) (by decide) (by decide) rfl (by decide) (fun cA => by rw [ct_j (by rw [kEE]; rfl), aj_zA, vp_cell_l]; rfl) (by decide) (by decide) dX6_init_17 ?_
  refine z_putr C flo_X6_18 hin dX6_init_19 (tEE (by decide) rfl) (tEE (by decide) rfl) rfl rfl ?_
  exact z_return C hr hlocks dX6_init_22 (by decide) (by decide)
set_option maxRecDepth 100000 in
set_option maxHeartbeats 4000000 in
theorem c_i_X6_init_123 (l : Launch) (E : EN) (S : WS) : CI l E yX6_init cX6_init 1 1 20 1 60 [.ref (eW E + 123)] 124 125 S (i_X6_init_123 E S) := by
  refine ci_of RX6 (by decide +kernel) rfl rfl [(0, .ref (eW E + 123))] rfl (Nat.le_of_ble_eq_true rfl) (fun A hA C hr hlocks hin => ?_)
  subst hA
  refine z_aload_n C 0 dX6_init_0 rfl ?_
  refine z_objInit C (mG 480 (by decide +kernel) rfl) zobj_w ⟨by decide, by decide⟩ (Nat.le_of_ble_eq_true rfl) dX6_init_1 ?_
  refine z_aload_n C 0 dX6_init_4 rfl ?_
  refine z_iconst C (0 : Int32) dX6_init_5 (by decide) ?_
  refine z_puti C flo_X6_9 hin dX6_init_6 (tEE (by decide) rfl) ?_
  refine z_aload_n C 0 dX6_init_9 rfl ?_
  refine z_iconst C (-1 : Int32) dX6_init_10 (by decide) ?_
  refine z_puti C flo_X6_15 hin dX6_init_11 (tEE (by decide) rfl) ?_
  refine z_aload_n C 0 dX6_init_14 rfl ?_
  refine z_bipush C (60 : Int32) dX6_init_15 (by decide) ?_
  refine z_newa C 11 60 (ty := .long) rfl (mG 420 (by decide +kernel) rfl) rfl (by decide) (fun _ _ h => h) (by decide) (by decide) rfl (by decide) (fun cA => by rw [ct_j (by rw [kEE]; rfl), aj_zA, vp_cell_l]; rfl) (by decide) (by decide) dX6_init_17 ?_
  refine z_putr C flo_X6_18 hin dX6_init_19 (tEE (by decide) rfl) (tEE (by decide) rfl) rfl rfl ?_
  exact z_return C hr hlocks dX6_init_22 (by decide) (by decide)
set_option maxRecDepth 100000 in
set_option maxHeartbeats 4000000 in
theorem c_i_X6_init_125 (l : Launch) (E : EN) (S : WS) : CI l E yX6_init cX6_init 1 1 20 1 60 [.ref (eW E + 125)] 126 127 S (i_X6_init_125 E S) := by
  refine ci_of RX6 (by decide +kernel) rfl rfl [(0, .ref (eW E + 125))] rfl (Nat.le_of_ble_eq_true rfl) (fun A hA C hr hlocks hin => ?_)
  subst hA
  refine z_aload_n C 0 dX6_init_0 rfl ?_
  refine z_objInit C (mG 480 (by decide +kernel) rfl) zobj_w ⟨by decide, by decide⟩ (Nat.le_of_ble_eq_true rfl) dX6_init_1 ?_
  refine z_aload_n C 0 dX6_init_4 rfl ?_
  refine z_iconst C (0 : Int32) dX6_init_5 (by decide) ?_
  refine z_puti C flo_X6_9 hin dX6_init_6 (tEE (by decide) rfl) ?_
  refine z_aload_n C 0 dX6_init_9 rfl ?_
  refine z_iconst C (-1 : Int32) dX6_init_10 (by decide) ?_
  refine z_puti C flo_X6_15 hin dX6_init_11 (tEE (by decide) rfl) ?_
  refine z_aload_n C 0 dX6_init_14 rfl ?_
  refine z_bipush C (60 : Int32) dX6_init_15 (by decide) ?_
  refine z_newa C 11 60 (ty := .long) rfl (mG 420 (by decide +kernel) rfl) rfl (by decide) (fun _ _ h => h) (by decide) (by decide) rfl (by decide) (fun cA => by rw [ct_j (by rw [kEE]; rfl), aj_zA, vp_cell_l]; rfl) (by decide) (by decide) dX6_init_17 ?_
  refine z_putr C flo_X6_18 hin dX6_init_19 (tEE (by decide) rfl) (tEE (by decide) rfl) rfl rfl ?_
  exact z_return C hr hlocks dX6_init_22 (by decide) (by decide)
set_option maxRecDepth 100000 in
set_option maxHeartbeats 4000000 in
theorem c_i_X6_init_127 (l : Launch) (E : EN) (S : WS) : CI l E yX6_init cX6_init 1 1 20 1 60 [.ref (eW E + 127)] 128 129 S (i_X6_init_127 E S) := by
  refine ci_of RX6 (by decide +kernel) rfl rfl [(0, .ref (eW E + 127))] rfl (Nat.le_of_ble_eq_true rfl) (fun A hA C hr hlocks hin => ?_)
  subst hA
  refine z_aload_n C 0 dX6_init_0 rfl ?_
  refine z_objInit C (mG 480 (by decide +kernel) rfl) zobj_w ⟨by decide, by decide⟩ (Nat.le_of_ble_eq_true rfl) dX6_init_1 ?_
  refine z_aload_n C 0 dX6_init_4 rfl ?_
  refine z_iconst C (0 : Int32) dX6_init_5 (by decide) ?_
  refine z_puti C flo_X6_9 hin dX6_init_6 (tEE (by decide) rfl) ?_
  refine z_aload_n C 0 dX6_init_9 rfl ?_
  refine z_iconst C (-1 : Int32) dX6_init_10 (by decide) ?_
  refine z_puti C flo_X6_15 hin dX6_init_11 (tEE (by decide) rfl) ?_
  refine z_aload_n C 0 dX6_init_14 rfl ?_
  refine z_bipush C (60 : Int32) dX6_init_15 (by decide) ?_
  refine z_newa C 11 60 (ty := .long) rfl (mG 420 (by decide +kernel) rfl) rfl (by decide) (fun _ _ h => h) (by decide) (by decide) rfl (by decide) (fun cA => by rw [ct_j (by rw [kEE]; rfl), aj_zA, vp_cell_l]; rfl) (by decide) (by decide) dX6_init_17 ?_
  refine z_putr C flo_X6_18 hin dX6_init_19 (tEE (by decide) rfl) (tEE (by decide) rfl) rfl rfl ?_
  exact z_return C hr hlocks dX6_init_22 (by decide) (by decide)
set_option maxRecDepth 100000 in
set_option maxHeartbeats 4000000 in
theorem c_i_X8_init_0 (l : Launch) (E : EN) (S : WS) : CI l E yX8_init cX8_init 2 3 60 128 6895 [.ref (eW E + 0)] 1 129 S (i_X8_init_0 E S) := by
  refine ci_of RX8 (by decide +kernel) rfl rfl [(0, .ref (eW E + 0))] rfl (Nat.le_of_ble_eq_true rfl) (fun A hA C hr hlocks hin => ?_)
  subst hA
  refine z_aload_n C 0 dX8_init_0 rfl ?_
  refine z_objInit C (mG 173 (by decide +kernel) rfl) zobj_w ⟨by decide, by decide⟩ (Nat.le_of_ble_eq_true rfl) dX8_init_1 ?_
  refine z_aload_n C 0 dX8_init_4 rfl ?_
  refine z_sipush C (1400 : Int32) dX8_init_5 (by decide) ?_
  refine z_newa C 9 1400 (ty := .byte) rfl (mG 209 (by decide +kernel) rfl) rfl (by decide) (fun _ _ h => h) (by decide) (by decide) rfl (by decide) (fun cA => by rw [ct_i (by rw [kEE]; decide) (by rw [kEE]; decide), ai_zA, vp_cell_i]; rfl) (by decide) (by decide) dX8_init_8 ?_
  refine z_putr C flo_X8_9 hin dX8_init_10 (tEE (by decide) rfl) (tEE (by decide) rfl) rfl rfl ?_
  refine z_aload_n C 0 dX8_init_13 rfl ?_
  refine z_iconst C (0 : Int32) dX8_init_14 (by decide) ?_
  refine z_puti C flo_X8_13 hin dX8_init_15 (tEE (by decide) rfl) ?_
  refine z_aload_n C 0 dX8_init_18 rfl ?_
  refine z_new C (T := TX4) tyX4 rfl inGX4 tyX4_ok (mG 176 (by decide +kernel) rfl) (mG 177 (by decide +kernel) rfl) (mG 151 (by decide +kernel) rfl) rfl (by decide) zdef_X4 (by decide) (by decide) dX8_init_19 ?_
  refine z_dup C dX8_init_22 rfl ?_
  refine z_callI (As := []) (rest := [.ref (eW E + 2), .ref (eW E + 0)]) C (c_i_X4_init_2 _ E _) dX8_init_23 (Or.inr ⟨"DowrySteps", mN 178 (by decide +kernel) rfl⟩) rfl (mG 179 (by decide +kernel) rfl) (mG 151 (by decide +kernel) rfl) (mG 180 (by decide +kernel) rfl) (by decide +kernel) rfl rfl ⟨by decide, by decide⟩ (Nat.le_of_ble_eq_true rfl) (by decide) (by decide) ?_
  refine z_putr C flo_X8_20 hin dX8_init_26 (tEE (by decide) rfl) (tEE (by decide) rfl) rfl rfl ?_
  refine z_aload_n C 0 dX8_init_29 rfl ?_
  refine z_new C (T := TX3) tyX3 rfl inGX3 tyX3_ok (mG 210 (by decide +kernel) rfl) (mG 211 (by decide +kernel) rfl) (mG 152 (by decide +kernel) rfl) rfl (by decide) zdef_X3 (by decide) (by decide) dX8_init_30 ?_
  refine z_dup C dX8_init_33 rfl ?_
  refine z_callI (As := []) (rest := [.ref (eW E + 4), .ref (eW E + 0)]) C (c_i_X3_init_4 _ E _) dX8_init_34 (Or.inr ⟨"DowrySteps", mN 212 (by decide +kernel) rfl⟩) rfl (mG 213 (by decide +kernel) rfl) (mG 152 (by decide +kernel) rfl) (mG 214 (by decide +kernel) rfl) (by decide +kernel) rfl rfl ⟨by decide, by decide⟩ (Nat.le_of_ble_eq_true rfl) (by decide) (by decide) ?_
  refine z_putr C flo_X8_27 hin dX8_init_37 (tEE (by decide) rfl) (tEE (by decide) rfl) rfl rfl ?_
  refine z_aload_n C 0 dX8_init_40 rfl ?_
  refine z_new C (T := TX3) tyX3 rfl inGX3 tyX3_ok (mG 210 (by decide +kernel) rfl) (mG 211 (by decide +kernel) rfl) (mG 152 (by decide +kernel) rfl) rfl (by decide) zdef_X3 (by decide) (by decide) dX8_init_41 ?_
  refine z_dup C dX8_init_44 rfl ?_
  refine z_callI (As := []) (rest := [.ref (eW E + 17), .ref (eW E + 0)]) C (c_i_X3_init_17 _ E _) dX8_init_45 (Or.inr ⟨"DowrySteps", mN 212 (by decide +kernel) rfl⟩) rfl (mG 213 (by decide +kernel) rfl) (mG 152 (by decide +kernel) rfl) (mG 214 (by decide +kernel) rfl) (by decide +kernel) rfl rfl ⟨by decide, by decide⟩ (Nat.le_of_ble_eq_true rfl) (by decide) (by decide) ?_
  refine z_putr C flo_X8_31 hin dX8_init_48 (tEE (by decide) rfl) (tEE (by decide) rfl) rfl rfl ?_
  refine z_aload_n C 0 dX8_init_51 rfl ?_
  refine z_iconst C (3 : Int32) dX8_init_52 (by decide) ?_
  refine z_anew C 13 3 (mG 210 (by decide +kernel) rfl) C.2.2.2.2.2.2.2.2.2.2.2.2.2.1 rfl (by decide) (by decide) (by decide) rfl (by decide) (by decide) (by decide) dX8_init_53 ?_
  refine z_putr C flo_X8_34 hin dX8_init_56 (tEE (by decide) rfl) (tEE (by decide) rfl) rfl rfl ?_
  refine z_aload_n C 0 dX8_init_59 rfl ?_
  refine z_iconst C (3 : Int32) dX8_init_60 (by decide) ?_
  refine z_newa C 12 3 (ty := .boolean) rfl (mG 375 (by decide +kernel) rfl) rfl (by decide) (fun _ _ h => h) (by decide) (by decide) rfl (by decide) (fun cA => by rw [ct_i (by rw [kEE]; decide) (by rw [kEE]; decide), ai_zA, vp_cell_i]; rfl) (by decide) (by decide) dX8_init_61 ?_
  refine z_putr C flo_X8_38 hin dX8_init_63 (tEE (by decide) rfl) (tEE (by decide) rfl) rfl rfl ?_
  refine z_aload_n C 0 dX8_init_66 rfl ?_
  refine z_iconst C (4 : Int32) dX8_init_67 (by decide) ?_
  refine z_anew C 14 4 (mG 325 (by decide +kernel) rfl) C.2.2.2.2.2.2.2.2.2.2.2.2.2.2 rfl (by decide) (by decide) (by decide) rfl (by decide) (by decide) (by decide) dX8_init_68 ?_
  refine z_putr C flo_X8_44 hin dX8_init_71 (tEE (by decide) rfl) (tEE (by decide) rfl) rfl rfl ?_
  refine z_aload_n C 0 dX8_init_74 rfl ?_
  refine z_new C (T := TX7) tyX7 rfl inGX7 tyX7_ok (mG 327 (by decide +kernel) rfl) (mG 328 (by decide +kernel) rfl) (mG 153 (by decide +kernel) rfl) rfl (by decide) zdef_X7 (by decide) (by decide) dX8_init_75 ?_
  refine z_dup C dX8_init_78 rfl ?_
  refine z_callI (As := []) (rest := [.ref (eW E + 33), .ref (eW E + 0)]) C (c_i_X7_init_33 _ E _) dX8_init_79 (Or.inr ⟨"DowrySteps", mN 329 (by decide +kernel) rfl⟩) rfl (mG 330 (by decide +kernel) rfl) (mG 153 (by decide +kernel) rfl) (mG 331 (by decide +kernel) rfl) (by decide +kernel) rfl rfl ⟨by decide, by decide⟩ (Nat.le_of_ble_eq_true rfl) (by decide) (by decide) ?_
  refine z_putr C flo_X8_51 hin dX8_init_82 (tEE (by decide) rfl) (tEE (by decide) rfl) rfl rfl ?_
  refine z_aload_n C 0 dX8_init_85 rfl ?_
  refine z_new C (T := TX5) tyX5 rfl inGX5 tyX5_ok (mG 376 (by decide +kernel) rfl) (mG 377 (by decide +kernel) rfl) (mG 154 (by decide +kernel) rfl) rfl (by decide) zdef_X5 (by decide) (by decide) dX8_init_86 ?_
  refine z_dup C dX8_init_89 rfl ?_
  refine z_callI (As := []) (rest := [.ref (eW E + 50), .ref (eW E + 0)]) C (c_i_X5_init_50 _ E _) dX8_init_90 (Or.inr ⟨"DowrySteps", mN 378 (by decide +kernel) rfl⟩) rfl (mG 379 (by decide +kernel) rfl) (mG 154 (by decide +kernel) rfl) (mG 380 (by decide +kernel) rfl) (by decide +kernel) rfl rfl ⟨by decide, by decide⟩ (Nat.le_of_ble_eq_true rfl) (by decide) (by decide) ?_
  refine z_putr C flo_X8_58 hin dX8_init_93 (tEE (by decide) rfl) (tEE (by decide) rfl) rfl rfl ?_
  refine z_aload_n C 0 dX8_init_96 rfl ?_
  refine z_new C (T := TX0) tyX0 rfl inGX0 tyX0_ok (mG 421 (by decide +kernel) rfl) (mG 422 (by decide +kernel) rfl) (mG 156 (by decide +kernel) rfl) rfl (by decide) zdef_X0 (by decide) (by decide) dX8_init_97 ?_
  refine z_dup C dX8_init_100 rfl ?_
  refine z_callI (As := []) (rest := [.ref (eW E + 58), .ref (eW E + 0)]) C (c_i_X0_init_58 _ E _) dX8_init_101 (Or.inr ⟨"DowrySteps", mN 423 (by decide +kernel) rfl⟩) rfl (mG 424 (by decide +kernel) rfl) (mG 156 (by decide +kernel) rfl) (mG 425 (by decide +kernel) rfl) (by decide +kernel) rfl rfl ⟨by decide, by decide⟩ (Nat.le_of_ble_eq_true rfl) (by decide) (by decide) ?_
  refine z_putr C flo_X8_65 hin dX8_init_104 (tEE (by decide) rfl) (tEE (by decide) rfl) rfl rfl ?_
  refine z_aload_n C 0 dX8_init_107 rfl ?_
  refine z_new C (T := TX2) tyX2 rfl inGX2 tyX2_ok (mG 454 (by decide +kernel) rfl) (mG 455 (by decide +kernel) rfl) (mG 157 (by decide +kernel) rfl) rfl (by decide) zdef_X2 (by decide) (by decide) dX8_init_108 ?_
  refine z_dup C dX8_init_111 rfl ?_
  refine z_callI (As := []) (rest := [.ref (eW E + 74), .ref (eW E + 0)]) C (c_i_X2_init_74 _ E _) dX8_init_112 (Or.inr ⟨"DowrySteps", mN 456 (by decide +kernel) rfl⟩) rfl (mG 457 (by decide +kernel) rfl) (mG 157 (by decide +kernel) rfl) (mG 458 (by decide +kernel) rfl) (by decide +kernel) rfl rfl ⟨by decide, by decide⟩ (Nat.le_of_ble_eq_true rfl) (by decide) (by decide) ?_
  refine z_putr C flo_X8_72 hin dX8_init_115 (tEE (by decide) rfl) (tEE (by decide) rfl) rfl rfl ?_
  refine z_aload_n C 0 dX8_init_118 rfl ?_
  refine z_bipush C (7 : Int32) dX8_init_119 (by decide) ?_
  refine z_newa C 10 7 (ty := .int) rfl (mG 323 (by decide +kernel) rfl) rfl (by decide) (fun _ _ h => h) (by decide) (by decide) rfl (by decide) (fun cA => by rw [ct_i (by rw [kEE]; decide) (by rw [kEE]; decide), ai_zA, vp_cell_i]; rfl) (by decide) (by decide) dX8_init_121 ?_
  refine z_putr C flo_X8_76 hin dX8_init_123 (tEE (by decide) rfl) (tEE (by decide) rfl) rfl rfl ?_
  refine z_aload_n C 0 dX8_init_126 rfl ?_
  refine z_bipush C (8 : Int32) dX8_init_127 (by decide) ?_
  refine z_newa C 10 8 (ty := .int) rfl (mG 323 (by decide +kernel) rfl) rfl (by decide) (fun _ _ h => h) (by decide) (by decide) rfl (by decide) (fun cA => by rw [ct_i (by rw [kEE]; decide) (by rw [kEE]; decide), ai_zA, vp_cell_i]; rfl) (by decide) (by decide) dX8_init_129 ?_
  refine z_putr C flo_X8_80 hin dX8_init_131 (tEE (by decide) rfl) (tEE (by decide) rfl) rfl rfl ?_
  refine z_aload_n C 0 dX8_init_134 rfl ?_
  refine z_bipush C (10 : Int32) dX8_init_135 (by decide) ?_
  refine z_newa C 10 10 (ty := .int) rfl (mG 323 (by decide +kernel) rfl) rfl (by decide) (fun _ _ h => h) (by decide) (by decide) rfl (by decide) (fun cA => by rw [ct_i (by rw [kEE]; decide) (by rw [kEE]; decide), ai_zA, vp_cell_i]; rfl) (by decide) (by decide) dX8_init_137 ?_
  refine z_putr C flo_X8_83 hin dX8_init_139 (tEE (by decide) rfl) (tEE (by decide) rfl) rfl rfl ?_
  refine z_iconst C (0 : Int32) dX8_init_142 (by decide) ?_
  refine z_istore_n C [(1, .int (0 : Int32)), (0, .ref (eW E + 0))] dX8_init_143 (by decide) rfl ?_
  refine z_iload_n C 0 dX8_init_144 rfl ?_
  refine z_iconst C (3 : Int32) dX8_init_145 (by decide) ?_
  refine z_icmp_geF C 168 dX8_init_146 (by decide) (by decide) ?_
  refine z_aload_n C 1 dX8_init_149 rfl ?_
  refine z_getr C (b := (eW E + 30)) flo_X8_34 dX8_init_150 (tEE (by decide) rfl) (by rw [gr_sr_f (by decide), gr_zA (by omega), gr_sr_f (by decide), gr_zA (by omega), gr_sr_f (by decide), gr_zA (by omega), gr_sr_f (by decide), i_X2_init_74_low (by omega), gr_zA (by omega), gr_sr_f (by decide), i_X0_init_58_low (by omega), gr_zA (by omega), gr_sr_f (by decide), i_X5_init_50_low (by omega), gr_zA (by omega), gr_sr_f (by decide), i_X7_init_33_low (by omega), gr_zA (by omega), gr_sr_f (by decide), gr_zA (by omega), gr_sr_f (by decide), gr_zA (by omega), gr_sr_eq]) ?_
  refine z_iload_n C 0 dX8_init_153 rfl ?_
  refine z_new C (T := TX3) tyX3 rfl inGX3 tyX3_ok (mG 210 (by decide +kernel) rfl) (mG 211 (by decide +kernel) rfl) (mG 152 (by decide +kernel) rfl) rfl (by decide) zdef_X3 (by decide) (by decide) dX8_init_154 ?_
  refine z_dup C dX8_init_157 rfl ?_
  refine z_callI (As := []) (rest := [.ref (eW E + 82), .int (0 : Int32), .ref (eW E + 30)]) C (c_i_X3_init_82 _ E _) dX8_init_158 (Or.inr ⟨"DowrySteps", mN 212 (by decide +kernel) rfl⟩) rfl (mG 213 (by decide +kernel) rfl) (mG 152 (by decide +kernel) rfl) (mG 214 (by decide +kernel) rfl) (by decide +kernel) rfl rfl ⟨by decide, by decide⟩ (Nat.le_of_ble_eq_true rfl) (by decide) (by decide) ?_
  refine z_aast C 13 2 rfl (by decide) rfl (by decide) dX8_init_161 (tEE (by decide) rfl) (tEE (by decide) rfl) (by decide) (by rw [nEE]; decide) ?_
  refine z_iinc C (v := (1 : Int32)) 0 [(1, .int (1 : Int32)), (0, .ref (eW E + 0))] dX8_init_162 rfl (by decide) (by decide) rfl ?_
  refine z_goto C 144 dX8_init_165 (by decide) ?_
  refine z_iload_n C 0 dX8_init_144 rfl ?_
  refine z_iconst C (3 : Int32) dX8_init_145 (by decide) ?_
  refine z_icmp_geF C 168 dX8_init_146 (by decide) (by decide) ?_
  refine z_aload_n C 1 dX8_init_149 rfl ?_
  refine z_getr C (b := (eW E + 30)) flo_X8_34 dX8_init_150 (tEE (by decide) rfl) (by rw [gr_wr, i_X3_init_82_low (by omega), gr_zA (by omega), gr_sr_f (by decide), gr_zA (by omega), gr_sr_f (by decide), gr_zA (by omega), gr_sr_f (by decide), gr_zA (by omega), gr_sr_f (by decide), i_X2_init_74_low (by omega), gr_zA (by omega), gr_sr_f (by decide), i_X0_init_58_low (by omega), gr_zA (by omega), gr_sr_f (by decide), i_X5_init_50_low (by omega), gr_zA (by omega), gr_sr_f (by decide), i_X7_init_33_low (by omega), gr_zA (by omega), gr_sr_f (by decide), gr_zA (by omega), gr_sr_f (by decide), gr_zA (by omega), gr_sr_eq]) ?_
  refine z_iload_n C 0 dX8_init_153 rfl ?_
  refine z_new C (T := TX3) tyX3 rfl inGX3 tyX3_ok (mG 210 (by decide +kernel) rfl) (mG 211 (by decide +kernel) rfl) (mG 152 (by decide +kernel) rfl) rfl (by decide) zdef_X3 (by decide) (by decide) dX8_init_154 ?_
  refine z_dup C dX8_init_157 rfl ?_
  refine z_callI (As := []) (rest := [.ref (eW E + 95), .int (1 : Int32), .ref (eW E + 30)]) C (c_i_X3_init_95 _ E _) dX8_init_158 (Or.inr ⟨"DowrySteps", mN 212 (by decide +kernel) rfl⟩) rfl (mG 213 (by decide +kernel) rfl) (mG 152 (by decide +kernel) rfl) (mG 214 (by decide +kernel) rfl) (by decide +kernel) rfl rfl ⟨by decide, by decide⟩ (Nat.le_of_ble_eq_true rfl) (by decide) (by decide) ?_
  refine z_aast C 13 2 rfl (by decide) rfl (by decide) dX8_init_161 (tEE (by decide) rfl) (tEE (by decide) rfl) (by decide) (by rw [nEE]; decide) ?_
  refine z_iinc C (v := (2 : Int32)) 0 [(1, .int (2 : Int32)), (0, .ref (eW E + 0))] dX8_init_162 rfl (by decide) (by decide) rfl ?_
  refine z_goto C 144 dX8_init_165 (by decide) ?_
  refine z_iload_n C 0 dX8_init_144 rfl ?_
  refine z_iconst C (3 : Int32) dX8_init_145 (by decide) ?_
  refine z_icmp_geF C 168 dX8_init_146 (by decide) (by decide) ?_
  refine z_aload_n C 1 dX8_init_149 rfl ?_
  refine z_getr C (b := (eW E + 30)) flo_X8_34 dX8_init_150 (tEE (by decide) rfl) (by rw [gr_wr, i_X3_init_95_low (by omega), gr_zA (by omega), gr_wr, i_X3_init_82_low (by omega), gr_zA (by omega), gr_sr_f (by decide), gr_zA (by omega), gr_sr_f (by decide), gr_zA (by omega), gr_sr_f (by decide), gr_zA (by omega), gr_sr_f (by decide), i_X2_init_74_low (by omega), gr_zA (by omega), gr_sr_f (by decide), i_X0_init_58_low (by omega), gr_zA (by omega), gr_sr_f (by decide), i_X5_init_50_low (by omega), gr_zA (by omega), gr_sr_f (by decide), i_X7_init_33_low (by omega), gr_zA (by omega), gr_sr_f (by decide), gr_zA (by omega), gr_sr_f (by decide), gr_zA (by omega), gr_sr_eq]) ?_
  refine z_iload_n C 0 dX8_init_153 rfl ?_
  refine z_new C (T := TX3) tyX3 rfl inGX3 tyX3_ok (mG 210 (by decide +kernel) rfl) (mG 211 (by decide +kernel) rfl) (mG 152 (by decide +kernel) rfl) rfl (by decide) zdef_X3 (by decide) (by decide) dX8_init_154 ?_
  refine z_dup C dX8_init_157 rfl ?_
  refine z_callI (As := []) (rest := [.ref (eW E + 108), .int (2 : Int32), .ref (eW E + 30)]) C (c_i_X3_init_108 _ E _) dX8_init_158 (Or.inr ⟨"DowrySteps", mN 212 (by decide +kernel) rfl⟩) rfl (mG 213 (by decide +kernel) rfl) (mG 152 (by decide +kernel) rfl) (mG 214 (by decide +kernel) rfl) (by decide +kernel) rfl rfl ⟨by decide, by decide⟩ (Nat.le_of_ble_eq_true rfl) (by decide) (by decide) ?_
  refine z_aast C 13 2 rfl (by decide) rfl (by decide) dX8_init_161 (tEE (by decide) rfl) (tEE (by decide) rfl) (by decide) (by rw [nEE]; decide) ?_
  refine z_iinc C (v := (3 : Int32)) 0 [(1, .int (3 : Int32)), (0, .ref (eW E + 0))] dX8_init_162 rfl (by decide) (by decide) rfl ?_
  refine z_goto C 144 dX8_init_165 (by decide) ?_
  refine z_iload_n C 0 dX8_init_144 rfl ?_
  refine z_iconst C (3 : Int32) dX8_init_145 (by decide) ?_
  refine z_icmp_geT C 168 dX8_init_146 (by decide) (by decide) ?_
  refine z_iconst C (0 : Int32) dX8_init_168 (by decide) ?_
  refine z_istore_n C [(1, .int (0 : Int32)), (0, .ref (eW E + 0))] dX8_init_169 (by decide) rfl ?_
  refine z_iload_n C 0 dX8_init_170 rfl ?_
  refine z_iconst C (4 : Int32) dX8_init_171 (by decide) ?_
  refine z_icmp_geF C 194 dX8_init_172 (by decide) (by decide) ?_
  refine z_aload_n C 1 dX8_init_175 rfl ?_
  refine z_getr C (b := (eW E + 32)) flo_X8_44 dX8_init_176 (tEE (by decide) rfl) (by rw [gr_wr, i_X3_init_108_low (by omega), gr_zA (by omega), gr_wr, i_X3_init_95_low (by omega), gr_zA (by omega), gr_wr, i_X3_init_82_low (by omega), gr_zA (by omega), gr_sr_f (by decide), gr_zA (by omega), gr_sr_f (by decide), gr_zA (by omega), gr_sr_f (by decide), gr_zA (by omega), gr_sr_f (by decide), i_X2_init_74_low (by omega), gr_zA (by omega), gr_sr_f (by decide), i_X0_init_58_low (by omega), gr_zA (by omega), gr_sr_f (by decide), i_X5_init_50_low (by omega), gr_zA (by omega), gr_sr_f (by decide), i_X7_init_33_low (by omega), gr_zA (by omega), gr_sr_eq]) ?_
  refine z_iload_n C 0 dX8_init_179 rfl ?_
  refine z_new C (T := TX6) tyX6 rfl inGX6 tyX6_ok (mG 325 (by decide +kernel) rfl) (mG 476 (by decide +kernel) rfl) (mG 158 (by decide +kernel) rfl) rfl (by decide) zdef_X6 (by decide) (by decide) dX8_init_180 ?_
  refine z_dup C dX8_init_183 rfl ?_
  refine z_callI (As := []) (rest := [.ref (eW E + 121), .int (0 : Int32), .ref (eW E + 32)]) C (c_i_X6_init_121 _ E _) dX8_init_184 (Or.inr ⟨"DowrySteps", mN 477 (by decide +kernel) rfl⟩) rfl (mG 478 (by decide +kernel) rfl) (mG 158 (by decide +kernel) rfl) (mG 479 (by decide +kernel) rfl) (by decide +kernel) rfl rfl ⟨by decide, by decide⟩ (Nat.le_of_ble_eq_true rfl) (by decide) (by decide) ?_
  refine z_aast C 14 5 rfl (by decide) rfl (by decide) dX8_init_187 (tEE (by decide) rfl) (tEE (by decide) rfl) (by decide) (by rw [nEE]; decide) ?_
  refine z_iinc C (v := (1 : Int32)) 0 [(1, .int (1 : Int32)), (0, .ref (eW E + 0))] dX8_init_188 rfl (by decide) (by decide) rfl ?_
  refine z_goto C 170 dX8_init_191 (by decide) ?_
  refine z_iload_n C 0 dX8_init_170 rfl ?_
  refine z_iconst C (4 : Int32) dX8_init_171 (by decide) ?_
  refine z_icmp_geF C 194 dX8_init_172 (by decide) (by decide) ?_
  refine z_aload_n C 1 dX8_init_175 rfl ?_
  refine z_getr C (b := (eW E + 32)) flo_X8_44 dX8_init_176 (tEE (by decide) rfl) (by rw [gr_wr, i_X6_init_121_low (by omega), gr_zA (by omega), gr_wr, i_X3_init_108_low (by omega), gr_zA (by omega), gr_wr, i_X3_init_95_low (by omega), gr_zA (by omega), gr_wr, i_X3_init_82_low (by omega), gr_zA (by omega), gr_sr_f (by decide), gr_zA (by omega), gr_sr_f (by decide), gr_zA (by omega), gr_sr_f (by decide), gr_zA (by omega), gr_sr_f (by decide), i_X2_init_74_low (by omega), gr_zA (by omega), gr_sr_f (by decide), i_X0_init_58_low (by omega), gr_zA (by omega), gr_sr_f (by decide), i_X5_init_50_low (by omega), gr_zA (by omega), gr_sr_f (by decide), i_X7_init_33_low (by omega), gr_zA (by omega), gr_sr_eq]) ?_
  refine z_iload_n C 0 dX8_init_179 rfl ?_
  refine z_new C (T := TX6) tyX6 rfl inGX6 tyX6_ok (mG 325 (by decide +kernel) rfl) (mG 476 (by decide +kernel) rfl) (mG 158 (by decide +kernel) rfl) rfl (by decide) zdef_X6 (by decide) (by decide) dX8_init_180 ?_
  refine z_dup C dX8_init_183 rfl ?_
  refine z_callI (As := []) (rest := [.ref (eW E + 123), .int (1 : Int32), .ref (eW E + 32)]) C (c_i_X6_init_123 _ E _) dX8_init_184 (Or.inr ⟨"DowrySteps", mN 477 (by decide +kernel) rfl⟩) rfl (mG 478 (by decide +kernel) rfl) (mG 158 (by decide +kernel) rfl) (mG 479 (by decide +kernel) rfl) (by decide +kernel) rfl rfl ⟨by decide, by decide⟩ (Nat.le_of_ble_eq_true rfl) (by decide) (by decide) ?_
  refine z_aast C 14 5 rfl (by decide) rfl (by decide) dX8_init_187 (tEE (by decide) rfl) (tEE (by decide) rfl) (by decide) (by rw [nEE]; decide) ?_
  refine z_iinc C (v := (2 : Int32)) 0 [(1, .int (2 : Int32)), (0, .ref (eW E + 0))] dX8_init_188 rfl (by decide) (by decide) rfl ?_
  refine z_goto C 170 dX8_init_191 (by decide) ?_
  refine z_iload_n C 0 dX8_init_170 rfl ?_
  refine z_iconst C (4 : Int32) dX8_init_171 (by decide) ?_
  refine z_icmp_geF C 194 dX8_init_172 (by decide) (by decide) ?_
  refine z_aload_n C 1 dX8_init_175 rfl ?_
  refine z_getr C (b := (eW E + 32)) flo_X8_44 dX8_init_176 (tEE (by decide) rfl) (by rw [gr_wr, i_X6_init_123_low (by omega), gr_zA (by omega), gr_wr, i_X6_init_121_low (by omega), gr_zA (by omega), gr_wr, i_X3_init_108_low (by omega), gr_zA (by omega), gr_wr, i_X3_init_95_low (by omega), gr_zA (by omega), gr_wr, i_X3_init_82_low (by omega), gr_zA (by omega), gr_sr_f (by decide), gr_zA (by omega), gr_sr_f (by decide), gr_zA (by omega), gr_sr_f (by decide), gr_zA (by omega), gr_sr_f (by decide), i_X2_init_74_low (by omega), gr_zA (by omega), gr_sr_f (by decide), i_X0_init_58_low (by omega), gr_zA (by omega), gr_sr_f (by decide), i_X5_init_50_low (by omega), gr_zA (by omega), gr_sr_f (by decide), i_X7_init_33_low (by omega), gr_zA (by omega), gr_sr_eq]) ?_
  refine z_iload_n C 0 dX8_init_179 rfl ?_
  refine z_new C (T := TX6) tyX6 rfl inGX6 tyX6_ok (mG 325 (by decide +kernel) rfl) (mG 476 (by decide +kernel) rfl) (mG 158 (by decide +kernel) rfl) rfl (by decide) zdef_X6 (by decide) (by decide) dX8_init_180 ?_
  refine z_dup C dX8_init_183 rfl ?_
  refine z_callI (As := []) (rest := [.ref (eW E + 125), .int (2 : Int32), .ref (eW E + 32)]) C (c_i_X6_init_125 _ E _) dX8_init_184 (Or.inr ⟨"DowrySteps", mN 477 (by decide +kernel) rfl⟩) rfl (mG 478 (by decide +kernel) rfl) (mG 158 (by decide +kernel) rfl) (mG 479 (by decide +kernel) rfl) (by decide +kernel) rfl rfl ⟨by decide, by decide⟩ (Nat.le_of_ble_eq_true rfl) (by decide) (by decide) ?_
  refine z_aast C 14 5 rfl (by decide) rfl (by decide) dX8_init_187 (tEE (by decide) rfl) (tEE (by decide) rfl) (by decide) (by rw [nEE]; decide) ?_
  refine z_iinc C (v := (3 : Int32)) 0 [(1, .int (3 : Int32)), (0, .ref (eW E + 0))] dX8_init_188 rfl (by decide) (by decide) rfl ?_
  refine z_goto C 170 dX8_init_191 (by decide) ?_
  refine z_iload_n C 0 dX8_init_170 rfl ?_
  refine z_iconst C (4 : Int32) dX8_init_171 (by decide) ?_
  refine z_icmp_geF C 194 dX8_init_172 (by decide) (by decide) ?_
  refine z_aload_n C 1 dX8_init_175 rfl ?_
  refine z_getr C (b := (eW E + 32)) flo_X8_44 dX8_init_176 (tEE (by decide) rfl) (by rw [gr_wr, i_X6_init_125_low (by omega), gr_zA (by omega), gr_wr, i_X6_init_123_low (by omega), gr_zA (by omega), gr_wr, i_X6_init_121_low (by omega), gr_zA (by omega), gr_wr, i_X3_init_108_low (by omega), gr_zA (by omega), gr_wr, i_X3_init_95_low (by omega), gr_zA (by omega), gr_wr, i_X3_init_82_low (by omega), gr_zA (by omega), gr_sr_f (by decide), gr_zA (by omega), gr_sr_f (by decide), gr_zA (by omega), gr_sr_f (by decide), gr_zA (by omega), gr_sr_f (by decide), i_X2_init_74_low (by omega), gr_zA (by omega), gr_sr_f (by decide), i_X0_init_58_low (by omega), gr_zA (by omega), gr_sr_f (by decide), i_X5_init_50_low (by omega), gr_zA (by omega), gr_sr_f (by decide), i_X7_init_33_low (by omega), gr_zA (by omega), gr_sr_eq]) ?_
  refine z_iload_n C 0 dX8_init_179 rfl ?_
  refine z_new C (T := TX6) tyX6 rfl inGX6 tyX6_ok (mG 325 (by decide +kernel) rfl) (mG 476 (by decide +kernel) rfl) (mG 158 (by decide +kernel) rfl) rfl (by decide) zdef_X6 (by decide) (by decide) dX8_init_180 ?_
  refine z_dup C dX8_init_183 rfl ?_
  refine z_callI (As := []) (rest := [.ref (eW E + 127), .int (3 : Int32), .ref (eW E + 32)]) C (c_i_X6_init_127 _ E _) dX8_init_184 (Or.inr ⟨"DowrySteps", mN 477 (by decide +kernel) rfl⟩) rfl (mG 478 (by decide +kernel) rfl) (mG 158 (by decide +kernel) rfl) (mG 479 (by decide +kernel) rfl) (by decide +kernel) rfl rfl ⟨by decide, by decide⟩ (Nat.le_of_ble_eq_true rfl) (by decide) (by decide) ?_
  refine z_aast C 14 5 rfl (by decide) rfl (by decide) dX8_init_187 (tEE (by decide) rfl) (tEE (by decide) rfl) (by decide) (by rw [nEE]; decide) ?_
  refine z_iinc C (v := (4 : Int32)) 0 [(1, .int (4 : Int32)), (0, .ref (eW E + 0))] dX8_init_188 rfl (by decide) (by decide) rfl ?_
  refine z_goto C 170 dX8_init_191 (by decide) ?_
  refine z_iload_n C 0 dX8_init_170 rfl ?_
  refine z_iconst C (4 : Int32) dX8_init_171 (by decide) ?_
  refine z_icmp_geT C 194 dX8_init_172 (by decide) (by decide) ?_
  exact z_return C hr hlocks dX8_init_194 (by decide) (by decide)
set_option maxRecDepth 100000 in
set_option maxHeartbeats 4000000 in
theorem c_i_X9_init_129 (l : Launch) (E : EN) (S : WS) : CI l E yX9_init cX9_init 1 1 20 19 2330 [.ref (eW E + 129)] 130 149 S (i_X9_init_129 E S) := by
  refine ci_of RX9 (by decide +kernel) rfl rfl [(0, .ref (eW E + 129))] rfl (Nat.le_of_ble_eq_true rfl) (fun A hA C hr hlocks hin => ?_)
  subst hA
  refine z_aload_n C 0 dX9_init_0 rfl ?_
  refine z_objInit C (mG 1260 (by decide +kernel) rfl) zobj_w ⟨by decide, by decide⟩ (Nat.le_of_ble_eq_true rfl) dX9_init_1 ?_
  refine z_aload_n C 0 dX9_init_4 rfl ?_
  refine z_bipush C (109 : Int32) dX9_init_5 (by decide) ?_
  refine z_newa C 10 109 (ty := .int) rfl (mG 323 (by decide +kernel) rfl) rfl (by decide) (fun _ _ h => h) (by decide) (by decide) rfl (by decide) (fun cA => by rw [ct_i (by rw [kEE]; decide) (by rw [kEE]; decide), ai_zA, vp_cell_i]; rfl) (by decide) (by decide) dX9_init_7 ?_
  refine z_putr C flo_X9_9 hin dX9_init_9 (tEE (by decide) rfl) (tEE (by decide) rfl) rfl rfl ?_
  refine z_aload_n C 0 dX9_init_12 rfl ?_
  refine z_sipush C (327 : Int32) dX9_init_13 (by decide) ?_
  refine z_newa C 10 327 (ty := .int) rfl (mG 323 (by decide +kernel) rfl) rfl (by decide) (fun _ _ h => h) (by decide) (by decide) rfl (by decide) (fun cA => by rw [ct_i (by rw [kEE]; decide) (by rw [kEE]; decide), ai_zA, vp_cell_i]; rfl) (by decide) (by decide) dX9_init_16 ?_
  refine z_putr C flo_X9_13 hin dX9_init_18 (tEE (by decide) rfl) (tEE (by decide) rfl) rfl rfl ?_
  refine z_aload_n C 0 dX9_init_21 rfl ?_
  refine z_iconst C (3 : Int32) dX9_init_22 (by decide) ?_
  refine z_newa C 12 3 (ty := .boolean) rfl (mG 375 (by decide +kernel) rfl) rfl (by decide) (fun _ _ h => h) (by decide) (by decide) rfl (by decide) (fun cA => by rw [ct_i (by rw [kEE]; decide) (by rw [kEE]; decide), ai_zA, vp_cell_i]; rfl) (by decide) (by decide) dX9_init_23 ?_
  refine z_putr C flo_X9_16 hin dX9_init_25 (tEE (by decide) rfl) (tEE (by decide) rfl) rfl rfl ?_
  refine z_aload_n C 0 dX9_init_28 rfl ?_
  refine z_sipush C (1400 : Int32) dX9_init_29 (by decide) ?_
  refine z_newa C 9 1400 (ty := .byte) rfl (mG 209 (by decide +kernel) rfl) rfl (by decide) (fun _ _ h => h) (by decide) (by decide) rfl (by decide) (fun cA => by rw [ct_i (by rw [kEE]; decide) (by rw [kEE]; decide), ai_zA, vp_cell_i]; rfl) (by decide) (by decide) dX9_init_32 ?_
  refine z_putr C flo_X9_20 hin dX9_init_34 (tEE (by decide) rfl) (tEE (by decide) rfl) rfl rfl ?_
  refine z_aload_n C 0 dX9_init_37 rfl ?_
  refine z_iconst C (5 : Int32) dX9_init_38 (by decide) ?_
  refine z_newa C 10 5 (ty := .int) rfl (mG 323 (by decide +kernel) rfl) rfl (by decide) (fun _ _ h => h) (by decide) (by decide) rfl (by decide) (fun cA => by rw [ct_i (by rw [kEE]; decide) (by rw [kEE]; decide), ai_zA, vp_cell_i]; rfl) (by decide) (by decide) dX9_init_39 ?_
  refine z_putr C flo_X9_24 hin dX9_init_41 (tEE (by decide) rfl) (tEE (by decide) rfl) rfl rfl ?_
  refine z_aload_n C 0 dX9_init_44 rfl ?_
  refine z_iconst C (-1 : Int32) dX9_init_45 (by decide) ?_
  refine z_puti C flo_X9_27 hin dX9_init_46 (tEE (by decide) rfl) ?_
  refine z_aload_n C 0 dX9_init_49 rfl ?_
  refine z_bipush C (109 : Int32) dX9_init_50 (by decide) ?_
  refine z_newa C 10 109 (ty := .int) rfl (mG 323 (by decide +kernel) rfl) rfl (by decide) (fun _ _ h => h) (by decide) (by decide) rfl (by decide) (fun cA => by rw [ct_i (by rw [kEE]; decide) (by rw [kEE]; decide), ai_zA, vp_cell_i]; rfl) (by decide) (by decide) dX9_init_52 ?_
  refine z_putr C flo_X9_31 hin dX9_init_54 (tEE (by decide) rfl) (tEE (by decide) rfl) rfl rfl ?_
  refine z_aload_n C 0 dX9_init_57 rfl ?_
  refine z_iconst C (-1 : Int32) dX9_init_58 (by decide) ?_
  refine z_puti C flo_X9_34 hin dX9_init_59 (tEE (by decide) rfl) ?_
  refine z_aload_n C 0 dX9_init_62 rfl ?_
  refine z_bipush C (8 : Int32) dX9_init_63 (by decide) ?_
  refine z_newa C 10 8 (ty := .int) rfl (mG 323 (by decide +kernel) rfl) rfl (by decide) (fun _ _ h => h) (by decide) (by decide) rfl (by decide) (fun cA => by rw [ct_i (by rw [kEE]; decide) (by rw [kEE]; decide), ai_zA, vp_cell_i]; rfl) (by decide) (by decide) dX9_init_65 ?_
  refine z_putr C flo_X9_37 hin dX9_init_67 (tEE (by decide) rfl) (tEE (by decide) rfl) rfl rfl ?_
  refine z_aload_n C 0 dX9_init_70 rfl ?_
  refine z_bipush C (8 : Int32) dX9_init_71 (by decide) ?_
  refine z_newa C 10 8 (ty := .int) rfl (mG 323 (by decide +kernel) rfl) rfl (by decide) (fun _ _ h => h) (by decide) (by decide) rfl (by decide) (fun cA => by rw [ct_i (by rw [kEE]; decide) (by rw [kEE]; decide), ai_zA, vp_cell_i]; rfl) (by decide) (by decide) dX9_init_73 ?_
  refine z_putr C flo_X9_40 hin dX9_init_75 (tEE (by decide) rfl) (tEE (by decide) rfl) rfl rfl ?_
  refine z_aload_n C 0 dX9_init_78 rfl ?_
  refine z_bipush C (8 : Int32) dX9_init_79 (by decide) ?_
  refine z_newa C 11 8 (ty := .long) rfl (mG 420 (by decide +kernel) rfl) rfl (by decide) (fun _ _ h => h) (by decide) (by decide) rfl (by decide) (fun cA => by rw [ct_j (by rw [kEE]; rfl), aj_zA, vp_cell_l]; rfl) (by decide) (by decide) dX9_init_81 ?_
  refine z_putr C flo_X9_43 hin dX9_init_83 (tEE (by decide) rfl) (tEE (by decide) rfl) rfl rfl ?_
  refine z_aload_n C 0 dX9_init_86 rfl ?_
  refine z_bipush C (8 : Int32) dX9_init_87 (by decide) ?_
  refine z_newa C 10 8 (ty := .int) rfl (mG 323 (by decide +kernel) rfl) rfl (by decide) (fun _ _ h => h) (by decide) (by decide) rfl (by decide) (fun cA => by rw [ct_i (by rw [kEE]; decide) (by rw [kEE]; decide), ai_zA, vp_cell_i]; rfl) (by decide) (by decide) dX9_init_89 ?_
  refine z_putr C flo_X9_47 hin dX9_init_91 (tEE (by decide) rfl) (tEE (by decide) rfl) rfl rfl ?_
  refine z_aload_n C 0 dX9_init_94 rfl ?_
  refine z_bipush C (8 : Int32) dX9_init_95 (by decide) ?_
  refine z_newa C 10 8 (ty := .int) rfl (mG 323 (by decide +kernel) rfl) rfl (by decide) (fun _ _ h => h) (by decide) (by decide) rfl (by decide) (fun cA => by rw [ct_i (by rw [kEE]; decide) (by rw [kEE]; decide), ai_zA, vp_cell_i]; rfl) (by decide) (by decide) dX9_init_97 ?_
  refine z_putr C flo_X9_50 hin dX9_init_99 (tEE (by decide) rfl) (tEE (by decide) rfl) rfl rfl ?_
  refine z_aload_n C 0 dX9_init_102 rfl ?_
  refine z_bipush C (7 : Int32) dX9_init_103 (by decide) ?_
  refine z_newa C 10 7 (ty := .int) rfl (mG 323 (by decide +kernel) rfl) rfl (by decide) (fun _ _ h => h) (by decide) (by decide) rfl (by decide) (fun cA => by rw [ct_i (by rw [kEE]; decide) (by rw [kEE]; decide), ai_zA, vp_cell_i]; rfl) (by decide) (by decide) dX9_init_105 ?_
  refine z_putr C flo_X9_53 hin dX9_init_107 (tEE (by decide) rfl) (tEE (by decide) rfl) rfl rfl ?_
  refine z_aload_n C 0 dX9_init_110 rfl ?_
  refine z_bipush C (7 : Int32) dX9_init_111 (by decide) ?_
  refine z_newa C 10 7 (ty := .int) rfl (mG 323 (by decide +kernel) rfl) rfl (by decide) (fun _ _ h => h) (by decide) (by decide) rfl (by decide) (fun cA => by rw [ct_i (by rw [kEE]; decide) (by rw [kEE]; decide), ai_zA, vp_cell_i]; rfl) (by decide) (by decide) dX9_init_113 ?_
  refine z_putr C flo_X9_56 hin dX9_init_115 (tEE (by decide) rfl) (tEE (by decide) rfl) rfl rfl ?_
  refine z_aload_n C 0 dX9_init_118 rfl ?_
  refine z_bipush C (7 : Int32) dX9_init_119 (by decide) ?_
  refine z_newa C 10 7 (ty := .int) rfl (mG 323 (by decide +kernel) rfl) rfl (by decide) (fun _ _ h => h) (by decide) (by decide) rfl (by decide) (fun cA => by rw [ct_i (by rw [kEE]; decide) (by rw [kEE]; decide), ai_zA, vp_cell_i]; rfl) (by decide) (by decide) dX9_init_121 ?_
  refine z_putr C flo_X9_59 hin dX9_init_123 (tEE (by decide) rfl) (tEE (by decide) rfl) rfl rfl ?_
  refine z_aload_n C 0 dX9_init_126 rfl ?_
  refine z_bipush C (8 : Int32) dX9_init_127 (by decide) ?_
  refine z_newa C 10 8 (ty := .int) rfl (mG 323 (by decide +kernel) rfl) rfl (by decide) (fun _ _ h => h) (by decide) (by decide) rfl (by decide) (fun cA => by rw [ct_i (by rw [kEE]; decide) (by rw [kEE]; decide), ai_zA, vp_cell_i]; rfl) (by decide) (by decide) dX9_init_129 ?_
  refine z_putr C flo_X9_62 hin dX9_init_131 (tEE (by decide) rfl) (tEE (by decide) rfl) rfl rfl ?_
  refine z_aload_n C 0 dX9_init_134 rfl ?_
  refine z_iconst C (4 : Int32) dX9_init_135 (by decide) ?_
  refine z_newa C 10 4 (ty := .int) rfl (mG 323 (by decide +kernel) rfl) rfl (by decide) (fun _ _ h => h) (by decide) (by decide) rfl (by decide) (fun cA => by rw [ct_i (by rw [kEE]; decide) (by rw [kEE]; decide), ai_zA, vp_cell_i]; rfl) (by decide) (by decide) dX9_init_136 ?_
  refine z_dup C dX9_init_138 rfl ?_
  refine z_iconst C (0 : Int32) dX9_init_139 (by decide) ?_
  refine z_iconst C (-1 : Int32) dX9_init_140 (by decide) ?_
  refine z_iast C dX9_init_141 (tEE (by decide) rfl) (by rw [nEE]; decide) ?_
  refine z_dup C dX9_init_142 rfl ?_
  refine z_iconst C (1 : Int32) dX9_init_143 (by decide) ?_
  refine z_iconst C (-1 : Int32) dX9_init_144 (by decide) ?_
  refine z_iast C dX9_init_145 (tEE (by decide) rfl) (by rw [nEE]; decide) ?_
  refine z_dup C dX9_init_146 rfl ?_
  refine z_iconst C (2 : Int32) dX9_init_147 (by decide) ?_
  refine z_iconst C (-1 : Int32) dX9_init_148 (by decide) ?_
  refine z_iast C dX9_init_149 (tEE (by decide) rfl) (by rw [nEE]; decide) ?_
  refine z_dup C dX9_init_150 rfl ?_
  refine z_iconst C (3 : Int32) dX9_init_151 (by decide) ?_
  refine z_iconst C (-1 : Int32) dX9_init_152 (by decide) ?_
  refine z_iast C dX9_init_153 (tEE (by decide) rfl) (by rw [nEE]; decide) ?_
  refine z_putr C flo_X9_65 hin dX9_init_154 (tEE (by decide) rfl) (tEE (by decide) rfl) rfl rfl ?_
  refine z_aload_n C 0 dX9_init_157 rfl ?_
  refine z_iconst C (4 : Int32) dX9_init_158 (by decide) ?_
  refine z_newa C 10 4 (ty := .int) rfl (mG 323 (by decide +kernel) rfl) rfl (by decide) (fun _ _ h => h) (by decide) (by decide) rfl (by decide) (fun cA => by rw [ct_i (by rw [kEE]; decide) (by rw [kEE]; decide), ai_zA, vp_cell_i]; rfl) (by decide) (by decide) dX9_init_159 ?_
  refine z_putr C flo_X9_68 hin dX9_init_161 (tEE (by decide) rfl) (tEE (by decide) rfl) rfl rfl ?_
  refine z_aload_n C 0 dX9_init_164 rfl ?_
  refine z_sipush C (240 : Int32) dX9_init_165 (by decide) ?_
  refine z_newa C 11 240 (ty := .long) rfl (mG 420 (by decide +kernel) rfl) rfl (by decide) (fun _ _ h => h) (by decide) (by decide) rfl (by decide) (fun cA => by rw [ct_j (by rw [kEE]; rfl), aj_zA, vp_cell_l]; rfl) (by decide) (by decide) dX9_init_168 ?_
  refine z_putr C flo_X9_71 hin dX9_init_170 (tEE (by decide) rfl) (tEE (by decide) rfl) rfl rfl ?_
  refine z_aload_n C 0 dX9_init_173 rfl ?_
  refine z_bipush C (60 : Int32) dX9_init_174 (by decide) ?_
  refine z_newa C 11 60 (ty := .long) rfl (mG 420 (by decide +kernel) rfl) rfl (by decide) (fun _ _ h => h) (by decide) (by decide) rfl (by decide) (fun cA => by rw [ct_j (by rw [kEE]; rfl), aj_zA, vp_cell_l]; rfl) (by decide) (by decide) dX9_init_176 ?_
  refine z_putr C flo_X9_74 hin dX9_init_178 (tEE (by decide) rfl) (tEE (by decide) rfl) rfl rfl ?_
  exact z_return C hr hlocks dX9_init_181 (by decide) (by decide)
