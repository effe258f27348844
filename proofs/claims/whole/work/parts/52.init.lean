/-! The world at the start, read off the same world laid at address 0 -/
def Rl (w : Nat) (S T : WS) : Prop := (∀ f a, gi S f (w + a) = gi T f a) ∧ (∀ f a, gr S f (w + a) = (gr T f a).map (fun b => w + b)) ∧ (∀ a k, ar S (w + a) k = (ar T a k).map (fun b => w + b)) ∧ (∀ a, ai S (w + a) = ai T a) ∧ (∀ a, a ≠ 145 → ai S (w + a) = fun _ => 0) ∧ (∀ a, aj S (w + a) = fun _ => 0)
theorem iff_w {α : Type} {w a b : Nat} {x y x' y' : α} (hx : x = x') (hy : y = y') : (if w + b = w + a then x else y) = (if b = a then x' else y') := by
  by_cases h : b = a
  · rw [if_pos h, if_pos (by omega), hx]
  · rw [if_neg h, if_neg (by omega), hy]
theorem iff_w2 {α : Type} {w a b f g : Nat} {x y x' y' : α} (hx : x = x') (hy : y = y') : (if g = f ∧ w + b = w + a then x else y) = (if g = f ∧ b = a then x' else y') := by
  by_cases h : g = f ∧ b = a
  · rw [if_pos h, if_pos (by omega), hx]
  · rw [if_neg h, if_neg (by omega), hy]
theorem map_if {α β : Type} {p : Prop} [d : Decidable p] {x y : Option α} {g : α → β} : (if p then x else y).map g = if p then x.map g else y.map g := by
  by_cases h : p
  · rw [if_pos h, if_pos h]
  · rw [if_neg h, if_neg h]
theorem Rl.z {w a : Nat} {S T : WS} (h : Rl w S T) : Rl w (zA S (w + a)) (zA T a) := by
  obtain ⟨h1, h2, h3, h4, h5, h6⟩ := h
  refine ⟨fun f b => ?_, fun f b => ?_, fun b k => ?_, fun b => ?_, fun b hb => ?_, fun b => ?_⟩
  · exact iff_w rfl (h1 f b)
  · show (if w + b = w + a then none else gr S f (w + b)) = (if b = a then none else gr T f b).map _
    rw [map_if]; exact iff_w rfl (h2 f b)
  · by_cases e : b = a
    · subst e
      rw [ar_zA, ar_zA]; rfl
    · rw [ar_zA_a (by omega), ar_zA_a e]; exact h3 b k
  · exact iff_w rfl (h4 b)
  · by_cases e : b = a
    · subst e; exact ai_zA
    · rw [ai_zA_a (by omega)]; exact h5 b hb
  · by_cases e : b = a
    · subst e; exact aj_zA
    · rw [aj_zA_a (by omega)]; exact h6 b
theorem Rl.i {w f a : Nat} {v : Int32} {S T : WS} (h : Rl w S T) : Rl w (si S f (w + a) v) (si T f a v) := by
  obtain ⟨h1, h2, h3, h4, h5, h6⟩ := h
  exact ⟨fun g b => iff_w2 rfl (h1 g b), h2, h3, h4, h5, h6⟩
theorem Rl.r {w f a b : Nat} {S T : WS} (h : Rl w S T) : Rl w (sr S f (w + a) (some (w + b))) (sr T f a (some b)) := by
  obtain ⟨h1, h2, h3, h4, h5, h6⟩ := h
  refine ⟨h1, fun g q => ?_, h3, h4, h5, h6⟩
  show (if g = f ∧ w + q = w + a then some (w + b) else gr S g (w + q)) = (if g = f ∧ q = a then some b else gr T g q).map _
  rw [map_if]; exact iff_w2 rfl (h2 g q)
theorem Rl.w {w k : Nat} {v : Int32} {S T : WS} (h : Rl w S T) : Rl w (wi S (w + 145) (upd (ai S (w + 145)) k v)) (wi T 145 (upd (ai T 145) k v)) := by
  obtain ⟨h1, h2, h3, h4, h5, h6⟩ := h
  refine ⟨h1, h2, h3, fun b => iff_w (by rw [h4]) (h4 b), fun b hb => ?_, h6⟩
  rw [ai_wi_a (by omega)]; exact h5 b hb
theorem Rl.a {w a k b : Nat} {S T : WS} (h : Rl w S T) : Rl w (wr S (w + a) (va_up (ar S (w + a)) k (some (w + b)))) (wr T a (va_up (ar T a) k (some b))) := by
  obtain ⟨h1, h2, h3, h4, h5, h6⟩ := h
  refine ⟨h1, h2, fun q i => ?_, h4, h5, h6⟩
  by_cases e : q = a
  · subst e
    rw [ar_wr_eq, ar_wr_eq]
    show (if i = k then some (w + b) else ar S (w + q) i) = (if i = k then some b else ar T q i).map _
    rw [map_if, h3]; rfl
  · rw [ar_wr_a (by omega), ar_wr_a e]; exact h3 q i
def j_X4_init_2 (S : WS) : WS :=
  let S1 := zA S (3)
  let S2 := sr S1 192 (2) (some (3))
  let S3 := si S2 193 (2) (0 : Int32)
  let S4 := si S3 194 (2) (0 : Int32)
  let S5 := si S4 195 (2) (0 : Int32)
  let S6 := si S5 196 (2) (0 : Int32)
  let S7 := si S6 197 (2) (0 : Int32)
  let S8 := si S7 198 (2) (0 : Int32)
  let S9 := si S8 199 (2) (-1 : Int32)
  S9
theorem r_X4_init_2 {E : EN} {S T : WS} (h : Rl (eW E) S T) : Rl (eW E) (i_X4_init_2 E S) (j_X4_init_2 T) := by
  unfold i_X4_init_2 j_X4_init_2
  dsimp only
  refine Rl.i ?_
  refine Rl.i ?_
  refine Rl.i ?_
  refine Rl.i ?_
  refine Rl.i ?_
  refine Rl.i ?_
  refine Rl.i ?_
  refine Rl.r ?_
  refine Rl.z ?_
  exact h
def j_X3_init_4 (S : WS) : WS :=
  let S1 := zA S (5)
  let S2 := sr S1 135 (4) (some (5))
  let S3 := zA S2 (6)
  let S4 := sr S3 136 (4) (some (6))
  let S5 := zA S4 (7)
  let S6 := sr S5 137 (4) (some (7))
  let S7 := zA S6 (8)
  let S8 := sr S7 138 (4) (some (8))
  let S9 := zA S8 (9)
  let S10 := sr S9 139 (4) (some (9))
  let S11 := zA S10 (10)
  let S12 := sr S11 140 (4) (some (10))
  let S13 := zA S12 (11)
  let S14 := sr S13 141 (4) (some (11))
  let S15 := zA S14 (12)
  let S16 := sr S15 142 (4) (some (12))
  let S17 := zA S16 (13)
  let S18 := sr S17 143 (4) (some (13))
  let S19 := zA S18 (14)
  let S20 := sr S19 144 (4) (some (14))
  let S21 := zA S20 (15)
  let S22 := sr S21 145 (4) (some (15))
  let S23 := zA S22 (16)
  let S24 := sr S23 146 (4) (some (16))
  S24
theorem r_X3_init_4 {E : EN} {S T : WS} (h : Rl (eW E) S T) : Rl (eW E) (i_X3_init_4 E S) (j_X3_init_4 T) := by
  unfold i_X3_init_4 j_X3_init_4
  dsimp only
  refine Rl.r ?_
  refine Rl.z ?_
  refine Rl.r ?_
  refine Rl.z ?_
  refine Rl.r ?_
  refine Rl.z ?_
  refine Rl.r ?_
  refine Rl.z ?_
  refine Rl.r ?_
  refine Rl.z ?_
  refine Rl.r ?_
  refine Rl.z ?_
  refine Rl.r ?_
  refine Rl.z ?_
  refine Rl.r ?_
  refine Rl.z ?_
  refine Rl.r ?_
  refine Rl.z ?_
  refine Rl.r ?_
  refine Rl.z ?_
  refine Rl.r ?_
  refine Rl.z ?_
  refine Rl.r ?_
  refine Rl.z ?_
  exact h
def j_X3_init_17 (S : WS) : WS :=
  let S1 := zA S (18)
  let S2 := sr S1 135 (17) (some (18))
  let S3 := zA S2 (19)
  let S4 := sr S3 136 (17) (some (19))
  let S5 := zA S4 (20)
  let S6 := sr S5 137 (17) (some (20))
  let S7 := zA S6 (21)
  let S8 := sr S7 138 (17) (some (21))
  let S9 := zA S8 (22)
  let S10 := sr S9 139 (17) (some (22))
  let S11 := zA S10 (23)
  let S12 := sr S11 140 (17) (some (23))
  let S13 := zA S12 (24)
  let S14 := sr S13 141 (17) (some (24))
  let S15 := zA S14 (25)
  let S16 := sr S15 142 (17) (some (25))
  let S17 := zA S16 (26)
  let S18 := sr S17 143 (17) (some (26))
  let S19 := zA S18 (27)
  let S20 := sr S19 144 (17) (some (27))
  let S21 := zA S20 (28)
  let S22 := sr S21 145 (17) (some (28))
  let S23 := zA S22 (29)
  let S24 := sr S23 146 (17) (some (29))
  S24
theorem r_X3_init_17 {E : EN} {S T : WS} (h : Rl (eW E) S T) : Rl (eW E) (i_X3_init_17 E S) (j_X3_init_17 T) := by
  unfold i_X3_init_17 j_X3_init_17
  dsimp only
  refine Rl.r ?_
  refine Rl.z ?_
  refine Rl.r ?_
  refine Rl.z ?_
  refine Rl.r ?_
  refine Rl.z ?_
  refine Rl.r ?_
  refine Rl.z ?_
  refine Rl.r ?_
  refine Rl.z ?_
  refine Rl.r ?_
  refine Rl.z ?_
  refine Rl.r ?_
  refine Rl.z ?_
  refine Rl.r ?_
  refine Rl.z ?_
  refine Rl.r ?_
  refine Rl.z ?_
  refine Rl.r ?_
  refine Rl.z ?_
  refine Rl.r ?_
  refine Rl.z ?_
  refine Rl.r ?_
  refine Rl.z ?_
  exact h
def j_X3_init_34 (S : WS) : WS :=
  let S1 := zA S (35)
  let S2 := sr S1 135 (34) (some (35))
  let S3 := zA S2 (36)
  let S4 := sr S3 136 (34) (some (36))
  let S5 := zA S4 (37)
  let S6 := sr S5 137 (34) (some (37))
  let S7 := zA S6 (38)
  let S8 := sr S7 138 (34) (some (38))
  let S9 := zA S8 (39)
  let S10 := sr S9 139 (34) (some (39))
  let S11 := zA S10 (40)
  let S12 := sr S11 140 (34) (some (40))
  let S13 := zA S12 (41)
  let S14 := sr S13 141 (34) (some (41))
  let S15 := zA S14 (42)
  let S16 := sr S15 142 (34) (some (42))
  let S17 := zA S16 (43)
  let S18 := sr S17 143 (34) (some (43))
  let S19 := zA S18 (44)
  let S20 := sr S19 144 (34) (some (44))
  let S21 := zA S20 (45)
  let S22 := sr S21 145 (34) (some (45))
  let S23 := zA S22 (46)
  let S24 := sr S23 146 (34) (some (46))
  S24
theorem r_X3_init_34 {E : EN} {S T : WS} (h : Rl (eW E) S T) : Rl (eW E) (i_X3_init_34 E S) (j_X3_init_34 T) := by
  unfold i_X3_init_34 j_X3_init_34
  dsimp only
  refine Rl.r ?_
  refine Rl.z ?_
  refine Rl.r ?_
  refine Rl.z ?_
  refine Rl.r ?_
  refine Rl.z ?_
  refine Rl.r ?_
  refine Rl.z ?_
  refine Rl.r ?_
  refine Rl.z ?_
  refine Rl.r ?_
  refine Rl.z ?_
  refine Rl.r ?_
  refine Rl.z ?_
  refine Rl.r ?_
  refine Rl.z ?_
  refine Rl.r ?_
  refine Rl.z ?_
  refine Rl.r ?_
  refine Rl.z ?_
  refine Rl.r ?_
  refine Rl.z ?_
  refine Rl.r ?_
  refine Rl.z ?_
  exact h
def j_X7_init_33 (S : WS) : WS :=
  let S1 := zA S (34)
  let S2 := j_X3_init_34 S1
  let S3 := sr S2 384 (33) (some (34))
  let S4 := zA S3 (47)
  let S5 := sr S4 388 (33) (some (47))
  let S6 := zA S5 (48)
  let S7 := sr S6 391 (33) (some (48))
  let S8 := zA S7 (49)
  let S9 := sr S8 394 (33) (some (49))
  S9
theorem r_X7_init_33 {E : EN} {S T : WS} (h : Rl (eW E) S T) : Rl (eW E) (i_X7_init_33 E S) (j_X7_init_33 T) := by
  unfold i_X7_init_33 j_X7_init_33
  dsimp only
  refine Rl.r ?_
  refine Rl.z ?_
  refine Rl.r ?_
  refine Rl.z ?_
  refine Rl.r ?_
  refine Rl.z ?_
  refine Rl.r ?_
  refine r_X3_init_34 ?_
  refine Rl.z ?_
  exact h
def j_X5_init_50 (S : WS) : WS :=
  let S1 := zA S (51)
  let S2 := sr S1 257 (50) (some (51))
  let S3 := zA S2 (52)
  let S4 := sr S3 258 (50) (some (52))
  let S5 := zA S4 (53)
  let S6 := sr S5 259 (50) (some (53))
  let S7 := zA S6 (54)
  let S8 := sr S7 260 (50) (some (54))
  let S9 := zA S8 (55)
  let S10 := sr S9 261 (50) (some (55))
  let S11 := zA S10 (56)
  let S12 := sr S11 265 (50) (some (56))
  let S13 := zA S12 (57)
  let S14 := sr S13 266 (50) (some (57))
  S14
theorem r_X5_init_50 {E : EN} {S T : WS} (h : Rl (eW E) S T) : Rl (eW E) (i_X5_init_50 E S) (j_X5_init_50 T) := by
  unfold i_X5_init_50 j_X5_init_50
  dsimp only
  refine Rl.r ?_
  refine Rl.z ?_
  refine Rl.r ?_
  refine Rl.z ?_
  refine Rl.r ?_
  refine Rl.z ?_
  refine Rl.r ?_
  refine Rl.z ?_
  refine Rl.r ?_
  refine Rl.z ?_
  refine Rl.r ?_
  refine Rl.z ?_
  refine Rl.r ?_
  refine Rl.z ?_
  exact h
def j_X1_init_58 (S : WS) : WS :=

  S
theorem r_X1_init_58 {E : EN} {S T : WS} (h : Rl (eW E) S T) : Rl (eW E) (i_X1_init_58 E S) (j_X1_init_58 T) := by
  unfold i_X1_init_58 j_X1_init_58

  exact h
def j_X3_init_59 (S : WS) : WS :=
  let S1 := zA S (60)
  let S2 := sr S1 135 (59) (some (60))
  let S3 := zA S2 (61)
  let S4 := sr S3 136 (59) (some (61))
  let S5 := zA S4 (62)
  let S6 := sr S5 137 (59) (some (62))
  let S7 := zA S6 (63)
  let S8 := sr S7 138 (59) (some (63))
  let S9 := zA S8 (64)
  let S10 := sr S9 139 (59) (some (64))
  let S11 := zA S10 (65)
  let S12 := sr S11 140 (59) (some (65))
  let S13 := zA S12 (66)
  let S14 := sr S13 141 (59) (some (66))
  let S15 := zA S14 (67)
  let S16 := sr S15 142 (59) (some (67))
  let S17 := zA S16 (68)
  let S18 := sr S17 143 (59) (some (68))
  let S19 := zA S18 (69)
  let S20 := sr S19 144 (59) (some (69))
  let S21 := zA S20 (70)
  let S22 := sr S21 145 (59) (some (70))
  let S23 := zA S22 (71)
  let S24 := sr S23 146 (59) (some (71))
  S24
theorem r_X3_init_59 {E : EN} {S T : WS} (h : Rl (eW E) S T) : Rl (eW E) (i_X3_init_59 E S) (j_X3_init_59 T) := by
  unfold i_X3_init_59 j_X3_init_59
  dsimp only
  refine Rl.r ?_
  refine Rl.z ?_
  refine Rl.r ?_
  refine Rl.z ?_
  refine Rl.r ?_
  refine Rl.z ?_
  refine Rl.r ?_
  refine Rl.z ?_
  refine Rl.r ?_
  refine Rl.z ?_
  refine Rl.r ?_
  refine Rl.z ?_
  refine Rl.r ?_
  refine Rl.z ?_
  refine Rl.r ?_
  refine Rl.z ?_
  refine Rl.r ?_
  refine Rl.z ?_
  refine Rl.r ?_
  refine Rl.z ?_
  refine Rl.r ?_
  refine Rl.z ?_
  refine Rl.r ?_
  refine Rl.z ?_
  exact h
def j_X0_init_58 (S : WS) : WS :=
  let S1 := j_X1_init_58 S
  let S2 := zA S1 (59)
  let S3 := j_X3_init_59 S2
  let S4 := sr S3 0 (58) (some (59))
  let S5 := zA S4 (72)
  let S6 := sr S5 5 (58) (some (72))
  let S7 := zA S6 (73)
  let S8 := sr S7 6 (58) (some (73))
  S8
theorem r_X0_init_58 {E : EN} {S T : WS} (h : Rl (eW E) S T) : Rl (eW E) (i_X0_init_58 E S) (j_X0_init_58 T) := by
  unfold i_X0_init_58 j_X0_init_58
  dsimp only
  refine Rl.r ?_
  refine Rl.z ?_
  refine Rl.r ?_
  refine Rl.z ?_
  refine Rl.r ?_
  refine r_X3_init_59 ?_
  refine Rl.z ?_
  refine r_X1_init_58 ?_
  exact h
def j_X1_init_74 (S : WS) : WS :=

  S
theorem r_X1_init_74 {E : EN} {S T : WS} (h : Rl (eW E) S T) : Rl (eW E) (i_X1_init_74 E S) (j_X1_init_74 T) := by
  unfold i_X1_init_74 j_X1_init_74

  exact h
def j_X2_init_74 (S : WS) : WS :=
  let S1 := j_X1_init_74 S
  let S2 := zA S1 (75)
  let S3 := sr S2 65 (74) (some (75))
  let S4 := zA S3 (76)
  let S5 := sr S4 66 (74) (some (76))
  let S6 := zA S5 (77)
  let S7 := sr S6 67 (74) (some (77))
  let S8 := zA S7 (78)
  let S9 := sr S8 68 (74) (some (78))
  S9
theorem r_X2_init_74 {E : EN} {S T : WS} (h : Rl (eW E) S T) : Rl (eW E) (i_X2_init_74 E S) (j_X2_init_74 T) := by
  unfold i_X2_init_74 j_X2_init_74
  dsimp only
  refine Rl.r ?_
  refine Rl.z ?_
  refine Rl.r ?_
  refine Rl.z ?_
  refine Rl.r ?_
  refine Rl.z ?_
  refine Rl.r ?_
  refine Rl.z ?_
  refine r_X1_init_74 ?_
  exact h
def j_X3_init_82 (S : WS) : WS :=
  let S1 := zA S (83)
  let S2 := sr S1 135 (82) (some (83))
  let S3 := zA S2 (84)
  let S4 := sr S3 136 (82) (some (84))
  let S5 := zA S4 (85)
  let S6 := sr S5 137 (82) (some (85))
  let S7 := zA S6 (86)
  let S8 := sr S7 138 (82) (some (86))
  let S9 := zA S8 (87)
  let S10 := sr S9 139 (82) (some (87))
  let S11 := zA S10 (88)
  let S12 := sr S11 140 (82) (some (88))
  let S13 := zA S12 (89)
  let S14 := sr S13 141 (82) (some (89))
  let S15 := zA S14 (90)
  let S16 := sr S15 142 (82) (some (90))
  let S17 := zA S16 (91)
  let S18 := sr S17 143 (82) (some (91))
  let S19 := zA S18 (92)
  let S20 := sr S19 144 (82) (some (92))
  let S21 := zA S20 (93)
  let S22 := sr S21 145 (82) (some (93))
  let S23 := zA S22 (94)
  let S24 := sr S23 146 (82) (some (94))
  S24
theorem r_X3_init_82 {E : EN} {S T : WS} (h : Rl (eW E) S T) : Rl (eW E) (i_X3_init_82 E S) (j_X3_init_82 T) := by
  unfold i_X3_init_82 j_X3_init_82
  dsimp only
  refine Rl.r ?_
  refine Rl.z ?_
  refine Rl.r ?_
  refine Rl.z ?_
  refine Rl.r ?_
  refine Rl.z ?_
  refine Rl.r ?_
  refine Rl.z ?_
  refine Rl.r ?_
  refine Rl.z ?_
  refine Rl.r ?_
  refine Rl.z ?_
  refine Rl.r ?_
  refine Rl.z ?_
  refine Rl.r ?_
  refine Rl.z ?_
  refine Rl.r ?_
  refine Rl.z ?_
  refine Rl.r ?_
  refine Rl.z ?_
  refine Rl.r ?_
  refine Rl.z ?_
  refine Rl.r ?_
  refine Rl.z ?_
  exact h
def j_X3_init_95 (S : WS) : WS :=
  let S1 := zA S (96)
  let S2 := sr S1 135 (95) (some (96))
  let S3 := zA S2 (97)
  let S4 := sr S3 136 (95) (some (97))
  let S5 := zA S4 (98)
  let S6 := sr S5 137 (95) (some (98))
  let S7 := zA S6 (99)
  let S8 := sr S7 138 (95) (some (99))
  let S9 := zA S8 (100)
  let S10 := sr S9 139 (95) (some (100))
  let S11 := zA S10 (101)
  let S12 := sr S11 140 (95) (some (101))
  let S13 := zA S12 (102)
  let S14 := sr S13 141 (95) (some (102))
  let S15 := zA S14 (103)
  let S16 := sr S15 142 (95) (some (103))
  let S17 := zA S16 (104)
  let S18 := sr S17 143 (95) (some (104))
  let S19 := zA S18 (105)
  let S20 := sr S19 144 (95) (some (105))
  let S21 := zA S20 (106)
  let S22 := sr S21 145 (95) (some (106))
  let S23 := zA S22 (107)
  let S24 := sr S23 146 (95) (some (107))
  S24
theorem r_X3_init_95 {E : EN} {S T : WS} (h : Rl (eW E) S T) : Rl (eW E) (i_X3_init_95 E S) (j_X3_init_95 T) := by
  unfold i_X3_init_95 j_X3_init_95
  dsimp only
  refine Rl.r ?_
  refine Rl.z ?_
  refine Rl.r ?_
  refine Rl.z ?_
  refine Rl.r ?_
  refine Rl.z ?_
  refine Rl.r ?_
  refine Rl.z ?_
  refine Rl.r ?_
  refine Rl.z ?_
  refine Rl.r ?_
  refine Rl.z ?_
  refine Rl.r ?_
  refine Rl.z ?_
  refine Rl.r ?_
  refine Rl.z ?_
  refine Rl.r ?_
  refine Rl.z ?_
  refine Rl.r ?_
  refine Rl.z ?_
  refine Rl.r ?_
  refine Rl.z ?_
  refine Rl.r ?_
  refine Rl.z ?_
  exact h
def j_X3_init_108 (S : WS) : WS :=
  let S1 := zA S (109)
  let S2 := sr S1 135 (108) (some (109))
  let S3 := zA S2 (110)
  let S4 := sr S3 136 (108) (some (110))
  let S5 := zA S4 (111)
  let S6 := sr S5 137 (108) (some (111))
  let S7 := zA S6 (112)
  let S8 := sr S7 138 (108) (some (112))
  let S9 := zA S8 (113)
  let S10 := sr S9 139 (108) (some (113))
  let S11 := zA S10 (114)
  let S12 := sr S11 140 (108) (some (114))
  let S13 := zA S12 (115)
  let S14 := sr S13 141 (108) (some (115))
  let S15 := zA S14 (116)
  let S16 := sr S15 142 (108) (some (116))
  let S17 := zA S16 (117)
  let S18 := sr S17 143 (108) (some (117))
  let S19 := zA S18 (118)
  let S20 := sr S19 144 (108) (some (118))
  let S21 := zA S20 (119)
  let S22 := sr S21 145 (108) (some (119))
  let S23 := zA S22 (120)
  let S24 := sr S23 146 (108) (some (120))
  S24
theorem r_X3_init_108 {E : EN} {S T : WS} (h : Rl (eW E) S T) : Rl (eW E) (i_X3_init_108 E S) (j_X3_init_108 T) := by
  unfold i_X3_init_108 j_X3_init_108
  dsimp only
  refine Rl.r ?_
  refine Rl.z ?_
  refine Rl.r ?_
  refine Rl.z ?_
  refine Rl.r ?_
  refine Rl.z ?_
  refine Rl.r ?_
  refine Rl.z ?_
  refine Rl.r ?_
  refine Rl.z ?_
  refine Rl.r ?_
  refine Rl.z ?_
  refine Rl.r ?_
  refine Rl.z ?_
  refine Rl.r ?_
  refine Rl.z ?_
  refine Rl.r ?_
  refine Rl.z ?_
  refine Rl.r ?_
  refine Rl.z ?_
  refine Rl.r ?_
  refine Rl.z ?_
  refine Rl.r ?_
  refine Rl.z ?_
  exact h
def j_X6_init_121 (S : WS) : WS :=
  let S1 := si S 320 (121) (0 : Int32)
  let S2 := si S1 321 (121) (-1 : Int32)
  let S3 := zA S2 (122)
  let S4 := sr S3 322 (121) (some (122))
  S4
theorem r_X6_init_121 {E : EN} {S T : WS} (h : Rl (eW E) S T) : Rl (eW E) (i_X6_init_121 E S) (j_X6_init_121 T) := by
  unfold i_X6_init_121 j_X6_init_121
  dsimp only
  refine Rl.r ?_
  refine Rl.z ?_
  refine Rl.i ?_
  refine Rl.i ?_
  exact h
def j_X6_init_123 (S : WS) : WS :=
  let S1 := si S 320 (123) (0 : Int32)
  let S2 := si S1 321 (123) (-1 : Int32)
  let S3 := zA S2 (124)
  let S4 := sr S3 322 (123) (some (124))
  S4
theorem r_X6_init_123 {E : EN} {S T : WS} (h : Rl (eW E) S T) : Rl (eW E) (i_X6_init_123 E S) (j_X6_init_123 T) := by
  unfold i_X6_init_123 j_X6_init_123
  dsimp only
  refine Rl.r ?_
  refine Rl.z ?_
  refine Rl.i ?_
  refine Rl.i ?_
  exact h
def j_X6_init_125 (S : WS) : WS :=
  let S1 := si S 320 (125) (0 : Int32)
  let S2 := si S1 321 (125) (-1 : Int32)
  let S3 := zA S2 (126)
  let S4 := sr S3 322 (125) (some (126))
  S4
theorem r_X6_init_125 {E : EN} {S T : WS} (h : Rl (eW E) S T) : Rl (eW E) (i_X6_init_125 E S) (j_X6_init_125 T) := by
  unfold i_X6_init_125 j_X6_init_125
  dsimp only
  refine Rl.r ?_
  refine Rl.z ?_
  refine Rl.i ?_
  refine Rl.i ?_
  exact h
def j_X6_init_127 (S : WS) : WS :=
  let S1 := si S 320 (127) (0 : Int32)
  let S2 := si S1 321 (127) (-1 : Int32)
  let S3 := zA S2 (128)
  let S4 := sr S3 322 (127) (some (128))
  S4
theorem r_X6_init_127 {E : EN} {S T : WS} (h : Rl (eW E) S T) : Rl (eW E) (i_X6_init_127 E S) (j_X6_init_127 T) := by
  unfold i_X6_init_127 j_X6_init_127
  dsimp only
  refine Rl.r ?_
  refine Rl.z ?_
  refine Rl.i ?_
  refine Rl.i ?_
  exact h
def j_X8_init_0 (S : WS) : WS :=
  let S1 := zA S (1)
  let S2 := sr S1 448 (0) (some (1))
  let S3 := si S2 449 (0) (0 : Int32)
  let S4 := zA S3 (2)
  let S5 := j_X4_init_2 S4
  let S6 := sr S5 450 (0) (some (2))
  let S7 := zA S6 (4)
  let S8 := j_X3_init_4 S7
  let S9 := sr S8 451 (0) (some (4))
  let S10 := zA S9 (17)
  let S11 := j_X3_init_17 S10
  let S12 := sr S11 452 (0) (some (17))
  let S13 := zA S12 (30)
  let S14 := sr S13 453 (0) (some (30))
  let S15 := zA S14 (31)
  let S16 := sr S15 454 (0) (some (31))
  let S17 := zA S16 (32)
  let S18 := sr S17 455 (0) (some (32))
  let S19 := zA S18 (33)
  let S20 := j_X7_init_33 S19
  let S21 := sr S20 456 (0) (some (33))
  let S22 := zA S21 (50)
  let S23 := j_X5_init_50 S22
  let S24 := sr S23 457 (0) (some (50))
  let S25 := zA S24 (58)
  let S26 := j_X0_init_58 S25
  let S27 := sr S26 458 (0) (some (58))
  let S28 := zA S27 (74)
  let S29 := j_X2_init_74 S28
  let S30 := sr S29 459 (0) (some (74))
  let S31 := zA S30 (79)
  let S32 := sr S31 460 (0) (some (79))
  let S33 := zA S32 (80)
  let S34 := sr S33 461 (0) (some (80))
  let S35 := zA S34 (81)
  let S36 := sr S35 462 (0) (some (81))
  let S37 := zA S36 (82)
  let S38 := j_X3_init_82 S37
  let S39 := wr S38 (30) (va_up (ar S38 (30)) (0 : Int32).toNatClampNeg (some (82)))
  let S40 := zA S39 (95)
  let S41 := j_X3_init_95 S40
  let S42 := wr S41 (30) (va_up (ar S41 (30)) (1 : Int32).toNatClampNeg (some (95)))
  let S43 := zA S42 (108)
  let S44 := j_X3_init_108 S43
  let S45 := wr S44 (30) (va_up (ar S44 (30)) (2 : Int32).toNatClampNeg (some (108)))
  let S46 := zA S45 (121)
  let S47 := j_X6_init_121 S46
  let S48 := wr S47 (32) (va_up (ar S47 (32)) (0 : Int32).toNatClampNeg (some (121)))
  let S49 := zA S48 (123)
  let S50 := j_X6_init_123 S49
  let S51 := wr S50 (32) (va_up (ar S50 (32)) (1 : Int32).toNatClampNeg (some (123)))
  let S52 := zA S51 (125)
  let S53 := j_X6_init_125 S52
  let S54 := wr S53 (32) (va_up (ar S53 (32)) (2 : Int32).toNatClampNeg (some (125)))
  let S55 := zA S54 (127)
  let S56 := j_X6_init_127 S55
  let S57 := wr S56 (32) (va_up (ar S56 (32)) (3 : Int32).toNatClampNeg (some (127)))
  S57
theorem r_X8_init_0 {E : EN} {S T : WS} (h : Rl (eW E) S T) : Rl (eW E) (i_X8_init_0 E S) (j_X8_init_0 T) := by
  unfold i_X8_init_0 j_X8_init_0
  dsimp only
  refine Rl.a ?_
  refine r_X6_init_127 ?_
  refine Rl.z ?_
  refine Rl.a ?_
  refine r_X6_init_125 ?_
  refine Rl.z ?_
  refine Rl.a ?_
  refine r_X6_init_123 ?_
  refine Rl.z ?_
  refine Rl.a ?_
  refine r_X6_init_121 ?_
  refine Rl.z ?_
  refine Rl.a ?_
  refine r_X3_init_108 ?_
  refine Rl.z ?_
  refine Rl.a ?_
  refine r_X3_init_95 ?_
  refine Rl.z ?_
  refine Rl.a ?_
  refine r_X3_init_82 ?_
  refine Rl.z ?_
  refine Rl.r ?_
  refine Rl.z ?_
  refine Rl.r ?_
  refine Rl.z ?_
  refine Rl.r ?_
  refine Rl.z ?_
  refine Rl.r ?_
  refine r_X2_init_74 ?_
  refine Rl.z ?_
  refine Rl.r ?_
  refine r_X0_init_58 ?_
  refine Rl.z ?_
  refine Rl.r ?_
  refine r_X5_init_50 ?_
  refine Rl.z ?_
  refine Rl.r ?_
  refine r_X7_init_33 ?_
  refine Rl.z ?_
  refine Rl.r ?_
  refine Rl.z ?_
  refine Rl.r ?_
  refine Rl.z ?_
  refine Rl.r ?_
  refine Rl.z ?_
  refine Rl.r ?_
  refine r_X3_init_17 ?_
  refine Rl.z ?_
  refine Rl.r ?_
  refine r_X3_init_4 ?_
  refine Rl.z ?_
  refine Rl.r ?_
  refine r_X4_init_2 ?_
  refine Rl.z ?_
  refine Rl.i ?_
  refine Rl.r ?_
  refine Rl.z ?_
  exact h
def j_X9_init_129 (S : WS) : WS :=
  let S1 := zA S (130)
  let S2 := sr S1 513 (129) (some (130))
  let S3 := zA S2 (131)
  let S4 := sr S3 514 (129) (some (131))
  let S5 := zA S4 (132)
  let S6 := sr S5 515 (129) (some (132))
  let S7 := zA S6 (133)
  let S8 := sr S7 516 (129) (some (133))
  let S9 := zA S8 (134)
  let S10 := sr S9 518 (129) (some (134))
  let S11 := si S10 525 (129) (-1 : Int32)
  let S12 := zA S11 (135)
  let S13 := sr S12 526 (129) (some (135))
  let S14 := si S13 527 (129) (-1 : Int32)
  let S15 := zA S14 (136)
  let S16 := sr S15 529 (129) (some (136))
  let S17 := zA S16 (137)
  let S18 := sr S17 530 (129) (some (137))
  let S19 := zA S18 (138)
  let S20 := sr S19 531 (129) (some (138))
  let S21 := zA S20 (139)
  let S22 := sr S21 533 (129) (some (139))
  let S23 := zA S22 (140)
  let S24 := sr S23 535 (129) (some (140))
  let S25 := zA S24 (141)
  let S26 := sr S25 538 (129) (some (141))
  let S27 := zA S26 (142)
  let S28 := sr S27 542 (129) (some (142))
  let S29 := zA S28 (143)
  let S30 := sr S29 543 (129) (some (143))
  let S31 := zA S30 (144)
  let S32 := sr S31 544 (129) (some (144))
  let S33 := zA S32 (145)
  let S34 := wi S33 (145) (upd (ai S33 (145)) (0 : Int32).toNatClampNeg (-1 : Int32))
  let S35 := wi S34 (145) (upd (ai S34 (145)) (1 : Int32).toNatClampNeg (-1 : Int32))
  let S36 := wi S35 (145) (upd (ai S35 (145)) (2 : Int32).toNatClampNeg (-1 : Int32))
  let S37 := wi S36 (145) (upd (ai S36 (145)) (3 : Int32).toNatClampNeg (-1 : Int32))
  let S38 := sr S37 546 (129) (some (145))
  let S39 := zA S38 (146)
  let S40 := sr S39 547 (129) (some (146))
  let S41 := zA S40 (147)
  let S42 := sr S41 548 (129) (some (147))
  let S43 := zA S42 (148)
  let S44 := sr S43 549 (129) (some (148))
  S44
theorem r_X9_init_129 {E : EN} {S T : WS} (h : Rl (eW E) S T) : Rl (eW E) (i_X9_init_129 E S) (j_X9_init_129 T) := by
  unfold i_X9_init_129 j_X9_init_129
  dsimp only
  refine Rl.r ?_
  refine Rl.z ?_
  refine Rl.r ?_
  refine Rl.z ?_
  refine Rl.r ?_
  refine Rl.z ?_
  refine Rl.r ?_
  refine Rl.w ?_
  refine Rl.w ?_
  refine Rl.w ?_
  refine Rl.w ?_
  refine Rl.z ?_
  refine Rl.r ?_
  refine Rl.z ?_
  refine Rl.r ?_
  refine Rl.z ?_
  refine Rl.r ?_
  refine Rl.z ?_
  refine Rl.r ?_
  refine Rl.z ?_
  refine Rl.r ?_
  refine Rl.z ?_
  refine Rl.r ?_
  refine Rl.z ?_
  refine Rl.r ?_
  refine Rl.z ?_
  refine Rl.r ?_
  refine Rl.z ?_
  refine Rl.r ?_
  refine Rl.z ?_
  refine Rl.i ?_
  refine Rl.r ?_
  refine Rl.z ?_
  refine Rl.i ?_
  refine Rl.r ?_
  refine Rl.z ?_
  refine Rl.r ?_
  refine Rl.z ?_
  refine Rl.r ?_
  refine Rl.z ?_
  refine Rl.r ?_
  refine Rl.z ?_
  refine Rl.r ?_
  refine Rl.z ?_
  exact h
