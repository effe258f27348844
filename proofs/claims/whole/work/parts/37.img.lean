/-! Images: taking a mountain from another; image, back -/
/-- what taking over changes -/
def FM (a : Nat) (S S' : WS) : Prop := (∀ f q, gr S' f q = gr S f q) ∧ (∀ q, ar S' q = ar S q) ∧ (∀ q, aj S' q = aj S q) ∧ (∀ f q, q ≠ a ∨ f < 128 ∨ 134 < f → gi S' f q = gi S f q) ∧ ∀ q, q < a + 1 ∨ a + 12 < q → ai S' q = ai S q
/-- one row written -/
def F1 (b : Nat) (S S' : WS) : Prop := (∀ f q, gr S' f q = gr S f q) ∧ (∀ q, ar S' q = ar S q) ∧ (∀ q, aj S' q = aj S q) ∧ (∀ f q, gi S' f q = gi S f q) ∧ ∀ q, q ≠ b → ai S' q = ai S q
theorem e_cpR {E : EN} {n a b N : Nat} {S : WS} (ha : eN E a = N) (hb : eN E b = N) (hN : N < 2 ^ 31) : ∃ S', f_X8_copyRow E n S a b = some ((), S') ∧ F1 b S S' ∧ ∀ i, i < N → ai S' b i = ai S a i := by
  obtain ⟨g, q, r⟩ := e_X8_copyRow (E := E) (n := n) (S := S) ha hb hN
  exact ⟨_, r, ⟨fun _ _ => rfl, fun _ => rfl, fun _ => rfl, fun _ _ => rfl, fun q hq => ai_wi_a hq⟩, fun i hi => by rw [ai_wi]; exact q i hi⟩
theorem e_tkI {E : EN} {a b : Nat} {S : WS} {M : Nat → Int32} (h : RMt E S b M) (hne : b ≠ a) : ∃ S', S' = (si (si (si (si (si (si (si S 128 a (gi S 128 b)) 129 a (gi S 129 b)) 130 a (gi S 130 b)) 131 a (gi S 131 b)) 132 a (gi S 132 b)) 133 a (gi S 133 b)) 134 a (gi S 134 b)) ∧ (gi S' 128 a = M 6 ∧ gi S' 129 a = M 0 ∧ gi S' 130 a = M 1 ∧ gi S' 131 a = M 2 ∧ gi S' 132 a = M 3 ∧ gi S' 133 a = M 4 ∧ gi S' 134 a = M 5) ∧ (∀ f q, gr S' f q = gr S f q) ∧ (∀ q, ar S' q = ar S q) ∧ (∀ q, aj S' q = aj S q) ∧ (∀ f q, q ≠ a ∨ f < 128 ∨ 134 < f → gi S' f q = gi S f q) ∧ ∀ q, ai S' q = ai S q := by
  refine ⟨_, rfl, ⟨?_, ?_, ?_, ?_, ?_, ?_, ?_⟩, fun _ _ => rfl, fun _ => rfl, fun _ => rfl, fun f q hq => ?_, fun _ => rfl⟩
  · rw [gi_si_f (by decide), gi_si_f (by decide), gi_si_f (by decide), gi_si_f (by decide), gi_si_f (by decide), gi_si_f (by decide), gi_si_eq]; exact h.i128
  · rw [gi_si_f (by decide), gi_si_f (by decide), gi_si_f (by decide), gi_si_f (by decide), gi_si_f (by decide), gi_si_eq]; exact h.i129
  · rw [gi_si_f (by decide), gi_si_f (by decide), gi_si_f (by decide), gi_si_f (by decide), gi_si_eq]; exact h.i130
  · rw [gi_si_f (by decide), gi_si_f (by decide), gi_si_f (by decide), gi_si_eq]; exact h.i131
  · rw [gi_si_f (by decide), gi_si_f (by decide), gi_si_eq]; exact h.i132
  · rw [gi_si_f (by decide), gi_si_eq]; exact h.i133
  · rw [gi_si_eq]; exact h.i134
  · rcases hq with e | e
    · rw [gi_si_a e, gi_si_a e, gi_si_a e, gi_si_a e, gi_si_a e, gi_si_a e, gi_si_a e]
    · rw [gi_si_f (by omega), gi_si_f (by omega), gi_si_f (by omega), gi_si_f (by omega), gi_si_f (by omega), gi_si_f (by omega), gi_si_f (by omega)]
theorem e_X3_takeFrom {E : EN} {n a b : Nat} {S : WS} {M : Nat → Int32} (h : RMt E S b M) (hs : MS0 E S a) (hab : a + 12 < b ∨ b + 12 < a) (hw : WF M) : ∃ S', f_X3_takeFrom E n S a b = some ((), S') ∧ RMt E S' a M ∧ FM a S S' := by
  have hne : b ≠ a := by omega
  have wA := hw.lA
  have wB := hw.lB
  have wS := hw.lS
  have wW := hw.lW
  obtain ⟨hs0, l1, l2, l3, l4, l5, l6, l7, l8, l9, l10, l11, l12⟩ := id hs
  obtain ⟨S0, hS0, ⟨i1, i2, i3, i4, i5, i6, i7⟩, r0, x0, y0, z0, u0⟩ := e_tkI h hne
  obtain ⟨S1, c1, ⟨r1, x1, y1, z1, u1⟩, v1⟩ := e_cpR (E := E) (n := n) (S := S0) (a := b + 1) (b := a + 1) h.n1 l1 (by decide)
  obtain ⟨S2, c2, ⟨r2, x2, y2, z2, u2⟩, v2⟩ := e_cpR (E := E) (n := n) (S := S1) (a := b + 2) (b := a + 2) h.n2 l2 (by decide)
  obtain ⟨S3, c3, ⟨r3, x3, y3, z3, u3⟩, v3⟩ := e_cpR (E := E) (n := n) (S := S2) (a := b + 3) (b := a + 3) h.n3 l3 (by decide)
  obtain ⟨S4, c4, ⟨r4, x4, y4, z4, u4⟩, v4⟩ := e_cpR (E := E) (n := n) (S := S3) (a := b + 4) (b := a + 4) h.n4 l4 (by decide)
  obtain ⟨S5, c5, ⟨r5, x5, y5, z5, u5⟩, v5⟩ := e_cpR (E := E) (n := n) (S := S4) (a := b + 5) (b := a + 5) h.n5 l5 (by decide)
  obtain ⟨S6, c6, ⟨r6, x6, y6, z6, u6⟩, v6⟩ := e_cpR (E := E) (n := n) (S := S5) (a := b + 6) (b := a + 6) h.n6 l6 (by decide)
  obtain ⟨S7, c7, ⟨r7, x7, y7, z7, u7⟩, v7⟩ := e_cpR (E := E) (n := n) (S := S6) (a := b + 7) (b := a + 7) h.n7 l7 (by decide)
  obtain ⟨S8, c8, ⟨r8, x8, y8, z8, u8⟩, v8⟩ := e_cpR (E := E) (n := n) (S := S7) (a := b + 8) (b := a + 8) h.n8 l8 (by decide)
  obtain ⟨S9, c9, ⟨r9, x9, y9, z9, u9⟩, v9⟩ := e_cpR (E := E) (n := n) (S := S8) (a := b + 9) (b := a + 9) h.n9 l9 (by decide)
  obtain ⟨S10, c10, ⟨r10, x10, y10, z10, u10⟩, v10⟩ := e_cpR (E := E) (n := n) (S := S9) (a := b + 10) (b := a + 10) h.n10 l10 (by decide)
  obtain ⟨S11, c11, ⟨r11, x11, y11, z11, u11⟩, v11⟩ := e_cpR (E := E) (n := n) (S := S10) (a := b + 11) (b := a + 11) h.n11 l11 (by decide)
  obtain ⟨S12, c12, ⟨r12, x12, y12, z12, u12⟩, v12⟩ := e_cpR (E := E) (n := n) (S := S11) (a := b + 12) (b := a + 12) h.n12 l12 (by decide)
  have R0 : ∀ f q, gr S0 f q = gr S f q := r0
  have R1 : ∀ f q, gr S1 f q = gr S f q := fun f q => (r1 f q).trans (R0 f q)
  have R2 : ∀ f q, gr S2 f q = gr S f q := fun f q => (r2 f q).trans (R1 f q)
  have R3 : ∀ f q, gr S3 f q = gr S f q := fun f q => (r3 f q).trans (R2 f q)
  have R4 : ∀ f q, gr S4 f q = gr S f q := fun f q => (r4 f q).trans (R3 f q)
  have R5 : ∀ f q, gr S5 f q = gr S f q := fun f q => (r5 f q).trans (R4 f q)
  have R6 : ∀ f q, gr S6 f q = gr S f q := fun f q => (r6 f q).trans (R5 f q)
  have R7 : ∀ f q, gr S7 f q = gr S f q := fun f q => (r7 f q).trans (R6 f q)
  have R8 : ∀ f q, gr S8 f q = gr S f q := fun f q => (r8 f q).trans (R7 f q)
  have R9 : ∀ f q, gr S9 f q = gr S f q := fun f q => (r9 f q).trans (R8 f q)
  have R10 : ∀ f q, gr S10 f q = gr S f q := fun f q => (r10 f q).trans (R9 f q)
  have R11 : ∀ f q, gr S11 f q = gr S f q := fun f q => (r11 f q).trans (R10 f q)
  have R12 : ∀ f q, gr S12 f q = gr S f q := fun f q => (r12 f q).trans (R11 f q)
  have ga1 : gr S0 135 a = some (a + 1) := (R0 _ _).trans (hs0 0 (by decide))
  have gb1 : gr S0 135 b = some (b + 1) := (R0 _ _).trans h.g135
  have ga2 : gr S1 136 a = some (a + 2) := (R1 _ _).trans (hs0 1 (by decide))
  have gb2 : gr S1 136 b = some (b + 2) := (R1 _ _).trans h.g136
  have ga3 : gr S2 137 a = some (a + 3) := (R2 _ _).trans (hs0 2 (by decide))
  have gb3 : gr S2 137 b = some (b + 3) := (R2 _ _).trans h.g137
  have ga4 : gr S3 138 a = some (a + 4) := (R3 _ _).trans (hs0 3 (by decide))
  have gb4 : gr S3 138 b = some (b + 4) := (R3 _ _).trans h.g138
  have ga5 : gr S4 139 a = some (a + 5) := (R4 _ _).trans (hs0 4 (by decide))
  have gb5 : gr S4 139 b = some (b + 5) := (R4 _ _).trans h.g139
  have ga6 : gr S5 140 a = some (a + 6) := (R5 _ _).trans (hs0 5 (by decide))
  have gb6 : gr S5 140 b = some (b + 6) := (R5 _ _).trans h.g140
  have ga7 : gr S6 141 a = some (a + 7) := (R6 _ _).trans (hs0 6 (by decide))
  have gb7 : gr S6 141 b = some (b + 7) := (R6 _ _).trans h.g141
  have ga8 : gr S7 142 a = some (a + 8) := (R7 _ _).trans (hs0 7 (by decide))
  have gb8 : gr S7 142 b = some (b + 8) := (R7 _ _).trans h.g142
  have ga9 : gr S8 143 a = some (a + 9) := (R8 _ _).trans (hs0 8 (by decide))
  have gb9 : gr S8 143 b = some (b + 9) := (R8 _ _).trans h.g143
  have ga10 : gr S9 144 a = some (a + 10) := (R9 _ _).trans (hs0 9 (by decide))
  have gb10 : gr S9 144 b = some (b + 10) := (R9 _ _).trans h.g144
  have ga11 : gr S10 145 a = some (a + 11) := (R10 _ _).trans (hs0 10 (by decide))
  have gb11 : gr S10 145 b = some (b + 11) := (R10 _ _).trans h.g145
  have ga12 : gr S11 146 a = some (a + 12) := (R11 _ _).trans (hs0 11 (by decide))
  have gb12 : gr S11 146 b = some (b + 12) := (R11 _ _).trans h.g146
  have run : f_X3_takeFrom E n S a b = some ((), S12) := by
    unfold f_X3_takeFrom
    simp only [lts, gi_si_a hne]
    rw [← hS0]
    rw [gb1, obs, ga1, obs, c1, bds]
    rw [gb2, obs, ga2, obs, c2, bds]
    rw [gb3, obs, ga3, obs, c3, bds]
    rw [gb4, obs, ga4, obs, c4, bds]
    rw [gb5, obs, ga5, obs, c5, bds]
    rw [gb6, obs, ga6, obs, c6, bds]
    rw [gb7, obs, ga7, obs, c7, bds]
    rw [gb8, obs, ga8, obs, c8, bds]
    rw [gb9, obs, ga9, obs, c9, bds]
    rw [gb10, obs, ga10, obs, c10, bds]
    rw [gb11, obs, ga11, obs, c11, bds]
    rw [gb12, obs, ga12, obs, c12, bds]
  have Z : ∀ f q, gi S12 f q = gi S0 f q := fun f q => (z12 f q).trans ((z11 f q).trans ((z10 f q).trans ((z9 f q).trans ((z8 f q).trans ((z7 f q).trans ((z6 f q).trans ((z5 f q).trans ((z4 f q).trans ((z3 f q).trans ((z2 f q).trans (z1 f q)))))))))))
  have Uq : ∀ q, q < a + 1 ∨ a + 12 < q → ai S12 q = ai S q := by
    intro q hq
    rw [u12 _ (by omega), u11 _ (by omega), u10 _ (by omega), u9 _ (by omega), u8 _ (by omega), u7 _ (by omega), u6 _ (by omega), u5 _ (by omega), u4 _ (by omega), u3 _ (by omega), u2 _ (by omega), u1 _ (by omega), u0]
  have V1 : ∀ i, i < 8 → ai S12 (a + 1) i = ai S (b + 1) i := by
    intro i hi
    rw [u12 _ (by omega), u11 _ (by omega), u10 _ (by omega), u9 _ (by omega), u8 _ (by omega), u7 _ (by omega), u6 _ (by omega), u5 _ (by omega), u4 _ (by omega), u3 _ (by omega), u2 _ (by omega), v1 i hi, u0]
  have V2 : ∀ i, i < 10 → ai S12 (a + 2) i = ai S (b + 2) i := by
    intro i hi
    rw [u12 _ (by omega), u11 _ (by omega), u10 _ (by omega), u9 _ (by omega), u8 _ (by omega), u7 _ (by omega), u6 _ (by omega), u5 _ (by omega), u4 _ (by omega), u3 _ (by omega), v2 i hi, u1 _ (by omega), u0]
  have V3 : ∀ i, i < 10 → ai S12 (a + 3) i = ai S (b + 3) i := by
    intro i hi
    rw [u12 _ (by omega), u11 _ (by omega), u10 _ (by omega), u9 _ (by omega), u8 _ (by omega), u7 _ (by omega), u6 _ (by omega), u5 _ (by omega), u4 _ (by omega), v3 i hi, u2 _ (by omega), u1 _ (by omega), u0]
  have V4 : ∀ i, i < 4 → ai S12 (a + 4) i = ai S (b + 4) i := by
    intro i hi
    rw [u12 _ (by omega), u11 _ (by omega), u10 _ (by omega), u9 _ (by omega), u8 _ (by omega), u7 _ (by omega), u6 _ (by omega), u5 _ (by omega), v4 i hi, u3 _ (by omega), u2 _ (by omega), u1 _ (by omega), u0]
  have V5 : ∀ i, i < 4 → ai S12 (a + 5) i = ai S (b + 5) i := by
    intro i hi
    rw [u12 _ (by omega), u11 _ (by omega), u10 _ (by omega), u9 _ (by omega), u8 _ (by omega), u7 _ (by omega), u6 _ (by omega), v5 i hi, u4 _ (by omega), u3 _ (by omega), u2 _ (by omega), u1 _ (by omega), u0]
  have V6 : ∀ i, i < 7 → ai S12 (a + 6) i = ai S (b + 6) i := by
    intro i hi
    rw [u12 _ (by omega), u11 _ (by omega), u10 _ (by omega), u9 _ (by omega), u8 _ (by omega), u7 _ (by omega), v6 i hi, u5 _ (by omega), u4 _ (by omega), u3 _ (by omega), u2 _ (by omega), u1 _ (by omega), u0]
  have V7 : ∀ i, i < 7 → ai S12 (a + 7) i = ai S (b + 7) i := by
    intro i hi
    rw [u12 _ (by omega), u11 _ (by omega), u10 _ (by omega), u9 _ (by omega), u8 _ (by omega), v7 i hi, u6 _ (by omega), u5 _ (by omega), u4 _ (by omega), u3 _ (by omega), u2 _ (by omega), u1 _ (by omega), u0]
  have V8 : ∀ i, i < 7 → ai S12 (a + 8) i = ai S (b + 8) i := by
    intro i hi
    rw [u12 _ (by omega), u11 _ (by omega), u10 _ (by omega), u9 _ (by omega), v8 i hi, u7 _ (by omega), u6 _ (by omega), u5 _ (by omega), u4 _ (by omega), u3 _ (by omega), u2 _ (by omega), u1 _ (by omega), u0]
  have V9 : ∀ i, i < 7 → ai S12 (a + 9) i = ai S (b + 9) i := by
    intro i hi
    rw [u12 _ (by omega), u11 _ (by omega), u10 _ (by omega), v9 i hi, u8 _ (by omega), u7 _ (by omega), u6 _ (by omega), u5 _ (by omega), u4 _ (by omega), u3 _ (by omega), u2 _ (by omega), u1 _ (by omega), u0]
  have V10 : ∀ i, i < 30 → ai S12 (a + 10) i = ai S (b + 10) i := by
    intro i hi
    rw [u12 _ (by omega), u11 _ (by omega), v10 i hi, u9 _ (by omega), u8 _ (by omega), u7 _ (by omega), u6 _ (by omega), u5 _ (by omega), u4 _ (by omega), u3 _ (by omega), u2 _ (by omega), u1 _ (by omega), u0]
  have V11 : ∀ i, i < 4 → ai S12 (a + 11) i = ai S (b + 11) i := by
    intro i hi
    rw [u12 _ (by omega), v11 i hi, u10 _ (by omega), u9 _ (by omega), u8 _ (by omega), u7 _ (by omega), u6 _ (by omega), u5 _ (by omega), u4 _ (by omega), u3 _ (by omega), u2 _ (by omega), u1 _ (by omega), u0]
  have V12 : ∀ i, i < 4 → ai S12 (a + 12) i = ai S (b + 12) i := by
    intro i hi
    rw [v12 i hi, u11 _ (by omega), u10 _ (by omega), u9 _ (by omega), u8 _ (by omega), u7 _ (by omega), u6 _ (by omega), u5 _ (by omega), u4 _ (by omega), u3 _ (by omega), u2 _ (by omega), u1 _ (by omega), u0]
  refine ⟨S12, run, ⟨⟨fun k hk => (R12 _ _).trans (hs0 k hk), l1, l2, l3, l4, l5, l6, l7, l8, l9, l10, l11, l12⟩, ⟨(Z _ _).trans i1, (Z _ _).trans i2, (Z _ _).trans i3, (Z _ _).trans i4, (Z _ _).trans i5, (Z _ _).trans i6, (Z _ _).trans i7⟩, ?_, ?_, ?_, ?_, ?_, ?_, ?_⟩, R12, ?_, ?_, ?_, Uq⟩
  · intro p hp
    rw [V1 p (by omega)]; exact h.hh p hp
  · intro p hp
    rw [V2 p (by omega), V3 p (by omega)]; exact h.hp p hp
  · intro p hp
    rw [V4 p (by omega), V5 p (by omega)]; exact h.hb p hp
  · intro p hp
    rw [V6 p (by omega), V7 p (by omega), V8 p (by omega)]; exact h.hs p hp
  · intro p hp
    rw [V9 p (by omega)]; exact h.hc p hp
  · intro p hp
    rw [V10 p (by omega)]; exact h.hr p hp
  · intro p hp
    rw [V11 p (by omega), V12 p (by omega)]; exact h.hk p hp
  · intro q; rw [x12, x11, x10, x9, x8, x7, x6, x5, x4, x3, x2, x1, x0]
  · intro q; rw [y12, y11, y10, y9, y8, y7, y6, y5, y4, y3, y2, y1, y0]
  · intro f q hq; rw [Z]; exact z0 f q hq
section IMGS
variable {E : EN} {n c : Nat} {S : WS} {x : Nat} {M : Nat → Int32}
theorem LE.ms (h : LE E c) (s : SH S c) {y : Nat} (hy : y = 4 ∨ y = 17 ∨ y = 82 ∨ y = 95 ∨ y = 108) : MS0 E S (c + y) := by
  have hm : y ∈ mtl := by unfold mtl; rcases hy with rfl | rfl | rfl | rfl | rfl <;> decide
  refine ⟨fun k hk => ?_, ?_, ?_, ?_, ?_, ?_, ?_, ?_, ?_, ?_, ?_, ?_, ?_⟩
  · exact (s.2.1 y hm k hk)
  all_goals rw [Nat.add_assoc]; rcases hy with rfl | rfl | rfl | rfl | rfl <;> exact h.at _ _ (by decide) (by decide)
theorem ix109 (k i : Nat) : (109 : Int32) * nI k + nI i = nI (109 * k + i) := by
  show nI 109 * nI k + nI i = _; rw [pk_mul, nI_add]
theorem e_X9_image_L {S : WS} (hn : 110 ≤ n) (g513 : gr S 513 (c + 129) = some (c + 130)) (l1 : eN E (c + 130) = 109) (g514 : gr S 514 (c + 129) = some (c + 131)) (l2 : eN E (c + 131) = 327) (g515 : gr S 515 (c + 129) = some (c + 132)) (l3 : eN E (c + 132) = 3) {k : Nat} (hk : k < 3) : ∃ g, (∀ i, i < 109 → g (109 * k + i) = ai S (c + 130) i) ∧ (∀ i, i < 109 * k ∨ 109 * k + 109 ≤ i → g i = ai S (c + 131) i) ∧ f_X9_image_L17 E n n S (c + 129) (nI k) 0 = some (0, wi (wi S (c + 131) g) (c + 132) (upd (ai S (c + 132)) k 1)) := by
  have key := lp (N := 109) (P := fun s q => ∀ g0, (∀ i, i < s → g0 (109 * k + i) = ai S (c + 130) i) → (∀ i, i < 109 * k ∨ 109 * k + 109 ≤ i → g0 i = ai S (c + 131) i) → ∃ g, (∀ i, i < 109 → g (109 * k + i) = ai S (c + 130) i) ∧ (∀ i, i < 109 * k ∨ 109 * k + 109 ≤ i → g i = ai S (c + 131) i) ∧ f_X9_image_L17 E n q (wi S (c + 131) g0) (c + 129) (nI k) (nI s) = some (0, wi (wi S (c + 131) g) (c + 132) (upd (ai S (c + 132)) k 1))) ?_ ?_ 109 0 n (by omega) (by omega) (ai S (c + 131)) (fun i hi => by omega) (fun _ _ => rfl)
  · rw [wi_self rfl] at key
    exact key
  · intro q g0 h1 h2
    have hg : gr (wi S (c + 131) g0) 515 (c + 129) = some (c + 132) := g515
    have ha : ai (wi S (c + 131) g0) (c + 132) = ai S (c + 132) := ai_wi_a (by omega)
    refine ⟨g0, h1, h2, ?_⟩
    simp only [f_X9_image_L17]
    rw [if_pos (show (109 : Int32) ≤ nI 109 by decide)]
    simp only [hg, obs, l3, nI_clamp (show k < 2 ^ 31 by omega), ifn (rinc hk (show 3 < 2 ^ 31 by omega)), lts, ha]
    rfl
  · intro s q hs ih g0 h1 h2
    have hg : gr (wi S (c + 131) g0) 513 (c + 129) = some (c + 130) := g513
    have hg2 : gr (wi S (c + 131) g0) 514 (c + 129) = some (c + 131) := g514
    have ha : ai (wi S (c + 131) g0) (c + 130) = ai S (c + 130) := ai_wi_a (by omega)
    simp only [f_X9_image_L17, hg, hg2, obs, l1, l2, ix109, nI_clamp (show s < 2 ^ 31 by omega), nI_clamp (show 109 * k + s < 2 ^ 31 by omega), ifn (rinc hs (show 109 < 2 ^ 31 by omega)), ifn (rinc (show 109 * k + s < 327 by omega) (show 327 < 2 ^ 31 by omega)), lts, nI_1, ha, ai_wi, wi_wi]
    rw [if_neg (show ¬ (109 : Int32) ≤ nI s from nI_ge (b := 109) (by omega) (by decide))]
    refine ih _ (fun i hi => ?_) (fun i hi => ?_)
    · by_cases e : i = s
      · subst e; exact pk_us
      · rw [pk_un (by omega)]; exact h1 i (by omega)
    · rw [pk_un (by omega)]; exact h2 i hi
theorem e_X9_back_L {S : WS} (hn : 110 ≤ n) (g513 : gr S 513 (c + 129) = some (c + 130)) (l1 : eN E (c + 130) = 109) (g514 : gr S 514 (c + 129) = some (c + 131)) (l2 : eN E (c + 131) = 327) {k : Nat} (hk : k < 3) : ∃ g, (∀ i, i < 109 → g i = ai S (c + 131) (109 * k + i)) ∧ f_X9_back_L29 E n n S (c + 129) (nI k) 0 = some (0, wi S (c + 130) g) := by
  have key := lp (N := 109) (P := fun s q => ∀ g0, (∀ i, i < s → g0 i = ai S (c + 131) (109 * k + i)) → ∃ g, (∀ i, i < 109 → g i = ai S (c + 131) (109 * k + i)) ∧ f_X9_back_L29 E n q (wi S (c + 130) g0) (c + 129) (nI k) (nI s) = some (0, wi S (c + 130) g)) ?_ ?_ 109 0 n (by omega) (by omega) (ai S (c + 130)) (fun i hi => by omega)
  · rw [wi_self rfl] at key
    exact key
  · intro q g0 h1
    refine ⟨g0, h1, ?_⟩
    simp only [f_X9_back_L29]
    rw [if_pos (show (109 : Int32) ≤ nI 109 by decide)]
  · intro s q hs ih g0 h1
    have hg : gr (wi S (c + 130) g0) 513 (c + 129) = some (c + 130) := g513
    have hg2 : gr (wi S (c + 130) g0) 514 (c + 129) = some (c + 131) := g514
    have ha : ai (wi S (c + 130) g0) (c + 131) = ai S (c + 131) := ai_wi_a (by omega)
    simp only [f_X9_back_L29, hg, hg2, obs, l1, l2, ix109, nI_clamp (show s < 2 ^ 31 by omega), nI_clamp (show 109 * k + s < 2 ^ 31 by omega), ifn (rinc hs (show 109 < 2 ^ 31 by omega)), ifn (rinc (show 109 * k + s < 327 by omega) (show 327 < 2 ^ 31 by omega)), lts, nI_1, ha, ai_wi, wi_wi]
    rw [if_neg (show ¬ (109 : Int32) ≤ nI s from nI_ge (b := 109) (by omega) (by decide))]
    refine ih _ (fun i hi => ?_)
    by_cases e : i = s
    · subst e; exact pk_us
    · rw [pk_un (by omega)]; exact h1 i (by omega)
theorem op_image (h : Inv E c S x M) (hn : 110 ≤ n) (y : Int32) : OK E c (f_X8_image E n S c y) (fun S1 => f_X9_image E n S1 (c + 129) y) := by
  have hx := h.hx
  by_cases c1 : inI y (nI 3)
  · obtain ⟨k, hk, rfl⟩ := inI_j rfl (by decide) c1
    have g453 : gr S 453 c = some (c + 30) := h.s.g 453 0 30 (by decide)
    have g454 : gr S 454 c = some (c + 31) := h.s.g 454 0 31 (by decide)
    have l30 : eN E (c + 30) = 3 := h.L.at 30 3 (by decide) (by decide)
    have l31 : eN E (c + 31) = 3 := h.L.at 31 3 (by decide) (by decide)
    have a30 := h.s.2.2.1 k hk
    rw [Nat.add_assoc] at a30
    have hy : 82 + 13 * k = 4 ∨ 82 + 13 * k = 17 ∨ 82 + 13 * k = 82 ∨ 82 + 13 * k = 95 ∨ 82 + 13 * k = 108 := by omega
    obtain ⟨S1, r1, r2, r3, r4, r5, r6, r7⟩ := e_X3_takeFrom (n := n) h.m (h.L.ms h.s hy) (by omega) h.w
    have p454 : gr S1 454 c = some (c + 31) := (r3 _ _).trans g454
    obtain ⟨S2, hS2⟩ : ∃ S2, S2 = wi S1 (c + 31) (upd (ai S1 (c + 31)) k 1) := ⟨_, rfl⟩
    have g513 : gr S2 513 (c + 129) = some (c + 130) := by rw [hS2]; exact (r3 _ _).trans h.o.1
    have g514 : gr S2 514 (c + 129) = some (c + 131) := by rw [hS2]; exact (r3 _ _).trans (h.s.g 514 129 131 (by decide))
    have g515 : gr S2 515 (c + 129) = some (c + 132) := by rw [hS2]; exact (r3 _ _).trans (h.s.g 515 129 132 (by decide))
    obtain ⟨g, w1, w2, w3⟩ := e_X9_image_L (E := E) (n := n) hn g513 h.o.2.1 g514 (h.L.at 131 327 (by decide) (by decide)) g515 (h.L.at 132 3 (by decide) (by decide)) hk
    have cut3 : ¬ (3 : Int32) ≤ nI k := nI_ge (b := 3) (by omega) (by decide)
    refine ⟨0, S2, wi (wi S2 (c + 131) g) (c + 132) (upd (ai S2 (c + 132)) k 1), x, M, ?_, ?_, ?_⟩
    · simp only [f_X8_image, if_neg (nI_pos (show k < 2 ^ 31 by omega)), if_neg cut3, g453, obs, l30, nI_clamp (show k < 2 ^ 31 by omega), ifn (rinc hk (show 3 < 2 ^ 31 by omega)), a30, oes, h.n0, r1, bds, p454, l31, lts, hS2]
      rfl
    · simp only [f_X9_image, inN 2 (nI 3) 2 (by decide) rfl rfl, bds, ifb1 c1]
      exact w3
    · have e31 : ai (wi (wi S2 (c + 131) g) (c + 132) (upd (ai S2 (c + 132)) k 1)) (c + 31) = upd (ai S (c + 31)) k 1 := by
        rw [ai_wi_a (by omega), ai_wi_a (by omega), hS2, ai_wi, r7 _ (by omega)]
      have e131 : ai (wi (wi S2 (c + 131) g) (c + 132) (upd (ai S2 (c + 132)) k 1)) (c + 131) = g := by
        rw [ai_wi_a (by omega), ai_wi]
      have e132 : ai (wi (wi S2 (c + 131) g) (c + 132) (upd (ai S2 (c + 132)) k 1)) (c + 132) = upd (ai S (c + 132)) k 1 := by
        rw [ai_wi, hS2, ai_wi_a (by omega), r7 _ (by omega)]
      have eo : ∀ q, q ≠ c + 31 → q ≠ c + 131 → q ≠ c + 132 → ai (wi (wi S2 (c + 131) g) (c + 132) (upd (ai S2 (c + 132)) k 1)) q = ai S1 q := fun q q1 q2 q3 => by
        rw [ai_wi_a q3, ai_wi_a q2, hS2, ai_wi_a q1]
      have eg : ∀ f q, gi (wi (wi S2 (c + 131) g) (c + 132) (upd (ai S2 (c + 132)) k 1)) f q = gi S1 f q := fun f q => by
        rw [gi_wi, gi_wi, hS2, gi_wi]
      have er : ∀ f q, gr (wi (wi S2 (c + 131) g) (c + 132) (upd (ai S2 (c + 132)) k 1)) f q = gr S f q := fun f q => by
        rw [gr_wi, gr_wi, hS2, gr_wi, r3]
      have ej : ∀ q, aj (wi (wi S2 (c + 131) g) (c + 132) (upd (ai S2 (c + 132)) k 1)) q = aj S q := fun q => by
        rw [aj_wi, aj_wi, hS2, aj_wi, r5]
      have w2' : ∀ i, i < 109 * k ∨ 109 * k + 109 ≤ i → g i = ai S (c + 131) i := fun i hi => by rw [w2 i hi, hS2, ai_wi_a (by omega), r7 _ (by omega)]
      have w1' : ∀ i, i < 109 → g (109 * k + i) = M i := fun i hi => by
        rw [w1 i hi, hS2, ai_wi_a (by omega), r7 _ (by omega)]; exact h.o.2.2.1 i hi
      refine h.re (fun f q _ _ _ _ _ => er f q) (fun q => by rw [ar_wi, ar_wi, hS2, ar_wi, r4]) ⟨hx, (er _ _).trans h.2.2.1.2.1, (er _ _).trans h.2.2.1.2.2⟩ h.w ?_ ?_ ?_ ?_ ?_ ?_
      · exact RMt.fr h.m (fun f => er f _) (fun f q1 q2 => by rw [eg, r6 _ _ (Or.inl (by omega))]) (fun j q1 q2 => by rw [eo _ (by omega) (by omega) (by omega), r7 _ (by omega)])
      · exact h.o.fr (er _ _) (fun i hi => by rw [eo _ (by omega) (by omega) (by omega), r7 _ (by omega)]) (by rw [eg, r6 _ _ (Or.inl (by omega))])
      · exact h.t.fr (by rw [eg, r6 _ _ (Or.inl (by omega))]) (by rw [eg, r6 _ _ (Or.inl (by omega))]) (by rw [eo _ (by omega) (by omega) (by omega), r7 _ (by omega)]) (by rw [eo _ (by omega) (by omega) (by omega), r7 _ (by omega)])
      · exact h.f.fr (by rw [eg, r6 _ _ (Or.inl (by omega))]) (by rw [eg, r6 _ _ (Or.inl (by omega))]) (by rw [eg, r6 _ _ (Or.inl (by omega))]) (by rw [eg, r6 _ _ (Or.inl (by omega))])
      · intro j hj
        by_cases e : j = k
        · subst e
          refine ⟨by rw [e31, e132, pk_us, pk_us], by rw [e31, pk_us]; exact Or.inr rfl, fun _ => ⟨M, h.w, ?_, fun i hi => by rw [e131]; exact w1' i hi⟩⟩
          exact RMt.fr r2 (fun f => (er f _).trans (r3 f _).symm) (fun f q1 q2 => eg f _) (fun i q1 q2 => eo _ (by omega) (by omega) (by omega))
        · exact (h.i j hj).fr (fun f => er f _) (fun f q1 q2 => by rw [eg, r6 _ _ (Or.inl (by omega))]) (fun i q1 q2 => by rw [eo _ (by omega) (by omega) (by omega), r7 _ (by omega)]) (by rw [e31, pk_un e]) (by rw [e132, pk_un e]) (fun i hi => by rw [e131, w2' _ (by omega)])
      · intro j hj
        exact (h.sl j hj).fr (by rw [eg, r6 _ _ (Or.inl (by omega))]) (by rw [eg, r6 _ _ (Or.inl (by omega))]) (by rw [eo _ (by omega) (by omega) (by omega), r7 _ (by omega)]) (by rw [eo _ (by omega) (by omega) (by omega), r7 _ (by omega)]) (fun i hi => by rw [ej]) (fun i hi => by rw [ej])
  · refine OK.r h (v := -2) ?_ (by simp only [f_X9_image, inN 2 (nI 3) 2 (by decide) rfl rfl, bds, ifb0 c1])
    unfold f_X8_image
    by_cases c2 : y < 0
    · rw [if_pos c2]
    · rw [if_neg c2, if_pos]
      exact Classical.byContradiction fun q => c1 ⟨c2, q⟩
theorem op_back (h : Inv E c S x M) (hn : 110 ≤ n) (y : Int32) : OK E c (f_X8_back E n S c y) (fun S1 => f_X9_back E n S1 (c + 129) y) := by
  have hx := h.hx
  by_cases c1 : inI y (nI 3)
  · obtain ⟨k, hk, rfl⟩ := inI_j rfl (by decide) c1
    have g453 : gr S 453 c = some (c + 30) := h.s.g 453 0 30 (by decide)
    have g454 : gr S 454 c = some (c + 31) := h.s.g 454 0 31 (by decide)
    have g515 : gr S 515 (c + 129) = some (c + 132) := h.s.g 515 129 132 (by decide)
    have l30 : eN E (c + 30) = 3 := h.L.at 30 3 (by decide) (by decide)
    have l31 : eN E (c + 31) = 3 := h.L.at 31 3 (by decide) (by decide)
    have l132 : eN E (c + 132) = 3 := h.L.at 132 3 (by decide) (by decide)
    have a30 := h.s.2.2.1 k hk
    rw [Nat.add_assoc] at a30
    have cut3 : ¬ (3 : Int32) ≤ nI k := nI_ge (b := 3) (by omega) (by decide)
    obtain ⟨i1, i2, i3⟩ := h.i k hk
    by_cases c2 : ai S (c + 31) k = 0
    · refine OK.r h (v := -6) (by simp only [f_X8_back, if_neg (nI_pos (show k < 2 ^ 31 by omega)), if_neg cut3, g453, g454, obs, l30, l31, nI_clamp (show k < 2 ^ 31 by omega), ifn (rinc hk (show 3 < 2 ^ 31 by omega)), a30, oes, if_pos c2]) ?_
      rw [i1] at c2
      simp only [f_X9_back, inN 2 (nI 3) 2 (by decide) rfl rfl, bds, ifb1 c1, g515, obs, l132, nI_clamp (show k < 2 ^ 31 by omega), ifn (rinc hk (show 3 < 2 ^ 31 by omega)), if_pos c2]
    · obtain ⟨N, hN, hR, hI⟩ := i3 c2
      have hy : x = 4 ∨ x = 17 ∨ x = 82 ∨ x = 95 ∨ x = 108 := by omega
      obtain ⟨S1, r1, r2, r3, r4, r5, r6, r7⟩ := e_X3_takeFrom (n := n) hR (h.L.ms h.s hy) (by omega) hN
      have g513 : gr S1 513 (c + 129) = some (c + 130) := (r3 _ _).trans h.o.1
      have g514 : gr S1 514 (c + 129) = some (c + 131) := (r3 _ _).trans (h.s.g 514 129 131 (by decide))
      have g515' : gr S1 515 (c + 129) = some (c + 132) := (r3 _ _).trans g515
      have a132 : ai S1 (c + 132) = ai S (c + 132) := r7 _ (by omega)
      have c3 : ¬ ai S (c + 132) k = 0 := by rw [← i1]; exact c2
      obtain ⟨g, w1, w3⟩ := e_X9_back_L (E := E) (n := n) hn g513 h.o.2.1 g514 (h.L.at 131 327 (by decide) (by decide)) hk
      refine ⟨0, S1, wi S1 (c + 130) g, x, N, ?_, ?_, ?_⟩
      · simp only [f_X8_back, if_neg (nI_pos (show k < 2 ^ 31 by omega)), if_neg cut3, g453, g454, obs, l30, l31, nI_clamp (show k < 2 ^ 31 by omega), ifn (rinc hk (show 3 < 2 ^ 31 by omega)), a30, oes, if_neg c2, h.n0, r1, bds]
      · simp only [f_X9_back, inN 2 (nI 3) 2 (by decide) rfl rfl, bds, ifb1 c1, g515', obs, l132, nI_clamp (show k < 2 ^ 31 by omega), ifn (rinc hk (show 3 < 2 ^ 31 by omega)), a132, if_neg c3]
        exact w3
      · have eo : ∀ q, q ≠ c + 130 → ai (wi S1 (c + 130) g) q = ai S1 q := fun q q1 => ai_wi_a q1
        have w1' : ∀ i, i < 109 → g i = N i := fun i hi => by rw [w1 i hi, r7 _ (by omega)]; exact hI i hi
        refine h.re (fun f q _ _ _ _ _ => (gr_wi).trans (r3 f q)) (fun q => (ar_wi).trans (r4 q)) ⟨hx, (r3 _ _).trans h.2.2.1.2.1, (r3 _ _).trans h.2.2.1.2.2⟩ hN ?_ ?_ ?_ ?_ ?_ ?_
        · exact RMt.fr r2 (fun _ => rfl) (fun _ _ _ => rfl) (fun j q1 q2 => eo _ (by omega))
        · exact ⟨(r3 _ _).trans h.o.1, h.o.2.1, fun i hi => by rw [ai_wi]; exact w1' i hi, by rw [gi_wi, r6 _ _ (Or.inl (by omega))]; exact h.o.2.2.2⟩
        · exact h.t.fr (by rw [gi_wi, r6 _ _ (Or.inl (by omega))]) (by rw [gi_wi, r6 _ _ (Or.inl (by omega))]) (by rw [eo _ (by omega), r7 _ (by omega)]) (by rw [eo _ (by omega), r7 _ (by omega)])
        · exact h.f.fr (by rw [gi_wi, r6 _ _ (Or.inl (by omega))]) (by rw [gi_wi, r6 _ _ (Or.inl (by omega))]) (by rw [gi_wi, r6 _ _ (Or.inl (by omega))]) (by rw [gi_wi, r6 _ _ (Or.inl (by omega))])
        · intro j hj
          exact (h.i j hj).fr (fun f => r3 f _) (fun f q1 q2 => by rw [gi_wi, r6 _ _ (Or.inl (by omega))]) (fun i q1 q2 => by rw [eo _ (by omega), r7 _ (by omega)]) (by rw [eo _ (by omega), r7 _ (by omega)]) (by rw [eo _ (by omega), r7 _ (by omega)]) (fun i hi => by rw [eo _ (by omega), r7 _ (by omega)])
        · intro j hj
          exact (h.sl j hj).fr (by rw [gi_wi, r6 _ _ (Or.inl (by omega))]) (by rw [gi_wi, r6 _ _ (Or.inl (by omega))]) (by rw [eo _ (by omega), r7 _ (by omega)]) (by rw [eo _ (by omega), r7 _ (by omega)]) (fun i hi => by rw [aj_wi, r5]) (fun i hi => by rw [aj_wi, r5])
  · refine OK.r h (v := -2) ?_ (by simp only [f_X9_back, inN 2 (nI 3) 2 (by decide) rfl rfl, bds, ifb0 c1])
    unfold f_X8_back
    by_cases c2 : y < 0
    · rw [if_pos c2]
    · rw [if_neg c2, if_pos]
      exact Classical.byContradiction fun q => c1 ⟨c2, q⟩
end IMGS
