/-! An object Mountain read piece by piece -/
section MTU
variable {E : EN} {S : WS} {a : Nat} {R : Nat → Int32}
theorem RMt.uH (h : RMt E S a R) {p : Nat} (hp : p < 8) (v : Int32) : RMt E (wi S (a + 1) (upd (ai S (a + 1)) p v)) a (upd R (7 + p) v) := by
  obtain ⟨hm, ⟨i0, i1, i2, i3, i4, i5, i6⟩, r1, r2, r3, r4, r5, r6, r7⟩ := h
  have e : ∀ i, i ≠ 7 + p → upd R (7 + p) v i = R i := fun i hi => pk_un hi
  have c2 : cA (upd R (7 + p) v) = cA R := cE (e 2 (by omega))
  have c3 : cB (upd R (7 + p) v) = cB R := cE (e 3 (by omega))
  have c4 : cS (upd R (7 + p) v) = cS R := cE (e 4 (by omega))
  have c5 : cW (upd R (7 + p) v) = cW R := cE (e 5 (by omega))
  refine ⟨⟨fun k hk => hm.1 k hk, hm.2⟩, ⟨by rw [e _ (by omega)]; exact i0, by rw [e _ (by omega)]; exact i1, by rw [e _ (by omega)]; exact i2, by rw [e _ (by omega)]; exact i3, by rw [e _ (by omega)]; exact i4, by rw [e _ (by omega)]; exact i5, by rw [e _ (by omega)]; exact i6⟩, ?_, ?_, ?_, ?_, ?_, ?_, ?_⟩
  · intro q hq
    rw [ai_wi]
    by_cases z : q = p
    · subst z; rw [pk_us, pk_us]
    · rw [pk_un z, e _ (by omega)]; exact r1 q hq
  · intro q hq; rw [c2] at hq; rw [ai_wi_a (by omega), ai_wi_a (by omega), e _ (by omega), e _ (by omega)]; exact r2 q hq
  · intro q hq; rw [c3] at hq; rw [ai_wi_a (by omega), ai_wi_a (by omega), e _ (by omega), e _ (by omega)]; exact r3 q hq
  · intro q hq; rw [c4] at hq; rw [ai_wi_a (by omega), ai_wi_a (by omega), ai_wi_a (by omega), e _ (by omega), e _ (by omega), e _ (by omega)]; exact r4 q hq
  · intro q hq; rw [ai_wi_a (by omega), e _ (by omega)]; exact r5 q hq
  · intro q hq; rw [ai_wi_a (by omega), e _ (by omega)]; exact r6 q hq
  · intro q hq; rw [c5] at hq; rw [ai_wi_a (by omega), ai_wi_a (by omega), e _ (by omega), e _ (by omega)]; exact r7 q hq
theorem RMt.uR (h : RMt E S a R) {p : Nat} (hp : p < 30) (hb : cA R ≤ 10 ∧ cB R ≤ 4 ∧ cS R ≤ 7 ∧ cW R ≤ 4) (v : Int32) : RMt E (wi S (a + 10) (upd (ai S (a + 10)) p v)) a (upd R (15 + p) v) := by
  obtain ⟨hm, ⟨i0, i1, i2, i3, i4, i5, i6⟩, r1, r2, r3, r4, r5, r6, r7⟩ := h
  have e : ∀ i, i ≠ 15 + p → upd R (15 + p) v i = R i := fun i hi => pk_un hi
  have c2 : cA (upd R (15 + p) v) = cA R := cE (e 2 (by omega))
  have c3 : cB (upd R (15 + p) v) = cB R := cE (e 3 (by omega))
  have c4 : cS (upd R (15 + p) v) = cS R := cE (e 4 (by omega))
  have c5 : cW (upd R (15 + p) v) = cW R := cE (e 5 (by omega))
  refine ⟨⟨fun k hk => hm.1 k hk, hm.2⟩, ⟨by rw [e _ (by omega)]; exact i0, by rw [e _ (by omega)]; exact i1, by rw [e _ (by omega)]; exact i2, by rw [e _ (by omega)]; exact i3, by rw [e _ (by omega)]; exact i4, by rw [e _ (by omega)]; exact i5, by rw [e _ (by omega)]; exact i6⟩, ?_, ?_, ?_, ?_, ?_, ?_, ?_⟩
  · intro q hq; rw [ai_wi_a (by omega), e _ (by omega)]; exact r1 q hq
  · intro q hq; rw [c2] at hq; rw [ai_wi_a (by omega), ai_wi_a (by omega), e _ (by omega), e _ (by omega)]; exact r2 q hq
  · intro q hq; rw [c3] at hq; rw [ai_wi_a (by omega), ai_wi_a (by omega), e _ (by omega), e _ (by omega)]; exact r3 q hq
  · intro q hq; rw [c4] at hq; rw [ai_wi_a (by omega), ai_wi_a (by omega), ai_wi_a (by omega), e _ (by omega), e _ (by omega), e _ (by omega)]; exact r4 q hq
  · intro q hq; rw [ai_wi_a (by omega), e _ (by omega)]; exact r5 q hq
  · intro q hq
    rw [ai_wi]
    by_cases z : q = p
    · subst z; rw [pk_us, pk_us]
    · rw [pk_un z, e _ (by omega)]; exact r6 q hq
  · intro q hq; rw [c5] at hq; rw [ai_wi_a (by omega), ai_wi_a (by omega), e _ (by omega), e _ (by omega)]; exact r7 q hq
theorem RMt.uC (h : RMt E S a R) {p : Nat} (hp : p < 7) (hb : cA R ≤ 10 ∧ cB R ≤ 4 ∧ cS R ≤ 7 ∧ cW R ≤ 4) (v : Int32) : RMt E (wi S (a + 9) (upd (ai S (a + 9)) p v)) a (upd R (102 + p) v) := by
  obtain ⟨hm, ⟨i0, i1, i2, i3, i4, i5, i6⟩, r1, r2, r3, r4, r5, r6, r7⟩ := h
  have e : ∀ i, i ≠ 102 + p → upd R (102 + p) v i = R i := fun i hi => pk_un hi
  have c2 : cA (upd R (102 + p) v) = cA R := cE (e 2 (by omega))
  have c3 : cB (upd R (102 + p) v) = cB R := cE (e 3 (by omega))
  have c4 : cS (upd R (102 + p) v) = cS R := cE (e 4 (by omega))
  have c5 : cW (upd R (102 + p) v) = cW R := cE (e 5 (by omega))
  refine ⟨⟨fun k hk => hm.1 k hk, hm.2⟩, ⟨by rw [e _ (by omega)]; exact i0, by rw [e _ (by omega)]; exact i1, by rw [e _ (by omega)]; exact i2, by rw [e _ (by omega)]; exact i3, by rw [e _ (by omega)]; exact i4, by rw [e _ (by omega)]; exact i5, by rw [e _ (by omega)]; exact i6⟩, ?_, ?_, ?_, ?_, ?_, ?_, ?_⟩
  · intro q hq; rw [ai_wi_a (by omega), e _ (by omega)]; exact r1 q hq
  · intro q hq; rw [c2] at hq; rw [ai_wi_a (by omega), ai_wi_a (by omega), e _ (by omega), e _ (by omega)]; exact r2 q hq
  · intro q hq; rw [c3] at hq; rw [ai_wi_a (by omega), ai_wi_a (by omega), e _ (by omega), e _ (by omega)]; exact r3 q hq
  · intro q hq; rw [c4] at hq; rw [ai_wi_a (by omega), ai_wi_a (by omega), ai_wi_a (by omega), e _ (by omega), e _ (by omega), e _ (by omega)]; exact r4 q hq
  · intro q hq
    rw [ai_wi]
    by_cases z : q = p
    · subst z; rw [pk_us, pk_us]
    · rw [pk_un z, e _ (by omega)]; exact r5 q hq
  · intro q hq; rw [ai_wi_a (by omega), e _ (by omega)]; exact r6 q hq
  · intro q hq; rw [c5] at hq; rw [ai_wi_a (by omega), ai_wi_a (by omega), e _ (by omega), e _ (by omega)]; exact r7 q hq
theorem RMt.u6 (h : RMt E S a R) (v : Int32) : RMt E (si S 128 a v) a (upd R 6 v) := by
  obtain ⟨hm, ⟨i0, i1, i2, i3, i4, i5, i6⟩, r1, r2, r3, r4, r5, r6, r7⟩ := h
  have e : ∀ i, i ≠ 6 → upd R 6 v i = R i := fun i hi => pk_un hi
  have c2 : cA (upd R 6 v) = cA R := cE (e 2 (by omega))
  have c3 : cB (upd R 6 v) = cB R := cE (e 3 (by omega))
  have c4 : cS (upd R 6 v) = cS R := cE (e 4 (by omega))
  have c5 : cW (upd R 6 v) = cW R := cE (e 5 (by omega))
  have g : ∀ f, f ≠ 128 → gi (si S 128 a v) f a = gi S f a := fun f hf => gi_si_f hf
  refine ⟨⟨fun k hk => hm.1 k hk, hm.2⟩, ⟨by rw [gi_si_eq, pk_us], by rw [e _ (by omega), g _ (by omega)]; exact i1, by rw [e _ (by omega), g _ (by omega)]; exact i2, by rw [e _ (by omega), g _ (by omega)]; exact i3, by rw [e _ (by omega), g _ (by omega)]; exact i4, by rw [e _ (by omega), g _ (by omega)]; exact i5, by rw [e _ (by omega), g _ (by omega)]; exact i6⟩, ?_, ?_, ?_, ?_, ?_, ?_, ?_⟩
  · intro q hq; rw [e _ (by omega)]; exact r1 q hq
  · intro q hq; rw [c2] at hq; rw [e _ (by omega), e _ (by omega)]; exact r2 q hq
  · intro q hq; rw [c3] at hq; rw [e _ (by omega), e _ (by omega)]; exact r3 q hq
  · intro q hq; rw [c4] at hq; rw [e _ (by omega), e _ (by omega), e _ (by omega)]; exact r4 q hq
  · intro q hq; rw [e _ (by omega)]; exact r5 q hq
  · intro q hq; rw [e _ (by omega)]; exact r6 q hq
  · intro q hq; rw [c5] at hq; rw [e _ (by omega), e _ (by omega)]; exact r7 q hq
theorem RMt.u01 (h : RMt E S a R) (v w : Int32) : RMt E (si (si S 129 a v) 130 a w) a (upd (upd R 0 v) 1 w) := by
  obtain ⟨hm, ⟨i0, i1, i2, i3, i4, i5, i6⟩, r1, r2, r3, r4, r5, r6, r7⟩ := h
  have e : ∀ i, i ≠ 0 → i ≠ 1 → upd (upd R 0 v) 1 w i = R i := fun i h1 h2 => (pk_un h2).trans (pk_un h1)
  have c2 : cA (upd (upd R 0 v) 1 w) = cA R := cE (e 2 (by omega) (by omega))
  have c3 : cB (upd (upd R 0 v) 1 w) = cB R := cE (e 3 (by omega) (by omega))
  have c4 : cS (upd (upd R 0 v) 1 w) = cS R := cE (e 4 (by omega) (by omega))
  have c5 : cW (upd (upd R 0 v) 1 w) = cW R := cE (e 5 (by omega) (by omega))
  have g : ∀ f, f ≠ 129 → f ≠ 130 → gi (si (si S 129 a v) 130 a w) f a = gi S f a := fun f h1 h2 => (gi_si_f h2).trans (gi_si_f h1)
  refine ⟨⟨fun k hk => hm.1 k hk, hm.2⟩, ⟨by rw [e _ (by omega) (by omega), g _ (by omega) (by omega)]; exact i0, by rw [gi_si_f (by decide), gi_si_eq, pk_un (by decide), pk_us], by rw [gi_si_eq, pk_us], by rw [e _ (by omega) (by omega), g _ (by omega) (by omega)]; exact i3, by rw [e _ (by omega) (by omega), g _ (by omega) (by omega)]; exact i4, by rw [e _ (by omega) (by omega), g _ (by omega) (by omega)]; exact i5, by rw [e _ (by omega) (by omega), g _ (by omega) (by omega)]; exact i6⟩, ?_, ?_, ?_, ?_, ?_, ?_, ?_⟩
  · intro q hq; rw [e _ (by omega) (by omega)]; exact r1 q hq
  · intro q hq; rw [c2] at hq; rw [e _ (by omega) (by omega), e _ (by omega) (by omega)]; exact r2 q hq
  · intro q hq; rw [c3] at hq; rw [e _ (by omega) (by omega), e _ (by omega) (by omega)]; exact r3 q hq
  · intro q hq; rw [c4] at hq; rw [e _ (by omega) (by omega), e _ (by omega) (by omega), e _ (by omega) (by omega)]; exact r4 q hq
  · intro q hq; rw [e _ (by omega) (by omega)]; exact r5 q hq
  · intro q hq; rw [e _ (by omega) (by omega)]; exact r6 q hq
  · intro q hq; rw [c5] at hq; rw [e _ (by omega) (by omega), e _ (by omega) (by omega)]; exact r7 q hq
theorem RMt.uA (h : RMt E S a R) (hb : cA R < 10 ∧ cB R ≤ 4 ∧ cS R ≤ 7 ∧ cW R ≤ 4) (u v : Int32) : RMt E (si (wi (wi S (a + 2) (upd (ai S (a + 2)) (cA R) u)) (a + 3) (upd (ai S (a + 3)) (cA R) v)) 131 a (nI (cA R + 1))) a (upd (upd (upd R (45 + 2 * cA R) u) (46 + 2 * cA R) v) 2 (nI (cA R + 1))) := by
  obtain ⟨A, hA⟩ : ∃ A, A = cA R := ⟨_, rfl⟩
  rw [← hA] at hb ⊢
  obtain ⟨hm, ⟨i0, i1, i2, i3, i4, i5, i6⟩, r1, r2, r3, r4, r5, r6, r7⟩ := h
  obtain ⟨g, hg⟩ : ∃ g, g = upd (upd (upd R (45 + 2 * A) u) (46 + 2 * A) v) 2 (nI (A + 1)) := ⟨_, rfl⟩
  rw [← hg]
  have e : ∀ i, i ≠ 2 → i ≠ 45 + 2 * A → i ≠ 46 + 2 * A → g i = R i := fun i h1 h2 h3 => by rw [hg, pk_un h1, pk_un h3, pk_un h2]
  have n1 : g (45 + 2 * A) = u := by rw [hg, pk_un (by omega), pk_un (by omega), pk_us]
  have n2 : g (46 + 2 * A) = v := by rw [hg, pk_un (by omega), pk_us]
  have n3 : g 2 = nI (A + 1) := by rw [hg, pk_us]
  have c2 : cA g = A + 1 := by show (g 2).toNatClampNeg = _; rw [n3, nI_clamp (by omega)]
  have c3 : cB g = cB R := cE (e 3 (by omega) (by omega) (by omega))
  have c4 : cS g = cS R := cE (e 4 (by omega) (by omega) (by omega))
  have c5 : cW g = cW R := cE (e 5 (by omega) (by omega) (by omega))
  obtain ⟨S1, hS1⟩ : ∃ S1, S1 = si (wi (wi S (a + 2) (upd (ai S (a + 2)) A u)) (a + 3) (upd (ai S (a + 3)) A v)) 131 a (nI (A + 1)) := ⟨_, rfl⟩
  rw [← hS1]
  have gf : ∀ f, f ≠ 131 → gi S1 f a = gi S f a := fun f hf => by rw [hS1]; exact gi_si_f hf
  have af : ∀ q, q ≠ a + 2 → q ≠ a + 3 → ai S1 q = ai S q := fun q h1 h2 => by rw [hS1, ai_si, ai_wi_a h2, ai_wi_a h1]
  have a2 : ai S1 (a + 2) = upd (ai S (a + 2)) A u := by rw [hS1, ai_si, ai_wi_a (by omega), ai_wi]
  have a3 : ai S1 (a + 3) = upd (ai S (a + 3)) A v := by rw [hS1, ai_si, ai_wi]
  refine ⟨⟨fun k hk => by rw [hS1]; exact hm.1 k hk, hm.2⟩, ⟨by rw [e _ (by omega) (by omega) (by omega), gf _ (by omega)]; exact i0, by rw [e _ (by omega) (by omega) (by omega), gf _ (by omega)]; exact i1, by rw [e _ (by omega) (by omega) (by omega), gf _ (by omega)]; exact i2, by rw [n3, hS1, gi_si_eq], by rw [e _ (by omega) (by omega) (by omega), gf _ (by omega)]; exact i4, by rw [e _ (by omega) (by omega) (by omega), gf _ (by omega)]; exact i5, by rw [e _ (by omega) (by omega) (by omega), gf _ (by omega)]; exact i6⟩, ?_, ?_, ?_, ?_, ?_, ?_, ?_⟩
  · intro q hq; rw [af _ (by omega) (by omega), e _ (by omega) (by omega) (by omega)]; exact r1 q hq
  · intro q hq
    rw [c2] at hq
    rw [a2, a3]
    by_cases z : q = A
    · subst z; rw [pk_us, pk_us, n1, n2]; exact ⟨rfl, rfl⟩
    · rw [pk_un z, pk_un z, e _ (by omega) (by omega) (by omega), e _ (by omega) (by omega) (by omega)]; exact r2 q (by omega)
  · intro q hq; rw [c3] at hq; rw [af _ (by omega) (by omega), af _ (by omega) (by omega), e _ (by omega) (by omega) (by omega), e _ (by omega) (by omega) (by omega)]; exact r3 q hq
  · intro q hq; rw [c4] at hq; rw [af _ (by omega) (by omega), af _ (by omega) (by omega), af _ (by omega) (by omega), e _ (by omega) (by omega) (by omega), e _ (by omega) (by omega) (by omega), e _ (by omega) (by omega) (by omega)]; exact r4 q hq
  · intro q hq; rw [af _ (by omega) (by omega), e _ (by omega) (by omega) (by omega)]; exact r5 q hq
  · intro q hq; rw [af _ (by omega) (by omega), e _ (by omega) (by omega) (by omega)]; exact r6 q hq
  · intro q hq; rw [c5] at hq; rw [af _ (by omega) (by omega), af _ (by omega) (by omega), e _ (by omega) (by omega) (by omega), e _ (by omega) (by omega) (by omega)]; exact r7 q hq
theorem RMt.uB (h : RMt E S a R) (hb : cA R ≤ 10 ∧ cB R < 4 ∧ cS R ≤ 7 ∧ cW R ≤ 4) (u v : Int32) : RMt E (si (wi (wi S (a + 4) (upd (ai S (a + 4)) (cB R) u)) (a + 5) (upd (ai S (a + 5)) (cB R) v)) 132 a (nI (cB R + 1))) a (upd (upd (upd R (65 + 2 * cB R) u) (66 + 2 * cB R) v) 3 (nI (cB R + 1))) := by
  obtain ⟨A, hA⟩ : ∃ A, A = cB R := ⟨_, rfl⟩
  rw [← hA] at hb ⊢
  obtain ⟨hm, ⟨i0, i1, i2, i3, i4, i5, i6⟩, r1, r2, r3, r4, r5, r6, r7⟩ := h
  obtain ⟨g, hg⟩ : ∃ g, g = upd (upd (upd R (65 + 2 * A) u) (66 + 2 * A) v) 3 (nI (A + 1)) := ⟨_, rfl⟩
  rw [← hg]
  have e : ∀ i, i ≠ 3 → i ≠ 65 + 2 * A → i ≠ 66 + 2 * A → g i = R i := fun i h1 h2 h3 => by rw [hg, pk_un h1, pk_un h3, pk_un h2]
  have n1 : g (65 + 2 * A) = u := by rw [hg, pk_un (by omega), pk_un (by omega), pk_us]
  have n2 : g (66 + 2 * A) = v := by rw [hg, pk_un (by omega), pk_us]
  have n3 : g 3 = nI (A + 1) := by rw [hg, pk_us]
  have c2 : cA g = cA R := cE (e 2 (by omega) (by omega) (by omega))
  have c3 : cB g = A + 1 := by show (g 3).toNatClampNeg = _; rw [n3, nI_clamp (by omega)]
  have c4 : cS g = cS R := cE (e 4 (by omega) (by omega) (by omega))
  have c5 : cW g = cW R := cE (e 5 (by omega) (by omega) (by omega))
  obtain ⟨S1, hS1⟩ : ∃ S1, S1 = si (wi (wi S (a + 4) (upd (ai S (a + 4)) A u)) (a + 5) (upd (ai S (a + 5)) A v)) 132 a (nI (A + 1)) := ⟨_, rfl⟩
  rw [← hS1]
  have gf : ∀ f, f ≠ 132 → gi S1 f a = gi S f a := fun f hf => by rw [hS1]; exact gi_si_f hf
  have af : ∀ q, q ≠ a + 4 → q ≠ a + 5 → ai S1 q = ai S q := fun q h1 h2 => by rw [hS1, ai_si, ai_wi_a h2, ai_wi_a h1]
  have a2 : ai S1 (a + 4) = upd (ai S (a + 4)) A u := by rw [hS1, ai_si, ai_wi_a (by omega), ai_wi]
  have a3 : ai S1 (a + 5) = upd (ai S (a + 5)) A v := by rw [hS1, ai_si, ai_wi]
  refine ⟨⟨fun k hk => by rw [hS1]; exact hm.1 k hk, hm.2⟩, ⟨by rw [e _ (by omega) (by omega) (by omega), gf _ (by omega)]; exact i0, by rw [e _ (by omega) (by omega) (by omega), gf _ (by omega)]; exact i1, by rw [e _ (by omega) (by omega) (by omega), gf _ (by omega)]; exact i2, by rw [e _ (by omega) (by omega) (by omega), gf _ (by omega)]; exact i3, by rw [n3, hS1, gi_si_eq], by rw [e _ (by omega) (by omega) (by omega), gf _ (by omega)]; exact i5, by rw [e _ (by omega) (by omega) (by omega), gf _ (by omega)]; exact i6⟩, ?_, ?_, ?_, ?_, ?_, ?_, ?_⟩
  · intro q hq; rw [af _ (by omega) (by omega), e _ (by omega) (by omega) (by omega)]; exact r1 q hq
  · intro q hq; rw [c2] at hq; rw [af _ (by omega) (by omega), af _ (by omega) (by omega), e _ (by omega) (by omega) (by omega), e _ (by omega) (by omega) (by omega)]; exact r2 q hq
  · intro q hq
    rw [c3] at hq
    rw [a2, a3]
    by_cases z : q = A
    · subst z; rw [pk_us, pk_us, n1, n2]; exact ⟨rfl, rfl⟩
    · rw [pk_un z, pk_un z, e _ (by omega) (by omega) (by omega), e _ (by omega) (by omega) (by omega)]; exact r3 q (by omega)
  · intro q hq; rw [c4] at hq; rw [af _ (by omega) (by omega), af _ (by omega) (by omega), af _ (by omega) (by omega), e _ (by omega) (by omega) (by omega), e _ (by omega) (by omega) (by omega), e _ (by omega) (by omega) (by omega)]; exact r4 q hq
  · intro q hq; rw [af _ (by omega) (by omega), e _ (by omega) (by omega) (by omega)]; exact r5 q hq
  · intro q hq; rw [af _ (by omega) (by omega), e _ (by omega) (by omega) (by omega)]; exact r6 q hq
  · intro q hq; rw [c5] at hq; rw [af _ (by omega) (by omega), af _ (by omega) (by omega), e _ (by omega) (by omega) (by omega), e _ (by omega) (by omega) (by omega)]; exact r7 q hq
theorem RMt.uW (h : RMt E S a R) (hb : cA R ≤ 10 ∧ cB R ≤ 4 ∧ cS R ≤ 7 ∧ cW R < 4) (u v : Int32) : RMt E (si (wi (wi S (a + 11) (upd (ai S (a + 11)) (cW R) u)) (a + 12) (upd (ai S (a + 12)) (cW R) v)) 134 a (nI (cW R + 1))) a (upd (upd (upd R (94 + 2 * cW R) u) (95 + 2 * cW R) v) 5 (nI (cW R + 1))) := by
  obtain ⟨A, hA⟩ : ∃ A, A = cW R := ⟨_, rfl⟩
  rw [← hA] at hb ⊢
  obtain ⟨hm, ⟨i0, i1, i2, i3, i4, i5, i6⟩, r1, r2, r3, r4, r5, r6, r7⟩ := h
  obtain ⟨g, hg⟩ : ∃ g, g = upd (upd (upd R (94 + 2 * A) u) (95 + 2 * A) v) 5 (nI (A + 1)) := ⟨_, rfl⟩
  rw [← hg]
  have e : ∀ i, i ≠ 5 → i ≠ 94 + 2 * A → i ≠ 95 + 2 * A → g i = R i := fun i h1 h2 h3 => by rw [hg, pk_un h1, pk_un h3, pk_un h2]
  have n1 : g (94 + 2 * A) = u := by rw [hg, pk_un (by omega), pk_un (by omega), pk_us]
  have n2 : g (95 + 2 * A) = v := by rw [hg, pk_un (by omega), pk_us]
  have n3 : g 5 = nI (A + 1) := by rw [hg, pk_us]
  have c2 : cA g = cA R := cE (e 2 (by omega) (by omega) (by omega))
  have c3 : cB g = cB R := cE (e 3 (by omega) (by omega) (by omega))
  have c4 : cS g = cS R := cE (e 4 (by omega) (by omega) (by omega))
  have c5 : cW g = A + 1 := by show (g 5).toNatClampNeg = _; rw [n3, nI_clamp (by omega)]
  obtain ⟨S1, hS1⟩ : ∃ S1, S1 = si (wi (wi S (a + 11) (upd (ai S (a + 11)) A u)) (a + 12) (upd (ai S (a + 12)) A v)) 134 a (nI (A + 1)) := ⟨_, rfl⟩
  rw [← hS1]
  have gf : ∀ f, f ≠ 134 → gi S1 f a = gi S f a := fun f hf => by rw [hS1]; exact gi_si_f hf
  have af : ∀ q, q ≠ a + 11 → q ≠ a + 12 → ai S1 q = ai S q := fun q h1 h2 => by rw [hS1, ai_si, ai_wi_a h2, ai_wi_a h1]
  have a2 : ai S1 (a + 11) = upd (ai S (a + 11)) A u := by rw [hS1, ai_si, ai_wi_a (by omega), ai_wi]
  have a3 : ai S1 (a + 12) = upd (ai S (a + 12)) A v := by rw [hS1, ai_si, ai_wi]
  refine ⟨⟨fun k hk => by rw [hS1]; exact hm.1 k hk, hm.2⟩, ⟨by rw [e _ (by omega) (by omega) (by omega), gf _ (by omega)]; exact i0, by rw [e _ (by omega) (by omega) (by omega), gf _ (by omega)]; exact i1, by rw [e _ (by omega) (by omega) (by omega), gf _ (by omega)]; exact i2, by rw [e _ (by omega) (by omega) (by omega), gf _ (by omega)]; exact i3, by rw [e _ (by omega) (by omega) (by omega), gf _ (by omega)]; exact i4, by rw [e _ (by omega) (by omega) (by omega), gf _ (by omega)]; exact i5, by rw [n3, hS1, gi_si_eq]⟩, ?_, ?_, ?_, ?_, ?_, ?_, ?_⟩
  · intro q hq; rw [af _ (by omega) (by omega), e _ (by omega) (by omega) (by omega)]; exact r1 q hq
  · intro q hq; rw [c2] at hq; rw [af _ (by omega) (by omega), af _ (by omega) (by omega), e _ (by omega) (by omega) (by omega), e _ (by omega) (by omega) (by omega)]; exact r2 q hq
  · intro q hq; rw [c3] at hq; rw [af _ (by omega) (by omega), af _ (by omega) (by omega), e _ (by omega) (by omega) (by omega), e _ (by omega) (by omega) (by omega)]; exact r3 q hq
  · intro q hq; rw [c4] at hq; rw [af _ (by omega) (by omega), af _ (by omega) (by omega), af _ (by omega) (by omega), e _ (by omega) (by omega) (by omega), e _ (by omega) (by omega) (by omega), e _ (by omega) (by omega) (by omega)]; exact r4 q hq
  · intro q hq; rw [af _ (by omega) (by omega), e _ (by omega) (by omega) (by omega)]; exact r5 q hq
  · intro q hq; rw [af _ (by omega) (by omega), e _ (by omega) (by omega) (by omega)]; exact r6 q hq
  · intro q hq
    rw [c5] at hq
    rw [a2, a3]
    by_cases z : q = A
    · subst z; rw [pk_us, pk_us, n1, n2]; exact ⟨rfl, rfl⟩
    · rw [pk_un z, pk_un z, e _ (by omega) (by omega) (by omega), e _ (by omega) (by omega) (by omega)]; exact r7 q (by omega)
theorem RMt.uS (h : RMt E S a R) (hb : cA R ≤ 10 ∧ cB R ≤ 4 ∧ cS R < 7 ∧ cW R ≤ 4) (u v w : Int32) : RMt E (si (wi (wi (wi S (a + 6) (upd (ai S (a + 6)) (cS R) u)) (a + 7) (upd (ai S (a + 7)) (cS R) v)) (a + 8) (upd (ai S (a + 8)) (cS R) w)) 133 a (nI (cS R + 1))) a (upd (upd (upd (upd R (73 + 3 * cS R) u) (74 + 3 * cS R) v) (75 + 3 * cS R) w) 4 (nI (cS R + 1))) := by
  obtain ⟨A, hA⟩ : ∃ A, A = cS R := ⟨_, rfl⟩
  rw [← hA] at hb ⊢
  obtain ⟨hm, ⟨i0, i1, i2, i3, i4, i5, i6⟩, r1, r2, r3, r4, r5, r6, r7⟩ := h
  obtain ⟨g, hg⟩ : ∃ g, g = upd (upd (upd (upd R (73 + 3 * A) u) (74 + 3 * A) v) (75 + 3 * A) w) 4 (nI (A + 1)) := ⟨_, rfl⟩
  rw [← hg]
  have e : ∀ i, i ≠ 4 → (i < 73 + 3 * A ∨ 75 + 3 * A < i) → g i = R i := fun i h1 h2 => by rw [hg, pk_un h1, pk_un (by omega), pk_un (by omega), pk_un (by omega)]
  have n1 : g (73 + 3 * A) = u := by rw [hg, pk_un (by omega), pk_un (by omega), pk_un (by omega), pk_us]
  have n2 : g (74 + 3 * A) = v := by rw [hg, pk_un (by omega), pk_un (by omega), pk_us]
  have n4 : g (75 + 3 * A) = w := by rw [hg, pk_un (by omega), pk_us]
  have n3 : g 4 = nI (A + 1) := by rw [hg, pk_us]
  have c2 : cA g = cA R := cE (e 2 (by omega) (by omega))
  have c3 : cB g = cB R := cE (e 3 (by omega) (by omega))
  have c4 : cS g = A + 1 := by show (g 4).toNatClampNeg = _; rw [n3, nI_clamp (by omega)]
  have c5 : cW g = cW R := cE (e 5 (by omega) (by omega))
  obtain ⟨S1, hS1⟩ : ∃ S1, S1 = si (wi (wi (wi S (a + 6) (upd (ai S (a + 6)) A u)) (a + 7) (upd (ai S (a + 7)) A v)) (a + 8) (upd (ai S (a + 8)) A w)) 133 a (nI (A + 1)) := ⟨_, rfl⟩
  rw [← hS1]
  have gf : ∀ f, f ≠ 133 → gi S1 f a = gi S f a := fun f hf => by rw [hS1]; exact gi_si_f hf
  have af : ∀ q, (q < a + 6 ∨ a + 8 < q) → ai S1 q = ai S q := fun q h1 => by rw [hS1, ai_si, ai_wi_a (by omega), ai_wi_a (by omega), ai_wi_a (by omega)]
  have a2 : ai S1 (a + 6) = upd (ai S (a + 6)) A u := by rw [hS1, ai_si, ai_wi_a (by omega), ai_wi_a (by omega), ai_wi]
  have a3 : ai S1 (a + 7) = upd (ai S (a + 7)) A v := by rw [hS1, ai_si, ai_wi_a (by omega), ai_wi]
  have a4 : ai S1 (a + 8) = upd (ai S (a + 8)) A w := by rw [hS1, ai_si, ai_wi]
  refine ⟨⟨fun k hk => by rw [hS1]; exact hm.1 k hk, hm.2⟩, ⟨by rw [e _ (by omega) (by omega), gf _ (by omega)]; exact i0, by rw [e _ (by omega) (by omega), gf _ (by omega)]; exact i1, by rw [e _ (by omega) (by omega), gf _ (by omega)]; exact i2, by rw [e _ (by omega) (by omega), gf _ (by omega)]; exact i3, by rw [e _ (by omega) (by omega), gf _ (by omega)]; exact i4, by rw [n3, hS1, gi_si_eq], by rw [e _ (by omega) (by omega), gf _ (by omega)]; exact i6⟩, ?_, ?_, ?_, ?_, ?_, ?_, ?_⟩
  · intro q hq; rw [af _ (by omega), e _ (by omega) (by omega)]; exact r1 q hq
  · intro q hq; rw [c2] at hq; rw [af _ (by omega), af _ (by omega), e _ (by omega) (by omega), e _ (by omega) (by omega)]; exact r2 q hq
  · intro q hq; rw [c3] at hq; rw [af _ (by omega), af _ (by omega), e _ (by omega) (by omega), e _ (by omega) (by omega)]; exact r3 q hq
  · intro q hq
    rw [c4] at hq
    rw [a2, a3, a4]
    by_cases z : q = A
    · subst z; rw [pk_us, pk_us, pk_us, n1, n2, n4]; exact ⟨rfl, rfl, rfl⟩
    · rw [pk_un z, pk_un z, pk_un z, e _ (by omega) (by omega), e _ (by omega) (by omega), e _ (by omega) (by omega)]; exact r4 q (by omega)
  · intro q hq; rw [af _ (by omega), e _ (by omega) (by omega)]; exact r5 q hq
  · intro q hq; rw [af _ (by omega), e _ (by omega) (by omega)]; exact r6 q hq
  · intro q hq; rw [c5] at hq; rw [af _ (by omega), af _ (by omega), e _ (by omega) (by omega), e _ (by omega) (by omega)]; exact r7 q hq
end MTU
