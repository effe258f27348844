/-! Lines of a mountain, both ways: walkers, brides -/
section LNW
variable {E : EN} {n c a : Nat} {S S' Sc Sm : WS} {b : Nat → Int32} {L q : Nat} {R R' : Nat → Int32}
theorem BAD.fm {k p : Nat} (h : BAD E c k p S) : gr S 526 (c + 129) = some (c + 135) ∧ eN E (c + 135) = 109 := ⟨h.2.2.2.2.1, h.2.2.2.2.2⟩
def mWlk (E : EN) (n : Nat) (S : WS) (h0 : Nat) : Option (Unit × WS) :=
  (gr S 526 h0).bind fun b19 =>
  if (5 : Int32) < 0 ∨ eN E b19 ≤ (5 : Int32).toNatClampNeg then none else
  lt ((94 : Int32) + ((2 : Int32) * (ai S b19 (5 : Int32).toNatClampNeg))) fun y20 =>
  (gr S 526 h0).bind fun b21 =>
  bd (f_X9_told E n S h0 15 (0 : Int32) (99 : Int32)) fun v23 S22 =>
  if y20 < 0 ∨ eN E b21 ≤ y20.toNatClampNeg then none else
  lt (wi S22 b21 (upd (ai S22 b21) y20.toNatClampNeg v23)) fun S24 =>
  (gr S24 526 h0).bind fun b25 =>
  (gr S24 526 h0).bind fun b26 =>
  if (0 : Int32) < 0 ∨ eN E b26 ≤ (0 : Int32).toNatClampNeg then none else
  bd (f_X9_told E n S24 h0 16 (0 : Int32) ((ai S24 b26 (0 : Int32).toNatClampNeg) - (1 : Int32))) fun v28 S27 =>
  if (y20 + (1 : Int32)) < 0 ∨ eN E b25 ≤ (y20 + (1 : Int32)).toNatClampNeg then none else
  lt (wi S27 b25 (upd (ai S27 b25) (y20 + (1 : Int32)).toNatClampNeg v28)) fun S29 =>
  (gr S29 526 h0).bind fun b30 =>
  if (5 : Int32) < 0 ∨ eN E b30 ≤ (5 : Int32).toNatClampNeg then none else
  if (5 : Int32) < 0 ∨ eN E b30 ≤ (5 : Int32).toNatClampNeg then none else
  lt (wi S29 b30 (upd (ai S29 b30) (5 : Int32).toNatClampNeg ((ai S29 b30 (5 : Int32).toNatClampNeg) + (1 : Int32)))) fun S31 =>
  some ((), S31)
theorem t5 : Int32.toNatClampNeg 5 = 5 := by decide
theorem t3n : Int32.toNatClampNeg 3 = 3 := by decide
theorem t4n : Int32.toNatClampNeg 4 = 4 := by decide
theorem t2n : Int32.toNatClampNeg 2 = 2 := by decide
theorem t6n : Int32.toNatClampNeg 6 = 6 := by decide
theorem t0n : Int32.toNatClampNeg 0 = 0 := by decide
theorem t1n : Int32.toNatClampNeg 1 = 1 := by decide
theorem ln_wlk (hs : RC E c a b L q R Sc) (hm : RM E c b L (bhd b L q) R Sm) (ha : a = c + 4 ∨ a = c + 17) (hn : 1500 ≤ n) (hw : WF R) (h0 : 0 < cP R) (hW : cW R < 4) : OUT E c a b L q R Sc Sm (f_X4_readWalker E n Sc (c + 2) a) (mWlk E n Sm (c + 129)) := by
  have hP := hw.lP
  have hb := bhd_le (b := b) hs.2.2
  have hk := skp_le (b := b) hs.2.2
  have e95 : 94 + 2 * cW R + 1 = 95 + 2 * cW R := by omega
  obtain ⟨Sc1, g1, g2, g3⟩ := e_X4_go (n := n) hs ha hn
  have m5 : ai Sm (c + 135) (Int32.toNatClampNeg 5) = nI (cW R) := (hm.2.2.2.2.1 5 (by decide)).trans hw.s5
  rcases tld2 (n := n) (w := 15) (lo := 0) (h1 := 100) (hi := 99) g3 hm ha hn (by decide) (by omega) (by omega) (by decide) with ⟨v, q1, Sc2, Sc3, Sm1, v1, v2, v3, x0, xr, x1, x2, x3, y1, y2, y3⟩ | ⟨k, p, Sc2, Sc3, Sm1, x1, x2, x3, y1, y2, y3⟩
  · have x1 : f_X4_takeNumber E n Sc2 (c + 2) 0 99 = some (nI v, Sc3) := x1
    have y1 : f_X9_told E n Sm (c + 129) 15 0 99 = some (nI v, Sm1) := y1
    obtain ⟨M1, hM1⟩ : ∃ M1, M1 = wi Sm1 (c + 135) (upd (ai Sm1 (c + 135)) (94 + 2 * cW R) (nI v)) := ⟨_, rfl⟩
    have r1 : RM E c b L q1 (upd R (94 + 2 * cW R) (nI v)) M1 := by rw [hM1]; exact y3.u _ _
    have m0 : ai M1 (c + 135) (Int32.toNatClampNeg 0) = nI (cP R) := (r1.2.2.2.2.1 0 (by decide)).trans ((pk_un (by omega)).trans hw.s0)
    rcases tld2 (n := n) (w := 16) (lo := 0) (h1 := cP R) (hi := nI (cP R) - 1) x3 r1 ha hn (by decide) (by omega) (by omega) rfl with ⟨w, q2, Sc4, Sc5, Sm2, w1, w2, w3, X0, Xr, X1, X2, X3, Y1, Y2, Y3⟩ | ⟨k, p, Sc4, Sc5, Sm2, X1, X2, X3, Y1, Y2, Y3⟩
    · have X1 : f_X4_takeNumber E n Sc4 (c + 2) 0 (nI (cP R) - 1) = some (nI w, Sc5) := X1
      have Y1 : f_X9_told E n M1 (c + 129) 16 0 (nI (cP R) - 1) = some (nI w, Sm2) := Y1
      have e129 : gi Sc4 129 a = nI (cP R) := Xr.i129.trans hw.s0
      have e134 : gi Sc5 134 a = nI (cW R) := X3.2.1.i134.trans hw.s5
      obtain ⟨M2, hM2⟩ : ∃ M2, M2 = wi Sm2 (c + 135) (upd (ai Sm2 (c + 135)) (95 + 2 * cW R) (nI w)) := ⟨_, rfl⟩
      have r2 : RM E c b L q2 (upd (upd R (94 + 2 * cW R) (nI v)) (95 + 2 * cW R) (nI w)) M2 := by rw [hM2]; exact Y3.u _ _
      have m52 : ai M2 (c + 135) 5 = nI (cW R) := (r2.2.2.2.2.1 5 (by decide)).trans ((pk_un (by omega)).trans ((pk_un (by omega)).trans hw.s5))
      have g11 : ∀ g, gr (wi Sc5 (a + 11) g) 146 a = some (a + 12) := fun g => X3.2.1.g146
      have i34 : ∀ g g2, gi (wi (wi Sc5 (a + 11) g) (a + 12) g2) 134 a = nI (cW R) := fun g g2 => e134
      have i34' : ∀ g, gi (wi Sc5 (a + 11) g) 134 a = nI (cW R) := fun g => e134
      have a12 : ∀ g, ai (wi Sc5 (a + 11) g) (a + 12) = ai Sc5 (a + 12) := fun g => ai_wi_a (by omega)
      refine Or.inl ⟨q2, upd (upd (upd R (94 + 2 * cW R) (nI v)) (95 + 2 * cW R) (nI w)) 5 (nI (cW R + 1)), si (wi (wi Sc5 (a + 11) (upd (ai Sc5 (a + 11)) (cW R) (nI v))) (a + 12) (upd (ai Sc5 (a + 12)) (cW R) (nI w))) 134 a (nI (cW R + 1)), wi M2 (c + 135) (upd (ai M2 (c + 135)) 5 (nI (cW R + 1))), ?_, ((g2.tr x2).tr X2).tr (((fc_w (by omega)).tr (fc_w (by omega))).tr (fc_a (by omega))), X3.u (X3.2.1.uW ⟨hw.lA, hw.lB, hw.lS, hW⟩ _ _) (fun _ => rfl) (fun f => gi_si_a (by omega)) ((ai_wi_a (by omega)).trans (ai_wi_a (by omega))), ?_, ((y2.tr (by rw [hM1]; exact fm_w)).tr Y2).tr ((by rw [hM2]; exact fm_w : FMo c Sm2 M2).tr fm_w), r2.u _ _, hw.uW h0 hW (by omega) (by omega), ?_, ?_, by omega⟩
      · simp only [f_X4_readWalker, f_X4_readWalker_J24, f_X4_readWalker_J56, g1, bds, x0, if_neg o10, x1, if_neg (nIm1 (show v < 2 ^ 31 by omega)), X0, e129, X1, if_neg (nIm1 (show w < 2 ^ 31 by omega)), X3.2.1.g145, obs, X3.2.1.n11, e134, nI_clamp (show cW R < 2 ^ 31 by omega), ifn (rinc (show cW R < 4 by omega) (show 4 < 2 ^ 31 by omega)), lts, g11, X3.2.1.n12, i34', i34, a12, nI_1]
      · simp only [mWlk, hm.2.2.1, obs, hm.2.2.2.1, mg5, m5, ixW, lts, y1, bds, nI_clamp (show 94 + 2 * cW R < 2 ^ 31 by omega), ifn (rinc (show 94 + 2 * cW R < 109 by omega) (show 109 < 2 ^ 31 by omega))]
        rw [← hM1]
        simp only [r1.2.2.1, obs, hm.2.2.2.1, mg0, m0, Y1, bds, nI_1, e95, nI_clamp (show 95 + 2 * cW R < 2 ^ 31 by omega), ifn (rinc (show 95 + 2 * cW R < 109 by omega) (show 109 < 2 ^ 31 by omega)), lts]
        rw [← hM2]
        simp only [r2.2.2.1, obs, hm.2.2.2.1, mg5, t5, m52, nI_1, lts]
        rw [if_neg (by decide), if_neg (by decide)]
      · show 0 < cP (upd (upd (upd R (94 + 2 * cW R) (nI v)) (95 + 2 * cW R) (nI w)) 5 (nI (cW R + 1)))
        rw [show cP (upd (upd (upd R (94 + 2 * cW R) (nI v)) (95 + 2 * cW R) (nI w)) 5 (nI (cW R + 1))) = cP R from cE ((pk_un (by omega)).trans ((pk_un (by omega)).trans (pk_un (by omega))))]; exact h0
      · exact (pk_un (by omega)).trans ((pk_un (by omega)).trans (pk_un (by omega)))
    · have Y1 : f_X9_told E n M1 (c + 129) 16 0 (nI (cP R) - 1) = some (0, Sm2) := Y1
      obtain ⟨M2, hM2⟩ : ∃ M2, M2 = wi Sm2 (c + 135) (upd (ai Sm2 (c + 135)) (95 + 2 * cW R) 0) := ⟨_, rfl⟩
      have r2 : BAD E c k p M2 := by rw [hM2]; exact Y3.w
      refine Or.inr ⟨k, p, Sc5, wi M2 (c + 135) (upd (ai M2 (c + 135)) 5 (ai M2 (c + 135) 5 + 1)), ?_, (g2.tr x2).tr X2, X3, ?_, ((y2.tr (by rw [hM1]; exact fm_w)).tr Y2).tr ((by rw [hM2]; exact fm_w : FMo c Sm2 M2).tr fm_w), r2.w⟩
      · rcases X1 with X1 | ⟨X0, Xr, X1⟩
        · simp only [f_X4_readWalker, f_X4_readWalker_J24, f_X4_readWalker_J56, g1, bds, x0, if_neg o10, x1, if_neg (nIm1 (show v < 2 ^ 31 by omega)), X1, if_true]
        · have X1 : f_X4_takeNumber E n Sc4 (c + 2) 0 (nI (cP R) - 1) = some (-1, Sc5) := X1
          have e129 : gi Sc4 129 a = nI (cP R) := Xr.i129.trans hw.s0
          simp only [f_X4_readWalker, f_X4_readWalker_J24, f_X4_readWalker_J56, g1, bds, x0, if_neg o10, x1, if_neg (nIm1 (show v < 2 ^ 31 by omega)), X0, e129, X1, if_true]
      · simp only [mWlk, hm.2.2.1, obs, hm.2.2.2.1, mg5, m5, ixW, lts, y1, bds, nI_clamp (show 94 + 2 * cW R < 2 ^ 31 by omega), ifn (rinc (show 94 + 2 * cW R < 109 by omega) (show 109 < 2 ^ 31 by omega))]
        rw [← hM1]
        simp only [r1.2.2.1, obs, hm.2.2.2.1, mg0, m0, Y1, bds, nI_1, e95, nI_clamp (show 95 + 2 * cW R < 2 ^ 31 by omega), ifn (rinc (show 95 + 2 * cW R < 109 by omega) (show 109 < 2 ^ 31 by omega)), lts]
        rw [← hM2]
        simp only [r2.fm.1, obs, hm.2.2.2.1, mg5, t5, lts]
        rw [if_neg (by decide), if_neg (by decide)]
  · have y1 : f_X9_told E n Sm (c + 129) 15 0 99 = some (0, Sm1) := y1
    obtain ⟨M1, hM1⟩ : ∃ M1, M1 = wi Sm1 (c + 135) (upd (ai Sm1 (c + 135)) (94 + 2 * cW R) 0) := ⟨_, rfl⟩
    have r1 : BAD E c k p M1 := by rw [hM1]; exact y3.w
    obtain ⟨M2, hM2⟩ : ∃ M2, M2 = wi M1 (c + 135) (upd (ai M1 (c + 135)) (95 + 2 * cW R) 0) := ⟨_, rfl⟩
    have r2 : BAD E c k p M2 := by rw [hM2]; exact r1.w
    refine Or.inr ⟨k, p, Sc3, wi M2 (c + 135) (upd (ai M2 (c + 135)) 5 (ai M2 (c + 135) 5 + 1)), ?_, g2.tr x2, x3, ?_, (y2.tr (by rw [hM1]; exact fm_w)).tr ((by rw [hM2]; exact fm_w : FMo c M1 M2).tr fm_w), r2.w⟩
    · rcases x1 with x1 | ⟨x0, -, x1⟩
      · simp only [f_X4_readWalker, f_X4_readWalker_J24, g1, bds, x1, if_true]
      · have x1 : f_X4_takeNumber E n Sc2 (c + 2) 0 99 = some (-1, Sc3) := x1
        simp only [f_X4_readWalker, f_X4_readWalker_J24, g1, bds, x0, if_neg o10, x1, if_true]
    · simp only [mWlk, hm.2.2.1, obs, hm.2.2.2.1, mg5, m5, ixW, lts, y1, bds, nI_clamp (show 94 + 2 * cW R < 2 ^ 31 by omega), ifn (rinc (show 94 + 2 * cW R < 109 by omega) (show 109 < 2 ^ 31 by omega))]
      rw [← hM1]
      simp only [r1.fm.1, obs, hm.2.2.2.1, mg0, bad_told r1 (show 2 ≤ n by omega), bds, nI_1, e95, nI_clamp (show 95 + 2 * cW R < 2 ^ 31 by omega), ifn (rinc (show 95 + 2 * cW R < 109 by omega) (show 109 < 2 ^ 31 by omega)), lts]
      rw [← hM2]
      simp only [r2.fm.1, obs, hm.2.2.2.1, mg5, t5, lts]
      rw [if_neg (by decide), if_neg (by decide)]
theorem ln_brd (hs : RC E c a b L q R Sc) (hm : RM E c b L (bhd b L q) R Sm) (ha : a = c + 4 ∨ a = c + 17) (hn : 1500 ≤ n) (hw : WF R) (h0 : 0 < cP R) (hB : cB R < 4) : OUT E c a b L q R Sc Sm (f_X4_readBride E n Sc (c + 2) a) (f_X9_readBride E n Sm (c + 129)) := by
  have hA := hw.lA
  have hY := hw.lY
  have hb := bhd_le (b := b) hs.2.2
  have hk := skp_le (b := b) hs.2.2
  have e66 : 65 + 2 * cB R + 1 = 66 + 2 * cB R := by omega
  obtain ⟨Sc1, g1, g2, g3⟩ := e_X4_go (n := n) hs ha hn
  have m3 : ai Sm (c + 135) (Int32.toNatClampNeg 3) = nI (cB R) := (hm.2.2.2.2.1 3 (by decide)).trans hw.s3
  have m2 : ai Sm (c + 135) (Int32.toNatClampNeg 2) = nI (cA R) := (hm.2.2.2.2.1 2 (by decide)).trans hw.s2
  rcases tld2 (n := n) (w := 4) (lo := 0) (h1 := cA R) (hi := nI (cA R) - 1) g3 hm ha hn (by decide) (by omega) (by omega) rfl with ⟨v, q1, Sc2, Sc3, Sm1, v1, v2, v3, x0, xr, x1, x2, x3, y1, y2, y3⟩ | ⟨k, p, Sc2, Sc3, Sm1, x1, x2, x3, y1, y2, y3⟩
  · have x1 : f_X4_takeNumber E n Sc2 (c + 2) 0 (nI (cA R) - 1) = some (nI v, Sc3) := x1
    have y1 : f_X9_told E n Sm (c + 129) 4 0 (nI (cA R) - 1) = some (nI v, Sm1) := y1
    have e131 : gi Sc2 131 a = nI (cA R) := xr.i131.trans hw.s2
    obtain ⟨M1, hM1⟩ : ∃ M1, M1 = wi Sm1 (c + 135) (upd (ai Sm1 (c + 135)) (65 + 2 * cB R) (nI v)) := ⟨_, rfl⟩
    have r1 : RM E c b L q1 (upd R (65 + 2 * cB R) (nI v)) M1 := by rw [hM1]; exact y3.u _ _
    have m1 : ai M1 (c + 135) (Int32.toNatClampNeg 1) = nI (cY R) := (r1.2.2.2.2.1 1 (by decide)).trans ((pk_un (by omega)).trans hw.s1)
    rcases tld2 (n := n) (w := 7) (lo := 0) (h1 := cY R) (hi := nI (cY R) - 1) x3 r1 ha hn (by decide) (by omega) (by omega) rfl with ⟨w, q2, Sc4, Sc5, Sm2, w1, w2, w3, X0, Xr, X1, X2, X3, Y1, Y2, Y3⟩ | ⟨k, p, Sc4, Sc5, Sm2, X1, X2, X3, Y1, Y2, Y3⟩
    · have X1 : f_X4_takeNumber E n Sc4 (c + 2) 0 (nI (cY R) - 1) = some (nI w, Sc5) := X1
      have Y1 : f_X9_told E n M1 (c + 129) 7 0 (nI (cY R) - 1) = some (nI w, Sm2) := Y1
      have e130 : gi Sc4 130 a = nI (cY R) := Xr.i130.trans hw.s1
      have e132 : gi Sc5 132 a = nI (cB R) := X3.2.1.i132.trans hw.s3
      obtain ⟨M2, hM2⟩ : ∃ M2, M2 = wi Sm2 (c + 135) (upd (ai Sm2 (c + 135)) (66 + 2 * cB R) (nI w)) := ⟨_, rfl⟩
      have r2 : RM E c b L q2 (upd (upd R (65 + 2 * cB R) (nI v)) (66 + 2 * cB R) (nI w)) M2 := by rw [hM2]; exact Y3.u _ _
      have m32 : ai M2 (c + 135) 3 = nI (cB R) := (r2.2.2.2.2.1 3 (by decide)).trans ((pk_un (by omega)).trans ((pk_un (by omega)).trans hw.s3))
      have g11 : ∀ g, gr (wi Sc5 (a + 4) g) 139 a = some (a + 5) := fun g => X3.2.1.g139
      have i34 : ∀ g g2, gi (wi (wi Sc5 (a + 4) g) (a + 5) g2) 132 a = nI (cB R) := fun g g2 => e132
      have i34' : ∀ g, gi (wi Sc5 (a + 4) g) 132 a = nI (cB R) := fun g => e132
      have a12 : ∀ g, ai (wi Sc5 (a + 4) g) (a + 5) = ai Sc5 (a + 5) := fun g => ai_wi_a (by omega)
      refine Or.inl ⟨q2, upd (upd (upd R (65 + 2 * cB R) (nI v)) (66 + 2 * cB R) (nI w)) 3 (nI (cB R + 1)), si (wi (wi Sc5 (a + 4) (upd (ai Sc5 (a + 4)) (cB R) (nI v))) (a + 5) (upd (ai Sc5 (a + 5)) (cB R) (nI w))) 132 a (nI (cB R + 1)), wi M2 (c + 135) (upd (ai M2 (c + 135)) 3 (nI (cB R + 1))), ?_, ((g2.tr x2).tr X2).tr (((fc_w (by omega)).tr (fc_w (by omega))).tr (fc_a (by omega))), X3.u (X3.2.1.uB ⟨hw.lA, hB, hw.lS, hw.lW⟩ _ _) (fun _ => rfl) (fun f => gi_si_a (by omega)) ((ai_wi_a (by omega)).trans (ai_wi_a (by omega))), ?_, ((y2.tr (by rw [hM1]; exact fm_w)).tr Y2).tr ((by rw [hM2]; exact fm_w : FMo c Sm2 M2).tr fm_w), r2.u _ _, hw.uB h0 hB (by omega) (by omega), ?_, ?_, by omega⟩
      · simp only [f_X4_readBride, f_X4_readBride_J28, f_X4_readBride_J60, g1, bds, x0, if_neg o10, e131, x1, if_neg (nIm1 (show v < 2 ^ 31 by omega)), X0, e130, X1, if_neg (nIm1 (show w < 2 ^ 31 by omega)), X3.2.1.g138, obs, X3.2.1.n4, e132, nI_clamp (show cB R < 2 ^ 31 by omega), ifn (rinc (show cB R < 4 by omega) (show 4 < 2 ^ 31 by omega)), lts, g11, X3.2.1.n5, i34', i34, a12, nI_1]
      · simp only [f_X9_readBride, hm.2.2.1, obs, hm.2.2.2.1, mg3, mg2, m3, m2, ixB, lts, y1, bds, nI_clamp (show 65 + 2 * cB R < 2 ^ 31 by omega), ifn (rinc (show 65 + 2 * cB R < 109 by omega) (show 109 < 2 ^ 31 by omega))]
        rw [← hM1]
        simp only [r1.2.2.1, obs, hm.2.2.2.1, mg1, m1, Y1, bds, nI_1, e66, nI_clamp (show 66 + 2 * cB R < 2 ^ 31 by omega), ifn (rinc (show 66 + 2 * cB R < 109 by omega) (show 109 < 2 ^ 31 by omega)), lts]
        rw [← hM2]
        simp only [r2.2.2.1, obs, hm.2.2.2.1, mg3, t3n, m32, nI_1, lts]
        rw [if_neg (by decide), if_neg (by decide)]
      · show 0 < cP (upd (upd (upd R (65 + 2 * cB R) (nI v)) (66 + 2 * cB R) (nI w)) 3 (nI (cB R + 1)))
        rw [show cP (upd (upd (upd R (65 + 2 * cB R) (nI v)) (66 + 2 * cB R) (nI w)) 3 (nI (cB R + 1))) = cP R from cE ((pk_un (by omega)).trans ((pk_un (by omega)).trans (pk_un (by omega))))]; exact h0
      · exact (pk_un (by omega)).trans ((pk_un (by omega)).trans (pk_un (by omega)))
    · have Y1 : f_X9_told E n M1 (c + 129) 7 0 (nI (cY R) - 1) = some (0, Sm2) := Y1
      obtain ⟨M2, hM2⟩ : ∃ M2, M2 = wi Sm2 (c + 135) (upd (ai Sm2 (c + 135)) (66 + 2 * cB R) 0) := ⟨_, rfl⟩
      have r2 : BAD E c k p M2 := by rw [hM2]; exact Y3.w
      refine Or.inr ⟨k, p, Sc5, wi M2 (c + 135) (upd (ai M2 (c + 135)) 3 (ai M2 (c + 135) 3 + 1)), ?_, (g2.tr x2).tr X2, X3, ?_, ((y2.tr (by rw [hM1]; exact fm_w)).tr Y2).tr ((by rw [hM2]; exact fm_w : FMo c Sm2 M2).tr fm_w), r2.w⟩
      · rcases X1 with X1 | ⟨X0, Xr, X1⟩
        · simp only [f_X4_readBride, f_X4_readBride_J28, f_X4_readBride_J60, g1, bds, x0, if_neg o10, e131, x1, if_neg (nIm1 (show v < 2 ^ 31 by omega)), X1, if_true]
        · have X1 : f_X4_takeNumber E n Sc4 (c + 2) 0 (nI (cY R) - 1) = some (-1, Sc5) := X1
          have e130 : gi Sc4 130 a = nI (cY R) := Xr.i130.trans hw.s1
          simp only [f_X4_readBride, f_X4_readBride_J28, f_X4_readBride_J60, g1, bds, x0, if_neg o10, e131, x1, if_neg (nIm1 (show v < 2 ^ 31 by omega)), X0, e130, X1, if_true]
      · simp only [f_X9_readBride, hm.2.2.1, obs, hm.2.2.2.1, mg3, mg2, m3, m2, ixB, lts, y1, bds, nI_clamp (show 65 + 2 * cB R < 2 ^ 31 by omega), ifn (rinc (show 65 + 2 * cB R < 109 by omega) (show 109 < 2 ^ 31 by omega))]
        rw [← hM1]
        simp only [r1.2.2.1, obs, hm.2.2.2.1, mg1, m1, Y1, bds, nI_1, e66, nI_clamp (show 66 + 2 * cB R < 2 ^ 31 by omega), ifn (rinc (show 66 + 2 * cB R < 109 by omega) (show 109 < 2 ^ 31 by omega)), lts]
        rw [← hM2]
        simp only [r2.fm.1, obs, hm.2.2.2.1, mg3, t3n, lts]
        rw [if_neg (by decide), if_neg (by decide)]
  · have y1 : f_X9_told E n Sm (c + 129) 4 0 (nI (cA R) - 1) = some (0, Sm1) := y1
    obtain ⟨M1, hM1⟩ : ∃ M1, M1 = wi Sm1 (c + 135) (upd (ai Sm1 (c + 135)) (65 + 2 * cB R) 0) := ⟨_, rfl⟩
    have r1 : BAD E c k p M1 := by rw [hM1]; exact y3.w
    obtain ⟨M2, hM2⟩ : ∃ M2, M2 = wi M1 (c + 135) (upd (ai M1 (c + 135)) (66 + 2 * cB R) 0) := ⟨_, rfl⟩
    have r2 : BAD E c k p M2 := by rw [hM2]; exact r1.w
    refine Or.inr ⟨k, p, Sc3, wi M2 (c + 135) (upd (ai M2 (c + 135)) 3 (ai M2 (c + 135) 3 + 1)), ?_, g2.tr x2, x3, ?_, (y2.tr (by rw [hM1]; exact fm_w)).tr ((by rw [hM2]; exact fm_w : FMo c M1 M2).tr fm_w), r2.w⟩
    · rcases x1 with x1 | ⟨x0, xr, x1⟩
      · simp only [f_X4_readBride, f_X4_readBride_J28, g1, bds, x1, if_true]
      · have x1 : f_X4_takeNumber E n Sc2 (c + 2) 0 (nI (cA R) - 1) = some (-1, Sc3) := x1
        have e131 : gi Sc2 131 a = nI (cA R) := xr.i131.trans hw.s2
        simp only [f_X4_readBride, f_X4_readBride_J28, g1, bds, x0, if_neg o10, e131, x1, if_true]
    · simp only [f_X9_readBride, hm.2.2.1, obs, hm.2.2.2.1, mg3, mg2, m3, m2, ixB, lts, y1, bds, nI_clamp (show 65 + 2 * cB R < 2 ^ 31 by omega), ifn (rinc (show 65 + 2 * cB R < 109 by omega) (show 109 < 2 ^ 31 by omega))]
      rw [← hM1]
      simp only [r1.fm.1, obs, hm.2.2.2.1, mg1, bad_told r1 (show 2 ≤ n by omega), bds, nI_1, e66, nI_clamp (show 66 + 2 * cB R < 2 ^ 31 by omega), ifn (rinc (show 66 + 2 * cB R < 109 by omega) (show 109 < 2 ^ 31 by omega)), lts]
      rw [← hM2]
      simp only [r2.fm.1, obs, hm.2.2.2.1, mg3, t3n, lts]
      rw [if_neg (by decide), if_neg (by decide)]
end LNW
